/-! FORM 2: the reference's states -/
abbrev xR8 : Type := Int32 × Int32 × Int32 × Int32 × Int32 × Int32 × Int32 × Int32
/-- all that stands at one place of the states' arrays -/
def RB (I : Nat → Nat → Int32) (b : Nat) : xR8 := (I 94 b, I 95 (4 * b), I 95 (4 * b + 1), I 95 (4 * b + 2), I 95 (4 * b + 3), I 96 b, I 97 b, I 98 b)
def enc (j : Nat) (e : xEn) : xR8 := (nI (e.1 / 2 ^ 36), nI (el e.1 0), nI (el e.1 1), nI (el e.1 2), nI (el e.1 3), nI (j - e.2.2.1), nI e.2.2.2, nI e.2.1)
theorem RB.ag {I I1 : Nat → Nat → Int32} {S : List Nat} {b : Nat} (ha : xag I I1 S) (h1 : 94 ∉ S ∧ 95 ∉ S ∧ 96 ∉ S ∧ 97 ∉ S ∧ 98 ∉ S) : RB I1 b = RB I b := by
  unfold RB
  rw [ha 94 h1.1, ha 95 h1.2.1, ha 96 h1.2.2.1, ha 97 h1.2.2.2.1, ha 98 h1.2.2.2.2]
theorem RB_sum {I : Nat → Nat → Int32} {b j : Nat} {e : xEn} (h : RB I b = enc j e) : I 94 b = nI (e.1 / 2 ^ 36) := congrArg (fun q : xR8 => q.1) h
theorem RB_from {I : Nat → Nat → Int32} {b j : Nat} {e : xEn} (h : RB I b = enc j e) : I 96 b = nI (j - e.2.2.1) ∧ I 97 b = nI e.2.2.2 ∧ I 98 b = nI e.2.1 := ⟨congrArg (fun q : xR8 => q.2.2.2.2.2.1) h, congrArg (fun q : xR8 => q.2.2.2.2.2.2.1) h, congrArg (fun q : xR8 => q.2.2.2.2.2.2.2) h⟩
theorem RB_el {I : Nat → Nat → Int32} {b j : Nat} {e : xEn} (h : RB I b = enc j e) {q : Nat} (hq : q < 4) : I 95 (4 * b + q) = nI (el e.1 q) := by
  rcases (by omega : q = 0 ∨ q = 1 ∨ q = 2 ∨ q = 3) with rfl | rfl | rfl | rfl
  · exact congrArg (fun q : xR8 => q.2.1) h
  · exact congrArg (fun q : xR8 => q.2.2.1) h
  · exact congrArg (fun q : xR8 => q.2.2.2.1) h
  · exact congrArg (fun q : xR8 => q.2.2.2.2.1) h
theorem RB_mk {I : Nat → Nat → Int32} {b : Nat} {r : xR8} (h1 : I 94 b = r.1) (h2 : ∀ q, q < 4 → I 95 (4 * b + q) = (if q = 0 then r.2.1 else if q = 1 then r.2.2.1 else if q = 2 then r.2.2.2.1 else r.2.2.2.2.1)) (h3 : I 96 b = r.2.2.2.2.2.1) (h4 : I 97 b = r.2.2.2.2.2.2.1) (h5 : I 98 b = r.2.2.2.2.2.2.2) : RB I b = r := by
  unfold RB
  have e0 := h2 0 (by decide)
  have e1 := h2 1 (by decide)
  have e2 := h2 2 (by decide)
  have e3 := h2 3 (by decide)
  rw [h1, h3, h4, h5, show 4 * b = 4 * b + 0 by rfl, e0, show 4 * b + 0 + 1 = 4 * b + 1 by rfl, e1, show 4 * b + 0 + 2 = 4 * b + 2 by rfl, e2, show 4 * b + 0 + 3 = 4 * b + 3 by rfl, e3]
  rfl
theorem lat_iff {k : Nat} {la : Nat → Nat} (h : LB la) : lat k = lp la ↔ ∀ q, q < 4 → el k q = la q := by
  constructor
  · intro e q hq
    unfold el
    rw [e, lp_at h hq]
  · intro hh
    rw [← lp_el, lp_cg hh]
section WDM
variable {d L c s n : Nat} {t : Nat → Nat} {V : Nat → Nat → Nat} {Q : Option Value × xS → Prop} {P : List Nat × Nat × Nat} {I : Nat → Nat → Int32} {J : Nat → Nat → Int64} {la : Nat → Nat}
theorem xan0 {b : Nat} (hb : b < 2) : nI b &&& nI 0 = nI 0 := by
  rcases (by omega : b = 0 ∨ b = 1) with rfl | rfl <;> rfl
theorem xan1 {b : Nat} (hb : b < 2) : nI b &&& nI 1 = nI b := by
  rcases (by omega : b = 0 ∨ b = 1) with rfl | rfl <;> rfl
theorem p_isStateM (hL : L < 2147483648) (hM : ML I la) (hB : LB la) {b j : Nat} {e : xEn} (hb : b < 12040) (hR : RB I b = enc j e) (k : Q (some (.int (nI (if lat e.1 = lp la then 1 else 0))), (xK 2 L, P, I, J, xFr 2 c s))) : Wp d 134 0 [some (.ref 59), some (.int (nI b)), none, none] [] (xK 2 L, P, I, J, xFr 2 c s) Q := by
  have hf : 2 < 3 := by decide
  have hel : ∀ q, el e.1 q < 512 := fun q => Nat.mod_lt _ (by decide)
  have loop : ∀ w q x, 4 - q = w → q ≤ 4 → x < 2 → (x = 1 ↔ ∀ q', q' < q → el e.1 q' = la q') → Wp d 134 4 [some (.ref 59), some (.int (nI b)), some (.int (nI x)), some (.int (nI q))] [] (xK 2 L, P, I, J, xFr 2 c s) Q := by
    intro w
    induction w with
    | zero =>
      intro q x hw hq hx h1
      have e4 : q = 4 := by omega
      subst e4
      have hx2 : x = if lat e.1 = lp la then 1 else 0 := by
        rw [← lat_iff hB] at h1
        by_cases e5 : lat e.1 = lp la
        · rw [if_pos e5]
          exact h1.mpr e5
        · rw [if_neg e5]
          have : x ≠ 1 := fun z => e5 (h1.mp z)
          omega
      refine wX11_isState_4 (xK_lt hf hL) rfl rfl rfl rfl rfl (br1 (by first | (rw [nI_ltI (by omega) (by omega)]; omega) | (rw [nI_leI (by omega) (by omega)]; omega) | (rw [nI_eq (by omega) (by omega)]; omega) | (rw [nI_e0 (by omega)]; omega) | (rw [nI_le0 (by omega)]; omega)) ⟨?_, ?_⟩)
      · rcases (by omega : x = 0 ∨ x = 1) with rfl | rfl
        · exact Or.inl rfl
        · exact Or.inr rfl
      · rw [hx2]
        exact k
    | succ w ih =>
      intro q x hw hq hx h1
      have hl := hB q (by omega)
      have he := hel q
      refine wX11_isState_4 (xK_lt hf hL) rfl rfl rfl rfl rfl (br2 (by first | (rw [nI_ltI (by omega) (by omega)]; omega) | (rw [nI_leI (by omega) (by omega)]; omega) | (rw [nI_eq (by omega) (by omega)]; omega) | (rw [nI_e0 (by omega)]; omega) | (rw [nI_le0 (by omega)]; omega)) ⟨4 * b + q, by rw [pk_mul, nI_add], by omega, q, rfl, by omega, ?_⟩)
      rw [RB_el hR (by omega), hM q (by omega)]
      refine brd (nI_eq (by omega) (by omega)) (fun h => ?_) (fun h => ?_)
      · rw [xan0 hx, nI_add]
        refine ih (q + 1) 0 (by omega) (by omega) (by omega) ⟨fun z => by omega, fun z => absurd (z q (by omega)) h⟩
      · rw [xan1 hx, nI_add]
        refine ih (q + 1) x (by omega) (by omega) hx ⟨fun z q' hq' => ?_, fun z => h1.mpr (fun q' hq' => z q' (by omega))⟩
        by_cases e5 : q' = q
        · rw [e5]; exact h
        · exact h1.mp z q' (by omega)
  exact wX11_isState_0  (loop 4 0 1 rfl (by omega) (by omega) ⟨fun _ q' hq' => by omega, fun _ => rfl⟩)
theorem p_isBehindM (hL : L < 2147483648) (hM : ML I la) (hB : LB la) {b j its : Nat} {e : xEn} (hb : b < 12040) (hR : RB I b = enc j e) (hs : e.1 / 2 ^ 36 < 2 ^ 24) (hi : its < 2 ^ 24) (k : Q (some (.int (nI (if ky its la < e.1 then 1 else 0))), (xK 2 L, P, I, J, xFr 2 c s))) : Wp d 135 0 [some (.ref 59), some (.int (nI b)), some (.int (nI its)), none] [] (xK 2 L, P, I, J, xFr 2 c s) Q := by
  have hf : 2 < 3 := by decide
  have hel : ∀ q, el e.1 q < 512 := fun q => Nat.mod_lt _ (by decide)
  have hlp := lp_lt hB
  have hlpe : lp (el e.1) < 2 ^ 36 := by rw [lp_el]; exact Nat.mod_lt _ (by decide)
  have he : e.1 = e.1 / 2 ^ 36 * 2 ^ 36 + lp (el e.1) := ky_eta e.1
  have hky : ky its la < e.1 ↔ its < e.1 / 2 ^ 36 ∨ (its = e.1 / 2 ^ 36 ∧ lp la < lp (el e.1)) := by
    unfold ky
    omega
  have loop : ∀ w q, 4 - q = w → q ≤ 4 → e.1 / 2 ^ 36 = its → (∀ q', q' < q → el e.1 q' = la q') → Wp d 135 28 [some (.ref 59), some (.int (nI b)), none, some (.int (nI q))] [] (xK 2 L, P, I, J, xFr 2 c s) Q := by
    intro w
    induction w with
    | zero =>
      intro q hw hq hse h1
      have e4 : q = 4 := by omega
      subst e4
      refine wX11_isBehind_28 (xK_lt hf hL) rfl rfl rfl rfl rfl (br1 (by first | (rw [nI_ltI (by omega) (by omega)]; omega) | (rw [nI_leI (by omega) (by omega)]; omega) | (rw [nI_eq (by omega) (by omega)]; omega) | (rw [nI_e0 (by omega)]; omega) | (rw [nI_le0 (by omega)]; omega)) ?_)
      have : lp (el e.1) = lp la := lp_cg h1
      rw [if_neg (by rw [hky]; omega)] at k
      exact k
    | succ w ih =>
      intro q hw hq hse h1
      have hl := hB q (by omega)
      have h0 := hel q
      have hcmp : el e.1 q ≠ la q → (lp la < lp (el e.1) ↔ la q < el e.1 q) := by
        intro hne
        have b0 := hB 0 (by decide)
        have b1 := hB 1 (by decide)
        have b2 := hB 2 (by decide)
        have b3 := hB 3 (by decide)
        have d0 := hel 0
        have d1 := hel 1
        have d2 := hel 2
        have d3 := hel 3
        unfold lp
        rcases (by omega : q = 0 ∨ q = 1 ∨ q = 2 ∨ q = 3) with rfl | rfl | rfl | rfl
        · omega
        · have := h1 0 (by decide)
          omega
        · have := h1 0 (by decide)
          have := h1 1 (by decide)
          omega
        · have := h1 0 (by decide)
          have := h1 1 (by decide)
          have := h1 2 (by decide)
          omega
      refine wX11_isBehind_28 (xK_lt hf hL) rfl rfl rfl rfl rfl (br2 (by first | (rw [nI_ltI (by omega) (by omega)]; omega) | (rw [nI_leI (by omega) (by omega)]; omega) | (rw [nI_eq (by omega) (by omega)]; omega) | (rw [nI_e0 (by omega)]; omega) | (rw [nI_le0 (by omega)]; omega)) ⟨4 * b + q, by rw [pk_mul, nI_add], by omega, q, rfl, by omega, ?_⟩)
      rw [RB_el hR (by omega), hM q (by omega)]
      refine brc (nI_eq (by omega) (by omega)) (fun h => ?_) (fun h => ⟨4 * b + q, by rw [pk_mul, nI_add], by omega, q, rfl, by omega, ?_⟩)
      · rw [nI_add]
        refine ih (q + 1) (by omega) (by omega) hse (fun q' hq' => ?_)
        by_cases e5 : q' = q
        · rw [e5]; exact h
        · exact h1 q' (by omega)
      · rw [RB_el hR (by omega), hM q (by omega)]
        have hc := hcmp h
        refine brc (nI_leI (by omega) (by omega)) (fun h2 => ?_) (fun h2 => ?_)
        · rw [if_neg (by rw [hky]; omega)] at k
          exact k
        · rw [if_pos (by rw [hky]; omega)] at k
          exact k
  refine wX11_isBehind_0 (xK_lt hf hL) rfl rfl rfl ⟨b, rfl, by omega, ?_⟩
  rw [RB_sum hR]
  refine brc (nI_eq (by omega) (by omega)) (fun h => loop 4 0 rfl (by omega) h (fun q' hq' => by omega)) (fun h => ⟨b, rfl, by omega, ?_⟩)
  rw [RB_sum hR]
  refine brc (nI_leI (by omega) (by omega)) (fun h2 => ?_) (fun h2 => ?_)
  · rw [if_neg (by rw [hky]; omega)] at k
    exact k
  · rw [if_pos (by rw [hky]; omega)] at k
    exact k
theorem p_moveStateM (hL : L < 2147483648) {u v : Nat} (hu : u < 12040) (hv : v < 12040) (huv : u ≠ v) (k : ∀ I', xag I I' [94, 95, 96, 97, 98] → RB I' v = RB I u → (∀ b, b ≠ v → RB I' b = RB I b) → Q (none, (xK 2 L, P, I', J, xFr 2 c s))) : Wp d 136 0 [some (.ref 59), some (.int (nI u)), some (.int (nI v)), none] [] (xK 2 L, P, I, J, xFr 2 c s) Q := by
  have hf : 2 < 3 := by decide
  have loop : ∀ w q I1, 4 - q = w → q ≤ 4 → xag I I1 [94, 95, 96, 97, 98] → (∀ b, I1 94 b = if b = v then I 94 u else I 94 b) → (∀ b, I1 96 b = if b = v then I 96 u else I 96 b) → (∀ b, I1 97 b = if b = v then I 97 u else I 97 b) → (∀ b, I1 98 b = if b = v then I 98 u else I 98 b) → (∀ x, I1 95 x = if 4 * v ≤ x ∧ x < 4 * v + q then I 95 (4 * u + (x - 4 * v)) else I 95 x) → Wp d 136 50 [some (.ref 59), some (.int (nI u)), some (.int (nI v)), some (.int (nI q))] [] (xK 2 L, P, I1, J, xFr 2 c s) Q := by
    intro w
    induction w with
    | zero =>
      intro q I1 hw hq ha h4 h6 h7 h8 h5
      have e4 : q = 4 := by omega
      subst e4
      refine wX11_moveState_50 (xK_lt hf hL) rfl rfl rfl (br1 (by first | (rw [nI_ltI (by omega) (by omega)]; omega) | (rw [nI_leI (by omega) (by omega)]; omega) | (rw [nI_eq (by omega) (by omega)]; omega) | (rw [nI_e0 (by omega)]; omega) | (rw [nI_le0 (by omega)]; omega)) (k I1 ha ?_ (fun b hb => ?_)))
      · unfold RB
        rw [h4, h6, h7, h8, h5, h5, h5, h5, if_pos rfl, if_pos rfl, if_pos rfl, if_pos rfl, if_pos (by omega), if_pos (by omega), if_pos (by omega), if_pos (by omega)]
        simp only [Nat.sub_self, Nat.add_sub_cancel_left, Nat.add_zero]
      · unfold RB
        rw [h4, h6, h7, h8, h5, h5, h5, h5, if_neg hb, if_neg hb, if_neg hb, if_neg hb, if_neg (by omega), if_neg (by omega), if_neg (by omega), if_neg (by omega)]
    | succ w ih =>
      intro q I1 hw hq ha h4 h6 h7 h8 h5
      refine wX11_moveState_50 (xK_lt hf hL) rfl rfl rfl (br2 (by first | (rw [nI_ltI (by omega) (by omega)]; omega) | (rw [nI_leI (by omega) (by omega)]; omega) | (rw [nI_eq (by omega) (by omega)]; omega) | (rw [nI_e0 (by omega)]; omega) | (rw [nI_le0 (by omega)]; omega)) ⟨4 * u + q, by rw [pk_mul, nI_add], by omega, 4 * v + q, by rw [pk_mul, nI_add], by omega, ?_⟩)
      rw [nI_add]
      refine ih (q + 1) _ (by omega) (by omega) (ha.up (by simp)) (fun b => by rw [xup_ne _ _ _ (by decide)]; exact h4 b) (fun b => by rw [xup_ne _ _ _ (by decide)]; exact h6 b) (fun b => by rw [xup_ne _ _ _ (by decide)]; exact h7 b) (fun b => by rw [xup_ne _ _ _ (by decide)]; exact h8 b) (fun x => ?_)
      rw [xup_at]
      by_cases e : x = 4 * v + q
      · rw [if_pos e, h5, if_neg (by omega), if_pos (by omega)]
        congr 1
        omega
      · rw [if_neg e, h5]
        by_cases e2 : 4 * v ≤ x ∧ x < 4 * v + q
        · rw [if_pos e2, if_pos (by omega)]
        · rw [if_neg e2, if_neg (by omega)]
  refine wX11_moveState_0 (xK_lt hf hL) rfl rfl rfl rfl rfl rfl rfl rfl rfl ⟨u, rfl, hu, v, rfl, hv, u, rfl, hu, v, rfl, hv, u, rfl, hu, v, rfl, hv, u, rfl, hu, v, rfl, hv, ?_⟩
  refine loop 4 0 _ rfl (by omega) ((((xag.rfl.up (by simp)).up (by simp)).up (by simp)).up (by simp)) (fun b => ?_) (fun b => ?_) (fun b => ?_) (fun b => ?_) (fun x => ?_)
  · rw [xup_ne _ _ _ (by decide), xup_ne _ _ _ (by decide), xup_ne _ _ _ (by decide), xup_at]
  · rw [xup_ne _ _ _ (by decide), xup_ne _ _ _ (by decide), xup_at, xup_ne _ _ _ (by decide)]
  · rw [xup_ne _ _ _ (by decide), xup_at, xup_ne _ _ _ (by decide), xup_ne _ _ _ (by decide)]
  · rw [xup_at, xup_ne _ _ _ (by decide), xup_ne _ _ _ (by decide), xup_ne _ _ _ (by decide)]
  · rw [xup_ne _ _ _ (by decide), xup_ne _ _ _ (by decide), xup_ne _ _ _ (by decide), xup_ne _ _ _ (by decide), if_neg (by omega)]
theorem p_takeLatestM (hL : L < 2147483648) {b j : Nat} {e : xEn} (hb : b < 12040) (hR : RB I b = enc j e) (k : ∀ I', xag I I' [81] → ML I' (el e.1) → Q (none, (xK 2 L, P, I', J, xFr 2 c s))) : Wp d 138 0 [some (.ref 59), some (.int (nI b)), none] [] (xK 2 L, P, I, J, xFr 2 c s) Q := by
  have hf : 2 < 3 := by decide
  have loop : ∀ w q I1, 4 - q = w → q ≤ 4 → xag I I1 [81] → (∀ q', q' < q → I1 81 q' = nI (el e.1 q')) → Wp d 138 2 [some (.ref 59), some (.int (nI b)), some (.int (nI q))] [] (xK 2 L, P, I1, J, xFr 2 c s) Q := by
    intro w
    induction w with
    | zero =>
      intro q I1 hw hq ha h1
      exact wX11_takeLatest_2 (xK_lt hf hL) rfl rfl rfl rfl rfl (br1 (by first | (rw [nI_ltI (by omega) (by omega)]; omega) | (rw [nI_leI (by omega) (by omega)]; omega) | (rw [nI_eq (by omega) (by omega)]; omega) | (rw [nI_e0 (by omega)]; omega) | (rw [nI_le0 (by omega)]; omega)) (k I1 ha (fun q' hq' => h1 q' (by omega))))
    | succ w ih =>
      intro q I1 hw hq ha h1
      refine wX11_takeLatest_2 (xK_lt hf hL) rfl rfl rfl rfl rfl (br2 (by first | (rw [nI_ltI (by omega) (by omega)]; omega) | (rw [nI_leI (by omega) (by omega)]; omega) | (rw [nI_eq (by omega) (by omega)]; omega) | (rw [nI_e0 (by omega)]; omega) | (rw [nI_le0 (by omega)]; omega)) ⟨4 * b + q, by rw [pk_mul, nI_add], by omega, q, rfl, by omega, ?_⟩)
      rw [nI_add, ha 95 (by decide), RB_el hR (by omega)]
      refine ih (q + 1) _ (by omega) (by omega) (ha.up (by simp)) (fun q' hq' => ?_)
      rw [xup_at]
      by_cases e : q' = q
      · rw [if_pos e, e]
      · rw [if_neg e]
        exact h1 q' (by omega)
  exact wX11_takeLatest_0  (loop 4 0 I rfl (by omega) xag.rfl (fun q' hq' => by omega))
/-- what a state that comes leaves alone: the other places -/
def FM (I I' : Nat → Nat → Int32) (to : Nat) : Prop := xag I I' [92, 93, 94, 95, 96, 97, 98] ∧ (∀ j, j ≠ to → I' 92 j = I 92 j ∧ I' 93 j = I 93 j) ∧ ∀ b, (b < 40 * to ∨ 40 * to + 40 ≤ b) → RB I' b = RB I b
theorem FM.rfl {to : Nat} : FM I I to := ⟨xag.rfl, fun _ _ => ⟨Eq.refl _, Eq.refl _⟩, fun _ _ => Eq.refl _⟩
theorem FM.mv {I I1 I2 : Nat → Nat → Int32} {to v : Nat} (h : FM I I1 to) (ha : xag I1 I2 [94, 95, 96, 97, 98]) (hb : ∀ b, b ≠ v → RB I2 b = RB I1 b) (hv : 40 * to ≤ v ∧ v < 40 * to + 40) : FM I I2 to :=
  ⟨h.1.tr ha (by simp), fun j hj => by rw [ha 92 (by decide), ha 93 (by decide)]; exact h.2.1 j hj, fun b hb2 => by rw [hb b (by omega)]; exact h.2.2 b hb2⟩
/-- the state is put in, from the end back -/
theorem p_insM (hL : L < 2147483648) {I0 : Nat → Nat → Int32} {to m1 its sp old len kd : Nat} {E1 : Nat → xEn} (hto : to ≤ 300) (hm : m1 < 40) (hB : LB la) (hits : its < 2 ^ 24) (hE : ∀ s, s < m1 → (E1 s).1 / 2 ^ 36 < 2 ^ 24) (hsp : sp ≤ m1) (hs1 : ∀ s, s < sp → (E1 s).1 ≤ ky its la) (hs2 : ∀ s, sp ≤ s → s < m1 → ky its la < (E1 s).1)
    (k : ∀ I', FM I0 I' to → I' 92 to = nI (m1 + 1) → I' 93 to = I 93 to → (∀ i, i < m1 + 1 → RB I' (40 * to + i) = enc to (sh E1 sp m1 (ky its la, old, len, kd) i)) → Q (none, (xK 2 L, P, I', J, xFr 2 c s)))
    (hI : FM I0 I to) (hM : ML I la) (h0 : ∀ i, i < m1 → RB I (40 * to + i) = enc to (E1 i)) : Wp (d + 1) 137 146 [some (.ref 59), some (.int (nI to)), some (.int (nI its)), some (.int (nI (to - len))), some (.int (nI old)), some (.int (nI kd)), some (.int (nI (40 * to))), some (.int (nI m1)), some (.int (nI m1)), none] [] (xK 2 L, P, I, J, xFr 2 c s) Q := by
  have hf : 2 < 3 := by decide
  have put : ∀ I1, FM I0 I1 to → ML I1 la → I1 93 to = I 93 to → (∀ i, i < sp → RB I1 (40 * to + i) = enc to (E1 i)) → (∀ i, sp < i → i < m1 + 1 → RB I1 (40 * to + i) = enc to (E1 (i - 1))) → Wp (d + 1) 137 188 [some (.ref 59), some (.int (nI to)), some (.int (nI its)), some (.int (nI (to - len))), some (.int (nI old)), some (.int (nI kd)), some (.int (nI (40 * to))), some (.int (nI m1)), some (.int (nI sp)), none] [] (xK 2 L, P, I1, J, xFr 2 c s) Q := by
    intro I1 f1 hM1 h93 g1 g2
    refine wX11_comes_188 (xK_lt hf hL) rfl rfl rfl rfl rfl rfl rfl rfl rfl ⟨40 * to + sp, nI_add _ _, by omega, 40 * to + sp, nI_add _ _, by omega, 40 * to + sp, nI_add _ _, by omega, 40 * to + sp, nI_add _ _, by omega, ?_⟩
    have fin : ∀ w q I2, 4 - q = w → q ≤ 4 → xag I1 I2 [94, 95, 96, 97, 98] → (∀ b, I2 94 b = if b = 40 * to + sp then nI its else I1 94 b) → (∀ b, I2 96 b = if b = 40 * to + sp then nI (to - len) else I1 96 b) → (∀ b, I2 97 b = if b = 40 * to + sp then nI kd else I1 97 b) → (∀ b, I2 98 b = if b = 40 * to + sp then nI old else I1 98 b) → (∀ x, I2 95 x = if 4 * (40 * to + sp) ≤ x ∧ x < 4 * (40 * to + sp) + q then nI (la (x - 4 * (40 * to + sp))) else I1 95 x) → Wp (d + 1) 137 237 [some (.ref 59), some (.int (nI to)), none, none, none, none, some (.int (nI (40 * to))), some (.int (nI m1)), some (.int (nI sp)), some (.int (nI q))] [] (xK 2 L, P, I2, J, xFr 2 c s) Q := by
      intro w
      induction w with
      | zero =>
        intro q I2 hw hq ha h4 h6 h7 h8 h5
        have e4 : q = 4 := by omega
        subst e4
        have hb : ∀ b, b ≠ 40 * to + sp → RB I2 b = RB I1 b := by
          intro b hb
          unfold RB
          rw [h4, h6, h7, h8, h5, h5, h5, h5, if_neg hb, if_neg hb, if_neg hb, if_neg hb, if_neg (by omega), if_neg (by omega), if_neg (by omega), if_neg (by omega)]
        have hv : RB I2 (40 * to + sp) = enc to (ky its la, old, len, kd) := by
          unfold RB enc
          rw [h4, h6, h7, h8, h5, h5, h5, h5, if_pos rfl, if_pos rfl, if_pos rfl, if_pos rfl, if_pos (by omega), if_pos (by omega), if_pos (by omega), if_pos (by omega)]
          show _ = (nI (ky its la / 2 ^ 36), nI (el (ky its la) 0), nI (el (ky its la) 1), nI (el (ky its la) 2), nI (el (ky its la) 3), nI (to - len), nI kd, nI old)
          rw [ky_sum hB, ky_el hB (by decide), ky_el hB (by decide), ky_el hB (by decide), ky_el hB (by decide)]
          simp only [Nat.sub_self, Nat.add_sub_cancel_left]
        have f2 := f1.mv ha hb (by omega)
        refine wX11_comes_237 (xK_lt hf hL) rfl rfl rfl rfl rfl rfl rfl (br1 (by first | (rw [nI_ltI (by omega) (by omega)]; omega) | (rw [nI_leI (by omega) (by omega)]; omega) | (rw [nI_eq (by omega) (by omega)]; omega) | (rw [nI_e0 (by omega)]; omega) | (rw [nI_le0 (by omega)]; omega)) ⟨to, rfl, by omega, ?_⟩)
        rw [nI_add]
        have hx : ∀ b, RB (xup I2 92 to (nI (m1 + 1))) b = RB I2 b := fun b => RB.ag (S := [92]) (xag.rfl.up (by simp)) (by decide)
        refine k _ ⟨f2.1.up (by simp), fun j hj => ?_, fun b hb2 => by rw [hx]; exact f2.2.2 b hb2⟩ (by rw [xup_at, if_pos rfl]) (by rw [xup_ne _ _ _ (by decide), ha 93 (by decide)]; exact h93) (fun i hi => ?_)
        · rw [xup_at, if_neg hj, xup_ne _ _ _ (by decide)]
          exact f2.2.1 j hj
        · rw [hx]
          unfold sh
          by_cases e1 : i = sp
          · rw [if_pos e1, e1]
            exact hv
          · rw [if_neg e1, hb _ (by omega)]
            by_cases e2 : sp < i ∧ i ≤ m1
            · rw [if_pos e2]
              exact g2 i e2.1 hi
            · rw [if_neg e2]
              exact g1 i (by omega)
      | succ w ih =>
        intro q I2 hw hq ha h4 h6 h7 h8 h5
        refine wX11_comes_237 (xK_lt hf hL) rfl rfl rfl rfl rfl rfl rfl (br2 (by first | (rw [nI_ltI (by omega) (by omega)]; omega) | (rw [nI_leI (by omega) (by omega)]; omega) | (rw [nI_eq (by omega) (by omega)]; omega) | (rw [nI_e0 (by omega)]; omega) | (rw [nI_le0 (by omega)]; omega)) ⟨q, rfl, by omega, 4 * (40 * to + sp) + q, by rw [nI_add, pk_mul, nI_add], by omega, ?_⟩)
        rw [nI_add, ha 81 (by decide), hM1 q (by omega)]
        refine ih (q + 1) _ (by omega) (by omega) (ha.up (by simp)) (fun b => by rw [xup_ne _ _ _ (by decide)]; exact h4 b) (fun b => by rw [xup_ne _ _ _ (by decide)]; exact h6 b) (fun b => by rw [xup_ne _ _ _ (by decide)]; exact h7 b) (fun b => by rw [xup_ne _ _ _ (by decide)]; exact h8 b) (fun x => ?_)
        rw [xup_at]
        by_cases e : x = 4 * (40 * to + sp) + q
        · rw [if_pos e, if_pos (by omega)]
          congr 2
          omega
        · rw [if_neg e, h5]
          by_cases e2 : 4 * (40 * to + sp) ≤ x ∧ x < 4 * (40 * to + sp) + q
          · rw [if_pos e2, if_pos (by omega)]
          · rw [if_neg e2, if_neg (by omega)]
    refine fin 4 0 _ rfl (by omega) ((((xag.rfl.up (by simp)).up (by simp)).up (by simp)).up (by simp)) (fun b => ?_) (fun b => ?_) (fun b => ?_) (fun b => ?_) (fun x => ?_)
    · rw [xup_ne _ _ _ (by decide), xup_ne _ _ _ (by decide), xup_ne _ _ _ (by decide), xup_at]
    · rw [xup_ne _ _ _ (by decide), xup_ne _ _ _ (by decide), xup_at, xup_ne _ _ _ (by decide)]
    · rw [xup_at, xup_ne _ _ _ (by decide), xup_ne _ _ _ (by decide), xup_ne _ _ _ (by decide)]
    · rw [xup_ne _ _ _ (by decide), xup_at, xup_ne _ _ _ (by decide), xup_ne _ _ _ (by decide)]
    · rw [xup_ne _ _ _ (by decide), xup_ne _ _ _ (by decide), xup_ne _ _ _ (by decide), xup_ne _ _ _ (by decide), if_neg (by omega)]
  have loop : ∀ w kk I1, kk - sp = w → sp ≤ kk → kk ≤ m1 → FM I0 I1 to → ML I1 la → I1 93 to = I 93 to → (∀ i, i < kk → RB I1 (40 * to + i) = enc to (E1 i)) → (∀ i, kk < i → i < m1 + 1 → RB I1 (40 * to + i) = enc to (E1 (i - 1))) → Wp (d + 1) 137 146 [some (.ref 59), some (.int (nI to)), some (.int (nI its)), some (.int (nI (to - len))), some (.int (nI old)), some (.int (nI kd)), some (.int (nI (40 * to))), some (.int (nI m1)), some (.int (nI kk)), none] [] (xK 2 L, P, I1, J, xFr 2 c s) Q := by
    intro w
    induction w with
    | zero =>
      intro kk I1 hw h1 h2 f1 hM1 h93 g1 g2
      have e : kk = sp := by omega
      subst e
      refine wX11_comes_146 rfl (brc (nI_le0 (by omega)) (fun h => put I1 f1 hM1 h93 g1 g2) (fun h => ?_))
      rw [nI_add, pk_sub (by omega), show 40 * to + kk - 1 = 40 * to + (kk - 1) by omega]
      refine p_isBehindM hL hM1 hB (b := 40 * to + (kk - 1)) (by omega) (g1 (kk - 1) (by omega)) (hE _ (by omega)) hits ⟨_, _, _, rfl, ?_⟩
      all_goals try dsimp only
      have := hs1 (kk - 1) (by omega)
      rw [if_neg (by omega)]
      exact br1 (by decide) (put I1 f1 hM1 h93 g1 g2)
    | succ w ih =>
      intro kk I1 hw h1 h2 f1 hM1 h93 g1 g2
      refine wX11_comes_146 rfl (br2 (by first | (rw [nI_ltI (by omega) (by omega)]; omega) | (rw [nI_leI (by omega) (by omega)]; omega) | (rw [nI_eq (by omega) (by omega)]; omega) | (rw [nI_e0 (by omega)]; omega) | (rw [nI_le0 (by omega)]; omega)) ?_)
      rw [nI_add, pk_sub (by omega), show 40 * to + kk - 1 = 40 * to + (kk - 1) by omega]
      refine p_isBehindM hL hM1 hB (b := 40 * to + (kk - 1)) (by omega) (g1 (kk - 1) (by omega)) (hE _ (by omega)) hits ⟨_, _, _, rfl, ?_⟩
      all_goals try dsimp only
      have := hs2 (kk - 1) (by omega) (by omega)
      rw [if_pos (by omega)]
      refine br2 (by decide) (p_moveStateM hL (u := 40 * to + (kk - 1)) (v := 40 * to + kk) (by omega) (by omega) (by omega) (fun I2 a1 a2 a3 => ⟨_, _, rfl, ?_⟩))
      all_goals try dsimp only
      try dsimp only
      rw [xm1, pk_sub (by omega)]
      refine ih (kk - 1) I2 (by omega) (by omega) (by omega) (f1.mv a1 a3 (by omega)) (hM1.ag a1 (by decide)) (by rw [a1 93 (by decide)]; exact h93) (fun i hi => ?_) (fun i hi hi2 => ?_)
      · rw [a3 _ (by omega)]
        exact g1 i (by omega)
      · by_cases e : i = kk
        · rw [e, a2]
          exact g1 (kk - 1) (by omega)
        · rw [a3 _ (by omega)]
          exact g2 i (by omega) hi2
  exact loop _ m1 I rfl hsp (Nat.le_refl _) hI hM rfl h0 (fun i h1 h2 => by omega)
end WDM
