/-! FORM 0: the class's search -/
section FILL
variable {d : Nat} {Q : Option Value × xS → Prop} {K : Nat → Nat × Nat} {P : List Nat × Nat × Nat} {I : Nat → Nat → Int32} {J : Nat → Nat → Int64} {F : Nat → Nat → Option Nat}
/-- Arrays.fill of a row of ints -/
theorem p_fillI (hK : ∀ {a k n : Nat}, K a = (k, n) → n < 2147483648) {a len : Nat} (ha : K a = (100, len)) {x : Int32} (k : ∀ I', xag I I' [a] → (∀ j, j < len → I' a j = x) → Q (none, (K, P, I', J, F))) : Wp d 166 0 [some (.ref a), some (.int x), none, none] [] (K, P, I, J, F) Q := by
  have hlen := hK ha
  have loop : ∀ q i I1, len - i = q → i ≤ len → xag I I1 [a] → (∀ j, j < i → I1 a j = x) → Wp d 166 5 [some (.ref a), some (.int x), some (.int (nI i)), some (.int (nI len))] [] (K, P, I1, J, F) Q := by
    intro q
    induction q with
    | zero =>
      intro i I1 hq hi hag h1
      exact wJ7_fill_53178_5 hK ha (br1 (by first | (rw [nI_ltI (by omega) (by omega)]; omega) | (rw [nI_leI (by omega) (by omega)]; omega) | (rw [nI_eq (by omega) (by omega)]; omega) | (rw [nI_e0 (by omega)]; omega) | (rw [nI_le0 (by omega)]; omega)) (k I1 hag (fun j hj => h1 j (by omega))))
    | succ q ih =>
      intro i I1 hq hi hag h1
      refine wJ7_fill_53178_5 hK ha (br2 (by first | (rw [nI_ltI (by omega) (by omega)]; omega) | (rw [nI_leI (by omega) (by omega)]; omega) | (rw [nI_eq (by omega) (by omega)]; omega) | (rw [nI_e0 (by omega)]; omega) | (rw [nI_le0 (by omega)]; omega)) ⟨i, rfl, by omega, ?_⟩)
      rw [nI_add]
      refine ih (i + 1) _ (by omega) (by omega) (hag.up (by simp)) (fun j hj => ?_)
      rw [xup_at]
      by_cases e : j = i
      · rw [if_pos e]
      · rw [if_neg e]
        exact h1 j (by omega)
  exact wJ7_fill_53178_0 ha (loop len 0 I rfl (Nat.zero_le _) xag.rfl (fun j hj => by omega))
/-- of a row of longs -/
theorem p_fillJ (hK : ∀ {a k n : Nat}, K a = (k, n) → n < 2147483648) {a len : Nat} (ha : K a = (101, len)) {x : Int64} (k : ∀ J', (∀ b, b ≠ a → J' b = J b) → (∀ j, j < len → J' a j = x) → Q (none, (K, P, I, J', F))) : Wp d 165 0 [some (.ref a), some (.long x), none, none, none] [] (K, P, I, J, F) Q := by
  have hlen := hK ha
  have loop : ∀ q i J1, len - i = q → i ≤ len → (∀ b, b ≠ a → J1 b = J b) → (∀ j, j < i → J1 a j = x) → Wp d 165 6 [some (.ref a), some (.long x), none, some (.int (nI i)), some (.int (nI len))] [] (K, P, I, J1, F) Q := by
    intro q
    induction q with
    | zero =>
      intro i I1 hq hi hag h1
      exact wJ7_fill_d0a16_6 hK ha (br1 (by first | (rw [nI_ltI (by omega) (by omega)]; omega) | (rw [nI_leI (by omega) (by omega)]; omega) | (rw [nI_eq (by omega) (by omega)]; omega) | (rw [nI_e0 (by omega)]; omega) | (rw [nI_le0 (by omega)]; omega)) (k I1 hag (fun j hj => h1 j (by omega))))
    | succ q ih =>
      intro i I1 hq hi hag h1
      refine wJ7_fill_d0a16_6 hK ha (br2 (by first | (rw [nI_ltI (by omega) (by omega)]; omega) | (rw [nI_leI (by omega) (by omega)]; omega) | (rw [nI_eq (by omega) (by omega)]; omega) | (rw [nI_e0 (by omega)]; omega) | (rw [nI_le0 (by omega)]; omega)) ⟨i, rfl, by omega, ?_⟩)
      rw [nI_add]
      refine ih (i + 1) _ (by omega) (by omega) (fun b hb => by rw [xup_ne _ _ _ hb]; exact hag b hb) (fun j hj => ?_)
      rw [xup_at]
      by_cases e : j = i
      · rw [if_pos e]
      · rw [if_neg e]
        exact h1 j (by omega)
  exact wJ7_fill_d0a16_0 ha (loop len 0 J rfl (Nat.zero_le _) (fun b hb => rfl) (fun j hj => by omega))
/-- of a part of a row of ints -/
theorem p_fillP (hK : ∀ {a k n : Nat}, K a = (k, n) → n < 2147483648) {a len : Nat} (ha : K a = (100, len)) {x : Int32} {u v : Nat} (hu : u ≤ v) (hv : v ≤ len) (k : ∀ I', xag I I' [a] → (∀ j, I' a j = if u ≤ j ∧ j < v then x else I a j) → Q (none, (K, P, I', J, F))) : Wp (d + 1) 167 0 [some (.ref a), some (.int (nI u)), some (.int (nI v)), some (.int x), none] [] (K, P, I, J, F) Q := by
  have hlen := hK ha
  have loop : ∀ q i I1, v - i = q → u ≤ i → i ≤ v → xag I I1 [a] → (∀ j, I1 a j = if u ≤ j ∧ j < i then x else I a j) → Wp (d + 1) 167 10 [some (.ref a), none, some (.int (nI v)), some (.int x), some (.int (nI i))] [] (K, P, I1, J, F) Q := by
    intro q
    induction q with
    | zero =>
      intro i I1 hq hi hi2 hag h1
      have e : i = v := by omega
      subst e
      exact wJ7_fill_fda19_10 hK ha (br1 (by first | (rw [nI_ltI (by omega) (by omega)]; omega) | (rw [nI_leI (by omega) (by omega)]; omega) | (rw [nI_eq (by omega) (by omega)]; omega) | (rw [nI_e0 (by omega)]; omega) | (rw [nI_le0 (by omega)]; omega)) (k I1 hag h1))
    | succ q ih =>
      intro i I1 hq hi hi2 hag h1
      refine wJ7_fill_fda19_10 hK ha (br2 (by first | (rw [nI_ltI (by omega) (by omega)]; omega) | (rw [nI_leI (by omega) (by omega)]; omega) | (rw [nI_eq (by omega) (by omega)]; omega) | (rw [nI_e0 (by omega)]; omega) | (rw [nI_le0 (by omega)]; omega)) ⟨i, rfl, by omega, ?_⟩)
      rw [nI_add]
      refine ih (i + 1) _ (by omega) (by omega) (by omega) (hag.up (by simp)) (fun j => ?_)
      rw [xup_at]
      by_cases e : j = i
      · rw [if_pos e, if_pos (by omega)]
      · rw [if_neg e, h1 j]
        by_cases e2 : u ≤ j ∧ j < i
        · rw [if_pos e2, if_pos (by omega)]
        · rw [if_neg e2, if_neg (by omega)]
  refine wJ7_fill_fda19_0 ha (wJ7_rangeCheck_23922_0 (br1 (by first | (rw [nI_ltI (by omega) (by omega)]; omega) | (rw [nI_leI (by omega) (by omega)]; omega) | (rw [nI_eq (by omega) (by omega)]; omega) | (rw [nI_e0 (by omega)]; omega) | (rw [nI_le0 (by omega)]; omega)) (br1 (nI_pos' (by omega)) (br1 (by first | (rw [nI_ltI (by omega) (by omega)]; omega) | (rw [nI_leI (by omega) (by omega)]; omega) | (rw [nI_eq (by omega) (by omega)]; omega) | (rw [nI_e0 (by omega)]; omega) | (rw [nI_le0 (by omega)]; omega)) ⟨_, _, rfl, ?_⟩))))
  all_goals try dsimp only
  try dsimp only
  refine loop _ u I rfl (Nat.le_refl _) hu xag.rfl (fun j => ?_)
  rw [if_neg (by omega)]
end FILL
section SLC
variable {d L c s p m n : Nat} {t : Nat → Nat} {V : Nat → Nat → Nat} {Q : Option Value × xS → Prop} {P : List Nat × Nat × Nat} {I : Nat → Nat → Int32} {J : Nat → Nat → Int64}
/-- the rows of the search -/
def SF (I : Nat → Nat → Int32) (D : xD) : Prop := ∀ i, i ≤ 300 → I 21 i = nI (dv 1073741824 (D i)) ∧ (D i ≠ none → i ≠ 0 → I 22 i = nI (dl (D i)))
theorem dv_some {D : Option (Nat × Nat)} (h : D ≠ none) (a b : Nat) : dv a D = dv b D := by
  cases D with
  | none => exact absurd rfl h
  | some q => rfl
theorem dv_bst {far : Nat} {o : Option (Nat × Nat)} {q : Nat × Nat} (hq : q.1 < far) : bst o q = if q.1 < dv far o then some q else o := by
  cases o with
  | none =>
    show some q = if q.1 < far then some q else none
    rw [if_pos hq]
  | some q' => rfl
theorem D0.lt {n p i : Nat} {D : xD} (h : D0 V t n p D) (hi : i ≤ n) (hn : n ≤ 300) : dv 0 (D i) ≤ 9307200 := by
  cases hq : D i with
  | none => exact Nat.zero_le _
  | some q =>
    by_cases e : i = 0
    · rw [e, h.1] at hq
      cases hq
      exact Nat.zero_le _
    · have := (h.2.2 i q e hq).2.2.2.2.2.2.2
      show q.1 ≤ _
      omega
theorem D0.ne {n p : Nat} {D : xD} (h : D0 V t n p D) : D p ≠ none := by
  by_cases e : p = 0
  · rw [e, h.1]; exact fun z => by cases z
  · have := h.2.1 (p - 1) (by omega)
    rw [show p - 1 + 1 = p by omega] at this
    exact this
theorem p_lead0 (hL : L < 2147483648) (hB : VB V) (hn : n ≤ 300) {D : xD} (h0 : SF I D) (hD : D0 V t n p D) {l x : Nat} (hp : p < n) (ht : t p < 256) (hl : 1 ≤ l) (hpl : p + l ≤ n) (hx : x = c0 V t n p l) (k : ∀ I', xag I I' [21, 22] → SF I' (ld V t n D p l) → Q (none, (xK 0 L, P, I', J, xFr 0 c s))) : Wp d 59 0 [some (.ref 20), some (.int (nI p)), some (.int (nI l)), some (.int (nI x)), none] [] (xK 0 L, P, I, J, xFr 0 c s) Q := by
  have hf : 0 < 3 := by decide
  have hDp := hD.ne
  have hv := hD.lt (i := p) (by omega) hn
  have hc := c0_le hB hn ht hp (show l < 301 by omega)
  have hfar : dv 1073741824 (D (p + l)) ≤ 1073741824 := by
    cases hq : D (p + l) with
    | none => exact Nat.le_refl _
    | some q =>
      have := hD.lt (i := p + l) hpl hn
      rw [hq] at this
      have : q.1 ≤ 9307200 := this
      show q.1 ≤ _
      omega
  have e1 : I 21 p = nI (dv 0 (D p)) := by rw [(h0 p (by omega)).1, dv_some hDp 1073741824 0]
  have e2 := (h0 (p + l) (by omega)).1
  have hb := dv_bst (far := 1073741824) (o := D (p + l)) (q := (dv 0 (D p) + c0 V t n p l, l)) (by show dv 0 (D p) + c0 V t n p l < 1073741824; omega)
  refine wX7_lead_0 (f1 := 21) (f5 := 22) (xK_lt hf hL) rfl rfl rfl rfl rfl ⟨p, rfl, by omega, p + l, nI_add _ _, by omega, ?_⟩
  rw [e1, e2, nI_add, hx]
  refine brc (nI_leI (by omega) (by omega)) (fun h => ?_) (fun h => ⟨p + l, nI_add _ _, by omega, p + l, nI_add _ _, by omega, ?_⟩)
  · rw [if_neg (by show ¬ dv 0 (D p) + c0 V t n p l < _; omega)] at hb
    refine k I xag.rfl (fun i hi => ?_)
    unfold ld
    rw [hb]
    by_cases e : i = p + l
    · rw [e, va_up_self]
      have := h0 (p + l) (by omega)
      exact this
    · rw [va_up_ne _ _ e]
      exact h0 i hi
  · rw [if_pos (by show dv 0 (D p) + c0 V t n p l < _; omega)] at hb
    refine k _ ((xag.rfl.up (by simp)).up (by simp)) (fun i hi => ?_)
    unfold ld
    rw [hb]
    by_cases e : i = p + l
    · rw [e, va_up_self]
      refine ⟨?_, fun _ _ => ?_⟩
      · rw [xup_ne _ _ _ (by decide), xup_at, if_pos rfl]
        rfl
      · rw [xup_at, if_pos rfl]
        rfl
    · rw [va_up_ne _ _ e]
      have := h0 i hi
      refine ⟨?_, fun z1 z2 => ?_⟩
      · rw [xup_ne _ _ _ (by decide), xup_at, if_neg e]
        exact this.1
      · rw [xup_at, if_neg e, xup_ne _ _ _ (by decide)]
        exact this.2 z1 z2
/-- the steps told: back from the end, then turned round -/
theorem p_tell0 (hL : L < 2147483648) (hp : p = 41 ∨ p = 47) (hT : CT I n t 0) {D : xD} (h0 : SF I D) (hD : D0 V t n n D) (k : ∀ I' m, xag I I' [p, p + 1, p + 2, p + 3, p + 4] → TM D n m → PA I' p m (fun i => T0 t D n (m - 1 - i)) → Q (none, (xK 0 L, P, I', J, xFr 0 c s))) : Wp (d + 2) 60 0 [some (.ref 20), some (.ref p), none, none] [] (xK 0 L, P, I, J, xFr 0 c s) Q := by
  have hf : 0 < 3 := by decide
  have hn := hT.2.2.2.1
  have h5 : 5 ∉ [p, p + 1, p + 2, p + 3, p + 4] ∧ 6 ∉ [p, p + 1, p + 2, p + 3, p + 4] ∧ 7 ∉ [p, p + 1, p + 2, p + 3, p + 4] ∧ 8 ∉ [p, p + 1, p + 2, p + 3, p + 4] ∧ 9 ∉ [p, p + 1, p + 2, p + 3, p + 4] ∧ 22 ∉ [p, p + 1, p + 2, p + 3, p + 4] := by
    rcases hp with rfl | rfl <;> decide
  have loop : ∀ q j I1, tp0 D n j = q → (∀ j', j' < j → tp0 D n j' ≠ 0) → j + tp0 D n j ≤ n → xag I I1 [p, p + 1, p + 2, p + 3, p + 4] → PA I1 p j (T0 t D n) → Wp (d + 2) 60 12 [some (.ref 20), some (.ref p), some (.int (nI (tp0 D n j))), none] [] (xK 0 L, P, I1, J, xFr 0 c s) Q := by
    intro q
    induction q using Nat.strongRecOn with
    | _ q ih =>
      intro j I1 hq hj hjn ha h1
      have hT1 : CT I1 n t 0 := hT.ag ha h5.1 h5.2.1 h5.2.2.1 h5.2.2.2.1 h5.2.2.2.2.1
      have hle := tp0_le D n j
      by_cases hend : tp0 D n j = 0
      · refine wX7_tellSteps_12 (f3 := 22) (xK_lt hf hL) (pcK hp) rfl rfl rfl rfl rfl (br1 ?_ ?_)
        · rw [hend]
          decide
        · refine p_turnRound hf hL hp h1 (fun I2 b1 b2 => ⟨_, _, rfl, ?_⟩)
          all_goals try dsimp only
          exact k I2 j (ha.tr b1 (by simp)) ⟨hend, hj⟩ b2
      · obtain ⟨q2, g1, g2, g3, g4, g5, g6⟩ := hD.at hle hend
        have hdl : dl (D (tp0 D n j)) = q2.2 := by rw [g1]; rfl
        have hnx : tp0 D n (j + 1) = tp0 D n j - q2.2 := by rw [tp0, hdl]
        have h22 : I1 22 (tp0 D n j) = nI q2.2 := by
          rw [ha 22 h5.2.2.2.2.2, (h0 _ (by omega)).2 (by rw [g1]; exact fun z => by cases z) hend, hdl]
        have hmax : (if nI 1 < nI q2.2 then nI q2.2 else nI 1) = nI q2.2 := by
          by_cases e : q2.2 = 1
          · rw [e]; rfl
          · rw [if_pos (by first | (rw [nI_ltI (by omega) (by omega)]; omega) | (rw [nI_leI (by omega) (by omega)]; omega) | (rw [nI_eq (by omega) (by omega)]; omega) | (rw [nI_e0 (by omega)]; omega) | (rw [nI_le0 (by omega)]; omega))]
        have next : ∀ I2 kd sz bk, xag I I2 [p, p + 1, p + 2, p + 3, p + 4] → PA I2 p (j + 1) (va_up (T0 t D n) j (kd, tp0 D n (j + 1), sz, bk)) → T0 t D n j = (kd, tp0 D n (j + 1), sz, bk) → Wp (d + 2) 60 12 [some (.ref 20), some (.ref p), some (.int (nI (tp0 D n (j + 1)))), none] [] (xK 0 L, P, I2, J, xFr 0 c s) Q := by
          intro I2 kd sz bk b1 b2 b3
          refine ih _ (by omega) (j + 1) I2 rfl (fun j' hj' => ?_) (by omega) b1 (b2.cg (fun i hi => ?_))
          · by_cases e : j' = j
            · rw [e]; exact hend
            · exact hj j' (by omega)
          · by_cases e : i = j
            · rw [e, va_up_self, b3]
            · rw [va_up_ne _ _ e]
        refine wX7_tellSteps_12 (f3 := 22) (xK_lt hf hL) (pcK hp) rfl rfl rfl rfl rfl (br2 (by first | (rw [nI_ltI (by omega) (by omega)]; omega) | (rw [nI_leI (by omega) (by omega)]; omega) | (rw [nI_eq (by omega) (by omega)]; omega) | (rw [nI_e0 (by omega)]; omega) | (rw [nI_le0 (by omega)]; omega)) ⟨tp0 D n j, rfl, by omega, ?_⟩)
        rw [h22, hmax, pk_sub g3, ← hnx]
        refine brd (nI_eq (by omega) (by omega)) (fun h => ?_) (fun h => ?_)
        · have h7 : 3 ≤ q2.2 ∧ q2.2 ≤ lc t n 0 (tp0 D n (j + 1)) := by
            rw [hnx]
            omega
          have hc := lc_ok (t := t) (n := n) (f := 0) (i := tp0 D n (j + 1)) (by omega)
          refine p_copyDistanceN hf hL hT1 (by omega) h7.1 (by omega) ⟨_, _, _, rfl, ?_⟩
          all_goals try dsimp only
          refine p_add hf hL hp h1 (by omega) (fun I2 b1 b2 => ⟨_, _, rfl, ?_⟩)
          all_goals try dsimp only
          try dsimp only
          refine next I2 _ _ _ (ha.tr b1 (by simp)) b2 ?_
          unfold T0
          rw [hdl, if_neg h]
          rfl
        · refine p_add hf hL hp h1 (by omega) (fun I2 b1 b2 => ⟨_, _, rfl, ?_⟩)
          all_goals try dsimp only
          try dsimp only
          refine next I2 _ _ _ (ha.tr b1 (by simp)) b2 ?_
          unfold T0
          rw [hdl, if_pos h]
  refine wX7_tellSteps_0 (pcK hp) rfl rfl rfl (p_begin hp (R := T0 t D n) (fun I1 a1 a2 => ⟨_, _, rfl, ?_⟩))
  all_goals try dsimp only
  try dsimp only
  have ha : xag I I1 [p, p + 1, p + 2, p + 3, p + 4] := a1.wd (by simp)
  rw [ha 5 h5.1, hT.2.2.1]
  exact loop _ 0 I1 rfl (fun j hj => by omega) (by show 0 + n ≤ n; omega) ha a2
theorem p_findBest0 (hL : L < 2147483648) (hp : p = 41 ∨ p = 47) (hC : CC I 0 V) (hT : CT I n t 0) (k : ∀ I' m, xag I I' [13, 14, 21, 22, p, p + 1, p + 2, p + 3, p + 4] → TM (dp0 V t n n) n m → PA I' p m (fun i => T0 t (dp0 V t n n) n (m - 1 - i)) → Q (some (.int (nI 0)), (xK 0 L, P, I', J, xFr 0 c s))) : Wp (d + 5) 58 0 [some (.ref 20), some (.ref p), none, none, none, none] [] (xK 0 L, P, I, J, xFr 0 c s) Q := by
  have hf : 0 < 3 := by decide
  have hn := hT.2.2.2.1
  have hB := hC.2.2.2
  have ht : ∀ j, j < n → t j < 256 := fun j hj => (hT.2.2.2.2.1 j hj).2
  have outer : ∀ q i I1, n - i = q → i ≤ n → xag I I1 [13, 14, 21, 22] → PR I1 0 n V → SF I1 (dp0 V t n i) → Wp (d + 5) 58 29 [some (.ref 20), some (.ref p), none, some (.int (nI i)), none, none] [] (xK 0 L, P, I1, J, xFr 0 c s) Q := by
    intro q
    induction q with
    | zero =>
      intro i I1 hq hi ha hpr h1
      have e : i = n := by omega
      subst e
      have hT1 : CT I1 i t 0 := hT.ag ha (by decide) (by decide) (by decide) (by decide) (by decide)
      refine wX7_findBest_29 rfl rfl rfl (br1 ?_ ?_)
      · rw [hT1.2.2.1]
        exact (by first | (rw [nI_ltI (by omega) (by omega)]; omega) | (rw [nI_leI (by omega) (by omega)]; omega) | (rw [nI_eq (by omega) (by omega)]; omega) | (rw [nI_e0 (by omega)]; omega) | (rw [nI_le0 (by omega)]; omega))
      · refine p_tell0 hL hp hT1 h1 (dp0_ok hB hn ht i (Nat.le_refl _)) (fun I2 m b1 b2 b3 => ⟨_, _, rfl, ?_⟩)
        all_goals try dsimp only
        exact k I2 m (ha.tw b1 (by simp)) b2 b3
    | succ q ih =>
      intro i I1 hq hi ha hpr h1
      have hin : i < n := by omega
      have hT1 : CT I1 n t 0 := hT.ag ha (by decide) (by decide) (by decide) (by decide) (by decide)
      have hD := dp0_ok hB hn ht i (by omega)
      refine wX7_findBest_29 rfl rfl rfl (br2 ?_ (p_longestCopyN hf hL hT1 (by omega) ⟨_, _, _, rfl, ?_⟩))
      all_goals try dsimp only
      · rw [hT1.2.2.1]
        exact (by first | (rw [nI_ltI (by omega) (by omega)]; omega) | (rw [nI_leI (by omega) (by omega)]; omega) | (rw [nI_eq (by omega) (by omega)]; omega) | (rw [nI_e0 (by omega)]; omega) | (rw [nI_le0 (by omega)]; omega))
      try dsimp only
      have hlcx : lcx t n 0 i = lc t n 0 i := by
        unfold lcx
        rw [if_pos hin]
      rw [hlcx]
      have inner : ∀ l I2 D, l ≤ lc t n 0 i → xag I I2 [13, 14, 21, 22] → PR I2 0 n V → D0 V t n i D → SF I2 D → ld V t n (ldn V t n i D l) i 1 = dp0 V t n (i + 1) → Wp (d + 5) 58 50 [some (.ref 20), some (.ref p), none, some (.int (nI i)), some (.int (nI l)), none] [] (xK 0 L, P, I2, J, xFr 0 c s) Q := by
        intro l
        induction l with
        | zero =>
          intro I2 D hl ha2 hpr2 hD2 h2 he
          have hT2 : CT I2 n t 0 := hT.ag ha2 (by decide) (by decide) (by decide) (by decide) (by decide)
          have hC2 : CC I2 0 V := hC.ag ha2 (by decide)
          refine wX7_findBest_50 (xK_lt hf hL) rfl rfl rfl rfl rfl rfl rfl rfl rfl rfl rfl (br1 ?_ ⟨i, rfl, by omega, ?_⟩)
          · rw [hT2.1]
            decide
          · rw [(hT2.2.2.2.2.1 i hin).1]
            refine p_literalCost hf (by decide) hL hC2 (ht i hin) ⟨_, _, _, rfl, ?_⟩
            all_goals try dsimp only
            refine p_lead0 hL hB hn h2 hD2 hin (ht i hin) (by decide) (by omega) (by rfl) (fun I3 b1 b2 => ⟨_, _, rfl, ?_⟩)
            all_goals try dsimp only
            try dsimp only
            rw [nI_add]
            rw [ldn] at he
            rw [he] at b2
            refine ih (i + 1) I3 (by omega) (by omega) (ha2.tr b1 (by simp)) ?_ b2
            unfold PR
            rw [b1 13 (by decide), b1 14 (by decide)]
            exact hpr2
        | succ l ihl =>
          intro I2 D hl ha2 hpr2 hD2 h2 he
          have hT2 : CT I2 n t 0 := hT.ag ha2 (by decide) (by decide) (by decide) (by decide) (by decide)
          have hC2 : CC I2 0 V := hC.ag ha2 (by decide)
          rw [ldn] at he
          have hlc := lc_ok (t := t) (n := n) (f := 0) (i := i) (by omega)
          have hlc2 := hlc
          rw [show xgt 0 = 258 from rfl] at hlc2
          refine wX7_findBest_50 (xK_lt hf hL) rfl rfl rfl rfl rfl rfl rfl rfl rfl rfl rfl (brc (p := l + 1 < 3) ?_ (fun h => ?_) (fun h => ?_))
          · rw [hT2.1]
            exact nI_ltI (by omega) (by decide)
          · rw [if_pos h] at he
            refine ⟨i, rfl, by omega, ?_⟩
            rw [(hT2.2.2.2.2.1 i hin).1]
            refine p_literalCost hf (by decide) hL hC2 (ht i hin) ⟨_, _, _, rfl, ?_⟩
            all_goals try dsimp only
            refine p_lead0 hL hB hn h2 hD2 hin (ht i hin) (by decide) (by omega) (by rfl) (fun I3 b1 b2 => ⟨_, _, rfl, ?_⟩)
            all_goals try dsimp only
            try dsimp only
            rw [nI_add]
            rw [he] at b2
            refine ih (i + 1) I3 (by omega) (by omega) (ha2.tr b1 (by simp)) ?_ b2
            unfold PR
            rw [b1 13 (by decide), b1 14 (by decide)]
            exact hpr2
          · rw [if_neg h] at he
            have hd := nd_ok (t := t) (n := n) (G := 258) (i := i) (l := l + 1) (by omega) (by omega)
            refine p_copyDistanceN hf hL hT2 hin (by show 3 ≤ l + 1; omega) (by omega) ⟨_, _, _, rfl, l + 1, rfl, by omega, nd t n 258 i (l + 1), rfl, by omega, ?_⟩
            all_goals try dsimp only
            rw [hpr2.1 (l + 1) (by show 3 ≤ l + 1; omega) (by omega), hpr2.2 _ hd.1 (by omega), nI_add]
            have hlok := ld_ok hB hn ht hin hD2 (l := l + 1) (Or.inr ⟨by omega, hl⟩)
            refine p_lead0 hL hB hn h2 hD2 hin (ht i hin) (l := l + 1) (by omega) (by omega) (by unfold c0; rw [if_neg (by omega)]) (fun I3 b1 b2 => ⟨_, _, rfl, ?_⟩)
            all_goals try dsimp only
            try dsimp only
            rw [xm1, pk_sub (by omega), Nat.add_sub_cancel]
            refine ihl I3 _ (by omega) (ha2.tr b1 (by simp)) ?_ hlok.1 b2 he
            unfold PR
            rw [b1 13 (by decide), b1 14 (by decide)]
            exact hpr2
      exact inner _ I1 _ (Nat.le_refl _) ha hpr hD h1 rfl
  refine wX7_findBest_0 (f5 := 21) (xK_lt hf hL) rfl rfl rfl rfl rfl rfl (p_prepare hf (by decide) hL hC hT (fun I1 a1 a2 => ⟨_, _, rfl, ?_⟩))
  all_goals try dsimp only
  try dsimp only
  refine p_fillI (xK_lt hf hL) (len := 301) rfl (fun I2 b1 b2 => ⟨_, _, rfl, 0, rfl, by decide, ?_⟩)
  all_goals try dsimp only
  try dsimp only
  refine outer n 0 _ rfl (Nat.zero_le _) ((a1.tw b1 (by simp)).up (by simp)) ?_ (fun i hi => ?_)
  · unfold PR
    rw [xup_ne _ _ _ (by decide), xup_ne _ _ _ (by decide), b1 13 (by decide), b1 14 (by decide)]
    exact a2
  · rw [xup_at, dp0]
    dsimp only
    by_cases e : i = 0
    · rw [if_pos e, if_pos e]
      exact ⟨rfl, fun _ z => absurd e z⟩
    · rw [if_neg e, if_neg e, b2 i (by omega)]
      exact ⟨rfl, fun z => absurd rfl z⟩
end SLC
