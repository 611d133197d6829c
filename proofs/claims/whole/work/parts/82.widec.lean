/-! FORM 2: the class's states -/
theorem xorI {a b : Nat} (ha : a < 2 ^ 32) (hb : b < 2 ^ 32) : nI a ||| nI b = nI (a ||| b) := by
  apply Int32.toBitVec_inj.mp
  show BitVec.ofNat 32 a ||| BitVec.ofNat 32 b = BitVec.ofNat 32 (a ||| b)
  apply BitVec.eq_of_toNat_eq
  rw [BitVec.toNat_or, BitVec.toNat_ofNat, BitVec.toNat_ofNat, BitVec.toNat_ofNat, Nat.mod_eq_of_lt ha, Nat.mod_eq_of_lt hb, Nat.mod_eq_of_lt (Nat.or_lt_two_pow ha hb)]
/-- how a state was reached, as one number -/
def pkb (e : xEn) : Nat := e.2.1 * 4096 + e.2.2.1 * 8 + e.2.2.2
theorem pkb_ok {r l kd : Nat} (hr : r < 64) (hl : l < 512) (hk : kd < 8) : nI r <<< (nI 12 &&& 31) ||| nI l <<< (nI 3 &&& 31) ||| nI kd = nI (r * 4096 + l * 8 + kd) := by
  rw [pk_shlN (n := r) _ 12 (xs31 12 (by decide)) (by omega), pk_shlN (n := l) _ 3 (xs31 3 (by decide)) (by omega), xorI (by omega) (by omega), show r * 2 ^ 12 ||| l * 2 ^ 3 = r * 2 ^ 12 + l * 2 ^ 3 from xor_add (by omega), xorI (by omega) (by omega)]
  have : r * 2 ^ 12 + l * 2 ^ 3 ||| kd = r * 2 ^ 12 + l * 2 ^ 3 + kd := by
    rw [show r * 2 ^ 12 + l * 2 ^ 3 = (r * 2 ^ 9 + l) * 2 ^ 3 by omega]
    exact xor_add (by omega)
  rw [this]
def bnd (n j : Nat) (w : xWs) : Nat := if (j = n ∧ w.1 ≠ 0) ∨ (j < n ∧ w.2.2 = true) then (w.2.1 (w.1 - 1)).1 else 2 ^ 62
/-- the states of a place, in the class -/
def CR (I : Nat → Nat → Int32) (J : Nat → Nat → Int64) (n j : Nat) (w : xWs) : Prop := I 30 j = nI w.1 ∧ (∀ s, s < w.1 → J 28 (40 * j + s) = lN (w.2.1 s).1 ∧ I 29 (40 * j + s) = nI (pkb (w.2.1 s))) ∧ (j < n → I 31 j = nI (if w.2.2 = true then 1 else 0)) ∧ J 32 j = lN (bnd n j w)
def FC (I I' : Nat → Nat → Int32) (J J' : Nat → Nat → Int64) (to : Nat) : Prop := xag I I' [29, 30, 31] ∧ (∀ a, a ≠ 28 → a ≠ 32 → J' a = J a) ∧ (∀ j, j ≠ to → I' 30 j = I 30 j ∧ I' 31 j = I 31 j ∧ J' 32 j = J 32 j) ∧ ∀ b, (b < 40 * to ∨ 40 * to + 40 ≤ b) → J' 28 b = J 28 b ∧ I' 29 b = I 29 b
theorem FC.rfl {I : Nat → Nat → Int32} {J : Nat → Nat → Int64} {to : Nat} : FC I I J J to := ⟨xag.rfl, fun _ _ _ => Eq.refl _, fun _ _ => ⟨Eq.refl _, Eq.refl _, Eq.refl _⟩, fun _ _ => ⟨Eq.refl _, Eq.refl _⟩⟩
theorem cLE {a b : Nat} (ha : a < 2 ^ 63) (hb : b < 2 ^ 63) : lg_cmp (lN a) (lN b) ≤ 0 ↔ a ≤ b := by rw [lg_cmp_le, pk_lLE ha hb]
theorem cGT {a b : Nat} (ha : a < 2 ^ 63) (hb : b < 2 ^ 63) : 0 < lg_cmp (lN a) (lN b) ↔ b < a := by rw [lg_cmp_gt, pk_lLT hb ha]
theorem cEQ {a b : Nat} (ha : a < 2 ^ 63) (hb : b < 2 ^ 63) : lg_cmp (lN a) (lN b) = 0 ↔ a = b := by rw [lg_cmp_eq, pk_lEQ ha hb]
theorem xmask {k : Nat} (h : k < 2 ^ 62) : lN k &&& lN 68719476735 = lN (lat k) := by
  have := wb_mask (n := k) (k := 36) (by omega) (by decide)
  exact this
section WDC
variable {d L c s0 n : Nat} {t : Nat → Nat} {V : Nat → Nat → Nat} {Q : Option Value × xS → Prop} {P : List Nat × Nat × Nat} {I : Nat → Nat → Int32} {J : Nat → Nat → Int64} {la : Nat → Nat}
/-- what stands from sp on moves up into the gap -/
theorem p_insertC (hL : L < 2147483648) {to sp g key by' : Nat} (hto : to ≤ 300) (hg : sp ≤ g) (hg2 : g < 40) (k : ∀ I' J', xag I I' [29] → (∀ a, a ≠ 28 → J' a = J a) → (∀ b, J' 28 b = if b = 40 * to + sp then lN key else if 40 * to + sp < b ∧ b ≤ 40 * to + g then J 28 (b - 1) else J 28 b) → (∀ b, I' 29 b = if b = 40 * to + sp then nI by' else if 40 * to + sp < b ∧ b ≤ 40 * to + g then I 29 (b - 1) else I 29 b) → Q (none, (xK 2 L, P, I', J', xFr 2 c s0))) : Wp d 39 0 [some (.ref 20), some (.int (nI (40 * to + sp))), some (.int (nI (40 * to + g))), some (.long (lN key)), none, some (.int (nI by')), none] [] (xK 2 L, P, I, J, xFr 2 c s0) Q := by
  have hf : 2 < 3 := by decide
  have loop : ∀ w x I1 J1, x - sp = w → sp ≤ x → x ≤ g → xag I I1 [29] → (∀ a, a ≠ 28 → J1 a = J a) → (∀ b, J1 28 b = if 40 * to + x < b ∧ b ≤ 40 * to + g then J 28 (b - 1) else J 28 b) → (∀ b, I1 29 b = if 40 * to + x < b ∧ b ≤ 40 * to + g then I 29 (b - 1) else I 29 b) → Wp d 39 3 [some (.ref 20), some (.int (nI (40 * to + sp))), none, some (.long (lN key)), none, some (.int (nI by')), some (.int (nI (40 * to + x)))] [] (xK 2 L, P, I1, J1, xFr 2 c s0) Q := by
    intro w
    induction w with
    | zero =>
      intro x I1 J1 hw h1 h2 ha hj h3 h4
      have e : x = sp := by omega
      subst e
      refine wX4_insert_3 (f1 := 28) (f3 := 29) (xK_lt hf hL) rfl rfl rfl rfl rfl (br1 (by first | (rw [nI_ltI (by omega) (by omega)]; omega) | (rw [nI_leI (by omega) (by omega)]; omega) | (rw [nI_eq (by omega) (by omega)]; omega) | (rw [nI_e0 (by omega)]; omega) | (rw [nI_le0 (by omega)]; omega)) ⟨40 * to + x, rfl, by omega, 40 * to + x, rfl, by omega, k _ _ (ha.up (by simp)) (fun a haa => by rw [xup_ne _ _ _ haa]; exact hj a haa) (fun b => ?_) (fun b => ?_)⟩)
      · rw [xup_at]
        by_cases e : b = 40 * to + x
        · rw [if_pos e, if_pos e]
        · rw [if_neg e, if_neg e]
          exact h3 b
      · rw [xup_at]
        by_cases e : b = 40 * to + x
        · rw [if_pos e, if_pos e]
        · rw [if_neg e, if_neg e]
          exact h4 b
    | succ w ih =>
      intro x I1 J1 hw h1 h2 ha hj h3 h4
      refine wX4_insert_3 (f1 := 28) (f3 := 29) (xK_lt hf hL) rfl rfl rfl rfl rfl (br2 (by first | (rw [nI_ltI (by omega) (by omega)]; omega) | (rw [nI_leI (by omega) (by omega)]; omega) | (rw [nI_eq (by omega) (by omega)]; omega) | (rw [nI_e0 (by omega)]; omega) | (rw [nI_le0 (by omega)]; omega)) ⟨40 * to + (x - 1), by rw [pk_sub (by omega)]; congr 1; omega, by omega, 40 * to + x, rfl, by omega, 40 * to + (x - 1), by rw [pk_sub (by omega)]; congr 1; omega, by omega, 40 * to + x, rfl, by omega, ?_⟩)
      rw [xm1, pk_sub (by omega), show 40 * to + x - 1 = 40 * to + (x - 1) by omega]
      refine ih (x - 1) _ _ (by omega) (by omega) (by omega) (ha.up (by simp)) (fun a haa => by rw [xup_ne _ _ _ haa]; exact hj a haa) (fun b => ?_) (fun b => ?_)
      · rw [xup_at]
        by_cases e : b = 40 * to + x
        · rw [if_pos e, h3, if_neg (by omega), if_pos (by omega), e]
          congr 1
          omega
        · rw [if_neg e, h3]
          by_cases e2 : 40 * to + x < b ∧ b ≤ 40 * to + g
          · rw [if_pos e2, if_pos (by omega)]
          · rw [if_neg e2, if_neg (by omega)]
      · rw [xup_at]
        by_cases e : b = 40 * to + x
        · rw [if_pos e, h4, if_neg (by omega), if_pos (by omega), e]
          congr 1
          omega
        · rw [if_neg e, h4]
          by_cases e2 : 40 * to + x < b ∧ b ≤ 40 * to + g
          · rw [if_pos e2, if_pos (by omega)]
          · rw [if_neg e2, if_neg (by omega)]
  refine wX4_insert_0  (loop (g - sp) g I J rfl hg (Nat.le_refl _) xag.rfl (fun a _ => rfl) (fun b => ?_) (fun b => ?_))
  · rw [if_neg (by omega)]
  · rw [if_neg (by omega)]
/-- room for one more -/
theorem p_makeRoomC (hL : L < 2147483648) {K to m : Nat} (hto : to ≤ n) (hn : n ≤ 300) (hN : I 5 3 = nI n) (hK : I 20 7 = nI K) (hK2 : K ≤ 40) (hm : I 30 to = nI m) (hm2 : m ≤ 40) (k1 : m < (if to = n then 1 else K) → Q (some (.int (nI 1)), (xK 2 L, P, xup I 30 to (nI (m + 1)), J, xFr 2 c s0))) (k0 : ¬ m < (if to = n then 1 else K) → Q (some (.int (nI 0)), (xK 2 L, P, if to < n then xup I 31 to (nI 1) else I, J, xFr 2 c s0))) : Wp d 38 0 [some (.ref 20), some (.int (nI to))] [] (xK 2 L, P, I, J, xFr 2 c s0) Q := by
  have hf : 2 < 3 := by decide
  have go : ∀ v, v ≤ 40 → v = (if to = n then 1 else K) → Wp d 38 25 [some (.ref 20), some (.int (nI to))] [.int (nI v), .int (I 30 to)] (xK 2 L, P, I, J, xFr 2 c s0) Q := by
    intro v hv hv2
    rw [← hv2] at k0 k1
    refine wX4_makeRoom_25 (f2 := 31) (f4 := 30) (xK_lt hf hL) rfl rfl rfl rfl rfl rfl rfl ?_
    rw [hm]
    refine brc (nI_leI (by omega) (by omega)) (fun h => brc (p := n ≤ to) (by rw [hN]; exact nI_leI (by omega) (by omega)) (fun h2 => ?_) (fun h2 => ⟨to, rfl, by omega, ?_⟩)) (fun h => ⟨to, rfl, by omega, to, rfl, by omega, ?_⟩)
    · have := k0 (by omega)
      rw [if_neg (by omega)] at this
      exact this
    · have := k0 (by omega)
      rw [if_pos (by omega)] at this
      exact this
    · rw [hm, nI_add]
      exact k1 (by omega)
  refine wX4_makeRoom_0 (f1 := 30) (xK_lt hf hL) rfl rfl rfl rfl rfl ⟨to, rfl, by omega, ?_⟩
  rw [hN]
  refine brd (nI_eq (by omega) (by omega)) (fun h => ?_) (fun h => ?_)
  · rw [hK]
    exact go K hK2 (by rw [if_neg h])
  · exact go 1 (by decide) (by rw [if_pos h])
theorem bnd_cg {n j : Nat} {w : xWs} {b : Bool} : (j = n → True) → bnd n j (w.1, w.2.1, b) = if (j = n ∧ w.1 ≠ 0) ∨ (j < n ∧ b = true) then (w.2.1 (w.1 - 1)).1 else 2 ^ 62 := fun _ => rfl
/-- a state comes to a place of the class -/
theorem p_leadC (hL : L < 2147483648) {K p sum r to len kd cst : Nat} {w : xWs} (hn : n ≤ 300) (hN : I 5 3 = nI n) (hK7 : I 20 7 = nI K) (hK1 : 1 ≤ K) (hK2 : K ≤ 40) (hp : I 20 8 = nI p) (hr : I 20 9 = nI r) (hsum : J 20 10 = lN sum) (hB : LB la) (hto : to = p + len) (hton : to ≤ n) (hsm : sum + cst < 2 ^ 24) (hc : cst < 2 ^ 24) (hr2 : r < 40) (hl2 : len < 512) (hkd : kd < 8) (hw : WF (if to = n then 1 else K) w) (hE : ∀ s, s < w.1 → (w.2.1 s).1 < 2 ^ 61) (h0 : CR I J n to w) (k : ∀ I' J', FC I I' J J' to → CR I' J' n to (op (if to = n then 1 else K) w (ky (sum + cst) la, r, len, kd)) → Q (none, (xK 2 L, P, I', J', xFr 2 c s0))) : Wp (d + 1) 37 0 [some (.ref 20), some (.int (nI kd)), some (.int (nI len)), some (.int (nI cst)), some (.long (lN (lp la))), none, none, none, none, none, none, none] [] (xK 2 L, P, I, J, xFr 2 c s0) Q := by
  have hf : 2 < 3 := by decide
  have hlp := lp_lt hB
  have hKe : (if to = n then 1 else K) ≤ 40 ∧ 1 ≤ (if to = n then 1 else K) := by split <;> omega
  generalize hKK : (if to = n then 1 else K) = KK at *
  have hmK := hw.1
  have hkey : (J 20 10 + (nI cst).toInt64) <<< ((nI 36).toInt64 &&& 63) ||| lN (lp la) = lN (ky (sum + cst) la) := by
    rw [hsum, xi2l (by omega), lN_add, wb_shl _ (by decide), wb_or (by omega) (by omega), xor_add (by omega)]
    rfl
  have hkl : ky (sum + cst) la < 2 ^ 60 := by
    unfold ky
    omega
  have hlat : lat (ky (sum + cst) la) = lp la := ky_lat hB
  generalize hk0 : ky (sum + cst) la = key at *
  have hog := og_le w key
  have hos := os_le w key
  have hb62 : bnd n to w ≤ 2 ^ 62 := by
    unfold bnd
    split
    · rename_i hcc
      by_cases e : w.1 = 0
      · have h1 : w.2.2 = true := by
          rcases hcc with z | z
          · exact absurd e z.2
          · exact z.2
        have h2 := hw.2.2.2 h1
        omega
      · have := hE (w.1 - 1) (by omega)
        omega
    · exact Nat.le_refl _
  have hto2 : nI p + nI len = nI to := by rw [nI_add, hto]
  -- the last bound
  have fin : ∀ I1 J1 w', FC I I1 J J1 to → 1 ≤ w'.1 → w'.1 ≤ 40 → I1 30 to = nI w'.1 → (∀ s, s < w'.1 → J1 28 (40 * to + s) = lN (w'.2.1 s).1 ∧ I1 29 (40 * to + s) = nI (pkb (w'.2.1 s))) → (to < n → I1 31 to = nI (if w'.2.2 = true then 1 else 0)) → w' = op KK w (key, r, len, kd) → ((to = n ∨ w'.2.2 = true) ∨ J1 32 to = lN (2 ^ 62)) → ((nI to = I1 5 3 → Wp (d + 1) 37 208 [some (.ref 20), none, none, none, none, none, some (.int (nI to)), none, none, none, none, none] [] (xK 2 L, P, I1, J1, xFr 2 c s0) Q) ∧ (¬ nI to = I1 5 3 → (∃ j3 : Nat, nI to = nI j3 ∧ j3 < 300 ∧ ((I1 31 j3 = 0 → Q (none, (xK 2 L, P, I1, J1, xFr 2 c s0))) ∧ (¬ I1 31 j3 = 0 → Wp (d + 1) 37 208 [some (.ref 20), none, none, none, none, none, some (.int (nI to)), none, none, none, none, none] [] (xK 2 L, P, I1, J1, xFr 2 c s0) Q))))) := by
    intro I1 J1 w' f1 m1 m2 g1 g2 g3 ge gb
    have h208 : (to = n ∨ (to < n ∧ w'.2.2 = true)) → Wp (d + 1) 37 208 [some (.ref 20), none, none, none, none, none, some (.int (nI to)), none, none, none, none, none] [] (xK 2 L, P, I1, J1, xFr 2 c s0) Q := by
      intro hcc
      refine wX4_lead_208 (f1 := 32) (f2 := 28) (f3 := 30) (xK_lt hf hL) rfl rfl rfl rfl rfl rfl rfl ⟨to, rfl, by omega, 40 * to + (w'.1 - 1), ?_, by omega, to, rfl, by omega, ?_⟩
      · rw [g1, pk_mul, nI_add, pk_sub (by omega)]
        congr 1
        omega
      · rw [(g2 (w'.1 - 1) (by omega)).1]
        refine k I1 _ ⟨f1.1, fun a z1 z2 => by rw [xup_ne _ _ _ z2]; exact f1.2.1 a z1 z2, fun j hj => ⟨(f1.2.2.1 j hj).1, (f1.2.2.1 j hj).2.1, by rw [xup_at, if_neg hj]; exact (f1.2.2.1 j hj).2.2⟩, fun b hb => by rw [xup_ne _ _ _ (by decide)]; exact f1.2.2.2 b hb⟩ ?_
        rw [← ge]
        refine ⟨g1, fun s hs => by rw [xup_ne _ _ _ (by decide)]; exact g2 s hs, g3, ?_⟩
        rw [xup_at, if_pos rfl]
        unfold bnd
        rw [if_pos]
        rcases hcc with z | z
        · exact Or.inl ⟨z, by omega⟩
        · exact Or.inr z
    rw [f1.1 5 (by decide), hN]
    refine brc (nI_eq (by omega) (by omega)) (fun h => h208 (Or.inl h)) (fun h => ⟨to, rfl, by omega, ?_⟩)
    rw [g3 (by omega)]
    by_cases hb : w'.2.2 = true
    · rw [if_pos hb]
      exact br2 (by decide) (h208 (Or.inr ⟨by omega, hb⟩))
    · rw [if_neg hb]
      refine br1 (by decide) (k I1 J1 f1 ?_)
      rw [← ge]
      refine ⟨g1, g2, g3, ?_⟩
      unfold bnd
      rw [if_neg (by
        intro z
        rcases z with z | z
        · exact h z.1
        · exact hb z.2)]
      rcases gb with z | z
      · rcases z with z | z
        · exact absurd z h
        · exact absurd z hb
      · exact z
  -- what the bound was
  have hb0 : (to = n ∨ w.2.2 = true) ∨ J 32 to = lN (2 ^ 62) := by
    by_cases z1 : to = n
    · exact Or.inl (Or.inl z1)
    · by_cases z2 : w.2.2 = true
      · exact Or.inl (Or.inr z2)
      · refine Or.inr ?_
        rw [h0.2.2.2]
        unfold bnd
        rw [if_neg (by
          intro z
          rcases z with z | z
          · exact z1 z.1
          · exact z2 z.2)]
  -- put in at sp, the gap at g
  have ins : ∀ I1 m' g b', FC I I1 J J to → I1 20 = I 20 → I1 5 = I 5 → I1 30 to = nI m' → I1 29 = I 29 → (to < n → I1 31 to = nI (if b' = true then 1 else 0)) → os w key ≤ g → g < m' → m' ≤ 40 → g ≤ w.1 → (m' ≤ w.1 ∨ (m' = w.1 + 1 ∧ g = w.1)) → op KK w (key, r, len, kd) = (m', sh w.2.1 (os w key) g (key, r, len, kd), b') → (w.2.2 = true → b' = true) → Wp (d + 1) 37 156 [some (.ref 20), some (.int (nI kd)), some (.int (nI len)), none, none, none, some (.int (nI to)), some (.long (lN key)), none, none, some (.int (nI (40 * to + os w key))), some (.int (nI (40 * to + g)))] [] (xK 2 L, P, I1, J, xFr 2 c s0) Q := by
    intro I1 m' g b' f1 e20 e5 h30 e29 h31 hg1 hg2 hm40 hg3 hm' hop hbb
    refine wX4_lead_156 (f2 := 31) (xK_lt hf hL) rfl rfl rfl rfl rfl (br2 (by first | (rw [nI_ltI (by omega) (by omega)]; omega) | (rw [nI_leI (by omega) (by omega)]; omega) | (rw [nI_eq (by omega) (by omega)]; omega) | (rw [nI_e0 (by omega)]; omega) | (rw [nI_le0 (by omega)]; omega)) ?_)
    rw [e20, hr, pkb_ok (by omega) hl2 hkd]
    refine p_insertC hL (by omega) hg1 (by omega) (fun I2 J2 a1 a2 a3 a4 => ⟨_, _, rfl, ?_⟩)
    all_goals try dsimp only
    try dsimp only
    refine fin I2 J2 (m', sh w.2.1 (os w key) g (key, r, len, kd), b') ?_ (by show 1 ≤ m'; omega) hm40 (by rw [a1 30 (by decide)]; exact h30) (fun s hs => ?_) (fun z => by rw [a1 31 (by decide)]; exact h31 z) hop.symm ?_
    · refine ⟨f1.1.tr a1 (by simp), fun a z1 z2 => a2 a z1, fun j hj => ?_, fun b hb => ?_⟩
      · rw [a1 30 (by decide), a1 31 (by decide), a2 32 (by decide)]
        exact ⟨(f1.2.2.1 j hj).1, (f1.2.2.1 j hj).2.1, rfl⟩
      · rw [a3, a4, if_neg (by omega), if_neg (by omega), if_neg (by omega), if_neg (by omega), e29]
        exact ⟨rfl, rfl⟩
    · have hs : s < m' := hs
      show J2 28 (40 * to + s) = lN (sh w.2.1 (os w key) g (key, r, len, kd) s).1 ∧ I2 29 (40 * to + s) = nI (pkb (sh w.2.1 (os w key) g (key, r, len, kd) s))
      unfold sh
      by_cases b1 : s = os w key
      · rw [if_pos b1]
        exact ⟨by rw [a3, if_pos (by omega)], by rw [a4, if_pos (by omega)]; rfl⟩
      · rw [if_neg b1]
        by_cases b2 : os w key < s ∧ s ≤ g
        · rw [if_pos b2]
          have hh := h0.2.1 (s - 1) (by omega)
          exact ⟨by rw [a3, if_neg (by omega), if_pos (by omega), show 40 * to + s - 1 = 40 * to + (s - 1) by omega]; exact hh.1, by rw [a4, if_neg (by omega), if_pos (by omega), show 40 * to + s - 1 = 40 * to + (s - 1) by omega, e29]; exact hh.2⟩
        · rw [if_neg b2]
          have hh := h0.2.1 s (by omega)
          exact ⟨by rw [a3, if_neg (by omega), if_neg (by omega)]; exact hh.1, by rw [a4, if_neg (by omega), if_neg (by omega), e29]; exact hh.2⟩
    · rcases hb0 with z | z
      · rcases z with z | z
        · exact Or.inl (Or.inl z)
        · exact Or.inl (Or.inr (hbb z))
      · exact Or.inr (by rw [a2 32 (by decide)]; exact z)
  -- the gap
  have gap : ∀ v x, w.1 - x = v → os w key ≤ x → x ≤ w.1 → (∀ s, s < x → lat (w.2.1 s).1 ≠ lat key) → Wp (d + 1) 37 107 [some (.ref 20), some (.int (nI kd)), some (.int (nI len)), none, some (.long (lN (lp la))), none, some (.int (nI to)), some (.long (lN key)), none, some (.int (nI (40 * to + w.1))), some (.int (nI (40 * to + os w key))), some (.int (nI (40 * to + x)))] [] (xK 2 L, P, I, J, xFr 2 c s0) Q := by
    intro v
    induction v with
    | zero =>
      intro x hv h1 h2 h3
      have ex : x = w.1 := by omega
      subst ex
      have eg : og w key = w.1 := by
        unfold og
        refine fi_eq (Nat.le_refl _) (fun s' hs' => decide_eq_false (h3 s' hs')) (fun z => by omega)
      refine wX4_lead_107 (f4 := 28) (xK_lt hf hL) rfl rfl rfl (br1 (by first | (rw [nI_ltI (by omega) (by omega)]; omega) | (rw [nI_leI (by omega) (by omega)]; omega) | (rw [nI_eq (by omega) (by omega)]; omega) | (rw [nI_e0 (by omega)]; omega) | (rw [nI_le0 (by omega)]; omega)) (bn2 rfl (p_makeRoomC hL hton hn hN hK7 hK2 h0.1 (by omega) (fun hlt => ⟨_, _, _, rfl, ?_⟩) (fun hnl => ⟨_, _, _, rfl, ?_⟩))))
      all_goals try dsimp only
      · try dsimp only
        rw [hKK] at hlt
        refine bn1 (by decide) ?_
        have a1 : xag I (xup I 30 to (nI (w.1 + 1))) [30] := xag.rfl.up (by simp)
        refine ins _ (w.1 + 1) w.1 w.2.2 ⟨a1.wd (by simp), fun _ _ _ => rfl, fun j hj => ⟨by rw [xup_at, if_neg hj], by rw [xup_ne _ _ _ (by decide)], rfl⟩, fun b _ => ⟨rfl, by rw [xup_ne _ _ _ (by decide)]⟩⟩ (a1 20 (by decide)) (a1 5 (by decide)) (by rw [xup_at, if_pos rfl]) (a1 29 (by decide)) (fun z => by rw [xup_ne _ _ _ (by decide)]; exact h0.2.2.1 z) hos (by omega) (by omega) (Nat.le_refl _) (Or.inr ⟨rfl, rfl⟩) ?_ (fun z => z)
        unfold op
        rw [if_neg (by show ¬ og w key < os w key; omega), if_neg (by show ¬ og w key < w.1; omega), if_pos hlt]
      · try dsimp only
        rw [hKK] at hnl
        have hwK : w.1 = KK := by omega
        refine bn2 (by decide) ?_
        rw [xm1, pk_sub (by omega), show 40 * to + w.1 - 1 = 40 * to + (w.1 - 1) by omega]
        -- the store with the mark
        have hst : ∃ I1, (if to < n then xup I 31 to (nI 1) else I) = I1 ∧ FC I I1 J J to ∧ I1 20 = I 20 ∧ I1 5 = I 5 ∧ I1 30 = I 30 ∧ I1 29 = I 29 ∧ (to < n → I1 31 to = nI 1) := by
          by_cases z : to < n
          · have a1 : xag I (xup I 31 to (nI 1)) [31] := xag.rfl.up (by simp)
            exact ⟨xup I 31 to (nI 1), if_pos z, ⟨a1.wd (by simp), fun _ _ _ => rfl, fun j hj => ⟨by rw [xup_ne _ _ _ (by decide)], by rw [xup_at, if_neg hj], rfl⟩, fun b _ => ⟨rfl, by rw [xup_ne _ _ _ (by decide)]⟩⟩, a1 20 (by decide), a1 5 (by decide), a1 30 (by decide), a1 29 (by decide), fun _ => by rw [xup_at, if_pos rfl]⟩
          · exact ⟨I, if_neg z, FC.rfl, rfl, rfl, rfl, rfl, fun z2 => absurd z2 z⟩
        obtain ⟨I1, e1, f1, e20, e5, e30, e29, h31⟩ := hst
        rw [e1]
        by_cases c4 : os w key < w.1
        · refine ins I1 w.1 (w.1 - 1) true f1 e20 e5 (by rw [e30]; exact h0.1) e29 (fun z => h31 z) (by omega) (by omega) (by omega) (by omega) (Or.inl (Nat.le_refl _)) ?_ (fun _ => rfl)
          unfold op
          rw [if_neg (by show ¬ og w key < os w key; omega), if_neg (by show ¬ og w key < w.1; omega), if_neg (by omega), if_pos (by show os w key < w.1; exact c4)]
        · have hop : op KK w (key, r, len, kd) = (w.1, w.2.1, true) := by
            unfold op
            rw [if_neg (by show ¬ og w key < os w key; omega), if_neg (by show ¬ og w key < w.1; omega), if_neg (by omega), if_neg (by show ¬ os w key < w.1; exact c4)]
          refine wX4_lead_156 (f2 := 31) (xK_lt hf hL) rfl rfl rfl rfl rfl (br1 (by first | (rw [nI_ltI (by omega) (by omega)]; omega) | (rw [nI_leI (by omega) (by omega)]; omega) | (rw [nI_eq (by omega) (by omega)]; omega) | (rw [nI_e0 (by omega)]; omega) | (rw [nI_le0 (by omega)]; omega)) ?_)
          exact fin I1 J (w.1, w.2.1, true) f1 (by show 1 ≤ w.1; omega) (by show w.1 ≤ 40; omega) (by rw [e30]; exact h0.1) (fun s hs => by rw [e29]; exact h0.2.1 s hs) (fun z => h31 z) hop.symm (Or.inl (Or.inr rfl))
    | succ v ih =>
      intro x hv h1 h2 h3
      have hx := h0.2.1 x (by omega)
      have hxE := hE x (by omega)
      have hll : lat (w.2.1 x).1 < 2 ^ 36 := Nat.mod_lt _ (by decide)
      refine wX4_lead_107 (f4 := 28) (xK_lt hf hL) rfl rfl rfl (br2 (by first | (rw [nI_ltI (by omega) (by omega)]; omega) | (rw [nI_leI (by omega) (by omega)]; omega) | (rw [nI_eq (by omega) (by omega)]; omega) | (rw [nI_e0 (by omega)]; omega) | (rw [nI_le0 (by omega)]; omega)) ⟨40 * to + x, rfl, by omega, ?_⟩)
      rw [hx.1, xmask (by omega)]
      refine brc (cEQ (by omega) (by omega)) (fun h => ?_) (fun h => ?_)
      · have eg : og w key = x := by
          unfold og
          refine fi_eq (by omega) (fun s' hs' => decide_eq_false (h3 s' hs')) (fun _ => decide_eq_true (by rw [hlat]; exact h))
        refine bn1 (by first | (rw [nI_ltI (by omega) (by omega)]; omega) | (rw [nI_leI (by omega) (by omega)]; omega) | (rw [nI_eq (by omega) (by omega)]; omega) | (rw [nI_e0 (by omega)]; omega) | (rw [nI_le0 (by omega)]; omega)) ?_
        refine ins I w.1 x w.2.2 FC.rfl rfl rfl h0.1 rfl h0.2.2.1 h1 (by omega) (by omega) (by omega) (Or.inl (Nat.le_refl _)) ?_ (fun z => z)
        unfold op
        rw [if_neg (by show ¬ og w key < os w key; omega), if_pos (by show og w key < w.1; omega)]
        show (w.1, sh w.2.1 (os w key) (og w key) _, _) = _
        rw [eg]
      · rw [nI_add]
        refine ih (x + 1) (by omega) (by omega) (by omega) (fun s hs => ?_)
        by_cases b : s = x
        · rw [b, hlat]
          exact h
        · exact h3 s (by omega)
  -- the spot
  have spot : ∀ v x, w.1 - x = v → x ≤ os w key → (∀ s, s < x → lat (w.2.1 s).1 ≠ lat key) → Wp (d + 1) 37 59 [some (.ref 20), some (.int (nI kd)), some (.int (nI len)), none, some (.long (lN (lp la))), none, some (.int (nI to)), some (.long (lN key)), none, some (.int (nI (40 * to + w.1))), some (.int (nI (40 * to + x))), none] [] (xK 2 L, P, I, J, xFr 2 c s0) Q := by
    intro v
    induction v with
    | zero =>
      intro x hv h1 h2
      have ex : x = w.1 := by omega
      have es : os w key = x := by omega
      refine wX4_lead_59 (f1 := 28) (xK_lt hf hL) rfl rfl rfl (br1 (by first | (rw [nI_ltI (by omega) (by omega)]; omega) | (rw [nI_leI (by omega) (by omega)]; omega) | (rw [nI_eq (by omega) (by omega)]; omega) | (rw [nI_e0 (by omega)]; omega) | (rw [nI_le0 (by omega)]; omega)) ?_)
      have := gap 0 x (by omega) (by omega) (by omega) h2
      rw [es] at this
      exact this
    | succ v ih =>
      intro x hv h1 h2
      have hx := h0.2.1 x (by omega)
      have hxE := hE x (by omega)
      have hll : lat (w.2.1 x).1 < 2 ^ 36 := Nat.mod_lt _ (by decide)
      refine wX4_lead_59 (f1 := 28) (xK_lt hf hL) rfl rfl rfl (br2 (by first | (rw [nI_ltI (by omega) (by omega)]; omega) | (rw [nI_leI (by omega) (by omega)]; omega) | (rw [nI_eq (by omega) (by omega)]; omega) | (rw [nI_e0 (by omega)]; omega) | (rw [nI_le0 (by omega)]; omega)) ⟨40 * to + x, rfl, by omega, ?_⟩)
      rw [hx.1]
      refine brc (cGT (by omega) (by omega)) (fun h => ?_) (fun h => ⟨40 * to + x, rfl, by omega, ?_⟩)
      · have es : os w key = x := by
          by_cases b : x < os w key
          · have := os_lt b
            omega
          · omega
        have := gap (v + 1) x (by omega) (by omega) (by omega) h2
        rw [es] at this
        exact this
      · have hlt : x < os w key := by
          by_cases b : x < os w key
          · exact b
          · have := hw.ge (k := key) (s := x) (by omega) (by omega)
            omega
        rw [hx.1, xmask (by omega)]
        refine brd (cEQ (by omega) (by omega)) (fun h3 => ?_) (fun h3 => ?_)
        · rw [nI_add]
          refine ih (x + 1) (by omega) (by omega) (fun s hs => ?_)
          by_cases b : s = x
          · rw [b, hlat]
            exact h3
          · exact h2 s (by omega)
        · have eg : og w key = x := by
            unfold og
            refine fi_eq (by omega) (fun s' hs' => decide_eq_false (h2 s' hs')) (fun _ => decide_eq_true (by rw [hlat]; exact h3))
          refine k I J FC.rfl ?_
          have hop : op KK w (key, r, len, kd) = w := by
            unfold op
            rw [if_pos (by show og w key < os w key; omega)]
          rw [hop]
          exact h0
  refine wX4_lead_0 (f1 := 32) (f3 := 30) (xK_lt hf hL) rfl rfl rfl rfl rfl ?_
  rw [hp, hto2, hkey]
  refine ⟨to, rfl, by omega, ?_⟩
  rw [h0.2.2.2]
  refine brc (cLE (by omega) (by omega)) (fun h => ⟨to, rfl, by omega, ?_⟩) (fun h => ?_)
  · rw [h0.1, pk_mul, nI_add, Nat.mul_comm to 40]
    exact spot _ 0 rfl (Nat.zero_le _) (fun s hs => by omega)
  · -- above the bound: nothing changes
    refine k I J FC.rfl ?_
    have hcc : (to = n ∧ w.1 ≠ 0) ∨ (to < n ∧ w.2.2 = true) := by
      by_cases z : (to = n ∧ w.1 ≠ 0) ∨ (to < n ∧ w.2.2 = true)
      · exact z
      · unfold bnd at h
        rw [if_neg z] at h
        omega
    have hbd : bnd n to w = (w.2.1 (w.1 - 1)).1 := by
      unfold bnd
      rw [if_pos hcc]
    have hw1 : 1 ≤ w.1 := by
      rcases hcc with z | z
      · omega
      · have := hw.2.2.2 z.2
        omega
    have hlast : w.1 - 1 < os w key := by
      by_cases b : w.1 - 1 < os w key
      · exact b
      · have := hw.ge (k := key) (s := w.1 - 1) (by omega) (by omega)
        omega
    have hfull : w.1 = KK := by
      rcases hcc with z | z
      · rw [if_pos z.1] at hKK
        omega
      · exact hw.2.2.2 z.2
    by_cases c1 : og w key < os w key
    · have hop : op KK w (key, r, len, kd) = w := by
        unfold op
        rw [if_pos (by show og w key < os w key; exact c1)]
      rw [hop]
      exact h0
    · have hop : op KK w (key, r, len, kd) = (w.1, w.2.1, true) := by
        unfold op
        rw [if_neg (by show ¬ og w key < os w key; exact c1), if_neg (by show ¬ og w key < w.1; omega), if_neg (by omega), if_neg (by show ¬ os w key < w.1; omega)]
      rw [hop]
      refine ⟨h0.1, h0.2.1, fun z => ?_, ?_⟩
      · rcases hcc with z2 | z2
        · omega
        · have := h0.2.2.1 z
          rw [if_pos z2.2] at this
          exact this
      · rw [h0.2.2.2, hbd]
        unfold bnd
        rw [if_pos]
        rcases hcc with z | z
        · exact Or.inl z
        · exact Or.inr ⟨z.1, rfl⟩
end WDC
