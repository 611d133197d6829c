/-! THE OPERATIONS: costs, keep, clear, parse -/
def upV (V : Nat → Nat → Nat) (k s w : Nat) : Nat → Nat → Nat := fun a b => if a = k ∧ b = s then w else V a b
def PrOk (f : Nat) (x y : Int32) (k s : Nat) : Prop := x = nI k ∧ k < xcl f ∧ y = nI s ∧ s < SY k
def CoOk (f : Nat) (x y v : Int32) (k s w : Nat) : Prop := PrOk f x y k s ∧ v = nI w ∧ 1 ≤ w ∧ w ≤ 10000
theorem upV_VB {V : Nat → Nat → Nat} (h : VB V) {k s w : Nat} (h1 : 1 ≤ w) (h2 : w ≤ 10000) : VB (upV V k s w) := fun a b ha hb => by
  unfold upV
  split
  · exact ⟨h1, h2⟩
  · exact h a b ha hb
theorem PrOk.eq {f : Nat} {x y : Int32} {k s k' s' : Nat} (h : PrOk f x y k s) (h1 : k' < xcl f) (h2 : s' < SY k') (h3 : x = nI k') (h4 : y = nI s') : k' = k ∧ s' = s := by
  have hx := xcl_le f
  have h5 := (SY_BS k (by have := h.2.1; omega)).2
  have h6 := (SY_BS k' (by omega)).2
  refine ⟨(nI_eq (by omega) (by have := h.2.1; omega)).mp (by rw [← h3]; exact h.1), (nI_eq (by omega) (by have := h.2.2.2; omega)).mp (by rw [← h4]; exact h.2.2.1)⟩
theorem noCost {v : Int32} (h : ∀ w, 1 ≤ w → w ≤ 10000 → v ≠ nI w) : v < nI 1 ∨ ¬ v ≤ nI 10000 := by
  rcases nI_ix v (n := 10001) (by decide) with ⟨j, hj, hx⟩ | hx | hx
  · left
    have : ¬ 1 ≤ j := fun z => h j z (by omega) hx
    rw [hx, show j = 0 by omega]
    decide
  · left
    exact Int32.lt_trans hx (by decide)
  · right
    intro z
    have := Int32.le_trans hx z
    exact absurd this (by decide)
section OPC
variable {d f L c s n m kp : Nat} {t : Nat → Nat} {V : Nat → Nat → Nat} {Q : Option Value × xS → Prop} {P : List Nat × Nat × Nat} {I : Nat → Nat → Int32} {J : Nat → Nat → Int64}
theorem CI.put {k s' w : Nat} (h : CI I f n t V) (hk : k < 4) (hs : s' < SY k) (h1 : 1 ≤ w) (h2 : w ≤ 10000) : CI (xup I 11 (BS k + s') (nI w)) f n t (upV V k s' w) := by
  have ha : xag I (xup I 11 (BS k + s') (nI w)) [11] := xag.rfl.up (by simp)
  refine ⟨h.1.ag ha (by decide) (by decide) (by decide) (by decide) (by decide), ⟨?_, ?_, ?_, upV_VB h.2.1.2.2.2 h1 h2⟩, ?_, ?_, fun z => (h.2.2.2.2.1 z).ag ha (by decide), fun z => ?_⟩
  · intro k' hk'
    rw [xup_ne _ _ _ (by decide), xup_ne _ _ _ (by decide), xup_ne _ _ _ (by decide)]
    exact h.2.1.1 k' hk'
  · rw [xup_ne _ _ _ (by decide)]
    exact h.2.1.2.1
  · intro a b hab hb
    rw [xup_at]
    unfold upV
    by_cases e : a = k ∧ b = s'
    · rw [if_pos e, e.1, e.2, if_pos rfl]
    · rw [if_neg e, if_neg (fun z => e (BS_inj hab hk hb hs z))]
      exact h.2.1.2.2.1 a b hab hb
  · unfold SP
    rw [xup_ne _ _ _ (by decide)]
    exact h.2.2.1
  · rw [xup_ne _ _ _ (by decide)]
    exact h.2.2.2.1
  · rw [xup_ne _ _ _ (by decide)]
    exact h.2.2.2.2.2 z
theorem MV.put {k s' w : Nat} (h : MV I f V) (hk : k < 4) (hs : s' < SY k) (h1 : 1 ≤ w) (h2 : w ≤ 10000) : MV (xup I 64 (256 * k + s') (nI w)) f (upV V k s' w) := by
  refine ⟨by rw [xup_ne _ _ _ (by decide)]; exact h.1, fun a b ha hb => ?_, upV_VB h.2.2 h1 h2⟩
  have h3 := (SY_BS k hk).2
  have h4 := (SY_BS a ha).2
  rw [xup_at]
  unfold upV
  by_cases e : a = k ∧ b = s'
  · rw [if_pos e, e.1, e.2, if_pos rfl]
  · rw [if_neg e, if_neg (by omega)]
    exact h.2.1 a b ha hb
theorem p_costC1 (hf : f < 3) (hL : L < 2147483648) (hC : CI I f n t V) {x y v : Int32} {k' s' w : Nat} (ho : CoOk f x y v k' s' w) (k : Q (some (.int (nI (V k' s'))), (xK f L, P, xup I 11 (BS k' + s') (nI w), J, xFr f c s))) : Wp (d + 2) 75 0 [some (.ref 4), some (.int x), some (.int y), some (.int v), none] [] (xK f L, P, I, J, xFr f c s) Q := by
  obtain ⟨⟨hx, hk, hy, hs⟩, hv, h1, h2⟩ := ho
  subst hx hy hv
  refine wX10_cost_0 rfl rfl rfl (p_hasC hf hL hC.2.1 (fun a b z1 z2 z3 z4 => ⟨_, _, _, rfl, ?_⟩) (fun z => absurd rfl (z k' s' hk hs rfl)))
  all_goals try dsimp only
  refine br2 (by decide) (br2 (by first | (rw [nI_ltI (by omega) (by omega)]; omega) | (rw [nI_leI (by omega) (by omega)]; omega) | (rw [nI_eq (by omega) (by omega)]; omega) | (rw [nI_e0 (by omega)]; omega) | (rw [nI_le0 (by omega)]; omega)) (br1 (by first | (rw [nI_ltI (by omega) (by omega)]; omega) | (rw [nI_leI (by omega) (by omega)]; omega) | (rw [nI_eq (by omega) (by omega)]; omega) | (rw [nI_e0 (by omega)]; omega) | (rw [nI_le0 (by omega)]; omega)) ?_))
  refine p_ofX hf hL hC.2.1 hk hs ⟨_, _, _, rfl, ?_⟩
  all_goals try dsimp only
  exact p_putC hf hL hC.2.1 hk hs ⟨_, _, rfl, k⟩
theorem p_costC0 (hf : f < 3) (hL : L < 2147483648) (hC : CI I f n t V) {x y v : Int32} (ho : ∀ k s w, ¬ CoOk f x y v k s w) (k : Q (some (.int (-1)), (xK f L, P, I, J, xFr f c s))) : Wp (d + 2) 75 0 [some (.ref 4), some (.int x), some (.int y), some (.int v), none] [] (xK f L, P, I, J, xFr f c s) Q := by
  refine wX10_cost_0 rfl rfl rfl (p_hasC hf hL hC.2.1 (fun a b z1 z2 z3 z4 => ⟨_, _, _, rfl, ?_⟩) (fun z => ⟨_, _, _, rfl, br1 rfl k⟩))
  all_goals try dsimp only
  refine br2 (by decide) ⟨fun _ => k, fun hv1 => ?_⟩
  rcases noCost (v := v) (fun w h1 h2 h3 => ho a b w ⟨⟨z3, z1, z4, z2⟩, h3, h1, h2⟩) with z | z
  · exact absurd z hv1
  · exact br2 z k
theorem p_priceC1 (hf : f < 3) (hL : L < 2147483648) (hC : CI I f n t V) {x y : Int32} {k' s' : Nat} (ho : PrOk f x y k' s') (k : Q (some (.int (nI (V k' s'))), (xK f L, P, I, J, xFr f c s))) : Wp (d + 2) 76 0 [some (.ref 4), some (.int x), some (.int y)] [] (xK f L, P, I, J, xFr f c s) Q := by
  obtain ⟨hx, hk, hy, hs⟩ := ho
  subst hx hy
  refine wX10_price_0 rfl rfl rfl (p_hasC hf hL hC.2.1 (fun a b z1 z2 z3 z4 => ⟨_, _, _, rfl, ?_⟩) (fun z => absurd rfl (z k' s' hk hs rfl)))
  all_goals try dsimp only
  exact br2 (by decide) (p_ofX hf hL hC.2.1 hk hs ⟨_, _, _, rfl, k⟩)
theorem p_priceC0 (hf : f < 3) (hL : L < 2147483648) (hC : CI I f n t V) {x y : Int32} (ho : ∀ k s, ¬ PrOk f x y k s) (k : Q (some (.int (-1)), (xK f L, P, I, J, xFr f c s))) : Wp (d + 2) 76 0 [some (.ref 4), some (.int x), some (.int y)] [] (xK f L, P, I, J, xFr f c s) Q := by
  refine wX10_price_0 rfl rfl rfl (p_hasC hf hL hC.2.1 (fun a b z1 z2 z3 z4 => absurd ⟨z3, z1, z4, z2⟩ (ho a b)) (fun z => ⟨_, _, _, rfl, br1 rfl k⟩))
  all_goals try dsimp only
theorem xup0_MV {v : Int32} (h : MV I f V) : MV (xup I 59 0 v) f V := ⟨by rw [xup_at, if_neg (by decide)]; exact h.1, by rw [xup_ne _ _ _ (by decide)]; exact h.2.1, h.2.2⟩
theorem p_costM1 (hf : f < 3) (hL : L < 2147483648) (hM : MV I f V) {x y v : Int32} {k' s' w : Nat} (ho : CoOk f x y v k' s' w) (k : Q (some (.int (nI (V k' s'))), (xK f L, P, xup (xup I 59 0 (nI 0)) 64 (256 * k' + s') (nI w), J, xFr f c s))) : Wp (d + 2) 104 0 [some (.ref 59), some (.int x), some (.int y), some (.int v), none] [] (xK f L, P, I, J, xFr f c s) Q := by
  obtain ⟨⟨hx, hk, hy, hs⟩, hv, h1, h2⟩ := ho
  subst hx hy hv
  have hM0 := xup0_MV (v := nI 0) hM
  have hx4 := xcl_le f
  have hsy := (SY_BS k' (by omega)).2
  refine wX11_cost_0 (xK_lt hf hL) rfl rfl rfl (p_isCostM hf hM0.1 (fun a b z1 z2 z3 z4 => ⟨_, _, _, rfl, ?_⟩) (fun z => absurd rfl (z k' s' hk hs rfl)))
  all_goals try dsimp only
  refine br2 (by decide) (br2 (by first | (rw [nI_ltI (by omega) (by omega)]; omega) | (rw [nI_leI (by omega) (by omega)]; omega) | (rw [nI_eq (by omega) (by omega)]; omega) | (rw [nI_e0 (by omega)]; omega) | (rw [nI_le0 (by omega)]; omega)) (br1 (by first | (rw [nI_ltI (by omega) (by omega)]; omega) | (rw [nI_leI (by omega) (by omega)]; omega) | (rw [nI_eq (by omega) (by omega)]; omega) | (rw [nI_e0 (by omega)]; omega) | (rw [nI_le0 (by omega)]; omega)) ⟨256 * k' + s', by rw [pk_mul, nI_add], by omega, 256 * k' + s', by rw [pk_mul, nI_add], by omega, ?_⟩))
  rw [hM0.2.1 k' s' (by omega) hs]
  exact k
theorem p_costM0 (hf : f < 3) (hL : L < 2147483648) (hM : MV I f V) {x y v : Int32} (ho : ∀ k s w, ¬ CoOk f x y v k s w) (k : Q (some (.int (-1)), (xK f L, P, xup I 59 0 (nI 0), J, xFr f c s))) : Wp (d + 2) 104 0 [some (.ref 59), some (.int x), some (.int y), some (.int v), none] [] (xK f L, P, I, J, xFr f c s) Q := by
  have hM0 := xup0_MV (v := nI 0) hM
  refine wX11_cost_0 (xK_lt hf hL) rfl rfl rfl (p_isCostM hf hM0.1 (fun a b z1 z2 z3 z4 => ⟨_, _, _, rfl, ?_⟩) (fun z => ⟨_, _, _, rfl, br1 rfl k⟩))
  all_goals try dsimp only
  refine br2 (by decide) ⟨fun _ => k, fun hv1 => ?_⟩
  rcases noCost (v := v) (fun w h1 h2 h3 => ho a b w ⟨⟨z3, z1, z4, z2⟩, h3, h1, h2⟩) with z | z
  · exact absurd z hv1
  · exact br2 z k
theorem p_priceM1 (hf : f < 3) (hL : L < 2147483648) (hM : MV I f V) {x y : Int32} {k' s' : Nat} (ho : PrOk f x y k' s') (k : Q (some (.int (nI (V k' s'))), (xK f L, P, xup I 59 0 (nI 0), J, xFr f c s))) : Wp (d + 2) 105 0 [some (.ref 59), some (.int x), some (.int y)] [] (xK f L, P, I, J, xFr f c s) Q := by
  obtain ⟨hx, hk, hy, hs⟩ := ho
  subst hx hy
  have hM0 := xup0_MV (v := nI 0) hM
  have hx4 := xcl_le f
  have hsy := (SY_BS k' (by omega)).2
  refine wX11_price_0 (xK_lt hf hL) rfl rfl rfl (p_isCostM hf hM0.1 (fun a b z1 z2 z3 z4 => ⟨_, _, _, rfl, ?_⟩) (fun z => absurd rfl (z k' s' hk hs rfl)))
  all_goals try dsimp only
  refine br2 (by decide) ⟨256 * k' + s', by rw [pk_mul, nI_add], by omega, ?_⟩
  rw [hM0.2.1 k' s' (by omega) hs]
  exact k
theorem p_priceM0 (hf : f < 3) (hL : L < 2147483648) (hM : MV I f V) {x y : Int32} (ho : ∀ k s, ¬ PrOk f x y k s) (k : Q (some (.int (-1)), (xK f L, P, xup I 59 0 (nI 0), J, xFr f c s))) : Wp (d + 2) 105 0 [some (.ref 59), some (.int x), some (.int y)] [] (xK f L, P, I, J, xFr f c s) Q := by
  have hM0 := xup0_MV (v := nI 0) hM
  exact wX11_price_0 (xK_lt hf hL) rfl rfl rfl (p_isCostM hf hM0.1 (fun a b z1 z2 z3 z4 => absurd ⟨z3, z1, z4, z2⟩ (ho a b)) (fun z => ⟨_, _, _, rfl, br1 rfl k⟩))
/-! keep -/
def KeOk (f : Nat) (x : Int32) (k : Nat) : Prop := f = 2 ∧ x = nI k ∧ 1 ≤ k ∧ k ≤ 40
theorem noKe {x : Int32} (hf : f < 3) (h : ∀ k, ¬ KeOk f x k) : x < nI 1 ∨ nI 40 < x ∨ f ≠ 2 := by
  by_cases e : f = 2
  · rcases nI_ix x (n := 41) (by decide) with ⟨j, hj, hx⟩ | hx | hx
    · left
      have : ¬ 1 ≤ j := fun z => h j ⟨e, hx, z, by omega⟩
      rw [hx, show j = 0 by omega]
      decide
    · left
      exact Int32.lt_trans hx (by decide)
    · right; left
      exact Int32.lt_of_lt_of_le (by decide) hx
  · exact Or.inr (Or.inr e)
theorem p_keepC1 (hf : f < 3) (h4 : I 4 0 = nI f) (hk : I 4 10 = nI kp) {x : Int32} {k' : Nat} (ho : KeOk f x k') (k : Q (some (.int (nI kp)), (xK f L, P, xup I 4 10 (nI k'), J, xFr f c s))) : Wp d 77 0 [some (.ref 4), some (.int x), none] [] (xK f L, P, I, J, xFr f c s) Q := by
  obtain ⟨hf2, hx, h1, h2⟩ := ho
  subst hx hf2
  refine wX10_keep_0 rfl (br2 (by first | (rw [nI_ltI (by omega) (by omega)]; omega) | (rw [nI_leI (by omega) (by omega)]; omega) | (rw [nI_eq (by omega) (by omega)]; omega) | (rw [nI_e0 (by omega)]; omega) | (rw [nI_le0 (by omega)]; omega)) (br2 (by first | (rw [nI_ltI (by omega) (by omega)]; omega) | (rw [nI_leI (by omega) (by omega)]; omega) | (rw [nI_eq (by omega) (by omega)]; omega) | (rw [nI_e0 (by omega)]; omega) | (rw [nI_le0 (by omega)]; omega)) (br1 h4 ?_)))
  rw [hk]
  exact k
theorem p_keepC0 (hf : f < 3) (h4 : I 4 0 = nI f) {x : Int32} (ho : ∀ k, ¬ KeOk f x k) (k : Q (some (.int (-1)), (xK f L, P, I, J, xFr f c s))) : Wp d 77 0 [some (.ref 4), some (.int x), none] [] (xK f L, P, I, J, xFr f c s) Q := by
  refine wX10_keep_0 rfl ⟨fun _ => k, fun h1 => ⟨fun _ => k, fun h2 => ⟨fun h3 => ?_, fun _ => k⟩⟩⟩
  rcases noKe hf ho with z | z | z
  · exact absurd z h1
  · exact absurd z h2
  · rw [h4] at h3
    exact absurd ((nI_eq (by omega) (by omega)).mp h3) z
theorem p_keepM1 (hf : f < 3) (h4 : I 59 1 = nI f) (hk : I 59 5 = nI kp) {x : Int32} {k' : Nat} (ho : KeOk f x k') (k : Q (some (.int (nI kp)), (xK f L, P, xup (xup I 59 0 (nI 0)) 59 5 (nI k'), J, xFr f c s))) : Wp d 106 0 [some (.ref 59), some (.int x), none] [] (xK f L, P, I, J, xFr f c s) Q := by
  obtain ⟨hf2, hx, h1, h2⟩ := ho
  subst hx hf2
  refine wX11_keep_0 rfl (br2 (by first | (rw [nI_ltI (by omega) (by omega)]; omega) | (rw [nI_leI (by omega) (by omega)]; omega) | (rw [nI_eq (by omega) (by omega)]; omega) | (rw [nI_e0 (by omega)]; omega) | (rw [nI_le0 (by omega)]; omega)) (br2 (by first | (rw [nI_ltI (by omega) (by omega)]; omega) | (rw [nI_leI (by omega) (by omega)]; omega) | (rw [nI_eq (by omega) (by omega)]; omega) | (rw [nI_e0 (by omega)]; omega) | (rw [nI_le0 (by omega)]; omega)) (br1 (by rw [xup_at, if_neg (by decide)]; exact h4) ?_)))
  rw [show xup I 59 0 (nI 0) 59 5 = nI kp by rw [xup_at, if_neg (by decide)]; exact hk]
  exact k
theorem p_keepM0 (hf : f < 3) (h4 : I 59 1 = nI f) {x : Int32} (ho : ∀ k, ¬ KeOk f x k) (k : Q (some (.int (-1)), (xK f L, P, xup I 59 0 (nI 0), J, xFr f c s))) : Wp d 106 0 [some (.ref 59), some (.int x), none] [] (xK f L, P, I, J, xFr f c s) Q := by
  refine wX11_keep_0 rfl ⟨fun _ => k, fun h1 => ⟨fun _ => k, fun h2 => ⟨fun h3 => ?_, fun _ => k⟩⟩⟩
  rcases noKe hf ho with z | z | z
  · exact absurd z h1
  · exact absurd z h2
  · rw [xup_at, if_neg (by decide), h4] at h3
    exact absurd ((nI_eq (by omega) (by omega)).mp h3) z
end OPC
/-! the costs at first -/
def V0 : Nat → Nat → Nat := fun k _ => A1 k
theorem V0_VB : VB V0 := fun k s hk _ => by
  show 1 ≤ A1 k ∧ A1 k ≤ 10000
  rcases (by omega : k = 0 ∨ k = 1 ∨ k = 2 ∨ k = 3) with rfl | rfl | rfl | rfl <;> decide
section RES
variable {d : Nat} {Q : Option Value × xS → Prop} {K : Nat → Nat × Nat} {P : List Nat × Nat × Nat} {I : Nat → Nat → Int32} {J : Nat → Nat → Int64} {F : Nat → Nat → Option Nat}
theorem p_resetG (hK : ∀ {a k n : Nat}, K a = (k, n) → n < 2147483648) {a v na : Nat} (h1 : K a = (2, na)) (h2 : F a 1 = some v) (h3 : K v = (100, 315)) (k1 : K 1 = (103, 4)) (k2 : K 2 = (103, 4)) (k3 : K 3 = (103, 4)) (hS : ST I) (k : ∀ I', xag I I' [v] → CV I' v V0 → Q (none, (K, P, I', J, F))) : Wp (d + 2) 8 0 [some (.ref a), none] [] (K, P, I, J, F) Q := by
  have hv : v ≠ 1 ∧ v ≠ 2 ∧ v ≠ 3 := by
    refine ⟨fun e => ?_, fun e => ?_, fun e => ?_⟩
    · rw [e, k1] at h3; cases h3
    · rw [e, k2] at h3; cases h3
    · rw [e, k3] at h3; cases h3
  have loop : ∀ w i I1, 4 - i = w → i ≤ 4 → xag I I1 [v] → (∀ k s, k < i → s < SY k → I1 v (BS k + s) = nI (A1 k)) → Wp (d + 2) 8 2 [some (.ref a), some (.int (nI i))] [] (K, P, I1, J, F) Q := by
    intro w
    induction w with
    | zero =>
      intro i I1 hw hi ha hc
      exact wX1_reset_2 hK h1 h2 k2 k1 k3 (br1 (by first | (rw [nI_ltI (by omega) (by omega)]; omega) | (rw [nI_leI (by omega) (by omega)]; omega) | (rw [nI_eq (by omega) (by omega)]; omega) | (rw [nI_e0 (by omega)]; omega) | (rw [nI_le0 (by omega)]; omega)) (k I1 ha (fun k' s' z1 z2 => hc k' s' (by omega) z2)))
    | succ w ih =>
      intro i I1 hw hi ha hc
      have hi4 : i < 4 := by omega
      have hst : ST I1 := fun k' hk' => by
        rw [ha 1 (by simp; omega), ha 2 (by simp; omega), ha 3 (by simp; omega)]
        exact hS k' hk'
      have hsb := SY_BS i hi4
      have hs := hst i hi4
      refine wX1_reset_2 hK h1 h2 k2 k1 k3 (br2 (by first | (rw [nI_ltI (by omega) (by omega)]; omega) | (rw [nI_leI (by omega) (by omega)]; omega) | (rw [nI_eq (by omega) (by omega)]; omega) | (rw [nI_e0 (by omega)]; omega) | (rw [nI_le0 (by omega)]; omega)) ⟨i, rfl, by omega, i, rfl, by omega, i, rfl, by omega, i, rfl, by omega, ?_⟩)
      rw [hs.1, hs.2.1, hs.2.2, nI_add (BS i) (SY i)]
      refine p_fillP (K := K) (a := v) (len := 315) hK h3 (u := BS i) (v := BS i + SY i) (by omega) (by omega) (fun I2 b1 b2 => ⟨_, _, rfl, ?_⟩)
      all_goals try dsimp only
      try dsimp only
      rw [nI_add]
      refine ih (i + 1) I2 (by omega) (by omega) (ha.tr b1 (by simp)) (fun k' s' z1 z2 => ?_)
      rw [b2]
      by_cases e : k' = i
      · rw [e] at z2 ⊢
        rw [if_pos ⟨by omega, by omega⟩]
      · rw [if_neg (fun z => e (BS_inj (s' := BS k' + s' - BS i) (by omega) hi4 z2 (by omega) (by omega)).1)]
        exact hc k' s' (by omega) z2
  exact wX1_reset_0 (loop 4 0 I rfl (by omega) xag.rfl (fun k' s' z => by omega))
theorem p_startG (hK : ∀ {a k n : Nat}, K a = (k, n) → n < 2147483648) {na : Nat} (h1 : K 59 = (10, na)) (h2 : F 59 4 = some 64) (h3 : K 64 = (100, 1024)) (k : ∀ I', xag I I' [59, 64] → (∀ q, q ≠ 5 → I' 59 q = I 59 q) → I' 59 5 = nI 8 → (∀ k s, k < 4 → s < SY k → I' 64 (256 * k + s) = nI (V0 k s)) → Q (none, (K, P, I', J, F))) : Wp d 98 0 [some (.ref 59), none] [] (K, P, I, J, F) Q := by
  have loop : ∀ w i I1, 1024 - i = w → i ≤ 1024 → xag I I1 [64] → (∀ j, j < i → I1 64 j = nI (if j < 256 then 512 else if j < 768 then 320 else 64)) → Wp d 98 2 [some (.ref 59), some (.int (nI i))] [] (K, P, I1, J, F) Q := by
    intro w
    induction w with
    | zero =>
      intro i I1 hw hi ha hc
      refine wX11_start_2 hK h1 h2 h3 (br1 (by first | (rw [nI_ltI (by omega) (by omega)]; omega) | (rw [nI_leI (by omega) (by omega)]; omega) | (rw [nI_eq (by omega) (by omega)]; omega) | (rw [nI_e0 (by omega)]; omega) | (rw [nI_le0 (by omega)]; omega)) (k _ (xag.up (ha.wd (by simp)) (by simp)) (fun q hq => by rw [xup_at, if_neg hq, ha 59 (by decide)]) (by rw [xup_at, if_pos rfl]) (fun k' s' z1 z2 => ?_)))
      have hsb := (SY_BS k' z1).2
      rw [xup_ne _ _ _ (by decide), hc _ (by omega)]
      congr 1
      show _ = A1 k'
      rcases (by omega : k' = 0 ∨ k' = 1 ∨ k' = 2 ∨ k' = 3) with rfl | rfl | rfl | rfl
      · have z3 : s' < 256 := z2
        rw [if_pos (by omega)]
        rfl
      · have z3 : s' < 32 := z2
        rw [if_neg (by omega), if_pos (by omega)]
        rfl
      · have z3 : s' < 20 := z2
        rw [if_neg (by omega), if_pos (by omega)]
        rfl
      · rw [if_neg (by omega), if_neg (by omega)]
        rfl
    | succ w ih =>
      intro i I1 hw hi ha hc
      have step : ∀ v, v = (if i < 256 then 512 else if i < 768 then 320 else 64) → Wp d 98 2 [some (.ref 59), some (.int (nI i + nI 1))] [] (K, P, xup I1 64 i (nI v), J, F) Q := by
        intro v hv
        rw [nI_add]
        refine ih (i + 1) _ (by omega) (by omega) (ha.up (by simp)) (fun j hj => ?_)
        rw [xup_at]
        by_cases e : j = i
        · rw [if_pos e, hv, e]
        · rw [if_neg e]
          exact hc j (by omega)
      refine wX11_start_2 hK h1 h2 h3 (br2 (by first | (rw [nI_ltI (by omega) (by omega)]; omega) | (rw [nI_leI (by omega) (by omega)]; omega) | (rw [nI_eq (by omega) (by omega)]; omega) | (rw [nI_e0 (by omega)]; omega) | (rw [nI_le0 (by omega)]; omega)) ?_)
      refine brc (nI_leI (by omega) (by omega)) (fun h => brc (nI_leI (by omega) (by omega)) (fun h' => ⟨i, rfl, by omega, step 64 (by rw [if_neg (by omega), if_neg (by omega)])⟩) (fun h' => ⟨i, rfl, by omega, step 320 (by rw [if_neg (by omega), if_pos (by omega)])⟩)) (fun h => ⟨i, rfl, by omega, step 512 (by rw [if_pos (by omega)])⟩)
  exact wX11_start_0 (loop 1024 0 I rfl (by omega) xag.rfl (fun j h => by omega))
end RES
