/-! COSTS FITTED, in the reference -/
section FITM
variable {d f L c s n p m : Nat} {t : Nat → Nat} {V U : Nat → Nat → Nat} {Q : Option Value × xS → Prop} {P : List Nat × Nat × Nat} {I : Nat → Nat → Int32} {J : Nat → Nat → Int64} {R : Nat → xSt}
theorem p_fitM_a (hf : f < 3) (hL : L < 2147483648) (k : ∀ I', xag I I' [99] → (∀ j, j < 1024 → I' 99 j = nI 0) → Wp d 144 24 [some (.ref 59), some (.int (nI 0)), none, none, none] [] (xK f L, P, I', J, xFr f c s) Q) : Wp d 144 0 [some (.ref 59), none, none, none, none] [] (xK f L, P, I, J, xFr f c s) Q := by
  have loop : ∀ w i I1, 1024 - i = w → i ≤ 1024 → xag I I1 [99] → (∀ j, j < i → I1 99 j = nI 0) → Wp d 144 2 [some (.ref 59), some (.int (nI i)), none, none, none] [] (xK f L, P, I1, J, xFr f c s) Q := by
    intro w
    induction w with
    | zero =>
      intro i I1 hw hi ha h1
      exact wX11_fit_2 (xK_lt hf hL) rfl rfl rfl (br1 (by first | (rw [nI_ltI (by omega) (by omega)]; omega) | (rw [nI_leI (by omega) (by omega)]; omega) | (rw [nI_eq (by omega) (by omega)]; omega) | (rw [nI_e0 (by omega)]; omega) | (rw [nI_le0 (by omega)]; omega)) (k I1 ha (fun j hj => h1 j (by omega))))
    | succ w ih =>
      intro i I1 hw hi ha h1
      refine wX11_fit_2 (xK_lt hf hL) rfl rfl rfl (br2 (by first | (rw [nI_ltI (by omega) (by omega)]; omega) | (rw [nI_leI (by omega) (by omega)]; omega) | (rw [nI_eq (by omega) (by omega)]; omega) | (rw [nI_e0 (by omega)]; omega) | (rw [nI_le0 (by omega)]; omega)) ⟨i, rfl, by omega, ?_⟩)
      rw [nI_add]
      refine ih (i + 1) _ (by omega) (by omega) (ha.up (by simp)) (fun j hj => ?_)
      rw [xup_at]
      by_cases e : j = i
      · rw [if_pos e]
      · rw [if_neg e]
        exact h1 j (by omega)
  exact wX11_fit_0  (loop 1024 0 I rfl (by omega) xag.rfl (fun j h => by omega))
theorem p_fitM_b (hf : f < 3) (hL : L < 2147483648) (hI : I 59 1 = nI f) (hT : MT I n t) (h0 : MA I m R) (hv : VS t f n m R) (hN : MN I (us f t R 0)) (k : ∀ I', xag I I' [99] → MN I' (us f t R m) → Wp (d + 3) 144 150 [some (.ref 59), some (.int (nI 0)), none, none, none] [] (xK f L, P, I', J, xFr f c s) Q) : Wp (d + 3) 144 24 [some (.ref 59), some (.int (nI 0)), none, none, none] [] (xK f L, P, I, J, xFr f c s) Q := by
  have hn := hT.2.1
  have hm := h0.2.1
  have loop : ∀ w i I1, m - i = w → i ≤ m → xag I I1 [99] → MN I1 (us f t R i) → Wp (d + 3) 144 24 [some (.ref 59), some (.int (nI i)), none, none, none] [] (xK f L, P, I1, J, xFr f c s) Q := by
    intro w
    induction w with
    | zero =>
      intro i I1 hw hi ha hN
      have e : i = m := by omega
      subst e
      have h1 := h0.ag ha (by decide)
      exact wX11_fit_24 (xK_lt hf hL) rfl rfl rfl rfl rfl rfl rfl rfl rfl rfl rfl (br1 (by rw [h1.1]; first | (rw [nI_ltI (by omega) (by omega)]; omega) | (rw [nI_leI (by omega) (by omega)]; omega) | (rw [nI_eq (by omega) (by omega)]; omega) | (rw [nI_e0 (by omega)]; omega) | (rw [nI_le0 (by omega)]; omega)) (k I1 ha hN))
    | succ w ih =>
      intro i I1 hw hi ha hN
      have him : i < m := by omega
      have h1 := h0.ag ha (by decide)
      have hrow := h1.2.2 i him
      have hok := (hv.1 i him).1
      have hos := okS_lt hok
      have hle := hv.le him
      have third : ∀ I2, xag I I2 [99] → MN I2 (cs2 f t (us f t R i) (R i)) → Wp (d + 3) 144 99 [some (.ref 59), some (.int (nI i)), some (.int (nI (R i).1)), none, none] [] (xK f L, P, I2, J, xFr f c s) Q := by
        intro I2 ha2 hN2
        have h2 := h0.ag ha2 (by decide)
        have hrow2 := h2.2.2 i him
        have hk7 : (R i).1 < SY 3 := by show (R i).1 < 7; omega
        refine wX11_fit_99 (xK_lt hf hL) rfl rfl rfl rfl rfl (brd (nI_eq (by omega) (by omega)) (fun h => ⟨768 + (R i).1, nI_add _ _, by omega, 768 + (R i).1, nI_add _ _, by omega, ?_⟩) (fun h => ⟨i, rfl, by omega, ?_⟩))
        · rw [nI_add, show I2 99 (768 + (R i).1) = nI (cs2 f t (us f t R i) (R i) 3 (R i).1) from hN2 3 (R i).1 (by decide) hk7, nI_add]
          refine ih (i + 1) _ (by omega) (by omega) (ha2.up (by simp)) ?_
          rw [us, ← cst_ref]
          unfold cs1 cs3
          rw [if_neg h]
          exact MN_inc hN2 (by decide) hk7
        · have hd : 1 ≤ (R i).2.2.2 ∧ (R i).2.2.2 ≤ (R i).2.1 := by
            rcases hok with z | z | z
            · omega
            · exact ⟨z.2.2.2.2.1, z.2.2.2.2.2.1⟩
            · omega
          rw [hrow2.2.2.2, pk_sub hd.1]
          have hxd := (xds_lt ((R i).2.2.2 - 1) (by omega)).1
          have hxd2 : xds ((R i).2.2.2 - 1) < SY 2 := hxd
          have hN3 := MN_inc hN2 (by decide) hxd2
          refine p_distanceSlotM (by omega) ⟨_, _, _, rfl, 512 + xds ((R i).2.2.2 - 1), nI_add _ _, by omega, 512 + xds ((R i).2.2.2 - 1), nI_add _ _, by omega, 768 + (R i).1, nI_add _ _, by omega, 768 + (R i).1, nI_add _ _, by omega, ?_⟩
          all_goals try dsimp only
          rw [show I2 99 (512 + xds ((R i).2.2.2 - 1)) = nI (cs2 f t (us f t R i) (R i) 2 (xds ((R i).2.2.2 - 1))) from hN2 2 _ (by decide) hxd2, nI_add, nI_add]
          have e3 := hN3 3 (R i).1 (by decide) hk7
          rw [show (256 * 2 + xds ((R i).2.2.2 - 1)) = 512 + xds ((R i).2.2.2 - 1) from rfl] at e3 hN3
          rw [show (256 * 3 + (R i).1) = 768 + (R i).1 from rfl] at e3
          rw [e3, nI_add]
          refine ih (i + 1) _ (by omega) (by omega) ((ha2.up (by simp)).up (by simp)) ?_
          rw [us, ← cst_ref]
          unfold cs1 cs3
          rw [if_pos h]
          exact MN_inc hN3 (by decide) hk7
      refine wX11_fit_24 (xK_lt hf hL) rfl rfl rfl rfl rfl rfl rfl rfl rfl rfl rfl (br2 (by rw [h1.1]; first | (rw [nI_ltI (by omega) (by omega)]; omega) | (rw [nI_leI (by omega) (by omega)]; omega) | (rw [nI_eq (by omega) (by omega)]; omega) | (rw [nI_e0 (by omega)]; omega) | (rw [nI_le0 (by omega)]; omega)) ⟨i, rfl, by omega, ?_⟩)
      rw [hrow.1]
      refine brd (nI_e0 (by omega)) (fun h => ?_) (fun h => ⟨i, rfl, by omega, (R i).2.1, hrow.2.1, by omega, ?_⟩)
      · refine brc (nI_eq (by omega) (by omega)) (fun h6 => ?_) (fun h6 => ⟨i, rfl, by omega, ?_⟩)
        · refine third I1 ha ?_
          unfold cs2
          rw [if_neg h, if_pos h6]
          exact hN
        · have hl : xlt f ≤ (R i).2.2.1 ∧ (R i).2.2.1 ≤ 300 := by
            rcases hok with z | z | z
            · omega
            · exact ⟨z.2.2.1, z.2.2.2.1⟩
            · omega
          refine p_shortestM hf (by rw [ha 59 (by decide)]; exact hI) ⟨_, _, _, rfl, ?_⟩
          all_goals try dsimp only
          rw [hrow.2.2.1, pk_sub hl.1]
          have hxl := (xls_lt ((R i).2.2.1 - xlt f) (by omega)).1
          have hxl2 : xls ((R i).2.2.1 - xlt f) < SY 1 := hxl
          refine p_lengthSlotM (by omega) ⟨_, _, _, rfl, 256 + xls ((R i).2.2.1 - xlt f), nI_add _ _, by omega, 256 + xls ((R i).2.2.1 - xlt f), nI_add _ _, by omega, ?_⟩
          all_goals try dsimp only
          rw [show I1 99 (256 + xls ((R i).2.2.1 - xlt f)) = nI (us f t R i 1 (xls ((R i).2.2.1 - xlt f))) from hN 1 _ (by decide) hxl2, nI_add]
          refine third _ (ha.up (by simp)) ?_
          unfold cs2
          rw [if_neg h, if_neg h6]
          exact MN_inc hN (by decide) hxl2
      · have hti := hT.2.2 (R i).2.1 (by
          rcases hok with z | z | z <;> omega)
        have ht62 : I1 62 (R i).2.1 = nI (t (R i).2.1) := by rw [ha 62 (by decide)]; exact hti.1
        refine ⟨t (R i).2.1, ht62, by omega, t (R i).2.1, ht62, by omega, ?_⟩
        have ht2 : t (R i).2.1 < SY 0 := hti.2
        have e0 := hN 0 _ (by decide) ht2
        have hN2 := MN_inc hN (by decide) ht2
        rw [show 256 * 0 + t (R i).2.1 = t (R i).2.1 by omega] at e0 hN2
        rw [e0, nI_add]
        refine third _ (ha.up (by simp)) ?_
        unfold cs2
        rw [if_pos h]
        exact hN2
  exact loop m 0 I rfl (Nat.zero_le _) xag.rfl hN
theorem p_fitM_c (hf : f < 3) (hf1 : f ≠ 1) (hL : L < 2147483648) (hM : MV I f V) (hU : ∀ k s, U k s ≤ 300) (hN : MN I U) (k : ∀ I', xag I I' [64] → MV I' f (fV f U V) → Q (none, (xK f L, P, I', J, xFr f c s))) : Wp (d + 3) 144 150 [some (.ref 59), some (.int (nI 0)), none, none, none] [] (xK f L, P, I, J, xFr f c s) Q := by
  have hx4 := xcl_le f
  have hx3 : xcl f = if f = 0 then 3 else 4 := by
    rcases (by omega : f = 0 ∨ f = 2) with rfl | rfl <;> rfl
  have loop : ∀ w a I1, xcl f - a = w → a ≤ xcl f → xag I I1 [64] → (∀ k s, k < 4 → s < SY k → I1 64 (256 * k + s) = nI (if k < a then fc U k s else V k s)) → Wp (d + 3) 144 150 [some (.ref 59), some (.int (nI a)), none, none, none] [] (xK f L, P, I1, J, xFr f c s) Q := by
    intro w
    induction w with
    | zero =>
      intro a I1 hw ha h1 h2
      have e : a = xcl f := by omega
      have h59 : I1 59 1 = nI f := by rw [h1 59 (by decide)]; exact hM.1
      have fin : Q (none, (xK f L, P, I1, J, xFr f c s)) := k I1 h1 ⟨h59, fun k' s' z1 z2 => by
        rw [h2 k' s' z1 z2, e]
        rfl, fV_VB hU hM.2.2⟩
      refine wX11_fit_150 rfl ?_
      rw [h59]
      refine brd (nI_e0 (by omega)) (fun h => br1 (by rw [if_neg h] at hx3; exact (by first | (rw [nI_ltI (by omega) (by omega)]; omega) | (rw [nI_leI (by omega) (by omega)]; omega) | (rw [nI_eq (by omega) (by omega)]; omega) | (rw [nI_e0 (by omega)]; omega) | (rw [nI_le0 (by omega)]; omega))) fin) (fun h => br1 (by rw [if_pos h] at hx3; exact (by first | (rw [nI_ltI (by omega) (by omega)]; omega) | (rw [nI_leI (by omega) (by omega)]; omega) | (rw [nI_eq (by omega) (by omega)]; omega) | (rw [nI_e0 (by omega)]; omega) | (rw [nI_le0 (by omega)]; omega))) fin)
    | succ w ih =>
      intro a I1 hw ha h1 h2
      have ha4 : a < 4 := by omega
      have hsy := SY_BS a ha4
      have hsp : 1 ≤ SY a := by unfold SY; split <;> (try split) <;> (try split) <;> omega
      have htm : ∀ m, m ≤ SY a → tsm (U a) m ≤ 76800 := fun m hm => by
        have h1 := tsm_le (hU a) m
        have : m * 300 ≤ 256 * 300 := Nat.mul_le_mul_right 300 (by omega)
        omega
      have htS := htm (SY a) (Nat.le_refl _)
      have h59 : I1 59 1 = nI f := by rw [h1 59 (by decide)]; exact hM.1
      have loop2 : ∀ v i I2, SY a - i = v → i ≤ SY a → xag I I2 [64] → (∀ k s, k < 4 → s < SY k → I2 64 (256 * k + s) = nI (if k < a ∨ (k = a ∧ s < i) then fc U k s else V k s)) → Wp (d + 3) 144 201 [some (.ref 59), some (.int (nI a)), some (.int (nI (tsm (U a) (SY a)))), some (.int (nI i)), none] [] (xK f L, P, I2, J, xFr f c s) Q := by
        intro v
        induction v with
        | zero =>
          intro i I2 hv hi b1 b2
          have e : i = SY a := by omega
          subst e
          refine wX11_fit_201 (xK_lt hf hL) rfl rfl rfl rfl rfl (p_symbolsM ha4 ⟨_, _, _, rfl, ?_⟩)
          all_goals try dsimp only
          refine br1 (by first | (rw [nI_ltI (by omega) (by omega)]; omega) | (rw [nI_leI (by omega) (by omega)]; omega) | (rw [nI_eq (by omega) (by omega)]; omega) | (rw [nI_e0 (by omega)]; omega) | (rw [nI_le0 (by omega)]; omega)) ?_
          rw [nI_add]
          refine ih (a + 1) I2 (by omega) (by omega) b1 (fun k' s' z1 z2 => ?_)
          rw [b2 k' s' z1 z2]
          by_cases z : k' < a + 1
          · rw [if_pos z, if_pos (by
              by_cases z3 : k' = a
              · subst z3
                exact Or.inr ⟨rfl, z2⟩
              · exact Or.inl (by omega))]
          · rw [if_neg z, if_neg (by omega)]
        | succ v ih2 =>
          intro i I2 hv hi b1 b2
          have hUi := hU a i
          have hx1 := xlog_le (v := tsm (U a) (SY a) + SY a) (by omega) (by omega)
          have hx2 := xlog_le (v := U a i + 1) (by omega) (by omega)
          have hns := nsub (a := xlog (tsm (U a) (SY a) + SY a)) (b := xlog (U a i + 1)) (by omega) (by omega)
          have next : ∀ x, x = nI (fc U a i) → Wp (d + 3) 144 201 [some (.ref 59), some (.int (nI a)), some (.int (nI (tsm (U a) (SY a)))), some (.int (nI i + nI 1)), none] [] (xK f L, P, xup I2 64 (256 * a + i) x, J, xFr f c s) Q := by
            intro x hx
            rw [nI_add]
            refine ih2 (i + 1) _ (by omega) (by omega) (b1.up (by simp)) (fun k' s' z1 z2 => ?_)
            have hs2 := SY_BS k' z1
            rw [xup_at]
            by_cases z : k' = a ∧ s' = i
            · rw [if_pos (by rw [z.1, z.2]), hx, if_pos (Or.inr ⟨z.1, by omega⟩), z.1, z.2]
            · rw [if_neg (by omega), b2 k' s' z1 z2]
              by_cases z3 : k' < a ∨ (k' = a ∧ s' < i)
              · rw [if_pos z3, if_pos (by omega)]
              · rw [if_neg z3, if_neg (by omega)]
          refine wX11_fit_201 (xK_lt hf hL) rfl rfl rfl rfl rfl (p_symbolsM ha4 ⟨_, _, _, rfl, ?_⟩)
          all_goals try dsimp only
          refine br2 (by first | (rw [nI_ltI (by omega) (by omega)]; omega) | (rw [nI_leI (by omega) (by omega)]; omega) | (rw [nI_eq (by omega) (by omega)]; omega) | (rw [nI_e0 (by omega)]; omega) | (rw [nI_le0 (by omega)]; omega)) (p_symbolsM ha4 ⟨_, _, _, rfl, ?_⟩)
          all_goals try dsimp only
          rw [nI_add]
          refine p_log (by omega) (by omega) ⟨_, _, _, rfl, 256 * a + i, by rw [pk_mul, nI_add], by omega, ?_⟩
          all_goals try dsimp only
          rw [show I2 99 (256 * a + i) = nI (U a i) by rw [b1 99 (by decide)]; exact hN a i ha4 (by omega), nI_add]
          refine p_log (by omega) (by omega) ⟨_, _, _, rfl, ?_⟩
          all_goals try dsimp only
          refine brc hns.2.1 (fun h => ⟨256 * a + i, by rw [pk_mul, nI_add], by omega, next _ ?_⟩) (fun h => ⟨256 * a + i, by rw [pk_mul, nI_add], by omega, next _ ?_⟩)
          · rw [hns.2.2 h]
            unfold fc
            rw [if_neg (by omega)]
          · unfold fc
            rw [if_pos (by omega)]
      have loop1 : ∀ v i, SY a - i = v → i ≤ SY a → Wp (d + 3) 144 170 [some (.ref 59), some (.int (nI a)), some (.int (nI (tsm (U a) i))), some (.int (nI i)), none] [] (xK f L, P, I1, J, xFr f c s) Q := by
        intro v
        induction v with
        | zero =>
          intro i hv hi
          have e : i = SY a := by omega
          subst e
          refine wX11_fit_170 (xK_lt hf hL) rfl rfl rfl (p_symbolsM ha4 ⟨_, _, _, rfl, ?_⟩)
          all_goals try dsimp only
          refine br1 (by first | (rw [nI_ltI (by omega) (by omega)]; omega) | (rw [nI_leI (by omega) (by omega)]; omega) | (rw [nI_eq (by omega) (by omega)]; omega) | (rw [nI_e0 (by omega)]; omega) | (rw [nI_le0 (by omega)]; omega)) ?_
          refine loop2 (SY a) 0 I1 rfl (Nat.zero_le _) h1 (fun k' s' z1 z2 => ?_)
          rw [h2 k' s' z1 z2]
          by_cases z : k' < a
          · rw [if_pos z, if_pos (Or.inl z)]
          · rw [if_neg z, if_neg (by omega)]
        | succ v ih2 =>
          intro i hv hi
          refine wX11_fit_170 (xK_lt hf hL) rfl rfl rfl (p_symbolsM ha4 ⟨_, _, _, rfl, ?_⟩)
          all_goals try dsimp only
          refine br2 (by first | (rw [nI_ltI (by omega) (by omega)]; omega) | (rw [nI_leI (by omega) (by omega)]; omega) | (rw [nI_eq (by omega) (by omega)]; omega) | (rw [nI_e0 (by omega)]; omega) | (rw [nI_le0 (by omega)]; omega)) ⟨256 * a + i, by rw [pk_mul, nI_add], by omega, ?_⟩
          rw [show I1 99 (256 * a + i) = nI (U a i) by rw [h1 99 (by decide)]; exact hN a i ha4 (by omega), nI_add, nI_add]
          exact ih2 (i + 1) (by omega) (by omega)
      have go := loop1 (SY a) 0 rfl (Nat.zero_le _)
      refine wX11_fit_150 rfl ?_
      rw [h59]
      refine brd (nI_e0 (by omega)) (fun h => br2 (by rw [if_neg h] at hx3; exact (by first | (rw [nI_ltI (by omega) (by omega)]; omega) | (rw [nI_leI (by omega) (by omega)]; omega) | (rw [nI_eq (by omega) (by omega)]; omega) | (rw [nI_e0 (by omega)]; omega) | (rw [nI_le0 (by omega)]; omega))) go) (fun h => br2 (by rw [if_pos h] at hx3; exact (by first | (rw [nI_ltI (by omega) (by omega)]; omega) | (rw [nI_leI (by omega) (by omega)]; omega) | (rw [nI_eq (by omega) (by omega)]; omega) | (rw [nI_e0 (by omega)]; omega) | (rw [nI_le0 (by omega)]; omega))) go)
  refine loop _ 0 I rfl (Nat.zero_le _) xag.rfl (fun k' s' z1 z2 => ?_)
  rw [if_neg (Nat.not_lt_zero _)]
  exact hM.2.1 k' s' z1 z2
theorem p_fitM (hf : f < 3) (hf1 : f ≠ 1) (hL : L < 2147483648) (hM : MV I f V) (hT : MT I n t) (h0 : MA I m R) (hv : VS t f n m R) (k : ∀ I', xag I I' [64, 99] → MV I' f (fV f (us f t R m) V) → Q (none, (xK f L, P, I', J, xFr f c s))) : Wp (d + 3) 144 0 [some (.ref 59), none, none, none, none] [] (xK f L, P, I, J, xFr f c s) Q := by
  refine p_fitM_a hf hL (fun I1 a1 a2 => ?_)
  refine p_fitM_b hf hL (by rw [a1 59 (by decide)]; exact hM.1) (hT.ag a1 (by decide) (by decide)) (h0.ag a1 (by decide)) hv (fun k' s' z1 z2 => ?_) (fun I2 b1 b2 => ?_)
  · have := SY_BS k' z1
    exact a2 _ (by omega)
  · have hU : ∀ k s, us f t R m k s ≤ 300 := fun k s => by
      have := us_le (f := f) (t := t) (R := R) k s m
      have := h0.2.1
      omega
    refine p_fitM_c hf hf1 hL ((hM.ag a1 (by decide)).ag b1 (by decide)) hU b2 (fun I3 c1 c2 => k I3 ?_ c2)
    exact xag.tw (S1 := [99]) (S2 := [64]) (xag.tr a1 b1 (by simp)) c1 ⟨by simp, by simp⟩
end FITM
