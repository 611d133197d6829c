/-! FORM 0: the reference's table -/
def MP (I : Nat → Nat → Int32) (t : Nat → Nat) (n : Nat) (D : xD) : Prop := ∀ i, i ≤ n → I 83 (301 * i) = nI (dv 2000000000 (D i)) ∧ I 87 i = nI (if dl (D i) = 1 then 1 else 0) ∧ (2 ≤ dl (D i) → I 84 i = nI (i - dl (D i)) ∧ I 85 i = nI 0 ∧ I 86 i = nI (nd t n 258 (i - dl (D i)) (dl (D i))))
section SLM
variable {d f L c s m n : Nat} {t : Nat → Nat} {V : Nat → Nat → Nat} {Q : Option Value × xS → Prop} {P : List Nat × Nat × Nat} {I : Nat → Nat → Int32} {J : Nat → Nat → Int64}
theorem p_atM {i r : Nat} {F : Nat → Nat → Option Nat} {K : Nat → Nat × Nat} {a : Nat} (k : Q (some (.int (nI (301 * i + r))), (K, P, I, J, F))) : Wp d 126 0 [some (.ref a), some (.int (nI i)), some (.int (nI r))] [] (K, P, I, J, F) Q := by
  refine Wp.wk (L := [none, some (.int (nI i)), some (.int (nI r))]) ?_ (wX11_at_0  ?_)
  · exact ⟨Or.inl rfl, xwk1.refl _⟩
  · rw [pk_mul, nI_add]
    exact k
theorem p_firstRowM0 (hf : f < 3) (hL : L < 2147483648) (hf1 : f ≠ 1) (hI : I 59 1 = nI f) {i : Nat} (hi : i < 1000) (k : Q (some (.int (nI 0)), (xK f L, P, I, J, xFr f c s))) : Wp (d + 1) 127 0 [some (.ref 59), some (.int (nI i)), none, none] [] (xK f L, P, I, J, xFr f c s) Q := by
  refine wX11_firstRow_0  (wX11_firstRow_4 (xK_lt hf hL) rfl rfl rfl (brc (nI_ltI (by omega) (by omega)) (fun h => k) (fun h => bn1 ?_ k)))
  rw [hI]
  exact (by first | (rw [nI_ltI (by omega) (by omega)]; omega) | (rw [nI_leI (by omega) (by omega)]; omega) | (rw [nI_eq (by omega) (by omega)]; omega) | (rw [nI_e0 (by omega)]; omega) | (rw [nI_le0 (by omega)]; omega))
theorem p_clearTable0 (hL : L < 2147483648) (hI : I 59 1 = nI 0) (hN : I 59 3 = nI n) (hn : n ≤ 300) (k : ∀ I', xag I I' [83, 84, 85, 86, 87] → MP I' t n (dp0 V t n 0) → Q (none, (xK 0 L, P, I', J, xFr 0 c s))) : Wp (d + 1) 128 0 [some (.ref 59), none, none] [] (xK 0 L, P, I, J, xFr 0 c s) Q := by
  have hf : 0 < 3 := by decide
  have loop : ∀ q i I1, n + 1 - i = q → i ≤ n + 1 → xag I I1 [83, 84, 85, 86, 87] → (∀ j, j < i → I1 83 (301 * j) = nI 2000000000 ∧ I1 87 j = nI 0) → Wp (d + 1) 128 2 [some (.ref 59), some (.int (nI i)), none] [] (xK 0 L, P, I1, J, xFr 0 c s) Q := by
    intro q
    induction q with
    | zero =>
      intro i I1 hq hi ha h1
      refine wX11_clearTable_2 (xK_lt hf hL) rfl rfl rfl (br1 ?_ ⟨0, rfl, by decide, k _ (ha.up (by simp)) (fun j hj => ?_)⟩)
      · rw [ha 59 (by decide), hN]
        exact (by first | (rw [nI_ltI (by omega) (by omega)]; omega) | (rw [nI_leI (by omega) (by omega)]; omega) | (rw [nI_eq (by omega) (by omega)]; omega) | (rw [nI_e0 (by omega)]; omega) | (rw [nI_le0 (by omega)]; omega))
      · have := h1 j (by omega)
        by_cases e : j = 0
        · subst e
          have e0 : dp0 V t n 0 0 = some (0, 0) := rfl
          rw [e0]
          refine ⟨?_, ?_, fun z => absurd z (by decide)⟩
          · rw [xup_at, if_pos rfl]
            rfl
          · rw [xup_ne _ _ _ (by decide), this.2]
            rfl
        · have e0 : dp0 V t n 0 j = none := if_neg e
          rw [e0]
          refine ⟨?_, ?_, fun z => absurd z (by decide)⟩
          · rw [xup_at, if_neg (by omega), this.1]
            rfl
          · rw [xup_ne _ _ _ (by decide), this.2]
            rfl
    | succ q ih =>
      intro i I1 hq hi ha h1
      have hI1 : I1 59 1 = nI 0 := by rw [ha 59 (by decide)]; exact hI
      refine wX11_clearTable_2 (xK_lt hf hL) rfl rfl rfl (br2 ?_ ?_)
      · rw [ha 59 (by decide), hN]
        exact (by first | (rw [nI_ltI (by omega) (by omega)]; omega) | (rw [nI_leI (by omega) (by omega)]; omega) | (rw [nI_eq (by omega) (by omega)]; omega) | (rw [nI_e0 (by omega)]; omega) | (rw [nI_le0 (by omega)]; omega))
      refine wX11_clearTable_12 rfl (bn1 (by rw [hI1]; decide) ?_)
      refine wX11_clearTable_26 (xK_lt hf hL) rfl rfl rfl rfl rfl (br2 (by decide) (p_atM ⟨_, _, _, rfl, 301 * i + 0, rfl, by omega, ?_⟩))
      all_goals try dsimp only
      try dsimp only
      refine wX11_clearTable_12 rfl (bn1 (by rw [xup_ne _ _ _ (by decide), hI1]; decide) ?_)
      refine wX11_clearTable_26 (xK_lt hf hL) rfl rfl rfl rfl rfl (br1 (by decide) ⟨i, rfl, by omega, ?_⟩)
      rw [nI_add]
      refine ih (i + 1) _ (by omega) (by omega) ((ha.up (by simp)).up (by simp)) (fun j hj => ?_)
      rw [xup_ne _ _ _ (by decide), xup_at, xup_at]
      by_cases e : j = i
      · rw [e, if_pos (by omega), if_pos rfl]
        exact ⟨rfl, rfl⟩
      · rw [if_neg (by omega), if_neg e, xup_ne _ _ _ (by decide)]
        exact h1 j (by omega)
  exact wX11_clearTable_0  (loop _ 0 I rfl (by omega) xag.rfl (fun j hj => by omega))
theorem p_copies0 (hL : L < 2147483648) (hM : MV I 0 V) (hn : n ≤ 300) (hO : LO I n t 0) (ht : ∀ j, j < n → t j < 256) {i : Nat} (hi : i < n) {D : xD} (hD : D0 V t n i D) (h0 : MP I t n D) (k : ∀ I', xag I I' [83, 84, 85, 86, 87] → MP I' t n (ldn V t n i D (lc t n 0 i)) → Q (none, (xK 0 L, P, I', J, xFr 0 c s))) : Wp (d + 4) 129 0 [some (.ref 59), some (.int (nI i)), some (.int (nI 0)), none, none, none, none] [] (xK 0 L, P, I, J, xFr 0 c s) Q := by
  have hf : 0 < 3 := by decide
  have hB := hM.2.2
  have hDi := hD.ne
  have hv := hD.lt (i := i) (by omega) hn
  refine wX11_copies_0 (xK_lt hf hL) rfl rfl rfl (p_atM ⟨_, _, _, rfl, 301 * i + 0, rfl, by omega, ?_⟩)
  all_goals try dsimp only
  try dsimp only
  refine p_longestCopyM hf hL hM.1 hO hn hi ⟨_, _, _, rfl, ?_⟩
  all_goals try dsimp only
  rw [show 301 * i + 0 = 301 * i by omega, (h0 i (by omega)).1, dv_some hDi 2000000000 0]
  have loop : ∀ l I2 D2, l ≤ lc t n 0 i → xag I I2 [83, 84, 85, 86, 87] → D0 V t n i D2 → D2 i = D i → MP I2 t n D2 → ldn V t n i D2 l = ldn V t n i D (lc t n 0 i) → Wp (d + 4) 129 19 [some (.ref 59), some (.int (nI i)), some (.int (nI 0)), some (.int (nI (dv 0 (D i)))), some (.int (nI l)), none, none] [] (xK 0 L, P, I2, J, xFr 0 c s) Q := by
    intro l
    induction l with
    | zero =>
      intro I2 D2 hl ha hD2 hDe h2 he
      have hI2 : I2 59 1 = nI 0 := by rw [ha 59 (by decide)]; exact hM.1
      refine wX11_copies_19 (xK_lt hf hL) rfl rfl rfl rfl rfl rfl rfl rfl rfl rfl rfl rfl rfl (p_shortestM hf hI2 ⟨_, _, _, rfl, ?_⟩)
      all_goals try dsimp only
      try dsimp only
      refine br1 (by decide) (k I2 ha ?_)
      rw [ldn] at he
      rw [← he]
      exact h2
    | succ l ih =>
      intro I2 D2 hl ha hD2 hDe h2 he
      have hI2 : I2 59 1 = nI 0 := by rw [ha 59 (by decide)]; exact hM.1
      have hM2 : MV I2 0 V := hM.ag ha (by decide)
      have hO2 : LO I2 n t 0 := hO.ag ha (by decide)
      rw [ldn] at he
      have hlc := lc_ok (t := t) (n := n) (f := 0) (i := i) (by omega)
      rw [show xgt 0 = 258 from rfl] at hlc
      refine wX11_copies_19 (xK_lt hf hL) rfl rfl rfl rfl rfl rfl rfl rfl rfl rfl rfl rfl rfl (p_shortestM hf hI2 ⟨_, _, _, rfl, ?_⟩)
      all_goals try dsimp only
      try dsimp only
      refine brc (p := l + 1 < 3) (nI_ltI (by omega) (by decide)) (fun h => ?_) (fun h => ⟨301 * i + (l + 1), by rw [pk_mul, nI_add], by omega, ?_⟩)
      · rw [if_pos h] at he
        refine k I2 ha ?_
        rw [← he]
        exact h2
      · rw [if_neg h] at he
        have hd := nd_ok (t := t) (n := n) (G := 258) (i := i) (l := l + 1) (by omega) (by omega)
        have hlok := ld_ok hB hn ht hi hD2 (l := l + 1) (Or.inr ⟨by omega, hl⟩)
        have hc := c0_le hB hn (ht i hi) hi (show l + 1 < 301 by omega)
        have hc0 : c0 V t n i (l + 1) = lco V 0 (l + 1) + dco V (nd t n 258 i (l + 1)) := by
          unfold c0
          rw [if_neg (by omega)]
        have hnd : I2 80 (301 * i + (l + 1)) = nI (nd t n 258 i (l + 1)) := hO2.2 i (l + 1) hi hi (by omega) (by omega)
        rw [hnd]
        refine p_stepCostM hf (by decide) hL hM2 (by decide) (fun z => by omega) (fun _ _ => ⟨by show 3 ≤ l + 1; omega, by omega⟩) (fun _ => ⟨hd.1, by omega⟩) ⟨_, _, _, rfl, ?_⟩
        all_goals try dsimp only
        have hsc : sco V 0 1 (l + 1) (nd t n 258 i (l + 1)) 0 = c0 V t n i (l + 1) := by
          rw [hc0]
          show 0 + lco V 0 (l + 1) + dco V (nd t n 258 i (l + 1)) = _
          rw [Nat.zero_add]
        rw [nI_add]
        refine p_atM ⟨_, _, _, rfl, 301 * (i + (l + 1)) + 0, rfl, by omega, ?_⟩
        all_goals try dsimp only
        try dsimp only
        have hfar : dv 2000000000 (D2 (i + (l + 1))) ≤ 2000000000 := by
          cases hq : D2 (i + (l + 1)) with
          | none => exact Nat.le_refl _
          | some q =>
            have := hD2.lt (i := i + (l + 1)) (by omega) hn
            rw [hq] at this
            have : q.1 ≤ 9307200 := this
            show q.1 ≤ _
            omega
        have hb := dv_bst (far := 2000000000) (o := D2 (i + (l + 1))) (q := (dv 0 (D2 i) + c0 V t n i (l + 1), l + 1)) (by rw [hDe]; show dv 0 (D i) + c0 V t n i (l + 1) < 2000000000; omega)
        have h83 := (h2 (i + (l + 1)) (by omega)).1
        rw [show 301 * (i + (l + 1)) + 0 = 301 * (i + (l + 1)) by omega, h83, hsc, nI_add]
        refine brc (nI_leI (by omega) (by omega)) (fun h4 => ?_) (fun h4 => ?_)
        · rw [if_neg (by rw [hDe]; show ¬ dv 0 (D i) + c0 V t n i (l + 1) < _; omega)] at hb
          have e2 : ld V t n D2 i (l + 1) = D2 := by
            unfold ld
            rw [hb]
            funext j
            by_cases e : j = i + (l + 1)
            · rw [e, va_up_self]
            · rw [va_up_ne _ _ e]
          rw [e2] at he
          rw [xm1, pk_sub (by omega), Nat.add_sub_cancel]
          exact ih I2 D2 (by omega) ha hD2 hDe h2 he
        · rw [if_pos (by rw [hDe]; show dv 0 (D i) + c0 V t n i (l + 1) < _; omega)] at hb
          refine p_atM ⟨_, _, _, rfl, 301 * (i + (l + 1)) + 0, rfl, by omega, i + (l + 1), rfl, by omega, i + (l + 1), rfl, by omega, i + (l + 1), rfl, by omega, i + (l + 1), rfl, by omega, ?_⟩
          all_goals try dsimp only
          try dsimp only
          rw [xm1, pk_sub (by omega), Nat.add_sub_cancel]
          refine ih _ _ (by omega) (((((ha.up (by simp)).up (by simp)).up (by simp)).up (by simp)).up (by simp)) hlok.1 (by rw [hlok.2.1 i (Nat.le_refl _)]; exact hDe) (fun j hj => ?_) he
          unfold ld
          rw [hb]
          by_cases e : j = i + (l + 1)
          · rw [e, va_up_self]
            show _ ∧ _ = nI (if l + 1 = 1 then 1 else 0) ∧ (2 ≤ l + 1 → _ = nI (i + (l + 1) - (l + 1)) ∧ _ ∧ _ = nI (nd t n 258 (i + (l + 1) - (l + 1)) (l + 1)))
            rw [if_neg (show ¬ l + 1 = 1 by omega), Nat.add_sub_cancel]
            refine ⟨?_, ?_, fun _ => ⟨?_, ?_, ?_⟩⟩
            · rw [xup_ne _ _ _ (by decide), xup_ne _ _ _ (by decide), xup_ne _ _ _ (by decide), xup_ne _ _ _ (by decide), xup_at, if_pos (by omega)]
              show _ = nI (dv 0 (D2 i) + c0 V t n i (l + 1))
              rw [hDe]
            · rw [xup_at, if_pos rfl]
            · rw [xup_ne _ _ _ (by decide), xup_ne _ _ _ (by decide), xup_ne _ _ _ (by decide), xup_at, if_pos rfl]
            · rw [xup_ne _ _ _ (by decide), xup_ne _ _ _ (by decide), xup_at, if_pos rfl]
            · rw [xup_ne _ _ _ (by decide), xup_at, if_pos rfl]
          · rw [va_up_ne _ _ e]
            have := h2 j hj
            refine ⟨?_, ?_, fun z => ⟨?_, ?_, ?_⟩⟩
            · rw [xup_ne _ _ _ (by decide), xup_ne _ _ _ (by decide), xup_ne _ _ _ (by decide), xup_ne _ _ _ (by decide), xup_at, if_neg (by omega)]
              exact this.1
            · rw [xup_at, if_neg e, xup_ne _ _ _ (by decide), xup_ne _ _ _ (by decide), xup_ne _ _ _ (by decide), xup_ne _ _ _ (by decide)]
              exact this.2.1
            · rw [xup_ne _ _ _ (by decide), xup_ne _ _ _ (by decide), xup_ne _ _ _ (by decide), xup_at, if_neg e, xup_ne _ _ _ (by decide)]
              exact (this.2.2 z).1
            · rw [xup_ne _ _ _ (by decide), xup_ne _ _ _ (by decide), xup_at, if_neg e, xup_ne _ _ _ (by decide), xup_ne _ _ _ (by decide)]
              exact (this.2.2 z).2.1
            · rw [xup_ne _ _ _ (by decide), xup_at, if_neg e, xup_ne _ _ _ (by decide), xup_ne _ _ _ (by decide), xup_ne _ _ _ (by decide)]
              exact (this.2.2 z).2.2
  exact loop _ I D (Nat.le_refl _) xag.rfl hD rfl h0 rfl
theorem p_literals0 (hL : L < 2147483648) (hM : MV I 0 V) (hT : MT I n t) {i : Nat} (hi : i < n) {D : xD} (hD : D0 V t n i D) (h0 : MP I t n D) (k : ∀ I', xag I I' [83, 84, 85, 86, 87] → MP I' t n (ld V t n D i 1) → Q (none, (xK 0 L, P, I', J, xFr 0 c s))) : Wp (d + 4) 130 0 [some (.ref 59), some (.int (nI i)), none, none, none, none] [] (xK 0 L, P, I, J, xFr 0 c s) Q := by
  have hf : 0 < 3 := by decide
  have hn := hT.2.1
  have hB := hM.2.2
  have hDi := hD.ne
  have hv := hD.lt (i := i) (by omega) hn
  have hti := hT.2.2 i hi
  have hc := c0_le hB hn hti.2 hi (show 1 < 301 by omega)
  have fin : ∀ I2, xag I I2 [83, 84, 85, 86, 87] → MP I2 t n (ld V t n D i 1) → Wp (d + 4) 130 2 [some (.ref 59), some (.int (nI i)), some (.int (nI 0 + nI 1)), none, none, none] [] (xK 0 L, P, I2, J, xFr 0 c s) Q := by
    intro I2 a1 a2
    refine wX11_literals_2 rfl (bn1 (by rw [a1 59 (by decide), hM.1]; decide) ?_)
    exact wX11_literals_16 (xK_lt hf hL) rfl rfl rfl rfl rfl (br1 (by decide) (k I2 a1 a2))
  refine wX11_literals_0  (wX11_literals_2 rfl (bn1 (by rw [hM.1]; decide) ?_))
  refine wX11_literals_16 (xK_lt hf hL) rfl rfl rfl rfl rfl (br2 (by decide) (p_atM ⟨_, _, _, rfl, 301 * i + 0, rfl, by omega, ?_⟩))
  all_goals try dsimp only
  try dsimp only
  rw [show 301 * i + 0 = 301 * i by omega, (h0 i (by omega)).1, dv_some hDi 2000000000 0]
  refine br2 (by first | (rw [nI_ltI (by omega) (by omega)]; omega) | (rw [nI_leI (by omega) (by omega)]; omega) | (rw [nI_eq (by omega) (by omega)]; omega) | (rw [nI_e0 (by omega)]; omega) | (rw [nI_le0 (by omega)]; omega)) ⟨i, rfl, by omega, ?_⟩
  rw [hti.1]
  refine p_stepCostM hf (by decide) hL hM (by decide) (fun _ => hti.2) (fun z => absurd rfl z) (fun z => absurd z (by decide)) ⟨_, _, _, rfl, ?_⟩
  all_goals try dsimp only
  refine bn1 (by rw [hM.1]; decide) ?_
  have hsc : sco V 0 0 1 0 (t i) = c0 V t n i 1 := rfl
  rw [hsc, nI_add, nI_add]
  have hfar : dv 2000000000 (D (i + 1)) ≤ 2000000000 := by
    cases hq : D (i + 1) with
    | none => exact Nat.le_refl _
    | some q =>
      have := hD.lt (i := i + 1) (by omega) hn
      rw [hq] at this
      have : q.1 ≤ 9307200 := this
      show q.1 ≤ _
      omega
  have hb := dv_bst (far := 2000000000) (o := D (i + 1)) (q := (dv 0 (D i) + c0 V t n i 1, 1)) (by show dv 0 (D i) + c0 V t n i 1 < 2000000000; omega)
  refine wX11_literals_74 (xK_lt hf hL) rfl rfl rfl rfl rfl rfl (p_atM ⟨_, _, _, rfl, 301 * (i + 1) + 0, rfl, by omega, ?_⟩)
  all_goals try dsimp only
  try dsimp only
  rw [show 301 * (i + 1) + 0 = 301 * (i + 1) by omega, (h0 (i + 1) (by omega)).1]
  refine brc (nI_leI (by omega) (by omega)) (fun h4 => fin I xag.rfl ?_) (fun h4 => ⟨301 * (i + 1), rfl, by omega, bn2 (by rw [xup_ne _ _ _ (by decide), hM.1]; rfl) ⟨i + 1, nI_add _ _, by omega, fin _ ((xag.rfl.up (by simp)).up (by simp)) (fun j hj => ?_)⟩⟩)
  · rw [if_neg (by show ¬ dv 0 (D i) + c0 V t n i 1 < _; omega)] at hb
    have e2 : ld V t n D i 1 = D := by
      unfold ld
      rw [hb]
      funext j
      by_cases e : j = i + 1
      · rw [e, va_up_self]
      · rw [va_up_ne _ _ e]
    rw [e2]
    exact h0
  · rw [if_pos (by show dv 0 (D i) + c0 V t n i 1 < _; omega)] at hb
    unfold ld
    rw [hb]
    by_cases e : j = i + 1
    · rw [e, va_up_self]
      refine ⟨?_, ?_, fun z => absurd z (show ¬ 2 ≤ 1 by decide)⟩
      · rw [xup_ne _ _ _ (by decide), xup_at, if_pos rfl]
        rfl
      · rw [xup_at, if_pos rfl]
        rfl
    · rw [va_up_ne _ _ e]
      have := h0 j hj
      refine ⟨?_, ?_, fun z => ?_⟩
      · rw [xup_ne _ _ _ (by decide), xup_at, if_neg (by omega)]
        exact this.1
      · rw [xup_at, if_neg e, xup_ne _ _ _ (by decide)]
        exact this.2.1
      · rw [xup_ne _ _ _ (by decide), xup_ne _ _ _ (by decide), xup_ne _ _ _ (by decide), xup_ne _ _ _ (by decide), xup_ne _ _ _ (by decide), xup_ne _ _ _ (by decide)]
        exact this.2.2 z
theorem p_backPlain0 (hL : L < 2147483648) (hI : I 59 1 = nI 0) (hN : I 59 3 = nI n) (hn : n ≤ 300) {D : xD} (hD : D0 V t n n D) (h0 : MP I t n D) (k : ∀ I' m, xag I I' [59, 72, 73, 74, 75, 88, 89, 90, 91] → (∀ q, q ≠ 11 → I' 59 q = I 59 q) → TM D n m → MA I' m (fun i => T0 t D n (m - 1 - i)) → Q (none, (xK 0 L, P, I', xup J 59 16 (lN (dv 0 (D n))), xFr 0 c s))) : Wp (d + 2) 131 0 [some (.ref 59), none, none, none, none, none] [] (xK 0 L, P, I, J, xFr 0 c s) Q := by
  have hf : 0 < 3 := by decide
  have hv := hD.lt (i := n) (Nat.le_refl _) hn
  have hDn := hD.ne
  refine wX11_backPlain_0 (xK_lt hf hL) rfl rfl rfl ?_
  rw [hN]
  refine p_firstRowM0 hf hL (by decide) hI (by omega) ⟨_, _, _, rfl, ?_⟩
  all_goals try dsimp only
  rw [hN]
  refine p_atM ⟨_, _, _, rfl, 301 * n + 0, rfl, by omega, ?_⟩
  all_goals try dsimp only
  try dsimp only
  rw [hI]
  refine bn1 (by decide) ?_
  rw [show 301 * n + 0 = 301 * n by omega, (h0 n (Nat.le_refl _)).1, dv_some hDn 2000000000 0, xi2l (by omega), lN_add, Nat.add_zero]
  have loop : ∀ q j I1, tp0 D n j = q → (∀ j', j' < j → tp0 D n j' ≠ 0) → j + tp0 D n j ≤ n → xag I I1 [88, 89, 90, 91] → TB I1 j (T0 t D n) → Wp (d + 2) 131 51 [some (.ref 59), some (.int (nI (tp0 D n j))), some (.int (nI 0)), some (.int (nI j)), none, none] [] (xK 0 L, P, I1, xup J 59 16 (lN (dv 0 (D n))), xFr 0 c s) Q := by
    intro q
    induction q using Nat.strongRecOn with
    | _ q ih =>
      intro j I1 hq hj hjn ha h1
      have hle := tp0_le D n j
      by_cases hend : tp0 D n j = 0
      · refine wX11_backPlain_51 (xK_lt hf hL) rfl rfl rfl rfl rfl (br1 ?_ ?_)
        · rw [hend]
          decide
        · refine p_turnBackM hf hL (by omega) h1 (fun I2 b1 b2 b3 => ⟨_, _, rfl, ?_⟩)
          all_goals try dsimp only
          exact k I2 j (ha.tw b1 (by simp)) (fun q hq => by rw [b2 q hq, ha 59 (by decide)]) ⟨hend, hj⟩ b3
      · obtain ⟨q2, g1, g2, g3, g4, g5, g6⟩ := hD.at hle hend
        have hdl : dl (D (tp0 D n j)) = q2.2 := by rw [g1]; rfl
        have hnx : tp0 D n (j + 1) = tp0 D n j - q2.2 := by rw [tp0, hdl]
        have hrow := h0 _ hle
        rw [hdl] at hrow
        have hI1 : I1 59 1 = nI 0 := by rw [ha 59 (by decide)]; exact hI
        refine wX11_backPlain_51 (xK_lt hf hL) rfl rfl rfl rfl rfl (br2 (by first | (rw [nI_ltI (by omega) (by omega)]; omega) | (rw [nI_leI (by omega) (by omega)]; omega) | (rw [nI_eq (by omega) (by omega)]; omega) | (rw [nI_e0 (by omega)]; omega) | (rw [nI_le0 (by omega)]; omega)) (bn1 (by rw [hI1]; decide) ⟨tp0 D n j, rfl, by omega, ?_⟩))
        rw [ha 87 (by decide), hrow.2.1]
        by_cases e1 : q2.2 = 1
        · rw [if_pos e1]
          refine br2 (by decide) ?_
          refine wX11_backPlain_100 (xK_lt hf hL) rfl rfl rfl rfl rfl rfl rfl rfl ⟨j, rfl, by omega, br2 (by decide) ⟨j, rfl, by omega, br2 (by decide) ?_⟩⟩
          refine wX11_backPlain_146 (xK_lt hf hL) rfl rfl rfl rfl rfl rfl ⟨j, rfl, by omega, j, rfl, by omega, br2 (by decide) (bn1 ?_ ?_)⟩
          · rw [xup_ne _ _ _ (by decide), xup_ne _ _ _ (by decide), xup_ne _ _ _ (by decide), xup_ne _ _ _ (by decide), hI1]
            decide
          · rw [pk_sub (by omega), nI_add, pk_sub (by omega), ← show tp0 D n (j + 1) = tp0 D n j - 1 by omega]
            refine ih _ (by omega) (j + 1) _ rfl (fun j' hj' => ?_) (by omega) ((((ha.up (by simp)).up (by simp)).up (by simp)).up (by simp)) (fun i hi => ?_)
            · by_cases e : j' = j
              · rw [e]; exact hend
              · exact hj j' (by omega)
            · by_cases e : i = j
              · subst e
                have hT0 : T0 t D n i = (0, tp0 D n (i + 1), 1, 0) := by
                  unfold T0
                  rw [hdl, if_pos e1]
                rw [hT0]
                simp [xup_q]
                congr 1
                omega
              · have := h1 i (by omega)
                simp [xup_q, e]
                exact this
        · rw [if_neg e1]
          have hcp := hrow.2.2 (by omega)
          refine br1 (by decide) ⟨tp0 D n j, rfl, by omega, ?_⟩
          rw [ha 84 (by decide), hcp.1, ← hnx]
          refine wX11_backPlain_100 (xK_lt hf hL) rfl rfl rfl rfl rfl rfl rfl rfl ⟨j, rfl, by omega, br1 (by decide) ⟨j, rfl, by omega, br1 (by decide) ⟨tp0 D n j, rfl, by omega, ?_⟩⟩⟩
          have h86 : xup (xup I1 88 j (nI (tp0 D n (j + 1)))) 89 j (nI 1) 86 (tp0 D n j) = nI (nd t n 258 (tp0 D n (j + 1)) q2.2) := by
            rw [xup_ne _ _ _ (by decide), xup_ne _ _ _ (by decide), ha 86 (by decide), hcp.2.2, ← hnx]
          rw [h86]
          refine wX11_backPlain_146 (xK_lt hf hL) rfl rfl rfl rfl rfl rfl ⟨j, rfl, by omega, j, rfl, by omega, br1 (by decide) ⟨tp0 D n j, rfl, by omega, ?_⟩⟩
          have h85 : ∀ v, xup (xup (xup (xup I1 88 j (nI (tp0 D n (j + 1)))) 89 j (nI 1)) 90 j (nI (nd t n 258 (tp0 D n (j + 1)) q2.2))) 91 j v 85 (tp0 D n j) = nI 0 := by
            intro v
            rw [xup_ne _ _ _ (by decide), xup_ne _ _ _ (by decide), xup_ne _ _ _ (by decide), xup_ne _ _ _ (by decide), ha 85 (by decide), hcp.2.1]
          rw [h85, nI_add, pk_sub (by omega)]
          refine ih _ (by omega) (j + 1) _ rfl (fun j' hj' => ?_) (by omega) ((((ha.up (by simp)).up (by simp)).up (by simp)).up (by simp)) (fun i hi => ?_)
          · by_cases e : j' = j
            · rw [e]; exact hend
            · exact hj j' (by omega)
          · by_cases e : i = j
            · subst e
              have hT0 : T0 t D n i = (1, tp0 D n (i + 1), q2.2, nd t n 258 (tp0 D n (i + 1)) q2.2) := by
                unfold T0
                rw [hdl, if_neg e1]
              rw [hT0]
              simp [xup_q]
              congr 1
              omega
            · have := h1 i (by omega)
              simp [xup_q, e]
              exact this
  exact loop _ 0 I rfl (fun j hj => by omega) (by show 0 + n ≤ n; omega) xag.rfl (fun i hi => by omega)
def BF (I I' : Nat → Nat → Int32) : Prop := xag I I' [59, 72, 73, 74, 75, 79, 80, 81, 83, 84, 85, 86, 87, 88, 89, 90, 91, 92, 93, 94, 95, 96, 97, 98] ∧ ∀ q, q ≠ 11 → q ≠ 17 → q ≠ 18 → I' 59 q = I 59 q
theorem p_bestPlain0 (hL : L < 2147483648) (hM : MV I 0 V) (hT : MT I n t) (hO : LO I n t 0) (k : ∀ I' m, BF I I' → TM (dp0 V t n n) n m → MA I' m (fun i => T0 t (dp0 V t n n) n (m - 1 - i)) → I' 59 17 = nI 1 → I' 59 18 = nI 0 → Q (none, (xK 0 L, P, I', xup J 59 16 (lN (dv 0 (dp0 V t n n n))), xFr 0 c s))) : Wp (d + 5) 133 0 [some (.ref 59), none] [] (xK 0 L, P, I, J, xFr 0 c s) Q := by
  have hf : 0 < 3 := by decide
  have hn := hT.2.1
  have hB := hM.2.2
  have ht : ∀ j, j < n → t j < 256 := fun j hj => (hT.2.2 j hj).2
  have loop : ∀ q i I1, n - i = q → i ≤ n → xag I I1 [83, 84, 85, 86, 87] → MP I1 t n (dp0 V t n i) → Wp (d + 5) 133 6 [some (.ref 59), some (.int (nI i))] [] (xK 0 L, P, I1, J, xFr 0 c s) Q := by
    intro q
    induction q with
    | zero =>
      intro i I1 hq hi ha h1
      have e : i = n := by omega
      subst e
      have hD := dp0_ok hB hn ht i (Nat.le_refl _)
      refine wX11_bestPlain_6 rfl (br1 ?_ ?_)
      · rw [ha 59 (by decide), hT.1]
        exact (by first | (rw [nI_ltI (by omega) (by omega)]; omega) | (rw [nI_leI (by omega) (by omega)]; omega) | (rw [nI_eq (by omega) (by omega)]; omega) | (rw [nI_e0 (by omega)]; omega) | (rw [nI_le0 (by omega)]; omega))
      · refine p_backPlain0 hL (by rw [ha 59 (by decide)]; exact hM.1) (by rw [ha 59 (by decide)]; exact hT.1) hn hD h1 (fun I2 m b1 b2 b3 b4 => ⟨_, _, rfl, ?_⟩)
        all_goals try dsimp only
        try dsimp only
        refine k _ m ⟨((ha.tw (S := [59, 72, 73, 74, 75, 79, 80, 81, 83, 84, 85, 86, 87, 88, 89, 90, 91, 92, 93, 94, 95, 96, 97, 98]) b1 (by simp)).up (by simp)).up (by simp), fun q z1 z2 z3 => by rw [xup_at, if_neg z3, xup_at, if_neg z2, b2 q z1, ha 59 (by decide)]⟩ b3 (b4.ag2 (S := [59]) ((xag.rfl.up (by simp)).up (by simp)) (by rw [xup_at, if_neg (by decide), xup_at, if_neg (by decide)]) (by decide)) (by rw [xup_at, if_neg (by decide), xup_at, if_pos rfl]) (by rw [xup_at, if_pos rfl])
    | succ q ih =>
      intro i I1 hq hi ha h1
      have hin : i < n := by omega
      have hD := dp0_ok hB hn ht i (by omega)
      have hM1 : MV I1 0 V := hM.ag ha (by decide)
      have hO1 : LO I1 n t 0 := hO.ag ha (by decide)
      refine wX11_bestPlain_6 rfl (br2 ?_ ?_)
      · rw [ha 59 (by decide), hT.1]
        exact (by first | (rw [nI_ltI (by omega) (by omega)]; omega) | (rw [nI_leI (by omega) (by omega)]; omega) | (rw [nI_eq (by omega) (by omega)]; omega) | (rw [nI_e0 (by omega)]; omega) | (rw [nI_le0 (by omega)]; omega))
      · refine p_firstRowM0 hf hL (by decide) hM1.1 (by omega) ⟨_, _, _, rfl, ?_⟩
        all_goals try dsimp only
        refine p_copies0 hL hM1 hn hO1 ht hin hD h1 (fun I2 a1 a2 => ⟨_, _, rfl, ?_⟩)
        all_goals try dsimp only
        try dsimp only
        have ha2 := ha.tr a1 (by simp)
        have hD2 := (ldn_ok hB hn ht hin (lc t n 0 i) _ hD (Nat.le_refl _)).1
        refine p_literals0 hL (hM.ag ha2 (by decide)) (hT.ag ha2 (by decide) (by decide)) hin hD2 a2 (fun I3 b1 b2 => ⟨_, _, rfl, ?_⟩)
        all_goals try dsimp only
        try dsimp only
        rw [nI_add]
        exact ih (i + 1) I3 (by omega) (by omega) (ha2.tr b1 (by simp)) b2
  refine wX11_bestPlain_0 rfl (p_clearTable0 (V := V) (t := t) hL hM.1 hT.1 hn (fun I1 a1 a2 => ⟨_, _, rfl, ?_⟩))
  all_goals try dsimp only
  exact loop n 0 I1 rfl (Nat.zero_le _) a1 a2
end SLM
