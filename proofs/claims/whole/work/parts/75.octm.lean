/-! FORM 1: the reference's table -/
def va1 (D : xD) (i r : Nat) : Nat := match D (i - r) with
  | none => 2000000000
  | some q => q.1 + lt1 r
def MQ1 (I : Nat → Nat → Int32) (t : Nat → Nat) (n : Nat) (D : xD) (p : Nat) : Prop := (∀ i r, i ≤ n → r ≤ i → I 83 (301 * i + r) = nI (if r = 0 ∨ i ≤ p then va1 D i r else 2000000000)) ∧ ∀ i q, i ≠ 0 → i ≤ n → D i = some q → I 84 i = nI (i - q.2) ∧ I 85 i = nI (fl D (i - q.2)) ∧ I 86 i = nI (nd t n 300 (i - q.2) q.2)
theorem va1_le {t : Nat → Nat} {n p i r : Nat} {D : xD} (h : D1 t n p D) (hi : i ≤ 300) (hr : r ≤ i) : va1 D i r ≤ 2000000000 := by
  unfold va1
  cases hq : D (i - r) with
  | none => exact Nat.le_refl _
  | some q =>
    have h1 := h.lt hq (by omega)
    have h2 := (lt1_le r (by omega)).2.2
    show q.1 + lt1 r ≤ _
    omega
theorem va1_fl {D : xD} {i : Nat} (h0 : D 0 = some (0, 0)) : va1 D i (fl D i) = fs D i := by
  obtain ⟨q, h1, h2, h3⟩ := fs_ok (i := i) h0
  unfold va1
  rw [h1]
  exact h2.symm
theorem va1_cg {D D' : xD} {i r : Nat} (h : D' (i - r) = D (i - r)) : va1 D' i r = va1 D i r := by
  unfold va1
  rw [h]
section OCM
variable {d L c s m n : Nat} {t : Nat → Nat} {V : Nat → Nat → Nat} {Q : Option Value × xS → Prop} {P : List Nat × Nat × Nat} {I : Nat → Nat → Int32} {J : Nat → Nat → Int64}
theorem p_firstRow1 (hL : L < 2147483648) (hI : I 59 1 = nI 1) (hn : n ≤ 300) {D : xD} {p i pp : Nat} (hD : D1 t n pp D) (h0 : MQ1 I t n D p) (hi : i ≤ n) (hip : i ≤ p) (k : Q (some (.int (nI (fl D i))), (xK 1 L, P, I, J, xFr 1 c s))) : Wp (d + 1) 127 0 [some (.ref 59), some (.int (nI i)), none, none] [] (xK 1 L, P, I, J, xFr 1 c s) Q := by
  have hf : 1 < 3 := by decide
  have hrow : ∀ r, r ≤ i → I 83 (301 * i + r) = nI (va1 D i r) := fun r hr => by
    rw [h0.1 i r hi hr, if_pos (Or.inr hip)]
  have hfar : ∀ r, r ≤ i + 1 → dv 2000000000 (fa D i r) ≤ 2000000000 ∧ dl (fa D i r) ≤ i := fun r hr => by
    cases hq : fa D i r with
    | none => exact ⟨Nat.le_refl _, Nat.zero_le _⟩
    | some o =>
      obtain ⟨q, h1, h2, h3⟩ := fa_ok r o hq
      have h4 := hD.lt h1 (by omega)
      have h5 := (lt1_le o.2 (by omega)).2.2
      refine ⟨?_, ?_⟩
      · show o.1 ≤ _
        omega
      · show o.2 ≤ i
        omega
  have loop : ∀ w r, i + 1 - r = w → 1 ≤ r → r ≤ i + 1 → I 83 (301 * i + dl (fa D i r)) = nI (dv 2000000000 (fa D i r)) → Wp (d + 1) 127 4 [some (.ref 59), some (.int (nI i)), some (.int (nI (dl (fa D i r)))), some (.int (nI r))] [] (xK 1 L, P, I, J, xFr 1 c s) Q := by
    intro w
    induction w with
    | zero =>
      intro r hw h1 h2 h3
      have e : r = i + 1 := by omega
      subst e
      exact wX11_firstRow_4 (xK_lt hf hL) rfl rfl rfl (br1 (by first | (rw [nI_ltI (by omega) (by omega)]; omega) | (rw [nI_leI (by omega) (by omega)]; omega) | (rw [nI_eq (by omega) (by omega)]; omega) | (rw [nI_e0 (by omega)]; omega) | (rw [nI_le0 (by omega)]; omega)) k)
    | succ w ih =>
      intro r hw h1 h2 h3
      have hfr := hfar r (by omega)
      refine wX11_firstRow_4 (xK_lt hf hL) rfl rfl rfl (br2 (by first | (rw [nI_ltI (by omega) (by omega)]; omega) | (rw [nI_leI (by omega) (by omega)]; omega) | (rw [nI_eq (by omega) (by omega)]; omega) | (rw [nI_e0 (by omega)]; omega) | (rw [nI_le0 (by omega)]; omega)) (bn2 hI (p_atM ⟨_, _, _, rfl, 301 * i + r, rfl, by omega, ?_⟩)))
      all_goals try dsimp only
      try dsimp only
      refine p_atM ⟨_, _, _, rfl, 301 * i + dl (fa D i r), rfl, by omega, ?_⟩
      all_goals try dsimp only
      try dsimp only
      rw [h3, hrow r (by omega)]
      cases hq : D (i - r) with
      | none =>
        have e : fa D i (r + 1) = fa D i r := by rw [fa, hq]
        have ev : va1 D i r = 2000000000 := by unfold va1; rw [hq]
        rw [ev]
        refine br1 (by first | (rw [nI_ltI (by omega) (by omega)]; omega) | (rw [nI_leI (by omega) (by omega)]; omega) | (rw [nI_eq (by omega) (by omega)]; omega) | (rw [nI_e0 (by omega)]; omega) | (rw [nI_le0 (by omega)]; omega)) ?_
        rw [nI_add, ← e]
        exact ih (r + 1) (by omega) (by omega) (by omega) (by rw [e]; exact h3)
      | some q =>
        have hq1 := hD.lt hq (by omega)
        have hl := (lt1_le r (by omega)).2.2
        have e : fa D i (r + 1) = bst (fa D i r) (q.1 + lt1 r, r) := by rw [fa, hq]
        have ev : va1 D i r = q.1 + lt1 r := by unfold va1; rw [hq]
        have hb := dv_bst (far := 2000000000) (o := fa D i r) (q := (q.1 + lt1 r, r)) (by show q.1 + lt1 r < _; omega)
        rw [ev]
        refine brc (nI_leI (by omega) (by omega)) (fun h => ?_) (fun h => ?_)
        · rw [if_neg (by show ¬ q.1 + lt1 r < _; omega)] at hb
          rw [hb] at e
          rw [nI_add, ← e]
          exact ih (r + 1) (by omega) (by omega) (by omega) (by rw [e]; exact h3)
        · rw [if_pos (by show q.1 + lt1 r < _; omega)] at hb
          rw [hb] at e
          rw [nI_add]
          have := ih (r + 1) (by omega) (by omega) (by omega) (by
            rw [e]
            show I 83 (301 * i + r) = nI (q.1 + lt1 r)
            rw [hrow r (by omega), ev])
          rw [e] at this
          exact this
  have e1 : fa D i 1 = match D i with
      | none => none
      | some q => some (q.1 + lt1 0, 0) := by
    rw [fa, Nat.sub_zero]
    cases D i with
    | none => rfl
    | some q => rfl
  have hdl : dl (fa D i 1) = 0 := by
    rw [e1]
    cases D i with
    | none => rfl
    | some q => rfl
  refine wX11_firstRow_0  ?_
  have := loop i 1 (by omega) (by omega) (by omega) (by
    rw [hdl, hrow 0 (by omega), e1]
    unfold va1
    rw [Nat.sub_zero]
    cases D i with
    | none => rfl
    | some q => rfl)
  rw [hdl] at this
  exact this
theorem p_clearTable1 (hL : L < 2147483648) (hI : I 59 1 = nI 1) (hN : I 59 3 = nI n) (hn : n ≤ 300) (k : ∀ I', xag I I' [83, 84, 85, 86, 87] → MQ1 I' t n (dp1 t n 0) 0 → Q (none, (xK 1 L, P, I', J, xFr 1 c s))) : Wp (d + 1) 128 0 [some (.ref 59), none, none] [] (xK 1 L, P, I, J, xFr 1 c s) Q := by
  have hf : 1 < 3 := by decide
  have loop : ∀ q i I1, n + 1 - i = q → i ≤ n + 1 → xag I I1 [83, 84, 85, 86, 87] → (∀ j r, j < i → r ≤ j → I1 83 (301 * j + r) = nI 2000000000) → Wp (d + 1) 128 2 [some (.ref 59), some (.int (nI i)), none] [] (xK 1 L, P, I1, J, xFr 1 c s) Q := by
    intro q
    induction q with
    | zero =>
      intro i I1 hq hi ha h1
      refine wX11_clearTable_2 (xK_lt hf hL) rfl rfl rfl (br1 ?_ ⟨0, rfl, by decide, k _ (ha.up (by simp)) ⟨fun j r hj hr => ?_, fun j q' hj hj2 hq' => ?_⟩⟩)
      · rw [ha 59 (by decide), hN]
        exact (by first | (rw [nI_ltI (by omega) (by omega)]; omega) | (rw [nI_leI (by omega) (by omega)]; omega) | (rw [nI_eq (by omega) (by omega)]; omega) | (rw [nI_e0 (by omega)]; omega) | (rw [nI_le0 (by omega)]; omega))
      · rw [xup_at]
        by_cases e : 301 * j + r = 0
        · have ej : j = 0 := by omega
          have er : r = 0 := by omega
          subst ej er
          rw [if_pos e, if_pos (Or.inl rfl)]
          rfl
        · rw [if_neg e, h1 j r (by omega) hr]
          by_cases e2 : r = 0 ∨ j ≤ 0
          · rw [if_pos e2]
            have : dp1 t n 0 (j - r) = none := if_neg (by omega)
            unfold va1
            rw [this]
          · rw [if_neg e2]
      · have : dp1 t n 0 j = none := if_neg hj
        rw [this] at hq'
        cases hq'
    | succ q ih =>
      intro i I1 hq hi ha h1
      have hI1 : I1 59 1 = nI 1 := by rw [ha 59 (by decide)]; exact hI
      refine wX11_clearTable_2 (xK_lt hf hL) rfl rfl rfl (br2 ?_ ?_)
      · rw [ha 59 (by decide), hN]
        exact (by first | (rw [nI_ltI (by omega) (by omega)]; omega) | (rw [nI_leI (by omega) (by omega)]; omega) | (rw [nI_eq (by omega) (by omega)]; omega) | (rw [nI_e0 (by omega)]; omega) | (rw [nI_le0 (by omega)]; omega))
      have inner : ∀ w r I2, i + 1 - r = w → r ≤ i + 1 → xag I I2 [83, 84, 85, 86, 87] → (∀ j r', j < i → r' ≤ j → I2 83 (301 * j + r') = nI 2000000000) → (∀ r', r' < r → I2 83 (301 * i + r') = nI 2000000000) → Wp (d + 1) 128 12 [some (.ref 59), some (.int (nI i)), some (.int (nI r))] [] (xK 1 L, P, I2, J, xFr 1 c s) Q := by
        intro w
        induction w with
        | zero =>
          intro r I2 hw hr ha2 h2 h3
          have hI2 : I2 59 1 = nI 1 := by rw [ha2 59 (by decide)]; exact hI
          refine wX11_clearTable_12 rfl (bn2 hI2 ?_)
          refine wX11_clearTable_26 (xK_lt hf hL) rfl rfl rfl rfl rfl (br1 (by first | (rw [nI_ltI (by omega) (by omega)]; omega) | (rw [nI_leI (by omega) (by omega)]; omega) | (rw [nI_eq (by omega) (by omega)]; omega) | (rw [nI_e0 (by omega)]; omega) | (rw [nI_le0 (by omega)]; omega)) ⟨i, rfl, by omega, ?_⟩)
          rw [nI_add]
          refine ih (i + 1) _ (by omega) (by omega) (ha2.up (by simp)) (fun j r' hj hr' => ?_)
          rw [xup_ne _ _ _ (by decide)]
          by_cases e : j = i
          · subst e
            exact h3 r' (by omega)
          · exact h2 j r' (by omega) hr'
        | succ w ihw =>
          intro r I2 hw hr ha2 h2 h3
          have hI2 : I2 59 1 = nI 1 := by rw [ha2 59 (by decide)]; exact hI
          refine wX11_clearTable_12 rfl (bn2 hI2 ?_)
          refine wX11_clearTable_26 (xK_lt hf hL) rfl rfl rfl rfl rfl (br2 (by first | (rw [nI_ltI (by omega) (by omega)]; omega) | (rw [nI_leI (by omega) (by omega)]; omega) | (rw [nI_eq (by omega) (by omega)]; omega) | (rw [nI_e0 (by omega)]; omega) | (rw [nI_le0 (by omega)]; omega)) (p_atM ⟨_, _, _, rfl, 301 * i + r, rfl, by omega, ?_⟩))
          all_goals try dsimp only
          try dsimp only
          rw [nI_add]
          refine ihw (r + 1) _ (by omega) (by omega) (ha2.up (by simp)) (fun j r' hj hr' => ?_) (fun r' hr' => ?_)
          · rw [xup_at, if_neg (by omega)]
            exact h2 j r' hj hr'
          · rw [xup_at]
            by_cases e : r' = r
            · rw [if_pos (by omega)]
            · rw [if_neg (by omega)]
              exact h3 r' (by omega)
      exact inner _ 0 I1 rfl (by omega) ha h1 (fun r' hr' => by omega)
  exact wX11_clearTable_0  (loop _ 0 I rfl (by omega) xag.rfl (fun j r hj => by omega))
theorem p_copies1 (hL : L < 2147483648) (hI : I 59 1 = nI 1) (hn : n ≤ 300) (hO : LO I n t 1) {i : Nat} (hi : i < n) {D : xD} (hD : D1 t n (i + 1) D) (h0 : MQ1 I t n D i) (k : ∀ I', xag I I' [83, 84, 85, 86, 87] → MQ1 I' t n (ldn1 i D (lc t n 1 i)) i → Q (none, (xK 1 L, P, I', J, xFr 1 c s))) : Wp (d + 4) 129 0 [some (.ref 59), some (.int (nI i)), some (.int (nI (fl D i))), none, none, none, none] [] (xK 1 L, P, I, J, xFr 1 c s) Q := by
  have hf : 1 < 3 := by decide
  have hfs := hD.fs_le (i := i) (by omega)
  refine wX11_copies_0 (xK_lt hf hL) rfl rfl rfl (p_atM ⟨_, _, _, rfl, 301 * i + fl D i, rfl, by omega, ?_⟩)
  all_goals try dsimp only
  try dsimp only
  refine p_longestCopyM hf hL hI hO hn hi ⟨_, _, _, rfl, ?_⟩
  all_goals try dsimp only
  rw [h0.1 i (fl D i) (by omega) hfs.2, if_pos (Or.inr (Nat.le_refl _)), va1_fl hD.1]
  have loop : ∀ l I2 D2, l ≤ lc t n 1 i → xag I I2 [83, 84, 85, 86, 87] → D1 t n (i + 1) D2 → (∀ j, j ≤ i → D2 j = D j) → MQ1 I2 t n D2 i → ldn1 i D2 l = ldn1 i D (lc t n 1 i) → Wp (d + 4) 129 19 [some (.ref 59), some (.int (nI i)), some (.int (nI (fl D i))), some (.int (nI (fs D i))), some (.int (nI l)), none, none] [] (xK 1 L, P, I2, J, xFr 1 c s) Q := by
    intro l
    induction l with
    | zero =>
      intro I2 D2 hl ha hD2 hDe h2 he
      have hI2 : I2 59 1 = nI 1 := by rw [ha 59 (by decide)]; exact hI
      refine wX11_copies_19 (xK_lt hf hL) rfl rfl rfl rfl rfl rfl rfl rfl rfl rfl rfl rfl rfl (p_shortestM hf hI2 ⟨_, _, _, rfl, ?_⟩)
      all_goals try dsimp only
      try dsimp only
      refine br1 (by decide) (k I2 ha ?_)
      rw [ldn1] at he
      rw [← he]
      exact h2
    | succ l ih =>
      intro I2 D2 hl ha hD2 hDe h2 he
      have hI2 : I2 59 1 = nI 1 := by rw [ha 59 (by decide)]; exact hI
      have hO2 : LO I2 n t 1 := hO.ag ha (by decide)
      rw [ldn1] at he
      have hlc := lc_ok (t := t) (n := n) (f := 1) (i := i) (by omega)
      rw [show xgt 1 = 300 from rfl] at hlc
      refine wX11_copies_19 (xK_lt hf hL) rfl rfl rfl rfl rfl rfl rfl rfl rfl rfl rfl rfl rfl (p_shortestM hf hI2 ⟨_, _, _, rfl, ?_⟩)
      all_goals try dsimp only
      try dsimp only
      refine brc (p := l + 1 < 4) (nI_ltI (by omega) (by decide)) (fun h => ?_) (fun h => ⟨301 * i + (l + 1), by rw [pk_mul, nI_add], by omega, ?_⟩)
      · rw [if_pos h] at he
        refine k I2 ha ?_
        rw [← he]
        exact h2
      · rw [if_neg h] at he
        have hd := nd_ok (t := t) (n := n) (G := 300) (i := i) (l := l + 1) (by omega) (by omega)
        have hlok := ld1_ok hn hi hD2 (l := l + 1) (by omega) hl
        have hcp := cp1_le (l + 1) (by omega)
        have hnd : I2 80 (301 * i + (l + 1)) = nI (nd t n 300 i (l + 1)) := hO2.2 i (l + 1) hi hi (by omega) (by omega)
        have efs : fs D2 i = fs D i := fs_cg hDe
        have efl : fl D2 i = fl D i := fl_cg hDe
        rw [hnd]
        refine p_stepCostM1 (r := 0) hL hI2 (by decide) (by omega) (by decide) ⟨_, _, _, rfl, ?_⟩
        all_goals try dsimp only
        rw [if_neg (by decide)]
        rw [nI_add]
        refine p_atM ⟨_, _, _, rfl, 301 * (i + (l + 1)) + 0, rfl, by omega, ?_⟩
        all_goals try dsimp only
        try dsimp only
        have hfar : dv 2000000000 (D2 (i + (l + 1))) ≤ 2000000000 := by
          cases hq : D2 (i + (l + 1)) with
          | none => exact Nat.le_refl _
          | some q =>
            have := hD2.lt hq (by omega)
            show q.1 ≤ _
            omega
        have hb := dv_bst (far := 2000000000) (o := D2 (i + (l + 1))) (q := (fs D2 i + cp1 (l + 1), l + 1)) (by rw [efs]; show fs D i + cp1 (l + 1) < 2000000000; omega)
        have h83 : I2 83 (301 * (i + (l + 1)) + 0) = nI (dv 2000000000 (D2 (i + (l + 1)))) := by
          rw [h2.1 (i + (l + 1)) 0 (by omega) (by omega), if_pos (Or.inl rfl)]
          unfold va1
          rw [Nat.sub_zero]
          cases D2 (i + (l + 1)) with
          | none => rfl
          | some q => rfl
        rw [h83, nI_add]
        refine brc (nI_leI (by omega) (by omega)) (fun h4 => ?_) (fun h4 => ?_)
        · rw [if_neg (by rw [efs]; show ¬ fs D i + cp1 (l + 1) < _; omega)] at hb
          have e2 : ld1 D2 i (l + 1) = D2 := by
            unfold ld1
            rw [hb]
            funext j
            by_cases e : j = i + (l + 1)
            · rw [e, va_up_self]
            · rw [va_up_ne _ _ e]
          rw [e2] at he
          rw [xm1, pk_sub (by omega), Nat.add_sub_cancel]
          exact ih I2 D2 (by omega) ha hD2 hDe h2 he
        · rw [if_pos (by rw [efs]; show fs D i + cp1 (l + 1) < _; omega)] at hb
          refine p_atM ⟨_, _, _, rfl, 301 * (i + (l + 1)) + 0, rfl, by omega, i + (l + 1), rfl, by omega, i + (l + 1), rfl, by omega, i + (l + 1), rfl, by omega, i + (l + 1), rfl, by omega, ?_⟩
          all_goals try dsimp only
          try dsimp only
          rw [xm1, pk_sub (by omega), Nat.add_sub_cancel]
          have hself : ld1 D2 i (l + 1) (i + (l + 1)) = some (fs D2 i + cp1 (l + 1), l + 1) := by
            unfold ld1
            rw [va_up_self, hb]
          have hoth : ∀ j, j ≠ i + (l + 1) → ld1 D2 i (l + 1) j = D2 j := fun j e => va_up_ne _ _ e
          refine ih _ _ (by omega) (((((ha.up (by simp)).up (by simp)).up (by simp)).up (by simp)).up (by simp)) hlok.1 (fun j hj => by rw [hlok.2.1 j hj]; exact hDe j hj) ⟨fun j r hj hr => ?_, fun j q hj hj2 hq => ?_⟩ he
          · rw [xup_ne _ _ _ (by decide), xup_ne _ _ _ (by decide), xup_ne _ _ _ (by decide), xup_ne _ _ _ (by decide), xup_at]
            by_cases e : j = i + (l + 1) ∧ r = 0
            · rw [if_pos (by omega), if_pos (Or.inl e.2)]
              unfold va1
              rw [e.1, e.2, Nat.sub_zero, hself]
              show _ = nI (fs D2 i + cp1 (l + 1) + 0)
              rw [efs]
              rfl
            · rw [if_neg (by omega), h2.1 j r hj hr]
              by_cases e2 : r = 0 ∨ j ≤ i
              · rw [if_pos e2, if_pos e2, va1_cg (hoth (j - r) (by omega))]
              · rw [if_neg e2, if_neg e2]
          · by_cases e : j = i + (l + 1)
            · rw [e, hself] at hq
              cases hq
              show _ = nI (j - (l + 1)) ∧ _ = nI (fl _ (j - (l + 1))) ∧ _ = nI (nd t n 300 (j - (l + 1)) (l + 1))
              rw [show j - (l + 1) = i by omega, e]
              refine ⟨?_, ?_, ?_⟩
              · rw [xup_ne _ _ _ (by decide), xup_ne _ _ _ (by decide), xup_ne _ _ _ (by decide), xup_at, if_pos rfl]
              · rw [xup_ne _ _ _ (by decide), xup_ne _ _ _ (by decide), xup_at, if_pos rfl, fl_cg (D := D2) (fun j' hj' => hlok.2.1 j' hj'), efl]
              · rw [xup_ne _ _ _ (by decide), xup_at, if_pos rfl]
            · rw [hoth j e] at hq
              have h3 := h2.2 j q hj hj2 hq
              have h4' := hD2.2 j q hj hq
              refine ⟨?_, ?_, ?_⟩
              · rw [xup_ne _ _ _ (by decide), xup_ne _ _ _ (by decide), xup_ne _ _ _ (by decide), xup_at, if_neg e, xup_ne _ _ _ (by decide)]
                exact h3.1
              · rw [xup_ne _ _ _ (by decide), xup_ne _ _ _ (by decide), xup_at, if_neg e, xup_ne _ _ _ (by decide), xup_ne _ _ _ (by decide), fl_cg (D := D2) (fun j' hj' => hlok.2.1 j' (by omega))]
                exact h3.2.1
              · rw [xup_ne _ _ _ (by decide), xup_at, if_neg e, xup_ne _ _ _ (by decide), xup_ne _ _ _ (by decide), xup_ne _ _ _ (by decide)]
                exact h3.2.2
  exact loop _ I D (Nat.le_refl _) xag.rfl hD (fun _ _ => rfl) h0 rfl
theorem p_literals1 (hL : L < 2147483648) (hI : I 59 1 = nI 1) (hT : MT I n t) {i : Nat} (hi : i < n) {D : xD} (hD : D1 t n (i + 1) D) (h0 : MQ1 I t n D i) (k : ∀ I', xag I I' [83, 84, 85, 86, 87] → MQ1 I' t n D (i + 1) → Q (none, (xK 1 L, P, I', J, xFr 1 c s))) : Wp (d + 4) 130 0 [some (.ref 59), some (.int (nI i)), none, none, none, none] [] (xK 1 L, P, I, J, xFr 1 c s) Q := by
  have hf : 1 < 3 := by decide
  have hn := hT.2.1
  have loop : ∀ w r I1, i + 1 - r = w → r ≤ i + 1 → xag I I1 [83] → (∀ j r', j ≤ n → r' ≤ j → I1 83 (301 * j + r') = nI (if r' = 0 ∨ j ≤ i ∨ (j = i + 1 ∧ r' ≤ r) then va1 D j r' else 2000000000)) → Wp (d + 4) 130 2 [some (.ref 59), some (.int (nI i)), some (.int (nI r)), none, none, none] [] (xK 1 L, P, I1, J, xFr 1 c s) Q := by
    intro w
    induction w with
    | zero =>
      intro r I1 hw hr ha h1
      have e : r = i + 1 := by omega
      subst e
      refine wX11_literals_2 rfl (bn2 (by rw [ha 59 (by decide)]; exact hI) ?_)
      refine wX11_literals_16 (xK_lt hf hL) rfl rfl rfl rfl rfl (br1 (by first | (rw [nI_ltI (by omega) (by omega)]; omega) | (rw [nI_leI (by omega) (by omega)]; omega) | (rw [nI_eq (by omega) (by omega)]; omega) | (rw [nI_e0 (by omega)]; omega) | (rw [nI_le0 (by omega)]; omega)) (k I1 (ha.wd (by simp)) ⟨fun j r' hj hr' => ?_, fun j q hj hj2 hq => ?_⟩))
      · rw [h1 j r' hj hr']
        by_cases e : r' = 0 ∨ j ≤ i + 1
        · rw [if_pos e, if_pos (by omega)]
        · rw [if_neg e, if_neg (by omega)]
      · rw [ha 84 (by decide), ha 85 (by decide), ha 86 (by decide)]
        exact h0.2 j q hj hj2 hq
    | succ w ih =>
      intro r I1 hw hr ha h1
      have hI1 : I1 59 1 = nI 1 := by rw [ha 59 (by decide)]; exact hI
      have hti := hT.2.2 i hi
      have hva := va1_le (i := i) (r := r) hD (by omega) (by omega)
      have hrow := h1 i r (by omega) (by omega)
      rw [if_pos (by omega)] at hrow
      refine wX11_literals_2 rfl (bn2 hI1 ?_)
      refine wX11_literals_16 (xK_lt hf hL) rfl rfl rfl rfl rfl (br2 (by first | (rw [nI_ltI (by omega) (by omega)]; omega) | (rw [nI_leI (by omega) (by omega)]; omega) | (rw [nI_eq (by omega) (by omega)]; omega) | (rw [nI_e0 (by omega)]; omega) | (rw [nI_le0 (by omega)]; omega)) (p_atM ⟨_, _, _, rfl, 301 * i + r, rfl, by omega, ?_⟩))
      all_goals try dsimp only
      try dsimp only
      rw [hrow]
      have hnx : va1 D (i + 1) (r + 1) = match D (i - r) with
          | none => 2000000000
          | some q => q.1 + lt1 (r + 1) := by
        unfold va1
        rw [show i + 1 - (r + 1) = i - r by omega]
      cases hq : D (i - r) with
      | none =>
        have ev : va1 D i r = 2000000000 := by unfold va1; rw [hq]
        rw [hq] at hnx
        rw [ev]
        refine br1 (by first | (rw [nI_ltI (by omega) (by omega)]; omega) | (rw [nI_leI (by omega) (by omega)]; omega) | (rw [nI_eq (by omega) (by omega)]; omega) | (rw [nI_e0 (by omega)]; omega) | (rw [nI_le0 (by omega)]; omega)) ?_
        rw [nI_add]
        refine ih (r + 1) I1 (by omega) (by omega) ha (fun j r' hj hr' => ?_)
        rw [h1 j r' hj hr']
        by_cases e : j = i + 1 ∧ r' = r + 1
        · rw [if_neg (by omega), if_pos (by omega), e.1, e.2, hnx]
        · by_cases e2 : r' = 0 ∨ j ≤ i ∨ (j = i + 1 ∧ r' ≤ r)
          · rw [if_pos e2, if_pos (by omega)]
          · rw [if_neg e2, if_neg (by omega)]
      | some q =>
        have hq1 := hD.lt hq (by omega)
        have hl := lt1_le r (by omega)
        have ev : va1 D i r = q.1 + lt1 r := by unfold va1; rw [hq]
        rw [hq] at hnx
        rw [ev]
        refine br2 (by first | (rw [nI_ltI (by omega) (by omega)]; omega) | (rw [nI_leI (by omega) (by omega)]; omega) | (rw [nI_eq (by omega) (by omega)]; omega) | (rw [nI_e0 (by omega)]; omega) | (rw [nI_le0 (by omega)]; omega)) ⟨i, rfl, by omega, ?_⟩
        refine p_stepCostM1 hL hI1 (by decide) (by decide) (by omega) ⟨_, _, _, rfl, ?_⟩
        all_goals try dsimp only
        rw [if_pos rfl]
        refine bn2 hI1 ?_
        rw [nI_add, nI_add, nI_add, show q.1 + lt1 r + (lt1 (r + 1) - lt1 r) = q.1 + lt1 (r + 1) by omega]
        refine wX11_literals_74 (xK_lt hf hL) rfl rfl rfl rfl rfl rfl (p_atM ⟨_, _, _, rfl, 301 * (i + 1) + (r + 1), rfl, by omega, ?_⟩)
        all_goals try dsimp only
        try dsimp only
        rw [h1 (i + 1) (r + 1) (by omega) (by omega), if_neg (by omega)]
        refine br2 (by first | (rw [nI_ltI (by omega) (by omega)]; omega) | (rw [nI_leI (by omega) (by omega)]; omega) | (rw [nI_eq (by omega) (by omega)]; omega) | (rw [nI_e0 (by omega)]; omega) | (rw [nI_le0 (by omega)]; omega)) ⟨301 * (i + 1) + (r + 1), rfl, by omega, bn1 (by rw [xup_ne _ _ _ (by decide), hI1]; decide) ?_⟩
        rw [nI_add]
        refine ih (r + 1) _ (by omega) (by omega) (ha.up (by simp)) (fun j r' hj hr' => ?_)
        rw [xup_at]
        by_cases e : j = i + 1 ∧ r' = r + 1
        · rw [if_pos (by omega), if_pos (by omega), e.1, e.2, hnx]
        · rw [if_neg (by omega), h1 j r' hj hr']
          by_cases e2 : r' = 0 ∨ j ≤ i ∨ (j = i + 1 ∧ r' ≤ r)
          · rw [if_pos e2, if_pos (by omega)]
          · rw [if_neg e2, if_neg (by omega)]
  refine wX11_literals_0  (loop _ 0 I rfl (by omega) xag.rfl (fun j r' hj hr' => ?_))
  rw [h0.1 j r' hj hr']
  by_cases e : r' = 0 ∨ j ≤ i
  · rw [if_pos e, if_pos (by omega)]
  · rw [if_neg e, if_neg (by omega)]
theorem p_backPlain1 (hL : L < 2147483648) (hI : I 59 1 = nI 1) (hN : I 59 3 = nI n) (hn : n ≤ 300) {D : xD} (hD : D1 t n n D) (h0 : MQ1 I t n D n) (k : ∀ I' m, xag I I' [59, 72, 73, 74, 75, 88, 89, 90, 91] → (∀ q, q ≠ 11 → I' 59 q = I 59 q) → TM1 D n m → MA I' m (fun i => T1 t D n (m - 1 - i)) → Q (none, (xK 1 L, P, I', xup J 59 16 (lN (fs D n + 512)), xFr 1 c s))) : Wp (d + 2) 131 0 [some (.ref 59), none, none, none, none, none] [] (xK 1 L, P, I, J, xFr 1 c s) Q := by
  have hf : 1 < 3 := by decide
  have hfs := hD.fs_le (i := n) (by omega)
  refine wX11_backPlain_0 (xK_lt hf hL) rfl rfl rfl ?_
  rw [hN]
  refine p_firstRow1 hL hI hn hD h0 (Nat.le_refl _) (Nat.le_refl _) ⟨_, _, _, rfl, ?_⟩
  all_goals try dsimp only
  rw [hN]
  refine p_atM ⟨_, _, _, rfl, 301 * n + fl D n, rfl, by omega, ?_⟩
  all_goals try dsimp only
  try dsimp only
  refine bn2 hI ?_
  rw [h0.1 n (fl D n) (Nat.le_refl _) hfs.2, if_pos (Or.inr (Nat.le_refl _)), va1_fl hD.1, xi2l (by omega), lN_add]
  have loop : ∀ w j I1, n - j = w → (∀ j', j' < j → (tp1 D n j').1 ≠ 0) → xag I I1 [88, 89, 90, 91] → TB I1 j (T1 t D n) → Wp (d + 2) 131 51 [some (.ref 59), some (.int (nI (tp1 D n j).1)), some (.int (nI (tp1 D n j).2)), some (.int (nI j)), none, none] [] (xK 1 L, P, I1, xup J 59 16 (lN (fs D n + 512)), xFr 1 c s) Q := by
    intro w
    induction w using Nat.strongRecOn with
    | _ w ih =>
      intro j I1 hw hj ha h1
      have hok := tp1_ok hn hD j hj
      by_cases hend : (tp1 D n j).1 = 0
      · refine wX11_backPlain_51 (xK_lt hf hL) rfl rfl rfl rfl rfl (br1 ?_ ?_)
        · rw [hend]
          decide
        · refine p_turnBackM hf hL (by omega) h1 (fun I2 b1 b2 b3 => ⟨_, _, rfl, ?_⟩)
          all_goals try dsimp only
          exact k I2 j (ha.tw b1 (by simp)) (fun q hq => by rw [b2 q hq, ha 59 (by decide)]) ⟨hend, hj⟩ b3
      · have hI1 : I1 59 1 = nI 1 := by rw [ha 59 (by decide)]; exact hI
        have hj2 : ∀ j', j' < j + 1 → (tp1 D n j').1 ≠ 0 := fun j' hj' => by
          by_cases e : j' = j
          · rw [e]; exact hend
          · exact hj j' (by omega)
        refine wX11_backPlain_51 (xK_lt hf hL) rfl rfl rfl rfl rfl (br2 (by first | (rw [nI_ltI (by omega) (by omega)]; omega) | (rw [nI_leI (by omega) (by omega)]; omega) | (rw [nI_eq (by omega) (by omega)]; omega) | (rw [nI_e0 (by omega)]; omega) | (rw [nI_le0 (by omega)]; omega)) (bn2 hI1 ?_))
        by_cases e1 : 0 < (tp1 D n j).2
        · have e2 : tp1 D n (j + 1) = ((tp1 D n j).1 - 1, (tp1 D n j).2 - 1) := by rw [tp1, if_pos e1]
          refine br2 (by first | (rw [nI_ltI (by omega) (by omega)]; omega) | (rw [nI_leI (by omega) (by omega)]; omega) | (rw [nI_eq (by omega) (by omega)]; omega) | (rw [nI_e0 (by omega)]; omega) | (rw [nI_le0 (by omega)]; omega)) (br2 (by decide) ?_)
          refine wX11_backPlain_100 (xK_lt hf hL) rfl rfl rfl rfl rfl rfl rfl rfl ⟨j, rfl, by omega, br2 (by decide) ⟨j, rfl, by omega, br2 (by decide) ?_⟩⟩
          refine wX11_backPlain_146 (xK_lt hf hL) rfl rfl rfl rfl rfl rfl ⟨j, rfl, by omega, j, rfl, by omega, br2 (by decide) (bn2 ?_ ?_)⟩
          · rw [xup_ne _ _ _ (by decide), xup_ne _ _ _ (by decide), xup_ne _ _ _ (by decide), xup_ne _ _ _ (by decide), hI1]
          · rw [pk_sub (by omega), nI_add, pk_sub (by omega), pk_sub (by omega)]
            have := ih (n - (j + 1)) (by omega) (j + 1) (xup (xup (xup (xup I1 88 j (nI ((tp1 D n j).1 - 1))) 89 j (nI 0)) 90 j (nI 0)) 91 j (nI ((tp1 D n j).1 - ((tp1 D n j).1 - 1)))) rfl hj2 ((((ha.up (by simp)).up (by simp)).up (by simp)).up (by simp)) (fun i hi => by
              by_cases e : i = j
              · subst e
                have hT0 : T1 t D n i = (0, (tp1 D n i).1 - 1, 1, 0) := by
                  unfold T1
                  rw [if_pos e1, e2]
                rw [hT0]
                simp [xup_q]
                congr 1
                omega
              · have := h1 i (by omega)
                simp [xup_q, e]
                exact this)
            rw [e2] at this
            exact this
        · have e3 : (tp1 D n j).2 = 0 := by omega
          obtain ⟨q, g1, g2, g3, g4, g5, g6⟩ := tp1_cp hn hD hj hend e3
          have hdl : dl (D (tp1 D n j).1) = q.2 := by rw [g1]; rfl
          have hrow := h0.2 _ q hend (by omega) g1
          rw [e3]
          refine br1 (by decide) (br1 (by decide) ⟨(tp1 D n j).1, rfl, by omega, ?_⟩)
          rw [ha 84 (by decide), hrow.1]
          refine wX11_backPlain_100 (xK_lt hf hL) rfl rfl rfl rfl rfl rfl rfl rfl ⟨j, rfl, by omega, br1 (by decide) ⟨j, rfl, by omega, br1 (by decide) ⟨(tp1 D n j).1, rfl, by omega, ?_⟩⟩⟩
          have h86 : xup (xup I1 88 j (nI ((tp1 D n j).1 - q.2))) 89 j (nI 1) 86 (tp1 D n j).1 = nI (nd t n 300 ((tp1 D n j).1 - q.2) q.2) := by
            rw [xup_ne _ _ _ (by decide), xup_ne _ _ _ (by decide), ha 86 (by decide), hrow.2.2]
          rw [h86]
          refine wX11_backPlain_146 (xK_lt hf hL) rfl rfl rfl rfl rfl rfl ⟨j, rfl, by omega, j, rfl, by omega, br1 (by decide) ⟨(tp1 D n j).1, rfl, by omega, ?_⟩⟩
          have h85 : ∀ v, xup (xup (xup (xup I1 88 j (nI ((tp1 D n j).1 - q.2))) 89 j (nI 1)) 90 j (nI (nd t n 300 ((tp1 D n j).1 - q.2) q.2))) 91 j v 85 (tp1 D n j).1 = nI (fl D ((tp1 D n j).1 - q.2)) := by
            intro v
            rw [xup_ne _ _ _ (by decide), xup_ne _ _ _ (by decide), xup_ne _ _ _ (by decide), xup_ne _ _ _ (by decide), ha 85 (by decide), hrow.2.1]
          rw [h85, nI_add, pk_sub (by omega)]
          have := ih (n - (j + 1)) (by omega) (j + 1) (xup (xup (xup (xup I1 88 j (nI ((tp1 D n j).1 - q.2))) 89 j (nI 1)) 90 j (nI (nd t n 300 ((tp1 D n j).1 - q.2) q.2))) 91 j (nI ((tp1 D n j).1 - ((tp1 D n j).1 - q.2)))) rfl hj2 ((((ha.up (by simp)).up (by simp)).up (by simp)).up (by simp)) (fun i hi => by
            by_cases e : i = j
            · subst e
              have hT0 : T1 t D n i = (1, (tp1 D n i).1 - q.2, q.2, nd t n 300 ((tp1 D n i).1 - q.2) q.2) := by
                unfold T1
                rw [if_neg e1, hdl, g6]
              rw [hT0]
              simp [xup_q]
              congr 1
              omega
            · have := h1 i (by omega)
              simp [xup_q, e]
              exact this)
          rw [g6] at this
          exact this
  exact loop _ 0 I rfl (fun j hj => by omega) xag.rfl (fun i hi => by omega)
theorem p_bestPlain1 (hL : L < 2147483648) (hI : I 59 1 = nI 1) (hT : MT I n t) (hO : LO I n t 1) (k : ∀ I' m, BF I I' → TM1 (dp1 t n n) n m → MA I' m (fun i => T1 t (dp1 t n n) n (m - 1 - i)) → I' 59 17 = nI 1 → I' 59 18 = nI 0 → Q (none, (xK 1 L, P, I', xup J 59 16 (lN (fs (dp1 t n n) n + 512)), xFr 1 c s))) : Wp (d + 5) 133 0 [some (.ref 59), none] [] (xK 1 L, P, I, J, xFr 1 c s) Q := by
  have hf : 1 < 3 := by decide
  have hn := hT.2.1
  have loop : ∀ q i I1, n - i = q → i ≤ n → xag I I1 [83, 84, 85, 86, 87] → MQ1 I1 t n (dp1 t n i) i → Wp (d + 5) 133 6 [some (.ref 59), some (.int (nI i))] [] (xK 1 L, P, I1, J, xFr 1 c s) Q := by
    intro q
    induction q with
    | zero =>
      intro i I1 hq hi ha h1
      have e : i = n := by omega
      subst e
      have hD := dp1_ok (t := t) hn i (Nat.le_refl _)
      refine wX11_bestPlain_6 rfl (br1 ?_ ?_)
      · rw [ha 59 (by decide), hT.1]
        exact (by first | (rw [nI_ltI (by omega) (by omega)]; omega) | (rw [nI_leI (by omega) (by omega)]; omega) | (rw [nI_eq (by omega) (by omega)]; omega) | (rw [nI_e0 (by omega)]; omega) | (rw [nI_le0 (by omega)]; omega))
      · refine p_backPlain1 hL (by rw [ha 59 (by decide)]; exact hI) (by rw [ha 59 (by decide)]; exact hT.1) hn hD h1 (fun I2 m b1 b2 b3 b4 => ⟨_, _, rfl, ?_⟩)
        all_goals try dsimp only
        try dsimp only
        refine k _ m ⟨((ha.tw (S := [59, 72, 73, 74, 75, 79, 80, 81, 83, 84, 85, 86, 87, 88, 89, 90, 91, 92, 93, 94, 95, 96, 97, 98]) b1 (by simp)).up (by simp)).up (by simp), fun q z1 z2 z3 => by rw [xup_at, if_neg z3, xup_at, if_neg z2, b2 q z1, ha 59 (by decide)]⟩ b3 (b4.ag2 (S := [59]) ((xag.rfl.up (by simp)).up (by simp)) (by rw [xup_at, if_neg (by decide), xup_at, if_neg (by decide)]) (by decide)) (by rw [xup_at, if_neg (by decide), xup_at, if_pos rfl]) (by rw [xup_at, if_pos rfl])
    | succ q ih =>
      intro i I1 hq hi ha h1
      have hin : i < n := by omega
      have hD := (dp1_ok (t := t) hn i (by omega)).up
      have hI1 : I1 59 1 = nI 1 := by rw [ha 59 (by decide)]; exact hI
      have hO1 : LO I1 n t 1 := hO.ag ha (by decide)
      refine wX11_bestPlain_6 rfl (br2 ?_ ?_)
      · rw [ha 59 (by decide), hT.1]
        exact (by first | (rw [nI_ltI (by omega) (by omega)]; omega) | (rw [nI_leI (by omega) (by omega)]; omega) | (rw [nI_eq (by omega) (by omega)]; omega) | (rw [nI_e0 (by omega)]; omega) | (rw [nI_le0 (by omega)]; omega))
      · refine p_firstRow1 hL hI1 hn hD h1 (by omega) (Nat.le_refl _) ⟨_, _, _, rfl, ?_⟩
        all_goals try dsimp only
        refine p_copies1 hL hI1 hn hO1 hin hD h1 (fun I2 a1 a2 => ⟨_, _, rfl, ?_⟩)
        all_goals try dsimp only
        try dsimp only
        have ha2 := ha.tr a1 (by simp)
        have hD2 := (ldn1_ok hn hin (lc t n 1 i) _ hD (Nat.le_refl _)).1
        refine p_literals1 hL (by rw [ha2 59 (by decide)]; exact hI) (hT.ag ha2 (by decide) (by decide)) hin hD2 a2 (fun I3 b1 b2 => ⟨_, _, rfl, ?_⟩)
        all_goals try dsimp only
        try dsimp only
        rw [nI_add]
        exact ih (i + 1) I3 (by omega) (by omega) (ha2.tr b1 (by simp)) b2
  refine wX11_bestPlain_0 rfl (p_clearTable1 (t := t) hL hI hT.1 hn (fun I1 a1 a2 => ⟨_, _, rfl, ?_⟩))
  all_goals try dsimp only
  exact loop n 0 I1 rfl (Nat.zero_le _) a1 a2
end OCM
