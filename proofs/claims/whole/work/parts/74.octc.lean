/-! FORM 1: the class's search -/
def OF (I : Nat → Nat → Int32) (D : xD) : Prop := ∀ i, i ≤ 300 → I 23 i = nI (dv 1073741824 (D i)) ∧ (D i ≠ none → i ≠ 0 → I 24 i = nI (dl (D i)))
def OL (I : Nat → Nat → Int32) (D : xD) (t : Nat → Nat) (n p : Nat) : Prop := ∀ i, i < p → lc t n 1 i ≠ 0 → I 25 i = nI (fl D i)
theorem OF.ag {I I1 : Nat → Nat → Int32} {S : List Nat} {D : xD} (h : OF I D) (ha : xag I I1 S) (h1 : 23 ∉ S ∧ 24 ∉ S) : OF I1 D := by
  unfold OF
  rw [ha 23 h1.1, ha 24 h1.2]
  exact h
theorem LC.ag {I I1 : Nat → Nat → Int32} {S : List Nat} (h : LC I) (ha : xag I I1 S) (h1 : 27 ∉ S) : LC I1 := by
  unfold LC
  rw [ha 27 h1]
  exact h
theorem D1.lt {t : Nat → Nat} {n p i : Nat} {D : xD} {q : Nat × Nat} (h : D1 t n p D) (hq : D i = some q) (hi : i ≤ 300) : q.1 ≤ 768000 := by
  by_cases e : i = 0
  · rw [e, h.1] at hq
    cases hq
    exact Nat.zero_le _
  · have := (h.2 i q e hq).2.2.2.2.2.2
    omega
section OCC
variable {d L c s p m n : Nat} {t : Nat → Nat} {Q : Option Value × xS → Prop} {P : List Nat × Nat × Nat} {I : Nat → Nat → Int32} {J : Nat → Nat → Int64}
theorem p_findFirst (hL : L < 2147483648) (hn : n ≤ 300) {D : xD} (h0 : OF I D) (hC : LC I) {pp i : Nat} (hD : D1 t n pp D) (hi : i ≤ n) (k : ∀ I', xag I I' [25, 26] → (∀ j, j ≠ i → I' 25 j = I 25 j) → I' 25 i = nI (fl D i) → I' 26 i = nI (fs D i) → Q (none, (xK 1 L, P, I', J, xFr 1 c s))) : Wp d 43 0 [some (.ref 20), some (.int (nI i)), none, none, none] [] (xK 1 L, P, I, J, xFr 1 c s) Q := by
  have hf : 1 < 3 := by decide
  have hfar : ∀ r, r ≤ i + 1 → dv 1073741824 (fa D i r) ≤ 1073741824 := fun r hr => by
    cases hq : fa D i r with
    | none => exact Nat.le_refl _
    | some o =>
      obtain ⟨q, h1, h2, h3⟩ := fa_ok r o hq
      have h4 := hD.lt h1 (by omega)
      have h5 := (lt1_le o.2 (by omega)).2.2
      show o.1 ≤ _
      omega
  have loop : ∀ w r I1, i + 1 - r = w → r ≤ i + 1 → xag I I1 [25, 26] → (∀ j, j ≠ i → I1 25 j = I 25 j) → (fa D i r ≠ none → I1 25 i = nI (dl (fa D i r))) → Wp d 43 5 [some (.ref 20), some (.int (nI i)), some (.int (nI (dv 1073741824 (fa D i r)))), some (.int (nI r)), none] [] (xK 1 L, P, I1, J, xFr 1 c s) Q := by
    intro w
    induction w with
    | zero =>
      intro r I1 hw hr ha h1 h2
      have e : r = i + 1 := by omega
      obtain ⟨o, ho⟩ := fa_some (i := i) hD.1
      subst e
      refine wX5_findFirst_5 (f1 := 26) (f3 := 23) (f5 := 27) (f8 := 25) (xK_lt hf hL) rfl rfl rfl rfl rfl rfl rfl rfl rfl (br1 (by first | (rw [nI_ltI (by omega) (by omega)]; omega) | (rw [nI_leI (by omega) (by omega)]; omega) | (rw [nI_eq (by omega) (by omega)]; omega) | (rw [nI_e0 (by omega)]; omega) | (rw [nI_le0 (by omega)]; omega)) ⟨i, rfl, by omega, k _ (ha.up (by simp)) (fun j hj => by rw [xup_ne _ _ _ (by decide)]; exact h1 j hj) ?_ ?_⟩)
      · rw [xup_ne _ _ _ (by decide), h2 (by rw [ho]; exact fun z => by cases z)]
        rfl
      · rw [xup_at, if_pos rfl]
        unfold fs
        rw [ho]
        rfl
    | succ w ih =>
      intro r I1 hw hr ha h1 h2
      have h01 := h0.ag ha (by decide)
      have hC1 := hC.ag ha (by decide)
      have hrow := (h01 (i - r) (by omega)).1
      refine wX5_findFirst_5 (f1 := 26) (f3 := 23) (f5 := 27) (f8 := 25) (xK_lt hf hL) rfl rfl rfl rfl rfl rfl rfl rfl rfl (br2 (by first | (rw [nI_ltI (by omega) (by omega)]; omega) | (rw [nI_leI (by omega) (by omega)]; omega) | (rw [nI_eq (by omega) (by omega)]; omega) | (rw [nI_e0 (by omega)]; omega) | (rw [nI_le0 (by omega)]; omega)) ⟨i - r, by rw [pk_sub (by omega)], by omega, ?_⟩)
      cases hq : D (i - r) with
      | none =>
        rw [hrow, hq]
        have e : fa D i (r + 1) = fa D i r := by rw [fa, hq]
        refine br1 rfl ?_
        rw [nI_add, ← e]
        exact ih (r + 1) I1 (by omega) (by omega) ha h1 (by rw [e]; exact h2)
      | some q =>
        have hq1 := hD.lt hq (by omega)
        have hl := (lt1_le r (by omega)).2.2
        have hfr := hfar r (by omega)
        have e : fa D i (r + 1) = bst (fa D i r) (q.1 + lt1 r, r) := by rw [fa, hq]
        have hb := dv_bst (far := 1073741824) (o := fa D i r) (q := (q.1 + lt1 r, r)) (by show q.1 + lt1 r < _; omega)
        rw [show I1 23 (i - r) = nI q.1 by rw [hrow, hq]; rfl]
        refine br2 (by first | (rw [nI_ltI (by omega) (by omega)]; omega) | (rw [nI_leI (by omega) (by omega)]; omega) | (rw [nI_eq (by omega) (by omega)]; omega) | (rw [nI_e0 (by omega)]; omega) | (rw [nI_le0 (by omega)]; omega)) ⟨r, rfl, by omega, ?_⟩
        rw [hC1 r (by omega), nI_add]
        refine brc (nI_leI (by omega) (by omega)) (fun h => ?_) (fun h => ⟨r, rfl, by omega, i, rfl, by omega, ?_⟩)
        · rw [if_neg (by show ¬ q.1 + lt1 r < _; omega)] at hb
          rw [hb] at e
          rw [nI_add, ← e]
          exact ih (r + 1) I1 (by omega) (by omega) ha h1 (by rw [e]; exact h2)
        · rw [if_pos (by show q.1 + lt1 r < _; omega)] at hb
          rw [hb] at e
          rw [hC1 r (by omega), nI_add, nI_add]
          have := ih (r + 1) (xup I1 25 i (nI r)) (by omega) (by omega) (ha.up (by simp)) (fun j hj => by rw [xup_at, if_neg hj]; exact h1 j hj) (fun _ => by rw [xup_at, if_pos rfl, e]; rfl)
          rw [e] at this
          exact this
  exact wX5_findFirst_0  (loop _ 0 I rfl (by omega) xag.rfl (fun j _ => rfl) (fun z => absurd rfl z))
theorem p_lead1 (hL : L < 2147483648) (hn : n ≤ 300) {D : xD} (h0 : OF I D) {i l : Nat} (hD : D1 t n (i + 1) D) (hi : i < n) (hl : 4 ≤ l) (hil : i + l ≤ n) (h26 : I 26 i = nI (fs D i)) (k : ∀ I', xag I I' [23, 24] → OF I' (ld1 D i l) → Q (none, (xK 1 L, P, I', J, xFr 1 c s))) : Wp (d + 2) 44 0 [some (.ref 20), some (.int (nI i)), some (.int (nI l)), none] [] (xK 1 L, P, I, J, xFr 1 c s) Q := by
  have hf : 1 < 3 := by decide
  have hfs := (hD.fs_le (i := i) (by omega)).1
  have hcp := cp1_le l (by omega)
  have hfar : dv 1073741824 (D (i + l)) ≤ 1073741824 := by
    cases hq : D (i + l) with
    | none => exact Nat.le_refl _
    | some q =>
      have := hD.lt hq (by omega)
      show q.1 ≤ _
      omega
  have hb := dv_bst (far := 1073741824) (o := D (i + l)) (q := (fs D i + cp1 l, l)) (by show fs D i + cp1 l < _; omega)
  refine wX5_lead_0 (f1 := 26) (f6 := 23) (f9 := 24) (xK_lt hf hL) rfl rfl rfl rfl rfl rfl rfl ⟨i, rfl, by omega, p_copyCost (by omega) ⟨_, _, _, rfl, i + l, nI_add _ _, by omega, ?_⟩⟩
  all_goals try dsimp only
  try dsimp only
  rw [h26, (h0 (i + l) (by omega)).1, nI_add]
  show (nI _ ≤ nI (fs D i + cp1 l) → _) ∧ (¬ nI _ ≤ nI (fs D i + cp1 l) → _)
  refine brc (nI_leI (by omega) (by omega)) (fun h => ?_) (fun h => ⟨i + l, nI_add _ _, by omega, i + l, nI_add _ _, by omega, ?_⟩)
  · rw [if_neg (by show ¬ fs D i + cp1 l < _; omega)] at hb
    refine k I xag.rfl (fun j hj => ?_)
    unfold ld1
    rw [hb]
    by_cases e : j = i + l
    · rw [e, va_up_self]
      exact h0 (i + l) (by omega)
    · rw [va_up_ne _ _ e]
      exact h0 j hj
  · rw [if_pos (by show fs D i + cp1 l < _; omega)] at hb
    refine k _ ((xag.rfl.up (by simp)).up (by simp)) (fun j hj => ?_)
    unfold ld1
    rw [hb]
    by_cases e : j = i + l
    · rw [e, va_up_self]
      refine ⟨?_, fun _ _ => ?_⟩
      · rw [xup_ne _ _ _ (by decide), xup_at, if_pos rfl]
        rfl
      · rw [xup_at, if_pos rfl]
        rfl
    · rw [va_up_ne _ _ e]
      have := h0 j hj
      refine ⟨?_, fun z1 z2 => ?_⟩
      · rw [xup_ne _ _ _ (by decide), xup_at, if_neg e]
        exact this.1
      · rw [xup_at, if_neg e, xup_ne _ _ _ (by decide)]
        exact this.2 z1 z2
theorem p_tell1 (hL : L < 2147483648) (hp : p = 41 ∨ p = 47) (hT : CT I n t 1) {D : xD} (h0 : OF I D) (hD : D1 t n n D) (h25 : OL I D t n n) (h25n : I 25 n = nI (fl D n)) (k : ∀ I' m, xag I I' [p, p + 1, p + 2, p + 3, p + 4] → TM1 D n m → PA I' p m (fun i => T1 t D n (m - 1 - i)) → Q (none, (xK 1 L, P, I', J, xFr 1 c s))) : Wp (d + 2) 45 0 [some (.ref 20), some (.ref p), none, none, none] [] (xK 1 L, P, I, J, xFr 1 c s) Q := by
  have hf : 1 < 3 := by decide
  have hn := hT.2.2.2.1
  have h5 : 5 ∉ [p, p + 1, p + 2, p + 3, p + 4] ∧ 6 ∉ [p, p + 1, p + 2, p + 3, p + 4] ∧ 7 ∉ [p, p + 1, p + 2, p + 3, p + 4] ∧ 8 ∉ [p, p + 1, p + 2, p + 3, p + 4] ∧ 9 ∉ [p, p + 1, p + 2, p + 3, p + 4] ∧ 24 ∉ [p, p + 1, p + 2, p + 3, p + 4] ∧ 25 ∉ [p, p + 1, p + 2, p + 3, p + 4] := by
    rcases hp with rfl | rfl <;> decide
  have loop : ∀ w j I1, n - j = w → (∀ j', j' < j → (tp1 D n j').1 ≠ 0) → xag I I1 [p, p + 1, p + 2, p + 3, p + 4] → PA I1 p j (T1 t D n) →
      ((tp1 D n j).2 = fl D (tp1 D n j).1 → ((tp1 D n j).1 = n ∨ lc t n 1 (tp1 D n j).1 ≠ 0) → Wp (d + 2) 45 12 [some (.ref 20), some (.ref p), some (.int (nI (tp1 D n j).1)), none, none] [] (xK 1 L, P, I1, J, xFr 1 c s) Q) ∧
      ((tp1 D n j).1 ≠ 0 → Wp (d + 2) 45 30 [some (.ref 20), some (.ref p), none, some (.int (nI ((tp1 D n j).1 - (tp1 D n j).2))), some (.int (nI (tp1 D n j).1 - nI 1))] [] (xK 1 L, P, I1, J, xFr 1 c s) Q) := by
    intro w
    induction w using Nat.strongRecOn with
    | _ w ih =>
      intro j I1 hw hj ha h1
      have hT1 : CT I1 n t 1 := hT.ag ha h5.1 h5.2.1 h5.2.2.1 h5.2.2.2.1 h5.2.2.2.2.1
      have hok := tp1_ok hn hD j hj
      -- what follows a step
      have next : ∀ I2 kd sz bk, xag I I2 [p, p + 1, p + 2, p + 3, p + 4] → PA I2 p (j + 1) (va_up (T1 t D n) j (kd, (tp1 D n (j + 1)).1, sz, bk)) → T1 t D n j = (kd, (tp1 D n (j + 1)).1, sz, bk) → (tp1 D n j).1 ≠ 0 →
          ((tp1 D n (j + 1)).2 = fl D (tp1 D n (j + 1)).1 → ((tp1 D n (j + 1)).1 = n ∨ lc t n 1 (tp1 D n (j + 1)).1 ≠ 0) → Wp (d + 2) 45 12 [some (.ref 20), some (.ref p), some (.int (nI (tp1 D n (j + 1)).1)), none, none] [] (xK 1 L, P, I2, J, xFr 1 c s) Q) ∧
          ((tp1 D n (j + 1)).1 ≠ 0 → Wp (d + 2) 45 30 [some (.ref 20), some (.ref p), none, some (.int (nI ((tp1 D n (j + 1)).1 - (tp1 D n (j + 1)).2))), some (.int (nI (tp1 D n (j + 1)).1 - nI 1))] [] (xK 1 L, P, I2, J, xFr 1 c s) Q) ∧
          ((tp1 D n (j + 1)).1 = 0 → Wp (d + 2) 45 12 [some (.ref 20), some (.ref p), some (.int (nI 0)), none, none] [] (xK 1 L, P, I2, J, xFr 1 c s) Q) := by
        intro I2 kd sz bk b1 b2 b3 b4
        have hj2 : ∀ j', j' < j + 1 → (tp1 D n j').1 ≠ 0 := fun j' hj' => by
          by_cases e : j' = j
          · rw [e]; exact b4
          · exact hj j' (by omega)
        have hpa : PA I2 p (j + 1) (T1 t D n) := b2.cg (fun i hi => by
          by_cases e : i = j
          · rw [e, va_up_self, b3]
          · rw [va_up_ne _ _ e])
        have hih := ih (n - (j + 1)) (by omega) (j + 1) I2 rfl hj2 b1 hpa
        refine ⟨hih.1, hih.2, fun hz => ?_⟩
        refine wX5_tellSteps_12 (f3 := 25) (xK_lt hf hL) (pcK hp) rfl rfl rfl (br1 (by decide) ?_)
        refine p_turnRound hf hL hp hpa (fun I3 c1 c2 => ⟨_, _, rfl, ?_⟩)
        all_goals try dsimp only
        exact k I3 (j + 1) (b1.tr c1 (by simp)) ⟨hz, hj2⟩ c2
      have inner : (tp1 D n j).1 ≠ 0 → Wp (d + 2) 45 30 [some (.ref 20), some (.ref p), none, some (.int (nI ((tp1 D n j).1 - (tp1 D n j).2))), some (.int (nI (tp1 D n j).1 - nI 1))] [] (xK 1 L, P, I1, J, xFr 1 c s) Q := by
        intro h0'
        rw [pk_sub (by omega)]
        by_cases e : 0 < (tp1 D n j).2
        · have e2 : tp1 D n (j + 1) = ((tp1 D n j).1 - 1, (tp1 D n j).2 - 1) := by rw [tp1, if_pos e]
          refine wX5_tellSteps_30 (f1 := 24) (xK_lt hf hL) rfl rfl rfl rfl rfl (pcK hp) (br2 (by first | (rw [nI_ltI (by omega) (by omega)]; omega) | (rw [nI_leI (by omega) (by omega)]; omega) | (rw [nI_eq (by omega) (by omega)]; omega) | (rw [nI_e0 (by omega)]; omega) | (rw [nI_le0 (by omega)]; omega)) ?_)
          refine p_add hf hL hp h1 (by omega) (fun I2 b1 b2 => ⟨_, _, rfl, ?_⟩)
          all_goals try dsimp only
          try dsimp only
          have hT1e : T1 t D n j = (0, (tp1 D n (j + 1)).1, 1, 0) := by unfold T1; rw [if_pos e]
          have hx : (tp1 D n j).1 - 1 = (tp1 D n (j + 1)).1 := by rw [e2]
          rw [hx] at b2
          have hnx := next I2 _ _ _ (ha.tr b1 (by simp)) b2 hT1e h0'
          rw [xm1, hx]
          have hst : (tp1 D n j).1 - (tp1 D n j).2 = (tp1 D n (j + 1)).1 - (tp1 D n (j + 1)).2 := by
            rw [e2]
            show _ = (tp1 D n j).1 - 1 - ((tp1 D n j).2 - 1)
            omega
          rw [hst]
          by_cases e0 : (tp1 D n (j + 1)).1 = 0
          · have hz : (tp1 D n (j + 1)).1 - (tp1 D n (j + 1)).2 = 0 := by omega
            rw [hz, e0]
            refine wX5_tellSteps_30 (f1 := 24) (xK_lt hf hL) rfl rfl rfl rfl rfl (pcK hp) (br1 (by decide) (br1 (by decide) ?_))
            exact hnx.2.2 e0
          · exact hnx.2.1 e0
        · have e3 : (tp1 D n j).2 = 0 := by omega
          obtain ⟨q, g1, g2, g3, g4, g5, g6⟩ := tp1_cp hn hD hj h0' e3
          have hdl : dl (D (tp1 D n j).1) = q.2 := by rw [g1]; rfl
          have h24 : I1 24 (tp1 D n j).1 = nI q.2 := by
            rw [ha 24 h5.2.2.2.2.2.1, (h0 _ (by omega)).2 (by rw [g1]; exact fun z => by cases z) h0', hdl]
          have hmax : (if nI 1 < nI q.2 then nI q.2 else nI 1) = nI q.2 := by
            rw [if_pos (by first | (rw [nI_ltI (by omega) (by omega)]; omega) | (rw [nI_leI (by omega) (by omega)]; omega) | (rw [nI_eq (by omega) (by omega)]; omega) | (rw [nI_e0 (by omega)]; omega) | (rw [nI_le0 (by omega)]; omega))]
          have e2 : (tp1 D n (j + 1)).1 = (tp1 D n j).1 - q.2 := by rw [g6]
          have hc := lc_ok (t := t) (n := n) (f := 1) (i := (tp1 D n j).1 - q.2) (by omega)
          rw [e3, Nat.sub_zero]
          refine wX5_tellSteps_30 (f1 := 24) (xK_lt hf hL) rfl rfl rfl rfl rfl (pcK hp) (br1 (by first | (rw [nI_ltI (by omega) (by omega)]; omega) | (rw [nI_leI (by omega) (by omega)]; omega) | (rw [nI_eq (by omega) (by omega)]; omega) | (rw [nI_e0 (by omega)]; omega) | (rw [nI_le0 (by omega)]; omega)) (br2 (by first | (rw [nI_ltI (by omega) (by omega)]; omega) | (rw [nI_leI (by omega) (by omega)]; omega) | (rw [nI_eq (by omega) (by omega)]; omega) | (rw [nI_e0 (by omega)]; omega) | (rw [nI_le0 (by omega)]; omega)) ⟨(tp1 D n j).1, rfl, by omega, ?_⟩))
          rw [h24, hmax, pk_sub g3]
          refine p_copyDistanceN hf hL hT1 (by omega) g2 (by omega) ⟨_, _, _, rfl, ?_⟩
          all_goals try dsimp only
          refine p_add hf hL hp h1 (by omega) (fun I2 b1 b2 => ⟨_, _, rfl, ?_⟩)
          all_goals try dsimp only
          try dsimp only
          rw [← e2] at b2 ⊢
          have hT1e : T1 t D n j = (1, (tp1 D n (j + 1)).1, q.2, nd t n 300 (tp1 D n (j + 1)).1 q.2) := by unfold T1; rw [if_neg e, hdl]
          have hnx := next I2 _ _ _ (ha.tr b1 (by simp)) b2 hT1e h0'
          refine hnx.1 ?_ (Or.inr ?_)
          · rw [g6]
          · rw [e2]
            omega
      refine ⟨fun hfl hpl => ?_, inner⟩
      by_cases h0' : (tp1 D n j).1 = 0
      · refine wX5_tellSteps_12 (f3 := 25) (xK_lt hf hL) (pcK hp) rfl rfl rfl (br1 ?_ ?_)
        · rw [h0']
          decide
        · refine p_turnRound hf hL hp h1 (fun I3 c1 c2 => ⟨_, _, rfl, ?_⟩)
          all_goals try dsimp only
          exact k I3 j (ha.tr c1 (by simp)) ⟨h0', hj⟩ c2
      · refine wX5_tellSteps_12 (f3 := 25) (xK_lt hf hL) (pcK hp) rfl rfl rfl (br2 (by first | (rw [nI_ltI (by omega) (by omega)]; omega) | (rw [nI_leI (by omega) (by omega)]; omega) | (rw [nI_eq (by omega) (by omega)]; omega) | (rw [nI_e0 (by omega)]; omega) | (rw [nI_le0 (by omega)]; omega)) ⟨(tp1 D n j).1, rfl, by omega, ?_⟩)
        have h25' : I1 25 (tp1 D n j).1 = nI (tp1 D n j).2 := by
          rw [ha 25 h5.2.2.2.2.2.2, hfl]
          rcases hpl with z | z
          · rw [z]
            exact h25n
          · by_cases e : (tp1 D n j).1 = n
            · rw [e]
              exact h25n
            · exact h25 _ (by omega) z
        rw [h25', pk_sub hok.2.1]
        exact inner h0'
  refine wX5_tellSteps_0 (pcK hp) rfl rfl rfl (p_begin hp (R := T1 t D n) (fun I1 a1 a2 => ⟨_, _, rfl, ?_⟩))
  all_goals try dsimp only
  try dsimp only
  have ha : xag I I1 [p, p + 1, p + 2, p + 3, p + 4] := a1.wd (by simp)
  rw [ha 5 h5.1, hT.2.2.1]
  exact (loop _ 0 I1 rfl (fun j hj => by omega) ha a2).1 rfl (Or.inl rfl)
theorem p_findBest1 (hL : L < 2147483648) (hp : p = 41 ∨ p = 47) (hC : LC I) (hT : CT I n t 1) (k : ∀ I' m, xag I I' [23, 24, 25, 26, p, p + 1, p + 2, p + 3, p + 4] → TM1 (dp1 t n n) n m → PA I' p m (fun i => T1 t (dp1 t n n) n (m - 1 - i)) → Q (some (.int (nI 0)), (xK 1 L, P, I', J, xFr 1 c s))) : Wp (d + 3) 42 0 [some (.ref 20), some (.ref p), none, none, none] [] (xK 1 L, P, I, J, xFr 1 c s) Q := by
  have hf : 1 < 3 := by decide
  have hn := hT.2.2.2.1
  have outer : ∀ q i I1, n - i = q → i ≤ n → xag I I1 [23, 24, 25, 26] → OF I1 (dp1 t n i) → OL I1 (dp1 t n i) t n i → Wp (d + 3) 42 18 [some (.ref 20), some (.ref p), none, some (.int (nI i)), none] [] (xK 1 L, P, I1, J, xFr 1 c s) Q := by
    intro q
    induction q with
    | zero =>
      intro i I1 hq hi ha h1 h2
      have e : i = n := by omega
      subst e
      have hT1 : CT I1 i t 1 := hT.ag ha (by decide) (by decide) (by decide) (by decide) (by decide)
      have hD := dp1_ok (t := t) hn i (Nat.le_refl _)
      refine wX5_findBest_18 rfl rfl rfl (br1 ?_ ?_)
      · rw [hT1.2.2.1]
        exact (by first | (rw [nI_ltI (by omega) (by omega)]; omega) | (rw [nI_leI (by omega) (by omega)]; omega) | (rw [nI_eq (by omega) (by omega)]; omega) | (rw [nI_e0 (by omega)]; omega) | (rw [nI_le0 (by omega)]; omega))
      · rw [hT1.2.2.1]
        refine p_findFirst hL hn h1 (hC.ag ha (by decide)) hD (Nat.le_refl _) (fun I2 b1 b2 b3 b4 => ⟨_, _, rfl, ?_⟩)
        all_goals try dsimp only
        try dsimp only
        refine p_tell1 hL hp (hT1.ag b1 (by decide) (by decide) (by decide) (by decide) (by decide)) (h1.ag b1 (by decide)) hD (fun j hj hl => by rw [b2 j (by omega)]; exact h2 j hj hl) b3 (fun I3 m c1 c2 c3 => ⟨_, _, rfl, ?_⟩)
        all_goals try dsimp only
        exact k I3 m ((ha.tr b1 (by simp)).tw c1 (by simp)) c2 c3
    | succ q ih =>
      intro i I1 hq hi ha h1 h2
      have hin : i < n := by omega
      have hT1 : CT I1 n t 1 := hT.ag ha (by decide) (by decide) (by decide) (by decide) (by decide)
      have hD := (dp1_ok (t := t) hn i (by omega)).up
      have hlcx : lcx t n 1 i = lc t n 1 i := by
        unfold lcx
        rw [if_pos hin]
      have inner : ∀ l I2 D, l ≤ lc t n 1 i → xag I I2 [23, 24, 25, 26] → D1 t n (i + 1) D → (∀ j, j ≤ i → D j = dp1 t n i j) → OF I2 D → (lc t n 1 i ≠ 0 → I2 26 i = nI (fs D i)) → OL I2 D t n (i + 1) → ldn1 i D l = dp1 t n (i + 1) → Wp (d + 3) 42 49 [some (.ref 20), some (.ref p), none, some (.int (nI i)), some (.int (nI l))] [] (xK 1 L, P, I2, J, xFr 1 c s) Q := by
        intro l
        induction l with
        | zero =>
          intro I2 D hl ha2 hD2 hDe h3 h4 h5 he
          have hT2 : CT I2 n t 1 := hT.ag ha2 (by decide) (by decide) (by decide) (by decide) (by decide)
          refine wX5_findBest_49 rfl rfl rfl (br1 (by rw [hT2.1]; decide) ?_)
          rw [nI_add]
          rw [ldn1] at he
          subst he
          exact ih (i + 1) I2 (by omega) (by omega) ha2 h3 h5
        | succ l ihl =>
          intro I2 D hl ha2 hD2 hDe h3 h4 h5 he
          have hT2 : CT I2 n t 1 := hT.ag ha2 (by decide) (by decide) (by decide) (by decide) (by decide)
          rw [ldn1] at he
          have hlc := lc_ok (t := t) (n := n) (f := 1) (i := i) (by omega)
          have hg := xgt_le 1
          refine wX5_findBest_49 rfl rfl rfl (brc (p := l + 1 < 4) ?_ (fun h => ?_) (fun h => ?_))
          · rw [hT2.1]
            exact nI_ltI (by omega) (by decide)
          · rw [if_pos h] at he
            rw [nI_add]
            subst he
            exact ih (i + 1) I2 (by omega) (by omega) ha2 h3 h5
          · rw [if_neg h] at he
            have hlok := ld1_ok hn hin hD2 (l := l + 1) (by omega) hl
            refine p_lead1 hL hn h3 hD2 hin (l := l + 1) (by omega) (by omega) (h4 (by omega)) (fun I3 b1 b2 => ⟨_, _, rfl, ?_⟩)
            all_goals try dsimp only
            try dsimp only
            rw [xm1, pk_sub (by omega), Nat.add_sub_cancel]
            refine ihl I3 _ (by omega) (ha2.tr b1 (by simp)) hlok.1 (fun j hj => by rw [hlok.2.1 j hj, hDe j hj]) b2 (fun z => ?_) (fun j hj z => ?_) he
            · rw [b1 26 (by decide), fs_cg (D := D) (fun j hj => hlok.2.1 j hj)]
              exact h4 z
            · rw [b1 25 (by decide), fl_cg (D := D) (fun j' hj' => hlok.2.1 j' (by omega))]
              exact h5 j hj z
      have hlc300 : lc t n 1 i ≤ 300 := by
        have hg := xgt_le 1
        by_cases e : lc t n 1 i = 0
        · omega
        · have := lc_ok e
          omega
      refine wX5_findBest_18 rfl rfl rfl (br2 ?_ (p_longestCopyN hf hL hT1 (by omega) ⟨_, _, _, rfl, ?_⟩))
      all_goals try dsimp only
      · rw [hT1.2.2.1]
        exact (by first | (rw [nI_ltI (by omega) (by omega)]; omega) | (rw [nI_leI (by omega) (by omega)]; omega) | (rw [nI_eq (by omega) (by omega)]; omega) | (rw [nI_e0 (by omega)]; omega) | (rw [nI_le0 (by omega)]; omega))
      try dsimp only
      rw [hlcx]
      refine brc (nI_le0 (by omega)) (fun h => ?_) (fun h => ?_)
      · refine inner _ I1 _ (Nat.le_refl _) ha hD (fun _ _ => rfl) h1 (fun z => absurd h z) (fun j hj z => ?_) rfl
        by_cases e : j = i
        · rw [e] at z
          exact absurd h z
        · exact h2 j (by omega) z
      · refine p_findFirst hL hn h1 (hC.ag ha (by decide)) hD (by omega) (fun I2 b1 b2 b3 b4 => ⟨_, _, rfl, ?_⟩)
        all_goals try dsimp only
        try dsimp only
        refine inner _ I2 _ (Nat.le_refl _) (ha.tr b1 (by simp)) hD (fun _ _ => rfl) (h1.ag b1 (by decide)) (fun _ => b4) (fun j hj z => ?_) rfl
        by_cases e : j = i
        · rw [e]
          exact b3
        · rw [b2 j e]
          exact h2 j (by omega) z
  refine wX5_findBest_0 (f1 := 23) (xK_lt hf hL) rfl rfl rfl (p_fillI (xK_lt hf hL) (len := 301) rfl (fun I2 b1 b2 => ⟨_, _, rfl, 0, rfl, by decide, ?_⟩))
  all_goals try dsimp only
  try dsimp only
  refine outer n 0 _ rfl (Nat.zero_le _) ((b1.wd (by simp)).up (by simp)) (fun i hi => ?_) (fun i hi => by omega)
  rw [xup_at, dp1]
  dsimp only
  by_cases e : i = 0
  · rw [if_pos e, if_pos e]
    exact ⟨rfl, fun _ z => absurd e z⟩
  · rw [if_neg e, if_neg e, b2 i (by omega)]
    exact ⟨rfl, fun z => absurd rfl z⟩
end OCC
