/-! WHAT A ROW OF STEPS TELLS; the reference turns its rows -/
def TO (I : Nat → Nat → Int32) (p n : Nat) (t : Nat → Nat) : Prop := ∀ j, j < n → I (p + 5) j = nI (t j)
def TB (I : Nat → Nat → Int32) (m : Nat) (T : Nat → xSt) : Prop := ∀ i, i < m → I 89 i = nI (T i).1 ∧ I 88 i = nI (T i).2.1 ∧ I 91 i = nI (T i).2.2.1 ∧ I 90 i = nI (T i).2.2.2
theorem TB.ag {I I1 : Nat → Nat → Int32} {S : List Nat} {m : Nat} {R : Nat → xSt} (h : TB I m R) (ha : xag I I1 S) (h1 : 88 ∉ S ∧ 89 ∉ S ∧ 90 ∉ S ∧ 91 ∉ S) : TB I1 m R := by
  unfold TB at h ⊢
  rw [ha 88 h1.1, ha 89 h1.2.1, ha 90 h1.2.2.1, ha 91 h1.2.2.2]
  exact h
section TLD
variable {d f L c s p m n : Nat} {t : Nat → Nat} {V : Nat → Nat → Nat} {R : Nat → xSt} {Q : Option Value × xS → Prop} {P : List Nat × Nat × Nat} {I : Nat → Nat → Int32} {J : Nat → Nat → Int64}
theorem p_tellBack (hf : f < 3) (hL : L < 2147483648) (hp : p = 41 ∨ p = 47) {a l b : Nat} (hb : 1 ≤ b) (hb2 : b ≤ a) (hl : a + l ≤ 300) (hc : cp t b a l) (h0 : ∀ j, j < a → I (p + 5) j = nI (t j)) (k : ∀ I', xag I I' [p + 5] → (∀ j, j < a + l → I' (p + 5) j = nI (t j)) → Q (none, (xK f L, P, I', J, xFr f c s))) : Wp d 56 0 [some (.ref p), some (.int (nI a)), some (.int (nI l)), some (.int (nI b)), none] [] (xK f L, P, I, J, xFr f c s) Q := by
  have loop : ∀ q i I1, a + l - i = q → a ≤ i → i ≤ a + l → xag I I1 [p + 5] → (∀ j, j < i → I1 (p + 5) j = nI (t j)) → Wp d 56 3 [some (.ref p), some (.int (nI a)), some (.int (nI l)), some (.int (nI b)), some (.int (nI i))] [] (xK f L, P, I1, J, xFr f c s) Q := by
    intro q
    induction q with
    | zero =>
      intro i I1 hq h1 h2 ha h3
      refine wX6_tellBack_3 (xK_lt hf hL) (pcK hp) (pcF4 hp) (pcA5 hp) (br1 (by rw [nI_add]; first | (rw [nI_ltI (by omega) (by omega)]; omega) | (rw [nI_leI (by omega) (by omega)]; omega) | (rw [nI_eq (by omega) (by omega)]; omega) | (rw [nI_e0 (by omega)]; omega) | (rw [nI_le0 (by omega)]; omega)) (k I1 ha (fun j hj => h3 j (by omega))))
    | succ q ih =>
      intro i I1 hq h1 h2 ha h3
      refine wX6_tellBack_3 (xK_lt hf hL) (pcK hp) (pcF4 hp) (pcA5 hp) (br2 (by rw [nI_add]; first | (rw [nI_ltI (by omega) (by omega)]; omega) | (rw [nI_leI (by omega) (by omega)]; omega) | (rw [nI_eq (by omega) (by omega)]; omega) | (rw [nI_e0 (by omega)]; omega) | (rw [nI_le0 (by omega)]; omega)) ⟨i - b, by rw [pk_sub (by omega)], by omega, i, rfl, by omega, ?_⟩)
      rw [nI_add]
      refine ih (i + 1) _ (by omega) (by omega) (by omega) (ha.up (by simp)) (fun j hj => ?_)
      rw [xup_at]
      by_cases e : j = i
      · rw [if_pos e, h3 (i - b) (by omega), e]
        have := hc (i - a) (by omega)
        rw [show a + (i - a) = i by omega] at this
        rw [this]
      · rw [if_neg e]
        exact h3 j (by omega)
  refine wX6_tellBack_0  (loop l a I (by omega) (Nat.le_refl _) (by omega) xag.rfl h0)
theorem p_finish (hf : f < 3) (hL : L < 2147483648) (hp : p = 41 ∨ p = 47) (hT : CT I n t f) (h0 : PA I p m R) (hv : VS t f n m R) {y : Int64} {x : Int32} (hx : x = 0 ∨ x = 1) (k : ∀ I', xag I I' [p, p + 5] → (∀ q, q ≠ 7 → I' p q = I p q) → I' p 7 = x → TO I' p n t → Q (none, (xK f L, P, I', xup J p 6 y, xFr f c s))) : Wp (d + 2) 55 0 [some (.ref p), some (.ref 5), some (.long y), none, some (.int x), none, none] [] (xK f L, P, I, J, xFr f c s) Q := by
  have hm := h0.2.1
  have hn := hT.2.2.2.1
  have h5 : p ≠ 5 ∧ p ≠ 6 ∧ p ≠ 7 ∧ p ≠ 8 ∧ p ≠ 9 ∧ p + 5 ≠ 5 ∧ p + 5 ≠ 6 ∧ p + 5 ≠ 7 ∧ p + 5 ≠ 8 ∧ p + 5 ≠ 9 := by omega
  have loop : ∀ q i I1, m - i = q → i ≤ m → xag I I1 [p, p + 5] → (∀ q, q ≠ 7 → I1 p q = I p q) → I1 p 7 = x → (∀ j, j < psn R i → I1 (p + 5) j = nI (t j)) → Wp (d + 2) 55 14 [some (.ref p), some (.ref 5), none, none, none, some (.int (nI i)), none] [] (xK f L, P, I1, xup J p 6 y, xFr f c s) Q := by
    intro q
    induction q with
    | zero =>
      intro i I1 hq hi ha h1 h2 h3
      have e : i = m := by omega
      refine wX6_finish_14 (xK_lt hf hL) (pcK hp) (pcF0 hp) (pcA1 hp) (pcF3 hp) (pcA4 hp) (pcF1 hp) (pcA2 hp) (pcF2 hp) (pcA3 hp) (pcF4 hp) rfl rfl rfl (pcA5 hp) (br1 ?_ (k I1 ha h1 h2 (fun j hj => h3 j ?_)))
      · rw [h1 5 (by decide), h0.1]
        exact (by first | (rw [nI_ltI (by omega) (by omega)]; omega) | (rw [nI_leI (by omega) (by omega)]; omega) | (rw [nI_eq (by omega) (by omega)]; omega) | (rw [nI_e0 (by omega)]; omega) | (rw [nI_le0 (by omega)]; omega))
      · rw [e, hv.2]
        exact hj
    | succ q ih =>
      intro i I1 hq hi ha h1 h2 h3
      have hr := h0.2.2 i (by omega)
      have ho := okS_lt (hv.1 i (by omega)).1
      have hat := (hv.1 i (by omega)).2
      have hle := hv.le (i := i) (by omega)
      have ht := hT.2.2.2.2.1 (R i).2.1 (by omega)
      have g1 : I1 (p + 1) = I (p + 1) := ha (p + 1) (by simp)
      have g2 : I1 (p + 2) = I (p + 2) := ha (p + 2) (by simp)
      have g3 : I1 (p + 3) = I (p + 3) := ha (p + 3) (by simp)
      have g4 : I1 (p + 4) = I (p + 4) := ha (p + 4) (by simp)
      have g6 : I1 6 = I 6 := ha 6 (by simp; omega)
      refine wX6_finish_14 (xK_lt hf hL) (pcK hp) (pcF0 hp) (pcA1 hp) (pcF3 hp) (pcA4 hp) (pcF1 hp) (pcA2 hp) (pcF2 hp) (pcA3 hp) (pcF4 hp) rfl rfl rfl (pcA5 hp) (br2 ?_ ⟨i, rfl, by omega, i, rfl, by omega, ?_⟩)
      · rw [h1 5 (by decide), h0.1]
        exact (by first | (rw [nI_ltI (by omega) (by omega)]; omega) | (rw [nI_leI (by omega) (by omega)]; omega) | (rw [nI_eq (by omega) (by omega)]; omega) | (rw [nI_e0 (by omega)]; omega) | (rw [nI_le0 (by omega)]; omega))
      · rw [g1, g2, g3, g4, hr.1]
        refine brd (nI_e0 (by omega)) (fun h => ⟨i, rfl, by omega, i, rfl, by omega, ?_⟩) (fun h => ⟨(R i).2.1, hr.2.1, by omega, (R i).2.1, hr.2.1, by omega, ?_⟩)
        · rw [hr.2.1, hr.2.2.1, hr.2.2.2]
          have hc := ho.2.2.2.2.2.1 h
          refine p_tellBack hf hL hp hc.1 ho.2.2.1 (by omega) hc.2 (fun j hj => h3 j (by omega)) (fun I2 b1 b2 => ⟨_, _, rfl, ?_⟩)
          all_goals try dsimp only
          try dsimp only
          rw [nI_add]
          refine ih (i + 1) I2 (by omega) (by omega) (ha.tr b1 (by simp)) (fun q hq => by rw [b1 p (by simp)]; exact h1 q hq) (by rw [b1 p (by simp)]; exact h2) (fun j hj => b2 j ?_)
          rw [psn] at hj
          omega
        · rw [nI_add]
          refine ih (i + 1) _ (by omega) (by omega) (ha.up (by simp)) (fun q hq => by rw [xup_ne _ _ _ (by omega)]; exact h1 q hq) (by rw [xup_ne _ _ _ (by omega)]; exact h2) (fun j hj => ?_)
          rw [psn] at hj
          have h1s : (R i).2.2.1 = 1 := by
            rcases (hv.1 i (by omega)).1 with z | z | z <;> omega
          rw [xup_at]
          by_cases e : j = (R i).2.1
          · rw [if_pos e, g6, ht.1, e]
          · rw [if_neg e]
            exact h3 j (by omega)
  refine wX6_finish_0 (pcK hp) ⟨hx, loop m 0 _ rfl (Nat.zero_le _) (xag.rfl.up (by simp)) (fun q hq => by rw [xup_at, if_neg hq]) (by rw [xup_at, if_pos rfl]) (fun j hj => ?_)⟩
  have : psn R 0 = 0 := rfl
  omega
/-- the reference's told -/
theorem p_toldM (hf : f < 3) (hL : L < 2147483648) (hT : MT I n t) {pa : Nat} (hpa : I 59 10 = nI pa) (hpa2 : pa < 2) (h0 : pa = 1 → MA I m R) (hv : pa = 1 → VS t f n m R) {x : Int32} (k : ∀ I', xag I I' [59, 105] → (∀ q, q ≠ 0 → I' 59 q = I 59 q) → I' 59 0 = nI 0 → ∀ v, (pa = 1 → (∀ i, i < n → x = nI i → v = nI (t i))) → ((pa = 0 ∨ ∀ i, i < n → x ≠ nI i) → v = -1) → Q (some (.int v), (xK f L, P, I', J, xFr f c s))) : Wp d 150 0 [some (.ref 59), some (.int x), none, none, none] [] (xK f L, P, I, J, xFr f c s) Q := by
  have hn := hT.2.1
  have ag0 : xag I (xup I 59 0 (nI 0)) [59, 105] := xag.rfl.up (by simp)
  have fail : (pa = 0 ∨ ∀ i, i < n → x ≠ nI i) → Q (some (.int (-1)), (xK f L, P, xup I 59 0 (nI 0), J, xFr f c s)) := fun h => k _ ag0 (fun q hq => by rw [xup_at, if_neg hq]) (by rw [xup_at, if_pos rfl]) _ (fun e i hi e2 => by
    rcases h with h | h
    · omega
    · exact absurd e2 (h i hi)) (fun _ => rfl)
  refine wX11_told_0 rfl ?_
  rw [xup_at, if_neg (by decide), xup_at, if_neg (by decide), hpa, hT.1]
  refine brc (nI_e0 (by omega)) (fun h => fail (Or.inl h)) (fun h => ⟨fun c1 => fail (Or.inr (nI_no (by omega) (Or.inl c1))), fun c1 => ⟨fun c2 => ?_, fun c2 => fail (Or.inr (nI_no (n := n) (by omega) (Or.inr ?_)))⟩⟩)
  · obtain ⟨j, hj, e⟩ := nI_yes (n := n) (by omega) c1 (fun z => by
      have := Int32.lt_of_lt_of_le c2 z
      exact absurd this (Int32.lt_irrefl))
    subst e
    have hpa1 : pa = 1 := by omega
    have h0 := h0 hpa1
    have hv := hv hpa1
    have hm := h0.2.1
    have outer : ∀ q i I1, m - i = q → i ≤ m → xag I I1 [59, 105] → (∀ q, q ≠ 0 → I1 59 q = I 59 q) → I1 59 0 = nI 0 → (∀ j, j < psn R i → I1 105 j = nI (t j)) → Wp d 150 28 [some (.ref 59), some (.int (nI j)), some (.int (nI i)), none, none] [] (xK f L, P, I1, J, xFr f c s) Q := by
      intro q
      induction q with
      | zero =>
        intro i I1 hq hi ha h1 h2 h3
        have e : i = m := by omega
        refine wX11_told_28 (xK_lt hf hL) rfl rfl rfl (br1 ?_ ⟨j, rfl, by omega, ?_⟩)
        · rw [h1 11 (by decide), h0.1]
          exact (by first | (rw [nI_ltI (by omega) (by omega)]; omega) | (rw [nI_leI (by omega) (by omega)]; omega) | (rw [nI_eq (by omega) (by omega)]; omega) | (rw [nI_e0 (by omega)]; omega) | (rw [nI_le0 (by omega)]; omega))
        · rw [h3 j (by rw [e, hv.2]; exact hj)]
          refine k I1 ha h1 h2 _ (fun _ i' hi' e' => ?_) (fun z => ?_)
          · rw [(nI_eq (by omega) (by omega)).mp e']
          · rcases z with z | z
            · omega
            · exact absurd rfl (z j hj)
      | succ q ih =>
        intro i I1 hq hi ha h1 h2 h3
        have hr := h0.2.2 i (by omega)
        have ho := okS_lt (hv.1 i (by omega)).1
        have hat := (hv.1 i (by omega)).2
        have hle := hv.le (i := i) (by omega)
        have inner : ∀ q2 l I2, (R i).2.2.1 - l = q2 → l ≤ (R i).2.2.1 → xag I I2 [59, 105] → (∀ q, q ≠ 0 → I2 59 q = I 59 q) → I2 59 0 = nI 0 → (∀ j, j < psn R i + l → I2 105 j = nI (t j)) → Wp d 150 38 [some (.ref 59), some (.int (nI j)), some (.int (nI i)), some (.int (nI l)), none] [] (xK f L, P, I2, J, xFr f c s) Q := by
          intro q2
          induction q2 with
          | zero =>
            intro l I2 hq2 hl ha2 b1 b2 b3
            have e : l = (R i).2.2.1 := by omega
            refine wX11_told_38 (xK_lt hf hL) rfl rfl rfl rfl rfl rfl rfl rfl rfl rfl rfl rfl rfl ⟨i, rfl, by omega, br1 ?_ ?_⟩
            · rw [ha2 73 (by simp), hr.2.2.1]
              exact (by first | (rw [nI_ltI (by omega) (by omega)]; omega) | (rw [nI_leI (by omega) (by omega)]; omega) | (rw [nI_eq (by omega) (by omega)]; omega) | (rw [nI_e0 (by omega)]; omega) | (rw [nI_le0 (by omega)]; omega))
            · rw [nI_add]
              exact ih (i + 1) I2 (by omega) (by omega) ha2 b1 b2 (fun j hj => b3 j (by rw [psn] at hj; omega))
          | succ q2 ihq =>
            intro l I2 hq2 hl ha2 b1 b2 b3
            have ht := hT.2.2 ((R i).2.1 + l) (by omega)
            refine wX11_told_38 (xK_lt hf hL) rfl rfl rfl rfl rfl rfl rfl rfl rfl rfl rfl rfl rfl ⟨i, rfl, by omega, br2 ?_ ⟨i, rfl, by omega, i, rfl, by omega, ?_⟩⟩
            · rw [ha2 73 (by simp), hr.2.2.1]
              exact (by first | (rw [nI_ltI (by omega) (by omega)]; omega) | (rw [nI_leI (by omega) (by omega)]; omega) | (rw [nI_eq (by omega) (by omega)]; omega) | (rw [nI_e0 (by omega)]; omega) | (rw [nI_le0 (by omega)]; omega))
            · rw [ha2 72 (by simp), ha2 75 (by simp), ha2 74 (by simp), ha2 62 (by simp), hr.1, hr.2.1, nI_add]
              refine brd (nI_e0 (by omega)) (fun h => ⟨i, rfl, by omega, (R i).2.1 + l - (R i).2.2.2, ?_, by omega, (R i).2.1 + l, rfl, by omega, ?_⟩) (fun h => ⟨(R i).2.1 + l, rfl, by omega, (R i).2.1 + l, rfl, by omega, ?_⟩)
              · rw [hr.2.2.2, pk_sub (by omega)]
              · have hc := ho.2.2.2.2.2.1 h
                rw [nI_add]
                refine ihq (l + 1) _ (by omega) (by omega) (ha2.up (by simp)) (fun q hq => by rw [xup_ne _ _ _ (by decide)]; exact b1 q hq) (by rw [xup_ne _ _ _ (by decide)]; exact b2) (fun j hj => ?_)
                rw [xup_at]
                by_cases e : j = (R i).2.1 + l
                · rw [if_pos e, b3 _ (by omega), e, hc.2 l (by omega)]
                · rw [if_neg e]
                  exact b3 j (by omega)
              · rw [nI_add]
                refine ihq (l + 1) _ (by omega) (by omega) (ha2.up (by simp)) (fun q hq => by rw [xup_ne _ _ _ (by decide)]; exact b1 q hq) (by rw [xup_ne _ _ _ (by decide)]; exact b2) (fun j hj => ?_)
                rw [xup_at]
                by_cases e : j = (R i).2.1 + l
                · rw [if_pos e, ht.1, e]
                · rw [if_neg e]
                  exact b3 j (by omega)
        refine wX11_told_28 (xK_lt hf hL) rfl rfl rfl (br2 ?_ (inner _ 0 I1 rfl (by omega) ha h1 h2 (fun j hj => h3 j (by omega))))
        rw [h1 11 (by decide), h0.1]
        exact (by first | (rw [nI_ltI (by omega) (by omega)]; omega) | (rw [nI_leI (by omega) (by omega)]; omega) | (rw [nI_eq (by omega) (by omega)]; omega) | (rw [nI_e0 (by omega)]; omega) | (rw [nI_le0 (by omega)]; omega))
    refine outer m 0 _ rfl (Nat.zero_le _) ag0 (fun q hq => by rw [xup_at, if_neg hq]) (by rw [xup_at, if_pos rfl]) (fun j hj => ?_)
    have : psn R 0 = 0 := rfl
    omega
  · exact Int32.not_lt.mp c2
/-- the reference's rows, turned -/
theorem p_turnBackM (hf : f < 3) (hL : L < 2147483648) (hm : m ≤ 300) (h0 : TB I m R) (k : ∀ I', xag I I' [59, 72, 73, 74, 75] → (∀ q, q ≠ 11 → I' 59 q = I 59 q) → MA I' m (fun i => R (m - 1 - i)) → Q (none, (xK f L, P, I', J, xFr f c s))) : Wp (d + 1) 132 0 [some (.ref 59), some (.int (nI m)), none] [] (xK f L, P, I, J, xFr f c s) Q := by
  have loop : ∀ i I1, i ≤ m → xag I I1 [59, 72, 73, 74, 75] → (∀ q, q ≠ 11 → I1 59 q = I 59 q) → MA I1 (m - i) (fun j => R (m - 1 - j)) → Wp (d + 1) 132 9 [some (.ref 59), none, some (.int (nI i - nI 1))] [] (xK f L, P, I1, J, xFr f c s) Q := by
    intro i
    induction i with
    | zero =>
      intro I1 hi ha h1 h2
      exact wX11_turnBack_9 (xK_lt hf hL) rfl rfl rfl rfl rfl rfl rfl rfl rfl (br1 (by decide) (k I1 ha h1 h2))
    | succ i ih =>
      intro I1 hi ha h1 h2
      have hb := h0.ag ha (by simp)
      have hr := hb i (by omega)
      rw [pk_sub (by omega), Nat.add_sub_cancel]
      refine wX11_turnBack_9 (xK_lt hf hL) rfl rfl rfl rfl rfl rfl rfl rfl rfl (br2 (nI_pos (by omega)) ⟨i, rfl, by omega, i, rfl, by omega, i, rfl, by omega, i, rfl, by omega, ?_⟩)
      rw [hr.1, hr.2.1, hr.2.2.1, hr.2.2.2]
      refine p_addStepM hf hL h2 (by omega) (fun I2 b1 b2 b3 => ⟨_, _, rfl, ?_⟩)
      all_goals try dsimp only
      try dsimp only
      rw [xm1]
      refine ih I2 (by omega) (ha.tr b1 (by simp)) (fun q hq => by rw [b2 q hq]; exact h1 q hq) ?_
      rw [show m - i = m - (i + 1) + 1 by omega]
      refine b3.cg (fun j hj => ?_)
      by_cases e : j = m - (i + 1)
      · rw [e, va_up_self]
        show R (m - 1 - (m - (i + 1))) = _
        rw [show m - 1 - (m - (i + 1)) = i by omega]
      · rw [va_up_ne _ _ e]
  refine wX11_turnBack_0 rfl (loop m _ (Nat.le_refl _) (xag.rfl.up (by simp)) (fun q hq => by rw [xup_at, if_neg hq]) ?_)
  rw [Nat.sub_self]
  exact ⟨by rw [xup_at, if_pos rfl], by omega, fun i hi => by omega⟩
end TLD
