/-! ROUNDS, in the reference -/
def mS : List Nat := [59, 64, 72, 73, 74, 75, 79, 80, 81, 83, 84, 85, 86, 87, 88, 89, 90, 91, 92, 93, 94, 95, 96, 97, 98, 99, 100, 101, 102, 103, 104]
def KR (I : Nat → Nat → Int32) (m : Nat) (R : Nat → xSt) : Prop := ∀ i, i < m → I 104 i = nI (R i).1 ∧ I 101 i = nI (R i).2.1 ∧ I 102 i = nI (R i).2.2.1 ∧ I 103 i = nI (R i).2.2.2
def KC (I : Nat → Nat → Int32) (V : Nat → Nat → Nat) : Prop := ∀ k s, k < 4 → s < SY k → I 100 (256 * k + s) = nI (V k s)
section RNDM
variable {d f L c s n K r m : Nat} {t : Nat → Nat} {V : Nat → Nat → Nat} {Q : Option Value × xS → Prop} {P : List Nat × Nat × Nat} {I : Nat → Nat → Int32} {J : Nat → Nat → Int64} {R : Nat → xSt}
theorem p_rM108 (hf : f < 3) (hL : L < 2147483648) {x1 x4 x7 x8 : Int32} {y2 y5 : Int64} (k : ∀ I', xag I I' [100] → (∀ j, j < 1024 → I' 100 j = I 64 j) → Wp d 145 139 [some (.ref 59), some (.int x1), some (.long y2), none, some (.int x4), some (.long y5), none, some (.int x7), some (.int x8), none, none, some (.int (nI 0))] [] (xK f L, P, I', J, xFr f c s) Q) : Wp d 145 108 [some (.ref 59), some (.int x1), some (.long y2), none, some (.int x4), some (.long y5), none, some (.int x7), some (.int x8), none, none, some (.int (nI 0))] [] (xK f L, P, I, J, xFr f c s) Q := by
  have loop : ∀ w i I1, 1024 - i = w → i ≤ 1024 → xag I I1 [100] → (∀ j, j < i → I1 100 j = I 64 j) → Wp d 145 108 [some (.ref 59), some (.int x1), some (.long y2), none, some (.int x4), some (.long y5), none, some (.int x7), some (.int x8), none, none, some (.int (nI i))] [] (xK f L, P, I1, J, xFr f c s) Q := by
    intro w
    induction w with
    | zero =>
      intro i I1 hw hi ha h1
      exact wX11_rounds_108 (xK_lt hf hL) rfl rfl rfl rfl rfl (br1 (by first | (rw [nI_ltI (by omega) (by omega)]; omega) | (rw [nI_leI (by omega) (by omega)]; omega) | (rw [nI_eq (by omega) (by omega)]; omega) | (rw [nI_e0 (by omega)]; omega) | (rw [nI_le0 (by omega)]; omega)) (k I1 ha (fun j hj => h1 j (by omega))))
    | succ w ih =>
      intro i I1 hw hi ha h1
      refine wX11_rounds_108 (xK_lt hf hL) rfl rfl rfl rfl rfl (br2 (by first | (rw [nI_ltI (by omega) (by omega)]; omega) | (rw [nI_leI (by omega) (by omega)]; omega) | (rw [nI_eq (by omega) (by omega)]; omega) | (rw [nI_e0 (by omega)]; omega) | (rw [nI_le0 (by omega)]; omega)) ⟨i, rfl, by omega, i, rfl, by omega, ?_⟩)
      rw [nI_add]
      refine ih (i + 1) _ (by omega) (by omega) (ha.up (by simp)) (fun j hj => ?_)
      rw [xup_at]
      by_cases e : j = i
      · rw [if_pos e, ha 64 (by decide), e]
      · rw [if_neg e]
        exact h1 j (by omega)
  exact loop 1024 0 I rfl (by omega) xag.rfl (fun j h => by omega)
theorem p_rM139 (hf : f < 3) (hL : L < 2147483648) (h0 : MA I m R) {x1 x4 x7 x8 : Int32} {y2 y5 : Int64} (k : ∀ I', xag I I' [101, 102, 103, 104] → KR I' m R → Wp d 145 51 [some (.ref 59), some (.int x1), some (.long y2), none, some (.int x4), some (.long y5), none, some (.int x7), some (.int (x8 + nI 1)), none, none, none] [] (xK f L, P, I', J, xFr f c s) Q) : Wp d 145 139 [some (.ref 59), some (.int x1), some (.long y2), none, some (.int x4), some (.long y5), none, some (.int x7), some (.int x8), none, none, some (.int (nI 0))] [] (xK f L, P, I, J, xFr f c s) Q := by
  have hm := h0.2.1
  have loop : ∀ w i I1, m - i = w → i ≤ m → xag I I1 [101, 102, 103, 104] → KR I1 i R → Wp d 145 139 [some (.ref 59), some (.int x1), some (.long y2), none, some (.int x4), some (.long y5), none, some (.int x7), some (.int x8), none, none, some (.int (nI i))] [] (xK f L, P, I1, J, xFr f c s) Q := by
    intro w
    induction w with
    | zero =>
      intro i I1 hw hi ha h1
      have e : i = m := by omega
      subst e
      have h2 := h0.ag ha (by decide)
      exact wX11_rounds_139 (xK_lt hf hL) rfl rfl rfl rfl rfl rfl rfl rfl rfl rfl rfl rfl rfl rfl rfl rfl rfl (br1 (by rw [h2.1]; first | (rw [nI_ltI (by omega) (by omega)]; omega) | (rw [nI_leI (by omega) (by omega)]; omega) | (rw [nI_eq (by omega) (by omega)]; omega) | (rw [nI_e0 (by omega)]; omega) | (rw [nI_le0 (by omega)]; omega)) (k I1 ha h1))
    | succ w ih =>
      intro i I1 hw hi ha h1
      have h2 := h0.ag ha (by decide)
      have hrow := h2.2.2 i (by omega)
      refine wX11_rounds_139 (xK_lt hf hL) rfl rfl rfl rfl rfl rfl rfl rfl rfl rfl rfl rfl rfl rfl rfl rfl rfl (br2 (by rw [h2.1]; first | (rw [nI_ltI (by omega) (by omega)]; omega) | (rw [nI_leI (by omega) (by omega)]; omega) | (rw [nI_eq (by omega) (by omega)]; omega) | (rw [nI_e0 (by omega)]; omega) | (rw [nI_le0 (by omega)]; omega)) ⟨i, rfl, by omega, i, rfl, by omega, i, rfl, by omega, i, rfl, by omega, i, rfl, by omega, i, rfl, by omega, i, rfl, by omega, i, rfl, by omega, ?_⟩)
      rw [nI_add]
      refine ih (i + 1) _ (by omega) (by omega) ((((ha.up (by simp)).up (by simp)).up (by simp)).up (by simp)) (fun j hj => ?_)
      by_cases e : j = i
      · subst e
        refine ⟨?_, ?_, ?_, ?_⟩
        · rw [xup_at, if_pos rfl, xup_ne _ _ _ (by decide), xup_ne _ _ _ (by decide), xup_ne _ _ _ (by decide)]
          exact hrow.1
        · rw [xup_ne _ _ _ (by decide), xup_ne _ _ _ (by decide), xup_ne _ _ _ (by decide), xup_at, if_pos rfl]
          exact hrow.2.1
        · rw [xup_ne _ _ _ (by decide), xup_ne _ _ _ (by decide), xup_at, if_pos rfl, xup_ne _ _ _ (by decide)]
          exact hrow.2.2.1
        · rw [xup_ne _ _ _ (by decide), xup_at, if_pos rfl, xup_ne _ _ _ (by decide), xup_ne _ _ _ (by decide)]
          exact hrow.2.2.2
      · have := h1 j (by omega)
        refine ⟨?_, ?_, ?_, ?_⟩
        · rw [xup_at, if_neg e, xup_ne _ _ _ (by decide), xup_ne _ _ _ (by decide), xup_ne _ _ _ (by decide)]
          exact this.1
        · rw [xup_ne _ _ _ (by decide), xup_ne _ _ _ (by decide), xup_ne _ _ _ (by decide), xup_at, if_neg e]
          exact this.2.1
        · rw [xup_ne _ _ _ (by decide), xup_ne _ _ _ (by decide), xup_at, if_neg e, xup_ne _ _ _ (by decide)]
          exact this.2.2.1
        · rw [xup_ne _ _ _ (by decide), xup_at, if_neg e, xup_ne _ _ _ (by decide), xup_ne _ _ _ (by decide)]
          exact this.2.2.2
  exact loop m 0 I rfl (Nat.zero_le _) xag.rfl (fun j h => by omega)
theorem p_rM219 (hf : f < 3) (hL : L < 2147483648) {x4 x7 : Int32} {y2 y5 : Int64} (k : ∀ I', xag I I' [59, 64] → (∀ q, q ≠ 11 → I' 59 q = I 59 q) → I' 59 11 = nI 0 → (∀ j, j < 1024 → I' 64 j = I 100 j) → Wp d 145 255 [some (.ref 59), none, some (.long y2), none, some (.int x4), some (.long y5), none, some (.int x7), some (.int (nI 0)), none, none, none] [] (xK f L, P, I', J, xFr f c s) Q) : Wp d 145 219 [some (.ref 59), none, some (.long y2), none, some (.int x4), some (.long y5), none, some (.int x7), some (.int (nI 0)), none, none, none] [] (xK f L, P, I, J, xFr f c s) Q := by
  have loop : ∀ w i I1, 1024 - i = w → i ≤ 1024 → xag I I1 [64] → (∀ j, j < i → I1 64 j = I 100 j) → Wp d 145 219 [some (.ref 59), none, some (.long y2), none, some (.int x4), some (.long y5), none, some (.int x7), some (.int (nI i)), none, none, none] [] (xK f L, P, I1, J, xFr f c s) Q := by
    intro w
    induction w with
    | zero =>
      intro i I1 hw hi ha h1
      refine wX11_rounds_219 (xK_lt hf hL) rfl rfl rfl rfl rfl (br1 (by first | (rw [nI_ltI (by omega) (by omega)]; omega) | (rw [nI_leI (by omega) (by omega)]; omega) | (rw [nI_eq (by omega) (by omega)]; omega) | (rw [nI_e0 (by omega)]; omega) | (rw [nI_le0 (by omega)]; omega)) (k _ (xag.up (ha.wd (by simp)) (by simp)) (fun q hq => by rw [xup_at, if_neg hq, ha 59 (by decide)]) (by rw [xup_at, if_pos rfl]) (fun j hj => by rw [xup_ne _ _ _ (by decide)]; exact h1 j (by omega))))
    | succ w ih =>
      intro i I1 hw hi ha h1
      refine wX11_rounds_219 (xK_lt hf hL) rfl rfl rfl rfl rfl (br2 (by first | (rw [nI_ltI (by omega) (by omega)]; omega) | (rw [nI_leI (by omega) (by omega)]; omega) | (rw [nI_eq (by omega) (by omega)]; omega) | (rw [nI_e0 (by omega)]; omega) | (rw [nI_le0 (by omega)]; omega)) ⟨i, rfl, by omega, i, rfl, by omega, ?_⟩)
      rw [nI_add]
      refine ih (i + 1) _ (by omega) (by omega) (ha.up (by simp)) (fun j hj => ?_)
      rw [xup_at]
      by_cases e : j = i
      · rw [if_pos e, ha 100 (by decide), e]
      · rw [if_neg e]
        exact h1 j (by omega)
  exact loop 1024 0 I rfl (by omega) xag.rfl (fun j h => by omega)
theorem p_rM255 (hf : f < 3) (hL : L < 2147483648) (h0 : I 59 11 = nI 0) (hm : m ≤ 300) (hR : KR I m R) {x7 : Int32} {y2 y5 : Int64} (hx : x7 = 0 ∨ x7 = 1) (k : ∀ I', xag I I' [59, 72, 73, 74, 75] → (∀ q, q ≠ 10 → q ≠ 11 → q ≠ 17 → I' 59 q = I 59 q) → I' 59 10 = nI 1 → I' 59 17 = x7 → MA I' m R → Q (some (.long y2), (xK f L, P, I', xup J 59 16 y5, xFr f c s))) : Wp (d + 1) 145 255 [some (.ref 59), none, some (.long y2), none, some (.int (nI m)), some (.long y5), none, some (.int x7), some (.int (nI 0)), none, none, none] [] (xK f L, P, I, J, xFr f c s) Q := by
  have loop : ∀ w i I1, m - i = w → i ≤ m → xag I I1 [59, 72, 73, 74, 75] → (∀ q, q ≠ 11 → I1 59 q = I 59 q) → MA I1 i R → Wp (d + 1) 145 255 [some (.ref 59), none, some (.long y2), none, some (.int (nI m)), some (.long y5), none, some (.int x7), some (.int (nI i)), none, none, none] [] (xK f L, P, I1, J, xFr f c s) Q := by
    intro w
    induction w with
    | zero =>
      intro i I1 hw hi ha h1 h2
      have e : i = m := by omega
      subst e
      refine wX11_rounds_255 (xK_lt hf hL) rfl rfl rfl rfl rfl rfl rfl rfl rfl (br1 (by first | (rw [nI_ltI (by omega) (by omega)]; omega) | (rw [nI_leI (by omega) (by omega)]; omega) | (rw [nI_eq (by omega) (by omega)]; omega) | (rw [nI_e0 (by omega)]; omega) | (rw [nI_le0 (by omega)]; omega)) ⟨hx, k _ ((ha.up (by simp)).up (by simp)) (fun q z1 z2 z3 => ?_) (by rw [xup_at, if_pos rfl]) (by rw [xup_at, if_neg (by decide), xup_at, if_pos rfl]) ⟨?_, h2.2.1, ?_⟩⟩)
      · rw [xup_at, if_neg z1, xup_at, if_neg z3]
        exact h1 q z2
      · rw [xup_at, if_neg (by decide), xup_at, if_neg (by decide)]
        exact h2.1
      · rw [xup_ne _ _ _ (by decide), xup_ne _ _ _ (by decide), xup_ne _ _ _ (by decide), xup_ne _ _ _ (by decide), xup_ne _ _ _ (by decide), xup_ne _ _ _ (by decide), xup_ne _ _ _ (by decide), xup_ne _ _ _ (by decide)]
        exact h2.2.2
    | succ w ih =>
      intro i I1 hw hi ha h1 h2
      have hrow := hR i (by omega)
      refine wX11_rounds_255 (xK_lt hf hL) rfl rfl rfl rfl rfl rfl rfl rfl rfl (br2 (by first | (rw [nI_ltI (by omega) (by omega)]; omega) | (rw [nI_leI (by omega) (by omega)]; omega) | (rw [nI_eq (by omega) (by omega)]; omega) | (rw [nI_e0 (by omega)]; omega) | (rw [nI_le0 (by omega)]; omega)) ⟨i, rfl, by omega, i, rfl, by omega, i, rfl, by omega, i, rfl, by omega, ?_⟩)
      rw [ha 101 (by decide), ha 104 (by decide), ha 102 (by decide), ha 103 (by decide), hrow.1, hrow.2.1, hrow.2.2.1, hrow.2.2.2]
      refine p_addStepM hf hL h2 (by omega) (fun I2 b1 b2 b3 => ⟨_, _, rfl, ?_⟩)
      all_goals try dsimp only
      try dsimp only
      rw [nI_add]
      refine ih (i + 1) I2 (by omega) (by omega) (ha.tr b1 (by simp)) (fun q hq => by rw [b2 q hq]; exact h1 q hq) (b3.cg (fun j hj => ?_))
      by_cases e : j = i
      · rw [e, va_up_self]
      · rw [va_up_ne _ _ e]
  exact loop m 0 I rfl (Nat.zero_le _) xag.rfl (fun _ _ => rfl) ⟨h0, by omega, fun j h => by omega⟩
theorem p_roundsM (hf : f < 3) (hf1 : f ≠ 1) (hL : L < 2147483648) (hK : I 59 5 = nI K) (hK1 : 1 ≤ K) (hK2 : K ≤ 40) (hM : MV I f V) (hT : MT I n t) (hr1 : 1 ≤ r) (hr2 : r ≤ 8) (k : ∀ I' J' V1 D S, xag I I' mS → (∀ q, q ≠ 10 → q ≠ 11 → q ≠ 17 → q ≠ 18 → I' 59 q = I 59 q) → RN f t n K V r V1 D S → MV I' f S.2.1 → MA I' S.2.2.1 S.2.2.2.1 → I' 59 10 = nI 1 → I' 59 17 = nI S.2.2.2.2.2 → I' 59 18 = nI D → J' 59 16 = lN S.2.2.2.2.1 → (∀ a, a ≠ 59 → J' a = J a) → Q (some (.long (lN S.1)), (xK f L, P, I', J', xFr f c s))) : Wp (d + 7) 145 51 [some (.ref 59), some (.int (nI r)), some (.long (-1)), none, some (.int (nI 0)), some (.long (lN 0)), none, some (.int (nI 0)), some (.int (nI 0)), none, none, none] [] (xK f L, P, I, J, xFr f c s) Q := by
  have hn := hT.2.1
  have ht : ∀ j, j < n → t j < 256 := fun j hj => (hT.2.2 j hj).2
  have loop : ∀ w i I1 J1 V1 D1 S1 y, r - i = w → i ≤ r → xag I I1 mS → (∀ q, q ≠ 11 → q ≠ 17 → q ≠ 18 → I1 59 q = I 59 q) → (∀ a, a ≠ 59 → J1 a = J a) → MV I1 f V1 → RN f t n K V i V1 D1 S1 → (i = 0 → y = -1 ∧ S1 = (0, V, 0, (fun _ => (0, 0, 0, 0)), 0, 0)) → (i ≠ 0 → y = lN S1.1 ∧ I1 59 18 = nI D1 ∧ KC I1 S1.2.1 ∧ VB S1.2.1 ∧ S1.1 < 2 ^ 24 ∧ KR I1 S1.2.2.1 S1.2.2.2.1 ∧ S1.2.2.1 ≤ 300 ∧ S1.2.2.2.2.2 < 2) → Wp (d + 7) 145 51 [some (.ref 59), some (.int (nI r)), some (.long y), none, some (.int (nI S1.2.2.1)), some (.long (lN S1.2.2.2.2.1)), none, some (.int (nI S1.2.2.2.2.2)), some (.int (nI i)), none, none, none] [] (xK f L, P, I1, J1, xFr f c s) Q := by
    intro w
    induction w with
    | zero =>
      intro i I1 J1 V1 D1 S1 y hw hi ha h59 hj hM1 hR hS0 hS
      have e : i = r := by omega
      subst e
      obtain ⟨g0, g1, g2, g3, g4, g5, g6, g7⟩ := hS (by omega)
      refine wX11_rounds_51 rfl (br1 (by first | (rw [nI_ltI (by omega) (by omega)]; omega) | (rw [nI_leI (by omega) (by omega)]; omega) | (rw [nI_eq (by omega) (by omega)]; omega) | (rw [nI_e0 (by omega)]; omega) | (rw [nI_le0 (by omega)]; omega)) ?_)
      refine p_rM219 hf hL (fun I2 b1 b2 b3 b4 => ?_)
      refine p_rM255 hf hL b3 g6 (fun j hj => by rw [b1 104 (by decide), b1 101 (by decide), b1 102 (by decide), b1 103 (by decide)]; exact g5 j hj) (by rcases (by omega : S1.2.2.2.2.2 = 0 ∨ S1.2.2.2.2.2 = 1) with z | z <;> rw [z]; exact Or.inl rfl; exact Or.inr rfl) (fun I3 c1 c2 c3 c4 c5 => ?_)
      rw [g0]
      refine k I3 _ V1 D1 S1 (xag.tr (xag.tr ha b1 (by unfold mS; simp)) c1 (by unfold mS; simp)) (fun q z1 z2 z3 z4 => by rw [c2 q z1 z2 z3, b2 q z2]; exact h59 q z2 z3 z4) hR ⟨?_, fun k' s' z1 z2 => ?_, g3⟩ c5 c3 c4 (by rw [c2 18 (by decide) (by decide) (by decide), b2 18 (by decide)]; exact g1) (by rw [xup_at, if_pos rfl]) (fun a z => by rw [xup_ne _ _ _ z]; exact hj a z)
      · rw [c2 1 (by decide) (by decide) (by decide), b2 1 (by decide)]
        exact hM1.1
      · have := SY_BS k' z1
        rw [c1 64 (by decide), b4 _ (by omega)]
        exact g2 k' s' z1 z2
    | succ w ih =>
      intro i I1 J1 V1 D1 S1 y hw hi ha h59 hj hM1 hR hS0 hS
      have hT1 : MT I1 n t := ⟨by rw [h59 3 (by decide) (by decide) (by decide)]; exact hT.1, hn, by rw [ha 62 (by decide)]; exact hT.2.2⟩
      refine wX11_rounds_51 rfl (br2 (by first | (rw [nI_ltI (by omega) (by omega)]; omega) | (rw [nI_leI (by omega) (by omega)]; omega) | (rw [nI_eq (by omega) (by omega)]; omega) | (rw [nI_e0 (by omega)]; omega) | (rw [nI_le0 (by omega)]; omega)) ?_)
      refine p_bestM hf hL (by rw [h59 5 (by decide) (by decide) (by decide)]; exact hK) hK1 hK2 hM1 hT1 (fun I2 m b1 b2 b3 b4 b5 => ⟨_, _, rfl, ?_⟩)
      all_goals try dsimp only
      have hv := b2.VS hf hK1 hM1.2.2 hn ht
      have hM2 : MV I2 f V1 := ⟨by rw [b1.2 1 (by decide) (by decide) (by decide)]; exact hM1.1, by rw [b1.1 64 (by decide)]; exact hM1.2.1, hM1.2.2⟩
      have hT2 : MT I2 n t := ⟨by rw [b1.2 3 (by decide) (by decide) (by decide)]; exact hT1.1, hn, by rw [b1.1 62 (by decide)]; exact hT1.2.2⟩
      refine p_fitM hf hf1 hL hM2 hT2 b3 hv (fun I3 e1 e2 => ⟨_, _, rfl, ?_⟩)
      all_goals try dsimp only
      have h3 := b3.ag e1 (by decide)
      refine p_allCostM (d := d + 2) hf hL e2 (hT2.ag e1 (by decide) (by decide)) h3 hv ⟨_, _, _, rfl, ?_⟩
      all_goals try dsimp only
      have hcl := allc_le e2.2.2 hf1 hv hn ht
      generalize hcc : allc (fV f (us f t (bR f V1 t n K m) m) V1) f t (bR f V1 t n K m) m = cc at *
      have ha3 : xag I1 I3 [59, 64, 72, 73, 74, 75, 79, 80, 81, 83, 84, 85, 86, 87, 88, 89, 90, 91, 92, 93, 94, 95, 96, 97, 98, 99] := b1.1.tw e1 ⟨fun a z => by simp at z ⊢; omega, fun a z => by simp at z ⊢; omega⟩
      have ha3' : xag I I3 mS := ha.tr ha3 (fun a z => by unfold mS; simp at z ⊢; omega)
      have h593 : ∀ q, q ≠ 11 → q ≠ 17 → q ≠ 18 → I3 59 q = I 59 q := fun q z1 z2 z3 => by rw [e1 59 (by decide), b1.2 q z1 z2 z3]; exact h59 q z1 z2 z3
      have h18 : I3 59 18 = nI (bD f V1 t n K) := by rw [e1 59 (by decide)]; exact b5
      have h17 : I3 59 17 = nI (if bD f V1 t n K = 0 then 1 else 0) := by rw [e1 59 (by decide)]; exact b4
      have hj2 : ∀ a, a ≠ 59 → xup J1 59 16 (lN (allc V1 f t (bR f V1 t n K m) m)) a = J a := fun a z => by rw [xup_ne _ _ _ z]; exact hj a z
      have hRn : ∀ S, (S = if i = 0 ∨ cc < S1.1 then (cc, fV f (us f t (bR f V1 t n K m) m) V1, m, bR f V1 t n K m, allc V1 f t (bR f V1 t n K m) m, if bD f V1 t n K = 0 then 1 else 0) else S1) → RN f t n K V (i + 1) (fV f (us f t (bR f V1 t n K m) m) V1) (bD f V1 t n K) S := fun S hS => ⟨V1, D1, S1, m, hR, b2, rfl, rfl, by rw [hcc]; exact hS⟩
      have take : (i = 0 ∨ cc < S1.1) → Wp (d + 6 + 1) 145 108 [some (.ref 59), some (.int (nI r)), some (.long (lN cc)), none, some (.int (I3 59 11)), some (.long (xup J1 59 16 (lN (allc V1 f t (bR f V1 t n K m) m)) 59 16)), none, some (.int (I3 59 17)), some (.int (nI i)), none, none, some (.int (nI 0))] [] (xK f L, P, I3, xup J1 59 16 (lN (allc V1 f t (bR f V1 t n K m) m)), xFr f c s) Q := by
        intro hz
        rw [h3.1, h17, xup_at, if_pos rfl]
        refine p_rM108 hf hL (fun I4 q1 q2 => ?_)
        refine p_rM139 hf hL (h3.ag q1 (by decide)) (fun I5 u1 u2 => ?_)
        have hu : xag I3 I5 [100, 101, 102, 103, 104] := q1.tw u1 ⟨by simp, fun a z => by simp at z ⊢; omega⟩
        rw [nI_add]
        refine ih (i + 1) I5 _ _ _ (cc, fV f (us f t (bR f V1 t n K m) m) V1, m, bR f V1 t n K m, allc V1 f t (bR f V1 t n K m) m, if bD f V1 t n K = 0 then 1 else 0) (lN cc) (by omega) (by omega) (ha3'.tr hu (fun a z => by unfold mS; simp at z ⊢; omega)) (fun q z1 z2 z3 => by rw [hu 59 (by decide)]; exact h593 q z1 z2 z3) hj2 (e2.ag hu (by decide)) (hRn _ (by rw [if_pos hz])) (fun z => by omega) (fun _ => ⟨rfl, by rw [hu 59 (by decide)]; exact h18, fun k' s' z1 z2 => ?_, e2.2.2, hcl, u2, h3.2.1, by
          show (if bD f V1 t n K = 0 then 1 else 0) < 2
          split <;> omega⟩)
        have := SY_BS k' z1
        rw [u1 100 (by decide), q2 _ (by omega)]
        exact e2.2.1 k' s' z1 z2
      by_cases e0 : i = 0
      · rw [(hS0 e0).1]
        exact br1 (by decide) (take (Or.inl e0))
      · obtain ⟨g0, g1, g2, g3, g4, g5, g6, g7⟩ := hS e0
        rw [g0]
        have hlt : ¬ lg_cmp (lN S1.1) (lN 0) < 0 := by
          rw [lg_cmp_lt, pk_lLT (by omega) (by decide)]
          omega
        have hge : 0 ≤ lg_cmp (lN cc) (lN S1.1) ↔ S1.1 ≤ cc := by rw [lg_cmp_ge, pk_lLE (by omega) (by omega)]
        refine br2 hlt (brc hge (fun h2 => ?_) (fun h2 => take (Or.inr (by omega))))
        rw [nI_add]
        refine ih (i + 1) I3 _ _ _ S1 (lN S1.1) (by omega) (by omega) ha3' h593 hj2 e2 (hRn _ (by rw [if_neg (by omega)])) (fun z => by omega) (fun _ => ⟨rfl, h18, fun k' s' z1 z2 => ?_, g3, g4, fun j hj => ?_, g6, g7⟩)
        · rw [ha3 100 (by decide)]
          exact g2 k' s' z1 z2
        · rw [ha3 104 (by decide), ha3 101 (by decide), ha3 102 (by decide), ha3 103 (by decide)]
          exact g5 j hj
  exact loop r 0 I J V 0 (0, V, 0, (fun _ => (0, 0, 0, 0)), 0, 0) (-1) rfl (Nat.zero_le _) xag.rfl (fun _ _ _ _ => rfl) (fun _ _ => rfl) hM ⟨rfl, rfl, rfl⟩ (fun _ => ⟨rfl, rfl⟩) (fun z => absurd rfl z)
end RNDM
