/-! STEPS: row i of R is (kind, place, length, distance) -/
abbrev xSt : Type := Nat × Nat × Nat × Nat
section PCELL
variable {f L c s p : Nat}
theorem pcK (hp : p = 41 ∨ p = 47) : xK f L p = (5, 8) := by rcases hp with rfl | rfl <;> rfl
theorem pcF0 (hp : p = 41 ∨ p = 47) : xFr f c s p 0 = some (p + 1) := by rcases hp with rfl | rfl <;> rfl
theorem pcF1 (hp : p = 41 ∨ p = 47) : xFr f c s p 1 = some (p + 2) := by rcases hp with rfl | rfl <;> rfl
theorem pcF2 (hp : p = 41 ∨ p = 47) : xFr f c s p 2 = some (p + 3) := by rcases hp with rfl | rfl <;> rfl
theorem pcF3 (hp : p = 41 ∨ p = 47) : xFr f c s p 3 = some (p + 4) := by rcases hp with rfl | rfl <;> rfl
theorem pcF4 (hp : p = 41 ∨ p = 47) : xFr f c s p 4 = some (p + 5) := by rcases hp with rfl | rfl <;> rfl
theorem pcA1 (hp : p = 41 ∨ p = 47) : xK f L (p + 1) = (100, 300) := by rcases hp with rfl | rfl <;> rfl
theorem pcA2 (hp : p = 41 ∨ p = 47) : xK f L (p + 2) = (100, 300) := by rcases hp with rfl | rfl <;> rfl
theorem pcA3 (hp : p = 41 ∨ p = 47) : xK f L (p + 3) = (100, 300) := by rcases hp with rfl | rfl <;> rfl
theorem pcA4 (hp : p = 41 ∨ p = 47) : xK f L (p + 4) = (100, 300) := by rcases hp with rfl | rfl <;> rfl
theorem pcA5 (hp : p = 41 ∨ p = 47) : xK f L (p + 5) = (100, 300) := by rcases hp with rfl | rfl <;> rfl
end PCELL
/-- the rows that stand in a parse of the class -/
def PA (I : Nat → Nat → Int32) (p m : Nat) (R : Nat → xSt) : Prop := I p 5 = nI m ∧ m ≤ 300 ∧ ∀ i, i < m → I (p + 4) i = nI (R i).1 ∧ I (p + 1) i = nI (R i).2.1 ∧ I (p + 2) i = nI (R i).2.2.1 ∧ I (p + 3) i = nI (R i).2.2.2
/-- and in the reference -/
def MA (I : Nat → Nat → Int32) (m : Nat) (R : Nat → xSt) : Prop := I 59 11 = nI m ∧ m ≤ 300 ∧ ∀ i, i < m → I 75 i = nI (R i).1 ∧ I 72 i = nI (R i).2.1 ∧ I 73 i = nI (R i).2.2.1 ∧ I 74 i = nI (R i).2.2.2
theorem PA.ag {I I1 : Nat → Nat → Int32} {S : List Nat} {p m : Nat} {R : Nat → xSt} (h : PA I p m R) (ha : xag I I1 S) (h1 : p ∉ S ∧ p + 1 ∉ S ∧ p + 2 ∉ S ∧ p + 3 ∉ S ∧ p + 4 ∉ S) : PA I1 p m R := by
  unfold PA at h ⊢
  rw [ha p h1.1, ha (p + 1) h1.2.1, ha (p + 2) h1.2.2.1, ha (p + 3) h1.2.2.2.1, ha (p + 4) h1.2.2.2.2]
  exact h
theorem MA.ag {I I1 : Nat → Nat → Int32} {S : List Nat} {m : Nat} {R : Nat → xSt} (h : MA I m R) (ha : xag I I1 S) (h1 : 59 ∉ S ∧ 72 ∉ S ∧ 73 ∉ S ∧ 74 ∉ S ∧ 75 ∉ S) : MA I1 m R := by
  unfold MA at h ⊢
  rw [ha 59 h1.1, ha 72 h1.2.1, ha 73 h1.2.2.1, ha 74 h1.2.2.2.1, ha 75 h1.2.2.2.2]
  exact h
theorem PA.cg {I : Nat → Nat → Int32} {p m : Nat} {R R' : Nat → xSt} (h : PA I p m R) (he : ∀ i, i < m → R' i = R i) : PA I p m R' := ⟨h.1, h.2.1, fun i hi => by rw [he i hi]; exact h.2.2 i hi⟩
theorem MA.cg {I : Nat → Nat → Int32} {m : Nat} {R R' : Nat → xSt} (h : MA I m R) (he : ∀ i, i < m → R' i = R i) : MA I m R' := ⟨h.1, h.2.1, fun i hi => by rw [he i hi]; exact h.2.2 i hi⟩
section STP
variable {d f L c s p m : Nat} {R : Nat → xSt} {Q : Option Value × xS → Prop} {P : List Nat × Nat × Nat} {I : Nat → Nat → Int32} {J : Nat → Nat → Int64}
theorem p_begin (hp : p = 41 ∨ p = 47) (k : ∀ I', xag I I' [p] → PA I' p 0 R → Q (none, (xK f L, P, I', J, xFr f c s))) : Wp d 51 0 [some (.ref p)] [] (xK f L, P, I, J, xFr f c s) Q := by
  refine wX6_begin_0 (pcK hp) (k _ (xag.rfl.up (by simp)) ⟨?_, by omega, fun i hi => by omega⟩)
  rw [xup_at, if_pos rfl]
theorem p_add (hf : f < 3) (hL : L < 2147483648) (hp : p = 41 ∨ p = 47) (h0 : PA I p m R) (hm : m < 300) {kd at' sz bk : Nat} (k : ∀ I', xag I I' [p, p + 1, p + 2, p + 3, p + 4] → PA I' p (m + 1) (va_up R m (kd, at', sz, bk)) → Q (none, (xK f L, P, I', J, xFr f c s))) : Wp d 52 0 [some (.ref p), some (.int (nI kd)), some (.int (nI at')), some (.int (nI sz)), some (.int (nI bk))] [] (xK f L, P, I, J, xFr f c s) Q := by
  refine wX6_add_0 (xK_lt hf hL) (pcK hp) (pcF3 hp) (pcA4 hp) (pcF0 hp) (pcA1 hp) (pcF1 hp) (pcA2 hp) (pcF2 hp) (pcA3 hp) (br1 ?_ ⟨m, h0.1, by omega, m, ?_, by omega, m, ?_, by omega, m, ?_, by omega, ?_⟩)
  · rw [h0.1]
    exact (by first | (rw [nI_ltI (by omega) (by omega)]; omega) | (rw [nI_leI (by omega) (by omega)]; omega) | (rw [nI_eq (by omega) (by omega)]; omega) | (rw [nI_e0 (by omega)]; omega) | (rw [nI_le0 (by omega)]; omega))
  · rw [xup_ne _ _ _ (by omega)]
    exact h0.1
  · rw [xup_ne _ _ _ (by omega), xup_ne _ _ _ (by omega)]
    exact h0.1
  · rw [xup_ne _ _ _ (by omega), xup_ne _ _ _ (by omega), xup_ne _ _ _ (by omega)]
    exact h0.1
  · refine k _ (((((xag.rfl.up (by simp)).up (by simp)).up (by simp)).up (by simp)).up (by simp)) ⟨?_, by omega, fun i hi => ?_⟩
    · rw [xup_at, if_pos rfl, xup_ne _ _ _ (by omega), xup_ne _ _ _ (by omega), xup_ne _ _ _ (by omega), xup_ne _ _ _ (by omega), h0.1, nI_add]
    · by_cases e : i = m
      · subst e
        rw [va_up_self]
        simp [xup_q]
      · rw [va_up_ne _ _ e]
        have := h0.2.2 i (by omega)
        simp [xup_q, e]
        exact this
theorem p_addStepM (hf : f < 3) (hL : L < 2147483648) (h0 : MA I m R) (hm : m < 300) {kd at' sz bk : Nat} (k : ∀ I', xag I I' [59, 72, 73, 74, 75] → (∀ q, q ≠ 11 → I' 59 q = I 59 q) → MA I' (m + 1) (va_up R m (kd, at', sz, bk)) → Q (none, (xK f L, P, I', J, xFr f c s))) : Wp d 124 0 [some (.ref 59), some (.int (nI at')), some (.int (nI kd)), some (.int (nI sz)), some (.int (nI bk))] [] (xK f L, P, I, J, xFr f c s) Q := by
  refine wX11_addStep_0 (xK_lt hf hL) rfl rfl rfl rfl rfl rfl rfl rfl rfl ⟨m, h0.1, by omega, m, ?_, by omega, m, ?_, by omega, m, ?_, by omega, ?_⟩
  · rw [xup_ne _ _ _ (by omega)]
    exact h0.1
  · rw [xup_ne _ _ _ (by omega), xup_ne _ _ _ (by omega)]
    exact h0.1
  · rw [xup_ne _ _ _ (by omega), xup_ne _ _ _ (by omega), xup_ne _ _ _ (by omega)]
    exact h0.1
  · refine k _ (((((xag.rfl.up (by simp)).up (by simp)).up (by simp)).up (by simp)).up (by simp)) (fun q hq => ?_) ⟨?_, by omega, fun i hi => ?_⟩
    · simp [xup_q, hq]
    · rw [xup_at, if_pos rfl, xup_ne _ _ _ (by omega), xup_ne _ _ _ (by omega), xup_ne _ _ _ (by omega), xup_ne _ _ _ (by omega), h0.1, nI_add]
    · by_cases e : i = m
      · subst e
        rw [va_up_self]
        simp [xup_q]
      · rw [va_up_ne _ _ e]
        have := h0.2.2 i (by omega)
        simp [xup_q, e]
        exact this
theorem p_swap (hf : f < 3) (hL : L < 2147483648) {a i j : Nat} (ha : xK f L a = (100, 300)) (hi : i < 300) (hj : j < 300) (k : Q (none, (xK f L, P, xup (xup I a i (I a j)) a j (I a i), J, xFr f c s))) : Wp d 54 0 [some (.ref a), some (.int (nI i)), some (.int (nI j)), none] [] (xK f L, P, I, J, xFr f c s) Q := by
  exact wX6_swap_0 (xK_lt hf hL) ha ⟨i, rfl, hi, j, rfl, hj, i, rfl, hi, j, rfl, hj, k⟩
theorem xdiv2 {m : Nat} (hm : m < 1000) : nI m / nI 2 = nI (m / 2) := pk_div (by omega) (by decide) (by decide)
/-- the rows turned round -/
theorem p_turnRound (hf : f < 3) (hL : L < 2147483648) (hp : p = 41 ∨ p = 47) (h0 : PA I p m R) (k : ∀ I', xag I I' [p + 1, p + 2, p + 3, p + 4] → PA I' p m (fun i => R (m - 1 - i)) → Q (none, (xK f L, P, I', J, xFr f c s))) : Wp (d + 1) 53 0 [some (.ref p), none, none] [] (xK f L, P, I, J, xFr f c s) Q := by
  have hm := h0.2.1
  have loop : ∀ q i I1, m / 2 - i = q → i ≤ m / 2 → xag I I1 [p + 1, p + 2, p + 3, p + 4] → PA I1 p m (fun j => if j < i ∨ m - 1 - i < j then R (m - 1 - j) else R j) → Wp (d + 1) 53 2 [some (.ref p), some (.int (nI i)), none] [] (xK f L, P, I1, J, xFr f c s) Q := by
    intro q
    induction q with
    | zero =>
      intro i I1 hq hi ha h1
      refine wX6_turnRound_2 (pcK hp) (pcF3 hp) (pcF0 hp) (pcF1 hp) (pcF2 hp) ⟨by decide, br1 ?_ (k I1 ha (h1.cg (fun j hj => ?_)))⟩
      · rw [h1.1, xdiv2 (by omega)]
        exact (by first | (rw [nI_ltI (by omega) (by omega)]; omega) | (rw [nI_leI (by omega) (by omega)]; omega) | (rw [nI_eq (by omega) (by omega)]; omega) | (rw [nI_e0 (by omega)]; omega) | (rw [nI_le0 (by omega)]; omega))
      · show R (m - 1 - j) = if j < i ∨ m - 1 - i < j then R (m - 1 - j) else R j
        by_cases e : j < i ∨ m - 1 - i < j
        · rw [if_pos e]
        · rw [if_neg e]
          congr 1
          omega
    | succ q ih =>
      intro i I1 hq hi ha h1
      refine wX6_turnRound_2 (pcK hp) (pcF3 hp) (pcF0 hp) (pcF1 hp) (pcF2 hp) ⟨by decide, br2 ?_ ?_⟩
      · rw [h1.1, xdiv2 (by omega)]
        exact (by first | (rw [nI_ltI (by omega) (by omega)]; omega) | (rw [nI_leI (by omega) (by omega)]; omega) | (rw [nI_eq (by omega) (by omega)]; omega) | (rw [nI_e0 (by omega)]; omega) | (rw [nI_le0 (by omega)]; omega))
      · rw [h1.1, pk_sub (by omega), pk_sub (by omega)]
        refine p_swap hf hL (pcA4 hp) (by omega) (by omega) ⟨_, _, rfl, ?_⟩
        all_goals try dsimp only
        refine p_swap hf hL (pcA1 hp) (by omega) (by omega) ⟨_, _, rfl, ?_⟩
        all_goals try dsimp only
        refine p_swap hf hL (pcA2 hp) (by omega) (by omega) ⟨_, _, rfl, ?_⟩
        all_goals try dsimp only
        refine p_swap hf hL (pcA3 hp) (by omega) (by omega) ⟨_, _, rfl, ?_⟩
        all_goals try dsimp only
        rw [nI_add]
        refine ih (i + 1) _ (by omega) (by omega) ((((((((ha.up (by simp)).up (by simp)).up (by simp)).up (by simp)).up (by simp)).up (by simp)).up (by simp)).up (by simp)) ⟨?_, hm, fun j hj => ?_⟩
        · rw [xup_ne _ _ _ (by omega), xup_ne _ _ _ (by omega), xup_ne _ _ _ (by omega), xup_ne _ _ _ (by omega), xup_ne _ _ _ (by omega), xup_ne _ _ _ (by omega), xup_ne _ _ _ (by omega), xup_ne _ _ _ (by omega)]
          exact h1.1
        · have hA := h1.2.2 i (by omega)
          have hB := h1.2.2 (m - 1 - i) (by omega)
          dsimp only at hA hB ⊢
          rw [if_neg (by omega)] at hA hB
          by_cases e1 : j = i
          · subst e1
            rw [if_pos (by omega)]
            have e2 : ¬ j = m - 1 - j := by omega
            simp [xup_q, e2]
            exact hB
          · by_cases e2 : j = m - 1 - i
            · rw [if_pos (by omega), show m - 1 - j = i by omega]
              simp [xup_q, e2]
              exact hA
            · have hC := h1.2.2 j hj
              dsimp only at hC
              have e3 : (j < i + 1 ∨ m - 1 - (i + 1) < j) ↔ (j < i ∨ m - 1 - i < j) := by omega
              simp only [e3]
              simp [xup_q, e1, e2]
              exact hC
  refine wX6_turnRound_0  (loop _ 0 I rfl (by omega) xag.rfl (h0.cg (fun j hj => ?_)))
  show (if j < 0 ∨ m - 1 - 0 < j then R (m - 1 - j) else R j) = R j
  rw [if_neg (by omega)]
end STP
