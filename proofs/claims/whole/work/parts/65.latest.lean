/-! THE LATEST DISTANCES, as a row and as one number -/
def lp (la : Nat → Nat) : Nat := la 0 * 2 ^ 27 + la 1 * 2 ^ 18 + la 2 * 2 ^ 9 + la 3
def ah (la : Nat → Nat) (b k : Nat) : Nat → Nat := fun j => if j = 0 then b else if j ≤ k then la (j - 1) else la j
def LB (la : Nat → Nat) : Prop := ∀ k, k < 4 → 1 ≤ la k ∧ la k ≤ 300
theorem LB_ah {la : Nat → Nat} (h : LB la) {b k : Nat} (hb : 1 ≤ b) (hb2 : b ≤ 300) (hk : k < 4) : LB (ah la b k) := fun j hj => by
  unfold ah
  split
  · exact ⟨hb, hb2⟩
  · split
    · exact h (j - 1) (by omega)
    · exact h j hj
theorem lp_lt {la : Nat → Nat} (h : LB la) : lp la < 2 ^ 36 := by
  have h0 := h 0 (by decide)
  have h1 := h 1 (by decide)
  have h2 := h 2 (by decide)
  have h3 := h 3 (by decide)
  unfold lp
  omega
theorem lp_at {la : Nat → Nat} (h : LB la) {k : Nat} (hk : k < 4) : lp la / 2 ^ (9 * (3 - k)) % 512 = la k := by
  have h0 := h 0 (by decide)
  have h1 := h 1 (by decide)
  have h2 := h 2 (by decide)
  have h3 := h 3 (by decide)
  unfold lp
  rcases (by omega : k = 0 ∨ k = 1 ∨ k = 2 ∨ k = 3) with rfl | rfl | rfl | rfl
  · show (la 0 * 2 ^ 27 + la 1 * 2 ^ 18 + la 2 * 2 ^ 9 + la 3) / 2 ^ 27 % 512 = _
    omega
  · show (la 0 * 2 ^ 27 + la 1 * 2 ^ 18 + la 2 * 2 ^ 9 + la 3) / 2 ^ 18 % 512 = _
    omega
  · show (la 0 * 2 ^ 27 + la 1 * 2 ^ 18 + la 2 * 2 ^ 9 + la 3) / 2 ^ 9 % 512 = _
    omega
  · show (la 0 * 2 ^ 27 + la 1 * 2 ^ 18 + la 2 * 2 ^ 9 + la 3) / 2 ^ 0 % 512 = _
    omega
theorem xand511 (q : Nat) : nI q &&& nI 511 = nI (q % 512) := by
  apply Int32.toBitVec_inj.mp
  show BitVec.ofNat 32 q &&& BitVec.ofNat 32 511 = BitVec.ofNat 32 (q % 512)
  apply BitVec.eq_of_toNat_eq
  rw [BitVec.toNat_and, BitVec.toNat_ofNat, BitVec.toNat_ofNat, BitVec.toNat_ofNat, show 511 % 2 ^ 32 = 2 ^ 9 - 1 by decide, Nat.and_two_pow_sub_one_eq_mod]
  omega
theorem xor_add {a b i : Nat} (h : b < 2 ^ i) : a * 2 ^ i ||| b = a * 2 ^ i + b := by
  rw [Nat.mul_comm]
  exact (Nat.two_pow_add_eq_or_of_lt h a).symm
section LTS
variable {d : Nat} {Q : Option Value × xS → Prop} {K : Nat → Nat × Nat} {P : List Nat × Nat × Nat} {I : Nat → Nat → Int32} {J : Nat → Nat → Int64} {F : Nat → Nat → Option Nat} {la : Nat → Nat}
theorem p_at (h : LB la) {k : Nat} (hk : k < 4) (kk : Q (some (.int (nI (la k))), (K, P, I, J, F))) : Wp d 27 0 [some (.long (lN (lp la))), none, some (.int (nI k))] [] (K, P, I, J, F) Q := by
  refine wX3_at_0 ?_
  rw [pk_sub (by omega), pk_mul, wb_shr (by have := lp_lt h; omega) (by omega), lN_i, xand511, lp_at h hk]
  exact kk
theorem p_behindCopy (h : LB la) {b : Nat} (hb : b ≤ 300) (kk : Q (some (.long (lN (lp (ah la b 3)))), (K, P, I, J, F))) : Wp d 28 0 [some (.long (lN (lp la))), none, some (.int (nI b))] [] (K, P, I, J, F) Q := by
  have h0 := h 0 (by decide)
  have h1 := h 1 (by decide)
  have h2 := h 2 (by decide)
  have h3 := h 3 (by decide)
  have hl := lp_lt h
  refine wX3_behindCopy_0 ?_
  rw [xi2l (by omega), wb_shl _ (by decide), wb_shr (by omega) (by decide), wb_or (by omega) (by omega), xor_add (by omega)]
  have e : b * 2 ^ 27 + lp la / 2 ^ 9 = lp (ah la b 3) := by
    show _ = b * 2 ^ 27 + la 0 * 2 ^ 18 + la 1 * 2 ^ 9 + la 2
    unfold lp
    omega
  rw [e]
  exact kk
theorem p_behindAgain (h : LB la) {k : Nat} (hk : k < 4) (kk : Q (some (.long (lN (lp (ah la (la k) k)))), (K, P, I, J, F))) : Wp (d + 1) 29 0 [some (.long (lN (lp la))), none, some (.int (nI k)), none, none, none, none, none] [] (K, P, I, J, F) Q := by
  have h0 := h 0 (by decide)
  have h1 := h 1 (by decide)
  have h2 := h 2 (by decide)
  have h3 := h 3 (by decide)
  have hk' := h k hk
  have hl := lp_lt h
  have hp0 : lp la / 2 ^ 36 = 0 := by omega
  have hp1 : lp la / 2 ^ 27 = la 0 := by unfold lp; omega
  have hp2 : lp la / 2 ^ 18 = la 0 * 2 ^ 9 + la 1 := by unfold lp; omega
  have hp3 : lp la / 2 ^ 9 = la 0 * 2 ^ 18 + la 1 * 2 ^ 9 + la 2 := by unfold lp; omega
  have hm0 : lp la % 2 ^ 27 = la 1 * 2 ^ 18 + la 2 * 2 ^ 9 + la 3 := by unfold lp; omega
  have hm1 : lp la % 2 ^ 18 = la 2 * 2 ^ 9 + la 3 := by unfold lp; omega
  have hm2 : lp la % 2 ^ 9 = la 3 := by unfold lp; omega
  refine wX3_behindAgain_0 (p_at h hk ⟨_, _, _, rfl, ?_⟩)
  all_goals try dsimp only
  try dsimp only
  have e1 : lN 1 = lN (2 ^ 0) := rfl
  rw [pk_sub (by omega), pk_mul, nI_add, xi2l (by omega), wb_shl _ (by decide), wb_shr (by omega) (by omega), wb_shl _ (by omega), wb_shl _ (by omega), lN_sub (by have := Nat.two_pow_pos (9 * (3 - k)); omega), Nat.one_mul, wb_mask (by omega) (by omega)]
  rcases (by omega : k = 0 ∨ k = 1 ∨ k = 2 ∨ k = 3) with rfl | rfl | rfl | rfl
  · simp only [show 9 * (3 - 0) + 9 = 36 by decide, show 9 * (3 - 0) = 27 by decide, hp0, hm0] at *
    rw [Nat.zero_mul, wb_or (by omega) (Nat.two_pow_pos 64), Nat.or_zero, wb_or (by omega) (by omega), xor_add (by omega)]
    have e : la 0 * 2 ^ 27 + (la 1 * 2 ^ 18 + la 2 * 2 ^ 9 + la 3) = lp (ah la (la 0) 0) := by
      show _ = la 0 * 2 ^ 27 + la 1 * 2 ^ 18 + la 2 * 2 ^ 9 + la 3
      omega
    rw [e]
    exact kk
  · simp only [show 9 * (3 - 1) + 9 = 27 by decide, show 9 * (3 - 1) = 18 by decide, hp1, hm1] at *
    rw [wb_or (by omega) (by omega), xor_add (by omega), wb_or (by omega) (by omega)]
    have e : la 1 * 2 ^ 27 + la 0 * 2 ^ 18 ||| la 2 * 2 ^ 9 + la 3 = lp (ah la (la 1) 1) := by
      rw [show la 1 * 2 ^ 27 + la 0 * 2 ^ 18 = (la 1 * 2 ^ 9 + la 0) * 2 ^ 18 by omega, xor_add (by omega)]
      show _ = la 1 * 2 ^ 27 + la 0 * 2 ^ 18 + la 2 * 2 ^ 9 + la 3
      omega
    rw [e]
    exact kk
  · simp only [show 9 * (3 - 2) + 9 = 18 by decide, show 9 * (3 - 2) = 9 by decide, hp2, hm2] at *
    rw [wb_or (by omega) (by omega), xor_add (by omega), wb_or (by omega) (by omega)]
    have e : la 2 * 2 ^ 27 + (la 0 * 2 ^ 9 + la 1) * 2 ^ 9 ||| la 3 = lp (ah la (la 2) 2) := by
      rw [show la 2 * 2 ^ 27 + (la 0 * 2 ^ 9 + la 1) * 2 ^ 9 = (la 2 * 2 ^ 18 + la 0 * 2 ^ 9 + la 1) * 2 ^ 9 by omega, xor_add (by omega)]
      show _ = la 2 * 2 ^ 27 + la 0 * 2 ^ 18 + la 1 * 2 ^ 9 + la 3
      omega
    rw [e]
    exact kk
  · simp only [show 9 * (3 - 3) + 9 = 9 by decide, show 9 * (3 - 3) = 0 by decide, hp3, Nat.pow_zero, Nat.mod_one, Nat.mul_one] at *
    rw [wb_or (by omega) (by omega), xor_add (by omega), wb_or (by omega) (by omega), Nat.or_zero]
    have e : la 3 * 2 ^ 27 + (la 0 * 2 ^ 18 + la 1 * 2 ^ 9 + la 2) = lp (ah la (la 3) 3) := by
      show _ = la 3 * 2 ^ 27 + la 0 * 2 ^ 18 + la 1 * 2 ^ 9 + la 2
      omega
    rw [e]
    exact kk
end LTS
