/-! THE OPERATIONS: octets -/
def oct (y : Int64) (i : Nat) : Nat := y.toBitVec.toNat / 2 ^ (8 * i) % 256
theorem oct_lt (y : Int64) (i : Nat) : oct y i < 256 := Nat.mod_lt _ (by decide)
theorem oct_c {y : Int64} {i : Nat} (hi : i < 8) : (((y.toUInt64 >>> ((nI 8 * nI i).toInt64.toUInt64 &&& Int64.toUInt64 63)).toInt64).toInt32) &&& nI 255 = nI (oct y i) := by
  have hb : y.toBitVec.toNat < 2 ^ 64 := y.toBitVec.isLt
  have hy : y = lN y.toBitVec.toNat := wb_inj (by rw [wb_tb]; simp)
  have h1 : ((y.toUInt64 >>> ((nI 8 * nI i).toInt64.toUInt64 &&& Int64.toUInt64 63)).toInt64) = lN (y.toBitVec.toNat / 2 ^ (8 * i)) := by
    rw [pk_mul]
    have := wb_shr (n := y.toBitVec.toNat) (k := 8 * i) hb (by omega)
    rw [← hy] at this
    exact this
  rw [h1, lN_i]
  have h2 : nI (y.toBitVec.toNat / 2 ^ (8 * i)) = nI (y.toBitVec.toNat / 2 ^ (8 * i) % 2 ^ 32) := by
    apply Int32.toBitVec_inj.mp
    show BitVec.ofNat 32 _ = BitVec.ofNat 32 _
    apply BitVec.eq_of_toNat_eq
    rw [BitVec.toNat_ofNat, BitVec.toNat_ofNat, Nat.mod_mod]
  rw [h2]
  have h3 := xmaskI (a := y.toBitVec.toNat / 2 ^ (8 * i) % 2 ^ 32) (k := 8) (Nat.mod_lt _ (by decide)) (by decide)
  rw [Nat.mod_mod_of_dvd _ (show 2 ^ 8 ∣ 2 ^ 32 from ⟨2 ^ 24, rfl⟩)] at h3
  exact h3
theorem oct_m {y : Int64} {i : Nat} (hi : i < 8) : ((y >>> ((nI 8 * nI i).toInt64 &&& 63)) &&& lN 255).toInt32 = nI (oct y i) := by
  have hD : (((nI 8 * nI i).toInt64 &&& 63).toBitVec.smod 64).toNat = 8 * i := by
    rw [pk_mul]
    exact xsm63 (8 * i) (by omega)
  have e : (y >>> ((nI 8 * nI i).toInt64 &&& 63)).toBitVec = y.toBitVec.sshiftRight (8 * i) := by
    rw [← hD]
    rfl
  have e2 : (y >>> ((nI 8 * nI i).toInt64 &&& 63)) &&& lN 255 = lN (oct y i) := by
    apply wb_inj
    show (y >>> ((nI 8 * nI i).toInt64 &&& 63)).toBitVec &&& BitVec.ofNat 64 255 = BitVec.ofNat 64 (oct y i)
    rw [e]
    apply BitVec.eq_of_getLsbD_eq
    intro j hj
    have h255 : (BitVec.ofNat 64 255).getLsbD j = decide (j < 8) := by
      rw [BitVec.getLsbD_ofNat, show (255 : Nat) = 2 ^ 8 - 1 from rfl, Nat.testBit_two_pow_sub_one, decide_eq_true hj, Bool.true_and]
    have hr : (BitVec.ofNat 64 (oct y i)).getLsbD j = (decide (j < 8) && y.toBitVec.getLsbD (8 * i + j)) := by
      rw [BitVec.getLsbD_ofNat, decide_eq_true hj, Bool.true_and]
      unfold oct
      rw [show (256 : Nat) = 2 ^ 8 from rfl, Nat.testBit_mod_two_pow, Nat.testBit_div_two_pow, BitVec.testBit_toNat, Nat.add_comm]
    rw [BitVec.getLsbD_and, h255, hr]
    by_cases z : j < 8
    · rw [decide_eq_true z, Bool.and_true, Bool.true_and, BitVec.getLsbD_sshiftRight, decide_eq_false (show ¬ 64 ≤ j by omega), if_pos (by omega)]
      rfl
    · rw [decide_eq_false z, Bool.and_false, Bool.false_and]
  rw [e2, lN_i]
/-- the text with k octets more -/
def tap (t : Nat → Nat) (n : Nat) (y : Int64) : Nat → Nat → Nat
  | 0 => t
  | i + 1 => tadd (tap t n y i) (n + i) (oct y i)
def cL : List Nat := [4, 5, 6, 7, 8, 9, 10, 11, 12, 13, 14, 15, 16, 17, 18, 19, 20, 21, 22, 23, 24, 25, 26, 27, 28, 29, 30, 31, 32, 33, 34, 35, 36, 37, 38, 39, 40, 41, 42, 43, 44, 45, 46, 47, 48, 49, 50, 51, 52, 53, 54, 55, 56, 57, 58]
def mL : List Nat := [59, 60, 61, 62, 63, 64, 65, 66, 67, 68, 69, 70, 71, 72, 73, 74, 75, 76, 77, 78, 79, 80, 81, 82, 83, 84, 85, 86, 87, 88, 89, 90, 91, 92, 93, 94, 95, 96, 97, 98, 99, 100, 101, 102, 103, 104, 105, 106]
def OcOk (n : Nat) (x : Int32) (k : Nat) : Prop := x = nI k ∧ 1 ≤ k ∧ k ≤ 8 ∧ n + k ≤ 300
/-- an int that is no such number -/
theorem noOc {n : Nat} {x : Int32} (hn : n ≤ 300) (h : ∀ k, ¬ OcOk n x k) : x < nI 1 ∨ nI 8 < x ∨ ∃ j, x = nI j ∧ 1 ≤ j ∧ j ≤ 8 ∧ 300 < n + j := by
  rcases nI_ix x (n := 9) (by decide) with ⟨j, hj, hx⟩ | hx | hx
  · by_cases e : 1 ≤ j
    · right; right
      exact ⟨j, hx, e, by omega, by
        have : ¬ n + j ≤ 300 := fun z => h j ⟨hx, e, by omega, z⟩
        omega⟩
    · left
      rw [hx, show j = 0 by omega]
      decide
  · left
    exact Int32.lt_trans hx (by decide)
  · right; left
    exact Int32.lt_of_lt_of_le (by decide) hx
section OPO
variable {d f L c s n m : Nat} {t : Nat → Nat} {V : Nat → Nat → Nat} {Q : Option Value × xS → Prop} {P : List Nat × Nat × Nat} {I : Nat → Nat → Int32} {J : Nat → Nat → Int64}
theorem p_octetsC (hf : f < 3) (hL : L < 2147483648) (hC : CI I f n t V) {x : Int32} {y : Int64} {k' : Nat} (ho : OcOk n x k') (k : ∀ I', xag I I' [4, 5, 6, 7, 8, 9] → (∀ q, q ≠ 9 → I' 4 q = I 4 q) → I' 4 9 = nI 0 → CI I' f (n + k') (tap t n y k') V → Q (some (.int (nI (n + k'))), (xK f L, P, I', J, xFr f c s))) : Wp (d + 3) 74 0 [some (.ref 4), some (.int x), some (.long y), none, none] [] (xK f L, P, I, J, xFr f c s) Q := by
  obtain ⟨hx, h1, h8, h300⟩ := ho
  subst hx
  have hT := hC.1
  have loop : ∀ w i I1, k' - i = w → i ≤ k' → xag I I1 [5, 6, 7, 8, 9] → CT I1 (n + i) (tap t n y i) f → Wp (d + 3) 74 31 [some (.ref 4), some (.int (nI k')), some (.long y), none, some (.int (nI i))] [] (xK f L, P, I1, J, xFr f c s) Q := by
    intro w
    induction w with
    | zero =>
      intro i I1 hw hi ha hT1
      have e : i = k' := by omega
      subst e
      refine wX10_octets_31 rfl rfl rfl (br1 (by first | (rw [nI_ltI (by omega) (by omega)]; omega) | (rw [nI_leI (by omega) (by omega)]; omega) | (rw [nI_eq (by omega) (by omega)]; omega) | (rw [nI_e0 (by omega)]; omega) | (rw [nI_le0 (by omega)]; omega)) ?_)
      rw [xup_ne _ _ _ (by decide), hT1.2.2.1]
      have ha2 : xag I (xup I1 4 9 (nI 0)) [4, 5, 6, 7, 8, 9] := xag.up (ha.wd (by simp)) (by simp)
      have h4 : ∀ q, q ≠ 9 → xup I1 4 9 (nI 0) 4 q = I 4 q := fun q hq => by rw [xup_at, if_neg hq, ha 4 (by decide)]
      refine k _ ha2 h4 (by rw [xup_at, if_pos rfl]) ⟨hT1.ag (S := [4]) (xag.rfl.up (by simp)) (by decide) (by decide) (by decide) (by decide) (by decide), hC.2.1.ag ha2 (by decide), ?_, by rw [h4 0 (by decide)]; exact hC.2.2.2.1, fun z => (hC.2.2.2.2.1 z).ag ha2 (by decide), fun z => by rw [ha2 29 (by decide)]; exact hC.2.2.2.2.2 z⟩
      unfold SP
      rw [ha2 33 (by decide)]
      exact hC.2.2.1
    | succ w ih =>
      intro i I1 hw hi ha hT1
      refine wX10_octets_31 rfl rfl rfl (br2 (by first | (rw [nI_ltI (by omega) (by omega)]; omega) | (rw [nI_leI (by omega) (by omega)]; omega) | (rw [nI_eq (by omega) (by omega)]; omega) | (rw [nI_e0 (by omega)]; omega) | (rw [nI_le0 (by omega)]; omega)) ?_)
      rw [oct_c (by omega)]
      refine p_append hf hL hT1 (by omega) (oct_lt y i) (fun I2 b1 b2 b3 => ⟨_, _, rfl, ?_⟩)
      all_goals try dsimp only
      try dsimp only
      rw [nI_add]
      exact ih (i + 1) I2 (by omega) (by omega) (ha.tr b1 (by simp)) b3
  have h53 := hT.2.2.1
  refine wX10_octets_0 rfl rfl rfl (br2 (by first | (rw [nI_ltI (by omega) (by omega)]; omega) | (rw [nI_leI (by omega) (by omega)]; omega) | (rw [nI_eq (by omega) (by omega)]; omega) | (rw [nI_e0 (by omega)]; omega) | (rw [nI_le0 (by omega)]; omega)) (br2 (by first | (rw [nI_ltI (by omega) (by omega)]; omega) | (rw [nI_leI (by omega) (by omega)]; omega) | (rw [nI_eq (by omega) (by omega)]; omega) | (rw [nI_e0 (by omega)]; omega) | (rw [nI_le0 (by omega)]; omega)) (br1 (by rw [h53, nI_add]; exact (by first | (rw [nI_ltI (by omega) (by omega)]; omega) | (rw [nI_leI (by omega) (by omega)]; omega) | (rw [nI_eq (by omega) (by omega)]; omega) | (rw [nI_e0 (by omega)]; omega) | (rw [nI_le0 (by omega)]; omega))) ?_)))
  exact loop k' 0 I rfl (Nat.zero_le _) xag.rfl hT
theorem p_octetsC0 (hf : f < 3) (hC : CI I f n t V) {x : Int32} {y : Int64} (ho : ∀ k, ¬ OcOk n x k) (k : Q (some (.int (-1)), (xK f L, P, I, J, xFr f c s))) : Wp (d + 3) 74 0 [some (.ref 4), some (.int x), some (.long y), none, none] [] (xK f L, P, I, J, xFr f c s) Q := by
  have hn := hC.1.2.2.2.1
  have h53 := hC.1.2.2.1
  refine wX10_octets_0 rfl rfl rfl ⟨fun _ => k, fun hx1 => ⟨fun _ => k, fun hx2 => ?_⟩⟩
  rcases noOc hn ho with z | z | ⟨j, hj, h1, h2, h3⟩
  · exact absurd z hx1
  · exact absurd z hx2
  · subst hj
    exact br2 (by rw [h53, nI_add]; exact (by first | (rw [nI_ltI (by omega) (by omega)]; omega) | (rw [nI_leI (by omega) (by omega)]; omega) | (rw [nI_eq (by omega) (by omega)]; omega) | (rw [nI_e0 (by omega)]; omega) | (rw [nI_le0 (by omega)]; omega))) k
theorem p_octetsM (hf : f < 3) (hL : L < 2147483648) (hT : MT I n t) {x : Int32} {y : Int64} {k' : Nat} (ho : OcOk n x k') (k : ∀ I', xag I I' [59, 62] → (∀ q, q ≠ 0 → q ≠ 3 → q ≠ 10 → I' 59 q = I 59 q) → I' 59 0 = nI 0 → I' 59 10 = nI 0 → MT I' (n + k') (tap t n y k') → Q (some (.int (nI (n + k'))), (xK f L, P, I', J, xFr f c s))) : Wp (d + 3) 103 0 [some (.ref 59), some (.int x), some (.long y), none, none] [] (xK f L, P, I, J, xFr f c s) Q := by
  obtain ⟨hx, h1, h8, h300⟩ := ho
  subst hx
  have loop : ∀ w i I1, k' - i = w → i ≤ k' → xag I I1 [59, 62] → (∀ q, q ≠ 0 → q ≠ 3 → I1 59 q = I 59 q) → I1 59 0 = nI 0 → MT I1 (n + i) (tap t n y i) → Wp (d + 3) 103 33 [some (.ref 59), some (.int (nI k')), some (.long y), none, some (.int (nI i))] [] (xK f L, P, I1, J, xFr f c s) Q := by
    intro w
    induction w with
    | zero =>
      intro i I1 hw hi ha h2 h3 hT1
      have e : i = k' := by omega
      subst e
      refine wX11_octets_33 (xK_lt hf hL) rfl rfl rfl (br1 (by first | (rw [nI_ltI (by omega) (by omega)]; omega) | (rw [nI_leI (by omega) (by omega)]; omega) | (rw [nI_eq (by omega) (by omega)]; omega) | (rw [nI_e0 (by omega)]; omega) | (rw [nI_le0 (by omega)]; omega)) ?_)
      rw [show xup I1 59 10 (nI 0) 59 3 = nI (n + i) by rw [xup_at, if_neg (by decide)]; exact hT1.1]
      refine k _ (ha.up (by simp)) (fun q z1 z2 z3 => by rw [xup_at, if_neg z3]; exact h2 q z1 z2) (by rw [xup_at, if_neg (by decide)]; exact h3) (by rw [xup_at, if_pos rfl]) ⟨by rw [xup_at, if_neg (by decide)]; exact hT1.1, hT1.2.1, by rw [xup_ne _ _ _ (by decide)]; exact hT1.2.2⟩
    | succ w ih =>
      intro i I1 hw hi ha h2 h3 hT1
      refine wX11_octets_33 (xK_lt hf hL) rfl rfl rfl (br2 (by first | (rw [nI_ltI (by omega) (by omega)]; omega) | (rw [nI_leI (by omega) (by omega)]; omega) | (rw [nI_eq (by omega) (by omega)]; omega) | (rw [nI_e0 (by omega)]; omega) | (rw [nI_le0 (by omega)]; omega)) ⟨n + i, hT1.1, by omega, ?_⟩)
      rw [oct_m (by omega), show (xup I1 62 (n + i) (nI (oct y i))) 59 3 = nI (n + i) by rw [xup_ne _ _ _ (by decide)]; exact hT1.1, nI_add, nI_add]
      refine ih (i + 1) _ (by omega) (by omega) ((ha.up (by simp)).up (by simp)) (fun q z1 z2 => by rw [xup_at, if_neg z2, xup_ne _ _ _ (by decide)]; exact h2 q z1 z2) (by rw [xup_at, if_neg (by decide), xup_ne _ _ _ (by decide)]; exact h3) ⟨by rw [xup_at, if_pos rfl]; rfl, by omega, fun j hj => ?_⟩
      rw [xup_ne _ _ _ (by decide), xup_at]
      show (if j = n + i then nI (oct y i) else I1 62 j) = nI (tadd (tap t n y i) (n + i) (oct y i) j) ∧ tadd (tap t n y i) (n + i) (oct y i) j < 256
      by_cases e : j = n + i
      · rw [if_pos e, e, tadd_at]
        exact ⟨rfl, oct_lt y i⟩
      · rw [if_neg e, tadd_lt (by omega)]
        exact hT1.2.2 j (by omega)
  have h0 : ∀ q, q ≠ 0 → xup I 59 0 (nI 0) 59 q = I 59 q := fun q hq => by rw [xup_at, if_neg hq]
  have h53 : xup I 59 0 (nI 0) 59 3 = nI n := by rw [h0 3 (by decide)]; exact hT.1
  refine wX11_octets_0 rfl (br2 (by first | (rw [nI_ltI (by omega) (by omega)]; omega) | (rw [nI_leI (by omega) (by omega)]; omega) | (rw [nI_eq (by omega) (by omega)]; omega) | (rw [nI_e0 (by omega)]; omega) | (rw [nI_le0 (by omega)]; omega)) (br2 (by first | (rw [nI_ltI (by omega) (by omega)]; omega) | (rw [nI_leI (by omega) (by omega)]; omega) | (rw [nI_eq (by omega) (by omega)]; omega) | (rw [nI_e0 (by omega)]; omega) | (rw [nI_le0 (by omega)]; omega)) (br1 (by rw [h53, nI_add]; exact (by first | (rw [nI_ltI (by omega) (by omega)]; omega) | (rw [nI_leI (by omega) (by omega)]; omega) | (rw [nI_eq (by omega) (by omega)]; omega) | (rw [nI_e0 (by omega)]; omega) | (rw [nI_le0 (by omega)]; omega))) ?_)))
  exact loop k' 0 _ rfl (Nat.zero_le _) (xag.rfl.up (by simp)) (fun q z1 _ => h0 q z1) (by rw [xup_at, if_pos rfl]) ⟨h53, hT.2.1, by rw [xup_ne _ _ _ (by decide)]; exact hT.2.2⟩
theorem p_octetsM0 (hf : f < 3) (hT : MT I n t) {x : Int32} {y : Int64} (ho : ∀ k, ¬ OcOk n x k) (k : Q (some (.int (-1)), (xK f L, P, xup I 59 0 (nI 0), J, xFr f c s))) : Wp (d + 3) 103 0 [some (.ref 59), some (.int x), some (.long y), none, none] [] (xK f L, P, I, J, xFr f c s) Q := by
  have hn := hT.2.1
  have h53 : xup I 59 0 (nI 0) 59 3 = nI n := by rw [xup_at, if_neg (by decide)]; exact hT.1
  refine wX11_octets_0 rfl ⟨fun _ => k, fun hx1 => ⟨fun _ => k, fun hx2 => ?_⟩⟩
  rcases noOc hn ho with z | z | ⟨j, hj, h1, h2, h3⟩
  · exact absurd z hx1
  · exact absurd z hx2
  · subst hj
    exact br2 (by rw [h53, nI_add]; exact (by first | (rw [nI_ltI (by omega) (by omega)]; omega) | (rw [nI_leI (by omega) (by omega)]; omega) | (rw [nI_eq (by omega) (by omega)]; omega) | (rw [nI_e0 (by omega)]; omega) | (rw [nI_le0 (by omega)]; omega))) k
end OPO
