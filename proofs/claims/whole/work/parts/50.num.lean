/-! NUMBERS: highest bits, LOG, slots, as both sides count them -/
theorem xs31 : ∀ n, n < 32 → ((nI n &&& 31).toBitVec.smod 32).toNat = n := by decide +kernel
theorem xshr {n k : Nat} (hn : n < 2 ^ 31) (hk : k < 32) : nI n >>> (nI k &&& 31) = nI (n / 2 ^ k) := pk_shrN hn _ k (xs31 k hk)
theorem nI_le0 {n : Nat} (h : n < 2 ^ 31) : nI n ≤ 0 ↔ n = 0 := by
  rw [← nI_0, nI_leI h (by decide)]
  omega
theorem nI_e0 {n : Nat} (h : n < 2 ^ 31) : nI n = 0 ↔ n = 0 := by
  rw [← nI_0, nI_eq h (by decide)]
section NUM
variable {d : Nat} {Q : Option Value × xS → Prop} {K : Nat → Nat × Nat} {P : List Nat × Nat × Nat} {I : Nat → Nat → Int32} {J : Nat → Nat → Int64} {F : Nat → Nat → Option Nat}
theorem xlog2_31 {x : Nat} (h : x < 2 ^ 31) : Nat.log2 x ≤ 30 := by
  by_cases h0 : x = 0
  · subst h0; decide
  · have := (Nat.log2_lt h0).mpr h
    omega
theorem xlog2_div {x k : Nat} (hk : k ≤ Nat.log2 x) : x / 2 ^ (k + 1) = 0 ↔ k = Nat.log2 x := by
  by_cases h0 : x = 0
  · subst h0
    simp at hk ⊢
    exact hk
  · rw [Nat.div_eq_zero_iff_lt (Nat.two_pow_pos _), ← Nat.log2_lt h0]
    omega
theorem p_highestBit {x : Nat} (hx : x < 2 ^ 31) (k : Q (some (.int (nI (Nat.log2 x))), (K, P, I, J, F))) : Wp d 95 0 [some (.int (nI x)), none] [] (K, P, I, J, F) Q := by
  have h30 := xlog2_31 hx
  have loop : ∀ m j, j ≤ Nat.log2 x → Nat.log2 x - j = m → Wp d 95 2 [some (.int (nI x)), some (.int (nI j))] [] (K, P, I, J, F) Q := by
    intro m
    induction m with
    | zero =>
      intro j hj hm
      have : j = Nat.log2 x := by omega
      subst this
      refine wX10_highestBit_2 ⟨fun _ => k, fun c => ⟨fun _ => k, fun c2 => ?_⟩⟩
      rw [nI_add, xshr hx (by omega), nI_le0 (by have := Nat.div_le_self x (2 ^ (Nat.log2 x + 1)); omega)] at c2
      exact absurd ((xlog2_div hj).mpr rfl) c2
    | succ m ih =>
      intro j hj hm
      refine wX10_highestBit_2 ⟨fun c => ?_, fun c => ⟨fun c2 => ?_, fun c2 => ?_⟩⟩
      · rw [nI_leI (by decide) (by omega)] at c
        omega
      · rw [nI_add, xshr hx (by omega), nI_le0 (by have := Nat.div_le_self x (2 ^ (j + 1)); omega)] at c2
        have := (xlog2_div hj).mp c2
        omega
      · rw [nI_add]
        exact ih (j + 1) (by omega) (by omega)
  refine wX10_highestBit_0 ?_
  exact loop (Nat.log2 x) 0 (Nat.zero_le _) rfl
theorem p_high {x : Nat} (hx : x < 2 ^ 31) (k : Q (some (.int (nI (Nat.log2 x))), (K, P, I, J, F))) : Wp d 110 0 [some (.int (nI x)), none] [] (K, P, I, J, F) Q := by
  have h30 := xlog2_31 hx
  have loop : ∀ m j, j ≤ Nat.log2 x → Nat.log2 x - j = m → Wp d 110 2 [some (.int (nI x)), some (.int (nI j))] [] (K, P, I, J, F) Q := by
    intro m
    induction m with
    | zero =>
      intro j hj hm
      have : j = Nat.log2 x := by omega
      subst this
      refine wX11_high_2 ⟨fun _ => k, fun c2 => ?_⟩
      rw [nI_add, xshr hx (by omega), nI_le0 (by have := Nat.div_le_self x (2 ^ (Nat.log2 x + 1)); omega)] at c2
      exact absurd ((xlog2_div hj).mpr rfl) c2
    | succ m ih =>
      intro j hj hm
      refine wX11_high_2 ⟨fun c2 => ?_, fun c2 => ?_⟩
      · rw [nI_add, xshr hx (by omega), nI_le0 (by have := Nat.div_le_self x (2 ^ (j + 1)); omega)] at c2
        have := (xlog2_div hj).mp c2
        omega
      · rw [nI_add]
        exact ih (j + 1) (by omega) (by omega)
  refine wX11_high_0 ?_
  exact loop (Nat.log2 x) 0 (Nat.zero_le _) rfl
/-- LOG of the document -/
def xlog (v : Nat) : Nat := 64 * Nat.log2 v + 64 * v / 2 ^ Nat.log2 v - 64
theorem xlog_ge {v : Nat} (h : 1 ≤ v) : 64 ≤ 64 * v / 2 ^ Nat.log2 v := by
  have h1 : 2 ^ Nat.log2 v ≤ v := Nat.log2_self_le (by omega)
  rw [Nat.le_div_iff_mul_le (Nat.two_pow_pos _)]
  exact Nat.mul_le_mul_left 64 h1
theorem xlog_lt {v : Nat} (h : 1 ≤ v) : 64 * v / 2 ^ Nat.log2 v < 128 := by
  have h1 : v < 2 ^ (Nat.log2 v + 1) := Nat.lt_log2_self
  rw [Nat.div_lt_iff_lt_mul (Nat.two_pow_pos _)]
  rw [Nat.pow_succ] at h1
  omega
theorem p_logOf {v : Nat} (h1 : 1 ≤ v) (hv : v < 2 ^ 24) (k : Q (some (.int (nI (xlog v))), (K, P, I, J, F))) : Wp (d + 1) 94 0 [some (.int (nI v)), none] [] (K, P, I, J, F) Q := by
  refine wX10_logOf_0 ⟨fun _ => p_highestBit (by omega) ⟨_, _, _, rfl, ?_⟩, fun c => ?_⟩
  · have h30 := xlog2_31 (x := v) (by omega)
    have hg := xlog_ge h1
    try dsimp only
    rw [pk_mul, pk_mul, xshr (by omega) (by omega), nI_add, pk_sub (by omega)]
    exact k
  · rw [nI_leI (by decide) (by omega)] at c
    exact absurd h1 c
theorem xsm63 : ∀ k, k < 64 → (((nI k).toInt64 &&& 63).toBitVec.smod 64).toNat = k := by decide +kernel
theorem p_log {v : Nat} (h1 : 1 ≤ v) (hv : v < 2 ^ 24) (k : Q (some (.int (nI (xlog v))), (K, P, I, J, F))) : Wp (d + 1) 143 0 [some (.int (nI v)), none] [] (K, P, I, J, F) Q := by
  refine wX11_log_0 (p_high (by omega) ⟨_, _, _, rfl, ?_⟩)
  have h30 := xlog2_31 (x := v) (by omega)
  have hg := xlog_ge h1
  try dsimp only
  rw [nI_l (by omega), lN_mul, pf_shr (xsm63 _ (by omega)) (by omega), lN_i, pk_mul, nI_add, pk_sub (by omega)]
  exact k
/-- LENGTH SLOT and DISTANCE SLOT, and their EXTRA bits -/
def xls (x : Nat) : Nat := if x < 8 then x else 4 * (Nat.log2 x - 1) + x / 2 ^ (Nat.log2 x - 2) % 4
def xlb (x : Nat) : Nat := if x < 8 then 0 else Nat.log2 x - 2
def xds (x : Nat) : Nat := if x < 4 then x else 2 * Nat.log2 x + x / 2 ^ (Nat.log2 x - 1) % 2
def xdb (x : Nat) : Nat := if x < 4 then 0 else Nat.log2 x - 1
theorem xlog2_ge {x k : Nat} (h : 2 ^ k ≤ x) : k ≤ Nat.log2 x := by
  have h0 : x ≠ 0 := by have := Nat.two_pow_pos k; omega
  exact (Nat.le_log2 h0).mpr h
theorem p_lengthSlot {x : Nat} (hx : x < 2 ^ 24) (k : Q (some (.int (nI (xls x))), (K, P, I, J, F))) : Wp (d + 1) 19 0 [some (.int (nI x)), none] [] (K, P, I, J, F) Q := by
  unfold xls at k
  refine wX1_lengthSlot_0 ⟨fun c => p_highestBit (by omega) ⟨_, _, _, rfl, ?_⟩, fun c => ?_⟩
  · rw [nI_leI (by decide) (by omega)] at c
    have h3 : 3 ≤ Nat.log2 x := xlog2_ge (by omega)
    have h30 := xlog2_31 (x := x) (by omega)
    rw [if_neg (by omega)] at k
    try dsimp only
    rw [pk_sub (by omega), pk_sub (by omega), xshr (by omega) (by omega), pk_andN (by have := Nat.div_le_self x (2 ^ (Nat.log2 x - 2)); omega) 2 (by decide), pk_mul, nI_add]
    exact k
  · rw [nI_leI (by decide) (by omega)] at c
    rw [if_pos (by omega)] at k
    exact k
theorem p_lengthSlotM {x : Nat} (hx : x < 2 ^ 24) (k : Q (some (.int (nI (xls x))), (K, P, I, J, F))) : Wp (d + 1) 111 0 [some (.int (nI x)), none] [] (K, P, I, J, F) Q := by
  unfold xls at k
  refine wX11_lengthSlot_0 (p_high (by omega) ⟨_, _, _, rfl, fun c => ?_, fun c => ?_⟩)
  · rw [nI_leI (by decide) (by omega)] at c
    have h3 : 3 ≤ Nat.log2 x := xlog2_ge (by omega)
    have h30 := xlog2_31 (x := x) (by omega)
    rw [if_neg (by omega)] at k
    try dsimp only
    rw [pk_sub (by omega), pk_sub (by omega), xshr (by omega) (by omega), pk_andN (by have := Nat.div_le_self x (2 ^ (Nat.log2 x - 2)); omega) 2 (by decide), pk_mul, nI_add]
    exact k
  · rw [nI_leI (by decide) (by omega)] at c
    rw [if_pos (by omega)] at k
    exact k
theorem p_distanceSlot {x : Nat} (hx : x < 2 ^ 24) (k : Q (some (.int (nI (xds x))), (K, P, I, J, F))) : Wp (d + 1) 20 0 [some (.int (nI x)), none] [] (K, P, I, J, F) Q := by
  unfold xds at k
  refine wX1_distanceSlot_0 ⟨fun c => p_highestBit (by omega) ⟨_, _, _, rfl, ?_⟩, fun c => ?_⟩
  · rw [nI_leI (by decide) (by omega)] at c
    have h3 : 2 ≤ Nat.log2 x := xlog2_ge (by omega)
    have h30 := xlog2_31 (x := x) (by omega)
    rw [if_neg (by omega)] at k
    try dsimp only
    rw [pk_sub (by omega), xshr (by omega) (by omega), pk_andN (by have := Nat.div_le_self x (2 ^ (Nat.log2 x - 1)); omega) 1 (by decide), pk_mul, nI_add]
    exact k
  · rw [nI_leI (by decide) (by omega)] at c
    rw [if_pos (by omega)] at k
    exact k
theorem p_distanceSlotM {x : Nat} (hx : x < 2 ^ 24) (k : Q (some (.int (nI (xds x))), (K, P, I, J, F))) : Wp (d + 1) 113 0 [some (.int (nI x)), none] [] (K, P, I, J, F) Q := by
  unfold xds at k
  refine wX11_distanceSlot_0 (p_high (by omega) ⟨_, _, _, rfl, fun c => ?_, fun c => ?_⟩)
  · rw [nI_leI (by decide) (by omega)] at c
    have h3 : 2 ≤ Nat.log2 x := xlog2_ge (by omega)
    have h30 := xlog2_31 (x := x) (by omega)
    rw [if_neg (by omega)] at k
    try dsimp only
    rw [pk_sub (by omega), xshr (by omega) (by omega), pk_andN (by have := Nat.div_le_self x (2 ^ (Nat.log2 x - 1)); omega) 1 (by decide), pk_mul, nI_add]
    exact k
  · rw [nI_leI (by decide) (by omega)] at c
    rw [if_pos (by omega)] at k
    exact k
theorem p_lengthBitsM {x : Nat} (hx : x < 2 ^ 24) (k : Q (some (.int (nI (xlb x))), (K, P, I, J, F))) : Wp (d + 1) 112 0 [some (.int (nI x))] [] (K, P, I, J, F) Q := by
  unfold xlb at k
  refine wX11_lengthBits_0 ⟨fun c => p_high (by omega) ⟨_, _, _, rfl, ?_⟩, fun c => ?_⟩
  · rw [nI_leI (by decide) (by omega)] at c
    have h3 : 3 ≤ Nat.log2 x := xlog2_ge (by omega)
    rw [if_neg (by omega)] at k
    try dsimp only
    rw [pk_sub (by omega)]
    exact k
  · rw [nI_leI (by decide) (by omega)] at c
    rw [if_pos (by omega)] at k
    exact k
theorem p_distanceBitsM {x : Nat} (hx : x < 2 ^ 24) (k : Q (some (.int (nI (xdb x))), (K, P, I, J, F))) : Wp (d + 1) 114 0 [some (.int (nI x))] [] (K, P, I, J, F) Q := by
  unfold xdb at k
  refine wX11_distanceBits_0 ⟨fun c => p_high (by omega) ⟨_, _, _, rfl, ?_⟩, fun c => ?_⟩
  · rw [nI_leI (by decide) (by omega)] at c
    have h3 : 2 ≤ Nat.log2 x := xlog2_ge (by omega)
    rw [if_neg (by omega)] at k
    try dsimp only
    rw [pk_sub (by omega)]
    exact k
  · rw [nI_leI (by decide) (by omega)] at c
    rw [if_pos (by omega)] at k
    exact k
/-- the octets more that a number takes -/
def xmore (v b : Nat) : Nat := if v < b then 0 else 1 + (v - b) / 255
theorem p_moreM {v b : Nat} (hv : v < 2 ^ 24) (hb : b < 2 ^ 24) (k : Q (some (.int (nI (xmore v b))), (K, P, I, J, F))) : Wp d 118 0 [some (.int (nI v)), some (.int (nI b))] [] (K, P, I, J, F) Q := by
  unfold xmore at k
  refine wX11_more_0 ⟨fun c => ⟨by decide, ?_⟩, fun c => ?_⟩
  · rw [nI_leI (by omega) (by omega)] at c
    rw [if_neg (by omega)] at k
    try dsimp only
    rw [pk_sub (by omega), pk_div (by omega) (by decide) (by decide), nI_add]
    exact k
  · rw [nI_leI (by omega) (by omega)] at c
    rw [if_pos (by omega)] at k
    exact k
theorem p_beyond {v b : Nat} (hv : v < 2 ^ 24) (hb : b < 2 ^ 24) (k : Q (some (.int (nI (xmore v b))), (K, P, I, J, F))) : Wp d 48 0 [some (.int (nI v)), some (.int (nI b))] [] (K, P, I, J, F) Q := by
  unfold xmore at k
  refine wX5_beyond_0 ⟨fun c => ⟨by decide, ?_⟩, fun c => ?_⟩
  · rw [nI_leI (by omega) (by omega)] at c
    rw [if_neg (by omega)] at k
    try dsimp only
    rw [pk_sub (by omega), pk_div (by omega) (by decide) (by decide), nI_add]
    exact k
  · rw [nI_leI (by omega) (by omega)] at c
    rw [if_pos (by omega)] at k
    exact k
theorem p_copyCost {v : Nat} (hv : v < 2 ^ 24) (k : Q (some (.int (nI (512 * (3 + xmore v 19)))), (K, P, I, J, F))) : Wp (d + 1) 47 0 [some (.int (nI v))] [] (K, P, I, J, F) Q := by
  refine wX5_copyCost_0 (p_beyond hv (by decide) ⟨_, _, _, rfl, ?_⟩)
  try dsimp only
  rw [nI_add, pk_mul]
  exact k
end NUM
