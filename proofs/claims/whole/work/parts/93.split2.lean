/-! SPLITS: what blocks cost, sets as numbers -/
theorem xlog_mono {v w : Nat} (h1 : 1 ≤ v) (h2 : v ≤ w) : xlog v ≤ xlog w := by
  have hv := xlog_lt h1
  have hw := xlog_ge (show 1 ≤ w by omega)
  have hv2 := xlog_ge h1
  have hl : Nat.log2 v ≤ Nat.log2 w := xlog2_ge (Nat.le_trans (Nat.log2_self_le (by omega)) h2)
  unfold xlog
  by_cases e : Nat.log2 v = Nat.log2 w
  · rw [e]
    have : 64 * v / 2 ^ Nat.log2 w ≤ 64 * w / 2 ^ Nat.log2 w := Nat.div_le_div_right (by omega)
    omega
  · omega
theorem tsm_add (g h : Nat → Nat) : ∀ m, tsm (fun o => g o + h o) m = tsm g m + tsm h m
  | 0 => rfl
  | m + 1 => by
    rw [tsm, tsm, tsm, tsm_add g h m]
    omega
theorem tsm_cg {g h : Nat → Nat} : ∀ {m : Nat}, (∀ o, o < m → g o = h o) → tsm g m = tsm h m
  | 0, _ => rfl
  | m + 1, he => by rw [tsm, tsm, tsm_cg (fun o ho => he o (by omega)), he m (by omega)]
theorem tsm_mul (g : Nat → Nat) (A : Nat) : ∀ m, tsm (fun o => g o * A) m = tsm g m * A
  | 0 => by rw [tsm, tsm, Nat.zero_mul]
  | m + 1 => by rw [tsm, tsm, tsm_mul g A m, Nat.add_mul]
theorem tsm_up (g : Nat → Nat) {o : Nat} (v : Nat) : ∀ m, o < m → tsm (va_up g o v) m + g o = tsm g m + v
  | 0, h => by omega
  | m + 1, h => by
    rw [tsm, tsm]
    by_cases e : o = m
    · subst e
      rw [va_up_self, tsm_cg (h := g) (fun i hi => va_up_ne _ _ (by omega))]
      omega
    · have := tsm_up g (o := o) v m (by omega)
      rw [va_up_ne _ _ (show m ≠ o by omega)]
      omega
/-- how often each octet stands in l places from a on -/
def cu (t : Nat → Nat) (a : Nat) : Nat → Nat → Nat
  | 0 => fun _ => 0
  | l + 1 => va_up (cu t a l) (t (a + l)) (cu t a l (t (a + l)) + 1)
theorem cu_le (t : Nat → Nat) (a : Nat) : ∀ l o, cu t a l o ≤ l
  | 0, _ => Nat.le_refl _
  | l + 1, o => by
    rw [cu]
    by_cases e : o = t (a + l)
    · rw [e, va_up_self]
      have := cu_le t a l (t (a + l))
      omega
    · rw [va_up_ne _ _ e]
      have := cu_le t a l o
      omega
theorem cu_sum {t : Nat → Nat} {a : Nat} : ∀ l, (∀ j, j < a + l → t j < 256) → tsm (cu t a l) 256 = l
  | 0, _ => by
    have h : ∀ m, tsm (cu t a 0) m = 0 := fun m => by
      induction m with
      | zero => rfl
      | succ m ih => rw [tsm, ih]; rfl
    exact h 256
  | l + 1, h => by
    have h1 := cu_sum (t := t) (a := a) l (fun j hj => h j (by omega))
    have h2 := tsm_up (cu t a l) (cu t a l (t (a + l)) + 1) 256 (h (a + l) (by omega))
    rw [cu]
    omega
def svU (U : Nat → Nat) : Nat := tsm (fun o => U o * xlog (U o)) 256
def svG (U : Nat → Nat) (A m : Nat) : Nat := tsm (fun o => U o * (A - xlog (U o))) m
theorem svG_ok {t : Nat → Nat} {a l : Nat} (ht : ∀ j, j < a + l → t j < 256) : svG (cu t a l) (xlog l) 256 + svU (cu t a l) = l * xlog l := by
  unfold svG svU
  rw [← tsm_add]
  have : tsm (fun o => cu t a l o * (xlog l - xlog (cu t a l o)) + cu t a l o * xlog (cu t a l o)) 256 = tsm (fun o => cu t a l o * xlog l) 256 := by
    refine tsm_cg (fun o _ => ?_)
    by_cases e : cu t a l o = 0
    · rw [e, Nat.zero_mul, Nat.zero_mul, Nat.zero_mul]
    · rw [← Nat.mul_add, Nat.sub_add_cancel (xlog_mono (by omega) (cu_le t a l o))]
  rw [this, tsm_mul, cu_sum l ht]
theorem svU_step {t : Nat → Nat} {a l : Nat} (ht : t (a + l) < 256) : svU (cu t a (l + 1)) + cu t a l (t (a + l)) * xlog (cu t a l (t (a + l))) = svU (cu t a l) + (cu t a l (t (a + l)) + 1) * xlog (cu t a l (t (a + l)) + 1) := by
  unfold svU
  have h := tsm_up (fun o => cu t a l o * xlog (cu t a l o)) ((cu t a l (t (a + l)) + 1) * xlog (cu t a l (t (a + l)) + 1)) 256 ht
  have hcg : tsm (fun o => cu t a (l + 1) o * xlog (cu t a (l + 1) o)) 256 = tsm (va_up (fun o => cu t a l o * xlog (cu t a l o)) (t (a + l)) ((cu t a l (t (a + l)) + 1) * xlog (cu t a l (t (a + l)) + 1))) 256 := by
    refine tsm_cg (fun o _ => ?_)
    rw [cu]
    by_cases e : o = t (a + l)
    · rw [e, va_up_self, va_up_self]
    · rw [va_up_ne _ _ e, va_up_ne _ _ e]
  rw [hcg]
  exact h
theorem mlog_mono {b : Nat} : b * xlog b ≤ (b + 1) * xlog (b + 1) := by
  by_cases e : b = 0
  · rw [e, Nat.zero_mul]
    exact Nat.zero_le _
  · exact Nat.mul_le_mul (by omega) (xlog_mono (by omega) (by omega))
/-- the bounds of the blocks -/
def bo (C : Nat → Nat) (cn n k : Nat) : Nat := if k = 0 then 0 else if k ≤ cn then C (k - 1) else n
def CS (n cn : Nat) (C : Nat → Nat) : Prop := cn ≤ 12 ∧ (∀ j, j < cn → 1 ≤ C j ∧ C j < n) ∧ ∀ i j, i < j → j < cn → C i < C j
theorem bo_lt {C : Nat → Nat} {cn n : Nat} (h : CS n cn C) (hn : 1 ≤ n) {i j : Nat} (hij : i < j) (hj : j ≤ cn + 1) : bo C cn n i < bo C cn n j := by
  unfold bo
  rw [if_neg (show ¬ j = 0 by omega)]
  by_cases e1 : i = 0
  · rw [if_pos e1]
    by_cases e2 : j ≤ cn
    · rw [if_pos e2]
      have := h.2.1 (j - 1) (by omega)
      omega
    · rw [if_neg e2]
      omega
  · rw [if_neg e1, if_pos (show i ≤ cn by omega)]
    by_cases e2 : j ≤ cn
    · rw [if_pos e2]
      exact h.2.2 (i - 1) (j - 1) (by omega) (by omega)
    · rw [if_neg e2]
      exact (h.2.1 (i - 1) (by omega)).2
theorem bo_le {C : Nat → Nat} {cn n : Nat} (h : CS n cn C) (k : Nat) : bo C cn n k ≤ n := by
  unfold bo
  split
  · omega
  · split
    · have := h.2.1 (k - 1) (by omega)
      omega
    · omega
/-- a block's cost -/
def bcs (t C : Nat → Nat) (cn n hd a b : Nat) : Nat := hd + svG (cu t (bo C cn n a) (bo C cn n b - bo C cn n a)) (xlog (bo C cn n b - bo C cn n a)) 256
/-! sets -/
def sgx (x k : Nat) : Bool := decide (x / 2 ^ (k - 1) % 2 = 1)
def kc2 (bc : Nat → Nat → Nat) (σ : Nat → Bool) : Nat → Nat → Nat → Nat
  | 0, a, k => bc a k
  | r + 1, a, k => if σ k = true then bc a k + kc2 bc σ r k (k + 1) else kc2 bc σ r a (k + 1)
def pn : Nat → Nat → Nat
  | 0, _ => 0
  | r + 1, x => x % 2 + pn r (x / 2)
theorem pn_le : ∀ r x, pn r x ≤ r
  | 0, _ => Nat.le_refl _
  | r + 1, x => by
    have := pn_le r (x / 2)
    rw [pn]
    omega
theorem ks_split {bc : Nat → Nat → Nat} {x : Nat} : ∀ r a k, 1 ≤ k → ks bc (sgx x) r a k = 16 * kc2 bc (sgx x) r a k + (pn r (x / 2 ^ (k - 1)) + 1)
  | 0, a, k, _ => by
    rw [ks, kc2, pn]
    unfold wt
    omega
  | r + 1, a, k, hk => by
    have h1 : x / 2 ^ (k - 1) / 2 = x / 2 ^ (k + 1 - 1) := by
      have h2 : 2 ^ (k - 1) * 2 = 2 ^ (k + 1 - 1) := by rw [show k + 1 - 1 = (k - 1) + 1 by omega, Nat.pow_succ]
      rw [Nat.div_div_eq_div_mul, h2]
    rw [ks, kc2, pn, h1]
    by_cases e : sgx x k = true
    · have e2 : x / 2 ^ (k - 1) % 2 = 1 := of_decide_eq_true e
      rw [if_pos e, if_pos e, ks_split r k (k + 1) (by omega), e2]
      unfold wt
      omega
    · have e2 : ¬ x / 2 ^ (k - 1) % 2 = 1 := fun z => e (decide_eq_true z)
      rw [if_neg e, if_neg e, ks_split r a (k + 1) (by omega), show x / 2 ^ (k - 1) % 2 = 0 by omega]
      omega
/-- the number of a set -/
def nu (σ : Nat → Bool) : Nat → Nat → Nat
  | 0, _ => 0
  | r + 1, k => (if σ k = true then 1 else 0) + 2 * nu σ r (k + 1)
theorem nu_lt (σ : Nat → Bool) : ∀ r k, nu σ r k < 2 ^ r
  | 0, _ => by rw [nu]; decide
  | r + 1, k => by
    have := nu_lt σ r (k + 1)
    rw [nu, Nat.pow_succ]
    split <;> omega
theorem nu_bit (σ : Nat → Bool) : ∀ r k j, j < r → (nu σ r k / 2 ^ j % 2 = 1 ↔ σ (k + j) = true)
  | 0, _, _, h => by omega
  | r + 1, k, 0, _ => by
    rw [nu, Nat.pow_zero, Nat.div_one, Nat.add_zero]
    by_cases e : σ k = true
    · rw [if_pos e]
      exact ⟨fun _ => e, fun _ => by omega⟩
    · rw [if_neg e]
      exact ⟨fun z => by omega, fun z => absurd z e⟩
  | r + 1, k, j + 1, h => by
    have h1 := nu_bit σ r (k + 1) j (by omega)
    rw [nu, Nat.pow_succ, Nat.mul_comm (2 ^ j) 2, ← Nat.div_div_eq_div_mul]
    have h2 : ((if σ k = true then 1 else 0) + 2 * nu σ r (k + 1)) / 2 = nu σ r (k + 1) := by
      split <;> omega
    rw [h2, h1, show k + 1 + j = k + (j + 1) by omega]
theorem nu_sgx {σ : Nat → Bool} {c k : Nat} (h1 : 1 ≤ k) (h2 : k ≤ c) : sgx (nu σ c 1) k = σ k := by
  have := nu_bit σ c 1 (k - 1) (by omega)
  rw [show 1 + (k - 1) = k by omega] at this
  unfold sgx
  cases hσ : σ k with
  | true => exact decide_eq_true (this.mpr hσ)
  | false => exact decide_eq_false (fun z => by rw [this.mp z] at hσ; cases hσ)
theorem ks_cg {bc : Nat → Nat → Nat} {σ σ' : Nat → Bool} {c : Nat} : ∀ r a k, k + r = c + 1 → (∀ j, k ≤ j → j ≤ c → σ j = σ' j) → ks bc σ r a k = ks bc σ' r a k
  | 0, _, _, _, _ => rfl
  | r + 1, a, k, hk, h => by
    rw [ks, ks, ks_cg r k (k + 1) (by omega) (fun j h1 h2 => h j (by omega) h2), ks_cg r a (k + 1) (by omega) (fun j h1 h2 => h j (by omega) h2), h k (Nat.le_refl _) (by omega)]
/-- numbers with the same bits -/
theorem bits_eq : ∀ c x y, x < 2 ^ c → y < 2 ^ c → (∀ j, j < c → x / 2 ^ j % 2 = y / 2 ^ j % 2) → x = y
  | 0, x, y, hx, hy, _ => by
    rw [Nat.pow_zero] at hx hy
    omega
  | c + 1, x, y, hx, hy, h => by
    have h0 := h 0 (by omega)
    rw [Nat.pow_zero, Nat.div_one, Nat.div_one] at h0
    rw [Nat.pow_succ] at hx hy
    have := bits_eq c (x / 2) (y / 2) (by omega) (by omega) (fun j hj => by
      have := h (j + 1) (by omega)
      rw [Nat.pow_succ, Nat.mul_comm (2 ^ j) 2, ← Nat.div_div_eq_div_mul, ← Nat.div_div_eq_div_mul] at this
      exact this)
    omega
/-- the least cost, the fewest blocks, the first cuts: the path's set, against another -/
theorem set_best {bc : Nat → Nat → Nat} {c x : Nat} (hc : c ≤ 12) (hx : x < 2 ^ c) (hne : x ≠ nu (sgp bc c) c 1) : (k2 (TT bc c 0) < ks bc (sgx x) c 0 1) ∨ (k2 (TT bc c 0) = ks bc (sgx x) c 0 1 ∧ ∃ i, i < c ∧ (∀ i', i' < i → x / 2 ^ i' % 2 = nu (sgp bc c) c 1 / 2 ^ i' % 2) ∧ x / 2 ^ i % 2 = 0 ∧ nu (sgp bc c) c 1 / 2 ^ i % 2 = 1) := by
  have hf1 : frp bc c 1 = 0 := by
    rw [show (1 : Nat) = 0 + 1 from rfl, frp, if_neg (fun z => z.2 rfl)]
    rfl
  have hp := path_best (bc := bc) hc (sgx x) c 1 (Nat.le_refl _) (by omega)
  rw [hf1] at hp
  have hbit : ∀ i, i < c → (sgx x (1 + i) = sgp bc c (1 + i) ↔ x / 2 ^ i % 2 = nu (sgp bc c) c 1 / 2 ^ i % 2) := fun i hi => by
    have h1 := nu_bit (sgp bc c) c 1 i hi
    have h2 : sgx x (1 + i) = true ↔ x / 2 ^ i % 2 = 1 := by
      unfold sgx
      rw [show 1 + i - 1 = i by omega]
      exact decide_eq_true_iff
    constructor
    · intro z
      by_cases e : x / 2 ^ i % 2 = 1
      · rw [e, h1.mpr (by rw [← z]; exact h2.mpr e)]
      · have : ¬ nu (sgp bc c) c 1 / 2 ^ i % 2 = 1 := fun w => e (h2.mp (by rw [z]; exact h1.mp w))
        omega
    · intro z
      by_cases e : x / 2 ^ i % 2 = 1
      · rw [h2.mpr e, h1.mp (by omega)]
      · have e1 : ¬ sgx x (1 + i) = true := fun w => e (h2.mp w)
        have e2 : ¬ sgp bc c (1 + i) = true := fun w => e (by rw [z]; exact h1.mpr w)
        rw [Bool.eq_false_iff.mpr e1, Bool.eq_false_iff.mpr e2]
  rcases hp.2 with z | ⟨z1, z2⟩
  · exact Or.inl z
  · right
    refine ⟨z1.symm, ?_⟩
    rcases z2 with z2 | ⟨j, z3, z4, z5, z6, z7⟩
    · refine absurd (bits_eq c x _ hx (nu_lt _ _ _) (fun i hi => (hbit i hi).mp (z2 (1 + i) (by omega) (by omega)))) hne
    · refine ⟨j - 1, by omega, fun i' hi' => (hbit i' (by omega)).mp (z5 (1 + i') (by omega) (by omega)), ?_, ?_⟩
      · have : ¬ x / 2 ^ (j - 1) % 2 = 1 := of_decide_eq_false z6
        omega
      · exact (nu_bit (sgp bc c) c 1 (j - 1) (by omega)).mpr (by rw [show 1 + (j - 1) = j by omega]; exact z7)
/-- the lowest bit -/
def lob : Nat → Nat → Nat
  | 0, _ => 0
  | r + 1, x => if x % 2 = 1 then 1 else 2 * lob r (x / 2)
theorem lob_ok2 : ∀ a, a < 64 → ∀ b, b < 64 → nI (64 * a + b) &&& -(nI (64 * a + b)) = nI (lob 12 (64 * a + b)) := by decide +kernel
theorem lob_ok (x : Nat) (h : x < 4096) : nI x &&& -(nI x) = nI (lob 12 x) := by
  have := lob_ok2 (x / 64) (by omega) (x % 64) (by omega)
  rw [show 64 * (x / 64) + x % 64 = x by omega] at this
  exact this
theorem lob_xor : ∀ r a b i, i < r → (∀ i', i' < i → a / 2 ^ i' % 2 = b / 2 ^ i' % 2) → a / 2 ^ i % 2 ≠ b / 2 ^ i % 2 → lob r (a ^^^ b) = 2 ^ i
  | 0, _, _, _, h, _, _ => by omega
  | r + 1, a, b, i, hi, h1, h2 => by
    have hx : (a ^^^ b) % 2 = (a + b) % 2 := by
      have := Nat.xor_mod_two_pow (a := a) (b := b) (n := 1)
      rw [Nat.pow_one] at this
      rw [this]
      rcases (by omega : a % 2 = 0 ∨ a % 2 = 1) with z | z <;> rcases (by omega : b % 2 = 0 ∨ b % 2 = 1) with w | w <;> rw [z, w] <;> first | (rw [show (a + b) % 2 = 0 by omega]; rfl) | (rw [show (a + b) % 2 = 1 by omega]; rfl)
    have hd : (a ^^^ b) / 2 = a / 2 ^^^ b / 2 := by
      have := Nat.xor_div_two_pow (a := a) (b := b) (n := 1)
      rw [Nat.pow_one] at this
      exact this
    rw [lob]
    cases i with
    | zero =>
      rw [Nat.pow_zero, Nat.div_one, Nat.div_one] at h2
      rw [if_pos (by omega), Nat.pow_zero]
    | succ i =>
      have h0 := h1 0 (by omega)
      rw [Nat.pow_zero, Nat.div_one, Nat.div_one] at h0
      have hs : ∀ x j : Nat, x / 2 ^ (j + 1) = x / 2 / 2 ^ j := fun x j => by rw [Nat.pow_succ, Nat.mul_comm (2 ^ j) 2, Nat.div_div_eq_div_mul]
      rw [if_neg (by omega), hd, lob_xor r (a / 2) (b / 2) i (by omega) (fun i' hi' => by
        have := h1 (i' + 1) (by omega)
        rw [hs, hs] at this
        exact this) (by rw [hs, hs] at h2; exact h2), Nat.pow_succ, Nat.mul_comm]
theorem and_pow (a i : Nat) : a &&& 2 ^ i = (a / 2 ^ i % 2) * 2 ^ i := by
  have hb : a.testBit i = decide (a / 2 ^ i % 2 = 1) := Nat.testBit_eq_decide_div_mod_eq
  rcases (by omega : a / 2 ^ i % 2 = 0 ∨ a / 2 ^ i % 2 = 1) with z | z
  · rw [z, Nat.zero_mul]
    apply Nat.eq_of_testBit_eq
    intro j
    rw [Nat.testBit_and, Nat.testBit_two_pow, Nat.zero_testBit]
    by_cases e : i = j
    · rw [← e, hb, z]
      rfl
    · rw [decide_eq_false e, Bool.and_false]
  · rw [z, Nat.one_mul]
    apply Nat.eq_of_testBit_eq
    intro j
    rw [Nat.testBit_and, Nat.testBit_two_pow]
    by_cases e : i = j
    · rw [← e, hb, z]
      rfl
    · rw [decide_eq_false e, Bool.and_false]
section ISB
variable {d : Nat} {Q : Option Value × xS → Prop} {K : Nat → Nat × Nat} {P : List Nat × Nat × Nat} {I : Nat → Nat → Int32} {J : Nat → Nat → Int64} {F : Nat → Nat → Option Nat}
theorem xxorI {a b : Nat} (ha : a < 2 ^ 32) (hb : b < 2 ^ 32) : nI a ^^^ nI b = nI (a ^^^ b) := by
  apply Int32.toBitVec_inj.mp
  show BitVec.ofNat 32 a ^^^ BitVec.ofNat 32 b = BitVec.ofNat 32 (a ^^^ b)
  apply BitVec.eq_of_toNat_eq
  rw [BitVec.toNat_xor, BitVec.toNat_ofNat, BitVec.toNat_ofNat, BitVec.toNat_ofNat, Nat.mod_eq_of_lt ha, Nat.mod_eq_of_lt hb, Nat.mod_eq_of_lt (Nat.xor_lt_two_pow ha hb)]
theorem p_isBefore {a b i : Nat} (ha : a < 4096) (hb : b < 4096) (hi : i < 12) (h1 : ∀ i', i' < i → a / 2 ^ i' % 2 = b / 2 ^ i' % 2) (h2 : a / 2 ^ i % 2 ≠ b / 2 ^ i % 2) (k : Q (some (.int (nI (a / 2 ^ i % 2))), (K, P, I, J, F))) : Wp d 158 0 [some (.int (nI a)), some (.int (nI b)), none, none] [] (K, P, I, J, F) Q := by
  have hx : a ^^^ b < 2 ^ 12 := Nat.xor_lt_two_pow ha hb
  have hp : 2 ^ i ≤ 2048 := by
    have := Nat.pow_le_pow_right (show 0 < 2 by decide) (show i ≤ 11 by omega)
    omega
  refine wX11_isBefore_0 ?_
  rw [xxorI (by omega) (by omega), lob_ok _ (by omega), lob_xor 12 a b i hi h1 h2, xandI (by omega) (by omega), and_pow]
  rcases (by omega : a / 2 ^ i % 2 = 0 ∨ a / 2 ^ i % 2 = 1) with z | z
  · rw [z] at k ⊢
    exact br1 (by rw [Nat.zero_mul]; rfl) k
  · rw [z] at k ⊢
    have h3 : 1 ≤ 2 ^ i := Nat.one_le_two_pow
    refine br2 ?_ k
    rw [Nat.one_mul, nI_e0 (by omega)]
    omega
theorem p_count {x r : Nat} (hx : x < 2 ^ r) (hr : r ≤ 12) (k : Q (some (.int (nI (pn r x))), (K, P, I, J, F))) : Wp d 157 0 [some (.int (nI x)), none, none] [] (K, P, I, J, F) Q := by
  have loop : ∀ r x m, x < 2 ^ r → r ≤ 12 → Q (some (.int (nI (m + pn r x))), (K, P, I, J, F)) → Wp d 157 4 [none, some (.int (nI m)), some (.int (nI x))] [] (K, P, I, J, F) Q := by
    intro r
    induction r with
    | zero =>
      intro x m hx _ kq
      rw [Nat.pow_zero] at hx
      have : x = 0 := by omega
      subst this
      exact wX11_count_4 (br1 (by decide) kq)
    | succ r ih =>
      intro x m hx hr kq
      have hx12 : 2 ^ (r + 1) ≤ 4096 := Nat.pow_le_pow_right (show 0 < 2 by decide) hr
      by_cases e : x = 0
      · subst e
        have hz : ∀ r, pn r 0 = 0 := fun r => by
          induction r with
          | zero => rfl
          | succ r ih => rw [pn, show 0 / 2 = 0 from rfl, ih]
        rw [hz] at kq
        exact wX11_count_4 (br1 (by decide) kq)
      · refine wX11_count_4 (br2 (by first | (rw [nI_ltI (by omega) (by omega)]; omega) | (rw [nI_leI (by omega) (by omega)]; omega) | (rw [nI_eq (by omega) (by omega)]; omega) | (rw [nI_e0 (by omega)]; omega) | (rw [nI_le0 (by omega)]; omega)) ?_)
        rw [show nI x &&& nI 1 = nI (x % 2) from xmaskI (k := 1) (by omega) (by decide), nI_add, xshr (by omega) (by decide)]
        refine ih (x / 2 ^ 1) (m + x % 2) (by rw [Nat.pow_succ] at hx; omega) (by omega) ?_
        rw [pn] at kq
        rw [Nat.pow_one, Nat.add_assoc]
        exact kq
  refine wX11_count_0 (loop r x 0 hx hr ?_)
  rw [Nat.zero_add]
  exact k
end ISB
