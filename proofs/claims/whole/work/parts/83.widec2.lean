/-! FORM 2: the class goes from a state -/
theorem lxor (a b : Nat) : lN a ^^^ lN b = lN (a ^^^ b) := by
  apply wb_inj
  show BitVec.ofNat 64 a ^^^ BitVec.ofNat 64 b = BitVec.ofNat 64 (a ^^^ b)
  apply BitVec.eq_of_toNat_eq
  rw [BitVec.toNat_xor, BitVec.toNat_ofNat, BitVec.toNat_ofNat, BitVec.toNat_ofNat, Nat.xor_mod_two_pow]
theorem nxor0 {x y : Nat} : x ^^^ y = 0 ↔ x = y := by
  constructor
  · intro h
    apply Nat.eq_of_testBit_eq
    intro i
    have h1 : (x ^^^ y).testBit i = (0 : Nat).testBit i := by rw [h]
    rw [Nat.testBit_xor, Nat.zero_testBit] at h1
    revert h1
    cases x.testBit i <;> cases y.testBit i <;> simp
  · intro h
    rw [h]
    exact Nat.xor_self _
theorem xor36 {a b : Nat} (ha : a < 2 ^ 62) (hb : b < 2 ^ 62) : lg_cmp ((((lN a ^^^ lN b) &&& lN 68719476735).toUInt64 >>> ((nI 9).toInt64.toUInt64 &&& Int64.toUInt64 63)).toInt64) (lN 0) = 0 ↔ lat a / 2 ^ 9 = lat b / 2 ^ 9 := by
  have h1 : a ^^^ b < 2 ^ 62 := Nat.xor_lt_two_pow ha hb
  have h2 : lat (a ^^^ b) < 2 ^ 36 := Nat.mod_lt _ (by decide)
  rw [lxor, xmask h1, wb_shr (by omega) (by decide), cEQ (by omega) (by decide)]
  have h3 : lat (a ^^^ b) = lat a ^^^ lat b := Nat.xor_mod_two_pow
  rw [h3, Nat.xor_div_two_pow]
  constructor
  · intro h
    exact nxor0.mp h
  · intro h
    exact nxor0.mpr h
theorem el3 {a b : Nat} (h : lat a / 2 ^ 9 = lat b / 2 ^ 9) {j : Nat} (hj : j < 3) : el a j = el b j := by
  unfold el
  rcases (by omega : j = 0 ∨ j = 1 ∨ j = 2) with rfl | rfl | rfl
  · show lat a / 2 ^ 27 % 512 = lat b / 2 ^ 27 % 512
    omega
  · show lat a / 2 ^ 18 % 512 = lat b / 2 ^ 18 % 512
    omega
  · show lat a / 2 ^ 9 % 512 = lat b / 2 ^ 9 % 512
    omega
/-- all places of the class: of the last only the first state is held -/
def CW (I : Nat → Nat → Int32) (J : Nat → Nat → Int64) (W : xW) (n : Nat) : Prop := (∀ j, j < n → CR I J n j (W j)) ∧ ∃ w1, WF 1 w1 ∧ H1 w1 (W n) ∧ CR I J n n w1
/-- what goFrom keeps -/
def CX (I : Nat → Nat → Int32) (J : Nat → Nat → Int64) (V : Nat → Nat → Nat) (t : Nat → Nat) (n K : Nat) (W : xW) : Prop := CC I 2 V ∧ CT I n t 2 ∧ PR I 2 n V ∧ I 20 7 = nI K ∧ CW I J W n ∧ I 29 0 = nI 0
/-- the state from which it goes -/
def CG (I : Nat → Nat → Int32) (J : Nat → Nat → Int64) (p r k : Nat) : Prop := I 20 8 = nI p ∧ I 20 9 = nI r ∧ J 20 10 = lN (k / 2 ^ 36) ∧ J 20 11 = lN (lp (el k))
theorem CR.fc {I I' : Nat → Nat → Int32} {J J' : Nat → Nat → Int64} {n j to K : Nat} {w : xWs} (h : CR I J n j w) (hf : FC I I' J J' to) (hj : j ≠ to) (hw : WF K w) (hK : K ≤ 40) : CR I' J' n j w := by
  have h1 := hf.2.2.1 j hj
  have h2 := hw.1
  refine ⟨by rw [h1.1]; exact h.1, fun s hs => ?_, fun z => by rw [h1.2.1]; exact h.2.2.1 z, by rw [h1.2.2]; exact h.2.2.2⟩
  have h3 := hf.2.2.2 (40 * j + s) (by omega)
  rw [h3.1, h3.2]
  exact h.2.1 s hs
theorem CR.ag {I I' : Nat → Nat → Int32} {J J' : Nat → Nat → Int64} {n j : Nat} {w : xWs} (h : CR I J n j w) (h1 : I' 29 = I 29 ∧ I' 30 = I 30 ∧ I' 31 = I 31) (h2 : J' 28 = J 28 ∧ J' 32 = J 32) : CR I' J' n j w := by
  unfold CR
  rw [h1.1, h1.2.1, h1.2.2, h2.1, h2.2]
  exact h
theorem CW.ag {I I' : Nat → Nat → Int32} {J J' : Nat → Nat → Int64} {n : Nat} {W : xW} (h : CW I J W n) (h1 : I' 29 = I 29 ∧ I' 30 = I 30 ∧ I' 31 = I 31) (h2 : J' 28 = J 28 ∧ J' 32 = J 32) : CW I' J' W n := by
  obtain ⟨g1, w1, g2, g3, g4⟩ := h
  exact ⟨fun j hj => (g1 j hj).ag h1 h2, w1, g2, g3, g4.ag h1 h2⟩
section WDC2
variable {d L c s n K p : Nat} {t : Nat → Nat} {V : Nat → Nat → Nat} {Q : Option Value × xS → Prop} {P : List Nat × Nat × Nat} {I : Nat → Nat → Int32} {J : Nat → Nat → Int64} {la : Nat → Nat} {W : xW}
theorem CX.fc {I I' : Nat → Nat → Int32} {J J' : Nat → Nat → Int64} {W' : xW} {to : Nat} (h : CX I J V t n K W) (hf : FC I I' J J' to) (hto : 1 ≤ to) (hw : CW I' J' W' n) : CX I' J' V t n K W' := by
  have ha := hf.1
  refine ⟨h.1.ag ha (by decide), h.2.1.ag ha (by decide) (by decide) (by decide) (by decide) (by decide), ?_, by rw [ha 20 (by decide)]; exact h.2.2.2.1, hw, ?_⟩
  · unfold PR
    rw [ha 13 (by decide), ha 14 (by decide)]
    exact h.2.2.1
  · rw [(hf.2.2.2 0 (by omega)).2]
    exact h.2.2.2.2.2
theorem CG.fc {I I' : Nat → Nat → Int32} {J J' : Nat → Nat → Int64} {r k to : Nat} (h : CG I J p r k) (hf : FC I I' J J' to) : CG I' J' p r k := by
  unfold CG
  rw [hf.1 20 (by decide), hf.2.1 20 (by decide) (by decide)]
  exact h
theorem IV.key (h : IV V t n K W p) (hn : n ≤ 300) {j s : Nat} (hj : j ≤ n) (hs : s < (W j).1) : ((W j).2.1 s).1 < 2 ^ 60 := by
  have := h.sum hn hj hs
  omega
/-- one step leads on -/
theorem p_lead2 (hL : L < 2147483648) (hK1 : 1 ≤ K) (hK2 : K ≤ 40) (hI : IV V t n K W p) (hX : CX I J V t n K W) {r k : Nat} (hG : CG I J p r k) (hB : LB la) {cst len kd : Nat} (hp : p < n) (hr : r < 40) (hlen : 1 ≤ len) (hpl : p + len ≤ n) (hkd : kd < 8) (hpv : PV V t W p (p + len) (ky (k / 2 ^ 36 + cst) la, r, len, kd)) (kk : ∀ I' J', FC I I' J J' (p + len) → CX I' J' V t n K (opw K W (p + len) (ky (k / 2 ^ 36 + cst) la, r, len, kd)) → CG I' J' p r k → Q (none, (xK 2 L, P, I', J', xFr 2 c s))) : Wp (d + 1) 37 0 [some (.ref 20), some (.int (nI kd)), some (.int (nI len)), some (.int (nI cst)), some (.long (lN (lp la))), none, none, none, none, none, none, none] [] (xK 2 L, P, I, J, xFr 2 c s) Q := by
  have hn := hX.2.1.2.2.2.1
  have hsum : k / 2 ^ 36 + cst ≤ 31024 * (p + len) := by
    have h1 : ky (k / 2 ^ 36 + cst) la / 2 ^ 36 ≤ 31024 * (p + len) := hpv.2.2.2.2.2.2.2.2
    rw [ky_sum hB] at h1
    exact h1
  have hlen2 : len ≤ 273 := hpv.2.2.2.1
  obtain ⟨w1, hw1, hh1, hc1⟩ := hX.2.2.2.2.1.2
  by_cases e : p + len = n
  · have hke : (if p + len = n then 1 else K) = 1 := if_pos e
    refine p_leadC (w := w1) (K := K) (to := p + len) (sum := k / 2 ^ 36) hL hn hX.2.1.2.2.1 hX.2.2.2.1 hK1 hK2 hG.1 hG.2.1 hG.2.2.1 hB rfl hpl (by omega) (by omega) hr (by omega) hkd (by rw [hke]; exact hw1) (fun s' hs' => ?_) (by rw [e]; exact hc1) (fun I' J' f1 f2 => kk I' J' f1 (hX.fc f1 (by omega) ?_) (hG.fc f1))
    · have h1 := hw1.1
      have hz : s' = 0 := by omega
      subst hz
      by_cases z : (W n).1 = 0
      · have := hh1.1
        rw [if_pos z] at this
        omega
      · rw [hh1.2 (by omega)]
        have := hI.key hn (Nat.le_refl n) (show 0 < (W n).1 by omega)
        omega
    · rw [hke] at f2
      refine ⟨fun j hj => ?_, op 1 w1 (ky (k / 2 ^ 36 + cst) la, r, len, kd), op_WF hw1, ?_, by rw [← e] at f2 ⊢; exact f2⟩
      · rw [opw_ne (by omega)]
        exact (hX.2.2.2.2.1.1 j hj).fc f1 (by omega) (hI.1 j (by omega)) hK2
      · have : opw K W (p + len) (ky (k / 2 ^ 36 + cst) la, r, len, kd) n = op K (W n) (ky (k / 2 ^ 36 + cst) la, r, len, kd) := by
          rw [← e, opw_at]
        rw [this]
        exact H1_op hK1 hw1 (hI.1 n (Nat.le_refl _)) hh1
  · have hke : (if p + len = n then 1 else K) = K := if_neg e
    refine p_leadC (w := W (p + len)) (K := K) (to := p + len) (sum := k / 2 ^ 36) hL hn hX.2.1.2.2.1 hX.2.2.2.1 hK1 hK2 hG.1 hG.2.1 hG.2.2.1 hB rfl hpl (by omega) (by omega) hr (by omega) hkd (by rw [hke]; exact hI.1 _ hpl) (fun s' hs' => by
      have := hI.key hn hpl hs'
      omega) (hX.2.2.2.2.1.1 _ (by omega)) (fun I' J' f1 f2 => kk I' J' f1 (hX.fc f1 (by omega) ?_) (hG.fc f1))
    rw [hke] at f2
    refine ⟨fun j hj => ?_, w1, hw1, ?_, hc1.fc f1 (by omega) hw1 (by decide)⟩
    · by_cases e2 : j = p + len
      · rw [e2, opw_at]
        exact f2
      · rw [opw_ne e2]
        exact (hX.2.2.2.2.1.1 j hj).fc f1 e2 (hI.1 j (by omega)) hK2
    · rw [opw_ne (by omega)]
      exact hh1
/-- were the copies of this state led before? -/
theorem p_copiesWereLed (hL : L < 2147483648) (hn : n ≤ 300) (hI : IV V t n K W p) (hp : p < n) {r k : Nat} (hr : r ≤ (W p).1) (hr2 : r ≤ 40) (hk : k < 2 ^ 60) (hR : CR I J n p (W p)) (hG : CG I J p r k) (kk : ∀ b, (b = 1 ↔ ∃ r0, r0 < r ∧ lat ((W p).2.1 r0).1 / 2 ^ 9 = lat k / 2 ^ 9) → b < 2 → Q (some (.int (nI b)), (xK 2 L, P, I, J, xFr 2 c s))) : Wp d 34 0 [some (.ref 20), none, none] [] (xK 2 L, P, I, J, xFr 2 c s) Q := by
  have hf : 2 < 3 := by decide
  have hlat : lat k < 2 ^ 36 := Nat.mod_lt _ (by decide)
  have hll : lat (lat k) = lat k := Nat.mod_eq_of_lt hlat
  have loop : ∀ v x, r - x = v → x ≤ r → (∀ r0, r0 < x → lat ((W p).2.1 r0).1 / 2 ^ 9 ≠ lat k / 2 ^ 9) → Wp d 34 10 [some (.ref 20), some (.int (nI (p * 40))), some (.int (nI (p * 40 + x)))] [] (xK 2 L, P, I, J, xFr 2 c s) Q := by
    intro v
    induction v with
    | zero =>
      intro x hv hx h1
      refine wX4_copiesWereLed_10 (f1 := 28) (xK_lt hf hL) rfl rfl rfl (br1 ?_ (kk 0 ⟨fun z => by omega, fun ⟨r0, z1, z2⟩ => absurd z2 (h1 r0 (by omega))⟩ (by omega)))
      rw [hG.2.1, nI_add]
      exact (by first | (rw [nI_ltI (by omega) (by omega)]; omega) | (rw [nI_leI (by omega) (by omega)]; omega) | (rw [nI_eq (by omega) (by omega)]; omega) | (rw [nI_e0 (by omega)]; omega) | (rw [nI_le0 (by omega)]; omega))
    | succ v ih =>
      intro x hv hx h1
      have hxE := hI.key hn (show p ≤ n by omega) (show x < (W p).1 by omega)
      have hx28 := (hR.2.1 x (by omega)).1
      refine wX4_copiesWereLed_10 (f1 := 28) (xK_lt hf hL) rfl rfl rfl (br2 ?_ ⟨40 * p + x, by rw [Nat.mul_comm p 40], by omega, ?_⟩)
      · rw [hG.2.1, nI_add]
        exact (by first | (rw [nI_ltI (by omega) (by omega)]; omega) | (rw [nI_leI (by omega) (by omega)]; omega) | (rw [nI_eq (by omega) (by omega)]; omega) | (rw [nI_e0 (by omega)]; omega) | (rw [nI_le0 (by omega)]; omega))
      · rw [hx28, hG.2.2.2, lp_el]
        refine brd (xor36 (by omega) (by omega)) (fun h => ?_) (fun h => ?_)
        · rw [hll] at h
          rw [nI_add]
          refine ih (x + 1) (by omega) (by omega) (fun r0 hr0 => ?_)
          by_cases e : r0 = x
          · rw [e]
            exact h
          · exact h1 r0 (by omega)
        · rw [hll] at h
          exact kk 1 ⟨fun _ => ⟨x, by omega, h⟩, fun _ => rfl⟩ (by omega)
  refine wX4_copiesWereLed_0 rfl ?_
  rw [hG.1, pk_mul]
  exact loop r 0 rfl (Nat.zero_le _) (fun r0 h => by omega)
theorem p_leadByCopies (hL : L < 2147483648) (hK1 : 1 ≤ K) (hK2 : K ≤ 40) (hI : IV V t n K W p) (hX : CX I J V t n K W) {r k : Nat} (hC : CU n p r k W) (hG : CG I J p r k) (hr : r < 40) (kk : ∀ I' J', xag I I' [29, 30, 31] → (∀ a, a ≠ 28 → a ≠ 32 → J' a = J a) → CX I' J' V t n K (cpn V t n K p r k (lc t n 2 p) W) → CG I' J' p r k → Q (none, (xK 2 L, P, I', J', xFr 2 c s))) : Wp (d + 3) 35 0 [some (.ref 20), none, none, none, none] [] (xK 2 L, P, I, J, xFr 2 c s) Q := by
  have hf : 2 < 3 := by decide
  have hn := hX.2.1.2.2.2.1
  have ht : ∀ j, j < n → t j < 256 := fun j hj => (hX.2.1.2.2.2.2.1 j hj).2
  have hB := hX.1.2.2.2
  have hp := hC.1
  have loop : ∀ l I1 J1 W1, l ≤ lc t n 2 p → xag I I1 [29, 30, 31] → (∀ a, a ≠ 28 → a ≠ 32 → J1 a = J a) → CX I1 J1 V t n K W1 → IV V t n K W1 p → CU n p r k W1 → CG I1 J1 p r k → cpn V t n K p r k l W1 = cpn V t n K p r k (lc t n 2 p) W → Wp (d + 3) 35 21 [some (.ref 20), some (.int (nI (kc V 2 1))), some (.int (nI l)), none, none] [] (xK 2 L, P, I1, J1, xFr 2 c s) Q := by
    intro l
    induction l with
    | zero =>
      intro I1 J1 W1 hl ha hj h1 h2 h3 h4 he
      refine wX4_leadByCopies_21 (xK_lt hf hL) rfl rfl rfl rfl rfl rfl rfl rfl rfl (br1 (by rw [h1.2.1.1]; decide) (kk I1 J1 ha hj ?_ h4))
      rw [← he]
      exact h1
    | succ l ih =>
      intro I1 J1 W1 hl ha hj h1 h2 h3 h4 he
      rw [cpn] at he
      have hlc := lc_ok (t := t) (n := n) (f := 2) (i := p) (by omega)
      refine wX4_leadByCopies_21 (xK_lt hf hL) rfl rfl rfl rfl rfl rfl rfl rfl rfl (brc (p := l + 1 < 2) (by rw [h1.2.1.1]; exact nI_ltI (by omega) (by decide)) (fun h => ?_) (fun h => ?_))
      · rw [if_pos h] at he
        refine kk I1 J1 ha hj ?_ h4
        rw [← he]
        exact h1
      · rw [if_neg h] at he
        have hd := lc2 (t := t) (n := n) (i := p) (l := l + 1) (by omega) hl
        rw [h4.1]
        refine p_copyDistanceN hf hL h1.2.1 hp (by show 2 ≤ l + 1; omega) (by omega) ⟨_, _, _, rfl, l + 1, rfl, by omega, nd t n 273 p (l + 1), rfl, by omega, ?_⟩
        all_goals try dsimp only
        rw [h4.2.2.2]
        refine p_behindCopy (b := nd t n 273 p (l + 1)) hC.2.2.2.1 (by have := hd.2.2.2.1; omega) ⟨_, _, _, rfl, ?_⟩
        all_goals try dsimp only
        rw [h1.2.2.1.1 (l + 1) (by show 2 ≤ l + 1; omega) (by omega), h1.2.2.1.2 _ hd.2.2.1 (by omega), nI_add, nI_add]
        have hpv := pv_cp hB hn ht h3 (show 2 ≤ l + 1 by omega) hl
        refine p_lead2 hL hK1 hK2 h2 h1 h4 (LB_ah hC.2.2.2.1 hd.2.2.1 (by omega) (by decide)) hp hr (by omega) hd.2.1 (by decide) hpv (fun I2 J2 f1 f2 f3 => ⟨_, _, rfl, ?_⟩)
        all_goals try dsimp only
        try dsimp only
        rw [xm1, pk_sub (by omega), Nat.add_sub_cancel]
        exact ih I2 J2 _ (by omega) (ha.tr f1.1 (by simp)) (fun a z1 z2 => by rw [f1.2.1 a z1 z2]; exact hj a z1 z2) f2 (opw_IV hK1 h2 (by omega) hd.2.1 hpv) (h3.op (by omega)) f3 he
  refine wX4_leadByCopies_0 rfl rfl rfl rfl rfl (p_kindCost hf hL hX.1 (by decide) ⟨_, _, _, rfl, ?_⟩)
  all_goals try dsimp only
  rw [hG.1]
  refine p_longestCopyN hf hL hX.2.1 (by omega) ⟨_, _, _, rfl, ?_⟩
  all_goals try dsimp only
  have hlcx : lcx t n 2 p = lc t n 2 p := by
    unfold lcx
    rw [if_pos hp]
  rw [hlcx]
  exact loop _ I J W (Nat.le_refl _) xag.rfl (fun _ _ _ => rfl) hX hI hC hG rfl
theorem p_leadByAgain (hL : L < 2147483648) (hK1 : 1 ≤ K) (hK2 : K ≤ 40) (hI : IV V t n K W p) (hX : CX I J V t n K W) {r k j : Nat} (hC : CU n p r k W) (hG : CG I J p r k) (hr : r < 40) (hj : j < 4) (kk : ∀ I' J', xag I I' [29, 30, 31] → (∀ a, a ≠ 28 → a ≠ 32 → J' a = J a) → CX I' J' V t n K (agn V K p r k j (sb t n 2 p (el k j)) W) → CG I' J' p r k → Q (none, (xK 2 L, P, I', J', xFr 2 c s))) : Wp (d + 3) 36 0 [some (.ref 20), some (.int (nI j)), none, none, none, none] [] (xK 2 L, P, I, J, xFr 2 c s) Q := by
  have hf : 2 < 3 := by decide
  have hn := hX.2.1.2.2.2.1
  have ht : ∀ j, j < n → t j < 256 := fun j hj => (hX.2.1.2.2.2.2.1 j hj).2
  have hB := hX.1.2.2.2
  have hp := hC.1
  have hlj := hC.2.2.2.1 j hj
  have hLa := LB_ah hC.2.2.2.1 hlj.1 hlj.2 hj
  have hsb : sb t n 2 p (el k j) ≤ 300 := by
    have h5 := sb_le t n 2 p (el k j)
    have h6 := lr_le t n (xgt 2) p
    omega
  have loop : ∀ l I1 J1 W1, l ≤ sb t n 2 p (el k j) → xag I I1 [29, 30, 31] → (∀ a, a ≠ 28 → a ≠ 32 → J1 a = J a) → CX I1 J1 V t n K W1 → IV V t n K W1 p → CU n p r k W1 → CG I1 J1 p r k → agn V K p r k j l W1 = agn V K p r k j (sb t n 2 p (el k j)) W → Wp (d + 3) 36 41 [some (.ref 20), some (.int (nI j)), some (.int (nI l)), some (.int (nI (kc V 2 (2 + j)))), some (.long (lN (lp (ah (el k) (el k j) j)))), none] [] (xK 2 L, P, I1, J1, xFr 2 c s) Q := by
    intro l
    induction l with
    | zero =>
      intro I1 J1 W1 hl ha hj' h1 h2 h3 h4 he
      refine wX4_leadByAgain_41 (xK_lt hf hL) rfl rfl rfl rfl rfl rfl rfl (br1 (by rw [h1.2.1.1]; decide) (kk I1 J1 ha hj' ?_ h4))
      rw [← he]
      exact h1
    | succ l ih =>
      intro I1 J1 W1 hl ha hj' h1 h2 h3 h4 he
      rw [agn] at he
      refine wX4_leadByAgain_41 (xK_lt hf hL) rfl rfl rfl rfl rfl rfl rfl (brc (p := l + 1 < 2) (by rw [h1.2.1.1]; exact nI_ltI (by omega) (by decide)) (fun h => ?_) (fun h => ?_))
      · rw [if_pos h] at he
        refine kk I1 J1 ha hj' ?_ h4
        rw [← he]
        exact h1
      · rw [if_neg h] at he
        have hso := sb_ok hl (by omega)
        refine ⟨l + 1, rfl, by omega, ?_⟩
        rw [h1.2.2.1.1 (l + 1) (by show 2 ≤ l + 1; omega) (by omega), nI_add, nI_add]
        have hpv := pv_ag hB hn ht h3 hj (show 2 ≤ l + 1 by omega) hl
        refine p_lead2 hL hK1 hK2 h2 h1 h4 hLa hp hr (by omega) (by omega) (by omega) hpv (fun I2 J2 f1 f2 f3 => ⟨_, _, rfl, ?_⟩)
        all_goals try dsimp only
        try dsimp only
        rw [xm1, pk_sub (by omega), Nat.add_sub_cancel]
        exact ih I2 J2 _ (by omega) (ha.tr f1.1 (by simp)) (fun a z1 z2 => by rw [f1.2.1 a z1 z2]; exact hj' a z1 z2) f2 (opw_IV hK1 h2 (by omega) (by omega) hpv) (h3.op (by omega)) f3 he
  refine wX4_leadByAgain_0 rfl rfl rfl rfl rfl ?_
  rw [hG.2.2.2]
  refine p_at hC.2.2.2.1 hj ⟨_, _, _, rfl, ?_⟩
  all_goals try dsimp only
  rw [hG.1]
  refine p_sameBy hf hL hX.2.1 (by omega) (by omega) ⟨_, _, _, rfl, ?_⟩
  all_goals try dsimp only
  show Wp (d + 2) 15 0 _ _ _ _
  rw [nI_add]
  refine p_kindCost hf hL hX.1 (by omega) ⟨_, _, _, rfl, ?_⟩
  all_goals try dsimp only
  rw [hG.2.2.2]
  refine p_behindAgain hC.2.2.2.1 hj ⟨_, _, _, rfl, ?_⟩
  all_goals try dsimp only
  exact loop _ I J W (Nat.le_refl _) xag.rfl (fun _ _ _ => rfl) hX hI hC hG rfl
/-- what is known of the states before: their copies were led -/
theorem p_goFrom (hL : L < 2147483648) (hK1 : 1 ≤ K) (hK2 : K ≤ 40) (hI : IV V t n K W p) (hX : CX I J V t n K W) {r : Nat} (hp : p < n) (hr : r < (W p).1) (hSC : ∀ r0, r0 < r → SC V t n K p ((W p).2.1 r0).1 W) (kk : ∀ I' J', (∀ a, a ∉ [20, 29, 30, 31] → I' a = I a) → (∀ q, q ≠ 8 → q ≠ 9 → I' 20 q = I 20 q) → (∀ a, a ≠ 20 → a ≠ 28 → a ≠ 32 → J' a = J a) → CX I' J' V t n K (exs V t n K p r ((W p).2.1 r).1 W) → Q (none, (xK 2 L, P, I', J', xFr 2 c s))) : Wp (d + 4) 33 0 [some (.ref 20), some (.int (nI p)), some (.int (nI r)), none, none, none] [] (xK 2 L, P, I, J, xFr 2 c s) Q := by
  have hf : 2 < 3 := by decide
  have hn := hX.2.1.2.2.2.1
  have ht : ∀ j, j < n → t j < 256 := fun j hj => (hX.2.1.2.2.2.2.1 j hj).2
  have hB := hX.1.2.2.2
  have hC := hI.cu hp hr
  have hmK := (hI.1 p (by omega)).1
  have hrK : r < 40 := by omega
  have hkl := hI.key hn (show p ≤ n by omega) hr
  have hR := hX.2.2.2.2.1.1 p hp
  generalize hk : ((W p).2.1 r).1 = k at *
  have hkk0 := kk
  -- the literal
  have lit : ∀ I1 J1 W1, (∀ a, a ∉ [20, 29, 30, 31] → I1 a = I a) → (∀ q, q ≠ 8 → q ≠ 9 → I1 20 q = I 20 q) → (∀ a, a ≠ 20 → a ≠ 28 → a ≠ 32 → J1 a = J a) → CX I1 J1 V t n K W1 → IV V t n K W1 p → CU n p r k W1 → CG I1 J1 p r k → opw K W1 (p + 1) (eLi V t p r k) = exs V t n K p r k W → Wp (d + 4) 33 140 [some (.ref 20), none, none, none, none, none] [] (xK 2 L, P, I1, J1, xFr 2 c s) Q := by
    intro I1 J1 W1 ha hq hj h1 h2 h3 h4 he
    have hti := h1.2.1.2.2.2.2.1 p hp
    refine wX4_goFrom_140 (xK_lt hf hL) rfl rfl rfl rfl rfl rfl rfl ⟨p, h4.1, by omega, ?_⟩
    rw [hti.1]
    refine p_literalCost hf (by decide) hL h1.1 hti.2 ⟨_, _, _, rfl, ?_⟩
    all_goals try dsimp only
    rw [h4.2.2.2]
    have hpv := pv_li hB hn ht h3
    refine p_lead2 hL hK1 hK2 h2 h1 h4 hC.2.2.2.1 hp hrK (by omega) (by omega) (by decide) hpv (fun I2 J2 f1 f2 f3 => ⟨_, _, rfl, ?_⟩)
    all_goals try dsimp only
    refine kk I2 J2 (fun a haa => ?_) (fun q z1 z2 => by rw [f1.1 20 (by decide)]; exact hq q z1 z2) (fun a z1 z2 z3 => by rw [f1.2.1 a z2 z3]; exact hj a z1 z2 z3) ?_
    · simp at haa
      rw [f1.1 a (by simp; omega)]
      exact ha a (by simp; omega)
    · rw [← he]
      exact f2
  -- the agains
  have aga : ∀ u j I1 J1 W1, 4 - j = u → j ≤ 4 → (∀ a, a ∉ [20, 29, 30, 31] → I1 a = I a) → (∀ q, q ≠ 8 → q ≠ 9 → I1 20 q = I 20 q) → (∀ a, a ≠ 20 → a ≠ 28 → a ≠ 32 → J1 a = J a) → CX I1 J1 V t n K W1 → IV V t n K W1 p → CU n p r k W1 → CG I1 J1 p r k → W1 = ags V t n K p r k j (cpn V t n K p r k (lc t n 2 p) W) → Wp (d + 4) 33 53 [some (.ref 20), none, none, none, none, some (.int (nI j))] [] (xK 2 L, P, I1, J1, xFr 2 c s) Q := by
    intro u
    induction u with
    | zero =>
      intro j I1 J1 W1 hu hj ha hq hjj h1 h2 h3 h4 he
      have ej : j = 4 := by omega
      subst ej
      have hl0 := hC.2.2.2.1 0 (by decide)
      have hexs : exs V t n K p r k W = opw K (shw V t K p r k W1) (p + 1) (eLi V t p r k) := by
        rw [he]
        rfl
      have nosh : ¬ (el k 0 ≤ p ∧ t p = t (p - el k 0)) → Wp (d + 3 + 1) 33 140 [some (.ref 20), none, none, none, none, none] [] (xK 2 L, P, I1, J1, xFr 2 c s) Q := by
        intro hno
        refine lit I1 J1 W1 ha hq hjj h1 h2 h3 h4 ?_
        rw [hexs]
        unfold shw
        rw [if_neg hno]
      refine wX4_goFrom_53 (xK_lt hf hL) rfl rfl rfl rfl rfl rfl rfl (br1 (by first | (rw [nI_ltI (by omega) (by omega)]; omega) | (rw [nI_leI (by omega) (by omega)]; omega) | (rw [nI_eq (by omega) (by omega)]; omega) | (rw [nI_e0 (by omega)]; omega) | (rw [nI_le0 (by omega)]; omega)) ?_)
      rw [h4.2.2.2]
      refine p_at hC.2.2.2.1 (by decide) ⟨_, _, _, rfl, ?_⟩
      all_goals try dsimp only
      rw [h4.1]
      refine brc (nI_ltI (by omega) (by omega)) (fun h => nosh (fun z => by omega)) (fun h => ⟨p, rfl, by omega, p - el k 0, by rw [pk_sub (by omega)], by omega, ?_⟩)
      have hti := h1.2.1.2.2.2.2.1 p hp
      have htj := h1.2.1.2.2.2.2.1 (p - el k 0) (by omega)
      rw [hti.1, htj.1]
      refine brd (nI_eq (by omega) (by omega)) (fun h5 => nosh (fun z => h5 z.2)) (fun h5 => ?_)
      refine p_kindCost hf hL h1.1 (by decide) ⟨_, _, _, rfl, ?_⟩
      all_goals try dsimp only
      rw [h4.2.2.2]
      have hpv := pv_sh hB hn ht h3 (by omega) h5
      refine p_lead2 hL hK1 hK2 h2 h1 h4 hC.2.2.2.1 hp hrK (by omega) (by omega) (by decide) hpv (fun I2 J2 f1 f2 f3 => ⟨_, _, rfl, ?_⟩)
      all_goals try dsimp only
      try dsimp only
      refine lit I2 J2 _ (fun a haa => ?_) (fun q z1 z2 => by rw [f1.1 20 (by decide)]; exact hq q z1 z2) (fun a z1 z2 z3 => by rw [f1.2.1 a z2 z3]; exact hjj a z1 z2 z3) f2 (opw_IV hK1 h2 (by omega) (by omega) hpv) (h3.op (by omega)) f3 ?_
      · simp at haa
        rw [f1.1 a (by simp; omega)]
        exact ha a (by simp; omega)
      · rw [hexs]
        unfold shw
        rw [if_pos ⟨by omega, h5⟩]
        rfl
    | succ u ih =>
      intro j I1 J1 W1 hu hj ha hq hjj h1 h2 h3 h4 he
      refine wX4_goFrom_53 (xK_lt hf hL) rfl rfl rfl rfl rfl rfl rfl (br2 (by first | (rw [nI_ltI (by omega) (by omega)]; omega) | (rw [nI_leI (by omega) (by omega)]; omega) | (rw [nI_eq (by omega) (by omega)]; omega) | (rw [nI_e0 (by omega)]; omega) | (rw [nI_le0 (by omega)]; omega)) (p_leadByAgain hL hK1 hK2 h2 h1 h3 h4 hrK (by omega) (fun I2 J2 f1 f2 f3 f4 => ⟨_, _, rfl, ?_⟩)))
      all_goals try dsimp only
      try dsimp only
      rw [nI_add]
      have hkeep := agn_keep (V := V) (X := fun W => IV V t n K W p ∧ CU n p r k W) (B := sb t n 2 p (el k j)) (fun W l g1 g2 hx => ⟨opw_IV hK1 hx.1 (by omega) (by have hd := sb_ok g2 (by omega); omega) (pv_ag hB hn ht hx.2 (show j < 4 by omega) g1 g2), hx.2.op (by omega)⟩) _ _ (Nat.le_refl _) ⟨h2, h3⟩
      refine ih (j + 1) I2 J2 _ (by omega) (by omega) (fun a haa => ?_) (fun q z1 z2 => by rw [f1 20 (by decide)]; exact hq q z1 z2) (fun a z1 z2 z3 => by rw [f2 a z2 z3]; exact hjj a z1 z2 z3) f3 hkeep.1 hkeep.2 f4 ?_
      · simp at haa
        rw [f1 a (by simp; omega)]
        exact ha a (by simp; omega)
      · rw [he]
        rfl
  have hj28 := (hR.2.1 r hr).1
  rw [hk] at hj28
  refine wX4_goFrom_0 (f1 := 28) (xK_lt hf hL) rfl rfl rfl ⟨40 * p + r, by rw [pk_mul, nI_add, Nat.mul_comm p 40], by omega, ?_⟩
  rw [hj28, xmask (by omega), wb_shr (by omega) (by decide), ← lp_el]
  -- the state's own fields
  have a0 : xag I (xup (xup I 20 8 (nI p)) 20 9 (nI r)) [20] := (xag.rfl.up (by simp)).up (by simp)
  have hjo : ∀ a, a ≠ 20 → xup (xup J 20 10 (lN (k / 2 ^ 36))) 20 11 (lN (lp (el k))) a = J a := fun a z => by rw [xup_ne _ _ _ z, xup_ne _ _ _ z]
  have hG : CG (xup (xup I 20 8 (nI p)) 20 9 (nI r)) (xup (xup J 20 10 (lN (k / 2 ^ 36))) 20 11 (lN (lp (el k)))) p r k := by
    refine ⟨?_, ?_, ?_, ?_⟩
    · rw [xup_at, if_neg (by decide), xup_at, if_pos rfl]
    · rw [xup_at, if_pos rfl]
    · rw [xup_at, if_neg (by decide), xup_at, if_pos rfl]
    · rw [xup_at, if_pos rfl]
  have hq0 : ∀ q, q ≠ 8 → q ≠ 9 → xup (xup I 20 8 (nI p)) 20 9 (nI r) 20 q = I 20 q := fun q z1 z2 => by rw [xup_at, if_neg z2, xup_at, if_neg z1]
  have hX0 : CX (xup (xup I 20 8 (nI p)) 20 9 (nI r)) (xup (xup J 20 10 (lN (k / 2 ^ 36))) 20 11 (lN (lp (el k)))) V t n K W := by
    refine ⟨hX.1.ag a0 (by decide), hX.2.1.ag a0 (by decide) (by decide) (by decide) (by decide) (by decide), ?_, by rw [hq0 7 (by decide) (by decide)]; exact hX.2.2.2.1, hX.2.2.2.2.1.ag ⟨a0 29 (by decide), a0 30 (by decide), a0 31 (by decide)⟩ ⟨hjo 28 (by decide), hjo 32 (by decide)⟩, by rw [a0 29 (by decide)]; exact hX.2.2.2.2.2⟩
    unfold PR
    rw [a0 13 (by decide), a0 14 (by decide)]
    exact hX.2.2.1
  refine p_copiesWereLed hL hn hI hp (by omega) (by omega) hkl (hR.ag ⟨a0 29 (by decide), a0 30 (by decide), a0 31 (by decide)⟩ ⟨hjo 28 (by decide), hjo 32 (by decide)⟩) hG (fun b hb hb2 => ⟨_, _, _, rfl, ?_⟩)
  all_goals try dsimp only
  try dsimp only
  refine brd (nI_e0 (by omega)) (fun h => ?_) (fun h => ?_)
  · obtain ⟨r0, hr0, hrl⟩ := hb.mp (by omega)
    have hsort := (hI.1 p (by omega)).2.1 r0 r hr0 hr
    rw [hk] at hsort
    have hno := cpn_no (V := V) (t := t) (r := r) (k := k) hI.1 (hSC r0 hr0) (Nat.div_le_div_right (by omega)) (fun j hj => (el3 hrl hj).symm) (hI.cu hp (show r0 < (W p).1 by omega)).2.2.2.1 hC.2.2.2.1 (by omega) (lc t n 2 p) (Nat.le_refl _)
    exact aga 4 0 _ _ W rfl (by omega) (fun a haa => a0 a (by simp at haa ⊢; omega)) hq0 (fun a z1 z2 z3 => hjo a z1) hX0 hI hC hG hno.symm
  · refine p_leadByCopies hL hK1 hK2 hI hX0 hC hG hrK (fun I2 J2 f1 f2 f3 f4 => ⟨_, _, rfl, ?_⟩)
    all_goals try dsimp only
    try dsimp only
    have hkeep := cpn_keep (V := V) (X := fun W => IV V t n K W p ∧ CU n p r k W) (fun W l g1 g2 hx => ⟨opw_IV hK1 hx.1 (by omega) (lc2 g1 g2).2.1 (pv_cp hB hn ht hx.2 g1 g2), hx.2.op (by omega)⟩) (lc t n 2 p) W (Nat.le_refl _) ⟨hI, hC⟩
    refine aga 4 0 I2 J2 _ rfl (by omega) (fun a haa => ?_) (fun q z1 z2 => by rw [f1 20 (by decide)]; exact hq0 q z1 z2) (fun a z1 z2 z3 => by rw [f2 a z2 z3]; exact hjo a z1) f3 hkeep.1 hkeep.2 f4 rfl
    simp at haa
    rw [f1 a (by simp; omega)]
    exact a0 a (by simp; omega)
end WDC2
