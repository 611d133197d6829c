/-! SPLITS and CUTS, in the reference: the sets, the cut -/
section SPM2
variable {d f L c s n cn hd : Nat} {t C : Nat → Nat} {Q : Option Value × xS → Prop} {P : List Nat × Nat × Nat} {I : Nat → Nat → Int32} {J : Nat → Nat → Int64}
/-- is set x better than set b? i is where they first differ -/
def lsX (bc : Nat → Nat → Nat) (cn x b i : Nat) : Prop := kc2 bc (sgx x) cn 0 1 < kc2 bc (sgx b) cn 0 1 ∨ (kc2 bc (sgx x) cn 0 1 = kc2 bc (sgx b) cn 0 1 ∧ (pn cn x < pn cn b ∨ (pn cn x = pn cn b ∧ x / 2 ^ i % 2 = 1)))
theorem p_split43 (hf : f < 3) (hL : L < 2147483648) (hc : cn ≤ 12) (h7 : I 59 7 = nI cn) {bc : Nat → Nat → Nat} (hbl : ∀ a b, a < b → b ≤ cn + 1 → bc a b ≤ 600000) (hB : ∀ a b, a < b → b ≤ cn + 1 → J 106 (14 * a + b) = lN (bc a b)) {x b i : Nat} (hx : x < 2 ^ cn) (hb : b < 2 ^ cn) (hi : i < cn) (h1 : ∀ i', i' < i → x / 2 ^ i' % 2 = b / 2 ^ i' % 2) (h2 : x / 2 ^ i % 2 ≠ b / 2 ^ i % 2) (tk : lsX bc cn x b i → Wp (d + 1) 159 43 [some (.ref 59), none, some (.int (nI x)), some (.long (lN (kc2 bc (sgx x) cn 0 1))), none, some (.int (nI (x + 1))), none, none] [] (xK f L, P, I, J, xFr f c s) Q) (kp : ¬ lsX bc cn x b i → Wp (d + 1) 159 43 [some (.ref 59), none, some (.int (nI b)), some (.long (lN (kc2 bc (sgx b) cn 0 1))), none, some (.int (nI (x + 1))), none, none] [] (xK f L, P, I, J, xFr f c s) Q) : Wp (d + 1) 159 43 [some (.ref 59), none, some (.int (nI b)), some (.long (lN (kc2 bc (sgx b) cn 0 1))), none, some (.int (nI x)), none, none] [] (xK f L, P, I, J, xFr f c s) Q := by
  have hx12 : 2 ^ cn ≤ 4096 := Nat.pow_le_pow_right (show 0 < 2 by decide) hc
  have k1 := kc2_le (σ := sgx x) hbl cn 0 1 (by omega) (by omega)
  have k2 := kc2_le (σ := sgx b) hbl cn 0 1 (by omega) (by omega)
  have k3 : (cn + 1) * 600000 ≤ 13 * 600000 := Nat.mul_le_mul_right _ (by omega)
  have p1 := pn_le cn x
  have p2 := pn_le cn b
  have hsl : nI 1 <<< (nI cn &&& 31) = nI (2 ^ cn) := by
    rw [pk_shlN (n := 1) _ cn (xs31 cn (by omega)) (by omega), Nat.one_mul]
  refine wX11_split_43 rfl ?_
  rw [h7, hsl]
  refine br2 (by first | (rw [nI_ltI (by omega) (by omega)]; omega) | (rw [nI_leI (by omega) (by omega)]; omega) | (rw [nI_eq (by omega) (by omega)]; omega) | (rw [nI_e0 (by omega)]; omega) | (rw [nI_le0 (by omega)]; omega)) ?_
  refine p_setCostM hf hL hc h7 hB hx ⟨_, _, _, rfl, ?_⟩
  all_goals try dsimp only
  rw [nI_add]
  unfold lsX at tk kp
  generalize kc2 bc (sgx x) cn 0 1 = cx at *
  generalize kc2 bc (sgx b) cn 0 1 = cb at *
  refine brc (p := cx < cb) (by rw [lg_cmp_lt, pk_lLT (by omega) (by omega)]) (fun h => tk (Or.inl h)) (fun h => ?_)
  refine brd (p := cx = cb) (by rw [lg_cmp_eq, pk_lEQ (by omega) (by omega)]) (fun h3 => kp (by omega)) (fun h3 => ?_)
  refine p_count hx hc ⟨_, _, _, rfl, ?_⟩
  all_goals try dsimp only
  refine p_count hb hc ⟨_, _, _, rfl, ?_⟩
  all_goals try dsimp only
  refine brc (nI_ltI (by omega) (by omega)) (fun h4 => tk (Or.inr ⟨h3, Or.inl h4⟩)) (fun h4 => ?_)
  refine p_count hx hc ⟨_, _, _, rfl, ?_⟩
  all_goals try dsimp only
  refine p_count hb hc ⟨_, _, _, rfl, ?_⟩
  all_goals try dsimp only
  refine brd (nI_eq (by omega) (by omega)) (fun h5 => kp (by omega)) (fun h5 => ?_)
  refine p_isBefore (by omega) (by omega) (by omega) h1 h2 ⟨_, _, _, rfl, ?_⟩
  all_goals try dsimp only
  refine brc (nI_e0 (by omega)) (fun h6 => kp (by omega)) (fun h6 => tk (Or.inr ⟨h3, Or.inr ⟨h5, by omega⟩⟩))
theorem p_splitM (hf : f < 3) (hL : L < 2147483648) (hT : MT I n t) (hn0 : 1 ≤ n) (hK : MK I cn C) (hS : CS n cn C) (hh : hd ≤ 100000) (k : ∀ I' J', xag I I' [59, 68, 99] → (∀ q, q ≠ 0 → q ≠ 9 → I' 59 q = I 59 q) → I' 59 0 = nI 0 → I' 59 9 = nI (tcn (sgp (bcs t C cn n hd) cn) cn) → (∀ i, i < tcn (sgp (bcs t C cn n hd) cn) cn → I' 68 i = nI (tkl (sgp (bcs t C cn n hd) cn) C cn i)) → (∀ a, a ≠ 106 → J' a = J a) → Q (some (.long (lN (TT (bcs t C cn n hd) cn 0).1)), (xK f L, P, I', J', xFr f c s))) : Wp (d + 4) 159 0 [some (.ref 59), some (.int (nI hd)), none, none, none, none, none, none] [] (xK f L, P, I, J, xFr f c s) Q := by
  have hn := hT.2.1
  have hc := hS.1
  have ht : ∀ j, j < n → t j < 256 := fun j hj => (hT.2.2 j hj).2
  have hx12 : 2 ^ cn ≤ 4096 := Nat.pow_le_pow_right (show 0 < 2 by decide) hc
  have hpow : 1 ≤ 2 ^ cn := Nat.one_le_two_pow
  have hbl : ∀ a b, a < b → b ≤ cn + 1 → bcs t C cn n hd a b ≤ 600000 := fun a b z1 z2 => (bcs_le (t := t) hS hn0 hn ht hh z1 z2).1
  have hpv := path_val (bc := bcs t C cn n hd) hc
  have hnu := nu_lt (sgp (bcs t C cn n hd) cn) cn 1
  have ha0 : xag I (xup I 59 0 (nI 0)) [59] := xag.rfl.up (by simp)
  have h59 : ∀ q, q ≠ 0 → xup I 59 0 (nI 0) 59 q = I 59 q := fun q hq => by rw [xup_at, if_neg hq]
  have hT0 : MT (xup I 59 0 (nI 0)) n t := ⟨by rw [h59 3 (by decide)]; exact hT.1, hn, by rw [xup_ne _ _ _ (by decide)]; exact hT.2.2⟩
  have hK0 : MK (xup I 59 0 (nI 0)) cn C := ⟨by rw [h59 7 (by decide)]; exact hK.1, by rw [xup_ne _ _ _ (by decide)]; exact hK.2⟩
  refine wX11_split_0 rfl (br2 (nI_pos (by omega)) (br2 (by first | (rw [nI_ltI (by omega) (by omega)]; omega) | (rw [nI_leI (by omega) (by omega)]; omega) | (rw [nI_eq (by omega) (by omega)]; omega) | (rw [nI_e0 (by omega)]; omega) | (rw [nI_le0 (by omega)]; omega)) ?_))
  rw [hT0.1]
  refine bn1 (by first | (rw [nI_ltI (by omega) (by omega)]; omega) | (rw [nI_leI (by omega) (by omega)]; omega) | (rw [nI_eq (by omega) (by omega)]; omega) | (rw [nI_e0 (by omega)]; omega) | (rw [nI_le0 (by omega)]; omega)) ?_
  refine p_fillBlocksM hf hL hT0 hn0 hK0 hS hh (fun I1 J1 a1 a2 a3 => ⟨_, _, rfl, ?_⟩)
  all_goals try dsimp only
  have hK1 := hK0.ag a1 (by decide)
  refine p_setCostM hf hL hc hK1.1 a3 (x := 0) (by omega) ⟨_, _, _, rfl, ?_⟩
  all_goals try dsimp only
  -- the cuts of the best set
  have fin : ∀ w j I2, cn - j = w → j ≤ cn → xag I1 I2 [59, 68] → (∀ q, q ≠ 9 → I2 59 q = I1 59 q) → I2 59 9 = nI (tcn (sgp (bcs t C cn n hd) cn) j) → (∀ i, i < tcn (sgp (bcs t C cn n hd) cn) j → I2 68 i = nI (tkl (sgp (bcs t C cn n hd) cn) C j i)) → Wp (d + 4) 159 129 [some (.ref 59), none, some (.int (nI (nu (sgp (bcs t C cn n hd) cn) cn 1))), some (.long (lN (kc2 (bcs t C cn n hd) (sgx (nu (sgp (bcs t C cn n hd) cn) cn 1)) cn 0 1))), none, some (.int (nI j)), none, none] [] (xK f L, P, I2, J1, xFr f c s) Q := by
    intro w
    induction w with
    | zero =>
      intro j I2 hw hj b1 b2 b3 b4
      have e : j = cn := by omega
      subst e
      have h7 : I2 59 7 = nI j := by rw [b2 7 (by decide)]; exact hK1.1
      refine wX11_split_129 (xK_lt hf hL) rfl rfl rfl rfl rfl (br1 (by rw [h7]; first | (rw [nI_ltI (by omega) (by omega)]; omega) | (rw [nI_leI (by omega) (by omega)]; omega) | (rw [nI_eq (by omega) (by omega)]; omega) | (rw [nI_e0 (by omega)]; omega) | (rw [nI_le0 (by omega)]; omega)) ?_)
      rw [hpv.2]
      refine k I2 J1 (fun a ha => ?_) (fun q z1 z2 => by rw [b2 q z2, a1 59 (by decide)]; exact h59 q z1) (by rw [b2 0 (by decide), a1 59 (by decide), xup_at, if_pos rfl]) b3 b4 a2
      simp at ha
      rw [b1 a (by simp; omega), a1 a (by simp; omega)]
      exact ha0 a (by simp; omega)
    | succ w ih =>
      intro j I2 hw hj b1 b2 b3 b4
      have h7 : I2 59 7 = nI cn := by rw [b2 7 (by decide)]; exact hK1.1
      have hbit : (nI (nu (sgp (bcs t C cn n hd) cn) cn 1) >>> (nI j &&& 31)) &&& nI 1 = nI (nu (sgp (bcs t C cn n hd) cn) cn 1 / 2 ^ j % 2) := by
        rw [xshr (by omega) (by omega)]
        exact xmaskI (k := 1) (Nat.lt_of_le_of_lt (Nat.div_le_self _ _) (by omega)) (by decide)
      have hnb := nu_bit (sgp (bcs t C cn n hd) cn) cn 1 j (by omega)
      rw [Nat.add_comm 1 j] at hnb
      have htc := tcn_le (sgp (bcs t C cn n hd) cn) j
      refine wX11_split_129 (xK_lt hf hL) rfl rfl rfl rfl rfl (br2 (by rw [h7]; first | (rw [nI_ltI (by omega) (by omega)]; omega) | (rw [nI_leI (by omega) (by omega)]; omega) | (rw [nI_eq (by omega) (by omega)]; omega) | (rw [nI_e0 (by omega)]; omega) | (rw [nI_le0 (by omega)]; omega)) ?_)
      rw [hbit, nI_add]
      refine brd (p := nu (sgp (bcs t C cn n hd) cn) cn 1 / 2 ^ j % 2 = 1) (nI_eq (by omega) (by omega)) (fun h => ?_) (fun h => ⟨j, rfl, by omega, tcn (sgp (bcs t C cn n hd) cn) j, b3, by omega, ?_⟩)
      · have hs : ¬ sgp (bcs t C cn n hd) cn (j + 1) = true := fun z => h (hnb.mpr z)
        refine ih (j + 1) I2 (by omega) (by omega) b1 b2 ?_ ?_
        · rw [tcn, if_neg hs]
          exact b3
        · rw [tcn, if_neg hs, tkl, if_neg hs]
          exact b4
      · have hs : sgp (bcs t C cn n hd) cn (j + 1) = true := hnb.mp h
        have h66 : I2 66 j = nI (C j) := by rw [b1 66 (by decide)]; exact hK1.2 j (by omega)
        rw [h66]
        refine ih (j + 1) _ (by omega) (by omega) ((b1.up (by simp)).up (by simp)) (fun q hq => by rw [xup_at, if_neg hq, xup_ne _ _ _ (by decide)]; exact b2 q hq) ?_ (fun i hi => ?_)
        · rw [xup_at, if_pos rfl, xup_ne _ _ _ (by decide), b3, nI_add, tcn, if_pos hs]
        · rw [tcn, if_pos hs] at hi
          rw [xup_ne _ _ _ (by decide), xup_at, tkl, if_pos hs]
          by_cases ei : i = tcn (sgp (bcs t C cn n hd) cn) j
          · rw [if_pos ei, ei, va_up_self]
          · rw [if_neg ei, va_up_ne _ _ ei]
            exact b4 i (by omega)
  -- all sets
  have loop : ∀ w x b, 2 ^ cn - x = w → 1 ≤ x → x ≤ 2 ^ cn → b < x → (nu (sgp (bcs t C cn n hd) cn) cn 1 < x → b = nu (sgp (bcs t C cn n hd) cn) cn 1) → Wp (d + 4) 159 43 [some (.ref 59), none, some (.int (nI b)), some (.long (lN (kc2 (bcs t C cn n hd) (sgx b) cn 0 1))), none, some (.int (nI x)), none, none] [] (xK f L, P, I1, J1, xFr f c s) Q := by
    intro w
    induction w with
    | zero =>
      intro x b hw hx1 hx2 hbx hin
      have e : x = 2 ^ cn := by omega
      have hb := hin (by omega)
      subst hb
      have hsl : nI 1 <<< (nI cn &&& 31) = nI (2 ^ cn) := by
        rw [pk_shlN (n := 1) _ cn (xs31 cn (by omega)) (by omega), Nat.one_mul]
      refine wX11_split_43 rfl ?_
      rw [hK1.1, hsl]
      refine br1 (by first | (rw [nI_ltI (by omega) (by omega)]; omega) | (rw [nI_leI (by omega) (by omega)]; omega) | (rw [nI_eq (by omega) (by omega)]; omega) | (rw [nI_e0 (by omega)]; omega) | (rw [nI_le0 (by omega)]; omega)) ?_
      exact fin cn 0 _ rfl (Nat.zero_le _) (xag.rfl.up (by simp)) (fun q hq => by rw [xup_at, if_neg hq]) (by rw [xup_at, if_pos rfl]; rfl) (fun i hi => absurd hi (Nat.not_lt_zero _))
    | succ w ih =>
      intro x b hw hx1 hx2 hbx hin
      obtain ⟨i, hi1, hi2, hi3⟩ := fdiff cn x b (by omega) (by omega) (by omega)
      have hks : ∀ y, ks (bcs t C cn n hd) (sgx y) cn 0 1 = 16 * kc2 (bcs t C cn n hd) (sgx y) cn 0 1 + (pn cn y + 1) := fun y => by
        have := ks_split (bc := bcs t C cn n hd) (x := y) cn 0 1 (Nat.le_refl _)
        rw [Nat.sub_self, Nat.pow_zero, Nat.div_one] at this
        exact this
      have hun : ∀ y i', (∀ i'', i'' < i' → y / 2 ^ i'' % 2 = nu (sgp (bcs t C cn n hd) cn) cn 1 / 2 ^ i'' % 2) → y / 2 ^ i' % 2 = 0 → nu (sgp (bcs t C cn n hd) cn) cn 1 / 2 ^ i' % 2 = 1 → ∀ j, (∀ j', j' < j → y / 2 ^ j' % 2 = nu (sgp (bcs t C cn n hd) cn) cn 1 / 2 ^ j' % 2) → y / 2 ^ j % 2 ≠ nu (sgp (bcs t C cn n hd) cn) cn 1 / 2 ^ j % 2 → j = i' := fun y i' z1 z2 z3 j z4 z5 => by
        rcases Nat.lt_trichotomy j i' with z | z | z
        · exact absurd (z1 j z) z5
        · exact z
        · have := z4 i' z
          omega
      refine p_split43 hf hL hc hK1.1 hbl a3 (by omega) (by omega) hi1 hi2 hi3 (fun hls => ?_) (fun hls => ?_)
      · refine ih (x + 1) x (by omega) (by omega) (by omega) (by omega) (fun hz => ?_)
        by_cases e : x = nu (sgp (bcs t C cn n hd) cn) cn 1
        · exact e
        · exfalso
          have hb := hin (by omega)
          subst hb
          have hp := hpv.1
          rw [hks] at hp
          have hq1 := pn_le cn x
          have hq2 := pn_le cn (nu (sgp (bcs t C cn n hd) cn) cn 1)
          rcases set_best (bc := bcs t C cn n hd) hc (show x < 2 ^ cn by omega) e with z | ⟨z1, i', z2, z3, z4, z5⟩
          · rw [hks] at z
            unfold lsX at hls
            omega
          · have hii := hun x i' z3 z4 z5 i hi2 hi3
            subst hii
            rw [hks] at z1
            unfold lsX at hls
            omega
      · refine ih (x + 1) b (by omega) (by omega) (by omega) (by omega) (fun hz => ?_)
        by_cases e : x = nu (sgp (bcs t C cn n hd) cn) cn 1
        · exfalso
          have hbn : b ≠ nu (sgp (bcs t C cn n hd) cn) cn 1 := by omega
          have hp := hpv.1
          rw [hks] at hp
          have hq1 := pn_le cn b
          have hq2 := pn_le cn (nu (sgp (bcs t C cn n hd) cn) cn 1)
          rw [e] at hls hi2 hi3
          rcases set_best (bc := bcs t C cn n hd) hc (show b < 2 ^ cn by omega) hbn with z | ⟨z1, i', z2, z3, z4, z5⟩
          · rw [hks] at z
            unfold lsX at hls
            omega
          · have hii := hun b i' z3 z4 z5 i (fun j' hj' => (hi2 j' hj').symm) (fun z => hi3 z.symm)
            subst hii
            rw [hks] at z1
            unfold lsX at hls
            omega
        · exact hin (by omega)
  exact loop _ 1 0 rfl (Nat.le_refl _) (by omega) (by omega) (fun z => by omega)
theorem p_cutM (hf : f < 3) (hL : L < 2147483648) (hN : I 59 3 = nI n) (hn : n ≤ 300) (hK : MK I cn C) (hS : CS n cn C) {x : Int32} (k1 : ∀ p I', CutOk n cn C x p → xag I I' [59, 66] → (∀ q, q ≠ 0 → q ≠ 7 → I' 59 q = I 59 q) → I' 59 0 = nI 0 → MK I' (cn + 1) (insC C (cki C cn p) p) → Q (some (.int (nI (cn + 1))), (xK f L, P, I', J, xFr f c s))) (k0 : (∀ p, ¬ CutOk n cn C x p) → Q (some (.int (-1)), (xK f L, P, xup I 59 0 (nI 0), J, xFr f c s))) : Wp d 153 0 [some (.ref 59), some (.int x), none, none] [] (xK f L, P, I, J, xFr f c s) Q := by
  have hc := hS.1
  have h59 : ∀ q, q ≠ 0 → xup I 59 0 (nI 0) 59 q = I 59 q := fun q hq => by rw [xup_at, if_neg hq]
  have hK0 : MK (xup I 59 0 (nI 0)) cn C := ⟨by rw [h59 7 (by decide)]; exact hK.1, by rw [xup_ne _ _ _ (by decide)]; exact hK.2⟩
  have hN0 : xup I 59 0 (nI 0) 59 3 = nI n := by rw [h59 3 (by decide)]; exact hN
  have ha0 : xag I (xup I 59 0 (nI 0)) [59] := xag.rfl.up (by simp)
  have h00 : xup I 59 0 (nI 0) 59 0 = nI 0 := by rw [xup_at, if_pos rfl]
  refine wX11_cut_0 rfl ?_
  generalize xup I 59 0 (nI 0) = I0 at *
  rcases nI_ix x (n := n) (by omega) with ⟨p, hp, hx⟩ | hx
  · subst hx
    by_cases e0 : 1 ≤ p
    · by_cases e1 : cn < 12
      · have hkl := cki_le C cn p
        have mv : ¬ (cki C cn p < cn ∧ C (cki C cn p) = p) → ∀ w j I1, j - cki C cn p = w → cki C cn p ≤ j → j ≤ cn → xag I0 I1 [66] → (∀ i, i ≤ cn → I1 66 i = if j < i then nI (C (i - 1)) else I0 66 i) → Wp d 153 79 [some (.ref 59), some (.int (nI p)), some (.int (nI (cki C cn p))), some (.int (nI j))] [] (xK f L, P, I1, J, xFr f c s) Q := by
          intro hnot w
          induction w with
          | zero =>
            intro j I1 hw hj1 hj2 ha h1
            have e : j = cki C cn p := by omega
            subst e
            refine wX11_cut_79 (xK_lt hf hL) rfl rfl rfl (br1 (by first | (rw [nI_ltI (by omega) (by omega)]; omega) | (rw [nI_leI (by omega) (by omega)]; omega) | (rw [nI_eq (by omega) (by omega)]; omega) | (rw [nI_e0 (by omega)]; omega) | (rw [nI_le0 (by omega)]; omega)) ⟨cki C cn p, rfl, by omega, ?_⟩)
            rw [show (xup I1 66 (cki C cn p) (nI p)) 59 7 = nI cn by rw [xup_ne _ _ _ (by decide), ha 59 (by decide)]; exact hK0.1, nI_add, xup_at, if_pos rfl]
            refine k1 p _ ⟨rfl, e0, hp, e1, hnot⟩ (xag.up (xag.up (xag.tw ha0 ha ⟨by simp, by simp⟩) (by simp)) (by simp)) (fun q hq0 hq => by rw [xup_at, if_neg hq, xup_ne _ _ _ (by decide), ha 59 (by decide)]; exact h59 q hq0) (by rw [xup_at, if_neg (by decide), xup_ne _ _ _ (by decide), ha 59 (by decide)]; exact h00) ⟨by rw [xup_at, if_pos rfl], fun i hi => ?_⟩
            rw [xup_ne _ _ _ (by decide), xup_at]
            unfold insC
            by_cases z : i = cki C cn p
            · rw [if_pos z, if_pos z]
            · rw [if_neg z, if_neg z, h1 i (by omega)]
              by_cases z2 : cki C cn p < i
              · rw [if_pos z2, if_pos z2]
              · rw [if_neg z2, if_neg z2]
                exact hK0.2 i (by omega)
          | succ w ih =>
            intro j I1 hw hj1 hj2 ha h1
            refine wX11_cut_79 (xK_lt hf hL) rfl rfl rfl (br2 (by first | (rw [nI_ltI (by omega) (by omega)]; omega) | (rw [nI_leI (by omega) (by omega)]; omega) | (rw [nI_eq (by omega) (by omega)]; omega) | (rw [nI_e0 (by omega)]; omega) | (rw [nI_le0 (by omega)]; omega)) ⟨j - 1, pk_sub (by omega), by omega, j, rfl, by omega, ?_⟩)
            rw [xm1, pk_sub (by omega)]
            refine ih (j - 1) _ (by omega) (by omega) (by omega) (ha.up (by simp)) (fun i hi => ?_)
            rw [xup_at]
            by_cases z : i = j
            · rw [if_pos z, if_pos (by omega), h1 (j - 1) (by omega), if_neg (by omega), z]
              exact hK0.2 (j - 1) (by omega)
            · rw [if_neg z, h1 i hi]
              by_cases z2 : j < i
              · rw [if_pos z2, if_pos (by omega)]
              · rw [if_neg z2, if_neg (by omega)]
        have at53 : Wp d 153 54 [some (.ref 59), some (.int (nI p)), some (.int (nI (cki C cn p))), none] [] (xK f L, P, I0, J, xFr f c s) Q := by
          by_cases e2 : cki C cn p < cn
          · refine wX11_cut_54 (xK_lt hf hL) rfl rfl rfl (br2 (by rw [hK0.1]; first | (rw [nI_ltI (by omega) (by omega)]; omega) | (rw [nI_leI (by omega) (by omega)]; omega) | (rw [nI_eq (by omega) (by omega)]; omega) | (rw [nI_e0 (by omega)]; omega) | (rw [nI_le0 (by omega)]; omega)) ⟨cki C cn p, rfl, by omega, ?_⟩)
            rw [hK0.2 _ e2, hK0.1]
            have hCl := (hS.2.1 _ e2).2
            refine brd (nI_eq (by omega) (by omega)) (fun h => mv (fun z => h z.2) _ cn I0 rfl hkl (Nat.le_refl _) xag.rfl (fun i hi => by rw [if_neg (by omega)])) (fun h => k0 (fun p' hp' => ?_))
            have : p = p' := (nI_eq (by omega) (by have := hp'.2.2.1; omega)).mp hp'.1
            subst this
            exact hp'.2.2.2.2 ⟨e2, h⟩
          · refine wX11_cut_54 (xK_lt hf hL) rfl rfl rfl (br1 (by rw [hK0.1]; first | (rw [nI_ltI (by omega) (by omega)]; omega) | (rw [nI_leI (by omega) (by omega)]; omega) | (rw [nI_eq (by omega) (by omega)]; omega) | (rw [nI_e0 (by omega)]; omega) | (rw [nI_le0 (by omega)]; omega)) ?_)
            rw [hK0.1]
            exact mv (fun z => e2 z.1) _ cn I0 rfl hkl (Nat.le_refl _) xag.rfl (fun i hi => by rw [if_neg (by omega)])
        have loop : ∀ w j, cki C cn p - j = w → j ≤ cki C cn p → Wp d 153 30 [some (.ref 59), some (.int (nI p)), some (.int (nI j)), none] [] (xK f L, P, I0, J, xFr f c s) Q := by
          intro w
          induction w with
          | zero =>
            intro j hw hj
            have e : j = cki C cn p := by omega
            subst e
            by_cases e2 : cki C cn p < cn
            · refine wX11_cut_30 (xK_lt hf hL) rfl rfl rfl (br2 (by rw [hK0.1]; first | (rw [nI_ltI (by omega) (by omega)]; omega) | (rw [nI_leI (by omega) (by omega)]; omega) | (rw [nI_eq (by omega) (by omega)]; omega) | (rw [nI_e0 (by omega)]; omega) | (rw [nI_le0 (by omega)]; omega)) ⟨cki C cn p, rfl, by omega, ?_⟩)
              rw [hK0.2 _ e2]
              have h1 := cki_at e2
              have h2 := (hS.2.1 _ e2).2
              exact br1 (by first | (rw [nI_ltI (by omega) (by omega)]; omega) | (rw [nI_leI (by omega) (by omega)]; omega) | (rw [nI_eq (by omega) (by omega)]; omega) | (rw [nI_e0 (by omega)]; omega) | (rw [nI_le0 (by omega)]; omega)) at53
            · exact wX11_cut_30 (xK_lt hf hL) rfl rfl rfl (br1 (by rw [hK0.1]; first | (rw [nI_ltI (by omega) (by omega)]; omega) | (rw [nI_leI (by omega) (by omega)]; omega) | (rw [nI_eq (by omega) (by omega)]; omega) | (rw [nI_e0 (by omega)]; omega) | (rw [nI_le0 (by omega)]; omega)) at53)
          | succ w ih =>
            intro j hw hj
            refine wX11_cut_30 (xK_lt hf hL) rfl rfl rfl (br2 (by rw [hK0.1]; first | (rw [nI_ltI (by omega) (by omega)]; omega) | (rw [nI_leI (by omega) (by omega)]; omega) | (rw [nI_eq (by omega) (by omega)]; omega) | (rw [nI_e0 (by omega)]; omega) | (rw [nI_le0 (by omega)]; omega)) ⟨j, rfl, by omega, ?_⟩)
            rw [hK0.2 j (by omega)]
            have h1 := cki_lt (C := C) (cn := cn) (p := p) (j := j) (by omega)
            refine br2 (by first | (rw [nI_ltI (by omega) (by omega)]; omega) | (rw [nI_leI (by omega) (by omega)]; omega) | (rw [nI_eq (by omega) (by omega)]; omega) | (rw [nI_e0 (by omega)]; omega) | (rw [nI_le0 (by omega)]; omega)) ?_
            rw [nI_add]
            exact ih (j + 1) (by omega) (by omega)
        exact br2 (by first | (rw [nI_ltI (by omega) (by omega)]; omega) | (rw [nI_leI (by omega) (by omega)]; omega) | (rw [nI_eq (by omega) (by omega)]; omega) | (rw [nI_e0 (by omega)]; omega) | (rw [nI_le0 (by omega)]; omega)) (br2 (by rw [hN0]; first | (rw [nI_ltI (by omega) (by omega)]; omega) | (rw [nI_leI (by omega) (by omega)]; omega) | (rw [nI_eq (by omega) (by omega)]; omega) | (rw [nI_e0 (by omega)]; omega) | (rw [nI_le0 (by omega)]; omega)) (bn1 (by rw [hK0.1]; first | (rw [nI_ltI (by omega) (by omega)]; omega) | (rw [nI_leI (by omega) (by omega)]; omega) | (rw [nI_eq (by omega) (by omega)]; omega) | (rw [nI_e0 (by omega)]; omega) | (rw [nI_le0 (by omega)]; omega)) (loop _ 0 rfl (Nat.zero_le _))))
      · exact br2 (by first | (rw [nI_ltI (by omega) (by omega)]; omega) | (rw [nI_leI (by omega) (by omega)]; omega) | (rw [nI_eq (by omega) (by omega)]; omega) | (rw [nI_e0 (by omega)]; omega) | (rw [nI_le0 (by omega)]; omega)) (br2 (by rw [hN0]; first | (rw [nI_ltI (by omega) (by omega)]; omega) | (rw [nI_leI (by omega) (by omega)]; omega) | (rw [nI_eq (by omega) (by omega)]; omega) | (rw [nI_e0 (by omega)]; omega) | (rw [nI_le0 (by omega)]; omega)) (bn2 (by rw [hK0.1]; first | (rw [nI_ltI (by omega) (by omega)]; omega) | (rw [nI_leI (by omega) (by omega)]; omega) | (rw [nI_eq (by omega) (by omega)]; omega) | (rw [nI_e0 (by omega)]; omega) | (rw [nI_le0 (by omega)]; omega)) (k0 (fun p' hp' => e1 hp'.2.2.2.1))))
    · refine br1 (by first | (rw [nI_ltI (by omega) (by omega)]; omega) | (rw [nI_leI (by omega) (by omega)]; omega) | (rw [nI_eq (by omega) (by omega)]; omega) | (rw [nI_e0 (by omega)]; omega) | (rw [nI_le0 (by omega)]; omega)) (k0 (fun p' hp' => ?_))
      have : p' = p := (nI_eq (by omega) (by have := hp'.2.2.1; omega)).mp hp'.1 |>.symm
      have := hp'.2.1
      omega
  · have no := nI_no (n := n) (by omega) hx
    have kq := k0 (fun p' hp' => no p' hp'.2.2.1 hp'.1)
    refine ⟨fun _ => kq, fun hx1 => ?_⟩
    rw [hN0]
    refine br1 ?_ kq
    rcases hx with hx | hx
    · exact absurd (Int32.le_of_lt hx) hx1
    · exact hx
end SPM2
