/-! SPLITS and CUTS, in the reference -/
theorem lN_mul2 (a b : Nat) : lN a * lN b = lN (a * b) := by
  apply wb_inj
  show BitVec.ofNat 64 a * BitVec.ofNat 64 b = BitVec.ofNat 64 (a * b)
  rw [BitVec.ofNat_mul]
def MK (I : Nat → Nat → Int32) (cn : Nat) (C : Nat → Nat) : Prop := I 59 7 = nI cn ∧ ∀ j, j < cn → I 66 j = nI (C j)
theorem MK.ag {I I1 : Nat → Nat → Int32} {S : List Nat} {cn : Nat} {C : Nat → Nat} (h : MK I cn C) (ha : xag I I1 S) (h1 : 59 ∉ S ∧ 66 ∉ S) : MK I1 cn C := by
  unfold MK
  rw [ha 59 h1.1, ha 66 h1.2]
  exact h
theorem fdiff : ∀ c x y, x < 2 ^ c → y < 2 ^ c → x ≠ y → ∃ i, i < c ∧ (∀ i', i' < i → x / 2 ^ i' % 2 = y / 2 ^ i' % 2) ∧ x / 2 ^ i % 2 ≠ y / 2 ^ i % 2
  | 0, x, y, hx, hy, hne => by
    rw [Nat.pow_zero] at hx hy
    omega
  | c + 1, x, y, hx, hy, hne => by
    by_cases e : x % 2 = y % 2
    · rw [Nat.pow_succ] at hx hy
      obtain ⟨i, h1, h2, h3⟩ := fdiff c (x / 2) (y / 2) (by omega) (by omega) (by omega)
      have hs : ∀ x j : Nat, x / 2 ^ (j + 1) = x / 2 / 2 ^ j := fun x j => by rw [Nat.pow_succ, Nat.mul_comm (2 ^ j) 2, Nat.div_div_eq_div_mul]
      refine ⟨i + 1, by omega, fun i' hi' => ?_, by rw [hs, hs]; exact h3⟩
      cases i' with
      | zero => rw [Nat.pow_zero, Nat.div_one, Nat.div_one]; exact e
      | succ i' => rw [hs, hs]; exact h2 i' (by omega)
    · exact ⟨0, by omega, fun i' h => by omega, by rw [Nat.pow_zero, Nat.div_one, Nat.div_one]; exact e⟩
theorem tk_cg {σ σ' : Nat → Bool} {C : Nat → Nat} : ∀ e, (∀ k, 1 ≤ k → k ≤ e → σ k = σ' k) → tcn σ e = tcn σ' e ∧ tkl σ C e = tkl σ' C e
  | 0, _ => ⟨rfl, rfl⟩
  | e + 1, h => by
    have h1 := tk_cg (σ := σ) (σ' := σ') (C := C) e (fun k h1 h2 => h k h1 (by omega))
    rw [tcn, tcn, tkl, tkl, h (e + 1) (by omega) (Nat.le_refl _), h1.1, h1.2]
    exact ⟨rfl, rfl⟩
theorem kc2_le {bc : Nat → Nat → Nat} {σ : Nat → Bool} {c B : Nat} (h : ∀ a b, a < b → b ≤ c + 1 → bc a b ≤ B) : ∀ r a k, a < k → k + r = c + 1 → kc2 bc σ r a k ≤ (r + 1) * B
  | 0, a, k, h1, h2 => by
    rw [kc2, Nat.zero_add, Nat.one_mul]
    exact h a k h1 (by omega)
  | r + 1, a, k, h1, h2 => by
    rw [kc2, Nat.add_mul (r + 1) 1 B, Nat.one_mul]
    have h3 := h a k h1 (by omega)
    split
    · have := kc2_le (σ := σ) h r k (k + 1) (by omega) (by omega)
      omega
    · have := kc2_le (σ := σ) h r a (k + 1) (by omega) (by omega)
      omega
/-- the path's set in numbers -/
theorem path_val {bc : Nat → Nat → Nat} {c : Nat} (hc : c ≤ 12) : ks bc (sgx (nu (sgp bc c) c 1)) c 0 1 = k2 (TT bc c 0) ∧ kc2 bc (sgx (nu (sgp bc c) c 1)) c 0 1 = (TT bc c 0).1 := by
  have hf1 : frp bc c 1 = 0 := by
    rw [show (1 : Nat) = 0 + 1 from rfl, frp, if_neg (fun z => z.2 rfl)]
    rfl
  have hp := (path_best (bc := bc) hc (sgp bc c) c 1 (Nat.le_refl _) (by omega)).1
  rw [hf1] at hp
  have h1 : ks bc (sgx (nu (sgp bc c) c 1)) c 0 1 = k2 (TT bc c 0) := by
    rw [ks_cg (c := c) c 0 1 (by omega) (fun j h1 h2 => nu_sgx h1 h2)]
    exact hp
  refine ⟨h1, ?_⟩
  have h2 := ks_split (bc := bc) (x := nu (sgp bc c) c 1) c 0 1 (Nat.le_refl _)
  have h3 := pn_le c (nu (sgp bc c) c 1 / 2 ^ (1 - 1))
  have h4 := TT_m (bc := bc) hc (c + 1) 0 (Nat.le_refl _) (by omega)
  rw [h1] at h2
  unfold k2 at h2
  omega
section SPM
variable {d f L c s n cn hd : Nat} {t C : Nat → Nat} {Q : Option Value × xS → Prop} {P : List Nat × Nat × Nat} {I : Nat → Nat → Int32} {J : Nat → Nat → Int64}
theorem p_borderM (hf : f < 3) (hL : L < 2147483648) (hK : MK I cn C) (hc : cn ≤ 12) (hT : I 59 3 = nI n) {k' : Nat} (hk : k' ≤ cn + 1) (k : Q (some (.int (nI (bo C cn n k'))), (xK f L, P, I, J, xFr f c s))) : Wp d 154 0 [some (.ref 59), some (.int (nI k'))] [] (xK f L, P, I, J, xFr f c s) Q := by
  unfold bo at k
  by_cases e : k' = 0
  · subst e
    rw [if_pos rfl] at k
    exact wX11_border_0 (xK_lt hf hL) rfl rfl rfl (bn2 rfl k)
  · rw [if_neg e] at k
    refine wX11_border_0 (xK_lt hf hL) rfl rfl rfl (bn1 (by rw [nI_e0 (by omega)]; exact e) ?_)
    rw [hK.1]
    by_cases e2 : k' ≤ cn
    · rw [if_pos e2] at k
      refine br1 (by first | (rw [nI_ltI (by omega) (by omega)]; omega) | (rw [nI_leI (by omega) (by omega)]; omega) | (rw [nI_eq (by omega) (by omega)]; omega) | (rw [nI_e0 (by omega)]; omega) | (rw [nI_le0 (by omega)]; omega)) ⟨k' - 1, pk_sub (by omega), by omega, ?_⟩
      rw [hK.2 (k' - 1) (by omega)]
      exact k
    · rw [if_neg e2] at k
      refine br2 (by first | (rw [nI_ltI (by omega) (by omega)]; omega) | (rw [nI_leI (by omega) (by omega)]; omega) | (rw [nI_eq (by omega) (by omega)]; omega) | (rw [nI_e0 (by omega)]; omega) | (rw [nI_le0 (by omega)]; omega)) ?_
      rw [hT]
      exact k
theorem p_fillBlocksM (hf : f < 3) (hL : L < 2147483648) (hT : MT I n t) (hn0 : 1 ≤ n) (hK : MK I cn C) (hS : CS n cn C) (hh : hd ≤ 100000) (k : ∀ I' J', xag I I' [99] → (∀ a, a ≠ 106 → J' a = J a) → (∀ a b, a < b → b ≤ cn + 1 → J' 106 (14 * a + b) = lN (bcs t C cn n hd a b)) → Q (none, (xK f L, P, I', J', xFr f c s))) : Wp (d + 3) 155 0 [some (.ref 59), some (.int (nI hd)), none, none, none, none, none] [] (xK f L, P, I, J, xFr f c s) Q := by
  have hn := hT.2.1
  have hc := hS.1
  have ht : ∀ j, j < n → t j < 256 := fun j hj => (hT.2.2 j hj).2
  have keepC : ∀ I1, xag I I1 [99] → MT I1 n t ∧ MK I1 cn C := fun I1 ha => ⟨hT.ag ha (by decide) (by decide), hK.ag ha (by decide)⟩
  have la : ∀ w a I1 J1, cn + 1 - a = w → a ≤ cn + 1 → xag I I1 [99] → (∀ x, x ≠ 106 → J1 x = J x) → (∀ a' b', a' < a → a' < b' → b' ≤ cn + 1 → J1 106 (14 * a' + b') = lN (bcs t C cn n hd a' b')) → Wp (d + 3) 155 2 [some (.ref 59), some (.int (nI hd)), some (.int (nI a)), none, none, none, none] [] (xK f L, P, I1, J1, xFr f c s) Q := by
    intro w
    induction w with
    | zero =>
      intro a I1 J1 hw ha h1 h2 h3
      obtain ⟨hT1, hK1⟩ := keepC I1 h1
      exact wX11_fillBlocks_2 rfl (br1 (by rw [hK1.1]; first | (rw [nI_ltI (by omega) (by omega)]; omega) | (rw [nI_leI (by omega) (by omega)]; omega) | (rw [nI_eq (by omega) (by omega)]; omega) | (rw [nI_e0 (by omega)]; omega) | (rw [nI_le0 (by omega)]; omega)) (k I1 J1 h1 h2 (fun a' b' z1 z2 => h3 a' b' (by omega) z1 z2)))
    | succ w ih =>
      intro a I1 J1 hw ha h1 h2 h3
      have lb : ∀ v b I2 J2, cn + 2 - b = v → a < b → b ≤ cn + 2 → xag I I2 [99] → (∀ x, x ≠ 106 → J2 x = J x) → (∀ a' b', (a' < a ∨ (a' = a ∧ b' < b)) → a' < b' → b' ≤ cn + 1 → J2 106 (14 * a' + b') = lN (bcs t C cn n hd a' b')) → Wp (d + 3) 155 14 [some (.ref 59), some (.int (nI hd)), some (.int (nI a)), some (.int (nI b)), none, none, none] [] (xK f L, P, I2, J2, xFr f c s) Q := by
        intro v
        induction v with
        | zero =>
          intro b I2 J2 hv hb1 hb2 g1 g2 g3
          obtain ⟨hT2, hK2⟩ := keepC I2 g1
          refine wX11_fillBlocks_14 rfl (br1 (by rw [hK2.1, nI_add]; exact (by first | (rw [nI_ltI (by omega) (by omega)]; omega) | (rw [nI_leI (by omega) (by omega)]; omega) | (rw [nI_eq (by omega) (by omega)]; omega) | (rw [nI_e0 (by omega)]; omega) | (rw [nI_le0 (by omega)]; omega))) ?_)
          rw [nI_add]
          exact ih (a + 1) I2 J2 (by omega) (by omega) g1 g2 (fun a' b' z1 z2 z3 => g3 a' b' (by omega) z2 z3)
        | succ v ih2 =>
          intro b I2 J2 hv hb1 hb2 g1 g2 g3
          have hbc : b ≤ cn + 1 := by omega
          have hlt := bo_lt hS hn0 hb1 hbc
          have hble := bo_le (C := C) hS b
          have hbb := bcs_le (t := t) hS hn0 hn ht hh hb1 hbc
          have hA := xlog_le (v := bo C cn n b - bo C cn n a) (by omega) (by omega)
          -- the sum
          have sum : ∀ u o I4, 256 - o = u → o ≤ 256 → xag I I4 [99] → (∀ x, x < 256 → I4 99 x = nI (cu t (bo C cn n a) (bo C cn n b - bo C cn n a) x)) → Wp (d + 3) 155 95 [some (.ref 59), some (.int (nI hd)), some (.int (nI a)), some (.int (nI b)), some (.long (lN (hd + svG (cu t (bo C cn n a) (bo C cn n b - bo C cn n a)) (xlog (bo C cn n b - bo C cn n a)) o))), none, some (.int (nI o))] [] (xK f L, P, I4, J2, xFr f c s) Q := by
            intro u
            induction u with
            | zero =>
              intro o I4 hu ho q1 q2
              have e : o = 256 := by omega
              subst e
              refine wX11_fillBlocks_95 (xK_lt hf hL) rfl rfl rfl rfl rfl (br1 (by first | (rw [nI_ltI (by omega) (by omega)]; omega) | (rw [nI_leI (by omega) (by omega)]; omega) | (rw [nI_eq (by omega) (by omega)]; omega) | (rw [nI_e0 (by omega)]; omega) | (rw [nI_le0 (by omega)]; omega)) ⟨14 * a + b, by rw [pk_mul, nI_add], by omega, ?_⟩)
              rw [nI_add]
              refine ih2 (b + 1) I4 _ (by omega) (by omega) (by omega) q1 (fun x hx => by rw [xup_ne _ _ _ hx]; exact g2 x hx) (fun a' b' z1 z2 z3 => ?_)
              rw [xup_at]
              by_cases e : a' = a ∧ b' = b
              · rw [if_pos (by omega), e.1, e.2]
                rfl
              · rw [if_neg (by omega)]
                exact g3 a' b' (by omega) z2 z3
            | succ u ih3 =>
              intro o I4 hu ho q1 q2
              obtain ⟨hT4, hK4⟩ := keepC I4 q1
              have hcul := cu_le t (bo C cn n a) (bo C cn n b - bo C cn n a) o
              have hnext := ih3 (o + 1) I4 (by omega) (by omega) q1 q2
              have hstep : svG (cu t (bo C cn n a) (bo C cn n b - bo C cn n a)) (xlog (bo C cn n b - bo C cn n a)) (o + 1) = svG (cu t (bo C cn n a) (bo C cn n b - bo C cn n a)) (xlog (bo C cn n b - bo C cn n a)) o + cu t (bo C cn n a) (bo C cn n b - bo C cn n a) o * (xlog (bo C cn n b - bo C cn n a) - xlog (cu t (bo C cn n a) (bo C cn n b - bo C cn n a) o)) := rfl
              rw [hstep] at hnext
              refine wX11_fillBlocks_95 (xK_lt hf hL) rfl rfl rfl rfl rfl (br2 (by first | (rw [nI_ltI (by omega) (by omega)]; omega) | (rw [nI_leI (by omega) (by omega)]; omega) | (rw [nI_eq (by omega) (by omega)]; omega) | (rw [nI_e0 (by omega)]; omega) | (rw [nI_le0 (by omega)]; omega)) ⟨o, rfl, by omega, ?_⟩)
              rw [q2 o (by omega)]
              refine brc (nI_le0 (by omega)) (fun h => ?_) (fun h => ⟨o, rfl, by omega, ?_⟩)
              · rw [nI_add]
                rw [h, Nat.zero_mul, Nat.add_zero] at hnext
                exact hnext
              · refine p_borderM hf hL hK4 hc hT4.1 hbc ⟨_, _, _, rfl, ?_⟩
                all_goals try dsimp only
                refine p_borderM hf hL hK4 hc hT4.1 (by omega) ⟨_, _, _, rfl, ?_⟩
                all_goals try dsimp only
                rw [pk_sub (by omega)]
                refine p_log (by omega) (by omega) ⟨_, _, _, rfl, o, rfl, by omega, ?_⟩
                all_goals try dsimp only
                rw [q2 o (by omega)]
                refine p_log (by omega) (by omega) ⟨_, _, _, rfl, ?_⟩
                all_goals try dsimp only
                have hmono := xlog_mono (v := cu t (bo C cn n a) (bo C cn n b - bo C cn n a) o) (by omega) hcul
                rw [pk_sub hmono, xi2l (by omega), xi2l (by omega), lN_mul2, lN_add2, nI_add]
                rw [← Nat.add_assoc] at hnext
                exact hnext
          -- the count
          have cnt : ∀ u p I4, bo C cn n b - p = u → bo C cn n a ≤ p → p ≤ bo C cn n b → xag I I4 [99] → (∀ x, x < 256 → I4 99 x = nI (cu t (bo C cn n a) (p - bo C cn n a) x)) → Wp (d + 3) 155 56 [some (.ref 59), some (.int (nI hd)), some (.int (nI a)), some (.int (nI b)), some (.int (nI p)), none, none] [] (xK f L, P, I4, J2, xFr f c s) Q := by
            intro u
            induction u with
            | zero =>
              intro p I4 hu hp1 hp2 q1 q2
              have e : p = bo C cn n b := by omega
              subst e
              obtain ⟨hT4, hK4⟩ := keepC I4 q1
              refine wX11_fillBlocks_56 (xK_lt hf hL) rfl rfl rfl rfl rfl (p_borderM hf hL hK4 hc hT4.1 hbc ⟨_, _, _, rfl, ?_⟩)
              all_goals try dsimp only
              refine br1 (by first | (rw [nI_ltI (by omega) (by omega)]; omega) | (rw [nI_leI (by omega) (by omega)]; omega) | (rw [nI_eq (by omega) (by omega)]; omega) | (rw [nI_e0 (by omega)]; omega) | (rw [nI_le0 (by omega)]; omega)) ?_
              rw [xi2l (by omega)]
              exact sum 256 0 I4 rfl (by omega) q1 q2
            | succ u ih3 =>
              intro p I4 hu hp1 hp2 q1 q2
              obtain ⟨hT4, hK4⟩ := keepC I4 q1
              have hti := hT4.2.2 p (by omega)
              refine wX11_fillBlocks_56 (xK_lt hf hL) rfl rfl rfl rfl rfl (p_borderM hf hL hK4 hc hT4.1 hbc ⟨_, _, _, rfl, ?_⟩)
              all_goals try dsimp only
              refine br2 (by first | (rw [nI_ltI (by omega) (by omega)]; omega) | (rw [nI_leI (by omega) (by omega)]; omega) | (rw [nI_eq (by omega) (by omega)]; omega) | (rw [nI_e0 (by omega)]; omega) | (rw [nI_le0 (by omega)]; omega)) ⟨p, rfl, by omega, t p, hti.1, by omega, t p, hti.1, by omega, ?_⟩
              rw [q2 (t p) hti.2, nI_add, nI_add]
              refine ih3 (p + 1) _ (by omega) (by omega) (by omega) (q1.up (by simp)) (fun x hx => ?_)
              rw [show p + 1 - bo C cn n a = p - bo C cn n a + 1 by omega, cu, show bo C cn n a + (p - bo C cn n a) = p by omega, xup_at]
              by_cases eo : x = t p
              · rw [if_pos eo, eo, va_up_self]
              · rw [if_neg eo, va_up_ne _ _ eo]
                exact q2 x hx
          -- nothing counted yet
          have zero : ∀ u o I4, 256 - o = u → o ≤ 256 → xag I I4 [99] → (∀ x, x < o → I4 99 x = nI 0) → Wp (d + 3) 155 27 [some (.ref 59), some (.int (nI hd)), some (.int (nI a)), some (.int (nI b)), some (.int (nI o)), none, none] [] (xK f L, P, I4, J2, xFr f c s) Q := by
            intro u
            induction u with
            | zero =>
              intro o I4 hu ho q1 q2
              obtain ⟨hT4, hK4⟩ := keepC I4 q1
              refine wX11_fillBlocks_27 (xK_lt hf hL) rfl rfl rfl (br1 (by first | (rw [nI_ltI (by omega) (by omega)]; omega) | (rw [nI_leI (by omega) (by omega)]; omega) | (rw [nI_eq (by omega) (by omega)]; omega) | (rw [nI_e0 (by omega)]; omega) | (rw [nI_le0 (by omega)]; omega)) (p_borderM hf hL hK4 hc hT4.1 (by omega) ⟨_, _, _, rfl, ?_⟩))
              all_goals try dsimp only
              refine cnt _ _ I4 rfl (Nat.le_refl _) (by omega) q1 (fun x hx => ?_)
              rw [Nat.sub_self]
              exact q2 x (by omega)
            | succ u ih3 =>
              intro o I4 hu ho q1 q2
              refine wX11_fillBlocks_27 (xK_lt hf hL) rfl rfl rfl (br2 (by first | (rw [nI_ltI (by omega) (by omega)]; omega) | (rw [nI_leI (by omega) (by omega)]; omega) | (rw [nI_eq (by omega) (by omega)]; omega) | (rw [nI_e0 (by omega)]; omega) | (rw [nI_le0 (by omega)]; omega)) ⟨o, rfl, by omega, ?_⟩)
              rw [nI_add]
              refine ih3 (o + 1) _ (by omega) (by omega) (q1.up (by simp)) (fun x hx => ?_)
              rw [xup_at]
              by_cases e : x = o
              · rw [if_pos e]
              · rw [if_neg e]
                exact q2 x (by omega)
          obtain ⟨hT2, hK2⟩ := keepC I2 g1
          refine wX11_fillBlocks_14 rfl (br2 (by rw [hK2.1, nI_add]; exact (by first | (rw [nI_ltI (by omega) (by omega)]; omega) | (rw [nI_leI (by omega) (by omega)]; omega) | (rw [nI_eq (by omega) (by omega)]; omega) | (rw [nI_e0 (by omega)]; omega) | (rw [nI_le0 (by omega)]; omega))) ?_)
          exact zero 256 0 I2 rfl (by omega) g1 (fun x h => by omega)
      obtain ⟨hT1, hK1⟩ := keepC I1 h1
      refine wX11_fillBlocks_2 rfl (br2 (by rw [hK1.1]; first | (rw [nI_ltI (by omega) (by omega)]; omega) | (rw [nI_leI (by omega) (by omega)]; omega) | (rw [nI_eq (by omega) (by omega)]; omega) | (rw [nI_e0 (by omega)]; omega) | (rw [nI_le0 (by omega)]; omega)) ?_)
      rw [nI_add]
      exact lb _ (a + 1) I1 J1 rfl (by omega) (by omega) h1 h2 (fun a' b' z1 z2 z3 => h3 a' b' (by omega) z2 z3)
  exact wX11_fillBlocks_0  (la (cn + 1) 0 I J (by omega) (by omega) xag.rfl (fun _ _ => rfl) (fun a' b' z => by omega))
theorem p_setCostM (hf : f < 3) (hL : L < 2147483648) (hc : cn ≤ 12) (h7 : I 59 7 = nI cn) {bc : Nat → Nat → Nat} (hB : ∀ a b, a < b → b ≤ cn + 1 → J 106 (14 * a + b) = lN (bc a b)) {x : Nat} (hx : x < 2 ^ cn) (k : Q (some (.long (lN (kc2 bc (sgx x) cn 0 1))), (xK f L, P, I, J, xFr f c s))) : Wp d 156 0 [some (.ref 59), some (.int (nI x)), none, none, none, none] [] (xK f L, P, I, J, xFr f c s) Q := by
  have hx12 : 2 ^ cn ≤ 4096 := Nat.pow_le_pow_right (show 0 < 2 by decide) hc
  have loop : ∀ r y a k', a < k' → k' + r = cn + 1 → Q (some (.long (lN (y + kc2 bc (sgx x) r a k'))), (xK f L, P, I, J, xFr f c s)) → Wp d 156 8 [some (.ref 59), some (.int (nI x)), some (.long (lN y)), none, some (.int (nI a)), some (.int (nI k'))] [] (xK f L, P, I, J, xFr f c s) Q := by
    intro r
    induction r with
    | zero =>
      intro y a k' ha hk kq
      have e : k' = cn + 1 := by omega
      subst e
      rw [kc2] at kq
      refine wX11_setCost_8 rfl (br2 (by rw [h7, nI_add]; exact (by first | (rw [nI_ltI (by omega) (by omega)]; omega) | (rw [nI_leI (by omega) (by omega)]; omega) | (rw [nI_eq (by omega) (by omega)]; omega) | (rw [nI_e0 (by omega)]; omega) | (rw [nI_le0 (by omega)]; omega))) (br1 (by rw [h7]; first | (rw [nI_ltI (by omega) (by omega)]; omega) | (rw [nI_leI (by omega) (by omega)]; omega) | (rw [nI_eq (by omega) (by omega)]; omega) | (rw [nI_e0 (by omega)]; omega) | (rw [nI_le0 (by omega)]; omega)) ?_))
      refine wX11_setCost_40 (xK_lt hf hL) rfl rfl rfl ⟨14 * a + (cn + 1), by rw [pk_mul, nI_add], by omega, ?_⟩
      rw [hB a (cn + 1) ha (by omega), lN_add2, nI_add]
      exact wX11_setCost_8 rfl (br1 (by rw [h7, nI_add]; exact (by first | (rw [nI_ltI (by omega) (by omega)]; omega) | (rw [nI_leI (by omega) (by omega)]; omega) | (rw [nI_eq (by omega) (by omega)]; omega) | (rw [nI_e0 (by omega)]; omega) | (rw [nI_le0 (by omega)]; omega))) kq)
    | succ r ih =>
      intro y a k' ha hk kq
      have hkc : k' ≤ cn := by omega
      have hbit : (nI x >>> ((nI k' - nI 1) &&& 31)) &&& nI 1 = nI (x / 2 ^ (k' - 1) % 2) := by
        rw [pk_sub (by omega), xshr (by omega) (by omega)]
        exact xmaskI (k := 1) (Nat.lt_of_le_of_lt (Nat.div_le_self _ _) (by omega)) (by decide)
      refine wX11_setCost_8 rfl (br2 (by rw [h7, nI_add]; exact (by first | (rw [nI_ltI (by omega) (by omega)]; omega) | (rw [nI_leI (by omega) (by omega)]; omega) | (rw [nI_eq (by omega) (by omega)]; omega) | (rw [nI_e0 (by omega)]; omega) | (rw [nI_le0 (by omega)]; omega))) (br2 (by rw [h7]; first | (rw [nI_ltI (by omega) (by omega)]; omega) | (rw [nI_leI (by omega) (by omega)]; omega) | (rw [nI_eq (by omega) (by omega)]; omega) | (rw [nI_e0 (by omega)]; omega) | (rw [nI_le0 (by omega)]; omega)) ?_))
      rw [hbit]
      rw [kc2] at kq
      refine brd (p := x / 2 ^ (k' - 1) % 2 = 1) (nI_eq (by omega) (by omega)) (fun h => ?_) (fun h => ?_)
      · rw [if_neg (show ¬ sgx x k' = true from fun z => h (of_decide_eq_true z))] at kq
        rw [nI_add]
        exact ih y a (k' + 1) (by omega) (by omega) kq
      · rw [if_pos (show sgx x k' = true from decide_eq_true h), ← Nat.add_assoc] at kq
        refine wX11_setCost_40 (xK_lt hf hL) rfl rfl rfl ⟨14 * a + k', by rw [pk_mul, nI_add], by omega, ?_⟩
        rw [hB a k' ha (by omega), lN_add2, nI_add]
        exact ih (y + bc a k') k' (k' + 1) (by omega) (by omega) kq
  refine wX11_setCost_0  (loop cn 0 0 1 (by omega) (by omega) ?_)
  rw [Nat.zero_add]
  exact k
end SPM
