/-! SPLITS, in the class -/
theorem lN_add2 (a b : Nat) : lN a + lN b = lN (a + b) := by
  apply wb_inj
  show BitVec.ofNat 64 a + BitVec.ofNat 64 b = BitVec.ofNat 64 (a + b)
  rw [BitVec.ofNat_add]
def CK (I : Nat → Nat → Int32) (cn : Nat) (C : Nat → Nat) : Prop := I 34 2 = nI cn ∧ ∀ j, j < cn → I 35 j = nI (C j)
theorem CK.ag {I I1 : Nat → Nat → Int32} {S : List Nat} {cn : Nat} {C : Nat → Nat} (h : CK I cn C) (ha : xag I I1 S) (h1 : 34 ∉ S ∧ 35 ∉ S) : CK I1 cn C := by
  unfold CK
  rw [ha 34 h1.1, ha 35 h1.2]
  exact h
/-- the table in memory, from b on -/
def RT (I : Nat → Nat → Int32) (J : Nat → Nat → Int64) (T : Nat → xQ3) (b cn : Nat) : Prop := ∀ x, b ≤ x → x ≤ cn + 1 → J 37 x = lN (T x).1 ∧ I 38 x = nI (T x).2.1 ∧ (x ≤ cn → I 39 x = nI (T x).2.2)
theorem bcs_le {t C : Nat → Nat} {cn n hd : Nat} (hS : CS n cn C) (hn0 : 1 ≤ n) (hn : n ≤ 300) (ht : ∀ j, j < n → t j < 256) (hh : hd ≤ 100000) {a b : Nat} (hab : a < b) (hb : b ≤ cn + 1) : bcs t C cn n hd a b ≤ 600000 ∧ bcs t C cn n hd a b + svU (cu t (bo C cn n a) (bo C cn n b - bo C cn n a)) = hd + (bo C cn n b - bo C cn n a) * xlog (bo C cn n b - bo C cn n a) ∧ (bo C cn n b - bo C cn n a) * xlog (bo C cn n b - bo C cn n a) ≤ 480000 ∧ svU (cu t (bo C cn n a) (bo C cn n b - bo C cn n a)) ≤ 480000 := by
  have h1 := bo_lt hS hn0 hab hb
  have h2 := bo_le (C := C) hS b
  have h3 := svG_ok (t := t) (a := bo C cn n a) (l := bo C cn n b - bo C cn n a) (fun j hj => ht j (by omega))
  have h4 := xlog_le (v := bo C cn n b - bo C cn n a) (by omega) (by omega)
  have h5 : (bo C cn n b - bo C cn n a) * xlog (bo C cn n b - bo C cn n a) ≤ 300 * 1600 := Nat.mul_le_mul (by omega) h4
  unfold bcs
  refine ⟨by omega, by omega, by omega, by omega⟩
theorem bz_le {bc : Nat → Nat → Nat} {T : Nat → xQ3} {b B : Nat} (h : ∀ x, b < x → bc b x ≤ B) (hT : ∀ x, b < x → (T x).1 ≤ 13 * B) : ∀ j, (bz bc T b j).1 ≤ 14 * B
  | 0 => by
    have h1 := h (b + 1 + 0) (by omega)
    have h2 := hT (b + 1 + 0) (by omega)
    show bc b (b + 1 + 0) + (T (b + 1 + 0)).1 ≤ _
    omega
  | j + 1 => by
    have h1 := h (b + 1 + (j + 1)) (by omega)
    have h2 := hT (b + 1 + (j + 1)) (by omega)
    rw [bz]
    split
    · show bc b (b + 1 + (j + 1)) + (T (b + 1 + (j + 1))).1 ≤ _
      omega
    · exact bz_le h hT j
section DIV
variable {d f L c s n cn hd : Nat} {t C : Nat → Nat} {T : Nat → xQ3} {Q : Option Value × xS → Prop} {P : List Nat × Nat × Nat} {I : Nat → Nat → Int32} {J : Nat → Nat → Int64}
theorem p_logOf0 {K : Nat → Nat × Nat} {F : Nat → Nat → Option Nat} (k : Q (some (.int (nI 0)), (K, P, I, J, F))) : Wp (d + 1) 94 0 [some (.int (nI 0)), none] [] (K, P, I, J, F) Q := wX10_logOf_0 (br2 (by decide) k)
theorem p_mlog {K : Nat → Nat × Nat} {F : Nat → Nat → Option Nat} {b : Nat} (hb : b ≤ 300) (k : ∀ v, nI b * v = nI (b * xlog b) → Q (some (.int v), (K, P, I, J, F))) : Wp (d + 1) 94 0 [some (.int (nI b)), none] [] (K, P, I, J, F) Q := by
  by_cases e : b = 0
  · subst e
    refine p_logOf0 (k _ ?_)
    rw [Nat.zero_mul]
    rfl
  · exact p_logOf (by omega) (by omega) (k _ (pk_mul _ _))
theorem p_placeOf (hf : f < 3) (hL : L < 2147483648) (hK : CK I cn C) (hc : cn ≤ 12) (hT : I 5 3 = nI n) {k' : Nat} (hk : k' ≤ cn + 1) (k : Q (some (.int (nI (bo C cn n k'))), (xK f L, P, I, J, xFr f c s))) : Wp d 6 0 [some (.ref 34), some (.int (nI k'))] [] (xK f L, P, I, J, xFr f c s) Q := by
  unfold bo at k
  by_cases e : k' = 0
  · subst e
    rw [if_pos rfl] at k
    exact wX0_placeOf_0 (xK_lt hf hL) rfl rfl rfl rfl rfl (br2 (by decide) k)
  · rw [if_neg e] at k
    refine wX0_placeOf_0 (xK_lt hf hL) rfl rfl rfl rfl rfl (br1 (by show (0 : Int32) < nI k'; exact (nI_ltI (a := 0) (by omega) (by omega)).mpr (by omega)) ?_)
    rw [hK.1]
    by_cases e2 : k' ≤ cn
    · rw [if_pos e2] at k
      refine br2 (by first | (rw [nI_ltI (by omega) (by omega)]; omega) | (rw [nI_leI (by omega) (by omega)]; omega) | (rw [nI_eq (by omega) (by omega)]; omega) | (rw [nI_e0 (by omega)]; omega) | (rw [nI_le0 (by omega)]; omega)) ⟨k' - 1, pk_sub (by omega), by omega, ?_⟩
      rw [hK.2 (k' - 1) (by omega)]
      exact k
    · rw [if_neg e2] at k
      refine br1 (by first | (rw [nI_ltI (by omega) (by omega)]; omega) | (rw [nI_leI (by omega) (by omega)]; omega) | (rw [nI_eq (by omega) (by omega)]; omega) | (rw [nI_e0 (by omega)]; omega) | (rw [nI_le0 (by omega)]; omega)) ?_
      rw [hT]
      exact k
theorem p_countOctet (hf : f < 3) (hL : L < 2147483648) {o b : Nat} (ho : o < 256) (hb : b < 300) (h0 : I 40 o = nI b) (k : Q (some (.int (nI ((b + 1) * xlog (b + 1) - b * xlog b))), (xK f L, P, xup I 40 o (nI (b + 1)), J, xFr f c s))) : Wp (d + 2) 5 0 [some (.ref 34), some (.int (nI o)), none] [] (xK f L, P, I, J, xFr f c s) Q := by
  refine wX0_countOctet_0 (xK_lt hf hL) rfl rfl rfl ⟨o, rfl, by omega, o, rfl, by omega, ?_⟩
  rw [h0, nI_add]
  refine p_mlog (by omega) (fun v1 hv1 => ⟨_, _, _, rfl, ?_⟩)
  all_goals try dsimp only
  refine p_mlog (by omega) (fun v2 hv2 => ⟨_, _, _, rfl, ?_⟩)
  all_goals try dsimp only
  rw [hv1, hv2, pk_sub mlog_mono]
  exact k
theorem p_findRest (hf : f < 3) (hL : L < 2147483648) (hC : CT I n t f) (hn0 : 1 ≤ n) (hK : CK I cn C) (hS : CS n cn C) (hh : hd ≤ 100000) {b : Nat} (hb : b ≤ cn) (hT : RT I J T (b + 1) cn) (hT1 : ∀ x, b < x → (T x).1 ≤ 13 * 600000) (hT2 : ∀ x, b < x → (T x).2.1 ≤ 14) (k : ∀ I' J', xag I I' [38, 39, 40] → (∀ a, a ≠ 37 → J' a = J a) → RT I' J' (va_up T b (bz (bcs t C cn n hd) T b (cn - b))) b cn → Q (none, (xK f L, P, I', J', xFr f c s))) : Wp (d + 4) 4 0 [some (.ref 34), some (.int (nI b)), some (.int (nI hd)), none, none, none, none, none, none, none, none, none] [] (xK f L, P, I, J, xFr f c s) Q := by
  have hn := hC.2.2.2.1
  have hc := hS.1
  have ht : ∀ j, j < n → t j < 256 := fun j hj => (hC.2.2.2.2.1 j hj).2
  have hbn := bo_le (C := C) hS b
  -- what is known while it runs
  have keepC : ∀ I1, xag I I1 [38, 39, 40] → CT I1 n t f ∧ CK I1 cn C := fun I1 ha => ⟨hC.ag ha (by decide) (by decide) (by decide) (by decide) (by decide), hK.ag ha (by decide)⟩
  have outer : ∀ w j I1 J1, cn + 1 - (b + j) = w → b + j ≤ cn + 1 → xag I I1 [38, 39, 40] → (∀ a, a ≠ 37 → J1 a = J a) → RT I1 J1 T (b + 1) cn → (∀ o, o < 256 → I1 40 o = nI (cu t (bo C cn n b) (bo C cn n (b + j) - bo C cn n b) o)) → (j ≠ 0 → J1 37 b = lN (bz (bcs t C cn n hd) T b (j - 1)).1 ∧ I1 38 b = nI (bz (bcs t C cn n hd) T b (j - 1)).2.1 ∧ I1 39 b = nI (bz (bcs t C cn n hd) T b (j - 1)).2.2) → Wp (d + 4) 4 25 [some (.ref 34), some (.int (nI b)), some (.int (nI hd)), some (.int (nI (bo C cn n b))), some (.int (nI (bo C cn n (b + j)))), some (.int (nI (svU (cu t (bo C cn n b) (bo C cn n (b + j) - bo C cn n b))))), some (.int (nI (b + 1 + j))), none, none, none, none, none] [] (xK f L, P, I1, J1, xFr f c s) Q := by
    intro w
    induction w with
    | zero =>
      intro j I1 J1 hw hj ha hJ hR hU hB
      have e : j = cn - b + 1 := by omega
      obtain ⟨hC1, hK1⟩ := keepC I1 ha
      refine wX0_findRest_25 rfl (br1 (by rw [hK1.1, nI_add]; exact (by first | (rw [nI_ltI (by omega) (by omega)]; omega) | (rw [nI_leI (by omega) (by omega)]; omega) | (rw [nI_eq (by omega) (by omega)]; omega) | (rw [nI_e0 (by omega)]; omega) | (rw [nI_le0 (by omega)]; omega))) (k I1 J1 ha hJ (fun x hx1 hx2 => ?_)))
      by_cases ex : x = b
      · subst ex
        have := hB (by omega)
        rw [show j - 1 = cn - x by omega] at this
        rw [va_up_self]
        exact ⟨this.1, this.2.1, fun _ => this.2.2⟩
      · rw [va_up_ne _ _ ex]
        exact hR x (by omega) hx2
    | succ w ih =>
      intro j I1 J1 hw hj ha hJ hR hU hB
      obtain ⟨hC1, hK1⟩ := keepC I1 ha
      have hlt := bo_lt hS hn0 (show b + j < b + 1 + j by omega) (show b + 1 + j ≤ cn + 1 by omega)
      have hle2 : bo C cn n b ≤ bo C cn n (b + j) := by
        by_cases e : j = 0
        · rw [e]; exact Nat.le_refl _
        · exact Nat.le_of_lt (bo_lt hS hn0 (show b < b + j by omega) hj)
      have hbx := bo_le (C := C) hS (b + 1 + j)
      have hbc := bcs_le (t := t) hS hn0 hn ht hh (show b < b + 1 + j by omega) (show b + 1 + j ≤ cn + 1 by omega)
      -- the octets of this block
      have inner : ∀ v p I2, bo C cn n (b + 1 + j) - p = v → bo C cn n (b + j) ≤ p → p ≤ bo C cn n (b + 1 + j) → xag I1 I2 [40] → (∀ o, o < 256 → I2 40 o = nI (cu t (bo C cn n b) (p - bo C cn n b) o)) → Wp (d + 4) 4 44 [some (.ref 34), some (.int (nI b)), some (.int (nI hd)), some (.int (nI (bo C cn n b))), some (.int (nI p)), some (.int (nI (svU (cu t (bo C cn n b) (p - bo C cn n b))))), some (.int (nI (b + 1 + j))), some (.int (nI (bo C cn n (b + 1 + j)))), none, none, none, none] [] (xK f L, P, I2, J1, xFr f c s) Q := by
        intro v
        induction v with
        | zero =>
          intro p I2 hv hp1 hp2 ha2 hU2
          have ep : p = bo C cn n (b + 1 + j) := by omega
          subst ep
          have ha2' : xag I I2 [38, 39, 40] := ha.tr ha2 (by simp)
          have hRn := hR (b + 1 + j) (by omega) (by omega)
          have h38 : I2 38 (b + 1 + j) = nI (T (b + 1 + j)).2.1 := by rw [ha2 38 (by decide)]; exact hRn.2.1
          have hTn1 := hT1 (b + 1 + j) (by omega)
          have hTn2 := hT2 (b + 1 + j) (by omega)
          have hqb : qb (bcs t C cn n hd) T b j = (bcs t C cn n hd b (b + 1 + j) + (T (b + 1 + j)).1, 1 + (T (b + 1 + j)).2.1, b + 1 + j) := rfl
          -- it is put down
          have take : bz (bcs t C cn n hd) T b j = qb (bcs t C cn n hd) T b j → Wp (d + 3 + 1) 4 160 [some (.ref 34), some (.int (nI b)), some (.int (nI hd)), some (.int (nI (bo C cn n b))), some (.int (nI (bo C cn n (b + 1 + j)))), some (.int (nI (svU (cu t (bo C cn n b) (bo C cn n (b + 1 + j) - bo C cn n b))))), some (.int (nI (b + 1 + j))), none, none, some (.long (lN (bcs t C cn n hd b (b + 1 + j) + (T (b + 1 + j)).1))), none, some (.int (nI (1 + (T (b + 1 + j)).2.1)))] [] (xK f L, P, I2, J1, xFr f c s) Q := by
            intro hz
            refine wX0_findRest_160 (xK_lt hf hL) rfl rfl rfl rfl rfl rfl rfl ⟨b, rfl, by omega, b, rfl, by omega, b, rfl, by omega, ?_⟩
            rw [nI_add]
            have := ih (j + 1) (xup (xup I2 38 b (nI (1 + (T (b + 1 + j)).2.1))) 39 b (nI (b + 1 + j))) (xup J1 37 b (lN (bcs t C cn n hd b (b + 1 + j) + (T (b + 1 + j)).1))) (by omega) (by omega) ((ha2'.up (by simp)).up (by simp)) (fun a z => by rw [xup_ne _ _ _ z]; exact hJ a z) (fun x hx1 hx2 => ?_) (fun o ho => ?_) (fun _ => ?_)
            · rw [show b + (j + 1) = b + 1 + j by omega] at this
              exact this
            · have hr := hR x hx1 hx2
              refine ⟨?_, ?_, fun hx3 => ?_⟩
              · rw [xup_at, if_neg (by omega)]
                exact hr.1
              · rw [xup_ne _ _ _ (by decide), xup_at, if_neg (by omega), ha2 38 (by decide)]
                exact hr.2.1
              · rw [xup_at, if_neg (by omega), xup_ne _ _ _ (by decide), ha2 39 (by decide)]
                exact hr.2.2 hx3
            · rw [xup_ne _ _ _ (by decide), xup_ne _ _ _ (by decide), show b + (j + 1) = b + 1 + j by omega]
              exact hU2 o ho
            · rw [Nat.add_sub_cancel, hz, hqb]
              refine ⟨?_, ?_, ?_⟩
              · rw [xup_at, if_pos rfl]
              · rw [xup_ne _ _ _ (by decide), xup_at, if_pos rfl]
              · rw [xup_at, if_pos rfl]
          -- it is not
          have keep : j ≠ 0 → bz (bcs t C cn n hd) T b j = bz (bcs t C cn n hd) T b (j - 1) → Wp (d + 3 + 1) 4 25 [some (.ref 34), some (.int (nI b)), some (.int (nI hd)), some (.int (nI (bo C cn n b))), some (.int (nI (bo C cn n (b + 1 + j)))), some (.int (nI (svU (cu t (bo C cn n b) (bo C cn n (b + 1 + j) - bo C cn n b))))), some (.int (nI (b + 1 + j) + nI 1)), none, none, none, none, none] [] (xK f L, P, I2, J1, xFr f c s) Q := by
            intro hj0 hz
            rw [nI_add]
            have := ih (j + 1) I2 J1 (by omega) (by omega) ha2' hJ (fun x hx1 hx2 => ?_) (fun o ho => ?_) (fun _ => ?_)
            · rw [show b + (j + 1) = b + 1 + j by omega] at this
              exact this
            · rw [ha2 38 (by decide), ha2 39 (by decide)]
              exact hR x hx1 hx2
            · rw [show b + (j + 1) = b + 1 + j by omega]
              exact hU2 o ho
            · rw [Nat.add_sub_cancel, hz, ha2 38 (by decide), ha2 39 (by decide)]
              exact hB hj0
          refine wX0_findRest_44 (xK_lt hf hL) rfl rfl rfl rfl rfl rfl rfl rfl rfl (br1 (by first | (rw [nI_ltI (by omega) (by omega)]; omega) | (rw [nI_leI (by omega) (by omega)]; omega) | (rw [nI_eq (by omega) (by omega)]; omega) | (rw [nI_e0 (by omega)]; omega) | (rw [nI_le0 (by omega)]; omega)) ?_)
          rw [pk_sub (by omega)]
          refine p_logOf (by omega) (by omega) ⟨_, _, _, rfl, b + 1 + j, rfl, by omega, b + 1 + j, rfl, by omega, ?_⟩
          all_goals try dsimp only
          have hcost : ((nI hd + nI (bo C cn n (b + 1 + j) - bo C cn n b) * nI (xlog (bo C cn n (b + 1 + j) - bo C cn n b))) - nI (svU (cu t (bo C cn n b) (bo C cn n (b + 1 + j) - bo C cn n b)))).toInt64 + J1 37 (b + 1 + j) = lN (bcs t C cn n hd b (b + 1 + j) + (T (b + 1 + j)).1) := by
            rw [pk_mul, nI_add, pk_sub (by omega), xi2l (by omega), hRn.1, lN_add2]
            congr 2
            omega
          rw [hcost, h38, nI_add, nI_add]
          by_cases ej : j = 0
          · subst ej
            refine br1 (by rw [Nat.add_zero]) (take rfl)
          · obtain ⟨g1, g2, g3⟩ := hB ej
            have hbz : bz (bcs t C cn n hd) T b j = if (qb (bcs t C cn n hd) T b j).1 < (bz (bcs t C cn n hd) T b (j - 1)).1 ∨ ((qb (bcs t C cn n hd) T b j).1 = (bz (bcs t C cn n hd) T b (j - 1)).1 ∧ (qb (bcs t C cn n hd) T b j).2.1 < (bz (bcs t C cn n hd) T b (j - 1)).2.1) then qb (bcs t C cn n hd) T b j else bz (bcs t C cn n hd) T b (j - 1) := by
              cases j with
              | zero => exact absurd rfl ej
              | succ j => rw [bz, Nat.add_sub_cancel]
            rw [hqb] at hbz
            dsimp only at hbz
            have hz1 : (bz (bcs t C cn n hd) T b (j - 1)).1 < 2 ^ 62 ∧ (bz (bcs t C cn n hd) T b (j - 1)).2.1 ≤ 15 := by
              obtain ⟨⟨i, q1, q2, _⟩, _⟩ := bz_ok (bc := bcs t C cn n hd) (T := T) (b := b) (j - 1) (fun i hi => hT2 _ (by omega))
              have hbi := (bcs_le (t := t) hS hn0 hn ht hh (show b < b + 1 + i by omega) (show b + 1 + i ≤ cn + 1 by omega)).1
              have h1 := hT1 (b + 1 + i) (by omega)
              have h2 := hT2 (b + 1 + i) (by omega)
              rw [q2]
              refine ⟨?_, ?_⟩
              · show bcs t C cn n hd b (b + 1 + i) + (T (b + 1 + i)).1 < 2 ^ 62
                omega
              · show 1 + (T (b + 1 + i)).2.1 ≤ 15
                omega
            have hz1a := hz1.1
            have hz1b := hz1.2
            have hbc1 := hbc.1
            refine br2 (by first | (rw [nI_ltI (by omega) (by omega)]; omega) | (rw [nI_leI (by omega) (by omega)]; omega) | (rw [nI_eq (by omega) (by omega)]; omega) | (rw [nI_e0 (by omega)]; omega) | (rw [nI_le0 (by omega)]; omega)) ⟨b, rfl, by omega, ?_⟩
            rw [g1]
            refine brc (p := bcs t C cn n hd b (b + 1 + j) + (T (b + 1 + j)).1 < (bz (bcs t C cn n hd) T b (j - 1)).1) (by rw [lg_cmp_lt, pk_lLT (by omega) (by omega)]) (fun h => take (by rw [hbz, if_pos (Or.inl h)]; rfl)) (fun h => ⟨b, rfl, by omega, ?_⟩)
            rw [g1]
            refine brd (p := bcs t C cn n hd b (b + 1 + j) + (T (b + 1 + j)).1 = (bz (bcs t C cn n hd) T b (j - 1)).1) (by rw [lg_cmp_eq, pk_lEQ (by omega) (by omega)]) (fun h2 => keep ej (by rw [hbz, if_neg (by omega)])) (fun h2 => ⟨b, rfl, by omega, ?_⟩)
            rw [show I2 38 b = nI (bz (bcs t C cn n hd) T b (j - 1)).2.1 by rw [ha2 38 (by decide)]; exact g2]
            refine brc (nI_leI (by omega) (by omega)) (fun h3 => keep ej (by rw [hbz, if_neg (by omega)])) (fun h3 => take (by rw [hbz, if_pos (Or.inr ⟨h2, by omega⟩)]; rfl))
        | succ v ih2 =>
          intro p I2 hv hp1 hp2 ha2 hU2
          have ha2' : xag I I2 [38, 39, 40] := ha.tr ha2 (by simp)
          obtain ⟨hC2, hK2⟩ := keepC I2 ha2'
          have hpn : p < n := by omega
          have hti := hC2.2.2.2.2.1 p hpn
          refine wX0_findRest_44 (xK_lt hf hL) rfl rfl rfl rfl rfl rfl rfl rfl rfl (br2 (by first | (rw [nI_ltI (by omega) (by omega)]; omega) | (rw [nI_leI (by omega) (by omega)]; omega) | (rw [nI_eq (by omega) (by omega)]; omega) | (rw [nI_e0 (by omega)]; omega) | (rw [nI_le0 (by omega)]; omega)) ⟨p, rfl, by omega, ?_⟩)
          rw [hti.1]
          have hst := svU_step (t := t) (a := bo C cn n b) (l := p - bo C cn n b) (by rw [show bo C cn n b + (p - bo C cn n b) = p by omega]; exact hti.2)
          have hcul := cu_le t (bo C cn n b) (p - bo C cn n b) (t p)
          rw [show bo C cn n b + (p - bo C cn n b) = p by omega] at hst
          refine p_countOctet hf hL hti.2 (by omega) (hU2 (t p) hti.2) ⟨_, _, _, rfl, ?_⟩
          all_goals try dsimp only
          have hm := mlog_mono (b := cu t (bo C cn n b) (p - bo C cn n b) (t p))
          rw [nI_add, nI_add]
          have := ih2 (p + 1) (xup I2 40 (t p) (nI (cu t (bo C cn n b) (p - bo C cn n b) (t p) + 1))) (by omega) (by omega) (by omega) (ha2.up (by simp)) (fun o ho => ?_)
          · rw [show p + 1 - bo C cn n b = p - bo C cn n b + 1 by omega, show svU (cu t (bo C cn n b) (p - bo C cn n b + 1)) = svU (cu t (bo C cn n b) (p - bo C cn n b)) + ((cu t (bo C cn n b) (p - bo C cn n b) (t p) + 1) * xlog (cu t (bo C cn n b) (p - bo C cn n b) (t p) + 1) - cu t (bo C cn n b) (p - bo C cn n b) (t p) * xlog (cu t (bo C cn n b) (p - bo C cn n b) (t p))) by omega] at this
            exact this
          · rw [show p + 1 - bo C cn n b = p - bo C cn n b + 1 by omega, cu, show bo C cn n b + (p - bo C cn n b) = p by omega, xup_at]
            by_cases eo : o = t p
            · rw [if_pos eo, eo, va_up_self]
            · rw [if_neg eo, va_up_ne _ _ eo]
              exact hU2 o ho
      refine wX0_findRest_25 rfl (br2 (by rw [hK1.1, nI_add]; exact (by first | (rw [nI_ltI (by omega) (by omega)]; omega) | (rw [nI_leI (by omega) (by omega)]; omega) | (rw [nI_eq (by omega) (by omega)]; omega) | (rw [nI_e0 (by omega)]; omega) | (rw [nI_le0 (by omega)]; omega))) ?_)
      refine p_placeOf hf hL hK1 hc hC1.2.2.1 (by omega) ⟨_, _, _, rfl, ?_⟩
      all_goals try dsimp only
      exact inner _ _ I1 rfl (Nat.le_refl _) (by omega) xag.rfl hU
  refine wX0_findRest_0 rfl rfl (p_fillI (len := 256) (xK_lt hf hL) rfl (fun I1 a1 a2 => ⟨_, _, rfl, ?_⟩))
  all_goals try dsimp only
  have a1' : xag I I1 [38, 39, 40] := a1.wd (by simp)
  obtain ⟨hC1, hK1⟩ := keepC I1 a1'
  refine p_placeOf hf hL hK1 hc hC1.2.2.1 (by omega) ⟨_, _, _, rfl, ?_⟩
  all_goals try dsimp only
  rw [nI_add]
  have hz : svU (cu t (bo C cn n b) 0) = 0 := by
    have h : ∀ m, tsm (fun o => cu t (bo C cn n b) 0 o * xlog (cu t (bo C cn n b) 0 o)) m = 0 := fun m => by
      induction m with
      | zero => rfl
      | succ m ih =>
        rw [tsm, ih]
        show 0 + 0 * _ = 0
        rw [Nat.zero_mul]
    exact h 256
  have := outer _ 0 I1 J rfl (by omega) a1' (fun _ _ => rfl) (fun x hx1 hx2 => by
    rw [a1 38 (by decide), a1 39 (by decide)]
    exact hT x hx1 hx2) (fun o ho => by
    rw [Nat.add_zero, Nat.sub_self]
    exact a2 o ho) (fun z => absurd rfl z)
  rw [show b + 0 = b from rfl, Nat.sub_self, hz] at this
  exact this
end DIV
