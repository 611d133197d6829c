/-! FORM 2: the reference's search -/
def MWA (I : Nat → Nat → Int32) (W : xW) (n : Nat) : Prop := ∀ j, j ≤ n → MW1 I j (W j)
theorem MWA.fm {I I' : Nat → Nat → Int32} {W : xW} {n to K : Nat} {w' : xWs} (h : MWA I W n) (hf : FM I I' to) (hw : ∀ j, j ≤ n → WF K (W j)) (hK : K ≤ 40) (h1 : MW1 I' to w') : MWA I' (va_up W to w') n := by
  intro j hj
  by_cases e : j = to
  · rw [e, va_up_self]
    exact h1
  · rw [va_up_ne _ _ e]
    have h2 := h j hj
    have h3 := hf.2.1 j e
    have h4 := (hw j hj).1
    refine ⟨by rw [h3.1]; exact h2.1, by rw [h3.2]; exact h2.2.1, fun s hs => ?_⟩
    rw [hf.2.2 _ (by omega)]
    exact h2.2.2 s hs
theorem MWA.ag {I I' : Nat → Nat → Int32} {S : List Nat} {W : xW} {n : Nat} (h : MWA I W n) (ha : xag I I' S) (h1 : 92 ∉ S ∧ 93 ∉ S ∧ 94 ∉ S ∧ 95 ∉ S ∧ 96 ∉ S ∧ 97 ∉ S ∧ 98 ∉ S) : MWA I' W n := by
  intro j hj
  have h2 := h j hj
  refine ⟨by rw [ha 92 h1.1]; exact h2.1, by rw [ha 93 h1.2.1]; exact h2.2.1, fun s hs => ?_⟩
  rw [RB.ag ha h1.2.2]
  exact h2.2.2 s hs
section WDM3
variable {d L c s n K p : Nat} {t : Nat → Nat} {V : Nat → Nat → Nat} {Q : Option Value × xS → Prop} {P : List Nat × Nat × Nat} {I : Nat → Nat → Int32} {J : Nat → Nat → Int64} {la : Nat → Nat} {W : xW}
theorem IV.sum (h : IV V t n K W p) (hn : n ≤ 300) {j s : Nat} (hj : j ≤ n) (hs : s < (W j).1) : ((W j).2.1 s).1 / 2 ^ 36 ≤ 31024 * j := by
  by_cases e : j = 0
  · subst e
    rw [h.2.1]
    show 134480385 / 2 ^ 36 ≤ _
    decide
  · exact (h.2.2.1 j s e hj hs).2.2.2.2.2.2.2.2
/-- one state comes from the place p -/
theorem p_come1 (hL : L < 2147483648) (hK : I 59 5 = nI K) (hK1 : 1 ≤ K) (hK2 : K ≤ 40) (hn : n ≤ 300) (hI : IV V t n K W p) (hW : MWA I W n) (hM : ML I la) (hB : LB la) {its r len kd : Nat} (hp : p < n) (hlen : 1 ≤ len) (hpl : p + len ≤ n) (hpv : PV V t W p (p + len) (ky its la, r, len, kd)) (k : ∀ I', xag I I' [92, 93, 94, 95, 96, 97, 98] → MWA I' (opw K W (p + len) (ky its la, r, len, kd)) n → Q (none, (xK 2 L, P, I', J, xFr 2 c s))) : Wp (d + 2) 137 0 [some (.ref 59), some (.int (nI (p + len))), some (.int (nI its)), some (.int (nI p)), some (.int (nI r)), some (.int (nI kd)), none, none, none, none] [] (xK 2 L, P, I, J, xFr 2 c s) Q := by
  have hsum : its ≤ 31024 * (p + len) := by
    have h1 : ky its la / 2 ^ 36 ≤ 31024 * (p + len) := hpv.2.2.2.2.2.2.2.2
    rw [ky_sum hB] at h1
    exact h1
  have := p_comesM (d := d) (Q := Q) (P := P) (J := J) (c := c) (s0 := s) (to := p + len) (old := r) (len := len) (kd := kd) hL hK hK1 hK2 (by omega) (hI.1 _ hpl) (fun s' hs' => by
    have := hI.sum hn hpl hs'
    omega) (show its < 2 ^ 24 by omega) hM hB (hW _ hpl) (fun I' f1 f2 => k I' f1.1 (hW.fm f1 hI.1 hK2 f2))
  rw [Nat.add_sub_cancel] at this
  exact this
/-- what expand keeps -/
def EX (I : Nat → Nat → Int32) (V : Nat → Nat → Nat) (t : Nat → Nat) (n K : Nat) (W : xW) : Prop := I 59 5 = nI K ∧ MV I 2 V ∧ MT I n t ∧ LO I n t 2 ∧ MWA I W n
theorem EX.lat {I I' : Nat → Nat → Int32} (h : EX I V t n K W) (ha : xag I I' [81]) : EX I' V t n K W := ⟨by rw [ha 59 (by decide)]; exact h.1, h.2.1.ag ha (by decide), h.2.2.1.ag ha (by decide) (by decide), h.2.2.2.1.ag ha (by decide), h.2.2.2.2.ag ha (by decide)⟩
theorem EX.come {I I' : Nat → Nat → Int32} {W' : xW} (h : EX I V t n K W) (ha : xag I I' [92, 93, 94, 95, 96, 97, 98]) (hw : MWA I' W' n) : EX I' V t n K W' := ⟨by rw [ha 59 (by decide)]; exact h.1, h.2.1.ag ha (by decide), h.2.2.1.ag ha (by decide) (by decide), h.2.2.2.1.ag ha (by decide), hw⟩
theorem p_expandM (hL : L < 2147483648) (hK1 : 1 ≤ K) (hK2 : K ≤ 40) (hI : IV V t n K W p) {r k : Nat} (hC : CU n p r k W) (h0 : EX I V t n K W) (kk : ∀ I', xag I I' [81, 92, 93, 94, 95, 96, 97, 98] → EX I' V t n K (exs V t n K p r k W) → Q (none, (xK 2 L, P, I', J, xFr 2 c s))) : Wp (d + 4) 139 0 [some (.ref 59), some (.int (nI p)), some (.int (nI r)), none, none, none, none, none] [] (xK 2 L, P, I, J, xFr 2 c s) Q := by
  have hf : 2 < 3 := by decide
  have hn := h0.2.2.1.2.1
  have ht : ∀ j, j < n → t j < 256 := fun j hj => (h0.2.2.1.2.2 j hj).2
  have hB := h0.2.1.2.2
  have hp := hC.1
  have hrK : r < 40 := by have := (hI.1 p (by omega)).1; have := hC.2.1; omega
  have hhere : k / 2 ^ 36 < 2 ^ 24 := by have := hC.2.2.2.2; omega
  -- the state itself stands
  have rb : ∀ I1 W1, EX I1 V t n K W1 → CU n p r k W1 → ∃ e : xEn, e.1 = k ∧ RB I1 (40 * p + r) = enc p e := fun I1 W1 h1 h2 => ⟨(W1 p).2.1 r, h2.2.2.1, (h1.2.2.2.2 p (by omega)).2.2 r h2.2.1⟩
  -- the literal
  have lit : ∀ I1 W1, xag I I1 [81, 92, 93, 94, 95, 96, 97, 98] → EX I1 V t n K W1 → IV V t n K W1 p → CU n p r k W1 → ML I1 (el k) → opw K W1 (p + 1) (eLi V t p r k) = exs V t n K p r k W → Wp (d + 4) 139 244 [some (.ref 59), some (.int (nI p)), some (.int (nI r)), none, some (.int (nI (k / 2 ^ 36))), none, none, none] [] (xK 2 L, P, I1, J, xFr 2 c s) Q := by
    intro I1 W1 ha h1 h2 h3 h4 he
    have hti := h1.2.2.1.2.2 p hp
    refine wX11_expand_244 (xK_lt hf hL) rfl rfl rfl ⟨p, rfl, by omega, ?_⟩
    rw [hti.1]
    refine p_stepCostM hf (by decide) hL h1.2.1 (by decide) (fun _ => hti.2) (fun z => absurd rfl z) (fun z => absurd z (by decide)) ⟨_, _, _, rfl, ?_⟩
    all_goals try dsimp only
    rw [nI_add, nI_add]
    refine p_come1 hL h1.1 hK1 hK2 hn h2 h1.2.2.2.2 h4 hC.2.2.2.1 hp (by omega) (by omega) (pv_li hB hn ht h3) (fun I2 a1 a2 => ⟨_, _, rfl, ?_⟩)
    all_goals try dsimp only
    refine kk I2 (ha.tr a1 (by simp)) ?_
    rw [← he]
    exact h1.come a1 a2
  -- the agains
  have aga : ∀ u j I1 W1, 4 - j = u → j ≤ 4 → xag I I1 [81, 92, 93, 94, 95, 96, 97, 98] → EX I1 V t n K W1 → IV V t n K W1 p → CU n p r k W1 → W1 = ags V t n K p r k j (cpn V t n K p r k (lc t n 2 p) W) → Wp (d + 4) 139 92 [some (.ref 59), some (.int (nI p)), some (.int (nI r)), some (.int (nI (40 * p + r))), some (.int (nI (k / 2 ^ 36))), some (.int (nI j)), none, none] [] (xK 2 L, P, I1, J, xFr 2 c s) Q := by
    intro u
    induction u with
    | zero =>
      intro j I1 W1 hu hj ha h1 h2 h3 he
      have ej : j = 4 := by omega
      subst ej
      obtain ⟨e, ee, hrb⟩ := rb I1 W1 h1 h3
      refine wX11_expand_92 (xK_lt hf hL) rfl rfl rfl rfl rfl (br1 (by first | (rw [nI_ltI (by omega) (by omega)]; omega) | (rw [nI_leI (by omega) (by omega)]; omega) | (rw [nI_eq (by omega) (by omega)]; omega) | (rw [nI_e0 (by omega)]; omega) | (rw [nI_le0 (by omega)]; omega)) (p_takeLatestM hL (b := 40 * p + r) (by omega) hrb (fun I2 a1 a2 => ⟨_, _, rfl, ?_⟩)))
      all_goals try dsimp only
      try dsimp only
      rw [ee] at a2
      have h12 := h1.lat a1
      have hl0 := hC.2.2.2.1 0 (by decide)
      have hti := h12.2.2.1.2.2 p hp
      have ha2 := ha.tr a1 (by simp)
      have hexs : exs V t n K p r k W = opw K (shw V t K p r k W1) (p + 1) (eLi V t p r k) := by
        rw [he]
        rfl
      have nosh : ¬ (el k 0 ≤ p ∧ t p = t (p - el k 0)) → Wp (d + 3 + 1) 139 244 [some (.ref 59), some (.int (nI p)), some (.int (nI r)), none, some (.int (nI (k / 2 ^ 36))), none, none, none] [] (xK 2 L, P, I2, J, xFr 2 c s) Q := by
        intro hno
        refine lit I2 W1 ha2 h12 h2 h3 a2 ?_
        rw [hexs]
        unfold shw
        rw [if_neg hno]
      refine ⟨0, rfl, by decide, ?_⟩
      rw [a2 0 (by decide)]
      refine brc (nI_ltI (by omega) (by omega)) (fun h => nosh (fun z => by omega)) (fun h => ⟨p, rfl, by omega, 0, rfl, by decide, p - el k 0, ?_, by omega, ?_⟩)
      · rw [a2 0 (by decide), pk_sub (by omega)]
      · have htj := h12.2.2.1.2.2 (p - el k 0) (by omega)
        rw [hti.1, htj.1]
        refine brd (nI_eq (by omega) (by omega)) (fun h4 => nosh (fun z => h4 z.2)) (fun h4 => ⟨0, rfl, by decide, ?_⟩)
        rw [a2 0 (by decide)]
        refine p_stepCostM hf (by decide) hL h12.2.1 (by decide) (fun z => absurd z (by decide)) (fun _ z => absurd rfl z) (fun z => absurd z (by decide)) ⟨_, _, _, rfl, ?_⟩
        all_goals try dsimp only
        rw [nI_add, nI_add]
        have hpv := pv_sh hB hn ht h3 (by omega) h4
        refine p_come1 hL h12.1 hK1 hK2 hn h2 h12.2.2.2.2 a2 hC.2.2.2.1 hp (by omega) (by omega) hpv (fun I3 b1 b2 => ⟨_, _, rfl, ?_⟩)
        all_goals try dsimp only
        try dsimp only
        refine lit I3 _ (ha2.tr b1 (by simp)) (h12.come b1 b2) (opw_IV hK1 h2 (by omega) (by omega) hpv) (h3.op (by omega)) (a2.ag b1 (by decide)) ?_
        rw [hexs]
        unfold shw
        rw [if_pos ⟨by omega, h4⟩]
        rfl
    | succ u ih =>
      intro j I1 W1 hu hj ha h1 h2 h3 he
      obtain ⟨e, ee, hrb⟩ := rb I1 W1 h1 h3
      have hlj := hC.2.2.2.1 j (by omega)
      refine wX11_expand_92 (xK_lt hf hL) rfl rfl rfl rfl rfl (br2 (by first | (rw [nI_ltI (by omega) (by omega)]; omega) | (rw [nI_leI (by omega) (by omega)]; omega) | (rw [nI_eq (by omega) (by omega)]; omega) | (rw [nI_e0 (by omega)]; omega) | (rw [nI_le0 (by omega)]; omega)) (p_takeLatestM hL (b := 40 * p + r) (by omega) hrb (fun I2 a1 a2 => ⟨_, _, rfl, j, rfl, by omega, ?_⟩)))
      all_goals try dsimp only
      try dsimp only
      rw [ee] at a2
      rw [a2 j (by omega)]
      have h12 := h1.lat a1
      refine p_aheadM hf hL a2 (by omega) (fun I3 b1 b2 => ⟨_, _, rfl, ?_⟩)
      all_goals try dsimp only
      try dsimp only
      have h13 := h12.lat b1
      refine p_longestAgainM hf hL h13.2.1.1 h13.2.2.2.1 hn hp hlj.1 hlj.2 ⟨_, _, _, rfl, ?_⟩
      all_goals try dsimp only
      have hsb : sb t n 2 p (el k j) ≤ 300 := by
        have h5 := sb_le t n 2 p (el k j)
        have h6 := lr_le t n (xgt 2) p
        omega
      have hLa := LB_ah hC.2.2.2.1 hlj.1 hlj.2 (show j < 4 by omega)
      -- the lengths
      have inn : ∀ l I4 W4, l ≤ sb t n 2 p (el k j) → xag I I4 [81, 92, 93, 94, 95, 96, 97, 98] → EX I4 V t n K W4 → IV V t n K W4 p → CU n p r k W4 → ML I4 (ah (el k) (el k j) j) → agn V K p r k j l W4 = ags V t n K p r k (j + 1) (cpn V t n K p r k (lc t n 2 p) W) → Wp (d + 4) 139 129 [some (.ref 59), some (.int (nI p)), some (.int (nI r)), some (.int (nI (40 * p + r))), some (.int (nI (k / 2 ^ 36))), some (.int (nI j)), some (.int (nI (el k j))), some (.int (nI l))] [] (xK 2 L, P, I4, J, xFr 2 c s) Q := by
        intro l
        induction l with
        | zero =>
          intro I4 W4 hl g1 g2 g3 g4 g5 g6
          refine wX11_expand_129 rfl (br1 (by decide) ?_)
          rw [nI_add]
          exact ih (j + 1) I4 W4 (by omega) (by omega) g1 g2 g3 g4 g6
        | succ l ihl =>
          intro I4 W4 hl g1 g2 g3 g4 g5 g6
          rw [agn] at g6
          refine wX11_expand_129 rfl (brc (nI_ltI (by omega) (by omega)) (fun h => ?_) (fun h => ?_))
          · rw [if_pos h] at g6
            rw [nI_add]
            exact ih (j + 1) I4 W4 (by omega) (by omega) g1 g2 g3 g4 g6
          · rw [if_neg h] at g6
            have hso := sb_ok hl (by omega)
            rw [nI_add]
            refine p_stepCostM hf (by decide) hL g2.2.1 (by omega) (fun z => by omega) (fun _ _ => ⟨by show 2 ≤ l + 1; omega, by omega⟩) (fun z => by omega) ⟨_, _, _, rfl, ?_⟩
            all_goals try dsimp only
            have hsc : sco V 2 (2 + j) (l + 1) (el k j) 0 = ca V j (l + 1) := by
              unfold sco
              rw [if_neg (by omega), if_neg (by omega), if_neg (by omega)]
              rfl
            rw [hsc, nI_add, nI_add]
            have hpv := pv_ag hB hn ht g4 (show j < 4 by omega) (show 2 ≤ l + 1 by omega) hl
            refine p_come1 hL g2.1 hK1 hK2 hn g3 g2.2.2.2.2 g5 hLa hp (by omega) (by omega) hpv (fun I5 c1 c2 => ⟨_, _, rfl, ?_⟩)
            all_goals try dsimp only
            try dsimp only
            rw [xm1, pk_sub (by omega), Nat.add_sub_cancel]
            exact ihl I5 _ (by omega) (g1.tr c1 (by simp)) (g2.come c1 c2) (opw_IV hK1 g3 (by omega) (by omega) hpv) (g4.op (by omega)) (g5.ag c1 (by decide)) g6
      have hgo := inn (sb t n 2 p (el k j)) I3 W1 (Nat.le_refl _) ((ha.tr a1 (by simp)).tr b1 (by simp)) h13 h2 h3 b2 (by rw [he]; rfl)
      by_cases e2 : sb t n 2 p (el k j) < 2
      · rw [if_pos e2]
        refine wX11_expand_129 rfl (br1 (by decide) ?_)
        rw [nI_add]
        refine ih (j + 1) I3 W1 (by omega) (by omega) ((ha.tr a1 (by simp)).tr b1 (by simp)) h13 h2 h3 ?_
        rw [ags, ← he]
        cases hq : sb t n 2 p (el k j) with
        | zero => rfl
        | succ q => rw [agn, if_pos (by omega)]
      · rw [if_neg e2]
        exact hgo
  -- the copies
  have cps : ∀ l I1 W1, l ≤ lc t n 2 p → xag I I1 [81, 92, 93, 94, 95, 96, 97, 98] → EX I1 V t n K W1 → IV V t n K W1 p → CU n p r k W1 → cpn V t n K p r k l W1 = cpn V t n K p r k (lc t n 2 p) W → Wp (d + 4) 139 22 [some (.ref 59), some (.int (nI p)), some (.int (nI r)), some (.int (nI (40 * p + r))), some (.int (nI (k / 2 ^ 36))), some (.int (nI l)), none, none] [] (xK 2 L, P, I1, J, xFr 2 c s) Q := by
    intro l
    induction l with
    | zero =>
      intro I1 W1 hl ha h1 h2 h3 he
      refine wX11_expand_22 (xK_lt hf hL) rfl rfl rfl (p_shortestM hf h1.2.1.1 ⟨_, _, _, rfl, ?_⟩)
      all_goals try dsimp only
      try dsimp only
      refine br1 (by decide) ?_
      exact aga 4 0 I1 W1 rfl (by omega) ha h1 h2 h3 he
    | succ l ihl =>
      intro I1 W1 hl ha h1 h2 h3 he
      rw [cpn] at he
      have hlt : l + 1 < 301 := by
        have := lc_ok (t := t) (n := n) (f := 2) (i := p) (by omega)
        omega
      refine wX11_expand_22 (xK_lt hf hL) rfl rfl rfl (p_shortestM hf h1.2.1.1 ⟨_, _, _, rfl, ?_⟩)
      all_goals try dsimp only
      try dsimp only
      refine brc (p := l + 1 < 2) (nI_ltI (by omega) (by decide)) (fun h => ?_) (fun h => ?_)
      · rw [if_pos h] at he
        exact aga 4 0 I1 W1 rfl (by omega) ha h1 h2 h3 he
      · rw [if_neg h] at he
        have hd := lc2 (t := t) (n := n) (i := p) (l := l + 1) (by omega) hl
        obtain ⟨e, ee, hrb⟩ := rb I1 W1 h1 h3
        refine p_takeLatestM hL (b := 40 * p + r) (by omega) hrb (fun I2 a1 a2 => ⟨_, _, rfl, 301 * p + (l + 1), by rw [pk_mul, nI_add], by omega, ?_⟩)
        all_goals try dsimp only
        try dsimp only
        rw [ee] at a2
        have h12 := h1.lat a1
        have hnd : I2 80 (301 * p + (l + 1)) = nI (nd t n 273 p (l + 1)) := h12.2.2.2.1.2 p (l + 1) hp hp (by omega) (by omega)
        rw [hnd]
        refine p_aheadM hf hL a2 (by decide) (fun I3 b1 b2 => ⟨_, _, rfl, ?_⟩)
        all_goals try dsimp only
        try dsimp only
        have h13 := h12.lat b1
        refine p_stepCostM hf (by decide) hL h13.2.1 (by decide) (fun z => absurd z (by decide)) (fun _ _ => ⟨by show 2 ≤ l + 1; omega, by omega⟩) (fun _ => ⟨hd.2.2.1, by omega⟩) ⟨_, _, _, rfl, ?_⟩
        all_goals try dsimp only
        have hsc : sco V 2 1 (l + 1) (nd t n 273 p (l + 1)) 0 = cc V (l + 1) (nd t n 273 p (l + 1)) := rfl
        rw [hsc, nI_add, nI_add]
        have hpv := pv_cp hB hn ht h3 (show 2 ≤ l + 1 by omega) hl
        refine p_come1 hL h13.1 hK1 hK2 hn h2 h13.2.2.2.2 b2 (LB_ah hC.2.2.2.1 hd.2.2.1 (by omega) (by decide)) hp (by omega) (by omega) hpv (fun I4 c1 c2 => ⟨_, _, rfl, ?_⟩)
        all_goals try dsimp only
        try dsimp only
        rw [xm1, pk_sub (by omega), Nat.add_sub_cancel]
        exact ihl I4 _ (by omega) (((ha.tr a1 (by simp)).tr b1 (by simp)).tr c1 (by simp)) (h13.come c1 c2) (opw_IV hK1 h2 (by omega) (by omega) hpv) (h3.op (by omega)) he
  obtain ⟨e, ee, hrb⟩ := rb I W h0 hC
  refine wX11_expand_0 (xK_lt hf hL) rfl rfl rfl ⟨40 * p + r, by rw [pk_mul, nI_add], by omega, p_longestCopyM hf hL h0.2.1.1 h0.2.2.2.1 hn hp ⟨_, _, _, rfl, ?_⟩⟩
  all_goals try dsimp only
  try dsimp only
  rw [RB_sum hrb, ee, pk_mul, nI_add]
  exact cps _ I W (Nat.le_refl _) xag.rfl h0 hI hC rfl
end WDM3
