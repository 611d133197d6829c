/-! FORM 2: the reference's bestWide -/
section WDM4
variable {d L c s n K : Nat} {t : Nat → Nat} {V : Nat → Nat → Nat} {Q : Option Value × xS → Prop} {P : List Nat × Nat × Nat} {I : Nat → Nat → Int32} {J : Nat → Nat → Int64}
theorem p_bestWideM (hL : L < 2147483648) (hK : I 59 5 = nI K) (hK1 : 1 ≤ K) (hK2 : K ≤ 40) (hM : MV I 2 V) (hT : MT I n t) (hO : LO I n t 2) (k : ∀ I' m, BF I I' → TM2 (wr V t n K n) n m → MA I' m (fun i => T2 (wr V t n K n) n (m - 1 - i)) → I' 59 17 = nI (if dcn (wr V t n K n) n = 0 then 1 else 0) → I' 59 18 = nI (dcn (wr V t n K n) n) → Q (none, (xK 2 L, P, I', xup J 59 16 (lN (((wr V t n K n n).2.1 0).1 / 2 ^ 36)), xFr 2 c s))) : Wp (d + 5) 140 0 [some (.ref 59), none, none, none, none, none, none] [] (xK 2 L, P, I, J, xFr 2 c s) Q := by
  have hf : 2 < 3 := by decide
  have hn := hT.2.1
  have hB := hM.2.2
  have ht : ∀ j, j < n → t j < 256 := fun j hj => (hT.2.2 j hj).2
  have hWn := wr_IV hK1 hB hn ht n (Nat.le_refl _)
  -- back from the end
  have back : ∀ w j I1 J1, n - j = w → (∀ j', j' < j → (tp2 (wr V t n K n) n j').1 ≠ 0) → BF I I1 → MWA I1 (wr V t n K n) n → TB I1 j (T2 (wr V t n K n) n) → I1 59 17 = nI (if dcn (wr V t n K n) n = 0 then 1 else 0) → I1 59 18 = nI (dcn (wr V t n K n) n) → J1 = xup J 59 16 (lN (((wr V t n K n n).2.1 0).1 / 2 ^ 36)) → Wp (d + 5) 140 169 [some (.ref 59), some (.int (nI j)), some (.int (nI (tp2 (wr V t n K n) n j).1)), some (.int (nI (tp2 (wr V t n K n) n j).2)), none, none, none] [] (xK 2 L, P, I1, J1, xFr 2 c s) Q := by
    generalize wr V t n K n = W at *
    intro w
    induction w using Nat.strongRecOn with
    | _ w ih =>
      intro j I1 J1 hw hj ha hA h1 h17 h18 hJ
      have hok := tp2_ok hWn j hj
      by_cases hend : (tp2 W n j).1 = 0
      · refine wX11_bestWide_169 (xK_lt hf hL) rfl rfl rfl rfl rfl rfl rfl rfl rfl rfl rfl rfl rfl rfl rfl rfl rfl (br1 (by rw [hend]; decide) ?_)
        refine p_turnBackM hf hL (by omega) h1 (fun I2 b1 b2 b3 => ⟨_, _, rfl, ?_⟩)
        all_goals try dsimp only
        rw [hJ]
        refine k I2 j ⟨ha.1.tr b1 (by simp), fun q z1 z2 z3 => by rw [b2 q z1]; exact ha.2 q z1 z2 z3⟩ ⟨hend, hj⟩ b3 (by rw [b2 17 (by decide)]; exact h17) (by rw [b2 18 (by decide)]; exact h18)
      · have hpv := tp2_pv hWn hj hend
        have hrb := (hA _ (show (tp2 W n j).1 ≤ n by omega)).2.2 _ hok.2
        have hrf := RB_from hrb
        have hrk : (tp2 W n j).2 < 40 := by have := (hWn.1 (tp2 W n j).1 (by omega)).1; omega
        have hnx : tp2 W n (j + 1) = ((tp2 W n j).1 - (en2 W n j).2.2.1, (en2 W n j).2.1) := rfl
        have hle : (en2 W n j).2.2.1 ≤ (tp2 W n j).1 := hpv.2.1
        have hkd := (okS_lt hpv.2.2.2.2.2.2.1).1
        have hkd : (en2 W n j).2.2.2 < 7 := hkd
        have hj2 : ∀ j', j' < j + 1 → (tp2 W n j').1 ≠ 0 := fun j' hj' => by
          by_cases e : j' = j
          · rw [e]; exact hend
          · exact hj j' (by omega)
        have hbk : I1 96 (40 * (tp2 W n j).1 + (tp2 W n j).2) = nI ((tp2 W n j).1 - (en2 W n j).2.2.1) := hrf.1
        have hb7 : I1 97 (40 * (tp2 W n j).1 + (tp2 W n j).2) = nI (en2 W n j).2.2.2 := hrf.2.1
        have hb8 : I1 98 (40 * (tp2 W n j).1 + (tp2 W n j).2) = nI (en2 W n j).2.1 := hrf.2.2
        have hb5 : I1 95 (4 * (40 * (tp2 W n j).1 + (tp2 W n j).2)) = nI (el (en2 W n j).1 0) := RB_el hrb (q := 0) (by decide)
        -- the row that comes
        have next : ∀ I2, (∀ a, a ∉ [88, 89, 90, 91] → I2 a = I1 a) → TB I2 (j + 1) (T2 W n) → Wp (d + 5) 140 169 [some (.ref 59), some (.int (nI (j + 1))), some (.int (nI ((tp2 W n j).1 - (en2 W n j).2.2.1))), some (.int (nI (en2 W n j).2.1)), none, none, none] [] (xK 2 L, P, I2, J1, xFr 2 c s) Q := by
          intro I2 hag htb
          have hag : xag I1 I2 [88, 89, 90, 91] := hag
          have := ih (n - (j + 1)) (by omega) (j + 1) I2 J1 rfl hj2 ⟨ha.1.tr hag (by simp), fun q z1 z2 z3 => by rw [hag 59 (by decide)]; exact ha.2 q z1 z2 z3⟩ (hA.ag hag (by decide)) htb (by rw [hag 59 (by decide)]; exact h17) (by rw [hag 59 (by decide)]; exact h18) hJ
          rw [hnx] at this
          exact this
        refine wX11_bestWide_169 (xK_lt hf hL) rfl rfl rfl rfl rfl rfl rfl rfl rfl rfl rfl rfl rfl rfl rfl rfl rfl (br2 (by first | (rw [nI_ltI (by omega) (by omega)]; omega) | (rw [nI_leI (by omega) (by omega)]; omega) | (rw [nI_eq (by omega) (by omega)]; omega) | (rw [nI_e0 (by omega)]; omega) | (rw [nI_le0 (by omega)]; omega)) ⟨40 * (tp2 W n j).1 + (tp2 W n j).2, by rw [pk_mul, nI_add], by omega, 40 * (tp2 W n j).1 + (tp2 W n j).2, by rw [pk_mul, nI_add], by omega, j, rfl, by omega, j, rfl, by omega, j, rfl, by omega, ?_⟩)
        rw [hbk, hb7]
        refine brd (nI_e0 (by omega)) (fun h => ⟨4 * (40 * (tp2 W n j).1 + (tp2 W n j).2), by rw [pk_mul, nI_add, pk_mul], by omega, j, rfl, by omega, 40 * (tp2 W n j).1 + (tp2 W n j).2, by rw [pk_mul, nI_add], by omega, ?_⟩) (fun h => ⟨j, rfl, by omega, 40 * (tp2 W n j).1 + (tp2 W n j).2, by rw [pk_mul, nI_add], by omega, ?_⟩)
        · rw [pk_sub (by omega), nI_add]
          simp only [xup_ne _ _ _ (show (95 : Nat) ≠ 91 by decide), xup_ne _ _ _ (show (95 : Nat) ≠ 89 by decide), xup_ne _ _ _ (show (95 : Nat) ≠ 88 by decide), xup_ne _ _ _ (show (98 : Nat) ≠ 90 by decide), xup_ne _ _ _ (show (98 : Nat) ≠ 91 by decide), xup_ne _ _ _ (show (98 : Nat) ≠ 89 by decide), xup_ne _ _ _ (show (98 : Nat) ≠ 88 by decide)]
          rw [hb5, hb8]
          refine next _ (fun a haa => ?_) (fun i hi => ?_)
          · simp at haa
            rw [xup_ne _ _ _ haa.2.2.1, xup_ne _ _ _ haa.2.2.2, xup_ne _ _ _ haa.2.1, xup_ne _ _ _ haa.1]
          · by_cases e : i = j
            · subst e
              have hT0 : T2 W n i = ((en2 W n i).2.2.2, (tp2 W n i).1 - (en2 W n i).2.2.1, (en2 W n i).2.2.1, el (en2 W n i).1 0) := by
                unfold T2 rwe
                rw [if_neg h]
              rw [hT0]
              simp [xup_q]
              congr 1
              omega
            · have := h1 i (by omega)
              simp [xup_q, e]
              exact this
        · rw [pk_sub (by omega), nI_add]
          simp only [xup_ne _ _ _ (show (98 : Nat) ≠ 90 by decide), xup_ne _ _ _ (show (98 : Nat) ≠ 91 by decide), xup_ne _ _ _ (show (98 : Nat) ≠ 89 by decide), xup_ne _ _ _ (show (98 : Nat) ≠ 88 by decide)]
          rw [hb8]
          refine next _ (fun a haa => ?_) (fun i hi => ?_)
          · simp at haa
            rw [xup_ne _ _ _ haa.2.2.1, xup_ne _ _ _ haa.2.2.2, xup_ne _ _ _ haa.2.1, xup_ne _ _ _ haa.1]
          · by_cases e : i = j
            · subst e
              have hT0 : T2 W n i = ((en2 W n i).2.2.2, (tp2 W n i).1 - (en2 W n i).2.2.1, (en2 W n i).2.2.1, 0) := by
                unfold T2 rwe
                rw [if_pos h]
              rw [hT0]
              simp [xup_q, h]
              congr 1
              omega
            · have := h1 i (by omega)
              simp [xup_q, e]
              exact this
  -- how many places lost one
  have cnt : ∀ w i I1, n - i = w → i ≤ n → BF I I1 → MWA I1 (wr V t n K n) n → I1 59 18 = nI (dcn (wr V t n K n) i) → Wp (d + 5) 140 90 [some (.ref 59), some (.int (nI i)), none, none, none, none, none] [] (xK 2 L, P, I1, J, xFr 2 c s) Q := by
    intro w
    induction w with
    | zero =>
      intro i I1 hw hi ha hA h18
      have e : i = n := by omega
      subst e
      have hdl := dcn_le (wr V t i K i) i
      have hN : I1 59 3 = nI i := by rw [ha.2 3 (by decide) (by decide) (by decide)]; exact hT.1
      have go : ∀ v, v < 2 → v = (if dcn (wr V t i K i) i = 0 then 1 else 0) → Wp (d + 5) 140 140 [some (.ref 59), none, none, none, none, none, none] [.int (nI v), .ref 59] (xK 2 L, P, I1, J, xFr 2 c s) Q := by
        intro v hv hv2
        have hrb := (hA i (Nat.le_refl _)).2.2 0 (hWn.2.2.2 i (Nat.le_refl _))
        have hsm := hWn.sum hn (Nat.le_refl _) (hWn.2.2.2 i (Nat.le_refl _))
        have h3 : xup I1 59 17 (nI v) 59 3 = nI i := by rw [xup_at, if_neg (by decide)]; exact hN
        refine wX11_bestWide_140 (xK_lt hf hL) rfl rfl rfl rfl ⟨?_, 40 * i, by rw [h3, pk_mul], by omega, ?_⟩
        · rcases (by omega : v = 0 ∨ v = 1) with rfl | rfl
          · exact Or.inl rfl
          · exact Or.inr rfl
        · have h94 : xup I1 59 17 (nI v) 94 (40 * i) = nI (((wr V t i K i i).2.1 0).1 / 2 ^ 36) := by
            rw [xup_ne _ _ _ (by decide)]
            exact RB_sum hrb
          rw [h3, h94, xi2l (by omega)]
          have a17 : xag I1 (xup I1 59 17 (nI v)) [59] := xag.rfl.up (by simp)
          exact back i 0 _ _ rfl (fun j' hj' => by omega) ⟨ha.1.tr a17 (by simp), fun q z1 z2 z3 => by rw [xup_at, if_neg z2]; exact ha.2 q z1 z2 z3⟩ (hA.ag a17 (by decide)) (fun j hj => by omega) (by rw [xup_at, if_pos rfl, hv2]) (by rw [xup_at, if_neg (by decide)]; exact h18) rfl
      refine wX11_bestWide_90 (xK_lt hf hL) rfl rfl rfl (br1 (by rw [hN]; exact (by first | (rw [nI_ltI (by omega) (by omega)]; omega) | (rw [nI_leI (by omega) (by omega)]; omega) | (rw [nI_eq (by omega) (by omega)]; omega) | (rw [nI_e0 (by omega)]; omega) | (rw [nI_le0 (by omega)]; omega))) ?_)
      rw [h18]
      refine brd (nI_e0 (by omega)) (fun h => go 0 (by omega) (by rw [if_neg h])) (fun h => go 1 (by omega) (by rw [if_pos h]))
    | succ w ih =>
      intro i I1 hw hi ha hA h18
      have hN : I1 59 3 = nI n := by rw [ha.2 3 (by decide) (by decide) (by decide)]; exact hT.1
      have h93 := (hA i (by omega)).2.1
      have step : ∀ v, (if ((wr V t n K n) i).2.2 = true then 1 else 0) = v → Wp (d + 5) 140 90 [some (.ref 59), some (.int (nI i + nI 1)), none, none, none, none, none] [] (xK 2 L, P, xup I1 59 18 (I1 59 18 + nI v), J, xFr 2 c s) Q := by
        intro v hv
        have a18 : xag I1 (xup I1 59 18 (I1 59 18 + nI v)) [59] := xag.rfl.up (by simp)
        rw [nI_add]
        refine ih (i + 1) _ (by omega) (by omega) ⟨ha.1.tr a18 (by simp), fun q z1 z2 z3 => by rw [xup_at, if_neg z3]; exact ha.2 q z1 z2 z3⟩ (hA.ag a18 (by decide)) ?_
        rw [xup_at, if_pos rfl, h18, nI_add, dcn, hv]
      refine wX11_bestWide_90 (xK_lt hf hL) rfl rfl rfl (br2 (by rw [hN]; exact (by first | (rw [nI_ltI (by omega) (by omega)]; omega) | (rw [nI_leI (by omega) (by omega)]; omega) | (rw [nI_eq (by omega) (by omega)]; omega) | (rw [nI_e0 (by omega)]; omega) | (rw [nI_le0 (by omega)]; omega))) ⟨i, rfl, by omega, ?_⟩)
      rw [h93]
      by_cases e : ((wr V t n K n) i).2.2 = true
      · rw [if_pos e]
        exact br2 (by decide) (step 1 (if_pos e))
      · rw [if_neg e]
        exact br1 (by decide) (step 0 (if_neg e))
  -- the places one after the other
  have outer : ∀ w i I1, n - i = w → i ≤ n → xag I I1 [81, 92, 93, 94, 95, 96, 97, 98] → EX I1 V t n K (wr V t n K i) → Wp (d + 5) 140 45 [some (.ref 59), some (.int (nI i)), none, none, none, none, none] [] (xK 2 L, P, I1, J, xFr 2 c s) Q := by
    intro w
    induction w with
    | zero =>
      intro i I1 hw hi ha h1
      have e : i = n := by omega
      subst e
      refine wX11_bestWide_45 rfl (br1 (by rw [ha 59 (by decide), hT.1]; exact (by first | (rw [nI_ltI (by omega) (by omega)]; omega) | (rw [nI_leI (by omega) (by omega)]; omega) | (rw [nI_eq (by omega) (by omega)]; omega) | (rw [nI_e0 (by omega)]; omega) | (rw [nI_le0 (by omega)]; omega))) ?_)
      have a18 : xag I1 (xup I1 59 18 (nI 0)) [59] := xag.rfl.up (by simp)
      exact cnt i 0 _ rfl (Nat.zero_le _) ⟨(ha.wd (by simp)).tr a18 (by simp), fun q z1 z2 z3 => by rw [xup_at, if_neg z3, ha 59 (by decide)]⟩ (h1.2.2.2.2.ag a18 (by decide)) (by rw [xup_at, if_pos rfl]; rfl)
    | succ w ih =>
      intro i I1 hw hi ha h1
      have hin : i < n := by omega
      have hIV := wr_IV hK1 hB hn ht i (by omega)
      have hmi := (hIV.1 i (by omega)).1
      refine wX11_bestWide_45 rfl (br2 (by rw [ha 59 (by decide), hT.1]; exact (by first | (rw [nI_ltI (by omega) (by omega)]; omega) | (rw [nI_leI (by omega) (by omega)]; omega) | (rw [nI_eq (by omega) (by omega)]; omega) | (rw [nI_e0 (by omega)]; omega) | (rw [nI_le0 (by omega)]; omega))) ?_)
      have inner : ∀ v r I2, ((wr V t n K i) i).1 - r = v → r ≤ ((wr V t n K i) i).1 → xag I I2 [81, 92, 93, 94, 95, 96, 97, 98] → EX I2 V t n K (plc V t n K i (wr V t n K i) r) → Wp (d + 5) 140 55 [some (.ref 59), some (.int (nI i)), some (.int (nI r)), none, none, none, none] [] (xK 2 L, P, I2, J, xFr 2 c s) Q := by
        intro v
        induction v with
        | zero =>
          intro r I2 hv hr ha2 h2
          have e : r = ((wr V t n K i) i).1 := by omega
          have hm : I2 92 i = nI ((wr V t n K i) i).1 := by
            have := (h2.2.2.2.2 i (by omega)).1
            rw [plc_low _ (Nat.le_refl _)] at this
            exact this
          refine wX11_bestWide_55 (xK_lt hf hL) rfl rfl rfl ⟨i, rfl, by omega, br1 (by rw [hm]; exact (by first | (rw [nI_ltI (by omega) (by omega)]; omega) | (rw [nI_leI (by omega) (by omega)]; omega) | (rw [nI_eq (by omega) (by omega)]; omega) | (rw [nI_e0 (by omega)]; omega) | (rw [nI_le0 (by omega)]; omega))) ?_⟩
          rw [nI_add]
          refine ih (i + 1) I2 (by omega) (by omega) ha2 ?_
          rw [wr, ← e]
          exact h2
        | succ v ihv =>
          intro r I2 hv hr ha2 h2
          have hm : I2 92 i = nI ((wr V t n K i) i).1 := by
            have := (h2.2.2.2.2 i (by omega)).1
            rw [plc_low _ (Nat.le_refl _)] at this
            exact this
          have hpl := plc_IV hK1 hB hn ht hin hIV r (by omega)
          refine wX11_bestWide_55 (xK_lt hf hL) rfl rfl rfl ⟨i, rfl, by omega, br2 (by rw [hm]; exact (by first | (rw [nI_ltI (by omega) (by omega)]; omega) | (rw [nI_leI (by omega) (by omega)]; omega) | (rw [nI_eq (by omega) (by omega)]; omega) | (rw [nI_e0 (by omega)]; omega) | (rw [nI_le0 (by omega)]; omega))) ?_⟩
          refine p_expandM hL hK1 hK2 hpl.1 (hpl.2 r (by omega)) h2 (fun I3 b1 b2 => ⟨_, _, rfl, ?_⟩)
          all_goals try dsimp only
          try dsimp only
          rw [nI_add]
          refine ihv (r + 1) I3 (by omega) (by omega) (ha2.tr b1 (by simp)) ?_
          rw [plc]
          exact b2
      exact inner _ 0 I1 rfl (Nat.zero_le _) ha h1
  -- the rows cleared
  have clr : ∀ w i I1, n + 1 - i = w → i ≤ n + 1 → xag I I1 [92, 93] → (∀ j, j < i → I1 92 j = nI 0 ∧ I1 93 j = nI 0) → Wp (d + 5) 140 2 [some (.ref 59), some (.int (nI i)), none, none, none, none, none] [] (xK 2 L, P, I1, J, xFr 2 c s) Q := by
    intro w
    induction w with
    | zero =>
      intro i I1 hw hi ha h1
      refine wX11_bestWide_2 (xK_lt hf hL) rfl rfl rfl rfl rfl (br1 (by rw [ha 59 (by decide), hT.1]; exact (by first | (rw [nI_ltI (by omega) (by omega)]; omega) | (rw [nI_leI (by omega) (by omega)]; omega) | (rw [nI_eq (by omega) (by omega)]; omega) | (rw [nI_e0 (by omega)]; omega) | (rw [nI_le0 (by omega)]; omega))) (p_clearLatestM hf hL (fun I2 a1 a2 => ⟨_, _, rfl, ?_⟩)))
      all_goals try dsimp only
      try dsimp only
      have ha2 : xag I I2 [81, 92, 93, 94, 95, 96, 97, 98] := (ha.wd (by simp)).tr a1 (by simp)
      have hLB1 : LB (fun _ => 1) := fun k _ => ⟨Nat.le_refl _, by show 1 ≤ 300; decide⟩
      have hky : ky 0 (fun _ => 1) = 134480385 := by
        unfold ky lp
        decide
      have hw0 : WF K ((0, fun _ => (0, 0, 0, 0), false) : xWs) := ⟨Nat.zero_le _, fun i j _ h2 => by have : j < 0 := h2; omega, fun i j _ h2 => by have : j < 0 := h2; omega, fun z => by cases z⟩
      have := p_comesM (d := d + 2) (Q := xrV (xK 2 L) P (xFr 2 c s) (fun I3 J4 => Wp (d + 4 + 1) 140 45 [some (.ref 59), some (.int (nI 0)), none, none, none, none, none] [] (xK 2 L, P, I3, J4, xFr 2 c s) Q)) (P := P) (J := J) (c := c) (s0 := s) (I := I2) (to := 0) (its := 0) (old := 0) (len := 0) (kd := 0) hL (by rw [ha2 59 (by decide)]; exact hK) hK1 hK2 (by decide) hw0 (fun s' hs' => by have : s' < 0 := hs'; omega) (by decide) a2 hLB1 ⟨by rw [a1 92 (by decide)]; exact (h1 0 (by omega)).1, by rw [a1 93 (by decide)]; exact (h1 0 (by omega)).2, fun s' hs' => by have : s' < 0 := hs'; omega⟩ (fun I3 f1 f2 => ⟨_, _, rfl, ?_⟩)
      · exact this
      · have ha3 := ha2.tr f1.1 (by simp)
        refine outer n 0 I3 rfl (Nat.zero_le _) ha3 ⟨by rw [ha3 59 (by decide)]; exact hK, hM.ag ha3 (by decide), hT.ag ha3 (by decide) (by decide), hO.ag ha3 (by decide), fun j hj => ?_⟩
        show MW1 I3 j (W0 j)
        have hop : op K ((0, fun _ => (0, 0, 0, 0), false) : xWs) (ky 0 (fun _ => 1), 0, 0, 0) = (1, sh (fun _ => (0, 0, 0, 0)) 0 0 (ky 0 (fun _ => 1), 0, 0, 0), false) := by
          unfold op
          have e1 : og ((0, fun _ => (0, 0, 0, 0), false) : xWs) (ky 0 (fun _ => 1)) = 0 := rfl
          have e2 : os ((0, fun _ => (0, 0, 0, 0), false) : xWs) (ky 0 (fun _ => 1)) = 0 := rfl
          rw [if_neg (by show ¬ og ((0, fun _ => (0, 0, 0, 0), false) : xWs) (ky 0 (fun _ => 1)) < os ((0, fun _ => (0, 0, 0, 0), false) : xWs) (ky 0 (fun _ => 1)); rw [e1, e2]; omega), if_neg (by show ¬ og ((0, fun _ => (0, 0, 0, 0), false) : xWs) (ky 0 (fun _ => 1)) < 0; rw [e1]; omega), if_pos (by show 0 < K; omega)]
          show (0 + 1, sh _ (os ((0, fun _ => (0, 0, 0, 0), false) : xWs) (ky 0 (fun _ => 1))) 0 _, false) = _
          rw [e2]
        by_cases e : j = 0
        · subst e
          rw [hop] at f2
          unfold W0
          rw [if_pos rfl]
          refine ⟨f2.1, f2.2.1, fun s' hs' => ?_⟩
          have hs0 : s' = 0 := by have : s' < 1 := hs'; omega
          subst hs0
          have := f2.2.2 0 (by show 0 < 1; decide)
          rw [this]
          show enc 0 (sh (fun _ => (0, 0, 0, 0)) 0 0 (ky 0 (fun _ => 1), 0, 0, 0) 0) = enc 0 (134480385, 0, 0, 0)
          unfold sh
          rw [if_pos rfl, hky]
        · unfold W0
          rw [if_neg e]
          have h2 := f1.2.1 j e
          have h3 := h1 j (by omega)
          exact ⟨by rw [h2.1, a1 92 (by decide)]; exact h3.1, by rw [h2.2, a1 93 (by decide)]; exact h3.2, fun s' hs' => by have : s' < 0 := hs'; omega⟩
    | succ w ih =>
      intro i I1 hw hi ha h1
      refine wX11_bestWide_2 (xK_lt hf hL) rfl rfl rfl rfl rfl (br2 (by rw [ha 59 (by decide), hT.1]; exact (by first | (rw [nI_ltI (by omega) (by omega)]; omega) | (rw [nI_leI (by omega) (by omega)]; omega) | (rw [nI_eq (by omega) (by omega)]; omega) | (rw [nI_e0 (by omega)]; omega) | (rw [nI_le0 (by omega)]; omega))) ⟨i, rfl, by omega, i, rfl, by omega, ?_⟩)
      rw [nI_add]
      refine ih (i + 1) _ (by omega) (by omega) ((ha.up (by simp)).up (by simp)) (fun j hj => ?_)
      rw [xup_ne _ _ _ (by decide), xup_at, xup_at]
      by_cases e : j = i
      · rw [if_pos e, if_pos e]
        exact ⟨rfl, rfl⟩
      · rw [if_neg e, if_neg e, xup_ne _ _ _ (by decide)]
        exact h1 j (by omega)
  exact wX11_bestWide_0  (clr _ 0 I rfl (by omega) xag.rfl (fun j hj => by omega))
end WDM4
