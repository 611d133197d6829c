/-! the reference's greedy -/
def GF (I I1 : Nat → Nat → Int32) : Prop := xag I I1 [59, 72, 73, 74, 75, 81] ∧ ∀ q, q ≠ 11 → q ≠ 17 → q ≠ 22 → I1 59 q = I 59 q
theorem GF.up {I I1 I2 : Nat → Nat → Int32} {S : List Nat} (h : GF I I1) (ha : xag I1 I2 S) (hs : ∀ a, a ∈ S → a ∈ [59, 72, 73, 74, 75, 81]) (h2 : ∀ q, q ≠ 11 → q ≠ 17 → q ≠ 22 → I2 59 q = I1 59 q) : GF I I2 := ⟨h.1.tr ha hs, fun q a b c => by rw [h2 q a b c, h.2 q a b c]⟩
theorem xor0 {b : Nat} (hb : b < 2) : nI b ||| nI 0 = nI b := by
  rcases (by omega : b = 0 ∨ b = 1) with rfl | rfl <;> rfl
theorem xor1 {b : Nat} (hb : b < 2) : nI b ||| nI 1 = nI 1 := by
  rcases (by omega : b = 0 ∨ b = 1) with rfl | rfl <;> rfl
section GRM2
variable {d f L c s m n : Nat} {t : Nat → Nat} {V : Nat → Nat → Nat} {Q : Option Value × xS → Prop} {P : List Nat × Nat × Nat} {I : Nat → Nat → Int32} {J : Nat → Nat → Int64}
theorem p_greedyM (hf : f < 3) (hL : L < 2147483648) (hM : MV I f V) (hT : MT I n t) (h0 : LO I n t f) {look : Nat} (hlk : look < 3) (k : ∀ I' m, GF I I' → GM t n f look m → MA I' m (gR t n f look) → I' 59 17 = nI 0 → Q (none, (xK f L, P, I', xup J 59 16 (lN (allc V f t (gR t n f look) m)), xFr f c s))) : Wp (d + 5) 125 0 [some (.ref 59), some (.int (nI look)), none, none, none, none] [] (xK f L, P, I, J, xFr f c s) Q := by
  have hn := hT.2.1
  have loop : ∀ q j I1, n - (gs t n f look j).1 = q → (∀ j', j' < j → (gs t n f look j').1 < n) → GF I I1 → MA I1 j (gR t n f look) → ML I1 (gs t n f look j).2 → Wp (d + 5) 125 11 [some (.ref 59), some (.int (nI look)), some (.int (nI (gs t n f look j).1)), none, none, none] [] (xK f L, P, I1, J, xFr f c s) Q := by
    intro q
    induction q using Nat.strongRecOn with
    | _ q ih =>
      intro j I1 hq hj ha h1 hml
      have hT1 : MT I1 n t := hT.ag2 ha.1 (ha.2 3 (by decide) (by decide) (by decide)) (by decide)
      have hM1 : MV I1 f V := hM.ag2 ha.1 (ha.2 1 (by decide) (by decide) (by decide)) (by decide)
      have h01 : LO I1 n t f := h0.ag ha.1 (by decide)
      have hg := gs_ok hf hn j hj
      by_cases hend : (gs t n f look j).1 = n
      · refine wX11_greedy_11 rfl (br1 ?_ ?_)
        · rw [hT1.1]
          exact (by first | (rw [nI_ltI (by omega) (by omega)]; omega) | (rw [nI_leI (by omega) (by omega)]; omega) | (rw [nI_eq (by omega) (by omega)]; omega) | (rw [nI_e0 (by omega)]; omega) | (rw [nI_le0 (by omega)]; omega))
        · refine p_allCostM hf hL hM1 hT1 h1 (GM.VS hf hn ⟨hend, hj⟩) ⟨_, _, _, rfl, ?_⟩
          all_goals try dsimp only
          refine k _ j (ha.up (xag.rfl.up (a := 59) (S := [59]) (by simp)) (by simp) (fun q g1 g2 g3 => by rw [xup_at, if_neg g2])) ⟨hend, hj⟩ ?_ (by rw [xup_at, if_pos rfl])
          refine h1.ag2 (S := [59]) (xag.rfl.up (by simp)) (by rw [xup_at, if_neg (by decide)]) (by decide)
      · have hlt : (gs t n f look j).1 < n := by omega
        have hok := gstep_ok (t := t) (look := look) hf hn hlt hg.1
        have hsz := okS_lt hok.1
        have hj300 : j < 300 := by omega
        generalize hI0 : (gs t n f look j).1 = i at *
        have hl300 : ∀ p, lc t n f p ≤ 300 := fun p => by
          have h1 := xgt_le f
          by_cases e : lc t n f p = 0
          · omega
          · have := lc_ok e
            omega
        have hli := hl300 i
        -- the next step
        have next : ∀ I2 (kd sz bk i' : Nat) la', GF I I2 → gstep t n f look (gs t n f look j) = ((kd, i, sz, bk), (i', la')) → MA I2 (j + 1) (va_up (gR t n f look) j (kd, i, sz, bk)) → ML I2 la' → Wp (d + 5) 125 11 [some (.ref 59), some (.int (nI look)), some (.int (nI i')), none, none, none] [] (xK f L, P, I2, J, xFr f c s) Q := by
          intro I2 kd sz bk i' la' ha2 he hp2 hm2
          have e1 : gs t n f look (j + 1) = (i', la') := by rw [gs, he]
          have e2 : gR t n f look j = (kd, i, sz, bk) := by unfold gR; rw [he]
          have := ih (n - (gs t n f look (j + 1)).1) (by
            have h3 := hok.2.2.1
            have h4 := hok.2.2.2.1
            rw [gs]
            omega) (j + 1) I2 rfl (fun j' hj' => by
              by_cases e : j' = j
              · subst e; omega
              · exact hj j' (by omega)) ha2 (hp2.cg (fun i hi => by
              by_cases e : i = j
              · subst e; rw [va_up_self, e2]
              · rw [va_up_ne _ _ e])) (by rw [e1]; exact hm2)
          rw [e1] at this
          exact this
        refine wX11_greedy_11 rfl (br2 ?_ ?_)
        · rw [hT1.1]
          exact (by first | (rw [nI_ltI (by omega) (by omega)]; omega) | (rw [nI_leI (by omega) (by omega)]; omega) | (rw [nI_eq (by omega) (by omega)]; omega) | (rw [nI_e0 (by omega)]; omega) | (rw [nI_le0 (by omega)]; omega))
        refine p_longestOfM hf hL hM1.1 hT1 h01 hml hg.1 hlt (fun I2 b1 b2 b3 => ⟨_, _, _, rfl, ?_⟩)
        all_goals try dsimp only
        try dsimp only
        -- looking ahead
        have inner : ∀ q2 kk I3, look - kk = q2 → kk ≤ look → GF I I3 → MA I3 j (gR t n f look) → ML I3 (gs t n f look j).2 → Wp (d + 5) 125 31 [some (.ref 59), some (.int (nI look)), some (.int (nI i)), some (.int (nI (lc t n f i))), some (.int (nI (if lah (fun k => lcx t n f (i + k)) (lc t n f i) kk = true then 1 else 0))), some (.int (nI (kk + 1)))] [] (xK f L, P, I3, J, xFr f c s) Q := by
          intro q2
          induction q2 with
          | zero =>
            intro kk I3 hq2 hkk g1 g2 g3
            have ekk : kk = look := by omega
            subst ekk
            have hT3 : MT I3 n t := hT.ag2 g1.1 (g1.2 3 (by decide) (by decide) (by decide)) (by decide)
            have hI3 : I3 59 1 = nI f := by rw [g1.2 1 (by decide) (by decide) (by decide)]; exact hM.1
            have h03 : LO I3 n t f := h0.ag g1.1 (by decide)
            refine wX11_greedy_31 (xK_lt hf hL) rfl rfl rfl rfl rfl (br1 (by first | (rw [nI_ltI (by omega) (by omega)]; omega) | (rw [nI_leI (by omega) (by omega)]; omega) | (rw [nI_eq (by omega) (by omega)]; omega) | (rw [nI_e0 (by omega)]; omega) | (rw [nI_le0 (by omega)]; omega)) ?_)
            refine p_longestOfM hf hL hI3 hT3 h03 g3 hg.1 hlt (fun I4 r1 r2 r3 => ⟨_, _, _, rfl, ?_⟩)
            all_goals try dsimp only
            try dsimp only
            have g14 : GF I I4 := g1.up r1 (by simp) (fun q z1 z2 z3 => r2 q z3)
            have g24 : MA I4 j (gR t n f kk) := g2.ag2 r1 (r2 11 (by decide)) (by decide)
            have g34 : ML I4 (gs t n f kk j).2 := g3.ag r1 (by decide)
            have lit : (lc t n f i = 0 ∨ lah (fun k => lcx t n f (i + k)) (lc t n f i) kk = true) → Wp (d + 4) 124 0 [some (.ref 59), some (.int (nI i)), some (.int (nI 0)), some (.int (nI 1)), some (.int (nI 0))] [] (xK f L, P, I4, J, xFr f c s) (xrV (xK f L) P (xFr f c s) (fun I5 J6 => Wp (d + 4 + 1) 125 11 [some (.ref 59), some (.int (nI kk)), some (.int (nI i + nI 1)), none, none, none] [] (xK f L, P, I5, J6, xFr f c s) Q)) := by
              intro hc
              refine p_addStepM hf hL g24 hj300 (fun I5 z1 z2 z3 => ⟨_, _, rfl, ?_⟩)
              all_goals try dsimp only
              try dsimp only
              rw [nI_add]
              refine next I5 0 1 0 _ (gs t n f kk j).2 (g14.up z1 (by simp) (fun q y1 y2 y3 => z2 q y1)) ?_ z3 (g34.ag z1 (by decide))
              unfold gstep
              rw [hI0, if_pos hc]
            refine brc (nI_e0 (by omega)) (fun h => lit (Or.inl h)) (fun h => ?_)
            have hc := lc_ok h
            by_cases hla : lah (fun k => lcx t n f (i + k)) (lc t n f i) kk = true
            · rw [if_pos hla]
              exact br2 (by decide) (lit (Or.inr hla))
            · rw [if_neg hla]
              refine br1 (by decide) ?_
              rw [r3 h]
              have hnot : ¬ (lc t n f i = 0 ∨ lah (fun k => lcx t n f (i + k)) (lc t n f i) kk = true) := fun z => by
                rcases z with z | z
                · exact h z
                · exact hla z
              have hakl : ak t n f (gs t n f kk j).2 i (lc t n f i) ≠ 4 → ak t n f (gs t n f kk j).2 i (lc t n f i) < 4 := by
                intro e
                unfold ak at e ⊢
                by_cases e3 : f = 2
                · rw [if_pos e3] at e ⊢
                  exact (lk_lt _ _ 4 e).1
                · rw [if_neg e3] at e
                  exact absurd rfl e
              by_cases e4 : ak t n f (gs t n f kk j).2 i (lc t n f i) = 4
              · rw [if_pos e4]
                refine bn2 rfl ⟨301 * i + lc t n f i, by rw [pk_mul, nI_add], by omega, ?_⟩
                have h04 : LO I4 n t f := h0.ag g14.1 (by decide)
                rw [h04.2 i (lc t n f i) hlt hlt (by omega) (by omega)]
                refine p_addStepM hf hL g24 hj300 (fun I5 z1 z2 z3 => ⟨_, _, rfl, ?_⟩)
                all_goals try dsimp only
                try dsimp only
                refine p_aheadM hf hL (g34.ag z1 (by decide)) (by decide) (fun I6 y1 y2 => ⟨_, _, rfl, ?_⟩)
                all_goals try dsimp only
                try dsimp only
                rw [nI_add]
                refine next I6 1 _ _ _ _ ((g14.up z1 (by simp) (fun q y1 y2 y3 => z2 q y1)).up y1 (by simp) (fun q _ _ _ => by rw [y1 59 (by decide)])) ?_ (z3.ag2 y1 (by rw [y1 59 (by decide)]) (by decide)) y2
                unfold gstep
                rw [hI0, if_neg hnot, if_pos e4]
              · rw [if_neg e4]
                have hak := hakl e4
                have hlak := hg.1 _ hak
                refine bn1 (by first | (rw [nI_ltI (by omega) (by omega)]; omega) | (rw [nI_leI (by omega) (by omega)]; omega) | (rw [nI_eq (by omega) (by omega)]; omega) | (rw [nI_e0 (by omega)]; omega) | (rw [nI_le0 (by omega)]; omega)) ⟨ak t n f (gs t n f kk j).2 i (lc t n f i), by rw [pk_sub (by omega), Nat.add_sub_cancel_left], by omega, ?_⟩
                rw [g34 _ hak]
                refine p_addStepM hf hL g24 hj300 (fun I5 z1 z2 z3 => ⟨_, _, rfl, ?_⟩)
                all_goals try dsimp only
                try dsimp only
                rw [z2 22 (by decide), r3 h, if_neg e4, pk_sub (by omega), Nat.add_sub_cancel_left]
                refine p_aheadM hf hL (g34.ag z1 (by decide)) hak (fun I6 y1 y2 => ⟨_, _, rfl, ?_⟩)
                all_goals try dsimp only
                try dsimp only
                rw [nI_add]
                refine next I6 _ _ _ _ _ ((g14.up z1 (by simp) (fun q y1 y2 y3 => z2 q y1)).up y1 (by simp) (fun q _ _ _ => by rw [y1 59 (by decide)])) ?_ (z3.ag2 y1 (by rw [y1 59 (by decide)]) (by decide)) y2
                unfold gstep
                rw [hI0, if_neg hnot, if_neg e4]
          | succ q2 ih2 =>
            intro kk I3 hq2 hkk g1 g2 g3
            have hT3 : MT I3 n t := hT.ag2 g1.1 (g1.2 3 (by decide) (by decide) (by decide)) (by decide)
            have hI3 : I3 59 1 = nI f := by rw [g1.2 1 (by decide) (by decide) (by decide)]; exact hM.1
            have h03 : LO I3 n t f := h0.ag g1.1 (by decide)
            have hb2 : (if lah (fun k => lcx t n f (i + k)) (lc t n f i) kk = true then 1 else 0) < 2 := by split <;> omega
            refine wX11_greedy_31 (xK_lt hf hL) rfl rfl rfl rfl rfl (br2 (by first | (rw [nI_ltI (by omega) (by omega)]; omega) | (rw [nI_leI (by omega) (by omega)]; omega) | (rw [nI_eq (by omega) (by omega)]; omega) | (rw [nI_e0 (by omega)]; omega) | (rw [nI_le0 (by omega)]; omega)) ?_)
            rw [hT3.1, nI_add]
            have no : ¬ lc t n f i < lcx t n f (i + (kk + 1)) → ∀ I4, GF I I4 → MA I4 j (gR t n f look) → ML I4 (gs t n f look j).2 → Wp (d + 4 + 1) 125 31 [some (.ref 59), some (.int (nI look)), some (.int (nI i)), some (.int (nI (lc t n f i))), some (.int (nI (if lah (fun k => lcx t n f (i + k)) (lc t n f i) kk = true then 1 else 0) ||| nI 0)), some (.int (nI (kk + 1) + nI 1))] [] (xK f L, P, I4, J, xFr f c s) Q := by
              intro hno I4 y1 y2 y3
              rw [xor0 hb2, nI_add]
              have := ih2 (kk + 1) I4 (by omega) (by omega) y1 y2 y3
              rw [lah, decide_eq_false hno, Bool.or_false] at this
              exact this
            refine brc (nI_leI (by omega) (by omega)) (fun h => no ?_ I3 g1 g2 g3) (fun h => ?_)
            · unfold lcx
              rw [if_neg (by omega)]
              omega
            · have hlx : lcx t n f (i + (kk + 1)) = lc t n f (i + (kk + 1)) := by
                unfold lcx
                rw [if_pos (by omega)]
              have hl2 := hl300 (i + (kk + 1))
              refine p_longestOfM hf hL hI3 hT3 h03 g3 hg.1 (by omega) (fun I4 r1 r2 r3 => ⟨_, _, _, rfl, ?_⟩)
              all_goals try dsimp only
              try dsimp only
              have g14 : GF I I4 := g1.up r1 (by simp) (fun q z1 z2 z3 => r2 q z3)
              have g24 : MA I4 j (gR t n f look) := g2.ag2 r1 (r2 11 (by decide)) (by decide)
              have g34 : ML I4 (gs t n f look j).2 := g3.ag r1 (by decide)
              refine brc (nI_leI (by omega) (by omega)) (fun h4 => no (by omega) I4 g14 g24 g34) (fun h4 => ?_)
              rw [xor1 hb2, nI_add]
              have := ih2 (kk + 1) I4 (by omega) (by omega) g14 g24 g34
              rw [lah, decide_eq_true (by show lc t n f i < lcx t n f (i + (kk + 1)); omega), Bool.or_true, if_pos rfl] at this
              exact this
        exact inner look 0 I2 rfl (Nat.zero_le _) (ha.up b1 (by simp) (fun q z1 z2 z3 => b2 q z3)) (h1.ag2 b1 (b2 11 (by decide)) (by decide)) (hml.ag b1 (by decide))
  refine wX11_greedy_0 rfl (p_clearLatestM hf hL (fun I1 b1 b2 => ⟨_, _, rfl, ?_⟩))
  all_goals try dsimp only
  try dsimp only
  have a0 : xag I (xup I 59 11 (nI 0)) [59, 72, 73, 74, 75, 81] := xag.rfl.up (by simp)
  have hf1 : GF I I1 := ⟨a0.tr b1 (by simp), fun q z1 z2 z3 => by rw [b1 59 (by decide), xup_at, if_neg z1]⟩
  refine loop _ 0 I1 rfl (fun j hj => by omega) hf1 ⟨?_, by omega, fun i hi => by omega⟩ b2
  rw [b1 59 (by decide), xup_at, if_pos rfl]
end GRM2
