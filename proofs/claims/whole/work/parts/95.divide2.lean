/-! SPLITS and CUTS, in the class -/
def tcn (σ : Nat → Bool) : Nat → Nat
  | 0 => 0
  | k + 1 => tcn σ k + (if σ (k + 1) = true then 1 else 0)
def tkl (σ : Nat → Bool) (C : Nat → Nat) : Nat → Nat → Nat
  | 0 => fun _ => 0
  | k + 1 => if σ (k + 1) = true then va_up (tkl σ C k) (tcn σ k) (C k) else tkl σ C k
theorem tcn_le (σ : Nat → Bool) : ∀ k, tcn σ k ≤ k
  | 0 => Nat.le_refl _
  | k + 1 => by
    have := tcn_le σ k
    rw [tcn]
    split <;> omega
theorem tk_gap {σ : Nat → Bool} {C : Nat → Nat} {a : Nat} : ∀ e, a ≤ e → (∀ k, a < k → k ≤ e → σ k = false) → tcn σ e = tcn σ a ∧ tkl σ C e = tkl σ C a
  | 0, h, _ => by
    have : a = 0 := by omega
    subst this
    exact ⟨rfl, rfl⟩
  | e + 1, h, hs => by
    by_cases z : a = e + 1
    · subst z
      exact ⟨rfl, rfl⟩
    · have h1 := tk_gap (σ := σ) (C := C) e (by omega) (fun k h1 h2 => hs k h1 (by omega))
      have h2 := hs (e + 1) (by omega) (Nat.le_refl _)
      rw [tcn, tkl, h2, if_neg (by simp), if_neg (by simp)]
      exact ⟨by omega, h1.2⟩
theorem frp_gap {bc : Nat → Nat → Nat} {c a : Nat} (hc : c ≤ 12) (ha : a ≤ c) (h : frp bc c (a + 1) = a) : ∀ k, a < k → k ≤ (TT bc c a).2.2 → frp bc c k = a
  | 0, h1, _ => by omega
  | k + 1, h1, h2 => by
    by_cases e : k = a
    · rw [e]
      exact h
    · have h3 := frp_gap hc ha h k (by omega) (by omega)
      rw [frp, h3, if_neg (fun z => by omega)]
theorem tb_le {t C : Nat → Nat} {cn n hd : Nat} (hS : CS n cn C) (hn0 : 1 ≤ n) (hn : n ≤ 300) (ht : ∀ j, j < n → t j < 256) (hh : hd ≤ 100000) : ∀ r, r ≤ cn + 1 → ∀ x, (tb (bcs t C cn n hd) cn r x).1 ≤ r * 600000 ∧ (tb (bcs t C cn n hd) cn r x).2.1 ≤ r
  | 0, _, _ => ⟨Nat.zero_le _, Nat.zero_le _⟩
  | r + 1, hr, x => by
    have ih := tb_le hS hn0 hn ht hh r (by omega)
    have hc := hS.1
    rw [tb]
    by_cases e : x = cn - r
    · subst e
      rw [va_up_self]
      obtain ⟨⟨i, q1, q2, _⟩, _⟩ := bz_ok (bc := bcs t C cn n hd) (T := tb (bcs t C cn n hd) cn r) (b := cn - r) r (fun i hi => by
        have := (ih (cn - r + 1 + i)).2
        omega)
      rw [q2]
      have h1 := (bcs_le (t := t) hS hn0 hn ht hh (show cn - r < cn - r + 1 + i by omega) (show cn - r + 1 + i ≤ cn + 1 by omega)).1
      have h2 := ih (cn - r + 1 + i)
      refine ⟨?_, ?_⟩
      · show bcs t C cn n hd (cn - r) (cn - r + 1 + i) + (tb (bcs t C cn n hd) cn r (cn - r + 1 + i)).1 ≤ _
        omega
      · show 1 + (tb (bcs t C cn n hd) cn r (cn - r + 1 + i)).2.1 ≤ _
        omega
    · rw [va_up_ne _ _ e]
      have h1 := ih x
      exact ⟨Nat.le_trans h1.1 (Nat.mul_le_mul_right _ (by omega)), Nat.le_trans h1.2 (by omega)⟩
/-! cuts -/
def cki (C : Nat → Nat) (cn p : Nat) : Nat := fi (fun j => decide (p ≤ C j)) cn
def insC (C : Nat → Nat) (k p : Nat) : Nat → Nat := fun i => if i = k then p else if k < i then C (i - 1) else C i
def CutOk (n cn : Nat) (C : Nat → Nat) (x : Int32) (p : Nat) : Prop := x = nI p ∧ 1 ≤ p ∧ p < n ∧ cn < 12 ∧ ¬ (cki C cn p < cn ∧ C (cki C cn p) = p)
theorem cki_lt {C : Nat → Nat} {cn p j : Nat} (h : j < cki C cn p) : C j < p := by
  have := of_decide_eq_false (fi_lt (fun j => decide (p ≤ C j)) cn j h)
  omega
theorem cki_at {C : Nat → Nat} {cn p : Nat} (h : cki C cn p < cn) : p ≤ C (cki C cn p) := of_decide_eq_true (fi_at (fun j => decide (p ≤ C j)) cn h)
theorem cki_le (C : Nat → Nat) (cn p : Nat) : cki C cn p ≤ cn := fi_le _ _
theorem CS.ins {n cn : Nat} {C : Nat → Nat} (h : CS n cn C) {x : Int32} {p : Nat} (hp : CutOk n cn C x p) : CS n (cn + 1) (insC C (cki C cn p) p) := by
  obtain ⟨_, h1, h2, h3, h4⟩ := hp
  have hl := cki_le C cn p
  have hge : ∀ j, cki C cn p ≤ j → j < cn → p < C j := fun j hj1 hj2 => by
    have h5 := cki_at (C := C) (cn := cn) (p := p) (by omega)
    have h6 : C (cki C cn p) ≠ p := fun z => h4 ⟨by omega, z⟩
    by_cases e : cki C cn p = j
    · rw [← e]; omega
    · have := h.2.2 (cki C cn p) j (by omega) hj2
      omega
  refine ⟨by omega, fun j hj => ?_, fun i j hij hj => ?_⟩
  · unfold insC
    split
    · exact ⟨h1, h2⟩
    · split
      · exact h.2.1 (j - 1) (by omega)
      · exact h.2.1 j (by omega)
  · unfold insC
    by_cases e1 : i = cki C cn p
    · rw [if_pos e1, if_neg (by omega), if_pos (by omega)]
      exact hge (j - 1) (by omega) (by omega)
    · rw [if_neg e1]
      by_cases e2 : cki C cn p < i
      · rw [if_pos e2, if_neg (by omega), if_pos (by omega)]
        exact h.2.2 (i - 1) (j - 1) (by omega) (by omega)
      · rw [if_neg e2]
        have h7 := cki_lt (C := C) (cn := cn) (p := p) (j := i) (by omega)
        by_cases e3 : j = cki C cn p
        · rw [if_pos e3]
          exact h7
        · rw [if_neg e3]
          by_cases e4 : cki C cn p < j
          · rw [if_pos e4]
            by_cases e5 : i = j - 1
            · omega
            · exact h.2.2 i (j - 1) (by omega) (by omega)
          · rw [if_neg e4]
            exact h.2.2 i j hij (by omega)
section DIV2
variable {d f L c s n cn hd : Nat} {t C : Nat → Nat} {Q : Option Value × xS → Prop} {P : List Nat × Nat × Nat} {I : Nat → Nat → Int32} {J : Nat → Nat → Int64}
theorem p_divide (hf : f < 3) (hL : L < 2147483648) (hC : CT I n t f) (hn0 : 1 ≤ n) (hK : CK I cn C) (hS : CS n cn C) (hh : hd ≤ 100000) (k : ∀ I' J', xag I I' [34, 36, 38, 39, 40] → (∀ q, q ≠ 4 → I' 34 q = I 34 q) → I' 34 4 = nI (tcn (sgp (bcs t C cn n hd) cn) cn) → (∀ i, i < tcn (sgp (bcs t C cn n hd) cn) cn → I' 36 i = nI (tkl (sgp (bcs t C cn n hd) cn) C cn i)) → (∀ a, a ≠ 37 → J' a = J a) → Q (some (.long (lN (TT (bcs t C cn n hd) cn 0).1)), (xK f L, P, I', J', xFr f c s))) : Wp (d + 5) 3 0 [some (.ref 34), some (.int (nI hd)), none, none] [] (xK f L, P, I, J, xFr f c s) Q := by
  have hn := hC.2.2.2.1
  have hc := hS.1
  have ht : ∀ j, j < n → t j < 256 := fun j hj => (hC.2.2.2.2.1 j hj).2
  -- the cuts that are taken
  have walk : ∀ w a I1 J1, cn + 1 - a = w → a ≤ cn → frp (bcs t C cn n hd) cn (a + 1) = a → xag I I1 [34, 36, 38, 39, 40] → (∀ q, q ≠ 4 → I1 34 q = I 34 q) → (∀ x, x ≠ 37 → J1 x = J x) → RT I1 J1 (TT (bcs t C cn n hd) cn) 0 cn → I1 34 4 = nI (tcn (sgp (bcs t C cn n hd) cn) a) → (∀ i, i < tcn (sgp (bcs t C cn n hd) cn) a → I1 36 i = nI (tkl (sgp (bcs t C cn n hd) cn) C a i)) → Wp (d + 5) 3 54 [some (.ref 34), none, some (.int (nI (cn + 1))), some (.int (nI (TT (bcs t C cn n hd) cn a).2.2))] [] (xK f L, P, I1, J1, xFr f c s) Q := by
    intro w
    induction w using Nat.strongRecOn with
    | _ w ih =>
      intro a I1 J1 hw ha hfr h1 h2 h3 h4 h5 h6
      have hnx := TT_nx (bc := bcs t C cn n hd) hc ha
      have hgap := frp_gap hc ha hfr
      have hsg : ∀ k', a < k' → k' < (TT (bcs t C cn n hd) cn a).2.2 → sgp (bcs t C cn n hd) cn k' = false := fun k' z1 z2 => decide_eq_false (by rw [hgap k' z1 (by omega)]; omega)
      have htc := tcn_le (sgp (bcs t C cn n hd) cn) a
      have hnx1 := hnx.1
      have hnx2 := hnx.2.1
      by_cases e : (TT (bcs t C cn n hd) cn a).2.2 = cn + 1
      · have hg := tk_gap (σ := sgp (bcs t C cn n hd) cn) (C := C) cn ha (fun k' z1 z2 => hsg k' z1 (by omega))
        refine wX0_divide_54 (xK_lt hf hL) rfl rfl rfl rfl rfl rfl rfl (br1 (by first | (rw [nI_ltI (by omega) (by omega)]; omega) | (rw [nI_leI (by omega) (by omega)]; omega) | (rw [nI_eq (by omega) (by omega)]; omega) | (rw [nI_e0 (by omega)]; omega) | (rw [nI_le0 (by omega)]; omega)) ⟨0, rfl, by decide, ?_⟩)
        rw [(h4 0 (Nat.le_refl _) (by omega)).1]
        exact k I1 J1 h1 h2 (by rw [hg.1]; exact h5) (fun i hi => by rw [hg.2]; exact h6 i (by omega)) h3
      · generalize hb : (TT (bcs t C cn n hd) cn a).2.2 = b at *
        have hsb : sgp (bcs t C cn n hd) cn b = true := decide_eq_true (by rw [hgap b (by omega) (Nat.le_refl _)]; exact hb)
        have hg := tk_gap (σ := sgp (bcs t C cn n hd) cn) (C := C) (a := a) (b - 1) (by omega) (fun k' z1 z2 => hsg k' z1 (by omega))
        have htb : tcn (sgp (bcs t C cn n hd) cn) b = tcn (sgp (bcs t C cn n hd) cn) a + 1 := by
          have : b = (b - 1) + 1 := by omega
          rw [this, tcn, ← this, if_pos hsb, hg.1]
        have hkb : tkl (sgp (bcs t C cn n hd) cn) C b = va_up (tkl (sgp (bcs t C cn n hd) cn) C a) (tcn (sgp (bcs t C cn n hd) cn) a) (C (b - 1)) := by
          have : b = (b - 1) + 1 := by omega
          rw [this, tkl, ← this, if_pos hsb, hg.1, hg.2]
        have hK1 : CK I1 cn C := ⟨by rw [h2 2 (by decide)]; exact hK.1, by rw [h1 35 (by decide)]; exact hK.2⟩
        refine wX0_divide_54 (xK_lt hf hL) rfl rfl rfl rfl rfl rfl rfl (br2 (by first | (rw [nI_ltI (by omega) (by omega)]; omega) | (rw [nI_leI (by omega) (by omega)]; omega) | (rw [nI_eq (by omega) (by omega)]; omega) | (rw [nI_e0 (by omega)]; omega) | (rw [nI_le0 (by omega)]; omega)) (br2 (by rw [h5]; first | (rw [nI_ltI (by omega) (by omega)]; omega) | (rw [nI_leI (by omega) (by omega)]; omega) | (rw [nI_eq (by omega) (by omega)]; omega) | (rw [nI_e0 (by omega)]; omega) | (rw [nI_le0 (by omega)]; omega)) ?_))
        refine p_placeOf hf hL hK1 hc (by rw [h1 5 (by decide)]; exact hC.2.2.1) (k' := b) (by omega) ⟨_, _, _, rfl, tcn (sgp (bcs t C cn n hd) cn) a, h5, by omega, b, rfl, by omega, ?_⟩
        all_goals try dsimp only
        have hbo : bo C cn n b = C (b - 1) := by
          unfold bo
          rw [if_neg (by omega), if_pos (by omega)]
        rw [hbo, show (xup (xup I1 36 (tcn (sgp (bcs t C cn n hd) cn) a) (nI (C (b - 1)))) 34 4 (xup I1 36 (tcn (sgp (bcs t C cn n hd) cn) a) (nI (C (b - 1))) 34 4 + nI 1)) 39 b = nI (TT (bcs t C cn n hd) cn b).2.2 by rw [xup_ne _ _ _ (by decide), xup_ne _ _ _ (by decide)]; exact (h4 b (Nat.zero_le _) (by omega)).2.2 (by omega)]
        refine ih (cn + 1 - b) (by omega) b _ J1 rfl (by omega) (by rw [frp, if_pos ⟨by rw [hgap b (by omega) (Nat.le_refl _)]; exact hb, by omega⟩]) ((h1.up (by simp)).up (by simp)) (fun q hq => by rw [xup_at, if_neg hq, xup_ne _ _ _ (by decide)]; exact h2 q hq) h3 (fun x z1 z2 => ?_) ?_ (fun i hi => ?_)
        · rw [xup_ne _ _ _ (by decide), xup_ne _ _ _ (by decide), xup_ne _ _ _ (by decide), xup_ne _ _ _ (by decide)]
          exact h4 x z1 z2
        · rw [xup_at, if_pos rfl, xup_ne _ _ _ (by decide), h5, nI_add, htb]
        · rw [xup_ne _ _ _ (by decide), xup_at, hkb]
          by_cases ei : i = tcn (sgp (bcs t C cn n hd) cn) a
          · rw [if_pos ei, ei, va_up_self]
          · rw [if_neg ei, va_up_ne _ _ ei]
            exact h6 i (by omega)
  -- the table
  have loop : ∀ w r I1 J1 x3, cn + 1 - r = w → r ≤ cn + 1 → (r ≤ cn → x3 = nI (cn - r)) → (r = cn + 1 → x3 = -1) → xag I I1 [38, 39, 40] → (∀ x, x ≠ 37 → J1 x = J x) → RT I1 J1 (tb (bcs t C cn n hd) cn r) (cn + 1 - r) cn → Wp (d + 5) 3 26 [some (.ref 34), some (.int (nI hd)), some (.int (nI (cn + 1))), some (.int x3)] [] (xK f L, P, I1, J1, xFr f c s) Q := by
    intro w
    induction w with
    | zero =>
      intro r I1 J1 x3 hw hr hx1 hx2 h1 h3 h4
      have e : r = cn + 1 := by omega
      subst e
      rw [hx2 rfl]
      rw [Nat.sub_self] at h4
      refine wX0_divide_26 (xK_lt hf hL) rfl rfl rfl (br1 (by decide) ⟨0, rfl, by decide, ?_⟩)
      have h40 := (h4 0 (Nat.le_refl _) (by omega)).2.2 (by omega)
      rw [show (xup I1 34 4 (nI 0)) 39 0 = nI (TT (bcs t C cn n hd) cn 0).2.2 by rw [xup_ne _ _ _ (by decide)]; exact h40]
      refine walk (cn + 1) 0 _ J1 (by omega) (Nat.zero_le _) (by rw [frp, if_neg (fun z => z.2 rfl)]; rfl) (xag.up (h1.wd (by simp)) (by simp)) (fun q hq => by rw [xup_at, if_neg hq, h1 34 (by decide)]) h3 (fun x z1 z2 => ?_) (by rw [xup_at, if_pos rfl]; rfl) (fun i hi => absurd hi (Nat.not_lt_zero _))
      rw [xup_ne _ _ _ (by decide), xup_ne _ _ _ (by decide)]
      exact h4 x z1 z2
    | succ w ih =>
      intro r I1 J1 x3 hw hr hx1 hx2 h1 h3 h4
      have hrc : r ≤ cn := by omega
      have hx := hx1 hrc
      subst hx
      have hC1 : CT I1 n t f := hC.ag h1 (by decide) (by decide) (by decide) (by decide) (by decide)
      have hK1 : CK I1 cn C := hK.ag h1 (by decide)
      have htl := tb_le (t := t) hS hn0 hn ht hh r (by omega)
      refine wX0_divide_26 (xK_lt hf hL) rfl rfl rfl (br2 (nI_pos (by omega)) ?_)
      refine p_findRest hf hL hC1 hn0 hK1 hS hh (b := cn - r) (by omega) (T := tb (bcs t C cn n hd) cn r) (by rw [show cn - r + 1 = cn + 1 - r by omega]; exact h4) (fun x _ => ?_) (fun x _ => ?_) (fun I2 J2 q1 q2 q3 => ⟨_, _, rfl, ?_⟩)
      all_goals try dsimp only
      · exact Nat.le_trans (htl x).1 (Nat.mul_le_mul_right _ (by omega))
      · have := (htl x).2
        omega
      · try dsimp only
        refine ih (r + 1) I2 J2 _ (by omega) (by omega) (fun z => ?_) (fun z => ?_) (h1.tr q1 (by simp)) (fun x hx => by rw [q2 x hx]; exact h3 x hx) ?_
        · rw [xm1, pk_sub (by omega), Nat.sub_sub]
        · rw [show cn - r = 0 by omega]
          decide
        · rw [show cn - (cn - r) = r by omega] at q3
          rw [tb, show cn + 1 - (r + 1) = cn - r by omega]
          exact q3
  have h342 := hK.1
  refine wX0_divide_0 (xK_lt hf hL) rfl rfl rfl rfl rfl ⟨cn + 1, by rw [h342, nI_add], by omega, cn + 1, by rw [h342, nI_add], by omega, ?_⟩
  rw [xup_ne _ _ _ (by decide), h342, nI_add]
  refine loop (cn + 1) 0 _ _ _ (by omega) (by omega) (fun _ => rfl) (fun z => by omega) (xag.rfl.up (by simp)) (fun x hx => by rw [xup_ne _ _ _ hx]) (fun x z1 z2 => ?_)
  have : x = cn + 1 := by omega
  subst this
  refine ⟨by rw [xup_at, if_pos rfl]; rfl, by rw [xup_at, if_pos rfl]; rfl, fun z => by omega⟩
theorem p_addCut (hf : f < 3) (hL : L < 2147483648) (hN : I 5 3 = nI n) (hn : n ≤ 300) (hK : CK I cn C) (hS : CS n cn C) {x : Int32} (k1 : ∀ p I', CutOk n cn C x p → xag I I' [34, 35] → (∀ q, q ≠ 2 → I' 34 q = I 34 q) → CK I' (cn + 1) (insC C (cki C cn p) p) → Q (some (.int (nI 1)), (xK f L, P, I', J, xFr f c s))) (k0 : (∀ p, ¬ CutOk n cn C x p) → Q (some (.int (nI 0)), (xK f L, P, I, J, xFr f c s))) : Wp d 2 0 [some (.ref 34), some (.int x), none, none] [] (xK f L, P, I, J, xFr f c s) Q := by
  have hc := hS.1
  rcases nI_ix x (n := n) (by omega) with ⟨p, hp, hx⟩ | hx
  · subst hx
    by_cases e0 : 1 ≤ p
    · by_cases e1 : cn < 12
      · have hkl := cki_le C cn p
        -- moves up
        have mv : ¬ (cki C cn p < cn ∧ C (cki C cn p) = p) → ∀ w j I1, j - cki C cn p = w → cki C cn p ≤ j → j ≤ cn → xag I I1 [35] → (∀ i, i ≤ cn → I1 35 i = if j < i then nI (C (i - 1)) else I 35 i) → Wp d 2 78 [some (.ref 34), some (.int (nI p)), some (.int (nI (cki C cn p))), some (.int (nI j))] [] (xK f L, P, I1, J, xFr f c s) Q := by
          intro hnot w
          induction w with
          | zero =>
            intro j I1 hw hj1 hj2 ha h1
            have e : j = cki C cn p := by omega
            subst e
            refine wX0_addCut_78 (xK_lt hf hL) rfl rfl rfl (br1 (by first | (rw [nI_ltI (by omega) (by omega)]; omega) | (rw [nI_leI (by omega) (by omega)]; omega) | (rw [nI_eq (by omega) (by omega)]; omega) | (rw [nI_e0 (by omega)]; omega) | (rw [nI_le0 (by omega)]; omega)) ⟨cki C cn p, rfl, by omega, ?_⟩)
            rw [show (xup I1 35 (cki C cn p) (nI p)) 34 2 = nI cn by rw [xup_ne _ _ _ (by decide), ha 34 (by decide)]; exact hK.1, nI_add]
            refine k1 p _ ⟨rfl, e0, hp, e1, hnot⟩ (xag.up (xag.up (ha.wd (by simp)) (by simp)) (by simp)) (fun q hq => by rw [xup_at, if_neg hq, xup_ne _ _ _ (by decide), ha 34 (by decide)]) ⟨by rw [xup_at, if_pos rfl], fun i hi => ?_⟩
            rw [xup_ne _ _ _ (by decide), xup_at]
            unfold insC
            by_cases z : i = cki C cn p
            · rw [if_pos z, if_pos z]
            · rw [if_neg z, if_neg z, h1 i (by omega)]
              by_cases z2 : cki C cn p < i
              · rw [if_pos z2, if_pos z2]
              · rw [if_neg z2, if_neg z2]
                exact hK.2 i (by omega)
          | succ w ih =>
            intro j I1 hw hj1 hj2 ha h1
            refine wX0_addCut_78 (xK_lt hf hL) rfl rfl rfl (br2 (by first | (rw [nI_ltI (by omega) (by omega)]; omega) | (rw [nI_leI (by omega) (by omega)]; omega) | (rw [nI_eq (by omega) (by omega)]; omega) | (rw [nI_e0 (by omega)]; omega) | (rw [nI_le0 (by omega)]; omega)) ⟨j - 1, pk_sub (by omega), by omega, j, rfl, by omega, ?_⟩)
            rw [xm1, pk_sub (by omega)]
            refine ih (j - 1) _ (by omega) (by omega) (by omega) (ha.up (by simp)) (fun i hi => ?_)
            rw [xup_at]
            by_cases z : i = j
            · rw [if_pos z, if_pos (by omega), h1 (j - 1) (by omega), if_neg (by omega), z]
              exact hK.2 (j - 1) (by omega)
            · rw [if_neg z, h1 i hi]
              by_cases z2 : j < i
              · rw [if_pos z2, if_pos (by omega)]
              · rw [if_neg z2, if_neg (by omega)]
        -- the spot
        have at53 : Wp d 2 53 [some (.ref 34), some (.int (nI p)), some (.int (nI (cki C cn p))), none] [] (xK f L, P, I, J, xFr f c s) Q := by
          by_cases e2 : cki C cn p < cn
          · refine wX0_addCut_53 (xK_lt hf hL) rfl rfl rfl (br2 (by rw [hK.1]; first | (rw [nI_ltI (by omega) (by omega)]; omega) | (rw [nI_leI (by omega) (by omega)]; omega) | (rw [nI_eq (by omega) (by omega)]; omega) | (rw [nI_e0 (by omega)]; omega) | (rw [nI_le0 (by omega)]; omega)) ⟨cki C cn p, rfl, by omega, ?_⟩)
            rw [hK.2 _ e2, hK.1]
            have hCl := (hS.2.1 _ e2).2
            refine brd (nI_eq (by omega) (by omega)) (fun h => mv (fun z => h z.2) _ cn I rfl hkl (Nat.le_refl _) xag.rfl (fun i hi => by rw [if_neg (by omega)])) (fun h => k0 (fun p' hp' => ?_))
            have : p = p' := (nI_eq (by omega) (by have := hp'.2.2.1; omega)).mp hp'.1
            subst this
            exact hp'.2.2.2.2 ⟨e2, h⟩
          · refine wX0_addCut_53 (xK_lt hf hL) rfl rfl rfl (br1 (by rw [hK.1]; first | (rw [nI_ltI (by omega) (by omega)]; omega) | (rw [nI_leI (by omega) (by omega)]; omega) | (rw [nI_eq (by omega) (by omega)]; omega) | (rw [nI_e0 (by omega)]; omega) | (rw [nI_le0 (by omega)]; omega)) ?_)
            rw [hK.1]
            exact mv (fun z => e2 z.1) _ cn I rfl hkl (Nat.le_refl _) xag.rfl (fun i hi => by rw [if_neg (by omega)])
        have loop : ∀ w j, cki C cn p - j = w → j ≤ cki C cn p → Wp d 2 29 [some (.ref 34), some (.int (nI p)), some (.int (nI j)), none] [] (xK f L, P, I, J, xFr f c s) Q := by
          intro w
          induction w with
          | zero =>
            intro j hw hj
            have e : j = cki C cn p := by omega
            subst e
            by_cases e2 : cki C cn p < cn
            · refine wX0_addCut_29 (xK_lt hf hL) rfl rfl rfl (br2 (by rw [hK.1]; first | (rw [nI_ltI (by omega) (by omega)]; omega) | (rw [nI_leI (by omega) (by omega)]; omega) | (rw [nI_eq (by omega) (by omega)]; omega) | (rw [nI_e0 (by omega)]; omega) | (rw [nI_le0 (by omega)]; omega)) ⟨cki C cn p, rfl, by omega, ?_⟩)
              rw [hK.2 _ e2]
              have h1 := cki_at e2
              have h2 := (hS.2.1 _ e2).2
              exact br1 (by first | (rw [nI_ltI (by omega) (by omega)]; omega) | (rw [nI_leI (by omega) (by omega)]; omega) | (rw [nI_eq (by omega) (by omega)]; omega) | (rw [nI_e0 (by omega)]; omega) | (rw [nI_le0 (by omega)]; omega)) at53
            · exact wX0_addCut_29 (xK_lt hf hL) rfl rfl rfl (br1 (by rw [hK.1]; first | (rw [nI_ltI (by omega) (by omega)]; omega) | (rw [nI_leI (by omega) (by omega)]; omega) | (rw [nI_eq (by omega) (by omega)]; omega) | (rw [nI_e0 (by omega)]; omega) | (rw [nI_le0 (by omega)]; omega)) at53)
          | succ w ih =>
            intro j hw hj
            refine wX0_addCut_29 (xK_lt hf hL) rfl rfl rfl (br2 (by rw [hK.1]; first | (rw [nI_ltI (by omega) (by omega)]; omega) | (rw [nI_leI (by omega) (by omega)]; omega) | (rw [nI_eq (by omega) (by omega)]; omega) | (rw [nI_e0 (by omega)]; omega) | (rw [nI_le0 (by omega)]; omega)) ⟨j, rfl, by omega, ?_⟩)
            rw [hK.2 j (by omega)]
            have h1 := cki_lt (C := C) (cn := cn) (p := p) (j := j) (by omega)
            refine br2 (by first | (rw [nI_ltI (by omega) (by omega)]; omega) | (rw [nI_leI (by omega) (by omega)]; omega) | (rw [nI_eq (by omega) (by omega)]; omega) | (rw [nI_e0 (by omega)]; omega) | (rw [nI_le0 (by omega)]; omega)) ?_
            rw [nI_add]
            exact ih (j + 1) (by omega) (by omega)
        refine wX0_addCut_0 rfl rfl rfl (br2 (by first | (rw [nI_ltI (by omega) (by omega)]; omega) | (rw [nI_leI (by omega) (by omega)]; omega) | (rw [nI_eq (by omega) (by omega)]; omega) | (rw [nI_e0 (by omega)]; omega) | (rw [nI_le0 (by omega)]; omega)) (br2 (by rw [hN]; first | (rw [nI_ltI (by omega) (by omega)]; omega) | (rw [nI_leI (by omega) (by omega)]; omega) | (rw [nI_eq (by omega) (by omega)]; omega) | (rw [nI_e0 (by omega)]; omega) | (rw [nI_le0 (by omega)]; omega)) (br1 (by rw [hK.1]; first | (rw [nI_ltI (by omega) (by omega)]; omega) | (rw [nI_leI (by omega) (by omega)]; omega) | (rw [nI_eq (by omega) (by omega)]; omega) | (rw [nI_e0 (by omega)]; omega) | (rw [nI_le0 (by omega)]; omega)) (loop _ 0 rfl (Nat.zero_le _)))))
      · refine wX0_addCut_0 rfl rfl rfl (br2 (by first | (rw [nI_ltI (by omega) (by omega)]; omega) | (rw [nI_leI (by omega) (by omega)]; omega) | (rw [nI_eq (by omega) (by omega)]; omega) | (rw [nI_e0 (by omega)]; omega) | (rw [nI_le0 (by omega)]; omega)) (br2 (by rw [hN]; first | (rw [nI_ltI (by omega) (by omega)]; omega) | (rw [nI_leI (by omega) (by omega)]; omega) | (rw [nI_eq (by omega) (by omega)]; omega) | (rw [nI_e0 (by omega)]; omega) | (rw [nI_le0 (by omega)]; omega)) (br2 (by rw [hK.1]; first | (rw [nI_ltI (by omega) (by omega)]; omega) | (rw [nI_leI (by omega) (by omega)]; omega) | (rw [nI_eq (by omega) (by omega)]; omega) | (rw [nI_e0 (by omega)]; omega) | (rw [nI_le0 (by omega)]; omega)) (k0 (fun p' hp' => e1 hp'.2.2.2.1)))))
    · refine wX0_addCut_0 rfl rfl rfl (br1 (by first | (rw [nI_ltI (by omega) (by omega)]; omega) | (rw [nI_leI (by omega) (by omega)]; omega) | (rw [nI_eq (by omega) (by omega)]; omega) | (rw [nI_e0 (by omega)]; omega) | (rw [nI_le0 (by omega)]; omega)) (k0 (fun p' hp' => ?_)))
      have : p' = p := (nI_eq (by omega) (by have := hp'.2.2.1; omega)).mp hp'.1 |>.symm
      have := hp'.2.1
      omega
  · have no := nI_no (n := n) (by omega) hx
    have kq := k0 (fun p' hp' => no p' hp'.2.2.1 hp'.1)
    refine wX0_addCut_0 rfl rfl rfl ⟨fun _ => kq, fun hx1 => ?_⟩
    rw [hN]
    refine br1 ?_ kq
    rcases hx with hx | hx
    · refine absurd ?_ hx1
      exact Int32.lt_trans hx (by decide)
    · exact hx
end DIV2
