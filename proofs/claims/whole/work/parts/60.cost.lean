/-! WHAT STEPS COST, in the forms 0 and 2 -/
def kc (V : Nat → Nat → Nat) (f k : Nat) : Nat := if f = 2 then V 3 k else 0
def lco (V : Nat → Nat → Nat) (f l : Nat) : Nat := V 1 (xls (l - xlt f)) + 64 * xlb (l - xlt f)
def dco (V : Nat → Nat → Nat) (b : Nat) : Nat := V 2 (xds (b - 1)) + 64 * xdb (b - 1)
theorem xls_lt : ∀ x, x < 301 → xls x < 32 ∧ xlb x ≤ 8 := by decide +kernel
theorem xds_lt : ∀ x, x < 300 → xds x < 20 ∧ xdb x ≤ 8 := by decide +kernel
theorem kc_le {V : Nat → Nat → Nat} (hB : VB V) (f : Nat) {k : Nat} (hk : k < 7) : kc V f k ≤ 10000 := by
  unfold kc
  split
  · exact (hB 3 k (by decide) hk).2
  · omega
theorem lco_le {V : Nat → Nat → Nat} (hB : VB V) (f : Nat) {l : Nat} (hl : l < 301) : 1 ≤ lco V f l ∧ lco V f l ≤ 10512 := by
  unfold lco
  have h1 := xls_lt (l - xlt f) (by omega)
  have h2 := hB 1 (xls (l - xlt f)) (by decide) h1.1
  omega
theorem dco_le {V : Nat → Nat → Nat} (hB : VB V) {b : Nat} (hb : b < 301) : 1 ≤ dco V b ∧ dco V b ≤ 10512 := by
  unfold dco
  have h1 := xds_lt (b - 1) (by omega)
  have h2 := hB 2 (xds (b - 1)) (by decide) h1.1
  omega
theorem vo_3 (V : Nat → Nat → Nat) {f k : Nat} (hf : f < 3) (hk : k < 7) : vo V f 3 k = kc V f k := by
  unfold vo kc xcl SY
  by_cases e : f = 2
  · subst e
    rw [if_pos rfl, if_pos]
    exact ⟨by decide, hk⟩
  · rw [if_neg e, if_neg]
    intro z
    have z1 := z.1
    split at z1
    · omega
    · split at z1 <;> omega
theorem xcl_3 {f : Nat} (hf : f < 3) (h1 : f ≠ 1) : 3 ≤ xcl f := by
  unfold xcl
  rw [if_neg h1]
  split <;> omega
section CST2
variable {d f L c s : Nat} {V : Nat → Nat → Nat} {Q : Option Value × xS → Prop} {P : List Nat × Nat × Nat} {I : Nat → Nat → Int32} {J : Nat → Nat → Int64}
theorem p_kindCost (hf : f < 3) (hL : L < 2147483648) (h0 : CC I f V) {a : Nat} (ha : a < 7) (k : Q (some (.int (nI (kc V f a))), (xK f L, P, I, J, xFr f c s))) : Wp (d + 2) 15 0 [some (.ref 10), some (.int (nI a))] [] (xK f L, P, I, J, xFr f c s) Q := by
  refine wX1_kindCost_0 rfl (p_of hf hL h0 (by decide) (by omega) ⟨_, _, _, rfl, ?_⟩)
  all_goals try dsimp only
  rw [vo_3 V hf ha]
  exact k
theorem p_literalCost (hf : f < 3) (h1 : f ≠ 1) (hL : L < 2147483648) (h0 : CC I f V) {o : Nat} (ho : o < 256) (k : Q (some (.int (nI (V 0 o + kc V f 0))), (xK f L, P, I, J, xFr f c s))) : Wp (d + 2) 14 0 [some (.ref 10), some (.int (nI o))] [] (xK f L, P, I, J, xFr f c s) Q := by
  refine wX1_literalCost_0 rfl (p_ofX hf hL h0 (by have := xcl_3 hf h1; omega) ho ⟨_, _, _, rfl, ?_⟩)
  all_goals try dsimp only
  refine p_of hf hL h0 (by decide) (by omega) ⟨_, _, _, rfl, ?_⟩
  all_goals try dsimp only
  rw [vo_3 V hf (by decide), nI_add]
  exact k
theorem p_lengthCost (hf : f < 3) (h1 : f ≠ 1) (hL : L < 2147483648) (h0 : CC I f V) {x : Nat} (hx : x < 301) (k : Q (some (.int (nI (V 1 (xls x) + 64 * xlb x))), (xK f L, P, I, J, xFr f c s))) : Wp (d + 2) 17 0 [some (.ref 10), some (.int (nI x))] [] (xK f L, P, I, J, xFr f c s) Q := by
  refine wX1_lengthCost_0 rfl (p_lengthSlot (by omega) ⟨_, _, _, rfl, ?_⟩)
  all_goals try dsimp only
  refine p_ofX hf hL h0 (by have := xcl_3 hf h1; omega) (xls_lt x hx).1 ⟨_, _, _, rfl, ?_⟩
  all_goals try dsimp only
  unfold xlb at k
  refine brc (nI_leI (by omega) (by omega)) (fun h => ?_) (fun h => ?_)
  · rw [if_neg (by omega)] at k
    refine p_highestBit (by omega) ⟨_, _, _, rfl, ?_⟩
    all_goals try dsimp only
    have := xlog2_ge (k := 3) (x := x) h
    rw [pk_sub (by omega), pk_mul, nI_add]
    exact k
  · rw [if_pos (by omega)] at k
    rw [pk_mul, nI_add]
    exact k
theorem p_distanceCost (hf : f < 3) (h1 : f ≠ 1) (hL : L < 2147483648) (h0 : CC I f V) {x : Nat} (hx : x < 300) (k : Q (some (.int (nI (V 2 (xds x) + 64 * xdb x))), (xK f L, P, I, J, xFr f c s))) : Wp (d + 2) 18 0 [some (.ref 10), some (.int (nI x))] [] (xK f L, P, I, J, xFr f c s) Q := by
  refine wX1_distanceCost_0 rfl (p_distanceSlot (by omega) ⟨_, _, _, rfl, ?_⟩)
  all_goals try dsimp only
  refine p_ofX hf hL h0 (by have := xcl_3 hf h1; omega) (xds_lt x hx).1 ⟨_, _, _, rfl, ?_⟩
  all_goals try dsimp only
  unfold xdb at k
  refine brc (nI_leI (by omega) (by omega)) (fun h => ?_) (fun h => ?_)
  · rw [if_neg (by omega)] at k
    refine p_highestBit (by omega) ⟨_, _, _, rfl, ?_⟩
    all_goals try dsimp only
    have := xlog2_ge (k := 2) (x := x) h
    rw [pk_sub (by omega), pk_mul, nI_add]
    exact k
  · rw [if_pos (by omega)] at k
    rw [pk_mul, nI_add]
    exact k
/-- prepare: the two rows of costs -/
def PR (I : Nat → Nat → Int32) (f n : Nat) (V : Nat → Nat → Nat) : Prop := (∀ l, xlt f ≤ l → l ≤ n → I 13 l = nI (lco V f l)) ∧ ∀ b, 1 ≤ b → b < n → I 14 b = nI (dco V b)
theorem p_prepare {n : Nat} {t : Nat → Nat} (hf : f < 3) (h1 : f ≠ 1) (hL : L < 2147483648) (h0 : CC I f V) (hT : CT I n t f) (k : ∀ I', xag I I' [13, 14] → PR I' f n V → Q (none, (xK f L, P, I', J, xFr f c s))) : Wp (d + 3) 13 0 [some (.ref 10), some (.ref 5), none] [] (xK f L, P, I, J, xFr f c s) Q := by
  have hn := hT.2.2.2.1
  have hlt := xlt_le f
  have l2 : ∀ m b I1, n - b = m → 1 ≤ b → xag I I1 [13, 14] → (∀ l, xlt f ≤ l → l ≤ n → I1 13 l = nI (lco V f l)) → (∀ b', 1 ≤ b' → b' < b → b' < n → I1 14 b' = nI (dco V b')) → b ≤ n + 1 → Wp (d + 3) 13 37 [some (.ref 10), some (.ref 5), some (.int (nI b))] [] (xK f L, P, I1, J, xFr f c s) Q := by
    intro m
    induction m with
    | zero =>
      intro b I1 hm hb ha h2 h3 h4
      refine wX1_prepare_37 (xK_lt hf hL) rfl rfl rfl rfl (br1 ?_ (k I1 ha ⟨h2, fun b' g1 g2 => h3 b' g1 (by omega) g2⟩))
      rw [ha 5 (by decide), hT.2.2.1]
      exact (by first | (rw [nI_ltI (by omega) (by omega)]; omega) | (rw [nI_leI (by omega) (by omega)]; omega) | (rw [nI_eq (by omega) (by omega)]; omega) | (rw [nI_e0 (by omega)]; omega) | (rw [nI_le0 (by omega)]; omega))
    | succ m ih =>
      intro b I1 hm hb ha h2 h3 h4
      refine wX1_prepare_37 (xK_lt hf hL) rfl rfl rfl rfl (br2 ?_ ?_)
      · rw [ha 5 (by decide), hT.2.2.1]
        exact (by first | (rw [nI_ltI (by omega) (by omega)]; omega) | (rw [nI_leI (by omega) (by omega)]; omega) | (rw [nI_eq (by omega) (by omega)]; omega) | (rw [nI_e0 (by omega)]; omega) | (rw [nI_le0 (by omega)]; omega))
      · rw [pk_sub (by omega)]
        refine p_distanceCost hf h1 hL (h0.ag ha (by decide)) (by omega) ⟨_, _, _, rfl, b, rfl, by omega, ?_⟩
        all_goals try dsimp only
        rw [nI_add]
        refine ih (b + 1) _ (by omega) (by omega) (ha.up (by decide)) (fun l g1 g2 => by rw [xup_ne _ _ _ (by decide)]; exact h2 l g1 g2) (fun b' g1 g2 g3 => ?_) (by omega)
        rw [xup_at]
        by_cases e : b' = b
        · subst e
          rw [if_pos rfl]
          rfl
        · rw [if_neg e]
          exact h3 b' g1 (by omega) g3
  have l1 : ∀ m l I1, n + 1 - l = m → xlt f ≤ l → xag I I1 [13, 14] → (∀ l', xlt f ≤ l' → l' < l → l' ≤ n → I1 13 l' = nI (lco V f l')) → l ≤ n + 5 → Wp (d + 3) 13 5 [some (.ref 10), some (.ref 5), some (.int (nI l))] [] (xK f L, P, I1, J, xFr f c s) Q := by
    intro m
    induction m with
    | zero =>
      intro l I1 hm hb ha h2 h3
      refine wX1_prepare_5 (xK_lt hf hL) rfl rfl rfl rfl (br1 ?_ (l2 _ 1 I1 rfl (by omega) ha (fun l' g1 g2 => h2 l' g1 (by omega) g2) (fun b' g1 g2 => by omega) (by omega)))
      rw [ha 5 (by decide), hT.2.2.1]
      exact (by first | (rw [nI_ltI (by omega) (by omega)]; omega) | (rw [nI_leI (by omega) (by omega)]; omega) | (rw [nI_eq (by omega) (by omega)]; omega) | (rw [nI_e0 (by omega)]; omega) | (rw [nI_le0 (by omega)]; omega))
    | succ m ih =>
      intro l I1 hm hb ha h2 h3
      refine wX1_prepare_5 (xK_lt hf hL) rfl rfl rfl rfl (br2 ?_ ?_)
      · rw [ha 5 (by decide), hT.2.2.1]
        exact (by first | (rw [nI_ltI (by omega) (by omega)]; omega) | (rw [nI_leI (by omega) (by omega)]; omega) | (rw [nI_eq (by omega) (by omega)]; omega) | (rw [nI_e0 (by omega)]; omega) | (rw [nI_le0 (by omega)]; omega))
      · rw [ha 5 (by decide), hT.1, pk_sub (by omega)]
        refine p_lengthCost hf h1 hL (h0.ag ha (by decide)) (by omega) ⟨_, _, _, rfl, l, rfl, by omega, ?_⟩
        all_goals try dsimp only
        rw [nI_add]
        refine ih (l + 1) _ (by omega) (by omega) (ha.up (by decide)) (fun l' g1 g2 g3 => ?_) (by omega)
        rw [xup_at]
        by_cases e : l' = l
        · subst e
          rw [if_pos rfl]
          rfl
        · rw [if_neg e]
          exact h2 l' g1 (by omega) g3
  refine wX1_prepare_0 rfl ?_
  rw [hT.1]
  exact l1 _ (xlt f) I rfl (Nat.le_refl _) xag.rfl (fun l' g1 g2 => by omega) (by omega)
/-! the reference's -/
theorem p_symbolsM {a : Nat} (ha : a < 4) (k : Q (some (.int (nI (SY a))), (xK f L, P, I, J, xFr f c s))) : Wp d 101 0 [some (.int (nI a))] [] (xK f L, P, I, J, xFr f c s) Q := by
  unfold SY at k
  refine wX11_symbols_0  (brd (nI_e0 (by omega)) (fun h => ?_) (fun h => ?_))
  · rw [if_neg h] at k
    refine brd (nI_eq (by omega) (by omega)) (fun h => ?_) (fun h => ?_)
    · rw [if_neg h] at k
      refine brd (nI_eq (by omega) (by omega)) (fun h => ?_) (fun h => ?_)
      · rw [if_neg h] at k
        exact k
      · rw [if_pos h] at k
        exact k
    · rw [if_pos h] at k
      exact k
  · rw [if_pos h] at k
    exact k
theorem p_isCostM (hf : f < 3) (hI : I 59 1 = nI f) {x y : Int32} (k1 : ∀ k s', k < xcl f → s' < SY k → x = nI k → y = nI s' → Q (some (.int (nI 1)), (xK f L, P, I, J, xFr f c s))) (k0 : (∀ k s', k < xcl f → s' < SY k → x = nI k → y ≠ nI s') → Q (some (.int (nI 0)), (xK f L, P, I, J, xFr f c s))) : Wp (d + 1) 102 0 [some (.ref 59), some (.int x), some (.int y)] [] (xK f L, P, I, J, xFr f c s) Q := by
  have hx4 := xcl_le f
  have rest : f ≠ 1 → ¬ x < 0 → ∀ v, v = xcl f → Wp (d + 1) 102 25 [none, some (.int x), some (.int y)] [.int (nI v), .int x] (xK f L, P, I, J, xFr f c s) Q := by
    intro hf1 c1 v hv
    subst hv
    refine wX11_isCost_25  ⟨fun c2 => k0 (fun k s' g1 g2 g3 => absurd g3 (nI_no (n := xcl f) (by omega) (Or.inr c2) k g1)), fun c2 => ?_⟩
    obtain ⟨k, hk, e⟩ := nI_yes (by omega) c1 c2
    have hsy := SY_BS k (by omega)
    refine ⟨fun c3 => k0 (fun k' s' g1 g2 g3 g4 => ?_), fun c3 => ?_⟩
    · rw [g4] at c3
      exact nI_pos (by have := SY_BS k' (by omega); omega) c3
    · rw [e]
      refine p_symbolsM (by omega) ⟨_, _, _, rfl, fun c4 => k0 (fun k' s' g1 g2 g3 g4 => ?_), fun c4 => ?_⟩
      all_goals try dsimp only
      · rw [e, nI_eq (by omega) (by omega)] at g3
        subst g3
        rw [g4, nI_leI (by omega) (by omega)] at c4
        omega
      · obtain ⟨s', hs, e2⟩ := nI_yes (by omega) c3 c4
        exact k1 k s' hk hs e e2
  refine wX11_isCost_0 rfl ?_
  rw [hI]
  refine brc (nI_eq (by omega) (by omega)) (fun h => k0 (fun k s' g1 => ?_)) (fun h => ⟨fun c1 => k0 (fun k s' g1 g2 g3 => absurd g3 (nI_no (n := xcl f) (by omega) (Or.inl c1) k g1)), fun c1 => brd (nI_e0 (by omega)) (fun h2 => rest h c1 4 ?_) (fun h2 => rest h c1 3 ?_)⟩)
  · unfold xcl at g1
    rw [if_pos h] at g1
    omega
  · unfold xcl
    rw [if_neg h, if_neg h2]
  · unfold xcl
    rw [if_neg h, if_pos h2]
theorem p_kindCostM (hf : f < 3) (hL : L < 2147483648) (h0 : MV I f V) {a : Nat} (ha : a < 7) (k : Q (some (.int (nI (kc V f a))), (xK f L, P, I, J, xFr f c s))) : Wp d 117 0 [some (.ref 59), some (.int (nI a))] [] (xK f L, P, I, J, xFr f c s) Q := by
  unfold kc at k
  refine wX11_kindCost_0 (xK_lt hf hL) rfl rfl rfl ?_
  rw [h0.1]
  refine brd (nI_eq (by omega) (by omega)) (fun h => ?_) (fun h => ⟨768 + a, by rw [nI_add], by omega, ?_⟩)
  · rw [if_neg h] at k
    exact k
  · rw [if_pos h] at k
    rw [h0.2.1 3 a (by decide) ha]
    exact k
theorem p_lengthCostM (hf : f < 3) (hL : L < 2147483648) (h0 : MV I f V) {l : Nat} (hl : xlt f ≤ l) (hl2 : l < 301) (k : Q (some (.int (nI (lco V f l))), (xK f L, P, I, J, xFr f c s))) : Wp (d + 2) 115 0 [some (.ref 59), some (.int (nI l)), none] [] (xK f L, P, I, J, xFr f c s) Q := by
  have hx := xls_lt (l - xlt f) (by omega)
  refine wX11_lengthCost_0 (xK_lt hf hL) rfl rfl rfl (p_shortestM hf h0.1 ⟨_, _, _, rfl, ?_⟩)
  all_goals try dsimp only
  rw [pk_sub hl]
  refine p_lengthSlotM (by omega) ⟨_, _, _, rfl, 256 + xls (l - xlt f), by rw [nI_add], by omega, ?_⟩
  all_goals try dsimp only
  refine p_lengthBitsM (by omega) ⟨_, _, _, rfl, ?_⟩
  all_goals try dsimp only
  rw [h0.2.1 1 (xls (l - xlt f)) (by decide) hx.1, pk_mul, nI_add]
  exact k
theorem p_distanceCostM (hf : f < 3) (hL : L < 2147483648) (h0 : MV I f V) {b : Nat} (hb : 1 ≤ b) (hb2 : b < 301) (k : Q (some (.int (nI (dco V b))), (xK f L, P, I, J, xFr f c s))) : Wp (d + 2) 116 0 [some (.ref 59), some (.int (nI b))] [] (xK f L, P, I, J, xFr f c s) Q := by
  have hx := xds_lt (b - 1) (by omega)
  refine wX11_distanceCost_0 (xK_lt hf hL) rfl rfl rfl ?_
  rw [pk_sub hb]
  refine p_distanceSlotM (by omega) ⟨_, _, _, rfl, 512 + xds (b - 1), by rw [nI_add], by omega, ?_⟩
  all_goals try dsimp only
  refine p_distanceBitsM (by omega) ⟨_, _, _, rfl, ?_⟩
  all_goals try dsimp only
  rw [h0.2.1 2 (xds (b - 1)) (by decide) hx.1, pk_mul, nI_add]
  exact k
/-- what a step costs in the forms 0 and 2: its kind, length, distance, and the octet -/
def sco (V : Nat → Nat → Nat) (f kd sz bk o : Nat) : Nat := if kd = 0 then V 0 o + kc V f 0 else if kd = 1 then kc V f 1 + lco V f sz + dco V bk else if kd = 6 then kc V f 6 else kc V f kd + lco V f sz
theorem p_stepCostM (hf : f < 3) (hf1 : f ≠ 1) (hL : L < 2147483648) (h0 : MV I f V) {kd sz bk o : Nat} {r : Int32} (hk : kd < 7) (ho : kd = 0 → o < 256) (hs : kd ≠ 0 → kd ≠ 6 → xlt f ≤ sz ∧ sz < 301) (hb : kd = 1 → 1 ≤ bk ∧ bk < 301) (k : Q (some (.int (nI (sco V f kd sz bk o))), (xK f L, P, I, J, xFr f c s))) : Wp (d + 3) 119 0 [some (.ref 59), some (.int (nI kd)), some (.int (nI sz)), some (.int (nI bk)), some (.int (nI o)), some (.int r)] [] (xK f L, P, I, J, xFr f c s) Q := by
  unfold sco at k
  refine wX11_stepCost_0 (xK_lt hf hL) rfl rfl rfl ?_
  rw [h0.1]
  refine bn1 (by first | (rw [nI_ltI (by omega) (by omega)]; omega) | (rw [nI_leI (by omega) (by omega)]; omega) | (rw [nI_eq (by omega) (by omega)]; omega) | (rw [nI_e0 (by omega)]; omega) | (rw [nI_le0 (by omega)]; omega)) (brd (nI_e0 (by omega)) (fun h => ?_) (fun h => ?_))
  · rw [if_neg h] at k
    refine brd (nI_eq (by omega) (by omega)) (fun h1 => ?_) (fun h1 => ?_)
    · rw [if_neg h1] at k
      refine brd (nI_eq (by omega) (by omega)) (fun h6 => ?_) (fun h6 => ?_)
      · rw [if_neg h6] at k
        refine p_kindCostM hf hL h0 hk ⟨_, _, _, rfl, ?_⟩
        all_goals try dsimp only
        refine p_lengthCostM hf hL h0 (hs h h6).1 (hs h h6).2 ⟨_, _, _, rfl, ?_⟩
        all_goals try dsimp only
        rw [nI_add]
        exact k
      · rw [if_pos h6] at k
        refine p_kindCostM hf hL h0 (by decide) ⟨_, _, _, rfl, ?_⟩
        all_goals try dsimp only
        exact k
    · rw [if_pos h1] at k
      refine p_kindCostM hf hL h0 (by decide) ⟨_, _, _, rfl, ?_⟩
      all_goals try dsimp only
      refine p_lengthCostM hf hL h0 (hs h (by omega)).1 (hs h (by omega)).2 ⟨_, _, _, rfl, ?_⟩
      all_goals try dsimp only
      refine p_distanceCostM hf hL h0 (hb h1).1 (hb h1).2 ⟨_, _, _, rfl, ?_⟩
      all_goals try dsimp only
      rw [nI_add, nI_add]
      exact k
  · rw [if_pos h] at k
    have ho := ho h
    refine ⟨o, rfl, by omega, p_kindCostM hf hL h0 (by decide) ⟨_, _, _, rfl, ?_⟩⟩
    all_goals try dsimp only
    have e := h0.2.1 0 o (by decide) ho
    rw [Nat.mul_zero, Nat.zero_add] at e
    rw [e, nI_add]
    exact k
/-- in form 1: a literal behind r others, a copy -/
def lt1 (r : Nat) : Nat := 512 * (r + xmore r 15)
def cp1 (l : Nat) : Nat := 512 * (3 + xmore l 19)
theorem xmore_mono : ∀ r, r < 400 → xmore r 15 ≤ xmore (r + 1) 15 ∧ xmore (r + 1) 15 ≤ xmore r 15 + 1 := by decide +kernel
theorem p_stepCostM1 (hL : L < 2147483648) (hI : I 59 1 = nI 1) {kd sz : Nat} {r : Nat} {bk o : Int32} (hk : kd < 7) (hs : sz < 301) (hr : r < 400) (k : Q (some (.int (nI (if kd = 0 then lt1 (r + 1) - lt1 r else cp1 sz))), (xK 1 L, P, I, J, xFr 1 c s))) : Wp (d + 3) 119 0 [some (.ref 59), some (.int (nI kd)), some (.int (nI sz)), some (.int bk), some (.int o), some (.int (nI r))] [] (xK 1 L, P, I, J, xFr 1 c s) Q := by
  have hf : 1 < 3 := by decide
  refine wX11_stepCost_0 (xK_lt hf hL) rfl rfl rfl ?_
  rw [hI]
  refine bn2 rfl (brd (nI_e0 (by omega)) (fun h => ?_) (fun h => ?_))
  · rw [if_neg h] at k
    refine p_moreM (by omega) (by decide) ⟨_, _, _, rfl, ?_⟩
    all_goals try dsimp only
    rw [nI_add, pk_mul]
    exact k
  · rw [if_pos h] at k
    rw [nI_add]
    refine p_moreM (by omega) (by decide) ⟨_, _, _, rfl, ?_⟩
    all_goals try dsimp only
    refine p_moreM (by omega) (by decide) ⟨_, _, _, rfl, ?_⟩
    all_goals try dsimp only
    have := xmore_mono r hr
    rw [nI_add, pk_sub (by omega), pk_mul]
    unfold lt1 at k
    have e : 512 * (r + 1 + xmore (r + 1) 15) - 512 * (r + xmore r 15) = 512 * (1 + xmore (r + 1) 15 - xmore r 15) := by omega
    rw [e] at k
    exact k
end CST2
