/-! WHAT A ROW OF STEPS COSTS, AND WHAT IT TELLS -/
/-- where step i begins -/
def psn (R : Nat → xSt) : Nat → Nat
  | 0 => 0
  | i + 1 => psn R i + (R i).2.2.1
/-- a step that may stand -/
def okS (t : Nat → Nat) (f : Nat) (q : xSt) : Prop := (q.1 = 0 ∧ q.2.2.1 = 1 ∧ q.2.2.2 = 0) ∨ (1 ≤ q.1 ∧ q.1 ≤ 5 ∧ xlt f ≤ q.2.2.1 ∧ q.2.2.1 ≤ 300 ∧ 1 ≤ q.2.2.2 ∧ q.2.2.2 ≤ q.2.1 ∧ cp t q.2.2.2 q.2.1 q.2.2.1) ∨ (q.1 = 6 ∧ q.2.2.1 = 1 ∧ 1 ≤ q.2.2.2 ∧ q.2.2.2 ≤ q.2.1 ∧ cp t q.2.2.2 q.2.1 1)
/-- steps that tell the text -/
def VS (t : Nat → Nat) (f n m : Nat) (R : Nat → xSt) : Prop := (∀ i, i < m → okS t f (R i) ∧ (R i).2.1 = psn R i) ∧ psn R m = n
theorem psn_mono {t : Nat → Nat} {f m : Nat} {R : Nat → xSt} (h : ∀ i, i < m → okS t f (R i)) : ∀ j, j ≤ m → ∀ i, i ≤ j → psn R i + (j - i) ≤ psn R j
  | 0, _, i, hi => by
    have : i = 0 := by omega
    subst this
    omega
  | j + 1, hj, i, hi => by
    by_cases e : i = j + 1
    · subst e; omega
    · have h1 := psn_mono h j (by omega) i (by omega)
      have h2 : 1 ≤ (R j).2.2.1 := by
        have hx := xlt_pos f
        rcases h j (by omega) with h | h | h
        · omega
        · omega
        · omega
      rw [psn]
      omega
theorem VS.le {t : Nat → Nat} {f n m : Nat} {R : Nat → xSt} (h : VS t f n m R) {i : Nat} (hi : i < m) : (R i).2.1 + (R i).2.2.1 ≤ n ∧ i ≤ (R i).2.1 := by
  have h1 := psn_mono (fun i hi => (h.1 i hi).1) m (Nat.le_refl _) (i + 1) (by omega)
  have h2 := psn_mono (fun i hi => (h.1 i hi).1) i (by omega) 0 (by omega)
  have h3 := (h.1 i hi).2
  rw [h.2, psn] at h1
  rw [psn] at h2
  omega
theorem VS.m_le {t : Nat → Nat} {f n m : Nat} {R : Nat → xSt} (h : VS t f n m R) : m ≤ n := by
  have h2 := psn_mono (fun i hi => (h.1 i hi).1) m (Nat.le_refl _) 0 (by omega)
  rw [h.2, psn] at h2
  omega
theorem psn_cg {R R' : Nat → xSt} : ∀ {m : Nat}, (∀ i, i < m → R' i = R i) → psn R' m = psn R m
  | 0, _ => rfl
  | m + 1, h => by rw [psn, psn, psn_cg (fun i hi => h i (by omega)), h m (by omega)]
theorem VS.cg {t : Nat → Nat} {f n m : Nat} {R R' : Nat → xSt} (h : VS t f n m R) (he : ∀ i, i < m → R' i = R i) : VS t f n m R' := ⟨fun i hi => by rw [he i hi, psn_cg (fun j hj => he j (by omega))]; exact h.1 i hi, by rw [psn_cg he]; exact h.2⟩
def scq (V : Nat → Nat → Nat) (f : Nat) (t : Nat → Nat) (q : xSt) : Nat := sco V f q.1 q.2.2.1 q.2.2.2 (t q.2.1)
def scs (V : Nat → Nat → Nat) (f : Nat) (t : Nat → Nat) (R : Nat → xSt) : Nat → Nat
  | 0 => 0
  | i + 1 => scs V f t R i + scq V f t (R i)
/-- form 1: literals in a row before step i, and the cost of the steps before it -/
def rw1 (R : Nat → xSt) : Nat → Nat
  | 0 => 0
  | i + 1 => if (R i).1 = 0 then rw1 R i + 1 else 0
def sc1 (R : Nat → xSt) : Nat → Nat
  | 0 => 512
  | i + 1 => sc1 R i + if (R i).1 = 0 then lt1 (rw1 R i + 1) - lt1 (rw1 R i) else cp1 (R i).2.2.1
def allc (V : Nat → Nat → Nat) (f : Nat) (t : Nat → Nat) (R : Nat → xSt) (m : Nat) : Nat := if f = 1 then sc1 R m else scs V f t R m
theorem rw1_le (R : Nat → xSt) : ∀ i, rw1 R i ≤ i
  | 0 => Nat.le_refl _
  | i + 1 => by
    have := rw1_le R i
    rw [rw1]
    split <;> omega
theorem sco_le {V : Nat → Nat → Nat} (hB : VB V) (f : Nat) {kd sz bk o : Nat} (hk : kd < 7) (hs : sz < 301) (hb : bk < 301) (ho : o < 256) : sco V f kd sz bk o ≤ 31024 := by
  unfold sco
  have h1 := (hB 0 o (by decide) ho).2
  have h2 := kc_le hB f (k := 0) (by decide)
  have h3 := kc_le hB f (k := 1) (by decide)
  have h4 := kc_le hB f (k := 6) (by decide)
  have h5 := kc_le hB f hk
  have h6 := (lco_le hB f hs).2
  have h7 := (dco_le hB hb).2
  split
  · omega
  · split
    · omega
    · split <;> omega
theorem okS_lt {t : Nat → Nat} {f : Nat} {q : xSt} (h : okS t f q) : q.1 < 7 ∧ q.2.2.1 < 301 ∧ q.2.2.2 ≤ q.2.1 ∧ 1 ≤ q.2.2.1 ∧ (q.1 = 0 → q.2.2.2 = 0) ∧ (q.1 ≠ 0 → 1 ≤ q.2.2.2 ∧ cp t q.2.2.2 q.2.1 q.2.2.1) ∧ (q.1 ≠ 0 → q.1 ≠ 6 → xlt f ≤ q.2.2.1) := by
  have hx := xlt_pos f
  rcases h with h | h | h
  · refine ⟨by omega, by omega, by omega, by omega, fun _ => h.2.2, fun z => by omega, fun z => by omega⟩
  · exact ⟨by omega, by omega, by omega, by omega, fun _ => by omega, fun _ => ⟨by omega, h.2.2.2.2.2.2⟩, fun _ _ => by omega⟩
  · refine ⟨by omega, by omega, by omega, by omega, fun _ => by omega, fun _ => ⟨by omega, ?_⟩, fun z => by omega⟩
    rw [h.2.1]
    exact h.2.2.2.2
theorem scs_le {V : Nat → Nat → Nat} (hB : VB V) {f n m : Nat} {t : Nat → Nat} {R : Nat → xSt} (h : VS t f n m R) (hn : n ≤ 300) (ht : ∀ j, j < n → t j < 256) : ∀ i, i ≤ m → scs V f t R i ≤ 31024 * i
  | 0, _ => Nat.le_refl _
  | i + 1, hi => by
    have h1 := scs_le hB h hn ht i (by omega)
    have h2 := okS_lt (h.1 i (by omega)).1
    have h3 := h.le (i := i) (by omega)
    have h4 := sco_le hB f (kd := (R i).1) (sz := (R i).2.2.1) (bk := (R i).2.2.2) (o := t (R i).2.1) h2.1 h2.2.1 (by omega) (ht _ (by omega))
    rw [scs]
    unfold scq
    omega
theorem lt1_le : ∀ r, r < 400 → lt1 r ≤ lt1 (r + 1) ∧ lt1 (r + 1) ≤ lt1 r + 1024 ∧ lt1 r ≤ 1024 * r := by decide +kernel
theorem cp1_le : ∀ l, l < 400 → cp1 l ≤ 2560 := by decide +kernel
theorem sc1_le {t : Nat → Nat} {f n m : Nat} {R : Nat → xSt} (h : VS t f n m R) (hn : n ≤ 300) : ∀ i, i ≤ m → sc1 R i ≤ 512 + 2560 * i
  | 0, _ => Nat.le_refl _
  | i + 1, hi => by
    have h1 := sc1_le h hn i (by omega)
    have h2 := okS_lt (h.1 i (by omega)).1
    have h3 := h.m_le
    have h4 := rw1_le R i
    have h5 := lt1_le (rw1 R i) (by omega)
    have h6 := cp1_le (R i).2.2.1 (by omega)
    rw [sc1]
    split <;> omega
theorem xi2l {n : Nat} (h : n < 2 ^ 31) : (nI n).toInt64 = lN n := nI_l h
section STQ
variable {d f L c s p m n : Nat} {t : Nat → Nat} {V : Nat → Nat → Nat} {R : Nat → xSt} {Q : Option Value × xS → Prop} {P : List Nat × Nat × Nat} {I : Nat → Nat → Int32} {J : Nat → Nat → Int64}
theorem p_hasStep (hp : p = 41 ∨ p = 47) (h0 : PA I p m R) {x : Int32} (k1 : ∀ i, i < m → x = nI i → Q (some (.int (nI 1)), (xK f L, P, I, J, xFr f c s))) (k0 : (∀ i, i < m → x ≠ nI i) → Q (some (.int (nI 0)), (xK f L, P, I, J, xFr f c s))) : Wp d 50 0 [some (.ref p), some (.int x)] [] (xK f L, P, I, J, xFr f c s) Q := by
  have hm := h0.2.1
  refine wX6_hasStep_0 (pcK hp) ?_
  rw [h0.1]
  refine ⟨fun c1 => k0 (nI_no (by omega) (Or.inl c1)), fun c1 => ⟨fun c2 => k0 (nI_no (by omega) (Or.inr c2)), fun c2 => ?_⟩⟩
  obtain ⟨j, hj, e⟩ := nI_yes (by omega) c1 c2
  exact k1 j hj e
theorem p_stepCost (hf : f < 3) (hf1 : f ≠ 1) (hL : L < 2147483648) (hp : p = 41 ∨ p = 47) (hC : CC I f V) (hT : CT I n t f) (h0 : PA I p m R) (hv : VS t f n m R) {i : Nat} (hi : i < m) (k : Q (some (.int (nI (scq V f t (R i)))), (xK f L, P, I, J, xFr f c s))) : Wp (d + 3) 16 0 [some (.ref 10), some (.ref p), some (.int (nI i)), some (.ref 5), none, none] [] (xK f L, P, I, J, xFr f c s) Q := by
  have hm := h0.2.1
  have hn := hT.2.2.2.1
  have ho := okS_lt (hv.1 i hi).1
  have hle := hv.le hi
  have hr := h0.2.2 i hi
  have ht := hT.2.2.2.2.1 (R i).2.1 (by omega)
  unfold scq sco at k
  refine wX1_stepCost_0 (xK_lt hf hL) (pcK hp) (pcF3 hp) (pcA4 hp) rfl (pcF1 hp) (pcA2 hp) rfl (pcF2 hp) (pcA3 hp) rfl (pcF0 hp) (pcA1 hp) rfl (p_hasStep hp h0 (fun j hj e => ⟨_, _, _, rfl, ?_⟩) (fun h => absurd rfl (h i hi)))
  all_goals try dsimp only
  refine bn1 (by decide) ⟨i, rfl, by omega, ?_⟩
  rw [hr.1]
  refine brd (nI_e0 (by omega)) (fun h => ?_) (fun h => ⟨i, rfl, by omega, (R i).2.1, hr.2.1, by omega, ?_⟩)
  · rw [if_neg h] at k
    have hs := ho.2.2.2.2.2.2 h
    refine brd (nI_eq (by omega) (by omega)) (fun h6 => ?_) (fun h6 => ?_)
    · refine p_kindCost hf hL hC ho.1 ⟨_, _, _, rfl, i, rfl, by omega, ?_⟩
      all_goals try dsimp only
      rw [hr.2.2.1, hT.1, pk_sub (hs h6)]
      refine p_lengthCost hf hf1 hL hC (by omega) ⟨_, _, _, rfl, ?_⟩
      all_goals try dsimp only
      refine brd (nI_eq (by omega) (by omega)) (fun h1 => ?_) (fun h1 => ⟨i, rfl, by omega, ?_⟩)
      · rw [if_neg h1, if_neg h6] at k
        rw [nI_add]
        exact k
      · rw [if_pos h1] at k
        rw [hr.2.2.2, pk_sub (ho.2.2.2.2.2.1 h).1]
        refine p_distanceCost hf hf1 hL hC (by omega) ⟨_, _, _, rfl, ?_⟩
        all_goals try dsimp only
        rw [nI_add, nI_add, h1]
        exact k
    · rw [if_neg (by omega), if_pos h6] at k
      refine p_kindCost hf hL hC (by decide) ⟨_, _, _, rfl, k⟩
      all_goals try dsimp only
  · rw [if_pos h] at k
    rw [ht.1]
    refine p_literalCost hf hf1 hL hC ht.2 ⟨_, _, _, rfl, k⟩
    all_goals try dsimp only
/-- costOf in the forms 0 and 2 -/
theorem p_costOf (hf : f = 0 ∨ f = 2) (hL : L < 2147483648) (hp : p = 41 ∨ p = 47) (hC : CC I f V) (hT : CT I n t f) (h0 : PA I p m R) (hv : VS t f n m R) (k : Q (some (.long (lN (allc V f t R m))), (xK f L, P, I, J, xFr f c s))) : Wp (d + 4) 26 0 [some (.ref 20), some (.ref p), none, none] [] (xK f L, P, I, J, xFr f c s) Q := by
  have hm := h0.2.1
  have hn := hT.2.2.2.1
  have hf3 : f < 3 := by omega
  have hf1 : f ≠ 1 := by omega
  have hsl := scs_le hC.2.2.2 hv hn (fun j hj => (hT.2.2.2.2.1 j hj).2)
  unfold allc at k
  rw [if_neg hf1] at k
  have loop : ∀ q i, m - i = q → i ≤ m → Wp (d + 4) 26 4 [some (.ref 20), some (.ref p), some (.int (nI (scs V f t R i))), some (.int (nI i))] [] (xK f L, P, I, J, xFr f c s) Q := by
    intro q
    induction q with
    | zero =>
      intro i hq hi
      have e : i = m := by omega
      have h1 := hsl i hi
      have fin : ∀ H : (I p 5 ≤ nI i → Q (some (.long (nI (scs V f t R i)).toInt64), (xK f L, P, I, J, xFr f c s))), True := fun _ => trivial
      have hend : I p 5 ≤ nI i := by rw [h0.1]; exact (by first | (rw [nI_ltI (by omega) (by omega)]; omega) | (rw [nI_leI (by omega) (by omega)]; omega) | (rw [nI_eq (by omega) (by omega)]; omega) | (rw [nI_e0 (by omega)]; omega) | (rw [nI_le0 (by omega)]; omega))
      have hQ : Q (some (.long (nI (scs V f t R i)).toInt64), (xK f L, P, I, J, xFr f c s)) := by
        rw [xi2l (by omega), e]
        exact k
      rcases hf with rfl | rfl
      · exact wX2_costOf_4 (pcK hp) (k_r0 := 6) rfl rfl rfl rfl rfl rfl rfl (br1 hend hQ)
      · exact wX2_costOf_4 (pcK hp) (k_r0 := 3) rfl rfl rfl rfl rfl rfl rfl (br1 hend hQ)
    | succ q ih =>
      intro i hq hi
      have hend : ¬ I p 5 ≤ nI i := by rw [h0.1]; exact (by first | (rw [nI_ltI (by omega) (by omega)]; omega) | (rw [nI_leI (by omega) (by omega)]; omega) | (rw [nI_eq (by omega) (by omega)]; omega) | (rw [nI_e0 (by omega)]; omega) | (rw [nI_le0 (by omega)]; omega))
      have go : Wp (d + 3) 16 0 [some (.ref 10), some (.ref p), some (.int (nI i)), some (.ref 5), none, none] [] (xK f L, P, I, J, xFr f c s) (xrI (xK f L) P (xFr f c s) (fun v3 I4 J5 => Wp (d + 3 + 1) 26 4 [some (.ref 20), some (.ref p), some (.int (nI (scs V f t R i) + v3)), some (.int (nI i + nI 1))] [] (xK f L, P, I4, J5, xFr f c s) Q)) := by
        refine p_stepCost hf3 hf1 hL hp hC hT h0 hv (by omega) ⟨_, _, _, rfl, ?_⟩
        all_goals try dsimp only
        rw [nI_add, nI_add]
        exact ih (i + 1) (by omega) (by omega)
      rcases hf with rfl | rfl
      · exact wX2_costOf_4 (pcK hp) (k_r0 := 6) rfl rfl rfl rfl rfl rfl rfl (br2 hend go)
      · exact wX2_costOf_4 (pcK hp) (k_r0 := 3) rfl rfl rfl rfl rfl rfl rfl (br2 hend go)
  exact wX2_costOf_0 (loop m 0 rfl (Nat.zero_le _))
/-- the literals' costs of form 1 -/
def LC (I : Nat → Nat → Int32) : Prop := ∀ r, r ≤ 300 → I 27 r = nI (lt1 r)
theorem p_costOf1 (hL : L < 2147483648) (hp : p = 41 ∨ p = 47) (hC : LC I) (hn : n ≤ 300) (h0 : PA I p m R) (hv : VS t 1 n m R) (k : Q (some (.long (lN (allc V 1 t R m))), (xK 1 L, P, I, J, xFr 1 c s))) : Wp (d + 2) 46 0 [some (.ref 20), some (.ref p), none, none, none] [] (xK 1 L, P, I, J, xFr 1 c s) Q := by
  have hm := h0.2.1
  have hf : 1 < 3 := by decide
  have hsl := sc1_le hv hn
  unfold allc at k
  rw [if_pos rfl] at k
  have loop : ∀ q i x, m - i = q → i ≤ m → x + lt1 (rw1 R i) = sc1 R i → Wp (d + 2) 46 9 [some (.ref 20), some (.ref p), some (.int (nI x)), some (.int (nI (rw1 R i))), some (.int (nI i))] [] (xK 1 L, P, I, J, xFr 1 c s) Q := by
    intro q
    induction q with
    | zero =>
      intro i x hq hi hx
      have e : i = m := by omega
      have h1 := hsl i hi
      have h2 := rw1_le R i
      refine wX5_costOf_9 (f1 := 27) (xK_lt hf hL) (pcK hp) rfl rfl rfl (pcF3 hp) (pcA4 hp) (pcF1 hp) (pcA2 hp) (br1 ?_ ⟨rw1 R i, rfl, by omega, ?_⟩)
      · rw [h0.1]
        exact (by first | (rw [nI_ltI (by omega) (by omega)]; omega) | (rw [nI_leI (by omega) (by omega)]; omega) | (rw [nI_eq (by omega) (by omega)]; omega) | (rw [nI_e0 (by omega)]; omega) | (rw [nI_le0 (by omega)]; omega))
      · rw [hC _ (by omega), nI_add, hx, xi2l (by omega), e]
        exact k
    | succ q ih =>
      intro i x hq hi hx
      have h2 := rw1_le R i
      have hr := h0.2.2 i (by omega)
      have ho := okS_lt (hv.1 i (by omega)).1
      refine wX5_costOf_9 (f1 := 27) (xK_lt hf hL) (pcK hp) rfl rfl rfl (pcF3 hp) (pcA4 hp) (pcF1 hp) (pcA2 hp) (br2 ?_ ⟨i, rfl, by omega, ?_⟩)
      · rw [h0.1]
        exact (by first | (rw [nI_ltI (by omega) (by omega)]; omega) | (rw [nI_leI (by omega) (by omega)]; omega) | (rw [nI_eq (by omega) (by omega)]; omega) | (rw [nI_e0 (by omega)]; omega) | (rw [nI_le0 (by omega)]; omega))
      · rw [hr.1]
        have hlt := lt1_le (rw1 R i) (by omega)
        refine brd (nI_e0 (by omega)) (fun h => ⟨rw1 R i, rfl, by omega, i, rfl, by omega, ?_⟩) (fun h => ?_)
        · rw [hr.2.2.1]
          refine p_copyCost (by omega) ⟨_, _, _, rfl, ?_⟩
          all_goals try dsimp only
          rw [hC _ (by omega), nI_add, nI_add, nI_add]
          have e0 : rw1 R (i + 1) = 0 := by rw [rw1, if_neg h]
          have := ih (i + 1) (x + (lt1 (rw1 R i) + 512 * (3 + xmore (R i).2.2.1 19))) (by omega) (by omega) (by
            rw [e0, sc1, if_neg h, ← hx]
            show x + (lt1 (rw1 R i) + cp1 (R i).2.2.1) + 0 = _
            omega)
          rw [e0] at this
          exact this
        · rw [nI_add, nI_add]
          have e0 : rw1 R (i + 1) = rw1 R i + 1 := by rw [rw1, if_pos h]
          have := ih (i + 1) x (by omega) (by omega) (by
            rw [e0, sc1, if_pos h]
            omega)
          rw [e0] at this
          exact this
  refine wX5_costOf_0  (loop m 0 512 rfl (Nat.zero_le _) rfl)
/-- the reference's allCost -/
theorem p_allCostM (hf : f < 3) (hL : L < 2147483648) (hM : MV I f V) (hT : MT I n t) (h0 : MA I m R) (hv : VS t f n m R) (k : Q (some (.long (lN (allc V f t R m))), (xK f L, P, I, J, xFr f c s))) : Wp (d + 4) 120 0 [some (.ref 59), none, none, none, none] [] (xK f L, P, I, J, xFr f c s) Q := by
  have hm := h0.2.1
  have hn := hT.2.1
  have loop : ∀ q i y, m - i = q → i ≤ m → y = allc V f t R i → Wp (d + 4) 120 21 [some (.ref 59), some (.long (lN y)), none, some (.int (nI (rw1 R i))), some (.int (nI i))] [] (xK f L, P, I, J, xFr f c s) Q := by
    intro q
    induction q with
    | zero =>
      intro i y hq hi hy
      have e : i = m := by omega
      refine wX11_allCost_21 (xK_lt hf hL) rfl rfl rfl rfl rfl rfl rfl rfl rfl rfl rfl (br1 ?_ ?_)
      · rw [h0.1]
        exact (by first | (rw [nI_ltI (by omega) (by omega)]; omega) | (rw [nI_leI (by omega) (by omega)]; omega) | (rw [nI_eq (by omega) (by omega)]; omega) | (rw [nI_e0 (by omega)]; omega) | (rw [nI_le0 (by omega)]; omega))
      · rw [hy, e]
        exact k
    | succ q ih =>
      intro i y hq hi hy
      have h2 := rw1_le R i
      have hr := h0.2.2 i (by omega)
      have ho := okS_lt (hv.1 i (by omega)).1
      have hle := hv.le (i := i) (by omega)
      have ht := hT.2.2 (R i).2.1 (by omega)
      have next : ∀ v, v < 2 ^ 24 → y + v = allc V f t R (i + 1) → (∃ j14, nI i = nI j14 ∧ j14 < 301 ∧ ((¬ I 75 j14 = 0 → Wp (d + 3 + 1) 120 21 [some (.ref 59), some (.long (lN y + (nI v).toInt64)), none, some (.int (nI 0)), some (.int (nI i + nI 1))] [] (xK f L, P, I, J, xFr f c s) Q) ∧ (I 75 j14 = 0 → Wp (d + 3 + 1) 120 21 [some (.ref 59), some (.long (lN y + (nI v).toInt64)), none, some (.int (nI (rw1 R i) + nI 1)), some (.int (nI i + nI 1))] [] (xK f L, P, I, J, xFr f c s) Q))) := by
        intro v hv2 hy2
        refine ⟨i, rfl, by omega, ?_⟩
        rw [hr.1, xi2l (by omega), lN_add, nI_add, nI_add]
        refine brd (nI_e0 (by omega)) (fun h => ?_) (fun h => ?_)
        · have e0 : rw1 R (i + 1) = 0 := by rw [rw1, if_neg h]
          have := ih (i + 1) (y + v) (by omega) (by omega) hy2
          rw [e0] at this
          exact this
        · have e0 : rw1 R (i + 1) = rw1 R i + 1 := by rw [rw1, if_pos h]
          have := ih (i + 1) (y + v) (by omega) (by omega) hy2
          rw [e0] at this
          exact this
      refine wX11_allCost_21 (xK_lt hf hL) rfl rfl rfl rfl rfl rfl rfl rfl rfl rfl rfl (br2 ?_ ⟨i, rfl, by omega, i, rfl, by omega, i, rfl, by omega, i, rfl, by omega, (R i).2.1, hr.2.1, by omega, ?_⟩)
      · rw [h0.1]
        exact (by first | (rw [nI_ltI (by omega) (by omega)]; omega) | (rw [nI_leI (by omega) (by omega)]; omega) | (rw [nI_eq (by omega) (by omega)]; omega) | (rw [nI_e0 (by omega)]; omega) | (rw [nI_le0 (by omega)]; omega))
      · rw [hr.1, hr.2.2.1, hr.2.2.2, ht.1]
        by_cases e1 : f = 1
        · subst e1
          refine p_stepCostM1 hL hM.1 ho.1 ho.2.1 (by omega) ⟨_, _, _, rfl, next _ ?_ ?_⟩
          all_goals try dsimp only
          · have hlt := lt1_le (rw1 R i) (by omega)
            have := cp1_le (R i).2.2.1 (by omega)
            split <;> omega
          · rw [hy]
            unfold allc
            rw [if_pos rfl, if_pos rfl]
            rfl
        · refine p_stepCostM hf e1 hL hM ho.1 (fun _ => ht.2) (fun z1 z2 => ⟨ho.2.2.2.2.2.2 z1 z2, ho.2.1⟩) (fun z => ⟨(ho.2.2.2.2.2.1 (by omega)).1, by omega⟩) ⟨_, _, _, rfl, next _ ?_ ?_⟩
          all_goals try dsimp only
          · have := sco_le hM.2.2 f (kd := (R i).1) (sz := (R i).2.2.1) (bk := (R i).2.2.2) (o := t (R i).2.1) ho.1 ho.2.1 (by omega) ht.2
            omega
          · rw [hy]
            unfold allc
            rw [if_neg e1, if_neg e1]
            rfl
  refine wX11_allCost_0 rfl ?_
  rw [hM.1]
  refine brd (nI_eq (by omega) (by omega)) (fun h => loop m 0 0 rfl (Nat.zero_le _) ?_) (fun h => loop m 0 512 rfl (Nat.zero_le _) ?_)
  · unfold allc
    rw [if_neg h]
    rfl
  · unfold allc
    rw [if_pos h]
    rfl
end STQ
