/-! THE OPERATIONS: parse, clear -/
def PaOk (x : Int32) (h : Nat) : Prop := x = nI h ∧ h ≤ 3
def pM (f : Nat) (V : Nat → Nat → Nat) (t : Nat → Nat) (n K h m : Nat) : Prop := if h = 3 then bM f V t n K m else GM t n f h m
def pR (f : Nat) (V : Nat → Nat → Nat) (t : Nat → Nat) (n K h m : Nat) : Nat → xSt := if h = 3 then bR f V t n K m else gR t n f h
def pL (f : Nat) (V : Nat → Nat → Nat) (t : Nat → Nat) (n K h : Nat) : Nat := if h = 3 then (if bD f V t n K = 0 then 1 else 0) else 0
theorem pM.uniq {f : Nat} {V : Nat → Nat → Nat} {t : Nat → Nat} {n K h m m' : Nat} (h1 : pM f V t n K h m) (h2 : pM f V t n K h m') : m = m' := by
  unfold pM at h1 h2
  by_cases e : h = 3
  · rw [if_pos e] at h1 h2
    exact h1.uniq h2
  · rw [if_neg e] at h1 h2
    exact h1.uniq h2
theorem noPa {x : Int32} (h : ∀ k, ¬ PaOk x k) : x < 0 ∨ ¬ x ≤ nI 3 := by
  rcases nI_ix x (n := 4) (by decide) with ⟨j, hj, hx⟩ | hx | hx
  · exact absurd ⟨hx, by omega⟩ (h j)
  · exact Or.inl hx
  · right
    intro z
    exact absurd (Int32.le_trans hx z) (by decide)
section OPP
variable {d f L c s n m K dr h : Nat} {t : Nat → Nat} {V : Nat → Nat → Nat} {Q : Option Value × xS → Prop} {P : List Nat × Nat × Nat} {I : Nat → Nat → Int32} {J : Nat → Nat → Int64}
theorem p_parseC1 (hf : f < 3) (hL : L < 2147483648) (hp : c = 41 ∨ c = 47) (hC : CI I f n t V) (hK : I 4 10 = nI K) (hK1 : 1 ≤ K) (hK2 : K ≤ 40) (hdr : I 4 11 = nI dr) {x : Int32} (ho : PaOk x h) (k : ∀ I' J' m, xag I I' [4, 13, 14, 20, 21, 22, 23, 24, 25, 26, 29, 30, 31, c, c + 1, c + 2, c + 3, c + 4, c + 5] → (∀ q, q ≠ 9 → q ≠ 11 → I' 4 q = I 4 q) → I' 4 9 = nI 1 → I' 4 11 = nI (if h = 3 then bD f V t n K else dr) → CI I' f n t V → (∀ a, a ≠ 20 → a ≠ 28 → a ≠ 32 → a ≠ c → J' a = J a) → pM f V t n K h m → CP I' J' f c n t m (pR f V t n K h m) (allc V f t (pR f V t n K h m) m) (pL f V t n K h) → Q (some (.int (nI m)), (xK f L, P, I', J', xFr f c s))) : Wp (d + 7) 78 0 [some (.ref 4), some (.int x)] [] (xK f L, P, I, J, xFr f c s) Q := by
  obtain ⟨hx, hh⟩ := ho
  subst hx
  have hn := hC.1.2.2.2.1
  have h4c : ∀ I2, xag I2 (xup I2 4 9 (nI 1)) [4] := fun I2 => xag.rfl.up (by simp)
  have hc4 : c ∉ [4] ∧ c + 1 ∉ [4] ∧ c + 2 ∉ [4] ∧ c + 3 ∉ [4] ∧ c + 4 ∉ [4] ∧ c + 5 ∉ [4] := by rcases hp with rfl | rfl <;> decide
  have fin : ∀ I2 J2 m, xag I I2 [4, 13, 14, 20, 21, 22, 23, 24, 25, 26, 29, 30, 31, c, c + 1, c + 2, c + 3, c + 4, c + 5] → (∀ q, q ≠ 11 → I2 4 q = I 4 q) → I2 4 11 = nI (if h = 3 then bD f V t n K else dr) → CI I2 f n t V → (∀ a, a ≠ 20 → a ≠ 28 → a ≠ 32 → a ≠ c → J2 a = J a) → pM f V t n K h m → CP I2 J2 f c n t m (pR f V t n K h m) (allc V f t (pR f V t n K h m) m) (pL f V t n K h) → Q (some (.int (xup I2 4 9 (nI 1) c 5)), (xK f L, P, xup I2 4 9 (nI 1), J2, xFr f c s)) := by
    intro I2 J2 m a1 a2 a3 a4 a5 a6 a7
    have hcp := a7.ag (h4c I2) hc4 rfl
    rw [hcp.1.1]
    refine k _ J2 m (a1.up (by simp)) (fun q z1 z2 => by rw [xup_at, if_neg z1]; exact a2 q z2) (by rw [xup_at, if_pos rfl]) (by rw [xup_at, if_neg (by decide)]; exact a3) (a4.ag (h4c I2) (by decide) (by rw [xup_at, if_neg (by decide)]) (fun z => by rw [xup_ne _ _ _ (by decide)]; exact a4.2.2.2.2.2 z)) a5 a6 hcp
  refine wX10_parse_0 rfl rfl rfl rfl rfl rfl xk20 (xt20 hf) (xl20 hf) (pcK hp) (br2 (nI_pos (by omega)) (br1 (by first | (rw [nI_ltI (by omega) (by omega)]; omega) | (rw [nI_leI (by omega) (by omega)]; omega) | (rw [nI_eq (by omega) (by omega)]; omega) | (rw [nI_e0 (by omega)]; omega) | (rw [nI_le0 (by omega)]; omega)) ?_))
  by_cases e : h = 3
  · subst e
    refine bn2 rfl (p_bestC hf hL hp hC hK hK1 hK2 (fun I2 J2 m b1 b2 b3 b4 b5 b6 b7 => ⟨_, _, rfl, ?_⟩))
    all_goals try dsimp only
    exact fin I2 J2 m b1 b2 b3 b4 b5 b6 b7
  · refine bn1 (by first | (rw [nI_ltI (by omega) (by omega)]; omega) | (rw [nI_leI (by omega) (by omega)]; omega) | (rw [nI_eq (by omega) (by omega)]; omega) | (rw [nI_e0 (by omega)]; omega) | (rw [nI_le0 (by omega)]; omega)) ?_
    refine Wp.dp (d := d + 3) (by omega) (p_walk hf hL hp hC.1 hC.2.2.1 (by omega) (fun I2 m b1 b2 b3 => ⟨_, _, rfl, ?_⟩))
    all_goals try dsimp only
    have hv := b2.VS hf hn
    have hS : (5 ∉ [c, c + 1, c + 2, c + 3, c + 4] ∧ 6 ∉ [c, c + 1, c + 2, c + 3, c + 4] ∧ 7 ∉ [c, c + 1, c + 2, c + 3, c + 4] ∧ 8 ∉ [c, c + 1, c + 2, c + 3, c + 4] ∧ 9 ∉ [c, c + 1, c + 2, c + 3, c + 4]) ∧ (1 ∉ [c, c + 1, c + 2, c + 3, c + 4] ∧ 2 ∉ [c, c + 1, c + 2, c + 3, c + 4] ∧ 3 ∉ [c, c + 1, c + 2, c + 3, c + 4] ∧ 10 ∉ [c, c + 1, c + 2, c + 3, c + 4] ∧ 11 ∉ [c, c + 1, c + 2, c + 3, c + 4]) ∧ 33 ∉ [c, c + 1, c + 2, c + 3, c + 4] ∧ 27 ∉ [c, c + 1, c + 2, c + 3, c + 4] := by rcases hp with rfl | rfl <;> decide
    have hS2 : 4 ∉ [c, c + 1, c + 2, c + 3, c + 4] ∧ 29 ∉ [c, c + 1, c + 2, c + 3, c + 4] := by rcases hp with rfl | rfl <;> decide
    have hC2 : CI I2 f n t V := hC.ag b1 hS (by rw [b1 4 hS2.1]) (fun z => by rw [b1 29 hS2.2]; exact hC.2.2.2.2.2 z)
    refine p_costC (d := d + 2) hf hL hp hC2 b3 hv (xt20 hf) ⟨_, _, _, rfl, ?_⟩
    all_goals try dsimp only
    refine Wp.dp (d := d + 2) (by omega) (p_finish hf hL hp hC2.1 b3 hv (Or.inl rfl) (fun I3 e1 e2 e3 e4 => ⟨_, _, rfl, ?_⟩))
    all_goals try dsimp only
    have hp5 : 4 ∉ [c, c + 5] ∧ 29 ∉ [c, c + 5] ∧ ((5 ∉ [c, c + 5] ∧ 6 ∉ [c, c + 5] ∧ 7 ∉ [c, c + 5] ∧ 8 ∉ [c, c + 5] ∧ 9 ∉ [c, c + 5]) ∧ (1 ∉ [c, c + 5] ∧ 2 ∉ [c, c + 5] ∧ 3 ∉ [c, c + 5] ∧ 10 ∉ [c, c + 5] ∧ 11 ∉ [c, c + 5]) ∧ 33 ∉ [c, c + 5] ∧ 27 ∉ [c, c + 5]) := by rcases hp with rfl | rfl <;> decide
    have hpR : pR f V t n K h m = gR t n f h := by unfold pR; rw [if_neg e]
    refine fin I3 _ m (fun a haa => ?_) (fun q hq => by rw [e1 4 hp5.1, b1 4 hS2.1]) (by rw [e1 4 hp5.1, b1 4 hS2.1, if_neg e]; exact hdr) (hC2.ag e1 hp5.2.2 (by rw [e1 4 hp5.1]) (fun z => by rw [e1 29 hp5.2.1]; exact hC2.2.2.2.2.2 z)) (fun a z1 z2 z3 z4 => by rw [xup_ne _ _ _ z4]) (by unfold pM; rw [if_neg e]; exact b2) ?_
    · rw [e1 a (fun z => haa (by simp at z ⊢; omega)), b1 a (fun z => haa (by simp at z ⊢; omega))]
    · rw [hpR]
      refine ⟨⟨by rw [e2 5 (by decide)]; exact b3.1, b3.2.1, fun i hi => ?_⟩, hv, by rw [xup_at, if_pos rfl], by rw [e3]; unfold pL; rw [if_neg e], e4⟩
      rw [e1 (c + 4) (by simp), e1 (c + 1) (by simp), e1 (c + 2) (by simp), e1 (c + 3) (by simp)]
      exact b3.2.2 i hi
theorem p_parseC0 (hf : f < 3) (hp : c = 41 ∨ c = 47) {x : Int32} (ho : ∀ h, ¬ PaOk x h) (k : Q (some (.int (-1)), (xK f L, P, I, J, xFr f c s))) : Wp (d + 7) 78 0 [some (.ref 4), some (.int x)] [] (xK f L, P, I, J, xFr f c s) Q := by
  refine wX10_parse_0 rfl rfl rfl rfl rfl rfl xk20 (xt20 hf) (xl20 hf) (pcK hp) ⟨fun _ => k, fun h1 => ?_⟩
  rcases noPa ho with z | z
  · exact absurd z h1
  · exact br2 z k
theorem p_parseM1 (hf : f < 3) (hL : L < 2147483648) (hK : I 59 5 = nI K) (hK1 : 1 ≤ K) (hK2 : K ≤ 40) (hM : MV I f V) (hT : MT I n t) (hdr : I 59 18 = nI dr) {x : Int32} (ho : PaOk x h) (k : ∀ I' m, xag I I' [59, 72, 73, 74, 75, 79, 80, 81, 83, 84, 85, 86, 87, 88, 89, 90, 91, 92, 93, 94, 95, 96, 97, 98] → (∀ q, q ≠ 0 → q ≠ 10 → q ≠ 11 → q ≠ 17 → q ≠ 18 → q ≠ 22 → I' 59 q = I 59 q) → I' 59 10 = nI 1 → I' 59 18 = nI (if h = 3 then bD f V t n K else dr) → pM f V t n K h m → MA I' m (pR f V t n K h m) → I' 59 17 = nI (pL f V t n K h) → Q (some (.int (nI m)), (xK f L, P, I', xup J 59 16 (lN (allc V f t (pR f V t n K h m) m)), xFr f c s))) : Wp (d + 7) 142 0 [some (.ref 59), some (.int x)] [] (xK f L, P, I, J, xFr f c s) Q := by
  obtain ⟨hx, hh⟩ := ho
  subst hx
  have h59 : ∀ q, q ≠ 0 → q ≠ 10 → xup (xup I 59 0 (nI 0)) 59 10 (nI 1) 59 q = I 59 q := fun q z1 z2 => by rw [xup_at, if_neg z2, xup_at, if_neg z1]
  have hM0 : MV (xup (xup I 59 0 (nI 0)) 59 10 (nI 1)) f V := ⟨by rw [h59 1 (by decide) (by decide)]; exact hM.1, by rw [xup_ne _ _ _ (by decide), xup_ne _ _ _ (by decide)]; exact hM.2.1, hM.2.2⟩
  have hT0 : MT (xup (xup I 59 0 (nI 0)) 59 10 (nI 1)) n t := ⟨by rw [h59 3 (by decide) (by decide)]; exact hT.1, hT.2.1, by rw [xup_ne _ _ _ (by decide), xup_ne _ _ _ (by decide)]; exact hT.2.2⟩
  have ha0 : xag I (xup (xup I 59 0 (nI 0)) 59 10 (nI 1)) [59] := (xag.rfl.up (by simp)).up (by simp)
  have h10 : xup (xup I 59 0 (nI 0)) 59 10 (nI 1) 59 10 = nI 1 := by rw [xup_at, if_pos rfl]
  refine wX11_parse_0 rfl (br2 (nI_pos (by omega)) (br1 (by first | (rw [nI_ltI (by omega) (by omega)]; omega) | (rw [nI_leI (by omega) (by omega)]; omega) | (rw [nI_eq (by omega) (by omega)]; omega) | (rw [nI_e0 (by omega)]; omega) | (rw [nI_le0 (by omega)]; omega)) ?_))
  generalize xup (xup I 59 0 (nI 0)) 59 10 (nI 1) = I0 at *
  by_cases e : h = 3
  · subst e
    refine bn2 rfl (p_bestM hf hL (by rw [h59 5 (by decide) (by decide)]; exact hK) hK1 hK2 hM0 hT0 (fun I1 m b1 b2 b3 b4 b5 => ⟨_, _, rfl, ?_⟩))
    all_goals try dsimp only
    rw [b3.1]
    refine k I1 m ((ha0.wd (by simp)).tr b1.1 (fun a z => z)) (fun q z1 z2 z3 z4 z5 z6 => by rw [b1.2 q z3 z4 z5]; exact h59 q z1 z2) (by rw [b1.2 10 (by decide) (by decide) (by decide)]; exact h10) b5 b2 b3 b4
  · refine bn1 (by first | (rw [nI_ltI (by omega) (by omega)]; omega) | (rw [nI_leI (by omega) (by omega)]; omega) | (rw [nI_eq (by omega) (by omega)]; omega) | (rw [nI_e0 (by omega)]; omega) | (rw [nI_le0 (by omega)]; omega)) (Wp.dp (d := d + 1) (by omega) (p_layOut hf hL hT0 hM0.1 (fun I1 b1 b2 => ⟨_, _, rfl, ?_⟩)))
    all_goals try dsimp only
    refine Wp.dp (d := d + 5) (by omega) (p_greedyM hf hL (hM0.ag b1 (by decide)) (hT0.ag b1 (by decide) (by decide)) b2 (by omega) (fun I2 m c1 c2 c3 c4 => ⟨_, _, rfl, ?_⟩))
    all_goals try dsimp only
    have hpR : pR f V t n K h m = gR t n f h := by unfold pR; rw [if_neg e]
    rw [c3.1]
    have := k I2 m (fun a haa => ?_) (fun q z1 z2 z3 z4 z5 z6 => by rw [c1.2 q z3 z4 z6, b1 59 (by decide)]; exact h59 q z1 z2) (by rw [c1.2 10 (by decide) (by decide) (by decide), b1 59 (by decide)]; exact h10) (by rw [c1.2 18 (by decide) (by decide) (by decide), b1 59 (by decide), h59 18 (by decide) (by decide), if_neg e]; exact hdr) (by unfold pM; rw [if_neg e]; exact c2) (by rw [hpR]; exact c3) (by rw [c4]; unfold pL; rw [if_neg e])
    · rw [hpR] at this
      exact this
    · rw [c1.1 a (fun z => haa (by simp at z ⊢; omega)), b1 a (fun z => haa (by simp at z ⊢; omega))]
      exact ha0 a (fun z => haa (by simp at z ⊢; omega))
theorem p_parseM0 (hf : f < 3) {x : Int32} (ho : ∀ h, ¬ PaOk x h) (k : Q (some (.int (-1)), (xK f L, P, xup I 59 0 (nI 0), J, xFr f c s))) : Wp (d + 7) 142 0 [some (.ref 59), some (.int x)] [] (xK f L, P, I, J, xFr f c s) Q := by
  refine wX11_parse_0 rfl ⟨fun _ => k, fun h1 => ?_⟩
  rcases noPa ho with z | z
  · exact absurd z h1
  · exact br2 z k
/-! clear -/
theorem p_clearC (hf : f < 3) (hL : L < 2147483648) (hC : CI I f n t V) (k : ∀ I', xag I I' [4, 5, 11, 34] → (∀ q, q ≠ 9 → q ≠ 10 → q ≠ 11 → I' 4 q = I 4 q) → I' 4 9 = nI 0 → I' 4 10 = nI 8 → I' 4 11 = nI 0 → (∀ q, q ≠ 2 → q ≠ 4 → I' 34 q = I 34 q) → I' 34 2 = nI 0 → I' 34 4 = nI 0 → CI I' f 0 t V0 → Q (none, (xK f L, P, I', J, xFr f c s))) : Wp (d + 3) 91 0 [some (.ref 4)] [] (xK f L, P, I, J, xFr f c s) Q := by
  have hx1 : xag I (xup (xup (xup I 5 3 (nI 0)) 34 2 (nI 0)) 34 4 (nI 0)) [5, 34] := ((xag.rfl.up (by simp)).up (by simp)).up (by simp)
  have hS1 : ST (xup (xup (xup I 5 3 (nI 0)) 34 2 (nI 0)) 34 4 (nI 0)) := fun k' hk' => by
    rw [hx1 1 (by decide), hx1 2 (by decide), hx1 3 (by decide)]
    exact hC.2.1.1 k' hk'
  have h5 : ∀ q, xup (xup (xup I 5 3 (nI 0)) 34 2 (nI 0)) 34 4 (nI 0) 5 q = if q = 3 then nI 0 else I 5 q := fun q => by rw [xup_ne _ _ _ (by decide), xup_ne _ _ _ (by decide), xup_at]
  have h34 : ∀ q, xup (xup (xup I 5 3 (nI 0)) 34 2 (nI 0)) 34 4 (nI 0) 34 q = if q = 4 then nI 0 else if q = 2 then nI 0 else I 34 q := fun q => by rw [xup_at, xup_at, xup_ne _ _ _ (by decide)]
  refine wX10_clear_0 rfl rfl rfl rfl rfl rfl rfl (wX0_forget_0 rfl ⟨_, _, rfl, ?_⟩)
  all_goals try dsimp only
  generalize xup (xup (xup I 5 3 (nI 0)) 34 2 (nI 0)) 34 4 (nI 0) = I1 at *
  refine p_resetG (K := xK f L) (v := 11) (xK_lt hf hL) rfl rfl rfl rfl rfl rfl hS1 (fun I2 b1 b2 => ⟨_, _, rfl, ?_⟩)
  all_goals try dsimp only
  have ha4 : xag I2 (xup (xup (xup I2 4 9 (nI 0)) 4 10 (nI 8)) 4 11 (nI 0)) [4] := ((xag.rfl.up (by simp)).up (by simp)).up (by simp)
  have h4 : ∀ q, xup (xup (xup I2 4 9 (nI 0)) 4 10 (nI 8)) 4 11 (nI 0) 4 q = if q = 11 then nI 0 else if q = 10 then nI 8 else if q = 9 then nI 0 else I 4 q := fun q => by rw [xup_at, xup_at, xup_at, b1 4 (by decide), hx1 4 (by decide)]
  generalize xup (xup (xup I2 4 9 (nI 0)) 4 10 (nI 8)) 4 11 (nI 0) = I3 at *
  have h3 : ∀ a, a ∉ [4, 11] → I3 a = I1 a := fun a ha => by
    simp at ha
    rw [ha4 a (by simp; omega), b1 a (by simp; omega)]
  have hall : xag I I3 [4, 5, 11, 34] := fun a ha => by
    simp at ha
    rw [h3 a (by simp; omega)]
    exact hx1 a (by simp; omega)
  refine k I3 hall (fun q z1 z2 z3 => by rw [h4, if_neg z3, if_neg z2, if_neg z1]) (by rw [h4]; rfl) (by rw [h4]; rfl) (by rw [h4]; rfl) (fun q z1 z2 => by rw [h3 34 (by decide), h34, if_neg z2, if_neg z1]) (by rw [h3 34 (by decide), h34]; rfl) (by rw [h3 34 (by decide), h34]; rfl) ⟨?_, ⟨?_, ?_, ?_, V0_VB⟩, ?_, ?_, fun z => (hC.2.2.2.2.1 z).ag hall (by decide), fun z => by rw [hall 29 (by decide)]; exact hC.2.2.2.2.2 z⟩
  · refine ⟨?_, ?_, ?_, Nat.zero_le _, fun j hj => absurd hj (Nat.not_lt_zero _), fun b h1 h2 => absurd h2 (Nat.not_lt_zero _), fun a l h1 => absurd h1 (Nat.not_lt_zero _), fun p h1 => absurd h1 (Nat.not_lt_zero _)⟩
    · rw [h3 5 (by decide), h5, if_neg (by decide)]
      exact hC.1.1
    · rw [h3 5 (by decide), h5, if_neg (by decide)]
      exact hC.1.2.1
    · rw [h3 5 (by decide), h5, if_pos rfl]
  · intro k' hk'
    rw [hall 1 (by decide), hall 2 (by decide), hall 3 (by decide)]
    exact hC.2.1.1 k' hk'
  · rw [hall 10 (by decide)]
    exact hC.2.1.2.1
  · intro k' s' z1 z2
    rw [ha4 11 (by decide)]
    exact b2 k' s' z1 z2
  · unfold SP
    rw [hall 33 (by decide)]
    exact hC.2.2.1
  · rw [h4, if_neg (by decide), if_neg (by decide), if_neg (by decide)]
    exact hC.2.2.2.1
theorem p_clearM (hf : f < 3) (hL : L < 2147483648) (hM : MV I f V) (k : ∀ I', xag I I' [59, 64] → (∀ q, q ≠ 0 → q ≠ 3 → q ≠ 5 → q ≠ 7 → q ≠ 9 → q ≠ 10 → q ≠ 18 → I' 59 q = I 59 q) → I' 59 5 = nI 8 → I' 59 7 = nI 0 → I' 59 9 = nI 0 → I' 59 10 = nI 0 → I' 59 18 = nI 0 → MV I' f V0 → MT I' 0 t → Q (none, (xK f L, P, I', J, xFr f c s))) : Wp (d + 3) 162 0 [some (.ref 59)] [] (xK f L, P, I, J, xFr f c s) Q := by
  have hx1 : xag I (xup (xup (xup (xup (xup (xup I 59 0 (nI 0)) 59 3 (nI 0)) 59 7 (nI 0)) 59 9 (nI 0)) 59 10 (nI 0)) 59 18 (nI 0)) [59] := (((((xag.rfl.up (by simp)).up (by simp)).up (by simp)).up (by simp)).up (by simp)).up (by simp)
  have h59 : ∀ q, (xup (xup (xup (xup (xup (xup I 59 0 (nI 0)) 59 3 (nI 0)) 59 7 (nI 0)) 59 9 (nI 0)) 59 10 (nI 0)) 59 18 (nI 0)) 59 q = if q = 18 then nI 0 else if q = 10 then nI 0 else if q = 9 then nI 0 else if q = 7 then nI 0 else if q = 3 then nI 0 else if q = 0 then nI 0 else I 59 q := fun q => by rw [xup_at, xup_at, xup_at, xup_at, xup_at, xup_at]
  refine wX11_clear_0 rfl ?_
  generalize xup (xup (xup (xup (xup (xup I 59 0 (nI 0)) 59 3 (nI 0)) 59 7 (nI 0)) 59 9 (nI 0)) 59 10 (nI 0)) 59 18 (nI 0) = I1 at *
  refine p_startG (K := xK f L) (xK_lt hf hL) rfl rfl rfl (fun I2 b1 b2 b3 b4 => ⟨_, _, rfl, ?_⟩)
  all_goals try dsimp only
  refine k I2 ((hx1.wd (by simp)).tr b1 (by simp)) (fun q z1 z2 z3 z4 z5 z6 z7 => by rw [b2 q z3, h59, if_neg z7, if_neg z6, if_neg z5, if_neg z4, if_neg z2, if_neg z1]) b3 (by rw [b2 7 (by decide), h59]; rfl) (by rw [b2 9 (by decide), h59]; rfl) (by rw [b2 10 (by decide), h59]; rfl) (by rw [b2 18 (by decide), h59]; rfl) ⟨?_, b4, V0_VB⟩ ⟨by rw [b2 3 (by decide), h59]; rfl, Nat.zero_le _, fun j hj => absurd hj (Nat.not_lt_zero _)⟩
  rw [b2 1 (by decide), h59, if_neg (by decide), if_neg (by decide), if_neg (by decide), if_neg (by decide), if_neg (by decide), if_neg (by decide)]
  exact hM.1
end OPP
