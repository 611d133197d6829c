/-! THE SEARCH OF EACH FORM, as one: in the class and in the reference -/
def bM (f : Nat) (V : Nat → Nat → Nat) (t : Nat → Nat) (n K m : Nat) : Prop := if f = 0 then TM (dp0 V t n n) n m else if f = 1 then TM1 (dp1 t n n) n m else TM2 (wr V t n K n) n m
def bR (f : Nat) (V : Nat → Nat → Nat) (t : Nat → Nat) (n K m : Nat) : Nat → xSt := if f = 0 then (fun i => T0 t (dp0 V t n n) n (m - 1 - i)) else if f = 1 then (fun i => T1 t (dp1 t n n) n (m - 1 - i)) else (fun i => T2 (wr V t n K n) n (m - 1 - i))
def bD (f : Nat) (V : Nat → Nat → Nat) (t : Nat → Nat) (n K : Nat) : Nat := if f = 2 then dcn (wr V t n K n) n else 0
theorem bM.uniq {f : Nat} {V : Nat → Nat → Nat} {t : Nat → Nat} {n K m m' : Nat} (h : bM f V t n K m) (h' : bM f V t n K m') : m = m' := by
  unfold bM at h h'
  by_cases e0 : f = 0
  · rw [if_pos e0] at h h'
    exact h.uniq h'
  · rw [if_neg e0] at h h'
    by_cases e1 : f = 1
    · rw [if_pos e1] at h h'
      exact h.uniq h'
    · rw [if_neg e1] at h h'
      exact h.uniq h'
theorem bD_lt {f : Nat} {V : Nat → Nat → Nat} {t : Nat → Nat} {n K : Nat} (hn : n ≤ 300) : bD f V t n K ≤ 300 := by
  unfold bD
  split
  · have := dcn_le (wr V t n K n) n
    omega
  · omega
theorem bM.VS {f : Nat} {V : Nat → Nat → Nat} {t : Nat → Nat} {n K m : Nat} (hf : f < 3) (hK : 1 ≤ K) (hB : VB V) (hn : n ≤ 300) (ht : ∀ j, j < n → t j < 256) (h : bM f V t n K m) : VS t f n m (bR f V t n K m) := by
  rcases (by omega : f = 0 ∨ f = 1 ∨ f = 2) with rfl | rfl | rfl
  · exact (slot_ok hB hn ht h).1
  · exact (oct_ok (V := V) hn h).1
  · exact (wide_ok hK hB hn ht h).1
def CI (I : Nat → Nat → Int32) (f n : Nat) (t : Nat → Nat) (V : Nat → Nat → Nat) : Prop := CT I n t f ∧ CC I f V ∧ SP I f ∧ I 4 0 = nI f ∧ (f = 1 → LC I) ∧ (f = 2 → I 29 0 = nI 0)
def CP (I : Nat → Nat → Int32) (J : Nat → Nat → Int64) (f p n : Nat) (t : Nat → Nat) (m : Nat) (R : Nat → xSt) (sm le : Nat) : Prop := PA I p m R ∧ VS t f n m R ∧ J p 6 = lN sm ∧ I p 7 = nI le ∧ TO I p n t
theorem CI.ag {I I1 : Nat → Nat → Int32} {S : List Nat} {f n : Nat} {t : Nat → Nat} {V : Nat → Nat → Nat} (h : CI I f n t V) (ha : xag I I1 S) (h1 : (5 ∉ S ∧ 6 ∉ S ∧ 7 ∉ S ∧ 8 ∉ S ∧ 9 ∉ S) ∧ (1 ∉ S ∧ 2 ∉ S ∧ 3 ∉ S ∧ 10 ∉ S ∧ 11 ∉ S) ∧ 33 ∉ S ∧ 27 ∉ S) (h4 : I1 4 0 = I 4 0) (h29 : f = 2 → I1 29 0 = nI 0) : CI I1 f n t V := by
  refine ⟨h.1.ag ha h1.1.1 h1.1.2.1 h1.1.2.2.1 h1.1.2.2.2.1 h1.1.2.2.2.2, h.2.1.ag ha h1.2.1, ?_, by rw [h4]; exact h.2.2.2.1, fun z => (h.2.2.2.2.1 z).ag ha h1.2.2.2, h29⟩
  unfold SP
  rw [ha 33 h1.2.2.1]
  exact h.2.2.1
section BST
variable {d f L c s n K p m : Nat} {t : Nat → Nat} {V : Nat → Nat → Nat} {Q : Option Value × xS → Prop} {P : List Nat × Nat × Nat} {I : Nat → Nat → Int32} {J : Nat → Nat → Int64} {R : Nat → xSt}
/-- what a parse costs, in any form -/
theorem p_costC (hf : f < 3) (hL : L < 2147483648) (hp : p = 41 ∨ p = 47) (hC : CI I f n t V) (h0 : PA I p m R) (hv : VS t f n m R) {j : Nat} (hj : xtg 2000 (xK f L 20).1 = some j) (k : Q (some (.long (lN (allc V f t R m))), (xK f L, P, I, J, xFr f c s))) : Wp (d + 4) j 0 (xent (xnl j) [.ref 20, .ref p]) [] (xK f L, P, I, J, xFr f c s) Q := by
  rcases (by omega : f = 0 ∨ f = 1 ∨ f = 2) with rfl | rfl | rfl
  · have e : j = 26 := (Option.some.inj hj).symm
    subst e
    exact p_costOf (Or.inl rfl) hL hp hC.2.1 hC.1 h0 hv k
  · have e : j = 46 := (Option.some.inj hj).symm
    subst e
    exact p_costOf1 hL hp (hC.2.2.2.2.1 rfl) hC.1.2.2.2.1 h0 hv k
  · have e : j = 26 := (Option.some.inj hj).symm
    subst e
    exact p_costOf (Or.inr rfl) hL hp hC.2.1 hC.1 h0 hv k
theorem p_bestC (hf : f < 3) (hL : L < 2147483648) (hp : p = 41 ∨ p = 47) (hC : CI I f n t V) (hK : I 4 10 = nI K) (hK1 : 1 ≤ K) (hK2 : K ≤ 40) (k : ∀ I' J' m, xag I I' [4, 13, 14, 20, 21, 22, 23, 24, 25, 26, 29, 30, 31, p, p + 1, p + 2, p + 3, p + 4, p + 5] → (∀ q, q ≠ 11 → I' 4 q = I 4 q) → I' 4 11 = nI (bD f V t n K) → CI I' f n t V → (∀ a, a ≠ 20 → a ≠ 28 → a ≠ 32 → a ≠ p → J' a = J a) → bM f V t n K m → CP I' J' f p n t m (bR f V t n K m) (allc V f t (bR f V t n K m) m) (if bD f V t n K = 0 then 1 else 0) → Q (none, (xK f L, P, I', J', xFr f c s))) : Wp (d + 6) 92 0 [some (.ref 4), some (.ref p)] [] (xK f L, P, I, J, xFr f c s) Q := by
  have hn := hC.1.2.2.2.1
  have ht : ∀ j, j < n → t j < 256 := fun j hj => (hC.1.2.2.2.2.1 j hj).2
  have hB := hC.2.1.2.2.2
  have hD := bD_lt (f := f) (V := V) (t := t) (K := K) hn
  have hpS : (5 ∉ [4, 13, 14, 20, 21, 22, 23, 24, 25, 26, 29, 30, 31, p, p + 1, p + 2, p + 3, p + 4] ∧ 6 ∉ [4, 13, 14, 20, 21, 22, 23, 24, 25, 26, 29, 30, 31, p, p + 1, p + 2, p + 3, p + 4] ∧ 7 ∉ [4, 13, 14, 20, 21, 22, 23, 24, 25, 26, 29, 30, 31, p, p + 1, p + 2, p + 3, p + 4] ∧ 8 ∉ [4, 13, 14, 20, 21, 22, 23, 24, 25, 26, 29, 30, 31, p, p + 1, p + 2, p + 3, p + 4] ∧ 9 ∉ [4, 13, 14, 20, 21, 22, 23, 24, 25, 26, 29, 30, 31, p, p + 1, p + 2, p + 3, p + 4]) ∧ (1 ∉ [4, 13, 14, 20, 21, 22, 23, 24, 25, 26, 29, 30, 31, p, p + 1, p + 2, p + 3, p + 4] ∧ 2 ∉ [4, 13, 14, 20, 21, 22, 23, 24, 25, 26, 29, 30, 31, p, p + 1, p + 2, p + 3, p + 4] ∧ 3 ∉ [4, 13, 14, 20, 21, 22, 23, 24, 25, 26, 29, 30, 31, p, p + 1, p + 2, p + 3, p + 4] ∧ 10 ∉ [4, 13, 14, 20, 21, 22, 23, 24, 25, 26, 29, 30, 31, p, p + 1, p + 2, p + 3, p + 4] ∧ 11 ∉ [4, 13, 14, 20, 21, 22, 23, 24, 25, 26, 29, 30, 31, p, p + 1, p + 2, p + 3, p + 4]) ∧ 33 ∉ [4, 13, 14, 20, 21, 22, 23, 24, 25, 26, 29, 30, 31, p, p + 1, p + 2, p + 3, p + 4] ∧ 27 ∉ [4, 13, 14, 20, 21, 22, 23, 24, 25, 26, 29, 30, 31, p, p + 1, p + 2, p + 3, p + 4] := by
    rcases hp with rfl | rfl <;> decide
  have hp5 : 4 ∉ [p, p + 5] ∧ 29 ∉ [p, p + 5] ∧ ((5 ∉ [p, p + 5] ∧ 6 ∉ [p, p + 5] ∧ 7 ∉ [p, p + 5] ∧ 8 ∉ [p, p + 5] ∧ 9 ∉ [p, p + 5]) ∧ (1 ∉ [p, p + 5] ∧ 2 ∉ [p, p + 5] ∧ 3 ∉ [p, p + 5] ∧ 10 ∉ [p, p + 5] ∧ 11 ∉ [p, p + 5]) ∧ 33 ∉ [p, p + 5] ∧ 27 ∉ [p, p + 5]) := by
    rcases hp with rfl | rfl <;> decide
  have hp4 : 4 ≠ p ∧ 29 ≠ 4 := by omega
  -- behind the search
  have tail : ∀ I6 J6 m j, xtg 2000 (xK f L 20).1 = some j → xag I I6 [13, 14, 20, 21, 22, 23, 24, 25, 26, 29, 30, 31, p, p + 1, p + 2, p + 3, p + 4] → (f = 2 → I6 29 0 = nI 0) → (∀ a, a ≠ 20 → a ≠ 28 → a ≠ 32 → J6 a = J a) → bM f V t n K m → PA I6 p m (bR f V t n K m) → Wp (d + 5) j 0 (xent (xnl j) [.ref 20, .ref p]) [] (xK f L, P, xup I6 4 11 (nI (bD f V t n K)), J6, xFr f c s) (xrJ (xK f L) P (xFr f c s) (fun v12 I13 J14 => ((¬ (I13 4 11) = 0 → Wp (d + 5) 55 0 [some (.ref p), some (.ref 5), some (.long v12), none, some (.int (nI 0)), none, none] [] (xK f L, P, I13, J14, xFr f c s) (xrV (xK f L) P (xFr f c s) (fun I15 J16 => Q (none, (xK f L, P, I15, J16, xFr f c s))))) ∧ ((I13 4 11) = 0 → Wp (d + 5) 55 0 [some (.ref p), some (.ref 5), some (.long v12), none, some (.int (nI 1)), none, none] [] (xK f L, P, I13, J14, xFr f c s) (xrV (xK f L) P (xFr f c s) (fun I17 J18 => Q (none, (xK f L, P, I17, J18, xFr f c s)))))))) := by
    intro I6 J6 m j hj ha h29 hJ hbm hPA
    have hv := hbm.VS hf hK1 hB hn ht
    have ha2 : xag I (xup I6 4 11 (nI (bD f V t n K))) [4, 13, 14, 20, 21, 22, 23, 24, 25, 26, 29, 30, 31, p, p + 1, p + 2, p + 3, p + 4] := xag.up (ha.wd (fun a z => List.mem_cons_of_mem _ z)) (by simp)
    have h4 : ∀ q, q ≠ 11 → xup I6 4 11 (nI (bD f V t n K)) 4 q = I 4 q := fun q hq => by
      rw [xup_at, if_neg hq, ha 4 (by rcases hp with rfl | rfl <;> decide)]
    have hC2 : CI (xup I6 4 11 (nI (bD f V t n K))) f n t V := hC.ag ha2 hpS (h4 0 (by decide)) (fun z => by rw [xup_ne _ _ _ (by decide)]; exact h29 z)
    have hPA2 : PA (xup I6 4 11 (nI (bD f V t n K))) p m (bR f V t n K m) := hPA.ag (S := [4]) (xag.rfl.up (by simp)) (by rcases hp with rfl | rfl <;> decide)
    have done : ∀ (x : Int32) , (x = 0 ∨ x = 1) → x = nI (if bD f V t n K = 0 then 1 else 0) → Wp (d + 5) 55 0 [some (.ref p), some (.ref 5), some (.long (lN (allc V f t (bR f V t n K m) m))), none, some (.int x), none, none] [] (xK f L, P, xup I6 4 11 (nI (bD f V t n K)), J6, xFr f c s) (xrV (xK f L) P (xFr f c s) (fun I15 J16 => Q (none, (xK f L, P, I15, J16, xFr f c s)))) := by
      intro x hx hxe
      refine p_finish hf hL hp hC2.1 hPA2 hv hx (fun I7 b1 b2 b3 b4 => ⟨_, _, rfl, ?_⟩)
      all_goals try dsimp only
      have hp7 : xup I6 4 11 (nI (bD f V t n K)) 4 = I7 4 := (b1 4 hp5.1).symm
      refine k I7 _ m (fun a haa => ?_) (fun q hq => by rw [b1 4 hp5.1]; exact h4 q hq) (by rw [b1 4 hp5.1, xup_at, if_pos rfl]) (hC2.ag b1 hp5.2.2 (by rw [b1 4 hp5.1]) (fun z => by rw [b1 29 hp5.2.1, xup_ne _ _ _ (by decide)]; exact h29 z)) (fun a z1 z2 z3 z4 => by rw [xup_ne _ _ _ z4]; exact hJ a z1 z2 z3) hbm ⟨?_, hv, by rw [xup_at, if_pos rfl], by rw [b3, hxe], b4⟩
      · rw [b1 a (fun z => haa (by simp at z ⊢; omega))]
        exact ha2 a (fun z => haa (by simp at z ⊢; omega))
      · refine ⟨by rw [b2 5 (by decide)]; exact hPA2.1, hPA2.2.1, fun i hi => ?_⟩
        have := hPA2.2.2 i hi
        rw [b1 (p + 4) (by simp), b1 (p + 1) (by simp), b1 (p + 2) (by simp), b1 (p + 3) (by simp)]
        exact this
    refine p_costC (d := d + 1) hf hL hp hC2 hPA2 hv hj ⟨_, _, _, rfl, ?_⟩
    all_goals try dsimp only
    rw [show xup I6 4 11 (nI (bD f V t n K)) 4 11 = nI (bD f V t n K) by rw [xup_at, if_pos rfl]]
    refine brd (nI_e0 (by omega)) (fun h => done (nI 0) (Or.inl rfl) (by rw [if_neg h])) (fun h => done (nI 1) (Or.inr rfl) (by rw [if_pos h]))
  rcases (by omega : f = 0 ∨ f = 1 ∨ f = 2) with rfl | rfl | rfl
  · refine wX10_findBest_0 (c2 := 58) (c9 := 26) rfl rfl rfl rfl (by decide) rfl rfl (by decide) (pcK hp) ?_
    refine Wp.wk (L := [some (.ref 20), some (.ref p), none, none, none, none]) ⟨Or.inr rfl, Or.inr rfl, Or.inl rfl, Or.inr rfl, Or.inr rfl, Or.inr rfl, trivial⟩ ?_
    refine p_findBest0 hL hp hC.2.1 hC.1 (fun I6 m a1 a2 a3 => ⟨_, _, _, rfl, ?_⟩)
    all_goals try dsimp only
    exact tail I6 J m 26 rfl (a1.wd (fun a z => by simp at z ⊢; omega)) (fun z => by cases z) (fun _ _ _ _ => rfl) a2 a3
  · refine wX10_findBest_0 (c2 := 42) (c9 := 46) rfl rfl rfl rfl (by decide) rfl rfl (by decide) (pcK hp) ?_
    refine Wp.dp (d := d + 3) (by omega) ?_
    refine Wp.wk (L := [some (.ref 20), some (.ref p), none, none, none]) ⟨Or.inr rfl, Or.inr rfl, Or.inl rfl, Or.inr rfl, Or.inr rfl, trivial⟩ ?_
    refine p_findBest1 hL hp (hC.2.2.2.2.1 rfl) hC.1 (fun I6 m a1 a2 a3 => ⟨_, _, _, rfl, ?_⟩)
    all_goals try dsimp only
    exact tail I6 J m 46 rfl (a1.wd (fun a z => by simp at z ⊢; omega)) (fun z => by cases z) (fun _ _ _ _ => rfl) a2 a3
  · refine wX10_findBest_0 (c2 := 31) (c9 := 26) rfl rfl rfl rfl (by decide) rfl rfl (by decide) (pcK hp) ?_
    rw [hK]
    refine p_findBest2 hL hp hK1 hK2 hC.2.1 hC.1 (hC.2.2.2.2.2 rfl) (fun I6 J6 m a1 a2 a3 a4 a5 => ⟨_, _, _, rfl, ?_⟩)
    all_goals try dsimp only
    exact tail I6 J6 m 26 rfl (a1.wd (fun a z => by simp at z ⊢; omega)) (fun _ => a2) a3 a4 a5
/-- and the reference's -/
theorem p_bestM (hf : f < 3) (hL : L < 2147483648) (hK : I 59 5 = nI K) (hK1 : 1 ≤ K) (hK2 : K ≤ 40) (hM : MV I f V) (hT : MT I n t) (k : ∀ I' m, BF I I' → bM f V t n K m → MA I' m (bR f V t n K m) → I' 59 17 = nI (if bD f V t n K = 0 then 1 else 0) → I' 59 18 = nI (bD f V t n K) → Q (none, (xK f L, P, I', xup J 59 16 (lN (allc V f t (bR f V t n K m) m)), xFr f c s))) : Wp (d + 6) 141 0 [some (.ref 59)] [] (xK f L, P, I, J, xFr f c s) Q := by
  have hn := hT.2.1
  have ht : ∀ j, j < n → t j < 256 := fun j hj => (hT.2.2 j hj).2
  have hB := hM.2.2
  have up : ∀ I1 I2, xag I I1 [79, 80] → BF I1 I2 → BF I I2 := fun I1 I2 g1 g2 => ⟨(g1.wd (fun a z => by simp at z ⊢; omega)).tr g2.1 (fun a z => z), fun q z1 z2 z3 => by rw [g2.2 q z1 z2 z3, g1 59 (by decide)]⟩
  rcases (by omega : f = 0 ∨ f = 1 ∨ f = 2) with rfl | rfl | rfl
  · refine wX11_best_0 rfl (p_layOut hf hL hT hM.1 (fun I1 a1 a2 => ⟨_, _, rfl, ?_⟩))
    all_goals try dsimp only
    have hM1 := hM.ag a1 (by decide)
    refine bn1 (by rw [hM1.1]; decide) (p_bestPlain0 hL hM1 (hT.ag a1 (by decide) (by decide)) a2 (fun I2 m b1 b2 b3 b4 b5 => ⟨_, _, rfl, ?_⟩))
    all_goals try dsimp only
    have := k I2 m (up I1 I2 a1 b1) b2 b3 b4 b5
    rw [show allc V 0 t (bR 0 V t n K m) m = dv 0 (dp0 V t n n n) from (slot_ok hB hn ht b2).2] at this
    exact this
  · refine wX11_best_0 rfl (p_layOut hf hL hT hM.1 (fun I1 a1 a2 => ⟨_, _, rfl, ?_⟩))
    all_goals try dsimp only
    have hM1 := hM.ag a1 (by decide)
    refine bn1 (by rw [hM1.1]; decide) (p_bestPlain1 hL hM1.1 (hT.ag a1 (by decide) (by decide)) a2 (fun I2 m b1 b2 b3 b4 b5 => ⟨_, _, rfl, ?_⟩))
    all_goals try dsimp only
    have := k I2 m (up I1 I2 a1 b1) b2 b3 b4 b5
    rw [show allc V 1 t (bR 1 V t n K m) m = fs (dp1 t n n) n + 512 from (oct_ok (V := V) hn b2).2] at this
    exact this
  · refine wX11_best_0 rfl (p_layOut hf hL hT hM.1 (fun I1 a1 a2 => ⟨_, _, rfl, ?_⟩))
    all_goals try dsimp only
    have hM1 := hM.ag a1 (by decide)
    refine bn2 (by rw [hM1.1]) (p_bestWideM hL (by rw [a1 59 (by decide)]; exact hK) hK1 hK2 hM1 (hT.ag a1 (by decide) (by decide)) a2 (fun I2 m b1 b2 b3 b4 b5 => ⟨_, _, rfl, ?_⟩))
    all_goals try dsimp only
    have := k I2 m (up I1 I2 a1 b1) b2 b3 b4 b5
    rw [show allc V 2 t (bR 2 V t n K m) m = ((wr V t n K n n).2.1 0).1 / 2 ^ 36 from (wide_ok hK1 hB hn ht b2).2] at this
    exact this
end BST
