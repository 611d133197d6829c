/-! THE OPERATIONS: cut, split, rounds, trier -/
def SpOk (n : Nat) (x : Int32) (h : Nat) : Prop := x = nI h ∧ h ≤ 100000 ∧ 1 ≤ n
def RoOk (f n : Nat) (x : Int32) (r : Nat) : Prop := x = nI r ∧ 1 ≤ r ∧ r ≤ 8 ∧ f ≠ 1 ∧ 1 ≤ n
theorem noSp {n : Nat} {x : Int32} (h : ∀ p, ¬ SpOk n x p) : x < 0 ∨ nI 100000 < x ∨ n = 0 := by
  by_cases e : n = 0
  · exact Or.inr (Or.inr e)
  · rcases nI_ix x (n := 100001) (by decide) with ⟨j, hj, hx⟩ | hx | hx
    · exact absurd ⟨hx, by omega, by omega⟩ (h j)
    · exact Or.inl hx
    · exact Or.inr (Or.inl (Int32.lt_of_lt_of_le (by decide) hx))
theorem noRo {f n : Nat} {x : Int32} (h : ∀ p, ¬ RoOk f n x p) : x < nI 1 ∨ nI 8 < x ∨ f = 1 ∨ n = 0 := by
  by_cases e : n = 0
  · exact Or.inr (Or.inr (Or.inr e))
  · by_cases e1 : f = 1
    · exact Or.inr (Or.inr (Or.inl e1))
    · rcases nI_ix x (n := 9) (by decide) with ⟨j, hj, hx⟩ | hx | hx
      · by_cases z : 1 ≤ j
        · exact absurd ⟨hx, z, by omega, e1, by omega⟩ (h j)
        · left
          rw [hx, show j = 0 by omega]
          decide
      · left
        exact Int32.lt_trans hx (by decide)
      · exact Or.inr (Or.inl (Int32.lt_of_lt_of_le (by decide) hx))
section OPQ
variable {d f L c s n m K dr ps sm le cn tn : Nat} {t C T : Nat → Nat} {V : Nat → Nat → Nat} {R : Nat → xSt} {Q : Option Value × xS → Prop} {P : List Nat × Nat × Nat} {I : Nat → Nat → Int32} {J : Nat → Nat → Int64}
theorem p_cutC (hf : f < 3) (hL : L < 2147483648) (hN : I 5 3 = nI n) (hn : n ≤ 300) (hK : CK I cn C) (hS : CS n cn C) {x : Int32} (k1 : ∀ p I', CutOk n cn C x p → xag I I' [34, 35] → (∀ q, q ≠ 2 → I' 34 q = I 34 q) → CK I' (cn + 1) (insC C (cki C cn p) p) → Q (some (.int (nI (cn + 1))), (xK f L, P, I', J, xFr f c s))) (k0 : (∀ p, ¬ CutOk n cn C x p) → Q (some (.int (-1)), (xK f L, P, I, J, xFr f c s))) : Wp (d + 1) 87 0 [some (.ref 4), some (.int x)] [] (xK f L, P, I, J, xFr f c s) Q := by
  refine wX10_cut_0 rfl rfl rfl (p_addCut hf hL hN hn hK hS (fun p I1 a1 a2 a3 a4 => ⟨_, _, _, rfl, br2 (by decide) ?_⟩) (fun z => ⟨_, _, _, rfl, br1 rfl (k0 z)⟩))
  all_goals try dsimp only
  rw [a4.1]
  exact k1 p I1 a1 a2 a3 a4
theorem p_splitC0 (hf : f < 3) (hN : I 5 3 = nI n) (hn : n ≤ 300) {x : Int32} (ho : ∀ h, ¬ SpOk n x h) (k : Q (some (.long (-1)), (xK f L, P, I, J, xFr f c s))) : Wp (d + 6) 88 0 [some (.ref 4), some (.int x)] [] (xK f L, P, I, J, xFr f c s) Q := by
  refine wX10_split_0 rfl rfl rfl rfl rfl ⟨fun _ => k, fun h1 => ⟨fun _ => k, fun h2 => ?_⟩⟩
  rcases noSp ho with z | z | z
  · exact absurd z h1
  · exact absurd z h2
  · exact bn2 (by rw [hN, z]; rfl) k
theorem p_splitC1 (hf : f < 3) (hL : L < 2147483648) (hC : CT I n t f) (hK : CK I cn C) (hS : CS n cn C) {x : Int32} {h : Nat} (ho : SpOk n x h) (k : ∀ I' J', xag I I' [34, 36, 38, 39, 40] → (∀ q, q ≠ 4 → I' 34 q = I 34 q) → I' 34 4 = nI (tcn (sgp (bcs t C cn n h) cn) cn) → (∀ i, i < tcn (sgp (bcs t C cn n h) cn) cn → I' 36 i = nI (tkl (sgp (bcs t C cn n h) cn) C cn i)) → (∀ a, a ≠ 37 → J' a = J a) → Q (some (.long (lN (TT (bcs t C cn n h) cn 0).1)), (xK f L, P, I', J', xFr f c s))) : Wp (d + 6) 88 0 [some (.ref 4), some (.int x)] [] (xK f L, P, I, J, xFr f c s) Q := by
  obtain ⟨hx, hh, hn0⟩ := ho
  subst hx
  have hn := hC.2.2.2.1
  refine wX10_split_0 rfl rfl rfl rfl rfl (br2 (nI_pos (by omega)) (br2 (by first | (rw [nI_ltI (by omega) (by omega)]; omega) | (rw [nI_leI (by omega) (by omega)]; omega) | (rw [nI_eq (by omega) (by omega)]; omega) | (rw [nI_e0 (by omega)]; omega) | (rw [nI_le0 (by omega)]; omega)) (bn1 (by rw [hC.2.2.1, nI_e0 (by omega)]; omega) ?_)))
  exact p_divide hf hL hC hn0 hK hS hh (fun I1 J1 a1 a2 a3 a4 a5 => ⟨_, _, _, rfl, k I1 J1 a1 a2 a3 a4 a5⟩)
theorem p_splitM0 (hf : f < 3) (hT : MT I n t) {x : Int32} (ho : ∀ h, ¬ SpOk n x h) (k : Q (some (.long (-1)), (xK f L, P, xup I 59 0 (nI 0), J, xFr f c s))) : Wp (d + 4) 159 0 [some (.ref 59), some (.int x), none, none, none, none, none, none] [] (xK f L, P, I, J, xFr f c s) Q := by
  refine wX11_split_0 rfl ⟨fun _ => k, fun h1 => ⟨fun _ => k, fun h2 => ?_⟩⟩
  rcases noSp ho with z | z | z
  · exact absurd z h1
  · exact absurd z h2
  · exact bn2 (by rw [(xup0_MT hT).1, z]; rfl) k
theorem p_roundsC0 (hf : f < 3) (h4 : I 4 0 = nI f) (hN : I 5 3 = nI n) {x : Int32} (ho : ∀ h, ¬ RoOk f n x h) (k : Q (some (.long (-1)), (xK f L, P, I, J, xFr f c s))) : Wp (d + 7) 84 0 [some (.ref 4), some (.int x), none, none, none, none, none] [] (xK f L, P, I, J, xFr f c s) Q := by
  refine wY10_rounds_0 rfl rfl rfl ⟨fun _ => k, fun h1 => ⟨fun _ => k, fun h2 => ⟨fun _ => k, fun h3 => ?_⟩⟩⟩
  rcases noRo ho with z | z | z | z
  · exact absurd z h1
  · exact absurd z h2
  · rw [h4, z] at h3
    exact absurd rfl h3
  · exact bn2 (by rw [hN, z]; rfl) k
theorem p_roundsM0 (hf : f < 3) (hM : MV I f V) (hT : MT I n t) {x : Int32} (ho : ∀ h, ¬ RoOk f n x h) (k : Q (some (.long (-1)), (xK f L, P, xup I 59 0 (nI 0), J, xFr f c s))) : Wp (d + 7) 145 0 [some (.ref 59), some (.int x), none, none, none, none, none, none, none, none, none, none] [] (xK f L, P, I, J, xFr f c s) Q := by
  refine wX11_rounds_0 rfl ⟨fun _ => k, fun h1 => ⟨fun _ => k, fun h2 => ⟨fun _ => k, fun h3 => ?_⟩⟩⟩
  rcases noRo ho with z | z | z | z
  · exact absurd z h1
  · exact absurd z h2
  · rw [(xup0_MV hM).1, z] at h3
    exact absurd rfl h3
  · exact bn2 (by rw [(xup0_MT hT).1, z]; rfl) k
theorem p_roundsC1 (hf : f < 3) (hL : L < 2147483648) (hcs : (c = 41 ∧ s = 47) ∨ (c = 47 ∧ s = 41)) (hC : CI I f n t V) (hK : I 4 10 = nI K) (hK1 : 1 ≤ K) (hK2 : K ≤ 40) {x : Int32} {r : Nat} (ho : RoOk f n x r) (k : ∀ I' J' c' s' V1 D S, ((c' = 41 ∧ s' = 47) ∨ (c' = 47 ∧ s' = 41)) → xag I I' rS → (∀ q, q ≠ 9 → q ≠ 11 → I' 4 q = I 4 q) → I' 4 9 = nI 1 → I' 4 11 = nI D → RN f t n K V r V1 D S → CI I' f n t S.2.1 → CP I' J' f c' n t S.2.2.1 S.2.2.2.1 S.2.2.2.2.1 S.2.2.2.2.2 → (∀ a, a ∉ [20, 28, 32, 41, 47] → J' a = J a) → Q (some (.long (lN S.1)), (xK f L, P, I', J', xFr f c' s'))) : Wp (d + 7) 84 0 [some (.ref 4), some (.int x), none, none, none, none, none] [] (xK f L, P, I, J, xFr f c s) Q := by
  obtain ⟨hx, h1, h8, hf1, hn0⟩ := ho
  subst hx
  have hn := hC.1.2.2.2.1
  refine wY10_rounds_0 rfl rfl rfl (br2 (by first | (rw [nI_ltI (by omega) (by omega)]; omega) | (rw [nI_leI (by omega) (by omega)]; omega) | (rw [nI_eq (by omega) (by omega)]; omega) | (rw [nI_e0 (by omega)]; omega) | (rw [nI_le0 (by omega)]; omega)) (br2 (by first | (rw [nI_ltI (by omega) (by omega)]; omega) | (rw [nI_leI (by omega) (by omega)]; omega) | (rw [nI_eq (by omega) (by omega)]; omega) | (rw [nI_e0 (by omega)]; omega) | (rw [nI_le0 (by omega)]; omega)) (br2 (by rw [hC.2.2.2.1, nI_eq (by omega) (by omega)]; exact hf1) (bn1 (by rw [hC.1.2.2.1, nI_e0 (by omega)]; omega) ?_))))
  exact p_roundsC hf hf1 hL hcs hC hK hK1 hK2 h1 h8 k
theorem p_roundsM1 (hf : f < 3) (hL : L < 2147483648) (hK : I 59 5 = nI K) (hK1 : 1 ≤ K) (hK2 : K ≤ 40) (hM : MV I f V) (hT : MT I n t) {x : Int32} {r : Nat} (ho : RoOk f n x r) (k : ∀ I' J' V1 D S, xag I I' mS → (∀ q, q ≠ 0 → q ≠ 10 → q ≠ 11 → q ≠ 17 → q ≠ 18 → I' 59 q = I 59 q) → RN f t n K V r V1 D S → MV I' f S.2.1 → MA I' S.2.2.1 S.2.2.2.1 → I' 59 10 = nI 1 → I' 59 17 = nI S.2.2.2.2.2 → I' 59 18 = nI D → J' 59 16 = lN S.2.2.2.2.1 → (∀ a, a ≠ 59 → J' a = J a) → Q (some (.long (lN S.1)), (xK f L, P, I', J', xFr f c s))) : Wp (d + 7) 145 0 [some (.ref 59), some (.int x), none, none, none, none, none, none, none, none, none, none] [] (xK f L, P, I, J, xFr f c s) Q := by
  obtain ⟨hx, h1, h8, hf1, hn0⟩ := ho
  subst hx
  have hn := hT.2.1
  have hM0 := xup0_MV (v := nI 0) hM
  have hT0 := xup0_MT (v := nI 0) hT
  refine wX11_rounds_0 rfl (br2 (by first | (rw [nI_ltI (by omega) (by omega)]; omega) | (rw [nI_leI (by omega) (by omega)]; omega) | (rw [nI_eq (by omega) (by omega)]; omega) | (rw [nI_e0 (by omega)]; omega) | (rw [nI_le0 (by omega)]; omega)) (br2 (by first | (rw [nI_ltI (by omega) (by omega)]; omega) | (rw [nI_leI (by omega) (by omega)]; omega) | (rw [nI_eq (by omega) (by omega)]; omega) | (rw [nI_e0 (by omega)]; omega) | (rw [nI_le0 (by omega)]; omega)) (br2 (by rw [hM0.1, nI_eq (by omega) (by omega)]; exact hf1) (bn1 (by rw [hT0.1, nI_e0 (by omega)]; omega) ?_))))
  refine p_roundsM hf hf1 hL (by rw [xup_at, if_neg (by decide)]; exact hK) hK1 hK2 hM0 hT0 h1 h8 (fun I1 J1 V1 D S a1 a2 a3 a4 a5 a6 a7 a8 a9 a10 => k I1 J1 V1 D S ?_ (fun q z0 z1 z2 z3 z4 => by rw [a2 q z1 z2 z3 z4, xup_at, if_neg z0]) a3 a4 a5 a6 a7 a8 a9 a10)
  exact xag.tr (xag.rfl.up (by unfold mS; simp)) a1 (fun a z => z)
theorem p_trierM1 (hf : f < 3) (hL : L < 2147483648) (hT : MT I n t) {x : Int32} {i : Nat} (ho : IxOk n x i) (k : Q (some (.int (nI (t i))), (xK f L, P, xup I 59 0 (nI 0), J, xFr f c s))) : Wp d 163 0 [some (.ref 59), some (.int x)] [] (xK f L, P, I, J, xFr f c s) Q := by
  obtain ⟨hx, hi⟩ := ho
  subst hx
  have hn := hT.2.1
  refine wX11_trier_0 (xK_lt hf hL) rfl rfl rfl (br2 (nI_pos (by omega)) (br1 (by rw [hT.1]; first | (rw [nI_ltI (by omega) (by omega)]; omega) | (rw [nI_leI (by omega) (by omega)]; omega) | (rw [nI_eq (by omega) (by omega)]; omega) | (rw [nI_e0 (by omega)]; omega) | (rw [nI_le0 (by omega)]; omega)) ?_))
  rw [show xup I 59 0 (nI 0) 59 0 = nI 0 by rw [xup_at, if_pos rfl]]
  refine br1 (by decide) ⟨i, rfl, by omega, ?_⟩
  rw [xup_ne _ _ _ (by decide), (hT.2.2 i hi).1]
  exact k
theorem p_trierM0 (hf : f < 3) (hL : L < 2147483648) (hT : MT I n t) {x : Int32} (ho : ∀ i, ¬ IxOk n x i) (k : Q (some (.int (nI 0)), (xK f L, P, xup I 59 0 (nI 1), J, xFr f c s))) : Wp d 163 0 [some (.ref 59), some (.int x)] [] (xK f L, P, I, J, xFr f c s) Q := by
  have hn := hT.2.1
  have e0 : xup I 59 0 (nI 1) 59 0 = nI 1 := by rw [xup_at, if_pos rfl]
  refine wX11_trier_0 (xK_lt hf hL) rfl rfl rfl ⟨fun _ => by rw [e0]; exact br2 (by decide) k, fun h1 => ?_⟩
  rw [hT.1]
  rcases noIx (by omega) ho with z | z
  · exact absurd z h1
  · refine br2 (fun w => Int32.lt_irrefl (Int32.lt_of_lt_of_le w z)) ?_
    rw [e0]
    exact br2 (by decide) k
theorem p_thrownM (hf : f < 3) (k : Q (some (.int (I 59 0)), (xK f L, P, I, J, xFr f c s))) : Wp d 97 0 [some (.ref 59)] [] (xK f L, P, I, J, xFr f c s) Q := wX11_thrown_0 rfl k
end OPQ
/-! THE STATE OF BOTH -/
section XST
variable (f c n : Nat) (t : Nat → Nat) (V : Nat → Nat → Nat) (kp dr ps m : Nat) (R : Nat → xSt) (sm le cn : Nat) (C : Nat → Nat) (tn : Nat) (T : Nat → Nat) (I : Nat → Nat → Int32) (J : Nat → Nat → Int64)
def XA : Prop := CI I f n t V ∧ (I 4 9 = nI ps ∧ I 4 10 = nI kp ∧ I 4 11 = nI dr) ∧ (ps = 1 → CP I J f c n t m R sm le) ∧ CK I cn C ∧ I 34 4 = nI tn ∧ ∀ i, i < tn → I 36 i = nI (T i)
def XB : Prop := MV I f V ∧ MT I n t ∧ (I 59 5 = nI kp ∧ I 59 10 = nI ps ∧ I 59 18 = nI dr) ∧ (ps = 1 → MA I m R ∧ J 59 16 = lN sm ∧ I 59 17 = nI le) ∧ MK I cn C ∧ I 59 9 = nI tn ∧ ∀ i, i < tn → I 68 i = nI (T i)
def XD : Prop := ps < 2 ∧ (1 ≤ kp ∧ kp ≤ 40) ∧ CS n cn C ∧ tn ≤ 12 ∧ (ps = 1 → VS t f n m R) ∧ le < 2
end XST
def XI (f c : Nat) (I : Nat → Nat → Int32) (J : Nat → Nat → Int64) : Prop := ∃ n t V kp dr ps m R sm le cn C tn T, XA f c n t V kp dr ps m R sm le cn C tn T I J ∧ XB f n t V kp dr ps m R sm le cn C tn T I J ∧ XD f n t kp ps m R le cn C tn
section XST2
variable {f c n : Nat} {t : Nat → Nat} {V : Nat → Nat → Nat} {kp dr ps m : Nat} {R : Nat → xSt} {sm le cn : Nat} {C : Nat → Nat} {tn : Nat} {T : Nat → Nat} {I I' : Nat → Nat → Int32} {J J' : Nat → Nat → Int64}
theorem XA.ml (hp : c = 41 ∨ c = 47) (h : XA f c n t V kp dr ps m R sm le cn C tn T I J) (ha : xag I I' mL) (hj : ∀ a, a < 59 → J' a = J a) : XA f c n t V kp dr ps m R sm le cn C tn T I' J' := by
  refine ⟨h.1.ag ha (by decide) (by rw [ha 4 (by decide)]) (fun z => by rw [ha 29 (by decide)]; exact h.1.2.2.2.2.2 z), by rw [ha 4 (by decide)]; exact h.2.1, fun z => (h.2.2.1 z).ag ha (by rcases hp with rfl | rfl <;> decide) (hj c (by omega)), h.2.2.2.1.ag ha (by decide), by rw [ha 34 (by decide)]; exact h.2.2.2.2.1, by rw [ha 36 (by decide)]; exact h.2.2.2.2.2⟩
theorem XB.cl (h : XB f n t V kp dr ps m R sm le cn C tn T I J) (ha : xag I I' cL) (hj : ∀ a, 59 ≤ a → J' a = J a) : XB f n t V kp dr ps m R sm le cn C tn T I' J' := by
  refine ⟨h.1.ag ha (by decide), h.2.1.ag ha (by decide) (by decide), by rw [ha 59 (by decide)]; exact h.2.2.1, fun z => ⟨(h.2.2.2.1 z).1.ag ha (by decide), by rw [hj 59 (by omega)]; exact (h.2.2.2.1 z).2.1, by rw [ha 59 (by decide)]; exact (h.2.2.2.1 z).2.2⟩, h.2.2.2.2.1.ag ha (by decide), by rw [ha 59 (by decide)]; exact h.2.2.2.2.2.1, by rw [ha 68 (by decide)]; exact h.2.2.2.2.2.2⟩
/-- the mark of what was thrown is no part of it -/
theorem XB.x0 {v : Int32} (h : XB f n t V kp dr ps m R sm le cn C tn T I J) : XB f n t V kp dr ps m R sm le cn C tn T (xup I 59 0 v) J := by
  have h0 : ∀ q, q ≠ 0 → xup I 59 0 v 59 q = I 59 q := fun q hq => by rw [xup_at, if_neg hq]
  refine ⟨xup0_MV h.1, xup0_MT h.2.1, ?_, fun z => ⟨⟨?_, (h.2.2.2.1 z).1.2.1, ?_⟩, (h.2.2.2.1 z).2.1, ?_⟩, ⟨?_, ?_⟩, ?_, ?_⟩
  · rw [h0 5 (by decide), h0 10 (by decide), h0 18 (by decide)]
    exact h.2.2.1
  · rw [h0 11 (by decide)]
    exact (h.2.2.2.1 z).1.1
  · rw [xup_ne _ _ _ (by decide), xup_ne _ _ _ (by decide), xup_ne _ _ _ (by decide), xup_ne _ _ _ (by decide)]
    exact (h.2.2.2.1 z).1.2.2
  · rw [h0 17 (by decide)]
    exact (h.2.2.2.1 z).2.2
  · rw [h0 7 (by decide)]
    exact h.2.2.2.2.1.1
  · rw [xup_ne _ _ _ (by decide)]
    exact h.2.2.2.2.1.2
  · rw [h0 9 (by decide)]
    exact h.2.2.2.2.2.1
  · rw [xup_ne _ _ _ (by decide)]
    exact h.2.2.2.2.2.2
/-- rows of the reference that are no part of it -/
theorem XB.lay (h : XB f n t V kp dr ps m R sm le cn C tn T I J) (ha : xag I I' [79, 80, 105]) : XB f n t V kp dr ps m R sm le cn C tn T I' J := by
  refine ⟨h.1.ag ha (by decide), h.2.1.ag ha (by decide) (by decide), by rw [ha 59 (by decide)]; exact h.2.2.1, fun z => ⟨(h.2.2.2.1 z).1.ag ha (by decide), (h.2.2.2.1 z).2.1, by rw [ha 59 (by decide)]; exact (h.2.2.2.1 z).2.2⟩, h.2.2.2.2.1.ag ha (by decide), by rw [ha 59 (by decide)]; exact h.2.2.2.2.2.1, by rw [ha 68 (by decide)]; exact h.2.2.2.2.2.2⟩
end XST2
theorem CS.mono {n n' cn : Nat} {C : Nat → Nat} (h : CS n cn C) (hn : n ≤ n') : CS n' cn C := ⟨h.1, fun j hj => ⟨(h.2.1 j hj).1, Nat.lt_of_lt_of_le (h.2.1 j hj).2 hn⟩, h.2.2⟩
