/-! ROUNDS, in the class -/
abbrev xRd : Type := Nat × (Nat → Nat → Nat) × Nat × (Nat → xSt) × Nat × Nat
/-- after r rounds from the costs V0: the costs, the dropped places, the least so far: its cost, costs, steps, their sum and whether it was least -/
def RN (f : Nat) (t : Nat → Nat) (n K : Nat) (V0 : Nat → Nat → Nat) : Nat → (Nat → Nat → Nat) → Nat → xRd → Prop
  | 0, V, D, S => V = V0 ∧ D = 0 ∧ S = (0, V0, 0, (fun _ => (0, 0, 0, 0)), 0, 0)
  | r + 1, V, D, S => ∃ V1 D1 S1 m, RN f t n K V0 r V1 D1 S1 ∧ bM f V1 t n K m ∧ V = fV f (us f t (bR f V1 t n K m) m) V1 ∧ D = bD f V1 t n K ∧ S = if r = 0 ∨ allc V f t (bR f V1 t n K m) m < S1.1 then (allc V f t (bR f V1 t n K m) m, V, m, bR f V1 t n K m, allc V1 f t (bR f V1 t n K m) m, if D = 0 then 1 else 0) else S1
theorem RN.uniq {f : Nat} {t : Nat → Nat} {n K : Nat} {V0 : Nat → Nat → Nat} : ∀ {r : Nat} {V V' : Nat → Nat → Nat} {D D' : Nat} {S S' : xRd}, RN f t n K V0 r V D S → RN f t n K V0 r V' D' S' → V = V' ∧ D = D' ∧ S = S'
  | 0, _, _, _, _, _, _, h, h' => ⟨h.1.trans h'.1.symm, h.2.1.trans h'.2.1.symm, h.2.2.trans h'.2.2.symm⟩
  | r + 1, V, V', D, D', S, S', h, h' => by
    obtain ⟨V1, D1, S1, m, h1, h2, h3, h4, h5⟩ := h
    obtain ⟨V2, D2, S2, m', g1, g2, g3, g4, g5⟩ := h'
    obtain ⟨e1, e2, e3⟩ := RN.uniq h1 g1
    subst e1 e2 e3
    have em := h2.uniq g2
    subst em
    rw [← h3] at g3
    rw [← h4] at g4
    subst g3 g4
    rw [← h5] at g5
    exact ⟨rfl, rfl, g5.symm⟩
theorem allc_le {V : Nat → Nat → Nat} (hB : VB V) {f n m : Nat} {t : Nat → Nat} {R : Nat → xSt} (hf1 : f ≠ 1) (h : VS t f n m R) (hn : n ≤ 300) (ht : ∀ j, j < n → t j < 256) : allc V f t R m < 2 ^ 24 := by
  unfold allc
  rw [if_neg hf1]
  have h1 := scs_le hB h hn ht m (Nat.le_refl _)
  have h2 := h.m_le
  omega
def kfo (f : Nat) : Nat := (xK f 0 20).1
def nfo (f : Nat) : Nat := (xK f 0 20).2
def cfo (f : Nat) : Nat := if f = 1 then 46 else 26
theorem xk20 {f L : Nat} : xK f L 20 = (kfo f, nfo f) := rfl
theorem xt20 {f : Nat} (hf : f < 3) : xtg 2000 (kfo f) = some (cfo f) := by
  rcases (by omega : f = 0 ∨ f = 1 ∨ f = 2) with rfl | rfl | rfl <;> rfl
theorem xl20 {f : Nat} (hf : f < 3) : 2 ≤ xnl (cfo f) := by
  rcases (by omega : f = 0 ∨ f = 1 ∨ f = 2) with rfl | rfl | rfl <;> decide
def rS : List Nat := [4, 11, 12, 13, 14, 16, 20, 21, 22, 23, 24, 25, 26, 29, 30, 31, 41, 42, 43, 44, 45, 46, 47, 48, 49, 50, 51, 52]
theorem CP.ag {I I1 : Nat → Nat → Int32} {J J1 : Nat → Nat → Int64} {S : List Nat} {f p n m sm le : Nat} {t : Nat → Nat} {R : Nat → xSt} (h : CP I J f p n t m R sm le) (ha : xag I I1 S) (h1 : p ∉ S ∧ p + 1 ∉ S ∧ p + 2 ∉ S ∧ p + 3 ∉ S ∧ p + 4 ∉ S ∧ p + 5 ∉ S) (hj : J1 p = J p) : CP I1 J1 f p n t m R sm le := by
  refine ⟨h.1.ag ha ⟨h1.1, h1.2.1, h1.2.2.1, h1.2.2.2.1, h1.2.2.2.2.1⟩, h.2.1, by rw [hj]; exact h.2.2.1, by rw [ha p h1.1]; exact h.2.2.2.1, ?_⟩
  unfold TO
  rw [ha (p + 5) h1.2.2.2.2.2]
  exact h.2.2.2.2
section RND
variable {d f L c s n K r : Nat} {t : Nat → Nat} {V : Nat → Nat → Nat} {Q : Option Value × xS → Prop} {P : List Nat × Nat × Nat} {I : Nat → Nat → Int32} {J : Nat → Nat → Int64}
theorem p_roundsC (hf : f < 3) (hf1 : f ≠ 1) (hL : L < 2147483648) (hcs : (c = 41 ∧ s = 47) ∨ (c = 47 ∧ s = 41)) (hC : CI I f n t V) (hK : I 4 10 = nI K) (hK1 : 1 ≤ K) (hK2 : K ≤ 40) (hr1 : 1 ≤ r) (hr2 : r ≤ 8) (k : ∀ I' J' c' s' V1 D S, ((c' = 41 ∧ s' = 47) ∨ (c' = 47 ∧ s' = 41)) → xag I I' rS → (∀ q, q ≠ 9 → q ≠ 11 → I' 4 q = I 4 q) → I' 4 9 = nI 1 → I' 4 11 = nI D → RN f t n K V r V1 D S → CI I' f n t S.2.1 → CP I' J' f c' n t S.2.2.1 S.2.2.2.1 S.2.2.2.2.1 S.2.2.2.2.2 → (∀ a, a ∉ [20, 28, 32, 41, 47] → J' a = J a) → Q (some (.long (lN S.1)), (xK f L, P, I', J', xFr f c' s'))) : Wp (d + 7) 84 38 [some (.ref 4), some (.int (nI r)), some (.long (lN 0)), none, some (.int (nI 0)), none, none] [] (xK f L, P, I, J, xFr f c s) Q := by
  have hn := hC.1.2.2.2.1
  have ht : ∀ j, j < n → t j < 256 := fun j hj => (hC.1.2.2.2.2.1 j hj).2
  have loop : ∀ w i I1 J1 c1 s1 V1 D1 S1, r - i = w → i ≤ r → ((c1 = 41 ∧ s1 = 47) ∨ (c1 = 47 ∧ s1 = 41)) → xag I I1 rS → (∀ q, q ≠ 11 → I1 4 q = I 4 q) → (∀ a, a ∉ [20, 28, 32, 41, 47] → J1 a = J a) → CI I1 f n t V1 → RN f t n K V i V1 D1 S1 → (i ≠ 0 → I1 4 11 = nI D1 ∧ CV I1 16 S1.2.1 ∧ VB S1.2.1 ∧ S1.1 < 2 ^ 24 ∧ CP I1 J1 f c1 n t S1.2.2.1 S1.2.2.2.1 S1.2.2.2.2.1 S1.2.2.2.2.2) → Wp (d + 7) 84 38 [some (.ref 4), some (.int (nI r)), some (.long (lN S1.1)), none, some (.int (nI i)), none, none] [] (xK f L, P, I1, J1, xFr f c1 s1) Q := by
    intro w
    induction w with
    | zero =>
      intro i I1 J1 c1 s1 V1 D1 S1 hw hi hcs1 ha h4 hj hC1 hR hS
      have e : i = r := by omega
      subst e
      obtain ⟨g1, g2, g3, g4, g5⟩ := hS (by omega)
      refine wY10_rounds_38 rfl rfl rfl rfl rfl rfl rfl xk20 (xt20 hf) (xl20 hf) rfl (br1 (by first | (rw [nI_ltI (by omega) (by omega)]; omega) | (rw [nI_leI (by omega) (by omega)]; omega) | (rw [nI_eq (by omega) (by omega)]; omega) | (rw [nI_e0 (by omega)]; omega) | (rw [nI_le0 (by omega)]; omega)) ?_)
      refine p_copyFrom hf hL (a := 10) (b := 15) (Or.inl ⟨rfl, rfl⟩) (fun I2 b1 b2 => ⟨_, _, rfl, ?_⟩)
      all_goals try dsimp only
      have b3 : xag I1 (xup I2 4 9 (nI 1)) [4, 11] := xag.up (b1.wd (by simp)) (by simp)
      have h4' : ∀ q, q ≠ 9 → q ≠ 11 → xup I2 4 9 (nI 1) 4 q = I 4 q := fun q z1 z2 => by
        rw [xup_at, if_neg z1, b1 4 (by decide)]
        exact h4 q z2
      refine k _ J1 c1 s1 V1 D1 S1 hcs1 (ha.tr b3 (by unfold rS; simp)) h4' (by rw [xup_at, if_pos rfl]) (by rw [xup_at, if_neg (by decide), b1 4 (by decide)]; exact g1) hR ⟨?_, ⟨?_, ?_, ?_, g3⟩, ?_, ?_, ?_, ?_⟩ (g5.ag b3 (by rcases hcs1 with ⟨rfl, rfl⟩ | ⟨rfl, rfl⟩ <;> decide) rfl) hj
      · exact hC1.1.ag b3 (by decide) (by decide) (by decide) (by decide) (by decide)
      · intro k' hk'
        rw [b3 1 (by decide), b3 2 (by decide), b3 3 (by decide)]
        exact hC1.2.1.1 k' hk'
      · rw [b3 10 (by decide)]
        exact hC1.2.1.2.1
      · intro k' s' z1 z2
        have := SY_BS k' z1
        rw [xup_ne _ _ _ (by decide), show I2 11 (BS k' + s') = I1 16 (BS k' + s') from b2 _ (by omega)]
        exact g2 k' s' z1 z2
      · unfold SP
        rw [b3 33 (by decide)]
        exact hC1.2.2.1
      · rw [h4' 0 (by decide) (by decide), ← h4 0 (by decide)]
        exact hC1.2.2.2.1
      · intro z
        exact (hC1.2.2.2.2.1 z).ag b3 (by decide)
      · intro z
        rw [b3 29 (by decide)]
        exact hC1.2.2.2.2.2 z
    | succ w ih =>
      intro i I1 J1 c1 s1 V1 D1 S1 hw hi hcs1 ha h4 hj hC1 hR hS
      have hps : s1 = 41 ∨ s1 = 47 := by omega
      refine wY10_rounds_38 rfl rfl rfl rfl rfl rfl rfl xk20 (xt20 hf) (xl20 hf) rfl (br2 (by first | (rw [nI_ltI (by omega) (by omega)]; omega) | (rw [nI_leI (by omega) (by omega)]; omega) | (rw [nI_eq (by omega) (by omega)]; omega) | (rw [nI_e0 (by omega)]; omega) | (rw [nI_le0 (by omega)]; omega)) ?_)
      refine p_bestC hf hL hps hC1 (by rw [h4 10 (by decide)]; exact hK) hK1 hK2 (fun I2 J2 m b1 b2 b3 b4 b5 b6 b7 => ⟨_, _, rfl, ?_⟩)
      all_goals try dsimp only
      have hv := b7.2.1
      have hm := b7.1.2.1
      refine p_fitTo hf hL hps b4.2.1 b4.1 b7.1 hv (fun I3 e1 e2 => ⟨_, _, rfl, ?_⟩)
      all_goals try dsimp only
      have hC3 : CI I3 f n t (fV f (us f t (bR f V1 t n K m) m) V1) := ⟨b4.1.ag e1 (by decide) (by decide) (by decide) (by decide) (by decide), e2, by
          unfold SP
          rw [e1 33 (by decide)]
          exact b4.2.2.1, by rw [e1 4 (by decide)]; exact b4.2.2.2.1, fun z => (b4.2.2.2.2.1 z).ag e1 (by decide), fun z => by rw [e1 29 (by decide)]; exact b4.2.2.2.2.2 z⟩
      have hP3 : CP I3 J2 f s1 n t m (bR f V1 t n K m) (allc V1 f t (bR f V1 t n K m) m) (if bD f V1 t n K = 0 then 1 else 0) := b7.ag e1 (by rcases hcs1 with ⟨rfl, rfl⟩ | ⟨rfl, rfl⟩ <;> decide) rfl
      refine p_costC (d := d + 2) hf hL hps hC3 hP3.1 hv (xt20 hf) ⟨_, _, _, rfl, ?_⟩
      all_goals try dsimp only
      have hcl := allc_le e2.2.2.2 hf1 hv hn ht
      generalize hcc : allc (fV f (us f t (bR f V1 t n K m) m) V1) f t (bR f V1 t n K m) m = cc at *
      have ha3 : xag I1 I3 (rS.filter (fun a => decide (a ≠ 16))) := fun a haa => by
        have h1 : a ∉ [4, 13, 14, 20, 21, 22, 23, 24, 25, 26, 29, 30, 31, s1, s1 + 1, s1 + 2, s1 + 3, s1 + 4, s1 + 5] := fun z => haa (by
          rcases hps with rfl | rfl <;> (simp [rS] at z ⊢; omega))
        rw [e1 a (fun z => haa (by simp [rS] at z ⊢; omega)), b1 a h1]
      have ha3' : xag I I3 rS := ha.tr ha3 (fun a z => (List.mem_filter.mp z).1)
      have h43 : ∀ q, q ≠ 11 → I3 4 q = I 4 q := fun q hq => by rw [e1 4 (by decide), b2 q hq]; exact h4 q hq
      have h411 : I3 4 11 = nI (bD f V1 t n K) := by rw [e1 4 (by decide)]; exact b3
      have hj2 : ∀ a, a ∉ [20, 28, 32, 41, 47] → J2 a = J a := fun a haa => by
        simp at haa
        rw [b5 a (by omega) (by omega) (by omega) (by omega)]
        exact hj a (by simp; omega)
      have hRn : ∀ S, (S = if i = 0 ∨ cc < S1.1 then (cc, fV f (us f t (bR f V1 t n K m) m) V1, m, bR f V1 t n K m, allc V1 f t (bR f V1 t n K m) m, if bD f V1 t n K = 0 then 1 else 0) else S1) → RN f t n K V (i + 1) (fV f (us f t (bR f V1 t n K m) m) V1) (bD f V1 t n K) S := fun S hS => ⟨V1, D1, S1, m, hR, b6, rfl, rfl, by rw [hcc]; exact hS⟩
      -- it is taken
      have take : (i = 0 ∨ cc < S1.1) → Wp (d + 6) 12 0 [some (.ref 15), some (.ref 10)] [] (xK f L, P, I3, J2, xFr f c1 s1) (xrV (xK f L) P (xFr f c1 s1) (fun I18 J19 => Wp (d + 6) 93 0 [some (.ref 4), none] [] (xK f L, P, I18, J19, xFr f c1 s1) (xrVF (xK f L) P (fun I21 J22 F23 => Wp (d + 6 + 1) 84 38 [some (.ref 4), some (.int (nI r)), some (.long (lN cc)), none, some (.int (nI i + nI 1)), none, none] [] (xK f L, P, I21, J22, F23) Q)))) := by
        intro hz
        refine p_copyFrom hf hL (a := 15) (b := 10) (Or.inr ⟨rfl, rfl⟩) (fun I4 q1 q2 => ⟨_, _, rfl, ?_⟩)
        all_goals try dsimp only
        refine p_takeSpare hf ⟨_, _, _, rfl, ?_⟩
        all_goals try dsimp only
        rw [nI_add]
        have hgo := ih (i + 1) I4 J2 s1 c1 _ _ (cc, fV f (us f t (bR f V1 t n K m) m) V1, m, bR f V1 t n K m, allc V1 f t (bR f V1 t n K m) m, if bD f V1 t n K = 0 then 1 else 0) (by omega) (by omega) (by omega) (ha3'.tr q1 (by unfold rS; simp)) (fun q hq => by rw [q1 4 (by decide)]; exact h43 q hq) hj2 (hC3.ag q1 (by decide) (by rw [q1 4 (by decide)]) (fun z => by rw [q1 29 (by decide)]; exact hC3.2.2.2.2.2 z)) (hRn _ (by rw [if_pos hz])) (fun _ => ⟨by rw [q1 4 (by decide)]; exact h411, fun k' s' z1 z2 => ?_, e2.2.2.2, hcl, hP3.ag q1 (by rcases hcs1 with ⟨rfl, rfl⟩ | ⟨rfl, rfl⟩ <;> decide) rfl⟩)
        · exact hgo
        · have := SY_BS k' z1
          rw [show I4 16 (BS k' + s') = I3 11 (BS k' + s') from q2 _ (by omega)]
          exact e2.2.2.1 k' s' z1 z2
      refine brc (nI_e0 (by omega)) (fun h => take (Or.inl h)) (fun h => ?_)
      obtain ⟨g1, g2, g3, g4, g5⟩ := hS h
      have hge : 0 ≤ lg_cmp (lN cc) (lN S1.1) ↔ S1.1 ≤ cc := by rw [lg_cmp_ge, pk_lLE (by omega) (by omega)]
      refine brc hge (fun h2 => ?_) (fun h2 => take (Or.inr (by omega)))
      rw [nI_add]
      refine ih (i + 1) I3 J2 c1 s1 _ _ S1 (by omega) (by omega) hcs1 ha3' h43 hj2 hC3 (hRn _ (by rw [if_neg (by omega)])) (fun _ => ⟨h411, fun k' s' z1 z2 => ?_, g3, g4, g5.ag ((b1.tw e1 ⟨fun a z => List.mem_append_left _ z, fun a z => List.mem_append_right _ z⟩ : xag I1 I3 ([4, 13, 14, 20, 21, 22, 23, 24, 25, 26, 29, 30, 31, s1, s1 + 1, s1 + 2, s1 + 3, s1 + 4, s1 + 5] ++ [11, 12]))) ?_ ?_⟩)
      · rw [ha3 16 (by decide)]
        exact g2 k' s' z1 z2
      · rcases hcs1 with ⟨rfl, rfl⟩ | ⟨rfl, rfl⟩ <;> decide
      · exact b5 c1 (by omega) (by omega) (by omega) (by omega)
  exact loop r 0 I J c s V 0 (0, V, 0, (fun _ => (0, 0, 0, 0)), 0, 0) rfl (Nat.zero_le _) hcs xag.rfl (fun _ _ => rfl) (fun _ _ => rfl) hC ⟨rfl, rfl, rfl⟩ (fun z => absurd rfl z)
end RND
