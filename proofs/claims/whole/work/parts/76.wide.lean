/-! FORM 2, as numbers: the states of a place in order; a state is (key, rank of where it came from, length, kind); a key is a sum and the latest distances -/
abbrev xEn : Type := Nat × Nat × Nat × Nat
/-- so many, these, and whether one fell out -/
abbrev xWs : Type := Nat × (Nat → xEn) × Bool
def lat (k : Nat) : Nat := k % 2 ^ 36
/-- the first below m of which p holds, or m -/
def fi (p : Nat → Bool) : Nat → Nat
  | 0 => 0
  | m + 1 => if fi p m < m then fi p m else if p m = true then m else m + 1
theorem fi_le (p : Nat → Bool) : ∀ m, fi p m ≤ m
  | 0 => Nat.le_refl _
  | m + 1 => by
    have := fi_le p m
    rw [fi]
    split
    · omega
    · split <;> omega
theorem fi_at (p : Nat → Bool) : ∀ m, fi p m < m → p (fi p m) = true
  | 0, h => by omega
  | m + 1, h => by
    rw [fi] at h ⊢
    by_cases e : fi p m < m
    · rw [if_pos e]
      exact fi_at p m e
    · rw [if_neg e] at h ⊢
      by_cases e2 : p m = true
      · rw [if_pos e2]
        exact e2
      · rw [if_neg e2] at h
        omega
theorem fi_lt (p : Nat → Bool) : ∀ m s, s < fi p m → p s = false
  | 0, s, h => by rw [fi] at h; omega
  | m + 1, s, h => by
    rw [fi] at h
    have hl := fi_le p m
    by_cases e : fi p m < m
    · rw [if_pos e] at h
      exact fi_lt p m s h
    · rw [if_neg e] at h
      have em : fi p m = m := by omega
      by_cases e2 : p m = true
      · rw [if_pos e2] at h
        exact fi_lt p m s (by omega)
      · rw [if_neg e2] at h
        by_cases e3 : s = m
        · subst e3
          cases hp : p s with
          | false => rfl
          | true => exact absurd hp e2
        · exact fi_lt p m s (by omega)
theorem fi_eq {p : Nat → Bool} {m g : Nat} (h1 : g ≤ m) (h2 : ∀ s, s < g → p s = false) (h3 : g < m → p g = true) : fi p m = g := by
  have hl := fi_le p m
  rcases Nat.lt_trichotomy (fi p m) g with z | z | z
  · have := fi_at p m (by omega)
    rw [h2 _ z] at this
    cases this
  · exact z
  · have := fi_lt p m g z
    rw [h3 (by omega)] at this
    cases this
def sh (E : Nat → xEn) (sp g : Nat) (e : xEn) : Nat → xEn := fun i => if i = sp then e else if sp < i ∧ i ≤ g then E (i - 1) else E i
def og (w : xWs) (k : Nat) : Nat := fi (fun s => decide (lat (w.2.1 s).1 = lat k)) w.1
def os (w : xWs) (k : Nat) : Nat := fi (fun s => decide (k < (w.2.1 s).1)) w.1
/-- a state comes to a place that holds K at most -/
def op (K : Nat) (w : xWs) (e : xEn) : xWs :=
  if og w e.1 < os w e.1 then w
  else if og w e.1 < w.1 then (w.1, sh w.2.1 (os w e.1) (og w e.1) e, w.2.2)
  else if w.1 < K then (w.1 + 1, sh w.2.1 (os w e.1) w.1 e, w.2.2)
  else (w.1, if os w e.1 < w.1 then sh w.2.1 (os w e.1) (w.1 - 1) e else w.2.1, true)
def WF (K : Nat) (w : xWs) : Prop := w.1 ≤ K ∧ (∀ i j, i < j → j < w.1 → (w.2.1 i).1 < (w.2.1 j).1) ∧ (∀ i j, i < j → j < w.1 → lat (w.2.1 i).1 ≠ lat (w.2.1 j).1) ∧ (w.2.2 = true → w.1 = K)
theorem og_at {w : xWs} {k : Nat} (h : og w k < w.1) : lat (w.2.1 (og w k)).1 = lat k := of_decide_eq_true (fi_at (fun s => decide (lat (w.2.1 s).1 = lat k)) w.1 h)
theorem og_lt {w : xWs} {k s : Nat} (h : s < og w k) : lat (w.2.1 s).1 ≠ lat k := of_decide_eq_false (fi_lt (fun s => decide (lat (w.2.1 s).1 = lat k)) w.1 s h)
theorem os_at {w : xWs} {k : Nat} (h : os w k < w.1) : k < (w.2.1 (os w k)).1 := of_decide_eq_true (fi_at (fun s => decide (k < (w.2.1 s).1)) w.1 h)
theorem os_lt {w : xWs} {k s : Nat} (h : s < os w k) : (w.2.1 s).1 ≤ k := by
  have := of_decide_eq_false (fi_lt (fun s => decide (k < (w.2.1 s).1)) w.1 s h)
  omega
theorem og_le (w : xWs) (k : Nat) : og w k ≤ w.1 := fi_le _ _
theorem os_le (w : xWs) (k : Nat) : os w k ≤ w.1 := fi_le _ _
theorem WF.ge {K : Nat} {w : xWs} (h : WF K w) {k s : Nat} (h1 : os w k ≤ s) (h2 : s < w.1) : k < (w.2.1 s).1 := by
  have h3 := os_at (w := w) (k := k) (by omega)
  by_cases e : os w k = s
  · rw [← e]; exact h3
  · have := h.2.1 (os w k) s (by omega) h2
    omega
theorem WF.lt {K : Nat} {w : xWs} (_h : WF K w) {k s : Nat} (hg : os w k ≤ og w k) (h1 : s < os w k) : (w.2.1 s).1 < k := by
  have h2 := os_lt h1
  have h3 := og_lt (w := w) (k := k) (s := s) (by omega)
  by_cases e : (w.2.1 s).1 = k
  · rw [e] at h3
    exact absurd rfl h3
  · omega
theorem WF.ogx {K : Nat} {w : xWs} (h : WF K w) {k s : Nat} (h1 : s < w.1) (h2 : s ≠ og w k) : lat (w.2.1 s).1 ≠ lat k := by
  rcases Nat.lt_trichotomy s (og w k) with z | z | z
  · exact og_lt z
  · exact absurd z h2
  · have h3 := og_at (w := w) (k := k) (by omega)
    have h4 := h.2.2.1 (og w k) s z h1
    rw [h3] at h4
    exact fun e => h4 e.symm
theorem sh_ok {w : xWs} {K m' sp g : Nat} {e : xEn} (h : WF K w) (hm : m' ≤ w.1 + 1) (hsp : sp ≤ g) (hg : g < m') (hg2 : g ≤ w.1) (hm2 : m' = w.1 + 1 → g = w.1) (h1 : ∀ s, s < w.1 → s ≠ g → lat (w.2.1 s).1 ≠ lat e.1) (h2 : ∀ s, s < sp → (w.2.1 s).1 < e.1) (h3 : ∀ s, sp ≤ s → s < w.1 → e.1 < (w.2.1 s).1) :
    (∀ i j, i < j → j < m' → (sh w.2.1 sp g e i).1 < (sh w.2.1 sp g e j).1) ∧ (∀ i j, i < j → j < m' → lat (sh w.2.1 sp g e i).1 ≠ lat (sh w.2.1 sp g e j).1) := by
  -- where a new place's state stood
  have key : ∀ i, i < m' → i ≠ sp → ∃ o, o < w.1 ∧ o ≠ g ∧ sh w.2.1 sp g e i = w.2.1 o ∧ ((i < sp ∧ o = i) ∨ (sp < i ∧ i ≤ g ∧ o = i - 1) ∨ (g < i ∧ o = i)) := by
    intro i hi hne
    unfold sh
    rw [if_neg hne]
    by_cases e1 : sp < i ∧ i ≤ g
    · rw [if_pos e1]
      exact ⟨i - 1, by omega, by omega, rfl, Or.inr (Or.inl ⟨e1.1, e1.2, rfl⟩)⟩
    · rw [if_neg e1]
      refine ⟨i, by omega, by omega, rfl, ?_⟩
      omega
  have hself : sh w.2.1 sp g e sp = e := by unfold sh; rw [if_pos rfl]
  refine ⟨fun i j hij hj => ?_, fun i j hij hj => ?_⟩
  · by_cases ei : i = sp
    · obtain ⟨o, g1, g2, g3, g4⟩ := key j hj (by omega)
      rw [ei, hself, g3]
      exact h3 o (by omega) g1
    · obtain ⟨o, g1, g2, g3, g4⟩ := key i (by omega) ei
      rw [g3]
      by_cases ej : j = sp
      · rw [ej, hself]
        exact h2 o (by omega)
      · obtain ⟨o', k1, k2, k3, k4⟩ := key j hj ej
        rw [k3]
        exact h.2.1 o o' (by omega) k1
  · by_cases ei : i = sp
    · obtain ⟨o, g1, g2, g3, g4⟩ := key j hj (by omega)
      rw [ei, hself, g3]
      exact fun z => h1 o g1 g2 z.symm
    · obtain ⟨o, g1, g2, g3, g4⟩ := key i (by omega) ei
      rw [g3]
      by_cases ej : j = sp
      · rw [ej, hself]
        exact h1 o g1 g2
      · obtain ⟨o', k1, k2, k3, k4⟩ := key j hj ej
        rw [k3]
        exact h.2.2.1 o o' (by omega) k1
theorem op_WF {K : Nat} {w : xWs} {e : xEn} (h : WF K w) : WF K (op K w e) := by
  have hg := og_le w e.1
  have hs := os_le w e.1
  unfold op
  by_cases c1 : og w e.1 < os w e.1
  · rw [if_pos c1]
    exact h
  · rw [if_neg c1]
    have h2 : ∀ s, s < os w e.1 → (w.2.1 s).1 < e.1 := fun s z => h.lt (by omega) z
    have h3 : ∀ s, os w e.1 ≤ s → s < w.1 → e.1 < (w.2.1 s).1 := fun s z1 z2 => h.ge z1 z2
    by_cases c2 : og w e.1 < w.1
    · rw [if_pos c2]
      have := sh_ok (e := e) (m' := w.1) (sp := os w e.1) (g := og w e.1) h (by omega) (by omega) c2 hg (by omega) (fun s z1 z2 => h.ogx z1 z2) h2 h3
      exact ⟨h.1, this.1, this.2, h.2.2.2⟩
    · rw [if_neg c2]
      have hno : ∀ s, s < w.1 → lat (w.2.1 s).1 ≠ lat e.1 := fun s z => og_lt (by omega)
      by_cases c3 : w.1 < K
      · rw [if_pos c3]
        have := sh_ok (e := e) (m' := w.1 + 1) (sp := os w e.1) (g := w.1) h (by omega) hs (by omega) (Nat.le_refl _) (fun _ => rfl) (fun s z1 _ => hno s z1) h2 h3
        refine ⟨c3, this.1, this.2, fun z => ?_⟩
        have := h.2.2.2 z
        omega
      · rw [if_neg c3]
        have hK := h.1
        by_cases c4 : os w e.1 < w.1
        · rw [if_pos c4]
          have := sh_ok (e := e) (m' := w.1) (sp := os w e.1) (g := w.1 - 1) h (by omega) (by omega) (by omega) (by omega) (by omega) (fun s z1 _ => hno s z1) h2 h3
          exact ⟨hK, this.1, this.2, fun _ => by show w.1 = K; omega⟩
        · rw [if_neg c4]
          exact ⟨hK, h.2.1, h.2.2.1, fun _ => by show w.1 = K; omega⟩
/-- what holds of all states and of the one that comes -/
theorem op_all {K : Nat} {w : xWs} {e : xEn} {X : xEn → Prop} (h : ∀ s, s < w.1 → X (w.2.1 s)) (he : X e) : ∀ s, s < (op K w e).1 → X ((op K w e).2.1 s) := by
  have hg := og_le w e.1
  have hs := os_le w e.1
  have shx : ∀ m' sp g, m' ≤ w.1 + 1 → (m' = w.1 + 1 → g = w.1) → sp ≤ g → ∀ s, s < m' → X (sh w.2.1 sp g e s) := by
    intro m' sp g k1 k2 k3 s k4
    unfold sh
    split
    · exact he
    · split
      · exact h _ (by omega)
      · exact h _ (by omega)
  intro s hs'
  unfold op at hs' ⊢
  by_cases c1 : og w e.1 < os w e.1
  · rw [if_pos c1] at hs' ⊢
    exact h s hs'
  · rw [if_neg c1] at hs' ⊢
    by_cases c2 : og w e.1 < w.1
    · rw [if_pos c2] at hs' ⊢
      exact shx w.1 _ _ (by omega) (by omega) (by omega) s hs'
    · rw [if_neg c2] at hs' ⊢
      by_cases c3 : w.1 < K
      · rw [if_pos c3] at hs' ⊢
        exact shx (w.1 + 1) _ _ (by omega) (fun _ => rfl) (by omega) s hs'
      · rw [if_neg c3] at hs' ⊢
        by_cases c4 : os w e.1 < w.1
        · have e5 : (w.1, if os w e.1 < w.1 then sh w.2.1 (os w e.1) (w.1 - 1) e else w.2.1, true).2.1 = sh w.2.1 (os w e.1) (w.1 - 1) e := if_pos c4
          rw [e5]
          exact shx w.1 _ _ (by omega) (by omega) (by omega) s hs'
        · have e5 : (w.1, if os w e.1 < w.1 then sh w.2.1 (os w e.1) (w.1 - 1) e else w.2.1, true).2.1 = w.2.1 := if_neg c4
          rw [e5]
          exact h s hs'
theorem op_pos {K : Nat} {w : xWs} {e : xEn} (hK : 1 ≤ K) (h : WF K w) : 1 ≤ (op K w e).1 ∧ w.1 ≤ (op K w e).1 := by
  unfold op
  by_cases c1 : og w e.1 < os w e.1
  · rw [if_pos c1]
    have := os_le w e.1
    omega
  · rw [if_neg c1]
    by_cases c2 : og w e.1 < w.1
    · rw [if_pos c2]
      show 1 ≤ w.1 ∧ w.1 ≤ w.1
      omega
    · rw [if_neg c2]
      by_cases c3 : w.1 < K
      · rw [if_pos c3]
        show 1 ≤ w.1 + 1 ∧ w.1 ≤ w.1 + 1
        omega
      · rw [if_neg c3]
        show 1 ≤ w.1 ∧ w.1 ≤ w.1
        omega
/-- a key that can't change anything any more -/
def Sn (K : Nat) (w : xWs) (k : Nat) : Prop := (∃ s, s < w.1 ∧ lat (w.2.1 s).1 = lat k ∧ (w.2.1 s).1 ≤ k) ∨ (w.2.2 = true ∧ w.1 = K ∧ 0 < K ∧ (w.2.1 (K - 1)).1 < k)
theorem Sn.le {K : Nat} {w : xWs} {k k' : Nat} (h : Sn K w k) (h1 : k ≤ k') (h2 : lat k' = lat k) : Sn K w k' := by
  rcases h with ⟨s, g1, g2, g3⟩ | ⟨g1, g2, g3, g4⟩
  · exact Or.inl ⟨s, g1, by rw [h2]; exact g2, by omega⟩
  · exact Or.inr ⟨g1, g2, g3, by omega⟩
theorem op_Sn {K : Nat} {w : xWs} {e : xEn} (hK : 1 ≤ K) (h : WF K w) : Sn K (op K w e) e.1 := by
  have hg := og_le w e.1
  have hs := os_le w e.1
  unfold op
  by_cases c1 : og w e.1 < os w e.1
  · rw [if_pos c1]
    exact Or.inl ⟨og w e.1, by omega, og_at (by omega), os_lt c1⟩
  · rw [if_neg c1]
    have shs : ∀ g, sh w.2.1 (os w e.1) g e (os w e.1) = e := fun g => by unfold sh; rw [if_pos rfl]
    by_cases c2 : og w e.1 < w.1
    · rw [if_pos c2]
      refine Or.inl ⟨os w e.1, by show os w e.1 < w.1; omega, ?_, ?_⟩
      · show lat (sh _ _ _ _ _).1 = _
        rw [shs]
      · show (sh _ _ _ _ _).1 ≤ _
        rw [shs]
        exact Nat.le_refl _
    · rw [if_neg c2]
      by_cases c3 : w.1 < K
      · rw [if_pos c3]
        refine Or.inl ⟨os w e.1, by show os w e.1 < w.1 + 1; omega, ?_, ?_⟩
        · show lat (sh _ _ _ _ _).1 = _
          rw [shs]
        · show (sh _ _ _ _ _).1 ≤ _
          rw [shs]
          exact Nat.le_refl _
      · rw [if_neg c3]
        have hwK : w.1 = K := by have := h.1; omega
        by_cases c4 : os w e.1 < w.1
        · rw [if_pos c4]
          refine Or.inl ⟨os w e.1, c4, ?_, ?_⟩
          · show lat (sh _ _ _ _ _).1 = _
            rw [shs]
          · show (sh _ _ _ _ _).1 ≤ _
            rw [shs]
            exact Nat.le_refl _
        · rw [if_neg c4]
          refine Or.inr ⟨rfl, hwK, by omega, ?_⟩
          exact h.lt (k := e.1) (s := K - 1) (by omega) (by omega)
theorem Sn_op {K : Nat} {w : xWs} {e : xEn} {k : Nat} (_hK : 1 ≤ K) (h : WF K w) (hn : Sn K w k) : Sn K (op K w e) k := by
  have hg := og_le w e.1
  have hs := os_le w e.1
  unfold op
  by_cases c1 : og w e.1 < os w e.1
  · rw [if_pos c1]
    exact hn
  · rw [if_neg c1]
    have shs : ∀ g, sh w.2.1 (os w e.1) g e (os w e.1) = e := fun g => by unfold sh; rw [if_pos rfl]
    -- where an old state stands now
    have sho : ∀ g s, os w e.1 ≤ g → s ≠ g → ∃ i, sh w.2.1 (os w e.1) g e i = w.2.1 s ∧ (s < w.1 → i < w.1 + 1) ∧ (s < w.1 → g < w.1 → i < w.1) := by
      intro g s z1 z2
      by_cases b1 : s < os w e.1
      · refine ⟨s, ?_, fun _ => by omega, fun _ _ => by omega⟩
        unfold sh
        rw [if_neg (by omega), if_neg (by omega)]
      · by_cases b2 : s < g
        · refine ⟨s + 1, ?_, fun _ => by omega, fun _ _ => by omega⟩
          unfold sh
          rw [if_neg (by omega), if_pos (by omega), Nat.add_sub_cancel]
        · refine ⟨s, ?_, fun _ => by omega, fun _ _ => by omega⟩
          unfold sh
          rw [if_neg (by omega), if_neg (by omega)]
    by_cases c2 : og w e.1 < w.1
    · rw [if_pos c2]
      rcases hn with ⟨s, g1, g2, g3⟩ | ⟨g1, g2, g3, g4⟩
      · by_cases es : s = og w e.1
        · refine Or.inl ⟨os w e.1, by show os w e.1 < w.1; omega, ?_, ?_⟩
          · show lat (sh _ _ _ _ _).1 = _
            rw [shs, ← og_at c2, ← es]
            exact g2
          · show (sh _ _ _ _ _).1 ≤ _
            rw [shs]
            have := h.ge (k := e.1) (s := og w e.1) (by omega) c2
            rw [← es] at this
            omega
        · obtain ⟨i, k1, k2, k3⟩ := sho (og w e.1) s (by omega) es
          refine Or.inl ⟨i, k3 g1 c2, ?_, ?_⟩
          · show lat (sh _ _ _ _ _).1 = _
            rw [k1]
            exact g2
          · show (sh _ _ _ _ _).1 ≤ _
            rw [k1]
            exact g3
      · refine Or.inr ⟨g1, g2, g3, ?_⟩
        show (sh w.2.1 (os w e.1) (og w e.1) e (K - 1)).1 < k
        unfold sh
        by_cases b1 : K - 1 = os w e.1
        · rw [if_pos b1]
          have := h.ge (k := e.1) (s := K - 1) (by omega) (by omega)
          omega
        · rw [if_neg b1]
          by_cases b2 : os w e.1 < K - 1 ∧ K - 1 ≤ og w e.1
          · rw [if_pos b2]
            have := h.2.1 (K - 1 - 1) (K - 1) (by omega) (by omega)
            omega
          · rw [if_neg b2]
            exact g4
    · rw [if_neg c2]
      by_cases c3 : w.1 < K
      · rw [if_pos c3]
        rcases hn with ⟨s, g1, g2, g3⟩ | ⟨g1, g2, g3, g4⟩
        · obtain ⟨i, k1, k2, k3⟩ := sho w.1 s (by omega) (by omega)
          refine Or.inl ⟨i, k2 g1, ?_, ?_⟩
          · show lat (sh _ _ _ _ _).1 = _
            rw [k1]
            exact g2
          · show (sh _ _ _ _ _).1 ≤ _
            rw [k1]
            exact g3
        · omega
      · rw [if_neg c3]
        have hwK : w.1 = K := by have := h.1; omega
        by_cases c4 : os w e.1 < w.1
        · rw [if_pos c4]
          -- the last of the new ones is less than the last of the old ones
          have hlast : (sh w.2.1 (os w e.1) (w.1 - 1) e (K - 1)).1 < (w.2.1 (K - 1)).1 := by
            unfold sh
            by_cases b1 : K - 1 = os w e.1
            · rw [if_pos b1]
              exact h.ge (k := e.1) (s := K - 1) (by omega) (by omega)
            · rw [if_neg b1, if_pos (by omega)]
              exact h.2.1 (K - 1 - 1) (K - 1) (by omega) (by omega)
          rcases hn with ⟨s, g1, g2, g3⟩ | ⟨g1, g2, g3, g4⟩
          · by_cases es : s = w.1 - 1
            · refine Or.inr ⟨rfl, hwK, by omega, ?_⟩
              show (sh w.2.1 (os w e.1) (w.1 - 1) e (K - 1)).1 < k
              rw [es, hwK] at g3
              omega
            · obtain ⟨i, k1, k2, k3⟩ := sho (w.1 - 1) s (by omega) es
              refine Or.inl ⟨i, k3 g1 (by omega), ?_, ?_⟩
              · show lat (sh _ _ _ _ _).1 = _
                rw [k1]
                exact g2
              · show (sh _ _ _ _ _).1 ≤ _
                rw [k1]
                exact g3
          · refine Or.inr ⟨rfl, hwK, g3, ?_⟩
            show (sh w.2.1 (os w e.1) (w.1 - 1) e (K - 1)).1 < k
            omega
        · rw [if_neg c4]
          rcases hn with ⟨s, g1, g2, g3⟩ | ⟨g1, g2, g3, g4⟩
          · exact Or.inl ⟨s, g1, g2, g3⟩
          · exact Or.inr ⟨rfl, hwK, g3, g4⟩
theorem Sn_no {K : Nat} {w : xWs} {e : xEn} (h : WF K w) (hn : Sn K w e.1) : op K w e = w := by
  have hg := og_le w e.1
  have hs := os_le w e.1
  -- a state with its latest distances stands before the keys above it
  have key : ∀ s, s < w.1 → (w.2.1 s).1 ≤ e.1 → s < os w e.1 := fun s z1 z2 => by
    by_cases b : s < os w e.1
    · exact b
    · have := h.ge (k := e.1) (s := s) (by omega) z1
      omega
  unfold op
  by_cases c1 : og w e.1 < os w e.1
  · rw [if_pos c1]
  · rw [if_neg c1]
    rcases hn with ⟨s, g1, g2, g3⟩ | ⟨g1, g2, g3, g4⟩
    · exfalso
      have h1 := key s g1 g3
      by_cases es : s = og w e.1
      · omega
      · exact h.ogx g1 es g2
    · have h1 := key (K - 1) (by omega) (by omega)
      have h2 : ¬ og w e.1 < w.1 := by omega
      rw [if_neg h2, if_neg (by omega), if_neg (by omega), ← g1]
/-- a place of which the first state alone is held -/
def H1 (w1 w : xWs) : Prop := w1.1 = (if w.1 = 0 then 0 else 1) ∧ (1 ≤ w.1 → w1.2.1 0 = w.2.1 0)
theorem H1_op {K : Nat} {w1 w : xWs} {e : xEn} (hK : 1 ≤ K) (h1 : WF 1 w1) (h : WF K w) (hh : H1 w1 w) : H1 (op 1 w1 e) (op K w e) := by
  -- what the first state becomes
  have first : ∀ K' w', 1 ≤ K' → WF K' w' → ((op K' w' e).2.1 0 = if w'.1 = 0 ∨ e.1 < (w'.2.1 0).1 then e else w'.2.1 0) := by
    intro K' w' hK' hw
    have hg := og_le w' e.1
    have hs := os_le w' e.1
    have h0 : w'.1 = 0 ∨ e.1 < (w'.2.1 0).1 ↔ os w' e.1 = 0 := by
      constructor
      · intro z
        rcases z with z | z
        · omega
        · by_cases b : os w' e.1 = 0
          · exact b
          · have := os_lt (w := w') (k := e.1) (s := 0) (by omega)
            omega
      · intro z
        by_cases b : w'.1 = 0
        · exact Or.inl b
        · exact Or.inr (hw.ge (k := e.1) (s := 0) (by omega) (by omega))
    have shz : ∀ g, os w' e.1 ≤ g → sh w'.2.1 (os w' e.1) g e 0 = if w'.1 = 0 ∨ e.1 < (w'.2.1 0).1 then e else w'.2.1 0 := by
      intro g hg'
      unfold sh
      by_cases b : os w' e.1 = 0
      · rw [if_pos b.symm, if_pos (h0.mpr b)]
      · rw [if_neg (fun z => b z.symm), if_neg (by omega), if_neg (fun z => b (h0.mp z))]
    unfold op
    by_cases c1 : og w' e.1 < os w' e.1
    · rw [if_pos c1, if_neg (fun z => by have := h0.mp z; omega)]
    · rw [if_neg c1]
      by_cases c2 : og w' e.1 < w'.1
      · rw [if_pos c2]
        exact shz _ (by omega)
      · rw [if_neg c2]
        by_cases c3 : w'.1 < K'
        · rw [if_pos c3]
          exact shz _ (by omega)
        · rw [if_neg c3]
          by_cases c4 : os w' e.1 < w'.1
          · rw [if_pos c4]
            exact shz _ (by omega)
          · rw [if_neg c4, if_neg (fun z => by have := h0.mp z; omega)]
  have p1 := op_pos (e := e) (Nat.le_refl 1) h1
  have p2 := op_pos (e := e) hK h
  have q1 := (op_WF (e := e) h1).1
  refine ⟨?_, fun _ => ?_⟩
  · rw [if_neg (by omega)]
    omega
  · rw [first 1 w1 (Nat.le_refl _) h1, first K w hK h]
    by_cases b : w.1 = 0
    · have : w1.1 = 0 := by rw [hh.1, if_pos b]
      rw [if_pos (Or.inl this), if_pos (Or.inl b)]
    · have e1 : w1.1 = 1 := by rw [hh.1, if_neg b]
      rw [hh.2 (by omega)]
      by_cases c : e.1 < (w.2.1 0).1
      · rw [if_pos (Or.inr c), if_pos (Or.inr c)]
      · rw [if_neg (by omega), if_neg (by omega)]
