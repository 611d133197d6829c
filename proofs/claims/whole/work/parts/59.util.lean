/-! LITTLE HELPERS -/
theorem xup_q {α : Type} (f : Nat → Nat → α) (a k : Nat) (v : α) (b j : Nat) : xup f a k v b j = if b = a ∧ j = k then v else f b j := by
  by_cases e : b = a
  · subst e
    rw [xup_at]
    by_cases e2 : j = k
    · rw [if_pos e2, if_pos ⟨rfl, e2⟩]
    · rw [if_neg e2, if_neg (fun z => e2 z.2)]
  · rw [xup_ne _ _ _ e, if_neg (fun z => e z.1)]
theorem br1 {C A B : Prop} (h : C) (k : A) : (C → A) ∧ (¬ C → B) := ⟨fun _ => k, fun z => absurd h z⟩
theorem br2 {C A B : Prop} (h : ¬ C) (k : B) : (C → A) ∧ (¬ C → B) := ⟨fun z => absurd z h, fun _ => k⟩
theorem bn1 {C A B : Prop} (h : ¬ C) (k : A) : (¬ C → A) ∧ (C → B) := ⟨fun _ => k, fun z => absurd z h⟩
theorem bn2 {C A B : Prop} (h : C) (k : B) : (¬ C → A) ∧ (C → B) := ⟨fun z => absurd h z, fun _ => k⟩
theorem brc {C A B p : Prop} (e : C ↔ p) (k1 : p → A) (k2 : ¬ p → B) : (C → A) ∧ (¬ C → B) := ⟨fun z => k1 (e.mp z), fun z => k2 (fun w => z (e.mpr w))⟩
theorem brd {C A B p : Prop} (e : C ↔ p) (k1 : ¬ p → A) (k2 : p → B) : (¬ C → A) ∧ (C → B) := ⟨fun z => k1 (fun w => z (e.mpr w)), fun z => k2 (e.mp z)⟩
theorem xag.tr {I0 I1 I2 : Nat → Nat → Int32} {S S' : List Nat} (h : xag I0 I1 S) (h2 : xag I1 I2 S') (hs : ∀ a, a ∈ S' → a ∈ S) : xag I0 I2 S := fun a ha => by
  rw [h2 a (fun z => ha (hs a z)), h a ha]
theorem xag.tw {I0 I1 I2 : Nat → Nat → Int32} {S S1 S2 : List Nat} (h : xag I0 I1 S1) (h2 : xag I1 I2 S2) (hs : (∀ a, a ∈ S1 → a ∈ S) ∧ ∀ a, a ∈ S2 → a ∈ S) : xag I0 I2 S := fun a ha => by
  rw [h2 a (fun z => ha (hs.2 a z)), h a (fun z => ha (hs.1 a z))]
theorem xag.wd {I0 I1 : Nat → Nat → Int32} {S S' : List Nat} (h : xag I0 I1 S) (hs : ∀ a, a ∈ S → a ∈ S') : xag I0 I1 S' := fun a ha => h a (fun z => ha (hs a z))
theorem xag.hi {I0 I1 : Nat → Nat → Int32} {S : List Nat} (h : xag I0 I1 S) {B : Nat} (hs : ∀ a, a ∈ S → a < B) {a : Nat} (ha : B ≤ a) : I1 a = I0 a := h a (fun z => by have := hs a z; omega)
theorem xag.lo {I0 I1 : Nat → Nat → Int32} {S : List Nat} (h : xag I0 I1 S) {B : Nat} (hs : ∀ a, a ∈ S → B ≤ a) {a : Nat} (ha : a < B) : I1 a = I0 a := h a (fun z => by have := hs a z; omega)
/-- an int that is no small number -/
theorem nI_no {x : Int32} {n : Nat} (hn : n < 2 ^ 31) (h : x < 0 ∨ nI n ≤ x) : ∀ j, j < n → x ≠ nI j := by
  intro j hj e
  rw [e] at h
  rcases h with h | h
  · exact nI_pos (by omega) h
  · rw [nI_leI hn (by omega)] at h
    omega
theorem nI_yes {x : Int32} {n : Nat} (hn : n < 2 ^ 31) (h1 : ¬ x < 0) (h2 : ¬ nI n ≤ x) : ∃ j, j < n ∧ x = nI j := by
  rcases pk_ix x hn with h | h | h
  · exact absurd h h1
  · exact absurd h h2
  · exact h
/-- an int is a number below n, or it is not -/
theorem nI_ix (x : Int32) {n : Nat} (hn : n < 2 ^ 31) : (∃ j, j < n ∧ x = nI j) ∨ (x < 0 ∨ nI n ≤ x) := by
  rcases pk_ix x hn with h | h | h
  · exact Or.inr (Or.inl h)
  · exact Or.inr (Or.inr h)
  · exact Or.inl h
/-! THE COSTS -/
def SY (k : Nat) : Nat := if k = 0 then 256 else if k = 1 then 32 else if k = 2 then 20 else 7
def BS (k : Nat) : Nat := if k = 0 then 0 else if k = 1 then 256 else if k = 2 then 288 else 308
def A1 (k : Nat) : Nat := if k = 0 then 512 else if k = 1 then 320 else if k = 2 then 320 else 64
def xcl (f : Nat) : Nat := if f = 1 then 0 else if f = 0 then 3 else 4
/-- the statics -/
def ST (I : Nat → Nat → Int32) : Prop := ∀ k, k < 4 → I 1 k = nI (SY k) ∧ I 2 k = nI (BS k) ∧ I 3 k = nI (A1 k)
def CV (I : Nat → Nat → Int32) (a : Nat) (V : Nat → Nat → Nat) : Prop := ∀ k s, k < 4 → s < SY k → I a (BS k + s) = nI (V k s)
def VB (V : Nat → Nat → Nat) : Prop := ∀ k s, k < 4 → s < SY k → 1 ≤ V k s ∧ V k s ≤ 10000
/-- the class's costs -/
def CC (I : Nat → Nat → Int32) (f : Nat) (V : Nat → Nat → Nat) : Prop := ST I ∧ I 10 0 = nI (xcl f) ∧ CV I 11 V ∧ VB V
/-- the reference's costs, and its form -/
def MV (I : Nat → Nat → Int32) (f : Nat) (V : Nat → Nat → Nat) : Prop := I 59 1 = nI f ∧ (∀ k s, k < 4 → s < SY k → I 64 (256 * k + s) = nI (V k s)) ∧ VB V
def vo (V : Nat → Nat → Nat) (f k s : Nat) : Nat := if k < xcl f ∧ s < SY k then V k s else 0
theorem SY_BS : ∀ k, k < 4 → BS k + SY k ≤ 315 ∧ SY k ≤ 256 := by decide
theorem xcl_le (f : Nat) : xcl f ≤ 4 := by
  unfold xcl
  split
  · decide
  · split <;> decide
theorem CC.ag {I I1 : Nat → Nat → Int32} {S : List Nat} {f : Nat} {V : Nat → Nat → Nat} (h : CC I f V) (ha : xag I I1 S) (h1 : 1 ∉ S ∧ 2 ∉ S ∧ 3 ∉ S ∧ 10 ∉ S ∧ 11 ∉ S) : CC I1 f V := by
  unfold CC ST CV at h ⊢
  rw [ha 1 h1.1, ha 2 h1.2.1, ha 3 h1.2.2.1, ha 10 h1.2.2.2.1, ha 11 h1.2.2.2.2]
  exact h
theorem MV.ag {I I1 : Nat → Nat → Int32} {S : List Nat} {f : Nat} {V : Nat → Nat → Nat} (h : MV I f V) (ha : xag I I1 S) (h1 : 59 ∉ S ∧ 64 ∉ S) : MV I1 f V := by
  unfold MV at h ⊢
  rw [ha 59 h1.1, ha 64 h1.2]
  exact h
section CST
variable {d f L c s : Nat} {V : Nat → Nat → Nat} {Q : Option Value × xS → Prop} {P : List Nat × Nat × Nat} {I : Nat → Nat → Int32} {J : Nat → Nat → Int64}
theorem p_hasC (hf : f < 3) (hL : L < 2147483648) (h0 : CC I f V) {x y : Int32} (k1 : ∀ k s', k < xcl f → s' < SY k → x = nI k → y = nI s' → Q (some (.int (nI 1)), (xK f L, P, I, J, xFr f c s))) (k0 : (∀ k s', k < xcl f → s' < SY k → x = nI k → y ≠ nI s') → Q (some (.int (nI 0)), (xK f L, P, I, J, xFr f c s))) : Wp d 9 0 [some (.ref 10), some (.int x), some (.int y)] [] (xK f L, P, I, J, xFr f c s) Q := by
  obtain ⟨hS, hc, hV, hB⟩ := h0
  have hx4 := xcl_le f
  refine wX1_has_0 (xK_lt hf hL) rfl rfl ?_
  rw [hc]
  refine ⟨fun c1 => k0 (fun k s' g1 g2 g3 => absurd g3 (nI_no (n := xcl f) (by omega) (Or.inl c1) k g1)), fun c1 => ⟨fun c2 => k0 (fun k s' g1 g2 g3 => absurd g3 (nI_no (n := xcl f) (by omega) (Or.inr c2) k g1)), fun c2 => ?_⟩⟩
  obtain ⟨k, hk, e⟩ := nI_yes (by omega) c1 c2
  have hsy := SY_BS k (by omega)
  refine ⟨fun c3 => k0 (fun k' s' g1 g2 g3 g4 => ?_), fun c3 => ⟨k, e, by omega, ?_⟩⟩
  · rw [g4] at c3
    exact nI_pos (by have := SY_BS k' (by omega); omega) c3
  · rw [(hS k (by omega)).1]
    refine ⟨fun c4 => k0 (fun k' s' g1 g2 g3 g4 => ?_), fun c4 => ?_⟩
    · rw [e, nI_eq (by omega) (by omega)] at g3
      subst g3
      rw [g4, nI_leI (by omega) (by omega)] at c4
      omega
    · obtain ⟨s', hs, e2⟩ := nI_yes (by omega) c3 c4
      exact k1 k s' hk hs e e2
theorem p_of (hf : f < 3) (hL : L < 2147483648) (h0 : CC I f V) {a b : Nat} (ha : a < 4) (hb : b < 2 ^ 24) (k : Q (some (.int (nI (vo V f a b))), (xK f L, P, I, J, xFr f c s))) : Wp (d + 1) 10 0 [some (.ref 10), some (.int (nI a)), some (.int (nI b))] [] (xK f L, P, I, J, xFr f c s) Q := by
  refine wX1_of_0 (xK_lt hf hL) rfl rfl rfl rfl (p_hasC hf hL h0 (fun k' s' g1 g2 g3 g4 => ⟨_, _, _, rfl, ?_⟩) (fun h => ⟨_, _, _, rfl, ?_⟩))
  · have hx4 := xcl_le f
    have hsy := SY_BS k' (by omega)
    have e1 := (nI_eq (by omega) (by omega)).mp g3
    have e2 := (nI_eq (by omega) (by omega)).mp g4
    subst e1 e2
    refine br2 (by decide) ⟨a, rfl, by omega, BS a + b, ?_, by omega, ?_⟩
    · rw [(h0.1 a ha).2.1, nI_add]
    · rw [h0.2.2.1 a b ha g2]
      unfold vo at k
      rw [if_pos ⟨g1, g2⟩] at k
      exact k
  · refine br1 (by decide) ?_
    unfold vo at k
    rw [if_neg (fun z => h a b z.1 z.2 rfl rfl)] at k
    exact k
theorem p_ofX (hf : f < 3) (hL : L < 2147483648) (h0 : CC I f V) {a b : Nat} (ha : a < xcl f) (hb : b < SY a) (k : Q (some (.int (nI (V a b))), (xK f L, P, I, J, xFr f c s))) : Wp (d + 1) 10 0 [some (.ref 10), some (.int (nI a)), some (.int (nI b))] [] (xK f L, P, I, J, xFr f c s) Q := by
  have hx4 := xcl_le f
  have hsy := SY_BS a (by omega)
  refine p_of hf hL h0 (by omega) (by omega) ?_
  unfold vo
  rw [if_pos ⟨ha, hb⟩]
  exact k
theorem p_putC (hf : f < 3) (hL : L < 2147483648) (h0 : CC I f V) {a b : Nat} {v : Int32} (ha : a < xcl f) (hb : b < SY a) (k : Q (none, (xK f L, P, xup I 11 (BS a + b) v, J, xFr f c s))) : Wp (d + 1) 11 0 [some (.ref 10), some (.int (nI a)), some (.int (nI b)), some (.int v)] [] (xK f L, P, I, J, xFr f c s) Q := by
  have hx4 := xcl_le f
  have hsy := SY_BS a (by omega)
  refine wX1_put_0 (xK_lt hf hL) rfl rfl rfl rfl (p_hasC hf hL h0 (fun k' s' g1 g2 g3 g4 => ⟨_, _, _, rfl, ?_⟩) (fun h => absurd rfl (h a b ha hb rfl)))
  refine br2 (by decide) ⟨a, rfl, by omega, BS a + b, ?_, by omega, k⟩
  rw [(h0.1 a (by omega)).2.1, nI_add]
end CST
