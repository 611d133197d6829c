/-! THE TEXT'S COPIES, as numbers: runs to the end, runs from a place -/
def cp (t : Nat → Nat) (d p l : Nat) : Prop := ∀ k, k < l → t (p + k) = t (p + k - d)
theorem rn_iff (t : Nat → Nat) (d : Nat) : ∀ (m p l : Nat), l ≤ rn t d p m ↔ l ≤ m ∧ cp t d p l
  | 0, p, l => by
    constructor
    · intro h
      have h : l ≤ 0 := h
      exact ⟨h, fun k hk => by omega⟩
    · intro h
      exact h.1
  | m + 1, p, l => by
    have ih := rn_iff t d m (p + 1) (l - 1)
    rw [rn]
    by_cases e : t p = t (p - d)
    · rw [if_pos e]
      constructor
      · intro h
        by_cases hl : l = 0
        · subst hl; exact ⟨Nat.zero_le _, fun k hk => by omega⟩
        · obtain ⟨h1, h2⟩ := ih.mp (by omega)
          refine ⟨by omega, fun k hk => ?_⟩
          cases k with
          | zero => exact e
          | succ k =>
            have := h2 k (by omega)
            rw [show p + (k + 1) = p + 1 + k by omega]
            exact this
      · intro ⟨h1, h2⟩
        by_cases hl : l = 0
        · omega
        · have := ih.mpr ⟨by omega, fun k hk => by
            have := h2 (k + 1) (by omega)
            rw [show p + (k + 1) = p + 1 + k by omega] at this
            exact this⟩
          omega
    · rw [if_neg e]
      constructor
      · intro h
        have : l = 0 := by omega
        subst this
        exact ⟨Nat.zero_le _, fun k hk => by omega⟩
      · intro ⟨h1, h2⟩
        by_cases hl : l = 0
        · omega
        · exact absurd (h2 0 (by omega)) e
/-- how many octets that end with octet m - 1 are as those d before -/
def er (t : Nat → Nat) (d : Nat) : Nat → Nat
  | 0 => 0
  | m + 1 => if d ≤ m ∧ t m = t (m - d) then er t d m + 1 else 0
theorem er_iff (t : Nat → Nat) (d : Nat) : ∀ (l p : Nat), 1 ≤ l → (l ≤ er t d (p + l) ↔ d ≤ p ∧ cp t d p l)
  | 0, _, h => by omega
  | l + 1, p, _ => by
    rw [show p + (l + 1) = (p + l) + 1 by omega, er]
    by_cases e : d ≤ p + l ∧ t (p + l) = t (p + l - d)
    · rw [if_pos e]
      by_cases hl : l = 0
      · subst hl
        constructor
        · intro _
          exact ⟨e.1, fun k hk => by
            have : k = 0 := by omega
            subst this
            exact e.2⟩
        · intro _; omega
      · have ih := er_iff t d l p (by omega)
        constructor
        · intro h
          obtain ⟨h1, h2⟩ := ih.mp (by omega)
          refine ⟨h1, fun k hk => ?_⟩
          by_cases hk2 : k = l
          · subst hk2; exact e.2
          · exact h2 k (by omega)
        · intro ⟨h1, h2⟩
          have := ih.mpr ⟨h1, fun k hk => h2 k (by omega)⟩
          omega
    · rw [if_neg e]
      constructor
      · intro h; omega
      · intro ⟨h1, h2⟩
        exact absurd ⟨by omega, h2 l (by omega)⟩ e
theorem er_le (t : Nat → Nat) (d : Nat) : ∀ m, er t d m ≤ m - d
  | 0 => Nat.zero_le _
  | m + 1 => by
    have := er_le t d m
    rw [er]
    split
    · omega
    · omega
theorem er_congr {t t' : Nat → Nat} (d : Nat) : ∀ {m : Nat}, (∀ j, j < m → t' j = t j) → er t' d m = er t d m
  | 0, _ => rfl
  | m + 1, h => by
    have ih := er_congr (t := t) (t' := t') d (m := m) (fun j hj => h j (by omega))
    rw [er, er, ih, h m (by omega), h (m - d) (by omega)]
theorem cp_congr {t t' : Nat → Nat} {d p l n : Nat} (h : ∀ j, j < n → t' j = t j) (hl : p + l ≤ n) : cp t' d p l ↔ cp t d p l := by
  constructor <;> intro g k hk
  · have := g k hk
    rw [h _ (by omega), h _ (by omega)] at this
    exact this
  · rw [h _ (by omega), h _ (by omega)]
    exact g k hk
theorem ndk_congr {g g' : Nat → Nat} {l : Nat} : ∀ {k : Nat}, (∀ b, 1 ≤ b → b ≤ k → (l ≤ g b ↔ l ≤ g' b)) → ndk g l k = ndk g' l k
  | 0, _ => rfl
  | k + 1, h => by
    have ih := ndk_congr (g := g) (g' := g') (l := l) (k := k) (fun b h1 h2 => h b h1 (by omega))
    have h2 := h (k + 1) (by omega) (Nat.le_refl _)
    rw [ndk, ndk, ih]
    by_cases e : l ≤ g (k + 1)
    · rw [if_pos e, if_pos (h2.mp e)]
    · rw [if_neg e, if_neg (fun z => e (h2.mpr z))]
theorem ndk_ext {g : Nat → Nat} {l p : Nat} : ∀ {k : Nat}, p ≤ k → (∀ b, p < b → b ≤ k → ¬ l ≤ g b) → ndk g l k = ndk g l p
  | 0, h, _ => by
    have : p = 0 := by omega
    subst this; rfl
  | k + 1, h, hn => by
    by_cases e : p = k + 1
    · subst e; rfl
    · have ih := ndk_ext (g := g) (l := l) (p := p) (k := k) (by omega) (fun b h1 h2 => hn b h1 (by omega))
      rw [ndk, if_neg (hn (k + 1) (by omega) (Nat.le_refl _)), ih]
      split
      · rename_i z; exact z.symm
      · rfl
theorem mxk_iff (g : Nat → Nat) {l : Nat} (hl : 1 ≤ l) : ∀ k, l ≤ mxk g k ↔ ∃ b, 1 ≤ b ∧ b ≤ k ∧ l ≤ g b
  | 0 => by
    constructor
    · intro h
      have h : l ≤ 0 := h
      omega
    · intro ⟨b, h1, h2, _⟩; omega
  | k + 1 => by
    have ih := mxk_iff g hl k
    rw [mxk]
    constructor
    · intro h
      split at h
      · exact ⟨k + 1, by omega, Nat.le_refl _, h⟩
      · obtain ⟨b, h1, h2, h3⟩ := ih.mp h
        exact ⟨b, h1, by omega, h3⟩
    · intro ⟨b, h1, h2, h3⟩
      by_cases e : b = k + 1
      · subst e
        split <;> omega
      · have := ih.mpr ⟨b, h1, by omega, h3⟩
        split <;> omega
theorem eq_of_le {a b : Nat} (h : ∀ l, 1 ≤ l → (l ≤ a ↔ l ≤ b)) : a = b := by
  apply Nat.le_antisymm
  · by_cases e : a = 0
    · omega
    · exact (h a (by omega)).mp (Nat.le_refl _)
  · by_cases e : b = 0
    · omega
    · exact (h b (by omega)).mpr (Nat.le_refl _)
theorem gl_iff (t : Nat → Nat) (n G i b l : Nat) : l ≤ gl t n G i b ↔ l ≤ G ∧ l ≤ n - i ∧ cp t b i l := by
  have := rn_iff t b (n - i) i l
  unfold gl
  split
  · constructor
    · intro h
      have := this.mp (by omega)
      exact ⟨h, this.1, this.2⟩
    · intro h; exact h.1
  · constructor
    · intro h
      have := this.mp h
      exact ⟨by omega, this.1, this.2⟩
    · intro h
      exact this.mpr h.2
/-- the longest run from a place (a copy's or not) -/
def lr (t : Nat → Nat) (n G p : Nat) : Nat := mxk (gl t n G p) p
theorem lr_iff (t : Nat → Nat) (n G p : Nat) {l : Nat} (hl : 1 ≤ l) : l ≤ lr t n G p ↔ l ≤ G ∧ l ≤ n - p ∧ ∃ d, 1 ≤ d ∧ d ≤ p ∧ cp t d p l := by
  unfold lr
  rw [mxk_iff _ hl]
  constructor
  · intro ⟨b, h1, h2, h3⟩
    have := (gl_iff t n G p b l).mp h3
    exact ⟨this.1, this.2.1, b, h1, h2, this.2.2⟩
  · intro ⟨h1, h2, d, h3, h4, h5⟩
    exact ⟨d, h3, h4, (gl_iff t n G p d l).mpr ⟨h1, h2, h5⟩⟩
/-- the longest copy, 0 when there is none -/
def lc (t : Nat → Nat) (n f p : Nat) : Nat := if xlt f ≤ lr t n (xgt f) p then lr t n (xgt f) p else 0
/-- the least distance of l octets that end with octet m - 1 -/
theorem nd_er (t : Nat → Nat) {n G p l : Nat} (hl : 1 ≤ l) (hG : l ≤ G) (hn : p + l ≤ n) : ndk (fun d => er t d (p + l)) l (p + l - 1) = nd t n G p l := by
  unfold nd
  rw [ndk_ext (p := p) (by omega) (fun b h1 h2 h3 => ?_)]
  · refine ndk_congr (fun b h1 h2 => ?_)
    show l ≤ er t b (p + l) ↔ _
    rw [er_iff t b l p hl, gl_iff]
    constructor
    · intro h; exact ⟨hG, by omega, h.2⟩
    · intro h; exact ⟨h2, h.2.2⟩
  · have h3 : l ≤ er t b (p + l) := h3
    have := (er_iff t b l p hl).mp h3
    omega
def tri (m : Nat) : Nat := m * (m - 1) / 2
theorem tri_succ (m : Nat) : tri (m + 1) = tri m + m := by
  unfold tri
  rw [Nat.add_sub_cancel]
  cases m with
  | zero => rfl
  | succ k =>
    rw [Nat.add_sub_cancel, show (k + 1 + 1) * (k + 1) = (k + 1) * k + (k + 1) * 2 by rw [← Nat.mul_add, Nat.mul_comm], Nat.add_mul_div_right _ _ (by decide)]
theorem tri_mono : ∀ {a b : Nat}, a ≤ b → tri a ≤ tri b
  | a, 0, h => by
    have : a = 0 := by omega
    subst this; exact Nat.le_refl _
  | a, b + 1, h => by
    by_cases e : a = b + 1
    · subst e; exact Nat.le_refl _
    · have := tri_mono (a := a) (b := b) (by omega)
      rw [tri_succ]; omega
/-- cells of the table of nearest distances: last octet a, length l -/
def nix (a l : Nat) : Nat := tri a + l - 1
theorem nix_lt {a l : Nat} (h1 : 1 ≤ l) (h2 : l ≤ a) (ha : a < 300) : nix a l < 44850 := by
  have h3 : tri (a + 1) ≤ tri 300 := tri_mono (by omega)
  have h4 : tri 300 = 44850 := by decide
  rw [tri_succ] at h3
  unfold nix
  omega
theorem nix_ne {a l a' l' : Nat} (h1 : 1 ≤ l) (h2 : l ≤ a) (h1' : 1 ≤ l') (h2' : l' ≤ a') (h : a' < a) : nix a l ≠ nix a' l' := by
  have h3 : tri (a' + 1) ≤ tri a := tri_mono (by omega)
  rw [tri_succ] at h3
  unfold nix
  omega
theorem nix_ne2 {a l l' : Nat} (h1 : 1 ≤ l) (h1' : 1 ≤ l') (h : l ≠ l') : nix a l ≠ nix a l' := by
  unfold nix
  omega
section TX
variable {d f L c s : Nat} {Q : Option Value × xS → Prop} {P : List Nat × Nat × Nat} {I : Nat → Nat → Int32} {J : Nat → Nat → Int64} {K : Nat → Nat × Nat} {F : Nat → Nat → Option Nat}
theorem p_nearestIndex {a l : Nat} (ha : 1 ≤ a) (ha2 : a < 1000) (hl : 1 ≤ l) (hl2 : l < 1000) (k : Q (some (.int (nI (nix a l))), (K, P, I, J, F))) : Wp d 72 0 [some (.int (nI a)), some (.int (nI l))] [] (K, P, I, J, F) Q := by
  refine wX9_nearestIndex_0 ⟨by decide, ?_⟩
  have h1 : a * (a - 1) < 1000000 := by
    have : a * (a - 1) ≤ 999 * 999 := Nat.mul_le_mul (by omega) (by omega)
    omega
  rw [pk_sub ha, pk_mul, pk_div (by omega) (by decide) (by decide), nI_add, pk_sub (by omega)]
  exact k
end TX
