/-! ROWS OUT OF A TRACE from the end back -/
theorem tr_psn {t : Nat → Nat} {m n : Nat} {tp : Nat → Nat} {T : Nat → xSt} (hm : tp m = 0) (hj : ∀ j, j < m → tp j = tp (j + 1) + (T j).2.2.1) : ∀ i, i ≤ m → psn (fun i => T (m - 1 - i)) i = tp (m - i)
  | 0, _ => by rw [Nat.sub_zero, hm]; rfl
  | i + 1, hi => by
    rw [psn, tr_psn (t := t) (n := n) hm hj i (by omega), hj (m - (i + 1)) (by omega), show m - (i + 1) + 1 = m - i by omega, show m - 1 - i = m - (i + 1) by omega]
theorem tr_VS {t : Nat → Nat} {f m n : Nat} {tp : Nat → Nat} {T : Nat → xSt} (h0 : tp 0 = n) (hm : tp m = 0) (ho : ∀ j, j < m → okS t f (T j) ∧ (T j).2.1 = tp (j + 1)) (hj : ∀ j, j < m → tp j = tp (j + 1) + (T j).2.2.1) : VS t f n m (fun i => T (m - 1 - i)) := by
  refine ⟨fun i hi => ⟨(ho _ (by omega)).1, ?_⟩, ?_⟩
  · rw [tr_psn (t := t) (n := n) hm hj i (by omega), (ho _ (by omega)).2]
    congr 1
    omega
  · rw [tr_psn (t := t) (n := n) hm hj m (Nat.le_refl _), Nat.sub_self, h0]
theorem tr_cost {V : Nat → Nat → Nat} {t : Nat → Nat} {f m : Nat} {T : Nat → xSt} {g : Nat → Nat} (hm : g m = 0) (hj : ∀ j, j < m → g j = g (j + 1) + scq V f t (T j)) : ∀ i, i ≤ m → scs V f t (fun i => T (m - 1 - i)) i = g (m - i)
  | 0, _ => by rw [Nat.sub_zero, hm]; rfl
  | i + 1, hi => by
    rw [scs, tr_cost hm hj i (by omega), hj (m - (i + 1)) (by omega), show m - (i + 1) + 1 = m - i by omega, show m - 1 - i = m - (i + 1) by omega]
/-! FORM 0, as numbers: of each place the least sum, and the last step's length -/
def dv (far : Nat) : Option (Nat × Nat) → Nat
  | none => far
  | some q => q.1
def dl : Option (Nat × Nat) → Nat
  | none => 0
  | some q => q.2
def bst (o : Option (Nat × Nat)) (q : Nat × Nat) : Option (Nat × Nat) := match o with
  | none => some q
  | some q' => if q.1 < q'.1 then some q else some q'
abbrev xD : Type := Nat → Option (Nat × Nat)
def c0 (V : Nat → Nat → Nat) (t : Nat → Nat) (n p l : Nat) : Nat := if l = 1 then V 0 (t p) else lco V 0 l + dco V (nd t n 258 p l)
def ld (V : Nat → Nat → Nat) (t : Nat → Nat) (n : Nat) (D : xD) (p l : Nat) : xD := va_up D (p + l) (bst (D (p + l)) (dv 0 (D p) + c0 V t n p l, l))
def ldn (V : Nat → Nat → Nat) (t : Nat → Nat) (n p : Nat) (D : xD) : Nat → xD
  | 0 => D
  | l + 1 => if l + 1 < 3 then D else ldn V t n p (ld V t n D p (l + 1)) l
def dp0 (V : Nat → Nat → Nat) (t : Nat → Nat) (n : Nat) : Nat → xD
  | 0 => fun i => if i = 0 then some (0, 0) else none
  | p + 1 => ld V t n (ldn V t n p (dp0 V t n p) (lc t n 0 p)) p 1
/-- what holds of the places when those before p have led on -/
def D0 (V : Nat → Nat → Nat) (t : Nat → Nat) (n p : Nat) (D : xD) : Prop := D 0 = some (0, 0) ∧ (∀ i, i < p → D (i + 1) ≠ none) ∧
  ∀ i q, i ≠ 0 → D i = some q → 1 ≤ q.2 ∧ q.2 ≤ i ∧ i - q.2 < p + 1 ∧ i ≤ n ∧ (q.2 = 1 ∨ (3 ≤ q.2 ∧ q.2 ≤ lc t n 0 (i - q.2))) ∧ D (i - q.2) ≠ none ∧ q.1 = dv 0 (D (i - q.2)) + c0 V t n (i - q.2) q.2 ∧ q.1 ≤ 31024 * i
theorem bst_some (o : Option (Nat × Nat)) (q : Nat × Nat) : bst o q ≠ none := by
  cases o with
  | none => exact fun h => by cases h
  | some q' =>
    unfold bst
    dsimp only
    split
    · exact fun h => by cases h
    · exact fun h => by cases h
theorem bst_cases (o : Option (Nat × Nat)) (q : Nat × Nat) : bst o q = some q ∨ bst o q = o := by
  cases o with
  | none => exact Or.inl rfl
  | some q' =>
    unfold bst
    dsimp only
    split
    · exact Or.inl rfl
    · exact Or.inr rfl
theorem c0_le {V : Nat → Nat → Nat} (hB : VB V) {t : Nat → Nat} {n p l : Nat} (hn : n ≤ 300) (ht : t p < 256) (hp : p < n) (hl : l < 301) : c0 V t n p l ≤ 31024 := by
  unfold c0
  have h1 := (hB 0 (t p) (by decide) ht).2
  have h2 := (lco_le hB 0 hl).2
  have h3 : nd t n 258 p l ≤ p := ndk_le _ _ _
  have h4 := (dco_le hB (b := nd t n 258 p l) (by omega)).2
  split <;> omega
theorem ld_ok {V : Nat → Nat → Nat} (hB : VB V) {t : Nat → Nat} {n p l : Nat} {D : xD} (hn : n ≤ 300) (ht : ∀ j, j < n → t j < 256) (hp : p < n) (h : D0 V t n p D) (hl : l = 1 ∨ (3 ≤ l ∧ l ≤ lc t n 0 p)) : D0 V t n p (ld V t n D p l) ∧ (∀ i, i ≤ p → ld V t n D p l i = D i) ∧ ld V t n D p l (p + l) ≠ none ∧ p + l ≤ n := by
  have hl1 : 1 ≤ l := by omega
  have hpl : p + l ≤ n := by
    rcases hl with hl | hl
    · omega
    · have := lc_ok (t := t) (n := n) (f := 0) (i := p) (by omega)
      omega
  have hlow : ∀ i, i ≤ p → ld V t n D p l i = D i := fun i hi => va_up_ne _ _ (by omega)
  have hDp : D p ≠ none := by
    by_cases e : p = 0
    · rw [e, h.1]; exact fun z => by cases z
    · have := h.2.1 (p - 1) (by omega)
      rw [show p - 1 + 1 = p by omega] at this
      exact this
  have hDpv : dv 0 (D p) ≤ 31024 * p := by
    cases hq : D p with
    | none => exact absurd hq hDp
    | some q =>
      by_cases e : p = 0
      · rw [e, h.1] at hq
        cases hq
        exact Nat.zero_le _
      · exact (h.2.2 p q e hq).2.2.2.2.2.2.2
  refine ⟨⟨?_, fun i hi => ?_, fun i q hi hq => ?_⟩, hlow, ?_, hpl⟩
  · rw [hlow 0 (by omega)]
    exact h.1
  · by_cases e : i + 1 = p + l
    · unfold ld
      rw [e, va_up_self]
      exact bst_some _ _
    · unfold ld
      rw [va_up_ne _ _ e]
      exact h.2.1 i hi
  · have key : ∀ q', D i = some q' → 1 ≤ q'.2 ∧ q'.2 ≤ i ∧ i - q'.2 < p + 1 ∧ i ≤ n ∧ (q'.2 = 1 ∨ (3 ≤ q'.2 ∧ q'.2 ≤ lc t n 0 (i - q'.2))) ∧ ld V t n D p l (i - q'.2) ≠ none ∧ q'.1 = dv 0 (ld V t n D p l (i - q'.2)) + c0 V t n (i - q'.2) q'.2 ∧ q'.1 ≤ 31024 * i := by
      intro q' hq'
      have := h.2.2 i q' hi hq'
      rw [hlow (i - q'.2) (by omega)]
      exact this
    by_cases e : i = p + l
    · unfold ld at hq
      rw [e, va_up_self] at hq
      rcases bst_cases (D (p + l)) (dv 0 (D p) + c0 V t n p l, l) with z | z
      · rw [z] at hq
        cases hq
        show 1 ≤ l ∧ l ≤ i ∧ i - l < p + 1 ∧ i ≤ n ∧ (l = 1 ∨ (3 ≤ l ∧ l ≤ lc t n 0 (i - l))) ∧ ld V t n D p l (i - l) ≠ none ∧ dv 0 (D p) + c0 V t n p l = dv 0 (ld V t n D p l (i - l)) + c0 V t n (i - l) l ∧ dv 0 (D p) + c0 V t n p l ≤ 31024 * i
        rw [show i - l = p by omega, hlow p (Nat.le_refl _)]
        have hlt : l < 301 := by omega
        have hc := c0_le hB hn (ht p hp) hp hlt
        refine ⟨hl1, by omega, by omega, by omega, hl, hDp, rfl, ?_⟩
        have : 31024 * i = 31024 * p + 31024 * l := by rw [e, Nat.mul_add]
        omega
      · rw [z] at hq
        exact key q (by rw [e]; exact hq)
    · unfold ld at hq
      rw [va_up_ne _ _ e] at hq
      exact key q hq
  · unfold ld
    rw [va_up_self]
    exact bst_some _ _
theorem ldn_ok {V : Nat → Nat → Nat} (hB : VB V) {t : Nat → Nat} {n p : Nat} (hn : n ≤ 300) (ht : ∀ j, j < n → t j < 256) (hp : p < n) : ∀ (l : Nat) (D : xD), D0 V t n p D → l ≤ lc t n 0 p → D0 V t n p (ldn V t n p D l) ∧ ∀ i, i ≤ p → ldn V t n p D l i = D i
  | 0, D, h, _ => ⟨h, fun _ _ => rfl⟩
  | l + 1, D, h, hl => by
    rw [ldn]
    by_cases e : l + 1 < 3
    · rw [if_pos e]
      exact ⟨h, fun _ _ => rfl⟩
    · rw [if_neg e]
      have h1 := ld_ok hB hn ht hp h (l := l + 1) (Or.inr ⟨by omega, hl⟩)
      have h2 := ldn_ok hB hn ht hp l _ h1.1 (by omega)
      exact ⟨h2.1, fun i hi => by rw [h2.2 i hi, h1.2.1 i hi]⟩
theorem dp0_ok {V : Nat → Nat → Nat} (hB : VB V) {t : Nat → Nat} {n : Nat} (hn : n ≤ 300) (ht : ∀ j, j < n → t j < 256) : ∀ p, p ≤ n → D0 V t n p (dp0 V t n p)
  | 0, _ => by
    refine ⟨rfl, fun i hi => by omega, fun i q hi hq => ?_⟩
    rw [dp0] at hq
    dsimp only at hq
    rw [if_neg hi] at hq
    cases hq
  | p + 1, hp => by
    have h1 := dp0_ok hB hn ht p (by omega)
    have h2 := ldn_ok hB hn ht (p := p) (by omega) (lc t n 0 p) _ h1 (Nat.le_refl _)
    have h3 := ld_ok hB hn ht (p := p) (by omega) h2.1 (l := 1) (Or.inl rfl)
    rw [dp0]
    refine ⟨h3.1.1, fun i hi => ?_, fun i q hi hq => ?_⟩
    · by_cases e : i = p
      · subst e; exact h3.2.2.1
      · exact h3.1.2.1 i (by omega)
    · have := h3.1.2.2 i q hi hq
      refine ⟨this.1, this.2.1, by omega, this.2.2.2⟩
/-- back from the end -/
def tp0 (D : xD) (n : Nat) : Nat → Nat
  | 0 => n
  | j + 1 => tp0 D n j - dl (D (tp0 D n j))
def T0 (t : Nat → Nat) (D : xD) (n j : Nat) : xSt := if dl (D (tp0 D n j)) = 1 then (0, tp0 D n (j + 1), 1, 0) else (1, tp0 D n (j + 1), dl (D (tp0 D n j)), nd t n 258 (tp0 D n (j + 1)) (dl (D (tp0 D n j))))
def TM (D : xD) (n m : Nat) : Prop := tp0 D n m = 0 ∧ ∀ j, j < m → tp0 D n j ≠ 0
theorem TM.uniq {D : xD} {n m m' : Nat} (h : TM D n m) (h' : TM D n m') : m = m' := by
  rcases Nat.lt_trichotomy m m' with z | z | z
  · exact absurd h.1 (h'.2 m z)
  · exact z
  · exact absurd h'.1 (h.2 m' z)
theorem D0.at {V : Nat → Nat → Nat} {t : Nat → Nat} {n : Nat} {D : xD} (h : D0 V t n n D) {i : Nat} (hi : i ≤ n) (h0 : i ≠ 0) : ∃ q, D i = some q ∧ 1 ≤ q.2 ∧ q.2 ≤ i ∧ (q.2 = 1 ∨ (3 ≤ q.2 ∧ q.2 ≤ lc t n 0 (i - q.2))) ∧ q.1 = dv 0 (D (i - q.2)) + c0 V t n (i - q.2) q.2 ∧ q.1 ≤ 31024 * i := by
  have h1 := h.2.1 (i - 1) (by omega)
  rw [show i - 1 + 1 = i by omega] at h1
  cases hq : D i with
  | none => exact absurd hq h1
  | some q =>
    have := h.2.2 i q h0 hq
    exact ⟨q, rfl, this.1, this.2.1, this.2.2.2.2.1, this.2.2.2.2.2.2.1, this.2.2.2.2.2.2.2⟩
theorem tp0_le (D : xD) (n : Nat) : ∀ j, tp0 D n j ≤ n
  | 0 => Nat.le_refl _
  | j + 1 => by
    have := tp0_le D n j
    rw [tp0]
    omega
theorem T0_ok {V : Nat → Nat → Nat} {t : Nat → Nat} {n : Nat} {D : xD} (hn : n ≤ 300) (h : D0 V t n n D) {m : Nat} (hm : TM D n m) : (∀ j, j < m → okS t 0 (T0 t D n j) ∧ (T0 t D n j).2.1 = tp0 D n (j + 1)) ∧ (∀ j, j < m → tp0 D n j = tp0 D n (j + 1) + (T0 t D n j).2.2.1) ∧ (∀ j, j < m → dv 0 (D (tp0 D n j)) = dv 0 (D (tp0 D n (j + 1))) + scq V 0 t (T0 t D n j)) := by
  have key : ∀ j, j < m → ∃ q, D (tp0 D n j) = some q ∧ 1 ≤ q.2 ∧ q.2 ≤ tp0 D n j ∧ (q.2 = 1 ∨ (3 ≤ q.2 ∧ q.2 ≤ lc t n 0 (tp0 D n j - q.2))) ∧ q.1 = dv 0 (D (tp0 D n j - q.2)) + c0 V t n (tp0 D n j - q.2) q.2 ∧ q.1 ≤ 31024 * tp0 D n j := fun j hj => h.at (tp0_le D n j) (hm.2 j hj)
  refine ⟨fun j hj => ?_, fun j hj => ?_, fun j hj => ?_⟩
  · obtain ⟨q, h1, h2, h3, h4, h5, h6⟩ := key j hj
    have hnx : tp0 D n (j + 1) = tp0 D n j - q.2 := by rw [tp0, h1]; rfl
    unfold T0
    rw [h1]
    show okS t 0 (if q.2 = 1 then _ else _) ∧ _
    by_cases e : q.2 = 1
    · rw [if_pos e]
      show _ ∧ (if q.2 = 1 then _ else _ : xSt).2.1 = _
      rw [if_pos e]
      exact ⟨Or.inl ⟨rfl, rfl, rfl⟩, rfl⟩
    · rw [if_neg e]
      show _ ∧ (if q.2 = 1 then _ else _ : xSt).2.1 = _
      rw [if_neg e]
      have h7 : 3 ≤ q.2 ∧ q.2 ≤ lc t n 0 (tp0 D n (j + 1)) := by
        rw [hnx]
        omega
      have hc := lc_ok (t := t) (n := n) (f := 0) (i := tp0 D n (j + 1)) (by omega)
      have hd := nd_ok (t := t) (n := n) (G := 258) (i := tp0 D n (j + 1)) (l := q.2) (by omega) (by
        have e2 : xgt 0 = 258 := rfl
        rw [e2] at hc
        omega)
      exact ⟨Or.inr (Or.inl ⟨Nat.le_refl 1, by show 1 ≤ 5; decide, h7.1, by show q.2 ≤ 300; have := xgt_le 0; omega, hd.1, hd.2.1, hd.2.2⟩), rfl⟩
  · obtain ⟨q, h1, h2, h3, h4, h5, h6⟩ := key j hj
    have hnx : tp0 D n (j + 1) = tp0 D n j - q.2 := by rw [tp0, h1]; rfl
    unfold T0
    rw [h1]
    show _ = _ + (if q.2 = 1 then _ else _ : xSt).2.2.1
    by_cases e : q.2 = 1
    · rw [if_pos e]
      show _ = _ + 1
      omega
    · rw [if_neg e]
      show _ = _ + q.2
      omega
  · obtain ⟨q, h1, h2, h3, h4, h5, h6⟩ := key j hj
    have hnx : tp0 D n (j + 1) = tp0 D n j - q.2 := by rw [tp0, h1]; rfl
    have e0 : dv 0 (D (tp0 D n j)) = q.1 := by rw [h1]; rfl
    rw [e0, h5, ← hnx]
    unfold T0
    rw [h1]
    show _ = _ + scq V 0 t (if q.2 = 1 then _ else _)
    unfold c0
    by_cases e : q.2 = 1
    · rw [if_pos e, if_pos e]
      show _ = _ + (V 0 (t (tp0 D n (j + 1))) + 0)
      rfl
    · rw [if_neg e, if_neg e]
      show _ = _ + (0 + lco V 0 q.2 + dco V (nd t n 258 (tp0 D n (j + 1)) q.2))
      rw [Nat.zero_add]
theorem slot_ok {V : Nat → Nat → Nat} (hB : VB V) {t : Nat → Nat} {n : Nat} (hn : n ≤ 300) (ht : ∀ j, j < n → t j < 256) {m : Nat} (hm : TM (dp0 V t n n) n m) : VS t 0 n m (fun i => T0 t (dp0 V t n n) n (m - 1 - i)) ∧ allc V 0 t (fun i => T0 t (dp0 V t n n) n (m - 1 - i)) m = dv 0 (dp0 V t n n n) := by
  have h := dp0_ok hB hn ht n (Nat.le_refl _)
  have h1 := T0_ok hn h hm
  refine ⟨tr_VS rfl hm.1 h1.1 h1.2.1, ?_⟩
  unfold allc
  rw [if_neg (by decide), tr_cost (g := fun j => dv 0 (dp0 V t n n (tp0 (dp0 V t n n) n j))) (by
    show dv 0 (dp0 V t n n (tp0 (dp0 V t n n) n m)) = 0
    rw [hm.1, h.1]
    rfl) h1.2.2 m (Nat.le_refl _), Nat.sub_self]
  rfl
