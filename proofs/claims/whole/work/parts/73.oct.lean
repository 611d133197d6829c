/-! FORM 1, as numbers: D of a place is its state without literals: its sum and the copy's length -/
def fa (D : xD) (i : Nat) : Nat → Option (Nat × Nat)
  | 0 => none
  | r + 1 => match D (i - r) with
    | none => fa D i r
    | some q => bst (fa D i r) (q.1 + lt1 r, r)
def fs (D : xD) (i : Nat) : Nat := dv 0 (fa D i (i + 1))
def fl (D : xD) (i : Nat) : Nat := dl (fa D i (i + 1))
theorem fa_cg {D D' : xD} {i : Nat} (h : ∀ j, j ≤ i → D' j = D j) : ∀ r, fa D' i r = fa D i r
  | 0 => rfl
  | r + 1 => by rw [fa, fa, h (i - r) (by omega), fa_cg h r]
theorem fs_cg {D D' : xD} {i : Nat} (h : ∀ j, j ≤ i → D' j = D j) : fs D' i = fs D i := by unfold fs; rw [fa_cg h]
theorem fl_cg {D D' : xD} {i : Nat} (h : ∀ j, j ≤ i → D' j = D j) : fl D' i = fl D i := by unfold fl; rw [fa_cg h]
theorem fa_ok {D : xD} {i : Nat} : ∀ r o, fa D i r = some o → ∃ q, D (i - o.2) = some q ∧ o.1 = q.1 + lt1 o.2 ∧ o.2 < r
  | 0, o, h => by cases h
  | r + 1, o, h => by
    rw [fa] at h
    cases hq : D (i - r) with
    | none =>
      rw [hq] at h
      obtain ⟨q, h1, h2, h3⟩ := fa_ok r o h
      exact ⟨q, h1, h2, by omega⟩
    | some q =>
      rw [hq] at h
      rcases bst_cases (fa D i r) (q.1 + lt1 r, r) with z | z
      · have z2 : some (q.1 + lt1 r, r) = some o := z.symm.trans h
        cases z2
        exact ⟨q, hq, rfl, by omega⟩
      · have z2 : fa D i r = some o := z.symm.trans h
        obtain ⟨q', h1, h2, h3⟩ := fa_ok r o z2
        exact ⟨q', h1, h2, by omega⟩
theorem fa_some {D : xD} {i : Nat} (h0 : D 0 = some (0, 0)) : ∃ o, fa D i (i + 1) = some o := by
  rw [fa, Nat.sub_self, h0]
  dsimp only
  cases h : bst (fa D i i) (0 + lt1 i, i) with
  | none => exact absurd h (bst_some _ _)
  | some o => exact ⟨o, rfl⟩
theorem fs_ok {D : xD} {i : Nat} (h0 : D 0 = some (0, 0)) : ∃ q, D (i - fl D i) = some q ∧ fs D i = q.1 + lt1 (fl D i) ∧ fl D i ≤ i := by
  obtain ⟨o, ho⟩ := fa_some (i := i) h0
  obtain ⟨q, h1, h2, h3⟩ := fa_ok (i + 1) o ho
  have e1 : fl D i = o.2 := by unfold fl; rw [ho]; rfl
  have e2 : fs D i = o.1 := by unfold fs; rw [ho]; rfl
  rw [e1, e2]
  exact ⟨q, h1, h2, by omega⟩
def ld1 (D : xD) (p l : Nat) : xD := va_up D (p + l) (bst (D (p + l)) (fs D p + cp1 l, l))
def ldn1 (p : Nat) (D : xD) : Nat → xD
  | 0 => D
  | l + 1 => if l + 1 < 4 then D else ldn1 p (ld1 D p (l + 1)) l
def dp1 (t : Nat → Nat) (n : Nat) : Nat → xD
  | 0 => fun i => if i = 0 then some (0, 0) else none
  | p + 1 => ldn1 p (dp1 t n p) (lc t n 1 p)
def D1 (t : Nat → Nat) (n p : Nat) (D : xD) : Prop := D 0 = some (0, 0) ∧ ∀ i q, i ≠ 0 → D i = some q → 4 ≤ q.2 ∧ q.2 ≤ i ∧ i - q.2 < p ∧ i ≤ n ∧ q.2 ≤ lc t n 1 (i - q.2) ∧ q.1 = fs D (i - q.2) + cp1 q.2 ∧ q.1 ≤ 2560 * i
theorem D1.fs_le {t : Nat → Nat} {n p : Nat} {D : xD} (h : D1 t n p D) {i : Nat} (hi : i ≤ 300) : fs D i ≤ 2560 * i ∧ fl D i ≤ i := by
  obtain ⟨q, h1, h2, h3⟩ := fs_ok (i := i) h.1
  have h4 : q.1 ≤ 2560 * (i - fl D i) := by
    by_cases e : i - fl D i = 0
    · rw [e, h.1] at h1
      cases h1
      exact Nat.zero_le _
    · exact (h.2 _ q e h1).2.2.2.2.2.2
  have h5 := (lt1_le (fl D i) (by omega)).2.2
  refine ⟨?_, h3⟩
  rw [h2]
  have : 2560 * i = 2560 * (i - fl D i) + 2560 * fl D i := by rw [← Nat.mul_add]; congr 1; omega
  omega
theorem ld1_ok {t : Nat → Nat} {n p l : Nat} {D : xD} (hn : n ≤ 300) (hp : p < n) (h : D1 t n (p + 1) D) (hl : 4 ≤ l) (hl2 : l ≤ lc t n 1 p) : D1 t n (p + 1) (ld1 D p l) ∧ (∀ i, i ≤ p → ld1 D p l i = D i) ∧ p + l ≤ n := by
  have hpl : p + l ≤ n := by
    have := lc_ok (t := t) (n := n) (f := 1) (i := p) (by omega)
    omega
  have hlow : ∀ i, i ≤ p → ld1 D p l i = D i := fun i hi => va_up_ne _ _ (by omega)
  refine ⟨⟨?_, fun i q hi hq => ?_⟩, hlow, hpl⟩
  · rw [hlow 0 (by omega)]
    exact h.1
  · have key : ∀ q', D i = some q' → 4 ≤ q'.2 ∧ q'.2 ≤ i ∧ i - q'.2 < p + 1 ∧ i ≤ n ∧ q'.2 ≤ lc t n 1 (i - q'.2) ∧ q'.1 = fs (ld1 D p l) (i - q'.2) + cp1 q'.2 ∧ q'.1 ≤ 2560 * i := by
      intro q' hq'
      have := h.2 i q' hi hq'
      rw [fs_cg (D := D) (fun j hj => hlow j (by omega))]
      exact this
    by_cases e : i = p + l
    · unfold ld1 at hq
      rw [e, va_up_self] at hq
      rcases bst_cases (D (p + l)) (fs D p + cp1 l, l) with z | z
      · rw [z] at hq
        cases hq
        show 4 ≤ l ∧ l ≤ i ∧ i - l < p + 1 ∧ i ≤ n ∧ l ≤ lc t n 1 (i - l) ∧ fs D p + cp1 l = fs (ld1 D p l) (i - l) + cp1 l ∧ fs D p + cp1 l ≤ 2560 * i
        rw [show i - l = p by omega, fs_cg (D := D) (fun j hj => hlow j hj)]
        have h1 := (h.fs_le (i := p) (by omega)).1
        have h2 := cp1_le l (by omega)
        refine ⟨hl, by omega, by omega, by omega, hl2, rfl, ?_⟩
        have : 2560 * i = 2560 * p + 2560 * l := by rw [e, Nat.mul_add]
        omega
      · rw [z] at hq
        exact key q (by rw [e]; exact hq)
    · unfold ld1 at hq
      rw [va_up_ne _ _ e] at hq
      exact key q hq
theorem ldn1_ok {t : Nat → Nat} {n p : Nat} (hn : n ≤ 300) (hp : p < n) : ∀ (l : Nat) (D : xD), D1 t n (p + 1) D → l ≤ lc t n 1 p → D1 t n (p + 1) (ldn1 p D l) ∧ ∀ i, i ≤ p → ldn1 p D l i = D i
  | 0, D, h, _ => ⟨h, fun _ _ => rfl⟩
  | l + 1, D, h, hl => by
    rw [ldn1]
    by_cases e : l + 1 < 4
    · rw [if_pos e]
      exact ⟨h, fun _ _ => rfl⟩
    · rw [if_neg e]
      have h1 := ld1_ok hn hp h (l := l + 1) (by omega) hl
      have h2 := ldn1_ok hn hp l _ h1.1 (by omega)
      exact ⟨h2.1, fun i hi => by rw [h2.2 i hi, h1.2.1 i hi]⟩
theorem D1.up {t : Nat → Nat} {n p : Nat} {D : xD} (h : D1 t n p D) : D1 t n (p + 1) D := ⟨h.1, fun i q hi hq => by
  have := h.2 i q hi hq
  exact ⟨this.1, this.2.1, by omega, this.2.2.2⟩⟩
theorem dp1_ok {t : Nat → Nat} {n : Nat} (hn : n ≤ 300) : ∀ p, p ≤ n → D1 t n p (dp1 t n p)
  | 0, _ => by
    refine ⟨rfl, fun i q hi hq => ?_⟩
    rw [dp1] at hq
    dsimp only at hq
    rw [if_neg hi] at hq
    cases hq
  | p + 1, hp => (ldn1_ok hn (by omega) (lc t n 1 p) _ (dp1_ok hn p (by omega)).up (Nat.le_refl _)).1
/-- back from the end: a place, and how many literals stand before it -/
def tp1 (D : xD) (n : Nat) : Nat → Nat × Nat
  | 0 => (n, fl D n)
  | j + 1 => if 0 < (tp1 D n j).2 then ((tp1 D n j).1 - 1, (tp1 D n j).2 - 1) else ((tp1 D n j).1 - dl (D (tp1 D n j).1), fl D ((tp1 D n j).1 - dl (D (tp1 D n j).1)))
def T1 (t : Nat → Nat) (D : xD) (n j : Nat) : xSt := if 0 < (tp1 D n j).2 then (0, (tp1 D n (j + 1)).1, 1, 0) else (1, (tp1 D n (j + 1)).1, dl (D (tp1 D n j).1), nd t n 300 (tp1 D n (j + 1)).1 (dl (D (tp1 D n j).1)))
def TM1 (D : xD) (n m : Nat) : Prop := (tp1 D n m).1 = 0 ∧ ∀ j, j < m → (tp1 D n j).1 ≠ 0
theorem TM1.uniq {D : xD} {n m m' : Nat} (h : TM1 D n m) (h' : TM1 D n m') : m = m' := by
  rcases Nat.lt_trichotomy m m' with z | z | z
  · exact absurd h.1 (h'.2 m z)
  · exact z
  · exact absurd h'.1 (h.2 m' z)
/-- each state on the way is one -/
theorem tp1_ok {t : Nat → Nat} {n : Nat} {D : xD} (hn : n ≤ 300) (h : D1 t n n D) : ∀ j, (∀ j', j' < j → (tp1 D n j').1 ≠ 0) → (tp1 D n j).1 + j ≤ n ∧ (tp1 D n j).2 ≤ (tp1 D n j).1 ∧ D ((tp1 D n j).1 - (tp1 D n j).2) ≠ none
  | 0, _ => by
    obtain ⟨q, h1, h2, h3⟩ := fs_ok (i := n) h.1
    refine ⟨Nat.le_refl _, h3, ?_⟩
    show D (n - fl D n) ≠ none
    rw [h1]
    exact fun z => by cases z
  | j + 1, hj => by
    have h1 := tp1_ok hn h j (fun j' hj' => hj j' (by omega))
    have h2 := hj j (by omega)
    rw [tp1]
    by_cases e : 0 < (tp1 D n j).2
    · rw [if_pos e]
      refine ⟨by show (tp1 D n j).1 - 1 + (j + 1) ≤ n; omega, by show (tp1 D n j).2 - 1 ≤ (tp1 D n j).1 - 1; omega, ?_⟩
      show D ((tp1 D n j).1 - 1 - ((tp1 D n j).2 - 1)) ≠ none
      rw [show (tp1 D n j).1 - 1 - ((tp1 D n j).2 - 1) = (tp1 D n j).1 - (tp1 D n j).2 by omega]
      exact h1.2.2
    · rw [if_neg e]
      have e0 : (tp1 D n j).2 = 0 := by omega
      have h3 := h1.2.2
      rw [e0, Nat.sub_zero] at h3
      cases hq : D (tp1 D n j).1 with
      | none => exact absurd hq h3
      | some q =>
        have h4 := h.2 _ q h2 hq
        obtain ⟨q', g1, g2, g3⟩ := fs_ok (i := (tp1 D n j).1 - q.2) h.1
        refine ⟨?_, g3, ?_⟩
        · show (tp1 D n j).1 - q.2 + (j + 1) ≤ n
          omega
        · show D ((tp1 D n j).1 - q.2 - fl D ((tp1 D n j).1 - q.2)) ≠ none
          rw [g1]
          exact fun z => by cases z
/-- a state without literals, behind the beginning -/
theorem tp1_cp {t : Nat → Nat} {n : Nat} {D : xD} (hn : n ≤ 300) (h : D1 t n n D) {j : Nat} (hj : ∀ j', j' < j → (tp1 D n j').1 ≠ 0) (h0 : (tp1 D n j).1 ≠ 0) (hr : (tp1 D n j).2 = 0) : ∃ q, D (tp1 D n j).1 = some q ∧ 4 ≤ q.2 ∧ q.2 ≤ (tp1 D n j).1 ∧ q.2 ≤ lc t n 1 ((tp1 D n j).1 - q.2) ∧ q.1 = fs D ((tp1 D n j).1 - q.2) + cp1 q.2 ∧ tp1 D n (j + 1) = ((tp1 D n j).1 - q.2, fl D ((tp1 D n j).1 - q.2)) := by
  have h1 := tp1_ok hn h j hj
  have h3 := h1.2.2
  rw [hr, Nat.sub_zero] at h3
  cases hq : D (tp1 D n j).1 with
  | none => exact absurd hq h3
  | some q =>
    have h4 := h.2 _ q h0 hq
    refine ⟨q, rfl, h4.1, h4.2.1, h4.2.2.2.2.1, h4.2.2.2.2.2.1, ?_⟩
    rw [tp1, if_neg (by omega), hq]
    rfl
theorem T1_ok {t : Nat → Nat} {n : Nat} {D : xD} (hn : n ≤ 300) (h : D1 t n n D) {m : Nat} (hm : TM1 D n m) : (∀ j, j < m → okS t 1 (T1 t D n j) ∧ (T1 t D n j).2.1 = (tp1 D n (j + 1)).1) ∧ (∀ j, j < m → (tp1 D n j).1 = (tp1 D n (j + 1)).1 + (T1 t D n j).2.2.1) := by
  refine ⟨fun j hj => ?_, fun j hj => ?_⟩
  · have hj' : ∀ j', j' < j → (tp1 D n j').1 ≠ 0 := fun j' z => hm.2 j' (by omega)
    unfold T1
    by_cases e : 0 < (tp1 D n j).2
    · rw [if_pos e]
      exact ⟨Or.inl ⟨rfl, rfl, rfl⟩, rfl⟩
    · rw [if_neg e]
      obtain ⟨q, h1, h2, h3, h4, h5, h6⟩ := tp1_cp hn h hj' (hm.2 j hj) (by omega)
      have hdl : dl (D (tp1 D n j).1) = q.2 := by rw [h1]; rfl
      rw [hdl, h6]
      have hc := lc_ok (t := t) (n := n) (f := 1) (i := (tp1 D n j).1 - q.2) (by omega)
      rw [show xgt 1 = 300 from rfl] at hc
      have hd := nd_ok (t := t) (n := n) (G := 300) (i := (tp1 D n j).1 - q.2) (l := q.2) (by omega) (by omega)
      exact ⟨Or.inr (Or.inl ⟨Nat.le_refl 1, by show 1 ≤ 5; decide, h2, by show q.2 ≤ 300; omega, hd.1, hd.2.1, hd.2.2⟩), rfl⟩
  · have hj' : ∀ j', j' < j → (tp1 D n j').1 ≠ 0 := fun j' z => hm.2 j' (by omega)
    have h0 := hm.2 j hj
    unfold T1
    by_cases e : 0 < (tp1 D n j).2
    · rw [if_pos e, tp1, if_pos e]
      show (tp1 D n j).1 = (tp1 D n j).1 - 1 + 1
      omega
    · rw [if_neg e]
      obtain ⟨q, h1, h2, h3, h4, h5, h6⟩ := tp1_cp hn h hj' h0 (by omega)
      have hdl : dl (D (tp1 D n j).1) = q.2 := by rw [h1]; rfl
      rw [hdl, h6]
      show (tp1 D n j).1 = (tp1 D n j).1 - q.2 + q.2
      omega
/-- a state's sum -/
def sv (D : xD) (q : Nat × Nat) : Nat := dv 0 (D (q.1 - q.2)) + lt1 q.2
theorem tr_sc1 {t : Nat → Nat} {n : Nat} {D : xD} (hn : n ≤ 300) (h : D1 t n n D) {m : Nat} (hm : TM1 D n m) : ∀ i, i ≤ m → rw1 (fun i => T1 t D n (m - 1 - i)) i = (tp1 D n (m - i)).2 ∧ sc1 (fun i => T1 t D n (m - 1 - i)) i = 512 + sv D (tp1 D n (m - i))
  | 0, _ => by
    have h1 := tp1_ok hn h m hm.2
    have e0 : (tp1 D n m).2 = 0 := by have := hm.1; omega
    rw [Nat.sub_zero]
    refine ⟨e0.symm, ?_⟩
    unfold sv
    rw [e0, hm.1, h.1]
    rfl
  | i + 1, hi => by
    obtain ⟨h1, h2⟩ := tr_sc1 hn h hm i (by omega)
    have hb := tp1_ok hn h (m - (i + 1)) (fun j' z => hm.2 j' (by omega))
    have h0 := hm.2 (m - (i + 1)) (by omega)
    have hsub : m - i = m - (i + 1) + 1 := by omega
    have hT : T1 t D n (m - 1 - i) = T1 t D n (m - (i + 1)) := by rw [show m - 1 - i = m - (i + 1) by omega]
    rw [rw1, sc1]
    try dsimp only
    rw [hT, h1, h2, hsub]
    by_cases e : 0 < (tp1 D n (m - (i + 1))).2
    · have e1 : (T1 t D n (m - (i + 1))).1 = 0 := by unfold T1; rw [if_pos e]
      have e2 : tp1 D n (m - (i + 1) + 1) = ((tp1 D n (m - (i + 1))).1 - 1, (tp1 D n (m - (i + 1))).2 - 1) := by rw [tp1, if_pos e]
      rw [if_pos e1, if_pos e1, e2]
      have hlt := lt1_le ((tp1 D n (m - (i + 1))).2 - 1) (by omega)
      rw [show (tp1 D n (m - (i + 1))).2 - 1 + 1 = (tp1 D n (m - (i + 1))).2 by omega] at hlt
      refine ⟨by show (tp1 D n (m - (i + 1))).2 - 1 + 1 = _; omega, ?_⟩
      unfold sv
      show 512 + (dv 0 (D ((tp1 D n (m - (i + 1))).1 - 1 - ((tp1 D n (m - (i + 1))).2 - 1))) + lt1 ((tp1 D n (m - (i + 1))).2 - 1)) + (lt1 ((tp1 D n (m - (i + 1))).2 - 1 + 1) - lt1 ((tp1 D n (m - (i + 1))).2 - 1)) = _
      rw [show (tp1 D n (m - (i + 1))).1 - 1 - ((tp1 D n (m - (i + 1))).2 - 1) = (tp1 D n (m - (i + 1))).1 - (tp1 D n (m - (i + 1))).2 by omega, show (tp1 D n (m - (i + 1))).2 - 1 + 1 = (tp1 D n (m - (i + 1))).2 by omega]
      omega
    · obtain ⟨q, g1, g2, g3, g4, g5, g6⟩ := tp1_cp hn h (fun j' z => hm.2 j' (by omega)) h0 (by omega)
      have hdl : dl (D (tp1 D n (m - (i + 1))).1) = q.2 := by rw [g1]; rfl
      have e1 : (T1 t D n (m - (i + 1))).1 ≠ 0 := by unfold T1; rw [if_neg e]; exact Nat.one_ne_zero
      have e2 : (T1 t D n (m - (i + 1))).2.2.1 = q.2 := by unfold T1; rw [if_neg e, hdl]
      have e3 : (tp1 D n (m - (i + 1))).2 = 0 := by omega
      rw [if_neg e1, if_neg e1, e2, g6]
      refine ⟨e3.symm, ?_⟩
      obtain ⟨q', k1, k2, k3⟩ := fs_ok (i := (tp1 D n (m - (i + 1))).1 - q.2) h.1
      unfold sv
      rw [e3, Nat.sub_zero, g1]
      show 512 + (dv 0 (D ((tp1 D n (m - (i + 1))).1 - q.2 - fl D ((tp1 D n (m - (i + 1))).1 - q.2))) + lt1 (fl D ((tp1 D n (m - (i + 1))).1 - q.2))) + cp1 q.2 = 512 + (q.1 + 0)
      rw [k1]
      show 512 + (q'.1 + lt1 (fl D ((tp1 D n (m - (i + 1))).1 - q.2))) + cp1 q.2 = _
      omega
theorem oct_ok {V : Nat → Nat → Nat} {t : Nat → Nat} {n : Nat} (hn : n ≤ 300) {m : Nat} (hm : TM1 (dp1 t n n) n m) : VS t 1 n m (fun i => T1 t (dp1 t n n) n (m - 1 - i)) ∧ allc V 1 t (fun i => T1 t (dp1 t n n) n (m - 1 - i)) m = fs (dp1 t n n) n + 512 := by
  have h := dp1_ok (t := t) hn n (Nat.le_refl _)
  have h1 := T1_ok hn h hm
  refine ⟨tr_VS (tp := fun j => (tp1 (dp1 t n n) n j).1) rfl hm.1 h1.1 h1.2, ?_⟩
  unfold allc
  rw [if_pos rfl, (tr_sc1 hn h hm m (Nat.le_refl _)).2, Nat.sub_self]
  obtain ⟨q, g1, g2, g3⟩ := fs_ok (i := n) h.1
  unfold sv
  show 512 + (dv 0 (dp1 t n n (n - fl (dp1 t n n) n)) + lt1 (fl (dp1 t n n) n)) = _
  rw [g1]
  show 512 + (q.1 + lt1 (fl (dp1 t n n) n)) = _
  omega
