/-! GREEDY AND LAZY, as numbers -/
theorem ndk_ok (g : Nat → Nat) (l : Nat) : ∀ k, ndk g l k ≠ 0 → l ≤ g (ndk g l k)
  | 0, h => absurd rfl h
  | k + 1, h => by
    rw [ndk] at h ⊢
    by_cases e : ndk g l k = 0
    · rw [if_pos e] at h ⊢
      by_cases e2 : l ≤ g (k + 1)
      · rw [if_pos e2]
        exact e2
      · rw [if_neg e2] at h
        exact absurd rfl h
    · rw [if_neg e] at h ⊢
      exact ndk_ok g l k h
theorem nd_ok {t : Nat → Nat} {n G i l : Nat} (h1 : 1 ≤ l) (h2 : l ≤ lr t n G i) : 1 ≤ nd t n G i l ∧ nd t n G i l ≤ i ∧ cp t (nd t n G i l) i l := by
  have h3 : ndk (gl t n G i) l i ≠ 0 := fun z => by
    have := (ndk_0 (gl t n G i) h1 i).mp z
    unfold lr at h2
    omega
  refine ⟨Nat.pos_of_ne_zero h3, ndk_le _ _ _, ?_⟩
  exact ((gl_iff t n G i _ l).mp (ndk_ok _ l i h3)).2.2
theorem nd_0 {t : Nat → Nat} {n G i l : Nat} (h1 : 1 ≤ l) : nd t n G i l = 0 ↔ lr t n G i < l := ndk_0 (gl t n G i) h1 i
/-- how long an AGAIN of distance b is -/
def sb (t : Nat → Nat) (n f p b : Nat) : Nat := if b < 1 ∨ p < b then 0 else gl t n (xgt f) p b
theorem sb_ok {t : Nat → Nat} {n f p b l : Nat} (h : l ≤ sb t n f p b) (hl : 1 ≤ l) : 1 ≤ b ∧ b ≤ p ∧ cp t b p l ∧ l ≤ xgt f ∧ l ≤ n - p := by
  unfold sb at h
  by_cases e : b < 1 ∨ p < b
  · rw [if_pos e] at h
    omega
  · rw [if_neg e] at h
    have := (gl_iff t n (xgt f) p b l).mp h
    exact ⟨by omega, by omega, this.2.2, this.1, this.2.1⟩
theorem sb_le (t : Nat → Nat) (n f p b : Nat) : sb t n f p b ≤ lr t n (xgt f) p := by
  by_cases e : sb t n f p b = 0
  · omega
  · have h := sb_ok (l := sb t n f p b) (Nat.le_refl _) (by omega)
    exact (lr_iff t n (xgt f) p (by omega)).mpr ⟨h.2.2.2.1, h.2.2.2.2, b, h.1, h.2.1, h.2.2.1⟩
def lcx (t : Nat → Nat) (n f p : Nat) : Nat := if p < n then lc t n f p else 0
def lah (g : Nat → Nat) (l : Nat) : Nat → Bool
  | 0 => false
  | k + 1 => lah g l k || decide (l < g (k + 1))
def lk (l : Nat) (s : Nat → Nat) : Nat → Nat
  | 0 => 4
  | r + 1 => if l ≤ s (4 - (r + 1)) then 4 - (r + 1) else lk l s r
theorem lk_lt (l : Nat) (s : Nat → Nat) : ∀ r, lk l s r ≠ 4 → lk l s r < 4 ∧ l ≤ s (lk l s r)
  | 0, h => absurd rfl h
  | r + 1, h => by
    rw [lk] at h ⊢
    by_cases e : l ≤ s (4 - (r + 1))
    · rw [if_pos e] at h ⊢
      exact ⟨by omega, e⟩
    · rw [if_neg e] at h ⊢
      exact lk_lt l s r h
def ak (t : Nat → Nat) (n f : Nat) (la : Nat → Nat) (i l : Nat) : Nat := if f = 2 then lk l (fun j => sb t n f i (la j)) 4 else 4
def gstep (t : Nat → Nat) (n f look : Nat) (q : Nat × (Nat → Nat)) : xSt × (Nat × (Nat → Nat)) :=
  if lc t n f q.1 = 0 ∨ lah (fun k => lcx t n f (q.1 + k)) (lc t n f q.1) look = true then ((0, q.1, 1, 0), (q.1 + 1, q.2))
  else if ak t n f q.2 q.1 (lc t n f q.1) = 4 then ((1, q.1, lc t n f q.1, nd t n (xgt f) q.1 (lc t n f q.1)), (q.1 + lc t n f q.1, ah q.2 (nd t n (xgt f) q.1 (lc t n f q.1)) 3))
  else ((2 + ak t n f q.2 q.1 (lc t n f q.1), q.1, lc t n f q.1, q.2 (ak t n f q.2 q.1 (lc t n f q.1))), (q.1 + lc t n f q.1, ah q.2 (q.2 (ak t n f q.2 q.1 (lc t n f q.1))) (ak t n f q.2 q.1 (lc t n f q.1))))
def gs (t : Nat → Nat) (n f look : Nat) : Nat → Nat × (Nat → Nat)
  | 0 => (0, fun _ => 1)
  | j + 1 => (gstep t n f look (gs t n f look j)).2
def gR (t : Nat → Nat) (n f look : Nat) (j : Nat) : xSt := (gstep t n f look (gs t n f look j)).1
/-- so many steps it has -/
def GM (t : Nat → Nat) (n f look m : Nat) : Prop := (gs t n f look m).1 = n ∧ ∀ j, j < m → (gs t n f look j).1 < n
theorem GM.uniq {t : Nat → Nat} {n f look m m' : Nat} (h : GM t n f look m) (h' : GM t n f look m') : m = m' := by
  rcases Nat.lt_trichotomy m m' with z | z | z
  · have := h'.2 m z
    have := h.1
    omega
  · exact z
  · have := h.2 m' z
    have := h'.1
    omega
theorem lc_ok {t : Nat → Nat} {n f i : Nat} (h : lc t n f i ≠ 0) : lc t n f i = lr t n (xgt f) i ∧ xlt f ≤ lc t n f i ∧ lc t n f i ≤ xgt f ∧ lc t n f i ≤ n - i := by
  have := lr_le t n (xgt f) i
  unfold lc at h ⊢
  by_cases e : xlt f ≤ lr t n (xgt f) i
  · rw [if_pos e] at h ⊢
    omega
  · rw [if_neg e] at h
    exact absurd rfl h
theorem gstep_ok {t : Nat → Nat} {n f look : Nat} (hf : f < 3) (hn : n ≤ 300) {q : Nat × (Nat → Nat)} (hq : q.1 < n) (hl : LB q.2) : okS t f (gstep t n f look q).1 ∧ (gstep t n f look q).1.2.1 = q.1 ∧ (gstep t n f look q).2.1 = q.1 + (gstep t n f look q).1.2.2.1 ∧ (gstep t n f look q).2.1 ≤ n ∧ LB (gstep t n f look q).2.2 := by
  have hx := xlt_pos f
  have hg := xgt_le f
  unfold gstep
  by_cases e : lc t n f q.1 = 0 ∨ lah (fun k => lcx t n f (q.1 + k)) (lc t n f q.1) look = true
  · rw [if_pos e]
    exact ⟨Or.inl ⟨rfl, rfl, rfl⟩, rfl, rfl, hq, hl⟩
  · rw [if_neg e]
    have e0 : lc t n f q.1 ≠ 0 := fun z => e (Or.inl z)
    have hc := lc_ok e0
    by_cases e2 : ak t n f q.2 q.1 (lc t n f q.1) = 4
    · rw [if_pos e2]
      have hd := nd_ok (t := t) (n := n) (G := xgt f) (i := q.1) (l := lc t n f q.1) (by omega) (by omega)
      exact ⟨Or.inr (Or.inl ⟨Nat.le_refl 1, by show 1 ≤ 5; decide, hc.2.1, by show lc t n f q.1 ≤ 300; omega, hd.1, hd.2.1, hd.2.2⟩), rfl, rfl, by show q.1 + lc t n f q.1 ≤ n; omega, LB_ah hl hd.1 (by omega) (by decide)⟩
    · rw [if_neg e2]
      have hk : ak t n f q.2 q.1 (lc t n f q.1) < 4 ∧ lc t n f q.1 ≤ sb t n f q.1 (q.2 (ak t n f q.2 q.1 (lc t n f q.1))) := by
        unfold ak at e2 ⊢
        by_cases e3 : f = 2
        · rw [if_pos e3] at e2 ⊢
          exact lk_lt _ _ 4 e2
        · rw [if_neg e3] at e2
          exact absurd rfl e2
      have hs := sb_ok hk.2 (by omega)
      exact ⟨Or.inr (Or.inl ⟨by show 1 ≤ 2 + _; omega, by show 2 + ak t n f q.2 q.1 (lc t n f q.1) ≤ 5; omega, hc.2.1, by show lc t n f q.1 ≤ 300; omega, hs.1, hs.2.1, hs.2.2.1⟩), rfl, rfl, by show q.1 + lc t n f q.1 ≤ n; omega, LB_ah hl hs.1 (by omega) hk.1⟩
theorem gs_ok {t : Nat → Nat} {n f look : Nat} (hf : f < 3) (hn : n ≤ 300) : ∀ m, (∀ j, j < m → (gs t n f look j).1 < n) → LB (gs t n f look m).2 ∧ (gs t n f look m).1 = psn (gR t n f look) m ∧ (gs t n f look m).1 ≤ n ∧ m ≤ (gs t n f look m).1
  | 0, _ => ⟨fun k hk => ⟨Nat.le_refl _, by show 1 ≤ 300; decide⟩, rfl, Nat.zero_le _, Nat.le_refl _⟩
  | m + 1, h => by
    have h1 := gs_ok hf hn m (fun j hj => h j (by omega))
    have h2 := gstep_ok (t := t) (look := look) hf hn (h m (by omega)) h1.1
    have h3 := okS_lt h2.1
    rw [gs, psn]
    refine ⟨h2.2.2.2.2, ?_, h2.2.2.2.1, ?_⟩
    · rw [h2.2.2.1, h1.2.1]
      rfl
    · rw [h2.2.2.1]
      omega
theorem GM.VS {t : Nat → Nat} {n f look m : Nat} (hf : f < 3) (hn : n ≤ 300) (h : GM t n f look m) : VS t f n m (gR t n f look) := by
  refine ⟨fun i hi => ?_, ?_⟩
  · have h1 := gs_ok hf hn i (fun j hj => h.2 j (by omega))
    have h2 := gstep_ok (t := t) (look := look) hf hn (h.2 i hi) h1.1
    refine ⟨h2.1, ?_⟩
    rw [← h1.2.1]
    exact h2.2.1
  · have h1 := gs_ok hf hn m h.2
    rw [← h1.2.1]
    exact h.1
section GRC
variable {d f L c s p m n : Nat} {t : Nat → Nat} {R : Nat → xSt} {Q : Option Value × xS → Prop} {P : List Nat × Nat × Nat} {I : Nat → Nat → Int32} {J : Nat → Nat → Int64}
theorem p_longestCopyN (hf : f < 3) (hL : L < 2147483648) (h0 : CT I n t f) {i : Nat} (hi : i < 2 ^ 31) (k : Q (some (.int (nI (lcx t n f i))), (xK f L, P, I, J, xFr f c s))) : Wp (d + 1) 69 0 [some (.ref 5), some (.int (nI i))] [] (xK f L, P, I, J, xFr f c s) Q := by
  have hn := h0.2.2.2.1
  refine p_longestCopy hf hL h0 (fun p hp e => ?_) (fun h => ?_)
  · have := (nI_eq (by omega) (by omega)).mp e
    subst this
    unfold lcx at k
    rw [if_pos hp] at k
    exact k
  · unfold lcx at k
    rw [if_neg (fun z => h i z rfl)] at k
    exact k
theorem p_longerAhead (hf : f < 3) (hL : L < 2147483648) (h0 : CT I n t f) {i l a : Nat} (hi : i < 300) (hl : l < 1000) (ha : a < 100) (k : Q (some (.int (nI (if lah (fun k => lcx t n f (i + k)) l a = true then 1 else 0))), (xK f L, P, I, J, xFr f c s))) : Wp (d + 2) 63 0 [some (.ref 33), some (.int (nI i)), some (.int (nI l)), some (.int (nI a)), none] [] (xK f L, P, I, J, xFr f c s) Q := by
  have hb : ∀ j, lcx t n f j ≤ 300 := fun j => by
    have h1 := xgt_le f
    unfold lcx
    split
    · by_cases e : lc t n f j = 0
      · omega
      · have := lc_ok e
        omega
    · omega
  have mono : ∀ q j, lah (fun k => lcx t n f (i + k)) l j = true → lah (fun k => lcx t n f (i + k)) l (j + q) = true := by
    intro q
    induction q with
    | zero => intro j h; exact h
    | succ q ih =>
      intro j h
      show lah (fun k => lcx t n f (i + k)) l (j + q + 1) = true
      rw [lah, ih j h, Bool.true_or]
  have loop : ∀ q j, a - j = q → j ≤ a → lah (fun k => lcx t n f (i + k)) l j = false → Wp (d + 2) 63 3 [some (.ref 33), some (.int (nI i)), some (.int (nI l)), some (.int (nI a)), some (.int (nI (j + 1)))] [] (xK f L, P, I, J, xFr f c s) Q := by
    intro q
    induction q with
    | zero =>
      intro j hq hj hh
      have e : j = a := by omega
      rw [e] at hh
      rw [if_neg (by rw [hh]; decide)] at k
      exact wX8_longerAhead_3 rfl rfl rfl (br1 (by first | (rw [nI_ltI (by omega) (by omega)]; omega) | (rw [nI_leI (by omega) (by omega)]; omega) | (rw [nI_eq (by omega) (by omega)]; omega) | (rw [nI_e0 (by omega)]; omega) | (rw [nI_le0 (by omega)]; omega)) k)
    | succ q ih =>
      intro j hq hj hh
      refine wX8_longerAhead_3 rfl rfl rfl (br2 (by first | (rw [nI_ltI (by omega) (by omega)]; omega) | (rw [nI_leI (by omega) (by omega)]; omega) | (rw [nI_eq (by omega) (by omega)]; omega) | (rw [nI_e0 (by omega)]; omega) | (rw [nI_le0 (by omega)]; omega)) ?_)
      rw [nI_add]
      refine p_longestCopyN hf hL h0 (by omega) ⟨_, _, _, rfl, ?_⟩
      all_goals try dsimp only
      have hbj := hb (i + (j + 1))
      refine brc (nI_leI (by omega) (by omega)) (fun h => ?_) (fun h => ?_)
      · rw [nI_add]
        refine ih (j + 1) (by omega) (by omega) ?_
        rw [lah, hh, Bool.false_or]
        exact decide_eq_false (by omega)
      · have h1 : lah (fun k => lcx t n f (i + k)) l (j + 1) = true := by
          rw [lah, hh, Bool.false_or]
          exact decide_eq_true (by show l < lcx t n f (i + (j + 1)); omega)
        have h2 := mono (a - (j + 1)) (j + 1) h1
        rw [show j + 1 + (a - (j + 1)) = a by omega] at h2
        rw [if_pos h2] at k
        exact k
  exact wX8_longerAhead_0  (loop a 0 rfl (Nat.zero_le _) rfl)
/-- the stepper's own field -/
def SP (I : Nat → Nat → Int32) (f : Nat) : Prop := I 33 1 = nI (if f = 2 then 1 else 0)
theorem p_againAsLong (hf : f < 3) (hL : L < 2147483648) (h0 : CT I n t f) (hS : SP I f) {la : Nat → Nat} (hB : LB la) {i l : Nat} (hi : i < n) (hl : l ≤ 300) (k : Q (some (.int (nI (ak t n f la i l))), (xK f L, P, I, J, xFr f c s))) : Wp (d + 2) 64 0 [some (.ref 33), some (.long (lN (lp la))), none, some (.int (nI i)), some (.int (nI l)), none] [] (xK f L, P, I, J, xFr f c s) Q := by
  have hn := h0.2.2.2.1
  unfold ak at k
  refine wX8_againAsLong_0 rfl ?_
  rw [hS]
  by_cases e : f = 2
  · rw [if_pos e] at k ⊢
    have loop : ∀ r, r ≤ 4 → lk l (fun j => sb t n f i (la j)) r = lk l (fun j => sb t n f i (la j)) 4 → Wp (d + 2) 64 12 [some (.ref 33), some (.long (lN (lp la))), none, some (.int (nI i)), some (.int (nI l)), some (.int (nI (4 - r)))] [] (xK f L, P, I, J, xFr f c s) Q := by
      intro r
      induction r with
      | zero =>
        intro hr hk
        refine wX8_againAsLong_12 rfl rfl rfl (br1 (by first | (rw [nI_ltI (by omega) (by omega)]; omega) | (rw [nI_leI (by omega) (by omega)]; omega) | (rw [nI_eq (by omega) (by omega)]; omega) | (rw [nI_e0 (by omega)]; omega) | (rw [nI_le0 (by omega)]; omega)) ?_)
        rw [← hk] at k
        exact k
      | succ r ih =>
        intro hr hk
        refine wX8_againAsLong_12 rfl rfl rfl (br2 (by first | (rw [nI_ltI (by omega) (by omega)]; omega) | (rw [nI_leI (by omega) (by omega)]; omega) | (rw [nI_eq (by omega) (by omega)]; omega) | (rw [nI_e0 (by omega)]; omega) | (rw [nI_le0 (by omega)]; omega)) (p_at hB (by omega) ⟨_, _, _, rfl, ?_⟩))
        all_goals try dsimp only
        try dsimp only
        have hb := hB (4 - (r + 1)) (by omega)
        refine p_sameBy hf hL h0 (by omega) (by omega) ⟨_, _, _, rfl, ?_⟩
        all_goals try dsimp only
        have hsb : sb t n f i (la (4 - (r + 1))) ≤ 300 := by
          have h1 := sb_le t n f i (la (4 - (r + 1)))
          have h2 := lr_le t n (xgt f) i
          omega
        show (nI l ≤ nI (sb t n f i (la (4 - (r + 1)))) → _) ∧ (¬ nI l ≤ nI (sb t n f i (la (4 - (r + 1)))) → _)
        rw [lk] at hk
        refine brc (nI_leI (by omega) (by omega)) (fun h => ?_) (fun h => ?_)
        · rw [if_pos h] at hk
          rw [← hk] at k
          exact k
        · rw [if_neg h] at hk
          rw [nI_add, show 4 - (r + 1) + 1 = 4 - r by omega]
          exact ih (by omega) hk
    exact bn1 (by decide) (loop 4 (Nat.le_refl _) rfl)
  · rw [if_neg e] at k ⊢
    exact bn2 (by decide) k
theorem p_copyDistanceN (hf : f < 3) (hL : L < 2147483648) (h0 : CT I n t f) {i l : Nat} (hi : i < n) (h1 : xlt f ≤ l) (h2 : l ≤ lr t n (xgt f) i) (k : Q (some (.int (nI (nd t n (xgt f) i l))), (xK f L, P, I, J, xFr f c s))) : Wp (d + 1) 70 0 [some (.ref 5), some (.int (nI i)), some (.int (nI l))] [] (xK f L, P, I, J, xFr f c s) Q := by
  have hn := h0.2.2.2.1
  have hr := lr_le t n (xgt f) i
  refine p_copyDistance hf hL h0 (fun p l' g1 g2 g3 g4 g5 => ?_) (fun h => absurd rfl (h i l hi h1 h2 rfl))
  have hr' := lr_le t n (xgt f) p
  have e1 := (nI_eq (by omega) (by omega)).mp g4
  have e2 := (nI_eq (by omega) (by omega)).mp g5
  subst e1 e2
  exact k
theorem p_walk (hf : f < 3) (hL : L < 2147483648) (hp : p = 41 ∨ p = 47) (h0 : CT I n t f) (hS : SP I f) {look : Nat} (hlk : look < 3) (k : ∀ I' m, xag I I' [p, p + 1, p + 2, p + 3, p + 4] → GM t n f look m → PA I' p m (gR t n f look) → Q (none, (xK f L, P, I', J, xFr f c s))) : Wp (d + 3) 62 0 [some (.ref 33), some (.ref p), some (.int (nI look)), none, none, none, none, none, none] [] (xK f L, P, I, J, xFr f c s) Q := by
  have hn := h0.2.2.2.1
  have h5 : 5 ∉ [p, p + 1, p + 2, p + 3, p + 4] ∧ 6 ∉ [p, p + 1, p + 2, p + 3, p + 4] ∧ 7 ∉ [p, p + 1, p + 2, p + 3, p + 4] ∧ 8 ∉ [p, p + 1, p + 2, p + 3, p + 4] ∧ 9 ∉ [p, p + 1, p + 2, p + 3, p + 4] ∧ 33 ∉ [p, p + 1, p + 2, p + 3, p + 4] := by
    rcases hp with rfl | rfl <;> decide
  have loop : ∀ q j I1, n - (gs t n f look j).1 = q → (∀ j', j' < j → (gs t n f look j').1 < n) → xag I I1 [p, p + 1, p + 2, p + 3, p + 4] → PA I1 p j (gR t n f look) → Wp (d + 3) 62 11 [some (.ref 33), some (.ref p), some (.int (nI look)), some (.long (lN (lp (gs t n f look j).2))), none, some (.int (nI (gs t n f look j).1)), none, none, none] [] (xK f L, P, I1, J, xFr f c s) Q := by
    intro q
    induction q using Nat.strongRecOn with
    | _ q ih =>
      intro j I1 hq hj ha h1
      have hT1 : CT I1 n t f := h0.ag ha h5.1 h5.2.1 h5.2.2.1 h5.2.2.2.1 h5.2.2.2.2.1
      have hS1 : SP I1 f := by unfold SP; rw [ha 33 h5.2.2.2.2.2]; exact hS
      have hg := gs_ok hf hn j hj
      by_cases hend : (gs t n f look j).1 = n
      · refine wX8_walk_11 rfl rfl rfl (pcK hp) (br1 ?_ (k I1 j ha ⟨hend, hj⟩ h1))
        rw [hT1.2.2.1]
        exact (by first | (rw [nI_ltI (by omega) (by omega)]; omega) | (rw [nI_leI (by omega) (by omega)]; omega) | (rw [nI_eq (by omega) (by omega)]; omega) | (rw [nI_e0 (by omega)]; omega) | (rw [nI_le0 (by omega)]; omega))
      · have hlt : (gs t n f look j).1 < n := by omega
        have hok := gstep_ok (t := t) (look := look) hf hn hlt hg.1
        have hsz := okS_lt hok.1
        -- the next step
        have next : ∀ I2 (kd sz bk i' : Nat) la', xag I I2 [p, p + 1, p + 2, p + 3, p + 4] → gstep t n f look (gs t n f look j) = ((kd, (gs t n f look j).1, sz, bk), (i', la')) → PA I2 p (j + 1) (va_up (gR t n f look) j (kd, (gs t n f look j).1, sz, bk)) → Wp (d + 3) 62 11 [some (.ref 33), some (.ref p), some (.int (nI look)), some (.long (lN (lp la'))), none, some (.int (nI i')), none, none, none] [] (xK f L, P, I2, J, xFr f c s) Q := by
          intro I2 kd sz bk i' la' ha2 he hp2
          have e1 : gs t n f look (j + 1) = (i', la') := by rw [gs, he]
          have e2 : gR t n f look j = (kd, (gs t n f look j).1, sz, bk) := by unfold gR; rw [he]
          have := ih (n - (gs t n f look (j + 1)).1) (by
            have h3 := hok.2.2.1
            have h4 := hok.2.2.2.1
            rw [gs]
            omega) (j + 1) I2 rfl (fun j' hj' => by
              by_cases e : j' = j
              · subst e; exact hlt
              · exact hj j' (by omega)) ha2 (hp2.cg (fun i hi => by
              by_cases e : i = j
              · subst e; rw [va_up_self, e2]
              · rw [va_up_ne _ _ e]))
          rw [e1] at this
          exact this
        have hj300 : j < 300 := by omega
        refine wX8_walk_11 rfl rfl rfl (pcK hp) (br2 ?_ (p_longestCopyN hf hL hT1 (by omega) ⟨_, _, _, rfl, ?_⟩))
        all_goals try dsimp only
        · rw [hT1.2.2.1]
          exact (by first | (rw [nI_ltI (by omega) (by omega)]; omega) | (rw [nI_leI (by omega) (by omega)]; omega) | (rw [nI_eq (by omega) (by omega)]; omega) | (rw [nI_e0 (by omega)]; omega) | (rw [nI_le0 (by omega)]; omega))
        · try dsimp only
          have hlcx : lcx t n f (gs t n f look j).1 = lc t n f (gs t n f look j).1 := by
            unfold lcx
            rw [if_pos hlt]
          rw [hlcx]
          have hl300 : lc t n f (gs t n f look j).1 ≤ 300 := by
            have h1 := xgt_le f
            by_cases e : lc t n f (gs t n f look j).1 = 0
            · omega
            · have := lc_ok e
              omega
          have lit : (lc t n f (gs t n f look j).1 = 0 ∨ lah (fun k => lcx t n f ((gs t n f look j).1 + k)) (lc t n f (gs t n f look j).1) look = true) → Wp (d + 2) 52 0 [some (.ref p), some (.int (nI 0)), some (.int (nI (gs t n f look j).1)), some (.int (nI 1)), some (.int (nI 0))] [] (xK f L, P, I1, J, xFr f c s) (xrV (xK f L) P (xFr f c s) (fun I5 J6 => Wp (d + 2 + 1) 62 11 [some (.ref 33), some (.ref p), some (.int (nI look)), some (.long (lN (lp (gs t n f look j).2))), none, some (.int (nI (gs t n f look j).1 + nI 1)), none, none, none] [] (xK f L, P, I5, J6, xFr f c s) Q)) := by
            intro hc
            refine p_add hf hL hp h1 hj300 (fun I2 b1 b2 => ⟨_, _, rfl, ?_⟩)
            all_goals try dsimp only
            try dsimp only
            rw [nI_add]
            refine next I2 0 1 0 _ _ (ha.tr b1 (by simp)) ?_ b2
            unfold gstep
            rw [if_pos hc]
          refine brc (nI_e0 (by omega)) (fun h => lit (Or.inl h)) (fun h => ?_)
          have hc := lc_ok h
          refine p_longerAhead hf hL hT1 (by omega) (by omega) (by omega) ⟨_, _, _, rfl, ?_⟩
          all_goals try dsimp only
          by_cases hla : lah (fun k => lcx t n f ((gs t n f look j).1 + k)) (lc t n f (gs t n f look j).1) look = true
          · rw [if_pos hla]
            exact br2 (by decide) (lit (Or.inr hla))
          · rw [if_neg hla]
            refine br1 (by decide) (p_againAsLong hf hL hT1 hS1 hg.1 hlt (by omega) ⟨_, _, _, rfl, ?_⟩)
            all_goals try dsimp only
            try dsimp only
            have hak : ak t n f (gs t n f look j).2 (gs t n f look j).1 (lc t n f (gs t n f look j).1) ≤ 4 := by
              by_cases e : ak t n f (gs t n f look j).2 (gs t n f look j).1 (lc t n f (gs t n f look j).1) = 4
              · omega
              · unfold ak at e ⊢
                by_cases e3 : f = 2
                · rw [if_pos e3] at e ⊢
                  exact Nat.le_of_lt (lk_lt _ _ 4 e).1
                · rw [if_neg e3] at e
                  exact absurd rfl e
            have hnot : ¬ (lc t n f (gs t n f look j).1 = 0 ∨ lah (fun k => lcx t n f ((gs t n f look j).1 + k)) (lc t n f (gs t n f look j).1) look = true) := fun z => by
              rcases z with z | z
              · exact h z
              · exact hla z
            refine brc (nI_leI (by omega) (by omega)) (fun h4 => ?_) (fun h4 => ?_)
            · have e4 : ak t n f (gs t n f look j).2 (gs t n f look j).1 (lc t n f (gs t n f look j).1) = 4 := by omega
              have hd := nd_ok (t := t) (n := n) (G := xgt f) (i := (gs t n f look j).1) (l := lc t n f (gs t n f look j).1) (by omega) (by omega)
              refine p_copyDistanceN hf hL hT1 hlt hc.2.1 (by omega) ⟨_, _, _, rfl, ?_⟩
              all_goals try dsimp only
              refine p_add hf hL hp h1 hj300 (fun I2 b1 b2 => ⟨_, _, rfl, ?_⟩)
              all_goals try dsimp only
              try dsimp only
              refine p_behindCopy hg.1 (by omega) ⟨_, _, _, rfl, ?_⟩
              all_goals try dsimp only
              rw [nI_add]
              refine next I2 1 _ _ _ _ (ha.tr b1 (by simp)) ?_ b2
              unfold gstep
              rw [if_neg hnot, if_pos e4]
            · refine p_at hg.1 (by omega) ⟨_, _, _, rfl, ?_⟩
              all_goals try dsimp only
              rw [nI_add]
              refine p_add hf hL hp h1 hj300 (fun I2 b1 b2 => ⟨_, _, rfl, ?_⟩)
              all_goals try dsimp only
              try dsimp only
              refine p_behindAgain hg.1 (by omega) ⟨_, _, _, rfl, ?_⟩
              all_goals try dsimp only
              rw [nI_add]
              refine next I2 _ _ _ _ _ (ha.tr b1 (by simp)) ?_ b2
              unfold gstep
              rw [if_neg hnot, if_neg (by omega)]
  refine wX8_walk_0 (pcK hp) (p_begin hp (R := gR t n f look) (fun I1 a1 a2 => ⟨_, _, rfl, ?_⟩))
  all_goals try dsimp only
  try dsimp only
  have := loop _ 0 I1 rfl (fun j hj => by omega) (a1.wd (by simp)) a2
  have e : lp (gs t n f look 0).2 = 134480385 := by
    show 1 * 2 ^ 27 + 1 * 2 ^ 18 + 1 * 2 ^ 9 + 1 = 134480385
    decide
  rw [e] at this
  exact this
end GRC
