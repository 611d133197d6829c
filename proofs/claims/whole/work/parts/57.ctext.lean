/-! THE CLASS's TEXT -/
/-- the cells of Text hold the text t of n octets, and its copies -/
def CT (I : Nat → Nat → Int32) (n : Nat) (t : Nat → Nat) (f : Nat) : Prop :=
  I 5 0 = nI (xlt f) ∧ I 5 1 = nI (xgt f) ∧ I 5 3 = nI n ∧ n ≤ 300 ∧ (∀ j, j < n → I 6 j = nI (t j) ∧ t j < 256) ∧ (∀ b, 1 ≤ b → b < n → I 7 b = nI (er t b n)) ∧
  (∀ a l, a < n → 1 ≤ l → l ≤ xgt f → l ≤ mxk (fun b => er t b (a + 1)) a → I 8 (nix a l) = nI (ndk (fun b => er t b (a + 1)) l a)) ∧ ∀ p, p < n → I 9 p = nI (lr t n (xgt f) p)
theorem CT.ag {I I1 : Nat → Nat → Int32} {S : List Nat} {n f : Nat} {t : Nat → Nat} (h : CT I n t f) (ha : xag I I1 S) (h5 : 5 ∉ S) (h6 : 6 ∉ S) (h7 : 7 ∉ S) (h8 : 8 ∉ S) (h9 : 9 ∉ S) : CT I1 n t f := by
  unfold CT at h ⊢
  rw [ha 5 h5, ha 6 h6, ha 7 h7, ha 8 h8, ha 9 h9]
  exact h
theorem lr_le (t : Nat → Nat) (n G p : Nat) : lr t n G p ≤ G ∧ lr t n G p ≤ n - p := by
  by_cases h : lr t n G p = 0
  · omega
  · have := (lr_iff t n G p (l := lr t n G p) (by omega)).mp (Nat.le_refl _)
    omega
theorem xlt_pos (f : Nat) : 2 ≤ xlt f := by
  unfold xlt
  split
  · decide
  · split <;> decide
theorem xlt_le (f : Nat) : xlt f ≤ 4 := by
  unfold xlt
  split
  · decide
  · split <;> decide
section CTX
variable {d f L c s n : Nat} {t : Nat → Nat} {Q : Option Value × xS → Prop} {P : List Nat × Nat × Nat} {I : Nat → Nat → Int32} {J : Nat → Nat → Int64}
theorem p_has (h0 : CT I n t f) {x : Int32} (k1 : ∀ p, p < n → x = nI p → Q (some (.int (nI 1)), (xK f L, P, I, J, xFr f c s))) (k0 : (∀ p, p < n → x ≠ nI p) → Q (some (.int (nI 0)), (xK f L, P, I, J, xFr f c s))) : Wp d 66 0 [some (.ref 5), some (.int x)] [] (xK f L, P, I, J, xFr f c s) Q := by
  have hn := h0.2.2.2.1
  have hs := h0.2.2.1
  refine wX9_has_0 (n_r0 := 7) rfl ⟨fun c1 => k0 ?_, fun c1 => ⟨fun c2 => k0 ?_, fun c2 => ?_⟩⟩
  · intro p hp e
    rw [e] at c1
    exact nI_pos (by omega) c1
  · intro p hp e
    rw [e, hs, nI_leI (by omega) (by omega)] at c2
    omega
  · rw [hs] at c2
    rcases pk_ix x (n := n) (by omega) with h | h | ⟨j, hj, e⟩
    · exact absurd h c1
    · exact absurd h c2
    · exact k1 j hj e
theorem p_longestCopy (hf : f < 3) (hL : L < 2147483648) (h0 : CT I n t f) {x : Int32} (k1 : ∀ p, p < n → x = nI p → Q (some (.int (nI (lc t n f p))), (xK f L, P, I, J, xFr f c s))) (k0 : (∀ p, p < n → x ≠ nI p) → Q (some (.int (nI 0)), (xK f L, P, I, J, xFr f c s))) : Wp (d + 1) 69 0 [some (.ref 5), some (.int x)] [] (xK f L, P, I, J, xFr f c s) Q := by
  have hn := h0.2.2.2.1
  refine wX9_longestCopy_0 (xK_lt hf hL) (n_r0 := 7) rfl (f4 := 9) rfl (n_f4 := 300) rfl (p_has h0 (fun p hp e => ⟨_, _, _, rfl, ?_⟩) (fun h => ⟨_, _, _, rfl, ?_⟩))
  · refine ⟨fun z => absurd z (by decide), fun _ => ⟨p, e, by omega, ?_⟩⟩
    have hl := lr_le t n (xgt f) p
    have hg := xgt_le f
    have hx := xlt_le f
    rw [h0.2.2.2.2.2.2.2 p hp, h0.1]
    refine ⟨fun c1 => ?_, fun c1 => ⟨p, e, by omega, ?_⟩⟩
    · rw [nI_ltI (by omega) (by omega)] at c1
      have := k1 p hp e
      unfold lc at this
      rw [if_neg (by omega)] at this
      exact this
    · rw [nI_ltI (by omega) (by omega)] at c1
      have := k1 p hp e
      unfold lc at this
      rw [if_pos (by omega)] at this
      rw [h0.2.2.2.2.2.2.2 p hp]
      exact this
  · exact ⟨fun _ => k0 h, fun z => absurd (show nI 0 = 0 by decide) z⟩
/-- the distance of a copy, 0 when there is none -/
theorem p_copyDistance (hf : f < 3) (hL : L < 2147483648) (h0 : CT I n t f) {x y : Int32} (k1 : ∀ p l, p < n → xlt f ≤ l → l ≤ lr t n (xgt f) p → x = nI p → y = nI l → Q (some (.int (nI (nd t n (xgt f) p l))), (xK f L, P, I, J, xFr f c s))) (k0 : (∀ p l, p < n → xlt f ≤ l → l ≤ lr t n (xgt f) p → x = nI p → y ≠ nI l) → Q (some (.int (nI 0)), (xK f L, P, I, J, xFr f c s))) : Wp (d + 1) 70 0 [some (.ref 5), some (.int x), some (.int y)] [] (xK f L, P, I, J, xFr f c s) Q := by
  have hn := h0.2.2.2.1
  have hx1 := xlt_pos f
  have hx2 := xlt_le f
  have hg := xgt_le f
  refine wX9_copyDistance_0 (xK_lt hf hL) (n_r0 := 7) rfl (f4 := 9) rfl (n_f4 := 300) rfl (f6 := 8) rfl (n_f6 := 44850) rfl (p_has h0 (fun p hp e => ⟨_, _, _, rfl, ?_⟩) (fun h => ⟨_, _, _, rfl, ?_⟩))
  · refine ⟨fun z => absurd z (by decide), fun _ => ?_⟩
    rw [h0.1]
    have hl := lr_le t n (xgt f) p
    have nope : (∀ l, xlt f ≤ l → l ≤ lr t n (xgt f) p → y ≠ nI l) → Q (some (.int (nI 0)), (xK f L, P, I, J, xFr f c s)) := by
      intro hno
      refine k0 (fun p' l' g1 g2 g3 g4 => ?_)
      have : p' = p := by
        have := g4.symm.trans e
        exact (nI_eq (by omega) (by omega)).mp this
      subst this
      exact hno l' g2 g3
    refine ⟨fun c1 => nope (fun l g1 g2 g3 => ?_), fun c1 => ⟨p, e, by omega, ?_⟩⟩
    · rw [g3, nI_ltI (by omega) (by omega)] at c1
      omega
    · rw [h0.2.2.2.2.2.2.2 p hp]
      refine ⟨fun c2 => ?_, fun c2 => nope (fun l g1 g2 g3 => ?_)⟩
      · have hy : ¬ y < 0 := by
          intro z
          apply c1
          exact Int32.lt_of_lt_of_le z (nI_pos' (by omega))
        obtain ⟨l, hl1, rfl⟩ := nI_of hy
        rw [nI_ltI (by omega) (by omega)] at c1
        rw [nI_leI (by omega) (by omega)] at c2
        have hlr := (lr_iff t n (xgt f) p (l := l) (by omega)).mp c2
        rw [e, nI_add, pk_sub (by omega)]
        refine p_nearestIndex (by omega) (by omega) (by omega) (by omega) ⟨_, _, _, rfl, ?_⟩
        refine ⟨nix (p + l - 1) l, rfl, nix_lt (by omega) ?_ (by omega), ?_⟩
        · obtain ⟨b, hb1, hb2, -⟩ := hlr.2.2
          omega
        · obtain ⟨b, hb1, hb2, hb3⟩ := hlr.2.2
          have hm : l ≤ mxk (fun b => er t b (p + l - 1 + 1)) (p + l - 1) := by
            rw [mxk_iff _ (by omega)]
            refine ⟨b, hb1, by omega, ?_⟩
            show l ≤ er t b (p + l - 1 + 1)
            rw [show p + l - 1 + 1 = p + l by omega]
            exact (er_iff t b l p (by omega)).mpr ⟨hb2, hb3⟩
          have h8 := h0.2.2.2.2.2.2.1 (p + l - 1) l (by omega) (by omega) (by omega) hm
          rw [h8, show p + l - 1 + 1 = p + l by omega, nd_er t (n := n) (G := xgt f) (by omega) (by omega) (by omega)]
          exact k1 p l hp (by omega) c2 e rfl
      · rw [g3, nI_leI (by omega) (by omega)] at c2
        omega
  · exact ⟨fun _ => k0 (fun p l g1 _ _ g4 => absurd g4 (h p g1)), fun z => absurd (show nI 0 = 0 by decide) z⟩
theorem p_sameBy (hf : f < 3) (hL : L < 2147483648) (h0 : CT I n t f) {p b : Nat} (hp : p ≤ n) (hb : b < 1000) (k : Q (some (.int (nI (if b < 1 ∨ p < b then 0 else gl t n (xgt f) p b))), (xK f L, P, I, J, xFr f c s))) : Wp (d + 1) 71 0 [some (.ref 5), some (.int (nI p)), some (.int (nI b)), none, none] [] (xK f L, P, I, J, xFr f c s) Q := by
  have hn := h0.2.2.2.1
  have hg := xgt_le f
  refine wX9_sameBy_0 (n_r0 := 7) rfl ⟨fun c1 => ?_, fun c1 => ⟨fun c2 => ?_, fun c2 => ?_⟩⟩
  · rw [nI_ltI (by omega) (by decide)] at c1
    rw [if_pos (Or.inl c1)] at k
    exact k
  · rw [nI_ltI (by omega) (by decide)] at c1
    rw [nI_leI (by omega) (by omega)] at c2
    rw [if_neg (by omega)] at k
    have hbd : (if I 5 1 < I 5 3 - nI p then I 5 1 else I 5 3 - nI p) = nI (if xgt f < n - p then xgt f else n - p) := by
      rw [h0.2.1, h0.2.2.1, pk_sub hp]
      by_cases h : xgt f < n - p
      · rw [if_pos h, if_pos ((nI_ltI (by omega) (by omega)).mpr h)]
      · rw [if_neg h, if_neg (fun z => h ((nI_ltI (by omega) (by omega)).mp z))]
    rw [hbd]
    have hgl := gl_le t n (xgt f) p b
    have hgl2 := gl_le2 t n (xgt f) p b
    generalize hB : (if xgt f < n - p then xgt f else n - p) = B
    have hB1 : B ≤ xgt f ∧ B ≤ n - p ∧ (B = xgt f ∨ B = n - p) := by
      rw [← hB]
      split <;> omega
    have loop : ∀ m l, gl t n (xgt f) p b - l = m → l ≤ gl t n (xgt f) p b → Wp (d + 1) 71 29 [some (.ref 5), some (.int (nI p)), some (.int (nI b)), some (.int (nI B)), some (.int (nI l))] [] (xK f L, P, I, J, xFr f c s) Q := by
      intro m
      induction m with
      | zero =>
        intro l hm hl
        have e : l = gl t n (xgt f) p b := by omega
        refine wX9_sameBy_29 (xK_lt hf hL) (n_r0 := 7) rfl (f1 := 6) rfl (n_f1 := 300) rfl ⟨fun _ => by rw [e]; exact k, fun c3 => ?_⟩
        rw [nI_leI (by omega) (by omega)] at c3
        refine ⟨p + l, by rw [nI_add], by omega, p + l - b, by rw [nI_add, pk_sub (by omega)], by omega, fun _ => by rw [e]; exact k, fun c4 => ?_⟩
        rw [(h0.2.2.2.2.1 (p + l) (by omega)).1, (h0.2.2.2.2.1 (p + l - b) (by omega)).1, nI_eq (by have := (h0.2.2.2.2.1 (p + l) (by omega)).2; omega) (by have := (h0.2.2.2.2.1 (p + l - b) (by omega)).2; omega)] at c4
        exfalso
        have h1 := (gl_iff t n (xgt f) p b l).mp (by omega)
        have h2 : l + 1 ≤ gl t n (xgt f) p b := (gl_iff t n (xgt f) p b (l + 1)).mpr ⟨by omega, by omega, fun q hq => by
          by_cases e2 : q = l
          · subst e2; exact c4
          · exact h1.2.2 q (by omega)⟩
        omega
      | succ m ih =>
        intro l hm hl
        have h1 := (gl_iff t n (xgt f) p b (l + 1)).mp (by omega)
        refine wX9_sameBy_29 (xK_lt hf hL) (n_r0 := 7) rfl (f1 := 6) rfl (n_f1 := 300) rfl ⟨fun c3 => ?_, fun c3 => ?_⟩
        · rw [nI_leI (by omega) (by omega)] at c3
          omega
        · refine ⟨p + l, by rw [nI_add], by omega, p + l - b, by rw [nI_add, pk_sub (by omega)], by omega, fun c4 => ?_, fun c4 => ?_⟩
          · exfalso
            apply c4
            rw [(h0.2.2.2.2.1 (p + l) (by omega)).1, (h0.2.2.2.2.1 (p + l - b) (by omega)).1, h1.2.2 l (by omega)]
          · rw [nI_add]
            exact ih (l + 1) (by omega) (by omega)
    exact loop _ 0 rfl (Nat.zero_le _)
  · rw [nI_leI (by omega) (by omega)] at c2
    rw [if_pos (Or.inr (by omega))] at k
    exact k
end CTX
