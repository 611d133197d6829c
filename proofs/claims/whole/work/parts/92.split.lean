/-! SPLITS: the table from the end against all sets -/
abbrev xQ3 : Type := Nat × Nat × Nat
section SPL
variable (bc : Nat → Nat → Nat) (c : Nat)
def qb (T : Nat → xQ3) (b j : Nat) : xQ3 := (bc b (b + 1 + j) + (T (b + 1 + j)).1, 1 + (T (b + 1 + j)).2.1, b + 1 + j)
def bz (T : Nat → xQ3) (b : Nat) : Nat → xQ3
  | 0 => qb bc T b 0
  | j + 1 => if (qb bc T b (j + 1)).1 < (bz T b j).1 ∨ ((qb bc T b (j + 1)).1 = (bz T b j).1 ∧ (qb bc T b (j + 1)).2.1 < (bz T b j).2.1) then qb bc T b (j + 1) else bz T b j
def tb : Nat → Nat → xQ3
  | 0 => fun _ => (0, 0, 0)
  | r + 1 => va_up (tb r) (c - r) (bz bc (tb r) (c - r) r)
def TT : Nat → xQ3 := tb bc c (c + 1)
def k2 (q : xQ3) : Nat := 16 * q.1 + q.2.1
def wt (a b : Nat) : Nat := 16 * bc a b + 1
/-- what a set costs from place k on, the last cut taken before it being a -/
def ks (σ : Nat → Bool) : Nat → Nat → Nat → Nat
  | 0, a, k => wt bc a k
  | r + 1, a, k => if σ k = true then wt bc a k + ks σ r k (k + 1) else ks σ r a (k + 1)
/-- the last bound of the path before k -/
def frp : Nat → Nat
  | 0 => 0
  | k + 1 => if (TT bc c (frp k)).2.2 = k ∧ k ≠ 0 then k else frp k
def sgp (k : Nat) : Bool := decide ((TT bc c (frp bc c k)).2.2 = k)
end SPL
section SPL2
variable {bc : Nat → Nat → Nat} {c : Nat}
theorem bz_cg {T T' : Nat → xQ3} {b : Nat} : ∀ {j : Nat}, (∀ i, i ≤ j → T' (b + 1 + i) = T (b + 1 + i)) → bz bc T' b j = bz bc T b j
  | 0, h => by
    rw [bz, bz]
    unfold qb
    rw [h 0 (Nat.le_refl _)]
  | j + 1, h => by
    rw [bz, bz, bz_cg (fun i hi => h i (by omega))]
    unfold qb
    rw [h (j + 1) (Nat.le_refl _)]
theorem tb_hi : ∀ r b, r ≤ c + 1 → (b + r ≤ c ∨ c < b) → tb bc c r b = (0, 0, 0)
  | 0, _, _, _ => rfl
  | r + 1, b, hr, h => by
    rw [tb, va_up_ne _ _ (by omega)]
    exact tb_hi r b (by omega) (by omega)
theorem tb_keep : ∀ q r b, r + q ≤ c + 1 → c < b + r → tb bc c (r + q) b = tb bc c r b
  | 0, _, _, _, _ => rfl
  | q + 1, r, b, h1, h2 => by
    rw [show r + (q + 1) = (r + q) + 1 by omega, tb, va_up_ne _ _ (by omega)]
    exact tb_keep q r b (by omega) h2
theorem TT_end : TT bc c (c + 1) = (0, 0, 0) := tb_hi _ _ (Nat.le_refl _) (by omega)
theorem TT_at {b : Nat} (hb : b ≤ c) : TT bc c b = bz bc (TT bc c) b (c - b) := by
  have h1 : TT bc c b = tb bc c (c - b + 1) b := by
    unfold TT
    have := tb_keep (bc := bc) (c := c) b (c - b + 1) b (by omega) (by omega)
    rw [show c - b + 1 + b = c + 1 by omega] at this
    exact this
  rw [h1, tb, show c - (c - b) = b by omega, va_up_self]
  refine (bz_cg (fun i hi => ?_)).symm
  unfold TT
  have := tb_keep (bc := bc) (c := c) (b + 1) (c - b) (b + 1 + i) (by omega) (by omega)
  rw [show c - b + (b + 1) = c + 1 by omega] at this
  exact this
theorem bz_ok {T : Nat → xQ3} {b : Nat} : ∀ j, (∀ i, i ≤ j → (T (b + 1 + i)).2.1 ≤ 14) → (∃ i, i ≤ j ∧ bz bc T b j = qb bc T b i ∧ ∀ i', i' < i → k2 (bz bc T b j) < k2 (qb bc T b i')) ∧ ∀ i, i ≤ j → k2 (bz bc T b j) ≤ k2 (qb bc T b i)
  | 0, _ => ⟨⟨0, Nat.le_refl _, rfl, fun i' h => by omega⟩, fun i hi => by
    have : i = 0 := by omega
    subst this
    exact Nat.le_refl _⟩
  | j + 1, h => by
    obtain ⟨⟨i, h1, h2, h3⟩, h4⟩ := bz_ok (T := T) (b := b) j (fun i hi => h i (by omega))
    have hq : ∀ i, i ≤ j + 1 → (qb bc T b i).2.1 ≤ 15 := fun i hi => by
      have := h i hi
      show 1 + (T (b + 1 + i)).2.1 ≤ 15
      omega
    have hq1 := hq (j + 1) (Nat.le_refl _)
    have hq2 : (bz bc T b j).2.1 ≤ 15 := by
      rw [h2]
      exact hq i (by omega)
    rw [bz]
    by_cases e : (qb bc T b (j + 1)).1 < (bz bc T b j).1 ∨ ((qb bc T b (j + 1)).1 = (bz bc T b j).1 ∧ (qb bc T b (j + 1)).2.1 < (bz bc T b j).2.1)
    · rw [if_pos e]
      have hlt : k2 (qb bc T b (j + 1)) < k2 (bz bc T b j) := by
        unfold k2
        omega
      refine ⟨⟨j + 1, Nat.le_refl _, rfl, fun i' hi' => ?_⟩, fun i' hi' => ?_⟩
      · have := h4 i' (by omega)
        omega
      · by_cases z : i' = j + 1
        · rw [z]
          exact Nat.le_refl _
        · have := h4 i' (by omega)
          omega
    · rw [if_neg e]
      have hge : k2 (bz bc T b j) ≤ k2 (qb bc T b (j + 1)) := by
        unfold k2
        omega
      refine ⟨⟨i, by omega, h2, h3⟩, fun i' hi' => ?_⟩
      by_cases z : i' = j + 1
      · rw [z]
        exact hge
      · exact h4 i' (by omega)
theorem TT_m (hc : c ≤ 12) : ∀ r b, r ≤ c + 1 → b + r = c + 1 → (TT bc c b).2.1 ≤ r
  | 0, b, _, h => by
    have : b = c + 1 := by omega
    subst this
    rw [TT_end]
    exact Nat.le_refl _
  | r + 1, b, hr, h => by
    have hb : b ≤ c := by omega
    rw [TT_at hb]
    have ih : ∀ q, q ≤ r → ∀ b', b' + q = c + 1 → (TT bc c b').2.1 ≤ q := fun q hq b' hb' => TT_m hc q b' (by omega) hb'
    obtain ⟨⟨i, h1, h2, _⟩, _⟩ := bz_ok (bc := bc) (T := TT bc c) (b := b) (c - b) (fun i hi => by
      have := ih (c + 1 - (b + 1 + i)) (by omega) (b + 1 + i) (by omega)
      omega)
    rw [h2]
    have := ih (c + 1 - (b + 1 + i)) (by omega) (b + 1 + i) (by omega)
    show 1 + (TT bc c (b + 1 + i)).2.1 ≤ r + 1
    omega
/-- the next bound: the first of the best -/
theorem TT_nx (hc : c ≤ 12) {b : Nat} (hb : b ≤ c) : b < (TT bc c b).2.2 ∧ (TT bc c b).2.2 ≤ c + 1 ∧ k2 (TT bc c b) = wt bc b (TT bc c b).2.2 + k2 (TT bc c (TT bc c b).2.2) ∧ (∀ x, b < x → x ≤ c + 1 → k2 (TT bc c b) ≤ wt bc b x + k2 (TT bc c x)) ∧ ∀ x, b < x → x < (TT bc c b).2.2 → k2 (TT bc c b) < wt bc b x + k2 (TT bc c x) := by
  have hk : ∀ i, k2 (qb bc (TT bc c) b i) = wt bc b (b + 1 + i) + k2 (TT bc c (b + 1 + i)) := fun i => by
    unfold k2 qb wt
    dsimp only
    omega
  obtain ⟨⟨i, h1, h2, h3⟩, h4⟩ := bz_ok (bc := bc) (T := TT bc c) (b := b) (c - b) (fun i hi => by
    have := TT_m (bc := bc) hc (c + 1 - (b + 1 + i)) (b + 1 + i) (by omega) (by omega)
    omega)
  rw [← TT_at hb] at h2 h3 h4
  have hn : (TT bc c b).2.2 = b + 1 + i := by rw [h2]; rfl
  refine ⟨by omega, by omega, ?_, fun x hx1 hx2 => ?_, fun x hx1 hx2 => ?_⟩
  · rw [hn, ← hk i, ← h2]
  · have := h4 (x - b - 1) (by omega)
    rw [hk, show b + 1 + (x - b - 1) = x by omega] at this
    exact this
  · have := h3 (x - b - 1) (by omega)
    rw [hk, show b + 1 + (x - b - 1) = x by omega] at this
    exact this
/-- no set costs less -/
theorem ks_ge (hc : c ≤ 12) (σ : Nat → Bool) : ∀ r a k, k + r = c + 1 → a < k → ∃ x, k ≤ x ∧ x ≤ c + 1 ∧ wt bc a x + k2 (TT bc c x) ≤ ks bc σ r a k
  | 0, a, k, hk, ha => ⟨k, Nat.le_refl _, by omega, by
    have : k = c + 1 := by omega
    subst this
    rw [ks, TT_end]
    exact Nat.le_refl _⟩
  | r + 1, a, k, hk, ha => by
    rw [ks]
    by_cases e : σ k = true
    · rw [if_pos e]
      obtain ⟨x, h1, h2, h3⟩ := ks_ge hc σ r k (k + 1) (by omega) (by omega)
      have := (TT_nx (bc := bc) hc (show k ≤ c by omega)).2.2.2.1 x (by omega) h2
      exact ⟨k, Nat.le_refl _, by omega, by omega⟩
    · rw [if_neg e]
      obtain ⟨x, h1, h2, h3⟩ := ks_ge hc σ r a (k + 1) (by omega) (by omega)
      exact ⟨x, by omega, h2, h3⟩
theorem frp_lt : ∀ k, 1 ≤ k → frp bc c k < k
  | 0, h => by omega
  | k + 1, _ => by
    rw [frp]
    by_cases e : (TT bc c (frp bc c k)).2.2 = k ∧ k ≠ 0
    · rw [if_pos e]; omega
    · rw [if_neg e]
      by_cases z : k = 0
      · rw [z]
        exact Nat.lt_succ_self 0
      · have := frp_lt k (by omega)
        omega
theorem frp_nx (hc : c ≤ 12) : ∀ k, 1 ≤ k → k ≤ c + 1 → k ≤ (TT bc c (frp bc c k)).2.2
  | 0, h, _ => by omega
  | k + 1, _, hk => by
    by_cases z : k = 0
    · subst z
      rw [show frp bc c (0 + 1) = 0 by rw [frp, if_neg (fun z => z.2 rfl)]; rfl]
      exact (TT_nx (bc := bc) hc (Nat.zero_le c)).1
    · have h1 := frp_nx hc k (by omega) (by omega)
      rw [frp]
      by_cases e : (TT bc c (frp bc c k)).2.2 = k ∧ k ≠ 0
      · rw [if_pos e]
        exact (TT_nx (bc := bc) hc (show k ≤ c by omega)).1
      · rw [if_neg e]
        have : (TT bc c (frp bc c k)).2.2 ≠ k := fun z2 => e ⟨z2, z⟩
        omega
/-- the path against any set -/
theorem path_best (hc : c ≤ 12) (σ : Nat → Bool) : ∀ r k, 1 ≤ k → k + r = c + 1 → ks bc (sgp bc c) r (frp bc c k) k = k2 (TT bc c (frp bc c k)) ∧ (k2 (TT bc c (frp bc c k)) < ks bc σ r (frp bc c k) k ∨ (ks bc σ r (frp bc c k) k = k2 (TT bc c (frp bc c k)) ∧ ((∀ j, k ≤ j → j ≤ c → σ j = sgp bc c j) ∨ ∃ j, k ≤ j ∧ j ≤ c ∧ (∀ i, k ≤ i → i < j → σ i = sgp bc c i) ∧ σ j = false ∧ sgp bc c j = true)))
  | 0, k, hk1, hk => by
    have e : k = c + 1 := by omega
    have hlt := frp_lt (bc := bc) (c := c) k hk1
    have hn := TT_nx (bc := bc) hc (show frp bc c k ≤ c by omega)
    have hx := frp_nx (bc := bc) hc k hk1 (by omega)
    have hN : (TT bc c (frp bc c k)).2.2 = c + 1 := by omega
    have hval : k2 (TT bc c (frp bc c k)) = wt bc (frp bc c k) k := by
      rw [hn.2.2.1, hN, TT_end, e]
      rfl
    rw [ks, ks, hval]
    exact ⟨rfl, Or.inr ⟨rfl, Or.inl (fun j h1 h2 => by omega)⟩⟩
  | r + 1, k, hk1, hk => by
    have hlt := frp_lt (bc := bc) (c := c) k hk1
    have hn := TT_nx (bc := bc) hc (show frp bc c k ≤ c by omega)
    have hx := frp_nx (bc := bc) hc k hk1 (by omega)
    have ih := path_best hc σ r (k + 1) (by omega) (by omega)
    by_cases e : (TT bc c (frp bc c k)).2.2 = k
    · have hs : sgp bc c k = true := decide_eq_true e
      have hf : frp bc c (k + 1) = k := by rw [frp, if_pos ⟨e, by omega⟩]
      rw [hf] at ih
      have hval : k2 (TT bc c (frp bc c k)) = wt bc (frp bc c k) k + k2 (TT bc c k) := by
        have := hn.2.2.1
        rw [e] at this
        exact this
      rw [ks, if_pos hs, ih.1]
      refine ⟨hval.symm, ?_⟩
      rw [ks]
      cases hσ : σ k with
      | true =>
        rw [if_pos rfl]
        rcases ih.2 with z | ⟨z1, z2⟩
        · left
          omega
        · right
          refine ⟨by omega, ?_⟩
          rcases z2 with z2 | ⟨j, z3, z4, z5, z6, z7⟩
          · left
            intro j h1 h2
            by_cases ej : j = k
            · rw [ej, hσ, hs]
            · exact z2 j (by omega) h2
          · right
            refine ⟨j, by omega, z4, fun i h1 h2 => ?_, z6, z7⟩
            by_cases ei : i = k
            · rw [ei, hσ, hs]
            · exact z5 i (by omega) h2
      | false =>
        rw [if_neg (by simp)]
        obtain ⟨x, h1, h2, h3⟩ := ks_ge (bc := bc) hc σ r (frp bc c k) (k + 1) (by omega) (by omega)
        have h4 := hn.2.2.2.1 x (by omega) h2
        by_cases z : k2 (TT bc c (frp bc c k)) < ks bc σ r (frp bc c k) (k + 1)
        · exact Or.inl z
        · exact Or.inr ⟨by omega, Or.inr ⟨k, Nat.le_refl _, by omega, fun i h1 h2 => by omega, hσ, hs⟩⟩
    · have hs : sgp bc c k = false := decide_eq_false e
      have hf : frp bc c (k + 1) = frp bc c k := by rw [frp, if_neg (fun z => e z.1)]
      rw [hf] at ih
      rw [ks, if_neg (by rw [hs]; simp), ih.1]
      refine ⟨rfl, ?_⟩
      rw [ks]
      cases hσ : σ k with
      | true =>
        rw [if_pos rfl]
        left
        obtain ⟨x, h1, h2, h3⟩ := ks_ge (bc := bc) hc σ r k (k + 1) (by omega) (by omega)
        have h4 := (TT_nx (bc := bc) hc (show k ≤ c by omega)).2.2.2.1 x (by omega) h2
        have h5 := hn.2.2.2.2 k hlt (by omega)
        omega
      | false =>
        rw [if_neg (by simp)]
        rcases ih.2 with z | ⟨z1, z2⟩
        · exact Or.inl z
        · right
          refine ⟨z1, ?_⟩
          rcases z2 with z2 | ⟨j, z3, z4, z5, z6, z7⟩
          · left
            intro j h1 h2
            by_cases ej : j = k
            · rw [ej, hσ, hs]
            · exact z2 j (by omega) h2
          · right
            refine ⟨j, by omega, z4, fun i h1 h2 => ?_, z6, z7⟩
            by_cases ei : i = k
            · rw [ei, hσ, hs]
            · exact z5 i (by omega) h2
end SPL2
