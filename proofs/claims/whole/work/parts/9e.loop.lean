/-! THE LAW'S LOOP -/
theorem subLt {L i : Nat} (hL : L < 2147483648) (hi : i < 2147483648) : nI L - nI 4 < nI i ↔ L < i + 4 := by
  have h1 : (nI L - nI 4).toInt = (L : Int) - 4 := i32_toInt_ofNat_sub (by omega) (by omega)
  rw [Int32.lt_iff_toInt_lt, h1, nI_toInt hi]
  omega
theorem law_loop {d f L : Nat} {Q : Option Value × xS → Prop} (hf : f < 3) (hL0 : L < 1073741824) : ∀ (w i c s : Nat) (P : List Nat × Nat × Nat) (I : Nat → Nat → Int32) (J : Nat → Nat → Int64), 1 ≤ i → i ≤ L + 5 → L < i + 4 * w + 4 → ((c = 41 ∧ s = 47) ∨ (c = 47 ∧ s = 41)) → P.1 = [] → XI f c I J → (∀ (P' : List Nat × Nat × Nat) I' J' F', P'.2.1 ≤ P.2.1 + xcT * w → P'.2.2 ≤ P.2.2 + xsT * w → Q (some (.int (nI 1)), (xK f L, P', I', J', F'))) → Wp (d + 8) 169 33 [some (.ref 0), some (.ref 4), some (.ref 59), some (.ref 107), some (.int (nI i)), none, none] [] (xK f L, P, I, J, xFr f c s) Q := by
  intro w
  have hL : L < 2147483648 := by omega
  induction w with
  | zero =>
    intro i c s P I J h1 h2 h3 hcs hP hX k
    exact wL_law_33 (xK_lt hf hL) rfl (br1 ((subLt hL (by omega)).mpr (by omega)) (k P I J _ (by omega) (by omega)))
  | succ w ih =>
    intro i c s P I J h1 h2 h3 hcs hP hX k
    have hm1 : xcT * w ≤ xcT * (w + 1) := Nat.mul_le_mul_left _ (by omega)
    have hm2 : xsT * w ≤ xsT * (w + 1) := Nat.mul_le_mul_left _ (by omega)
    have hm3 : xcT * (w + 1) = xcT * w + xcT := Nat.mul_succ _ _
    have hm4 : xsT * (w + 1) = xsT * w + xsT := Nat.mul_succ _ _
    refine wL_law_33 (xK_lt hf hL) rfl (brc (subLt hL (by omega)) (fun _ => k P I J _ (by omega) (by omega)) (fun h => ⟨i, rfl, by omega, ?_⟩))
    have nxt : ∀ I' J' c' s', ((c' = 41 ∧ s' = 47) ∨ (c' = 47 ∧ s' = 41)) → XI f c' I' J' → I' 0 = I 0 → Wp (d + 8) 169 33 [some (.ref 0), some (.ref 4), some (.ref 59), some (.ref 107), some (.int (nI i + nI 4)), none, none] [] (xK f L, P, I', J', xFr f c' s') Q := by
      intro I' J' c' s' hcs' hX' _
      rw [nI_add]
      exact ih (i + 4) c' s' P I' J' (by omega) (by omega) (by omega) hcs' hP hX' (fun P' I2 J2 F2 z1 z2 => k P' I2 J2 F2 (by omega) (by omega))
    have nxtT : ∀ I' J', XI f c I' J' → I' 0 = I 0 → Wp (d + 8) 169 33 [some (.ref 0), some (.ref 4), some (.ref 59), some (.ref 107), some (.int (nI i + nI 4)), none, none] [] (xK f L, (P.1, P.2.1 + xcT, P.2.2 + xsT), I', J', xFr f c s) Q := by
      intro I' J' hX' _
      rw [nI_add]
      exact ih (i + 4) c s (P.1, P.2.1 + xcT, P.2.2 + xsT) I' J' (by omega) (by omega) (by omega) hcs hP hX' (fun P' I2 J2 F2 z1 z2 => k P' I2 J2 F2 (by dsimp only at z1; omega) (by dsimp only at z2; omega))
    have hi4 : i + 4 ≤ L := by omega
    exact ⟨fun _ => law_140 hf hL hcs hi4 hX nxt, fun _ => ⟨fun _ => law_209 hf hL hcs hi4 hX nxt, fun _ => ⟨fun _ => law_258 hf hL hcs hi4 hX nxt, fun _ => ⟨fun _ => law_295 hf hL hcs hi4 hX nxt, fun _ => ⟨fun _ => law_320 hf hL hcs hi4 hX nxt, fun _ => ⟨fun _ => law_345 hf hL hcs hi4 hX nxt, fun _ => ⟨fun _ => law_382 hf hL hcs hi4 hX nxt, fun _ => ⟨fun _ => law_396 hf hL hcs hi4 hX nxt, fun _ => ⟨fun _ => law_410 hf hL hcs hi4 hX nxt, fun _ => ⟨fun _ => law_423 hf hL hcs hi4 hX nxt, fun _ => ⟨fun _ => law_448 hf hL hcs hi4 hX nxt, fun _ => ⟨fun _ => law_474 hf hL hcs hi4 hX nxt, fun _ => ⟨fun _ => law_499 hf hL hcs hi4 hX nxt, fun _ => ⟨fun _ => law_536 hf hL hcs hi4 hX nxt, fun _ => ⟨fun _ => law_561 hf hL hcs hi4 hX nxt, fun _ => ⟨fun _ => law_587 hf hL hcs hi4 hX nxt, fun _ => ⟨fun _ => law_612 hf hL hcs hi4 hX nxt, fun _ => ⟨fun _ => law_637 hf hL hcs hi4 hX nxt, fun _ => ⟨fun _ => law_648 hf hL hcs hi4 hP hX nxtT, fun _ => nxt I J c s hcs hX rfl⟩⟩⟩⟩⟩⟩⟩⟩⟩⟩⟩⟩⟩⟩⟩⟩⟩⟩⟩
