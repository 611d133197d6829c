/-! THE LAW'S LOOP, call by call -/
section LAWS
variable {d f L c s i : Nat} {Q : Option Value × xS → Prop} {P : List Nat × Nat × Nat} {I : Nat → Nat → Int32} {J : Nat → Nat → Int64}
theorem XI.mk0 {n : Nat} {t : Nat → Nat} {V : Nat → Nat → Nat} {kp dr ps m : Nat} {R : Nat → xSt} {sm le cn : Nat} {C : Nat → Nat} {tn : Nat} {T : Nat → Nat} {v : Int32} (hp : c = 41 ∨ c = 47) (hA : XA f c n t V kp dr ps m R sm le cn C tn T I J) (hB : XB f n t V kp dr ps m R sm le cn C tn T I J) (hD : XD f n t kp ps m R le cn C tn) : XI f c (xup I 59 0 v) J := ⟨n, t, V, kp, dr, ps, m, R, sm, le, cn, C, tn, T, hA.ml hp (xag.rfl.up (by decide)) (fun _ _ => rfl), hB.x0, hD⟩
theorem lgc (y : Int64) : lg_cmp y y = 0 := by rw [lg_cmp_eq]
theorem RN.le {f : Nat} {t : Nat → Nat} {n K : Nat} {V0 : Nat → Nat → Nat} : ∀ {r : Nat} {V : Nat → Nat → Nat} {D : Nat} {S : xRd}, RN f t n K V0 r V D S → S.2.2.2.2.2 < 2
  | 0, _, _, _, h => by
    rw [h.2.2]
    show 0 < 2
    omega
  | r + 1, _, _, _, h => by
    obtain ⟨V1, D1, S1, m, h1, h2, h3, h4, h5⟩ := h
    rw [h5]
    split
    · show (if _ = 0 then 1 else 0) < 2
      split <;> omega
    · exact RN.le h1
/-- octets -/
theorem law_140 (hf : f < 3) (hL : L < 2147483648) (hcs : (c = 41 ∧ s = 47) ∨ (c = 47 ∧ s = 41)) (hi : i + 4 ≤ L) (hX : XI f c I J) (nxt : ∀ I' J' c' s', ((c' = 41 ∧ s' = 47) ∨ (c' = 47 ∧ s' = 41)) → XI f c' I' J' → I' 0 = I 0 → Wp (d + 8) 169 33 [some (.ref 0), some (.ref 4), some (.ref 59), some (.ref 107), some (.int (nI i + nI 4)), none, none] [] (xK f L, P, I', J', xFr f c' s') Q) : Wp (d + 8) 169 140 [some (.ref 0), some (.ref 4), some (.ref 59), some (.ref 107), some (.int (nI i)), none, none] [] (xK f L, P, I, J, xFr f c s) Q := by
  obtain ⟨n, t, V, kp, dr, ps, m, R, sm, le, cn, C, tn, T, hA, hB, hD⟩ := hX
  have hp : c = 41 ∨ c = 47 := by omega
  have hn := hA.1.1.2.2.2.1
  refine wL_law_140 (xK_lt hf hL) rfl rfl rfl ⟨i + 1, nI_add _ _, by omega, i + 2, nI_add _ _, by omega, i + 3, nI_add _ _, by omega, ?_⟩
  by_cases ho : ∃ k, OcOk n (I 0 (i + 1)) k
  · obtain ⟨k, ho⟩ := ho
    refine p_octetsC hf hL hA.1 ho (fun I1 a1 a2 a3 a4 => ⟨_, _, _, rfl, i + 1, nI_add _ _, by omega, i + 2, nI_add _ _, by omega, i + 3, nI_add _ _, by omega, ?_⟩)
    all_goals try dsimp only
    have hB1 := hB.cl (I' := I1) (J' := J) (a1.wd (by decide)) (fun _ _ => rfl)
    rw [a1 0 (by decide)]
    refine p_octetsM hf hL hB1.2.1 ho (fun I2 b1 b2 b3 b4 b5 => ⟨_, _, _, rfl, br1 rfl (nxt I2 J c s hcs ⟨n + k, tap t n ((I 0 (i + 2)).toInt64 <<< ((nI 32).toInt64 &&& 63) ||| (I 0 (i + 3)).toInt64 &&& lN 4294967295) k, V, kp, dr, 0, m, R, sm, le, cn, C, tn, T, ?_, ?_, ?_⟩ (by rw [b1 0 (by decide), a1 0 (by decide)]))⟩)
    all_goals try dsimp only
    · refine XA.ml (I := I1) (J := J) hp ⟨a4, ⟨a3, by rw [a2 10 (by decide)]; exact hA.2.1.2.1, by rw [a2 11 (by decide)]; exact hA.2.1.2.2⟩, fun z => by omega, hA.2.2.2.1.ag a1 (by decide), by rw [a1 34 (by decide)]; exact hA.2.2.2.2.1, by rw [a1 36 (by decide)]; exact hA.2.2.2.2.2⟩ (b1.wd (by decide)) (fun _ _ => rfl)
    · refine ⟨⟨by rw [b2 1 (by decide) (by decide) (by decide)]; exact hB1.1.1, by rw [b1 64 (by decide)]; exact hB1.1.2.1, hB1.1.2.2⟩, b5, ⟨by rw [b2 5 (by decide) (by decide) (by decide)]; exact hB1.2.2.1.1, b4, by rw [b2 18 (by decide) (by decide) (by decide)]; exact hB1.2.2.1.2.2⟩, fun z => by omega, ⟨by rw [b2 7 (by decide) (by decide) (by decide)]; exact hB1.2.2.2.2.1.1, by rw [b1 66 (by decide)]; exact hB1.2.2.2.2.1.2⟩, by rw [b2 9 (by decide) (by decide) (by decide)]; exact hB1.2.2.2.2.2.1, by rw [b1 68 (by decide)]; exact hB1.2.2.2.2.2.2⟩
    · exact ⟨by omega, hD.2.1, hD.2.2.1.mono (by omega), hD.2.2.2.1, fun z => by omega, hD.2.2.2.2.2⟩
  · have ho' : ∀ k, ¬ OcOk n (I 0 (i + 1)) k := fun k z => ho ⟨k, z⟩
    refine p_octetsC0 hf hA.1 ho' ⟨_, _, _, rfl, i + 1, nI_add _ _, by omega, i + 2, nI_add _ _, by omega, i + 3, nI_add _ _, by omega, ?_⟩
    all_goals try dsimp only
    exact p_octetsM0 hf hB.2.1 ho' ⟨_, _, _, rfl, br1 rfl (nxt _ J c s hcs (XI.mk0 hp hA hB hD) (by rw [xup_ne _ _ _ (by decide)]))⟩
/-- cost -/
theorem law_209 (hf : f < 3) (hL : L < 2147483648) (hcs : (c = 41 ∧ s = 47) ∨ (c = 47 ∧ s = 41)) (hi : i + 4 ≤ L) (hX : XI f c I J) (nxt : ∀ I' J' c' s', ((c' = 41 ∧ s' = 47) ∨ (c' = 47 ∧ s' = 41)) → XI f c' I' J' → I' 0 = I 0 → Wp (d + 8) 169 33 [some (.ref 0), some (.ref 4), some (.ref 59), some (.ref 107), some (.int (nI i + nI 4)), none, none] [] (xK f L, P, I', J', xFr f c' s') Q) : Wp (d + 8) 169 209 [some (.ref 0), some (.ref 4), some (.ref 59), some (.ref 107), some (.int (nI i)), none, none] [] (xK f L, P, I, J, xFr f c s) Q := by
  obtain ⟨n, t, V, kp, dr, ps, m, R, sm, le, cn, C, tn, T, hA, hB, hD⟩ := hX
  have hp : c = 41 ∨ c = 47 := by omega
  have hn := hA.1.1.2.2.2.1
  refine wL_law_209 (xK_lt hf hL) rfl rfl rfl ⟨i + 1, nI_add _ _, by omega, i + 2, nI_add _ _, by omega, i + 3, nI_add _ _, by omega, ?_⟩
  by_cases ho : ∃ k s w, CoOk f (I 0 (i + 1)) (I 0 (i + 2)) (I 0 (i + 3)) k s w
  · obtain ⟨k, s', w, ho⟩ := ho
    have hk4 : k < 4 := by
      have h1 := ho.1.2.1
      have h2 := xcl_le f
      omega
    have hs' := ho.1.2.2.2
    refine p_costC1 hf hL hA.1 ho ⟨_, _, _, rfl, i + 1, nI_add _ _, by omega, i + 2, nI_add _ _, by omega, i + 3, nI_add _ _, by omega, ?_⟩
    all_goals try dsimp only
    have a1 : xag I (xup I 11 (BS k + s') (nI w)) [11] := xag.rfl.up (by simp)
    have hB1 := hB.cl (J' := J) (a1.wd (by decide)) (fun _ _ => rfl)
    have hC1 := hA.1.put hk4 hs' ho.2.2.1 ho.2.2.2
    rw [a1 0 (by decide)]
    have hA1 : XA f c n t (upV V k s' w) kp dr ps m R sm le cn C tn T (xup I 11 (BS k + s') (nI w)) J := ⟨hC1, by rw [a1 4 (by decide)]; exact hA.2.1, fun z => (hA.2.2.1 z).ag a1 (by rcases hp with rfl | rfl <;> decide) rfl, hA.2.2.2.1.ag a1 (by decide), by rw [a1 34 (by decide)]; exact hA.2.2.2.2.1, by rw [a1 36 (by decide)]; exact hA.2.2.2.2.2⟩
    have h00 : xup I 11 (BS k + s') (nI w) 0 = I 0 := a1 0 (by decide)
    generalize xup I 11 (BS k + s') (nI w) = I1 at *
    refine p_costM1 hf hL hB1.1 ho ⟨_, _, _, rfl, br1 rfl (nxt _ J c s hcs ⟨n, t, upV V k s' w, kp, dr, ps, m, R, sm, le, cn, C, tn, T, ?_, ?_, hD⟩ (by rw [xup_ne _ _ _ (by decide), xup_ne _ _ _ (by decide)]; exact h00))⟩
    all_goals try dsimp only
    · exact hA1.ml hp ((xag.rfl.up (by decide)).up (by decide)) (fun _ _ => rfl)
    · have hB2 := hB1.x0 (v := nI 0)
      have c1 : xag (xup I1 59 0 (nI 0)) (xup (xup I1 59 0 (nI 0)) 64 (256 * k + s') (nI w)) [64] := xag.rfl.up (by simp)
      exact ⟨hB2.1.put hk4 hs' ho.2.2.1 ho.2.2.2, hB2.2.1.ag c1 (by decide) (by decide), by rw [c1 59 (by decide)]; exact hB2.2.2.1, fun z => ⟨(hB2.2.2.2.1 z).1.ag c1 (by decide), (hB2.2.2.2.1 z).2.1, by rw [c1 59 (by decide)]; exact (hB2.2.2.2.1 z).2.2⟩, hB2.2.2.2.2.1.ag c1 (by decide), by rw [c1 59 (by decide)]; exact hB2.2.2.2.2.2.1, by rw [c1 68 (by decide)]; exact hB2.2.2.2.2.2.2⟩
  · have ho' : ∀ k s w, ¬ CoOk f (I 0 (i + 1)) (I 0 (i + 2)) (I 0 (i + 3)) k s w := fun k s w z => ho ⟨k, s, w, z⟩
    refine p_costC0 hf hL hA.1 ho' ⟨_, _, _, rfl, i + 1, nI_add _ _, by omega, i + 2, nI_add _ _, by omega, i + 3, nI_add _ _, by omega, ?_⟩
    all_goals try dsimp only
    exact p_costM0 hf hL hB.1 ho' ⟨_, _, _, rfl, br1 rfl (nxt _ J c s hcs (XI.mk0 hp hA hB hD) (by rw [xup_ne _ _ _ (by decide)]))⟩
/-- price -/
theorem law_258 (hf : f < 3) (hL : L < 2147483648) (hcs : (c = 41 ∧ s = 47) ∨ (c = 47 ∧ s = 41)) (hi : i + 4 ≤ L) (hX : XI f c I J) (nxt : ∀ I' J' c' s', ((c' = 41 ∧ s' = 47) ∨ (c' = 47 ∧ s' = 41)) → XI f c' I' J' → I' 0 = I 0 → Wp (d + 8) 169 33 [some (.ref 0), some (.ref 4), some (.ref 59), some (.ref 107), some (.int (nI i + nI 4)), none, none] [] (xK f L, P, I', J', xFr f c' s') Q) : Wp (d + 8) 169 258 [some (.ref 0), some (.ref 4), some (.ref 59), some (.ref 107), some (.int (nI i)), none, none] [] (xK f L, P, I, J, xFr f c s) Q := by
  obtain ⟨n, t, V, kp, dr, ps, m, R, sm, le, cn, C, tn, T, hA, hB, hD⟩ := hX
  have hp : c = 41 ∨ c = 47 := by omega
  have hn := hA.1.1.2.2.2.1
  refine wL_law_258 (xK_lt hf hL) rfl rfl rfl ⟨i + 1, nI_add _ _, by omega, i + 2, nI_add _ _, by omega, ?_⟩
  by_cases ho : ∃ k s, PrOk f (I 0 (i + 1)) (I 0 (i + 2)) k s
  · obtain ⟨k, s', ho⟩ := ho
    refine p_priceC1 hf hL hA.1 ho ⟨_, _, _, rfl, i + 1, nI_add _ _, by omega, i + 2, nI_add _ _, by omega, ?_⟩
    all_goals try dsimp only
    exact p_priceM1 hf hL hB.1 ho ⟨_, _, _, rfl, br1 rfl (nxt _ J c s hcs (XI.mk0 hp hA hB hD) (by rw [xup_ne _ _ _ (by decide)]))⟩
  · have ho' : ∀ k s, ¬ PrOk f (I 0 (i + 1)) (I 0 (i + 2)) k s := fun k s z => ho ⟨k, s, z⟩
    refine p_priceC0 hf hL hA.1 ho' ⟨_, _, _, rfl, i + 1, nI_add _ _, by omega, i + 2, nI_add _ _, by omega, ?_⟩
    all_goals try dsimp only
    exact p_priceM0 hf hL hB.1 ho' ⟨_, _, _, rfl, br1 rfl (nxt _ J c s hcs (XI.mk0 hp hA hB hD) (by rw [xup_ne _ _ _ (by decide)]))⟩
/-- keep -/
theorem law_295 (hf : f < 3) (hL : L < 2147483648) (hcs : (c = 41 ∧ s = 47) ∨ (c = 47 ∧ s = 41)) (hi : i + 4 ≤ L) (hX : XI f c I J) (nxt : ∀ I' J' c' s', ((c' = 41 ∧ s' = 47) ∨ (c' = 47 ∧ s' = 41)) → XI f c' I' J' → I' 0 = I 0 → Wp (d + 8) 169 33 [some (.ref 0), some (.ref 4), some (.ref 59), some (.ref 107), some (.int (nI i + nI 4)), none, none] [] (xK f L, P, I', J', xFr f c' s') Q) : Wp (d + 8) 169 295 [some (.ref 0), some (.ref 4), some (.ref 59), some (.ref 107), some (.int (nI i)), none, none] [] (xK f L, P, I, J, xFr f c s) Q := by
  obtain ⟨n, t, V, kp, dr, ps, m, R, sm, le, cn, C, tn, T, hA, hB, hD⟩ := hX
  have hp : c = 41 ∨ c = 47 := by omega
  have hn := hA.1.1.2.2.2.1
  refine wL_law_295 (xK_lt hf hL) rfl rfl rfl ⟨i + 1, nI_add _ _, by omega, ?_⟩
  by_cases ho : ∃ k, KeOk f (I 0 (i + 1)) k
  · obtain ⟨k, ho⟩ := ho
    refine p_keepC1 hf hA.1.2.2.2.1 hA.2.1.2.1 ho ⟨_, _, _, rfl, i + 1, nI_add _ _, by omega, ?_⟩
    all_goals try dsimp only
    have a1 : xag I (xup I 4 10 (nI k)) [4] := xag.rfl.up (by simp)
    have h4 : ∀ q, q ≠ 10 → xup I 4 10 (nI k) 4 q = I 4 q := fun q hq => by rw [xup_at, if_neg hq]
    have h410 : xup I 4 10 (nI k) 4 10 = nI k := by rw [xup_at, if_pos rfl]
    have hB1 := hB.cl (J' := J) (a1.wd (by decide)) (fun _ _ => rfl)
    rw [a1 0 (by decide)]
    have h00 : xup I 4 10 (nI k) 0 = I 0 := a1 0 (by decide)
    generalize xup I 4 10 (nI k) = I1 at *
    have hA1 : XA f c n t V k dr ps m R sm le cn C tn T I1 J := ⟨hA.1.ag a1 (by decide) (h4 0 (by decide)) (fun z => by rw [a1 29 (by decide)]; exact hA.1.2.2.2.2.2 z), ⟨by rw [h4 9 (by decide)]; exact hA.2.1.1, h410, by rw [h4 11 (by decide)]; exact hA.2.1.2.2⟩, fun z => (hA.2.2.1 z).ag a1 (by rcases hp with rfl | rfl <;> decide) rfl, hA.2.2.2.1.ag a1 (by decide), by rw [a1 34 (by decide)]; exact hA.2.2.2.2.1, by rw [a1 36 (by decide)]; exact hA.2.2.2.2.2⟩
    refine p_keepM1 hf hB1.1.1 hB1.2.2.1.1 ho ⟨_, _, _, rfl, br1 rfl (nxt _ J c s hcs ⟨n, t, V, k, dr, ps, m, R, sm, le, cn, C, tn, T, hA1.ml hp ((xag.rfl.up (by decide)).up (by decide)) (fun _ _ => rfl), ?_, ⟨hD.1, ⟨ho.2.2.1, ho.2.2.2⟩, hD.2.2⟩⟩ (by rw [xup_ne _ _ _ (by decide), xup_ne _ _ _ (by decide)]; exact h00))⟩
    all_goals try dsimp only
    have hB2 := hB1.x0 (v := nI 0)
    generalize xup I1 59 0 (nI 0) = I2 at *
    have g : ∀ q, q ≠ 5 → xup I2 59 5 (nI k) 59 q = I2 59 q := fun q hq => by rw [xup_at, if_neg hq]
    refine ⟨⟨by rw [g 1 (by decide)]; exact hB2.1.1, by rw [xup_ne _ _ _ (by decide)]; exact hB2.1.2.1, hB2.1.2.2⟩, ⟨by rw [g 3 (by decide)]; exact hB2.2.1.1, hB2.2.1.2.1, by rw [xup_ne _ _ _ (by decide)]; exact hB2.2.1.2.2⟩, ⟨by rw [xup_at, if_pos rfl], by rw [g 10 (by decide)]; exact hB2.2.2.1.2.1, by rw [g 18 (by decide)]; exact hB2.2.2.1.2.2⟩, fun z => ⟨⟨by rw [g 11 (by decide)]; exact (hB2.2.2.2.1 z).1.1, (hB2.2.2.2.1 z).1.2.1, by rw [xup_ne _ _ _ (by decide), xup_ne _ _ _ (by decide), xup_ne _ _ _ (by decide), xup_ne _ _ _ (by decide)]; exact (hB2.2.2.2.1 z).1.2.2⟩, (hB2.2.2.2.1 z).2.1, by rw [g 17 (by decide)]; exact (hB2.2.2.2.1 z).2.2⟩, ⟨by rw [g 7 (by decide)]; exact hB2.2.2.2.2.1.1, by rw [xup_ne _ _ _ (by decide)]; exact hB2.2.2.2.2.1.2⟩, by rw [g 9 (by decide)]; exact hB2.2.2.2.2.2.1, by rw [xup_ne _ _ _ (by decide)]; exact hB2.2.2.2.2.2.2⟩
  · have ho' : ∀ k, ¬ KeOk f (I 0 (i + 1)) k := fun k z => ho ⟨k, z⟩
    refine p_keepC0 hf hA.1.2.2.2.1 ho' ⟨_, _, _, rfl, i + 1, nI_add _ _, by omega, ?_⟩
    all_goals try dsimp only
    exact p_keepM0 hf hB.1.1 ho' ⟨_, _, _, rfl, br1 rfl (nxt _ J c s hcs (XI.mk0 hp hA hB hD) (by rw [xup_ne _ _ _ (by decide)]))⟩
/-- parse -/
theorem law_320 (hf : f < 3) (hL : L < 2147483648) (hcs : (c = 41 ∧ s = 47) ∨ (c = 47 ∧ s = 41)) (hi : i + 4 ≤ L) (hX : XI f c I J) (nxt : ∀ I' J' c' s', ((c' = 41 ∧ s' = 47) ∨ (c' = 47 ∧ s' = 41)) → XI f c' I' J' → I' 0 = I 0 → Wp (d + 8) 169 33 [some (.ref 0), some (.ref 4), some (.ref 59), some (.ref 107), some (.int (nI i + nI 4)), none, none] [] (xK f L, P, I', J', xFr f c' s') Q) : Wp (d + 8) 169 320 [some (.ref 0), some (.ref 4), some (.ref 59), some (.ref 107), some (.int (nI i)), none, none] [] (xK f L, P, I, J, xFr f c s) Q := by
  obtain ⟨n, t, V, kp, dr, ps, m, R, sm, le, cn, C, tn, T, hA, hB, hD⟩ := hX
  have hp : c = 41 ∨ c = 47 := by omega
  have hn := hA.1.1.2.2.2.1
  refine wL_law_320 (xK_lt hf hL) rfl rfl rfl ⟨i + 1, nI_add _ _, by omega, ?_⟩
  by_cases ho : ∃ k, PaOk (I 0 (i + 1)) k
  · obtain ⟨h, ho⟩ := ho
    refine p_parseC1 hf hL hp hA.1 hA.2.1.2.1 hD.2.1.1 hD.2.1.2 hA.2.1.2.2 ho (fun I1 J1 m1 a1 a2 a3 a4 a5 a6 a7 a8 => ⟨_, _, _, rfl, i + 1, nI_add _ _, by omega, ?_⟩)
    all_goals try dsimp only
    have a1' : xag I I1 cL := a1.wd (by rcases hp with rfl | rfl <;> decide)
    have hB1 := hB.cl (I' := I1) (J' := J1) a1' (fun a ha => a6 a (by omega) (by omega) (by omega) (by omega))
    rw [a1' 0 (by decide)]
    have h34 : 34 ∉ [4, 13, 14, 20, 21, 22, 23, 24, 25, 26, 29, 30, 31, c, c + 1, c + 2, c + 3, c + 4, c + 5] ∧ 35 ∉ [4, 13, 14, 20, 21, 22, 23, 24, 25, 26, 29, 30, 31, c, c + 1, c + 2, c + 3, c + 4, c + 5] ∧ 36 ∉ [4, 13, 14, 20, 21, 22, 23, 24, 25, 26, 29, 30, 31, c, c + 1, c + 2, c + 3, c + 4, c + 5] := by rcases hp with rfl | rfl <;> decide
    refine p_parseM1 hf hL hB1.2.2.1.1 hD.2.1.1 hD.2.1.2 hB1.1 hB1.2.1 hB1.2.2.1.2.2 ho (fun I2 m2 b1 b2 b3 b4 b5 b6 b7 => ⟨_, _, _, rfl, ?_⟩)
    all_goals try dsimp only
    have em := a7.uniq b5
    subst em
    refine br1 rfl (nxt I2 _ c s hcs ⟨n, t, V, kp, (if h = 3 then bD f V t n kp else dr), 1, m1, pR f V t n kp h m1, allc V f t (pR f V t n kp h m1) m1, pL f V t n kp h, cn, C, tn, T, ?_, ?_, ?_⟩ (by rw [b1 0 (by decide), a1' 0 (by decide)]))
    · exact XA.ml (I := I1) (J := J1) hp ⟨a5, ⟨a3, by rw [a2 10 (by decide) (by decide)]; exact hA.2.1.2.1, a4⟩, fun _ => a8, hA.2.2.2.1.ag a1 ⟨h34.1, h34.2.1⟩, by rw [a1 34 h34.1]; exact hA.2.2.2.2.1, by rw [a1 36 h34.2.2]; exact hA.2.2.2.2.2⟩ (b1.wd (by decide)) (fun a ha => xup_ne _ _ _ (by omega))
    · exact ⟨⟨by rw [b2 1 (by decide) (by decide) (by decide) (by decide) (by decide) (by decide)]; exact hB1.1.1, by rw [b1 64 (by decide)]; exact hB1.1.2.1, hB1.1.2.2⟩, ⟨by rw [b2 3 (by decide) (by decide) (by decide) (by decide) (by decide) (by decide)]; exact hB1.2.1.1, hn, by rw [b1 62 (by decide)]; exact hB1.2.1.2.2⟩, ⟨by rw [b2 5 (by decide) (by decide) (by decide) (by decide) (by decide) (by decide)]; exact hB1.2.2.1.1, b3, b4⟩, fun _ => ⟨b6, by rw [xup_at, if_pos rfl], b7⟩, ⟨by rw [b2 7 (by decide) (by decide) (by decide) (by decide) (by decide) (by decide)]; exact hB1.2.2.2.2.1.1, by rw [b1 66 (by decide)]; exact hB1.2.2.2.2.1.2⟩, by rw [b2 9 (by decide) (by decide) (by decide) (by decide) (by decide) (by decide)]; exact hB1.2.2.2.2.2.1, by rw [b1 68 (by decide)]; exact hB1.2.2.2.2.2.2⟩
    · refine ⟨by omega, hD.2.1, hD.2.2.1, hD.2.2.2.1, fun _ => a8.2.1, ?_⟩
      unfold pL
      split
      · split <;> omega
      · omega
  · have ho' : ∀ k, ¬ PaOk (I 0 (i + 1)) k := fun k z => ho ⟨k, z⟩
    refine p_parseC0 hf hp ho' ⟨_, _, _, rfl, i + 1, nI_add _ _, by omega, ?_⟩
    all_goals try dsimp only
    exact p_parseM0 hf ho' ⟨_, _, _, rfl, br1 rfl (nxt _ J c s hcs (XI.mk0 hp hA hB hD) (by rw [xup_ne _ _ _ (by decide)]))⟩
/-- step -/
theorem law_345 (hf : f < 3) (hL : L < 2147483648) (hcs : (c = 41 ∧ s = 47) ∨ (c = 47 ∧ s = 41)) (hi : i + 4 ≤ L) (hX : XI f c I J) (nxt : ∀ I' J' c' s', ((c' = 41 ∧ s' = 47) ∨ (c' = 47 ∧ s' = 41)) → XI f c' I' J' → I' 0 = I 0 → Wp (d + 8) 169 33 [some (.ref 0), some (.ref 4), some (.ref 59), some (.ref 107), some (.int (nI i + nI 4)), none, none] [] (xK f L, P, I', J', xFr f c' s') Q) : Wp (d + 8) 169 345 [some (.ref 0), some (.ref 4), some (.ref 59), some (.ref 107), some (.int (nI i)), none, none] [] (xK f L, P, I, J, xFr f c s) Q := by
  obtain ⟨n, t, V, kp, dr, ps, m, R, sm, le, cn, C, tn, T, hA, hB, hD⟩ := hX
  have hp : c = 41 ∨ c = 47 := by omega
  have hn := hA.1.1.2.2.2.1
  refine wL_law_345 (xK_lt hf hL) rfl rfl rfl ⟨i + 1, nI_add _ _, by omega, i + 2, nI_add _ _, by omega, ?_⟩
  by_cases ho : ∃ k w, StOk ps m (I 0 (i + 1)) (I 0 (i + 2)) k w
  · obtain ⟨k, w, ho⟩ := ho
    refine p_stepC1 hf hL hp hA.2.1.1 (fun z => (hA.2.2.1 z).1) ho ⟨_, _, _, rfl, i + 1, nI_add _ _, by omega, i + 2, nI_add _ _, by omega, ?_⟩
    all_goals try dsimp only
    exact p_stepM1 hf hL hB.2.2.1.2.1 (fun z => (hB.2.2.2.1 z).1) ho ⟨_, _, _, rfl, br1 rfl (nxt _ J c s hcs (XI.mk0 hp hA hB hD) (by rw [xup_ne _ _ _ (by decide)]))⟩
  · have ho' : ∀ k w, ¬ StOk ps m (I 0 (i + 1)) (I 0 (i + 2)) k w := fun k w z => ho ⟨k, w, z⟩
    refine p_stepC0 hf hL hp hA.2.1.1 hD.1 (fun z => (hA.2.2.1 z).1) ho' ⟨_, _, _, rfl, i + 1, nI_add _ _, by omega, i + 2, nI_add _ _, by omega, ?_⟩
    all_goals try dsimp only
    exact p_stepM0 hf hL hB.2.2.1.2.1 hD.1 (fun z => (hB.2.2.2.1 z).1) ho' ⟨_, _, _, rfl, br1 rfl (nxt _ J c s hcs (XI.mk0 hp hA hB hD) (by rw [xup_ne _ _ _ (by decide)]))⟩
/-- sum, again, least -/
theorem law_382 (hf : f < 3) (hL : L < 2147483648) (hcs : (c = 41 ∧ s = 47) ∨ (c = 47 ∧ s = 41)) (hi : i + 4 ≤ L) (hX : XI f c I J) (nxt : ∀ I' J' c' s', ((c' = 41 ∧ s' = 47) ∨ (c' = 47 ∧ s' = 41)) → XI f c' I' J' → I' 0 = I 0 → Wp (d + 8) 169 33 [some (.ref 0), some (.ref 4), some (.ref 59), some (.ref 107), some (.int (nI i + nI 4)), none, none] [] (xK f L, P, I', J', xFr f c' s') Q) : Wp (d + 8) 169 382 [some (.ref 0), some (.ref 4), some (.ref 59), some (.ref 107), some (.int (nI i)), none, none] [] (xK f L, P, I, J, xFr f c s) Q := by
  obtain ⟨n, t, V, kp, dr, ps, m, R, sm, le, cn, C, tn, T, hA, hB, hD⟩ := hX
  have hp : c = 41 ∨ c = 47 := by omega
  have hn := hA.1.1.2.2.2.1
  refine wL_law_382 rfl rfl (p_sumC hf hp hA.2.1.1 hD.1 (fun z => (hA.2.2.1 z).2.2.1) ⟨_, _, _, rfl, ?_⟩)
  all_goals try dsimp only
  exact p_sumM hf hB.2.2.1.2.1 hD.1 (fun z => (hB.2.2.2.1 z).2.1) ⟨_, _, _, rfl, br1 (lgc _) (nxt _ J c s hcs (XI.mk0 hp hA hB hD) (by rw [xup_ne _ _ _ (by decide)]))⟩
theorem law_396 (hf : f < 3) (hL : L < 2147483648) (hcs : (c = 41 ∧ s = 47) ∨ (c = 47 ∧ s = 41)) (hi : i + 4 ≤ L) (hX : XI f c I J) (nxt : ∀ I' J' c' s', ((c' = 41 ∧ s' = 47) ∨ (c' = 47 ∧ s' = 41)) → XI f c' I' J' → I' 0 = I 0 → Wp (d + 8) 169 33 [some (.ref 0), some (.ref 4), some (.ref 59), some (.ref 107), some (.int (nI i + nI 4)), none, none] [] (xK f L, P, I', J', xFr f c' s') Q) : Wp (d + 8) 169 396 [some (.ref 0), some (.ref 4), some (.ref 59), some (.ref 107), some (.int (nI i)), none, none] [] (xK f L, P, I, J, xFr f c s) Q := by
  obtain ⟨n, t, V, kp, dr, ps, m, R, sm, le, cn, C, tn, T, hA, hB, hD⟩ := hX
  have hp : c = 41 ∨ c = 47 := by omega
  have hn := hA.1.1.2.2.2.1
  refine wL_law_396 rfl rfl (p_againC hf hL hp hA.1 hA.2.1.1 hD.1 (fun z => ⟨(hA.2.2.1 z).1, (hA.2.2.1 z).2.1⟩) ⟨_, _, _, rfl, ?_⟩)
  all_goals try dsimp only
  exact p_againM hf hL hB.1 hB.2.1 hB.2.2.1.2.1 hD.1 (fun z => ⟨(hB.2.2.2.1 z).1, hD.2.2.2.2.1 z⟩) ⟨_, _, _, rfl, br1 (lgc _) (nxt _ J c s hcs (XI.mk0 hp hA hB hD) (by rw [xup_ne _ _ _ (by decide)]))⟩
theorem law_410 (hf : f < 3) (hL : L < 2147483648) (hcs : (c = 41 ∧ s = 47) ∨ (c = 47 ∧ s = 41)) (hi : i + 4 ≤ L) (hX : XI f c I J) (nxt : ∀ I' J' c' s', ((c' = 41 ∧ s' = 47) ∨ (c' = 47 ∧ s' = 41)) → XI f c' I' J' → I' 0 = I 0 → Wp (d + 8) 169 33 [some (.ref 0), some (.ref 4), some (.ref 59), some (.ref 107), some (.int (nI i + nI 4)), none, none] [] (xK f L, P, I', J', xFr f c' s') Q) : Wp (d + 8) 169 410 [some (.ref 0), some (.ref 4), some (.ref 59), some (.ref 107), some (.int (nI i)), none, none] [] (xK f L, P, I, J, xFr f c s) Q := by
  obtain ⟨n, t, V, kp, dr, ps, m, R, sm, le, cn, C, tn, T, hA, hB, hD⟩ := hX
  have hp : c = 41 ∨ c = 47 := by omega
  have hn := hA.1.1.2.2.2.1
  refine wL_law_410 rfl rfl (p_leastC hf hp hA.2.1.1 hD.1 hD.2.2.2.2.2 (fun z => (hA.2.2.1 z).2.2.2.1) ⟨_, _, _, rfl, ?_⟩)
  all_goals try dsimp only
  exact p_leastM hf hB.2.2.1.2.1 hD.1 hD.2.2.2.2.2 (fun z => (hB.2.2.2.1 z).2.2) ⟨_, _, _, rfl, br1 rfl (nxt _ J c s hcs (XI.mk0 hp hA hB hD) (by rw [xup_ne _ _ _ (by decide)]))⟩
/-- told -/
theorem law_423 (hf : f < 3) (hL : L < 2147483648) (hcs : (c = 41 ∧ s = 47) ∨ (c = 47 ∧ s = 41)) (hi : i + 4 ≤ L) (hX : XI f c I J) (nxt : ∀ I' J' c' s', ((c' = 41 ∧ s' = 47) ∨ (c' = 47 ∧ s' = 41)) → XI f c' I' J' → I' 0 = I 0 → Wp (d + 8) 169 33 [some (.ref 0), some (.ref 4), some (.ref 59), some (.ref 107), some (.int (nI i + nI 4)), none, none] [] (xK f L, P, I', J', xFr f c' s') Q) : Wp (d + 8) 169 423 [some (.ref 0), some (.ref 4), some (.ref 59), some (.ref 107), some (.int (nI i)), none, none] [] (xK f L, P, I, J, xFr f c s) Q := by
  obtain ⟨n, t, V, kp, dr, ps, m, R, sm, le, cn, C, tn, T, hA, hB, hD⟩ := hX
  have hp : c = 41 ∨ c = 47 := by omega
  have hn := hA.1.1.2.2.2.1
  refine wL_law_423 (xK_lt hf hL) rfl rfl rfl ⟨i + 1, nI_add _ _, by omega, ?_⟩
  have back : ∀ I2, xag I I2 [59, 105] → (∀ q, q ≠ 0 → I2 59 q = I 59 q) → XI f c I2 J := fun I2 b1 b2 => by
    refine ⟨n, t, V, kp, dr, ps, m, R, sm, le, cn, C, tn, T, hA.ml hp (b1.wd (by decide)) (fun _ _ => rfl), ?_, hD⟩
    exact ⟨⟨by rw [b2 1 (by decide)]; exact hB.1.1, by rw [b1 64 (by decide)]; exact hB.1.2.1, hB.1.2.2⟩, ⟨by rw [b2 3 (by decide)]; exact hB.2.1.1, hn, by rw [b1 62 (by decide)]; exact hB.2.1.2.2⟩, by rw [b2 5 (by decide), b2 10 (by decide), b2 18 (by decide)]; exact hB.2.2.1, fun z => ⟨⟨by rw [b2 11 (by decide)]; exact (hB.2.2.2.1 z).1.1, (hB.2.2.2.1 z).1.2.1, by rw [b1 72 (by decide), b1 73 (by decide), b1 74 (by decide), b1 75 (by decide)]; exact (hB.2.2.2.1 z).1.2.2⟩, (hB.2.2.2.1 z).2.1, by rw [b2 17 (by decide)]; exact (hB.2.2.2.1 z).2.2⟩, ⟨by rw [b2 7 (by decide)]; exact hB.2.2.2.2.1.1, by rw [b1 66 (by decide)]; exact hB.2.2.2.2.1.2⟩, by rw [b2 9 (by decide)]; exact hB.2.2.2.2.2.1, by rw [b1 68 (by decide)]; exact hB.2.2.2.2.2.2⟩
  have ref : ∀ v, (ps = 1 → ∀ j, j < n → I 0 (i + 1) = nI j → v = nI (t j)) → ((ps = 0 ∨ ∀ j, j < n → I 0 (i + 1) ≠ nI j) → v = -1) → Wp (d + 1 + 6) 150 0 [some (.ref 59), some (.int (I 0 (i + 1))), none, none, none] [] (xK f L, P, I, J, xFr f c s) (xrI (xK f L) P (xFr f c s) (fun v6 I7 J8 => ((v = v6 → Wp (d + 1 + 7) 169 33 [some (.ref 0), some (.ref 4), some (.ref 59), some (.ref 107), some (.int (nI i + nI 4)), none, none] [] (xK f L, P, I7, J8, xFr f c s) Q) ∧ (¬ v = v6 → Q (some (.int (nI 0)), (xK f L, P, I7, J8, xFr f c s)))))) := by
    intro v hv1 hv2
    refine p_toldM hf hL hB.2.1 hB.2.2.1.2.1 hD.1 (fun z => (hB.2.2.2.1 z).1) (fun z => hD.2.2.2.2.1 z) (fun I2 b1 b2 b3 v2 b4 b5 => ⟨_, _, _, rfl, br1 ?_ (nxt I2 J c s hcs (back I2 b1 b2) (by rw [b1 0 (by decide)]))⟩)
    all_goals try dsimp only
    by_cases e1 : ps = 1
    · by_cases e2 : ∃ j, j < n ∧ I 0 (i + 1) = nI j
      · obtain ⟨j, hj, hx⟩ := e2
        rw [hv1 e1 j hj hx, b4 e1 j hj hx]
      · have e3 : ∀ j, j < n → I 0 (i + 1) ≠ nI j := fun j hj hx => e2 ⟨j, hj, hx⟩
        rw [hv2 (Or.inr e3), b5 (Or.inr e3)]
    · have e3 : ps = 0 := by
        have := hD.1
        omega
      rw [hv2 (Or.inl e3), b5 (Or.inl e3)]
  by_cases ho : ps = 1 ∧ ∃ j, IxOk n (I 0 (i + 1)) j
  · obtain ⟨e1, j, ho⟩ := ho
    refine p_toldC1 hf hL hp hA.1.1 (by rw [hA.2.1.1, e1]) (hA.2.2.1 e1).2.2.2.2 ho ⟨_, _, _, rfl, i + 1, nI_add _ _, by omega, ?_⟩
    all_goals try dsimp only
    refine ref _ (fun _ j' hj' hx' => ?_) (fun z => ?_)
    · have h1 := ho.1
      rw [hx'] at h1
      have : j' = j := (nI_eq (by omega) (by have := ho.2; omega)).mp h1
      rw [this]
    · rcases z with z | z
      · omega
      · exact absurd ho.1 (z j ho.2)
  · have ho' : ps = 0 ∨ ∀ j, ¬ IxOk n (I 0 (i + 1)) j := by
      by_cases e1 : ps = 1
      · exact Or.inr (fun j z => ho ⟨e1, j, z⟩)
      · left
        have := hD.1
        omega
    refine p_toldC0 hf hL hp hA.1.1 hA.2.1.1 hD.1 ho' ⟨_, _, _, rfl, i + 1, nI_add _ _, by omega, ?_⟩
    all_goals try dsimp only
    refine ref _ (fun e1 j hj hx => ?_) (fun _ => rfl)
    rcases ho' with z | z
    · omega
    · exact absurd ⟨hx, hj⟩ (z j)
/-- rounds -/
theorem law_448 (hf : f < 3) (hL : L < 2147483648) (hcs : (c = 41 ∧ s = 47) ∨ (c = 47 ∧ s = 41)) (hi : i + 4 ≤ L) (hX : XI f c I J) (nxt : ∀ I' J' c' s', ((c' = 41 ∧ s' = 47) ∨ (c' = 47 ∧ s' = 41)) → XI f c' I' J' → I' 0 = I 0 → Wp (d + 8) 169 33 [some (.ref 0), some (.ref 4), some (.ref 59), some (.ref 107), some (.int (nI i + nI 4)), none, none] [] (xK f L, P, I', J', xFr f c' s') Q) : Wp (d + 8) 169 448 [some (.ref 0), some (.ref 4), some (.ref 59), some (.ref 107), some (.int (nI i)), none, none] [] (xK f L, P, I, J, xFr f c s) Q := by
  obtain ⟨n, t, V, kp, dr, ps, m, R, sm, le, cn, C, tn, T, hA, hB, hD⟩ := hX
  have hp : c = 41 ∨ c = 47 := by omega
  have hn := hA.1.1.2.2.2.1
  refine wL_law_448 (xK_lt hf hL) rfl rfl rfl ⟨i + 1, nI_add _ _, by omega, ?_⟩
  by_cases ho : ∃ k, RoOk f n (I 0 (i + 1)) k
  · obtain ⟨r, ho⟩ := ho
    refine p_roundsC1 hf hL hcs hA.1 hA.2.1.2.1 hD.2.1.1 hD.2.1.2 ho (fun I1 J1 c1 s1 V1 D1 S1 q0 a1 a2 a3 a4 a5 a6 a7 a8 => ⟨_, _, _, _, rfl, i + 1, nI_add _ _, by omega, ?_⟩)
    have hp1 : c1 = 41 ∨ c1 = 47 := by omega
    have a1' : xag I I1 cL := a1.wd (by decide)
    have hB1 := hB.cl (I' := I1) (J' := J1) a1' (fun a ha => a8 a (by simp; omega))
    rw [a1' 0 (by decide)]
    refine p_roundsM1 hf hL hB1.2.2.1.1 hD.2.1.1 hD.2.1.2 hB1.1 hB1.2.1 ho (fun I2 J2 V2 D2 S2 b1 b2 b3 b4 b5 b6 b7 b8 b9 b10 => ⟨_, _, _, rfl, ?_⟩)
    all_goals try dsimp only
    obtain ⟨_, eD, eS⟩ := RN.uniq a5 b3
    subst eD eS
    refine br1 (lgc _) (nxt I2 J2 c1 s1 q0 ⟨n, t, S1.2.1, kp, D1, 1, S1.2.2.1, S1.2.2.2.1, S1.2.2.2.2.1, S1.2.2.2.2.2, cn, C, tn, T, ?_, ?_, ?_⟩ (by rw [b1 0 (by decide), a1' 0 (by decide)]))
    · exact XA.ml (I := I1) (J := J1) hp1 ⟨a6, ⟨a3, by rw [a2 10 (by decide) (by decide)]; exact hA.2.1.2.1, a4⟩, fun _ => a7, hA.2.2.2.1.ag a1 (by decide), by rw [a1 34 (by decide)]; exact hA.2.2.2.2.1, by rw [a1 36 (by decide)]; exact hA.2.2.2.2.2⟩ (b1.wd (by decide)) (fun a ha => b10 a (by omega))
    · exact ⟨b4, ⟨by rw [b2 3 (by decide) (by decide) (by decide) (by decide) (by decide)]; exact hB1.2.1.1, hn, by rw [b1 62 (by decide)]; exact hB1.2.1.2.2⟩, ⟨by rw [b2 5 (by decide) (by decide) (by decide) (by decide) (by decide)]; exact hB1.2.2.1.1, b6, b8⟩, fun _ => ⟨b5, b9, b7⟩, ⟨by rw [b2 7 (by decide) (by decide) (by decide) (by decide) (by decide)]; exact hB1.2.2.2.2.1.1, by rw [b1 66 (by decide)]; exact hB1.2.2.2.2.1.2⟩, by rw [b2 9 (by decide) (by decide) (by decide) (by decide) (by decide)]; exact hB1.2.2.2.2.2.1, by rw [b1 68 (by decide)]; exact hB1.2.2.2.2.2.2⟩
    · exact ⟨by omega, hD.2.1, hD.2.2.1, hD.2.2.2.1, fun _ => a7.2.1, RN.le a5⟩
  · have ho' : ∀ k, ¬ RoOk f n (I 0 (i + 1)) k := fun k z => ho ⟨k, z⟩
    refine p_roundsC0 hf hA.1.2.2.2.1 hA.1.1.2.2.1 ho' ⟨_, _, _, _, rfl, i + 1, nI_add _ _, by omega, ?_⟩
    exact p_roundsM0 hf hB.1 hB.2.1 ho' ⟨_, _, _, rfl, br1 (lgc _) (nxt _ J c s hcs (XI.mk0 hp hA hB hD) (by rw [xup_ne _ _ _ (by decide)]))⟩
/-- longest, distance -/
theorem law_474 (hf : f < 3) (hL : L < 2147483648) (hcs : (c = 41 ∧ s = 47) ∨ (c = 47 ∧ s = 41)) (hi : i + 4 ≤ L) (hX : XI f c I J) (nxt : ∀ I' J' c' s', ((c' = 41 ∧ s' = 47) ∨ (c' = 47 ∧ s' = 41)) → XI f c' I' J' → I' 0 = I 0 → Wp (d + 8) 169 33 [some (.ref 0), some (.ref 4), some (.ref 59), some (.ref 107), some (.int (nI i + nI 4)), none, none] [] (xK f L, P, I', J', xFr f c' s') Q) : Wp (d + 8) 169 474 [some (.ref 0), some (.ref 4), some (.ref 59), some (.ref 107), some (.int (nI i)), none, none] [] (xK f L, P, I, J, xFr f c s) Q := by
  obtain ⟨n, t, V, kp, dr, ps, m, R, sm, le, cn, C, tn, T, hA, hB, hD⟩ := hX
  have hp : c = 41 ∨ c = 47 := by omega
  have hn := hA.1.1.2.2.2.1
  have back : ∀ I2, xag (xup I 59 0 (nI 0)) I2 [79, 80] → XI f c I2 J := fun I2 b1 => ⟨n, t, V, kp, dr, ps, m, R, sm, le, cn, C, tn, T, hA.ml hp (xag.tr (xag.rfl.up (by decide)) b1 (by decide)) (fun _ _ => rfl), (hB.x0 (v := nI 0)).lay (b1.wd (by simp)), hD⟩
  refine wL_law_474 (xK_lt hf hL) rfl rfl rfl ⟨i + 1, nI_add _ _, by omega, ?_⟩
  by_cases ho : ∃ k, IxOk n (I 0 (i + 1)) k
  · obtain ⟨k, ho⟩ := ho
    refine p_longestC1 hf hL hA.1.1 ho ⟨_, _, _, rfl, i + 1, nI_add _ _, by omega, ?_⟩
    all_goals try dsimp only
    exact p_longestM1 hf hL hB.1 hB.2.1 ho (fun I2 b1 => ⟨_, _, _, rfl, br1 rfl (nxt I2 J c s hcs (back I2 b1) (by rw [b1 0 (by decide), xup_ne _ _ _ (by decide)]))⟩)
  · have ho' : ∀ k, ¬ IxOk n (I 0 (i + 1)) k := fun k z => ho ⟨k, z⟩
    refine p_longestC0 hf hA.1.1 ho' ⟨_, _, _, rfl, i + 1, nI_add _ _, by omega, ?_⟩
    all_goals try dsimp only
    exact p_longestM0 hf hB.2.1 ho' ⟨_, _, _, rfl, br1 rfl (nxt _ J c s hcs (XI.mk0 hp hA hB hD) (by rw [xup_ne _ _ _ (by decide)]))⟩
theorem law_499 (hf : f < 3) (hL : L < 2147483648) (hcs : (c = 41 ∧ s = 47) ∨ (c = 47 ∧ s = 41)) (hi : i + 4 ≤ L) (hX : XI f c I J) (nxt : ∀ I' J' c' s', ((c' = 41 ∧ s' = 47) ∨ (c' = 47 ∧ s' = 41)) → XI f c' I' J' → I' 0 = I 0 → Wp (d + 8) 169 33 [some (.ref 0), some (.ref 4), some (.ref 59), some (.ref 107), some (.int (nI i + nI 4)), none, none] [] (xK f L, P, I', J', xFr f c' s') Q) : Wp (d + 8) 169 499 [some (.ref 0), some (.ref 4), some (.ref 59), some (.ref 107), some (.int (nI i)), none, none] [] (xK f L, P, I, J, xFr f c s) Q := by
  obtain ⟨n, t, V, kp, dr, ps, m, R, sm, le, cn, C, tn, T, hA, hB, hD⟩ := hX
  have hp : c = 41 ∨ c = 47 := by omega
  have hn := hA.1.1.2.2.2.1
  have back : ∀ I2, xag (xup I 59 0 (nI 0)) I2 [79, 80] → XI f c I2 J := fun I2 b1 => ⟨n, t, V, kp, dr, ps, m, R, sm, le, cn, C, tn, T, hA.ml hp (xag.tr (xag.rfl.up (by decide)) b1 (by decide)) (fun _ _ => rfl), (hB.x0 (v := nI 0)).lay (b1.wd (by simp)), hD⟩
  refine wL_law_499 (xK_lt hf hL) rfl rfl rfl ⟨i + 1, nI_add _ _, by omega, i + 2, nI_add _ _, by omega, ?_⟩
  by_cases ho : ∃ p l, DiOk f n t (I 0 (i + 1)) (I 0 (i + 2)) p l
  · obtain ⟨p, l, ho⟩ := ho
    refine p_distanceC1 hf hL hA.1.1 ho ⟨_, _, _, rfl, i + 1, nI_add _ _, by omega, i + 2, nI_add _ _, by omega, ?_⟩
    all_goals try dsimp only
    exact p_distanceM1 hf hL hB.1 hB.2.1 ho (fun I2 b1 => ⟨_, _, _, rfl, br1 rfl (nxt I2 J c s hcs (back I2 b1) (by rw [b1 0 (by decide), xup_ne _ _ _ (by decide)]))⟩)
  · have ho' : ∀ p l, ¬ DiOk f n t (I 0 (i + 1)) (I 0 (i + 2)) p l := fun p l z => ho ⟨p, l, z⟩
    refine p_distanceC0 hf hL hA.1.1 ho' ⟨_, _, _, rfl, i + 1, nI_add _ _, by omega, i + 2, nI_add _ _, by omega, ?_⟩
    all_goals try dsimp only
    exact p_distanceM0 hf hL hB.1 hB.2.1 ho' (fun I2 b1 => ⟨_, _, _, rfl, br1 rfl (nxt I2 J c s hcs (back I2 b1) (by rw [b1 0 (by decide), xup_ne _ _ _ (by decide)]))⟩)
/-- cut -/
theorem law_536 (hf : f < 3) (hL : L < 2147483648) (hcs : (c = 41 ∧ s = 47) ∨ (c = 47 ∧ s = 41)) (hi : i + 4 ≤ L) (hX : XI f c I J) (nxt : ∀ I' J' c' s', ((c' = 41 ∧ s' = 47) ∨ (c' = 47 ∧ s' = 41)) → XI f c' I' J' → I' 0 = I 0 → Wp (d + 8) 169 33 [some (.ref 0), some (.ref 4), some (.ref 59), some (.ref 107), some (.int (nI i + nI 4)), none, none] [] (xK f L, P, I', J', xFr f c' s') Q) : Wp (d + 8) 169 536 [some (.ref 0), some (.ref 4), some (.ref 59), some (.ref 107), some (.int (nI i)), none, none] [] (xK f L, P, I, J, xFr f c s) Q := by
  obtain ⟨n, t, V, kp, dr, ps, m, R, sm, le, cn, C, tn, T, hA, hB, hD⟩ := hX
  have hp : c = 41 ∨ c = 47 := by omega
  have hn := hA.1.1.2.2.2.1
  refine wL_law_536 (xK_lt hf hL) rfl rfl rfl ⟨i + 1, nI_add _ _, by omega, ?_⟩
  refine p_cutC hf hL hA.1.1.2.2.1 hn hA.2.2.2.1 hD.2.2.1 (fun p I1 hp1 a1 a2 a3 => ⟨_, _, _, rfl, i + 1, nI_add _ _, by omega, ?_⟩) (fun hno => ⟨_, _, _, rfl, i + 1, nI_add _ _, by omega, ?_⟩)
  all_goals try dsimp only
  · have hB1 := hB.cl (I' := I1) (J' := J) (a1.wd (by decide)) (fun _ _ => rfl)
    rw [a1 0 (by decide)]
    refine p_cutM hf hL hB1.2.1.1 hn hB1.2.2.2.2.1 hD.2.2.1 (fun p' I2 hp2 b1 b2 b3 b4 => ⟨_, _, _, rfl, br1 rfl (nxt I2 J c s hcs ⟨n, t, V, kp, dr, ps, m, R, sm, le, cn + 1, insC C (cki C cn p) p, tn, T, ?_, ?_, ⟨hD.1, hD.2.1, hD.2.2.1.ins hp1, hD.2.2.2⟩⟩ (by rw [b1 0 (by decide), a1 0 (by decide)]))⟩) (fun hno => absurd hp1 (hno p))
    all_goals try dsimp only
    · exact XA.ml (I := I1) (J := J) hp ⟨hA.1.ag a1 (by decide) (by rw [a1 4 (by decide)]) (fun z => by rw [a1 29 (by decide)]; exact hA.1.2.2.2.2.2 z), by rw [a1 4 (by decide)]; exact hA.2.1, fun z => (hA.2.2.1 z).ag a1 (by rcases hp with rfl | rfl <;> decide) rfl, a3, by rw [a2 4 (by decide)]; exact hA.2.2.2.2.1, by rw [a1 36 (by decide)]; exact hA.2.2.2.2.2⟩ (b1.wd (by decide)) (fun _ _ => rfl)
    · have ep : p' = p := (nI_eq (by have := hp2.2.2.1; omega) (by have := hp1.2.2.1; omega)).mp (by rw [← hp2.1]; exact hp1.1)
      subst ep
      exact ⟨⟨by rw [b2 1 (by decide) (by decide)]; exact hB1.1.1, by rw [b1 64 (by decide)]; exact hB1.1.2.1, hB1.1.2.2⟩, ⟨by rw [b2 3 (by decide) (by decide)]; exact hB1.2.1.1, hn, by rw [b1 62 (by decide)]; exact hB1.2.1.2.2⟩, by rw [b2 5 (by decide) (by decide), b2 10 (by decide) (by decide), b2 18 (by decide) (by decide)]; exact hB1.2.2.1, fun z => ⟨⟨by rw [b2 11 (by decide) (by decide)]; exact (hB1.2.2.2.1 z).1.1, (hB1.2.2.2.1 z).1.2.1, by rw [b1 72 (by decide), b1 73 (by decide), b1 74 (by decide), b1 75 (by decide)]; exact (hB1.2.2.2.1 z).1.2.2⟩, (hB1.2.2.2.1 z).2.1, by rw [b2 17 (by decide) (by decide)]; exact (hB1.2.2.2.1 z).2.2⟩, b4, by rw [b2 9 (by decide) (by decide)]; exact hB1.2.2.2.2.2.1, by rw [b1 68 (by decide)]; exact hB1.2.2.2.2.2.2⟩
  · exact p_cutM hf hL hB.2.1.1 hn hB.2.2.2.2.1 hD.2.2.1 (fun p' I2 hp2 b1 b2 b3 b4 => absurd hp2 (hno p')) (fun _ => ⟨_, _, _, rfl, br1 rfl (nxt _ J c s hcs (XI.mk0 hp hA hB hD) (by rw [xup_ne _ _ _ (by decide)]))⟩)
/-- split -/
theorem law_561 (hf : f < 3) (hL : L < 2147483648) (hcs : (c = 41 ∧ s = 47) ∨ (c = 47 ∧ s = 41)) (hi : i + 4 ≤ L) (hX : XI f c I J) (nxt : ∀ I' J' c' s', ((c' = 41 ∧ s' = 47) ∨ (c' = 47 ∧ s' = 41)) → XI f c' I' J' → I' 0 = I 0 → Wp (d + 8) 169 33 [some (.ref 0), some (.ref 4), some (.ref 59), some (.ref 107), some (.int (nI i + nI 4)), none, none] [] (xK f L, P, I', J', xFr f c' s') Q) : Wp (d + 8) 169 561 [some (.ref 0), some (.ref 4), some (.ref 59), some (.ref 107), some (.int (nI i)), none, none] [] (xK f L, P, I, J, xFr f c s) Q := by
  obtain ⟨n, t, V, kp, dr, ps, m, R, sm, le, cn, C, tn, T, hA, hB, hD⟩ := hX
  have hp : c = 41 ∨ c = 47 := by omega
  have hn := hA.1.1.2.2.2.1
  refine wL_law_561 (xK_lt hf hL) rfl rfl rfl ⟨i + 1, nI_add _ _, by omega, ?_⟩
  by_cases ho : ∃ k, SpOk n (I 0 (i + 1)) k
  · obtain ⟨h, ho⟩ := ho
    refine p_splitC1 hf hL hA.1.1 hA.2.2.2.1 hD.2.2.1 ho (fun I1 J1 a1 a2 a3 a4 a5 => ⟨_, _, _, rfl, i + 1, nI_add _ _, by omega, ?_⟩)
    all_goals try dsimp only
    have hB1 := hB.cl (I' := I1) (J' := J1) (a1.wd (by decide)) (fun a ha => a5 a (by omega))
    rw [a1 0 (by decide), ho.1]
    refine Wp.dp (d := d + 4) (by omega) (p_splitM hf hL hB1.2.1 ho.2.2 hB1.2.2.2.2.1 hD.2.2.1 ho.2.1 (fun I2 J2 b1 b2 b3 b4 b5 b6 => ⟨_, _, _, rfl, br1 (lgc _) (nxt I2 J2 c s hcs ⟨n, t, V, kp, dr, ps, m, R, sm, le, cn, C, tcn (sgp (bcs t C cn n h) cn) cn, tkl (sgp (bcs t C cn n h) cn) C cn, ?_, ?_, ?_⟩ (by rw [b1 0 (by decide), a1 0 (by decide)]))⟩))
    all_goals try dsimp only
    · exact XA.ml (I := I1) (J := J1) hp ⟨hA.1.ag a1 (by decide) (by rw [a1 4 (by decide)]) (fun z => by rw [a1 29 (by decide)]; exact hA.1.2.2.2.2.2 z), by rw [a1 4 (by decide)]; exact hA.2.1, fun z => (hA.2.2.1 z).ag a1 (by rcases hp with rfl | rfl <;> decide) (a5 c (by omega)), ⟨by rw [a2 2 (by decide)]; exact hA.2.2.2.1.1, by rw [a1 35 (by decide)]; exact hA.2.2.2.1.2⟩, a3, a4⟩ (b1.wd (by decide)) (fun a ha => b6 a (by omega))
    · exact ⟨⟨by rw [b2 1 (by decide) (by decide)]; exact hB1.1.1, by rw [b1 64 (by decide)]; exact hB1.1.2.1, hB1.1.2.2⟩, ⟨by rw [b2 3 (by decide) (by decide)]; exact hB1.2.1.1, hn, by rw [b1 62 (by decide)]; exact hB1.2.1.2.2⟩, by rw [b2 5 (by decide) (by decide), b2 10 (by decide) (by decide), b2 18 (by decide) (by decide)]; exact hB1.2.2.1, fun z => ⟨⟨by rw [b2 11 (by decide) (by decide)]; exact (hB1.2.2.2.1 z).1.1, (hB1.2.2.2.1 z).1.2.1, by rw [b1 72 (by decide), b1 73 (by decide), b1 74 (by decide), b1 75 (by decide)]; exact (hB1.2.2.2.1 z).1.2.2⟩, by rw [b6 59 (by decide)]; exact (hB1.2.2.2.1 z).2.1, by rw [b2 17 (by decide) (by decide)]; exact (hB1.2.2.2.1 z).2.2⟩, ⟨by rw [b2 7 (by decide) (by decide)]; exact hB1.2.2.2.2.1.1, by rw [b1 66 (by decide)]; exact hB1.2.2.2.2.1.2⟩, b4, b5⟩
    · have h1 := tcn_le (sgp (bcs t C cn n h) cn) cn
      have h2 := hD.2.2.1.1
      exact ⟨hD.1, hD.2.1, hD.2.2.1, by omega, hD.2.2.2.2⟩
  · have ho' : ∀ k, ¬ SpOk n (I 0 (i + 1)) k := fun k z => ho ⟨k, z⟩
    refine p_splitC0 hf hA.1.1.2.2.1 hn ho' ⟨_, _, _, rfl, i + 1, nI_add _ _, by omega, ?_⟩
    all_goals try dsimp only
    exact Wp.dp (d := d + 4) (by omega) (p_splitM0 hf hB.2.1 ho' ⟨_, _, _, rfl, br1 (lgc _) (nxt _ J c s hcs (XI.mk0 hp hA hB hD) (by rw [xup_ne _ _ _ (by decide)]))⟩)
/-- taken, many -/
theorem law_587 (hf : f < 3) (hL : L < 2147483648) (hcs : (c = 41 ∧ s = 47) ∨ (c = 47 ∧ s = 41)) (hi : i + 4 ≤ L) (hX : XI f c I J) (nxt : ∀ I' J' c' s', ((c' = 41 ∧ s' = 47) ∨ (c' = 47 ∧ s' = 41)) → XI f c' I' J' → I' 0 = I 0 → Wp (d + 8) 169 33 [some (.ref 0), some (.ref 4), some (.ref 59), some (.ref 107), some (.int (nI i + nI 4)), none, none] [] (xK f L, P, I', J', xFr f c' s') Q) : Wp (d + 8) 169 587 [some (.ref 0), some (.ref 4), some (.ref 59), some (.ref 107), some (.int (nI i)), none, none] [] (xK f L, P, I, J, xFr f c s) Q := by
  obtain ⟨n, t, V, kp, dr, ps, m, R, sm, le, cn, C, tn, T, hA, hB, hD⟩ := hX
  have hp : c = 41 ∨ c = 47 := by omega
  have hn := hA.1.1.2.2.2.1
  refine wL_law_587 (xK_lt hf hL) rfl rfl rfl ⟨i + 1, nI_add _ _, by omega, ?_⟩
  by_cases ho : ∃ k, IxOk tn (I 0 (i + 1)) k
  · obtain ⟨k, ho⟩ := ho
    refine p_takenC1 hf hL hA.2.2.2.2.1 hD.2.2.2.1 hA.2.2.2.2.2 ho ⟨_, _, _, rfl, i + 1, nI_add _ _, by omega, ?_⟩
    all_goals try dsimp only
    exact p_takenM1 hf hL hB.2.2.2.2.2.1 hD.2.2.2.1 hB.2.2.2.2.2.2 ho ⟨_, _, _, rfl, br1 rfl (nxt _ J c s hcs (XI.mk0 hp hA hB hD) (by rw [xup_ne _ _ _ (by decide)]))⟩
  · have ho' : ∀ k, ¬ IxOk tn (I 0 (i + 1)) k := fun k z => ho ⟨k, z⟩
    refine p_takenC0 hf hL hA.2.2.2.2.1 hD.2.2.2.1 ho' ⟨_, _, _, rfl, i + 1, nI_add _ _, by omega, ?_⟩
    all_goals try dsimp only
    exact p_takenM0 hf hL hB.2.2.2.2.2.1 hD.2.2.2.1 ho' ⟨_, _, _, rfl, br1 rfl (nxt _ J c s hcs (XI.mk0 hp hA hB hD) (by rw [xup_ne _ _ _ (by decide)]))⟩
theorem law_612 (hf : f < 3) (hL : L < 2147483648) (hcs : (c = 41 ∧ s = 47) ∨ (c = 47 ∧ s = 41)) (hi : i + 4 ≤ L) (hX : XI f c I J) (nxt : ∀ I' J' c' s', ((c' = 41 ∧ s' = 47) ∨ (c' = 47 ∧ s' = 41)) → XI f c' I' J' → I' 0 = I 0 → Wp (d + 8) 169 33 [some (.ref 0), some (.ref 4), some (.ref 59), some (.ref 107), some (.int (nI i + nI 4)), none, none] [] (xK f L, P, I', J', xFr f c' s') Q) : Wp (d + 8) 169 612 [some (.ref 0), some (.ref 4), some (.ref 59), some (.ref 107), some (.int (nI i)), none, none] [] (xK f L, P, I, J, xFr f c s) Q := by
  obtain ⟨n, t, V, kp, dr, ps, m, R, sm, le, cn, C, tn, T, hA, hB, hD⟩ := hX
  have hp : c = 41 ∨ c = 47 := by omega
  have hn := hA.1.1.2.2.2.1
  refine wL_law_612 (xK_lt hf hL) rfl rfl rfl ⟨i + 1, nI_add _ _, by omega, ?_⟩
  refine p_manyC hf hp hA.1.1.2.2.1 hA.2.1.1 hD.1 (fun z => (hA.2.2.1 z).1.1) hA.2.2.2.1.1 hA.2.2.2.2.1 hA.2.1.2.2 hA.2.1.2.1 hA.1.2.2.2.1 ⟨_, _, _, rfl, i + 1, nI_add _ _, by omega, ?_⟩
  all_goals try dsimp only
  exact p_manyM hf hB.2.1.1 hB.2.2.1.2.1 hD.1 (fun z => (hB.2.2.2.1 z).1.1) hB.2.2.2.2.1.1 hB.2.2.2.2.2.1 hB.2.2.1.2.2 hB.2.2.1.1 hB.1.1 ⟨_, _, _, rfl, br1 rfl (nxt _ J c s hcs (XI.mk0 hp hA hB hD) (by rw [xup_ne _ _ _ (by decide)]))⟩
/-- clear -/
theorem law_637 (hf : f < 3) (hL : L < 2147483648) (hcs : (c = 41 ∧ s = 47) ∨ (c = 47 ∧ s = 41)) (hi : i + 4 ≤ L) (hX : XI f c I J) (nxt : ∀ I' J' c' s', ((c' = 41 ∧ s' = 47) ∨ (c' = 47 ∧ s' = 41)) → XI f c' I' J' → I' 0 = I 0 → Wp (d + 8) 169 33 [some (.ref 0), some (.ref 4), some (.ref 59), some (.ref 107), some (.int (nI i + nI 4)), none, none] [] (xK f L, P, I', J', xFr f c' s') Q) : Wp (d + 8) 169 637 [some (.ref 0), some (.ref 4), some (.ref 59), some (.ref 107), some (.int (nI i)), none, none] [] (xK f L, P, I, J, xFr f c s) Q := by
  obtain ⟨n, t, V, kp, dr, ps, m, R, sm, le, cn, C, tn, T, hA, hB, hD⟩ := hX
  have hp : c = 41 ∨ c = 47 := by omega
  have hn := hA.1.1.2.2.2.1
  refine wL_law_637 rfl rfl (p_clearC hf hL hA.1 (fun I1 a1 a2 a3 a4 a5 a6 a7 a8 a9 => ⟨_, _, rfl, ?_⟩))
  all_goals try dsimp only
  have hB1 := hB.cl (I' := I1) (J' := J) (a1.wd (by decide)) (fun _ _ => rfl)
  refine p_clearM (t := t) hf hL hB1.1 (fun I2 b1 b2 b3 b4 b5 b6 b7 b8 b9 => ⟨_, _, rfl, nxt I2 J c s hcs ⟨0, t, V0, 8, 0, 0, m, R, sm, le, 0, C, 0, T, ?_, ?_, ?_⟩ (by rw [b1 0 (by decide), a1 0 (by decide)])⟩)
  all_goals try dsimp only
  · exact XA.ml (I := I1) (J := J) hp ⟨a9, ⟨a3, a4, a5⟩, fun z => by omega, ⟨a7, fun j hj => absurd hj (Nat.not_lt_zero _)⟩, a8, fun j hj => absurd hj (Nat.not_lt_zero _)⟩ (b1.wd (by decide)) (fun _ _ => rfl)
  · exact ⟨b8, b9, ⟨b3, b6, b7⟩, fun z => by omega, ⟨b4, fun j hj => absurd hj (Nat.not_lt_zero _)⟩, b5, fun j hj => absurd hj (Nat.not_lt_zero _)⟩
  · exact ⟨by omega, by omega, ⟨by omega, fun j hj => absurd hj (Nat.not_lt_zero _), fun i j _ hj => absurd hj (Nat.not_lt_zero _)⟩, by omega, fun z => by omega, hD.2.2.2.2.2⟩
/-- trier -/
theorem law_648 (hf : f < 3) (hL : L < 2147483648) (hcs : (c = 41 ∧ s = 47) ∨ (c = 47 ∧ s = 41)) (hi : i + 4 ≤ L) (hP1 : P.1 = []) (hX : XI f c I J) (nxt : ∀ I' J', XI f c I' J' → I' 0 = I 0 → Wp (d + 8) 169 33 [some (.ref 0), some (.ref 4), some (.ref 59), some (.ref 107), some (.int (nI i + nI 4)), none, none] [] (xK f L, (P.1, P.2.1 + xcT, P.2.2 + xsT), I', J', xFr f c s) Q) : Wp (d + 8) 169 648 [some (.ref 0), some (.ref 4), some (.ref 59), some (.ref 107), some (.int (nI i)), none, none] [] (xK f L, P, I, J, xFr f c s) Q := by
  obtain ⟨n, t, V, kp, dr, ps, m, R, sm, le, cn, C, tn, T, hA, hB, hD⟩ := hX
  have hp : c = 41 ∨ c = 47 := by omega
  have hn := hA.1.1.2.2.2.1
  have h53 := hA.1.1.2.2.1
  refine wL_law_648 (xK_lt hf hL) rfl rfl rfl rfl rfl rfl rfl hP1 rfl rfl ⟨i + 1, nI_add _ _, by omega, ?_⟩
  rw [h53]
  by_cases ho : ∃ k, IxOk n (I 0 (i + 1)) k
  · obtain ⟨k, ho⟩ := ho
    obtain ⟨hx, hk⟩ := ho
    have hnot : ¬ (I 0 (i + 1) < 0 ∨ nI n ≤ I 0 (i + 1)) := by
      rw [hx]
      rintro (z | z)
      · exact nI_pos (by omega) z
      · rw [nI_leI (by omega) (by omega)] at z
        omega
    refine br2 hnot ⟨k, hx, by omega, i + 1, nI_add _ _, by omega, ?_⟩
    have hti := hA.1.1.2.2.2.2.1 k hk
    rw [hti.1]
    have hAJ : XA f c n t V kp dr ps m R sm le cn C tn T I (xup J 107 0 (nI (t k)).toInt64) := hA.ml hp xag.rfl (fun a ha => xup_ne _ _ _ (by omega))
    have hBJ : XB f n t V kp dr ps m R sm le cn C tn T I (xup J 107 0 (nI (t k)).toInt64) := ⟨hB.1, hB.2.1, hB.2.2.1, fun z => ⟨(hB.2.2.2.1 z).1, by rw [xup_ne _ _ _ (by decide)]; exact (hB.2.2.2.1 z).2.1, (hB.2.2.2.1 z).2.2⟩, hB.2.2.2.2⟩
    refine p_trierM1 hf hL hB.2.1 ⟨hx, hk⟩ ⟨_, _, _, rfl, ?_⟩
    all_goals try dsimp only
    refine p_thrownM hf ⟨_, _, _, rfl, ?_⟩
    all_goals try dsimp only
    refine br1 (by rw [xup_at, if_pos rfl]) (bn2 rfl ⟨0, rfl, by decide, br1 ?_ (nxt _ _ (XI.mk0 hp hAJ hBJ hD) (by rw [xup_ne _ _ _ (by decide)]))⟩)
    rw [xup_at, if_pos rfl]
    exact lgc _
  · have ho' : ∀ k, ¬ IxOk n (I 0 (i + 1)) k := fun k z => ho ⟨k, z⟩
    refine br1 (noIx (by omega) ho') ⟨i + 1, nI_add _ _, by omega, ?_⟩
    refine p_trierM0 hf hL hB.2.1 ho' ⟨_, _, _, rfl, ?_⟩
    all_goals try dsimp only
    refine p_thrownM hf ⟨_, _, _, rfl, ?_⟩
    all_goals try dsimp only
    exact br1 (by rw [xup_at, if_pos rfl]) (bn1 (by decide) (nxt _ _ (XI.mk0 hp hA hB hD) (by rw [xup_ne _ _ _ (by decide)])))
end LAWS
