/-! FORM 2: a state comes, in the reference -/
def MW1 (I : Nat → Nat → Int32) (j : Nat) (w : xWs) : Prop := I 92 j = nI w.1 ∧ I 93 j = nI (if w.2.2 = true then 1 else 0) ∧ ∀ s, s < w.1 → RB I (40 * j + s) = enc j (w.2.1 s)
theorem lat_ky (k : Nat) : k = k / 2 ^ 36 * 2 ^ 36 + lat k := by
  unfold lat
  omega
section WDM2
variable {d L c s0 n : Nat} {t : Nat → Nat} {V : Nat → Nat → Nat} {Q : Option Value × xS → Prop} {P : List Nat × Nat × Nat} {I : Nat → Nat → Int32} {J : Nat → Nat → Int64} {la : Nat → Nat}
theorem p_comesM (hL : L < 2147483648) {K to its old len kd : Nat} {w : xWs} (hK : I 59 5 = nI K) (hK1 : 1 ≤ K) (hK2 : K ≤ 40) (hto : to ≤ 300) (hw : WF K w) (hE : ∀ s, s < w.1 → (w.2.1 s).1 / 2 ^ 36 < 2 ^ 24) (hits : its < 2 ^ 24) (hM : ML I la) (hB : LB la) (h0 : MW1 I to w) (k : ∀ I', FM I I' to → MW1 I' to (op K w (ky its la, old, len, kd)) → Q (none, (xK 2 L, P, I', J, xFr 2 c s0))) : Wp (d + 2) 137 0 [some (.ref 59), some (.int (nI to)), some (.int (nI its)), some (.int (nI (to - len))), some (.int (nI old)), some (.int (nI kd)), none, none, none, none] [] (xK 2 L, P, I, J, xFr 2 c s0) Q := by
  have hf : 2 < 3 := by decide
  have hmK := hw.1
  have hlat : lat (ky its la) = lp la := ky_lat hB
  have hsum : ky its la / 2 ^ 36 = its := ky_sum hB
  have hog := og_le w (ky its la)
  have hos := os_le w (ky its la)
  -- the one with the same latest distances is before, or behind
  have low : ∀ s, s < w.1 → (w.2.1 s).1 ≤ ky its la → s < os w (ky its la) := fun s z1 z2 => by
    by_cases b : s < os w (ky its la)
    · exact b
    · have := hw.ge (k := ky its la) (s := s) (by omega) z1
      omega
  have loop : ∀ v s, w.1 - s = v → s ≤ w.1 → (∀ s', s' < s → lat (w.2.1 s').1 ≠ lat (ky its la)) → Wp (d + 2) 137 17 [some (.ref 59), some (.int (nI to)), some (.int (nI its)), some (.int (nI (to - len))), some (.int (nI old)), some (.int (nI kd)), some (.int (nI (40 * to))), some (.int (nI w.1)), some (.int (nI s)), none] [] (xK 2 L, P, I, J, xFr 2 c s0) Q := by
    intro v
    induction v with
    | zero =>
      intro s hv hs h1
      have es : s = w.1 := by omega
      have eg : og w (ky its la) = w.1 := by
        unfold og
        refine fi_eq (Nat.le_refl _) (fun s' hs' => decide_eq_false (h1 s' (by omega))) (fun z => by omega)
      refine wX11_comes_17 (xK_lt hf hL) rfl rfl rfl rfl rfl rfl rfl (br1 (by first | (rw [nI_ltI (by omega) (by omega)]; omega) | (rw [nI_leI (by omega) (by omega)]; omega) | (rw [nI_eq (by omega) (by omega)]; omega) | (rw [nI_e0 (by omega)]; omega) | (rw [nI_le0 (by omega)]; omega)) (brd (p := w.1 = K) (by rw [hK]; exact nI_eq (by omega) (by omega)) (fun h => ?_) (fun h => ⟨to, rfl, by omega, ?_⟩)))
      · have hop : op K w (ky its la, old, len, kd) = (w.1 + 1, sh w.2.1 (os w (ky its la)) w.1 (ky its la, old, len, kd), w.2.2) := by
          unfold op
          rw [if_neg (by show ¬ og w (ky its la) < os w (ky its la); omega), if_neg (by show ¬ og w (ky its la) < w.1; omega), if_pos (by omega)]
        refine p_insM hL hto (by omega) hB hits hE hos (fun s' z => os_lt z) (fun s' z1 z2 => hw.ge z1 z2) (fun I' f1 g1 g2 g3 => k I' f1 ?_) FM.rfl hM (fun i hi => h0.2.2 i hi)
        rw [hop]
        exact ⟨g1, by rw [g2]; exact h0.2.1, g3⟩
      · rw [nI_add, pk_sub (by omega), show 40 * to + w.1 - 1 = 40 * to + (w.1 - 1) by omega]
        have a1 : xag I (xup I 93 to (nI 1)) [93] := xag.rfl.up (by simp)
        have hx : ∀ b, RB (xup I 93 to (nI 1)) b = RB I b := fun b => RB.ag a1 (by decide)
        have f1 : FM I (xup I 93 to (nI 1)) to := ⟨a1.wd (by simp), fun j hj => ⟨by rw [xup_ne _ _ _ (by decide)], by rw [xup_at, if_neg hj]⟩, fun b _ => hx b⟩
        refine p_isBehindM hL (hM.ag a1 (by decide)) hB (b := 40 * to + (w.1 - 1)) (by omega) (by rw [hx]; exact h0.2.2 (w.1 - 1) (by omega)) (hE _ (by omega)) hits ⟨_, _, _, rfl, ?_⟩
        all_goals try dsimp only
        by_cases c4 : os w (ky its la) < w.1
        · have hlt := hw.ge (k := ky its la) (s := w.1 - 1) (by omega) (by omega)
          have hop : op K w (ky its la, old, len, kd) = (w.1, sh w.2.1 (os w (ky its la)) (w.1 - 1) (ky its la, old, len, kd), true) := by
            unfold op
            rw [if_neg (by show ¬ og w (ky its la) < os w (ky its la); omega), if_neg (by show ¬ og w (ky its la) < w.1; omega), if_neg (by omega), if_pos (by show os w (ky its la) < w.1; exact c4)]
          rw [if_pos hlt]
          refine bn1 (by decide) ?_
          rw [xm1, pk_sub (by omega)]
          refine p_insM (I0 := I) hL hto (m1 := w.1 - 1) (sp := os w (ky its la)) (by omega) hB hits (fun s' z => hE s' (by omega)) (by omega) (fun s' z => os_lt z) (fun s' z1 z2 => hw.ge z1 (by omega)) (fun I' f2 g1 g2 g3 => k I' f2 ?_) f1 (hM.ag a1 (by decide)) (fun i hi => by rw [hx]; exact h0.2.2 i (by omega))
          rw [hop]
          rw [show w.1 - 1 + 1 = w.1 by omega] at g1 g3
          exact ⟨g1, by rw [g2, xup_at, if_pos rfl]; rfl, g3⟩
        · have hle : (w.2.1 (w.1 - 1)).1 ≤ ky its la := os_lt (by omega)
          have hop : op K w (ky its la, old, len, kd) = (w.1, w.2.1, true) := by
            unfold op
            rw [if_neg (by show ¬ og w (ky its la) < os w (ky its la); omega), if_neg (by show ¬ og w (ky its la) < w.1; omega), if_neg (by omega), if_neg (by show ¬ os w (ky its la) < w.1; exact c4)]
          rw [if_neg (by omega)]
          refine bn2 (by decide) ⟨to, rfl, by omega, ?_⟩
          have a2 : xag I (xup (xup I 93 to (nI 1)) 92 to (nI w.1)) [92, 93] := (xag.rfl.up (by simp)).up (by simp)
          have hx2 : ∀ b, RB (xup (xup I 93 to (nI 1)) 92 to (nI w.1)) b = RB I b := fun b => RB.ag a2 (by decide)
          refine k _ ⟨a2.wd (by simp), fun j hj => ⟨by rw [xup_at, if_neg hj, xup_ne _ _ _ (by decide)], by rw [xup_ne _ _ _ (by decide), xup_at, if_neg hj]⟩, fun b _ => hx2 b⟩ ?_
          rw [hop]
          exact ⟨by rw [xup_at, if_pos rfl], by rw [xup_ne _ _ _ (by decide), xup_at, if_pos rfl]; rfl, fun i hi => by rw [hx2]; exact h0.2.2 i hi⟩
    | succ v ih =>
      intro s hv hs h1
      refine wX11_comes_17 (xK_lt hf hL) rfl rfl rfl rfl rfl rfl rfl (br2 (by first | (rw [nI_ltI (by omega) (by omega)]; omega) | (rw [nI_leI (by omega) (by omega)]; omega) | (rw [nI_eq (by omega) (by omega)]; omega) | (rw [nI_e0 (by omega)]; omega) | (rw [nI_le0 (by omega)]; omega)) ?_)
      rw [nI_add]
      refine p_isStateM hL hM hB (b := 40 * to + s) (by omega) (h0.2.2 s (by omega)) ⟨_, _, _, rfl, ?_⟩
      all_goals try dsimp only
      by_cases e1 : lat (w.2.1 s).1 = lp la
      · rw [if_pos e1]
        have eg : og w (ky its la) = s := by
          unfold og
          refine fi_eq (by omega) (fun s' hs' => decide_eq_false (h1 s' hs')) (fun _ => decide_eq_true (by rw [hlat]; exact e1))
        have hEs := hE s (by omega)
        have hk1 := lat_ky (w.2.1 s).1
        have hk2 := lat_ky (ky its la)
        rw [hsum, hlat] at hk2
        refine br2 (by decide) ⟨40 * to + s, rfl, by omega, ?_⟩
        rw [RB_sum (h0.2.2 s (by omega))]
        refine brc (nI_ltI (by omega) (by omega)) (fun h => ?_) (fun h => ?_)
        · -- it is taken out first
          have hgt : ky its la < (w.2.1 s).1 := by omega
          have hsp : os w (ky its la) ≤ s := by
            by_cases b : os w (ky its la) ≤ s
            · exact b
            · have := os_lt (w := w) (k := ky its la) (s := s) (by omega)
              omega
          have hop : op K w (ky its la, old, len, kd) = (w.1, sh w.2.1 (os w (ky its la)) s (ky its la, old, len, kd), w.2.2) := by
            unfold op
            rw [if_neg (by show ¬ og w (ky its la) < os w (ky its la); omega), if_pos (by show og w (ky its la) < w.1; omega)]
            show (w.1, sh w.2.1 (os w (ky its la)) (og w (ky its la)) _, _) = _
            rw [eg]
          have rem : ∀ u x I1, w.1 - x = u → s ≤ x → x < w.1 → FM I I1 to → ML I1 la → I1 59 5 = nI K → I1 93 to = I 93 to → (∀ i, i < x → RB I1 (40 * to + i) = enc to (if i < s then w.2.1 i else w.2.1 (i + 1))) → (∀ i, x ≤ i → i < w.1 → RB I1 (40 * to + i) = enc to (w.2.1 i)) → Wp (d + 2) 137 55 [some (.ref 59), some (.int (nI to)), some (.int (nI its)), some (.int (nI (to - len))), some (.int (nI old)), some (.int (nI kd)), some (.int (nI (40 * to))), some (.int (nI w.1)), none, some (.int (nI x))] [] (xK 2 L, P, I1, J, xFr 2 c s0) Q := by
            intro u
            induction u with
            | zero => intro x I1 hu; omega
            | succ u ihu =>
              intro x I1 hu hx1 hx2 f1 hM1 hK1' h93 g1 g2
              refine wX11_comes_55 rfl (brc (p := w.1 ≤ x + 1) (by rw [nI_add]; exact nI_leI (by omega) (by omega)) (fun h => ?_) (fun h => ?_))
              · rw [xm1, pk_sub (by omega), nI_add, show w.1 - 1 + 1 = w.1 by omega]
                refine wX11_comes_17 (xK_lt hf hL) rfl rfl rfl rfl rfl rfl rfl (br1 (by first | (rw [nI_ltI (by omega) (by omega)]; omega) | (rw [nI_leI (by omega) (by omega)]; omega) | (rw [nI_eq (by omega) (by omega)]; omega) | (rw [nI_e0 (by omega)]; omega) | (rw [nI_le0 (by omega)]; omega)) (bn1 (by rw [hK1']; exact (by first | (rw [nI_ltI (by omega) (by omega)]; omega) | (rw [nI_leI (by omega) (by omega)]; omega) | (rw [nI_eq (by omega) (by omega)]; omega) | (rw [nI_e0 (by omega)]; omega) | (rw [nI_le0 (by omega)]; omega))) ?_))
                refine p_insM (I0 := I) (E1 := fun i => if i < s then w.2.1 i else w.2.1 (i + 1)) hL hto (m1 := w.1 - 1) (sp := os w (ky its la)) (by omega) hB hits (fun s' z => ?_) (by omega) (fun s' z => ?_) (fun s' z1 z2 => ?_) (fun I' f2 k1 k2 k3 => k I' f2 ?_) f1 hM1 (fun i hi => g1 i (by omega))
                · try dsimp only
                  split
                  · exact hE _ (by omega)
                  · exact hE _ (by omega)
                · try dsimp only
                  rw [if_pos (by omega)]
                  exact os_lt z
                · try dsimp only
                  split
                  · exact hw.ge z1 (by omega)
                  · exact hw.ge (by omega) (by omega)
                · rw [hop]
                  rw [show w.1 - 1 + 1 = w.1 by omega] at k1 k3
                  refine ⟨k1, by rw [k2, h93]; exact h0.2.1, fun i hi => ?_⟩
                  have hi : i < w.1 := hi
                  rw [k3 i hi]
                  congr 1
                  show sh (fun i => if i < s then w.2.1 i else w.2.1 (i + 1)) (os w (ky its la)) (w.1 - 1) (ky its la, old, len, kd) i = sh w.2.1 (os w (ky its la)) s (ky its la, old, len, kd) i
                  unfold sh
                  try dsimp only
                  by_cases b1 : i = os w (ky its la)
                  · rw [if_pos b1, if_pos b1]
                  · rw [if_neg b1, if_neg b1]
                    by_cases b2 : os w (ky its la) < i ∧ i ≤ s
                    · rw [if_pos b2, if_pos (by omega), if_pos (by omega)]
                    · rw [if_neg b2]
                      by_cases b3 : os w (ky its la) < i
                      · rw [if_pos (by omega), if_neg (by omega), show i - 1 + 1 = i by omega]
                      · rw [if_neg (by omega), if_pos (by omega)]
              · rw [nI_add, nI_add]
                refine p_moveStateM hL (u := 40 * to + x + 1) (v := 40 * to + x) (by omega) (by omega) (by omega) (fun I2 a1 a2 a3 => ⟨_, _, rfl, ?_⟩)
                all_goals try dsimp only
                try dsimp only
                rw [nI_add]
                refine ihu (x + 1) I2 (by omega) (by omega) (by omega) (f1.mv a1 a3 (by omega)) (hM1.ag a1 (by decide)) (by rw [a1 59 (by decide)]; exact hK1') (by rw [a1 93 (by decide)]; exact h93) (fun i hi => ?_) (fun i hi hi2 => ?_)
                · by_cases b : i = x
                  · rw [b, a2, if_neg (by omega)]
                    exact g2 (x + 1) (by omega) (by omega)
                  · rw [a3 _ (by omega)]
                    exact g1 i (by omega)
                · rw [a3 _ (by omega)]
                  exact g2 i (by omega) hi2
          exact rem (w.1 - s) s I rfl (Nat.le_refl _) (by omega) FM.rfl hM hK rfl (fun i hi => by rw [if_pos hi]; exact h0.2.2 i (by omega)) (fun i _ hi => h0.2.2 i hi)
        · -- nothing is gained
          have hle : (w.2.1 s).1 ≤ ky its la := by
            have : (w.2.1 s).1 / 2 ^ 36 * 2 ^ 36 ≤ its * 2 ^ 36 := Nat.mul_le_mul_right _ (by omega)
            omega
          have hop : op K w (ky its la, old, len, kd) = w := by
            unfold op
            rw [if_pos (by show og w (ky its la) < os w (ky its la); rw [eg]; exact low s (by omega) hle)]
          refine k I FM.rfl ?_
          rw [hop]
          exact h0
      · rw [if_neg e1]
        refine br1 (by decide) ?_
        rw [nI_add]
        refine ih (s + 1) (by omega) (by omega) (fun s' hs' => ?_)
        by_cases b : s' = s
        · rw [b, hlat]
          exact e1
        · exact h1 s' (by omega)
  refine wX11_comes_0 (xK_lt hf hL) rfl rfl rfl ⟨to, rfl, by omega, ?_⟩
  rw [h0.1, pk_mul]
  exact loop _ 0 rfl (Nat.zero_le _) (fun s' hs' => by omega)
end WDM2
