set_option maxRecDepth 20000 in
theorem wX10_step_0 {d : Nat} {Q : Option Value × xS → Prop} {K : Nat → Nat × Nat} {P : List Nat × Nat × Nat} {I : Nat → Nat → Int32} {J : Nat → Nat → Int64} {F : Nat → Nat → Option Nat} {r0 : Nat} {x1 : Int32} {x2 : Int32} {n_r0 : Nat} {f1 : Nat} {n_f1 : Nat} {f5 : Nat} {n_f5 : Nat} {f7 : Nat} {n_f7 : Nat} {f9 : Nat} {n_f9 : Nat} {f11 : Nat} {n_f11 : Nat} (hK : ∀ {a k n : Nat}, K a = (k, n) → n < 2147483648) (hn_r0 : K r0 = (9, n_r0)) (hf1 : F r0 7 = some f1) (hn_f1 : K f1 = (5, n_f1)) (hf5 : F f1 0 = some f5) (hn_f5 : K f5 = (100, n_f5)) (hf7 : F f1 1 = some f7) (hn_f7 : K f7 = (100, n_f7)) (hf9 : F f1 2 = some f9) (hn_f9 : K f9 = (100, n_f9)) (hf11 : F f1 3 = some f11) (hn_f11 : K f11 = (100, n_f11)) (H : (((I r0 9) = 0 → Q (some (.int ((-1))), (K, P, I, J, F))) ∧ (¬ (I r0 9) = 0 → Wp d 50 0 [some (.ref f1), some (.int x1)] [] (K, P, I, J, F) (xrI K P F (fun v2 I3 J4 => ((¬ v2 = 0 → ((x2 = nI 0 → (∃ j6 : Nat, x1 = nI j6 ∧ j6 < n_f5 ∧ Q (some (.int (I3 f5 j6)), (K, P, I3, J4, F)))) ∧ (¬ x2 = nI 0 → ((x2 = nI 1 → (∃ j8 : Nat, x1 = nI j8 ∧ j8 < n_f7 ∧ Q (some (.int (I3 f7 j8)), (K, P, I3, J4, F)))) ∧ (¬ x2 = nI 1 → ((x2 = nI 2 → (∃ j10 : Nat, x1 = nI j10 ∧ j10 < n_f9 ∧ Q (some (.int (I3 f9 j10)), (K, P, I3, J4, F)))) ∧ (¬ x2 = nI 2 → ((x2 = nI 3 → (∃ j12 : Nat, x1 = nI j12 ∧ j12 < n_f11 ∧ Q (some (.int (I3 f11 j12)), (K, P, I3, J4, F)))) ∧ (¬ x2 = nI 3 → Q (some (.int ((-1))), (K, P, I3, J4, F))))))))))) ∧ (v2 = 0 → Q (some (.int ((-1))), (K, P, I3, J4, F))))))))) : Wp (d + 1) 79 0 [some (.ref r0), some (.int x1), some (.int x2)] [] (K, P, I, J, F) Q := by
  refine Wp.go (x := (.aload_n 0, 1, 0, 0)) rfl 1 [some (.ref r0), some (.int x1), some (.int x2)] [.ref r0] rfl ⟨rfl, rfl, rfl, rfl⟩ ?_
  refine Wp.gI rfl rfl hn_r0 rfl ⟨by decide, by decide⟩ ?_
  refine Wp.z_eq rfl rfl ⟨fun c => ?_, fun c => ?_⟩
  · have H := H.1 c
    refine Wp.ic (v := (-1)) rfl rfl (by decide) ?_
    exact Wp.rI rfl rfl H
  · have H := H.2 c
    refine Wp.go (x := (.aload_n 0, 1, 0, 0)) rfl 8 [some (.ref r0), some (.int x1), some (.int x2)] [.ref r0] rfl ⟨rfl, rfl, rfl, rfl⟩ ?_
    refine Wp.gR rfl rfl hn_r0 rfl rfl hf1 ?_
    refine Wp.go (x := (.iload_n 1, 1, 0, 0)) rfl 12 [some (.ref r0), some (.int x1), some (.int x2)] [.int x1, .ref f1] rfl ⟨rfl, rfl, rfl, rfl⟩ ?_
    refine Wp.kI (x := (.invokevirtual 129, 3, 50, 2)) (j := 50) (vs := [.ref f1, .int x1]) (rest := []) rfl (by show xtg 50 (K f1).1 = _; rw [hn_f1]; rfl) rfl ⟨Nat.le_of_ble_eq_true rfl, Nat.le_of_ble_eq_true rfl, Nat.le_of_ble_eq_true rfl⟩ rfl rfl rfl H (fun v2 I3 J4 H => ?_)
    refine Wp.z_ne rfl rfl ⟨fun c => ?_, fun c => ?_⟩
    · have H := H.1 c
      refine Wp.go (x := (.iload_n 2, 1, 0, 0)) rfl 21 [some (.ref r0), some (.int x1), some (.int x2)] [.int x2] rfl ⟨rfl, rfl, rfl, rfl⟩ ?_
      by_cases c : x2 = nI 0
      · have H := H.1 c
        refine Wp.tsw rfl (t := 52) (by rw [c]; rfl) ?_
        refine Wp.go (x := (.aload_n 0, 1, 0, 0)) rfl 53 [some (.ref r0), some (.int x1), some (.int x2)] [.ref r0] rfl ⟨rfl, rfl, rfl, rfl⟩ ?_
        refine Wp.gR rfl rfl hn_r0 rfl rfl hf1 ?_
        refine Wp.gR rfl rfl hn_f1 rfl rfl hf5 ?_
        refine Wp.go (x := (.iload_n 1, 1, 0, 0)) rfl 60 [some (.ref r0), some (.int x1), some (.int x2)] [.int x1, .ref f5] rfl ⟨rfl, rfl, rfl, rfl⟩ ?_
        obtain ⟨j6, e, b, H⟩ := H
        refine Wp.ald rfl rfl hn_f5 (Or.inl rfl) (hK hn_f5) ⟨j6, e, b, ?_⟩
        exact Wp.rI rfl rfl H
      replace H := H.2 c
      have c0 := c
      clear c
      by_cases c : x2 = nI 1
      · have H := H.1 c
        refine Wp.tsw rfl (t := 62) (by rw [c]; rfl) ?_
        refine Wp.go (x := (.aload_n 0, 1, 0, 0)) rfl 63 [some (.ref r0), some (.int x1), some (.int x2)] [.ref r0] rfl ⟨rfl, rfl, rfl, rfl⟩ ?_
        refine Wp.gR rfl rfl hn_r0 rfl rfl hf1 ?_
        refine Wp.gR rfl rfl hn_f1 rfl rfl hf7 ?_
        refine Wp.go (x := (.iload_n 1, 1, 0, 0)) rfl 70 [some (.ref r0), some (.int x1), some (.int x2)] [.int x1, .ref f7] rfl ⟨rfl, rfl, rfl, rfl⟩ ?_
        obtain ⟨j8, e, b, H⟩ := H
        refine Wp.ald rfl rfl hn_f7 (Or.inl rfl) (hK hn_f7) ⟨j8, e, b, ?_⟩
        exact Wp.rI rfl rfl H
      replace H := H.2 c
      have c1 := c
      clear c
      by_cases c : x2 = nI 2
      · have H := H.1 c
        refine Wp.tsw rfl (t := 72) (by rw [c]; rfl) ?_
        refine Wp.go (x := (.aload_n 0, 1, 0, 0)) rfl 73 [some (.ref r0), some (.int x1), some (.int x2)] [.ref r0] rfl ⟨rfl, rfl, rfl, rfl⟩ ?_
        refine Wp.gR rfl rfl hn_r0 rfl rfl hf1 ?_
        refine Wp.gR rfl rfl hn_f1 rfl rfl hf9 ?_
        refine Wp.go (x := (.iload_n 1, 1, 0, 0)) rfl 80 [some (.ref r0), some (.int x1), some (.int x2)] [.int x1, .ref f9] rfl ⟨rfl, rfl, rfl, rfl⟩ ?_
        obtain ⟨j10, e, b, H⟩ := H
        refine Wp.ald rfl rfl hn_f9 (Or.inl rfl) (hK hn_f9) ⟨j10, e, b, ?_⟩
        exact Wp.rI rfl rfl H
      replace H := H.2 c
      have c2 := c
      clear c
      by_cases c : x2 = nI 3
      · have H := H.1 c
        refine Wp.tsw rfl (t := 82) (by rw [c]; rfl) ?_
        refine Wp.go (x := (.aload_n 0, 1, 0, 0)) rfl 83 [some (.ref r0), some (.int x1), some (.int x2)] [.ref r0] rfl ⟨rfl, rfl, rfl, rfl⟩ ?_
        refine Wp.gR rfl rfl hn_r0 rfl rfl hf1 ?_
        refine Wp.gR rfl rfl hn_f1 rfl rfl hf11 ?_
        refine Wp.go (x := (.iload_n 1, 1, 0, 0)) rfl 90 [some (.ref r0), some (.int x1), some (.int x2)] [.int x1, .ref f11] rfl ⟨rfl, rfl, rfl, rfl⟩ ?_
        obtain ⟨j12, e, b, H⟩ := H
        refine Wp.ald rfl rfl hn_f11 (Or.inl rfl) (hK hn_f11) ⟨j12, e, b, ?_⟩
        exact Wp.rI rfl rfl H
      replace H := H.2 c
      have c3 := c
      clear c
      refine Wp.tsw rfl (t := 92) (tsw_d (by decide) (tsw_out (m := 3) (by decide) (fun k hk => by rcases (by omega : k = 0 ∨ k = 1 ∨ k = 2 ∨ k = 3) with rfl | rfl | rfl | rfl <;> assumption)) rfl) ?_
      refine Wp.ic (v := (-1)) rfl rfl (by decide) ?_
      exact Wp.rI rfl rfl H
    · have H := H.2 c
      refine Wp.ic (v := (-1)) rfl rfl (by decide) ?_
      exact Wp.rI rfl rfl H
set_option maxRecDepth 20000 in
theorem wX10_many_0 {d : Nat} {Q : Option Value × xS → Prop} {K : Nat → Nat × Nat} {P : List Nat × Nat × Nat} {I : Nat → Nat → Int32} {J : Nat → Nat → Int64} {F : Nat → Nat → Option Nat} {r0 : Nat} {x1 : Int32} {n_r0 : Nat} {f1 : Nat} {n_f1 : Nat} {f2 : Nat} {n_f2 : Nat} {f3 : Nat} {n_f3 : Nat} (hn_r0 : K r0 = (9, n_r0)) (hf1 : F r0 1 = some f1) (hn_f1 : K f1 = (8, n_f1)) (hf2 : F r0 7 = some f2) (hn_f2 : K f2 = (5, n_f2)) (hf3 : F r0 6 = some f3) (hn_f3 : K f3 = (1, n_f3)) (H : ((x1 = nI 0 → Q (some (.int (I f1 3)), (K, P, I, J, F))) ∧ (¬ x1 = nI 0 → ((x1 = nI 1 → (((I r0 9) = 0 → Q (some (.int (nI 0)), (K, P, I, J, F))) ∧ (¬ (I r0 9) = 0 → Q (some (.int (I f2 5)), (K, P, I, J, F))))) ∧ (¬ x1 = nI 1 → ((x1 = nI 2 → Q (some (.int (I f3 2)), (K, P, I, J, F))) ∧ (¬ x1 = nI 2 → ((x1 = nI 3 → Q (some (.int (I f3 4)), (K, P, I, J, F))) ∧ (¬ x1 = nI 3 → ((x1 = nI 4 → Q (some (.int (I r0 11)), (K, P, I, J, F))) ∧ (¬ x1 = nI 4 → ((x1 = nI 5 → Q (some (.int (I r0 10)), (K, P, I, J, F))) ∧ (¬ x1 = nI 5 → ((x1 = nI 6 → Q (some (.int (I r0 0)), (K, P, I, J, F))) ∧ (¬ x1 = nI 6 → Q (some (.int ((-1))), (K, P, I, J, F))))))))))))))))) : Wp d 90 0 [some (.ref r0), some (.int x1)] [] (K, P, I, J, F) Q := by
  refine Wp.go (x := (.iload_n 1, 1, 0, 0)) rfl 1 [some (.ref r0), some (.int x1)] [.int x1] rfl ⟨rfl, rfl, rfl, rfl⟩ ?_
  by_cases c : x1 = nI 0
  · have H := H.1 c
    refine Wp.tsw rfl (t := 44) (by rw [c]; rfl) ?_
    refine Wp.go (x := (.aload_n 0, 1, 0, 0)) rfl 45 [some (.ref r0), some (.int x1)] [.ref r0] rfl ⟨rfl, rfl, rfl, rfl⟩ ?_
    refine Wp.gR rfl rfl hn_r0 rfl rfl hf1 ?_
    refine Wp.gI rfl rfl hn_f1 rfl ⟨by decide, by decide⟩ ?_
    exact Wp.rI rfl rfl H
  replace H := H.2 c
  have c0 := c
  clear c
  by_cases c : x1 = nI 1
  · have H := H.1 c
    refine Wp.tsw rfl (t := 52) (by rw [c]; rfl) ?_
    refine Wp.go (x := (.aload_n 0, 1, 0, 0)) rfl 53 [some (.ref r0), some (.int x1)] [.ref r0] rfl ⟨rfl, rfl, rfl, rfl⟩ ?_
    refine Wp.gI rfl rfl hn_r0 rfl ⟨by decide, by decide⟩ ?_
    refine Wp.z_eq rfl rfl ⟨fun c => ?_, fun c => ?_⟩
    · have H := H.1 c
      refine Wp.ic (v := nI 0) rfl rfl (by decide) ?_
      exact Wp.rI rfl rfl H
    · have H := H.2 c
      refine Wp.go (x := (.aload_n 0, 1, 0, 0)) rfl 60 [some (.ref r0), some (.int x1)] [.ref r0] rfl ⟨rfl, rfl, rfl, rfl⟩ ?_
      refine Wp.gR rfl rfl hn_r0 rfl rfl hf2 ?_
      refine Wp.gI rfl rfl hn_f2 rfl ⟨by decide, by decide⟩ ?_
      refine Wp.go (x := (.goto 4, 3, 70, 0)) rfl 70 [some (.ref r0), some (.int x1)] [.int (I f2 5)] rfl ⟨rfl, rfl, rfl, rfl⟩ ?_
      exact Wp.rI rfl rfl H
  replace H := H.2 c
  have c1 := c
  clear c
  by_cases c : x1 = nI 2
  · have H := H.1 c
    refine Wp.tsw rfl (t := 71) (by rw [c]; rfl) ?_
    refine Wp.go (x := (.aload_n 0, 1, 0, 0)) rfl 72 [some (.ref r0), some (.int x1)] [.ref r0] rfl ⟨rfl, rfl, rfl, rfl⟩ ?_
    refine Wp.gR rfl rfl hn_r0 rfl rfl hf3 ?_
    refine Wp.gI rfl rfl hn_f3 rfl ⟨by decide, by decide⟩ ?_
    exact Wp.rI rfl rfl H
  replace H := H.2 c
  have c2 := c
  clear c
  by_cases c : x1 = nI 3
  · have H := H.1 c
    refine Wp.tsw rfl (t := 79) (by rw [c]; rfl) ?_
    refine Wp.go (x := (.aload_n 0, 1, 0, 0)) rfl 80 [some (.ref r0), some (.int x1)] [.ref r0] rfl ⟨rfl, rfl, rfl, rfl⟩ ?_
    refine Wp.gR rfl rfl hn_r0 rfl rfl hf3 ?_
    refine Wp.gI rfl rfl hn_f3 rfl ⟨by decide, by decide⟩ ?_
    exact Wp.rI rfl rfl H
  replace H := H.2 c
  have c3 := c
  clear c
  by_cases c : x1 = nI 4
  · have H := H.1 c
    refine Wp.tsw rfl (t := 87) (by rw [c]; rfl) ?_
    refine Wp.go (x := (.aload_n 0, 1, 0, 0)) rfl 88 [some (.ref r0), some (.int x1)] [.ref r0] rfl ⟨rfl, rfl, rfl, rfl⟩ ?_
    refine Wp.gI rfl rfl hn_r0 rfl ⟨by decide, by decide⟩ ?_
    exact Wp.rI rfl rfl H
  replace H := H.2 c
  have c4 := c
  clear c
  by_cases c : x1 = nI 5
  · have H := H.1 c
    refine Wp.tsw rfl (t := 92) (by rw [c]; rfl) ?_
    refine Wp.go (x := (.aload_n 0, 1, 0, 0)) rfl 93 [some (.ref r0), some (.int x1)] [.ref r0] rfl ⟨rfl, rfl, rfl, rfl⟩ ?_
    refine Wp.gI rfl rfl hn_r0 rfl ⟨by decide, by decide⟩ ?_
    exact Wp.rI rfl rfl H
  replace H := H.2 c
  have c5 := c
  clear c
  by_cases c : x1 = nI 6
  · have H := H.1 c
    refine Wp.tsw rfl (t := 97) (by rw [c]; rfl) ?_
    refine Wp.go (x := (.aload_n 0, 1, 0, 0)) rfl 98 [some (.ref r0), some (.int x1)] [.ref r0] rfl ⟨rfl, rfl, rfl, rfl⟩ ?_
    refine Wp.gI rfl rfl hn_r0 rfl ⟨by decide, by decide⟩ ?_
    exact Wp.rI rfl rfl H
  replace H := H.2 c
  have c6 := c
  clear c
  refine Wp.tsw rfl (t := 102) (tsw_d (by decide) (tsw_out (m := 6) (by decide) (fun k hk => by rcases (by omega : k = 0 ∨ k = 1 ∨ k = 2 ∨ k = 3 ∨ k = 4 ∨ k = 5 ∨ k = 6) with rfl | rfl | rfl | rfl | rfl | rfl | rfl <;> assumption)) rfl) ?_
  refine Wp.ic (v := (-1)) rfl rfl (by decide) ?_
  exact Wp.rI rfl rfl H
set_option maxRecDepth 20000 in
theorem wX11_many_0 {d : Nat} {Q : Option Value × xS → Prop} {K : Nat → Nat × Nat} {P : List Nat × Nat × Nat} {I : Nat → Nat → Int32} {J : Nat → Nat → Int64} {F : Nat → Nat → Option Nat} {r0 : Nat} {x1 : Int32} {n_r0 : Nat} (hn_r0 : K r0 = (10, n_r0)) (H : ((x1 = nI 0 → Q (some (.int (((xup I r0 0 (nI 0))) r0 3)), (K, P, (xup I r0 0 (nI 0)), J, F))) ∧ (¬ x1 = nI 0 → ((x1 = nI 1 → (((((xup I r0 0 (nI 0))) r0 10) = 0 → Q (some (.int (nI 0)), (K, P, (xup I r0 0 (nI 0)), J, F))) ∧ (¬ (((xup I r0 0 (nI 0))) r0 10) = 0 → Q (some (.int (((xup I r0 0 (nI 0))) r0 11)), (K, P, (xup I r0 0 (nI 0)), J, F))))) ∧ (¬ x1 = nI 1 → ((x1 = nI 2 → Q (some (.int (((xup I r0 0 (nI 0))) r0 7)), (K, P, (xup I r0 0 (nI 0)), J, F))) ∧ (¬ x1 = nI 2 → ((x1 = nI 3 → Q (some (.int (((xup I r0 0 (nI 0))) r0 9)), (K, P, (xup I r0 0 (nI 0)), J, F))) ∧ (¬ x1 = nI 3 → ((x1 = nI 4 → Q (some (.int (((xup I r0 0 (nI 0))) r0 18)), (K, P, (xup I r0 0 (nI 0)), J, F))) ∧ (¬ x1 = nI 4 → ((x1 = nI 5 → Q (some (.int (((xup I r0 0 (nI 0))) r0 5)), (K, P, (xup I r0 0 (nI 0)), J, F))) ∧ (¬ x1 = nI 5 → ((x1 = nI 6 → Q (some (.int (((xup I r0 0 (nI 0))) r0 1)), (K, P, (xup I r0 0 (nI 0)), J, F))) ∧ (¬ x1 = nI 6 → Q (some (.int ((-1))), (K, P, (xup I r0 0 (nI 0)), J, F))))))))))))))))) : Wp d 161 0 [some (.ref r0), some (.int x1)] [] (K, P, I, J, F) Q := by
  refine Wp.go (x := (.aload_n 0, 1, 0, 0)) rfl 1 [some (.ref r0), some (.int x1)] [.ref r0] rfl ⟨rfl, rfl, rfl, rfl⟩ ?_
  refine Wp.ic (v := nI 0) rfl rfl (by decide) ?_
  refine Wp.pI rfl rfl hn_r0 rfl (Or.inl rfl) ?_
  refine Wp.go (x := (.iload_n 1, 1, 0, 0)) rfl 6 [some (.ref r0), some (.int x1)] [.int x1] rfl ⟨rfl, rfl, rfl, rfl⟩ ?_
  by_cases c : x1 = nI 0
  · have H := H.1 c
    refine Wp.tsw rfl (t := 48) (by rw [c]; rfl) ?_
    refine Wp.go (x := (.aload_n 0, 1, 0, 0)) rfl 49 [some (.ref r0), some (.int x1)] [.ref r0] rfl ⟨rfl, rfl, rfl, rfl⟩ ?_
    refine Wp.gI rfl rfl hn_r0 rfl ⟨by decide, by decide⟩ ?_
    exact Wp.rI rfl rfl H
  replace H := H.2 c
  have c0 := c
  clear c
  by_cases c : x1 = nI 1
  · have H := H.1 c
    refine Wp.tsw rfl (t := 53) (by rw [c]; rfl) ?_
    refine Wp.go (x := (.aload_n 0, 1, 0, 0)) rfl 54 [some (.ref r0), some (.int x1)] [.ref r0] rfl ⟨rfl, rfl, rfl, rfl⟩ ?_
    refine Wp.gI rfl rfl hn_r0 rfl ⟨by decide, by decide⟩ ?_
    refine Wp.z_eq rfl rfl ⟨fun c => ?_, fun c => ?_⟩
    · have H := H.1 c
      refine Wp.ic (v := nI 0) rfl rfl (by decide) ?_
      exact Wp.rI rfl rfl H
    · have H := H.2 c
      refine Wp.go (x := (.aload_n 0, 1, 0, 0)) rfl 61 [some (.ref r0), some (.int x1)] [.ref r0] rfl ⟨rfl, rfl, rfl, rfl⟩ ?_
      refine Wp.gI rfl rfl hn_r0 rfl ⟨by decide, by decide⟩ ?_
      refine Wp.go (x := (.goto 4, 3, 68, 0)) rfl 68 [some (.ref r0), some (.int x1)] [.int (((xup I r0 0 (nI 0))) r0 11)] rfl ⟨rfl, rfl, rfl, rfl⟩ ?_
      exact Wp.rI rfl rfl H
  replace H := H.2 c
  have c1 := c
  clear c
  by_cases c : x1 = nI 2
  · have H := H.1 c
    refine Wp.tsw rfl (t := 69) (by rw [c]; rfl) ?_
    refine Wp.go (x := (.aload_n 0, 1, 0, 0)) rfl 70 [some (.ref r0), some (.int x1)] [.ref r0] rfl ⟨rfl, rfl, rfl, rfl⟩ ?_
    refine Wp.gI rfl rfl hn_r0 rfl ⟨by decide, by decide⟩ ?_
    exact Wp.rI rfl rfl H
  replace H := H.2 c
  have c2 := c
  clear c
  by_cases c : x1 = nI 3
  · have H := H.1 c
    refine Wp.tsw rfl (t := 74) (by rw [c]; rfl) ?_
    refine Wp.go (x := (.aload_n 0, 1, 0, 0)) rfl 75 [some (.ref r0), some (.int x1)] [.ref r0] rfl ⟨rfl, rfl, rfl, rfl⟩ ?_
    refine Wp.gI rfl rfl hn_r0 rfl ⟨by decide, by decide⟩ ?_
    exact Wp.rI rfl rfl H
  replace H := H.2 c
  have c3 := c
  clear c
  by_cases c : x1 = nI 4
  · have H := H.1 c
    refine Wp.tsw rfl (t := 79) (by rw [c]; rfl) ?_
    refine Wp.go (x := (.aload_n 0, 1, 0, 0)) rfl 80 [some (.ref r0), some (.int x1)] [.ref r0] rfl ⟨rfl, rfl, rfl, rfl⟩ ?_
    refine Wp.gI rfl rfl hn_r0 rfl ⟨by decide, by decide⟩ ?_
    exact Wp.rI rfl rfl H
  replace H := H.2 c
  have c4 := c
  clear c
  by_cases c : x1 = nI 5
  · have H := H.1 c
    refine Wp.tsw rfl (t := 84) (by rw [c]; rfl) ?_
    refine Wp.go (x := (.aload_n 0, 1, 0, 0)) rfl 85 [some (.ref r0), some (.int x1)] [.ref r0] rfl ⟨rfl, rfl, rfl, rfl⟩ ?_
    refine Wp.gI rfl rfl hn_r0 rfl ⟨by decide, by decide⟩ ?_
    exact Wp.rI rfl rfl H
  replace H := H.2 c
  have c5 := c
  clear c
  by_cases c : x1 = nI 6
  · have H := H.1 c
    refine Wp.tsw rfl (t := 89) (by rw [c]; rfl) ?_
    refine Wp.go (x := (.aload_n 0, 1, 0, 0)) rfl 90 [some (.ref r0), some (.int x1)] [.ref r0] rfl ⟨rfl, rfl, rfl, rfl⟩ ?_
    refine Wp.gI rfl rfl hn_r0 rfl ⟨by decide, by decide⟩ ?_
    exact Wp.rI rfl rfl H
  replace H := H.2 c
  have c6 := c
  clear c
  refine Wp.tsw rfl (t := 94) (tsw_d (by decide) (tsw_out (m := 6) (by decide) (fun k hk => by rcases (by omega : k = 0 ∨ k = 1 ∨ k = 2 ∨ k = 3 ∨ k = 4 ∨ k = 5 ∨ k = 6) with rfl | rfl | rfl | rfl | rfl | rfl | rfl <;> assumption)) rfl) ?_
  refine Wp.ic (v := (-1)) rfl rfl (by decide) ?_
  exact Wp.rI rfl rfl H
set_option maxRecDepth 20000 in
theorem wY10_rounds_0 {d : Nat} {Q : Option Value × xS → Prop} {K : Nat → Nat × Nat} {P : List Nat × Nat × Nat} {I : Nat → Nat → Int32} {J : Nat → Nat → Int64} {F : Nat → Nat → Option Nat} {r0 : Nat} {x1 : Int32} {n_r0 : Nat} {f1 : Nat} {n_f1 : Nat} (hn_r0 : K r0 = (9, n_r0)) (hf1 : F r0 1 = some f1) (hn_f1 : K f1 = (8, n_f1)) (H : ((x1 < (nI 1) → Q (some (.long ((-1))), (K, P, I, J, F))) ∧ (¬ x1 < (nI 1) → (((nI 8) < x1 → Q (some (.long ((-1))), (K, P, I, J, F))) ∧ (¬ (nI 8) < x1 → (((I r0 0) = (nI 1) → Q (some (.long ((-1))), (K, P, I, J, F))) ∧ (¬ (I r0 0) = (nI 1) → ((¬ (I f1 3) = 0 → Wp d 84 38 [some (.ref r0), some (.int x1), some (.long (lN 0)), none, some (.int (nI 0)), none, none] [] (K, P, I, J, F) Q) ∧ ((I f1 3) = 0 → Q (some (.long ((-1))), (K, P, I, J, F))))))))))) : Wp d 84 0 [some (.ref r0), some (.int x1), none, none, none, none, none] [] (K, P, I, J, F) Q := by
  refine Wp.go (x := (.iload_n 1, 1, 0, 0)) rfl 1 [some (.ref r0), some (.int x1), none, none, none, none, none] [.int x1] rfl ⟨rfl, rfl, rfl, rfl⟩ ?_
  refine Wp.ic (v := nI 1) rfl rfl (by decide) ?_
  refine Wp.c_lt rfl rfl ⟨fun c => ?_, fun c => ?_⟩
  · have H := H.1 c
    refine Wp.ldcj (v := (-1)) rfl rfl (by first | rfl | decide) ?_
    exact Wp.rJ rfl rfl H
  · have H := H.2 c
    refine Wp.go (x := (.iload_n 1, 1, 0, 0)) rfl 6 [some (.ref r0), some (.int x1), none, none, none, none, none] [.int x1] rfl ⟨rfl, rfl, rfl, rfl⟩ ?_
    refine Wp.bp (v := nI 8) rfl rfl (by decide) ?_
    refine Wp.c_gt rfl rfl ⟨fun c => ?_, fun c => ?_⟩
    · have H := H.1 c
      refine Wp.ldcj (v := (-1)) rfl rfl (by first | rfl | decide) ?_
      exact Wp.rJ rfl rfl H
    · have H := H.2 c
      refine Wp.go (x := (.aload_n 0, 1, 0, 0)) rfl 12 [some (.ref r0), some (.int x1), none, none, none, none, none] [.ref r0] rfl ⟨rfl, rfl, rfl, rfl⟩ ?_
      refine Wp.gI rfl rfl hn_r0 rfl ⟨by decide, by decide⟩ ?_
      refine Wp.ic (v := nI 1) rfl rfl (by decide) ?_
      refine Wp.c_eq rfl rfl ⟨fun c => ?_, fun c => ?_⟩
      · have H := H.1 c
        refine Wp.ldcj (v := (-1)) rfl rfl (by first | rfl | decide) ?_
        exact Wp.rJ rfl rfl H
      · have H := H.2 c
        refine Wp.go (x := (.aload_n 0, 1, 0, 0)) rfl 20 [some (.ref r0), some (.int x1), none, none, none, none, none] [.ref r0] rfl ⟨rfl, rfl, rfl, rfl⟩ ?_
        refine Wp.gR rfl rfl hn_r0 rfl rfl hf1 ?_
        refine Wp.gI rfl rfl hn_f1 rfl ⟨by decide, by decide⟩ ?_
        refine Wp.z_ne rfl rfl ⟨fun c => ?_, fun c => ?_⟩
        · have H := H.1 c
          refine Wp.lc (v := lN 0) rfl rfl (by first | rfl | decide) ?_
          refine Wp.go (x := (.lstore_n 2, 1, 0, 0)) rfl 35 [some (.ref r0), some (.int x1), some (.long (lN 0)), none, none, none, none] [] rfl ⟨rfl, rfl, rfl, rfl⟩ ?_
          refine Wp.ic (v := nI 0) rfl rfl (by decide) ?_
          refine Wp.go (x := (.istore 4, 2, 0, 0)) rfl 38 [some (.ref r0), some (.int x1), some (.long (lN 0)), none, some (.int (nI 0)), none, none] [] rfl ⟨rfl, rfl, rfl, rfl⟩ ?_
          exact H
        · have H := H.2 c
          refine Wp.ldcj (v := (-1)) rfl rfl (by first | rfl | decide) ?_
          exact Wp.rJ rfl rfl H
set_option maxRecDepth 20000 in
theorem wY10_rounds_38 {d : Nat} {Q : Option Value × xS → Prop} {K : Nat → Nat × Nat} {P : List Nat × Nat × Nat} {I : Nat → Nat → Int32} {J : Nat → Nat → Int64} {F : Nat → Nat → Option Nat} {r0 : Nat} {x1 : Int32} {y2 : Int64} {x4 : Int32} {n_r0 : Nat} {f1 : Nat} {f2 : Nat} {n_f1 : Nat} {f5 : Nat} {f8 : Nat} {f11 : Nat} {n_f11 : Nat} {k_f11 : Nat} {c12 : Nat} {n_f2 : Nat} (hn_r0 : K r0 = (9, n_r0)) (hf1 : F r0 2 = some f1) (hf2 : F r0 3 = some f2) (hn_f1 : K f1 = (2, n_f1)) (hf5 : F r0 8 = some f5) (hf8 : F r0 1 = some f8) (hf11 : F r0 4 = some f11) (hn_f11 : K f11 = (k_f11, n_f11)) (hc13 : xtg 2000 k_f11 = some c12) (hl14 : 2 ≤ xnl c12) (hn_f2 : K f2 = (2, n_f2)) (H : ((x1 ≤ x4 → Wp d 12 0 [some (.ref f1), some (.ref f2)] [] (K, P, I, J, F) (xrV K P F (fun I3 J4 => Q (some (.long y2), (K, P, (xup I3 r0 9 (nI 1)), J4, F))))) ∧ (¬ x1 ≤ x4 → Wp d 92 0 [some (.ref r0), some (.ref f5)] [] (K, P, I, J, F) (xrV K P F (fun I6 J7 => Wp d 21 0 [some (.ref f1), some (.ref f5), some (.ref f8), none] [] (K, P, I6, J7, F) (xrV K P F (fun I9 J10 => Wp d c12 0 (xent (xnl c12) [.ref f11, .ref f5]) [] (K, P, I9, J10, F) (xrJ K P F (fun v15 I16 J17 => ((x4 = 0 → Wp d 12 0 [some (.ref f2), some (.ref f1)] [] (K, P, I16, J17, F) (xrV K P F (fun I18 J19 => Wp d 93 0 [some (.ref r0), none] [] (K, P, I18, J19, F) (xrVF K P (fun I21 J22 F23 => Wp (d + 1) 84 38 [some (.ref r0), some (.int x1), some (.long v15), none, some (.int (x4 + nI 1)), none, none] [] (K, P, I21, J22, F23) Q))))) ∧ (¬ x4 = 0 → ((0 ≤ (lg_cmp v15 y2) → Wp (d + 1) 84 38 [some (.ref r0), some (.int x1), some (.long y2), none, some (.int (x4 + nI 1)), none, none] [] (K, P, I16, J17, F) Q) ∧ (¬ 0 ≤ (lg_cmp v15 y2) → Wp d 12 0 [some (.ref f2), some (.ref f1)] [] (K, P, I16, J17, F) (xrV K P F (fun I24 J25 => Wp d 93 0 [some (.ref r0), none] [] (K, P, I24, J25, F) (xrVF K P (fun I27 J28 F29 => Wp (d + 1) 84 38 [some (.ref r0), some (.int x1), some (.long v15), none, some (.int (x4 + nI 1)), none, none] [] (K, P, I27, J28, F29) Q))))))))))))))))) : Wp (d + 1) 84 38 [some (.ref r0), some (.int x1), some (.long y2), none, some (.int x4), none, none] [] (K, P, I, J, F) Q := by
  refine Wp.go (x := (.iload 4, 2, 0, 0)) rfl 40 [some (.ref r0), some (.int x1), some (.long y2), none, some (.int x4), none, none] [.int x4] rfl ⟨rfl, rfl, rfl, rfl⟩ ?_
  refine Wp.go (x := (.iload_n 1, 1, 0, 0)) rfl 41 [some (.ref r0), some (.int x1), some (.long y2), none, some (.int x4), none, none] [.int x1, .int x4] rfl ⟨rfl, rfl, rfl, rfl⟩ ?_
  refine Wp.c_ge rfl rfl ⟨fun c => ?_, fun c => ?_⟩
  · have H := H.1 c
    refine Wp.go (x := (.aload_n 0, 1, 0, 0)) rfl 117 [some (.ref r0), some (.int x1), some (.long y2), none, some (.int x4), none, none] [.ref r0] rfl ⟨rfl, rfl, rfl, rfl⟩ ?_
    refine Wp.gR rfl rfl hn_r0 rfl rfl hf1 ?_
    refine Wp.go (x := (.aload_n 0, 1, 0, 0)) rfl 121 [some (.ref r0), some (.int x1), some (.long y2), none, some (.int x4), none, none] [.ref r0, .ref f1] rfl ⟨rfl, rfl, rfl, rfl⟩ ?_
    refine Wp.gR rfl rfl hn_r0 rfl rfl hf2 ?_
    refine Wp.kV (x := (.invokevirtual 164, 3, 12, 2)) (j := 12) (vs := [.ref f1, .ref f2]) (rest := []) rfl (by show xtg 12 (K f1).1 = _; rw [hn_f1]; rfl) rfl ⟨Nat.le_of_ble_eq_true rfl, Nat.le_of_ble_eq_true rfl, Nat.le_of_ble_eq_true rfl⟩ rfl rfl rfl H (fun I3 J4 H => ?_)
    refine Wp.go (x := (.aload_n 0, 1, 0, 0)) rfl 128 [some (.ref r0), some (.int x1), some (.long y2), none, some (.int x4), none, none] [.ref r0] rfl ⟨rfl, rfl, rfl, rfl⟩ ?_
    refine Wp.ic (v := nI 1) rfl rfl (by decide) ?_
    refine Wp.pI rfl rfl hn_r0 rfl (Or.inr ⟨rfl, Or.inr rfl⟩) ?_
    refine Wp.go (x := (.lload_n 2, 1, 0, 0)) rfl 133 [some (.ref r0), some (.int x1), some (.long y2), none, some (.int x4), none, none] [.long y2] rfl ⟨rfl, rfl, rfl, rfl⟩ ?_
    exact Wp.rJ rfl rfl H
  · have H := H.2 c
    refine Wp.go (x := (.aload_n 0, 1, 0, 0)) rfl 45 [some (.ref r0), some (.int x1), some (.long y2), none, some (.int x4), none, none] [.ref r0] rfl ⟨rfl, rfl, rfl, rfl⟩ ?_
    refine Wp.go (x := (.aload_n 0, 1, 0, 0)) rfl 46 [some (.ref r0), some (.int x1), some (.long y2), none, some (.int x4), none, none] [.ref r0, .ref r0] rfl ⟨rfl, rfl, rfl, rfl⟩ ?_
    refine Wp.gR rfl rfl hn_r0 rfl rfl hf5 ?_
    refine Wp.kV (x := (.invokevirtual 108, 3, 92, 2)) (j := 92) (vs := [.ref r0, .ref f5]) (rest := []) rfl (by show xtg 92 (K r0).1 = _; rw [hn_r0]; rfl) rfl ⟨Nat.le_of_ble_eq_true rfl, Nat.le_of_ble_eq_true rfl, Nat.le_of_ble_eq_true rfl⟩ rfl rfl rfl H (fun I6 J7 H => ?_)
    refine Wp.go (x := (.aload_n 0, 1, 0, 0)) rfl 53 [some (.ref r0), some (.int x1), some (.long y2), none, some (.int x4), none, none] [.ref r0] rfl ⟨rfl, rfl, rfl, rfl⟩ ?_
    refine Wp.gR rfl rfl hn_r0 rfl rfl hf1 ?_
    refine Wp.go (x := (.aload_n 0, 1, 0, 0)) rfl 57 [some (.ref r0), some (.int x1), some (.long y2), none, some (.int x4), none, none] [.ref r0, .ref f1] rfl ⟨rfl, rfl, rfl, rfl⟩ ?_
    refine Wp.gR rfl rfl hn_r0 rfl rfl hf5 ?_
    refine Wp.go (x := (.aload_n 0, 1, 0, 0)) rfl 61 [some (.ref r0), some (.int x1), some (.long y2), none, some (.int x4), none, none] [.ref r0, .ref f5, .ref f1] rfl ⟨rfl, rfl, rfl, rfl⟩ ?_
    refine Wp.gR rfl rfl hn_r0 rfl rfl hf8 ?_
    refine Wp.kV (x := (.invokevirtual 160, 3, 21, 3)) (j := 21) (vs := [.ref f1, .ref f5, .ref f8]) (rest := []) rfl (by show xtg 21 (K f1).1 = _; rw [hn_f1]; rfl) rfl ⟨Nat.le_of_ble_eq_true rfl, Nat.le_of_ble_eq_true rfl, Nat.le_of_ble_eq_true rfl⟩ rfl rfl rfl H (fun I9 J10 H => ?_)
    refine Wp.go (x := (.aload_n 0, 1, 0, 0)) rfl 68 [some (.ref r0), some (.int x1), some (.long y2), none, some (.int x4), none, none] [.ref r0] rfl ⟨rfl, rfl, rfl, rfl⟩ ?_
    refine Wp.gR rfl rfl hn_r0 rfl rfl hf11 ?_
    refine Wp.go (x := (.aload_n 0, 1, 0, 0)) rfl 72 [some (.ref r0), some (.int x1), some (.long y2), none, some (.int x4), none, none] [.ref r0, .ref f11] rfl ⟨rfl, rfl, rfl, rfl⟩ ?_
    refine Wp.gR rfl rfl hn_r0 rfl rfl hf5 ?_
    refine Wp.kJ (x := (.invokevirtual 116, 3, 2000, 2)) (j := c12) (vs := [.ref f11, .ref f5]) (rest := []) rfl (by show xtg 2000 (K f11).1 = _; rw [hn_f11]; exact hc13) rfl ⟨Nat.le_of_ble_eq_true rfl, Nat.le_of_ble_eq_true rfl, hl14⟩ rfl rfl rfl H (fun v15 I16 J17 H => ?_)
    refine Wp.go (x := (.lstore 5, 2, 0, 0)) rfl 80 [some (.ref r0), some (.int x1), some (.long y2), none, some (.int x4), some (.long v15), none] [] rfl ⟨rfl, rfl, rfl, rfl⟩ ?_
    refine Wp.go (x := (.iload 4, 2, 0, 0)) rfl 82 [some (.ref r0), some (.int x1), some (.long y2), none, some (.int x4), some (.long v15), none] [.int x4] rfl ⟨rfl, rfl, rfl, rfl⟩ ?_
    refine Wp.z_eq rfl rfl ⟨fun c => ?_, fun c => ?_⟩
    · have H := H.1 c
      refine Wp.go (x := (.lload 5, 2, 0, 0)) rfl 94 [some (.ref r0), some (.int x1), some (.long y2), none, some (.int x4), some (.long v15), none] [.long v15] rfl ⟨rfl, rfl, rfl, rfl⟩ ?_
      refine Wp.go (x := (.lstore_n 2, 1, 0, 0)) rfl 95 [some (.ref r0), some (.int x1), some (.long v15), none, some (.int x4), some (.long v15), none] [] rfl ⟨rfl, rfl, rfl, rfl⟩ ?_
      refine Wp.go (x := (.aload_n 0, 1, 0, 0)) rfl 96 [some (.ref r0), some (.int x1), some (.long v15), none, some (.int x4), some (.long v15), none] [.ref r0] rfl ⟨rfl, rfl, rfl, rfl⟩ ?_
      refine Wp.gR rfl rfl hn_r0 rfl rfl hf2 ?_
      refine Wp.go (x := (.aload_n 0, 1, 0, 0)) rfl 100 [some (.ref r0), some (.int x1), some (.long v15), none, some (.int x4), some (.long v15), none] [.ref r0, .ref f2] rfl ⟨rfl, rfl, rfl, rfl⟩ ?_
      refine Wp.gR rfl rfl hn_r0 rfl rfl hf1 ?_
      refine Wp.kV (x := (.invokevirtual 164, 3, 12, 2)) (j := 12) (vs := [.ref f2, .ref f1]) (rest := []) rfl (by show xtg 12 (K f2).1 = _; rw [hn_f2]; rfl) rfl ⟨Nat.le_of_ble_eq_true rfl, Nat.le_of_ble_eq_true rfl, Nat.le_of_ble_eq_true rfl⟩ rfl rfl rfl H (fun I18 J19 H => ?_)
      refine Wp.go (x := (.aload_n 0, 1, 0, 0)) rfl 107 [some (.ref r0), some (.int x1), some (.long v15), none, some (.int x4), some (.long v15), none] [.ref r0] rfl ⟨rfl, rfl, rfl, rfl⟩ ?_
      refine Wp.kVF (x := (.invokevirtual 168, 3, 93, 1)) (j := 93) (vs := [.ref r0]) (rest := []) rfl (by show xtg 93 (K r0).1 = _; rw [hn_r0]; rfl) rfl ⟨Nat.le_of_ble_eq_true rfl, Nat.le_of_ble_eq_true rfl, Nat.le_of_ble_eq_true rfl⟩ rfl rfl rfl H (fun I21 J22 F23 H => ?_)
      refine Wp.ii (v := nI 1) rfl rfl (by decide) rfl (L' := [some (.ref r0), some (.int x1), some (.long v15), none, some (.int (x4 + nI 1)), some (.long v15), none]) rfl ?_
      refine Wp.go (x := (.goto (-75), 3, 38, 0)) rfl 38 [some (.ref r0), some (.int x1), some (.long v15), none, some (.int (x4 + nI 1)), some (.long v15), none] [] rfl ⟨rfl, rfl, rfl, rfl⟩ ?_
      exact Wp.wk (L := [some (.ref r0), some (.int x1), some (.long v15), none, some (.int (x4 + nI 1)), none, none]) ⟨Or.inr rfl, Or.inr rfl, Or.inr rfl, Or.inr rfl, Or.inr rfl, Or.inl rfl, Or.inr rfl, trivial⟩ H
    · have H := H.2 c
      refine Wp.go (x := (.lload 5, 2, 0, 0)) rfl 87 [some (.ref r0), some (.int x1), some (.long y2), none, some (.int x4), some (.long v15), none] [.long v15] rfl ⟨rfl, rfl, rfl, rfl⟩ ?_
      refine Wp.go (x := (.lload_n 2, 1, 0, 0)) rfl 88 [some (.ref r0), some (.int x1), some (.long y2), none, some (.int x4), some (.long v15), none] [.long y2, .long v15] rfl ⟨rfl, rfl, rfl, rfl⟩ ?_
      refine Wp.go (x := (.lcmp, 1, 0, 0)) rfl 89 [some (.ref r0), some (.int x1), some (.long y2), none, some (.int x4), some (.long v15), none] [.int (lg_cmp v15 y2)] rfl ⟨rfl, rfl, rfl, rfl⟩ ?_
      refine Wp.z_ge rfl rfl ⟨fun c => ?_, fun c => ?_⟩
      · have H := H.1 c
        refine Wp.ii (v := nI 1) rfl rfl (by decide) rfl (L' := [some (.ref r0), some (.int x1), some (.long y2), none, some (.int (x4 + nI 1)), some (.long v15), none]) rfl ?_
        refine Wp.go (x := (.goto (-75), 3, 38, 0)) rfl 38 [some (.ref r0), some (.int x1), some (.long y2), none, some (.int (x4 + nI 1)), some (.long v15), none] [] rfl ⟨rfl, rfl, rfl, rfl⟩ ?_
        exact Wp.wk (L := [some (.ref r0), some (.int x1), some (.long y2), none, some (.int (x4 + nI 1)), none, none]) ⟨Or.inr rfl, Or.inr rfl, Or.inr rfl, Or.inr rfl, Or.inr rfl, Or.inl rfl, Or.inr rfl, trivial⟩ H
      · have H := H.2 c
        refine Wp.go (x := (.lload 5, 2, 0, 0)) rfl 94 [some (.ref r0), some (.int x1), some (.long y2), none, some (.int x4), some (.long v15), none] [.long v15] rfl ⟨rfl, rfl, rfl, rfl⟩ ?_
        refine Wp.go (x := (.lstore_n 2, 1, 0, 0)) rfl 95 [some (.ref r0), some (.int x1), some (.long v15), none, some (.int x4), some (.long v15), none] [] rfl ⟨rfl, rfl, rfl, rfl⟩ ?_
        refine Wp.go (x := (.aload_n 0, 1, 0, 0)) rfl 96 [some (.ref r0), some (.int x1), some (.long v15), none, some (.int x4), some (.long v15), none] [.ref r0] rfl ⟨rfl, rfl, rfl, rfl⟩ ?_
        refine Wp.gR rfl rfl hn_r0 rfl rfl hf2 ?_
        refine Wp.go (x := (.aload_n 0, 1, 0, 0)) rfl 100 [some (.ref r0), some (.int x1), some (.long v15), none, some (.int x4), some (.long v15), none] [.ref r0, .ref f2] rfl ⟨rfl, rfl, rfl, rfl⟩ ?_
        refine Wp.gR rfl rfl hn_r0 rfl rfl hf1 ?_
        refine Wp.kV (x := (.invokevirtual 164, 3, 12, 2)) (j := 12) (vs := [.ref f2, .ref f1]) (rest := []) rfl (by show xtg 12 (K f2).1 = _; rw [hn_f2]; rfl) rfl ⟨Nat.le_of_ble_eq_true rfl, Nat.le_of_ble_eq_true rfl, Nat.le_of_ble_eq_true rfl⟩ rfl rfl rfl H (fun I24 J25 H => ?_)
        refine Wp.go (x := (.aload_n 0, 1, 0, 0)) rfl 107 [some (.ref r0), some (.int x1), some (.long v15), none, some (.int x4), some (.long v15), none] [.ref r0] rfl ⟨rfl, rfl, rfl, rfl⟩ ?_
        refine Wp.kVF (x := (.invokevirtual 168, 3, 93, 1)) (j := 93) (vs := [.ref r0]) (rest := []) rfl (by show xtg 93 (K r0).1 = _; rw [hn_r0]; rfl) rfl ⟨Nat.le_of_ble_eq_true rfl, Nat.le_of_ble_eq_true rfl, Nat.le_of_ble_eq_true rfl⟩ rfl rfl rfl H (fun I27 J28 F29 H => ?_)
        refine Wp.ii (v := nI 1) rfl rfl (by decide) rfl (L' := [some (.ref r0), some (.int x1), some (.long v15), none, some (.int (x4 + nI 1)), some (.long v15), none]) rfl ?_
        refine Wp.go (x := (.goto (-75), 3, 38, 0)) rfl 38 [some (.ref r0), some (.int x1), some (.long v15), none, some (.int (x4 + nI 1)), some (.long v15), none] [] rfl ⟨rfl, rfl, rfl, rfl⟩ ?_
        exact Wp.wk (L := [some (.ref r0), some (.int x1), some (.long v15), none, some (.int (x4 + nI 1)), none, none]) ⟨Or.inr rfl, Or.inr rfl, Or.inr rfl, Or.inr rfl, Or.inr rfl, Or.inl rfl, Or.inr rfl, trivial⟩ H
set_option maxRecDepth 20000 in
theorem wL_law_33 {d : Nat} {Q : Option Value × xS → Prop} {K : Nat → Nat × Nat} {P : List Nat × Nat × Nat} {I : Nat → Nat → Int32} {J : Nat → Nat → Int64} {F : Nat → Nat → Option Nat} {r0 : Nat} {r1 : Nat} {r2 : Nat} {r3 : Nat} {x4 : Int32} {n_r0 : Nat} (hK : ∀ {a k n : Nat}, K a = (k, n) → n < 2147483648) (hn_r0 : K r0 = (103, n_r0)) (H : ((((nI n_r0) - (nI 4)) < x4 → Q (some (.int (nI 1)), (K, P, I, J, F))) ∧ (¬ ((nI n_r0) - (nI 4)) < x4 → (∃ j1 : Nat, x4 = nI j1 ∧ j1 < n_r0 ∧ ((((I r0 j1) &&& (nI 31)) = nI 0 → Wp (d + 7) 169 140 [some (.ref r0), some (.ref r1), some (.ref r2), some (.ref r3), some (.int x4), none, none] [] (K, P, I, J, F) Q) ∧ (¬ ((I r0 j1) &&& (nI 31)) = nI 0 → ((((I r0 j1) &&& (nI 31)) = nI 1 → Wp (d + 7) 169 209 [some (.ref r0), some (.ref r1), some (.ref r2), some (.ref r3), some (.int x4), none, none] [] (K, P, I, J, F) Q) ∧ (¬ ((I r0 j1) &&& (nI 31)) = nI 1 → ((((I r0 j1) &&& (nI 31)) = nI 2 → Wp (d + 7) 169 258 [some (.ref r0), some (.ref r1), some (.ref r2), some (.ref r3), some (.int x4), none, none] [] (K, P, I, J, F) Q) ∧ (¬ ((I r0 j1) &&& (nI 31)) = nI 2 → ((((I r0 j1) &&& (nI 31)) = nI 3 → Wp (d + 7) 169 295 [some (.ref r0), some (.ref r1), some (.ref r2), some (.ref r3), some (.int x4), none, none] [] (K, P, I, J, F) Q) ∧ (¬ ((I r0 j1) &&& (nI 31)) = nI 3 → ((((I r0 j1) &&& (nI 31)) = nI 4 → Wp (d + 7) 169 320 [some (.ref r0), some (.ref r1), some (.ref r2), some (.ref r3), some (.int x4), none, none] [] (K, P, I, J, F) Q) ∧ (¬ ((I r0 j1) &&& (nI 31)) = nI 4 → ((((I r0 j1) &&& (nI 31)) = nI 5 → Wp (d + 7) 169 345 [some (.ref r0), some (.ref r1), some (.ref r2), some (.ref r3), some (.int x4), none, none] [] (K, P, I, J, F) Q) ∧ (¬ ((I r0 j1) &&& (nI 31)) = nI 5 → ((((I r0 j1) &&& (nI 31)) = nI 6 → Wp (d + 7) 169 382 [some (.ref r0), some (.ref r1), some (.ref r2), some (.ref r3), some (.int x4), none, none] [] (K, P, I, J, F) Q) ∧ (¬ ((I r0 j1) &&& (nI 31)) = nI 6 → ((((I r0 j1) &&& (nI 31)) = nI 7 → Wp (d + 7) 169 396 [some (.ref r0), some (.ref r1), some (.ref r2), some (.ref r3), some (.int x4), none, none] [] (K, P, I, J, F) Q) ∧ (¬ ((I r0 j1) &&& (nI 31)) = nI 7 → ((((I r0 j1) &&& (nI 31)) = nI 8 → Wp (d + 7) 169 410 [some (.ref r0), some (.ref r1), some (.ref r2), some (.ref r3), some (.int x4), none, none] [] (K, P, I, J, F) Q) ∧ (¬ ((I r0 j1) &&& (nI 31)) = nI 8 → ((((I r0 j1) &&& (nI 31)) = nI 9 → Wp (d + 7) 169 423 [some (.ref r0), some (.ref r1), some (.ref r2), some (.ref r3), some (.int x4), none, none] [] (K, P, I, J, F) Q) ∧ (¬ ((I r0 j1) &&& (nI 31)) = nI 9 → ((((I r0 j1) &&& (nI 31)) = nI 10 → Wp (d + 7) 169 448 [some (.ref r0), some (.ref r1), some (.ref r2), some (.ref r3), some (.int x4), none, none] [] (K, P, I, J, F) Q) ∧ (¬ ((I r0 j1) &&& (nI 31)) = nI 10 → ((((I r0 j1) &&& (nI 31)) = nI 11 → Wp (d + 7) 169 474 [some (.ref r0), some (.ref r1), some (.ref r2), some (.ref r3), some (.int x4), none, none] [] (K, P, I, J, F) Q) ∧ (¬ ((I r0 j1) &&& (nI 31)) = nI 11 → ((((I r0 j1) &&& (nI 31)) = nI 12 → Wp (d + 7) 169 499 [some (.ref r0), some (.ref r1), some (.ref r2), some (.ref r3), some (.int x4), none, none] [] (K, P, I, J, F) Q) ∧ (¬ ((I r0 j1) &&& (nI 31)) = nI 12 → ((((I r0 j1) &&& (nI 31)) = nI 13 → Wp (d + 7) 169 536 [some (.ref r0), some (.ref r1), some (.ref r2), some (.ref r3), some (.int x4), none, none] [] (K, P, I, J, F) Q) ∧ (¬ ((I r0 j1) &&& (nI 31)) = nI 13 → ((((I r0 j1) &&& (nI 31)) = nI 14 → Wp (d + 7) 169 561 [some (.ref r0), some (.ref r1), some (.ref r2), some (.ref r3), some (.int x4), none, none] [] (K, P, I, J, F) Q) ∧ (¬ ((I r0 j1) &&& (nI 31)) = nI 14 → ((((I r0 j1) &&& (nI 31)) = nI 15 → Wp (d + 7) 169 587 [some (.ref r0), some (.ref r1), some (.ref r2), some (.ref r3), some (.int x4), none, none] [] (K, P, I, J, F) Q) ∧ (¬ ((I r0 j1) &&& (nI 31)) = nI 15 → ((((I r0 j1) &&& (nI 31)) = nI 16 → Wp (d + 7) 169 612 [some (.ref r0), some (.ref r1), some (.ref r2), some (.ref r3), some (.int x4), none, none] [] (K, P, I, J, F) Q) ∧ (¬ ((I r0 j1) &&& (nI 31)) = nI 16 → ((((I r0 j1) &&& (nI 31)) = nI 17 → Wp (d + 7) 169 637 [some (.ref r0), some (.ref r1), some (.ref r2), some (.ref r3), some (.int x4), none, none] [] (K, P, I, J, F) Q) ∧ (¬ ((I r0 j1) &&& (nI 31)) = nI 17 → ((((I r0 j1) &&& (nI 31)) = nI 18 → Wp (d + 7) 169 648 [some (.ref r0), some (.ref r1), some (.ref r2), some (.ref r3), some (.int x4), none, none] [] (K, P, I, J, F) Q) ∧ (¬ ((I r0 j1) &&& (nI 31)) = nI 18 → Wp (d + 7) 169 33 [some (.ref r0), some (.ref r1), some (.ref r2), some (.ref r3), some (.int (x4 + nI 4)), none, none] [] (K, P, I, J, F) Q)))))))))))))))))))))))))))))))))))))))))) : Wp (d + 7) 169 33 [some (.ref r0), some (.ref r1), some (.ref r2), some (.ref r3), some (.int x4), none, none] [] (K, P, I, J, F) Q := by
  refine Wp.go (x := (.iload 4, 2, 0, 0)) rfl 35 [some (.ref r0), some (.ref r1), some (.ref r2), some (.ref r3), some (.int x4), none, none] [.int x4] rfl ⟨rfl, rfl, rfl, rfl⟩ ?_
  refine Wp.go (x := (.aload_n 0, 1, 0, 0)) rfl 36 [some (.ref r0), some (.ref r1), some (.ref r2), some (.ref r3), some (.int x4), none, none] [.ref r0, .int x4] rfl ⟨rfl, rfl, rfl, rfl⟩ ?_
  refine Wp.alen rfl rfl hn_r0 (Or.inr (Or.inl rfl)) ?_
  refine Wp.ic (v := nI 4) rfl rfl (by decide) ?_
  refine Wp.go (x := (.isub, 1, 0, 0)) rfl 39 [some (.ref r0), some (.ref r1), some (.ref r2), some (.ref r3), some (.int x4), none, none] [.int ((nI n_r0) - (nI 4)), .int x4] rfl ⟨rfl, rfl, rfl, rfl⟩ ?_
  refine Wp.c_gt rfl rfl ⟨fun c => ?_, fun c => ?_⟩
  · have H := H.1 c
    refine Wp.ic (v := nI 1) rfl rfl (by decide) ?_
    exact Wp.rZ rfl rfl (Or.inr rfl) H
  · have H := H.2 c
    refine Wp.go (x := (.aload_n 0, 1, 0, 0)) rfl 43 [some (.ref r0), some (.ref r1), some (.ref r2), some (.ref r3), some (.int x4), none, none] [.ref r0] rfl ⟨rfl, rfl, rfl, rfl⟩ ?_
    refine Wp.go (x := (.iload 4, 2, 0, 0)) rfl 45 [some (.ref r0), some (.ref r1), some (.ref r2), some (.ref r3), some (.int x4), none, none] [.int x4, .ref r0] rfl ⟨rfl, rfl, rfl, rfl⟩ ?_
    obtain ⟨j1, e, b, H⟩ := H
    refine Wp.ald rfl rfl hn_r0 (Or.inr rfl) (hK hn_r0) ⟨j1, e, b, ?_⟩
    refine Wp.bp (v := nI 31) rfl rfl (by decide) ?_
    refine Wp.go (x := (.iand, 1, 0, 0)) rfl 49 [some (.ref r0), some (.ref r1), some (.ref r2), some (.ref r3), some (.int x4), none, none] [.int ((I r0 j1) &&& (nI 31))] rfl ⟨rfl, rfl, rfl, rfl⟩ ?_
    by_cases c : ((I r0 j1) &&& (nI 31)) = nI 0
    · have H := H.1 c
      refine Wp.tsw rfl (t := 140) (by rw [c]; rfl) ?_
      exact H
    replace H := H.2 c
    have c0 := c
    clear c
    by_cases c : ((I r0 j1) &&& (nI 31)) = nI 1
    · have H := H.1 c
      refine Wp.tsw rfl (t := 209) (by rw [c]; rfl) ?_
      exact H
    replace H := H.2 c
    have c1 := c
    clear c
    by_cases c : ((I r0 j1) &&& (nI 31)) = nI 2
    · have H := H.1 c
      refine Wp.tsw rfl (t := 258) (by rw [c]; rfl) ?_
      exact H
    replace H := H.2 c
    have c2 := c
    clear c
    by_cases c : ((I r0 j1) &&& (nI 31)) = nI 3
    · have H := H.1 c
      refine Wp.tsw rfl (t := 295) (by rw [c]; rfl) ?_
      exact H
    replace H := H.2 c
    have c3 := c
    clear c
    by_cases c : ((I r0 j1) &&& (nI 31)) = nI 4
    · have H := H.1 c
      refine Wp.tsw rfl (t := 320) (by rw [c]; rfl) ?_
      exact H
    replace H := H.2 c
    have c4 := c
    clear c
    by_cases c : ((I r0 j1) &&& (nI 31)) = nI 5
    · have H := H.1 c
      refine Wp.tsw rfl (t := 345) (by rw [c]; rfl) ?_
      exact H
    replace H := H.2 c
    have c5 := c
    clear c
    by_cases c : ((I r0 j1) &&& (nI 31)) = nI 6
    · have H := H.1 c
      refine Wp.tsw rfl (t := 382) (by rw [c]; rfl) ?_
      exact H
    replace H := H.2 c
    have c6 := c
    clear c
    by_cases c : ((I r0 j1) &&& (nI 31)) = nI 7
    · have H := H.1 c
      refine Wp.tsw rfl (t := 396) (by rw [c]; rfl) ?_
      exact H
    replace H := H.2 c
    have c7 := c
    clear c
    by_cases c : ((I r0 j1) &&& (nI 31)) = nI 8
    · have H := H.1 c
      refine Wp.tsw rfl (t := 410) (by rw [c]; rfl) ?_
      exact H
    replace H := H.2 c
    have c8 := c
    clear c
    by_cases c : ((I r0 j1) &&& (nI 31)) = nI 9
    · have H := H.1 c
      refine Wp.tsw rfl (t := 423) (by rw [c]; rfl) ?_
      exact H
    replace H := H.2 c
    have c9 := c
    clear c
    by_cases c : ((I r0 j1) &&& (nI 31)) = nI 10
    · have H := H.1 c
      refine Wp.tsw rfl (t := 448) (by rw [c]; rfl) ?_
      exact H
    replace H := H.2 c
    have c10 := c
    clear c
    by_cases c : ((I r0 j1) &&& (nI 31)) = nI 11
    · have H := H.1 c
      refine Wp.tsw rfl (t := 474) (by rw [c]; rfl) ?_
      exact H
    replace H := H.2 c
    have c11 := c
    clear c
    by_cases c : ((I r0 j1) &&& (nI 31)) = nI 12
    · have H := H.1 c
      refine Wp.tsw rfl (t := 499) (by rw [c]; rfl) ?_
      exact H
    replace H := H.2 c
    have c12 := c
    clear c
    by_cases c : ((I r0 j1) &&& (nI 31)) = nI 13
    · have H := H.1 c
      refine Wp.tsw rfl (t := 536) (by rw [c]; rfl) ?_
      exact H
    replace H := H.2 c
    have c13 := c
    clear c
    by_cases c : ((I r0 j1) &&& (nI 31)) = nI 14
    · have H := H.1 c
      refine Wp.tsw rfl (t := 561) (by rw [c]; rfl) ?_
      exact H
    replace H := H.2 c
    have c14 := c
    clear c
    by_cases c : ((I r0 j1) &&& (nI 31)) = nI 15
    · have H := H.1 c
      refine Wp.tsw rfl (t := 587) (by rw [c]; rfl) ?_
      exact H
    replace H := H.2 c
    have c15 := c
    clear c
    by_cases c : ((I r0 j1) &&& (nI 31)) = nI 16
    · have H := H.1 c
      refine Wp.tsw rfl (t := 612) (by rw [c]; rfl) ?_
      exact H
    replace H := H.2 c
    have c16 := c
    clear c
    by_cases c : ((I r0 j1) &&& (nI 31)) = nI 17
    · have H := H.1 c
      refine Wp.tsw rfl (t := 637) (by rw [c]; rfl) ?_
      exact H
    replace H := H.2 c
    have c17 := c
    clear c
    by_cases c : ((I r0 j1) &&& (nI 31)) = nI 18
    · have H := H.1 c
      refine Wp.tsw rfl (t := 648) (by rw [c]; rfl) ?_
      exact H
    replace H := H.2 c
    have c18 := c
    clear c
    refine Wp.tsw rfl (t := 704) (tsw_d (by decide) (tsw_out (m := 18) (by decide) (fun k hk => by rcases (by omega : k = 0 ∨ k = 1 ∨ k = 2 ∨ k = 3 ∨ k = 4 ∨ k = 5 ∨ k = 6 ∨ k = 7 ∨ k = 8 ∨ k = 9 ∨ k = 10 ∨ k = 11 ∨ k = 12 ∨ k = 13 ∨ k = 14 ∨ k = 15 ∨ k = 16 ∨ k = 17 ∨ k = 18) with rfl | rfl | rfl | rfl | rfl | rfl | rfl | rfl | rfl | rfl | rfl | rfl | rfl | rfl | rfl | rfl | rfl | rfl | rfl <;> assumption)) rfl) ?_
    refine Wp.ii (v := nI 4) rfl rfl (by decide) rfl (L' := [some (.ref r0), some (.ref r1), some (.ref r2), some (.ref r3), some (.int (x4 + nI 4)), none, none]) rfl ?_
    refine Wp.go (x := (.goto (-674), 3, 33, 0)) rfl 33 [some (.ref r0), some (.ref r1), some (.ref r2), some (.ref r3), some (.int (x4 + nI 4)), none, none] [] rfl ⟨rfl, rfl, rfl, rfl⟩ ?_
    exact H
set_option maxRecDepth 20000 in
theorem wL_law_140 {d : Nat} {Q : Option Value × xS → Prop} {K : Nat → Nat × Nat} {P : List Nat × Nat × Nat} {I : Nat → Nat → Int32} {J : Nat → Nat → Int64} {F : Nat → Nat → Option Nat} {r0 : Nat} {r1 : Nat} {r2 : Nat} {r3 : Nat} {x4 : Int32} {n_r0 : Nat} {n_r1 : Nat} {n_r2 : Nat} (hK : ∀ {a k n : Nat}, K a = (k, n) → n < 2147483648) (hn_r0 : K r0 = (103, n_r0)) (hn_r1 : K r1 = (9, n_r1)) (hn_r2 : K r2 = (10, n_r2)) (H : (∃ j1 : Nat, (x4 + (nI 1)) = nI j1 ∧ j1 < n_r0 ∧ (∃ j2 : Nat, (x4 + (nI 2)) = nI j2 ∧ j2 < n_r0 ∧ (∃ j3 : Nat, (x4 + (nI 3)) = nI j3 ∧ j3 < n_r0 ∧ Wp (d + 6) 74 0 [some (.ref r1), some (.int (I r0 j1)), some (.long ((((I r0 j2).toInt64) <<< ((nI 32).toInt64 &&& 63)) ||| (((I r0 j3).toInt64) &&& (lN 4294967295)))), none, none] [] (K, P, I, J, F) (xrI K P F (fun v4 I5 J6 => (∃ j7 : Nat, (x4 + (nI 1)) = nI j7 ∧ j7 < n_r0 ∧ (∃ j8 : Nat, (x4 + (nI 2)) = nI j8 ∧ j8 < n_r0 ∧ (∃ j9 : Nat, (x4 + (nI 3)) = nI j9 ∧ j9 < n_r0 ∧ Wp (d + 6) 103 0 [some (.ref r2), some (.int (I5 r0 j7)), some (.long ((((I5 r0 j8).toInt64) <<< ((nI 32).toInt64 &&& 63)) ||| (((I5 r0 j9).toInt64) &&& (lN 4294967295)))), none, none] [] (K, P, I5, J6, F) (xrI K P F (fun v10 I11 J12 => ((v4 = v10 → Wp (d + 7) 169 33 [some (.ref r0), some (.ref r1), some (.ref r2), some (.ref r3), some (.int (x4 + nI 4)), none, none] [] (K, P, I11, J12, F) Q) ∧ (¬ v4 = v10 → Q (some (.int (nI 0)), (K, P, I11, J12, F))))))))))))))) : Wp (d + 7) 169 140 [some (.ref r0), some (.ref r1), some (.ref r2), some (.ref r3), some (.int x4), none, none] [] (K, P, I, J, F) Q := by
  refine Wp.go (x := (.aload_n 1, 1, 0, 0)) rfl 141 [some (.ref r0), some (.ref r1), some (.ref r2), some (.ref r3), some (.int x4), none, none] [.ref r1] rfl ⟨rfl, rfl, rfl, rfl⟩ ?_
  refine Wp.go (x := (.aload_n 0, 1, 0, 0)) rfl 142 [some (.ref r0), some (.ref r1), some (.ref r2), some (.ref r3), some (.int x4), none, none] [.ref r0, .ref r1] rfl ⟨rfl, rfl, rfl, rfl⟩ ?_
  refine Wp.go (x := (.iload 4, 2, 0, 0)) rfl 144 [some (.ref r0), some (.ref r1), some (.ref r2), some (.ref r3), some (.int x4), none, none] [.int x4, .ref r0, .ref r1] rfl ⟨rfl, rfl, rfl, rfl⟩ ?_
  refine Wp.ic (v := nI 1) rfl rfl (by decide) ?_
  refine Wp.go (x := (.iadd, 1, 0, 0)) rfl 146 [some (.ref r0), some (.ref r1), some (.ref r2), some (.ref r3), some (.int x4), none, none] [.int (x4 + (nI 1)), .ref r0, .ref r1] rfl ⟨rfl, rfl, rfl, rfl⟩ ?_
  obtain ⟨j1, e, b, H⟩ := H
  refine Wp.ald rfl rfl hn_r0 (Or.inr rfl) (hK hn_r0) ⟨j1, e, b, ?_⟩
  refine Wp.go (x := (.aload_n 0, 1, 0, 0)) rfl 148 [some (.ref r0), some (.ref r1), some (.ref r2), some (.ref r3), some (.int x4), none, none] [.ref r0, .int (I r0 j1), .ref r1] rfl ⟨rfl, rfl, rfl, rfl⟩ ?_
  refine Wp.go (x := (.iload 4, 2, 0, 0)) rfl 150 [some (.ref r0), some (.ref r1), some (.ref r2), some (.ref r3), some (.int x4), none, none] [.int x4, .ref r0, .int (I r0 j1), .ref r1] rfl ⟨rfl, rfl, rfl, rfl⟩ ?_
  refine Wp.ic (v := nI 2) rfl rfl (by decide) ?_
  refine Wp.go (x := (.iadd, 1, 0, 0)) rfl 152 [some (.ref r0), some (.ref r1), some (.ref r2), some (.ref r3), some (.int x4), none, none] [.int (x4 + (nI 2)), .ref r0, .int (I r0 j1), .ref r1] rfl ⟨rfl, rfl, rfl, rfl⟩ ?_
  obtain ⟨j2, e, b, H⟩ := H
  refine Wp.ald rfl rfl hn_r0 (Or.inr rfl) (hK hn_r0) ⟨j2, e, b, ?_⟩
  refine Wp.go (x := (.i2l, 1, 0, 0)) rfl 154 [some (.ref r0), some (.ref r1), some (.ref r2), some (.ref r3), some (.int x4), none, none] [.long ((I r0 j2).toInt64), .int (I r0 j1), .ref r1] rfl ⟨rfl, rfl, rfl, rfl⟩ ?_
  refine Wp.bp (v := nI 32) rfl rfl (by decide) ?_
  refine Wp.go (x := (.lshl, 1, 0, 0)) rfl 157 [some (.ref r0), some (.ref r1), some (.ref r2), some (.ref r3), some (.int x4), none, none] [.long (((I r0 j2).toInt64) <<< ((nI 32).toInt64 &&& 63)), .int (I r0 j1), .ref r1] rfl ⟨rfl, rfl, rfl, rfl⟩ ?_
  refine Wp.go (x := (.aload_n 0, 1, 0, 0)) rfl 158 [some (.ref r0), some (.ref r1), some (.ref r2), some (.ref r3), some (.int x4), none, none] [.ref r0, .long (((I r0 j2).toInt64) <<< ((nI 32).toInt64 &&& 63)), .int (I r0 j1), .ref r1] rfl ⟨rfl, rfl, rfl, rfl⟩ ?_
  refine Wp.go (x := (.iload 4, 2, 0, 0)) rfl 160 [some (.ref r0), some (.ref r1), some (.ref r2), some (.ref r3), some (.int x4), none, none] [.int x4, .ref r0, .long (((I r0 j2).toInt64) <<< ((nI 32).toInt64 &&& 63)), .int (I r0 j1), .ref r1] rfl ⟨rfl, rfl, rfl, rfl⟩ ?_
  refine Wp.ic (v := nI 3) rfl rfl (by decide) ?_
  refine Wp.go (x := (.iadd, 1, 0, 0)) rfl 162 [some (.ref r0), some (.ref r1), some (.ref r2), some (.ref r3), some (.int x4), none, none] [.int (x4 + (nI 3)), .ref r0, .long (((I r0 j2).toInt64) <<< ((nI 32).toInt64 &&& 63)), .int (I r0 j1), .ref r1] rfl ⟨rfl, rfl, rfl, rfl⟩ ?_
  obtain ⟨j3, e, b, H⟩ := H
  refine Wp.ald rfl rfl hn_r0 (Or.inr rfl) (hK hn_r0) ⟨j3, e, b, ?_⟩
  refine Wp.go (x := (.i2l, 1, 0, 0)) rfl 164 [some (.ref r0), some (.ref r1), some (.ref r2), some (.ref r3), some (.int x4), none, none] [.long ((I r0 j3).toInt64), .long (((I r0 j2).toInt64) <<< ((nI 32).toInt64 &&& 63)), .int (I r0 j1), .ref r1] rfl ⟨rfl, rfl, rfl, rfl⟩ ?_
  refine Wp.ldcj (v := lN 4294967295) rfl rfl (by first | rfl | decide) ?_
  refine Wp.go (x := (.land, 1, 0, 0)) rfl 168 [some (.ref r0), some (.ref r1), some (.ref r2), some (.ref r3), some (.int x4), none, none] [.long (((I r0 j3).toInt64) &&& (lN 4294967295)), .long (((I r0 j2).toInt64) <<< ((nI 32).toInt64 &&& 63)), .int (I r0 j1), .ref r1] rfl ⟨rfl, rfl, rfl, rfl⟩ ?_
  refine Wp.go (x := (.lor, 1, 0, 0)) rfl 169 [some (.ref r0), some (.ref r1), some (.ref r2), some (.ref r3), some (.int x4), none, none] [.long ((((I r0 j2).toInt64) <<< ((nI 32).toInt64 &&& 63)) ||| (((I r0 j3).toInt64) &&& (lN 4294967295))), .int (I r0 j1), .ref r1] rfl ⟨rfl, rfl, rfl, rfl⟩ ?_
  refine Wp.kI (x := (.invokevirtual 29, 3, 74, 3)) (j := 74) (vs := [.ref r1, .int (I r0 j1), .long ((((I r0 j2).toInt64) <<< ((nI 32).toInt64 &&& 63)) ||| (((I r0 j3).toInt64) &&& (lN 4294967295)))]) (rest := []) rfl (by show xtg 74 (K r1).1 = _; rw [hn_r1]; rfl) rfl ⟨Nat.le_of_ble_eq_true rfl, Nat.le_of_ble_eq_true rfl, Nat.le_of_ble_eq_true rfl⟩ rfl rfl rfl H (fun v4 I5 J6 H => ?_)
  refine Wp.go (x := (.aload_n 2, 1, 0, 0)) rfl 173 [some (.ref r0), some (.ref r1), some (.ref r2), some (.ref r3), some (.int x4), none, none] [.ref r2, .int v4] rfl ⟨rfl, rfl, rfl, rfl⟩ ?_
  refine Wp.go (x := (.aload_n 0, 1, 0, 0)) rfl 174 [some (.ref r0), some (.ref r1), some (.ref r2), some (.ref r3), some (.int x4), none, none] [.ref r0, .ref r2, .int v4] rfl ⟨rfl, rfl, rfl, rfl⟩ ?_
  refine Wp.go (x := (.iload 4, 2, 0, 0)) rfl 176 [some (.ref r0), some (.ref r1), some (.ref r2), some (.ref r3), some (.int x4), none, none] [.int x4, .ref r0, .ref r2, .int v4] rfl ⟨rfl, rfl, rfl, rfl⟩ ?_
  refine Wp.ic (v := nI 1) rfl rfl (by decide) ?_
  refine Wp.go (x := (.iadd, 1, 0, 0)) rfl 178 [some (.ref r0), some (.ref r1), some (.ref r2), some (.ref r3), some (.int x4), none, none] [.int (x4 + (nI 1)), .ref r0, .ref r2, .int v4] rfl ⟨rfl, rfl, rfl, rfl⟩ ?_
  obtain ⟨j7, e, b, H⟩ := H
  refine Wp.ald rfl rfl hn_r0 (Or.inr rfl) (hK hn_r0) ⟨j7, e, b, ?_⟩
  refine Wp.go (x := (.aload_n 0, 1, 0, 0)) rfl 180 [some (.ref r0), some (.ref r1), some (.ref r2), some (.ref r3), some (.int x4), none, none] [.ref r0, .int (I5 r0 j7), .ref r2, .int v4] rfl ⟨rfl, rfl, rfl, rfl⟩ ?_
  refine Wp.go (x := (.iload 4, 2, 0, 0)) rfl 182 [some (.ref r0), some (.ref r1), some (.ref r2), some (.ref r3), some (.int x4), none, none] [.int x4, .ref r0, .int (I5 r0 j7), .ref r2, .int v4] rfl ⟨rfl, rfl, rfl, rfl⟩ ?_
  refine Wp.ic (v := nI 2) rfl rfl (by decide) ?_
  refine Wp.go (x := (.iadd, 1, 0, 0)) rfl 184 [some (.ref r0), some (.ref r1), some (.ref r2), some (.ref r3), some (.int x4), none, none] [.int (x4 + (nI 2)), .ref r0, .int (I5 r0 j7), .ref r2, .int v4] rfl ⟨rfl, rfl, rfl, rfl⟩ ?_
  obtain ⟨j8, e, b, H⟩ := H
  refine Wp.ald rfl rfl hn_r0 (Or.inr rfl) (hK hn_r0) ⟨j8, e, b, ?_⟩
  refine Wp.go (x := (.i2l, 1, 0, 0)) rfl 186 [some (.ref r0), some (.ref r1), some (.ref r2), some (.ref r3), some (.int x4), none, none] [.long ((I5 r0 j8).toInt64), .int (I5 r0 j7), .ref r2, .int v4] rfl ⟨rfl, rfl, rfl, rfl⟩ ?_
  refine Wp.bp (v := nI 32) rfl rfl (by decide) ?_
  refine Wp.go (x := (.lshl, 1, 0, 0)) rfl 189 [some (.ref r0), some (.ref r1), some (.ref r2), some (.ref r3), some (.int x4), none, none] [.long (((I5 r0 j8).toInt64) <<< ((nI 32).toInt64 &&& 63)), .int (I5 r0 j7), .ref r2, .int v4] rfl ⟨rfl, rfl, rfl, rfl⟩ ?_
  refine Wp.go (x := (.aload_n 0, 1, 0, 0)) rfl 190 [some (.ref r0), some (.ref r1), some (.ref r2), some (.ref r3), some (.int x4), none, none] [.ref r0, .long (((I5 r0 j8).toInt64) <<< ((nI 32).toInt64 &&& 63)), .int (I5 r0 j7), .ref r2, .int v4] rfl ⟨rfl, rfl, rfl, rfl⟩ ?_
  refine Wp.go (x := (.iload 4, 2, 0, 0)) rfl 192 [some (.ref r0), some (.ref r1), some (.ref r2), some (.ref r3), some (.int x4), none, none] [.int x4, .ref r0, .long (((I5 r0 j8).toInt64) <<< ((nI 32).toInt64 &&& 63)), .int (I5 r0 j7), .ref r2, .int v4] rfl ⟨rfl, rfl, rfl, rfl⟩ ?_
  refine Wp.ic (v := nI 3) rfl rfl (by decide) ?_
  refine Wp.go (x := (.iadd, 1, 0, 0)) rfl 194 [some (.ref r0), some (.ref r1), some (.ref r2), some (.ref r3), some (.int x4), none, none] [.int (x4 + (nI 3)), .ref r0, .long (((I5 r0 j8).toInt64) <<< ((nI 32).toInt64 &&& 63)), .int (I5 r0 j7), .ref r2, .int v4] rfl ⟨rfl, rfl, rfl, rfl⟩ ?_
  obtain ⟨j9, e, b, H⟩ := H
  refine Wp.ald rfl rfl hn_r0 (Or.inr rfl) (hK hn_r0) ⟨j9, e, b, ?_⟩
  refine Wp.go (x := (.i2l, 1, 0, 0)) rfl 196 [some (.ref r0), some (.ref r1), some (.ref r2), some (.ref r3), some (.int x4), none, none] [.long ((I5 r0 j9).toInt64), .long (((I5 r0 j8).toInt64) <<< ((nI 32).toInt64 &&& 63)), .int (I5 r0 j7), .ref r2, .int v4] rfl ⟨rfl, rfl, rfl, rfl⟩ ?_
  refine Wp.ldcj (v := lN 4294967295) rfl rfl (by first | rfl | decide) ?_
  refine Wp.go (x := (.land, 1, 0, 0)) rfl 200 [some (.ref r0), some (.ref r1), some (.ref r2), some (.ref r3), some (.int x4), none, none] [.long (((I5 r0 j9).toInt64) &&& (lN 4294967295)), .long (((I5 r0 j8).toInt64) <<< ((nI 32).toInt64 &&& 63)), .int (I5 r0 j7), .ref r2, .int v4] rfl ⟨rfl, rfl, rfl, rfl⟩ ?_
  refine Wp.go (x := (.lor, 1, 0, 0)) rfl 201 [some (.ref r0), some (.ref r1), some (.ref r2), some (.ref r3), some (.int x4), none, none] [.long ((((I5 r0 j8).toInt64) <<< ((nI 32).toInt64 &&& 63)) ||| (((I5 r0 j9).toInt64) &&& (lN 4294967295))), .int (I5 r0 j7), .ref r2, .int v4] rfl ⟨rfl, rfl, rfl, rfl⟩ ?_
  refine Wp.kI (x := (.invokevirtual 33, 3, 103, 3)) (j := 103) (vs := [.ref r2, .int (I5 r0 j7), .long ((((I5 r0 j8).toInt64) <<< ((nI 32).toInt64 &&& 63)) ||| (((I5 r0 j9).toInt64) &&& (lN 4294967295)))]) (rest := [.int v4]) rfl (by show xtg 103 (K r2).1 = _; rw [hn_r2]; rfl) rfl ⟨Nat.le_of_ble_eq_true rfl, Nat.le_of_ble_eq_true rfl, Nat.le_of_ble_eq_true rfl⟩ rfl rfl rfl H (fun v10 I11 J12 H => ?_)
  refine Wp.c_eq rfl rfl ⟨fun c => ?_, fun c => ?_⟩
  · have H := H.1 c
    refine Wp.ii (v := nI 4) rfl rfl (by decide) rfl (L' := [some (.ref r0), some (.ref r1), some (.ref r2), some (.ref r3), some (.int (x4 + nI 4)), none, none]) rfl ?_
    refine Wp.go (x := (.goto (-674), 3, 33, 0)) rfl 33 [some (.ref r0), some (.ref r1), some (.ref r2), some (.ref r3), some (.int (x4 + nI 4)), none, none] [] rfl ⟨rfl, rfl, rfl, rfl⟩ ?_
    exact H
  · have H := H.2 c
    refine Wp.ic (v := nI 0) rfl rfl (by decide) ?_
    exact Wp.rZ rfl rfl (Or.inl rfl) H
set_option maxRecDepth 20000 in
theorem wL_law_209 {d : Nat} {Q : Option Value × xS → Prop} {K : Nat → Nat × Nat} {P : List Nat × Nat × Nat} {I : Nat → Nat → Int32} {J : Nat → Nat → Int64} {F : Nat → Nat → Option Nat} {r0 : Nat} {r1 : Nat} {r2 : Nat} {r3 : Nat} {x4 : Int32} {n_r0 : Nat} {n_r1 : Nat} {n_r2 : Nat} (hK : ∀ {a k n : Nat}, K a = (k, n) → n < 2147483648) (hn_r0 : K r0 = (103, n_r0)) (hn_r1 : K r1 = (9, n_r1)) (hn_r2 : K r2 = (10, n_r2)) (H : (∃ j1 : Nat, (x4 + (nI 1)) = nI j1 ∧ j1 < n_r0 ∧ (∃ j2 : Nat, (x4 + (nI 2)) = nI j2 ∧ j2 < n_r0 ∧ (∃ j3 : Nat, (x4 + (nI 3)) = nI j3 ∧ j3 < n_r0 ∧ Wp (d + 6) 75 0 [some (.ref r1), some (.int (I r0 j1)), some (.int (I r0 j2)), some (.int (I r0 j3)), none] [] (K, P, I, J, F) (xrI K P F (fun v4 I5 J6 => (∃ j7 : Nat, (x4 + (nI 1)) = nI j7 ∧ j7 < n_r0 ∧ (∃ j8 : Nat, (x4 + (nI 2)) = nI j8 ∧ j8 < n_r0 ∧ (∃ j9 : Nat, (x4 + (nI 3)) = nI j9 ∧ j9 < n_r0 ∧ Wp (d + 6) 104 0 [some (.ref r2), some (.int (I5 r0 j7)), some (.int (I5 r0 j8)), some (.int (I5 r0 j9)), none] [] (K, P, I5, J6, F) (xrI K P F (fun v10 I11 J12 => ((v4 = v10 → Wp (d + 7) 169 33 [some (.ref r0), some (.ref r1), some (.ref r2), some (.ref r3), some (.int (x4 + nI 4)), none, none] [] (K, P, I11, J12, F) Q) ∧ (¬ v4 = v10 → Q (some (.int (nI 0)), (K, P, I11, J12, F))))))))))))))) : Wp (d + 7) 169 209 [some (.ref r0), some (.ref r1), some (.ref r2), some (.ref r3), some (.int x4), none, none] [] (K, P, I, J, F) Q := by
  refine Wp.go (x := (.aload_n 1, 1, 0, 0)) rfl 210 [some (.ref r0), some (.ref r1), some (.ref r2), some (.ref r3), some (.int x4), none, none] [.ref r1] rfl ⟨rfl, rfl, rfl, rfl⟩ ?_
  refine Wp.go (x := (.aload_n 0, 1, 0, 0)) rfl 211 [some (.ref r0), some (.ref r1), some (.ref r2), some (.ref r3), some (.int x4), none, none] [.ref r0, .ref r1] rfl ⟨rfl, rfl, rfl, rfl⟩ ?_
  refine Wp.go (x := (.iload 4, 2, 0, 0)) rfl 213 [some (.ref r0), some (.ref r1), some (.ref r2), some (.ref r3), some (.int x4), none, none] [.int x4, .ref r0, .ref r1] rfl ⟨rfl, rfl, rfl, rfl⟩ ?_
  refine Wp.ic (v := nI 1) rfl rfl (by decide) ?_
  refine Wp.go (x := (.iadd, 1, 0, 0)) rfl 215 [some (.ref r0), some (.ref r1), some (.ref r2), some (.ref r3), some (.int x4), none, none] [.int (x4 + (nI 1)), .ref r0, .ref r1] rfl ⟨rfl, rfl, rfl, rfl⟩ ?_
  obtain ⟨j1, e, b, H⟩ := H
  refine Wp.ald rfl rfl hn_r0 (Or.inr rfl) (hK hn_r0) ⟨j1, e, b, ?_⟩
  refine Wp.go (x := (.aload_n 0, 1, 0, 0)) rfl 217 [some (.ref r0), some (.ref r1), some (.ref r2), some (.ref r3), some (.int x4), none, none] [.ref r0, .int (I r0 j1), .ref r1] rfl ⟨rfl, rfl, rfl, rfl⟩ ?_
  refine Wp.go (x := (.iload 4, 2, 0, 0)) rfl 219 [some (.ref r0), some (.ref r1), some (.ref r2), some (.ref r3), some (.int x4), none, none] [.int x4, .ref r0, .int (I r0 j1), .ref r1] rfl ⟨rfl, rfl, rfl, rfl⟩ ?_
  refine Wp.ic (v := nI 2) rfl rfl (by decide) ?_
  refine Wp.go (x := (.iadd, 1, 0, 0)) rfl 221 [some (.ref r0), some (.ref r1), some (.ref r2), some (.ref r3), some (.int x4), none, none] [.int (x4 + (nI 2)), .ref r0, .int (I r0 j1), .ref r1] rfl ⟨rfl, rfl, rfl, rfl⟩ ?_
  obtain ⟨j2, e, b, H⟩ := H
  refine Wp.ald rfl rfl hn_r0 (Or.inr rfl) (hK hn_r0) ⟨j2, e, b, ?_⟩
  refine Wp.go (x := (.aload_n 0, 1, 0, 0)) rfl 223 [some (.ref r0), some (.ref r1), some (.ref r2), some (.ref r3), some (.int x4), none, none] [.ref r0, .int (I r0 j2), .int (I r0 j1), .ref r1] rfl ⟨rfl, rfl, rfl, rfl⟩ ?_
  refine Wp.go (x := (.iload 4, 2, 0, 0)) rfl 225 [some (.ref r0), some (.ref r1), some (.ref r2), some (.ref r3), some (.int x4), none, none] [.int x4, .ref r0, .int (I r0 j2), .int (I r0 j1), .ref r1] rfl ⟨rfl, rfl, rfl, rfl⟩ ?_
  refine Wp.ic (v := nI 3) rfl rfl (by decide) ?_
  refine Wp.go (x := (.iadd, 1, 0, 0)) rfl 227 [some (.ref r0), some (.ref r1), some (.ref r2), some (.ref r3), some (.int x4), none, none] [.int (x4 + (nI 3)), .ref r0, .int (I r0 j2), .int (I r0 j1), .ref r1] rfl ⟨rfl, rfl, rfl, rfl⟩ ?_
  obtain ⟨j3, e, b, H⟩ := H
  refine Wp.ald rfl rfl hn_r0 (Or.inr rfl) (hK hn_r0) ⟨j3, e, b, ?_⟩
  refine Wp.kI (x := (.invokevirtual 34, 3, 75, 4)) (j := 75) (vs := [.ref r1, .int (I r0 j1), .int (I r0 j2), .int (I r0 j3)]) (rest := []) rfl (by show xtg 75 (K r1).1 = _; rw [hn_r1]; rfl) rfl ⟨Nat.le_of_ble_eq_true rfl, Nat.le_of_ble_eq_true rfl, Nat.le_of_ble_eq_true rfl⟩ rfl rfl rfl H (fun v4 I5 J6 H => ?_)
  refine Wp.go (x := (.aload_n 2, 1, 0, 0)) rfl 232 [some (.ref r0), some (.ref r1), some (.ref r2), some (.ref r3), some (.int x4), none, none] [.ref r2, .int v4] rfl ⟨rfl, rfl, rfl, rfl⟩ ?_
  refine Wp.go (x := (.aload_n 0, 1, 0, 0)) rfl 233 [some (.ref r0), some (.ref r1), some (.ref r2), some (.ref r3), some (.int x4), none, none] [.ref r0, .ref r2, .int v4] rfl ⟨rfl, rfl, rfl, rfl⟩ ?_
  refine Wp.go (x := (.iload 4, 2, 0, 0)) rfl 235 [some (.ref r0), some (.ref r1), some (.ref r2), some (.ref r3), some (.int x4), none, none] [.int x4, .ref r0, .ref r2, .int v4] rfl ⟨rfl, rfl, rfl, rfl⟩ ?_
  refine Wp.ic (v := nI 1) rfl rfl (by decide) ?_
  refine Wp.go (x := (.iadd, 1, 0, 0)) rfl 237 [some (.ref r0), some (.ref r1), some (.ref r2), some (.ref r3), some (.int x4), none, none] [.int (x4 + (nI 1)), .ref r0, .ref r2, .int v4] rfl ⟨rfl, rfl, rfl, rfl⟩ ?_
  obtain ⟨j7, e, b, H⟩ := H
  refine Wp.ald rfl rfl hn_r0 (Or.inr rfl) (hK hn_r0) ⟨j7, e, b, ?_⟩
  refine Wp.go (x := (.aload_n 0, 1, 0, 0)) rfl 239 [some (.ref r0), some (.ref r1), some (.ref r2), some (.ref r3), some (.int x4), none, none] [.ref r0, .int (I5 r0 j7), .ref r2, .int v4] rfl ⟨rfl, rfl, rfl, rfl⟩ ?_
  refine Wp.go (x := (.iload 4, 2, 0, 0)) rfl 241 [some (.ref r0), some (.ref r1), some (.ref r2), some (.ref r3), some (.int x4), none, none] [.int x4, .ref r0, .int (I5 r0 j7), .ref r2, .int v4] rfl ⟨rfl, rfl, rfl, rfl⟩ ?_
  refine Wp.ic (v := nI 2) rfl rfl (by decide) ?_
  refine Wp.go (x := (.iadd, 1, 0, 0)) rfl 243 [some (.ref r0), some (.ref r1), some (.ref r2), some (.ref r3), some (.int x4), none, none] [.int (x4 + (nI 2)), .ref r0, .int (I5 r0 j7), .ref r2, .int v4] rfl ⟨rfl, rfl, rfl, rfl⟩ ?_
  obtain ⟨j8, e, b, H⟩ := H
  refine Wp.ald rfl rfl hn_r0 (Or.inr rfl) (hK hn_r0) ⟨j8, e, b, ?_⟩
  refine Wp.go (x := (.aload_n 0, 1, 0, 0)) rfl 245 [some (.ref r0), some (.ref r1), some (.ref r2), some (.ref r3), some (.int x4), none, none] [.ref r0, .int (I5 r0 j8), .int (I5 r0 j7), .ref r2, .int v4] rfl ⟨rfl, rfl, rfl, rfl⟩ ?_
  refine Wp.go (x := (.iload 4, 2, 0, 0)) rfl 247 [some (.ref r0), some (.ref r1), some (.ref r2), some (.ref r3), some (.int x4), none, none] [.int x4, .ref r0, .int (I5 r0 j8), .int (I5 r0 j7), .ref r2, .int v4] rfl ⟨rfl, rfl, rfl, rfl⟩ ?_
  refine Wp.ic (v := nI 3) rfl rfl (by decide) ?_
  refine Wp.go (x := (.iadd, 1, 0, 0)) rfl 249 [some (.ref r0), some (.ref r1), some (.ref r2), some (.ref r3), some (.int x4), none, none] [.int (x4 + (nI 3)), .ref r0, .int (I5 r0 j8), .int (I5 r0 j7), .ref r2, .int v4] rfl ⟨rfl, rfl, rfl, rfl⟩ ?_
  obtain ⟨j9, e, b, H⟩ := H
  refine Wp.ald rfl rfl hn_r0 (Or.inr rfl) (hK hn_r0) ⟨j9, e, b, ?_⟩
  refine Wp.kI (x := (.invokevirtual 38, 3, 104, 4)) (j := 104) (vs := [.ref r2, .int (I5 r0 j7), .int (I5 r0 j8), .int (I5 r0 j9)]) (rest := [.int v4]) rfl (by show xtg 104 (K r2).1 = _; rw [hn_r2]; rfl) rfl ⟨Nat.le_of_ble_eq_true rfl, Nat.le_of_ble_eq_true rfl, Nat.le_of_ble_eq_true rfl⟩ rfl rfl rfl H (fun v10 I11 J12 H => ?_)
  refine Wp.c_eq rfl rfl ⟨fun c => ?_, fun c => ?_⟩
  · have H := H.1 c
    refine Wp.ii (v := nI 4) rfl rfl (by decide) rfl (L' := [some (.ref r0), some (.ref r1), some (.ref r2), some (.ref r3), some (.int (x4 + nI 4)), none, none]) rfl ?_
    refine Wp.go (x := (.goto (-674), 3, 33, 0)) rfl 33 [some (.ref r0), some (.ref r1), some (.ref r2), some (.ref r3), some (.int (x4 + nI 4)), none, none] [] rfl ⟨rfl, rfl, rfl, rfl⟩ ?_
    exact H
  · have H := H.2 c
    refine Wp.ic (v := nI 0) rfl rfl (by decide) ?_
    exact Wp.rZ rfl rfl (Or.inl rfl) H
set_option maxRecDepth 20000 in
theorem wL_law_258 {d : Nat} {Q : Option Value × xS → Prop} {K : Nat → Nat × Nat} {P : List Nat × Nat × Nat} {I : Nat → Nat → Int32} {J : Nat → Nat → Int64} {F : Nat → Nat → Option Nat} {r0 : Nat} {r1 : Nat} {r2 : Nat} {r3 : Nat} {x4 : Int32} {n_r0 : Nat} {n_r1 : Nat} {n_r2 : Nat} (hK : ∀ {a k n : Nat}, K a = (k, n) → n < 2147483648) (hn_r0 : K r0 = (103, n_r0)) (hn_r1 : K r1 = (9, n_r1)) (hn_r2 : K r2 = (10, n_r2)) (H : (∃ j1 : Nat, (x4 + (nI 1)) = nI j1 ∧ j1 < n_r0 ∧ (∃ j2 : Nat, (x4 + (nI 2)) = nI j2 ∧ j2 < n_r0 ∧ Wp (d + 6) 76 0 [some (.ref r1), some (.int (I r0 j1)), some (.int (I r0 j2))] [] (K, P, I, J, F) (xrI K P F (fun v3 I4 J5 => (∃ j6 : Nat, (x4 + (nI 1)) = nI j6 ∧ j6 < n_r0 ∧ (∃ j7 : Nat, (x4 + (nI 2)) = nI j7 ∧ j7 < n_r0 ∧ Wp (d + 6) 105 0 [some (.ref r2), some (.int (I4 r0 j6)), some (.int (I4 r0 j7))] [] (K, P, I4, J5, F) (xrI K P F (fun v8 I9 J10 => ((v3 = v8 → Wp (d + 7) 169 33 [some (.ref r0), some (.ref r1), some (.ref r2), some (.ref r3), some (.int (x4 + nI 4)), none, none] [] (K, P, I9, J10, F) Q) ∧ (¬ v3 = v8 → Q (some (.int (nI 0)), (K, P, I9, J10, F))))))))))))) : Wp (d + 7) 169 258 [some (.ref r0), some (.ref r1), some (.ref r2), some (.ref r3), some (.int x4), none, none] [] (K, P, I, J, F) Q := by
  refine Wp.go (x := (.aload_n 1, 1, 0, 0)) rfl 259 [some (.ref r0), some (.ref r1), some (.ref r2), some (.ref r3), some (.int x4), none, none] [.ref r1] rfl ⟨rfl, rfl, rfl, rfl⟩ ?_
  refine Wp.go (x := (.aload_n 0, 1, 0, 0)) rfl 260 [some (.ref r0), some (.ref r1), some (.ref r2), some (.ref r3), some (.int x4), none, none] [.ref r0, .ref r1] rfl ⟨rfl, rfl, rfl, rfl⟩ ?_
  refine Wp.go (x := (.iload 4, 2, 0, 0)) rfl 262 [some (.ref r0), some (.ref r1), some (.ref r2), some (.ref r3), some (.int x4), none, none] [.int x4, .ref r0, .ref r1] rfl ⟨rfl, rfl, rfl, rfl⟩ ?_
  refine Wp.ic (v := nI 1) rfl rfl (by decide) ?_
  refine Wp.go (x := (.iadd, 1, 0, 0)) rfl 264 [some (.ref r0), some (.ref r1), some (.ref r2), some (.ref r3), some (.int x4), none, none] [.int (x4 + (nI 1)), .ref r0, .ref r1] rfl ⟨rfl, rfl, rfl, rfl⟩ ?_
  obtain ⟨j1, e, b, H⟩ := H
  refine Wp.ald rfl rfl hn_r0 (Or.inr rfl) (hK hn_r0) ⟨j1, e, b, ?_⟩
  refine Wp.go (x := (.aload_n 0, 1, 0, 0)) rfl 266 [some (.ref r0), some (.ref r1), some (.ref r2), some (.ref r3), some (.int x4), none, none] [.ref r0, .int (I r0 j1), .ref r1] rfl ⟨rfl, rfl, rfl, rfl⟩ ?_
  refine Wp.go (x := (.iload 4, 2, 0, 0)) rfl 268 [some (.ref r0), some (.ref r1), some (.ref r2), some (.ref r3), some (.int x4), none, none] [.int x4, .ref r0, .int (I r0 j1), .ref r1] rfl ⟨rfl, rfl, rfl, rfl⟩ ?_
  refine Wp.ic (v := nI 2) rfl rfl (by decide) ?_
  refine Wp.go (x := (.iadd, 1, 0, 0)) rfl 270 [some (.ref r0), some (.ref r1), some (.ref r2), some (.ref r3), some (.int x4), none, none] [.int (x4 + (nI 2)), .ref r0, .int (I r0 j1), .ref r1] rfl ⟨rfl, rfl, rfl, rfl⟩ ?_
  obtain ⟨j2, e, b, H⟩ := H
  refine Wp.ald rfl rfl hn_r0 (Or.inr rfl) (hK hn_r0) ⟨j2, e, b, ?_⟩
  refine Wp.kI (x := (.invokevirtual 39, 3, 76, 3)) (j := 76) (vs := [.ref r1, .int (I r0 j1), .int (I r0 j2)]) (rest := []) rfl (by show xtg 76 (K r1).1 = _; rw [hn_r1]; rfl) rfl ⟨Nat.le_of_ble_eq_true rfl, Nat.le_of_ble_eq_true rfl, Nat.le_of_ble_eq_true rfl⟩ rfl rfl rfl H (fun v3 I4 J5 H => ?_)
  refine Wp.go (x := (.aload_n 2, 1, 0, 0)) rfl 275 [some (.ref r0), some (.ref r1), some (.ref r2), some (.ref r3), some (.int x4), none, none] [.ref r2, .int v3] rfl ⟨rfl, rfl, rfl, rfl⟩ ?_
  refine Wp.go (x := (.aload_n 0, 1, 0, 0)) rfl 276 [some (.ref r0), some (.ref r1), some (.ref r2), some (.ref r3), some (.int x4), none, none] [.ref r0, .ref r2, .int v3] rfl ⟨rfl, rfl, rfl, rfl⟩ ?_
  refine Wp.go (x := (.iload 4, 2, 0, 0)) rfl 278 [some (.ref r0), some (.ref r1), some (.ref r2), some (.ref r3), some (.int x4), none, none] [.int x4, .ref r0, .ref r2, .int v3] rfl ⟨rfl, rfl, rfl, rfl⟩ ?_
  refine Wp.ic (v := nI 1) rfl rfl (by decide) ?_
  refine Wp.go (x := (.iadd, 1, 0, 0)) rfl 280 [some (.ref r0), some (.ref r1), some (.ref r2), some (.ref r3), some (.int x4), none, none] [.int (x4 + (nI 1)), .ref r0, .ref r2, .int v3] rfl ⟨rfl, rfl, rfl, rfl⟩ ?_
  obtain ⟨j6, e, b, H⟩ := H
  refine Wp.ald rfl rfl hn_r0 (Or.inr rfl) (hK hn_r0) ⟨j6, e, b, ?_⟩
  refine Wp.go (x := (.aload_n 0, 1, 0, 0)) rfl 282 [some (.ref r0), some (.ref r1), some (.ref r2), some (.ref r3), some (.int x4), none, none] [.ref r0, .int (I4 r0 j6), .ref r2, .int v3] rfl ⟨rfl, rfl, rfl, rfl⟩ ?_
  refine Wp.go (x := (.iload 4, 2, 0, 0)) rfl 284 [some (.ref r0), some (.ref r1), some (.ref r2), some (.ref r3), some (.int x4), none, none] [.int x4, .ref r0, .int (I4 r0 j6), .ref r2, .int v3] rfl ⟨rfl, rfl, rfl, rfl⟩ ?_
  refine Wp.ic (v := nI 2) rfl rfl (by decide) ?_
  refine Wp.go (x := (.iadd, 1, 0, 0)) rfl 286 [some (.ref r0), some (.ref r1), some (.ref r2), some (.ref r3), some (.int x4), none, none] [.int (x4 + (nI 2)), .ref r0, .int (I4 r0 j6), .ref r2, .int v3] rfl ⟨rfl, rfl, rfl, rfl⟩ ?_
  obtain ⟨j7, e, b, H⟩ := H
  refine Wp.ald rfl rfl hn_r0 (Or.inr rfl) (hK hn_r0) ⟨j7, e, b, ?_⟩
  refine Wp.kI (x := (.invokevirtual 43, 3, 105, 3)) (j := 105) (vs := [.ref r2, .int (I4 r0 j6), .int (I4 r0 j7)]) (rest := [.int v3]) rfl (by show xtg 105 (K r2).1 = _; rw [hn_r2]; rfl) rfl ⟨Nat.le_of_ble_eq_true rfl, Nat.le_of_ble_eq_true rfl, Nat.le_of_ble_eq_true rfl⟩ rfl rfl rfl H (fun v8 I9 J10 H => ?_)
  refine Wp.c_eq rfl rfl ⟨fun c => ?_, fun c => ?_⟩
  · have H := H.1 c
    refine Wp.ii (v := nI 4) rfl rfl (by decide) rfl (L' := [some (.ref r0), some (.ref r1), some (.ref r2), some (.ref r3), some (.int (x4 + nI 4)), none, none]) rfl ?_
    refine Wp.go (x := (.goto (-674), 3, 33, 0)) rfl 33 [some (.ref r0), some (.ref r1), some (.ref r2), some (.ref r3), some (.int (x4 + nI 4)), none, none] [] rfl ⟨rfl, rfl, rfl, rfl⟩ ?_
    exact H
  · have H := H.2 c
    refine Wp.ic (v := nI 0) rfl rfl (by decide) ?_
    exact Wp.rZ rfl rfl (Or.inl rfl) H
set_option maxRecDepth 20000 in
theorem wL_law_295 {d : Nat} {Q : Option Value × xS → Prop} {K : Nat → Nat × Nat} {P : List Nat × Nat × Nat} {I : Nat → Nat → Int32} {J : Nat → Nat → Int64} {F : Nat → Nat → Option Nat} {r0 : Nat} {r1 : Nat} {r2 : Nat} {r3 : Nat} {x4 : Int32} {n_r0 : Nat} {n_r1 : Nat} {n_r2 : Nat} (hK : ∀ {a k n : Nat}, K a = (k, n) → n < 2147483648) (hn_r0 : K r0 = (103, n_r0)) (hn_r1 : K r1 = (9, n_r1)) (hn_r2 : K r2 = (10, n_r2)) (H : (∃ j1 : Nat, (x4 + (nI 1)) = nI j1 ∧ j1 < n_r0 ∧ Wp (d + 6) 77 0 [some (.ref r1), some (.int (I r0 j1)), none] [] (K, P, I, J, F) (xrI K P F (fun v2 I3 J4 => (∃ j5 : Nat, (x4 + (nI 1)) = nI j5 ∧ j5 < n_r0 ∧ Wp (d + 6) 106 0 [some (.ref r2), some (.int (I3 r0 j5)), none] [] (K, P, I3, J4, F) (xrI K P F (fun v6 I7 J8 => ((v2 = v6 → Wp (d + 7) 169 33 [some (.ref r0), some (.ref r1), some (.ref r2), some (.ref r3), some (.int (x4 + nI 4)), none, none] [] (K, P, I7, J8, F) Q) ∧ (¬ v2 = v6 → Q (some (.int (nI 0)), (K, P, I7, J8, F))))))))))) : Wp (d + 7) 169 295 [some (.ref r0), some (.ref r1), some (.ref r2), some (.ref r3), some (.int x4), none, none] [] (K, P, I, J, F) Q := by
  refine Wp.go (x := (.aload_n 1, 1, 0, 0)) rfl 296 [some (.ref r0), some (.ref r1), some (.ref r2), some (.ref r3), some (.int x4), none, none] [.ref r1] rfl ⟨rfl, rfl, rfl, rfl⟩ ?_
  refine Wp.go (x := (.aload_n 0, 1, 0, 0)) rfl 297 [some (.ref r0), some (.ref r1), some (.ref r2), some (.ref r3), some (.int x4), none, none] [.ref r0, .ref r1] rfl ⟨rfl, rfl, rfl, rfl⟩ ?_
  refine Wp.go (x := (.iload 4, 2, 0, 0)) rfl 299 [some (.ref r0), some (.ref r1), some (.ref r2), some (.ref r3), some (.int x4), none, none] [.int x4, .ref r0, .ref r1] rfl ⟨rfl, rfl, rfl, rfl⟩ ?_
  refine Wp.ic (v := nI 1) rfl rfl (by decide) ?_
  refine Wp.go (x := (.iadd, 1, 0, 0)) rfl 301 [some (.ref r0), some (.ref r1), some (.ref r2), some (.ref r3), some (.int x4), none, none] [.int (x4 + (nI 1)), .ref r0, .ref r1] rfl ⟨rfl, rfl, rfl, rfl⟩ ?_
  obtain ⟨j1, e, b, H⟩ := H
  refine Wp.ald rfl rfl hn_r0 (Or.inr rfl) (hK hn_r0) ⟨j1, e, b, ?_⟩
  refine Wp.kI (x := (.invokevirtual 44, 3, 77, 2)) (j := 77) (vs := [.ref r1, .int (I r0 j1)]) (rest := []) rfl (by show xtg 77 (K r1).1 = _; rw [hn_r1]; rfl) rfl ⟨Nat.le_of_ble_eq_true rfl, Nat.le_of_ble_eq_true rfl, Nat.le_of_ble_eq_true rfl⟩ rfl rfl rfl H (fun v2 I3 J4 H => ?_)
  refine Wp.go (x := (.aload_n 2, 1, 0, 0)) rfl 306 [some (.ref r0), some (.ref r1), some (.ref r2), some (.ref r3), some (.int x4), none, none] [.ref r2, .int v2] rfl ⟨rfl, rfl, rfl, rfl⟩ ?_
  refine Wp.go (x := (.aload_n 0, 1, 0, 0)) rfl 307 [some (.ref r0), some (.ref r1), some (.ref r2), some (.ref r3), some (.int x4), none, none] [.ref r0, .ref r2, .int v2] rfl ⟨rfl, rfl, rfl, rfl⟩ ?_
  refine Wp.go (x := (.iload 4, 2, 0, 0)) rfl 309 [some (.ref r0), some (.ref r1), some (.ref r2), some (.ref r3), some (.int x4), none, none] [.int x4, .ref r0, .ref r2, .int v2] rfl ⟨rfl, rfl, rfl, rfl⟩ ?_
  refine Wp.ic (v := nI 1) rfl rfl (by decide) ?_
  refine Wp.go (x := (.iadd, 1, 0, 0)) rfl 311 [some (.ref r0), some (.ref r1), some (.ref r2), some (.ref r3), some (.int x4), none, none] [.int (x4 + (nI 1)), .ref r0, .ref r2, .int v2] rfl ⟨rfl, rfl, rfl, rfl⟩ ?_
  obtain ⟨j5, e, b, H⟩ := H
  refine Wp.ald rfl rfl hn_r0 (Or.inr rfl) (hK hn_r0) ⟨j5, e, b, ?_⟩
  refine Wp.kI (x := (.invokevirtual 47, 3, 106, 2)) (j := 106) (vs := [.ref r2, .int (I3 r0 j5)]) (rest := [.int v2]) rfl (by show xtg 106 (K r2).1 = _; rw [hn_r2]; rfl) rfl ⟨Nat.le_of_ble_eq_true rfl, Nat.le_of_ble_eq_true rfl, Nat.le_of_ble_eq_true rfl⟩ rfl rfl rfl H (fun v6 I7 J8 H => ?_)
  refine Wp.c_eq rfl rfl ⟨fun c => ?_, fun c => ?_⟩
  · have H := H.1 c
    refine Wp.ii (v := nI 4) rfl rfl (by decide) rfl (L' := [some (.ref r0), some (.ref r1), some (.ref r2), some (.ref r3), some (.int (x4 + nI 4)), none, none]) rfl ?_
    refine Wp.go (x := (.goto (-674), 3, 33, 0)) rfl 33 [some (.ref r0), some (.ref r1), some (.ref r2), some (.ref r3), some (.int (x4 + nI 4)), none, none] [] rfl ⟨rfl, rfl, rfl, rfl⟩ ?_
    exact H
  · have H := H.2 c
    refine Wp.ic (v := nI 0) rfl rfl (by decide) ?_
    exact Wp.rZ rfl rfl (Or.inl rfl) H
set_option maxRecDepth 20000 in
theorem wL_law_320 {d : Nat} {Q : Option Value × xS → Prop} {K : Nat → Nat × Nat} {P : List Nat × Nat × Nat} {I : Nat → Nat → Int32} {J : Nat → Nat → Int64} {F : Nat → Nat → Option Nat} {r0 : Nat} {r1 : Nat} {r2 : Nat} {r3 : Nat} {x4 : Int32} {n_r0 : Nat} {n_r1 : Nat} {n_r2 : Nat} (hK : ∀ {a k n : Nat}, K a = (k, n) → n < 2147483648) (hn_r0 : K r0 = (103, n_r0)) (hn_r1 : K r1 = (9, n_r1)) (hn_r2 : K r2 = (10, n_r2)) (H : (∃ j1 : Nat, (x4 + (nI 1)) = nI j1 ∧ j1 < n_r0 ∧ Wp (d + 6) 78 0 [some (.ref r1), some (.int (I r0 j1))] [] (K, P, I, J, F) (xrI K P F (fun v2 I3 J4 => (∃ j5 : Nat, (x4 + (nI 1)) = nI j5 ∧ j5 < n_r0 ∧ Wp (d + 6) 142 0 [some (.ref r2), some (.int (I3 r0 j5))] [] (K, P, I3, J4, F) (xrI K P F (fun v6 I7 J8 => ((v2 = v6 → Wp (d + 7) 169 33 [some (.ref r0), some (.ref r1), some (.ref r2), some (.ref r3), some (.int (x4 + nI 4)), none, none] [] (K, P, I7, J8, F) Q) ∧ (¬ v2 = v6 → Q (some (.int (nI 0)), (K, P, I7, J8, F))))))))))) : Wp (d + 7) 169 320 [some (.ref r0), some (.ref r1), some (.ref r2), some (.ref r3), some (.int x4), none, none] [] (K, P, I, J, F) Q := by
  refine Wp.go (x := (.aload_n 1, 1, 0, 0)) rfl 321 [some (.ref r0), some (.ref r1), some (.ref r2), some (.ref r3), some (.int x4), none, none] [.ref r1] rfl ⟨rfl, rfl, rfl, rfl⟩ ?_
  refine Wp.go (x := (.aload_n 0, 1, 0, 0)) rfl 322 [some (.ref r0), some (.ref r1), some (.ref r2), some (.ref r3), some (.int x4), none, none] [.ref r0, .ref r1] rfl ⟨rfl, rfl, rfl, rfl⟩ ?_
  refine Wp.go (x := (.iload 4, 2, 0, 0)) rfl 324 [some (.ref r0), some (.ref r1), some (.ref r2), some (.ref r3), some (.int x4), none, none] [.int x4, .ref r0, .ref r1] rfl ⟨rfl, rfl, rfl, rfl⟩ ?_
  refine Wp.ic (v := nI 1) rfl rfl (by decide) ?_
  refine Wp.go (x := (.iadd, 1, 0, 0)) rfl 326 [some (.ref r0), some (.ref r1), some (.ref r2), some (.ref r3), some (.int x4), none, none] [.int (x4 + (nI 1)), .ref r0, .ref r1] rfl ⟨rfl, rfl, rfl, rfl⟩ ?_
  obtain ⟨j1, e, b, H⟩ := H
  refine Wp.ald rfl rfl hn_r0 (Or.inr rfl) (hK hn_r0) ⟨j1, e, b, ?_⟩
  refine Wp.kI (x := (.invokevirtual 48, 3, 78, 2)) (j := 78) (vs := [.ref r1, .int (I r0 j1)]) (rest := []) rfl (by show xtg 78 (K r1).1 = _; rw [hn_r1]; rfl) rfl ⟨Nat.le_of_ble_eq_true rfl, Nat.le_of_ble_eq_true rfl, Nat.le_of_ble_eq_true rfl⟩ rfl rfl rfl H (fun v2 I3 J4 H => ?_)
  refine Wp.go (x := (.aload_n 2, 1, 0, 0)) rfl 331 [some (.ref r0), some (.ref r1), some (.ref r2), some (.ref r3), some (.int x4), none, none] [.ref r2, .int v2] rfl ⟨rfl, rfl, rfl, rfl⟩ ?_
  refine Wp.go (x := (.aload_n 0, 1, 0, 0)) rfl 332 [some (.ref r0), some (.ref r1), some (.ref r2), some (.ref r3), some (.int x4), none, none] [.ref r0, .ref r2, .int v2] rfl ⟨rfl, rfl, rfl, rfl⟩ ?_
  refine Wp.go (x := (.iload 4, 2, 0, 0)) rfl 334 [some (.ref r0), some (.ref r1), some (.ref r2), some (.ref r3), some (.int x4), none, none] [.int x4, .ref r0, .ref r2, .int v2] rfl ⟨rfl, rfl, rfl, rfl⟩ ?_
  refine Wp.ic (v := nI 1) rfl rfl (by decide) ?_
  refine Wp.go (x := (.iadd, 1, 0, 0)) rfl 336 [some (.ref r0), some (.ref r1), some (.ref r2), some (.ref r3), some (.int x4), none, none] [.int (x4 + (nI 1)), .ref r0, .ref r2, .int v2] rfl ⟨rfl, rfl, rfl, rfl⟩ ?_
  obtain ⟨j5, e, b, H⟩ := H
  refine Wp.ald rfl rfl hn_r0 (Or.inr rfl) (hK hn_r0) ⟨j5, e, b, ?_⟩
  refine Wp.kI (x := (.invokevirtual 51, 3, 142, 2)) (j := 142) (vs := [.ref r2, .int (I3 r0 j5)]) (rest := [.int v2]) rfl (by show xtg 142 (K r2).1 = _; rw [hn_r2]; rfl) rfl ⟨Nat.le_of_ble_eq_true rfl, Nat.le_of_ble_eq_true rfl, Nat.le_of_ble_eq_true rfl⟩ rfl rfl rfl H (fun v6 I7 J8 H => ?_)
  refine Wp.c_eq rfl rfl ⟨fun c => ?_, fun c => ?_⟩
  · have H := H.1 c
    refine Wp.ii (v := nI 4) rfl rfl (by decide) rfl (L' := [some (.ref r0), some (.ref r1), some (.ref r2), some (.ref r3), some (.int (x4 + nI 4)), none, none]) rfl ?_
    refine Wp.go (x := (.goto (-674), 3, 33, 0)) rfl 33 [some (.ref r0), some (.ref r1), some (.ref r2), some (.ref r3), some (.int (x4 + nI 4)), none, none] [] rfl ⟨rfl, rfl, rfl, rfl⟩ ?_
    exact H
  · have H := H.2 c
    refine Wp.ic (v := nI 0) rfl rfl (by decide) ?_
    exact Wp.rZ rfl rfl (Or.inl rfl) H
set_option maxRecDepth 20000 in
theorem wL_law_345 {d : Nat} {Q : Option Value × xS → Prop} {K : Nat → Nat × Nat} {P : List Nat × Nat × Nat} {I : Nat → Nat → Int32} {J : Nat → Nat → Int64} {F : Nat → Nat → Option Nat} {r0 : Nat} {r1 : Nat} {r2 : Nat} {r3 : Nat} {x4 : Int32} {n_r0 : Nat} {n_r1 : Nat} {n_r2 : Nat} (hK : ∀ {a k n : Nat}, K a = (k, n) → n < 2147483648) (hn_r0 : K r0 = (103, n_r0)) (hn_r1 : K r1 = (9, n_r1)) (hn_r2 : K r2 = (10, n_r2)) (H : (∃ j1 : Nat, (x4 + (nI 1)) = nI j1 ∧ j1 < n_r0 ∧ (∃ j2 : Nat, (x4 + (nI 2)) = nI j2 ∧ j2 < n_r0 ∧ Wp (d + 6) 79 0 [some (.ref r1), some (.int (I r0 j1)), some (.int (I r0 j2))] [] (K, P, I, J, F) (xrI K P F (fun v3 I4 J5 => (∃ j6 : Nat, (x4 + (nI 1)) = nI j6 ∧ j6 < n_r0 ∧ (∃ j7 : Nat, (x4 + (nI 2)) = nI j7 ∧ j7 < n_r0 ∧ Wp (d + 6) 146 0 [some (.ref r2), some (.int (I4 r0 j6)), some (.int (I4 r0 j7))] [] (K, P, I4, J5, F) (xrI K P F (fun v8 I9 J10 => ((v3 = v8 → Wp (d + 7) 169 33 [some (.ref r0), some (.ref r1), some (.ref r2), some (.ref r3), some (.int (x4 + nI 4)), none, none] [] (K, P, I9, J10, F) Q) ∧ (¬ v3 = v8 → Q (some (.int (nI 0)), (K, P, I9, J10, F))))))))))))) : Wp (d + 7) 169 345 [some (.ref r0), some (.ref r1), some (.ref r2), some (.ref r3), some (.int x4), none, none] [] (K, P, I, J, F) Q := by
  refine Wp.go (x := (.aload_n 1, 1, 0, 0)) rfl 346 [some (.ref r0), some (.ref r1), some (.ref r2), some (.ref r3), some (.int x4), none, none] [.ref r1] rfl ⟨rfl, rfl, rfl, rfl⟩ ?_
  refine Wp.go (x := (.aload_n 0, 1, 0, 0)) rfl 347 [some (.ref r0), some (.ref r1), some (.ref r2), some (.ref r3), some (.int x4), none, none] [.ref r0, .ref r1] rfl ⟨rfl, rfl, rfl, rfl⟩ ?_
  refine Wp.go (x := (.iload 4, 2, 0, 0)) rfl 349 [some (.ref r0), some (.ref r1), some (.ref r2), some (.ref r3), some (.int x4), none, none] [.int x4, .ref r0, .ref r1] rfl ⟨rfl, rfl, rfl, rfl⟩ ?_
  refine Wp.ic (v := nI 1) rfl rfl (by decide) ?_
  refine Wp.go (x := (.iadd, 1, 0, 0)) rfl 351 [some (.ref r0), some (.ref r1), some (.ref r2), some (.ref r3), some (.int x4), none, none] [.int (x4 + (nI 1)), .ref r0, .ref r1] rfl ⟨rfl, rfl, rfl, rfl⟩ ?_
  obtain ⟨j1, e, b, H⟩ := H
  refine Wp.ald rfl rfl hn_r0 (Or.inr rfl) (hK hn_r0) ⟨j1, e, b, ?_⟩
  refine Wp.go (x := (.aload_n 0, 1, 0, 0)) rfl 353 [some (.ref r0), some (.ref r1), some (.ref r2), some (.ref r3), some (.int x4), none, none] [.ref r0, .int (I r0 j1), .ref r1] rfl ⟨rfl, rfl, rfl, rfl⟩ ?_
  refine Wp.go (x := (.iload 4, 2, 0, 0)) rfl 355 [some (.ref r0), some (.ref r1), some (.ref r2), some (.ref r3), some (.int x4), none, none] [.int x4, .ref r0, .int (I r0 j1), .ref r1] rfl ⟨rfl, rfl, rfl, rfl⟩ ?_
  refine Wp.ic (v := nI 2) rfl rfl (by decide) ?_
  refine Wp.go (x := (.iadd, 1, 0, 0)) rfl 357 [some (.ref r0), some (.ref r1), some (.ref r2), some (.ref r3), some (.int x4), none, none] [.int (x4 + (nI 2)), .ref r0, .int (I r0 j1), .ref r1] rfl ⟨rfl, rfl, rfl, rfl⟩ ?_
  obtain ⟨j2, e, b, H⟩ := H
  refine Wp.ald rfl rfl hn_r0 (Or.inr rfl) (hK hn_r0) ⟨j2, e, b, ?_⟩
  refine Wp.kI (x := (.invokevirtual 52, 3, 79, 3)) (j := 79) (vs := [.ref r1, .int (I r0 j1), .int (I r0 j2)]) (rest := []) rfl (by show xtg 79 (K r1).1 = _; rw [hn_r1]; rfl) rfl ⟨Nat.le_of_ble_eq_true rfl, Nat.le_of_ble_eq_true rfl, Nat.le_of_ble_eq_true rfl⟩ rfl rfl rfl H (fun v3 I4 J5 H => ?_)
  refine Wp.go (x := (.aload_n 2, 1, 0, 0)) rfl 362 [some (.ref r0), some (.ref r1), some (.ref r2), some (.ref r3), some (.int x4), none, none] [.ref r2, .int v3] rfl ⟨rfl, rfl, rfl, rfl⟩ ?_
  refine Wp.go (x := (.aload_n 0, 1, 0, 0)) rfl 363 [some (.ref r0), some (.ref r1), some (.ref r2), some (.ref r3), some (.int x4), none, none] [.ref r0, .ref r2, .int v3] rfl ⟨rfl, rfl, rfl, rfl⟩ ?_
  refine Wp.go (x := (.iload 4, 2, 0, 0)) rfl 365 [some (.ref r0), some (.ref r1), some (.ref r2), some (.ref r3), some (.int x4), none, none] [.int x4, .ref r0, .ref r2, .int v3] rfl ⟨rfl, rfl, rfl, rfl⟩ ?_
  refine Wp.ic (v := nI 1) rfl rfl (by decide) ?_
  refine Wp.go (x := (.iadd, 1, 0, 0)) rfl 367 [some (.ref r0), some (.ref r1), some (.ref r2), some (.ref r3), some (.int x4), none, none] [.int (x4 + (nI 1)), .ref r0, .ref r2, .int v3] rfl ⟨rfl, rfl, rfl, rfl⟩ ?_
  obtain ⟨j6, e, b, H⟩ := H
  refine Wp.ald rfl rfl hn_r0 (Or.inr rfl) (hK hn_r0) ⟨j6, e, b, ?_⟩
  refine Wp.go (x := (.aload_n 0, 1, 0, 0)) rfl 369 [some (.ref r0), some (.ref r1), some (.ref r2), some (.ref r3), some (.int x4), none, none] [.ref r0, .int (I4 r0 j6), .ref r2, .int v3] rfl ⟨rfl, rfl, rfl, rfl⟩ ?_
  refine Wp.go (x := (.iload 4, 2, 0, 0)) rfl 371 [some (.ref r0), some (.ref r1), some (.ref r2), some (.ref r3), some (.int x4), none, none] [.int x4, .ref r0, .int (I4 r0 j6), .ref r2, .int v3] rfl ⟨rfl, rfl, rfl, rfl⟩ ?_
  refine Wp.ic (v := nI 2) rfl rfl (by decide) ?_
  refine Wp.go (x := (.iadd, 1, 0, 0)) rfl 373 [some (.ref r0), some (.ref r1), some (.ref r2), some (.ref r3), some (.int x4), none, none] [.int (x4 + (nI 2)), .ref r0, .int (I4 r0 j6), .ref r2, .int v3] rfl ⟨rfl, rfl, rfl, rfl⟩ ?_
  obtain ⟨j7, e, b, H⟩ := H
  refine Wp.ald rfl rfl hn_r0 (Or.inr rfl) (hK hn_r0) ⟨j7, e, b, ?_⟩
  refine Wp.kI (x := (.invokevirtual 55, 3, 146, 3)) (j := 146) (vs := [.ref r2, .int (I4 r0 j6), .int (I4 r0 j7)]) (rest := [.int v3]) rfl (by show xtg 146 (K r2).1 = _; rw [hn_r2]; rfl) rfl ⟨Nat.le_of_ble_eq_true rfl, Nat.le_of_ble_eq_true rfl, Nat.le_of_ble_eq_true rfl⟩ rfl rfl rfl H (fun v8 I9 J10 H => ?_)
  refine Wp.c_eq rfl rfl ⟨fun c => ?_, fun c => ?_⟩
  · have H := H.1 c
    refine Wp.ii (v := nI 4) rfl rfl (by decide) rfl (L' := [some (.ref r0), some (.ref r1), some (.ref r2), some (.ref r3), some (.int (x4 + nI 4)), none, none]) rfl ?_
    refine Wp.go (x := (.goto (-674), 3, 33, 0)) rfl 33 [some (.ref r0), some (.ref r1), some (.ref r2), some (.ref r3), some (.int (x4 + nI 4)), none, none] [] rfl ⟨rfl, rfl, rfl, rfl⟩ ?_
    exact H
  · have H := H.2 c
    refine Wp.ic (v := nI 0) rfl rfl (by decide) ?_
    exact Wp.rZ rfl rfl (Or.inl rfl) H
set_option maxRecDepth 20000 in
theorem wL_law_382 {d : Nat} {Q : Option Value × xS → Prop} {K : Nat → Nat × Nat} {P : List Nat × Nat × Nat} {I : Nat → Nat → Int32} {J : Nat → Nat → Int64} {F : Nat → Nat → Option Nat} {r0 : Nat} {r1 : Nat} {r2 : Nat} {r3 : Nat} {x4 : Int32} {n_r1 : Nat} {n_r2 : Nat} (hn_r1 : K r1 = (9, n_r1)) (hn_r2 : K r2 = (10, n_r2)) (H : Wp (d + 6) 80 0 [some (.ref r1)] [] (K, P, I, J, F) (xrJ K P F (fun v1 I2 J3 => Wp (d + 6) 147 0 [some (.ref r2)] [] (K, P, I2, J3, F) (xrJ K P F (fun v4 I5 J6 => (((lg_cmp v1 v4) = 0 → Wp (d + 7) 169 33 [some (.ref r0), some (.ref r1), some (.ref r2), some (.ref r3), some (.int (x4 + nI 4)), none, none] [] (K, P, I5, J6, F) Q) ∧ (¬ (lg_cmp v1 v4) = 0 → Q (some (.int (nI 0)), (K, P, I5, J6, F))))))))) : Wp (d + 7) 169 382 [some (.ref r0), some (.ref r1), some (.ref r2), some (.ref r3), some (.int x4), none, none] [] (K, P, I, J, F) Q := by
  refine Wp.go (x := (.aload_n 1, 1, 0, 0)) rfl 383 [some (.ref r0), some (.ref r1), some (.ref r2), some (.ref r3), some (.int x4), none, none] [.ref r1] rfl ⟨rfl, rfl, rfl, rfl⟩ ?_
  refine Wp.kJ (x := (.invokevirtual 56, 3, 80, 1)) (j := 80) (vs := [.ref r1]) (rest := []) rfl (by show xtg 80 (K r1).1 = _; rw [hn_r1]; rfl) rfl ⟨Nat.le_of_ble_eq_true rfl, Nat.le_of_ble_eq_true rfl, Nat.le_of_ble_eq_true rfl⟩ rfl rfl rfl H (fun v1 I2 J3 H => ?_)
  refine Wp.go (x := (.aload_n 2, 1, 0, 0)) rfl 387 [some (.ref r0), some (.ref r1), some (.ref r2), some (.ref r3), some (.int x4), none, none] [.ref r2, .long v1] rfl ⟨rfl, rfl, rfl, rfl⟩ ?_
  refine Wp.kJ (x := (.invokevirtual 60, 3, 147, 1)) (j := 147) (vs := [.ref r2]) (rest := [.long v1]) rfl (by show xtg 147 (K r2).1 = _; rw [hn_r2]; rfl) rfl ⟨Nat.le_of_ble_eq_true rfl, Nat.le_of_ble_eq_true rfl, Nat.le_of_ble_eq_true rfl⟩ rfl rfl rfl H (fun v4 I5 J6 H => ?_)
  refine Wp.go (x := (.lcmp, 1, 0, 0)) rfl 391 [some (.ref r0), some (.ref r1), some (.ref r2), some (.ref r3), some (.int x4), none, none] [.int (lg_cmp v1 v4)] rfl ⟨rfl, rfl, rfl, rfl⟩ ?_
  refine Wp.z_eq rfl rfl ⟨fun c => ?_, fun c => ?_⟩
  · have H := H.1 c
    refine Wp.ii (v := nI 4) rfl rfl (by decide) rfl (L' := [some (.ref r0), some (.ref r1), some (.ref r2), some (.ref r3), some (.int (x4 + nI 4)), none, none]) rfl ?_
    refine Wp.go (x := (.goto (-674), 3, 33, 0)) rfl 33 [some (.ref r0), some (.ref r1), some (.ref r2), some (.ref r3), some (.int (x4 + nI 4)), none, none] [] rfl ⟨rfl, rfl, rfl, rfl⟩ ?_
    exact H
  · have H := H.2 c
    refine Wp.ic (v := nI 0) rfl rfl (by decide) ?_
    exact Wp.rZ rfl rfl (Or.inl rfl) H
set_option maxRecDepth 20000 in
theorem wL_law_396 {d : Nat} {Q : Option Value × xS → Prop} {K : Nat → Nat × Nat} {P : List Nat × Nat × Nat} {I : Nat → Nat → Int32} {J : Nat → Nat → Int64} {F : Nat → Nat → Option Nat} {r0 : Nat} {r1 : Nat} {r2 : Nat} {r3 : Nat} {x4 : Int32} {n_r1 : Nat} {n_r2 : Nat} (hn_r1 : K r1 = (9, n_r1)) (hn_r2 : K r2 = (10, n_r2)) (H : Wp (d + 6) 81 0 [some (.ref r1)] [] (K, P, I, J, F) (xrJ K P F (fun v1 I2 J3 => Wp (d + 6) 148 0 [some (.ref r2)] [] (K, P, I2, J3, F) (xrJ K P F (fun v4 I5 J6 => (((lg_cmp v1 v4) = 0 → Wp (d + 7) 169 33 [some (.ref r0), some (.ref r1), some (.ref r2), some (.ref r3), some (.int (x4 + nI 4)), none, none] [] (K, P, I5, J6, F) Q) ∧ (¬ (lg_cmp v1 v4) = 0 → Q (some (.int (nI 0)), (K, P, I5, J6, F))))))))) : Wp (d + 7) 169 396 [some (.ref r0), some (.ref r1), some (.ref r2), some (.ref r3), some (.int x4), none, none] [] (K, P, I, J, F) Q := by
  refine Wp.go (x := (.aload_n 1, 1, 0, 0)) rfl 397 [some (.ref r0), some (.ref r1), some (.ref r2), some (.ref r3), some (.int x4), none, none] [.ref r1] rfl ⟨rfl, rfl, rfl, rfl⟩ ?_
  refine Wp.kJ (x := (.invokevirtual 61, 3, 81, 1)) (j := 81) (vs := [.ref r1]) (rest := []) rfl (by show xtg 81 (K r1).1 = _; rw [hn_r1]; rfl) rfl ⟨Nat.le_of_ble_eq_true rfl, Nat.le_of_ble_eq_true rfl, Nat.le_of_ble_eq_true rfl⟩ rfl rfl rfl H (fun v1 I2 J3 H => ?_)
  refine Wp.go (x := (.aload_n 2, 1, 0, 0)) rfl 401 [some (.ref r0), some (.ref r1), some (.ref r2), some (.ref r3), some (.int x4), none, none] [.ref r2, .long v1] rfl ⟨rfl, rfl, rfl, rfl⟩ ?_
  refine Wp.kJ (x := (.invokevirtual 64, 3, 148, 1)) (j := 148) (vs := [.ref r2]) (rest := [.long v1]) rfl (by show xtg 148 (K r2).1 = _; rw [hn_r2]; rfl) rfl ⟨Nat.le_of_ble_eq_true rfl, Nat.le_of_ble_eq_true rfl, Nat.le_of_ble_eq_true rfl⟩ rfl rfl rfl H (fun v4 I5 J6 H => ?_)
  refine Wp.go (x := (.lcmp, 1, 0, 0)) rfl 405 [some (.ref r0), some (.ref r1), some (.ref r2), some (.ref r3), some (.int x4), none, none] [.int (lg_cmp v1 v4)] rfl ⟨rfl, rfl, rfl, rfl⟩ ?_
  refine Wp.z_eq rfl rfl ⟨fun c => ?_, fun c => ?_⟩
  · have H := H.1 c
    refine Wp.ii (v := nI 4) rfl rfl (by decide) rfl (L' := [some (.ref r0), some (.ref r1), some (.ref r2), some (.ref r3), some (.int (x4 + nI 4)), none, none]) rfl ?_
    refine Wp.go (x := (.goto (-674), 3, 33, 0)) rfl 33 [some (.ref r0), some (.ref r1), some (.ref r2), some (.ref r3), some (.int (x4 + nI 4)), none, none] [] rfl ⟨rfl, rfl, rfl, rfl⟩ ?_
    exact H
  · have H := H.2 c
    refine Wp.ic (v := nI 0) rfl rfl (by decide) ?_
    exact Wp.rZ rfl rfl (Or.inl rfl) H
set_option maxRecDepth 20000 in
theorem wL_law_410 {d : Nat} {Q : Option Value × xS → Prop} {K : Nat → Nat × Nat} {P : List Nat × Nat × Nat} {I : Nat → Nat → Int32} {J : Nat → Nat → Int64} {F : Nat → Nat → Option Nat} {r0 : Nat} {r1 : Nat} {r2 : Nat} {r3 : Nat} {x4 : Int32} {n_r1 : Nat} {n_r2 : Nat} (hn_r1 : K r1 = (9, n_r1)) (hn_r2 : K r2 = (10, n_r2)) (H : Wp (d + 6) 82 0 [some (.ref r1)] [] (K, P, I, J, F) (xrI K P F (fun v1 I2 J3 => Wp (d + 6) 149 0 [some (.ref r2)] [] (K, P, I2, J3, F) (xrI K P F (fun v4 I5 J6 => ((v1 = v4 → Wp (d + 7) 169 33 [some (.ref r0), some (.ref r1), some (.ref r2), some (.ref r3), some (.int (x4 + nI 4)), none, none] [] (K, P, I5, J6, F) Q) ∧ (¬ v1 = v4 → Q (some (.int (nI 0)), (K, P, I5, J6, F))))))))) : Wp (d + 7) 169 410 [some (.ref r0), some (.ref r1), some (.ref r2), some (.ref r3), some (.int x4), none, none] [] (K, P, I, J, F) Q := by
  refine Wp.go (x := (.aload_n 1, 1, 0, 0)) rfl 411 [some (.ref r0), some (.ref r1), some (.ref r2), some (.ref r3), some (.int x4), none, none] [.ref r1] rfl ⟨rfl, rfl, rfl, rfl⟩ ?_
  refine Wp.kI (x := (.invokevirtual 65, 3, 82, 1)) (j := 82) (vs := [.ref r1]) (rest := []) rfl (by show xtg 82 (K r1).1 = _; rw [hn_r1]; rfl) rfl ⟨Nat.le_of_ble_eq_true rfl, Nat.le_of_ble_eq_true rfl, Nat.le_of_ble_eq_true rfl⟩ rfl rfl rfl H (fun v1 I2 J3 H => ?_)
  refine Wp.go (x := (.aload_n 2, 1, 0, 0)) rfl 415 [some (.ref r0), some (.ref r1), some (.ref r2), some (.ref r3), some (.int x4), none, none] [.ref r2, .int v1] rfl ⟨rfl, rfl, rfl, rfl⟩ ?_
  refine Wp.kI (x := (.invokevirtual 69, 3, 149, 1)) (j := 149) (vs := [.ref r2]) (rest := [.int v1]) rfl (by show xtg 149 (K r2).1 = _; rw [hn_r2]; rfl) rfl ⟨Nat.le_of_ble_eq_true rfl, Nat.le_of_ble_eq_true rfl, Nat.le_of_ble_eq_true rfl⟩ rfl rfl rfl H (fun v4 I5 J6 H => ?_)
  refine Wp.c_eq rfl rfl ⟨fun c => ?_, fun c => ?_⟩
  · have H := H.1 c
    refine Wp.ii (v := nI 4) rfl rfl (by decide) rfl (L' := [some (.ref r0), some (.ref r1), some (.ref r2), some (.ref r3), some (.int (x4 + nI 4)), none, none]) rfl ?_
    refine Wp.go (x := (.goto (-674), 3, 33, 0)) rfl 33 [some (.ref r0), some (.ref r1), some (.ref r2), some (.ref r3), some (.int (x4 + nI 4)), none, none] [] rfl ⟨rfl, rfl, rfl, rfl⟩ ?_
    exact H
  · have H := H.2 c
    refine Wp.ic (v := nI 0) rfl rfl (by decide) ?_
    exact Wp.rZ rfl rfl (Or.inl rfl) H
set_option maxRecDepth 20000 in
theorem wL_law_423 {d : Nat} {Q : Option Value × xS → Prop} {K : Nat → Nat × Nat} {P : List Nat × Nat × Nat} {I : Nat → Nat → Int32} {J : Nat → Nat → Int64} {F : Nat → Nat → Option Nat} {r0 : Nat} {r1 : Nat} {r2 : Nat} {r3 : Nat} {x4 : Int32} {n_r0 : Nat} {n_r1 : Nat} {n_r2 : Nat} (hK : ∀ {a k n : Nat}, K a = (k, n) → n < 2147483648) (hn_r0 : K r0 = (103, n_r0)) (hn_r1 : K r1 = (9, n_r1)) (hn_r2 : K r2 = (10, n_r2)) (H : (∃ j1 : Nat, (x4 + (nI 1)) = nI j1 ∧ j1 < n_r0 ∧ Wp (d + 6) 83 0 [some (.ref r1), some (.int (I r0 j1))] [] (K, P, I, J, F) (xrI K P F (fun v2 I3 J4 => (∃ j5 : Nat, (x4 + (nI 1)) = nI j5 ∧ j5 < n_r0 ∧ Wp (d + 6) 150 0 [some (.ref r2), some (.int (I3 r0 j5)), none, none, none] [] (K, P, I3, J4, F) (xrI K P F (fun v6 I7 J8 => ((v2 = v6 → Wp (d + 7) 169 33 [some (.ref r0), some (.ref r1), some (.ref r2), some (.ref r3), some (.int (x4 + nI 4)), none, none] [] (K, P, I7, J8, F) Q) ∧ (¬ v2 = v6 → Q (some (.int (nI 0)), (K, P, I7, J8, F))))))))))) : Wp (d + 7) 169 423 [some (.ref r0), some (.ref r1), some (.ref r2), some (.ref r3), some (.int x4), none, none] [] (K, P, I, J, F) Q := by
  refine Wp.go (x := (.aload_n 1, 1, 0, 0)) rfl 424 [some (.ref r0), some (.ref r1), some (.ref r2), some (.ref r3), some (.int x4), none, none] [.ref r1] rfl ⟨rfl, rfl, rfl, rfl⟩ ?_
  refine Wp.go (x := (.aload_n 0, 1, 0, 0)) rfl 425 [some (.ref r0), some (.ref r1), some (.ref r2), some (.ref r3), some (.int x4), none, none] [.ref r0, .ref r1] rfl ⟨rfl, rfl, rfl, rfl⟩ ?_
  refine Wp.go (x := (.iload 4, 2, 0, 0)) rfl 427 [some (.ref r0), some (.ref r1), some (.ref r2), some (.ref r3), some (.int x4), none, none] [.int x4, .ref r0, .ref r1] rfl ⟨rfl, rfl, rfl, rfl⟩ ?_
  refine Wp.ic (v := nI 1) rfl rfl (by decide) ?_
  refine Wp.go (x := (.iadd, 1, 0, 0)) rfl 429 [some (.ref r0), some (.ref r1), some (.ref r2), some (.ref r3), some (.int x4), none, none] [.int (x4 + (nI 1)), .ref r0, .ref r1] rfl ⟨rfl, rfl, rfl, rfl⟩ ?_
  obtain ⟨j1, e, b, H⟩ := H
  refine Wp.ald rfl rfl hn_r0 (Or.inr rfl) (hK hn_r0) ⟨j1, e, b, ?_⟩
  refine Wp.kI (x := (.invokevirtual 70, 3, 83, 2)) (j := 83) (vs := [.ref r1, .int (I r0 j1)]) (rest := []) rfl (by show xtg 83 (K r1).1 = _; rw [hn_r1]; rfl) rfl ⟨Nat.le_of_ble_eq_true rfl, Nat.le_of_ble_eq_true rfl, Nat.le_of_ble_eq_true rfl⟩ rfl rfl rfl H (fun v2 I3 J4 H => ?_)
  refine Wp.go (x := (.aload_n 2, 1, 0, 0)) rfl 434 [some (.ref r0), some (.ref r1), some (.ref r2), some (.ref r3), some (.int x4), none, none] [.ref r2, .int v2] rfl ⟨rfl, rfl, rfl, rfl⟩ ?_
  refine Wp.go (x := (.aload_n 0, 1, 0, 0)) rfl 435 [some (.ref r0), some (.ref r1), some (.ref r2), some (.ref r3), some (.int x4), none, none] [.ref r0, .ref r2, .int v2] rfl ⟨rfl, rfl, rfl, rfl⟩ ?_
  refine Wp.go (x := (.iload 4, 2, 0, 0)) rfl 437 [some (.ref r0), some (.ref r1), some (.ref r2), some (.ref r3), some (.int x4), none, none] [.int x4, .ref r0, .ref r2, .int v2] rfl ⟨rfl, rfl, rfl, rfl⟩ ?_
  refine Wp.ic (v := nI 1) rfl rfl (by decide) ?_
  refine Wp.go (x := (.iadd, 1, 0, 0)) rfl 439 [some (.ref r0), some (.ref r1), some (.ref r2), some (.ref r3), some (.int x4), none, none] [.int (x4 + (nI 1)), .ref r0, .ref r2, .int v2] rfl ⟨rfl, rfl, rfl, rfl⟩ ?_
  obtain ⟨j5, e, b, H⟩ := H
  refine Wp.ald rfl rfl hn_r0 (Or.inr rfl) (hK hn_r0) ⟨j5, e, b, ?_⟩
  refine Wp.kI (x := (.invokevirtual 73, 3, 150, 2)) (j := 150) (vs := [.ref r2, .int (I3 r0 j5)]) (rest := [.int v2]) rfl (by show xtg 150 (K r2).1 = _; rw [hn_r2]; rfl) rfl ⟨Nat.le_of_ble_eq_true rfl, Nat.le_of_ble_eq_true rfl, Nat.le_of_ble_eq_true rfl⟩ rfl rfl rfl H (fun v6 I7 J8 H => ?_)
  refine Wp.c_eq rfl rfl ⟨fun c => ?_, fun c => ?_⟩
  · have H := H.1 c
    refine Wp.ii (v := nI 4) rfl rfl (by decide) rfl (L' := [some (.ref r0), some (.ref r1), some (.ref r2), some (.ref r3), some (.int (x4 + nI 4)), none, none]) rfl ?_
    refine Wp.go (x := (.goto (-674), 3, 33, 0)) rfl 33 [some (.ref r0), some (.ref r1), some (.ref r2), some (.ref r3), some (.int (x4 + nI 4)), none, none] [] rfl ⟨rfl, rfl, rfl, rfl⟩ ?_
    exact H
  · have H := H.2 c
    refine Wp.ic (v := nI 0) rfl rfl (by decide) ?_
    exact Wp.rZ rfl rfl (Or.inl rfl) H
set_option maxRecDepth 20000 in
theorem wL_law_448 {d : Nat} {Q : Option Value × xS → Prop} {K : Nat → Nat × Nat} {P : List Nat × Nat × Nat} {I : Nat → Nat → Int32} {J : Nat → Nat → Int64} {F : Nat → Nat → Option Nat} {r0 : Nat} {r1 : Nat} {r2 : Nat} {r3 : Nat} {x4 : Int32} {n_r0 : Nat} {n_r1 : Nat} {n_r2 : Nat} (hK : ∀ {a k n : Nat}, K a = (k, n) → n < 2147483648) (hn_r0 : K r0 = (103, n_r0)) (hn_r1 : K r1 = (9, n_r1)) (hn_r2 : K r2 = (10, n_r2)) (H : (∃ j1 : Nat, (x4 + (nI 1)) = nI j1 ∧ j1 < n_r0 ∧ Wp (d + 6) 84 0 [some (.ref r1), some (.int (I r0 j1)), none, none, none, none, none] [] (K, P, I, J, F) (xrJF K P (fun v2 I3 J4 F5 => (∃ j6 : Nat, (x4 + (nI 1)) = nI j6 ∧ j6 < n_r0 ∧ Wp (d + 6) 145 0 [some (.ref r2), some (.int (I3 r0 j6)), none, none, none, none, none, none, none, none, none, none] [] (K, P, I3, J4, F5) (xrJ K P F5 (fun v7 I8 J9 => (((lg_cmp v2 v7) = 0 → Wp (d + 7) 169 33 [some (.ref r0), some (.ref r1), some (.ref r2), some (.ref r3), some (.int (x4 + nI 4)), none, none] [] (K, P, I8, J9, F5) Q) ∧ (¬ (lg_cmp v2 v7) = 0 → Q (some (.int (nI 0)), (K, P, I8, J9, F5))))))))))) : Wp (d + 7) 169 448 [some (.ref r0), some (.ref r1), some (.ref r2), some (.ref r3), some (.int x4), none, none] [] (K, P, I, J, F) Q := by
  refine Wp.go (x := (.aload_n 1, 1, 0, 0)) rfl 449 [some (.ref r0), some (.ref r1), some (.ref r2), some (.ref r3), some (.int x4), none, none] [.ref r1] rfl ⟨rfl, rfl, rfl, rfl⟩ ?_
  refine Wp.go (x := (.aload_n 0, 1, 0, 0)) rfl 450 [some (.ref r0), some (.ref r1), some (.ref r2), some (.ref r3), some (.int x4), none, none] [.ref r0, .ref r1] rfl ⟨rfl, rfl, rfl, rfl⟩ ?_
  refine Wp.go (x := (.iload 4, 2, 0, 0)) rfl 452 [some (.ref r0), some (.ref r1), some (.ref r2), some (.ref r3), some (.int x4), none, none] [.int x4, .ref r0, .ref r1] rfl ⟨rfl, rfl, rfl, rfl⟩ ?_
  refine Wp.ic (v := nI 1) rfl rfl (by decide) ?_
  refine Wp.go (x := (.iadd, 1, 0, 0)) rfl 454 [some (.ref r0), some (.ref r1), some (.ref r2), some (.ref r3), some (.int x4), none, none] [.int (x4 + (nI 1)), .ref r0, .ref r1] rfl ⟨rfl, rfl, rfl, rfl⟩ ?_
  obtain ⟨j1, e, b, H⟩ := H
  refine Wp.ald rfl rfl hn_r0 (Or.inr rfl) (hK hn_r0) ⟨j1, e, b, ?_⟩
  refine Wp.kJF (x := (.invokevirtual 74, 3, 84, 2)) (j := 84) (vs := [.ref r1, .int (I r0 j1)]) (rest := []) rfl (by show xtg 84 (K r1).1 = _; rw [hn_r1]; rfl) rfl ⟨Nat.le_of_ble_eq_true rfl, Nat.le_of_ble_eq_true rfl, Nat.le_of_ble_eq_true rfl⟩ rfl rfl rfl H (fun v2 I3 J4 F5 H => ?_)
  refine Wp.go (x := (.aload_n 2, 1, 0, 0)) rfl 459 [some (.ref r0), some (.ref r1), some (.ref r2), some (.ref r3), some (.int x4), none, none] [.ref r2, .long v2] rfl ⟨rfl, rfl, rfl, rfl⟩ ?_
  refine Wp.go (x := (.aload_n 0, 1, 0, 0)) rfl 460 [some (.ref r0), some (.ref r1), some (.ref r2), some (.ref r3), some (.int x4), none, none] [.ref r0, .ref r2, .long v2] rfl ⟨rfl, rfl, rfl, rfl⟩ ?_
  refine Wp.go (x := (.iload 4, 2, 0, 0)) rfl 462 [some (.ref r0), some (.ref r1), some (.ref r2), some (.ref r3), some (.int x4), none, none] [.int x4, .ref r0, .ref r2, .long v2] rfl ⟨rfl, rfl, rfl, rfl⟩ ?_
  refine Wp.ic (v := nI 1) rfl rfl (by decide) ?_
  refine Wp.go (x := (.iadd, 1, 0, 0)) rfl 464 [some (.ref r0), some (.ref r1), some (.ref r2), some (.ref r3), some (.int x4), none, none] [.int (x4 + (nI 1)), .ref r0, .ref r2, .long v2] rfl ⟨rfl, rfl, rfl, rfl⟩ ?_
  obtain ⟨j6, e, b, H⟩ := H
  refine Wp.ald rfl rfl hn_r0 (Or.inr rfl) (hK hn_r0) ⟨j6, e, b, ?_⟩
  refine Wp.kJ (x := (.invokevirtual 78, 3, 145, 2)) (j := 145) (vs := [.ref r2, .int (I3 r0 j6)]) (rest := [.long v2]) rfl (by show xtg 145 (K r2).1 = _; rw [hn_r2]; rfl) rfl ⟨Nat.le_of_ble_eq_true rfl, Nat.le_of_ble_eq_true rfl, Nat.le_of_ble_eq_true rfl⟩ rfl rfl rfl H (fun v7 I8 J9 H => ?_)
  refine Wp.go (x := (.lcmp, 1, 0, 0)) rfl 469 [some (.ref r0), some (.ref r1), some (.ref r2), some (.ref r3), some (.int x4), none, none] [.int (lg_cmp v2 v7)] rfl ⟨rfl, rfl, rfl, rfl⟩ ?_
  refine Wp.z_eq rfl rfl ⟨fun c => ?_, fun c => ?_⟩
  · have H := H.1 c
    refine Wp.ii (v := nI 4) rfl rfl (by decide) rfl (L' := [some (.ref r0), some (.ref r1), some (.ref r2), some (.ref r3), some (.int (x4 + nI 4)), none, none]) rfl ?_
    refine Wp.go (x := (.goto (-674), 3, 33, 0)) rfl 33 [some (.ref r0), some (.ref r1), some (.ref r2), some (.ref r3), some (.int (x4 + nI 4)), none, none] [] rfl ⟨rfl, rfl, rfl, rfl⟩ ?_
    exact H
  · have H := H.2 c
    refine Wp.ic (v := nI 0) rfl rfl (by decide) ?_
    exact Wp.rZ rfl rfl (Or.inl rfl) H
set_option maxRecDepth 20000 in
theorem wL_law_474 {d : Nat} {Q : Option Value × xS → Prop} {K : Nat → Nat × Nat} {P : List Nat × Nat × Nat} {I : Nat → Nat → Int32} {J : Nat → Nat → Int64} {F : Nat → Nat → Option Nat} {r0 : Nat} {r1 : Nat} {r2 : Nat} {r3 : Nat} {x4 : Int32} {n_r0 : Nat} {n_r1 : Nat} {n_r2 : Nat} (hK : ∀ {a k n : Nat}, K a = (k, n) → n < 2147483648) (hn_r0 : K r0 = (103, n_r0)) (hn_r1 : K r1 = (9, n_r1)) (hn_r2 : K r2 = (10, n_r2)) (H : (∃ j1 : Nat, (x4 + (nI 1)) = nI j1 ∧ j1 < n_r0 ∧ Wp (d + 6) 85 0 [some (.ref r1), some (.int (I r0 j1))] [] (K, P, I, J, F) (xrI K P F (fun v2 I3 J4 => (∃ j5 : Nat, (x4 + (nI 1)) = nI j5 ∧ j5 < n_r0 ∧ Wp (d + 6) 151 0 [some (.ref r2), some (.int (I3 r0 j5))] [] (K, P, I3, J4, F) (xrI K P F (fun v6 I7 J8 => ((v2 = v6 → Wp (d + 7) 169 33 [some (.ref r0), some (.ref r1), some (.ref r2), some (.ref r3), some (.int (x4 + nI 4)), none, none] [] (K, P, I7, J8, F) Q) ∧ (¬ v2 = v6 → Q (some (.int (nI 0)), (K, P, I7, J8, F))))))))))) : Wp (d + 7) 169 474 [some (.ref r0), some (.ref r1), some (.ref r2), some (.ref r3), some (.int x4), none, none] [] (K, P, I, J, F) Q := by
  refine Wp.go (x := (.aload_n 1, 1, 0, 0)) rfl 475 [some (.ref r0), some (.ref r1), some (.ref r2), some (.ref r3), some (.int x4), none, none] [.ref r1] rfl ⟨rfl, rfl, rfl, rfl⟩ ?_
  refine Wp.go (x := (.aload_n 0, 1, 0, 0)) rfl 476 [some (.ref r0), some (.ref r1), some (.ref r2), some (.ref r3), some (.int x4), none, none] [.ref r0, .ref r1] rfl ⟨rfl, rfl, rfl, rfl⟩ ?_
  refine Wp.go (x := (.iload 4, 2, 0, 0)) rfl 478 [some (.ref r0), some (.ref r1), some (.ref r2), some (.ref r3), some (.int x4), none, none] [.int x4, .ref r0, .ref r1] rfl ⟨rfl, rfl, rfl, rfl⟩ ?_
  refine Wp.ic (v := nI 1) rfl rfl (by decide) ?_
  refine Wp.go (x := (.iadd, 1, 0, 0)) rfl 480 [some (.ref r0), some (.ref r1), some (.ref r2), some (.ref r3), some (.int x4), none, none] [.int (x4 + (nI 1)), .ref r0, .ref r1] rfl ⟨rfl, rfl, rfl, rfl⟩ ?_
  obtain ⟨j1, e, b, H⟩ := H
  refine Wp.ald rfl rfl hn_r0 (Or.inr rfl) (hK hn_r0) ⟨j1, e, b, ?_⟩
  refine Wp.kI (x := (.invokevirtual 79, 3, 85, 2)) (j := 85) (vs := [.ref r1, .int (I r0 j1)]) (rest := []) rfl (by show xtg 85 (K r1).1 = _; rw [hn_r1]; rfl) rfl ⟨Nat.le_of_ble_eq_true rfl, Nat.le_of_ble_eq_true rfl, Nat.le_of_ble_eq_true rfl⟩ rfl rfl rfl H (fun v2 I3 J4 H => ?_)
  refine Wp.go (x := (.aload_n 2, 1, 0, 0)) rfl 485 [some (.ref r0), some (.ref r1), some (.ref r2), some (.ref r3), some (.int x4), none, none] [.ref r2, .int v2] rfl ⟨rfl, rfl, rfl, rfl⟩ ?_
  refine Wp.go (x := (.aload_n 0, 1, 0, 0)) rfl 486 [some (.ref r0), some (.ref r1), some (.ref r2), some (.ref r3), some (.int x4), none, none] [.ref r0, .ref r2, .int v2] rfl ⟨rfl, rfl, rfl, rfl⟩ ?_
  refine Wp.go (x := (.iload 4, 2, 0, 0)) rfl 488 [some (.ref r0), some (.ref r1), some (.ref r2), some (.ref r3), some (.int x4), none, none] [.int x4, .ref r0, .ref r2, .int v2] rfl ⟨rfl, rfl, rfl, rfl⟩ ?_
  refine Wp.ic (v := nI 1) rfl rfl (by decide) ?_
  refine Wp.go (x := (.iadd, 1, 0, 0)) rfl 490 [some (.ref r0), some (.ref r1), some (.ref r2), some (.ref r3), some (.int x4), none, none] [.int (x4 + (nI 1)), .ref r0, .ref r2, .int v2] rfl ⟨rfl, rfl, rfl, rfl⟩ ?_
  obtain ⟨j5, e, b, H⟩ := H
  refine Wp.ald rfl rfl hn_r0 (Or.inr rfl) (hK hn_r0) ⟨j5, e, b, ?_⟩
  refine Wp.kI (x := (.invokevirtual 82, 3, 151, 2)) (j := 151) (vs := [.ref r2, .int (I3 r0 j5)]) (rest := [.int v2]) rfl (by show xtg 151 (K r2).1 = _; rw [hn_r2]; rfl) rfl ⟨Nat.le_of_ble_eq_true rfl, Nat.le_of_ble_eq_true rfl, Nat.le_of_ble_eq_true rfl⟩ rfl rfl rfl H (fun v6 I7 J8 H => ?_)
  refine Wp.c_eq rfl rfl ⟨fun c => ?_, fun c => ?_⟩
  · have H := H.1 c
    refine Wp.ii (v := nI 4) rfl rfl (by decide) rfl (L' := [some (.ref r0), some (.ref r1), some (.ref r2), some (.ref r3), some (.int (x4 + nI 4)), none, none]) rfl ?_
    refine Wp.go (x := (.goto (-674), 3, 33, 0)) rfl 33 [some (.ref r0), some (.ref r1), some (.ref r2), some (.ref r3), some (.int (x4 + nI 4)), none, none] [] rfl ⟨rfl, rfl, rfl, rfl⟩ ?_
    exact H
  · have H := H.2 c
    refine Wp.ic (v := nI 0) rfl rfl (by decide) ?_
    exact Wp.rZ rfl rfl (Or.inl rfl) H
set_option maxRecDepth 20000 in
theorem wL_law_499 {d : Nat} {Q : Option Value × xS → Prop} {K : Nat → Nat × Nat} {P : List Nat × Nat × Nat} {I : Nat → Nat → Int32} {J : Nat → Nat → Int64} {F : Nat → Nat → Option Nat} {r0 : Nat} {r1 : Nat} {r2 : Nat} {r3 : Nat} {x4 : Int32} {n_r0 : Nat} {n_r1 : Nat} {n_r2 : Nat} (hK : ∀ {a k n : Nat}, K a = (k, n) → n < 2147483648) (hn_r0 : K r0 = (103, n_r0)) (hn_r1 : K r1 = (9, n_r1)) (hn_r2 : K r2 = (10, n_r2)) (H : (∃ j1 : Nat, (x4 + (nI 1)) = nI j1 ∧ j1 < n_r0 ∧ (∃ j2 : Nat, (x4 + (nI 2)) = nI j2 ∧ j2 < n_r0 ∧ Wp (d + 6) 86 0 [some (.ref r1), some (.int (I r0 j1)), some (.int (I r0 j2)), none] [] (K, P, I, J, F) (xrI K P F (fun v3 I4 J5 => (∃ j6 : Nat, (x4 + (nI 1)) = nI j6 ∧ j6 < n_r0 ∧ (∃ j7 : Nat, (x4 + (nI 2)) = nI j7 ∧ j7 < n_r0 ∧ Wp (d + 6) 152 0 [some (.ref r2), some (.int (I4 r0 j6)), some (.int (I4 r0 j7)), none] [] (K, P, I4, J5, F) (xrI K P F (fun v8 I9 J10 => ((v3 = v8 → Wp (d + 7) 169 33 [some (.ref r0), some (.ref r1), some (.ref r2), some (.ref r3), some (.int (x4 + nI 4)), none, none] [] (K, P, I9, J10, F) Q) ∧ (¬ v3 = v8 → Q (some (.int (nI 0)), (K, P, I9, J10, F))))))))))))) : Wp (d + 7) 169 499 [some (.ref r0), some (.ref r1), some (.ref r2), some (.ref r3), some (.int x4), none, none] [] (K, P, I, J, F) Q := by
  refine Wp.go (x := (.aload_n 1, 1, 0, 0)) rfl 500 [some (.ref r0), some (.ref r1), some (.ref r2), some (.ref r3), some (.int x4), none, none] [.ref r1] rfl ⟨rfl, rfl, rfl, rfl⟩ ?_
  refine Wp.go (x := (.aload_n 0, 1, 0, 0)) rfl 501 [some (.ref r0), some (.ref r1), some (.ref r2), some (.ref r3), some (.int x4), none, none] [.ref r0, .ref r1] rfl ⟨rfl, rfl, rfl, rfl⟩ ?_
  refine Wp.go (x := (.iload 4, 2, 0, 0)) rfl 503 [some (.ref r0), some (.ref r1), some (.ref r2), some (.ref r3), some (.int x4), none, none] [.int x4, .ref r0, .ref r1] rfl ⟨rfl, rfl, rfl, rfl⟩ ?_
  refine Wp.ic (v := nI 1) rfl rfl (by decide) ?_
  refine Wp.go (x := (.iadd, 1, 0, 0)) rfl 505 [some (.ref r0), some (.ref r1), some (.ref r2), some (.ref r3), some (.int x4), none, none] [.int (x4 + (nI 1)), .ref r0, .ref r1] rfl ⟨rfl, rfl, rfl, rfl⟩ ?_
  obtain ⟨j1, e, b, H⟩ := H
  refine Wp.ald rfl rfl hn_r0 (Or.inr rfl) (hK hn_r0) ⟨j1, e, b, ?_⟩
  refine Wp.go (x := (.aload_n 0, 1, 0, 0)) rfl 507 [some (.ref r0), some (.ref r1), some (.ref r2), some (.ref r3), some (.int x4), none, none] [.ref r0, .int (I r0 j1), .ref r1] rfl ⟨rfl, rfl, rfl, rfl⟩ ?_
  refine Wp.go (x := (.iload 4, 2, 0, 0)) rfl 509 [some (.ref r0), some (.ref r1), some (.ref r2), some (.ref r3), some (.int x4), none, none] [.int x4, .ref r0, .int (I r0 j1), .ref r1] rfl ⟨rfl, rfl, rfl, rfl⟩ ?_
  refine Wp.ic (v := nI 2) rfl rfl (by decide) ?_
  refine Wp.go (x := (.iadd, 1, 0, 0)) rfl 511 [some (.ref r0), some (.ref r1), some (.ref r2), some (.ref r3), some (.int x4), none, none] [.int (x4 + (nI 2)), .ref r0, .int (I r0 j1), .ref r1] rfl ⟨rfl, rfl, rfl, rfl⟩ ?_
  obtain ⟨j2, e, b, H⟩ := H
  refine Wp.ald rfl rfl hn_r0 (Or.inr rfl) (hK hn_r0) ⟨j2, e, b, ?_⟩
  refine Wp.kI (x := (.invokevirtual 83, 3, 86, 3)) (j := 86) (vs := [.ref r1, .int (I r0 j1), .int (I r0 j2)]) (rest := []) rfl (by show xtg 86 (K r1).1 = _; rw [hn_r1]; rfl) rfl ⟨Nat.le_of_ble_eq_true rfl, Nat.le_of_ble_eq_true rfl, Nat.le_of_ble_eq_true rfl⟩ rfl rfl rfl H (fun v3 I4 J5 H => ?_)
  refine Wp.go (x := (.aload_n 2, 1, 0, 0)) rfl 516 [some (.ref r0), some (.ref r1), some (.ref r2), some (.ref r3), some (.int x4), none, none] [.ref r2, .int v3] rfl ⟨rfl, rfl, rfl, rfl⟩ ?_
  refine Wp.go (x := (.aload_n 0, 1, 0, 0)) rfl 517 [some (.ref r0), some (.ref r1), some (.ref r2), some (.ref r3), some (.int x4), none, none] [.ref r0, .ref r2, .int v3] rfl ⟨rfl, rfl, rfl, rfl⟩ ?_
  refine Wp.go (x := (.iload 4, 2, 0, 0)) rfl 519 [some (.ref r0), some (.ref r1), some (.ref r2), some (.ref r3), some (.int x4), none, none] [.int x4, .ref r0, .ref r2, .int v3] rfl ⟨rfl, rfl, rfl, rfl⟩ ?_
  refine Wp.ic (v := nI 1) rfl rfl (by decide) ?_
  refine Wp.go (x := (.iadd, 1, 0, 0)) rfl 521 [some (.ref r0), some (.ref r1), some (.ref r2), some (.ref r3), some (.int x4), none, none] [.int (x4 + (nI 1)), .ref r0, .ref r2, .int v3] rfl ⟨rfl, rfl, rfl, rfl⟩ ?_
  obtain ⟨j6, e, b, H⟩ := H
  refine Wp.ald rfl rfl hn_r0 (Or.inr rfl) (hK hn_r0) ⟨j6, e, b, ?_⟩
  refine Wp.go (x := (.aload_n 0, 1, 0, 0)) rfl 523 [some (.ref r0), some (.ref r1), some (.ref r2), some (.ref r3), some (.int x4), none, none] [.ref r0, .int (I4 r0 j6), .ref r2, .int v3] rfl ⟨rfl, rfl, rfl, rfl⟩ ?_
  refine Wp.go (x := (.iload 4, 2, 0, 0)) rfl 525 [some (.ref r0), some (.ref r1), some (.ref r2), some (.ref r3), some (.int x4), none, none] [.int x4, .ref r0, .int (I4 r0 j6), .ref r2, .int v3] rfl ⟨rfl, rfl, rfl, rfl⟩ ?_
  refine Wp.ic (v := nI 2) rfl rfl (by decide) ?_
  refine Wp.go (x := (.iadd, 1, 0, 0)) rfl 527 [some (.ref r0), some (.ref r1), some (.ref r2), some (.ref r3), some (.int x4), none, none] [.int (x4 + (nI 2)), .ref r0, .int (I4 r0 j6), .ref r2, .int v3] rfl ⟨rfl, rfl, rfl, rfl⟩ ?_
  obtain ⟨j7, e, b, H⟩ := H
  refine Wp.ald rfl rfl hn_r0 (Or.inr rfl) (hK hn_r0) ⟨j7, e, b, ?_⟩
  refine Wp.kI (x := (.invokevirtual 86, 3, 152, 3)) (j := 152) (vs := [.ref r2, .int (I4 r0 j6), .int (I4 r0 j7)]) (rest := [.int v3]) rfl (by show xtg 152 (K r2).1 = _; rw [hn_r2]; rfl) rfl ⟨Nat.le_of_ble_eq_true rfl, Nat.le_of_ble_eq_true rfl, Nat.le_of_ble_eq_true rfl⟩ rfl rfl rfl H (fun v8 I9 J10 H => ?_)
  refine Wp.c_eq rfl rfl ⟨fun c => ?_, fun c => ?_⟩
  · have H := H.1 c
    refine Wp.ii (v := nI 4) rfl rfl (by decide) rfl (L' := [some (.ref r0), some (.ref r1), some (.ref r2), some (.ref r3), some (.int (x4 + nI 4)), none, none]) rfl ?_
    refine Wp.go (x := (.goto (-674), 3, 33, 0)) rfl 33 [some (.ref r0), some (.ref r1), some (.ref r2), some (.ref r3), some (.int (x4 + nI 4)), none, none] [] rfl ⟨rfl, rfl, rfl, rfl⟩ ?_
    exact H
  · have H := H.2 c
    refine Wp.ic (v := nI 0) rfl rfl (by decide) ?_
    exact Wp.rZ rfl rfl (Or.inl rfl) H
set_option maxRecDepth 20000 in
theorem wL_law_536 {d : Nat} {Q : Option Value × xS → Prop} {K : Nat → Nat × Nat} {P : List Nat × Nat × Nat} {I : Nat → Nat → Int32} {J : Nat → Nat → Int64} {F : Nat → Nat → Option Nat} {r0 : Nat} {r1 : Nat} {r2 : Nat} {r3 : Nat} {x4 : Int32} {n_r0 : Nat} {n_r1 : Nat} {n_r2 : Nat} (hK : ∀ {a k n : Nat}, K a = (k, n) → n < 2147483648) (hn_r0 : K r0 = (103, n_r0)) (hn_r1 : K r1 = (9, n_r1)) (hn_r2 : K r2 = (10, n_r2)) (H : (∃ j1 : Nat, (x4 + (nI 1)) = nI j1 ∧ j1 < n_r0 ∧ Wp (d + 6) 87 0 [some (.ref r1), some (.int (I r0 j1))] [] (K, P, I, J, F) (xrI K P F (fun v2 I3 J4 => (∃ j5 : Nat, (x4 + (nI 1)) = nI j5 ∧ j5 < n_r0 ∧ Wp (d + 6) 153 0 [some (.ref r2), some (.int (I3 r0 j5)), none, none] [] (K, P, I3, J4, F) (xrI K P F (fun v6 I7 J8 => ((v2 = v6 → Wp (d + 7) 169 33 [some (.ref r0), some (.ref r1), some (.ref r2), some (.ref r3), some (.int (x4 + nI 4)), none, none] [] (K, P, I7, J8, F) Q) ∧ (¬ v2 = v6 → Q (some (.int (nI 0)), (K, P, I7, J8, F))))))))))) : Wp (d + 7) 169 536 [some (.ref r0), some (.ref r1), some (.ref r2), some (.ref r3), some (.int x4), none, none] [] (K, P, I, J, F) Q := by
  refine Wp.go (x := (.aload_n 1, 1, 0, 0)) rfl 537 [some (.ref r0), some (.ref r1), some (.ref r2), some (.ref r3), some (.int x4), none, none] [.ref r1] rfl ⟨rfl, rfl, rfl, rfl⟩ ?_
  refine Wp.go (x := (.aload_n 0, 1, 0, 0)) rfl 538 [some (.ref r0), some (.ref r1), some (.ref r2), some (.ref r3), some (.int x4), none, none] [.ref r0, .ref r1] rfl ⟨rfl, rfl, rfl, rfl⟩ ?_
  refine Wp.go (x := (.iload 4, 2, 0, 0)) rfl 540 [some (.ref r0), some (.ref r1), some (.ref r2), some (.ref r3), some (.int x4), none, none] [.int x4, .ref r0, .ref r1] rfl ⟨rfl, rfl, rfl, rfl⟩ ?_
  refine Wp.ic (v := nI 1) rfl rfl (by decide) ?_
  refine Wp.go (x := (.iadd, 1, 0, 0)) rfl 542 [some (.ref r0), some (.ref r1), some (.ref r2), some (.ref r3), some (.int x4), none, none] [.int (x4 + (nI 1)), .ref r0, .ref r1] rfl ⟨rfl, rfl, rfl, rfl⟩ ?_
  obtain ⟨j1, e, b, H⟩ := H
  refine Wp.ald rfl rfl hn_r0 (Or.inr rfl) (hK hn_r0) ⟨j1, e, b, ?_⟩
  refine Wp.kI (x := (.invokevirtual 87, 3, 87, 2)) (j := 87) (vs := [.ref r1, .int (I r0 j1)]) (rest := []) rfl (by show xtg 87 (K r1).1 = _; rw [hn_r1]; rfl) rfl ⟨Nat.le_of_ble_eq_true rfl, Nat.le_of_ble_eq_true rfl, Nat.le_of_ble_eq_true rfl⟩ rfl rfl rfl H (fun v2 I3 J4 H => ?_)
  refine Wp.go (x := (.aload_n 2, 1, 0, 0)) rfl 547 [some (.ref r0), some (.ref r1), some (.ref r2), some (.ref r3), some (.int x4), none, none] [.ref r2, .int v2] rfl ⟨rfl, rfl, rfl, rfl⟩ ?_
  refine Wp.go (x := (.aload_n 0, 1, 0, 0)) rfl 548 [some (.ref r0), some (.ref r1), some (.ref r2), some (.ref r3), some (.int x4), none, none] [.ref r0, .ref r2, .int v2] rfl ⟨rfl, rfl, rfl, rfl⟩ ?_
  refine Wp.go (x := (.iload 4, 2, 0, 0)) rfl 550 [some (.ref r0), some (.ref r1), some (.ref r2), some (.ref r3), some (.int x4), none, none] [.int x4, .ref r0, .ref r2, .int v2] rfl ⟨rfl, rfl, rfl, rfl⟩ ?_
  refine Wp.ic (v := nI 1) rfl rfl (by decide) ?_
  refine Wp.go (x := (.iadd, 1, 0, 0)) rfl 552 [some (.ref r0), some (.ref r1), some (.ref r2), some (.ref r3), some (.int x4), none, none] [.int (x4 + (nI 1)), .ref r0, .ref r2, .int v2] rfl ⟨rfl, rfl, rfl, rfl⟩ ?_
  obtain ⟨j5, e, b, H⟩ := H
  refine Wp.ald rfl rfl hn_r0 (Or.inr rfl) (hK hn_r0) ⟨j5, e, b, ?_⟩
  refine Wp.kI (x := (.invokevirtual 90, 3, 153, 2)) (j := 153) (vs := [.ref r2, .int (I3 r0 j5)]) (rest := [.int v2]) rfl (by show xtg 153 (K r2).1 = _; rw [hn_r2]; rfl) rfl ⟨Nat.le_of_ble_eq_true rfl, Nat.le_of_ble_eq_true rfl, Nat.le_of_ble_eq_true rfl⟩ rfl rfl rfl H (fun v6 I7 J8 H => ?_)
  refine Wp.c_eq rfl rfl ⟨fun c => ?_, fun c => ?_⟩
  · have H := H.1 c
    refine Wp.ii (v := nI 4) rfl rfl (by decide) rfl (L' := [some (.ref r0), some (.ref r1), some (.ref r2), some (.ref r3), some (.int (x4 + nI 4)), none, none]) rfl ?_
    refine Wp.go (x := (.goto (-674), 3, 33, 0)) rfl 33 [some (.ref r0), some (.ref r1), some (.ref r2), some (.ref r3), some (.int (x4 + nI 4)), none, none] [] rfl ⟨rfl, rfl, rfl, rfl⟩ ?_
    exact H
  · have H := H.2 c
    refine Wp.ic (v := nI 0) rfl rfl (by decide) ?_
    exact Wp.rZ rfl rfl (Or.inl rfl) H
set_option maxRecDepth 20000 in
theorem wL_law_561 {d : Nat} {Q : Option Value × xS → Prop} {K : Nat → Nat × Nat} {P : List Nat × Nat × Nat} {I : Nat → Nat → Int32} {J : Nat → Nat → Int64} {F : Nat → Nat → Option Nat} {r0 : Nat} {r1 : Nat} {r2 : Nat} {r3 : Nat} {x4 : Int32} {n_r0 : Nat} {n_r1 : Nat} {n_r2 : Nat} (hK : ∀ {a k n : Nat}, K a = (k, n) → n < 2147483648) (hn_r0 : K r0 = (103, n_r0)) (hn_r1 : K r1 = (9, n_r1)) (hn_r2 : K r2 = (10, n_r2)) (H : (∃ j1 : Nat, (x4 + (nI 1)) = nI j1 ∧ j1 < n_r0 ∧ Wp (d + 6) 88 0 [some (.ref r1), some (.int (I r0 j1))] [] (K, P, I, J, F) (xrJ K P F (fun v2 I3 J4 => (∃ j5 : Nat, (x4 + (nI 1)) = nI j5 ∧ j5 < n_r0 ∧ Wp (d + 6) 159 0 [some (.ref r2), some (.int (I3 r0 j5)), none, none, none, none, none, none] [] (K, P, I3, J4, F) (xrJ K P F (fun v6 I7 J8 => (((lg_cmp v2 v6) = 0 → Wp (d + 7) 169 33 [some (.ref r0), some (.ref r1), some (.ref r2), some (.ref r3), some (.int (x4 + nI 4)), none, none] [] (K, P, I7, J8, F) Q) ∧ (¬ (lg_cmp v2 v6) = 0 → Q (some (.int (nI 0)), (K, P, I7, J8, F))))))))))) : Wp (d + 7) 169 561 [some (.ref r0), some (.ref r1), some (.ref r2), some (.ref r3), some (.int x4), none, none] [] (K, P, I, J, F) Q := by
  refine Wp.go (x := (.aload_n 1, 1, 0, 0)) rfl 562 [some (.ref r0), some (.ref r1), some (.ref r2), some (.ref r3), some (.int x4), none, none] [.ref r1] rfl ⟨rfl, rfl, rfl, rfl⟩ ?_
  refine Wp.go (x := (.aload_n 0, 1, 0, 0)) rfl 563 [some (.ref r0), some (.ref r1), some (.ref r2), some (.ref r3), some (.int x4), none, none] [.ref r0, .ref r1] rfl ⟨rfl, rfl, rfl, rfl⟩ ?_
  refine Wp.go (x := (.iload 4, 2, 0, 0)) rfl 565 [some (.ref r0), some (.ref r1), some (.ref r2), some (.ref r3), some (.int x4), none, none] [.int x4, .ref r0, .ref r1] rfl ⟨rfl, rfl, rfl, rfl⟩ ?_
  refine Wp.ic (v := nI 1) rfl rfl (by decide) ?_
  refine Wp.go (x := (.iadd, 1, 0, 0)) rfl 567 [some (.ref r0), some (.ref r1), some (.ref r2), some (.ref r3), some (.int x4), none, none] [.int (x4 + (nI 1)), .ref r0, .ref r1] rfl ⟨rfl, rfl, rfl, rfl⟩ ?_
  obtain ⟨j1, e, b, H⟩ := H
  refine Wp.ald rfl rfl hn_r0 (Or.inr rfl) (hK hn_r0) ⟨j1, e, b, ?_⟩
  refine Wp.kJ (x := (.invokevirtual 91, 3, 88, 2)) (j := 88) (vs := [.ref r1, .int (I r0 j1)]) (rest := []) rfl (by show xtg 88 (K r1).1 = _; rw [hn_r1]; rfl) rfl ⟨Nat.le_of_ble_eq_true rfl, Nat.le_of_ble_eq_true rfl, Nat.le_of_ble_eq_true rfl⟩ rfl rfl rfl H (fun v2 I3 J4 H => ?_)
  refine Wp.go (x := (.aload_n 2, 1, 0, 0)) rfl 572 [some (.ref r0), some (.ref r1), some (.ref r2), some (.ref r3), some (.int x4), none, none] [.ref r2, .long v2] rfl ⟨rfl, rfl, rfl, rfl⟩ ?_
  refine Wp.go (x := (.aload_n 0, 1, 0, 0)) rfl 573 [some (.ref r0), some (.ref r1), some (.ref r2), some (.ref r3), some (.int x4), none, none] [.ref r0, .ref r2, .long v2] rfl ⟨rfl, rfl, rfl, rfl⟩ ?_
  refine Wp.go (x := (.iload 4, 2, 0, 0)) rfl 575 [some (.ref r0), some (.ref r1), some (.ref r2), some (.ref r3), some (.int x4), none, none] [.int x4, .ref r0, .ref r2, .long v2] rfl ⟨rfl, rfl, rfl, rfl⟩ ?_
  refine Wp.ic (v := nI 1) rfl rfl (by decide) ?_
  refine Wp.go (x := (.iadd, 1, 0, 0)) rfl 577 [some (.ref r0), some (.ref r1), some (.ref r2), some (.ref r3), some (.int x4), none, none] [.int (x4 + (nI 1)), .ref r0, .ref r2, .long v2] rfl ⟨rfl, rfl, rfl, rfl⟩ ?_
  obtain ⟨j5, e, b, H⟩ := H
  refine Wp.ald rfl rfl hn_r0 (Or.inr rfl) (hK hn_r0) ⟨j5, e, b, ?_⟩
  refine Wp.kJ (x := (.invokevirtual 94, 3, 159, 2)) (j := 159) (vs := [.ref r2, .int (I3 r0 j5)]) (rest := [.long v2]) rfl (by show xtg 159 (K r2).1 = _; rw [hn_r2]; rfl) rfl ⟨Nat.le_of_ble_eq_true rfl, Nat.le_of_ble_eq_true rfl, Nat.le_of_ble_eq_true rfl⟩ rfl rfl rfl H (fun v6 I7 J8 H => ?_)
  refine Wp.go (x := (.lcmp, 1, 0, 0)) rfl 582 [some (.ref r0), some (.ref r1), some (.ref r2), some (.ref r3), some (.int x4), none, none] [.int (lg_cmp v2 v6)] rfl ⟨rfl, rfl, rfl, rfl⟩ ?_
  refine Wp.z_eq rfl rfl ⟨fun c => ?_, fun c => ?_⟩
  · have H := H.1 c
    refine Wp.ii (v := nI 4) rfl rfl (by decide) rfl (L' := [some (.ref r0), some (.ref r1), some (.ref r2), some (.ref r3), some (.int (x4 + nI 4)), none, none]) rfl ?_
    refine Wp.go (x := (.goto (-674), 3, 33, 0)) rfl 33 [some (.ref r0), some (.ref r1), some (.ref r2), some (.ref r3), some (.int (x4 + nI 4)), none, none] [] rfl ⟨rfl, rfl, rfl, rfl⟩ ?_
    exact H
  · have H := H.2 c
    refine Wp.ic (v := nI 0) rfl rfl (by decide) ?_
    exact Wp.rZ rfl rfl (Or.inl rfl) H
set_option maxRecDepth 20000 in
theorem wL_law_587 {d : Nat} {Q : Option Value × xS → Prop} {K : Nat → Nat × Nat} {P : List Nat × Nat × Nat} {I : Nat → Nat → Int32} {J : Nat → Nat → Int64} {F : Nat → Nat → Option Nat} {r0 : Nat} {r1 : Nat} {r2 : Nat} {r3 : Nat} {x4 : Int32} {n_r0 : Nat} {n_r1 : Nat} {n_r2 : Nat} (hK : ∀ {a k n : Nat}, K a = (k, n) → n < 2147483648) (hn_r0 : K r0 = (103, n_r0)) (hn_r1 : K r1 = (9, n_r1)) (hn_r2 : K r2 = (10, n_r2)) (H : (∃ j1 : Nat, (x4 + (nI 1)) = nI j1 ∧ j1 < n_r0 ∧ Wp (d + 6) 89 0 [some (.ref r1), some (.int (I r0 j1))] [] (K, P, I, J, F) (xrI K P F (fun v2 I3 J4 => (∃ j5 : Nat, (x4 + (nI 1)) = nI j5 ∧ j5 < n_r0 ∧ Wp (d + 6) 160 0 [some (.ref r2), some (.int (I3 r0 j5))] [] (K, P, I3, J4, F) (xrI K P F (fun v6 I7 J8 => ((v2 = v6 → Wp (d + 7) 169 33 [some (.ref r0), some (.ref r1), some (.ref r2), some (.ref r3), some (.int (x4 + nI 4)), none, none] [] (K, P, I7, J8, F) Q) ∧ (¬ v2 = v6 → Q (some (.int (nI 0)), (K, P, I7, J8, F))))))))))) : Wp (d + 7) 169 587 [some (.ref r0), some (.ref r1), some (.ref r2), some (.ref r3), some (.int x4), none, none] [] (K, P, I, J, F) Q := by
  refine Wp.go (x := (.aload_n 1, 1, 0, 0)) rfl 588 [some (.ref r0), some (.ref r1), some (.ref r2), some (.ref r3), some (.int x4), none, none] [.ref r1] rfl ⟨rfl, rfl, rfl, rfl⟩ ?_
  refine Wp.go (x := (.aload_n 0, 1, 0, 0)) rfl 589 [some (.ref r0), some (.ref r1), some (.ref r2), some (.ref r3), some (.int x4), none, none] [.ref r0, .ref r1] rfl ⟨rfl, rfl, rfl, rfl⟩ ?_
  refine Wp.go (x := (.iload 4, 2, 0, 0)) rfl 591 [some (.ref r0), some (.ref r1), some (.ref r2), some (.ref r3), some (.int x4), none, none] [.int x4, .ref r0, .ref r1] rfl ⟨rfl, rfl, rfl, rfl⟩ ?_
  refine Wp.ic (v := nI 1) rfl rfl (by decide) ?_
  refine Wp.go (x := (.iadd, 1, 0, 0)) rfl 593 [some (.ref r0), some (.ref r1), some (.ref r2), some (.ref r3), some (.int x4), none, none] [.int (x4 + (nI 1)), .ref r0, .ref r1] rfl ⟨rfl, rfl, rfl, rfl⟩ ?_
  obtain ⟨j1, e, b, H⟩ := H
  refine Wp.ald rfl rfl hn_r0 (Or.inr rfl) (hK hn_r0) ⟨j1, e, b, ?_⟩
  refine Wp.kI (x := (.invokevirtual 95, 3, 89, 2)) (j := 89) (vs := [.ref r1, .int (I r0 j1)]) (rest := []) rfl (by show xtg 89 (K r1).1 = _; rw [hn_r1]; rfl) rfl ⟨Nat.le_of_ble_eq_true rfl, Nat.le_of_ble_eq_true rfl, Nat.le_of_ble_eq_true rfl⟩ rfl rfl rfl H (fun v2 I3 J4 H => ?_)
  refine Wp.go (x := (.aload_n 2, 1, 0, 0)) rfl 598 [some (.ref r0), some (.ref r1), some (.ref r2), some (.ref r3), some (.int x4), none, none] [.ref r2, .int v2] rfl ⟨rfl, rfl, rfl, rfl⟩ ?_
  refine Wp.go (x := (.aload_n 0, 1, 0, 0)) rfl 599 [some (.ref r0), some (.ref r1), some (.ref r2), some (.ref r3), some (.int x4), none, none] [.ref r0, .ref r2, .int v2] rfl ⟨rfl, rfl, rfl, rfl⟩ ?_
  refine Wp.go (x := (.iload 4, 2, 0, 0)) rfl 601 [some (.ref r0), some (.ref r1), some (.ref r2), some (.ref r3), some (.int x4), none, none] [.int x4, .ref r0, .ref r2, .int v2] rfl ⟨rfl, rfl, rfl, rfl⟩ ?_
  refine Wp.ic (v := nI 1) rfl rfl (by decide) ?_
  refine Wp.go (x := (.iadd, 1, 0, 0)) rfl 603 [some (.ref r0), some (.ref r1), some (.ref r2), some (.ref r3), some (.int x4), none, none] [.int (x4 + (nI 1)), .ref r0, .ref r2, .int v2] rfl ⟨rfl, rfl, rfl, rfl⟩ ?_
  obtain ⟨j5, e, b, H⟩ := H
  refine Wp.ald rfl rfl hn_r0 (Or.inr rfl) (hK hn_r0) ⟨j5, e, b, ?_⟩
  refine Wp.kI (x := (.invokevirtual 98, 3, 160, 2)) (j := 160) (vs := [.ref r2, .int (I3 r0 j5)]) (rest := [.int v2]) rfl (by show xtg 160 (K r2).1 = _; rw [hn_r2]; rfl) rfl ⟨Nat.le_of_ble_eq_true rfl, Nat.le_of_ble_eq_true rfl, Nat.le_of_ble_eq_true rfl⟩ rfl rfl rfl H (fun v6 I7 J8 H => ?_)
  refine Wp.c_eq rfl rfl ⟨fun c => ?_, fun c => ?_⟩
  · have H := H.1 c
    refine Wp.ii (v := nI 4) rfl rfl (by decide) rfl (L' := [some (.ref r0), some (.ref r1), some (.ref r2), some (.ref r3), some (.int (x4 + nI 4)), none, none]) rfl ?_
    refine Wp.go (x := (.goto (-674), 3, 33, 0)) rfl 33 [some (.ref r0), some (.ref r1), some (.ref r2), some (.ref r3), some (.int (x4 + nI 4)), none, none] [] rfl ⟨rfl, rfl, rfl, rfl⟩ ?_
    exact H
  · have H := H.2 c
    refine Wp.ic (v := nI 0) rfl rfl (by decide) ?_
    exact Wp.rZ rfl rfl (Or.inl rfl) H
set_option maxRecDepth 20000 in
theorem wL_law_612 {d : Nat} {Q : Option Value × xS → Prop} {K : Nat → Nat × Nat} {P : List Nat × Nat × Nat} {I : Nat → Nat → Int32} {J : Nat → Nat → Int64} {F : Nat → Nat → Option Nat} {r0 : Nat} {r1 : Nat} {r2 : Nat} {r3 : Nat} {x4 : Int32} {n_r0 : Nat} {n_r1 : Nat} {n_r2 : Nat} (hK : ∀ {a k n : Nat}, K a = (k, n) → n < 2147483648) (hn_r0 : K r0 = (103, n_r0)) (hn_r1 : K r1 = (9, n_r1)) (hn_r2 : K r2 = (10, n_r2)) (H : (∃ j1 : Nat, (x4 + (nI 1)) = nI j1 ∧ j1 < n_r0 ∧ Wp (d + 6) 90 0 [some (.ref r1), some (.int (I r0 j1))] [] (K, P, I, J, F) (xrI K P F (fun v2 I3 J4 => (∃ j5 : Nat, (x4 + (nI 1)) = nI j5 ∧ j5 < n_r0 ∧ Wp (d + 6) 161 0 [some (.ref r2), some (.int (I3 r0 j5))] [] (K, P, I3, J4, F) (xrI K P F (fun v6 I7 J8 => ((v2 = v6 → Wp (d + 7) 169 33 [some (.ref r0), some (.ref r1), some (.ref r2), some (.ref r3), some (.int (x4 + nI 4)), none, none] [] (K, P, I7, J8, F) Q) ∧ (¬ v2 = v6 → Q (some (.int (nI 0)), (K, P, I7, J8, F))))))))))) : Wp (d + 7) 169 612 [some (.ref r0), some (.ref r1), some (.ref r2), some (.ref r3), some (.int x4), none, none] [] (K, P, I, J, F) Q := by
  refine Wp.go (x := (.aload_n 1, 1, 0, 0)) rfl 613 [some (.ref r0), some (.ref r1), some (.ref r2), some (.ref r3), some (.int x4), none, none] [.ref r1] rfl ⟨rfl, rfl, rfl, rfl⟩ ?_
  refine Wp.go (x := (.aload_n 0, 1, 0, 0)) rfl 614 [some (.ref r0), some (.ref r1), some (.ref r2), some (.ref r3), some (.int x4), none, none] [.ref r0, .ref r1] rfl ⟨rfl, rfl, rfl, rfl⟩ ?_
  refine Wp.go (x := (.iload 4, 2, 0, 0)) rfl 616 [some (.ref r0), some (.ref r1), some (.ref r2), some (.ref r3), some (.int x4), none, none] [.int x4, .ref r0, .ref r1] rfl ⟨rfl, rfl, rfl, rfl⟩ ?_
  refine Wp.ic (v := nI 1) rfl rfl (by decide) ?_
  refine Wp.go (x := (.iadd, 1, 0, 0)) rfl 618 [some (.ref r0), some (.ref r1), some (.ref r2), some (.ref r3), some (.int x4), none, none] [.int (x4 + (nI 1)), .ref r0, .ref r1] rfl ⟨rfl, rfl, rfl, rfl⟩ ?_
  obtain ⟨j1, e, b, H⟩ := H
  refine Wp.ald rfl rfl hn_r0 (Or.inr rfl) (hK hn_r0) ⟨j1, e, b, ?_⟩
  refine Wp.kI (x := (.invokevirtual 99, 3, 90, 2)) (j := 90) (vs := [.ref r1, .int (I r0 j1)]) (rest := []) rfl (by show xtg 90 (K r1).1 = _; rw [hn_r1]; rfl) rfl ⟨Nat.le_of_ble_eq_true rfl, Nat.le_of_ble_eq_true rfl, Nat.le_of_ble_eq_true rfl⟩ rfl rfl rfl H (fun v2 I3 J4 H => ?_)
  refine Wp.go (x := (.aload_n 2, 1, 0, 0)) rfl 623 [some (.ref r0), some (.ref r1), some (.ref r2), some (.ref r3), some (.int x4), none, none] [.ref r2, .int v2] rfl ⟨rfl, rfl, rfl, rfl⟩ ?_
  refine Wp.go (x := (.aload_n 0, 1, 0, 0)) rfl 624 [some (.ref r0), some (.ref r1), some (.ref r2), some (.ref r3), some (.int x4), none, none] [.ref r0, .ref r2, .int v2] rfl ⟨rfl, rfl, rfl, rfl⟩ ?_
  refine Wp.go (x := (.iload 4, 2, 0, 0)) rfl 626 [some (.ref r0), some (.ref r1), some (.ref r2), some (.ref r3), some (.int x4), none, none] [.int x4, .ref r0, .ref r2, .int v2] rfl ⟨rfl, rfl, rfl, rfl⟩ ?_
  refine Wp.ic (v := nI 1) rfl rfl (by decide) ?_
  refine Wp.go (x := (.iadd, 1, 0, 0)) rfl 628 [some (.ref r0), some (.ref r1), some (.ref r2), some (.ref r3), some (.int x4), none, none] [.int (x4 + (nI 1)), .ref r0, .ref r2, .int v2] rfl ⟨rfl, rfl, rfl, rfl⟩ ?_
  obtain ⟨j5, e, b, H⟩ := H
  refine Wp.ald rfl rfl hn_r0 (Or.inr rfl) (hK hn_r0) ⟨j5, e, b, ?_⟩
  refine Wp.kI (x := (.invokevirtual 102, 3, 161, 2)) (j := 161) (vs := [.ref r2, .int (I3 r0 j5)]) (rest := [.int v2]) rfl (by show xtg 161 (K r2).1 = _; rw [hn_r2]; rfl) rfl ⟨Nat.le_of_ble_eq_true rfl, Nat.le_of_ble_eq_true rfl, Nat.le_of_ble_eq_true rfl⟩ rfl rfl rfl H (fun v6 I7 J8 H => ?_)
  refine Wp.c_eq rfl rfl ⟨fun c => ?_, fun c => ?_⟩
  · have H := H.1 c
    refine Wp.ii (v := nI 4) rfl rfl (by decide) rfl (L' := [some (.ref r0), some (.ref r1), some (.ref r2), some (.ref r3), some (.int (x4 + nI 4)), none, none]) rfl ?_
    refine Wp.go (x := (.goto (-674), 3, 33, 0)) rfl 33 [some (.ref r0), some (.ref r1), some (.ref r2), some (.ref r3), some (.int (x4 + nI 4)), none, none] [] rfl ⟨rfl, rfl, rfl, rfl⟩ ?_
    exact H
  · have H := H.2 c
    refine Wp.ic (v := nI 0) rfl rfl (by decide) ?_
    exact Wp.rZ rfl rfl (Or.inl rfl) H
set_option maxRecDepth 20000 in
theorem wL_law_637 {d : Nat} {Q : Option Value × xS → Prop} {K : Nat → Nat × Nat} {P : List Nat × Nat × Nat} {I : Nat → Nat → Int32} {J : Nat → Nat → Int64} {F : Nat → Nat → Option Nat} {r0 : Nat} {r1 : Nat} {r2 : Nat} {r3 : Nat} {x4 : Int32} {n_r1 : Nat} {n_r2 : Nat} (hn_r1 : K r1 = (9, n_r1)) (hn_r2 : K r2 = (10, n_r2)) (H : Wp (d + 6) 91 0 [some (.ref r1)] [] (K, P, I, J, F) (xrV K P F (fun I1 J2 => Wp (d + 6) 162 0 [some (.ref r2)] [] (K, P, I1, J2, F) (xrV K P F (fun I3 J4 => Wp (d + 7) 169 33 [some (.ref r0), some (.ref r1), some (.ref r2), some (.ref r3), some (.int (x4 + nI 4)), none, none] [] (K, P, I3, J4, F) Q))))) : Wp (d + 7) 169 637 [some (.ref r0), some (.ref r1), some (.ref r2), some (.ref r3), some (.int x4), none, none] [] (K, P, I, J, F) Q := by
  refine Wp.go (x := (.aload_n 1, 1, 0, 0)) rfl 638 [some (.ref r0), some (.ref r1), some (.ref r2), some (.ref r3), some (.int x4), none, none] [.ref r1] rfl ⟨rfl, rfl, rfl, rfl⟩ ?_
  refine Wp.kV (x := (.invokevirtual 103, 3, 91, 1)) (j := 91) (vs := [.ref r1]) (rest := []) rfl (by show xtg 91 (K r1).1 = _; rw [hn_r1]; rfl) rfl ⟨Nat.le_of_ble_eq_true rfl, Nat.le_of_ble_eq_true rfl, Nat.le_of_ble_eq_true rfl⟩ rfl rfl rfl H (fun I1 J2 H => ?_)
  refine Wp.go (x := (.aload_n 2, 1, 0, 0)) rfl 642 [some (.ref r0), some (.ref r1), some (.ref r2), some (.ref r3), some (.int x4), none, none] [.ref r2] rfl ⟨rfl, rfl, rfl, rfl⟩ ?_
  refine Wp.kV (x := (.invokevirtual 106, 3, 162, 1)) (j := 162) (vs := [.ref r2]) (rest := []) rfl (by show xtg 162 (K r2).1 = _; rw [hn_r2]; rfl) rfl ⟨Nat.le_of_ble_eq_true rfl, Nat.le_of_ble_eq_true rfl, Nat.le_of_ble_eq_true rfl⟩ rfl rfl rfl H (fun I3 J4 H => ?_)
  refine Wp.go (x := (.goto 59, 3, 704, 0)) rfl 704 [some (.ref r0), some (.ref r1), some (.ref r2), some (.ref r3), some (.int x4), none, none] [] rfl ⟨rfl, rfl, rfl, rfl⟩ ?_
  refine Wp.ii (v := nI 4) rfl rfl (by decide) rfl (L' := [some (.ref r0), some (.ref r1), some (.ref r2), some (.ref r3), some (.int (x4 + nI 4)), none, none]) rfl ?_
  refine Wp.go (x := (.goto (-674), 3, 33, 0)) rfl 33 [some (.ref r0), some (.ref r1), some (.ref r2), some (.ref r3), some (.int (x4 + nI 4)), none, none] [] rfl ⟨rfl, rfl, rfl, rfl⟩ ?_
  exact H
set_option maxRecDepth 20000 in
theorem wL_law_648 {d : Nat} {Q : Option Value × xS → Prop} {K : Nat → Nat × Nat} {P : List Nat × Nat × Nat} {I : Nat → Nat → Int32} {J : Nat → Nat → Int64} {F : Nat → Nat → Option Nat} {r0 : Nat} {r1 : Nat} {r2 : Nat} {r3 : Nat} {x4 : Int32} {n_r0 : Nat} {n_r1 : Nat} {f2 : Nat} {n_f2 : Nat} {f3 : Nat} {n_f3 : Nat} {n_r2 : Nat} {n_r3 : Nat} (hK : ∀ {a k n : Nat}, K a = (k, n) → n < 2147483648) (hn_r0 : K r0 = (103, n_r0)) (hn_r1 : K r1 = (9, n_r1)) (hf2 : F r1 1 = some f2) (hn_f2 : K f2 = (8, n_f2)) (hf3 : F f2 2 = some f3) (hn_f3 : K f3 = (100, n_f3)) (ho_r3 : K r3 = (101, 1)) (hP1 : P.1 = []) (hn_r2 : K r2 = (10, n_r2)) (hn_r3 : K r3 = (101, n_r3)) (H : (∃ j1 : Nat, (x4 + (nI 1)) = nI j1 ∧ j1 < n_r0 ∧ ((((I r0 j1) < 0 ∨ I f2 3 ≤ (I r0 j1)) → (∃ j4 : Nat, (x4 + (nI 1)) = nI j4 ∧ j4 < n_r0 ∧ Wp (d + 6) 163 0 [some (.ref r2), some (.int (I r0 j4))] [] (K, (P.1, P.2.1 + xcT, P.2.2 + xsT), I, J, F) (xrI K (P.1, P.2.1 + xcT, P.2.2 + xsT) F (fun v5 I6 J7 => Wp (d + 6) 97 0 [some (.ref r2)] [] (K, (P.1, P.2.1 + xcT, P.2.2 + xsT), I6, J7, F) (xrI K (P.1, P.2.1 + xcT, P.2.2 + xsT) F (fun v8 I9 J10 => ((v8 = (nI 1) → ((¬ (nI 1) = 0 → Wp (d + 7) 169 33 [some (.ref r0), some (.ref r1), some (.ref r2), some (.ref r3), some (.int (x4 + nI 4)), none, none] [] (K, (P.1, P.2.1 + xcT, P.2.2 + xsT), I9, J10, F) Q) ∧ ((nI 1) = 0 → (∃ j11 : Nat, (nI 0) = nI j11 ∧ j11 < n_r3 ∧ (((lg_cmp (J10 r3 j11) v5.toInt64) = 0 → Wp (d + 7) 169 33 [some (.ref r0), some (.ref r1), some (.ref r2), some (.ref r3), some (.int (x4 + nI 4)), none, none] [] (K, (P.1, P.2.1 + xcT, P.2.2 + xsT), I9, J10, F) Q) ∧ (¬ (lg_cmp (J10 r3 j11) v5.toInt64) = 0 → Q (some (.int (nI 0)), (K, (P.1, P.2.1 + xcT, P.2.2 + xsT), I9, J10, F)))))))) ∧ (¬ v8 = (nI 1) → Q (some (.int (nI 0)), (K, (P.1, P.2.1 + xcT, P.2.2 + xsT), I9, J10, F)))))))))) ∧ (¬ ((I r0 j1) < 0 ∨ I f2 3 ≤ (I r0 j1)) → ∃ j12 : Nat, (I r0 j1) = nI j12 ∧ j12 < n_f3 ∧ (∃ j13 : Nat, (x4 + (nI 1)) = nI j13 ∧ j13 < n_r0 ∧ Wp (d + 6) 163 0 [some (.ref r2), some (.int (I r0 j13))] [] (K, (P.1, P.2.1 + xcT, P.2.2 + xsT), I, (xup J r3 0 (I f3 j12).toInt64), F) (xrI K (P.1, P.2.1 + xcT, P.2.2 + xsT) F (fun v14 I15 J16 => Wp (d + 6) 97 0 [some (.ref r2)] [] (K, (P.1, P.2.1 + xcT, P.2.2 + xsT), I15, J16, F) (xrI K (P.1, P.2.1 + xcT, P.2.2 + xsT) F (fun v17 I18 J19 => ((v17 = (nI 0) → ((¬ (nI 0) = 0 → Wp (d + 7) 169 33 [some (.ref r0), some (.ref r1), some (.ref r2), some (.ref r3), some (.int (x4 + nI 4)), none, none] [] (K, (P.1, P.2.1 + xcT, P.2.2 + xsT), I18, J19, F) Q) ∧ ((nI 0) = 0 → (∃ j20 : Nat, (nI 0) = nI j20 ∧ j20 < n_r3 ∧ (((lg_cmp (J19 r3 j20) v14.toInt64) = 0 → Wp (d + 7) 169 33 [some (.ref r0), some (.ref r1), some (.ref r2), some (.ref r3), some (.int (x4 + nI 4)), none, none] [] (K, (P.1, P.2.1 + xcT, P.2.2 + xsT), I18, J19, F) Q) ∧ (¬ (lg_cmp (J19 r3 j20) v14.toInt64) = 0 → Q (some (.int (nI 0)), (K, (P.1, P.2.1 + xcT, P.2.2 + xsT), I18, J19, F)))))))) ∧ (¬ v17 = (nI 0) → Q (some (.int (nI 0)), (K, (P.1, P.2.1 + xcT, P.2.2 + xsT), I18, J19, F))))))))))))) : Wp (d + 7) 169 648 [some (.ref r0), some (.ref r1), some (.ref r2), some (.ref r3), some (.int x4), none, none] [] (K, P, I, J, F) Q := by
  refine Wp.go (x := (.aload_n 1, 1, 0, 0)) rfl 649 [some (.ref r0), some (.ref r1), some (.ref r2), some (.ref r3), some (.int x4), none, none] [.ref r1] rfl ⟨rfl, rfl, rfl, rfl⟩ ?_
  refine Wp.go (x := (.aload_n 0, 1, 0, 0)) rfl 650 [some (.ref r0), some (.ref r1), some (.ref r2), some (.ref r3), some (.int x4), none, none] [.ref r0, .ref r1] rfl ⟨rfl, rfl, rfl, rfl⟩ ?_
  refine Wp.go (x := (.iload 4, 2, 0, 0)) rfl 652 [some (.ref r0), some (.ref r1), some (.ref r2), some (.ref r3), some (.int x4), none, none] [.int x4, .ref r0, .ref r1] rfl ⟨rfl, rfl, rfl, rfl⟩ ?_
  refine Wp.ic (v := nI 1) rfl rfl (by decide) ?_
  refine Wp.go (x := (.iadd, 1, 0, 0)) rfl 654 [some (.ref r0), some (.ref r1), some (.ref r2), some (.ref r3), some (.int x4), none, none] [.int (x4 + (nI 1)), .ref r0, .ref r1] rfl ⟨rfl, rfl, rfl, rfl⟩ ?_
  obtain ⟨j1, e, b, H⟩ := H
  refine Wp.ald rfl rfl hn_r0 (Or.inr rfl) (hK hn_r0) ⟨j1, e, b, ?_⟩
  refine Wp.go (x := (.aload_n 3, 1, 0, 0)) rfl 656 [some (.ref r0), some (.ref r1), some (.ref r2), some (.ref r3), some (.int x4), none, none] [.ref r3, .int (I r0 j1), .ref r1] rfl ⟨rfl, rfl, rfl, rfl⟩ ?_
  refine Wp.tri rfl rfl hn_r1 hf2 hn_f2 hf3 hn_f3 ho_r3 hP1 (by omega) (Nat.le_of_ble_eq_true rfl) ⟨fun c => ?_, fun c => ?_⟩ (hK hn_f3)
  · have H := H.1 c
    refine Wp.go (x := (.istore 5, 2, 0, 0)) rfl 661 [some (.ref r0), some (.ref r1), some (.ref r2), some (.ref r3), some (.int x4), some (.int (nI 1)), none] [] rfl ⟨rfl, rfl, rfl, rfl⟩ ?_
    refine Wp.go (x := (.aload_n 2, 1, 0, 0)) rfl 662 [some (.ref r0), some (.ref r1), some (.ref r2), some (.ref r3), some (.int x4), some (.int (nI 1)), none] [.ref r2] rfl ⟨rfl, rfl, rfl, rfl⟩ ?_
    refine Wp.go (x := (.aload_n 0, 1, 0, 0)) rfl 663 [some (.ref r0), some (.ref r1), some (.ref r2), some (.ref r3), some (.int x4), some (.int (nI 1)), none] [.ref r0, .ref r2] rfl ⟨rfl, rfl, rfl, rfl⟩ ?_
    refine Wp.go (x := (.iload 4, 2, 0, 0)) rfl 665 [some (.ref r0), some (.ref r1), some (.ref r2), some (.ref r3), some (.int x4), some (.int (nI 1)), none] [.int x4, .ref r0, .ref r2] rfl ⟨rfl, rfl, rfl, rfl⟩ ?_
    refine Wp.ic (v := nI 1) rfl rfl (by decide) ?_
    refine Wp.go (x := (.iadd, 1, 0, 0)) rfl 667 [some (.ref r0), some (.ref r1), some (.ref r2), some (.ref r3), some (.int x4), some (.int (nI 1)), none] [.int (x4 + (nI 1)), .ref r0, .ref r2] rfl ⟨rfl, rfl, rfl, rfl⟩ ?_
    obtain ⟨j4, e, b, H⟩ := H
    refine Wp.ald rfl rfl hn_r0 (Or.inr rfl) (hK hn_r0) ⟨j4, e, b, ?_⟩
    refine Wp.kI (x := (.invokevirtual 110, 3, 163, 2)) (j := 163) (vs := [.ref r2, .int (I r0 j4)]) (rest := []) rfl (by show xtg 163 (K r2).1 = _; rw [hn_r2]; rfl) rfl ⟨Nat.le_of_ble_eq_true rfl, Nat.le_of_ble_eq_true rfl, Nat.le_of_ble_eq_true rfl⟩ rfl rfl rfl H (fun v5 I6 J7 H => ?_)
    refine Wp.go (x := (.istore 6, 2, 0, 0)) rfl 673 [some (.ref r0), some (.ref r1), some (.ref r2), some (.ref r3), some (.int x4), some (.int (nI 1)), some (.int v5)] [] rfl ⟨rfl, rfl, rfl, rfl⟩ ?_
    refine Wp.go (x := (.aload_n 2, 1, 0, 0)) rfl 674 [some (.ref r0), some (.ref r1), some (.ref r2), some (.ref r3), some (.int x4), some (.int (nI 1)), some (.int v5)] [.ref r2] rfl ⟨rfl, rfl, rfl, rfl⟩ ?_
    refine Wp.kI (x := (.invokevirtual 111, 3, 97, 1)) (j := 97) (vs := [.ref r2]) (rest := []) rfl (by show xtg 97 (K r2).1 = _; rw [hn_r2]; rfl) rfl ⟨Nat.le_of_ble_eq_true rfl, Nat.le_of_ble_eq_true rfl, Nat.le_of_ble_eq_true rfl⟩ rfl rfl rfl H (fun v8 I9 J10 H => ?_)
    refine Wp.go (x := (.iload 5, 2, 0, 0)) rfl 679 [some (.ref r0), some (.ref r1), some (.ref r2), some (.ref r3), some (.int x4), some (.int (nI 1)), some (.int v5)] [.int (nI 1), .int v8] rfl ⟨rfl, rfl, rfl, rfl⟩ ?_
    refine Wp.c_eq rfl rfl ⟨fun c => ?_, fun c => ?_⟩
    · have H := H.1 c
      refine Wp.go (x := (.iload 5, 2, 0, 0)) rfl 686 [some (.ref r0), some (.ref r1), some (.ref r2), some (.ref r3), some (.int x4), some (.int (nI 1)), some (.int v5)] [.int (nI 1)] rfl ⟨rfl, rfl, rfl, rfl⟩ ?_
      refine Wp.z_ne rfl rfl ⟨fun c => ?_, fun c => ?_⟩
      · have H := H.1 c
        refine Wp.go (x := (.goto 3, 3, 704, 0)) rfl 704 [some (.ref r0), some (.ref r1), some (.ref r2), some (.ref r3), some (.int x4), some (.int (nI 1)), some (.int v5)] [] rfl ⟨rfl, rfl, rfl, rfl⟩ ?_
        refine Wp.ii (v := nI 4) rfl rfl (by decide) rfl (L' := [some (.ref r0), some (.ref r1), some (.ref r2), some (.ref r3), some (.int (x4 + nI 4)), some (.int (nI 1)), some (.int v5)]) rfl ?_
        refine Wp.go (x := (.goto (-674), 3, 33, 0)) rfl 33 [some (.ref r0), some (.ref r1), some (.ref r2), some (.ref r3), some (.int (x4 + nI 4)), some (.int (nI 1)), some (.int v5)] [] rfl ⟨rfl, rfl, rfl, rfl⟩ ?_
        exact Wp.wk (L := [some (.ref r0), some (.ref r1), some (.ref r2), some (.ref r3), some (.int (x4 + nI 4)), none, none]) ⟨Or.inr rfl, Or.inr rfl, Or.inr rfl, Or.inr rfl, Or.inr rfl, Or.inl rfl, Or.inl rfl, trivial⟩ H
      · have H := H.2 c
        refine Wp.go (x := (.aload_n 3, 1, 0, 0)) rfl 690 [some (.ref r0), some (.ref r1), some (.ref r2), some (.ref r3), some (.int x4), some (.int (nI 1)), some (.int v5)] [.ref r3] rfl ⟨rfl, rfl, rfl, rfl⟩ ?_
        refine Wp.ic (v := nI 0) rfl rfl (by decide) ?_
        obtain ⟨j11, e, b, H⟩ := H
        refine Wp.lld rfl rfl hn_r3 (hK hn_r3) ⟨j11, e, b, ?_⟩
        refine Wp.go (x := (.iload 6, 2, 0, 0)) rfl 694 [some (.ref r0), some (.ref r1), some (.ref r2), some (.ref r3), some (.int x4), some (.int (nI 1)), some (.int v5)] [.int v5, .long (J10 r3 j11)] rfl ⟨rfl, rfl, rfl, rfl⟩ ?_
        refine Wp.go (x := (.i2l, 1, 0, 0)) rfl 695 [some (.ref r0), some (.ref r1), some (.ref r2), some (.ref r3), some (.int x4), some (.int (nI 1)), some (.int v5)] [.long v5.toInt64, .long (J10 r3 j11)] rfl ⟨rfl, rfl, rfl, rfl⟩ ?_
        refine Wp.go (x := (.lcmp, 1, 0, 0)) rfl 696 [some (.ref r0), some (.ref r1), some (.ref r2), some (.ref r3), some (.int x4), some (.int (nI 1)), some (.int v5)] [.int (lg_cmp (J10 r3 j11) v5.toInt64)] rfl ⟨rfl, rfl, rfl, rfl⟩ ?_
        refine Wp.z_eq rfl rfl ⟨fun c => ?_, fun c => ?_⟩
        · have H := H.1 c
          refine Wp.go (x := (.goto 3, 3, 704, 0)) rfl 704 [some (.ref r0), some (.ref r1), some (.ref r2), some (.ref r3), some (.int x4), some (.int (nI 1)), some (.int v5)] [] rfl ⟨rfl, rfl, rfl, rfl⟩ ?_
          refine Wp.ii (v := nI 4) rfl rfl (by decide) rfl (L' := [some (.ref r0), some (.ref r1), some (.ref r2), some (.ref r3), some (.int (x4 + nI 4)), some (.int (nI 1)), some (.int v5)]) rfl ?_
          refine Wp.go (x := (.goto (-674), 3, 33, 0)) rfl 33 [some (.ref r0), some (.ref r1), some (.ref r2), some (.ref r3), some (.int (x4 + nI 4)), some (.int (nI 1)), some (.int v5)] [] rfl ⟨rfl, rfl, rfl, rfl⟩ ?_
          exact Wp.wk (L := [some (.ref r0), some (.ref r1), some (.ref r2), some (.ref r3), some (.int (x4 + nI 4)), none, none]) ⟨Or.inr rfl, Or.inr rfl, Or.inr rfl, Or.inr rfl, Or.inr rfl, Or.inl rfl, Or.inl rfl, trivial⟩ H
        · have H := H.2 c
          refine Wp.ic (v := nI 0) rfl rfl (by decide) ?_
          exact Wp.rZ rfl rfl (Or.inl rfl) H
    · have H := H.2 c
      refine Wp.ic (v := nI 0) rfl rfl (by decide) ?_
      exact Wp.rZ rfl rfl (Or.inl rfl) H
  · obtain ⟨j12, e, b, H⟩ := H.2 c
    refine ⟨j12, e, b, ?_⟩
    refine Wp.go (x := (.istore 5, 2, 0, 0)) rfl 661 [some (.ref r0), some (.ref r1), some (.ref r2), some (.ref r3), some (.int x4), some (.int (nI 0)), none] [] rfl ⟨rfl, rfl, rfl, rfl⟩ ?_
    refine Wp.go (x := (.aload_n 2, 1, 0, 0)) rfl 662 [some (.ref r0), some (.ref r1), some (.ref r2), some (.ref r3), some (.int x4), some (.int (nI 0)), none] [.ref r2] rfl ⟨rfl, rfl, rfl, rfl⟩ ?_
    refine Wp.go (x := (.aload_n 0, 1, 0, 0)) rfl 663 [some (.ref r0), some (.ref r1), some (.ref r2), some (.ref r3), some (.int x4), some (.int (nI 0)), none] [.ref r0, .ref r2] rfl ⟨rfl, rfl, rfl, rfl⟩ ?_
    refine Wp.go (x := (.iload 4, 2, 0, 0)) rfl 665 [some (.ref r0), some (.ref r1), some (.ref r2), some (.ref r3), some (.int x4), some (.int (nI 0)), none] [.int x4, .ref r0, .ref r2] rfl ⟨rfl, rfl, rfl, rfl⟩ ?_
    refine Wp.ic (v := nI 1) rfl rfl (by decide) ?_
    refine Wp.go (x := (.iadd, 1, 0, 0)) rfl 667 [some (.ref r0), some (.ref r1), some (.ref r2), some (.ref r3), some (.int x4), some (.int (nI 0)), none] [.int (x4 + (nI 1)), .ref r0, .ref r2] rfl ⟨rfl, rfl, rfl, rfl⟩ ?_
    obtain ⟨j13, e, b, H⟩ := H
    refine Wp.ald rfl rfl hn_r0 (Or.inr rfl) (hK hn_r0) ⟨j13, e, b, ?_⟩
    refine Wp.kI (x := (.invokevirtual 110, 3, 163, 2)) (j := 163) (vs := [.ref r2, .int (I r0 j13)]) (rest := []) rfl (by show xtg 163 (K r2).1 = _; rw [hn_r2]; rfl) rfl ⟨Nat.le_of_ble_eq_true rfl, Nat.le_of_ble_eq_true rfl, Nat.le_of_ble_eq_true rfl⟩ rfl rfl rfl H (fun v14 I15 J16 H => ?_)
    refine Wp.go (x := (.istore 6, 2, 0, 0)) rfl 673 [some (.ref r0), some (.ref r1), some (.ref r2), some (.ref r3), some (.int x4), some (.int (nI 0)), some (.int v14)] [] rfl ⟨rfl, rfl, rfl, rfl⟩ ?_
    refine Wp.go (x := (.aload_n 2, 1, 0, 0)) rfl 674 [some (.ref r0), some (.ref r1), some (.ref r2), some (.ref r3), some (.int x4), some (.int (nI 0)), some (.int v14)] [.ref r2] rfl ⟨rfl, rfl, rfl, rfl⟩ ?_
    refine Wp.kI (x := (.invokevirtual 111, 3, 97, 1)) (j := 97) (vs := [.ref r2]) (rest := []) rfl (by show xtg 97 (K r2).1 = _; rw [hn_r2]; rfl) rfl ⟨Nat.le_of_ble_eq_true rfl, Nat.le_of_ble_eq_true rfl, Nat.le_of_ble_eq_true rfl⟩ rfl rfl rfl H (fun v17 I18 J19 H => ?_)
    refine Wp.go (x := (.iload 5, 2, 0, 0)) rfl 679 [some (.ref r0), some (.ref r1), some (.ref r2), some (.ref r3), some (.int x4), some (.int (nI 0)), some (.int v14)] [.int (nI 0), .int v17] rfl ⟨rfl, rfl, rfl, rfl⟩ ?_
    refine Wp.c_eq rfl rfl ⟨fun c => ?_, fun c => ?_⟩
    · have H := H.1 c
      refine Wp.go (x := (.iload 5, 2, 0, 0)) rfl 686 [some (.ref r0), some (.ref r1), some (.ref r2), some (.ref r3), some (.int x4), some (.int (nI 0)), some (.int v14)] [.int (nI 0)] rfl ⟨rfl, rfl, rfl, rfl⟩ ?_
      refine Wp.z_ne rfl rfl ⟨fun c => ?_, fun c => ?_⟩
      · have H := H.1 c
        refine Wp.go (x := (.goto 3, 3, 704, 0)) rfl 704 [some (.ref r0), some (.ref r1), some (.ref r2), some (.ref r3), some (.int x4), some (.int (nI 0)), some (.int v14)] [] rfl ⟨rfl, rfl, rfl, rfl⟩ ?_
        refine Wp.ii (v := nI 4) rfl rfl (by decide) rfl (L' := [some (.ref r0), some (.ref r1), some (.ref r2), some (.ref r3), some (.int (x4 + nI 4)), some (.int (nI 0)), some (.int v14)]) rfl ?_
        refine Wp.go (x := (.goto (-674), 3, 33, 0)) rfl 33 [some (.ref r0), some (.ref r1), some (.ref r2), some (.ref r3), some (.int (x4 + nI 4)), some (.int (nI 0)), some (.int v14)] [] rfl ⟨rfl, rfl, rfl, rfl⟩ ?_
        exact Wp.wk (L := [some (.ref r0), some (.ref r1), some (.ref r2), some (.ref r3), some (.int (x4 + nI 4)), none, none]) ⟨Or.inr rfl, Or.inr rfl, Or.inr rfl, Or.inr rfl, Or.inr rfl, Or.inl rfl, Or.inl rfl, trivial⟩ H
      · have H := H.2 c
        refine Wp.go (x := (.aload_n 3, 1, 0, 0)) rfl 690 [some (.ref r0), some (.ref r1), some (.ref r2), some (.ref r3), some (.int x4), some (.int (nI 0)), some (.int v14)] [.ref r3] rfl ⟨rfl, rfl, rfl, rfl⟩ ?_
        refine Wp.ic (v := nI 0) rfl rfl (by decide) ?_
        obtain ⟨j20, e, b, H⟩ := H
        refine Wp.lld rfl rfl hn_r3 (hK hn_r3) ⟨j20, e, b, ?_⟩
        refine Wp.go (x := (.iload 6, 2, 0, 0)) rfl 694 [some (.ref r0), some (.ref r1), some (.ref r2), some (.ref r3), some (.int x4), some (.int (nI 0)), some (.int v14)] [.int v14, .long (J19 r3 j20)] rfl ⟨rfl, rfl, rfl, rfl⟩ ?_
        refine Wp.go (x := (.i2l, 1, 0, 0)) rfl 695 [some (.ref r0), some (.ref r1), some (.ref r2), some (.ref r3), some (.int x4), some (.int (nI 0)), some (.int v14)] [.long v14.toInt64, .long (J19 r3 j20)] rfl ⟨rfl, rfl, rfl, rfl⟩ ?_
        refine Wp.go (x := (.lcmp, 1, 0, 0)) rfl 696 [some (.ref r0), some (.ref r1), some (.ref r2), some (.ref r3), some (.int x4), some (.int (nI 0)), some (.int v14)] [.int (lg_cmp (J19 r3 j20) v14.toInt64)] rfl ⟨rfl, rfl, rfl, rfl⟩ ?_
        refine Wp.z_eq rfl rfl ⟨fun c => ?_, fun c => ?_⟩
        · have H := H.1 c
          refine Wp.go (x := (.goto 3, 3, 704, 0)) rfl 704 [some (.ref r0), some (.ref r1), some (.ref r2), some (.ref r3), some (.int x4), some (.int (nI 0)), some (.int v14)] [] rfl ⟨rfl, rfl, rfl, rfl⟩ ?_
          refine Wp.ii (v := nI 4) rfl rfl (by decide) rfl (L' := [some (.ref r0), some (.ref r1), some (.ref r2), some (.ref r3), some (.int (x4 + nI 4)), some (.int (nI 0)), some (.int v14)]) rfl ?_
          refine Wp.go (x := (.goto (-674), 3, 33, 0)) rfl 33 [some (.ref r0), some (.ref r1), some (.ref r2), some (.ref r3), some (.int (x4 + nI 4)), some (.int (nI 0)), some (.int v14)] [] rfl ⟨rfl, rfl, rfl, rfl⟩ ?_
          exact Wp.wk (L := [some (.ref r0), some (.ref r1), some (.ref r2), some (.ref r3), some (.int (x4 + nI 4)), none, none]) ⟨Or.inr rfl, Or.inr rfl, Or.inr rfl, Or.inr rfl, Or.inr rfl, Or.inl rfl, Or.inl rfl, trivial⟩ H
        · have H := H.2 c
          refine Wp.ic (v := nI 0) rfl rfl (by decide) ?_
          exact Wp.rZ rfl rfl (Or.inl rfl) H
    · have H := H.2 c
      refine Wp.ic (v := nI 0) rfl rfl (by decide) ?_
      exact Wp.rZ rfl rfl (Or.inl rfl) H
