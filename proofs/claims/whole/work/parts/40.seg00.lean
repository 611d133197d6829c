set_option maxRecDepth 20000 in
theorem wX0_forget_0 {d : Nat} {Q : Option Value × xS → Prop} {K : Nat → Nat × Nat} {P : List Nat × Nat × Nat} {I : Nat → Nat → Int32} {J : Nat → Nat → Int64} {F : Nat → Nat → Option Nat} {r0 : Nat} {n_r0 : Nat} (hn_r0 : K r0 = (1, n_r0)) (H : Q (none, (K, P, (xup ((xup I r0 2 (nI 0))) r0 4 (nI 0)), J, F))) : Wp d 1 0 [some (.ref r0)] [] (K, P, I, J, F) Q := by
  refine Wp.go (x := (.aload_n 0, 1, 0, 0)) rfl 1 [some (.ref r0)] [.ref r0] rfl ⟨rfl, rfl, rfl, rfl⟩ ?_
  refine Wp.ic (v := nI 0) rfl rfl (by decide) ?_
  refine Wp.pI rfl rfl hn_r0 rfl (Or.inl rfl) ?_
  refine Wp.go (x := (.aload_n 0, 1, 0, 0)) rfl 6 [some (.ref r0)] [.ref r0] rfl ⟨rfl, rfl, rfl, rfl⟩ ?_
  refine Wp.ic (v := nI 0) rfl rfl (by decide) ?_
  refine Wp.pI rfl rfl hn_r0 rfl (Or.inl rfl) ?_
  exact Wp.rV rfl rfl H
set_option maxRecDepth 20000 in
theorem wX0_addCut_0 {d : Nat} {Q : Option Value × xS → Prop} {K : Nat → Nat × Nat} {P : List Nat × Nat × Nat} {I : Nat → Nat → Int32} {J : Nat → Nat → Int64} {F : Nat → Nat → Option Nat} {r0 : Nat} {x1 : Int32} {n_r0 : Nat} {f1 : Nat} {n_f1 : Nat} (hn_r0 : K r0 = (1, n_r0)) (hf1 : F r0 0 = some f1) (hn_f1 : K f1 = (8, n_f1)) (H : ((x1 < (nI 1) → Q (some (.int (nI 0)), (K, P, I, J, F))) ∧ (¬ x1 < (nI 1) → (((I f1 3) ≤ x1 → Q (some (.int (nI 0)), (K, P, I, J, F))) ∧ (¬ (I f1 3) ≤ x1 → (((I r0 2) < (nI 12) → Wp d 2 29 [some (.ref r0), some (.int x1), some (.int (nI 0)), none] [] (K, P, I, J, F) Q) ∧ (¬ (I r0 2) < (nI 12) → Q (some (.int (nI 0)), (K, P, I, J, F))))))))) : Wp d 2 0 [some (.ref r0), some (.int x1), none, none] [] (K, P, I, J, F) Q := by
  refine Wp.go (x := (.iload_n 1, 1, 0, 0)) rfl 1 [some (.ref r0), some (.int x1), none, none] [.int x1] rfl ⟨rfl, rfl, rfl, rfl⟩ ?_
  refine Wp.ic (v := nI 1) rfl rfl (by decide) ?_
  refine Wp.c_lt rfl rfl ⟨fun c => ?_, fun c => ?_⟩
  · have H := H.1 c
    refine Wp.ic (v := nI 0) rfl rfl (by decide) ?_
    exact Wp.rZ rfl rfl (Or.inl rfl) H
  · have H := H.2 c
    refine Wp.go (x := (.iload_n 1, 1, 0, 0)) rfl 6 [some (.ref r0), some (.int x1), none, none] [.int x1] rfl ⟨rfl, rfl, rfl, rfl⟩ ?_
    refine Wp.go (x := (.aload_n 0, 1, 0, 0)) rfl 7 [some (.ref r0), some (.int x1), none, none] [.ref r0, .int x1] rfl ⟨rfl, rfl, rfl, rfl⟩ ?_
    refine Wp.gR rfl rfl hn_r0 rfl rfl hf1 ?_
    refine Wp.gI rfl rfl hn_f1 rfl ⟨by decide, by decide⟩ ?_
    refine Wp.c_ge rfl rfl ⟨fun c => ?_, fun c => ?_⟩
    · have H := H.1 c
      refine Wp.ic (v := nI 0) rfl rfl (by decide) ?_
      exact Wp.rZ rfl rfl (Or.inl rfl) H
    · have H := H.2 c
      refine Wp.go (x := (.aload_n 0, 1, 0, 0)) rfl 17 [some (.ref r0), some (.int x1), none, none] [.ref r0] rfl ⟨rfl, rfl, rfl, rfl⟩ ?_
      refine Wp.gI rfl rfl hn_r0 rfl ⟨by decide, by decide⟩ ?_
      refine Wp.bp (v := nI 12) rfl rfl (by decide) ?_
      refine Wp.c_lt rfl rfl ⟨fun c => ?_, fun c => ?_⟩
      · have H := H.1 c
        refine Wp.ic (v := nI 0) rfl rfl (by decide) ?_
        refine Wp.go (x := (.istore_n 2, 1, 0, 0)) rfl 29 [some (.ref r0), some (.int x1), some (.int (nI 0)), none] [] rfl ⟨rfl, rfl, rfl, rfl⟩ ?_
        exact H
      · have H := H.2 c
        refine Wp.ic (v := nI 0) rfl rfl (by decide) ?_
        exact Wp.rZ rfl rfl (Or.inl rfl) H
set_option maxRecDepth 20000 in
theorem wX0_addCut_29 {d : Nat} {Q : Option Value × xS → Prop} {K : Nat → Nat × Nat} {P : List Nat × Nat × Nat} {I : Nat → Nat → Int32} {J : Nat → Nat → Int64} {F : Nat → Nat → Option Nat} {r0 : Nat} {x1 : Int32} {x2 : Int32} {n_r0 : Nat} {f1 : Nat} {n_f1 : Nat} (hK : ∀ {a k n : Nat}, K a = (k, n) → n < 2147483648) (hn_r0 : K r0 = (1, n_r0)) (hf1 : F r0 1 = some f1) (hn_f1 : K f1 = (100, n_f1)) (H : (((I r0 2) ≤ x2 → Wp d 2 53 [some (.ref r0), some (.int x1), some (.int x2), none] [] (K, P, I, J, F) Q) ∧ (¬ (I r0 2) ≤ x2 → (∃ j2 : Nat, x2 = nI j2 ∧ j2 < n_f1 ∧ ((x1 ≤ (I f1 j2) → Wp d 2 53 [some (.ref r0), some (.int x1), some (.int x2), none] [] (K, P, I, J, F) Q) ∧ (¬ x1 ≤ (I f1 j2) → Wp d 2 29 [some (.ref r0), some (.int x1), some (.int (x2 + nI 1)), none] [] (K, P, I, J, F) Q)))))) : Wp d 2 29 [some (.ref r0), some (.int x1), some (.int x2), none] [] (K, P, I, J, F) Q := by
  refine Wp.go (x := (.iload_n 2, 1, 0, 0)) rfl 30 [some (.ref r0), some (.int x1), some (.int x2), none] [.int x2] rfl ⟨rfl, rfl, rfl, rfl⟩ ?_
  refine Wp.go (x := (.aload_n 0, 1, 0, 0)) rfl 31 [some (.ref r0), some (.int x1), some (.int x2), none] [.ref r0, .int x2] rfl ⟨rfl, rfl, rfl, rfl⟩ ?_
  refine Wp.gI rfl rfl hn_r0 rfl ⟨by decide, by decide⟩ ?_
  refine Wp.c_ge rfl rfl ⟨fun c => ?_, fun c => ?_⟩
  · have H := H.1 c
    exact H
  · have H := H.2 c
    refine Wp.go (x := (.aload_n 0, 1, 0, 0)) rfl 38 [some (.ref r0), some (.int x1), some (.int x2), none] [.ref r0] rfl ⟨rfl, rfl, rfl, rfl⟩ ?_
    refine Wp.gR rfl rfl hn_r0 rfl rfl hf1 ?_
    refine Wp.go (x := (.iload_n 2, 1, 0, 0)) rfl 42 [some (.ref r0), some (.int x1), some (.int x2), none] [.int x2, .ref f1] rfl ⟨rfl, rfl, rfl, rfl⟩ ?_
    obtain ⟨j2, e, b, H⟩ := H
    refine Wp.ald rfl rfl hn_f1 (Or.inl rfl) (hK hn_f1) ⟨j2, e, b, ?_⟩
    refine Wp.go (x := (.iload_n 1, 1, 0, 0)) rfl 44 [some (.ref r0), some (.int x1), some (.int x2), none] [.int x1, .int (I f1 j2)] rfl ⟨rfl, rfl, rfl, rfl⟩ ?_
    refine Wp.c_ge rfl rfl ⟨fun c => ?_, fun c => ?_⟩
    · have H := H.1 c
      exact H
    · have H := H.2 c
      refine Wp.ii (v := nI 1) rfl rfl (by decide) rfl (L' := [some (.ref r0), some (.int x1), some (.int (x2 + nI 1)), none]) rfl ?_
      refine Wp.go (x := (.goto (-21), 3, 29, 0)) rfl 29 [some (.ref r0), some (.int x1), some (.int (x2 + nI 1)), none] [] rfl ⟨rfl, rfl, rfl, rfl⟩ ?_
      exact H
set_option maxRecDepth 20000 in
theorem wX0_addCut_53 {d : Nat} {Q : Option Value × xS → Prop} {K : Nat → Nat × Nat} {P : List Nat × Nat × Nat} {I : Nat → Nat → Int32} {J : Nat → Nat → Int64} {F : Nat → Nat → Option Nat} {r0 : Nat} {x1 : Int32} {x2 : Int32} {n_r0 : Nat} {f1 : Nat} {n_f1 : Nat} (hK : ∀ {a k n : Nat}, K a = (k, n) → n < 2147483648) (hn_r0 : K r0 = (1, n_r0)) (hf1 : F r0 1 = some f1) (hn_f1 : K f1 = (100, n_f1)) (H : (((I r0 2) ≤ x2 → Wp d 2 78 [some (.ref r0), some (.int x1), some (.int x2), some (.int (I r0 2))] [] (K, P, I, J, F) Q) ∧ (¬ (I r0 2) ≤ x2 → (∃ j2 : Nat, x2 = nI j2 ∧ j2 < n_f1 ∧ ((¬ (I f1 j2) = x1 → Wp d 2 78 [some (.ref r0), some (.int x1), some (.int x2), some (.int (I r0 2))] [] (K, P, I, J, F) Q) ∧ ((I f1 j2) = x1 → Q (some (.int (nI 0)), (K, P, I, J, F)))))))) : Wp d 2 53 [some (.ref r0), some (.int x1), some (.int x2), none] [] (K, P, I, J, F) Q := by
  refine Wp.go (x := (.iload_n 2, 1, 0, 0)) rfl 54 [some (.ref r0), some (.int x1), some (.int x2), none] [.int x2] rfl ⟨rfl, rfl, rfl, rfl⟩ ?_
  refine Wp.go (x := (.aload_n 0, 1, 0, 0)) rfl 55 [some (.ref r0), some (.int x1), some (.int x2), none] [.ref r0, .int x2] rfl ⟨rfl, rfl, rfl, rfl⟩ ?_
  refine Wp.gI rfl rfl hn_r0 rfl ⟨by decide, by decide⟩ ?_
  refine Wp.c_ge rfl rfl ⟨fun c => ?_, fun c => ?_⟩
  · have H := H.1 c
    refine Wp.go (x := (.aload_n 0, 1, 0, 0)) rfl 74 [some (.ref r0), some (.int x1), some (.int x2), none] [.ref r0] rfl ⟨rfl, rfl, rfl, rfl⟩ ?_
    refine Wp.gI rfl rfl hn_r0 rfl ⟨by decide, by decide⟩ ?_
    refine Wp.go (x := (.istore_n 3, 1, 0, 0)) rfl 78 [some (.ref r0), some (.int x1), some (.int x2), some (.int (I r0 2))] [] rfl ⟨rfl, rfl, rfl, rfl⟩ ?_
    exact H
  · have H := H.2 c
    refine Wp.go (x := (.aload_n 0, 1, 0, 0)) rfl 62 [some (.ref r0), some (.int x1), some (.int x2), none] [.ref r0] rfl ⟨rfl, rfl, rfl, rfl⟩ ?_
    refine Wp.gR rfl rfl hn_r0 rfl rfl hf1 ?_
    refine Wp.go (x := (.iload_n 2, 1, 0, 0)) rfl 66 [some (.ref r0), some (.int x1), some (.int x2), none] [.int x2, .ref f1] rfl ⟨rfl, rfl, rfl, rfl⟩ ?_
    obtain ⟨j2, e, b, H⟩ := H
    refine Wp.ald rfl rfl hn_f1 (Or.inl rfl) (hK hn_f1) ⟨j2, e, b, ?_⟩
    refine Wp.go (x := (.iload_n 1, 1, 0, 0)) rfl 68 [some (.ref r0), some (.int x1), some (.int x2), none] [.int x1, .int (I f1 j2)] rfl ⟨rfl, rfl, rfl, rfl⟩ ?_
    refine Wp.c_ne rfl rfl ⟨fun c => ?_, fun c => ?_⟩
    · have H := H.1 c
      refine Wp.go (x := (.aload_n 0, 1, 0, 0)) rfl 74 [some (.ref r0), some (.int x1), some (.int x2), none] [.ref r0] rfl ⟨rfl, rfl, rfl, rfl⟩ ?_
      refine Wp.gI rfl rfl hn_r0 rfl ⟨by decide, by decide⟩ ?_
      refine Wp.go (x := (.istore_n 3, 1, 0, 0)) rfl 78 [some (.ref r0), some (.int x1), some (.int x2), some (.int (I r0 2))] [] rfl ⟨rfl, rfl, rfl, rfl⟩ ?_
      exact H
    · have H := H.2 c
      refine Wp.ic (v := nI 0) rfl rfl (by decide) ?_
      exact Wp.rZ rfl rfl (Or.inl rfl) H
set_option maxRecDepth 20000 in
theorem wX0_addCut_78 {d : Nat} {Q : Option Value × xS → Prop} {K : Nat → Nat × Nat} {P : List Nat × Nat × Nat} {I : Nat → Nat → Int32} {J : Nat → Nat → Int64} {F : Nat → Nat → Option Nat} {r0 : Nat} {x1 : Int32} {x2 : Int32} {x3 : Int32} {n_r0 : Nat} {f1 : Nat} {n_f1 : Nat} (hK : ∀ {a k n : Nat}, K a = (k, n) → n < 2147483648) (hn_r0 : K r0 = (1, n_r0)) (hf1 : F r0 1 = some f1) (hn_f1 : K f1 = (100, n_f1)) (H : ((x3 ≤ x2 → (∃ j2 : Nat, x2 = nI j2 ∧ j2 < n_f1 ∧ Q (some (.int (nI 1)), (K, P, (xup ((xup I f1 j2 x1)) r0 2 ((((xup I f1 j2 x1)) r0 2) + (nI 1))), J, F)))) ∧ (¬ x3 ≤ x2 → (∃ j3 : Nat, (x3 - (nI 1)) = nI j3 ∧ j3 < n_f1 ∧ (∃ j4 : Nat, x3 = nI j4 ∧ j4 < n_f1 ∧ Wp d 2 78 [some (.ref r0), some (.int x1), some (.int x2), some (.int (x3 + (-1)))] [] (K, P, (xup I f1 j4 (I f1 j3)), J, F) Q))))) : Wp d 2 78 [some (.ref r0), some (.int x1), some (.int x2), some (.int x3)] [] (K, P, I, J, F) Q := by
  refine Wp.go (x := (.iload_n 3, 1, 0, 0)) rfl 79 [some (.ref r0), some (.int x1), some (.int x2), some (.int x3)] [.int x3] rfl ⟨rfl, rfl, rfl, rfl⟩ ?_
  refine Wp.go (x := (.iload_n 2, 1, 0, 0)) rfl 80 [some (.ref r0), some (.int x1), some (.int x2), some (.int x3)] [.int x2, .int x3] rfl ⟨rfl, rfl, rfl, rfl⟩ ?_
  refine Wp.c_le rfl rfl ⟨fun c => ?_, fun c => ?_⟩
  · have H := H.1 c
    refine Wp.go (x := (.aload_n 0, 1, 0, 0)) rfl 104 [some (.ref r0), some (.int x1), some (.int x2), some (.int x3)] [.ref r0] rfl ⟨rfl, rfl, rfl, rfl⟩ ?_
    refine Wp.gR rfl rfl hn_r0 rfl rfl hf1 ?_
    refine Wp.go (x := (.iload_n 2, 1, 0, 0)) rfl 108 [some (.ref r0), some (.int x1), some (.int x2), some (.int x3)] [.int x2, .ref f1] rfl ⟨rfl, rfl, rfl, rfl⟩ ?_
    refine Wp.go (x := (.iload_n 1, 1, 0, 0)) rfl 109 [some (.ref r0), some (.int x1), some (.int x2), some (.int x3)] [.int x1, .int x2, .ref f1] rfl ⟨rfl, rfl, rfl, rfl⟩ ?_
    obtain ⟨j2, e, b, H⟩ := H
    refine Wp.ast rfl rfl hn_f1 (hK hn_f1) ⟨j2, e, b, ?_⟩
    refine Wp.go (x := (.aload_n 0, 1, 0, 0)) rfl 111 [some (.ref r0), some (.int x1), some (.int x2), some (.int x3)] [.ref r0] rfl ⟨rfl, rfl, rfl, rfl⟩ ?_
    refine Wp.go (x := (.dup, 1, 0, 0)) rfl 112 [some (.ref r0), some (.int x1), some (.int x2), some (.int x3)] [.ref r0, .ref r0] rfl ⟨rfl, rfl, rfl, rfl⟩ ?_
    refine Wp.gI rfl rfl hn_r0 rfl ⟨by decide, by decide⟩ ?_
    refine Wp.ic (v := nI 1) rfl rfl (by decide) ?_
    refine Wp.go (x := (.iadd, 1, 0, 0)) rfl 117 [some (.ref r0), some (.int x1), some (.int x2), some (.int x3)] [.int ((((xup I f1 j2 x1)) r0 2) + (nI 1)), .ref r0] rfl ⟨rfl, rfl, rfl, rfl⟩ ?_
    refine Wp.pI rfl rfl hn_r0 rfl (Or.inl rfl) ?_
    refine Wp.ic (v := nI 1) rfl rfl (by decide) ?_
    exact Wp.rZ rfl rfl (Or.inr rfl) H
  · have H := H.2 c
    refine Wp.go (x := (.aload_n 0, 1, 0, 0)) rfl 84 [some (.ref r0), some (.int x1), some (.int x2), some (.int x3)] [.ref r0] rfl ⟨rfl, rfl, rfl, rfl⟩ ?_
    refine Wp.gR rfl rfl hn_r0 rfl rfl hf1 ?_
    refine Wp.go (x := (.iload_n 3, 1, 0, 0)) rfl 88 [some (.ref r0), some (.int x1), some (.int x2), some (.int x3)] [.int x3, .ref f1] rfl ⟨rfl, rfl, rfl, rfl⟩ ?_
    refine Wp.go (x := (.aload_n 0, 1, 0, 0)) rfl 89 [some (.ref r0), some (.int x1), some (.int x2), some (.int x3)] [.ref r0, .int x3, .ref f1] rfl ⟨rfl, rfl, rfl, rfl⟩ ?_
    refine Wp.gR rfl rfl hn_r0 rfl rfl hf1 ?_
    refine Wp.go (x := (.iload_n 3, 1, 0, 0)) rfl 93 [some (.ref r0), some (.int x1), some (.int x2), some (.int x3)] [.int x3, .ref f1, .int x3, .ref f1] rfl ⟨rfl, rfl, rfl, rfl⟩ ?_
    refine Wp.ic (v := nI 1) rfl rfl (by decide) ?_
    refine Wp.go (x := (.isub, 1, 0, 0)) rfl 95 [some (.ref r0), some (.int x1), some (.int x2), some (.int x3)] [.int (x3 - (nI 1)), .ref f1, .int x3, .ref f1] rfl ⟨rfl, rfl, rfl, rfl⟩ ?_
    obtain ⟨j3, e, b, H⟩ := H
    refine Wp.ald rfl rfl hn_f1 (Or.inl rfl) (hK hn_f1) ⟨j3, e, b, ?_⟩
    obtain ⟨j4, e, b, H⟩ := H
    refine Wp.ast rfl rfl hn_f1 (hK hn_f1) ⟨j4, e, b, ?_⟩
    refine Wp.ii (v := (-1)) rfl rfl (by decide) rfl (L' := [some (.ref r0), some (.int x1), some (.int x2), some (.int (x3 + (-1)))]) rfl ?_
    refine Wp.go (x := (.goto (-22), 3, 78, 0)) rfl 78 [some (.ref r0), some (.int x1), some (.int x2), some (.int (x3 + (-1)))] [] rfl ⟨rfl, rfl, rfl, rfl⟩ ?_
    exact H
set_option maxRecDepth 20000 in
theorem wX0_divide_0 {d : Nat} {Q : Option Value × xS → Prop} {K : Nat → Nat × Nat} {P : List Nat × Nat × Nat} {I : Nat → Nat → Int32} {J : Nat → Nat → Int64} {F : Nat → Nat → Option Nat} {r0 : Nat} {x1 : Int32} {n_r0 : Nat} {f1 : Nat} {n_f1 : Nat} {f3 : Nat} {n_f3 : Nat} (hK : ∀ {a k n : Nat}, K a = (k, n) → n < 2147483648) (hn_r0 : K r0 = (1, n_r0)) (hf1 : F r0 5 = some f1) (hn_f1 : K f1 = (101, n_f1)) (hf3 : F r0 6 = some f3) (hn_f3 : K f3 = (100, n_f3)) (H : (∃ j2 : Nat, ((I r0 2) + (nI 1)) = nI j2 ∧ j2 < n_f1 ∧ (∃ j4 : Nat, ((I r0 2) + (nI 1)) = nI j4 ∧ j4 < n_f3 ∧ Wp d 3 26 [some (.ref r0), some (.int x1), some (.int ((I r0 2) + (nI 1))), some (.int (((xup I f3 j4 (nI 0))) r0 2))] [] (K, P, (xup I f3 j4 (nI 0)), (xup J f1 j2 (lN 0)), F) Q))) : Wp d 3 0 [some (.ref r0), some (.int x1), none, none] [] (K, P, I, J, F) Q := by
  refine Wp.go (x := (.aload_n 0, 1, 0, 0)) rfl 1 [some (.ref r0), some (.int x1), none, none] [.ref r0] rfl ⟨rfl, rfl, rfl, rfl⟩ ?_
  refine Wp.gI rfl rfl hn_r0 rfl ⟨by decide, by decide⟩ ?_
  refine Wp.ic (v := nI 1) rfl rfl (by decide) ?_
  refine Wp.go (x := (.iadd, 1, 0, 0)) rfl 6 [some (.ref r0), some (.int x1), none, none] [.int ((I r0 2) + (nI 1))] rfl ⟨rfl, rfl, rfl, rfl⟩ ?_
  refine Wp.go (x := (.istore_n 2, 1, 0, 0)) rfl 7 [some (.ref r0), some (.int x1), some (.int ((I r0 2) + (nI 1))), none] [] rfl ⟨rfl, rfl, rfl, rfl⟩ ?_
  refine Wp.go (x := (.aload_n 0, 1, 0, 0)) rfl 8 [some (.ref r0), some (.int x1), some (.int ((I r0 2) + (nI 1))), none] [.ref r0] rfl ⟨rfl, rfl, rfl, rfl⟩ ?_
  refine Wp.gR rfl rfl hn_r0 rfl rfl hf1 ?_
  refine Wp.go (x := (.iload_n 2, 1, 0, 0)) rfl 12 [some (.ref r0), some (.int x1), some (.int ((I r0 2) + (nI 1))), none] [.int ((I r0 2) + (nI 1)), .ref f1] rfl ⟨rfl, rfl, rfl, rfl⟩ ?_
  refine Wp.lc (v := lN 0) rfl rfl (by first | rfl | decide) ?_
  obtain ⟨j2, e, b, H⟩ := H
  refine Wp.lst rfl rfl hn_f1 (hK hn_f1) ⟨j2, e, b, ?_⟩
  refine Wp.go (x := (.aload_n 0, 1, 0, 0)) rfl 15 [some (.ref r0), some (.int x1), some (.int ((I r0 2) + (nI 1))), none] [.ref r0] rfl ⟨rfl, rfl, rfl, rfl⟩ ?_
  refine Wp.gR rfl rfl hn_r0 rfl rfl hf3 ?_
  refine Wp.go (x := (.iload_n 2, 1, 0, 0)) rfl 19 [some (.ref r0), some (.int x1), some (.int ((I r0 2) + (nI 1))), none] [.int ((I r0 2) + (nI 1)), .ref f3] rfl ⟨rfl, rfl, rfl, rfl⟩ ?_
  refine Wp.ic (v := nI 0) rfl rfl (by decide) ?_
  obtain ⟨j4, e, b, H⟩ := H
  refine Wp.ast rfl rfl hn_f3 (hK hn_f3) ⟨j4, e, b, ?_⟩
  refine Wp.go (x := (.aload_n 0, 1, 0, 0)) rfl 22 [some (.ref r0), some (.int x1), some (.int ((I r0 2) + (nI 1))), none] [.ref r0] rfl ⟨rfl, rfl, rfl, rfl⟩ ?_
  refine Wp.gI rfl rfl hn_r0 rfl ⟨by decide, by decide⟩ ?_
  refine Wp.go (x := (.istore_n 3, 1, 0, 0)) rfl 26 [some (.ref r0), some (.int x1), some (.int ((I r0 2) + (nI 1))), some (.int (((xup I f3 j4 (nI 0))) r0 2))] [] rfl ⟨rfl, rfl, rfl, rfl⟩ ?_
  exact H
set_option maxRecDepth 20000 in
theorem wX0_divide_26 {d : Nat} {Q : Option Value × xS → Prop} {K : Nat → Nat × Nat} {P : List Nat × Nat × Nat} {I : Nat → Nat → Int32} {J : Nat → Nat → Int64} {F : Nat → Nat → Option Nat} {r0 : Nat} {x1 : Int32} {x2 : Int32} {x3 : Int32} {n_r0 : Nat} {f1 : Nat} {n_f1 : Nat} (hK : ∀ {a k n : Nat}, K a = (k, n) → n < 2147483648) (hn_r0 : K r0 = (1, n_r0)) (hf1 : F r0 7 = some f1) (hn_f1 : K f1 = (100, n_f1)) (H : ((x3 < 0 → (∃ j2 : Nat, (nI 0) = nI j2 ∧ j2 < n_f1 ∧ Wp (d + 1) 3 54 [some (.ref r0), none, some (.int x2), some (.int (((xup I r0 4 (nI 0))) f1 j2))] [] (K, P, (xup I r0 4 (nI 0)), J, F) Q)) ∧ (¬ x3 < 0 → Wp d 4 0 [some (.ref r0), some (.int x3), some (.int x1), none, none, none, none, none, none, none, none, none] [] (K, P, I, J, F) (xrV K P F (fun I3 J4 => Wp (d + 1) 3 26 [some (.ref r0), some (.int x1), some (.int x2), some (.int (x3 + (-1)))] [] (K, P, I3, J4, F) Q))))) : Wp (d + 1) 3 26 [some (.ref r0), some (.int x1), some (.int x2), some (.int x3)] [] (K, P, I, J, F) Q := by
  refine Wp.go (x := (.iload_n 3, 1, 0, 0)) rfl 27 [some (.ref r0), some (.int x1), some (.int x2), some (.int x3)] [.int x3] rfl ⟨rfl, rfl, rfl, rfl⟩ ?_
  refine Wp.z_lt rfl rfl ⟨fun c => ?_, fun c => ?_⟩
  · have H := H.1 c
    refine Wp.go (x := (.aload_n 0, 1, 0, 0)) rfl 43 [some (.ref r0), some (.int x1), some (.int x2), some (.int x3)] [.ref r0] rfl ⟨rfl, rfl, rfl, rfl⟩ ?_
    refine Wp.ic (v := nI 0) rfl rfl (by decide) ?_
    refine Wp.pI rfl rfl hn_r0 rfl (Or.inl rfl) ?_
    refine Wp.go (x := (.aload_n 0, 1, 0, 0)) rfl 48 [some (.ref r0), some (.int x1), some (.int x2), some (.int x3)] [.ref r0] rfl ⟨rfl, rfl, rfl, rfl⟩ ?_
    refine Wp.gR rfl rfl hn_r0 rfl rfl hf1 ?_
    refine Wp.ic (v := nI 0) rfl rfl (by decide) ?_
    obtain ⟨j2, e, b, H⟩ := H
    refine Wp.ald rfl rfl hn_f1 (Or.inl rfl) (hK hn_f1) ⟨j2, e, b, ?_⟩
    refine Wp.go (x := (.istore_n 3, 1, 0, 0)) rfl 54 [some (.ref r0), some (.int x1), some (.int x2), some (.int (((xup I r0 4 (nI 0))) f1 j2))] [] rfl ⟨rfl, rfl, rfl, rfl⟩ ?_
    exact Wp.wk (L := [some (.ref r0), none, some (.int x2), some (.int (((xup I r0 4 (nI 0))) f1 j2))]) ⟨Or.inr rfl, Or.inl rfl, Or.inr rfl, Or.inr rfl, trivial⟩ H
  · have H := H.2 c
    refine Wp.go (x := (.aload_n 0, 1, 0, 0)) rfl 31 [some (.ref r0), some (.int x1), some (.int x2), some (.int x3)] [.ref r0] rfl ⟨rfl, rfl, rfl, rfl⟩ ?_
    refine Wp.go (x := (.iload_n 3, 1, 0, 0)) rfl 32 [some (.ref r0), some (.int x1), some (.int x2), some (.int x3)] [.int x3, .ref r0] rfl ⟨rfl, rfl, rfl, rfl⟩ ?_
    refine Wp.go (x := (.iload_n 1, 1, 0, 0)) rfl 33 [some (.ref r0), some (.int x1), some (.int x2), some (.int x3)] [.int x1, .int x3, .ref r0] rfl ⟨rfl, rfl, rfl, rfl⟩ ?_
    refine Wp.kV (x := (.invokevirtual 45, 3, 4, 3)) (j := 4) (vs := [.ref r0, .int x3, .int x1]) (rest := []) rfl (by show xtg 4 (K r0).1 = _; rw [hn_r0]; rfl) rfl ⟨Nat.le_of_ble_eq_true rfl, Nat.le_of_ble_eq_true rfl, Nat.le_of_ble_eq_true rfl⟩ rfl rfl rfl H (fun I3 J4 H => ?_)
    refine Wp.ii (v := (-1)) rfl rfl (by decide) rfl (L' := [some (.ref r0), some (.int x1), some (.int x2), some (.int (x3 + (-1)))]) rfl ?_
    refine Wp.go (x := (.goto (-13), 3, 26, 0)) rfl 26 [some (.ref r0), some (.int x1), some (.int x2), some (.int (x3 + (-1)))] [] rfl ⟨rfl, rfl, rfl, rfl⟩ ?_
    exact H
set_option maxRecDepth 20000 in
theorem wX0_divide_54 {d : Nat} {Q : Option Value × xS → Prop} {K : Nat → Nat × Nat} {P : List Nat × Nat × Nat} {I : Nat → Nat → Int32} {J : Nat → Nat → Int64} {F : Nat → Nat → Option Nat} {r0 : Nat} {x2 : Int32} {x3 : Int32} {n_r0 : Nat} {f1 : Nat} {n_f1 : Nat} {f4 : Nat} {n_f4 : Nat} {f9 : Nat} {n_f9 : Nat} (hK : ∀ {a k n : Nat}, K a = (k, n) → n < 2147483648) (hn_r0 : K r0 = (1, n_r0)) (hf1 : F r0 5 = some f1) (hn_f1 : K f1 = (101, n_f1)) (hf4 : F r0 3 = some f4) (hn_f4 : K f4 = (100, n_f4)) (hf9 : F r0 7 = some f9) (hn_f9 : K f9 = (100, n_f9)) (H : ((x2 ≤ x3 → (∃ j2 : Nat, (nI 0) = nI j2 ∧ j2 < n_f1 ∧ Q (some (.long (J f1 j2)), (K, P, I, J, F)))) ∧ (¬ x2 ≤ x3 → (((nI 12) ≤ (I r0 4) → (∃ j3 : Nat, (nI 0) = nI j3 ∧ j3 < n_f1 ∧ Q (some (.long (J f1 j3)), (K, P, I, J, F)))) ∧ (¬ (nI 12) ≤ (I r0 4) → Wp d 6 0 [some (.ref r0), some (.int x3)] [] (K, P, I, J, F) (xrI K P F (fun v5 I6 J7 => (∃ j8 : Nat, (I r0 4) = nI j8 ∧ j8 < n_f4 ∧ (∃ j10 : Nat, x3 = nI j10 ∧ j10 < n_f9 ∧ Wp (d + 1) 3 54 [some (.ref r0), none, some (.int x2), some (.int (((xup ((xup I6 f4 j8 v5)) r0 4 ((((xup I6 f4 j8 v5)) r0 4) + (nI 1)))) f9 j10))] [] (K, P, (xup ((xup I6 f4 j8 v5)) r0 4 ((((xup I6 f4 j8 v5)) r0 4) + (nI 1))), J7, F) Q))))))))) : Wp (d + 1) 3 54 [some (.ref r0), none, some (.int x2), some (.int x3)] [] (K, P, I, J, F) Q := by
  refine Wp.go (x := (.iload_n 3, 1, 0, 0)) rfl 55 [some (.ref r0), none, some (.int x2), some (.int x3)] [.int x3] rfl ⟨rfl, rfl, rfl, rfl⟩ ?_
  refine Wp.go (x := (.iload_n 2, 1, 0, 0)) rfl 56 [some (.ref r0), none, some (.int x2), some (.int x3)] [.int x2, .int x3] rfl ⟨rfl, rfl, rfl, rfl⟩ ?_
  refine Wp.c_ge rfl rfl ⟨fun c => ?_, fun c => ?_⟩
  · have H := H.1 c
    refine Wp.go (x := (.aload_n 0, 1, 0, 0)) rfl 103 [some (.ref r0), none, some (.int x2), some (.int x3)] [.ref r0] rfl ⟨rfl, rfl, rfl, rfl⟩ ?_
    refine Wp.gR rfl rfl hn_r0 rfl rfl hf1 ?_
    refine Wp.ic (v := nI 0) rfl rfl (by decide) ?_
    obtain ⟨j2, e, b, H⟩ := H
    refine Wp.lld rfl rfl hn_f1 (hK hn_f1) ⟨j2, e, b, ?_⟩
    exact Wp.rJ rfl rfl H
  · have H := H.2 c
    refine Wp.go (x := (.aload_n 0, 1, 0, 0)) rfl 60 [some (.ref r0), none, some (.int x2), some (.int x3)] [.ref r0] rfl ⟨rfl, rfl, rfl, rfl⟩ ?_
    refine Wp.gI rfl rfl hn_r0 rfl ⟨by decide, by decide⟩ ?_
    refine Wp.bp (v := nI 12) rfl rfl (by decide) ?_
    refine Wp.c_ge rfl rfl ⟨fun c => ?_, fun c => ?_⟩
    · have H := H.1 c
      refine Wp.go (x := (.aload_n 0, 1, 0, 0)) rfl 103 [some (.ref r0), none, some (.int x2), some (.int x3)] [.ref r0] rfl ⟨rfl, rfl, rfl, rfl⟩ ?_
      refine Wp.gR rfl rfl hn_r0 rfl rfl hf1 ?_
      refine Wp.ic (v := nI 0) rfl rfl (by decide) ?_
      obtain ⟨j3, e, b, H⟩ := H
      refine Wp.lld rfl rfl hn_f1 (hK hn_f1) ⟨j3, e, b, ?_⟩
      exact Wp.rJ rfl rfl H
    · have H := H.2 c
      refine Wp.go (x := (.aload_n 0, 1, 0, 0)) rfl 69 [some (.ref r0), none, some (.int x2), some (.int x3)] [.ref r0] rfl ⟨rfl, rfl, rfl, rfl⟩ ?_
      refine Wp.gR rfl rfl hn_r0 rfl rfl hf4 ?_
      refine Wp.go (x := (.aload_n 0, 1, 0, 0)) rfl 73 [some (.ref r0), none, some (.int x2), some (.int x3)] [.ref r0, .ref f4] rfl ⟨rfl, rfl, rfl, rfl⟩ ?_
      refine Wp.gI rfl rfl hn_r0 rfl ⟨by decide, by decide⟩ ?_
      refine Wp.go (x := (.aload_n 0, 1, 0, 0)) rfl 77 [some (.ref r0), none, some (.int x2), some (.int x3)] [.ref r0, .int (I r0 4), .ref f4] rfl ⟨rfl, rfl, rfl, rfl⟩ ?_
      refine Wp.go (x := (.iload_n 3, 1, 0, 0)) rfl 78 [some (.ref r0), none, some (.int x2), some (.int x3)] [.int x3, .ref r0, .int (I r0 4), .ref f4] rfl ⟨rfl, rfl, rfl, rfl⟩ ?_
      refine Wp.kI (x := (.invokevirtual 49, 3, 6, 2)) (j := 6) (vs := [.ref r0, .int x3]) (rest := [.int (I r0 4), .ref f4]) rfl (by show xtg 6 (K r0).1 = _; rw [hn_r0]; rfl) rfl ⟨Nat.le_of_ble_eq_true rfl, Nat.le_of_ble_eq_true rfl, Nat.le_of_ble_eq_true rfl⟩ rfl rfl rfl H (fun v5 I6 J7 H => ?_)
      obtain ⟨j8, e, b, H⟩ := H
      refine Wp.ast rfl rfl hn_f4 (hK hn_f4) ⟨j8, e, b, ?_⟩
      refine Wp.go (x := (.aload_n 0, 1, 0, 0)) rfl 83 [some (.ref r0), none, some (.int x2), some (.int x3)] [.ref r0] rfl ⟨rfl, rfl, rfl, rfl⟩ ?_
      refine Wp.go (x := (.dup, 1, 0, 0)) rfl 84 [some (.ref r0), none, some (.int x2), some (.int x3)] [.ref r0, .ref r0] rfl ⟨rfl, rfl, rfl, rfl⟩ ?_
      refine Wp.gI rfl rfl hn_r0 rfl ⟨by decide, by decide⟩ ?_
      refine Wp.ic (v := nI 1) rfl rfl (by decide) ?_
      refine Wp.go (x := (.iadd, 1, 0, 0)) rfl 89 [some (.ref r0), none, some (.int x2), some (.int x3)] [.int ((((xup I6 f4 j8 v5)) r0 4) + (nI 1)), .ref r0] rfl ⟨rfl, rfl, rfl, rfl⟩ ?_
      refine Wp.pI rfl rfl hn_r0 rfl (Or.inl rfl) ?_
      refine Wp.go (x := (.aload_n 0, 1, 0, 0)) rfl 93 [some (.ref r0), none, some (.int x2), some (.int x3)] [.ref r0] rfl ⟨rfl, rfl, rfl, rfl⟩ ?_
      refine Wp.gR rfl rfl hn_r0 rfl rfl hf9 ?_
      refine Wp.go (x := (.iload_n 3, 1, 0, 0)) rfl 97 [some (.ref r0), none, some (.int x2), some (.int x3)] [.int x3, .ref f9] rfl ⟨rfl, rfl, rfl, rfl⟩ ?_
      obtain ⟨j10, e, b, H⟩ := H
      refine Wp.ald rfl rfl hn_f9 (Or.inl rfl) (hK hn_f9) ⟨j10, e, b, ?_⟩
      refine Wp.go (x := (.istore_n 3, 1, 0, 0)) rfl 99 [some (.ref r0), none, some (.int x2), some (.int (((xup ((xup I6 f4 j8 v5)) r0 4 ((((xup I6 f4 j8 v5)) r0 4) + (nI 1)))) f9 j10))] [] rfl ⟨rfl, rfl, rfl, rfl⟩ ?_
      refine Wp.go (x := (.goto (-45), 3, 54, 0)) rfl 54 [some (.ref r0), none, some (.int x2), some (.int (((xup ((xup I6 f4 j8 v5)) r0 4 ((((xup I6 f4 j8 v5)) r0 4) + (nI 1)))) f9 j10))] [] rfl ⟨rfl, rfl, rfl, rfl⟩ ?_
      exact H
set_option maxRecDepth 20000 in
theorem wX0_findRest_0 {d : Nat} {Q : Option Value × xS → Prop} {K : Nat → Nat × Nat} {P : List Nat × Nat × Nat} {I : Nat → Nat → Int32} {J : Nat → Nat → Int64} {F : Nat → Nat → Option Nat} {r0 : Nat} {x1 : Int32} {x2 : Int32} {n_r0 : Nat} {f1 : Nat} (hn_r0 : K r0 = (1, n_r0)) (hf1 : F r0 8 = some f1) (H : Wp d 166 0 [some (.ref f1), some (.int (nI 0)), none, none] [] (K, P, I, J, F) (xrV K P F (fun I2 J3 => Wp d 6 0 [some (.ref r0), some (.int x1)] [] (K, P, I2, J3, F) (xrI K P F (fun v4 I5 J6 => Wp (d + 1) 4 25 [some (.ref r0), some (.int x1), some (.int x2), some (.int v4), some (.int v4), some (.int (nI 0)), some (.int (x1 + (nI 1))), none, none, none, none, none] [] (K, P, I5, J6, F) Q))))) : Wp (d + 1) 4 0 [some (.ref r0), some (.int x1), some (.int x2), none, none, none, none, none, none, none, none, none] [] (K, P, I, J, F) Q := by
  refine Wp.go (x := (.aload_n 0, 1, 0, 0)) rfl 1 [some (.ref r0), some (.int x1), some (.int x2), none, none, none, none, none, none, none, none, none] [.ref r0] rfl ⟨rfl, rfl, rfl, rfl⟩ ?_
  refine Wp.gR rfl rfl hn_r0 rfl rfl hf1 ?_
  refine Wp.ic (v := nI 0) rfl rfl (by decide) ?_
  refine Wp.kV (x := (.invokestatic 53, 3, 166, 2)) (j := 166) (vs := [.ref f1, .int (nI 0)]) (rest := []) rfl rfl rfl ⟨Nat.le_of_ble_eq_true rfl, Nat.le_of_ble_eq_true rfl, Nat.le_of_ble_eq_true rfl⟩ rfl rfl rfl H (fun I2 J3 H => ?_)
  refine Wp.go (x := (.aload_n 0, 1, 0, 0)) rfl 9 [some (.ref r0), some (.int x1), some (.int x2), none, none, none, none, none, none, none, none, none] [.ref r0] rfl ⟨rfl, rfl, rfl, rfl⟩ ?_
  refine Wp.go (x := (.iload_n 1, 1, 0, 0)) rfl 10 [some (.ref r0), some (.int x1), some (.int x2), none, none, none, none, none, none, none, none, none] [.int x1, .ref r0] rfl ⟨rfl, rfl, rfl, rfl⟩ ?_
  refine Wp.kI (x := (.invokevirtual 49, 3, 6, 2)) (j := 6) (vs := [.ref r0, .int x1]) (rest := []) rfl (by show xtg 6 (K r0).1 = _; rw [hn_r0]; rfl) rfl ⟨Nat.le_of_ble_eq_true rfl, Nat.le_of_ble_eq_true rfl, Nat.le_of_ble_eq_true rfl⟩ rfl rfl rfl H (fun v4 I5 J6 H => ?_)
  refine Wp.go (x := (.istore_n 3, 1, 0, 0)) rfl 14 [some (.ref r0), some (.int x1), some (.int x2), some (.int v4), none, none, none, none, none, none, none, none] [] rfl ⟨rfl, rfl, rfl, rfl⟩ ?_
  refine Wp.go (x := (.iload_n 3, 1, 0, 0)) rfl 15 [some (.ref r0), some (.int x1), some (.int x2), some (.int v4), none, none, none, none, none, none, none, none] [.int v4] rfl ⟨rfl, rfl, rfl, rfl⟩ ?_
  refine Wp.go (x := (.istore 4, 2, 0, 0)) rfl 17 [some (.ref r0), some (.int x1), some (.int x2), some (.int v4), some (.int v4), none, none, none, none, none, none, none] [] rfl ⟨rfl, rfl, rfl, rfl⟩ ?_
  refine Wp.ic (v := nI 0) rfl rfl (by decide) ?_
  refine Wp.go (x := (.istore 5, 2, 0, 0)) rfl 20 [some (.ref r0), some (.int x1), some (.int x2), some (.int v4), some (.int v4), some (.int (nI 0)), none, none, none, none, none, none] [] rfl ⟨rfl, rfl, rfl, rfl⟩ ?_
  refine Wp.go (x := (.iload_n 1, 1, 0, 0)) rfl 21 [some (.ref r0), some (.int x1), some (.int x2), some (.int v4), some (.int v4), some (.int (nI 0)), none, none, none, none, none, none] [.int x1] rfl ⟨rfl, rfl, rfl, rfl⟩ ?_
  refine Wp.ic (v := nI 1) rfl rfl (by decide) ?_
  refine Wp.go (x := (.iadd, 1, 0, 0)) rfl 23 [some (.ref r0), some (.int x1), some (.int x2), some (.int v4), some (.int v4), some (.int (nI 0)), none, none, none, none, none, none] [.int (x1 + (nI 1))] rfl ⟨rfl, rfl, rfl, rfl⟩ ?_
  refine Wp.go (x := (.istore 6, 2, 0, 0)) rfl 25 [some (.ref r0), some (.int x1), some (.int x2), some (.int v4), some (.int v4), some (.int (nI 0)), some (.int (x1 + (nI 1))), none, none, none, none, none] [] rfl ⟨rfl, rfl, rfl, rfl⟩ ?_
  exact H
set_option maxRecDepth 20000 in
theorem wX0_findRest_25 {d : Nat} {Q : Option Value × xS → Prop} {K : Nat → Nat × Nat} {P : List Nat × Nat × Nat} {I : Nat → Nat → Int32} {J : Nat → Nat → Int64} {F : Nat → Nat → Option Nat} {r0 : Nat} {x1 : Int32} {x2 : Int32} {x3 : Int32} {x4 : Int32} {x5 : Int32} {x6 : Int32} {n_r0 : Nat} (hn_r0 : K r0 = (1, n_r0)) (H : ((((I r0 2) + (nI 1)) < x6 → Q (none, (K, P, I, J, F))) ∧ (¬ ((I r0 2) + (nI 1)) < x6 → Wp d 6 0 [some (.ref r0), some (.int x6)] [] (K, P, I, J, F) (xrI K P F (fun v1 I2 J3 => Wp (d + 1) 4 44 [some (.ref r0), some (.int x1), some (.int x2), some (.int x3), some (.int x4), some (.int x5), some (.int x6), some (.int v1), none, none, none, none] [] (K, P, I2, J3, F) Q))))) : Wp (d + 1) 4 25 [some (.ref r0), some (.int x1), some (.int x2), some (.int x3), some (.int x4), some (.int x5), some (.int x6), none, none, none, none, none] [] (K, P, I, J, F) Q := by
  refine Wp.go (x := (.iload 6, 2, 0, 0)) rfl 27 [some (.ref r0), some (.int x1), some (.int x2), some (.int x3), some (.int x4), some (.int x5), some (.int x6), none, none, none, none, none] [.int x6] rfl ⟨rfl, rfl, rfl, rfl⟩ ?_
  refine Wp.go (x := (.aload_n 0, 1, 0, 0)) rfl 28 [some (.ref r0), some (.int x1), some (.int x2), some (.int x3), some (.int x4), some (.int x5), some (.int x6), none, none, none, none, none] [.ref r0, .int x6] rfl ⟨rfl, rfl, rfl, rfl⟩ ?_
  refine Wp.gI rfl rfl hn_r0 rfl ⟨by decide, by decide⟩ ?_
  refine Wp.ic (v := nI 1) rfl rfl (by decide) ?_
  refine Wp.go (x := (.iadd, 1, 0, 0)) rfl 33 [some (.ref r0), some (.int x1), some (.int x2), some (.int x3), some (.int x4), some (.int x5), some (.int x6), none, none, none, none, none] [.int ((I r0 2) + (nI 1)), .int x6] rfl ⟨rfl, rfl, rfl, rfl⟩ ?_
  refine Wp.c_gt rfl rfl ⟨fun c => ?_, fun c => ?_⟩
  · have H := H.1 c
    exact Wp.rV rfl rfl H
  · have H := H.2 c
    refine Wp.go (x := (.aload_n 0, 1, 0, 0)) rfl 37 [some (.ref r0), some (.int x1), some (.int x2), some (.int x3), some (.int x4), some (.int x5), some (.int x6), none, none, none, none, none] [.ref r0] rfl ⟨rfl, rfl, rfl, rfl⟩ ?_
    refine Wp.go (x := (.iload 6, 2, 0, 0)) rfl 39 [some (.ref r0), some (.int x1), some (.int x2), some (.int x3), some (.int x4), some (.int x5), some (.int x6), none, none, none, none, none] [.int x6, .ref r0] rfl ⟨rfl, rfl, rfl, rfl⟩ ?_
    refine Wp.kI (x := (.invokevirtual 49, 3, 6, 2)) (j := 6) (vs := [.ref r0, .int x6]) (rest := []) rfl (by show xtg 6 (K r0).1 = _; rw [hn_r0]; rfl) rfl ⟨Nat.le_of_ble_eq_true rfl, Nat.le_of_ble_eq_true rfl, Nat.le_of_ble_eq_true rfl⟩ rfl rfl rfl H (fun v1 I2 J3 H => ?_)
    refine Wp.go (x := (.istore 7, 2, 0, 0)) rfl 44 [some (.ref r0), some (.int x1), some (.int x2), some (.int x3), some (.int x4), some (.int x5), some (.int x6), some (.int v1), none, none, none, none] [] rfl ⟨rfl, rfl, rfl, rfl⟩ ?_
    exact H
set_option maxRecDepth 20000 in
theorem wX0_findRest_44 {d : Nat} {Q : Option Value × xS → Prop} {K : Nat → Nat × Nat} {P : List Nat × Nat × Nat} {I : Nat → Nat → Int32} {J : Nat → Nat → Int64} {F : Nat → Nat → Option Nat} {r0 : Nat} {x1 : Int32} {x2 : Int32} {x3 : Int32} {x4 : Int32} {x5 : Int32} {x6 : Int32} {x7 : Int32} {n_r0 : Nat} {f4 : Nat} {n_f4 : Nat} {f6 : Nat} {n_f6 : Nat} {f11 : Nat} {n_f11 : Nat} {f12 : Nat} {n_f12 : Nat} (hK : ∀ {a k n : Nat}, K a = (k, n) → n < 2147483648) (hn_r0 : K r0 = (1, n_r0)) (hf4 : F r0 5 = some f4) (hn_f4 : K f4 = (101, n_f4)) (hf6 : F r0 6 = some f6) (hn_f6 : K f6 = (100, n_f6)) (hf11 : F r0 0 = some f11) (hn_f11 : K f11 = (8, n_f11)) (hf12 : F f11 2 = some f12) (hn_f12 : K f12 = (100, n_f12)) (H : ((x7 ≤ x4 → Wp d 94 0 [some (.int (x7 - x3)), none] [] (K, P, I, J, F) (xrI K P F (fun v1 I2 J3 => (∃ j5 : Nat, x6 = nI j5 ∧ j5 < n_f4 ∧ (∃ j7 : Nat, x6 = nI j7 ∧ j7 < n_f6 ∧ ((x6 = (x1 + (nI 1)) → Wp (d + 1) 4 160 [some (.ref r0), some (.int x1), some (.int x2), some (.int x3), some (.int x4), some (.int x5), some (.int x6), none, none, some (.long ((((x2 + ((x7 - x3) * v1)) - x5).toInt64) + (J3 f4 j5))), none, some (.int ((nI 1) + (I2 f6 j7)))] [] (K, P, I2, J3, F) Q) ∧ (¬ x6 = (x1 + (nI 1)) → (∃ j8 : Nat, x1 = nI j8 ∧ j8 < n_f4 ∧ (((lg_cmp ((((x2 + ((x7 - x3) * v1)) - x5).toInt64) + (J3 f4 j5)) (J3 f4 j8)) < 0 → Wp (d + 1) 4 160 [some (.ref r0), some (.int x1), some (.int x2), some (.int x3), some (.int x4), some (.int x5), some (.int x6), none, none, some (.long ((((x2 + ((x7 - x3) * v1)) - x5).toInt64) + (J3 f4 j5))), none, some (.int ((nI 1) + (I2 f6 j7)))] [] (K, P, I2, J3, F) Q) ∧ (¬ (lg_cmp ((((x2 + ((x7 - x3) * v1)) - x5).toInt64) + (J3 f4 j5)) (J3 f4 j8)) < 0 → (∃ j9 : Nat, x1 = nI j9 ∧ j9 < n_f4 ∧ ((¬ (lg_cmp ((((x2 + ((x7 - x3) * v1)) - x5).toInt64) + (J3 f4 j5)) (J3 f4 j9)) = 0 → Wp (d + 1) 4 25 [some (.ref r0), some (.int x1), some (.int x2), some (.int x3), some (.int x4), some (.int x5), some (.int (x6 + nI 1)), none, none, none, none, none] [] (K, P, I2, J3, F) Q) ∧ ((lg_cmp ((((x2 + ((x7 - x3) * v1)) - x5).toInt64) + (J3 f4 j5)) (J3 f4 j9)) = 0 → (∃ j10 : Nat, x1 = nI j10 ∧ j10 < n_f6 ∧ (((I2 f6 j10) ≤ ((nI 1) + (I2 f6 j7)) → Wp (d + 1) 4 25 [some (.ref r0), some (.int x1), some (.int x2), some (.int x3), some (.int x4), some (.int x5), some (.int (x6 + nI 1)), none, none, none, none, none] [] (K, P, I2, J3, F) Q) ∧ (¬ (I2 f6 j10) ≤ ((nI 1) + (I2 f6 j7)) → Wp (d + 1) 4 160 [some (.ref r0), some (.int x1), some (.int x2), some (.int x3), some (.int x4), some (.int x5), some (.int x6), none, none, some (.long ((((x2 + ((x7 - x3) * v1)) - x5).toInt64) + (J3 f4 j5))), none, some (.int ((nI 1) + (I2 f6 j7)))] [] (K, P, I2, J3, F) Q)))))))))))))))) ∧ (¬ x7 ≤ x4 → (∃ j13 : Nat, x4 = nI j13 ∧ j13 < n_f12 ∧ Wp d 5 0 [some (.ref r0), some (.int (I f12 j13)), none] [] (K, P, I, J, F) (xrI K P F (fun v14 I15 J16 => Wp (d + 1) 4 44 [some (.ref r0), some (.int x1), some (.int x2), some (.int x3), some (.int (x4 + nI 1)), some (.int (x5 + v14)), some (.int x6), some (.int x7), none, none, none, none] [] (K, P, I15, J16, F) Q)))))) : Wp (d + 1) 4 44 [some (.ref r0), some (.int x1), some (.int x2), some (.int x3), some (.int x4), some (.int x5), some (.int x6), some (.int x7), none, none, none, none] [] (K, P, I, J, F) Q := by
  refine Wp.go (x := (.iload 4, 2, 0, 0)) rfl 46 [some (.ref r0), some (.int x1), some (.int x2), some (.int x3), some (.int x4), some (.int x5), some (.int x6), some (.int x7), none, none, none, none] [.int x4] rfl ⟨rfl, rfl, rfl, rfl⟩ ?_
  refine Wp.go (x := (.iload 7, 2, 0, 0)) rfl 48 [some (.ref r0), some (.int x1), some (.int x2), some (.int x3), some (.int x4), some (.int x5), some (.int x6), some (.int x7), none, none, none, none] [.int x7, .int x4] rfl ⟨rfl, rfl, rfl, rfl⟩ ?_
  refine Wp.c_ge rfl rfl ⟨fun c => ?_, fun c => ?_⟩
  · have H := H.1 c
    refine Wp.go (x := (.iload 7, 2, 0, 0)) rfl 78 [some (.ref r0), some (.int x1), some (.int x2), some (.int x3), some (.int x4), some (.int x5), some (.int x6), some (.int x7), none, none, none, none] [.int x7] rfl ⟨rfl, rfl, rfl, rfl⟩ ?_
    refine Wp.go (x := (.iload_n 3, 1, 0, 0)) rfl 79 [some (.ref r0), some (.int x1), some (.int x2), some (.int x3), some (.int x4), some (.int x5), some (.int x6), some (.int x7), none, none, none, none] [.int x3, .int x7] rfl ⟨rfl, rfl, rfl, rfl⟩ ?_
    refine Wp.go (x := (.isub, 1, 0, 0)) rfl 80 [some (.ref r0), some (.int x1), some (.int x2), some (.int x3), some (.int x4), some (.int x5), some (.int x6), some (.int x7), none, none, none, none] [.int (x7 - x3)] rfl ⟨rfl, rfl, rfl, rfl⟩ ?_
    refine Wp.go (x := (.istore 8, 2, 0, 0)) rfl 82 [some (.ref r0), some (.int x1), some (.int x2), some (.int x3), some (.int x4), some (.int x5), some (.int x6), some (.int x7), some (.int (x7 - x3)), none, none, none] [] rfl ⟨rfl, rfl, rfl, rfl⟩ ?_
    refine Wp.go (x := (.iload_n 2, 1, 0, 0)) rfl 83 [some (.ref r0), some (.int x1), some (.int x2), some (.int x3), some (.int x4), some (.int x5), some (.int x6), some (.int x7), some (.int (x7 - x3)), none, none, none] [.int x2] rfl ⟨rfl, rfl, rfl, rfl⟩ ?_
    refine Wp.go (x := (.iload 8, 2, 0, 0)) rfl 85 [some (.ref r0), some (.int x1), some (.int x2), some (.int x3), some (.int x4), some (.int x5), some (.int x6), some (.int x7), some (.int (x7 - x3)), none, none, none] [.int (x7 - x3), .int x2] rfl ⟨rfl, rfl, rfl, rfl⟩ ?_
    refine Wp.go (x := (.iload 8, 2, 0, 0)) rfl 87 [some (.ref r0), some (.int x1), some (.int x2), some (.int x3), some (.int x4), some (.int x5), some (.int x6), some (.int x7), some (.int (x7 - x3)), none, none, none] [.int (x7 - x3), .int (x7 - x3), .int x2] rfl ⟨rfl, rfl, rfl, rfl⟩ ?_
    refine Wp.kI (x := (.invokestatic 65, 3, 94, 1)) (j := 94) (vs := [.int (x7 - x3)]) (rest := [.int (x7 - x3), .int x2]) rfl rfl rfl ⟨Nat.le_of_ble_eq_true rfl, Nat.le_of_ble_eq_true rfl, Nat.le_of_ble_eq_true rfl⟩ rfl rfl rfl H (fun v1 I2 J3 H => ?_)
    refine Wp.go (x := (.imul, 1, 0, 0)) rfl 91 [some (.ref r0), some (.int x1), some (.int x2), some (.int x3), some (.int x4), some (.int x5), some (.int x6), some (.int x7), some (.int (x7 - x3)), none, none, none] [.int ((x7 - x3) * v1), .int x2] rfl ⟨rfl, rfl, rfl, rfl⟩ ?_
    refine Wp.go (x := (.iadd, 1, 0, 0)) rfl 92 [some (.ref r0), some (.int x1), some (.int x2), some (.int x3), some (.int x4), some (.int x5), some (.int x6), some (.int x7), some (.int (x7 - x3)), none, none, none] [.int (x2 + ((x7 - x3) * v1))] rfl ⟨rfl, rfl, rfl, rfl⟩ ?_
    refine Wp.go (x := (.iload 5, 2, 0, 0)) rfl 94 [some (.ref r0), some (.int x1), some (.int x2), some (.int x3), some (.int x4), some (.int x5), some (.int x6), some (.int x7), some (.int (x7 - x3)), none, none, none] [.int x5, .int (x2 + ((x7 - x3) * v1))] rfl ⟨rfl, rfl, rfl, rfl⟩ ?_
    refine Wp.go (x := (.isub, 1, 0, 0)) rfl 95 [some (.ref r0), some (.int x1), some (.int x2), some (.int x3), some (.int x4), some (.int x5), some (.int x6), some (.int x7), some (.int (x7 - x3)), none, none, none] [.int ((x2 + ((x7 - x3) * v1)) - x5)] rfl ⟨rfl, rfl, rfl, rfl⟩ ?_
    refine Wp.go (x := (.i2l, 1, 0, 0)) rfl 96 [some (.ref r0), some (.int x1), some (.int x2), some (.int x3), some (.int x4), some (.int x5), some (.int x6), some (.int x7), some (.int (x7 - x3)), none, none, none] [.long (((x2 + ((x7 - x3) * v1)) - x5).toInt64)] rfl ⟨rfl, rfl, rfl, rfl⟩ ?_
    refine Wp.go (x := (.aload_n 0, 1, 0, 0)) rfl 97 [some (.ref r0), some (.int x1), some (.int x2), some (.int x3), some (.int x4), some (.int x5), some (.int x6), some (.int x7), some (.int (x7 - x3)), none, none, none] [.ref r0, .long (((x2 + ((x7 - x3) * v1)) - x5).toInt64)] rfl ⟨rfl, rfl, rfl, rfl⟩ ?_
    refine Wp.gR rfl rfl hn_r0 rfl rfl hf4 ?_
    refine Wp.go (x := (.iload 6, 2, 0, 0)) rfl 102 [some (.ref r0), some (.int x1), some (.int x2), some (.int x3), some (.int x4), some (.int x5), some (.int x6), some (.int x7), some (.int (x7 - x3)), none, none, none] [.int x6, .ref f4, .long (((x2 + ((x7 - x3) * v1)) - x5).toInt64)] rfl ⟨rfl, rfl, rfl, rfl⟩ ?_
    obtain ⟨j5, e, b, H⟩ := H
    refine Wp.lld rfl rfl hn_f4 (hK hn_f4) ⟨j5, e, b, ?_⟩
    refine Wp.go (x := (.ladd, 1, 0, 0)) rfl 104 [some (.ref r0), some (.int x1), some (.int x2), some (.int x3), some (.int x4), some (.int x5), some (.int x6), some (.int x7), some (.int (x7 - x3)), none, none, none] [.long ((((x2 + ((x7 - x3) * v1)) - x5).toInt64) + (J3 f4 j5))] rfl ⟨rfl, rfl, rfl, rfl⟩ ?_
    refine Wp.go (x := (.lstore 9, 2, 0, 0)) rfl 106 [some (.ref r0), some (.int x1), some (.int x2), some (.int x3), some (.int x4), some (.int x5), some (.int x6), some (.int x7), some (.int (x7 - x3)), some (.long ((((x2 + ((x7 - x3) * v1)) - x5).toInt64) + (J3 f4 j5))), none, none] [] rfl ⟨rfl, rfl, rfl, rfl⟩ ?_
    refine Wp.ic (v := nI 1) rfl rfl (by decide) ?_
    refine Wp.go (x := (.aload_n 0, 1, 0, 0)) rfl 108 [some (.ref r0), some (.int x1), some (.int x2), some (.int x3), some (.int x4), some (.int x5), some (.int x6), some (.int x7), some (.int (x7 - x3)), some (.long ((((x2 + ((x7 - x3) * v1)) - x5).toInt64) + (J3 f4 j5))), none, none] [.ref r0, .int (nI 1)] rfl ⟨rfl, rfl, rfl, rfl⟩ ?_
    refine Wp.gR rfl rfl hn_r0 rfl rfl hf6 ?_
    refine Wp.go (x := (.iload 6, 2, 0, 0)) rfl 113 [some (.ref r0), some (.int x1), some (.int x2), some (.int x3), some (.int x4), some (.int x5), some (.int x6), some (.int x7), some (.int (x7 - x3)), some (.long ((((x2 + ((x7 - x3) * v1)) - x5).toInt64) + (J3 f4 j5))), none, none] [.int x6, .ref f6, .int (nI 1)] rfl ⟨rfl, rfl, rfl, rfl⟩ ?_
    obtain ⟨j7, e, b, H⟩ := H
    refine Wp.ald rfl rfl hn_f6 (Or.inl rfl) (hK hn_f6) ⟨j7, e, b, ?_⟩
    refine Wp.go (x := (.iadd, 1, 0, 0)) rfl 115 [some (.ref r0), some (.int x1), some (.int x2), some (.int x3), some (.int x4), some (.int x5), some (.int x6), some (.int x7), some (.int (x7 - x3)), some (.long ((((x2 + ((x7 - x3) * v1)) - x5).toInt64) + (J3 f4 j5))), none, none] [.int ((nI 1) + (I2 f6 j7))] rfl ⟨rfl, rfl, rfl, rfl⟩ ?_
    refine Wp.go (x := (.istore 11, 2, 0, 0)) rfl 117 [some (.ref r0), some (.int x1), some (.int x2), some (.int x3), some (.int x4), some (.int x5), some (.int x6), some (.int x7), some (.int (x7 - x3)), some (.long ((((x2 + ((x7 - x3) * v1)) - x5).toInt64) + (J3 f4 j5))), none, some (.int ((nI 1) + (I2 f6 j7)))] [] rfl ⟨rfl, rfl, rfl, rfl⟩ ?_
    refine Wp.go (x := (.iload 6, 2, 0, 0)) rfl 119 [some (.ref r0), some (.int x1), some (.int x2), some (.int x3), some (.int x4), some (.int x5), some (.int x6), some (.int x7), some (.int (x7 - x3)), some (.long ((((x2 + ((x7 - x3) * v1)) - x5).toInt64) + (J3 f4 j5))), none, some (.int ((nI 1) + (I2 f6 j7)))] [.int x6] rfl ⟨rfl, rfl, rfl, rfl⟩ ?_
    refine Wp.go (x := (.iload_n 1, 1, 0, 0)) rfl 120 [some (.ref r0), some (.int x1), some (.int x2), some (.int x3), some (.int x4), some (.int x5), some (.int x6), some (.int x7), some (.int (x7 - x3)), some (.long ((((x2 + ((x7 - x3) * v1)) - x5).toInt64) + (J3 f4 j5))), none, some (.int ((nI 1) + (I2 f6 j7)))] [.int x1, .int x6] rfl ⟨rfl, rfl, rfl, rfl⟩ ?_
    refine Wp.ic (v := nI 1) rfl rfl (by decide) ?_
    refine Wp.go (x := (.iadd, 1, 0, 0)) rfl 122 [some (.ref r0), some (.int x1), some (.int x2), some (.int x3), some (.int x4), some (.int x5), some (.int x6), some (.int x7), some (.int (x7 - x3)), some (.long ((((x2 + ((x7 - x3) * v1)) - x5).toInt64) + (J3 f4 j5))), none, some (.int ((nI 1) + (I2 f6 j7)))] [.int (x1 + (nI 1)), .int x6] rfl ⟨rfl, rfl, rfl, rfl⟩ ?_
    refine Wp.c_eq rfl rfl ⟨fun c => ?_, fun c => ?_⟩
    · have H := H.1 c
      exact Wp.wk (L := [some (.ref r0), some (.int x1), some (.int x2), some (.int x3), some (.int x4), some (.int x5), some (.int x6), none, none, some (.long ((((x2 + ((x7 - x3) * v1)) - x5).toInt64) + (J3 f4 j5))), none, some (.int ((nI 1) + (I2 f6 j7)))]) ⟨Or.inr rfl, Or.inr rfl, Or.inr rfl, Or.inr rfl, Or.inr rfl, Or.inr rfl, Or.inr rfl, Or.inl rfl, Or.inl rfl, Or.inr rfl, Or.inr rfl, Or.inr rfl, trivial⟩ H
    · have H := H.2 c
      refine Wp.go (x := (.lload 9, 2, 0, 0)) rfl 127 [some (.ref r0), some (.int x1), some (.int x2), some (.int x3), some (.int x4), some (.int x5), some (.int x6), some (.int x7), some (.int (x7 - x3)), some (.long ((((x2 + ((x7 - x3) * v1)) - x5).toInt64) + (J3 f4 j5))), none, some (.int ((nI 1) + (I2 f6 j7)))] [.long ((((x2 + ((x7 - x3) * v1)) - x5).toInt64) + (J3 f4 j5))] rfl ⟨rfl, rfl, rfl, rfl⟩ ?_
      refine Wp.go (x := (.aload_n 0, 1, 0, 0)) rfl 128 [some (.ref r0), some (.int x1), some (.int x2), some (.int x3), some (.int x4), some (.int x5), some (.int x6), some (.int x7), some (.int (x7 - x3)), some (.long ((((x2 + ((x7 - x3) * v1)) - x5).toInt64) + (J3 f4 j5))), none, some (.int ((nI 1) + (I2 f6 j7)))] [.ref r0, .long ((((x2 + ((x7 - x3) * v1)) - x5).toInt64) + (J3 f4 j5))] rfl ⟨rfl, rfl, rfl, rfl⟩ ?_
      refine Wp.gR rfl rfl hn_r0 rfl rfl hf4 ?_
      refine Wp.go (x := (.iload_n 1, 1, 0, 0)) rfl 132 [some (.ref r0), some (.int x1), some (.int x2), some (.int x3), some (.int x4), some (.int x5), some (.int x6), some (.int x7), some (.int (x7 - x3)), some (.long ((((x2 + ((x7 - x3) * v1)) - x5).toInt64) + (J3 f4 j5))), none, some (.int ((nI 1) + (I2 f6 j7)))] [.int x1, .ref f4, .long ((((x2 + ((x7 - x3) * v1)) - x5).toInt64) + (J3 f4 j5))] rfl ⟨rfl, rfl, rfl, rfl⟩ ?_
      obtain ⟨j8, e, b, H⟩ := H
      refine Wp.lld rfl rfl hn_f4 (hK hn_f4) ⟨j8, e, b, ?_⟩
      refine Wp.go (x := (.lcmp, 1, 0, 0)) rfl 134 [some (.ref r0), some (.int x1), some (.int x2), some (.int x3), some (.int x4), some (.int x5), some (.int x6), some (.int x7), some (.int (x7 - x3)), some (.long ((((x2 + ((x7 - x3) * v1)) - x5).toInt64) + (J3 f4 j5))), none, some (.int ((nI 1) + (I2 f6 j7)))] [.int (lg_cmp ((((x2 + ((x7 - x3) * v1)) - x5).toInt64) + (J3 f4 j5)) (J3 f4 j8))] rfl ⟨rfl, rfl, rfl, rfl⟩ ?_
      refine Wp.z_lt rfl rfl ⟨fun c => ?_, fun c => ?_⟩
      · have H := H.1 c
        exact Wp.wk (L := [some (.ref r0), some (.int x1), some (.int x2), some (.int x3), some (.int x4), some (.int x5), some (.int x6), none, none, some (.long ((((x2 + ((x7 - x3) * v1)) - x5).toInt64) + (J3 f4 j5))), none, some (.int ((nI 1) + (I2 f6 j7)))]) ⟨Or.inr rfl, Or.inr rfl, Or.inr rfl, Or.inr rfl, Or.inr rfl, Or.inr rfl, Or.inr rfl, Or.inl rfl, Or.inl rfl, Or.inr rfl, Or.inr rfl, Or.inr rfl, trivial⟩ H
      · have H := H.2 c
        refine Wp.go (x := (.lload 9, 2, 0, 0)) rfl 139 [some (.ref r0), some (.int x1), some (.int x2), some (.int x3), some (.int x4), some (.int x5), some (.int x6), some (.int x7), some (.int (x7 - x3)), some (.long ((((x2 + ((x7 - x3) * v1)) - x5).toInt64) + (J3 f4 j5))), none, some (.int ((nI 1) + (I2 f6 j7)))] [.long ((((x2 + ((x7 - x3) * v1)) - x5).toInt64) + (J3 f4 j5))] rfl ⟨rfl, rfl, rfl, rfl⟩ ?_
        refine Wp.go (x := (.aload_n 0, 1, 0, 0)) rfl 140 [some (.ref r0), some (.int x1), some (.int x2), some (.int x3), some (.int x4), some (.int x5), some (.int x6), some (.int x7), some (.int (x7 - x3)), some (.long ((((x2 + ((x7 - x3) * v1)) - x5).toInt64) + (J3 f4 j5))), none, some (.int ((nI 1) + (I2 f6 j7)))] [.ref r0, .long ((((x2 + ((x7 - x3) * v1)) - x5).toInt64) + (J3 f4 j5))] rfl ⟨rfl, rfl, rfl, rfl⟩ ?_
        refine Wp.gR rfl rfl hn_r0 rfl rfl hf4 ?_
        refine Wp.go (x := (.iload_n 1, 1, 0, 0)) rfl 144 [some (.ref r0), some (.int x1), some (.int x2), some (.int x3), some (.int x4), some (.int x5), some (.int x6), some (.int x7), some (.int (x7 - x3)), some (.long ((((x2 + ((x7 - x3) * v1)) - x5).toInt64) + (J3 f4 j5))), none, some (.int ((nI 1) + (I2 f6 j7)))] [.int x1, .ref f4, .long ((((x2 + ((x7 - x3) * v1)) - x5).toInt64) + (J3 f4 j5))] rfl ⟨rfl, rfl, rfl, rfl⟩ ?_
        obtain ⟨j9, e, b, H⟩ := H
        refine Wp.lld rfl rfl hn_f4 (hK hn_f4) ⟨j9, e, b, ?_⟩
        refine Wp.go (x := (.lcmp, 1, 0, 0)) rfl 146 [some (.ref r0), some (.int x1), some (.int x2), some (.int x3), some (.int x4), some (.int x5), some (.int x6), some (.int x7), some (.int (x7 - x3)), some (.long ((((x2 + ((x7 - x3) * v1)) - x5).toInt64) + (J3 f4 j5))), none, some (.int ((nI 1) + (I2 f6 j7)))] [.int (lg_cmp ((((x2 + ((x7 - x3) * v1)) - x5).toInt64) + (J3 f4 j5)) (J3 f4 j9))] rfl ⟨rfl, rfl, rfl, rfl⟩ ?_
        refine Wp.z_ne rfl rfl ⟨fun c => ?_, fun c => ?_⟩
        · have H := H.1 c
          refine Wp.ii (v := nI 1) rfl rfl (by decide) rfl (L' := [some (.ref r0), some (.int x1), some (.int x2), some (.int x3), some (.int x4), some (.int x5), some (.int (x6 + nI 1)), some (.int x7), some (.int (x7 - x3)), some (.long ((((x2 + ((x7 - x3) * v1)) - x5).toInt64) + (J3 f4 j5))), none, some (.int ((nI 1) + (I2 f6 j7)))]) rfl ?_
          refine Wp.go (x := (.goto (-162), 3, 25, 0)) rfl 25 [some (.ref r0), some (.int x1), some (.int x2), some (.int x3), some (.int x4), some (.int x5), some (.int (x6 + nI 1)), some (.int x7), some (.int (x7 - x3)), some (.long ((((x2 + ((x7 - x3) * v1)) - x5).toInt64) + (J3 f4 j5))), none, some (.int ((nI 1) + (I2 f6 j7)))] [] rfl ⟨rfl, rfl, rfl, rfl⟩ ?_
          exact Wp.wk (L := [some (.ref r0), some (.int x1), some (.int x2), some (.int x3), some (.int x4), some (.int x5), some (.int (x6 + nI 1)), none, none, none, none, none]) ⟨Or.inr rfl, Or.inr rfl, Or.inr rfl, Or.inr rfl, Or.inr rfl, Or.inr rfl, Or.inr rfl, Or.inl rfl, Or.inl rfl, Or.inl rfl, Or.inr rfl, Or.inl rfl, trivial⟩ H
        · have H := H.2 c
          refine Wp.go (x := (.iload 11, 2, 0, 0)) rfl 151 [some (.ref r0), some (.int x1), some (.int x2), some (.int x3), some (.int x4), some (.int x5), some (.int x6), some (.int x7), some (.int (x7 - x3)), some (.long ((((x2 + ((x7 - x3) * v1)) - x5).toInt64) + (J3 f4 j5))), none, some (.int ((nI 1) + (I2 f6 j7)))] [.int ((nI 1) + (I2 f6 j7))] rfl ⟨rfl, rfl, rfl, rfl⟩ ?_
          refine Wp.go (x := (.aload_n 0, 1, 0, 0)) rfl 152 [some (.ref r0), some (.int x1), some (.int x2), some (.int x3), some (.int x4), some (.int x5), some (.int x6), some (.int x7), some (.int (x7 - x3)), some (.long ((((x2 + ((x7 - x3) * v1)) - x5).toInt64) + (J3 f4 j5))), none, some (.int ((nI 1) + (I2 f6 j7)))] [.ref r0, .int ((nI 1) + (I2 f6 j7))] rfl ⟨rfl, rfl, rfl, rfl⟩ ?_
          refine Wp.gR rfl rfl hn_r0 rfl rfl hf6 ?_
          refine Wp.go (x := (.iload_n 1, 1, 0, 0)) rfl 156 [some (.ref r0), some (.int x1), some (.int x2), some (.int x3), some (.int x4), some (.int x5), some (.int x6), some (.int x7), some (.int (x7 - x3)), some (.long ((((x2 + ((x7 - x3) * v1)) - x5).toInt64) + (J3 f4 j5))), none, some (.int ((nI 1) + (I2 f6 j7)))] [.int x1, .ref f6, .int ((nI 1) + (I2 f6 j7))] rfl ⟨rfl, rfl, rfl, rfl⟩ ?_
          obtain ⟨j10, e, b, H⟩ := H
          refine Wp.ald rfl rfl hn_f6 (Or.inl rfl) (hK hn_f6) ⟨j10, e, b, ?_⟩
          refine Wp.c_ge rfl rfl ⟨fun c => ?_, fun c => ?_⟩
          · have H := H.1 c
            refine Wp.ii (v := nI 1) rfl rfl (by decide) rfl (L' := [some (.ref r0), some (.int x1), some (.int x2), some (.int x3), some (.int x4), some (.int x5), some (.int (x6 + nI 1)), some (.int x7), some (.int (x7 - x3)), some (.long ((((x2 + ((x7 - x3) * v1)) - x5).toInt64) + (J3 f4 j5))), none, some (.int ((nI 1) + (I2 f6 j7)))]) rfl ?_
            refine Wp.go (x := (.goto (-162), 3, 25, 0)) rfl 25 [some (.ref r0), some (.int x1), some (.int x2), some (.int x3), some (.int x4), some (.int x5), some (.int (x6 + nI 1)), some (.int x7), some (.int (x7 - x3)), some (.long ((((x2 + ((x7 - x3) * v1)) - x5).toInt64) + (J3 f4 j5))), none, some (.int ((nI 1) + (I2 f6 j7)))] [] rfl ⟨rfl, rfl, rfl, rfl⟩ ?_
            exact Wp.wk (L := [some (.ref r0), some (.int x1), some (.int x2), some (.int x3), some (.int x4), some (.int x5), some (.int (x6 + nI 1)), none, none, none, none, none]) ⟨Or.inr rfl, Or.inr rfl, Or.inr rfl, Or.inr rfl, Or.inr rfl, Or.inr rfl, Or.inr rfl, Or.inl rfl, Or.inl rfl, Or.inl rfl, Or.inr rfl, Or.inl rfl, trivial⟩ H
          · have H := H.2 c
            exact Wp.wk (L := [some (.ref r0), some (.int x1), some (.int x2), some (.int x3), some (.int x4), some (.int x5), some (.int x6), none, none, some (.long ((((x2 + ((x7 - x3) * v1)) - x5).toInt64) + (J3 f4 j5))), none, some (.int ((nI 1) + (I2 f6 j7)))]) ⟨Or.inr rfl, Or.inr rfl, Or.inr rfl, Or.inr rfl, Or.inr rfl, Or.inr rfl, Or.inr rfl, Or.inl rfl, Or.inl rfl, Or.inr rfl, Or.inr rfl, Or.inr rfl, trivial⟩ H
  · have H := H.2 c
    refine Wp.go (x := (.iload 5, 2, 0, 0)) rfl 53 [some (.ref r0), some (.int x1), some (.int x2), some (.int x3), some (.int x4), some (.int x5), some (.int x6), some (.int x7), none, none, none, none] [.int x5] rfl ⟨rfl, rfl, rfl, rfl⟩ ?_
    refine Wp.go (x := (.aload_n 0, 1, 0, 0)) rfl 54 [some (.ref r0), some (.int x1), some (.int x2), some (.int x3), some (.int x4), some (.int x5), some (.int x6), some (.int x7), none, none, none, none] [.ref r0, .int x5] rfl ⟨rfl, rfl, rfl, rfl⟩ ?_
    refine Wp.go (x := (.aload_n 0, 1, 0, 0)) rfl 55 [some (.ref r0), some (.int x1), some (.int x2), some (.int x3), some (.int x4), some (.int x5), some (.int x6), some (.int x7), none, none, none, none] [.ref r0, .ref r0, .int x5] rfl ⟨rfl, rfl, rfl, rfl⟩ ?_
    refine Wp.gR rfl rfl hn_r0 rfl rfl hf11 ?_
    refine Wp.gR rfl rfl hn_f11 rfl rfl hf12 ?_
    refine Wp.go (x := (.iload 4, 2, 0, 0)) rfl 63 [some (.ref r0), some (.int x1), some (.int x2), some (.int x3), some (.int x4), some (.int x5), some (.int x6), some (.int x7), none, none, none, none] [.int x4, .ref f12, .ref r0, .int x5] rfl ⟨rfl, rfl, rfl, rfl⟩ ?_
    obtain ⟨j13, e, b, H⟩ := H
    refine Wp.ald rfl rfl hn_f12 (Or.inl rfl) (hK hn_f12) ⟨j13, e, b, ?_⟩
    refine Wp.kI (x := (.invokevirtual 62, 3, 5, 2)) (j := 5) (vs := [.ref r0, .int (I f12 j13)]) (rest := [.int x5]) rfl (by show xtg 5 (K r0).1 = _; rw [hn_r0]; rfl) rfl ⟨Nat.le_of_ble_eq_true rfl, Nat.le_of_ble_eq_true rfl, Nat.le_of_ble_eq_true rfl⟩ rfl rfl rfl H (fun v14 I15 J16 H => ?_)
    refine Wp.go (x := (.iadd, 1, 0, 0)) rfl 68 [some (.ref r0), some (.int x1), some (.int x2), some (.int x3), some (.int x4), some (.int x5), some (.int x6), some (.int x7), none, none, none, none] [.int (x5 + v14)] rfl ⟨rfl, rfl, rfl, rfl⟩ ?_
    refine Wp.go (x := (.istore 5, 2, 0, 0)) rfl 70 [some (.ref r0), some (.int x1), some (.int x2), some (.int x3), some (.int x4), some (.int (x5 + v14)), some (.int x6), some (.int x7), none, none, none, none] [] rfl ⟨rfl, rfl, rfl, rfl⟩ ?_
    refine Wp.ii (v := nI 1) rfl rfl (by decide) rfl (L' := [some (.ref r0), some (.int x1), some (.int x2), some (.int x3), some (.int (x4 + nI 1)), some (.int (x5 + v14)), some (.int x6), some (.int x7), none, none, none, none]) rfl ?_
    refine Wp.go (x := (.goto (-29), 3, 44, 0)) rfl 44 [some (.ref r0), some (.int x1), some (.int x2), some (.int x3), some (.int (x4 + nI 1)), some (.int (x5 + v14)), some (.int x6), some (.int x7), none, none, none, none] [] rfl ⟨rfl, rfl, rfl, rfl⟩ ?_
    exact H
set_option maxRecDepth 20000 in
theorem wX0_findRest_160 {d : Nat} {Q : Option Value × xS → Prop} {K : Nat → Nat × Nat} {P : List Nat × Nat × Nat} {I : Nat → Nat → Int32} {J : Nat → Nat → Int64} {F : Nat → Nat → Option Nat} {r0 : Nat} {x1 : Int32} {x2 : Int32} {x3 : Int32} {x4 : Int32} {x5 : Int32} {x6 : Int32} {y9 : Int64} {x11 : Int32} {n_r0 : Nat} {f1 : Nat} {n_f1 : Nat} {f3 : Nat} {n_f3 : Nat} {f5 : Nat} {n_f5 : Nat} (hK : ∀ {a k n : Nat}, K a = (k, n) → n < 2147483648) (hn_r0 : K r0 = (1, n_r0)) (hf1 : F r0 5 = some f1) (hn_f1 : K f1 = (101, n_f1)) (hf3 : F r0 6 = some f3) (hn_f3 : K f3 = (100, n_f3)) (hf5 : F r0 7 = some f5) (hn_f5 : K f5 = (100, n_f5)) (H : (∃ j2 : Nat, x1 = nI j2 ∧ j2 < n_f1 ∧ (∃ j4 : Nat, x1 = nI j4 ∧ j4 < n_f3 ∧ (∃ j6 : Nat, x1 = nI j6 ∧ j6 < n_f5 ∧ Wp d 4 25 [some (.ref r0), some (.int x1), some (.int x2), some (.int x3), some (.int x4), some (.int x5), some (.int (x6 + nI 1)), none, none, none, none, none] [] (K, P, (xup ((xup I f3 j4 x11)) f5 j6 x6), (xup J f1 j2 y9), F) Q)))) : Wp d 4 160 [some (.ref r0), some (.int x1), some (.int x2), some (.int x3), some (.int x4), some (.int x5), some (.int x6), none, none, some (.long y9), none, some (.int x11)] [] (K, P, I, J, F) Q := by
  refine Wp.go (x := (.aload_n 0, 1, 0, 0)) rfl 161 [some (.ref r0), some (.int x1), some (.int x2), some (.int x3), some (.int x4), some (.int x5), some (.int x6), none, none, some (.long y9), none, some (.int x11)] [.ref r0] rfl ⟨rfl, rfl, rfl, rfl⟩ ?_
  refine Wp.gR rfl rfl hn_r0 rfl rfl hf1 ?_
  refine Wp.go (x := (.iload_n 1, 1, 0, 0)) rfl 165 [some (.ref r0), some (.int x1), some (.int x2), some (.int x3), some (.int x4), some (.int x5), some (.int x6), none, none, some (.long y9), none, some (.int x11)] [.int x1, .ref f1] rfl ⟨rfl, rfl, rfl, rfl⟩ ?_
  refine Wp.go (x := (.lload 9, 2, 0, 0)) rfl 167 [some (.ref r0), some (.int x1), some (.int x2), some (.int x3), some (.int x4), some (.int x5), some (.int x6), none, none, some (.long y9), none, some (.int x11)] [.long y9, .int x1, .ref f1] rfl ⟨rfl, rfl, rfl, rfl⟩ ?_
  obtain ⟨j2, e, b, H⟩ := H
  refine Wp.lst rfl rfl hn_f1 (hK hn_f1) ⟨j2, e, b, ?_⟩
  refine Wp.go (x := (.aload_n 0, 1, 0, 0)) rfl 169 [some (.ref r0), some (.int x1), some (.int x2), some (.int x3), some (.int x4), some (.int x5), some (.int x6), none, none, some (.long y9), none, some (.int x11)] [.ref r0] rfl ⟨rfl, rfl, rfl, rfl⟩ ?_
  refine Wp.gR rfl rfl hn_r0 rfl rfl hf3 ?_
  refine Wp.go (x := (.iload_n 1, 1, 0, 0)) rfl 173 [some (.ref r0), some (.int x1), some (.int x2), some (.int x3), some (.int x4), some (.int x5), some (.int x6), none, none, some (.long y9), none, some (.int x11)] [.int x1, .ref f3] rfl ⟨rfl, rfl, rfl, rfl⟩ ?_
  refine Wp.go (x := (.iload 11, 2, 0, 0)) rfl 175 [some (.ref r0), some (.int x1), some (.int x2), some (.int x3), some (.int x4), some (.int x5), some (.int x6), none, none, some (.long y9), none, some (.int x11)] [.int x11, .int x1, .ref f3] rfl ⟨rfl, rfl, rfl, rfl⟩ ?_
  obtain ⟨j4, e, b, H⟩ := H
  refine Wp.ast rfl rfl hn_f3 (hK hn_f3) ⟨j4, e, b, ?_⟩
  refine Wp.go (x := (.aload_n 0, 1, 0, 0)) rfl 177 [some (.ref r0), some (.int x1), some (.int x2), some (.int x3), some (.int x4), some (.int x5), some (.int x6), none, none, some (.long y9), none, some (.int x11)] [.ref r0] rfl ⟨rfl, rfl, rfl, rfl⟩ ?_
  refine Wp.gR rfl rfl hn_r0 rfl rfl hf5 ?_
  refine Wp.go (x := (.iload_n 1, 1, 0, 0)) rfl 181 [some (.ref r0), some (.int x1), some (.int x2), some (.int x3), some (.int x4), some (.int x5), some (.int x6), none, none, some (.long y9), none, some (.int x11)] [.int x1, .ref f5] rfl ⟨rfl, rfl, rfl, rfl⟩ ?_
  refine Wp.go (x := (.iload 6, 2, 0, 0)) rfl 183 [some (.ref r0), some (.int x1), some (.int x2), some (.int x3), some (.int x4), some (.int x5), some (.int x6), none, none, some (.long y9), none, some (.int x11)] [.int x6, .int x1, .ref f5] rfl ⟨rfl, rfl, rfl, rfl⟩ ?_
  obtain ⟨j6, e, b, H⟩ := H
  refine Wp.ast rfl rfl hn_f5 (hK hn_f5) ⟨j6, e, b, ?_⟩
  refine Wp.ii (v := nI 1) rfl rfl (by decide) rfl (L' := [some (.ref r0), some (.int x1), some (.int x2), some (.int x3), some (.int x4), some (.int x5), some (.int (x6 + nI 1)), none, none, some (.long y9), none, some (.int x11)]) rfl ?_
  refine Wp.go (x := (.goto (-162), 3, 25, 0)) rfl 25 [some (.ref r0), some (.int x1), some (.int x2), some (.int x3), some (.int x4), some (.int x5), some (.int (x6 + nI 1)), none, none, some (.long y9), none, some (.int x11)] [] rfl ⟨rfl, rfl, rfl, rfl⟩ ?_
  exact Wp.wk (L := [some (.ref r0), some (.int x1), some (.int x2), some (.int x3), some (.int x4), some (.int x5), some (.int (x6 + nI 1)), none, none, none, none, none]) ⟨Or.inr rfl, Or.inr rfl, Or.inr rfl, Or.inr rfl, Or.inr rfl, Or.inr rfl, Or.inr rfl, Or.inr rfl, Or.inr rfl, Or.inl rfl, Or.inr rfl, Or.inl rfl, trivial⟩ H
set_option maxRecDepth 20000 in
theorem wX0_countOctet_0 {d : Nat} {Q : Option Value × xS → Prop} {K : Nat → Nat × Nat} {P : List Nat × Nat × Nat} {I : Nat → Nat → Int32} {J : Nat → Nat → Int64} {F : Nat → Nat → Option Nat} {r0 : Nat} {x1 : Int32} {n_r0 : Nat} {f1 : Nat} {n_f1 : Nat} (hK : ∀ {a k n : Nat}, K a = (k, n) → n < 2147483648) (hn_r0 : K r0 = (1, n_r0)) (hf1 : F r0 8 = some f1) (hn_f1 : K f1 = (100, n_f1)) (H : (∃ j2 : Nat, x1 = nI j2 ∧ j2 < n_f1 ∧ (∃ j3 : Nat, x1 = nI j3 ∧ j3 < n_f1 ∧ Wp d 94 0 [some (.int ((I f1 j2) + (nI 1))), none] [] (K, P, (xup I f1 j3 ((I f1 j2) + (nI 1))), J, F) (xrI K P F (fun v4 I5 J6 => Wp d 94 0 [some (.int (I f1 j2)), none] [] (K, P, I5, J6, F) (xrI K P F (fun v7 I8 J9 => Q (some (.int ((((I f1 j2) + (nI 1)) * v4) - ((I f1 j2) * v7))), (K, P, I8, J9, F))))))))) : Wp (d + 1) 5 0 [some (.ref r0), some (.int x1), none] [] (K, P, I, J, F) Q := by
  refine Wp.go (x := (.aload_n 0, 1, 0, 0)) rfl 1 [some (.ref r0), some (.int x1), none] [.ref r0] rfl ⟨rfl, rfl, rfl, rfl⟩ ?_
  refine Wp.gR rfl rfl hn_r0 rfl rfl hf1 ?_
  refine Wp.go (x := (.iload_n 1, 1, 0, 0)) rfl 5 [some (.ref r0), some (.int x1), none] [.int x1, .ref f1] rfl ⟨rfl, rfl, rfl, rfl⟩ ?_
  obtain ⟨j2, e, b, H⟩ := H
  refine Wp.ald rfl rfl hn_f1 (Or.inl rfl) (hK hn_f1) ⟨j2, e, b, ?_⟩
  refine Wp.go (x := (.istore_n 2, 1, 0, 0)) rfl 7 [some (.ref r0), some (.int x1), some (.int (I f1 j2))] [] rfl ⟨rfl, rfl, rfl, rfl⟩ ?_
  refine Wp.go (x := (.aload_n 0, 1, 0, 0)) rfl 8 [some (.ref r0), some (.int x1), some (.int (I f1 j2))] [.ref r0] rfl ⟨rfl, rfl, rfl, rfl⟩ ?_
  refine Wp.gR rfl rfl hn_r0 rfl rfl hf1 ?_
  refine Wp.go (x := (.iload_n 1, 1, 0, 0)) rfl 12 [some (.ref r0), some (.int x1), some (.int (I f1 j2))] [.int x1, .ref f1] rfl ⟨rfl, rfl, rfl, rfl⟩ ?_
  refine Wp.go (x := (.iload_n 2, 1, 0, 0)) rfl 13 [some (.ref r0), some (.int x1), some (.int (I f1 j2))] [.int (I f1 j2), .int x1, .ref f1] rfl ⟨rfl, rfl, rfl, rfl⟩ ?_
  refine Wp.ic (v := nI 1) rfl rfl (by decide) ?_
  refine Wp.go (x := (.iadd, 1, 0, 0)) rfl 15 [some (.ref r0), some (.int x1), some (.int (I f1 j2))] [.int ((I f1 j2) + (nI 1)), .int x1, .ref f1] rfl ⟨rfl, rfl, rfl, rfl⟩ ?_
  obtain ⟨j3, e, b, H⟩ := H
  refine Wp.ast rfl rfl hn_f1 (hK hn_f1) ⟨j3, e, b, ?_⟩
  refine Wp.go (x := (.iload_n 2, 1, 0, 0)) rfl 17 [some (.ref r0), some (.int x1), some (.int (I f1 j2))] [.int (I f1 j2)] rfl ⟨rfl, rfl, rfl, rfl⟩ ?_
  refine Wp.ic (v := nI 1) rfl rfl (by decide) ?_
  refine Wp.go (x := (.iadd, 1, 0, 0)) rfl 19 [some (.ref r0), some (.int x1), some (.int (I f1 j2))] [.int ((I f1 j2) + (nI 1))] rfl ⟨rfl, rfl, rfl, rfl⟩ ?_
  refine Wp.go (x := (.iload_n 2, 1, 0, 0)) rfl 20 [some (.ref r0), some (.int x1), some (.int (I f1 j2))] [.int (I f1 j2), .int ((I f1 j2) + (nI 1))] rfl ⟨rfl, rfl, rfl, rfl⟩ ?_
  refine Wp.ic (v := nI 1) rfl rfl (by decide) ?_
  refine Wp.go (x := (.iadd, 1, 0, 0)) rfl 22 [some (.ref r0), some (.int x1), some (.int (I f1 j2))] [.int ((I f1 j2) + (nI 1)), .int ((I f1 j2) + (nI 1))] rfl ⟨rfl, rfl, rfl, rfl⟩ ?_
  refine Wp.kI (x := (.invokestatic 65, 3, 94, 1)) (j := 94) (vs := [.int ((I f1 j2) + (nI 1))]) (rest := [.int ((I f1 j2) + (nI 1))]) rfl rfl rfl ⟨Nat.le_of_ble_eq_true rfl, Nat.le_of_ble_eq_true rfl, Nat.le_of_ble_eq_true rfl⟩ rfl rfl rfl H (fun v4 I5 J6 H => ?_)
  refine Wp.go (x := (.imul, 1, 0, 0)) rfl 26 [some (.ref r0), some (.int x1), some (.int (I f1 j2))] [.int (((I f1 j2) + (nI 1)) * v4)] rfl ⟨rfl, rfl, rfl, rfl⟩ ?_
  refine Wp.go (x := (.iload_n 2, 1, 0, 0)) rfl 27 [some (.ref r0), some (.int x1), some (.int (I f1 j2))] [.int (I f1 j2), .int (((I f1 j2) + (nI 1)) * v4)] rfl ⟨rfl, rfl, rfl, rfl⟩ ?_
  refine Wp.go (x := (.iload_n 2, 1, 0, 0)) rfl 28 [some (.ref r0), some (.int x1), some (.int (I f1 j2))] [.int (I f1 j2), .int (I f1 j2), .int (((I f1 j2) + (nI 1)) * v4)] rfl ⟨rfl, rfl, rfl, rfl⟩ ?_
  refine Wp.kI (x := (.invokestatic 65, 3, 94, 1)) (j := 94) (vs := [.int (I f1 j2)]) (rest := [.int (I f1 j2), .int (((I f1 j2) + (nI 1)) * v4)]) rfl rfl rfl ⟨Nat.le_of_ble_eq_true rfl, Nat.le_of_ble_eq_true rfl, Nat.le_of_ble_eq_true rfl⟩ rfl rfl rfl H (fun v7 I8 J9 H => ?_)
  refine Wp.go (x := (.imul, 1, 0, 0)) rfl 32 [some (.ref r0), some (.int x1), some (.int (I f1 j2))] [.int ((I f1 j2) * v7), .int (((I f1 j2) + (nI 1)) * v4)] rfl ⟨rfl, rfl, rfl, rfl⟩ ?_
  refine Wp.go (x := (.isub, 1, 0, 0)) rfl 33 [some (.ref r0), some (.int x1), some (.int (I f1 j2))] [.int ((((I f1 j2) + (nI 1)) * v4) - ((I f1 j2) * v7))] rfl ⟨rfl, rfl, rfl, rfl⟩ ?_
  exact Wp.rI rfl rfl H
set_option maxRecDepth 20000 in
theorem wX0_placeOf_0 {d : Nat} {Q : Option Value × xS → Prop} {K : Nat → Nat × Nat} {P : List Nat × Nat × Nat} {I : Nat → Nat → Int32} {J : Nat → Nat → Int64} {F : Nat → Nat → Option Nat} {r0 : Nat} {x1 : Int32} {n_r0 : Nat} {f1 : Nat} {n_f1 : Nat} {f2 : Nat} {n_f2 : Nat} (hK : ∀ {a k n : Nat}, K a = (k, n) → n < 2147483648) (hn_r0 : K r0 = (1, n_r0)) (hf1 : F r0 0 = some f1) (hn_f1 : K f1 = (8, n_f1)) (hf2 : F r0 1 = some f2) (hn_f2 : K f2 = (100, n_f2)) (H : ((0 < x1 → (((I r0 2) < x1 → Q (some (.int (I f1 3)), (K, P, I, J, F))) ∧ (¬ (I r0 2) < x1 → (∃ j3 : Nat, (x1 - (nI 1)) = nI j3 ∧ j3 < n_f2 ∧ Q (some (.int (I f2 j3)), (K, P, I, J, F)))))) ∧ (¬ 0 < x1 → Q (some (.int (nI 0)), (K, P, I, J, F))))) : Wp d 6 0 [some (.ref r0), some (.int x1)] [] (K, P, I, J, F) Q := by
  refine Wp.go (x := (.iload_n 1, 1, 0, 0)) rfl 1 [some (.ref r0), some (.int x1)] [.int x1] rfl ⟨rfl, rfl, rfl, rfl⟩ ?_
  refine Wp.z_gt rfl rfl ⟨fun c => ?_, fun c => ?_⟩
  · have H := H.1 c
    refine Wp.go (x := (.iload_n 1, 1, 0, 0)) rfl 7 [some (.ref r0), some (.int x1)] [.int x1] rfl ⟨rfl, rfl, rfl, rfl⟩ ?_
    refine Wp.go (x := (.aload_n 0, 1, 0, 0)) rfl 8 [some (.ref r0), some (.int x1)] [.ref r0, .int x1] rfl ⟨rfl, rfl, rfl, rfl⟩ ?_
    refine Wp.gI rfl rfl hn_r0 rfl ⟨by decide, by decide⟩ ?_
    refine Wp.c_gt rfl rfl ⟨fun c => ?_, fun c => ?_⟩
    · have H := H.1 c
      refine Wp.go (x := (.aload_n 0, 1, 0, 0)) rfl 26 [some (.ref r0), some (.int x1)] [.ref r0] rfl ⟨rfl, rfl, rfl, rfl⟩ ?_
      refine Wp.gR rfl rfl hn_r0 rfl rfl hf1 ?_
      refine Wp.gI rfl rfl hn_f1 rfl ⟨by decide, by decide⟩ ?_
      exact Wp.rI rfl rfl H
    · have H := H.2 c
      refine Wp.go (x := (.aload_n 0, 1, 0, 0)) rfl 15 [some (.ref r0), some (.int x1)] [.ref r0] rfl ⟨rfl, rfl, rfl, rfl⟩ ?_
      refine Wp.gR rfl rfl hn_r0 rfl rfl hf2 ?_
      refine Wp.go (x := (.iload_n 1, 1, 0, 0)) rfl 19 [some (.ref r0), some (.int x1)] [.int x1, .ref f2] rfl ⟨rfl, rfl, rfl, rfl⟩ ?_
      refine Wp.ic (v := nI 1) rfl rfl (by decide) ?_
      refine Wp.go (x := (.isub, 1, 0, 0)) rfl 21 [some (.ref r0), some (.int x1)] [.int (x1 - (nI 1)), .ref f2] rfl ⟨rfl, rfl, rfl, rfl⟩ ?_
      obtain ⟨j3, e, b, H⟩ := H
      refine Wp.ald rfl rfl hn_f2 (Or.inl rfl) (hK hn_f2) ⟨j3, e, b, ?_⟩
      refine Wp.go (x := (.goto 10, 3, 32, 0)) rfl 32 [some (.ref r0), some (.int x1)] [.int (I f2 j3)] rfl ⟨rfl, rfl, rfl, rfl⟩ ?_
      exact Wp.rI rfl rfl H
  · have H := H.2 c
    refine Wp.ic (v := nI 0) rfl rfl (by decide) ?_
    exact Wp.rI rfl rfl H
set_option maxRecDepth 20000 in
theorem wX1_reset_0 {d : Nat} {Q : Option Value × xS → Prop} {K : Nat → Nat × Nat} {P : List Nat × Nat × Nat} {I : Nat → Nat → Int32} {J : Nat → Nat → Int64} {F : Nat → Nat → Option Nat} {r0 : Nat}  (H : Wp d 8 2 [some (.ref r0), some (.int (nI 0))] [] (K, P, I, J, F) Q) : Wp d 8 0 [some (.ref r0), none] [] (K, P, I, J, F) Q := by
  refine Wp.ic (v := nI 0) rfl rfl (by decide) ?_
  refine Wp.go (x := (.istore_n 1, 1, 0, 0)) rfl 2 [some (.ref r0), some (.int (nI 0))] [] rfl ⟨rfl, rfl, rfl, rfl⟩ ?_
  exact H
set_option maxRecDepth 20000 in
theorem wX1_reset_2 {d : Nat} {Q : Option Value × xS → Prop} {K : Nat → Nat × Nat} {P : List Nat × Nat × Nat} {I : Nat → Nat → Int32} {J : Nat → Nat → Int64} {F : Nat → Nat → Option Nat} {r0 : Nat} {x1 : Int32} {n_r0 : Nat} {f1 : Nat} {n_c2 : Nat} {n_c1 : Nat} {n_c3 : Nat} (hK : ∀ {a k n : Nat}, K a = (k, n) → n < 2147483648) (hn_r0 : K r0 = (2, n_r0)) (hf1 : F r0 1 = some f1) (hn_c2 : K 2 = (103, n_c2)) (hn_c1 : K 1 = (103, n_c1)) (hn_c3 : K 3 = (103, n_c3)) (H : (((nI 4) ≤ x1 → Q (none, (K, P, I, J, F))) ∧ (¬ (nI 4) ≤ x1 → (∃ j2 : Nat, x1 = nI j2 ∧ j2 < n_c2 ∧ (∃ j3 : Nat, x1 = nI j3 ∧ j3 < n_c2 ∧ (∃ j4 : Nat, x1 = nI j4 ∧ j4 < n_c1 ∧ (∃ j5 : Nat, x1 = nI j5 ∧ j5 < n_c3 ∧ Wp d 167 0 [some (.ref f1), some (.int (I 2 j2)), some (.int ((I 2 j3) + (I 1 j4))), some (.int (I 3 j5)), none] [] (K, P, I, J, F) (xrV K P F (fun I6 J7 => Wp (d + 1) 8 2 [some (.ref r0), some (.int (x1 + nI 1))] [] (K, P, I6, J7, F) Q))))))))) : Wp (d + 1) 8 2 [some (.ref r0), some (.int x1)] [] (K, P, I, J, F) Q := by
  refine Wp.go (x := (.iload_n 1, 1, 0, 0)) rfl 3 [some (.ref r0), some (.int x1)] [.int x1] rfl ⟨rfl, rfl, rfl, rfl⟩ ?_
  refine Wp.ic (v := nI 4) rfl rfl (by decide) ?_
  refine Wp.c_ge rfl rfl ⟨fun c => ?_, fun c => ?_⟩
  · have H := H.1 c
    exact Wp.rV rfl rfl H
  · have H := H.2 c
    refine Wp.go (x := (.aload_n 0, 1, 0, 0)) rfl 8 [some (.ref r0), some (.int x1)] [.ref r0] rfl ⟨rfl, rfl, rfl, rfl⟩ ?_
    refine Wp.gR rfl rfl hn_r0 rfl rfl hf1 ?_
    refine Wp.gst rfl rfl ?_
    refine Wp.go (x := (.iload_n 1, 1, 0, 0)) rfl 15 [some (.ref r0), some (.int x1)] [.int x1, .ref 2, .ref f1] rfl ⟨rfl, rfl, rfl, rfl⟩ ?_
    obtain ⟨j2, e, b, H⟩ := H
    refine Wp.ald rfl rfl hn_c2 (Or.inr rfl) (hK hn_c2) ⟨j2, e, b, ?_⟩
    refine Wp.gst rfl rfl ?_
    refine Wp.go (x := (.iload_n 1, 1, 0, 0)) rfl 20 [some (.ref r0), some (.int x1)] [.int x1, .ref 2, .int (I 2 j2), .ref f1] rfl ⟨rfl, rfl, rfl, rfl⟩ ?_
    obtain ⟨j3, e, b, H⟩ := H
    refine Wp.ald rfl rfl hn_c2 (Or.inr rfl) (hK hn_c2) ⟨j3, e, b, ?_⟩
    refine Wp.gst rfl rfl ?_
    refine Wp.go (x := (.iload_n 1, 1, 0, 0)) rfl 25 [some (.ref r0), some (.int x1)] [.int x1, .ref 1, .int (I 2 j3), .int (I 2 j2), .ref f1] rfl ⟨rfl, rfl, rfl, rfl⟩ ?_
    obtain ⟨j4, e, b, H⟩ := H
    refine Wp.ald rfl rfl hn_c1 (Or.inr rfl) (hK hn_c1) ⟨j4, e, b, ?_⟩
    refine Wp.go (x := (.iadd, 1, 0, 0)) rfl 27 [some (.ref r0), some (.int x1)] [.int ((I 2 j3) + (I 1 j4)), .int (I 2 j2), .ref f1] rfl ⟨rfl, rfl, rfl, rfl⟩ ?_
    refine Wp.gst rfl rfl ?_
    refine Wp.go (x := (.iload_n 1, 1, 0, 0)) rfl 31 [some (.ref r0), some (.int x1)] [.int x1, .ref 3, .int ((I 2 j3) + (I 1 j4)), .int (I 2 j2), .ref f1] rfl ⟨rfl, rfl, rfl, rfl⟩ ?_
    obtain ⟨j5, e, b, H⟩ := H
    refine Wp.ald rfl rfl hn_c3 (Or.inr rfl) (hK hn_c3) ⟨j5, e, b, ?_⟩
    refine Wp.kV (x := (.invokestatic 40, 3, 167, 4)) (j := 167) (vs := [.ref f1, .int (I 2 j2), .int ((I 2 j3) + (I 1 j4)), .int (I 3 j5)]) (rest := []) rfl rfl rfl ⟨Nat.le_of_ble_eq_true rfl, Nat.le_of_ble_eq_true rfl, Nat.le_of_ble_eq_true rfl⟩ rfl rfl rfl H (fun I6 J7 H => ?_)
    refine Wp.ii (v := nI 1) rfl rfl (by decide) rfl (L' := [some (.ref r0), some (.int (x1 + nI 1))]) rfl ?_
    refine Wp.go (x := (.goto (-36), 3, 2, 0)) rfl 2 [some (.ref r0), some (.int (x1 + nI 1))] [] rfl ⟨rfl, rfl, rfl, rfl⟩ ?_
    exact H
set_option maxRecDepth 20000 in
theorem wX1_has_0 {d : Nat} {Q : Option Value × xS → Prop} {K : Nat → Nat × Nat} {P : List Nat × Nat × Nat} {I : Nat → Nat → Int32} {J : Nat → Nat → Int64} {F : Nat → Nat → Option Nat} {r0 : Nat} {x1 : Int32} {x2 : Int32} {n_r0 : Nat} {n_c1 : Nat} (hK : ∀ {a k n : Nat}, K a = (k, n) → n < 2147483648) (hn_r0 : K r0 = (2, n_r0)) (hn_c1 : K 1 = (103, n_c1)) (H : ((x1 < 0 → Q (some (.int (nI 0)), (K, P, I, J, F))) ∧ (¬ x1 < 0 → (((I r0 0) ≤ x1 → Q (some (.int (nI 0)), (K, P, I, J, F))) ∧ (¬ (I r0 0) ≤ x1 → ((x2 < 0 → Q (some (.int (nI 0)), (K, P, I, J, F))) ∧ (¬ x2 < 0 → (∃ j1 : Nat, x1 = nI j1 ∧ j1 < n_c1 ∧ (((I 1 j1) ≤ x2 → Q (some (.int (nI 0)), (K, P, I, J, F))) ∧ (¬ (I 1 j1) ≤ x2 → Q (some (.int (nI 1)), (K, P, I, J, F)))))))))))) : Wp d 9 0 [some (.ref r0), some (.int x1), some (.int x2)] [] (K, P, I, J, F) Q := by
  refine Wp.go (x := (.iload_n 1, 1, 0, 0)) rfl 1 [some (.ref r0), some (.int x1), some (.int x2)] [.int x1] rfl ⟨rfl, rfl, rfl, rfl⟩ ?_
  refine Wp.z_lt rfl rfl ⟨fun c => ?_, fun c => ?_⟩
  · have H := H.1 c
    refine Wp.ic (v := nI 0) rfl rfl (by decide) ?_
    exact Wp.rZ rfl rfl (Or.inl rfl) H
  · have H := H.2 c
    refine Wp.go (x := (.iload_n 1, 1, 0, 0)) rfl 5 [some (.ref r0), some (.int x1), some (.int x2)] [.int x1] rfl ⟨rfl, rfl, rfl, rfl⟩ ?_
    refine Wp.go (x := (.aload_n 0, 1, 0, 0)) rfl 6 [some (.ref r0), some (.int x1), some (.int x2)] [.ref r0, .int x1] rfl ⟨rfl, rfl, rfl, rfl⟩ ?_
    refine Wp.gI rfl rfl hn_r0 rfl ⟨by decide, by decide⟩ ?_
    refine Wp.c_ge rfl rfl ⟨fun c => ?_, fun c => ?_⟩
    · have H := H.1 c
      refine Wp.ic (v := nI 0) rfl rfl (by decide) ?_
      exact Wp.rZ rfl rfl (Or.inl rfl) H
    · have H := H.2 c
      refine Wp.go (x := (.iload_n 2, 1, 0, 0)) rfl 13 [some (.ref r0), some (.int x1), some (.int x2)] [.int x2] rfl ⟨rfl, rfl, rfl, rfl⟩ ?_
      refine Wp.z_lt rfl rfl ⟨fun c => ?_, fun c => ?_⟩
      · have H := H.1 c
        refine Wp.ic (v := nI 0) rfl rfl (by decide) ?_
        exact Wp.rZ rfl rfl (Or.inl rfl) H
      · have H := H.2 c
        refine Wp.go (x := (.iload_n 2, 1, 0, 0)) rfl 17 [some (.ref r0), some (.int x1), some (.int x2)] [.int x2] rfl ⟨rfl, rfl, rfl, rfl⟩ ?_
        refine Wp.gst rfl rfl ?_
        refine Wp.go (x := (.iload_n 1, 1, 0, 0)) rfl 21 [some (.ref r0), some (.int x1), some (.int x2)] [.int x1, .ref 1, .int x2] rfl ⟨rfl, rfl, rfl, rfl⟩ ?_
        obtain ⟨j1, e, b, H⟩ := H
        refine Wp.ald rfl rfl hn_c1 (Or.inr rfl) (hK hn_c1) ⟨j1, e, b, ?_⟩
        refine Wp.c_ge rfl rfl ⟨fun c => ?_, fun c => ?_⟩
        · have H := H.1 c
          refine Wp.ic (v := nI 0) rfl rfl (by decide) ?_
          exact Wp.rZ rfl rfl (Or.inl rfl) H
        · have H := H.2 c
          refine Wp.ic (v := nI 1) rfl rfl (by decide) ?_
          refine Wp.go (x := (.goto 4, 3, 30, 0)) rfl 30 [some (.ref r0), some (.int x1), some (.int x2)] [.int (nI 1)] rfl ⟨rfl, rfl, rfl, rfl⟩ ?_
          exact Wp.rZ rfl rfl (Or.inr rfl) H
set_option maxRecDepth 20000 in
theorem wX1_of_0 {d : Nat} {Q : Option Value × xS → Prop} {K : Nat → Nat × Nat} {P : List Nat × Nat × Nat} {I : Nat → Nat → Int32} {J : Nat → Nat → Int64} {F : Nat → Nat → Option Nat} {r0 : Nat} {x1 : Int32} {x2 : Int32} {n_r0 : Nat} {f4 : Nat} {n_c2 : Nat} {n_f4 : Nat} (hK : ∀ {a k n : Nat}, K a = (k, n) → n < 2147483648) (hn_r0 : K r0 = (2, n_r0)) (hf4 : F r0 1 = some f4) (hn_c2 : K 2 = (103, n_c2)) (hn_f4 : K f4 = (100, n_f4)) (H : Wp d 9 0 [some (.ref r0), some (.int x1), some (.int x2)] [] (K, P, I, J, F) (xrI K P F (fun v1 I2 J3 => ((v1 = 0 → Q (some (.int (nI 0)), (K, P, I2, J3, F))) ∧ (¬ v1 = 0 → (∃ j5 : Nat, x1 = nI j5 ∧ j5 < n_c2 ∧ (∃ j6 : Nat, ((I2 2 j5) + x2) = nI j6 ∧ j6 < n_f4 ∧ Q (some (.int (I2 f4 j6)), (K, P, I2, J3, F))))))))) : Wp (d + 1) 10 0 [some (.ref r0), some (.int x1), some (.int x2)] [] (K, P, I, J, F) Q := by
  refine Wp.go (x := (.aload_n 0, 1, 0, 0)) rfl 1 [some (.ref r0), some (.int x1), some (.int x2)] [.ref r0] rfl ⟨rfl, rfl, rfl, rfl⟩ ?_
  refine Wp.go (x := (.iload_n 1, 1, 0, 0)) rfl 2 [some (.ref r0), some (.int x1), some (.int x2)] [.int x1, .ref r0] rfl ⟨rfl, rfl, rfl, rfl⟩ ?_
  refine Wp.go (x := (.iload_n 2, 1, 0, 0)) rfl 3 [some (.ref r0), some (.int x1), some (.int x2)] [.int x2, .int x1, .ref r0] rfl ⟨rfl, rfl, rfl, rfl⟩ ?_
  refine Wp.kI (x := (.invokevirtual 46, 3, 9, 3)) (j := 9) (vs := [.ref r0, .int x1, .int x2]) (rest := []) rfl (by show xtg 9 (K r0).1 = _; rw [hn_r0]; rfl) rfl ⟨Nat.le_of_ble_eq_true rfl, Nat.le_of_ble_eq_true rfl, Nat.le_of_ble_eq_true rfl⟩ rfl rfl rfl H (fun v1 I2 J3 H => ?_)
  refine Wp.z_eq rfl rfl ⟨fun c => ?_, fun c => ?_⟩
  · have H := H.1 c
    refine Wp.ic (v := nI 0) rfl rfl (by decide) ?_
    exact Wp.rI rfl rfl H
  · have H := H.2 c
    refine Wp.go (x := (.aload_n 0, 1, 0, 0)) rfl 10 [some (.ref r0), some (.int x1), some (.int x2)] [.ref r0] rfl ⟨rfl, rfl, rfl, rfl⟩ ?_
    refine Wp.gR rfl rfl hn_r0 rfl rfl hf4 ?_
    refine Wp.gst rfl rfl ?_
    refine Wp.go (x := (.iload_n 1, 1, 0, 0)) rfl 17 [some (.ref r0), some (.int x1), some (.int x2)] [.int x1, .ref 2, .ref f4] rfl ⟨rfl, rfl, rfl, rfl⟩ ?_
    obtain ⟨j5, e, b, H⟩ := H
    refine Wp.ald rfl rfl hn_c2 (Or.inr rfl) (hK hn_c2) ⟨j5, e, b, ?_⟩
    refine Wp.go (x := (.iload_n 2, 1, 0, 0)) rfl 19 [some (.ref r0), some (.int x1), some (.int x2)] [.int x2, .int (I2 2 j5), .ref f4] rfl ⟨rfl, rfl, rfl, rfl⟩ ?_
    refine Wp.go (x := (.iadd, 1, 0, 0)) rfl 20 [some (.ref r0), some (.int x1), some (.int x2)] [.int ((I2 2 j5) + x2), .ref f4] rfl ⟨rfl, rfl, rfl, rfl⟩ ?_
    obtain ⟨j6, e, b, H⟩ := H
    refine Wp.ald rfl rfl hn_f4 (Or.inl rfl) (hK hn_f4) ⟨j6, e, b, ?_⟩
    refine Wp.go (x := (.goto 4, 3, 25, 0)) rfl 25 [some (.ref r0), some (.int x1), some (.int x2)] [.int (I2 f4 j6)] rfl ⟨rfl, rfl, rfl, rfl⟩ ?_
    exact Wp.rI rfl rfl H
set_option maxRecDepth 20000 in
theorem wX1_put_0 {d : Nat} {Q : Option Value × xS → Prop} {K : Nat → Nat × Nat} {P : List Nat × Nat × Nat} {I : Nat → Nat → Int32} {J : Nat → Nat → Int64} {F : Nat → Nat → Option Nat} {r0 : Nat} {x1 : Int32} {x2 : Int32} {x3 : Int32} {n_r0 : Nat} {f4 : Nat} {n_c2 : Nat} {n_f4 : Nat} (hK : ∀ {a k n : Nat}, K a = (k, n) → n < 2147483648) (hn_r0 : K r0 = (2, n_r0)) (hf4 : F r0 1 = some f4) (hn_c2 : K 2 = (103, n_c2)) (hn_f4 : K f4 = (100, n_f4)) (H : Wp d 9 0 [some (.ref r0), some (.int x1), some (.int x2)] [] (K, P, I, J, F) (xrI K P F (fun v1 I2 J3 => ((v1 = 0 → Q (none, (K, P, I2, J3, F))) ∧ (¬ v1 = 0 → (∃ j5 : Nat, x1 = nI j5 ∧ j5 < n_c2 ∧ (∃ j6 : Nat, ((I2 2 j5) + x2) = nI j6 ∧ j6 < n_f4 ∧ Q (none, (K, P, (xup I2 f4 j6 x3), J3, F))))))))) : Wp (d + 1) 11 0 [some (.ref r0), some (.int x1), some (.int x2), some (.int x3)] [] (K, P, I, J, F) Q := by
  refine Wp.go (x := (.aload_n 0, 1, 0, 0)) rfl 1 [some (.ref r0), some (.int x1), some (.int x2), some (.int x3)] [.ref r0] rfl ⟨rfl, rfl, rfl, rfl⟩ ?_
  refine Wp.go (x := (.iload_n 1, 1, 0, 0)) rfl 2 [some (.ref r0), some (.int x1), some (.int x2), some (.int x3)] [.int x1, .ref r0] rfl ⟨rfl, rfl, rfl, rfl⟩ ?_
  refine Wp.go (x := (.iload_n 2, 1, 0, 0)) rfl 3 [some (.ref r0), some (.int x1), some (.int x2), some (.int x3)] [.int x2, .int x1, .ref r0] rfl ⟨rfl, rfl, rfl, rfl⟩ ?_
  refine Wp.kI (x := (.invokevirtual 46, 3, 9, 3)) (j := 9) (vs := [.ref r0, .int x1, .int x2]) (rest := []) rfl (by show xtg 9 (K r0).1 = _; rw [hn_r0]; rfl) rfl ⟨Nat.le_of_ble_eq_true rfl, Nat.le_of_ble_eq_true rfl, Nat.le_of_ble_eq_true rfl⟩ rfl rfl rfl H (fun v1 I2 J3 H => ?_)
  refine Wp.z_eq rfl rfl ⟨fun c => ?_, fun c => ?_⟩
  · have H := H.1 c
    exact Wp.rV rfl rfl H
  · have H := H.2 c
    refine Wp.go (x := (.aload_n 0, 1, 0, 0)) rfl 10 [some (.ref r0), some (.int x1), some (.int x2), some (.int x3)] [.ref r0] rfl ⟨rfl, rfl, rfl, rfl⟩ ?_
    refine Wp.gR rfl rfl hn_r0 rfl rfl hf4 ?_
    refine Wp.gst rfl rfl ?_
    refine Wp.go (x := (.iload_n 1, 1, 0, 0)) rfl 17 [some (.ref r0), some (.int x1), some (.int x2), some (.int x3)] [.int x1, .ref 2, .ref f4] rfl ⟨rfl, rfl, rfl, rfl⟩ ?_
    obtain ⟨j5, e, b, H⟩ := H
    refine Wp.ald rfl rfl hn_c2 (Or.inr rfl) (hK hn_c2) ⟨j5, e, b, ?_⟩
    refine Wp.go (x := (.iload_n 2, 1, 0, 0)) rfl 19 [some (.ref r0), some (.int x1), some (.int x2), some (.int x3)] [.int x2, .int (I2 2 j5), .ref f4] rfl ⟨rfl, rfl, rfl, rfl⟩ ?_
    refine Wp.go (x := (.iadd, 1, 0, 0)) rfl 20 [some (.ref r0), some (.int x1), some (.int x2), some (.int x3)] [.int ((I2 2 j5) + x2), .ref f4] rfl ⟨rfl, rfl, rfl, rfl⟩ ?_
    refine Wp.go (x := (.iload_n 3, 1, 0, 0)) rfl 21 [some (.ref r0), some (.int x1), some (.int x2), some (.int x3)] [.int x3, .int ((I2 2 j5) + x2), .ref f4] rfl ⟨rfl, rfl, rfl, rfl⟩ ?_
    obtain ⟨j6, e, b, H⟩ := H
    refine Wp.ast rfl rfl hn_f4 (hK hn_f4) ⟨j6, e, b, ?_⟩
    exact Wp.rV rfl rfl H
set_option maxRecDepth 20000 in
theorem wX1_prepare_0 {d : Nat} {Q : Option Value × xS → Prop} {K : Nat → Nat × Nat} {P : List Nat × Nat × Nat} {I : Nat → Nat → Int32} {J : Nat → Nat → Int64} {F : Nat → Nat → Option Nat} {r0 : Nat} {r1 : Nat} {n_r1 : Nat} (hn_r1 : K r1 = (8, n_r1)) (H : Wp d 13 5 [some (.ref r0), some (.ref r1), some (.int (I r1 0))] [] (K, P, I, J, F) Q) : Wp d 13 0 [some (.ref r0), some (.ref r1), none] [] (K, P, I, J, F) Q := by
  refine Wp.go (x := (.aload_n 1, 1, 0, 0)) rfl 1 [some (.ref r0), some (.ref r1), none] [.ref r1] rfl ⟨rfl, rfl, rfl, rfl⟩ ?_
  refine Wp.gI rfl rfl hn_r1 rfl ⟨by decide, by decide⟩ ?_
  refine Wp.go (x := (.istore_n 2, 1, 0, 0)) rfl 5 [some (.ref r0), some (.ref r1), some (.int (I r1 0))] [] rfl ⟨rfl, rfl, rfl, rfl⟩ ?_
  exact H
set_option maxRecDepth 20000 in
theorem wX1_prepare_5 {d : Nat} {Q : Option Value × xS → Prop} {K : Nat → Nat × Nat} {P : List Nat × Nat × Nat} {I : Nat → Nat → Int32} {J : Nat → Nat → Int64} {F : Nat → Nat → Option Nat} {r0 : Nat} {r1 : Nat} {x2 : Int32} {n_r1 : Nat} {n_r0 : Nat} {f1 : Nat} {n_f1 : Nat} (hK : ∀ {a k n : Nat}, K a = (k, n) → n < 2147483648) (hn_r1 : K r1 = (8, n_r1)) (hn_r0 : K r0 = (2, n_r0)) (hf1 : F r0 3 = some f1) (hn_f1 : K f1 = (100, n_f1)) (H : (((I r1 3) < x2 → Wp (d + 1) 13 37 [some (.ref r0), some (.ref r1), some (.int (nI 1))] [] (K, P, I, J, F) Q) ∧ (¬ (I r1 3) < x2 → Wp d 17 0 [some (.ref r0), some (.int (x2 - (I r1 0)))] [] (K, P, I, J, F) (xrI K P F (fun v2 I3 J4 => (∃ j5 : Nat, x2 = nI j5 ∧ j5 < n_f1 ∧ Wp (d + 1) 13 5 [some (.ref r0), some (.ref r1), some (.int (x2 + nI 1))] [] (K, P, (xup I3 f1 j5 v2), J4, F) Q)))))) : Wp (d + 1) 13 5 [some (.ref r0), some (.ref r1), some (.int x2)] [] (K, P, I, J, F) Q := by
  refine Wp.go (x := (.iload_n 2, 1, 0, 0)) rfl 6 [some (.ref r0), some (.ref r1), some (.int x2)] [.int x2] rfl ⟨rfl, rfl, rfl, rfl⟩ ?_
  refine Wp.go (x := (.aload_n 1, 1, 0, 0)) rfl 7 [some (.ref r0), some (.ref r1), some (.int x2)] [.ref r1, .int x2] rfl ⟨rfl, rfl, rfl, rfl⟩ ?_
  refine Wp.gI rfl rfl hn_r1 rfl ⟨by decide, by decide⟩ ?_
  refine Wp.c_gt rfl rfl ⟨fun c => ?_, fun c => ?_⟩
  · have H := H.1 c
    refine Wp.ic (v := nI 1) rfl rfl (by decide) ?_
    refine Wp.go (x := (.istore_n 2, 1, 0, 0)) rfl 37 [some (.ref r0), some (.ref r1), some (.int (nI 1))] [] rfl ⟨rfl, rfl, rfl, rfl⟩ ?_
    exact H
  · have H := H.2 c
    refine Wp.go (x := (.aload_n 0, 1, 0, 0)) rfl 14 [some (.ref r0), some (.ref r1), some (.int x2)] [.ref r0] rfl ⟨rfl, rfl, rfl, rfl⟩ ?_
    refine Wp.gR rfl rfl hn_r0 rfl rfl hf1 ?_
    refine Wp.go (x := (.iload_n 2, 1, 0, 0)) rfl 18 [some (.ref r0), some (.ref r1), some (.int x2)] [.int x2, .ref f1] rfl ⟨rfl, rfl, rfl, rfl⟩ ?_
    refine Wp.go (x := (.aload_n 0, 1, 0, 0)) rfl 19 [some (.ref r0), some (.ref r1), some (.int x2)] [.ref r0, .int x2, .ref f1] rfl ⟨rfl, rfl, rfl, rfl⟩ ?_
    refine Wp.go (x := (.iload_n 2, 1, 0, 0)) rfl 20 [some (.ref r0), some (.ref r1), some (.int x2)] [.int x2, .ref r0, .int x2, .ref f1] rfl ⟨rfl, rfl, rfl, rfl⟩ ?_
    refine Wp.go (x := (.aload_n 1, 1, 0, 0)) rfl 21 [some (.ref r0), some (.ref r1), some (.int x2)] [.ref r1, .int x2, .ref r0, .int x2, .ref f1] rfl ⟨rfl, rfl, rfl, rfl⟩ ?_
    refine Wp.gI rfl rfl hn_r1 rfl ⟨by decide, by decide⟩ ?_
    refine Wp.go (x := (.isub, 1, 0, 0)) rfl 25 [some (.ref r0), some (.ref r1), some (.int x2)] [.int (x2 - (I r1 0)), .ref r0, .int x2, .ref f1] rfl ⟨rfl, rfl, rfl, rfl⟩ ?_
    refine Wp.kI (x := (.invokevirtual 64, 3, 17, 2)) (j := 17) (vs := [.ref r0, .int (x2 - (I r1 0))]) (rest := [.int x2, .ref f1]) rfl (by show xtg 17 (K r0).1 = _; rw [hn_r0]; rfl) rfl ⟨Nat.le_of_ble_eq_true rfl, Nat.le_of_ble_eq_true rfl, Nat.le_of_ble_eq_true rfl⟩ rfl rfl rfl H (fun v2 I3 J4 H => ?_)
    obtain ⟨j5, e, b, H⟩ := H
    refine Wp.ast rfl rfl hn_f1 (hK hn_f1) ⟨j5, e, b, ?_⟩
    refine Wp.ii (v := nI 1) rfl rfl (by decide) rfl (L' := [some (.ref r0), some (.ref r1), some (.int (x2 + nI 1))]) rfl ?_
    refine Wp.go (x := (.goto (-27), 3, 5, 0)) rfl 5 [some (.ref r0), some (.ref r1), some (.int (x2 + nI 1))] [] rfl ⟨rfl, rfl, rfl, rfl⟩ ?_
    exact H
set_option maxRecDepth 20000 in
theorem wX1_prepare_37 {d : Nat} {Q : Option Value × xS → Prop} {K : Nat → Nat × Nat} {P : List Nat × Nat × Nat} {I : Nat → Nat → Int32} {J : Nat → Nat → Int64} {F : Nat → Nat → Option Nat} {r0 : Nat} {r1 : Nat} {x2 : Int32} {n_r1 : Nat} {n_r0 : Nat} {f1 : Nat} {n_f1 : Nat} (hK : ∀ {a k n : Nat}, K a = (k, n) → n < 2147483648) (hn_r1 : K r1 = (8, n_r1)) (hn_r0 : K r0 = (2, n_r0)) (hf1 : F r0 4 = some f1) (hn_f1 : K f1 = (100, n_f1)) (H : (((I r1 3) ≤ x2 → Q (none, (K, P, I, J, F))) ∧ (¬ (I r1 3) ≤ x2 → Wp d 18 0 [some (.ref r0), some (.int (x2 - (nI 1)))] [] (K, P, I, J, F) (xrI K P F (fun v2 I3 J4 => (∃ j5 : Nat, x2 = nI j5 ∧ j5 < n_f1 ∧ Wp (d + 1) 13 37 [some (.ref r0), some (.ref r1), some (.int (x2 + nI 1))] [] (K, P, (xup I3 f1 j5 v2), J4, F) Q)))))) : Wp (d + 1) 13 37 [some (.ref r0), some (.ref r1), some (.int x2)] [] (K, P, I, J, F) Q := by
  refine Wp.go (x := (.iload_n 2, 1, 0, 0)) rfl 38 [some (.ref r0), some (.ref r1), some (.int x2)] [.int x2] rfl ⟨rfl, rfl, rfl, rfl⟩ ?_
  refine Wp.go (x := (.aload_n 1, 1, 0, 0)) rfl 39 [some (.ref r0), some (.ref r1), some (.int x2)] [.ref r1, .int x2] rfl ⟨rfl, rfl, rfl, rfl⟩ ?_
  refine Wp.gI rfl rfl hn_r1 rfl ⟨by decide, by decide⟩ ?_
  refine Wp.c_ge rfl rfl ⟨fun c => ?_, fun c => ?_⟩
  · have H := H.1 c
    exact Wp.rV rfl rfl H
  · have H := H.2 c
    refine Wp.go (x := (.aload_n 0, 1, 0, 0)) rfl 46 [some (.ref r0), some (.ref r1), some (.int x2)] [.ref r0] rfl ⟨rfl, rfl, rfl, rfl⟩ ?_
    refine Wp.gR rfl rfl hn_r0 rfl rfl hf1 ?_
    refine Wp.go (x := (.iload_n 2, 1, 0, 0)) rfl 50 [some (.ref r0), some (.ref r1), some (.int x2)] [.int x2, .ref f1] rfl ⟨rfl, rfl, rfl, rfl⟩ ?_
    refine Wp.go (x := (.aload_n 0, 1, 0, 0)) rfl 51 [some (.ref r0), some (.ref r1), some (.int x2)] [.ref r0, .int x2, .ref f1] rfl ⟨rfl, rfl, rfl, rfl⟩ ?_
    refine Wp.go (x := (.iload_n 2, 1, 0, 0)) rfl 52 [some (.ref r0), some (.ref r1), some (.int x2)] [.int x2, .ref r0, .int x2, .ref f1] rfl ⟨rfl, rfl, rfl, rfl⟩ ?_
    refine Wp.ic (v := nI 1) rfl rfl (by decide) ?_
    refine Wp.go (x := (.isub, 1, 0, 0)) rfl 54 [some (.ref r0), some (.ref r1), some (.int x2)] [.int (x2 - (nI 1)), .ref r0, .int x2, .ref f1] rfl ⟨rfl, rfl, rfl, rfl⟩ ?_
    refine Wp.kI (x := (.invokevirtual 68, 3, 18, 2)) (j := 18) (vs := [.ref r0, .int (x2 - (nI 1))]) (rest := [.int x2, .ref f1]) rfl (by show xtg 18 (K r0).1 = _; rw [hn_r0]; rfl) rfl ⟨Nat.le_of_ble_eq_true rfl, Nat.le_of_ble_eq_true rfl, Nat.le_of_ble_eq_true rfl⟩ rfl rfl rfl H (fun v2 I3 J4 H => ?_)
    obtain ⟨j5, e, b, H⟩ := H
    refine Wp.ast rfl rfl hn_f1 (hK hn_f1) ⟨j5, e, b, ?_⟩
    refine Wp.ii (v := nI 1) rfl rfl (by decide) rfl (L' := [some (.ref r0), some (.ref r1), some (.int (x2 + nI 1))]) rfl ?_
    refine Wp.go (x := (.goto (-24), 3, 37, 0)) rfl 37 [some (.ref r0), some (.ref r1), some (.int (x2 + nI 1))] [] rfl ⟨rfl, rfl, rfl, rfl⟩ ?_
    exact H
set_option maxRecDepth 20000 in
theorem wX1_literalCost_0 {d : Nat} {Q : Option Value × xS → Prop} {K : Nat → Nat × Nat} {P : List Nat × Nat × Nat} {I : Nat → Nat → Int32} {J : Nat → Nat → Int64} {F : Nat → Nat → Option Nat} {r0 : Nat} {x1 : Int32} {n_r0 : Nat} (hn_r0 : K r0 = (2, n_r0)) (H : Wp d 10 0 [some (.ref r0), some (.int (nI 0)), some (.int x1)] [] (K, P, I, J, F) (xrI K P F (fun v1 I2 J3 => Wp d 10 0 [some (.ref r0), some (.int (nI 3)), some (.int (nI 0))] [] (K, P, I2, J3, F) (xrI K P F (fun v4 I5 J6 => Q (some (.int (v1 + v4)), (K, P, I5, J6, F))))))) : Wp (d + 1) 14 0 [some (.ref r0), some (.int x1)] [] (K, P, I, J, F) Q := by
  refine Wp.go (x := (.aload_n 0, 1, 0, 0)) rfl 1 [some (.ref r0), some (.int x1)] [.ref r0] rfl ⟨rfl, rfl, rfl, rfl⟩ ?_
  refine Wp.ic (v := nI 0) rfl rfl (by decide) ?_
  refine Wp.go (x := (.iload_n 1, 1, 0, 0)) rfl 3 [some (.ref r0), some (.int x1)] [.int x1, .int (nI 0), .ref r0] rfl ⟨rfl, rfl, rfl, rfl⟩ ?_
  refine Wp.kI (x := (.invokevirtual 71, 3, 10, 3)) (j := 10) (vs := [.ref r0, .int (nI 0), .int x1]) (rest := []) rfl (by show xtg 10 (K r0).1 = _; rw [hn_r0]; rfl) rfl ⟨Nat.le_of_ble_eq_true rfl, Nat.le_of_ble_eq_true rfl, Nat.le_of_ble_eq_true rfl⟩ rfl rfl rfl H (fun v1 I2 J3 H => ?_)
  refine Wp.go (x := (.aload_n 0, 1, 0, 0)) rfl 7 [some (.ref r0), some (.int x1)] [.ref r0, .int v1] rfl ⟨rfl, rfl, rfl, rfl⟩ ?_
  refine Wp.ic (v := nI 3) rfl rfl (by decide) ?_
  refine Wp.ic (v := nI 0) rfl rfl (by decide) ?_
  refine Wp.kI (x := (.invokevirtual 71, 3, 10, 3)) (j := 10) (vs := [.ref r0, .int (nI 3), .int (nI 0)]) (rest := [.int v1]) rfl (by show xtg 10 (K r0).1 = _; rw [hn_r0]; rfl) rfl ⟨Nat.le_of_ble_eq_true rfl, Nat.le_of_ble_eq_true rfl, Nat.le_of_ble_eq_true rfl⟩ rfl rfl rfl H (fun v4 I5 J6 H => ?_)
  refine Wp.go (x := (.iadd, 1, 0, 0)) rfl 13 [some (.ref r0), some (.int x1)] [.int (v1 + v4)] rfl ⟨rfl, rfl, rfl, rfl⟩ ?_
  exact Wp.rI rfl rfl H
set_option maxRecDepth 20000 in
theorem wX1_kindCost_0 {d : Nat} {Q : Option Value × xS → Prop} {K : Nat → Nat × Nat} {P : List Nat × Nat × Nat} {I : Nat → Nat → Int32} {J : Nat → Nat → Int64} {F : Nat → Nat → Option Nat} {r0 : Nat} {x1 : Int32} {n_r0 : Nat} (hn_r0 : K r0 = (2, n_r0)) (H : Wp d 10 0 [some (.ref r0), some (.int (nI 3)), some (.int x1)] [] (K, P, I, J, F) (xrI K P F (fun v1 I2 J3 => Q (some (.int v1), (K, P, I2, J3, F))))) : Wp (d + 1) 15 0 [some (.ref r0), some (.int x1)] [] (K, P, I, J, F) Q := by
  refine Wp.go (x := (.aload_n 0, 1, 0, 0)) rfl 1 [some (.ref r0), some (.int x1)] [.ref r0] rfl ⟨rfl, rfl, rfl, rfl⟩ ?_
  refine Wp.ic (v := nI 3) rfl rfl (by decide) ?_
  refine Wp.go (x := (.iload_n 1, 1, 0, 0)) rfl 3 [some (.ref r0), some (.int x1)] [.int x1, .int (nI 3), .ref r0] rfl ⟨rfl, rfl, rfl, rfl⟩ ?_
  refine Wp.kI (x := (.invokevirtual 71, 3, 10, 3)) (j := 10) (vs := [.ref r0, .int (nI 3), .int x1]) (rest := []) rfl (by show xtg 10 (K r0).1 = _; rw [hn_r0]; rfl) rfl ⟨Nat.le_of_ble_eq_true rfl, Nat.le_of_ble_eq_true rfl, Nat.le_of_ble_eq_true rfl⟩ rfl rfl rfl H (fun v1 I2 J3 H => ?_)
  exact Wp.rI rfl rfl H
set_option maxRecDepth 20000 in
theorem wX1_stepCost_0 {d : Nat} {Q : Option Value × xS → Prop} {K : Nat → Nat × Nat} {P : List Nat × Nat × Nat} {I : Nat → Nat → Int32} {J : Nat → Nat → Int64} {F : Nat → Nat → Option Nat} {r0 : Nat} {r1 : Nat} {x2 : Int32} {r3 : Nat} {n_r1 : Nat} {f4 : Nat} {n_f4 : Nat} {n_r0 : Nat} {f9 : Nat} {n_f9 : Nat} {n_r3 : Nat} {f14 : Nat} {n_f14 : Nat} {f22 : Nat} {f23 : Nat} {n_f23 : Nat} {n_f22 : Nat} (hK : ∀ {a k n : Nat}, K a = (k, n) → n < 2147483648) (hn_r1 : K r1 = (5, n_r1)) (hf4 : F r1 3 = some f4) (hn_f4 : K f4 = (100, n_f4)) (hn_r0 : K r0 = (2, n_r0)) (hf9 : F r1 1 = some f9) (hn_f9 : K f9 = (100, n_f9)) (hn_r3 : K r3 = (8, n_r3)) (hf14 : F r1 2 = some f14) (hn_f14 : K f14 = (100, n_f14)) (hf22 : F r3 2 = some f22) (hf23 : F r1 0 = some f23) (hn_f23 : K f23 = (100, n_f23)) (hn_f22 : K f22 = (100, n_f22)) (H : Wp d 50 0 [some (.ref r1), some (.int x2)] [] (K, P, I, J, F) (xrI K P F (fun v1 I2 J3 => ((¬ v1 = 0 → (∃ j5 : Nat, x2 = nI j5 ∧ j5 < n_f4 ∧ ((¬ (I2 f4 j5) = 0 → ((¬ (I2 f4 j5) = (nI 6) → Wp d 15 0 [some (.ref r0), some (.int (I2 f4 j5))] [] (K, P, I2, J3, F) (xrI K P F (fun v6 I7 J8 => (∃ j10 : Nat, x2 = nI j10 ∧ j10 < n_f9 ∧ Wp d 17 0 [some (.ref r0), some (.int ((I7 f9 j10) - (I7 r3 0)))] [] (K, P, I7, J8, F) (xrI K P F (fun v11 I12 J13 => ((¬ (I2 f4 j5) = (nI 1) → Q (some (.int (v6 + v11)), (K, P, I12, J13, F))) ∧ ((I2 f4 j5) = (nI 1) → (∃ j15 : Nat, x2 = nI j15 ∧ j15 < n_f14 ∧ Wp d 18 0 [some (.ref r0), some (.int ((I12 f14 j15) - (nI 1)))] [] (K, P, I12, J13, F) (xrI K P F (fun v16 I17 J18 => Q (some (.int ((v6 + v11) + v16)), (K, P, I17, J18, F))))))))))))) ∧ ((I2 f4 j5) = (nI 6) → Wp d 15 0 [some (.ref r0), some (.int (nI 6))] [] (K, P, I2, J3, F) (xrI K P F (fun v19 I20 J21 => Q (some (.int v19), (K, P, I20, J21, F))))))) ∧ ((I2 f4 j5) = 0 → (∃ j24 : Nat, x2 = nI j24 ∧ j24 < n_f23 ∧ (∃ j25 : Nat, (I2 f23 j24) = nI j25 ∧ j25 < n_f22 ∧ Wp d 14 0 [some (.ref r0), some (.int (I2 f22 j25))] [] (K, P, I2, J3, F) (xrI K P F (fun v26 I27 J28 => Q (some (.int v26), (K, P, I27, J28, F)))))))))) ∧ (v1 = 0 → Q (some (.int (nI 0)), (K, P, I2, J3, F))))))) : Wp (d + 1) 16 0 [some (.ref r0), some (.ref r1), some (.int x2), some (.ref r3), none, none] [] (K, P, I, J, F) Q := by
  refine Wp.go (x := (.aload_n 1, 1, 0, 0)) rfl 1 [some (.ref r0), some (.ref r1), some (.int x2), some (.ref r3), none, none] [.ref r1] rfl ⟨rfl, rfl, rfl, rfl⟩ ?_
  refine Wp.go (x := (.iload_n 2, 1, 0, 0)) rfl 2 [some (.ref r0), some (.ref r1), some (.int x2), some (.ref r3), none, none] [.int x2, .ref r1] rfl ⟨rfl, rfl, rfl, rfl⟩ ?_
  refine Wp.kI (x := (.invokevirtual 75, 3, 50, 2)) (j := 50) (vs := [.ref r1, .int x2]) (rest := []) rfl (by show xtg 50 (K r1).1 = _; rw [hn_r1]; rfl) rfl ⟨Nat.le_of_ble_eq_true rfl, Nat.le_of_ble_eq_true rfl, Nat.le_of_ble_eq_true rfl⟩ rfl rfl rfl H (fun v1 I2 J3 H => ?_)
  refine Wp.z_ne rfl rfl ⟨fun c => ?_, fun c => ?_⟩
  · have H := H.1 c
    refine Wp.go (x := (.aload_n 1, 1, 0, 0)) rfl 11 [some (.ref r0), some (.ref r1), some (.int x2), some (.ref r3), none, none] [.ref r1] rfl ⟨rfl, rfl, rfl, rfl⟩ ?_
    refine Wp.gR rfl rfl hn_r1 rfl rfl hf4 ?_
    refine Wp.go (x := (.iload_n 2, 1, 0, 0)) rfl 15 [some (.ref r0), some (.ref r1), some (.int x2), some (.ref r3), none, none] [.int x2, .ref f4] rfl ⟨rfl, rfl, rfl, rfl⟩ ?_
    obtain ⟨j5, e, b, H⟩ := H
    refine Wp.ald rfl rfl hn_f4 (Or.inl rfl) (hK hn_f4) ⟨j5, e, b, ?_⟩
    refine Wp.go (x := (.istore 4, 2, 0, 0)) rfl 18 [some (.ref r0), some (.ref r1), some (.int x2), some (.ref r3), some (.int (I2 f4 j5)), none] [] rfl ⟨rfl, rfl, rfl, rfl⟩ ?_
    refine Wp.go (x := (.iload 4, 2, 0, 0)) rfl 20 [some (.ref r0), some (.ref r1), some (.int x2), some (.ref r3), some (.int (I2 f4 j5)), none] [.int (I2 f4 j5)] rfl ⟨rfl, rfl, rfl, rfl⟩ ?_
    refine Wp.z_ne rfl rfl ⟨fun c => ?_, fun c => ?_⟩
    · have H := H.1 c
      refine Wp.go (x := (.iload 4, 2, 0, 0)) rfl 41 [some (.ref r0), some (.ref r1), some (.int x2), some (.ref r3), some (.int (I2 f4 j5)), none] [.int (I2 f4 j5)] rfl ⟨rfl, rfl, rfl, rfl⟩ ?_
      refine Wp.bp (v := nI 6) rfl rfl (by decide) ?_
      refine Wp.c_ne rfl rfl ⟨fun c => ?_, fun c => ?_⟩
      · have H := H.1 c
        refine Wp.go (x := (.aload_n 0, 1, 0, 0)) rfl 54 [some (.ref r0), some (.ref r1), some (.int x2), some (.ref r3), some (.int (I2 f4 j5)), none] [.ref r0] rfl ⟨rfl, rfl, rfl, rfl⟩ ?_
        refine Wp.go (x := (.iload 4, 2, 0, 0)) rfl 56 [some (.ref r0), some (.ref r1), some (.int x2), some (.ref r3), some (.int (I2 f4 j5)), none] [.int (I2 f4 j5), .ref r0] rfl ⟨rfl, rfl, rfl, rfl⟩ ?_
        refine Wp.kI (x := (.invokevirtual 93, 3, 15, 2)) (j := 15) (vs := [.ref r0, .int (I2 f4 j5)]) (rest := []) rfl (by show xtg 15 (K r0).1 = _; rw [hn_r0]; rfl) rfl ⟨Nat.le_of_ble_eq_true rfl, Nat.le_of_ble_eq_true rfl, Nat.le_of_ble_eq_true rfl⟩ rfl rfl rfl H (fun v6 I7 J8 H => ?_)
        refine Wp.go (x := (.aload_n 0, 1, 0, 0)) rfl 60 [some (.ref r0), some (.ref r1), some (.int x2), some (.ref r3), some (.int (I2 f4 j5)), none] [.ref r0, .int v6] rfl ⟨rfl, rfl, rfl, rfl⟩ ?_
        refine Wp.go (x := (.aload_n 1, 1, 0, 0)) rfl 61 [some (.ref r0), some (.ref r1), some (.int x2), some (.ref r3), some (.int (I2 f4 j5)), none] [.ref r1, .ref r0, .int v6] rfl ⟨rfl, rfl, rfl, rfl⟩ ?_
        refine Wp.gR rfl rfl hn_r1 rfl rfl hf9 ?_
        refine Wp.go (x := (.iload_n 2, 1, 0, 0)) rfl 65 [some (.ref r0), some (.ref r1), some (.int x2), some (.ref r3), some (.int (I2 f4 j5)), none] [.int x2, .ref f9, .ref r0, .int v6] rfl ⟨rfl, rfl, rfl, rfl⟩ ?_
        obtain ⟨j10, e, b, H⟩ := H
        refine Wp.ald rfl rfl hn_f9 (Or.inl rfl) (hK hn_f9) ⟨j10, e, b, ?_⟩
        refine Wp.go (x := (.aload_n 3, 1, 0, 0)) rfl 67 [some (.ref r0), some (.ref r1), some (.int x2), some (.ref r3), some (.int (I2 f4 j5)), none] [.ref r3, .int (I7 f9 j10), .ref r0, .int v6] rfl ⟨rfl, rfl, rfl, rfl⟩ ?_
        refine Wp.gI rfl rfl hn_r3 rfl ⟨by decide, by decide⟩ ?_
        refine Wp.go (x := (.isub, 1, 0, 0)) rfl 71 [some (.ref r0), some (.ref r1), some (.int x2), some (.ref r3), some (.int (I2 f4 j5)), none] [.int ((I7 f9 j10) - (I7 r3 0)), .ref r0, .int v6] rfl ⟨rfl, rfl, rfl, rfl⟩ ?_
        refine Wp.kI (x := (.invokevirtual 64, 3, 17, 2)) (j := 17) (vs := [.ref r0, .int ((I7 f9 j10) - (I7 r3 0))]) (rest := [.int v6]) rfl (by show xtg 17 (K r0).1 = _; rw [hn_r0]; rfl) rfl ⟨Nat.le_of_ble_eq_true rfl, Nat.le_of_ble_eq_true rfl, Nat.le_of_ble_eq_true rfl⟩ rfl rfl rfl H (fun v11 I12 J13 H => ?_)
        refine Wp.go (x := (.iadd, 1, 0, 0)) rfl 75 [some (.ref r0), some (.ref r1), some (.int x2), some (.ref r3), some (.int (I2 f4 j5)), none] [.int (v6 + v11)] rfl ⟨rfl, rfl, rfl, rfl⟩ ?_
        refine Wp.go (x := (.istore 5, 2, 0, 0)) rfl 77 [some (.ref r0), some (.ref r1), some (.int x2), some (.ref r3), some (.int (I2 f4 j5)), some (.int (v6 + v11))] [] rfl ⟨rfl, rfl, rfl, rfl⟩ ?_
        refine Wp.go (x := (.iload 4, 2, 0, 0)) rfl 79 [some (.ref r0), some (.ref r1), some (.int x2), some (.ref r3), some (.int (I2 f4 j5)), some (.int (v6 + v11))] [.int (I2 f4 j5)] rfl ⟨rfl, rfl, rfl, rfl⟩ ?_
        refine Wp.ic (v := nI 1) rfl rfl (by decide) ?_
        refine Wp.c_ne rfl rfl ⟨fun c => ?_, fun c => ?_⟩
        · have H := H.1 c
          refine Wp.go (x := (.iload 5, 2, 0, 0)) rfl 103 [some (.ref r0), some (.ref r1), some (.int x2), some (.ref r3), some (.int (I2 f4 j5)), some (.int (v6 + v11))] [.int (v6 + v11)] rfl ⟨rfl, rfl, rfl, rfl⟩ ?_
          exact Wp.rI rfl rfl H
        · have H := H.2 c
          refine Wp.go (x := (.iload 5, 2, 0, 0)) rfl 85 [some (.ref r0), some (.ref r1), some (.int x2), some (.ref r3), some (.int (I2 f4 j5)), some (.int (v6 + v11))] [.int (v6 + v11)] rfl ⟨rfl, rfl, rfl, rfl⟩ ?_
          refine Wp.go (x := (.aload_n 0, 1, 0, 0)) rfl 86 [some (.ref r0), some (.ref r1), some (.int x2), some (.ref r3), some (.int (I2 f4 j5)), some (.int (v6 + v11))] [.ref r0, .int (v6 + v11)] rfl ⟨rfl, rfl, rfl, rfl⟩ ?_
          refine Wp.go (x := (.aload_n 1, 1, 0, 0)) rfl 87 [some (.ref r0), some (.ref r1), some (.int x2), some (.ref r3), some (.int (I2 f4 j5)), some (.int (v6 + v11))] [.ref r1, .ref r0, .int (v6 + v11)] rfl ⟨rfl, rfl, rfl, rfl⟩ ?_
          refine Wp.gR rfl rfl hn_r1 rfl rfl hf14 ?_
          refine Wp.go (x := (.iload_n 2, 1, 0, 0)) rfl 91 [some (.ref r0), some (.ref r1), some (.int x2), some (.ref r3), some (.int (I2 f4 j5)), some (.int (v6 + v11))] [.int x2, .ref f14, .ref r0, .int (v6 + v11)] rfl ⟨rfl, rfl, rfl, rfl⟩ ?_
          obtain ⟨j15, e, b, H⟩ := H
          refine Wp.ald rfl rfl hn_f14 (Or.inl rfl) (hK hn_f14) ⟨j15, e, b, ?_⟩
          refine Wp.ic (v := nI 1) rfl rfl (by decide) ?_
          refine Wp.go (x := (.isub, 1, 0, 0)) rfl 94 [some (.ref r0), some (.ref r1), some (.int x2), some (.ref r3), some (.int (I2 f4 j5)), some (.int (v6 + v11))] [.int ((I12 f14 j15) - (nI 1)), .ref r0, .int (v6 + v11)] rfl ⟨rfl, rfl, rfl, rfl⟩ ?_
          refine Wp.kI (x := (.invokevirtual 68, 3, 18, 2)) (j := 18) (vs := [.ref r0, .int ((I12 f14 j15) - (nI 1))]) (rest := [.int (v6 + v11)]) rfl (by show xtg 18 (K r0).1 = _; rw [hn_r0]; rfl) rfl ⟨Nat.le_of_ble_eq_true rfl, Nat.le_of_ble_eq_true rfl, Nat.le_of_ble_eq_true rfl⟩ rfl rfl rfl H (fun v16 I17 J18 H => ?_)
          refine Wp.go (x := (.iadd, 1, 0, 0)) rfl 98 [some (.ref r0), some (.ref r1), some (.int x2), some (.ref r3), some (.int (I2 f4 j5)), some (.int (v6 + v11))] [.int ((v6 + v11) + v16)] rfl ⟨rfl, rfl, rfl, rfl⟩ ?_
          refine Wp.go (x := (.goto 5, 3, 103, 0)) rfl 103 [some (.ref r0), some (.ref r1), some (.int x2), some (.ref r3), some (.int (I2 f4 j5)), some (.int (v6 + v11))] [.int ((v6 + v11) + v16)] rfl ⟨rfl, rfl, rfl, rfl⟩ ?_
          exact Wp.rI rfl rfl H
      · have H := H.2 c
        refine Wp.go (x := (.aload_n 0, 1, 0, 0)) rfl 47 [some (.ref r0), some (.ref r1), some (.int x2), some (.ref r3), some (.int (I2 f4 j5)), none] [.ref r0] rfl ⟨rfl, rfl, rfl, rfl⟩ ?_
        refine Wp.bp (v := nI 6) rfl rfl (by decide) ?_
        refine Wp.kI (x := (.invokevirtual 93, 3, 15, 2)) (j := 15) (vs := [.ref r0, .int (nI 6)]) (rest := []) rfl (by show xtg 15 (K r0).1 = _; rw [hn_r0]; rfl) rfl ⟨Nat.le_of_ble_eq_true rfl, Nat.le_of_ble_eq_true rfl, Nat.le_of_ble_eq_true rfl⟩ rfl rfl rfl H (fun v19 I20 J21 H => ?_)
        exact Wp.rI rfl rfl H
    · have H := H.2 c
      refine Wp.go (x := (.aload_n 0, 1, 0, 0)) rfl 24 [some (.ref r0), some (.ref r1), some (.int x2), some (.ref r3), some (.int (I2 f4 j5)), none] [.ref r0] rfl ⟨rfl, rfl, rfl, rfl⟩ ?_
      refine Wp.go (x := (.aload_n 3, 1, 0, 0)) rfl 25 [some (.ref r0), some (.ref r1), some (.int x2), some (.ref r3), some (.int (I2 f4 j5)), none] [.ref r3, .ref r0] rfl ⟨rfl, rfl, rfl, rfl⟩ ?_
      refine Wp.gR rfl rfl hn_r3 rfl rfl hf22 ?_
      refine Wp.go (x := (.aload_n 1, 1, 0, 0)) rfl 29 [some (.ref r0), some (.ref r1), some (.int x2), some (.ref r3), some (.int (I2 f4 j5)), none] [.ref r1, .ref f22, .ref r0] rfl ⟨rfl, rfl, rfl, rfl⟩ ?_
      refine Wp.gR rfl rfl hn_r1 rfl rfl hf23 ?_
      refine Wp.go (x := (.iload_n 2, 1, 0, 0)) rfl 33 [some (.ref r0), some (.ref r1), some (.int x2), some (.ref r3), some (.int (I2 f4 j5)), none] [.int x2, .ref f23, .ref f22, .ref r0] rfl ⟨rfl, rfl, rfl, rfl⟩ ?_
      obtain ⟨j24, e, b, H⟩ := H
      refine Wp.ald rfl rfl hn_f23 (Or.inl rfl) (hK hn_f23) ⟨j24, e, b, ?_⟩
      obtain ⟨j25, e, b, H⟩ := H
      refine Wp.ald rfl rfl hn_f22 (Or.inl rfl) (hK hn_f22) ⟨j25, e, b, ?_⟩
      refine Wp.kI (x := (.invokevirtual 90, 3, 14, 2)) (j := 14) (vs := [.ref r0, .int (I2 f22 j25)]) (rest := []) rfl (by show xtg 14 (K r0).1 = _; rw [hn_r0]; rfl) rfl ⟨Nat.le_of_ble_eq_true rfl, Nat.le_of_ble_eq_true rfl, Nat.le_of_ble_eq_true rfl⟩ rfl rfl rfl H (fun v26 I27 J28 H => ?_)
      exact Wp.rI rfl rfl H
  · have H := H.2 c
    refine Wp.ic (v := nI 0) rfl rfl (by decide) ?_
    exact Wp.rI rfl rfl H
set_option maxRecDepth 20000 in
theorem wX1_lengthCost_0 {d : Nat} {Q : Option Value × xS → Prop} {K : Nat → Nat × Nat} {P : List Nat × Nat × Nat} {I : Nat → Nat → Int32} {J : Nat → Nat → Int64} {F : Nat → Nat → Option Nat} {r0 : Nat} {x1 : Int32} {n_r0 : Nat} (hn_r0 : K r0 = (2, n_r0)) (H : Wp d 19 0 [some (.int x1), none] [] (K, P, I, J, F) (xrI K P F (fun v1 I2 J3 => Wp d 10 0 [some (.ref r0), some (.int (nI 1)), some (.int v1)] [] (K, P, I2, J3, F) (xrI K P F (fun v4 I5 J6 => (((nI 8) ≤ x1 → Wp d 95 0 [some (.int x1), none] [] (K, P, I5, J6, F) (xrI K P F (fun v7 I8 J9 => Q (some (.int (v4 + ((nI 64) * (v7 - (nI 2))))), (K, P, I8, J9, F))))) ∧ (¬ (nI 8) ≤ x1 → Q (some (.int (v4 + ((nI 64) * (nI 0)))), (K, P, I5, J6, F))))))))) : Wp (d + 1) 17 0 [some (.ref r0), some (.int x1)] [] (K, P, I, J, F) Q := by
  refine Wp.go (x := (.aload_n 0, 1, 0, 0)) rfl 1 [some (.ref r0), some (.int x1)] [.ref r0] rfl ⟨rfl, rfl, rfl, rfl⟩ ?_
  refine Wp.ic (v := nI 1) rfl rfl (by decide) ?_
  refine Wp.go (x := (.iload_n 1, 1, 0, 0)) rfl 3 [some (.ref r0), some (.int x1)] [.int x1, .int (nI 1), .ref r0] rfl ⟨rfl, rfl, rfl, rfl⟩ ?_
  refine Wp.kI (x := (.invokestatic 102, 3, 19, 1)) (j := 19) (vs := [.int x1]) (rest := [.int (nI 1), .ref r0]) rfl rfl rfl ⟨Nat.le_of_ble_eq_true rfl, Nat.le_of_ble_eq_true rfl, Nat.le_of_ble_eq_true rfl⟩ rfl rfl rfl H (fun v1 I2 J3 H => ?_)
  refine Wp.kI (x := (.invokevirtual 71, 3, 10, 3)) (j := 10) (vs := [.ref r0, .int (nI 1), .int v1]) (rest := []) rfl (by show xtg 10 (K r0).1 = _; rw [hn_r0]; rfl) rfl ⟨Nat.le_of_ble_eq_true rfl, Nat.le_of_ble_eq_true rfl, Nat.le_of_ble_eq_true rfl⟩ rfl rfl rfl H (fun v4 I5 J6 H => ?_)
  refine Wp.bp (v := nI 64) rfl rfl (by decide) ?_
  refine Wp.go (x := (.iload_n 1, 1, 0, 0)) rfl 12 [some (.ref r0), some (.int x1)] [.int x1, .int (nI 64), .int v4] rfl ⟨rfl, rfl, rfl, rfl⟩ ?_
  refine Wp.bp (v := nI 8) rfl rfl (by decide) ?_
  refine Wp.c_ge rfl rfl ⟨fun c => ?_, fun c => ?_⟩
  · have H := H.1 c
    refine Wp.go (x := (.iload_n 1, 1, 0, 0)) rfl 22 [some (.ref r0), some (.int x1)] [.int x1, .int (nI 64), .int v4] rfl ⟨rfl, rfl, rfl, rfl⟩ ?_
    refine Wp.kI (x := (.invokestatic 105, 3, 95, 1)) (j := 95) (vs := [.int x1]) (rest := [.int (nI 64), .int v4]) rfl rfl rfl ⟨Nat.le_of_ble_eq_true rfl, Nat.le_of_ble_eq_true rfl, Nat.le_of_ble_eq_true rfl⟩ rfl rfl rfl H (fun v7 I8 J9 H => ?_)
    refine Wp.ic (v := nI 2) rfl rfl (by decide) ?_
    refine Wp.go (x := (.isub, 1, 0, 0)) rfl 27 [some (.ref r0), some (.int x1)] [.int (v7 - (nI 2)), .int (nI 64), .int v4] rfl ⟨rfl, rfl, rfl, rfl⟩ ?_
    refine Wp.go (x := (.imul, 1, 0, 0)) rfl 28 [some (.ref r0), some (.int x1)] [.int ((nI 64) * (v7 - (nI 2))), .int v4] rfl ⟨rfl, rfl, rfl, rfl⟩ ?_
    refine Wp.go (x := (.iadd, 1, 0, 0)) rfl 29 [some (.ref r0), some (.int x1)] [.int (v4 + ((nI 64) * (v7 - (nI 2))))] rfl ⟨rfl, rfl, rfl, rfl⟩ ?_
    exact Wp.rI rfl rfl H
  · have H := H.2 c
    refine Wp.ic (v := nI 0) rfl rfl (by decide) ?_
    refine Wp.go (x := (.goto 9, 3, 27, 0)) rfl 27 [some (.ref r0), some (.int x1)] [.int (nI 0), .int (nI 64), .int v4] rfl ⟨rfl, rfl, rfl, rfl⟩ ?_
    refine Wp.go (x := (.imul, 1, 0, 0)) rfl 28 [some (.ref r0), some (.int x1)] [.int ((nI 64) * (nI 0)), .int v4] rfl ⟨rfl, rfl, rfl, rfl⟩ ?_
    refine Wp.go (x := (.iadd, 1, 0, 0)) rfl 29 [some (.ref r0), some (.int x1)] [.int (v4 + ((nI 64) * (nI 0)))] rfl ⟨rfl, rfl, rfl, rfl⟩ ?_
    exact Wp.rI rfl rfl H
set_option maxRecDepth 20000 in
theorem wX1_distanceCost_0 {d : Nat} {Q : Option Value × xS → Prop} {K : Nat → Nat × Nat} {P : List Nat × Nat × Nat} {I : Nat → Nat → Int32} {J : Nat → Nat → Int64} {F : Nat → Nat → Option Nat} {r0 : Nat} {x1 : Int32} {n_r0 : Nat} (hn_r0 : K r0 = (2, n_r0)) (H : Wp d 20 0 [some (.int x1), none] [] (K, P, I, J, F) (xrI K P F (fun v1 I2 J3 => Wp d 10 0 [some (.ref r0), some (.int (nI 2)), some (.int v1)] [] (K, P, I2, J3, F) (xrI K P F (fun v4 I5 J6 => (((nI 4) ≤ x1 → Wp d 95 0 [some (.int x1), none] [] (K, P, I5, J6, F) (xrI K P F (fun v7 I8 J9 => Q (some (.int (v4 + ((nI 64) * (v7 - (nI 1))))), (K, P, I8, J9, F))))) ∧ (¬ (nI 4) ≤ x1 → Q (some (.int (v4 + ((nI 64) * (nI 0)))), (K, P, I5, J6, F))))))))) : Wp (d + 1) 18 0 [some (.ref r0), some (.int x1)] [] (K, P, I, J, F) Q := by
  refine Wp.go (x := (.aload_n 0, 1, 0, 0)) rfl 1 [some (.ref r0), some (.int x1)] [.ref r0] rfl ⟨rfl, rfl, rfl, rfl⟩ ?_
  refine Wp.ic (v := nI 2) rfl rfl (by decide) ?_
  refine Wp.go (x := (.iload_n 1, 1, 0, 0)) rfl 3 [some (.ref r0), some (.int x1)] [.int x1, .int (nI 2), .ref r0] rfl ⟨rfl, rfl, rfl, rfl⟩ ?_
  refine Wp.kI (x := (.invokestatic 108, 3, 20, 1)) (j := 20) (vs := [.int x1]) (rest := [.int (nI 2), .ref r0]) rfl rfl rfl ⟨Nat.le_of_ble_eq_true rfl, Nat.le_of_ble_eq_true rfl, Nat.le_of_ble_eq_true rfl⟩ rfl rfl rfl H (fun v1 I2 J3 H => ?_)
  refine Wp.kI (x := (.invokevirtual 71, 3, 10, 3)) (j := 10) (vs := [.ref r0, .int (nI 2), .int v1]) (rest := []) rfl (by show xtg 10 (K r0).1 = _; rw [hn_r0]; rfl) rfl ⟨Nat.le_of_ble_eq_true rfl, Nat.le_of_ble_eq_true rfl, Nat.le_of_ble_eq_true rfl⟩ rfl rfl rfl H (fun v4 I5 J6 H => ?_)
  refine Wp.bp (v := nI 64) rfl rfl (by decide) ?_
  refine Wp.go (x := (.iload_n 1, 1, 0, 0)) rfl 12 [some (.ref r0), some (.int x1)] [.int x1, .int (nI 64), .int v4] rfl ⟨rfl, rfl, rfl, rfl⟩ ?_
  refine Wp.ic (v := nI 4) rfl rfl (by decide) ?_
  refine Wp.c_ge rfl rfl ⟨fun c => ?_, fun c => ?_⟩
  · have H := H.1 c
    refine Wp.go (x := (.iload_n 1, 1, 0, 0)) rfl 21 [some (.ref r0), some (.int x1)] [.int x1, .int (nI 64), .int v4] rfl ⟨rfl, rfl, rfl, rfl⟩ ?_
    refine Wp.kI (x := (.invokestatic 105, 3, 95, 1)) (j := 95) (vs := [.int x1]) (rest := [.int (nI 64), .int v4]) rfl rfl rfl ⟨Nat.le_of_ble_eq_true rfl, Nat.le_of_ble_eq_true rfl, Nat.le_of_ble_eq_true rfl⟩ rfl rfl rfl H (fun v7 I8 J9 H => ?_)
    refine Wp.ic (v := nI 1) rfl rfl (by decide) ?_
    refine Wp.go (x := (.isub, 1, 0, 0)) rfl 26 [some (.ref r0), some (.int x1)] [.int (v7 - (nI 1)), .int (nI 64), .int v4] rfl ⟨rfl, rfl, rfl, rfl⟩ ?_
    refine Wp.go (x := (.imul, 1, 0, 0)) rfl 27 [some (.ref r0), some (.int x1)] [.int ((nI 64) * (v7 - (nI 1))), .int v4] rfl ⟨rfl, rfl, rfl, rfl⟩ ?_
    refine Wp.go (x := (.iadd, 1, 0, 0)) rfl 28 [some (.ref r0), some (.int x1)] [.int (v4 + ((nI 64) * (v7 - (nI 1))))] rfl ⟨rfl, rfl, rfl, rfl⟩ ?_
    exact Wp.rI rfl rfl H
  · have H := H.2 c
    refine Wp.ic (v := nI 0) rfl rfl (by decide) ?_
    refine Wp.go (x := (.goto 9, 3, 26, 0)) rfl 26 [some (.ref r0), some (.int x1)] [.int (nI 0), .int (nI 64), .int v4] rfl ⟨rfl, rfl, rfl, rfl⟩ ?_
    refine Wp.go (x := (.imul, 1, 0, 0)) rfl 27 [some (.ref r0), some (.int x1)] [.int ((nI 64) * (nI 0)), .int v4] rfl ⟨rfl, rfl, rfl, rfl⟩ ?_
    refine Wp.go (x := (.iadd, 1, 0, 0)) rfl 28 [some (.ref r0), some (.int x1)] [.int (v4 + ((nI 64) * (nI 0)))] rfl ⟨rfl, rfl, rfl, rfl⟩ ?_
    exact Wp.rI rfl rfl H
set_option maxRecDepth 20000 in
theorem wX1_lengthSlot_0 {d : Nat} {Q : Option Value × xS → Prop} {K : Nat → Nat × Nat} {P : List Nat × Nat × Nat} {I : Nat → Nat → Int32} {J : Nat → Nat → Int64} {F : Nat → Nat → Option Nat} {x0 : Int32}  (H : (((nI 8) ≤ x0 → Wp d 95 0 [some (.int x0), none] [] (K, P, I, J, F) (xrI K P F (fun v1 I2 J3 => Q (some (.int (((nI 4) * (v1 - (nI 1))) + ((x0 >>> ((v1 - (nI 2)) &&& 31)) &&& (nI 3)))), (K, P, I2, J3, F))))) ∧ (¬ (nI 8) ≤ x0 → Q (some (.int x0), (K, P, I, J, F))))) : Wp (d + 1) 19 0 [some (.int x0), none] [] (K, P, I, J, F) Q := by
  refine Wp.go (x := (.iload_n 0, 1, 0, 0)) rfl 1 [some (.int x0), none] [.int x0] rfl ⟨rfl, rfl, rfl, rfl⟩ ?_
  refine Wp.bp (v := nI 8) rfl rfl (by decide) ?_
  refine Wp.c_ge rfl rfl ⟨fun c => ?_, fun c => ?_⟩
  · have H := H.1 c
    refine Wp.go (x := (.iload_n 0, 1, 0, 0)) rfl 9 [some (.int x0), none] [.int x0] rfl ⟨rfl, rfl, rfl, rfl⟩ ?_
    refine Wp.kI (x := (.invokestatic 105, 3, 95, 1)) (j := 95) (vs := [.int x0]) (rest := []) rfl rfl rfl ⟨Nat.le_of_ble_eq_true rfl, Nat.le_of_ble_eq_true rfl, Nat.le_of_ble_eq_true rfl⟩ rfl rfl rfl H (fun v1 I2 J3 H => ?_)
    refine Wp.go (x := (.istore_n 1, 1, 0, 0)) rfl 13 [some (.int x0), some (.int v1)] [] rfl ⟨rfl, rfl, rfl, rfl⟩ ?_
    refine Wp.ic (v := nI 4) rfl rfl (by decide) ?_
    refine Wp.go (x := (.iload_n 1, 1, 0, 0)) rfl 15 [some (.int x0), some (.int v1)] [.int v1, .int (nI 4)] rfl ⟨rfl, rfl, rfl, rfl⟩ ?_
    refine Wp.ic (v := nI 1) rfl rfl (by decide) ?_
    refine Wp.go (x := (.isub, 1, 0, 0)) rfl 17 [some (.int x0), some (.int v1)] [.int (v1 - (nI 1)), .int (nI 4)] rfl ⟨rfl, rfl, rfl, rfl⟩ ?_
    refine Wp.go (x := (.imul, 1, 0, 0)) rfl 18 [some (.int x0), some (.int v1)] [.int ((nI 4) * (v1 - (nI 1)))] rfl ⟨rfl, rfl, rfl, rfl⟩ ?_
    refine Wp.go (x := (.iload_n 0, 1, 0, 0)) rfl 19 [some (.int x0), some (.int v1)] [.int x0, .int ((nI 4) * (v1 - (nI 1)))] rfl ⟨rfl, rfl, rfl, rfl⟩ ?_
    refine Wp.go (x := (.iload_n 1, 1, 0, 0)) rfl 20 [some (.int x0), some (.int v1)] [.int v1, .int x0, .int ((nI 4) * (v1 - (nI 1)))] rfl ⟨rfl, rfl, rfl, rfl⟩ ?_
    refine Wp.ic (v := nI 2) rfl rfl (by decide) ?_
    refine Wp.go (x := (.isub, 1, 0, 0)) rfl 22 [some (.int x0), some (.int v1)] [.int (v1 - (nI 2)), .int x0, .int ((nI 4) * (v1 - (nI 1)))] rfl ⟨rfl, rfl, rfl, rfl⟩ ?_
    refine Wp.go (x := (.ishr, 1, 0, 0)) rfl 23 [some (.int x0), some (.int v1)] [.int (x0 >>> ((v1 - (nI 2)) &&& 31)), .int ((nI 4) * (v1 - (nI 1)))] rfl ⟨rfl, rfl, rfl, rfl⟩ ?_
    refine Wp.ic (v := nI 3) rfl rfl (by decide) ?_
    refine Wp.go (x := (.iand, 1, 0, 0)) rfl 25 [some (.int x0), some (.int v1)] [.int ((x0 >>> ((v1 - (nI 2)) &&& 31)) &&& (nI 3)), .int ((nI 4) * (v1 - (nI 1)))] rfl ⟨rfl, rfl, rfl, rfl⟩ ?_
    refine Wp.go (x := (.iadd, 1, 0, 0)) rfl 26 [some (.int x0), some (.int v1)] [.int (((nI 4) * (v1 - (nI 1))) + ((x0 >>> ((v1 - (nI 2)) &&& 31)) &&& (nI 3)))] rfl ⟨rfl, rfl, rfl, rfl⟩ ?_
    exact Wp.rI rfl rfl H
  · have H := H.2 c
    refine Wp.go (x := (.iload_n 0, 1, 0, 0)) rfl 7 [some (.int x0), none] [.int x0] rfl ⟨rfl, rfl, rfl, rfl⟩ ?_
    exact Wp.rI rfl rfl H
set_option maxRecDepth 20000 in
theorem wX1_distanceSlot_0 {d : Nat} {Q : Option Value × xS → Prop} {K : Nat → Nat × Nat} {P : List Nat × Nat × Nat} {I : Nat → Nat → Int32} {J : Nat → Nat → Int64} {F : Nat → Nat → Option Nat} {x0 : Int32}  (H : (((nI 4) ≤ x0 → Wp d 95 0 [some (.int x0), none] [] (K, P, I, J, F) (xrI K P F (fun v1 I2 J3 => Q (some (.int (((nI 2) * v1) + ((x0 >>> ((v1 - (nI 1)) &&& 31)) &&& (nI 1)))), (K, P, I2, J3, F))))) ∧ (¬ (nI 4) ≤ x0 → Q (some (.int x0), (K, P, I, J, F))))) : Wp (d + 1) 20 0 [some (.int x0), none] [] (K, P, I, J, F) Q := by
  refine Wp.go (x := (.iload_n 0, 1, 0, 0)) rfl 1 [some (.int x0), none] [.int x0] rfl ⟨rfl, rfl, rfl, rfl⟩ ?_
  refine Wp.ic (v := nI 4) rfl rfl (by decide) ?_
  refine Wp.c_ge rfl rfl ⟨fun c => ?_, fun c => ?_⟩
  · have H := H.1 c
    refine Wp.go (x := (.iload_n 0, 1, 0, 0)) rfl 8 [some (.int x0), none] [.int x0] rfl ⟨rfl, rfl, rfl, rfl⟩ ?_
    refine Wp.kI (x := (.invokestatic 105, 3, 95, 1)) (j := 95) (vs := [.int x0]) (rest := []) rfl rfl rfl ⟨Nat.le_of_ble_eq_true rfl, Nat.le_of_ble_eq_true rfl, Nat.le_of_ble_eq_true rfl⟩ rfl rfl rfl H (fun v1 I2 J3 H => ?_)
    refine Wp.go (x := (.istore_n 1, 1, 0, 0)) rfl 12 [some (.int x0), some (.int v1)] [] rfl ⟨rfl, rfl, rfl, rfl⟩ ?_
    refine Wp.ic (v := nI 2) rfl rfl (by decide) ?_
    refine Wp.go (x := (.iload_n 1, 1, 0, 0)) rfl 14 [some (.int x0), some (.int v1)] [.int v1, .int (nI 2)] rfl ⟨rfl, rfl, rfl, rfl⟩ ?_
    refine Wp.go (x := (.imul, 1, 0, 0)) rfl 15 [some (.int x0), some (.int v1)] [.int ((nI 2) * v1)] rfl ⟨rfl, rfl, rfl, rfl⟩ ?_
    refine Wp.go (x := (.iload_n 0, 1, 0, 0)) rfl 16 [some (.int x0), some (.int v1)] [.int x0, .int ((nI 2) * v1)] rfl ⟨rfl, rfl, rfl, rfl⟩ ?_
    refine Wp.go (x := (.iload_n 1, 1, 0, 0)) rfl 17 [some (.int x0), some (.int v1)] [.int v1, .int x0, .int ((nI 2) * v1)] rfl ⟨rfl, rfl, rfl, rfl⟩ ?_
    refine Wp.ic (v := nI 1) rfl rfl (by decide) ?_
    refine Wp.go (x := (.isub, 1, 0, 0)) rfl 19 [some (.int x0), some (.int v1)] [.int (v1 - (nI 1)), .int x0, .int ((nI 2) * v1)] rfl ⟨rfl, rfl, rfl, rfl⟩ ?_
    refine Wp.go (x := (.ishr, 1, 0, 0)) rfl 20 [some (.int x0), some (.int v1)] [.int (x0 >>> ((v1 - (nI 1)) &&& 31)), .int ((nI 2) * v1)] rfl ⟨rfl, rfl, rfl, rfl⟩ ?_
    refine Wp.ic (v := nI 1) rfl rfl (by decide) ?_
    refine Wp.go (x := (.iand, 1, 0, 0)) rfl 22 [some (.int x0), some (.int v1)] [.int ((x0 >>> ((v1 - (nI 1)) &&& 31)) &&& (nI 1)), .int ((nI 2) * v1)] rfl ⟨rfl, rfl, rfl, rfl⟩ ?_
    refine Wp.go (x := (.iadd, 1, 0, 0)) rfl 23 [some (.int x0), some (.int v1)] [.int (((nI 2) * v1) + ((x0 >>> ((v1 - (nI 1)) &&& 31)) &&& (nI 1)))] rfl ⟨rfl, rfl, rfl, rfl⟩ ?_
    exact Wp.rI rfl rfl H
  · have H := H.2 c
    refine Wp.go (x := (.iload_n 0, 1, 0, 0)) rfl 6 [some (.int x0), none] [.int x0] rfl ⟨rfl, rfl, rfl, rfl⟩ ?_
    exact Wp.rI rfl rfl H
set_option maxRecDepth 20000 in
theorem wX1_fitTo_0 {d : Nat} {Q : Option Value × xS → Prop} {K : Nat → Nat × Nat} {P : List Nat × Nat × Nat} {I : Nat → Nat → Int32} {J : Nat → Nat → Int64} {F : Nat → Nat → Option Nat} {r0 : Nat} {r1 : Nat} {r2 : Nat} {n_r0 : Nat} (hn_r0 : K r0 = (2, n_r0)) (H : Wp d 22 0 [some (.ref r0), some (.ref r1), some (.ref r2), none, none] [] (K, P, I, J, F) (xrV K P F (fun I1 J2 => Wp (d + 1) 21 8 [some (.ref r0), none, none, some (.int (nI 0))] [] (K, P, I1, J2, F) Q))) : Wp (d + 1) 21 0 [some (.ref r0), some (.ref r1), some (.ref r2), none] [] (K, P, I, J, F) Q := by
  refine Wp.go (x := (.aload_n 0, 1, 0, 0)) rfl 1 [some (.ref r0), some (.ref r1), some (.ref r2), none] [.ref r0] rfl ⟨rfl, rfl, rfl, rfl⟩ ?_
  refine Wp.go (x := (.aload_n 1, 1, 0, 0)) rfl 2 [some (.ref r0), some (.ref r1), some (.ref r2), none] [.ref r1, .ref r0] rfl ⟨rfl, rfl, rfl, rfl⟩ ?_
  refine Wp.go (x := (.aload_n 2, 1, 0, 0)) rfl 3 [some (.ref r0), some (.ref r1), some (.ref r2), none] [.ref r2, .ref r1, .ref r0] rfl ⟨rfl, rfl, rfl, rfl⟩ ?_
  refine Wp.kV (x := (.invokevirtual 111, 3, 22, 3)) (j := 22) (vs := [.ref r0, .ref r1, .ref r2]) (rest := []) rfl (by show xtg 22 (K r0).1 = _; rw [hn_r0]; rfl) rfl ⟨Nat.le_of_ble_eq_true rfl, Nat.le_of_ble_eq_true rfl, Nat.le_of_ble_eq_true rfl⟩ rfl rfl rfl H (fun I1 J2 H => ?_)
  refine Wp.ic (v := nI 0) rfl rfl (by decide) ?_
  refine Wp.go (x := (.istore_n 3, 1, 0, 0)) rfl 8 [some (.ref r0), some (.ref r1), some (.ref r2), some (.int (nI 0))] [] rfl ⟨rfl, rfl, rfl, rfl⟩ ?_
  exact Wp.wk (L := [some (.ref r0), none, none, some (.int (nI 0))]) ⟨Or.inr rfl, Or.inl rfl, Or.inl rfl, Or.inr rfl, trivial⟩ H
set_option maxRecDepth 20000 in
theorem wX1_fitTo_8 {d : Nat} {Q : Option Value × xS → Prop} {K : Nat → Nat × Nat} {P : List Nat × Nat × Nat} {I : Nat → Nat → Int32} {J : Nat → Nat → Int64} {F : Nat → Nat → Option Nat} {r0 : Nat} {x3 : Int32} {n_r0 : Nat} (hn_r0 : K r0 = (2, n_r0)) (H : (((I r0 0) ≤ x3 → Q (none, (K, P, I, J, F))) ∧ (¬ (I r0 0) ≤ x3 → Wp d 24 0 [some (.ref r0), some (.int x3), none, none, none, none] [] (K, P, I, J, F) (xrV K P F (fun I1 J2 => Wp (d + 1) 21 8 [some (.ref r0), none, none, some (.int (x3 + nI 1))] [] (K, P, I1, J2, F) Q))))) : Wp (d + 1) 21 8 [some (.ref r0), none, none, some (.int x3)] [] (K, P, I, J, F) Q := by
  refine Wp.go (x := (.iload_n 3, 1, 0, 0)) rfl 9 [some (.ref r0), none, none, some (.int x3)] [.int x3] rfl ⟨rfl, rfl, rfl, rfl⟩ ?_
  refine Wp.go (x := (.aload_n 0, 1, 0, 0)) rfl 10 [some (.ref r0), none, none, some (.int x3)] [.ref r0, .int x3] rfl ⟨rfl, rfl, rfl, rfl⟩ ?_
  refine Wp.gI rfl rfl hn_r0 rfl ⟨by decide, by decide⟩ ?_
  refine Wp.c_ge rfl rfl ⟨fun c => ?_, fun c => ?_⟩
  · have H := H.1 c
    exact Wp.rV rfl rfl H
  · have H := H.2 c
    refine Wp.go (x := (.aload_n 0, 1, 0, 0)) rfl 17 [some (.ref r0), none, none, some (.int x3)] [.ref r0] rfl ⟨rfl, rfl, rfl, rfl⟩ ?_
    refine Wp.go (x := (.iload_n 3, 1, 0, 0)) rfl 18 [some (.ref r0), none, none, some (.int x3)] [.int x3, .ref r0] rfl ⟨rfl, rfl, rfl, rfl⟩ ?_
    refine Wp.kV (x := (.invokevirtual 115, 3, 24, 2)) (j := 24) (vs := [.ref r0, .int x3]) (rest := []) rfl (by show xtg 24 (K r0).1 = _; rw [hn_r0]; rfl) rfl ⟨Nat.le_of_ble_eq_true rfl, Nat.le_of_ble_eq_true rfl, Nat.le_of_ble_eq_true rfl⟩ rfl rfl rfl H (fun I1 J2 H => ?_)
    refine Wp.ii (v := nI 1) rfl rfl (by decide) rfl (L' := [some (.ref r0), none, none, some (.int (x3 + nI 1))]) rfl ?_
    refine Wp.go (x := (.goto (-16), 3, 8, 0)) rfl 8 [some (.ref r0), none, none, some (.int (x3 + nI 1))] [] rfl ⟨rfl, rfl, rfl, rfl⟩ ?_
    exact H
set_option maxRecDepth 20000 in
theorem wX1_countSymbols_0 {d : Nat} {Q : Option Value × xS → Prop} {K : Nat → Nat × Nat} {P : List Nat × Nat × Nat} {I : Nat → Nat → Int32} {J : Nat → Nat → Int64} {F : Nat → Nat → Option Nat} {r0 : Nat} {r1 : Nat} {r2 : Nat} {n_r0 : Nat} {f1 : Nat} (hn_r0 : K r0 = (2, n_r0)) (hf1 : F r0 2 = some f1) (H : Wp d 166 0 [some (.ref f1), some (.int (nI 0)), none, none] [] (K, P, I, J, F) (xrV K P F (fun I2 J3 => Wp (d + 1) 22 10 [some (.ref r0), some (.ref r1), some (.ref r2), some (.int (nI 0)), none] [] (K, P, I2, J3, F) Q))) : Wp (d + 1) 22 0 [some (.ref r0), some (.ref r1), some (.ref r2), none, none] [] (K, P, I, J, F) Q := by
  refine Wp.go (x := (.aload_n 0, 1, 0, 0)) rfl 1 [some (.ref r0), some (.ref r1), some (.ref r2), none, none] [.ref r0] rfl ⟨rfl, rfl, rfl, rfl⟩ ?_
  refine Wp.gR rfl rfl hn_r0 rfl rfl hf1 ?_
  refine Wp.ic (v := nI 0) rfl rfl (by decide) ?_
  refine Wp.kV (x := (.invokestatic 119, 3, 166, 2)) (j := 166) (vs := [.ref f1, .int (nI 0)]) (rest := []) rfl rfl rfl ⟨Nat.le_of_ble_eq_true rfl, Nat.le_of_ble_eq_true rfl, Nat.le_of_ble_eq_true rfl⟩ rfl rfl rfl H (fun I2 J3 H => ?_)
  refine Wp.ic (v := nI 0) rfl rfl (by decide) ?_
  refine Wp.go (x := (.istore_n 3, 1, 0, 0)) rfl 10 [some (.ref r0), some (.ref r1), some (.ref r2), some (.int (nI 0)), none] [] rfl ⟨rfl, rfl, rfl, rfl⟩ ?_
  exact H
set_option maxRecDepth 20000 in
theorem wX1_countSymbols_10 {d : Nat} {Q : Option Value × xS → Prop} {K : Nat → Nat × Nat} {P : List Nat × Nat × Nat} {I : Nat → Nat → Int32} {J : Nat → Nat → Int64} {F : Nat → Nat → Option Nat} {r0 : Nat} {r1 : Nat} {r2 : Nat} {x3 : Int32} {n_r1 : Nat} {f1 : Nat} {n_f1 : Nat} {n_r0 : Nat} {f5 : Nat} {n_f5 : Nat} {n_r2 : Nat} {f12 : Nat} {f13 : Nat} {n_f13 : Nat} {n_f12 : Nat} (hK : ∀ {a k n : Nat}, K a = (k, n) → n < 2147483648) (hn_r1 : K r1 = (5, n_r1)) (hf1 : F r1 3 = some f1) (hn_f1 : K f1 = (100, n_f1)) (hn_r0 : K r0 = (2, n_r0)) (hf5 : F r1 1 = some f5) (hn_f5 : K f5 = (100, n_f5)) (hn_r2 : K r2 = (8, n_r2)) (hf12 : F r2 2 = some f12) (hf13 : F r1 0 = some f13) (hn_f13 : K f13 = (100, n_f13)) (hn_f12 : K f12 = (100, n_f12)) (H : (((I r1 5) ≤ x3 → Q (none, (K, P, I, J, F))) ∧ (¬ (I r1 5) ≤ x3 → (∃ j2 : Nat, x3 = nI j2 ∧ j2 < n_f1 ∧ Wp d 23 0 [some (.ref r0), some (.int (nI 3)), some (.int (I f1 j2))] [] (K, P, I, J, F) (xrV K P F (fun I3 J4 => ((¬ (I f1 j2) = 0 → (((I f1 j2) = (nI 6) → Wp (d + 1) 22 83 [some (.ref r0), some (.ref r1), some (.ref r2), some (.int x3), some (.int (I f1 j2))] [] (K, P, I3, J4, F) Q) ∧ (¬ (I f1 j2) = (nI 6) → (∃ j6 : Nat, x3 = nI j6 ∧ j6 < n_f5 ∧ Wp d 19 0 [some (.int ((I3 f5 j6) - (I3 r2 0))), none] [] (K, P, I3, J4, F) (xrI K P F (fun v7 I8 J9 => Wp d 23 0 [some (.ref r0), some (.int (nI 1)), some (.int v7)] [] (K, P, I8, J9, F) (xrV K P F (fun I10 J11 => Wp (d + 1) 22 83 [some (.ref r0), some (.ref r1), some (.ref r2), some (.int x3), some (.int (I f1 j2))] [] (K, P, I10, J11, F) Q)))))))) ∧ ((I f1 j2) = 0 → (∃ j14 : Nat, x3 = nI j14 ∧ j14 < n_f13 ∧ (∃ j15 : Nat, (I3 f13 j14) = nI j15 ∧ j15 < n_f12 ∧ Wp d 23 0 [some (.ref r0), some (.int (nI 0)), some (.int (I3 f12 j15))] [] (K, P, I3, J4, F) (xrV K P F (fun I16 J17 => Wp (d + 1) 22 83 [some (.ref r0), some (.ref r1), some (.ref r2), some (.int x3), some (.int (I f1 j2))] [] (K, P, I16, J17, F) Q)))))))))))) : Wp (d + 1) 22 10 [some (.ref r0), some (.ref r1), some (.ref r2), some (.int x3), none] [] (K, P, I, J, F) Q := by
  refine Wp.go (x := (.iload_n 3, 1, 0, 0)) rfl 11 [some (.ref r0), some (.ref r1), some (.ref r2), some (.int x3), none] [.int x3] rfl ⟨rfl, rfl, rfl, rfl⟩ ?_
  refine Wp.go (x := (.aload_n 1, 1, 0, 0)) rfl 12 [some (.ref r0), some (.ref r1), some (.ref r2), some (.int x3), none] [.ref r1, .int x3] rfl ⟨rfl, rfl, rfl, rfl⟩ ?_
  refine Wp.gI rfl rfl hn_r1 rfl ⟨by decide, by decide⟩ ?_
  refine Wp.c_ge rfl rfl ⟨fun c => ?_, fun c => ?_⟩
  · have H := H.1 c
    exact Wp.rV rfl rfl H
  · have H := H.2 c
    refine Wp.go (x := (.aload_n 1, 1, 0, 0)) rfl 19 [some (.ref r0), some (.ref r1), some (.ref r2), some (.int x3), none] [.ref r1] rfl ⟨rfl, rfl, rfl, rfl⟩ ?_
    refine Wp.gR rfl rfl hn_r1 rfl rfl hf1 ?_
    refine Wp.go (x := (.iload_n 3, 1, 0, 0)) rfl 23 [some (.ref r0), some (.ref r1), some (.ref r2), some (.int x3), none] [.int x3, .ref f1] rfl ⟨rfl, rfl, rfl, rfl⟩ ?_
    obtain ⟨j2, e, b, H⟩ := H
    refine Wp.ald rfl rfl hn_f1 (Or.inl rfl) (hK hn_f1) ⟨j2, e, b, ?_⟩
    refine Wp.go (x := (.istore 4, 2, 0, 0)) rfl 26 [some (.ref r0), some (.ref r1), some (.ref r2), some (.int x3), some (.int (I f1 j2))] [] rfl ⟨rfl, rfl, rfl, rfl⟩ ?_
    refine Wp.go (x := (.aload_n 0, 1, 0, 0)) rfl 27 [some (.ref r0), some (.ref r1), some (.ref r2), some (.int x3), some (.int (I f1 j2))] [.ref r0] rfl ⟨rfl, rfl, rfl, rfl⟩ ?_
    refine Wp.ic (v := nI 3) rfl rfl (by decide) ?_
    refine Wp.go (x := (.iload 4, 2, 0, 0)) rfl 30 [some (.ref r0), some (.ref r1), some (.ref r2), some (.int x3), some (.int (I f1 j2))] [.int (I f1 j2), .int (nI 3), .ref r0] rfl ⟨rfl, rfl, rfl, rfl⟩ ?_
    refine Wp.kV (x := (.invokevirtual 125, 3, 23, 3)) (j := 23) (vs := [.ref r0, .int (nI 3), .int (I f1 j2)]) (rest := []) rfl (by show xtg 23 (K r0).1 = _; rw [hn_r0]; rfl) rfl ⟨Nat.le_of_ble_eq_true rfl, Nat.le_of_ble_eq_true rfl, Nat.le_of_ble_eq_true rfl⟩ rfl rfl rfl H (fun I3 J4 H => ?_)
    refine Wp.go (x := (.iload 4, 2, 0, 0)) rfl 35 [some (.ref r0), some (.ref r1), some (.ref r2), some (.int x3), some (.int (I f1 j2))] [.int (I f1 j2)] rfl ⟨rfl, rfl, rfl, rfl⟩ ?_
    refine Wp.z_ne rfl rfl ⟨fun c => ?_, fun c => ?_⟩
    · have H := H.1 c
      refine Wp.go (x := (.iload 4, 2, 0, 0)) rfl 59 [some (.ref r0), some (.ref r1), some (.ref r2), some (.int x3), some (.int (I f1 j2))] [.int (I f1 j2)] rfl ⟨rfl, rfl, rfl, rfl⟩ ?_
      refine Wp.bp (v := nI 6) rfl rfl (by decide) ?_
      refine Wp.c_eq rfl rfl ⟨fun c => ?_, fun c => ?_⟩
      · have H := H.1 c
        exact H
      · have H := H.2 c
        refine Wp.go (x := (.aload_n 0, 1, 0, 0)) rfl 65 [some (.ref r0), some (.ref r1), some (.ref r2), some (.int x3), some (.int (I f1 j2))] [.ref r0] rfl ⟨rfl, rfl, rfl, rfl⟩ ?_
        refine Wp.ic (v := nI 1) rfl rfl (by decide) ?_
        refine Wp.go (x := (.aload_n 1, 1, 0, 0)) rfl 67 [some (.ref r0), some (.ref r1), some (.ref r2), some (.int x3), some (.int (I f1 j2))] [.ref r1, .int (nI 1), .ref r0] rfl ⟨rfl, rfl, rfl, rfl⟩ ?_
        refine Wp.gR rfl rfl hn_r1 rfl rfl hf5 ?_
        refine Wp.go (x := (.iload_n 3, 1, 0, 0)) rfl 71 [some (.ref r0), some (.ref r1), some (.ref r2), some (.int x3), some (.int (I f1 j2))] [.int x3, .ref f5, .int (nI 1), .ref r0] rfl ⟨rfl, rfl, rfl, rfl⟩ ?_
        obtain ⟨j6, e, b, H⟩ := H
        refine Wp.ald rfl rfl hn_f5 (Or.inl rfl) (hK hn_f5) ⟨j6, e, b, ?_⟩
        refine Wp.go (x := (.aload_n 2, 1, 0, 0)) rfl 73 [some (.ref r0), some (.ref r1), some (.ref r2), some (.int x3), some (.int (I f1 j2))] [.ref r2, .int (I3 f5 j6), .int (nI 1), .ref r0] rfl ⟨rfl, rfl, rfl, rfl⟩ ?_
        refine Wp.gI rfl rfl hn_r2 rfl ⟨by decide, by decide⟩ ?_
        refine Wp.go (x := (.isub, 1, 0, 0)) rfl 77 [some (.ref r0), some (.ref r1), some (.ref r2), some (.int x3), some (.int (I f1 j2))] [.int ((I3 f5 j6) - (I3 r2 0)), .int (nI 1), .ref r0] rfl ⟨rfl, rfl, rfl, rfl⟩ ?_
        refine Wp.kI (x := (.invokestatic 102, 3, 19, 1)) (j := 19) (vs := [.int ((I3 f5 j6) - (I3 r2 0))]) (rest := [.int (nI 1), .ref r0]) rfl rfl rfl ⟨Nat.le_of_ble_eq_true rfl, Nat.le_of_ble_eq_true rfl, Nat.le_of_ble_eq_true rfl⟩ rfl rfl rfl H (fun v7 I8 J9 H => ?_)
        refine Wp.kV (x := (.invokevirtual 125, 3, 23, 3)) (j := 23) (vs := [.ref r0, .int (nI 1), .int v7]) (rest := []) rfl (by show xtg 23 (K r0).1 = _; rw [hn_r0]; rfl) rfl ⟨Nat.le_of_ble_eq_true rfl, Nat.le_of_ble_eq_true rfl, Nat.le_of_ble_eq_true rfl⟩ rfl rfl rfl H (fun I10 J11 H => ?_)
        exact H
    · have H := H.2 c
      refine Wp.go (x := (.aload_n 0, 1, 0, 0)) rfl 39 [some (.ref r0), some (.ref r1), some (.ref r2), some (.int x3), some (.int (I f1 j2))] [.ref r0] rfl ⟨rfl, rfl, rfl, rfl⟩ ?_
      refine Wp.ic (v := nI 0) rfl rfl (by decide) ?_
      refine Wp.go (x := (.aload_n 2, 1, 0, 0)) rfl 41 [some (.ref r0), some (.ref r1), some (.ref r2), some (.int x3), some (.int (I f1 j2))] [.ref r2, .int (nI 0), .ref r0] rfl ⟨rfl, rfl, rfl, rfl⟩ ?_
      refine Wp.gR rfl rfl hn_r2 rfl rfl hf12 ?_
      refine Wp.go (x := (.aload_n 1, 1, 0, 0)) rfl 45 [some (.ref r0), some (.ref r1), some (.ref r2), some (.int x3), some (.int (I f1 j2))] [.ref r1, .ref f12, .int (nI 0), .ref r0] rfl ⟨rfl, rfl, rfl, rfl⟩ ?_
      refine Wp.gR rfl rfl hn_r1 rfl rfl hf13 ?_
      refine Wp.go (x := (.iload_n 3, 1, 0, 0)) rfl 49 [some (.ref r0), some (.ref r1), some (.ref r2), some (.int x3), some (.int (I f1 j2))] [.int x3, .ref f13, .ref f12, .int (nI 0), .ref r0] rfl ⟨rfl, rfl, rfl, rfl⟩ ?_
      obtain ⟨j14, e, b, H⟩ := H
      refine Wp.ald rfl rfl hn_f13 (Or.inl rfl) (hK hn_f13) ⟨j14, e, b, ?_⟩
      obtain ⟨j15, e, b, H⟩ := H
      refine Wp.ald rfl rfl hn_f12 (Or.inl rfl) (hK hn_f12) ⟨j15, e, b, ?_⟩
      refine Wp.kV (x := (.invokevirtual 125, 3, 23, 3)) (j := 23) (vs := [.ref r0, .int (nI 0), .int (I3 f12 j15)]) (rest := []) rfl (by show xtg 23 (K r0).1 = _; rw [hn_r0]; rfl) rfl ⟨Nat.le_of_ble_eq_true rfl, Nat.le_of_ble_eq_true rfl, Nat.le_of_ble_eq_true rfl⟩ rfl rfl rfl H (fun I16 J17 H => ?_)
      refine Wp.go (x := (.goto 29, 3, 83, 0)) rfl 83 [some (.ref r0), some (.ref r1), some (.ref r2), some (.int x3), some (.int (I f1 j2))] [] rfl ⟨rfl, rfl, rfl, rfl⟩ ?_
      exact H
set_option maxRecDepth 20000 in
theorem wX1_countSymbols_83 {d : Nat} {Q : Option Value × xS → Prop} {K : Nat → Nat × Nat} {P : List Nat × Nat × Nat} {I : Nat → Nat → Int32} {J : Nat → Nat → Int64} {F : Nat → Nat → Option Nat} {r0 : Nat} {r1 : Nat} {r2 : Nat} {x3 : Int32} {x4 : Int32} {n_r1 : Nat} {f1 : Nat} {n_f1 : Nat} {n_r0 : Nat} (hK : ∀ {a k n : Nat}, K a = (k, n) → n < 2147483648) (hn_r1 : K r1 = (5, n_r1)) (hf1 : F r1 2 = some f1) (hn_f1 : K f1 = (100, n_f1)) (hn_r0 : K r0 = (2, n_r0)) (H : ((¬ x4 = (nI 1) → Wp (d + 1) 22 10 [some (.ref r0), some (.ref r1), some (.ref r2), some (.int (x3 + nI 1)), none] [] (K, P, I, J, F) Q) ∧ (x4 = (nI 1) → (∃ j2 : Nat, x3 = nI j2 ∧ j2 < n_f1 ∧ Wp d 20 0 [some (.int ((I f1 j2) - (nI 1))), none] [] (K, P, I, J, F) (xrI K P F (fun v3 I4 J5 => Wp d 23 0 [some (.ref r0), some (.int (nI 2)), some (.int v3)] [] (K, P, I4, J5, F) (xrV K P F (fun I6 J7 => Wp (d + 1) 22 10 [some (.ref r0), some (.ref r1), some (.ref r2), some (.int (x3 + nI 1)), none] [] (K, P, I6, J7, F) Q)))))))) : Wp (d + 1) 22 83 [some (.ref r0), some (.ref r1), some (.ref r2), some (.int x3), some (.int x4)] [] (K, P, I, J, F) Q := by
  refine Wp.go (x := (.iload 4, 2, 0, 0)) rfl 85 [some (.ref r0), some (.ref r1), some (.ref r2), some (.int x3), some (.int x4)] [.int x4] rfl ⟨rfl, rfl, rfl, rfl⟩ ?_
  refine Wp.ic (v := nI 1) rfl rfl (by decide) ?_
  refine Wp.c_ne rfl rfl ⟨fun c => ?_, fun c => ?_⟩
  · have H := H.1 c
    refine Wp.ii (v := nI 1) rfl rfl (by decide) rfl (L' := [some (.ref r0), some (.ref r1), some (.ref r2), some (.int (x3 + nI 1)), some (.int x4)]) rfl ?_
    refine Wp.go (x := (.goto (-98), 3, 10, 0)) rfl 10 [some (.ref r0), some (.ref r1), some (.ref r2), some (.int (x3 + nI 1)), some (.int x4)] [] rfl ⟨rfl, rfl, rfl, rfl⟩ ?_
    exact Wp.wk (L := [some (.ref r0), some (.ref r1), some (.ref r2), some (.int (x3 + nI 1)), none]) ⟨Or.inr rfl, Or.inr rfl, Or.inr rfl, Or.inr rfl, Or.inl rfl, trivial⟩ H
  · have H := H.2 c
    refine Wp.go (x := (.aload_n 0, 1, 0, 0)) rfl 90 [some (.ref r0), some (.ref r1), some (.ref r2), some (.int x3), some (.int x4)] [.ref r0] rfl ⟨rfl, rfl, rfl, rfl⟩ ?_
    refine Wp.ic (v := nI 2) rfl rfl (by decide) ?_
    refine Wp.go (x := (.aload_n 1, 1, 0, 0)) rfl 92 [some (.ref r0), some (.ref r1), some (.ref r2), some (.int x3), some (.int x4)] [.ref r1, .int (nI 2), .ref r0] rfl ⟨rfl, rfl, rfl, rfl⟩ ?_
    refine Wp.gR rfl rfl hn_r1 rfl rfl hf1 ?_
    refine Wp.go (x := (.iload_n 3, 1, 0, 0)) rfl 96 [some (.ref r0), some (.ref r1), some (.ref r2), some (.int x3), some (.int x4)] [.int x3, .ref f1, .int (nI 2), .ref r0] rfl ⟨rfl, rfl, rfl, rfl⟩ ?_
    obtain ⟨j2, e, b, H⟩ := H
    refine Wp.ald rfl rfl hn_f1 (Or.inl rfl) (hK hn_f1) ⟨j2, e, b, ?_⟩
    refine Wp.ic (v := nI 1) rfl rfl (by decide) ?_
    refine Wp.go (x := (.isub, 1, 0, 0)) rfl 99 [some (.ref r0), some (.ref r1), some (.ref r2), some (.int x3), some (.int x4)] [.int ((I f1 j2) - (nI 1)), .int (nI 2), .ref r0] rfl ⟨rfl, rfl, rfl, rfl⟩ ?_
    refine Wp.kI (x := (.invokestatic 108, 3, 20, 1)) (j := 20) (vs := [.int ((I f1 j2) - (nI 1))]) (rest := [.int (nI 2), .ref r0]) rfl rfl rfl ⟨Nat.le_of_ble_eq_true rfl, Nat.le_of_ble_eq_true rfl, Nat.le_of_ble_eq_true rfl⟩ rfl rfl rfl H (fun v3 I4 J5 H => ?_)
    refine Wp.kV (x := (.invokevirtual 125, 3, 23, 3)) (j := 23) (vs := [.ref r0, .int (nI 2), .int v3]) (rest := []) rfl (by show xtg 23 (K r0).1 = _; rw [hn_r0]; rfl) rfl ⟨Nat.le_of_ble_eq_true rfl, Nat.le_of_ble_eq_true rfl, Nat.le_of_ble_eq_true rfl⟩ rfl rfl rfl H (fun I6 J7 H => ?_)
    refine Wp.ii (v := nI 1) rfl rfl (by decide) rfl (L' := [some (.ref r0), some (.ref r1), some (.ref r2), some (.int (x3 + nI 1)), some (.int x4)]) rfl ?_
    refine Wp.go (x := (.goto (-98), 3, 10, 0)) rfl 10 [some (.ref r0), some (.ref r1), some (.ref r2), some (.int (x3 + nI 1)), some (.int x4)] [] rfl ⟨rfl, rfl, rfl, rfl⟩ ?_
    exact Wp.wk (L := [some (.ref r0), some (.ref r1), some (.ref r2), some (.int (x3 + nI 1)), none]) ⟨Or.inr rfl, Or.inr rfl, Or.inr rfl, Or.inr rfl, Or.inl rfl, trivial⟩ H
set_option maxRecDepth 20000 in
theorem wX1_countOne_0 {d : Nat} {Q : Option Value × xS → Prop} {K : Nat → Nat × Nat} {P : List Nat × Nat × Nat} {I : Nat → Nat → Int32} {J : Nat → Nat → Int64} {F : Nat → Nat → Option Nat} {r0 : Nat} {x1 : Int32} {x2 : Int32} {n_r0 : Nat} {f4 : Nat} {n_c2 : Nat} {n_f4 : Nat} (hK : ∀ {a k n : Nat}, K a = (k, n) → n < 2147483648) (hn_r0 : K r0 = (2, n_r0)) (hf4 : F r0 2 = some f4) (hn_c2 : K 2 = (103, n_c2)) (hn_f4 : K f4 = (100, n_f4)) (H : Wp d 9 0 [some (.ref r0), some (.int x1), some (.int x2)] [] (K, P, I, J, F) (xrI K P F (fun v1 I2 J3 => ((v1 = 0 → Q (none, (K, P, I2, J3, F))) ∧ (¬ v1 = 0 → (∃ j5 : Nat, x1 = nI j5 ∧ j5 < n_c2 ∧ (∃ j6 : Nat, ((I2 2 j5) + x2) = nI j6 ∧ j6 < n_f4 ∧ (∃ j7 : Nat, ((I2 2 j5) + x2) = nI j7 ∧ j7 < n_f4 ∧ Q (none, (K, P, (xup I2 f4 j7 ((I2 f4 j6) + (nI 1))), J3, F)))))))))) : Wp (d + 1) 23 0 [some (.ref r0), some (.int x1), some (.int x2)] [] (K, P, I, J, F) Q := by
  refine Wp.go (x := (.aload_n 0, 1, 0, 0)) rfl 1 [some (.ref r0), some (.int x1), some (.int x2)] [.ref r0] rfl ⟨rfl, rfl, rfl, rfl⟩ ?_
  refine Wp.go (x := (.iload_n 1, 1, 0, 0)) rfl 2 [some (.ref r0), some (.int x1), some (.int x2)] [.int x1, .ref r0] rfl ⟨rfl, rfl, rfl, rfl⟩ ?_
  refine Wp.go (x := (.iload_n 2, 1, 0, 0)) rfl 3 [some (.ref r0), some (.int x1), some (.int x2)] [.int x2, .int x1, .ref r0] rfl ⟨rfl, rfl, rfl, rfl⟩ ?_
  refine Wp.kI (x := (.invokevirtual 46, 3, 9, 3)) (j := 9) (vs := [.ref r0, .int x1, .int x2]) (rest := []) rfl (by show xtg 9 (K r0).1 = _; rw [hn_r0]; rfl) rfl ⟨Nat.le_of_ble_eq_true rfl, Nat.le_of_ble_eq_true rfl, Nat.le_of_ble_eq_true rfl⟩ rfl rfl rfl H (fun v1 I2 J3 H => ?_)
  refine Wp.z_eq rfl rfl ⟨fun c => ?_, fun c => ?_⟩
  · have H := H.1 c
    exact Wp.rV rfl rfl H
  · have H := H.2 c
    refine Wp.go (x := (.aload_n 0, 1, 0, 0)) rfl 10 [some (.ref r0), some (.int x1), some (.int x2)] [.ref r0] rfl ⟨rfl, rfl, rfl, rfl⟩ ?_
    refine Wp.gR rfl rfl hn_r0 rfl rfl hf4 ?_
    refine Wp.gst rfl rfl ?_
    refine Wp.go (x := (.iload_n 1, 1, 0, 0)) rfl 17 [some (.ref r0), some (.int x1), some (.int x2)] [.int x1, .ref 2, .ref f4] rfl ⟨rfl, rfl, rfl, rfl⟩ ?_
    obtain ⟨j5, e, b, H⟩ := H
    refine Wp.ald rfl rfl hn_c2 (Or.inr rfl) (hK hn_c2) ⟨j5, e, b, ?_⟩
    refine Wp.go (x := (.iload_n 2, 1, 0, 0)) rfl 19 [some (.ref r0), some (.int x1), some (.int x2)] [.int x2, .int (I2 2 j5), .ref f4] rfl ⟨rfl, rfl, rfl, rfl⟩ ?_
    refine Wp.go (x := (.iadd, 1, 0, 0)) rfl 20 [some (.ref r0), some (.int x1), some (.int x2)] [.int ((I2 2 j5) + x2), .ref f4] rfl ⟨rfl, rfl, rfl, rfl⟩ ?_
    refine Wp.go (x := (.dup2, 1, 0, 0)) rfl 21 [some (.ref r0), some (.int x1), some (.int x2)] [.int ((I2 2 j5) + x2), .ref f4, .int ((I2 2 j5) + x2), .ref f4] rfl ⟨rfl, rfl, rfl, rfl⟩ ?_
    obtain ⟨j6, e, b, H⟩ := H
    refine Wp.ald rfl rfl hn_f4 (Or.inl rfl) (hK hn_f4) ⟨j6, e, b, ?_⟩
    refine Wp.ic (v := nI 1) rfl rfl (by decide) ?_
    refine Wp.go (x := (.iadd, 1, 0, 0)) rfl 24 [some (.ref r0), some (.int x1), some (.int x2)] [.int ((I2 f4 j6) + (nI 1)), .int ((I2 2 j5) + x2), .ref f4] rfl ⟨rfl, rfl, rfl, rfl⟩ ?_
    obtain ⟨j7, e, b, H⟩ := H
    refine Wp.ast rfl rfl hn_f4 (hK hn_f4) ⟨j7, e, b, ?_⟩
    exact Wp.rV rfl rfl H
set_option maxRecDepth 20000 in
theorem wX1_fitClass_0 {d : Nat} {Q : Option Value × xS → Prop} {K : Nat → Nat × Nat} {P : List Nat × Nat × Nat} {I : Nat → Nat → Int32} {J : Nat → Nat → Int64} {F : Nat → Nat → Option Nat} {r0 : Nat} {x1 : Int32} {n_c2 : Nat} {n_c1 : Nat} (hK : ∀ {a k n : Nat}, K a = (k, n) → n < 2147483648) (hn_c2 : K 2 = (103, n_c2)) (hn_c1 : K 1 = (103, n_c1)) (H : (∃ j1 : Nat, x1 = nI j1 ∧ j1 < n_c2 ∧ (∃ j2 : Nat, x1 = nI j2 ∧ j2 < n_c1 ∧ (∃ j3 : Nat, x1 = nI j3 ∧ j3 < n_c2 ∧ Wp d 24 21 [some (.ref r0), some (.int x1), some (.int ((I 2 j1) + (I 1 j2))), some (.int (nI 0)), some (.int (I 2 j3)), none] [] (K, P, I, J, F) Q)))) : Wp d 24 0 [some (.ref r0), some (.int x1), none, none, none, none] [] (K, P, I, J, F) Q := by
  refine Wp.gst rfl rfl ?_
  refine Wp.go (x := (.iload_n 1, 1, 0, 0)) rfl 4 [some (.ref r0), some (.int x1), none, none, none, none] [.int x1, .ref 2] rfl ⟨rfl, rfl, rfl, rfl⟩ ?_
  obtain ⟨j1, e, b, H⟩ := H
  refine Wp.ald rfl rfl hn_c2 (Or.inr rfl) (hK hn_c2) ⟨j1, e, b, ?_⟩
  refine Wp.gst rfl rfl ?_
  refine Wp.go (x := (.iload_n 1, 1, 0, 0)) rfl 9 [some (.ref r0), some (.int x1), none, none, none, none] [.int x1, .ref 1, .int (I 2 j1)] rfl ⟨rfl, rfl, rfl, rfl⟩ ?_
  obtain ⟨j2, e, b, H⟩ := H
  refine Wp.ald rfl rfl hn_c1 (Or.inr rfl) (hK hn_c1) ⟨j2, e, b, ?_⟩
  refine Wp.go (x := (.iadd, 1, 0, 0)) rfl 11 [some (.ref r0), some (.int x1), none, none, none, none] [.int ((I 2 j1) + (I 1 j2))] rfl ⟨rfl, rfl, rfl, rfl⟩ ?_
  refine Wp.go (x := (.istore_n 2, 1, 0, 0)) rfl 12 [some (.ref r0), some (.int x1), some (.int ((I 2 j1) + (I 1 j2))), none, none, none] [] rfl ⟨rfl, rfl, rfl, rfl⟩ ?_
  refine Wp.ic (v := nI 0) rfl rfl (by decide) ?_
  refine Wp.go (x := (.istore_n 3, 1, 0, 0)) rfl 14 [some (.ref r0), some (.int x1), some (.int ((I 2 j1) + (I 1 j2))), some (.int (nI 0)), none, none] [] rfl ⟨rfl, rfl, rfl, rfl⟩ ?_
  refine Wp.gst rfl rfl ?_
  refine Wp.go (x := (.iload_n 1, 1, 0, 0)) rfl 18 [some (.ref r0), some (.int x1), some (.int ((I 2 j1) + (I 1 j2))), some (.int (nI 0)), none, none] [.int x1, .ref 2] rfl ⟨rfl, rfl, rfl, rfl⟩ ?_
  obtain ⟨j3, e, b, H⟩ := H
  refine Wp.ald rfl rfl hn_c2 (Or.inr rfl) (hK hn_c2) ⟨j3, e, b, ?_⟩
  refine Wp.go (x := (.istore 4, 2, 0, 0)) rfl 21 [some (.ref r0), some (.int x1), some (.int ((I 2 j1) + (I 1 j2))), some (.int (nI 0)), some (.int (I 2 j3)), none] [] rfl ⟨rfl, rfl, rfl, rfl⟩ ?_
  exact H
