set_option maxRecDepth 20000 in
theorem wX11_told_0 {d : Nat} {Q : Option Value × xS → Prop} {K : Nat → Nat × Nat} {P : List Nat × Nat × Nat} {I : Nat → Nat → Int32} {J : Nat → Nat → Int64} {F : Nat → Nat → Option Nat} {r0 : Nat} {x1 : Int32} {n_r0 : Nat} (hn_r0 : K r0 = (10, n_r0)) (H : (((((xup I r0 0 (nI 0))) r0 10) = 0 → Q (some (.int ((-1))), (K, P, (xup I r0 0 (nI 0)), J, F))) ∧ (¬ (((xup I r0 0 (nI 0))) r0 10) = 0 → ((x1 < 0 → Q (some (.int ((-1))), (K, P, (xup I r0 0 (nI 0)), J, F))) ∧ (¬ x1 < 0 → ((x1 < (((xup I r0 0 (nI 0))) r0 3) → Wp d 150 28 [some (.ref r0), some (.int x1), some (.int (nI 0)), none, none] [] (K, P, (xup I r0 0 (nI 0)), J, F) Q) ∧ (¬ x1 < (((xup I r0 0 (nI 0))) r0 3) → Q (some (.int ((-1))), (K, P, (xup I r0 0 (nI 0)), J, F))))))))) : Wp d 150 0 [some (.ref r0), some (.int x1), none, none, none] [] (K, P, I, J, F) Q := by
  refine Wp.go (x := (.aload_n 0, 1, 0, 0)) rfl 1 [some (.ref r0), some (.int x1), none, none, none] [.ref r0] rfl ⟨rfl, rfl, rfl, rfl⟩ ?_
  refine Wp.ic (v := nI 0) rfl rfl (by decide) ?_
  refine Wp.pI rfl rfl hn_r0 rfl (Or.inl rfl) ?_
  refine Wp.go (x := (.aload_n 0, 1, 0, 0)) rfl 6 [some (.ref r0), some (.int x1), none, none, none] [.ref r0] rfl ⟨rfl, rfl, rfl, rfl⟩ ?_
  refine Wp.gI rfl rfl hn_r0 rfl ⟨by decide, by decide⟩ ?_
  refine Wp.z_eq rfl rfl ⟨fun c => ?_, fun c => ?_⟩
  · have H := H.1 c
    refine Wp.ic (v := (-1)) rfl rfl (by decide) ?_
    exact Wp.rI rfl rfl H
  · have H := H.2 c
    refine Wp.go (x := (.iload_n 1, 1, 0, 0)) rfl 13 [some (.ref r0), some (.int x1), none, none, none] [.int x1] rfl ⟨rfl, rfl, rfl, rfl⟩ ?_
    refine Wp.z_lt rfl rfl ⟨fun c => ?_, fun c => ?_⟩
    · have H := H.1 c
      refine Wp.ic (v := (-1)) rfl rfl (by decide) ?_
      exact Wp.rI rfl rfl H
    · have H := H.2 c
      refine Wp.go (x := (.iload_n 1, 1, 0, 0)) rfl 17 [some (.ref r0), some (.int x1), none, none, none] [.int x1] rfl ⟨rfl, rfl, rfl, rfl⟩ ?_
      refine Wp.go (x := (.aload_n 0, 1, 0, 0)) rfl 18 [some (.ref r0), some (.int x1), none, none, none] [.ref r0, .int x1] rfl ⟨rfl, rfl, rfl, rfl⟩ ?_
      refine Wp.gI rfl rfl hn_r0 rfl ⟨by decide, by decide⟩ ?_
      refine Wp.c_lt rfl rfl ⟨fun c => ?_, fun c => ?_⟩
      · have H := H.1 c
        refine Wp.ic (v := nI 0) rfl rfl (by decide) ?_
        refine Wp.go (x := (.istore_n 2, 1, 0, 0)) rfl 28 [some (.ref r0), some (.int x1), some (.int (nI 0)), none, none] [] rfl ⟨rfl, rfl, rfl, rfl⟩ ?_
        exact H
      · have H := H.2 c
        refine Wp.ic (v := (-1)) rfl rfl (by decide) ?_
        exact Wp.rI rfl rfl H
set_option maxRecDepth 20000 in
theorem wX11_told_28 {d : Nat} {Q : Option Value × xS → Prop} {K : Nat → Nat × Nat} {P : List Nat × Nat × Nat} {I : Nat → Nat → Int32} {J : Nat → Nat → Int64} {F : Nat → Nat → Option Nat} {r0 : Nat} {x1 : Int32} {x2 : Int32} {n_r0 : Nat} {f1 : Nat} {n_f1 : Nat} (hK : ∀ {a k n : Nat}, K a = (k, n) → n < 2147483648) (hn_r0 : K r0 = (10, n_r0)) (hf1 : F r0 45 = some f1) (hn_f1 : K f1 = (100, n_f1)) (H : (((I r0 11) ≤ x2 → (∃ j2 : Nat, x1 = nI j2 ∧ j2 < n_f1 ∧ Q (some (.int (I f1 j2)), (K, P, I, J, F)))) ∧ (¬ (I r0 11) ≤ x2 → Wp d 150 38 [some (.ref r0), some (.int x1), some (.int x2), some (.int (nI 0)), none] [] (K, P, I, J, F) Q))) : Wp d 150 28 [some (.ref r0), some (.int x1), some (.int x2), none, none] [] (K, P, I, J, F) Q := by
  refine Wp.go (x := (.iload_n 2, 1, 0, 0)) rfl 29 [some (.ref r0), some (.int x1), some (.int x2), none, none] [.int x2] rfl ⟨rfl, rfl, rfl, rfl⟩ ?_
  refine Wp.go (x := (.aload_n 0, 1, 0, 0)) rfl 30 [some (.ref r0), some (.int x1), some (.int x2), none, none] [.ref r0, .int x2] rfl ⟨rfl, rfl, rfl, rfl⟩ ?_
  refine Wp.gI rfl rfl hn_r0 rfl ⟨by decide, by decide⟩ ?_
  refine Wp.c_ge rfl rfl ⟨fun c => ?_, fun c => ?_⟩
  · have H := H.1 c
    refine Wp.go (x := (.aload_n 0, 1, 0, 0)) rfl 111 [some (.ref r0), some (.int x1), some (.int x2), none, none] [.ref r0] rfl ⟨rfl, rfl, rfl, rfl⟩ ?_
    refine Wp.gR rfl rfl hn_r0 rfl rfl hf1 ?_
    refine Wp.go (x := (.iload_n 1, 1, 0, 0)) rfl 115 [some (.ref r0), some (.int x1), some (.int x2), none, none] [.int x1, .ref f1] rfl ⟨rfl, rfl, rfl, rfl⟩ ?_
    obtain ⟨j2, e, b, H⟩ := H
    refine Wp.ald rfl rfl hn_f1 (Or.inl rfl) (hK hn_f1) ⟨j2, e, b, ?_⟩
    exact Wp.rI rfl rfl H
  · have H := H.2 c
    refine Wp.ic (v := nI 0) rfl rfl (by decide) ?_
    refine Wp.go (x := (.istore_n 3, 1, 0, 0)) rfl 38 [some (.ref r0), some (.int x1), some (.int x2), some (.int (nI 0)), none] [] rfl ⟨rfl, rfl, rfl, rfl⟩ ?_
    exact H
set_option maxRecDepth 20000 in
theorem wX11_told_38 {d : Nat} {Q : Option Value × xS → Prop} {K : Nat → Nat × Nat} {P : List Nat × Nat × Nat} {I : Nat → Nat → Int32} {J : Nat → Nat → Int64} {F : Nat → Nat → Option Nat} {r0 : Nat} {x1 : Int32} {x2 : Int32} {x3 : Int32} {n_r0 : Nat} {f1 : Nat} {n_f1 : Nat} {f3 : Nat} {n_f3 : Nat} {f5 : Nat} {f6 : Nat} {n_f6 : Nat} {f8 : Nat} {n_f8 : Nat} {n_f5 : Nat} {f12 : Nat} {n_f12 : Nat} (hK : ∀ {a k n : Nat}, K a = (k, n) → n < 2147483648) (hn_r0 : K r0 = (10, n_r0)) (hf1 : F r0 13 = some f1) (hn_f1 : K f1 = (100, n_f1)) (hf3 : F r0 12 = some f3) (hn_f3 : K f3 = (100, n_f3)) (hf5 : F r0 45 = some f5) (hf6 : F r0 15 = some f6) (hn_f6 : K f6 = (100, n_f6)) (hf8 : F r0 14 = some f8) (hn_f8 : K f8 = (100, n_f8)) (hn_f5 : K f5 = (100, n_f5)) (hf12 : F r0 2 = some f12) (hn_f12 : K f12 = (100, n_f12)) (H : (∃ j2 : Nat, x2 = nI j2 ∧ j2 < n_f1 ∧ (((I f1 j2) ≤ x3 → Wp d 150 28 [some (.ref r0), some (.int x1), some (.int (x2 + nI 1)), none, none] [] (K, P, I, J, F) Q) ∧ (¬ (I f1 j2) ≤ x3 → (∃ j4 : Nat, x2 = nI j4 ∧ j4 < n_f3 ∧ (∃ j7 : Nat, x2 = nI j7 ∧ j7 < n_f6 ∧ ((¬ (I f6 j7) = 0 → (∃ j9 : Nat, x2 = nI j9 ∧ j9 < n_f8 ∧ (∃ j10 : Nat, (((I f3 j4) + x3) - (I f8 j9)) = nI j10 ∧ j10 < n_f5 ∧ (∃ j11 : Nat, ((I f3 j4) + x3) = nI j11 ∧ j11 < n_f5 ∧ Wp d 150 38 [some (.ref r0), some (.int x1), some (.int x2), some (.int (x3 + nI 1)), none] [] (K, P, (xup I f5 j11 (I f5 j10)), J, F) Q)))) ∧ ((I f6 j7) = 0 → (∃ j13 : Nat, ((I f3 j4) + x3) = nI j13 ∧ j13 < n_f12 ∧ (∃ j14 : Nat, ((I f3 j4) + x3) = nI j14 ∧ j14 < n_f5 ∧ Wp d 150 38 [some (.ref r0), some (.int x1), some (.int x2), some (.int (x3 + nI 1)), none] [] (K, P, (xup I f5 j14 (I f12 j13)), J, F) Q)))))))))) : Wp d 150 38 [some (.ref r0), some (.int x1), some (.int x2), some (.int x3), none] [] (K, P, I, J, F) Q := by
  refine Wp.go (x := (.iload_n 3, 1, 0, 0)) rfl 39 [some (.ref r0), some (.int x1), some (.int x2), some (.int x3), none] [.int x3] rfl ⟨rfl, rfl, rfl, rfl⟩ ?_
  refine Wp.go (x := (.aload_n 0, 1, 0, 0)) rfl 40 [some (.ref r0), some (.int x1), some (.int x2), some (.int x3), none] [.ref r0, .int x3] rfl ⟨rfl, rfl, rfl, rfl⟩ ?_
  refine Wp.gR rfl rfl hn_r0 rfl rfl hf1 ?_
  refine Wp.go (x := (.iload_n 2, 1, 0, 0)) rfl 44 [some (.ref r0), some (.int x1), some (.int x2), some (.int x3), none] [.int x2, .ref f1, .int x3] rfl ⟨rfl, rfl, rfl, rfl⟩ ?_
  obtain ⟨j2, e, b, H⟩ := H
  refine Wp.ald rfl rfl hn_f1 (Or.inl rfl) (hK hn_f1) ⟨j2, e, b, ?_⟩
  refine Wp.c_ge rfl rfl ⟨fun c => ?_, fun c => ?_⟩
  · have H := H.1 c
    refine Wp.ii (v := nI 1) rfl rfl (by decide) rfl (L' := [some (.ref r0), some (.int x1), some (.int (x2 + nI 1)), some (.int x3), none]) rfl ?_
    refine Wp.go (x := (.goto (-79), 3, 28, 0)) rfl 28 [some (.ref r0), some (.int x1), some (.int (x2 + nI 1)), some (.int x3), none] [] rfl ⟨rfl, rfl, rfl, rfl⟩ ?_
    exact Wp.wk (L := [some (.ref r0), some (.int x1), some (.int (x2 + nI 1)), none, none]) ⟨Or.inr rfl, Or.inr rfl, Or.inr rfl, Or.inl rfl, Or.inr rfl, trivial⟩ H
  · have H := H.2 c
    refine Wp.go (x := (.aload_n 0, 1, 0, 0)) rfl 49 [some (.ref r0), some (.int x1), some (.int x2), some (.int x3), none] [.ref r0] rfl ⟨rfl, rfl, rfl, rfl⟩ ?_
    refine Wp.gR rfl rfl hn_r0 rfl rfl hf3 ?_
    refine Wp.go (x := (.iload_n 2, 1, 0, 0)) rfl 53 [some (.ref r0), some (.int x1), some (.int x2), some (.int x3), none] [.int x2, .ref f3] rfl ⟨rfl, rfl, rfl, rfl⟩ ?_
    obtain ⟨j4, e, b, H⟩ := H
    refine Wp.ald rfl rfl hn_f3 (Or.inl rfl) (hK hn_f3) ⟨j4, e, b, ?_⟩
    refine Wp.go (x := (.iload_n 3, 1, 0, 0)) rfl 55 [some (.ref r0), some (.int x1), some (.int x2), some (.int x3), none] [.int x3, .int (I f3 j4)] rfl ⟨rfl, rfl, rfl, rfl⟩ ?_
    refine Wp.go (x := (.iadd, 1, 0, 0)) rfl 56 [some (.ref r0), some (.int x1), some (.int x2), some (.int x3), none] [.int ((I f3 j4) + x3)] rfl ⟨rfl, rfl, rfl, rfl⟩ ?_
    refine Wp.go (x := (.istore 4, 2, 0, 0)) rfl 58 [some (.ref r0), some (.int x1), some (.int x2), some (.int x3), some (.int ((I f3 j4) + x3))] [] rfl ⟨rfl, rfl, rfl, rfl⟩ ?_
    refine Wp.go (x := (.aload_n 0, 1, 0, 0)) rfl 59 [some (.ref r0), some (.int x1), some (.int x2), some (.int x3), some (.int ((I f3 j4) + x3))] [.ref r0] rfl ⟨rfl, rfl, rfl, rfl⟩ ?_
    refine Wp.gR rfl rfl hn_r0 rfl rfl hf5 ?_
    refine Wp.go (x := (.iload 4, 2, 0, 0)) rfl 64 [some (.ref r0), some (.int x1), some (.int x2), some (.int x3), some (.int ((I f3 j4) + x3))] [.int ((I f3 j4) + x3), .ref f5] rfl ⟨rfl, rfl, rfl, rfl⟩ ?_
    refine Wp.go (x := (.aload_n 0, 1, 0, 0)) rfl 65 [some (.ref r0), some (.int x1), some (.int x2), some (.int x3), some (.int ((I f3 j4) + x3))] [.ref r0, .int ((I f3 j4) + x3), .ref f5] rfl ⟨rfl, rfl, rfl, rfl⟩ ?_
    refine Wp.gR rfl rfl hn_r0 rfl rfl hf6 ?_
    refine Wp.go (x := (.iload_n 2, 1, 0, 0)) rfl 69 [some (.ref r0), some (.int x1), some (.int x2), some (.int x3), some (.int ((I f3 j4) + x3))] [.int x2, .ref f6, .int ((I f3 j4) + x3), .ref f5] rfl ⟨rfl, rfl, rfl, rfl⟩ ?_
    obtain ⟨j7, e, b, H⟩ := H
    refine Wp.ald rfl rfl hn_f6 (Or.inl rfl) (hK hn_f6) ⟨j7, e, b, ?_⟩
    refine Wp.z_ne rfl rfl ⟨fun c => ?_, fun c => ?_⟩
    · have H := H.1 c
      refine Wp.go (x := (.aload_n 0, 1, 0, 0)) rfl 84 [some (.ref r0), some (.int x1), some (.int x2), some (.int x3), some (.int ((I f3 j4) + x3))] [.ref r0, .int ((I f3 j4) + x3), .ref f5] rfl ⟨rfl, rfl, rfl, rfl⟩ ?_
      refine Wp.gR rfl rfl hn_r0 rfl rfl hf5 ?_
      refine Wp.go (x := (.iload 4, 2, 0, 0)) rfl 89 [some (.ref r0), some (.int x1), some (.int x2), some (.int x3), some (.int ((I f3 j4) + x3))] [.int ((I f3 j4) + x3), .ref f5, .int ((I f3 j4) + x3), .ref f5] rfl ⟨rfl, rfl, rfl, rfl⟩ ?_
      refine Wp.go (x := (.aload_n 0, 1, 0, 0)) rfl 90 [some (.ref r0), some (.int x1), some (.int x2), some (.int x3), some (.int ((I f3 j4) + x3))] [.ref r0, .int ((I f3 j4) + x3), .ref f5, .int ((I f3 j4) + x3), .ref f5] rfl ⟨rfl, rfl, rfl, rfl⟩ ?_
      refine Wp.gR rfl rfl hn_r0 rfl rfl hf8 ?_
      refine Wp.go (x := (.iload_n 2, 1, 0, 0)) rfl 94 [some (.ref r0), some (.int x1), some (.int x2), some (.int x3), some (.int ((I f3 j4) + x3))] [.int x2, .ref f8, .int ((I f3 j4) + x3), .ref f5, .int ((I f3 j4) + x3), .ref f5] rfl ⟨rfl, rfl, rfl, rfl⟩ ?_
      obtain ⟨j9, e, b, H⟩ := H
      refine Wp.ald rfl rfl hn_f8 (Or.inl rfl) (hK hn_f8) ⟨j9, e, b, ?_⟩
      refine Wp.go (x := (.isub, 1, 0, 0)) rfl 96 [some (.ref r0), some (.int x1), some (.int x2), some (.int x3), some (.int ((I f3 j4) + x3))] [.int (((I f3 j4) + x3) - (I f8 j9)), .ref f5, .int ((I f3 j4) + x3), .ref f5] rfl ⟨rfl, rfl, rfl, rfl⟩ ?_
      obtain ⟨j10, e, b, H⟩ := H
      refine Wp.ald rfl rfl hn_f5 (Or.inl rfl) (hK hn_f5) ⟨j10, e, b, ?_⟩
      obtain ⟨j11, e, b, H⟩ := H
      refine Wp.ast rfl rfl hn_f5 (hK hn_f5) ⟨j11, e, b, ?_⟩
      refine Wp.ii (v := nI 1) rfl rfl (by decide) rfl (L' := [some (.ref r0), some (.int x1), some (.int x2), some (.int (x3 + nI 1)), some (.int ((I f3 j4) + x3))]) rfl ?_
      refine Wp.go (x := (.goto (-63), 3, 38, 0)) rfl 38 [some (.ref r0), some (.int x1), some (.int x2), some (.int (x3 + nI 1)), some (.int ((I f3 j4) + x3))] [] rfl ⟨rfl, rfl, rfl, rfl⟩ ?_
      exact Wp.wk (L := [some (.ref r0), some (.int x1), some (.int x2), some (.int (x3 + nI 1)), none]) ⟨Or.inr rfl, Or.inr rfl, Or.inr rfl, Or.inr rfl, Or.inl rfl, trivial⟩ H
    · have H := H.2 c
      refine Wp.go (x := (.aload_n 0, 1, 0, 0)) rfl 74 [some (.ref r0), some (.int x1), some (.int x2), some (.int x3), some (.int ((I f3 j4) + x3))] [.ref r0, .int ((I f3 j4) + x3), .ref f5] rfl ⟨rfl, rfl, rfl, rfl⟩ ?_
      refine Wp.gR rfl rfl hn_r0 rfl rfl hf12 ?_
      refine Wp.go (x := (.iload 4, 2, 0, 0)) rfl 79 [some (.ref r0), some (.int x1), some (.int x2), some (.int x3), some (.int ((I f3 j4) + x3))] [.int ((I f3 j4) + x3), .ref f12, .int ((I f3 j4) + x3), .ref f5] rfl ⟨rfl, rfl, rfl, rfl⟩ ?_
      obtain ⟨j13, e, b, H⟩ := H
      refine Wp.ald rfl rfl hn_f12 (Or.inl rfl) (hK hn_f12) ⟨j13, e, b, ?_⟩
      refine Wp.go (x := (.goto 17, 3, 97, 0)) rfl 97 [some (.ref r0), some (.int x1), some (.int x2), some (.int x3), some (.int ((I f3 j4) + x3))] [.int (I f12 j13), .int ((I f3 j4) + x3), .ref f5] rfl ⟨rfl, rfl, rfl, rfl⟩ ?_
      obtain ⟨j14, e, b, H⟩ := H
      refine Wp.ast rfl rfl hn_f5 (hK hn_f5) ⟨j14, e, b, ?_⟩
      refine Wp.ii (v := nI 1) rfl rfl (by decide) rfl (L' := [some (.ref r0), some (.int x1), some (.int x2), some (.int (x3 + nI 1)), some (.int ((I f3 j4) + x3))]) rfl ?_
      refine Wp.go (x := (.goto (-63), 3, 38, 0)) rfl 38 [some (.ref r0), some (.int x1), some (.int x2), some (.int (x3 + nI 1)), some (.int ((I f3 j4) + x3))] [] rfl ⟨rfl, rfl, rfl, rfl⟩ ?_
      exact Wp.wk (L := [some (.ref r0), some (.int x1), some (.int x2), some (.int (x3 + nI 1)), none]) ⟨Or.inr rfl, Or.inr rfl, Or.inr rfl, Or.inr rfl, Or.inl rfl, trivial⟩ H
set_option maxRecDepth 20000 in
theorem wX11_longest_0 {d : Nat} {Q : Option Value × xS → Prop} {K : Nat → Nat × Nat} {P : List Nat × Nat × Nat} {I : Nat → Nat → Int32} {J : Nat → Nat → Int64} {F : Nat → Nat → Option Nat} {r0 : Nat} {x1 : Int32} {n_r0 : Nat} (hn_r0 : K r0 = (10, n_r0)) (H : ((x1 < 0 → Q (some (.int ((-1))), (K, P, (xup I r0 0 (nI 0)), J, F))) ∧ (¬ x1 < 0 → ((x1 < (((xup I r0 0 (nI 0))) r0 3) → Wp d 107 0 [some (.ref r0), none, none, none, none, none] [] (K, P, (xup I r0 0 (nI 0)), J, F) (xrV K P F (fun I1 J2 => Wp d 108 0 [some (.ref r0), some (.int x1), none] [] (K, P, I1, J2, F) (xrI K P F (fun v3 I4 J5 => Q (some (.int v3), (K, P, I4, J5, F))))))) ∧ (¬ x1 < (((xup I r0 0 (nI 0))) r0 3) → Q (some (.int ((-1))), (K, P, (xup I r0 0 (nI 0)), J, F))))))) : Wp (d + 1) 151 0 [some (.ref r0), some (.int x1)] [] (K, P, I, J, F) Q := by
  refine Wp.go (x := (.aload_n 0, 1, 0, 0)) rfl 1 [some (.ref r0), some (.int x1)] [.ref r0] rfl ⟨rfl, rfl, rfl, rfl⟩ ?_
  refine Wp.ic (v := nI 0) rfl rfl (by decide) ?_
  refine Wp.pI rfl rfl hn_r0 rfl (Or.inl rfl) ?_
  refine Wp.go (x := (.iload_n 1, 1, 0, 0)) rfl 6 [some (.ref r0), some (.int x1)] [.int x1] rfl ⟨rfl, rfl, rfl, rfl⟩ ?_
  refine Wp.z_lt rfl rfl ⟨fun c => ?_, fun c => ?_⟩
  · have H := H.1 c
    refine Wp.ic (v := (-1)) rfl rfl (by decide) ?_
    exact Wp.rI rfl rfl H
  · have H := H.2 c
    refine Wp.go (x := (.iload_n 1, 1, 0, 0)) rfl 10 [some (.ref r0), some (.int x1)] [.int x1] rfl ⟨rfl, rfl, rfl, rfl⟩ ?_
    refine Wp.go (x := (.aload_n 0, 1, 0, 0)) rfl 11 [some (.ref r0), some (.int x1)] [.ref r0, .int x1] rfl ⟨rfl, rfl, rfl, rfl⟩ ?_
    refine Wp.gI rfl rfl hn_r0 rfl ⟨by decide, by decide⟩ ?_
    refine Wp.c_lt rfl rfl ⟨fun c => ?_, fun c => ?_⟩
    · have H := H.1 c
      refine Wp.go (x := (.aload_n 0, 1, 0, 0)) rfl 20 [some (.ref r0), some (.int x1)] [.ref r0] rfl ⟨rfl, rfl, rfl, rfl⟩ ?_
      refine Wp.kV (x := (.invokevirtual 273, 3, 107, 1)) (j := 107) (vs := [.ref r0]) (rest := []) rfl (by show xtg 107 (K r0).1 = _; rw [hn_r0]; rfl) rfl ⟨Nat.le_of_ble_eq_true rfl, Nat.le_of_ble_eq_true rfl, Nat.le_of_ble_eq_true rfl⟩ rfl rfl rfl H (fun I1 J2 H => ?_)
      refine Wp.go (x := (.aload_n 0, 1, 0, 0)) rfl 24 [some (.ref r0), some (.int x1)] [.ref r0] rfl ⟨rfl, rfl, rfl, rfl⟩ ?_
      refine Wp.go (x := (.iload_n 1, 1, 0, 0)) rfl 25 [some (.ref r0), some (.int x1)] [.int x1, .ref r0] rfl ⟨rfl, rfl, rfl, rfl⟩ ?_
      refine Wp.kI (x := (.invokevirtual 193, 3, 108, 2)) (j := 108) (vs := [.ref r0, .int x1]) (rest := []) rfl (by show xtg 108 (K r0).1 = _; rw [hn_r0]; rfl) rfl ⟨Nat.le_of_ble_eq_true rfl, Nat.le_of_ble_eq_true rfl, Nat.le_of_ble_eq_true rfl⟩ rfl rfl rfl H (fun v3 I4 J5 H => ?_)
      exact Wp.rI rfl rfl H
    · have H := H.2 c
      refine Wp.ic (v := (-1)) rfl rfl (by decide) ?_
      exact Wp.rI rfl rfl H
set_option maxRecDepth 20000 in
theorem wX11_distance_0 {d : Nat} {Q : Option Value × xS → Prop} {K : Nat → Nat × Nat} {P : List Nat × Nat × Nat} {I : Nat → Nat → Int32} {J : Nat → Nat → Int64} {F : Nat → Nat → Option Nat} {r0 : Nat} {x1 : Int32} {x2 : Int32} {n_r0 : Nat} {f9 : Nat} {n_f9 : Nat} (hK : ∀ {a k n : Nat}, K a = (k, n) → n < 2147483648) (hn_r0 : K r0 = (10, n_r0)) (hf9 : F r0 20 = some f9) (hn_f9 : K f9 = (100, n_f9)) (H : ((x1 < 0 → Q (some (.int ((-1))), (K, P, (xup I r0 0 (nI 0)), J, F))) ∧ (¬ x1 < 0 → (((((xup I r0 0 (nI 0))) r0 3) ≤ x1 → Q (some (.int ((-1))), (K, P, (xup I r0 0 (nI 0)), J, F))) ∧ (¬ (((xup I r0 0 (nI 0))) r0 3) ≤ x1 → Wp d 99 0 [some (.ref r0)] [] (K, P, (xup I r0 0 (nI 0)), J, F) (xrI K P F (fun v1 I2 J3 => ((x2 < v1 → Q (some (.int ((-1))), (K, P, I2, J3, F))) ∧ (¬ x2 < v1 → Wp d 100 0 [some (.ref r0)] [] (K, P, I2, J3, F) (xrI K P F (fun v4 I5 J6 => ((x2 ≤ v4 → Wp d 107 0 [some (.ref r0), none, none, none, none, none] [] (K, P, I5, J6, F) (xrV K P F (fun I7 J8 => (∃ j10 : Nat, (((nI 301) * x1) + x2) = nI j10 ∧ j10 < n_f9 ∧ ((¬ (I7 f9 j10) = 0 → Q (some (.int (I7 f9 j10)), (K, P, I7, J8, F))) ∧ ((I7 f9 j10) = 0 → Q (some (.int ((-1))), (K, P, I7, J8, F)))))))) ∧ (¬ x2 ≤ v4 → Q (some (.int ((-1))), (K, P, I5, J6, F))))))))))))))) : Wp (d + 1) 152 0 [some (.ref r0), some (.int x1), some (.int x2), none] [] (K, P, I, J, F) Q := by
  refine Wp.go (x := (.aload_n 0, 1, 0, 0)) rfl 1 [some (.ref r0), some (.int x1), some (.int x2), none] [.ref r0] rfl ⟨rfl, rfl, rfl, rfl⟩ ?_
  refine Wp.ic (v := nI 0) rfl rfl (by decide) ?_
  refine Wp.pI rfl rfl hn_r0 rfl (Or.inl rfl) ?_
  refine Wp.go (x := (.iload_n 1, 1, 0, 0)) rfl 6 [some (.ref r0), some (.int x1), some (.int x2), none] [.int x1] rfl ⟨rfl, rfl, rfl, rfl⟩ ?_
  refine Wp.z_lt rfl rfl ⟨fun c => ?_, fun c => ?_⟩
  · have H := H.1 c
    refine Wp.ic (v := (-1)) rfl rfl (by decide) ?_
    exact Wp.rI rfl rfl H
  · have H := H.2 c
    refine Wp.go (x := (.iload_n 1, 1, 0, 0)) rfl 10 [some (.ref r0), some (.int x1), some (.int x2), none] [.int x1] rfl ⟨rfl, rfl, rfl, rfl⟩ ?_
    refine Wp.go (x := (.aload_n 0, 1, 0, 0)) rfl 11 [some (.ref r0), some (.int x1), some (.int x2), none] [.ref r0, .int x1] rfl ⟨rfl, rfl, rfl, rfl⟩ ?_
    refine Wp.gI rfl rfl hn_r0 rfl ⟨by decide, by decide⟩ ?_
    refine Wp.c_ge rfl rfl ⟨fun c => ?_, fun c => ?_⟩
    · have H := H.1 c
      refine Wp.ic (v := (-1)) rfl rfl (by decide) ?_
      exact Wp.rI rfl rfl H
    · have H := H.2 c
      refine Wp.go (x := (.iload_n 2, 1, 0, 0)) rfl 18 [some (.ref r0), some (.int x1), some (.int x2), none] [.int x2] rfl ⟨rfl, rfl, rfl, rfl⟩ ?_
      refine Wp.go (x := (.aload_n 0, 1, 0, 0)) rfl 19 [some (.ref r0), some (.int x1), some (.int x2), none] [.ref r0, .int x2] rfl ⟨rfl, rfl, rfl, rfl⟩ ?_
      refine Wp.kI (x := (.invokevirtual 153, 3, 99, 1)) (j := 99) (vs := [.ref r0]) (rest := [.int x2]) rfl (by show xtg 99 (K r0).1 = _; rw [hn_r0]; rfl) rfl ⟨Nat.le_of_ble_eq_true rfl, Nat.le_of_ble_eq_true rfl, Nat.le_of_ble_eq_true rfl⟩ rfl rfl rfl H (fun v1 I2 J3 H => ?_)
      refine Wp.c_lt rfl rfl ⟨fun c => ?_, fun c => ?_⟩
      · have H := H.1 c
        refine Wp.ic (v := (-1)) rfl rfl (by decide) ?_
        exact Wp.rI rfl rfl H
      · have H := H.2 c
        refine Wp.go (x := (.iload_n 2, 1, 0, 0)) rfl 26 [some (.ref r0), some (.int x1), some (.int x2), none] [.int x2] rfl ⟨rfl, rfl, rfl, rfl⟩ ?_
        refine Wp.go (x := (.aload_n 0, 1, 0, 0)) rfl 27 [some (.ref r0), some (.int x1), some (.int x2), none] [.ref r0, .int x2] rfl ⟨rfl, rfl, rfl, rfl⟩ ?_
        refine Wp.kI (x := (.invokevirtual 149, 3, 100, 1)) (j := 100) (vs := [.ref r0]) (rest := [.int x2]) rfl (by show xtg 100 (K r0).1 = _; rw [hn_r0]; rfl) rfl ⟨Nat.le_of_ble_eq_true rfl, Nat.le_of_ble_eq_true rfl, Nat.le_of_ble_eq_true rfl⟩ rfl rfl rfl H (fun v4 I5 J6 H => ?_)
        refine Wp.c_le rfl rfl ⟨fun c => ?_, fun c => ?_⟩
        · have H := H.1 c
          refine Wp.go (x := (.aload_n 0, 1, 0, 0)) rfl 36 [some (.ref r0), some (.int x1), some (.int x2), none] [.ref r0] rfl ⟨rfl, rfl, rfl, rfl⟩ ?_
          refine Wp.kV (x := (.invokevirtual 273, 3, 107, 1)) (j := 107) (vs := [.ref r0]) (rest := []) rfl (by show xtg 107 (K r0).1 = _; rw [hn_r0]; rfl) rfl ⟨Nat.le_of_ble_eq_true rfl, Nat.le_of_ble_eq_true rfl, Nat.le_of_ble_eq_true rfl⟩ rfl rfl rfl H (fun I7 J8 H => ?_)
          refine Wp.go (x := (.aload_n 0, 1, 0, 0)) rfl 40 [some (.ref r0), some (.int x1), some (.int x2), none] [.ref r0] rfl ⟨rfl, rfl, rfl, rfl⟩ ?_
          refine Wp.gR rfl rfl hn_r0 rfl rfl hf9 ?_
          refine Wp.sp (v := nI 301) rfl rfl (by decide) ?_
          refine Wp.go (x := (.iload_n 1, 1, 0, 0)) rfl 47 [some (.ref r0), some (.int x1), some (.int x2), none] [.int x1, .int (nI 301), .ref f9] rfl ⟨rfl, rfl, rfl, rfl⟩ ?_
          refine Wp.go (x := (.imul, 1, 0, 0)) rfl 48 [some (.ref r0), some (.int x1), some (.int x2), none] [.int ((nI 301) * x1), .ref f9] rfl ⟨rfl, rfl, rfl, rfl⟩ ?_
          refine Wp.go (x := (.iload_n 2, 1, 0, 0)) rfl 49 [some (.ref r0), some (.int x1), some (.int x2), none] [.int x2, .int ((nI 301) * x1), .ref f9] rfl ⟨rfl, rfl, rfl, rfl⟩ ?_
          refine Wp.go (x := (.iadd, 1, 0, 0)) rfl 50 [some (.ref r0), some (.int x1), some (.int x2), none] [.int (((nI 301) * x1) + x2), .ref f9] rfl ⟨rfl, rfl, rfl, rfl⟩ ?_
          obtain ⟨j10, e, b, H⟩ := H
          refine Wp.ald rfl rfl hn_f9 (Or.inl rfl) (hK hn_f9) ⟨j10, e, b, ?_⟩
          refine Wp.go (x := (.istore_n 3, 1, 0, 0)) rfl 52 [some (.ref r0), some (.int x1), some (.int x2), some (.int (I7 f9 j10))] [] rfl ⟨rfl, rfl, rfl, rfl⟩ ?_
          refine Wp.go (x := (.iload_n 3, 1, 0, 0)) rfl 53 [some (.ref r0), some (.int x1), some (.int x2), some (.int (I7 f9 j10))] [.int (I7 f9 j10)] rfl ⟨rfl, rfl, rfl, rfl⟩ ?_
          refine Wp.z_ne rfl rfl ⟨fun c => ?_, fun c => ?_⟩
          · have H := H.1 c
            refine Wp.go (x := (.iload_n 3, 1, 0, 0)) rfl 61 [some (.ref r0), some (.int x1), some (.int x2), some (.int (I7 f9 j10))] [.int (I7 f9 j10)] rfl ⟨rfl, rfl, rfl, rfl⟩ ?_
            exact Wp.rI rfl rfl H
          · have H := H.2 c
            refine Wp.ic (v := (-1)) rfl rfl (by decide) ?_
            refine Wp.go (x := (.goto 4, 3, 61, 0)) rfl 61 [some (.ref r0), some (.int x1), some (.int x2), some (.int (I7 f9 j10))] [.int ((-1))] rfl ⟨rfl, rfl, rfl, rfl⟩ ?_
            exact Wp.rI rfl rfl H
        · have H := H.2 c
          refine Wp.ic (v := (-1)) rfl rfl (by decide) ?_
          exact Wp.rI rfl rfl H
set_option maxRecDepth 20000 in
theorem wX11_cut_0 {d : Nat} {Q : Option Value × xS → Prop} {K : Nat → Nat × Nat} {P : List Nat × Nat × Nat} {I : Nat → Nat → Int32} {J : Nat → Nat → Int64} {F : Nat → Nat → Option Nat} {r0 : Nat} {x1 : Int32} {n_r0 : Nat} (hn_r0 : K r0 = (10, n_r0)) (H : ((x1 ≤ 0 → Q (some (.int ((-1))), (K, P, (xup I r0 0 (nI 0)), J, F))) ∧ (¬ x1 ≤ 0 → (((((xup I r0 0 (nI 0))) r0 3) ≤ x1 → Q (some (.int ((-1))), (K, P, (xup I r0 0 (nI 0)), J, F))) ∧ (¬ (((xup I r0 0 (nI 0))) r0 3) ≤ x1 → ((¬ (((xup I r0 0 (nI 0))) r0 7) = (nI 12) → Wp d 153 30 [some (.ref r0), some (.int x1), some (.int (nI 0)), none] [] (K, P, (xup I r0 0 (nI 0)), J, F) Q) ∧ ((((xup I r0 0 (nI 0))) r0 7) = (nI 12) → Q (some (.int ((-1))), (K, P, (xup I r0 0 (nI 0)), J, F))))))))) : Wp d 153 0 [some (.ref r0), some (.int x1), none, none] [] (K, P, I, J, F) Q := by
  refine Wp.go (x := (.aload_n 0, 1, 0, 0)) rfl 1 [some (.ref r0), some (.int x1), none, none] [.ref r0] rfl ⟨rfl, rfl, rfl, rfl⟩ ?_
  refine Wp.ic (v := nI 0) rfl rfl (by decide) ?_
  refine Wp.pI rfl rfl hn_r0 rfl (Or.inl rfl) ?_
  refine Wp.go (x := (.iload_n 1, 1, 0, 0)) rfl 6 [some (.ref r0), some (.int x1), none, none] [.int x1] rfl ⟨rfl, rfl, rfl, rfl⟩ ?_
  refine Wp.z_le rfl rfl ⟨fun c => ?_, fun c => ?_⟩
  · have H := H.1 c
    refine Wp.ic (v := (-1)) rfl rfl (by decide) ?_
    exact Wp.rI rfl rfl H
  · have H := H.2 c
    refine Wp.go (x := (.iload_n 1, 1, 0, 0)) rfl 10 [some (.ref r0), some (.int x1), none, none] [.int x1] rfl ⟨rfl, rfl, rfl, rfl⟩ ?_
    refine Wp.go (x := (.aload_n 0, 1, 0, 0)) rfl 11 [some (.ref r0), some (.int x1), none, none] [.ref r0, .int x1] rfl ⟨rfl, rfl, rfl, rfl⟩ ?_
    refine Wp.gI rfl rfl hn_r0 rfl ⟨by decide, by decide⟩ ?_
    refine Wp.c_ge rfl rfl ⟨fun c => ?_, fun c => ?_⟩
    · have H := H.1 c
      refine Wp.ic (v := (-1)) rfl rfl (by decide) ?_
      exact Wp.rI rfl rfl H
    · have H := H.2 c
      refine Wp.go (x := (.aload_n 0, 1, 0, 0)) rfl 18 [some (.ref r0), some (.int x1), none, none] [.ref r0] rfl ⟨rfl, rfl, rfl, rfl⟩ ?_
      refine Wp.gI rfl rfl hn_r0 rfl ⟨by decide, by decide⟩ ?_
      refine Wp.bp (v := nI 12) rfl rfl (by decide) ?_
      refine Wp.c_ne rfl rfl ⟨fun c => ?_, fun c => ?_⟩
      · have H := H.1 c
        refine Wp.ic (v := nI 0) rfl rfl (by decide) ?_
        refine Wp.go (x := (.istore_n 2, 1, 0, 0)) rfl 30 [some (.ref r0), some (.int x1), some (.int (nI 0)), none] [] rfl ⟨rfl, rfl, rfl, rfl⟩ ?_
        exact H
      · have H := H.2 c
        refine Wp.ic (v := (-1)) rfl rfl (by decide) ?_
        exact Wp.rI rfl rfl H
set_option maxRecDepth 20000 in
theorem wX11_cut_30 {d : Nat} {Q : Option Value × xS → Prop} {K : Nat → Nat × Nat} {P : List Nat × Nat × Nat} {I : Nat → Nat → Int32} {J : Nat → Nat → Int64} {F : Nat → Nat → Option Nat} {r0 : Nat} {x1 : Int32} {x2 : Int32} {n_r0 : Nat} {f1 : Nat} {n_f1 : Nat} (hK : ∀ {a k n : Nat}, K a = (k, n) → n < 2147483648) (hn_r0 : K r0 = (10, n_r0)) (hf1 : F r0 6 = some f1) (hn_f1 : K f1 = (100, n_f1)) (H : (((I r0 7) ≤ x2 → Wp d 153 54 [some (.ref r0), some (.int x1), some (.int x2), none] [] (K, P, I, J, F) Q) ∧ (¬ (I r0 7) ≤ x2 → (∃ j2 : Nat, x2 = nI j2 ∧ j2 < n_f1 ∧ ((x1 ≤ (I f1 j2) → Wp d 153 54 [some (.ref r0), some (.int x1), some (.int x2), none] [] (K, P, I, J, F) Q) ∧ (¬ x1 ≤ (I f1 j2) → Wp d 153 30 [some (.ref r0), some (.int x1), some (.int (x2 + nI 1)), none] [] (K, P, I, J, F) Q)))))) : Wp d 153 30 [some (.ref r0), some (.int x1), some (.int x2), none] [] (K, P, I, J, F) Q := by
  refine Wp.go (x := (.iload_n 2, 1, 0, 0)) rfl 31 [some (.ref r0), some (.int x1), some (.int x2), none] [.int x2] rfl ⟨rfl, rfl, rfl, rfl⟩ ?_
  refine Wp.go (x := (.aload_n 0, 1, 0, 0)) rfl 32 [some (.ref r0), some (.int x1), some (.int x2), none] [.ref r0, .int x2] rfl ⟨rfl, rfl, rfl, rfl⟩ ?_
  refine Wp.gI rfl rfl hn_r0 rfl ⟨by decide, by decide⟩ ?_
  refine Wp.c_ge rfl rfl ⟨fun c => ?_, fun c => ?_⟩
  · have H := H.1 c
    exact H
  · have H := H.2 c
    refine Wp.go (x := (.aload_n 0, 1, 0, 0)) rfl 39 [some (.ref r0), some (.int x1), some (.int x2), none] [.ref r0] rfl ⟨rfl, rfl, rfl, rfl⟩ ?_
    refine Wp.gR rfl rfl hn_r0 rfl rfl hf1 ?_
    refine Wp.go (x := (.iload_n 2, 1, 0, 0)) rfl 43 [some (.ref r0), some (.int x1), some (.int x2), none] [.int x2, .ref f1] rfl ⟨rfl, rfl, rfl, rfl⟩ ?_
    obtain ⟨j2, e, b, H⟩ := H
    refine Wp.ald rfl rfl hn_f1 (Or.inl rfl) (hK hn_f1) ⟨j2, e, b, ?_⟩
    refine Wp.go (x := (.iload_n 1, 1, 0, 0)) rfl 45 [some (.ref r0), some (.int x1), some (.int x2), none] [.int x1, .int (I f1 j2)] rfl ⟨rfl, rfl, rfl, rfl⟩ ?_
    refine Wp.c_ge rfl rfl ⟨fun c => ?_, fun c => ?_⟩
    · have H := H.1 c
      exact H
    · have H := H.2 c
      refine Wp.ii (v := nI 1) rfl rfl (by decide) rfl (L' := [some (.ref r0), some (.int x1), some (.int (x2 + nI 1)), none]) rfl ?_
      refine Wp.go (x := (.goto (-21), 3, 30, 0)) rfl 30 [some (.ref r0), some (.int x1), some (.int (x2 + nI 1)), none] [] rfl ⟨rfl, rfl, rfl, rfl⟩ ?_
      exact H
set_option maxRecDepth 20000 in
theorem wX11_cut_54 {d : Nat} {Q : Option Value × xS → Prop} {K : Nat → Nat × Nat} {P : List Nat × Nat × Nat} {I : Nat → Nat → Int32} {J : Nat → Nat → Int64} {F : Nat → Nat → Option Nat} {r0 : Nat} {x1 : Int32} {x2 : Int32} {n_r0 : Nat} {f1 : Nat} {n_f1 : Nat} (hK : ∀ {a k n : Nat}, K a = (k, n) → n < 2147483648) (hn_r0 : K r0 = (10, n_r0)) (hf1 : F r0 6 = some f1) (hn_f1 : K f1 = (100, n_f1)) (H : (((I r0 7) ≤ x2 → Wp d 153 79 [some (.ref r0), some (.int x1), some (.int x2), some (.int (I r0 7))] [] (K, P, I, J, F) Q) ∧ (¬ (I r0 7) ≤ x2 → (∃ j2 : Nat, x2 = nI j2 ∧ j2 < n_f1 ∧ ((¬ (I f1 j2) = x1 → Wp d 153 79 [some (.ref r0), some (.int x1), some (.int x2), some (.int (I r0 7))] [] (K, P, I, J, F) Q) ∧ ((I f1 j2) = x1 → Q (some (.int ((-1))), (K, P, I, J, F)))))))) : Wp d 153 54 [some (.ref r0), some (.int x1), some (.int x2), none] [] (K, P, I, J, F) Q := by
  refine Wp.go (x := (.iload_n 2, 1, 0, 0)) rfl 55 [some (.ref r0), some (.int x1), some (.int x2), none] [.int x2] rfl ⟨rfl, rfl, rfl, rfl⟩ ?_
  refine Wp.go (x := (.aload_n 0, 1, 0, 0)) rfl 56 [some (.ref r0), some (.int x1), some (.int x2), none] [.ref r0, .int x2] rfl ⟨rfl, rfl, rfl, rfl⟩ ?_
  refine Wp.gI rfl rfl hn_r0 rfl ⟨by decide, by decide⟩ ?_
  refine Wp.c_ge rfl rfl ⟨fun c => ?_, fun c => ?_⟩
  · have H := H.1 c
    refine Wp.go (x := (.aload_n 0, 1, 0, 0)) rfl 75 [some (.ref r0), some (.int x1), some (.int x2), none] [.ref r0] rfl ⟨rfl, rfl, rfl, rfl⟩ ?_
    refine Wp.gI rfl rfl hn_r0 rfl ⟨by decide, by decide⟩ ?_
    refine Wp.go (x := (.istore_n 3, 1, 0, 0)) rfl 79 [some (.ref r0), some (.int x1), some (.int x2), some (.int (I r0 7))] [] rfl ⟨rfl, rfl, rfl, rfl⟩ ?_
    exact H
  · have H := H.2 c
    refine Wp.go (x := (.aload_n 0, 1, 0, 0)) rfl 63 [some (.ref r0), some (.int x1), some (.int x2), none] [.ref r0] rfl ⟨rfl, rfl, rfl, rfl⟩ ?_
    refine Wp.gR rfl rfl hn_r0 rfl rfl hf1 ?_
    refine Wp.go (x := (.iload_n 2, 1, 0, 0)) rfl 67 [some (.ref r0), some (.int x1), some (.int x2), none] [.int x2, .ref f1] rfl ⟨rfl, rfl, rfl, rfl⟩ ?_
    obtain ⟨j2, e, b, H⟩ := H
    refine Wp.ald rfl rfl hn_f1 (Or.inl rfl) (hK hn_f1) ⟨j2, e, b, ?_⟩
    refine Wp.go (x := (.iload_n 1, 1, 0, 0)) rfl 69 [some (.ref r0), some (.int x1), some (.int x2), none] [.int x1, .int (I f1 j2)] rfl ⟨rfl, rfl, rfl, rfl⟩ ?_
    refine Wp.c_ne rfl rfl ⟨fun c => ?_, fun c => ?_⟩
    · have H := H.1 c
      refine Wp.go (x := (.aload_n 0, 1, 0, 0)) rfl 75 [some (.ref r0), some (.int x1), some (.int x2), none] [.ref r0] rfl ⟨rfl, rfl, rfl, rfl⟩ ?_
      refine Wp.gI rfl rfl hn_r0 rfl ⟨by decide, by decide⟩ ?_
      refine Wp.go (x := (.istore_n 3, 1, 0, 0)) rfl 79 [some (.ref r0), some (.int x1), some (.int x2), some (.int (I r0 7))] [] rfl ⟨rfl, rfl, rfl, rfl⟩ ?_
      exact H
    · have H := H.2 c
      refine Wp.ic (v := (-1)) rfl rfl (by decide) ?_
      exact Wp.rI rfl rfl H
set_option maxRecDepth 20000 in
theorem wX11_cut_79 {d : Nat} {Q : Option Value × xS → Prop} {K : Nat → Nat × Nat} {P : List Nat × Nat × Nat} {I : Nat → Nat → Int32} {J : Nat → Nat → Int64} {F : Nat → Nat → Option Nat} {r0 : Nat} {x1 : Int32} {x2 : Int32} {x3 : Int32} {n_r0 : Nat} {f1 : Nat} {n_f1 : Nat} (hK : ∀ {a k n : Nat}, K a = (k, n) → n < 2147483648) (hn_r0 : K r0 = (10, n_r0)) (hf1 : F r0 6 = some f1) (hn_f1 : K f1 = (100, n_f1)) (H : ((x3 ≤ x2 → (∃ j2 : Nat, x2 = nI j2 ∧ j2 < n_f1 ∧ Q (some (.int (((xup ((xup I f1 j2 x1)) r0 7 ((((xup I f1 j2 x1)) r0 7) + (nI 1)))) r0 7)), (K, P, (xup ((xup I f1 j2 x1)) r0 7 ((((xup I f1 j2 x1)) r0 7) + (nI 1))), J, F)))) ∧ (¬ x3 ≤ x2 → (∃ j3 : Nat, (x3 - (nI 1)) = nI j3 ∧ j3 < n_f1 ∧ (∃ j4 : Nat, x3 = nI j4 ∧ j4 < n_f1 ∧ Wp d 153 79 [some (.ref r0), some (.int x1), some (.int x2), some (.int (x3 + (-1)))] [] (K, P, (xup I f1 j4 (I f1 j3)), J, F) Q))))) : Wp d 153 79 [some (.ref r0), some (.int x1), some (.int x2), some (.int x3)] [] (K, P, I, J, F) Q := by
  refine Wp.go (x := (.iload_n 3, 1, 0, 0)) rfl 80 [some (.ref r0), some (.int x1), some (.int x2), some (.int x3)] [.int x3] rfl ⟨rfl, rfl, rfl, rfl⟩ ?_
  refine Wp.go (x := (.iload_n 2, 1, 0, 0)) rfl 81 [some (.ref r0), some (.int x1), some (.int x2), some (.int x3)] [.int x2, .int x3] rfl ⟨rfl, rfl, rfl, rfl⟩ ?_
  refine Wp.c_le rfl rfl ⟨fun c => ?_, fun c => ?_⟩
  · have H := H.1 c
    refine Wp.go (x := (.aload_n 0, 1, 0, 0)) rfl 105 [some (.ref r0), some (.int x1), some (.int x2), some (.int x3)] [.ref r0] rfl ⟨rfl, rfl, rfl, rfl⟩ ?_
    refine Wp.gR rfl rfl hn_r0 rfl rfl hf1 ?_
    refine Wp.go (x := (.iload_n 2, 1, 0, 0)) rfl 109 [some (.ref r0), some (.int x1), some (.int x2), some (.int x3)] [.int x2, .ref f1] rfl ⟨rfl, rfl, rfl, rfl⟩ ?_
    refine Wp.go (x := (.iload_n 1, 1, 0, 0)) rfl 110 [some (.ref r0), some (.int x1), some (.int x2), some (.int x3)] [.int x1, .int x2, .ref f1] rfl ⟨rfl, rfl, rfl, rfl⟩ ?_
    obtain ⟨j2, e, b, H⟩ := H
    refine Wp.ast rfl rfl hn_f1 (hK hn_f1) ⟨j2, e, b, ?_⟩
    refine Wp.go (x := (.aload_n 0, 1, 0, 0)) rfl 112 [some (.ref r0), some (.int x1), some (.int x2), some (.int x3)] [.ref r0] rfl ⟨rfl, rfl, rfl, rfl⟩ ?_
    refine Wp.go (x := (.dup, 1, 0, 0)) rfl 113 [some (.ref r0), some (.int x1), some (.int x2), some (.int x3)] [.ref r0, .ref r0] rfl ⟨rfl, rfl, rfl, rfl⟩ ?_
    refine Wp.gI rfl rfl hn_r0 rfl ⟨by decide, by decide⟩ ?_
    refine Wp.ic (v := nI 1) rfl rfl (by decide) ?_
    refine Wp.go (x := (.iadd, 1, 0, 0)) rfl 118 [some (.ref r0), some (.int x1), some (.int x2), some (.int x3)] [.int ((((xup I f1 j2 x1)) r0 7) + (nI 1)), .ref r0] rfl ⟨rfl, rfl, rfl, rfl⟩ ?_
    refine Wp.pI rfl rfl hn_r0 rfl (Or.inl rfl) ?_
    refine Wp.go (x := (.aload_n 0, 1, 0, 0)) rfl 122 [some (.ref r0), some (.int x1), some (.int x2), some (.int x3)] [.ref r0] rfl ⟨rfl, rfl, rfl, rfl⟩ ?_
    refine Wp.gI rfl rfl hn_r0 rfl ⟨by decide, by decide⟩ ?_
    exact Wp.rI rfl rfl H
  · have H := H.2 c
    refine Wp.go (x := (.aload_n 0, 1, 0, 0)) rfl 85 [some (.ref r0), some (.int x1), some (.int x2), some (.int x3)] [.ref r0] rfl ⟨rfl, rfl, rfl, rfl⟩ ?_
    refine Wp.gR rfl rfl hn_r0 rfl rfl hf1 ?_
    refine Wp.go (x := (.iload_n 3, 1, 0, 0)) rfl 89 [some (.ref r0), some (.int x1), some (.int x2), some (.int x3)] [.int x3, .ref f1] rfl ⟨rfl, rfl, rfl, rfl⟩ ?_
    refine Wp.go (x := (.aload_n 0, 1, 0, 0)) rfl 90 [some (.ref r0), some (.int x1), some (.int x2), some (.int x3)] [.ref r0, .int x3, .ref f1] rfl ⟨rfl, rfl, rfl, rfl⟩ ?_
    refine Wp.gR rfl rfl hn_r0 rfl rfl hf1 ?_
    refine Wp.go (x := (.iload_n 3, 1, 0, 0)) rfl 94 [some (.ref r0), some (.int x1), some (.int x2), some (.int x3)] [.int x3, .ref f1, .int x3, .ref f1] rfl ⟨rfl, rfl, rfl, rfl⟩ ?_
    refine Wp.ic (v := nI 1) rfl rfl (by decide) ?_
    refine Wp.go (x := (.isub, 1, 0, 0)) rfl 96 [some (.ref r0), some (.int x1), some (.int x2), some (.int x3)] [.int (x3 - (nI 1)), .ref f1, .int x3, .ref f1] rfl ⟨rfl, rfl, rfl, rfl⟩ ?_
    obtain ⟨j3, e, b, H⟩ := H
    refine Wp.ald rfl rfl hn_f1 (Or.inl rfl) (hK hn_f1) ⟨j3, e, b, ?_⟩
    obtain ⟨j4, e, b, H⟩ := H
    refine Wp.ast rfl rfl hn_f1 (hK hn_f1) ⟨j4, e, b, ?_⟩
    refine Wp.ii (v := (-1)) rfl rfl (by decide) rfl (L' := [some (.ref r0), some (.int x1), some (.int x2), some (.int (x3 + (-1)))]) rfl ?_
    refine Wp.go (x := (.goto (-22), 3, 79, 0)) rfl 79 [some (.ref r0), some (.int x1), some (.int x2), some (.int (x3 + (-1)))] [] rfl ⟨rfl, rfl, rfl, rfl⟩ ?_
    exact H
set_option maxRecDepth 20000 in
theorem wX11_border_0 {d : Nat} {Q : Option Value × xS → Prop} {K : Nat → Nat × Nat} {P : List Nat × Nat × Nat} {I : Nat → Nat → Int32} {J : Nat → Nat → Int64} {F : Nat → Nat → Option Nat} {r0 : Nat} {x1 : Int32} {n_r0 : Nat} {f1 : Nat} {n_f1 : Nat} (hK : ∀ {a k n : Nat}, K a = (k, n) → n < 2147483648) (hn_r0 : K r0 = (10, n_r0)) (hf1 : F r0 6 = some f1) (hn_f1 : K f1 = (100, n_f1)) (H : ((¬ x1 = 0 → ((x1 ≤ (I r0 7) → (∃ j2 : Nat, (x1 - (nI 1)) = nI j2 ∧ j2 < n_f1 ∧ Q (some (.int (I f1 j2)), (K, P, I, J, F)))) ∧ (¬ x1 ≤ (I r0 7) → Q (some (.int (I r0 3)), (K, P, I, J, F))))) ∧ (x1 = 0 → Q (some (.int (nI 0)), (K, P, I, J, F))))) : Wp d 154 0 [some (.ref r0), some (.int x1)] [] (K, P, I, J, F) Q := by
  refine Wp.go (x := (.iload_n 1, 1, 0, 0)) rfl 1 [some (.ref r0), some (.int x1)] [.int x1] rfl ⟨rfl, rfl, rfl, rfl⟩ ?_
  refine Wp.z_ne rfl rfl ⟨fun c => ?_, fun c => ?_⟩
  · have H := H.1 c
    refine Wp.go (x := (.iload_n 1, 1, 0, 0)) rfl 9 [some (.ref r0), some (.int x1)] [.int x1] rfl ⟨rfl, rfl, rfl, rfl⟩ ?_
    refine Wp.go (x := (.aload_n 0, 1, 0, 0)) rfl 10 [some (.ref r0), some (.int x1)] [.ref r0, .int x1] rfl ⟨rfl, rfl, rfl, rfl⟩ ?_
    refine Wp.gI rfl rfl hn_r0 rfl ⟨by decide, by decide⟩ ?_
    refine Wp.c_le rfl rfl ⟨fun c => ?_, fun c => ?_⟩
    · have H := H.1 c
      refine Wp.go (x := (.aload_n 0, 1, 0, 0)) rfl 24 [some (.ref r0), some (.int x1)] [.ref r0] rfl ⟨rfl, rfl, rfl, rfl⟩ ?_
      refine Wp.gR rfl rfl hn_r0 rfl rfl hf1 ?_
      refine Wp.go (x := (.iload_n 1, 1, 0, 0)) rfl 28 [some (.ref r0), some (.int x1)] [.int x1, .ref f1] rfl ⟨rfl, rfl, rfl, rfl⟩ ?_
      refine Wp.ic (v := nI 1) rfl rfl (by decide) ?_
      refine Wp.go (x := (.isub, 1, 0, 0)) rfl 30 [some (.ref r0), some (.int x1)] [.int (x1 - (nI 1)), .ref f1] rfl ⟨rfl, rfl, rfl, rfl⟩ ?_
      obtain ⟨j2, e, b, H⟩ := H
      refine Wp.ald rfl rfl hn_f1 (Or.inl rfl) (hK hn_f1) ⟨j2, e, b, ?_⟩
      exact Wp.rI rfl rfl H
    · have H := H.2 c
      refine Wp.go (x := (.aload_n 0, 1, 0, 0)) rfl 17 [some (.ref r0), some (.int x1)] [.ref r0] rfl ⟨rfl, rfl, rfl, rfl⟩ ?_
      refine Wp.gI rfl rfl hn_r0 rfl ⟨by decide, by decide⟩ ?_
      refine Wp.go (x := (.goto 11, 3, 31, 0)) rfl 31 [some (.ref r0), some (.int x1)] [.int (I r0 3)] rfl ⟨rfl, rfl, rfl, rfl⟩ ?_
      exact Wp.rI rfl rfl H
  · have H := H.2 c
    refine Wp.ic (v := nI 0) rfl rfl (by decide) ?_
    refine Wp.go (x := (.goto 26, 3, 31, 0)) rfl 31 [some (.ref r0), some (.int x1)] [.int (nI 0)] rfl ⟨rfl, rfl, rfl, rfl⟩ ?_
    exact Wp.rI rfl rfl H
set_option maxRecDepth 20000 in
theorem wX11_fillBlocks_0 {d : Nat} {Q : Option Value × xS → Prop} {K : Nat → Nat × Nat} {P : List Nat × Nat × Nat} {I : Nat → Nat → Int32} {J : Nat → Nat → Int64} {F : Nat → Nat → Option Nat} {r0 : Nat} {x1 : Int32}  (H : Wp d 155 2 [some (.ref r0), some (.int x1), some (.int (nI 0)), none, none, none, none] [] (K, P, I, J, F) Q) : Wp d 155 0 [some (.ref r0), some (.int x1), none, none, none, none, none] [] (K, P, I, J, F) Q := by
  refine Wp.ic (v := nI 0) rfl rfl (by decide) ?_
  refine Wp.go (x := (.istore_n 2, 1, 0, 0)) rfl 2 [some (.ref r0), some (.int x1), some (.int (nI 0)), none, none, none, none] [] rfl ⟨rfl, rfl, rfl, rfl⟩ ?_
  exact H
set_option maxRecDepth 20000 in
theorem wX11_fillBlocks_2 {d : Nat} {Q : Option Value × xS → Prop} {K : Nat → Nat × Nat} {P : List Nat × Nat × Nat} {I : Nat → Nat → Int32} {J : Nat → Nat → Int64} {F : Nat → Nat → Option Nat} {r0 : Nat} {x1 : Int32} {x2 : Int32} {n_r0 : Nat} (hn_r0 : K r0 = (10, n_r0)) (H : (((I r0 7) < x2 → Q (none, (K, P, I, J, F))) ∧ (¬ (I r0 7) < x2 → Wp d 155 14 [some (.ref r0), some (.int x1), some (.int x2), some (.int (x2 + (nI 1))), none, none, none] [] (K, P, I, J, F) Q))) : Wp d 155 2 [some (.ref r0), some (.int x1), some (.int x2), none, none, none, none] [] (K, P, I, J, F) Q := by
  refine Wp.go (x := (.iload_n 2, 1, 0, 0)) rfl 3 [some (.ref r0), some (.int x1), some (.int x2), none, none, none, none] [.int x2] rfl ⟨rfl, rfl, rfl, rfl⟩ ?_
  refine Wp.go (x := (.aload_n 0, 1, 0, 0)) rfl 4 [some (.ref r0), some (.int x1), some (.int x2), none, none, none, none] [.ref r0, .int x2] rfl ⟨rfl, rfl, rfl, rfl⟩ ?_
  refine Wp.gI rfl rfl hn_r0 rfl ⟨by decide, by decide⟩ ?_
  refine Wp.c_gt rfl rfl ⟨fun c => ?_, fun c => ?_⟩
  · have H := H.1 c
    exact Wp.rV rfl rfl H
  · have H := H.2 c
    refine Wp.go (x := (.iload_n 2, 1, 0, 0)) rfl 11 [some (.ref r0), some (.int x1), some (.int x2), none, none, none, none] [.int x2] rfl ⟨rfl, rfl, rfl, rfl⟩ ?_
    refine Wp.ic (v := nI 1) rfl rfl (by decide) ?_
    refine Wp.go (x := (.iadd, 1, 0, 0)) rfl 13 [some (.ref r0), some (.int x1), some (.int x2), none, none, none, none] [.int (x2 + (nI 1))] rfl ⟨rfl, rfl, rfl, rfl⟩ ?_
    refine Wp.go (x := (.istore_n 3, 1, 0, 0)) rfl 14 [some (.ref r0), some (.int x1), some (.int x2), some (.int (x2 + (nI 1))), none, none, none] [] rfl ⟨rfl, rfl, rfl, rfl⟩ ?_
    exact H
set_option maxRecDepth 20000 in
theorem wX11_fillBlocks_14 {d : Nat} {Q : Option Value × xS → Prop} {K : Nat → Nat × Nat} {P : List Nat × Nat × Nat} {I : Nat → Nat → Int32} {J : Nat → Nat → Int64} {F : Nat → Nat → Option Nat} {r0 : Nat} {x1 : Int32} {x2 : Int32} {x3 : Int32} {n_r0 : Nat} (hn_r0 : K r0 = (10, n_r0)) (H : ((((I r0 7) + (nI 1)) < x3 → Wp d 155 2 [some (.ref r0), some (.int x1), some (.int (x2 + nI 1)), none, none, none, none] [] (K, P, I, J, F) Q) ∧ (¬ ((I r0 7) + (nI 1)) < x3 → Wp d 155 27 [some (.ref r0), some (.int x1), some (.int x2), some (.int x3), some (.int (nI 0)), none, none] [] (K, P, I, J, F) Q))) : Wp d 155 14 [some (.ref r0), some (.int x1), some (.int x2), some (.int x3), none, none, none] [] (K, P, I, J, F) Q := by
  refine Wp.go (x := (.iload_n 3, 1, 0, 0)) rfl 15 [some (.ref r0), some (.int x1), some (.int x2), some (.int x3), none, none, none] [.int x3] rfl ⟨rfl, rfl, rfl, rfl⟩ ?_
  refine Wp.go (x := (.aload_n 0, 1, 0, 0)) rfl 16 [some (.ref r0), some (.int x1), some (.int x2), some (.int x3), none, none, none] [.ref r0, .int x3] rfl ⟨rfl, rfl, rfl, rfl⟩ ?_
  refine Wp.gI rfl rfl hn_r0 rfl ⟨by decide, by decide⟩ ?_
  refine Wp.ic (v := nI 1) rfl rfl (by decide) ?_
  refine Wp.go (x := (.iadd, 1, 0, 0)) rfl 21 [some (.ref r0), some (.int x1), some (.int x2), some (.int x3), none, none, none] [.int ((I r0 7) + (nI 1)), .int x3] rfl ⟨rfl, rfl, rfl, rfl⟩ ?_
  refine Wp.c_gt rfl rfl ⟨fun c => ?_, fun c => ?_⟩
  · have H := H.1 c
    refine Wp.ii (v := nI 1) rfl rfl (by decide) rfl (L' := [some (.ref r0), some (.int x1), some (.int (x2 + nI 1)), some (.int x3), none, none, none]) rfl ?_
    refine Wp.go (x := (.goto (-179), 3, 2, 0)) rfl 2 [some (.ref r0), some (.int x1), some (.int (x2 + nI 1)), some (.int x3), none, none, none] [] rfl ⟨rfl, rfl, rfl, rfl⟩ ?_
    exact Wp.wk (L := [some (.ref r0), some (.int x1), some (.int (x2 + nI 1)), none, none, none, none]) ⟨Or.inr rfl, Or.inr rfl, Or.inr rfl, Or.inl rfl, Or.inr rfl, Or.inr rfl, Or.inr rfl, trivial⟩ H
  · have H := H.2 c
    refine Wp.ic (v := nI 0) rfl rfl (by decide) ?_
    refine Wp.go (x := (.istore 4, 2, 0, 0)) rfl 27 [some (.ref r0), some (.int x1), some (.int x2), some (.int x3), some (.int (nI 0)), none, none] [] rfl ⟨rfl, rfl, rfl, rfl⟩ ?_
    exact H
set_option maxRecDepth 20000 in
theorem wX11_fillBlocks_27 {d : Nat} {Q : Option Value × xS → Prop} {K : Nat → Nat × Nat} {P : List Nat × Nat × Nat} {I : Nat → Nat → Int32} {J : Nat → Nat → Int64} {F : Nat → Nat → Option Nat} {r0 : Nat} {x1 : Int32} {x2 : Int32} {x3 : Int32} {x4 : Int32} {n_r0 : Nat} {f4 : Nat} {n_f4 : Nat} (hK : ∀ {a k n : Nat}, K a = (k, n) → n < 2147483648) (hn_r0 : K r0 = (10, n_r0)) (hf4 : F r0 39 = some f4) (hn_f4 : K f4 = (100, n_f4)) (H : (((nI 256) ≤ x4 → Wp d 154 0 [some (.ref r0), some (.int x2)] [] (K, P, I, J, F) (xrI K P F (fun v1 I2 J3 => Wp (d + 1) 155 56 [some (.ref r0), some (.int x1), some (.int x2), some (.int x3), some (.int v1), none, none] [] (K, P, I2, J3, F) Q))) ∧ (¬ (nI 256) ≤ x4 → (∃ j5 : Nat, x4 = nI j5 ∧ j5 < n_f4 ∧ Wp (d + 1) 155 27 [some (.ref r0), some (.int x1), some (.int x2), some (.int x3), some (.int (x4 + nI 1)), none, none] [] (K, P, (xup I f4 j5 (nI 0)), J, F) Q)))) : Wp (d + 1) 155 27 [some (.ref r0), some (.int x1), some (.int x2), some (.int x3), some (.int x4), none, none] [] (K, P, I, J, F) Q := by
  refine Wp.go (x := (.iload 4, 2, 0, 0)) rfl 29 [some (.ref r0), some (.int x1), some (.int x2), some (.int x3), some (.int x4), none, none] [.int x4] rfl ⟨rfl, rfl, rfl, rfl⟩ ?_
  refine Wp.sp (v := nI 256) rfl rfl (by decide) ?_
  refine Wp.c_ge rfl rfl ⟨fun c => ?_, fun c => ?_⟩
  · have H := H.1 c
    refine Wp.go (x := (.aload_n 0, 1, 0, 0)) rfl 50 [some (.ref r0), some (.int x1), some (.int x2), some (.int x3), some (.int x4), none, none] [.ref r0] rfl ⟨rfl, rfl, rfl, rfl⟩ ?_
    refine Wp.go (x := (.iload_n 2, 1, 0, 0)) rfl 51 [some (.ref r0), some (.int x1), some (.int x2), some (.int x3), some (.int x4), none, none] [.int x2, .ref r0] rfl ⟨rfl, rfl, rfl, rfl⟩ ?_
    refine Wp.kI (x := (.invokevirtual 301, 3, 154, 2)) (j := 154) (vs := [.ref r0, .int x2]) (rest := []) rfl (by show xtg 154 (K r0).1 = _; rw [hn_r0]; rfl) rfl ⟨Nat.le_of_ble_eq_true rfl, Nat.le_of_ble_eq_true rfl, Nat.le_of_ble_eq_true rfl⟩ rfl rfl rfl H (fun v1 I2 J3 H => ?_)
    refine Wp.go (x := (.istore 4, 2, 0, 0)) rfl 56 [some (.ref r0), some (.int x1), some (.int x2), some (.int x3), some (.int v1), none, none] [] rfl ⟨rfl, rfl, rfl, rfl⟩ ?_
    exact H
  · have H := H.2 c
    refine Wp.go (x := (.aload_n 0, 1, 0, 0)) rfl 36 [some (.ref r0), some (.int x1), some (.int x2), some (.int x3), some (.int x4), none, none] [.ref r0] rfl ⟨rfl, rfl, rfl, rfl⟩ ?_
    refine Wp.gR rfl rfl hn_r0 rfl rfl hf4 ?_
    refine Wp.go (x := (.iload 4, 2, 0, 0)) rfl 41 [some (.ref r0), some (.int x1), some (.int x2), some (.int x3), some (.int x4), none, none] [.int x4, .ref f4] rfl ⟨rfl, rfl, rfl, rfl⟩ ?_
    refine Wp.ic (v := nI 0) rfl rfl (by decide) ?_
    obtain ⟨j5, e, b, H⟩ := H
    refine Wp.ast rfl rfl hn_f4 (hK hn_f4) ⟨j5, e, b, ?_⟩
    refine Wp.ii (v := nI 1) rfl rfl (by decide) rfl (L' := [some (.ref r0), some (.int x1), some (.int x2), some (.int x3), some (.int (x4 + nI 1)), none, none]) rfl ?_
    refine Wp.go (x := (.goto (-19), 3, 27, 0)) rfl 27 [some (.ref r0), some (.int x1), some (.int x2), some (.int x3), some (.int (x4 + nI 1)), none, none] [] rfl ⟨rfl, rfl, rfl, rfl⟩ ?_
    exact H
set_option maxRecDepth 20000 in
theorem wX11_fillBlocks_56 {d : Nat} {Q : Option Value × xS → Prop} {K : Nat → Nat × Nat} {P : List Nat × Nat × Nat} {I : Nat → Nat → Int32} {J : Nat → Nat → Int64} {F : Nat → Nat → Option Nat} {r0 : Nat} {x1 : Int32} {x2 : Int32} {x3 : Int32} {x4 : Int32} {n_r0 : Nat} {f4 : Nat} {f5 : Nat} {n_f5 : Nat} {n_f4 : Nat} (hK : ∀ {a k n : Nat}, K a = (k, n) → n < 2147483648) (hn_r0 : K r0 = (10, n_r0)) (hf4 : F r0 39 = some f4) (hf5 : F r0 2 = some f5) (hn_f5 : K f5 = (100, n_f5)) (hn_f4 : K f4 = (100, n_f4)) (H : Wp d 154 0 [some (.ref r0), some (.int x3)] [] (K, P, I, J, F) (xrI K P F (fun v1 I2 J3 => ((v1 ≤ x4 → Wp (d + 1) 155 95 [some (.ref r0), some (.int x1), some (.int x2), some (.int x3), some (.long x1.toInt64), none, some (.int (nI 0))] [] (K, P, I2, J3, F) Q) ∧ (¬ v1 ≤ x4 → (∃ j6 : Nat, x4 = nI j6 ∧ j6 < n_f5 ∧ (∃ j7 : Nat, (I2 f5 j6) = nI j7 ∧ j7 < n_f4 ∧ (∃ j8 : Nat, (I2 f5 j6) = nI j8 ∧ j8 < n_f4 ∧ Wp (d + 1) 155 56 [some (.ref r0), some (.int x1), some (.int x2), some (.int x3), some (.int (x4 + nI 1)), none, none] [] (K, P, (xup I2 f4 j8 ((I2 f4 j7) + (nI 1))), J3, F) Q)))))))) : Wp (d + 1) 155 56 [some (.ref r0), some (.int x1), some (.int x2), some (.int x3), some (.int x4), none, none] [] (K, P, I, J, F) Q := by
  refine Wp.go (x := (.iload 4, 2, 0, 0)) rfl 58 [some (.ref r0), some (.int x1), some (.int x2), some (.int x3), some (.int x4), none, none] [.int x4] rfl ⟨rfl, rfl, rfl, rfl⟩ ?_
  refine Wp.go (x := (.aload_n 0, 1, 0, 0)) rfl 59 [some (.ref r0), some (.int x1), some (.int x2), some (.int x3), some (.int x4), none, none] [.ref r0, .int x4] rfl ⟨rfl, rfl, rfl, rfl⟩ ?_
  refine Wp.go (x := (.iload_n 3, 1, 0, 0)) rfl 60 [some (.ref r0), some (.int x1), some (.int x2), some (.int x3), some (.int x4), none, none] [.int x3, .ref r0, .int x4] rfl ⟨rfl, rfl, rfl, rfl⟩ ?_
  refine Wp.kI (x := (.invokevirtual 301, 3, 154, 2)) (j := 154) (vs := [.ref r0, .int x3]) (rest := [.int x4]) rfl (by show xtg 154 (K r0).1 = _; rw [hn_r0]; rfl) rfl ⟨Nat.le_of_ble_eq_true rfl, Nat.le_of_ble_eq_true rfl, Nat.le_of_ble_eq_true rfl⟩ rfl rfl rfl H (fun v1 I2 J3 H => ?_)
  refine Wp.c_ge rfl rfl ⟨fun c => ?_, fun c => ?_⟩
  · have H := H.1 c
    refine Wp.go (x := (.iload_n 1, 1, 0, 0)) rfl 89 [some (.ref r0), some (.int x1), some (.int x2), some (.int x3), some (.int x4), none, none] [.int x1] rfl ⟨rfl, rfl, rfl, rfl⟩ ?_
    refine Wp.go (x := (.i2l, 1, 0, 0)) rfl 90 [some (.ref r0), some (.int x1), some (.int x2), some (.int x3), some (.int x4), none, none] [.long x1.toInt64] rfl ⟨rfl, rfl, rfl, rfl⟩ ?_
    refine Wp.go (x := (.lstore 4, 2, 0, 0)) rfl 92 [some (.ref r0), some (.int x1), some (.int x2), some (.int x3), some (.long x1.toInt64), none, none] [] rfl ⟨rfl, rfl, rfl, rfl⟩ ?_
    refine Wp.ic (v := nI 0) rfl rfl (by decide) ?_
    refine Wp.go (x := (.istore 6, 2, 0, 0)) rfl 95 [some (.ref r0), some (.int x1), some (.int x2), some (.int x3), some (.long x1.toInt64), none, some (.int (nI 0))] [] rfl ⟨rfl, rfl, rfl, rfl⟩ ?_
    exact H
  · have H := H.2 c
    refine Wp.go (x := (.aload_n 0, 1, 0, 0)) rfl 67 [some (.ref r0), some (.int x1), some (.int x2), some (.int x3), some (.int x4), none, none] [.ref r0] rfl ⟨rfl, rfl, rfl, rfl⟩ ?_
    refine Wp.gR rfl rfl hn_r0 rfl rfl hf4 ?_
    refine Wp.go (x := (.aload_n 0, 1, 0, 0)) rfl 71 [some (.ref r0), some (.int x1), some (.int x2), some (.int x3), some (.int x4), none, none] [.ref r0, .ref f4] rfl ⟨rfl, rfl, rfl, rfl⟩ ?_
    refine Wp.gR rfl rfl hn_r0 rfl rfl hf5 ?_
    refine Wp.go (x := (.iload 4, 2, 0, 0)) rfl 76 [some (.ref r0), some (.int x1), some (.int x2), some (.int x3), some (.int x4), none, none] [.int x4, .ref f5, .ref f4] rfl ⟨rfl, rfl, rfl, rfl⟩ ?_
    obtain ⟨j6, e, b, H⟩ := H
    refine Wp.ald rfl rfl hn_f5 (Or.inl rfl) (hK hn_f5) ⟨j6, e, b, ?_⟩
    refine Wp.go (x := (.dup2, 1, 0, 0)) rfl 78 [some (.ref r0), some (.int x1), some (.int x2), some (.int x3), some (.int x4), none, none] [.int (I2 f5 j6), .ref f4, .int (I2 f5 j6), .ref f4] rfl ⟨rfl, rfl, rfl, rfl⟩ ?_
    obtain ⟨j7, e, b, H⟩ := H
    refine Wp.ald rfl rfl hn_f4 (Or.inl rfl) (hK hn_f4) ⟨j7, e, b, ?_⟩
    refine Wp.ic (v := nI 1) rfl rfl (by decide) ?_
    refine Wp.go (x := (.iadd, 1, 0, 0)) rfl 81 [some (.ref r0), some (.int x1), some (.int x2), some (.int x3), some (.int x4), none, none] [.int ((I2 f4 j7) + (nI 1)), .int (I2 f5 j6), .ref f4] rfl ⟨rfl, rfl, rfl, rfl⟩ ?_
    obtain ⟨j8, e, b, H⟩ := H
    refine Wp.ast rfl rfl hn_f4 (hK hn_f4) ⟨j8, e, b, ?_⟩
    refine Wp.ii (v := nI 1) rfl rfl (by decide) rfl (L' := [some (.ref r0), some (.int x1), some (.int x2), some (.int x3), some (.int (x4 + nI 1)), none, none]) rfl ?_
    refine Wp.go (x := (.goto (-29), 3, 56, 0)) rfl 56 [some (.ref r0), some (.int x1), some (.int x2), some (.int x3), some (.int (x4 + nI 1)), none, none] [] rfl ⟨rfl, rfl, rfl, rfl⟩ ?_
    exact H
set_option maxRecDepth 20000 in
theorem wX11_fillBlocks_95 {d : Nat} {Q : Option Value × xS → Prop} {K : Nat → Nat × Nat} {P : List Nat × Nat × Nat} {I : Nat → Nat → Int32} {J : Nat → Nat → Int64} {F : Nat → Nat → Option Nat} {r0 : Nat} {x1 : Int32} {x2 : Int32} {x3 : Int32} {y4 : Int64} {x6 : Int32} {n_r0 : Nat} {f1 : Nat} {n_f1 : Nat} {f3 : Nat} {n_f3 : Nat} (hK : ∀ {a k n : Nat}, K a = (k, n) → n < 2147483648) (hn_r0 : K r0 = (10, n_r0)) (hf1 : F r0 46 = some f1) (hn_f1 : K f1 = (101, n_f1)) (hf3 : F r0 39 = some f3) (hn_f3 : K f3 = (100, n_f3)) (H : (((nI 256) ≤ x6 → (∃ j2 : Nat, (((nI 14) * x2) + x3) = nI j2 ∧ j2 < n_f1 ∧ Wp (d + 1) 155 14 [some (.ref r0), some (.int x1), some (.int x2), some (.int (x3 + nI 1)), none, none, none] [] (K, P, I, (xup J f1 j2 y4), F) Q)) ∧ (¬ (nI 256) ≤ x6 → (∃ j4 : Nat, x6 = nI j4 ∧ j4 < n_f3 ∧ (((I f3 j4) ≤ 0 → Wp (d + 1) 155 95 [some (.ref r0), some (.int x1), some (.int x2), some (.int x3), some (.long y4), none, some (.int (x6 + nI 1))] [] (K, P, I, J, F) Q) ∧ (¬ (I f3 j4) ≤ 0 → (∃ j5 : Nat, x6 = nI j5 ∧ j5 < n_f3 ∧ Wp d 154 0 [some (.ref r0), some (.int x3)] [] (K, P, I, J, F) (xrI K P F (fun v6 I7 J8 => Wp d 154 0 [some (.ref r0), some (.int x2)] [] (K, P, I7, J8, F) (xrI K P F (fun v9 I10 J11 => Wp d 143 0 [some (.int (v6 - v9)), none] [] (K, P, I10, J11, F) (xrI K P F (fun v12 I13 J14 => (∃ j15 : Nat, x6 = nI j15 ∧ j15 < n_f3 ∧ Wp d 143 0 [some (.int (I13 f3 j15)), none] [] (K, P, I13, J14, F) (xrI K P F (fun v16 I17 J18 => Wp (d + 1) 155 95 [some (.ref r0), some (.int x1), some (.int x2), some (.int x3), some (.long (y4 + (((I f3 j5).toInt64) * ((v12 - v16).toInt64)))), none, some (.int (x6 + nI 1))] [] (K, P, I17, J18, F) Q)))))))))))))))) : Wp (d + 1) 155 95 [some (.ref r0), some (.int x1), some (.int x2), some (.int x3), some (.long y4), none, some (.int x6)] [] (K, P, I, J, F) Q := by
  refine Wp.go (x := (.iload 6, 2, 0, 0)) rfl 97 [some (.ref r0), some (.int x1), some (.int x2), some (.int x3), some (.long y4), none, some (.int x6)] [.int x6] rfl ⟨rfl, rfl, rfl, rfl⟩ ?_
  refine Wp.sp (v := nI 256) rfl rfl (by decide) ?_
  refine Wp.c_ge rfl rfl ⟨fun c => ?_, fun c => ?_⟩
  · have H := H.1 c
    refine Wp.go (x := (.aload_n 0, 1, 0, 0)) rfl 160 [some (.ref r0), some (.int x1), some (.int x2), some (.int x3), some (.long y4), none, some (.int x6)] [.ref r0] rfl ⟨rfl, rfl, rfl, rfl⟩ ?_
    refine Wp.gR rfl rfl hn_r0 rfl rfl hf1 ?_
    refine Wp.bp (v := nI 14) rfl rfl (by decide) ?_
    refine Wp.go (x := (.iload_n 2, 1, 0, 0)) rfl 166 [some (.ref r0), some (.int x1), some (.int x2), some (.int x3), some (.long y4), none, some (.int x6)] [.int x2, .int (nI 14), .ref f1] rfl ⟨rfl, rfl, rfl, rfl⟩ ?_
    refine Wp.go (x := (.imul, 1, 0, 0)) rfl 167 [some (.ref r0), some (.int x1), some (.int x2), some (.int x3), some (.long y4), none, some (.int x6)] [.int ((nI 14) * x2), .ref f1] rfl ⟨rfl, rfl, rfl, rfl⟩ ?_
    refine Wp.go (x := (.iload_n 3, 1, 0, 0)) rfl 168 [some (.ref r0), some (.int x1), some (.int x2), some (.int x3), some (.long y4), none, some (.int x6)] [.int x3, .int ((nI 14) * x2), .ref f1] rfl ⟨rfl, rfl, rfl, rfl⟩ ?_
    refine Wp.go (x := (.iadd, 1, 0, 0)) rfl 169 [some (.ref r0), some (.int x1), some (.int x2), some (.int x3), some (.long y4), none, some (.int x6)] [.int (((nI 14) * x2) + x3), .ref f1] rfl ⟨rfl, rfl, rfl, rfl⟩ ?_
    refine Wp.go (x := (.lload 4, 2, 0, 0)) rfl 171 [some (.ref r0), some (.int x1), some (.int x2), some (.int x3), some (.long y4), none, some (.int x6)] [.long y4, .int (((nI 14) * x2) + x3), .ref f1] rfl ⟨rfl, rfl, rfl, rfl⟩ ?_
    obtain ⟨j2, e, b, H⟩ := H
    refine Wp.lst rfl rfl hn_f1 (hK hn_f1) ⟨j2, e, b, ?_⟩
    refine Wp.ii (v := nI 1) rfl rfl (by decide) rfl (L' := [some (.ref r0), some (.int x1), some (.int x2), some (.int (x3 + nI 1)), some (.long y4), none, some (.int x6)]) rfl ?_
    refine Wp.go (x := (.goto (-161), 3, 14, 0)) rfl 14 [some (.ref r0), some (.int x1), some (.int x2), some (.int (x3 + nI 1)), some (.long y4), none, some (.int x6)] [] rfl ⟨rfl, rfl, rfl, rfl⟩ ?_
    exact Wp.wk (L := [some (.ref r0), some (.int x1), some (.int x2), some (.int (x3 + nI 1)), none, none, none]) ⟨Or.inr rfl, Or.inr rfl, Or.inr rfl, Or.inr rfl, Or.inl rfl, Or.inr rfl, Or.inl rfl, trivial⟩ H
  · have H := H.2 c
    refine Wp.go (x := (.aload_n 0, 1, 0, 0)) rfl 104 [some (.ref r0), some (.int x1), some (.int x2), some (.int x3), some (.long y4), none, some (.int x6)] [.ref r0] rfl ⟨rfl, rfl, rfl, rfl⟩ ?_
    refine Wp.gR rfl rfl hn_r0 rfl rfl hf3 ?_
    refine Wp.go (x := (.iload 6, 2, 0, 0)) rfl 109 [some (.ref r0), some (.int x1), some (.int x2), some (.int x3), some (.long y4), none, some (.int x6)] [.int x6, .ref f3] rfl ⟨rfl, rfl, rfl, rfl⟩ ?_
    obtain ⟨j4, e, b, H⟩ := H
    refine Wp.ald rfl rfl hn_f3 (Or.inl rfl) (hK hn_f3) ⟨j4, e, b, ?_⟩
    refine Wp.z_le rfl rfl ⟨fun c => ?_, fun c => ?_⟩
    · have H := H.1 c
      refine Wp.ii (v := nI 1) rfl rfl (by decide) rfl (L' := [some (.ref r0), some (.int x1), some (.int x2), some (.int x3), some (.long y4), none, some (.int (x6 + nI 1))]) rfl ?_
      refine Wp.go (x := (.goto (-61), 3, 95, 0)) rfl 95 [some (.ref r0), some (.int x1), some (.int x2), some (.int x3), some (.long y4), none, some (.int (x6 + nI 1))] [] rfl ⟨rfl, rfl, rfl, rfl⟩ ?_
      exact H
    · have H := H.2 c
      refine Wp.go (x := (.lload 4, 2, 0, 0)) rfl 115 [some (.ref r0), some (.int x1), some (.int x2), some (.int x3), some (.long y4), none, some (.int x6)] [.long y4] rfl ⟨rfl, rfl, rfl, rfl⟩ ?_
      refine Wp.go (x := (.aload_n 0, 1, 0, 0)) rfl 116 [some (.ref r0), some (.int x1), some (.int x2), some (.int x3), some (.long y4), none, some (.int x6)] [.ref r0, .long y4] rfl ⟨rfl, rfl, rfl, rfl⟩ ?_
      refine Wp.gR rfl rfl hn_r0 rfl rfl hf3 ?_
      refine Wp.go (x := (.iload 6, 2, 0, 0)) rfl 121 [some (.ref r0), some (.int x1), some (.int x2), some (.int x3), some (.long y4), none, some (.int x6)] [.int x6, .ref f3, .long y4] rfl ⟨rfl, rfl, rfl, rfl⟩ ?_
      obtain ⟨j5, e, b, H⟩ := H
      refine Wp.ald rfl rfl hn_f3 (Or.inl rfl) (hK hn_f3) ⟨j5, e, b, ?_⟩
      refine Wp.go (x := (.i2l, 1, 0, 0)) rfl 123 [some (.ref r0), some (.int x1), some (.int x2), some (.int x3), some (.long y4), none, some (.int x6)] [.long ((I f3 j5).toInt64), .long y4] rfl ⟨rfl, rfl, rfl, rfl⟩ ?_
      refine Wp.go (x := (.aload_n 0, 1, 0, 0)) rfl 124 [some (.ref r0), some (.int x1), some (.int x2), some (.int x3), some (.long y4), none, some (.int x6)] [.ref r0, .long ((I f3 j5).toInt64), .long y4] rfl ⟨rfl, rfl, rfl, rfl⟩ ?_
      refine Wp.go (x := (.iload_n 3, 1, 0, 0)) rfl 125 [some (.ref r0), some (.int x1), some (.int x2), some (.int x3), some (.long y4), none, some (.int x6)] [.int x3, .ref r0, .long ((I f3 j5).toInt64), .long y4] rfl ⟨rfl, rfl, rfl, rfl⟩ ?_
      refine Wp.kI (x := (.invokevirtual 301, 3, 154, 2)) (j := 154) (vs := [.ref r0, .int x3]) (rest := [.long ((I f3 j5).toInt64), .long y4]) rfl (by show xtg 154 (K r0).1 = _; rw [hn_r0]; rfl) rfl ⟨Nat.le_of_ble_eq_true rfl, Nat.le_of_ble_eq_true rfl, Nat.le_of_ble_eq_true rfl⟩ rfl rfl rfl H (fun v6 I7 J8 H => ?_)
      refine Wp.go (x := (.aload_n 0, 1, 0, 0)) rfl 129 [some (.ref r0), some (.int x1), some (.int x2), some (.int x3), some (.long y4), none, some (.int x6)] [.ref r0, .int v6, .long ((I f3 j5).toInt64), .long y4] rfl ⟨rfl, rfl, rfl, rfl⟩ ?_
      refine Wp.go (x := (.iload_n 2, 1, 0, 0)) rfl 130 [some (.ref r0), some (.int x1), some (.int x2), some (.int x3), some (.long y4), none, some (.int x6)] [.int x2, .ref r0, .int v6, .long ((I f3 j5).toInt64), .long y4] rfl ⟨rfl, rfl, rfl, rfl⟩ ?_
      refine Wp.kI (x := (.invokevirtual 301, 3, 154, 2)) (j := 154) (vs := [.ref r0, .int x2]) (rest := [.int v6, .long ((I f3 j5).toInt64), .long y4]) rfl (by show xtg 154 (K r0).1 = _; rw [hn_r0]; rfl) rfl ⟨Nat.le_of_ble_eq_true rfl, Nat.le_of_ble_eq_true rfl, Nat.le_of_ble_eq_true rfl⟩ rfl rfl rfl H (fun v9 I10 J11 H => ?_)
      refine Wp.go (x := (.isub, 1, 0, 0)) rfl 134 [some (.ref r0), some (.int x1), some (.int x2), some (.int x3), some (.long y4), none, some (.int x6)] [.int (v6 - v9), .long ((I f3 j5).toInt64), .long y4] rfl ⟨rfl, rfl, rfl, rfl⟩ ?_
      refine Wp.kI (x := (.invokestatic 290, 3, 143, 1)) (j := 143) (vs := [.int (v6 - v9)]) (rest := [.long ((I f3 j5).toInt64), .long y4]) rfl rfl rfl ⟨Nat.le_of_ble_eq_true rfl, Nat.le_of_ble_eq_true rfl, Nat.le_of_ble_eq_true rfl⟩ rfl rfl rfl H (fun v12 I13 J14 H => ?_)
      refine Wp.go (x := (.aload_n 0, 1, 0, 0)) rfl 138 [some (.ref r0), some (.int x1), some (.int x2), some (.int x3), some (.long y4), none, some (.int x6)] [.ref r0, .int v12, .long ((I f3 j5).toInt64), .long y4] rfl ⟨rfl, rfl, rfl, rfl⟩ ?_
      refine Wp.gR rfl rfl hn_r0 rfl rfl hf3 ?_
      refine Wp.go (x := (.iload 6, 2, 0, 0)) rfl 143 [some (.ref r0), some (.int x1), some (.int x2), some (.int x3), some (.long y4), none, some (.int x6)] [.int x6, .ref f3, .int v12, .long ((I f3 j5).toInt64), .long y4] rfl ⟨rfl, rfl, rfl, rfl⟩ ?_
      obtain ⟨j15, e, b, H⟩ := H
      refine Wp.ald rfl rfl hn_f3 (Or.inl rfl) (hK hn_f3) ⟨j15, e, b, ?_⟩
      refine Wp.kI (x := (.invokestatic 290, 3, 143, 1)) (j := 143) (vs := [.int (I13 f3 j15)]) (rest := [.int v12, .long ((I f3 j5).toInt64), .long y4]) rfl rfl rfl ⟨Nat.le_of_ble_eq_true rfl, Nat.le_of_ble_eq_true rfl, Nat.le_of_ble_eq_true rfl⟩ rfl rfl rfl H (fun v16 I17 J18 H => ?_)
      refine Wp.go (x := (.isub, 1, 0, 0)) rfl 148 [some (.ref r0), some (.int x1), some (.int x2), some (.int x3), some (.long y4), none, some (.int x6)] [.int (v12 - v16), .long ((I f3 j5).toInt64), .long y4] rfl ⟨rfl, rfl, rfl, rfl⟩ ?_
      refine Wp.go (x := (.i2l, 1, 0, 0)) rfl 149 [some (.ref r0), some (.int x1), some (.int x2), some (.int x3), some (.long y4), none, some (.int x6)] [.long ((v12 - v16).toInt64), .long ((I f3 j5).toInt64), .long y4] rfl ⟨rfl, rfl, rfl, rfl⟩ ?_
      refine Wp.go (x := (.lmul, 1, 0, 0)) rfl 150 [some (.ref r0), some (.int x1), some (.int x2), some (.int x3), some (.long y4), none, some (.int x6)] [.long (((I f3 j5).toInt64) * ((v12 - v16).toInt64)), .long y4] rfl ⟨rfl, rfl, rfl, rfl⟩ ?_
      refine Wp.go (x := (.ladd, 1, 0, 0)) rfl 151 [some (.ref r0), some (.int x1), some (.int x2), some (.int x3), some (.long y4), none, some (.int x6)] [.long (y4 + (((I f3 j5).toInt64) * ((v12 - v16).toInt64)))] rfl ⟨rfl, rfl, rfl, rfl⟩ ?_
      refine Wp.go (x := (.lstore 4, 2, 0, 0)) rfl 153 [some (.ref r0), some (.int x1), some (.int x2), some (.int x3), some (.long (y4 + (((I f3 j5).toInt64) * ((v12 - v16).toInt64)))), none, some (.int x6)] [] rfl ⟨rfl, rfl, rfl, rfl⟩ ?_
      refine Wp.ii (v := nI 1) rfl rfl (by decide) rfl (L' := [some (.ref r0), some (.int x1), some (.int x2), some (.int x3), some (.long (y4 + (((I f3 j5).toInt64) * ((v12 - v16).toInt64)))), none, some (.int (x6 + nI 1))]) rfl ?_
      refine Wp.go (x := (.goto (-61), 3, 95, 0)) rfl 95 [some (.ref r0), some (.int x1), some (.int x2), some (.int x3), some (.long (y4 + (((I f3 j5).toInt64) * ((v12 - v16).toInt64)))), none, some (.int (x6 + nI 1))] [] rfl ⟨rfl, rfl, rfl, rfl⟩ ?_
      exact H
set_option maxRecDepth 20000 in
theorem wX11_setCost_0 {d : Nat} {Q : Option Value × xS → Prop} {K : Nat → Nat × Nat} {P : List Nat × Nat × Nat} {I : Nat → Nat → Int32} {J : Nat → Nat → Int64} {F : Nat → Nat → Option Nat} {r0 : Nat} {x1 : Int32}  (H : Wp d 156 8 [some (.ref r0), some (.int x1), some (.long (lN 0)), none, some (.int (nI 0)), some (.int (nI 1))] [] (K, P, I, J, F) Q) : Wp d 156 0 [some (.ref r0), some (.int x1), none, none, none, none] [] (K, P, I, J, F) Q := by
  refine Wp.lc (v := lN 0) rfl rfl (by first | rfl | decide) ?_
  refine Wp.go (x := (.lstore_n 2, 1, 0, 0)) rfl 2 [some (.ref r0), some (.int x1), some (.long (lN 0)), none, none, none] [] rfl ⟨rfl, rfl, rfl, rfl⟩ ?_
  refine Wp.ic (v := nI 0) rfl rfl (by decide) ?_
  refine Wp.go (x := (.istore 4, 2, 0, 0)) rfl 5 [some (.ref r0), some (.int x1), some (.long (lN 0)), none, some (.int (nI 0)), none] [] rfl ⟨rfl, rfl, rfl, rfl⟩ ?_
  refine Wp.ic (v := nI 1) rfl rfl (by decide) ?_
  refine Wp.go (x := (.istore 5, 2, 0, 0)) rfl 8 [some (.ref r0), some (.int x1), some (.long (lN 0)), none, some (.int (nI 0)), some (.int (nI 1))] [] rfl ⟨rfl, rfl, rfl, rfl⟩ ?_
  exact H
set_option maxRecDepth 20000 in
theorem wX11_setCost_8 {d : Nat} {Q : Option Value × xS → Prop} {K : Nat → Nat × Nat} {P : List Nat × Nat × Nat} {I : Nat → Nat → Int32} {J : Nat → Nat → Int64} {F : Nat → Nat → Option Nat} {r0 : Nat} {x1 : Int32} {y2 : Int64} {x4 : Int32} {x5 : Int32} {n_r0 : Nat} (hn_r0 : K r0 = (10, n_r0)) (H : ((((I r0 7) + (nI 1)) < x5 → Q (some (.long y2), (K, P, I, J, F))) ∧ (¬ ((I r0 7) + (nI 1)) < x5 → (((I r0 7) < x5 → Wp d 156 40 [some (.ref r0), some (.int x1), some (.long y2), none, some (.int x4), some (.int x5)] [] (K, P, I, J, F) Q) ∧ (¬ (I r0 7) < x5 → ((¬ ((x1 >>> ((x5 - (nI 1)) &&& 31)) &&& (nI 1)) = (nI 1) → Wp d 156 8 [some (.ref r0), some (.int x1), some (.long y2), none, some (.int x4), some (.int (x5 + nI 1))] [] (K, P, I, J, F) Q) ∧ (((x1 >>> ((x5 - (nI 1)) &&& 31)) &&& (nI 1)) = (nI 1) → Wp d 156 40 [some (.ref r0), some (.int x1), some (.long y2), none, some (.int x4), some (.int x5)] [] (K, P, I, J, F) Q))))))) : Wp d 156 8 [some (.ref r0), some (.int x1), some (.long y2), none, some (.int x4), some (.int x5)] [] (K, P, I, J, F) Q := by
  refine Wp.go (x := (.iload 5, 2, 0, 0)) rfl 10 [some (.ref r0), some (.int x1), some (.long y2), none, some (.int x4), some (.int x5)] [.int x5] rfl ⟨rfl, rfl, rfl, rfl⟩ ?_
  refine Wp.go (x := (.aload_n 0, 1, 0, 0)) rfl 11 [some (.ref r0), some (.int x1), some (.long y2), none, some (.int x4), some (.int x5)] [.ref r0, .int x5] rfl ⟨rfl, rfl, rfl, rfl⟩ ?_
  refine Wp.gI rfl rfl hn_r0 rfl ⟨by decide, by decide⟩ ?_
  refine Wp.ic (v := nI 1) rfl rfl (by decide) ?_
  refine Wp.go (x := (.iadd, 1, 0, 0)) rfl 16 [some (.ref r0), some (.int x1), some (.long y2), none, some (.int x4), some (.int x5)] [.int ((I r0 7) + (nI 1)), .int x5] rfl ⟨rfl, rfl, rfl, rfl⟩ ?_
  refine Wp.c_gt rfl rfl ⟨fun c => ?_, fun c => ?_⟩
  · have H := H.1 c
    refine Wp.go (x := (.lload_n 2, 1, 0, 0)) rfl 67 [some (.ref r0), some (.int x1), some (.long y2), none, some (.int x4), some (.int x5)] [.long y2] rfl ⟨rfl, rfl, rfl, rfl⟩ ?_
    exact Wp.rJ rfl rfl H
  · have H := H.2 c
    refine Wp.go (x := (.iload 5, 2, 0, 0)) rfl 21 [some (.ref r0), some (.int x1), some (.long y2), none, some (.int x4), some (.int x5)] [.int x5] rfl ⟨rfl, rfl, rfl, rfl⟩ ?_
    refine Wp.go (x := (.aload_n 0, 1, 0, 0)) rfl 22 [some (.ref r0), some (.int x1), some (.long y2), none, some (.int x4), some (.int x5)] [.ref r0, .int x5] rfl ⟨rfl, rfl, rfl, rfl⟩ ?_
    refine Wp.gI rfl rfl hn_r0 rfl ⟨by decide, by decide⟩ ?_
    refine Wp.c_gt rfl rfl ⟨fun c => ?_, fun c => ?_⟩
    · have H := H.1 c
      exact H
    · have H := H.2 c
      refine Wp.go (x := (.iload_n 1, 1, 0, 0)) rfl 29 [some (.ref r0), some (.int x1), some (.long y2), none, some (.int x4), some (.int x5)] [.int x1] rfl ⟨rfl, rfl, rfl, rfl⟩ ?_
      refine Wp.go (x := (.iload 5, 2, 0, 0)) rfl 31 [some (.ref r0), some (.int x1), some (.long y2), none, some (.int x4), some (.int x5)] [.int x5, .int x1] rfl ⟨rfl, rfl, rfl, rfl⟩ ?_
      refine Wp.ic (v := nI 1) rfl rfl (by decide) ?_
      refine Wp.go (x := (.isub, 1, 0, 0)) rfl 33 [some (.ref r0), some (.int x1), some (.long y2), none, some (.int x4), some (.int x5)] [.int (x5 - (nI 1)), .int x1] rfl ⟨rfl, rfl, rfl, rfl⟩ ?_
      refine Wp.go (x := (.ishr, 1, 0, 0)) rfl 34 [some (.ref r0), some (.int x1), some (.long y2), none, some (.int x4), some (.int x5)] [.int (x1 >>> ((x5 - (nI 1)) &&& 31))] rfl ⟨rfl, rfl, rfl, rfl⟩ ?_
      refine Wp.ic (v := nI 1) rfl rfl (by decide) ?_
      refine Wp.go (x := (.iand, 1, 0, 0)) rfl 36 [some (.ref r0), some (.int x1), some (.long y2), none, some (.int x4), some (.int x5)] [.int ((x1 >>> ((x5 - (nI 1)) &&& 31)) &&& (nI 1))] rfl ⟨rfl, rfl, rfl, rfl⟩ ?_
      refine Wp.ic (v := nI 1) rfl rfl (by decide) ?_
      refine Wp.c_ne rfl rfl ⟨fun c => ?_, fun c => ?_⟩
      · have H := H.1 c
        refine Wp.ii (v := nI 1) rfl rfl (by decide) rfl (L' := [some (.ref r0), some (.int x1), some (.long y2), none, some (.int x4), some (.int (x5 + nI 1))]) rfl ?_
        refine Wp.go (x := (.goto (-55), 3, 8, 0)) rfl 8 [some (.ref r0), some (.int x1), some (.long y2), none, some (.int x4), some (.int (x5 + nI 1))] [] rfl ⟨rfl, rfl, rfl, rfl⟩ ?_
        exact H
      · have H := H.2 c
        exact H
set_option maxRecDepth 20000 in
theorem wX11_setCost_40 {d : Nat} {Q : Option Value × xS → Prop} {K : Nat → Nat × Nat} {P : List Nat × Nat × Nat} {I : Nat → Nat → Int32} {J : Nat → Nat → Int64} {F : Nat → Nat → Option Nat} {r0 : Nat} {x1 : Int32} {y2 : Int64} {x4 : Int32} {x5 : Int32} {n_r0 : Nat} {f1 : Nat} {n_f1 : Nat} (hK : ∀ {a k n : Nat}, K a = (k, n) → n < 2147483648) (hn_r0 : K r0 = (10, n_r0)) (hf1 : F r0 46 = some f1) (hn_f1 : K f1 = (101, n_f1)) (H : (∃ j2 : Nat, (((nI 14) * x4) + x5) = nI j2 ∧ j2 < n_f1 ∧ Wp d 156 8 [some (.ref r0), some (.int x1), some (.long (y2 + (J f1 j2))), none, some (.int x5), some (.int (x5 + nI 1))] [] (K, P, I, J, F) Q)) : Wp d 156 40 [some (.ref r0), some (.int x1), some (.long y2), none, some (.int x4), some (.int x5)] [] (K, P, I, J, F) Q := by
  refine Wp.go (x := (.lload_n 2, 1, 0, 0)) rfl 41 [some (.ref r0), some (.int x1), some (.long y2), none, some (.int x4), some (.int x5)] [.long y2] rfl ⟨rfl, rfl, rfl, rfl⟩ ?_
  refine Wp.go (x := (.aload_n 0, 1, 0, 0)) rfl 42 [some (.ref r0), some (.int x1), some (.long y2), none, some (.int x4), some (.int x5)] [.ref r0, .long y2] rfl ⟨rfl, rfl, rfl, rfl⟩ ?_
  refine Wp.gR rfl rfl hn_r0 rfl rfl hf1 ?_
  refine Wp.bp (v := nI 14) rfl rfl (by decide) ?_
  refine Wp.go (x := (.iload 4, 2, 0, 0)) rfl 49 [some (.ref r0), some (.int x1), some (.long y2), none, some (.int x4), some (.int x5)] [.int x4, .int (nI 14), .ref f1, .long y2] rfl ⟨rfl, rfl, rfl, rfl⟩ ?_
  refine Wp.go (x := (.imul, 1, 0, 0)) rfl 50 [some (.ref r0), some (.int x1), some (.long y2), none, some (.int x4), some (.int x5)] [.int ((nI 14) * x4), .ref f1, .long y2] rfl ⟨rfl, rfl, rfl, rfl⟩ ?_
  refine Wp.go (x := (.iload 5, 2, 0, 0)) rfl 52 [some (.ref r0), some (.int x1), some (.long y2), none, some (.int x4), some (.int x5)] [.int x5, .int ((nI 14) * x4), .ref f1, .long y2] rfl ⟨rfl, rfl, rfl, rfl⟩ ?_
  refine Wp.go (x := (.iadd, 1, 0, 0)) rfl 53 [some (.ref r0), some (.int x1), some (.long y2), none, some (.int x4), some (.int x5)] [.int (((nI 14) * x4) + x5), .ref f1, .long y2] rfl ⟨rfl, rfl, rfl, rfl⟩ ?_
  obtain ⟨j2, e, b, H⟩ := H
  refine Wp.lld rfl rfl hn_f1 (hK hn_f1) ⟨j2, e, b, ?_⟩
  refine Wp.go (x := (.ladd, 1, 0, 0)) rfl 55 [some (.ref r0), some (.int x1), some (.long y2), none, some (.int x4), some (.int x5)] [.long (y2 + (J f1 j2))] rfl ⟨rfl, rfl, rfl, rfl⟩ ?_
  refine Wp.go (x := (.lstore_n 2, 1, 0, 0)) rfl 56 [some (.ref r0), some (.int x1), some (.long (y2 + (J f1 j2))), none, some (.int x4), some (.int x5)] [] rfl ⟨rfl, rfl, rfl, rfl⟩ ?_
  refine Wp.go (x := (.iload 5, 2, 0, 0)) rfl 58 [some (.ref r0), some (.int x1), some (.long (y2 + (J f1 j2))), none, some (.int x4), some (.int x5)] [.int x5] rfl ⟨rfl, rfl, rfl, rfl⟩ ?_
  refine Wp.go (x := (.istore 4, 2, 0, 0)) rfl 60 [some (.ref r0), some (.int x1), some (.long (y2 + (J f1 j2))), none, some (.int x5), some (.int x5)] [] rfl ⟨rfl, rfl, rfl, rfl⟩ ?_
  refine Wp.ii (v := nI 1) rfl rfl (by decide) rfl (L' := [some (.ref r0), some (.int x1), some (.long (y2 + (J f1 j2))), none, some (.int x5), some (.int (x5 + nI 1))]) rfl ?_
  refine Wp.go (x := (.goto (-55), 3, 8, 0)) rfl 8 [some (.ref r0), some (.int x1), some (.long (y2 + (J f1 j2))), none, some (.int x5), some (.int (x5 + nI 1))] [] rfl ⟨rfl, rfl, rfl, rfl⟩ ?_
  exact H
set_option maxRecDepth 20000 in
theorem wX11_count_0 {d : Nat} {Q : Option Value × xS → Prop} {K : Nat → Nat × Nat} {P : List Nat × Nat × Nat} {I : Nat → Nat → Int32} {J : Nat → Nat → Int64} {F : Nat → Nat → Option Nat} {x0 : Int32}  (H : Wp d 157 4 [none, some (.int (nI 0)), some (.int x0)] [] (K, P, I, J, F) Q) : Wp d 157 0 [some (.int x0), none, none] [] (K, P, I, J, F) Q := by
  refine Wp.ic (v := nI 0) rfl rfl (by decide) ?_
  refine Wp.go (x := (.istore_n 1, 1, 0, 0)) rfl 2 [some (.int x0), some (.int (nI 0)), none] [] rfl ⟨rfl, rfl, rfl, rfl⟩ ?_
  refine Wp.go (x := (.iload_n 0, 1, 0, 0)) rfl 3 [some (.int x0), some (.int (nI 0)), none] [.int x0] rfl ⟨rfl, rfl, rfl, rfl⟩ ?_
  refine Wp.go (x := (.istore_n 2, 1, 0, 0)) rfl 4 [some (.int x0), some (.int (nI 0)), some (.int x0)] [] rfl ⟨rfl, rfl, rfl, rfl⟩ ?_
  exact Wp.wk (L := [none, some (.int (nI 0)), some (.int x0)]) ⟨Or.inl rfl, Or.inr rfl, Or.inr rfl, trivial⟩ H
set_option maxRecDepth 20000 in
theorem wX11_count_4 {d : Nat} {Q : Option Value × xS → Prop} {K : Nat → Nat × Nat} {P : List Nat × Nat × Nat} {I : Nat → Nat → Int32} {J : Nat → Nat → Int64} {F : Nat → Nat → Option Nat} {x1 : Int32} {x2 : Int32}  (H : ((x2 ≤ 0 → Q (some (.int x1), (K, P, I, J, F))) ∧ (¬ x2 ≤ 0 → Wp d 157 4 [none, some (.int (x1 + (x2 &&& (nI 1)))), some (.int (x2 >>> ((nI 1) &&& 31)))] [] (K, P, I, J, F) Q))) : Wp d 157 4 [none, some (.int x1), some (.int x2)] [] (K, P, I, J, F) Q := by
  refine Wp.go (x := (.iload_n 2, 1, 0, 0)) rfl 5 [none, some (.int x1), some (.int x2)] [.int x2] rfl ⟨rfl, rfl, rfl, rfl⟩ ?_
  refine Wp.z_le rfl rfl ⟨fun c => ?_, fun c => ?_⟩
  · have H := H.1 c
    refine Wp.go (x := (.iload_n 1, 1, 0, 0)) rfl 22 [none, some (.int x1), some (.int x2)] [.int x1] rfl ⟨rfl, rfl, rfl, rfl⟩ ?_
    exact Wp.rI rfl rfl H
  · have H := H.2 c
    refine Wp.go (x := (.iload_n 1, 1, 0, 0)) rfl 9 [none, some (.int x1), some (.int x2)] [.int x1] rfl ⟨rfl, rfl, rfl, rfl⟩ ?_
    refine Wp.go (x := (.iload_n 2, 1, 0, 0)) rfl 10 [none, some (.int x1), some (.int x2)] [.int x2, .int x1] rfl ⟨rfl, rfl, rfl, rfl⟩ ?_
    refine Wp.ic (v := nI 1) rfl rfl (by decide) ?_
    refine Wp.go (x := (.iand, 1, 0, 0)) rfl 12 [none, some (.int x1), some (.int x2)] [.int (x2 &&& (nI 1)), .int x1] rfl ⟨rfl, rfl, rfl, rfl⟩ ?_
    refine Wp.go (x := (.iadd, 1, 0, 0)) rfl 13 [none, some (.int x1), some (.int x2)] [.int (x1 + (x2 &&& (nI 1)))] rfl ⟨rfl, rfl, rfl, rfl⟩ ?_
    refine Wp.go (x := (.istore_n 1, 1, 0, 0)) rfl 14 [none, some (.int (x1 + (x2 &&& (nI 1)))), some (.int x2)] [] rfl ⟨rfl, rfl, rfl, rfl⟩ ?_
    refine Wp.go (x := (.iload_n 2, 1, 0, 0)) rfl 15 [none, some (.int (x1 + (x2 &&& (nI 1)))), some (.int x2)] [.int x2] rfl ⟨rfl, rfl, rfl, rfl⟩ ?_
    refine Wp.ic (v := nI 1) rfl rfl (by decide) ?_
    refine Wp.go (x := (.ishr, 1, 0, 0)) rfl 17 [none, some (.int (x1 + (x2 &&& (nI 1)))), some (.int x2)] [.int (x2 >>> ((nI 1) &&& 31))] rfl ⟨rfl, rfl, rfl, rfl⟩ ?_
    refine Wp.go (x := (.istore_n 2, 1, 0, 0)) rfl 18 [none, some (.int (x1 + (x2 &&& (nI 1)))), some (.int (x2 >>> ((nI 1) &&& 31)))] [] rfl ⟨rfl, rfl, rfl, rfl⟩ ?_
    refine Wp.go (x := (.goto (-14), 3, 4, 0)) rfl 4 [none, some (.int (x1 + (x2 &&& (nI 1)))), some (.int (x2 >>> ((nI 1) &&& 31)))] [] rfl ⟨rfl, rfl, rfl, rfl⟩ ?_
    exact H
set_option maxRecDepth 20000 in
theorem wX11_isBefore_0 {d : Nat} {Q : Option Value × xS → Prop} {K : Nat → Nat × Nat} {P : List Nat × Nat × Nat} {I : Nat → Nat → Int32} {J : Nat → Nat → Int64} {F : Nat → Nat → Option Nat} {x0 : Int32} {x1 : Int32}  (H : (((x0 &&& ((x0 ^^^ x1) &&& (-(x0 ^^^ x1)))) = 0 → Q (some (.int (nI 0)), (K, P, I, J, F))) ∧ (¬ (x0 &&& ((x0 ^^^ x1) &&& (-(x0 ^^^ x1)))) = 0 → Q (some (.int (nI 1)), (K, P, I, J, F))))) : Wp d 158 0 [some (.int x0), some (.int x1), none, none] [] (K, P, I, J, F) Q := by
  refine Wp.go (x := (.iload_n 0, 1, 0, 0)) rfl 1 [some (.int x0), some (.int x1), none, none] [.int x0] rfl ⟨rfl, rfl, rfl, rfl⟩ ?_
  refine Wp.go (x := (.iload_n 1, 1, 0, 0)) rfl 2 [some (.int x0), some (.int x1), none, none] [.int x1, .int x0] rfl ⟨rfl, rfl, rfl, rfl⟩ ?_
  refine Wp.go (x := (.ixor, 1, 0, 0)) rfl 3 [some (.int x0), some (.int x1), none, none] [.int (x0 ^^^ x1)] rfl ⟨rfl, rfl, rfl, rfl⟩ ?_
  refine Wp.go (x := (.istore_n 2, 1, 0, 0)) rfl 4 [some (.int x0), some (.int x1), some (.int (x0 ^^^ x1)), none] [] rfl ⟨rfl, rfl, rfl, rfl⟩ ?_
  refine Wp.go (x := (.iload_n 2, 1, 0, 0)) rfl 5 [some (.int x0), some (.int x1), some (.int (x0 ^^^ x1)), none] [.int (x0 ^^^ x1)] rfl ⟨rfl, rfl, rfl, rfl⟩ ?_
  refine Wp.go (x := (.iload_n 2, 1, 0, 0)) rfl 6 [some (.int x0), some (.int x1), some (.int (x0 ^^^ x1)), none] [.int (x0 ^^^ x1), .int (x0 ^^^ x1)] rfl ⟨rfl, rfl, rfl, rfl⟩ ?_
  refine Wp.go (x := (.ineg, 1, 0, 0)) rfl 7 [some (.int x0), some (.int x1), some (.int (x0 ^^^ x1)), none] [.int (-(x0 ^^^ x1)), .int (x0 ^^^ x1)] rfl ⟨rfl, rfl, rfl, rfl⟩ ?_
  refine Wp.go (x := (.iand, 1, 0, 0)) rfl 8 [some (.int x0), some (.int x1), some (.int (x0 ^^^ x1)), none] [.int ((x0 ^^^ x1) &&& (-(x0 ^^^ x1)))] rfl ⟨rfl, rfl, rfl, rfl⟩ ?_
  refine Wp.go (x := (.istore_n 3, 1, 0, 0)) rfl 9 [some (.int x0), some (.int x1), some (.int (x0 ^^^ x1)), some (.int ((x0 ^^^ x1) &&& (-(x0 ^^^ x1))))] [] rfl ⟨rfl, rfl, rfl, rfl⟩ ?_
  refine Wp.go (x := (.iload_n 0, 1, 0, 0)) rfl 10 [some (.int x0), some (.int x1), some (.int (x0 ^^^ x1)), some (.int ((x0 ^^^ x1) &&& (-(x0 ^^^ x1))))] [.int x0] rfl ⟨rfl, rfl, rfl, rfl⟩ ?_
  refine Wp.go (x := (.iload_n 3, 1, 0, 0)) rfl 11 [some (.int x0), some (.int x1), some (.int (x0 ^^^ x1)), some (.int ((x0 ^^^ x1) &&& (-(x0 ^^^ x1))))] [.int ((x0 ^^^ x1) &&& (-(x0 ^^^ x1))), .int x0] rfl ⟨rfl, rfl, rfl, rfl⟩ ?_
  refine Wp.go (x := (.iand, 1, 0, 0)) rfl 12 [some (.int x0), some (.int x1), some (.int (x0 ^^^ x1)), some (.int ((x0 ^^^ x1) &&& (-(x0 ^^^ x1))))] [.int (x0 &&& ((x0 ^^^ x1) &&& (-(x0 ^^^ x1))))] rfl ⟨rfl, rfl, rfl, rfl⟩ ?_
  refine Wp.z_eq rfl rfl ⟨fun c => ?_, fun c => ?_⟩
  · have H := H.1 c
    refine Wp.ic (v := nI 0) rfl rfl (by decide) ?_
    exact Wp.rZ rfl rfl (Or.inl rfl) H
  · have H := H.2 c
    refine Wp.ic (v := nI 1) rfl rfl (by decide) ?_
    refine Wp.go (x := (.goto 4, 3, 20, 0)) rfl 20 [some (.int x0), some (.int x1), some (.int (x0 ^^^ x1)), some (.int ((x0 ^^^ x1) &&& (-(x0 ^^^ x1))))] [.int (nI 1)] rfl ⟨rfl, rfl, rfl, rfl⟩ ?_
    exact Wp.rZ rfl rfl (Or.inr rfl) H
set_option maxRecDepth 20000 in
theorem wX11_split_0 {d : Nat} {Q : Option Value × xS → Prop} {K : Nat → Nat × Nat} {P : List Nat × Nat × Nat} {I : Nat → Nat → Int32} {J : Nat → Nat → Int64} {F : Nat → Nat → Option Nat} {r0 : Nat} {x1 : Int32} {n_r0 : Nat} (hn_r0 : K r0 = (10, n_r0)) (H : ((x1 < 0 → Q (some (.long ((-1))), (K, P, (xup I r0 0 (nI 0)), J, F))) ∧ (¬ x1 < 0 → (((nI 100000) < x1 → Q (some (.long ((-1))), (K, P, (xup I r0 0 (nI 0)), J, F))) ∧ (¬ (nI 100000) < x1 → ((¬ (((xup I r0 0 (nI 0))) r0 3) = 0 → Wp d 155 0 [some (.ref r0), some (.int x1), none, none, none, none, none] [] (K, P, (xup I r0 0 (nI 0)), J, F) (xrV K P F (fun I1 J2 => Wp d 156 0 [some (.ref r0), some (.int (nI 0)), none, none, none, none] [] (K, P, I1, J2, F) (xrJ K P F (fun v3 I4 J5 => Wp (d + 1) 159 43 [some (.ref r0), none, some (.int (nI 0)), some (.long v3), none, some (.int (nI 1)), none, none] [] (K, P, I4, J5, F) Q))))) ∧ ((((xup I r0 0 (nI 0))) r0 3) = 0 → Q (some (.long ((-1))), (K, P, (xup I r0 0 (nI 0)), J, F))))))))) : Wp (d + 1) 159 0 [some (.ref r0), some (.int x1), none, none, none, none, none, none] [] (K, P, I, J, F) Q := by
  refine Wp.go (x := (.aload_n 0, 1, 0, 0)) rfl 1 [some (.ref r0), some (.int x1), none, none, none, none, none, none] [.ref r0] rfl ⟨rfl, rfl, rfl, rfl⟩ ?_
  refine Wp.ic (v := nI 0) rfl rfl (by decide) ?_
  refine Wp.pI rfl rfl hn_r0 rfl (Or.inl rfl) ?_
  refine Wp.go (x := (.iload_n 1, 1, 0, 0)) rfl 6 [some (.ref r0), some (.int x1), none, none, none, none, none, none] [.int x1] rfl ⟨rfl, rfl, rfl, rfl⟩ ?_
  refine Wp.z_lt rfl rfl ⟨fun c => ?_, fun c => ?_⟩
  · have H := H.1 c
    refine Wp.ldcj (v := (-1)) rfl rfl (by first | rfl | decide) ?_
    exact Wp.rJ rfl rfl H
  · have H := H.2 c
    refine Wp.go (x := (.iload_n 1, 1, 0, 0)) rfl 10 [some (.ref r0), some (.int x1), none, none, none, none, none, none] [.int x1] rfl ⟨rfl, rfl, rfl, rfl⟩ ?_
    refine Wp.ldcw (v := nI 100000) rfl rfl (by first | rfl | decide) ?_
    refine Wp.c_gt rfl rfl ⟨fun c => ?_, fun c => ?_⟩
    · have H := H.1 c
      refine Wp.ldcj (v := (-1)) rfl rfl (by first | rfl | decide) ?_
      exact Wp.rJ rfl rfl H
    · have H := H.2 c
      refine Wp.go (x := (.aload_n 0, 1, 0, 0)) rfl 17 [some (.ref r0), some (.int x1), none, none, none, none, none, none] [.ref r0] rfl ⟨rfl, rfl, rfl, rfl⟩ ?_
      refine Wp.gI rfl rfl hn_r0 rfl ⟨by decide, by decide⟩ ?_
      refine Wp.z_ne rfl rfl ⟨fun c => ?_, fun c => ?_⟩
      · have H := H.1 c
        refine Wp.go (x := (.aload_n 0, 1, 0, 0)) rfl 28 [some (.ref r0), some (.int x1), none, none, none, none, none, none] [.ref r0] rfl ⟨rfl, rfl, rfl, rfl⟩ ?_
        refine Wp.go (x := (.iload_n 1, 1, 0, 0)) rfl 29 [some (.ref r0), some (.int x1), none, none, none, none, none, none] [.int x1, .ref r0] rfl ⟨rfl, rfl, rfl, rfl⟩ ?_
        refine Wp.kV (x := (.invokevirtual 305, 3, 155, 2)) (j := 155) (vs := [.ref r0, .int x1]) (rest := []) rfl (by show xtg 155 (K r0).1 = _; rw [hn_r0]; rfl) rfl ⟨Nat.le_of_ble_eq_true rfl, Nat.le_of_ble_eq_true rfl, Nat.le_of_ble_eq_true rfl⟩ rfl rfl rfl H (fun I1 J2 H => ?_)
        refine Wp.ic (v := nI 0) rfl rfl (by decide) ?_
        refine Wp.go (x := (.istore_n 2, 1, 0, 0)) rfl 34 [some (.ref r0), some (.int x1), some (.int (nI 0)), none, none, none, none, none] [] rfl ⟨rfl, rfl, rfl, rfl⟩ ?_
        refine Wp.go (x := (.aload_n 0, 1, 0, 0)) rfl 35 [some (.ref r0), some (.int x1), some (.int (nI 0)), none, none, none, none, none] [.ref r0] rfl ⟨rfl, rfl, rfl, rfl⟩ ?_
        refine Wp.ic (v := nI 0) rfl rfl (by decide) ?_
        refine Wp.kJ (x := (.invokevirtual 308, 3, 156, 2)) (j := 156) (vs := [.ref r0, .int (nI 0)]) (rest := []) rfl (by show xtg 156 (K r0).1 = _; rw [hn_r0]; rfl) rfl ⟨Nat.le_of_ble_eq_true rfl, Nat.le_of_ble_eq_true rfl, Nat.le_of_ble_eq_true rfl⟩ rfl rfl rfl H (fun v3 I4 J5 H => ?_)
        refine Wp.go (x := (.lstore_n 3, 1, 0, 0)) rfl 40 [some (.ref r0), some (.int x1), some (.int (nI 0)), some (.long v3), none, none, none, none] [] rfl ⟨rfl, rfl, rfl, rfl⟩ ?_
        refine Wp.ic (v := nI 1) rfl rfl (by decide) ?_
        refine Wp.go (x := (.istore 5, 2, 0, 0)) rfl 43 [some (.ref r0), some (.int x1), some (.int (nI 0)), some (.long v3), none, some (.int (nI 1)), none, none] [] rfl ⟨rfl, rfl, rfl, rfl⟩ ?_
        exact Wp.wk (L := [some (.ref r0), none, some (.int (nI 0)), some (.long v3), none, some (.int (nI 1)), none, none]) ⟨Or.inr rfl, Or.inl rfl, Or.inr rfl, Or.inr rfl, Or.inr rfl, Or.inr rfl, Or.inr rfl, Or.inr rfl, trivial⟩ H
      · have H := H.2 c
        refine Wp.ldcj (v := (-1)) rfl rfl (by first | rfl | decide) ?_
        exact Wp.rJ rfl rfl H
set_option maxRecDepth 20000 in
theorem wX11_split_43 {d : Nat} {Q : Option Value × xS → Prop} {K : Nat → Nat × Nat} {P : List Nat × Nat × Nat} {I : Nat → Nat → Int32} {J : Nat → Nat → Int64} {F : Nat → Nat → Option Nat} {r0 : Nat} {x2 : Int32} {y3 : Int64} {x5 : Int32} {n_r0 : Nat} (hn_r0 : K r0 = (10, n_r0)) (H : ((((nI 1) <<< ((I r0 7) &&& 31)) ≤ x5 → Wp (d + 1) 159 129 [some (.ref r0), none, some (.int x2), some (.long y3), none, some (.int (nI 0)), none, none] [] (K, P, (xup I r0 9 (nI 0)), J, F) Q) ∧ (¬ ((nI 1) <<< ((I r0 7) &&& 31)) ≤ x5 → Wp d 156 0 [some (.ref r0), some (.int x5), none, none, none, none] [] (K, P, I, J, F) (xrJ K P F (fun v1 I2 J3 => (((lg_cmp v1 y3) < 0 → Wp (d + 1) 159 43 [some (.ref r0), none, some (.int x5), some (.long v1), none, some (.int (x5 + nI 1)), none, none] [] (K, P, I2, J3, F) Q) ∧ (¬ (lg_cmp v1 y3) < 0 → ((¬ (lg_cmp v1 y3) = 0 → Wp (d + 1) 159 43 [some (.ref r0), none, some (.int x2), some (.long y3), none, some (.int (x5 + nI 1)), none, none] [] (K, P, I2, J3, F) Q) ∧ ((lg_cmp v1 y3) = 0 → Wp d 157 0 [some (.int x5), none, none] [] (K, P, I2, J3, F) (xrI K P F (fun v4 I5 J6 => Wp d 157 0 [some (.int x2), none, none] [] (K, P, I5, J6, F) (xrI K P F (fun v7 I8 J9 => ((v4 < v7 → Wp (d + 1) 159 43 [some (.ref r0), none, some (.int x5), some (.long v1), none, some (.int (x5 + nI 1)), none, none] [] (K, P, I8, J9, F) Q) ∧ (¬ v4 < v7 → Wp d 157 0 [some (.int x5), none, none] [] (K, P, I8, J9, F) (xrI K P F (fun v10 I11 J12 => Wp d 157 0 [some (.int x2), none, none] [] (K, P, I11, J12, F) (xrI K P F (fun v13 I14 J15 => ((¬ v10 = v13 → Wp (d + 1) 159 43 [some (.ref r0), none, some (.int x2), some (.long y3), none, some (.int (x5 + nI 1)), none, none] [] (K, P, I14, J15, F) Q) ∧ (v10 = v13 → Wp d 158 0 [some (.int x5), some (.int x2), none, none] [] (K, P, I14, J15, F) (xrI K P F (fun v16 I17 J18 => ((v16 = 0 → Wp (d + 1) 159 43 [some (.ref r0), none, some (.int x2), some (.long y3), none, some (.int (x5 + nI 1)), none, none] [] (K, P, I17, J18, F) Q) ∧ (¬ v16 = 0 → Wp (d + 1) 159 43 [some (.ref r0), none, some (.int x5), some (.long v1), none, some (.int (x5 + nI 1)), none, none] [] (K, P, I17, J18, F) Q))))))))))))))))))))))))) : Wp (d + 1) 159 43 [some (.ref r0), none, some (.int x2), some (.long y3), none, some (.int x5), none, none] [] (K, P, I, J, F) Q := by
  refine Wp.go (x := (.iload 5, 2, 0, 0)) rfl 45 [some (.ref r0), none, some (.int x2), some (.long y3), none, some (.int x5), none, none] [.int x5] rfl ⟨rfl, rfl, rfl, rfl⟩ ?_
  refine Wp.ic (v := nI 1) rfl rfl (by decide) ?_
  refine Wp.go (x := (.aload_n 0, 1, 0, 0)) rfl 47 [some (.ref r0), none, some (.int x2), some (.long y3), none, some (.int x5), none, none] [.ref r0, .int (nI 1), .int x5] rfl ⟨rfl, rfl, rfl, rfl⟩ ?_
  refine Wp.gI rfl rfl hn_r0 rfl ⟨by decide, by decide⟩ ?_
  refine Wp.go (x := (.ishl, 1, 0, 0)) rfl 51 [some (.ref r0), none, some (.int x2), some (.long y3), none, some (.int x5), none, none] [.int ((nI 1) <<< ((I r0 7) &&& 31)), .int x5] rfl ⟨rfl, rfl, rfl, rfl⟩ ?_
  refine Wp.c_ge rfl rfl ⟨fun c => ?_, fun c => ?_⟩
  · have H := H.1 c
    refine Wp.go (x := (.aload_n 0, 1, 0, 0)) rfl 122 [some (.ref r0), none, some (.int x2), some (.long y3), none, some (.int x5), none, none] [.ref r0] rfl ⟨rfl, rfl, rfl, rfl⟩ ?_
    refine Wp.ic (v := nI 0) rfl rfl (by decide) ?_
    refine Wp.pI rfl rfl hn_r0 rfl (Or.inl rfl) ?_
    refine Wp.ic (v := nI 0) rfl rfl (by decide) ?_
    refine Wp.go (x := (.istore 5, 2, 0, 0)) rfl 129 [some (.ref r0), none, some (.int x2), some (.long y3), none, some (.int (nI 0)), none, none] [] rfl ⟨rfl, rfl, rfl, rfl⟩ ?_
    exact H
  · have H := H.2 c
    refine Wp.go (x := (.aload_n 0, 1, 0, 0)) rfl 55 [some (.ref r0), none, some (.int x2), some (.long y3), none, some (.int x5), none, none] [.ref r0] rfl ⟨rfl, rfl, rfl, rfl⟩ ?_
    refine Wp.go (x := (.iload 5, 2, 0, 0)) rfl 57 [some (.ref r0), none, some (.int x2), some (.long y3), none, some (.int x5), none, none] [.int x5, .ref r0] rfl ⟨rfl, rfl, rfl, rfl⟩ ?_
    refine Wp.kJ (x := (.invokevirtual 308, 3, 156, 2)) (j := 156) (vs := [.ref r0, .int x5]) (rest := []) rfl (by show xtg 156 (K r0).1 = _; rw [hn_r0]; rfl) rfl ⟨Nat.le_of_ble_eq_true rfl, Nat.le_of_ble_eq_true rfl, Nat.le_of_ble_eq_true rfl⟩ rfl rfl rfl H (fun v1 I2 J3 H => ?_)
    refine Wp.go (x := (.lstore 6, 2, 0, 0)) rfl 62 [some (.ref r0), none, some (.int x2), some (.long y3), none, some (.int x5), some (.long v1), none] [] rfl ⟨rfl, rfl, rfl, rfl⟩ ?_
    refine Wp.go (x := (.lload 6, 2, 0, 0)) rfl 64 [some (.ref r0), none, some (.int x2), some (.long y3), none, some (.int x5), some (.long v1), none] [.long v1] rfl ⟨rfl, rfl, rfl, rfl⟩ ?_
    refine Wp.go (x := (.lload_n 3, 1, 0, 0)) rfl 65 [some (.ref r0), none, some (.int x2), some (.long y3), none, some (.int x5), some (.long v1), none] [.long y3, .long v1] rfl ⟨rfl, rfl, rfl, rfl⟩ ?_
    refine Wp.go (x := (.lcmp, 1, 0, 0)) rfl 66 [some (.ref r0), none, some (.int x2), some (.long y3), none, some (.int x5), some (.long v1), none] [.int (lg_cmp v1 y3)] rfl ⟨rfl, rfl, rfl, rfl⟩ ?_
    refine Wp.z_lt rfl rfl ⟨fun c => ?_, fun c => ?_⟩
    · have H := H.1 c
      refine Wp.go (x := (.lload 6, 2, 0, 0)) rfl 111 [some (.ref r0), none, some (.int x2), some (.long y3), none, some (.int x5), some (.long v1), none] [.long v1] rfl ⟨rfl, rfl, rfl, rfl⟩ ?_
      refine Wp.go (x := (.lstore_n 3, 1, 0, 0)) rfl 112 [some (.ref r0), none, some (.int x2), some (.long v1), none, some (.int x5), some (.long v1), none] [] rfl ⟨rfl, rfl, rfl, rfl⟩ ?_
      refine Wp.go (x := (.iload 5, 2, 0, 0)) rfl 114 [some (.ref r0), none, some (.int x2), some (.long v1), none, some (.int x5), some (.long v1), none] [.int x5] rfl ⟨rfl, rfl, rfl, rfl⟩ ?_
      refine Wp.go (x := (.istore_n 2, 1, 0, 0)) rfl 115 [some (.ref r0), none, some (.int x5), some (.long v1), none, some (.int x5), some (.long v1), none] [] rfl ⟨rfl, rfl, rfl, rfl⟩ ?_
      refine Wp.ii (v := nI 1) rfl rfl (by decide) rfl (L' := [some (.ref r0), none, some (.int x5), some (.long v1), none, some (.int (x5 + nI 1)), some (.long v1), none]) rfl ?_
      refine Wp.go (x := (.goto (-75), 3, 43, 0)) rfl 43 [some (.ref r0), none, some (.int x5), some (.long v1), none, some (.int (x5 + nI 1)), some (.long v1), none] [] rfl ⟨rfl, rfl, rfl, rfl⟩ ?_
      exact Wp.wk (L := [some (.ref r0), none, some (.int x5), some (.long v1), none, some (.int (x5 + nI 1)), none, none]) ⟨Or.inr rfl, Or.inr rfl, Or.inr rfl, Or.inr rfl, Or.inr rfl, Or.inr rfl, Or.inl rfl, Or.inr rfl, trivial⟩ H
    · have H := H.2 c
      refine Wp.go (x := (.lload 6, 2, 0, 0)) rfl 71 [some (.ref r0), none, some (.int x2), some (.long y3), none, some (.int x5), some (.long v1), none] [.long v1] rfl ⟨rfl, rfl, rfl, rfl⟩ ?_
      refine Wp.go (x := (.lload_n 3, 1, 0, 0)) rfl 72 [some (.ref r0), none, some (.int x2), some (.long y3), none, some (.int x5), some (.long v1), none] [.long y3, .long v1] rfl ⟨rfl, rfl, rfl, rfl⟩ ?_
      refine Wp.go (x := (.lcmp, 1, 0, 0)) rfl 73 [some (.ref r0), none, some (.int x2), some (.long y3), none, some (.int x5), some (.long v1), none] [.int (lg_cmp v1 y3)] rfl ⟨rfl, rfl, rfl, rfl⟩ ?_
      refine Wp.z_ne rfl rfl ⟨fun c => ?_, fun c => ?_⟩
      · have H := H.1 c
        refine Wp.ii (v := nI 1) rfl rfl (by decide) rfl (L' := [some (.ref r0), none, some (.int x2), some (.long y3), none, some (.int (x5 + nI 1)), some (.long v1), none]) rfl ?_
        refine Wp.go (x := (.goto (-75), 3, 43, 0)) rfl 43 [some (.ref r0), none, some (.int x2), some (.long y3), none, some (.int (x5 + nI 1)), some (.long v1), none] [] rfl ⟨rfl, rfl, rfl, rfl⟩ ?_
        exact Wp.wk (L := [some (.ref r0), none, some (.int x2), some (.long y3), none, some (.int (x5 + nI 1)), none, none]) ⟨Or.inr rfl, Or.inr rfl, Or.inr rfl, Or.inr rfl, Or.inr rfl, Or.inr rfl, Or.inl rfl, Or.inr rfl, trivial⟩ H
      · have H := H.2 c
        refine Wp.go (x := (.iload 5, 2, 0, 0)) rfl 78 [some (.ref r0), none, some (.int x2), some (.long y3), none, some (.int x5), some (.long v1), none] [.int x5] rfl ⟨rfl, rfl, rfl, rfl⟩ ?_
        refine Wp.kI (x := (.invokestatic 312, 3, 157, 1)) (j := 157) (vs := [.int x5]) (rest := []) rfl rfl rfl ⟨Nat.le_of_ble_eq_true rfl, Nat.le_of_ble_eq_true rfl, Nat.le_of_ble_eq_true rfl⟩ rfl rfl rfl H (fun v4 I5 J6 H => ?_)
        refine Wp.go (x := (.iload_n 2, 1, 0, 0)) rfl 82 [some (.ref r0), none, some (.int x2), some (.long y3), none, some (.int x5), some (.long v1), none] [.int x2, .int v4] rfl ⟨rfl, rfl, rfl, rfl⟩ ?_
        refine Wp.kI (x := (.invokestatic 312, 3, 157, 1)) (j := 157) (vs := [.int x2]) (rest := [.int v4]) rfl rfl rfl ⟨Nat.le_of_ble_eq_true rfl, Nat.le_of_ble_eq_true rfl, Nat.le_of_ble_eq_true rfl⟩ rfl rfl rfl H (fun v7 I8 J9 H => ?_)
        refine Wp.c_lt rfl rfl ⟨fun c => ?_, fun c => ?_⟩
        · have H := H.1 c
          refine Wp.go (x := (.lload 6, 2, 0, 0)) rfl 111 [some (.ref r0), none, some (.int x2), some (.long y3), none, some (.int x5), some (.long v1), none] [.long v1] rfl ⟨rfl, rfl, rfl, rfl⟩ ?_
          refine Wp.go (x := (.lstore_n 3, 1, 0, 0)) rfl 112 [some (.ref r0), none, some (.int x2), some (.long v1), none, some (.int x5), some (.long v1), none] [] rfl ⟨rfl, rfl, rfl, rfl⟩ ?_
          refine Wp.go (x := (.iload 5, 2, 0, 0)) rfl 114 [some (.ref r0), none, some (.int x2), some (.long v1), none, some (.int x5), some (.long v1), none] [.int x5] rfl ⟨rfl, rfl, rfl, rfl⟩ ?_
          refine Wp.go (x := (.istore_n 2, 1, 0, 0)) rfl 115 [some (.ref r0), none, some (.int x5), some (.long v1), none, some (.int x5), some (.long v1), none] [] rfl ⟨rfl, rfl, rfl, rfl⟩ ?_
          refine Wp.ii (v := nI 1) rfl rfl (by decide) rfl (L' := [some (.ref r0), none, some (.int x5), some (.long v1), none, some (.int (x5 + nI 1)), some (.long v1), none]) rfl ?_
          refine Wp.go (x := (.goto (-75), 3, 43, 0)) rfl 43 [some (.ref r0), none, some (.int x5), some (.long v1), none, some (.int (x5 + nI 1)), some (.long v1), none] [] rfl ⟨rfl, rfl, rfl, rfl⟩ ?_
          exact Wp.wk (L := [some (.ref r0), none, some (.int x5), some (.long v1), none, some (.int (x5 + nI 1)), none, none]) ⟨Or.inr rfl, Or.inr rfl, Or.inr rfl, Or.inr rfl, Or.inr rfl, Or.inr rfl, Or.inl rfl, Or.inr rfl, trivial⟩ H
        · have H := H.2 c
          refine Wp.go (x := (.iload 5, 2, 0, 0)) rfl 90 [some (.ref r0), none, some (.int x2), some (.long y3), none, some (.int x5), some (.long v1), none] [.int x5] rfl ⟨rfl, rfl, rfl, rfl⟩ ?_
          refine Wp.kI (x := (.invokestatic 312, 3, 157, 1)) (j := 157) (vs := [.int x5]) (rest := []) rfl rfl rfl ⟨Nat.le_of_ble_eq_true rfl, Nat.le_of_ble_eq_true rfl, Nat.le_of_ble_eq_true rfl⟩ rfl rfl rfl H (fun v10 I11 J12 H => ?_)
          refine Wp.go (x := (.iload_n 2, 1, 0, 0)) rfl 94 [some (.ref r0), none, some (.int x2), some (.long y3), none, some (.int x5), some (.long v1), none] [.int x2, .int v10] rfl ⟨rfl, rfl, rfl, rfl⟩ ?_
          refine Wp.kI (x := (.invokestatic 312, 3, 157, 1)) (j := 157) (vs := [.int x2]) (rest := [.int v10]) rfl rfl rfl ⟨Nat.le_of_ble_eq_true rfl, Nat.le_of_ble_eq_true rfl, Nat.le_of_ble_eq_true rfl⟩ rfl rfl rfl H (fun v13 I14 J15 H => ?_)
          refine Wp.c_ne rfl rfl ⟨fun c => ?_, fun c => ?_⟩
          · have H := H.1 c
            refine Wp.ii (v := nI 1) rfl rfl (by decide) rfl (L' := [some (.ref r0), none, some (.int x2), some (.long y3), none, some (.int (x5 + nI 1)), some (.long v1), none]) rfl ?_
            refine Wp.go (x := (.goto (-75), 3, 43, 0)) rfl 43 [some (.ref r0), none, some (.int x2), some (.long y3), none, some (.int (x5 + nI 1)), some (.long v1), none] [] rfl ⟨rfl, rfl, rfl, rfl⟩ ?_
            exact Wp.wk (L := [some (.ref r0), none, some (.int x2), some (.long y3), none, some (.int (x5 + nI 1)), none, none]) ⟨Or.inr rfl, Or.inr rfl, Or.inr rfl, Or.inr rfl, Or.inr rfl, Or.inr rfl, Or.inl rfl, Or.inr rfl, trivial⟩ H
          · have H := H.2 c
            refine Wp.go (x := (.iload 5, 2, 0, 0)) rfl 102 [some (.ref r0), none, some (.int x2), some (.long y3), none, some (.int x5), some (.long v1), none] [.int x5] rfl ⟨rfl, rfl, rfl, rfl⟩ ?_
            refine Wp.go (x := (.iload_n 2, 1, 0, 0)) rfl 103 [some (.ref r0), none, some (.int x2), some (.long y3), none, some (.int x5), some (.long v1), none] [.int x2, .int x5] rfl ⟨rfl, rfl, rfl, rfl⟩ ?_
            refine Wp.kI (x := (.invokestatic 315, 3, 158, 2)) (j := 158) (vs := [.int x5, .int x2]) (rest := []) rfl rfl rfl ⟨Nat.le_of_ble_eq_true rfl, Nat.le_of_ble_eq_true rfl, Nat.le_of_ble_eq_true rfl⟩ rfl rfl rfl H (fun v16 I17 J18 H => ?_)
            refine Wp.z_eq rfl rfl ⟨fun c => ?_, fun c => ?_⟩
            · have H := H.1 c
              refine Wp.ii (v := nI 1) rfl rfl (by decide) rfl (L' := [some (.ref r0), none, some (.int x2), some (.long y3), none, some (.int (x5 + nI 1)), some (.long v1), none]) rfl ?_
              refine Wp.go (x := (.goto (-75), 3, 43, 0)) rfl 43 [some (.ref r0), none, some (.int x2), some (.long y3), none, some (.int (x5 + nI 1)), some (.long v1), none] [] rfl ⟨rfl, rfl, rfl, rfl⟩ ?_
              exact Wp.wk (L := [some (.ref r0), none, some (.int x2), some (.long y3), none, some (.int (x5 + nI 1)), none, none]) ⟨Or.inr rfl, Or.inr rfl, Or.inr rfl, Or.inr rfl, Or.inr rfl, Or.inr rfl, Or.inl rfl, Or.inr rfl, trivial⟩ H
            · have H := H.2 c
              refine Wp.go (x := (.lload 6, 2, 0, 0)) rfl 111 [some (.ref r0), none, some (.int x2), some (.long y3), none, some (.int x5), some (.long v1), none] [.long v1] rfl ⟨rfl, rfl, rfl, rfl⟩ ?_
              refine Wp.go (x := (.lstore_n 3, 1, 0, 0)) rfl 112 [some (.ref r0), none, some (.int x2), some (.long v1), none, some (.int x5), some (.long v1), none] [] rfl ⟨rfl, rfl, rfl, rfl⟩ ?_
              refine Wp.go (x := (.iload 5, 2, 0, 0)) rfl 114 [some (.ref r0), none, some (.int x2), some (.long v1), none, some (.int x5), some (.long v1), none] [.int x5] rfl ⟨rfl, rfl, rfl, rfl⟩ ?_
              refine Wp.go (x := (.istore_n 2, 1, 0, 0)) rfl 115 [some (.ref r0), none, some (.int x5), some (.long v1), none, some (.int x5), some (.long v1), none] [] rfl ⟨rfl, rfl, rfl, rfl⟩ ?_
              refine Wp.ii (v := nI 1) rfl rfl (by decide) rfl (L' := [some (.ref r0), none, some (.int x5), some (.long v1), none, some (.int (x5 + nI 1)), some (.long v1), none]) rfl ?_
              refine Wp.go (x := (.goto (-75), 3, 43, 0)) rfl 43 [some (.ref r0), none, some (.int x5), some (.long v1), none, some (.int (x5 + nI 1)), some (.long v1), none] [] rfl ⟨rfl, rfl, rfl, rfl⟩ ?_
              exact Wp.wk (L := [some (.ref r0), none, some (.int x5), some (.long v1), none, some (.int (x5 + nI 1)), none, none]) ⟨Or.inr rfl, Or.inr rfl, Or.inr rfl, Or.inr rfl, Or.inr rfl, Or.inr rfl, Or.inl rfl, Or.inr rfl, trivial⟩ H
set_option maxRecDepth 20000 in
theorem wX11_split_129 {d : Nat} {Q : Option Value × xS → Prop} {K : Nat → Nat × Nat} {P : List Nat × Nat × Nat} {I : Nat → Nat → Int32} {J : Nat → Nat → Int64} {F : Nat → Nat → Option Nat} {r0 : Nat} {x2 : Int32} {y3 : Int64} {x5 : Int32} {n_r0 : Nat} {f1 : Nat} {f2 : Nat} {n_f2 : Nat} {n_f1 : Nat} (hK : ∀ {a k n : Nat}, K a = (k, n) → n < 2147483648) (hn_r0 : K r0 = (10, n_r0)) (hf1 : F r0 8 = some f1) (hf2 : F r0 6 = some f2) (hn_f2 : K f2 = (100, n_f2)) (hn_f1 : K f1 = (100, n_f1)) (H : (((I r0 7) ≤ x5 → Q (some (.long y3), (K, P, I, J, F))) ∧ (¬ (I r0 7) ≤ x5 → ((¬ ((x2 >>> (x5 &&& 31)) &&& (nI 1)) = (nI 1) → Wp d 159 129 [some (.ref r0), none, some (.int x2), some (.long y3), none, some (.int (x5 + nI 1)), none, none] [] (K, P, I, J, F) Q) ∧ (((x2 >>> (x5 &&& 31)) &&& (nI 1)) = (nI 1) → (∃ j3 : Nat, x5 = nI j3 ∧ j3 < n_f2 ∧ (∃ j4 : Nat, (I r0 9) = nI j4 ∧ j4 < n_f1 ∧ Wp d 159 129 [some (.ref r0), none, some (.int x2), some (.long y3), none, some (.int (x5 + nI 1)), none, none] [] (K, P, (xup ((xup I f1 j4 (I f2 j3))) r0 9 ((((xup I f1 j4 (I f2 j3))) r0 9) + (nI 1))), J, F) Q))))))) : Wp d 159 129 [some (.ref r0), none, some (.int x2), some (.long y3), none, some (.int x5), none, none] [] (K, P, I, J, F) Q := by
  refine Wp.go (x := (.iload 5, 2, 0, 0)) rfl 131 [some (.ref r0), none, some (.int x2), some (.long y3), none, some (.int x5), none, none] [.int x5] rfl ⟨rfl, rfl, rfl, rfl⟩ ?_
  refine Wp.go (x := (.aload_n 0, 1, 0, 0)) rfl 132 [some (.ref r0), none, some (.int x2), some (.long y3), none, some (.int x5), none, none] [.ref r0, .int x5] rfl ⟨rfl, rfl, rfl, rfl⟩ ?_
  refine Wp.gI rfl rfl hn_r0 rfl ⟨by decide, by decide⟩ ?_
  refine Wp.c_ge rfl rfl ⟨fun c => ?_, fun c => ?_⟩
  · have H := H.1 c
    refine Wp.go (x := (.lload_n 3, 1, 0, 0)) rfl 181 [some (.ref r0), none, some (.int x2), some (.long y3), none, some (.int x5), none, none] [.long y3] rfl ⟨rfl, rfl, rfl, rfl⟩ ?_
    exact Wp.rJ rfl rfl H
  · have H := H.2 c
    refine Wp.go (x := (.iload_n 2, 1, 0, 0)) rfl 139 [some (.ref r0), none, some (.int x2), some (.long y3), none, some (.int x5), none, none] [.int x2] rfl ⟨rfl, rfl, rfl, rfl⟩ ?_
    refine Wp.go (x := (.iload 5, 2, 0, 0)) rfl 141 [some (.ref r0), none, some (.int x2), some (.long y3), none, some (.int x5), none, none] [.int x5, .int x2] rfl ⟨rfl, rfl, rfl, rfl⟩ ?_
    refine Wp.go (x := (.ishr, 1, 0, 0)) rfl 142 [some (.ref r0), none, some (.int x2), some (.long y3), none, some (.int x5), none, none] [.int (x2 >>> (x5 &&& 31))] rfl ⟨rfl, rfl, rfl, rfl⟩ ?_
    refine Wp.ic (v := nI 1) rfl rfl (by decide) ?_
    refine Wp.go (x := (.iand, 1, 0, 0)) rfl 144 [some (.ref r0), none, some (.int x2), some (.long y3), none, some (.int x5), none, none] [.int ((x2 >>> (x5 &&& 31)) &&& (nI 1))] rfl ⟨rfl, rfl, rfl, rfl⟩ ?_
    refine Wp.ic (v := nI 1) rfl rfl (by decide) ?_
    refine Wp.c_ne rfl rfl ⟨fun c => ?_, fun c => ?_⟩
    · have H := H.1 c
      refine Wp.ii (v := nI 1) rfl rfl (by decide) rfl (L' := [some (.ref r0), none, some (.int x2), some (.long y3), none, some (.int (x5 + nI 1)), none, none]) rfl ?_
      refine Wp.go (x := (.goto (-48), 3, 129, 0)) rfl 129 [some (.ref r0), none, some (.int x2), some (.long y3), none, some (.int (x5 + nI 1)), none, none] [] rfl ⟨rfl, rfl, rfl, rfl⟩ ?_
      exact H
    · have H := H.2 c
      refine Wp.go (x := (.aload_n 0, 1, 0, 0)) rfl 149 [some (.ref r0), none, some (.int x2), some (.long y3), none, some (.int x5), none, none] [.ref r0] rfl ⟨rfl, rfl, rfl, rfl⟩ ?_
      refine Wp.gR rfl rfl hn_r0 rfl rfl hf1 ?_
      refine Wp.go (x := (.aload_n 0, 1, 0, 0)) rfl 153 [some (.ref r0), none, some (.int x2), some (.long y3), none, some (.int x5), none, none] [.ref r0, .ref f1] rfl ⟨rfl, rfl, rfl, rfl⟩ ?_
      refine Wp.gI rfl rfl hn_r0 rfl ⟨by decide, by decide⟩ ?_
      refine Wp.go (x := (.aload_n 0, 1, 0, 0)) rfl 157 [some (.ref r0), none, some (.int x2), some (.long y3), none, some (.int x5), none, none] [.ref r0, .int (I r0 9), .ref f1] rfl ⟨rfl, rfl, rfl, rfl⟩ ?_
      refine Wp.gR rfl rfl hn_r0 rfl rfl hf2 ?_
      refine Wp.go (x := (.iload 5, 2, 0, 0)) rfl 162 [some (.ref r0), none, some (.int x2), some (.long y3), none, some (.int x5), none, none] [.int x5, .ref f2, .int (I r0 9), .ref f1] rfl ⟨rfl, rfl, rfl, rfl⟩ ?_
      obtain ⟨j3, e, b, H⟩ := H
      refine Wp.ald rfl rfl hn_f2 (Or.inl rfl) (hK hn_f2) ⟨j3, e, b, ?_⟩
      obtain ⟨j4, e, b, H⟩ := H
      refine Wp.ast rfl rfl hn_f1 (hK hn_f1) ⟨j4, e, b, ?_⟩
      refine Wp.go (x := (.aload_n 0, 1, 0, 0)) rfl 165 [some (.ref r0), none, some (.int x2), some (.long y3), none, some (.int x5), none, none] [.ref r0] rfl ⟨rfl, rfl, rfl, rfl⟩ ?_
      refine Wp.go (x := (.dup, 1, 0, 0)) rfl 166 [some (.ref r0), none, some (.int x2), some (.long y3), none, some (.int x5), none, none] [.ref r0, .ref r0] rfl ⟨rfl, rfl, rfl, rfl⟩ ?_
      refine Wp.gI rfl rfl hn_r0 rfl ⟨by decide, by decide⟩ ?_
      refine Wp.ic (v := nI 1) rfl rfl (by decide) ?_
      refine Wp.go (x := (.iadd, 1, 0, 0)) rfl 171 [some (.ref r0), none, some (.int x2), some (.long y3), none, some (.int x5), none, none] [.int ((((xup I f1 j4 (I f2 j3))) r0 9) + (nI 1)), .ref r0] rfl ⟨rfl, rfl, rfl, rfl⟩ ?_
      refine Wp.pI rfl rfl hn_r0 rfl (Or.inl rfl) ?_
      refine Wp.ii (v := nI 1) rfl rfl (by decide) rfl (L' := [some (.ref r0), none, some (.int x2), some (.long y3), none, some (.int (x5 + nI 1)), none, none]) rfl ?_
      refine Wp.go (x := (.goto (-48), 3, 129, 0)) rfl 129 [some (.ref r0), none, some (.int x2), some (.long y3), none, some (.int (x5 + nI 1)), none, none] [] rfl ⟨rfl, rfl, rfl, rfl⟩ ?_
      exact H
set_option maxRecDepth 20000 in
theorem wX11_taken_0 {d : Nat} {Q : Option Value × xS → Prop} {K : Nat → Nat × Nat} {P : List Nat × Nat × Nat} {I : Nat → Nat → Int32} {J : Nat → Nat → Int64} {F : Nat → Nat → Option Nat} {r0 : Nat} {x1 : Int32} {n_r0 : Nat} {f1 : Nat} {n_f1 : Nat} (hK : ∀ {a k n : Nat}, K a = (k, n) → n < 2147483648) (hn_r0 : K r0 = (10, n_r0)) (hf1 : F r0 8 = some f1) (hn_f1 : K f1 = (100, n_f1)) (H : ((x1 < 0 → Q (some (.int ((-1))), (K, P, (xup I r0 0 (nI 0)), J, F))) ∧ (¬ x1 < 0 → ((x1 < (((xup I r0 0 (nI 0))) r0 9) → (∃ j2 : Nat, x1 = nI j2 ∧ j2 < n_f1 ∧ Q (some (.int (((xup I r0 0 (nI 0))) f1 j2)), (K, P, (xup I r0 0 (nI 0)), J, F)))) ∧ (¬ x1 < (((xup I r0 0 (nI 0))) r0 9) → Q (some (.int ((-1))), (K, P, (xup I r0 0 (nI 0)), J, F))))))) : Wp d 160 0 [some (.ref r0), some (.int x1)] [] (K, P, I, J, F) Q := by
  refine Wp.go (x := (.aload_n 0, 1, 0, 0)) rfl 1 [some (.ref r0), some (.int x1)] [.ref r0] rfl ⟨rfl, rfl, rfl, rfl⟩ ?_
  refine Wp.ic (v := nI 0) rfl rfl (by decide) ?_
  refine Wp.pI rfl rfl hn_r0 rfl (Or.inl rfl) ?_
  refine Wp.go (x := (.iload_n 1, 1, 0, 0)) rfl 6 [some (.ref r0), some (.int x1)] [.int x1] rfl ⟨rfl, rfl, rfl, rfl⟩ ?_
  refine Wp.z_lt rfl rfl ⟨fun c => ?_, fun c => ?_⟩
  · have H := H.1 c
    refine Wp.ic (v := (-1)) rfl rfl (by decide) ?_
    refine Wp.go (x := (.goto 9, 3, 27, 0)) rfl 27 [some (.ref r0), some (.int x1)] [.int ((-1))] rfl ⟨rfl, rfl, rfl, rfl⟩ ?_
    exact Wp.rI rfl rfl H
  · have H := H.2 c
    refine Wp.go (x := (.iload_n 1, 1, 0, 0)) rfl 10 [some (.ref r0), some (.int x1)] [.int x1] rfl ⟨rfl, rfl, rfl, rfl⟩ ?_
    refine Wp.go (x := (.aload_n 0, 1, 0, 0)) rfl 11 [some (.ref r0), some (.int x1)] [.ref r0, .int x1] rfl ⟨rfl, rfl, rfl, rfl⟩ ?_
    refine Wp.gI rfl rfl hn_r0 rfl ⟨by decide, by decide⟩ ?_
    refine Wp.c_lt rfl rfl ⟨fun c => ?_, fun c => ?_⟩
    · have H := H.1 c
      refine Wp.go (x := (.aload_n 0, 1, 0, 0)) rfl 22 [some (.ref r0), some (.int x1)] [.ref r0] rfl ⟨rfl, rfl, rfl, rfl⟩ ?_
      refine Wp.gR rfl rfl hn_r0 rfl rfl hf1 ?_
      refine Wp.go (x := (.iload_n 1, 1, 0, 0)) rfl 26 [some (.ref r0), some (.int x1)] [.int x1, .ref f1] rfl ⟨rfl, rfl, rfl, rfl⟩ ?_
      obtain ⟨j2, e, b, H⟩ := H
      refine Wp.ald rfl rfl hn_f1 (Or.inl rfl) (hK hn_f1) ⟨j2, e, b, ?_⟩
      exact Wp.rI rfl rfl H
    · have H := H.2 c
      refine Wp.ic (v := (-1)) rfl rfl (by decide) ?_
      refine Wp.go (x := (.goto 9, 3, 27, 0)) rfl 27 [some (.ref r0), some (.int x1)] [.int ((-1))] rfl ⟨rfl, rfl, rfl, rfl⟩ ?_
      exact Wp.rI rfl rfl H
set_option maxRecDepth 20000 in
theorem wX11_clear_0 {d : Nat} {Q : Option Value × xS → Prop} {K : Nat → Nat × Nat} {P : List Nat × Nat × Nat} {I : Nat → Nat → Int32} {J : Nat → Nat → Int64} {F : Nat → Nat → Option Nat} {r0 : Nat} {n_r0 : Nat} (hn_r0 : K r0 = (10, n_r0)) (H : Wp d 98 0 [some (.ref r0), none] [] (K, P, (xup ((xup ((xup ((xup ((xup ((xup I r0 0 (nI 0))) r0 3 (nI 0))) r0 7 (nI 0))) r0 9 (nI 0))) r0 10 (nI 0))) r0 18 (nI 0)), J, F) (xrV K P F (fun I1 J2 => Q (none, (K, P, I1, J2, F))))) : Wp (d + 1) 162 0 [some (.ref r0)] [] (K, P, I, J, F) Q := by
  refine Wp.go (x := (.aload_n 0, 1, 0, 0)) rfl 1 [some (.ref r0)] [.ref r0] rfl ⟨rfl, rfl, rfl, rfl⟩ ?_
  refine Wp.ic (v := nI 0) rfl rfl (by decide) ?_
  refine Wp.pI rfl rfl hn_r0 rfl (Or.inl rfl) ?_
  refine Wp.go (x := (.aload_n 0, 1, 0, 0)) rfl 6 [some (.ref r0)] [.ref r0] rfl ⟨rfl, rfl, rfl, rfl⟩ ?_
  refine Wp.ic (v := nI 0) rfl rfl (by decide) ?_
  refine Wp.pI rfl rfl hn_r0 rfl (Or.inl rfl) ?_
  refine Wp.go (x := (.aload_n 0, 1, 0, 0)) rfl 11 [some (.ref r0)] [.ref r0] rfl ⟨rfl, rfl, rfl, rfl⟩ ?_
  refine Wp.ic (v := nI 0) rfl rfl (by decide) ?_
  refine Wp.pI rfl rfl hn_r0 rfl (Or.inl rfl) ?_
  refine Wp.go (x := (.aload_n 0, 1, 0, 0)) rfl 16 [some (.ref r0)] [.ref r0] rfl ⟨rfl, rfl, rfl, rfl⟩ ?_
  refine Wp.ic (v := nI 0) rfl rfl (by decide) ?_
  refine Wp.pI rfl rfl hn_r0 rfl (Or.inl rfl) ?_
  refine Wp.go (x := (.aload_n 0, 1, 0, 0)) rfl 21 [some (.ref r0)] [.ref r0] rfl ⟨rfl, rfl, rfl, rfl⟩ ?_
  refine Wp.ic (v := nI 0) rfl rfl (by decide) ?_
  refine Wp.pI rfl rfl hn_r0 rfl (Or.inr ⟨rfl, Or.inl rfl⟩) ?_
  refine Wp.go (x := (.aload_n 0, 1, 0, 0)) rfl 26 [some (.ref r0)] [.ref r0] rfl ⟨rfl, rfl, rfl, rfl⟩ ?_
  refine Wp.ic (v := nI 0) rfl rfl (by decide) ?_
  refine Wp.pI rfl rfl hn_r0 rfl (Or.inl rfl) ?_
  refine Wp.go (x := (.aload_n 0, 1, 0, 0)) rfl 31 [some (.ref r0)] [.ref r0] rfl ⟨rfl, rfl, rfl, rfl⟩ ?_
  refine Wp.kV (x := (.invokevirtual 126, 3, 98, 1)) (j := 98) (vs := [.ref r0]) (rest := []) rfl (by show xtg 98 (K r0).1 = _; rw [hn_r0]; rfl) rfl ⟨Nat.le_of_ble_eq_true rfl, Nat.le_of_ble_eq_true rfl, Nat.le_of_ble_eq_true rfl⟩ rfl rfl rfl H (fun I1 J2 H => ?_)
  exact Wp.rV rfl rfl H
set_option maxRecDepth 20000 in
theorem wX11_trier_0 {d : Nat} {Q : Option Value × xS → Prop} {K : Nat → Nat × Nat} {P : List Nat × Nat × Nat} {I : Nat → Nat → Int32} {J : Nat → Nat → Int64} {F : Nat → Nat → Option Nat} {r0 : Nat} {x1 : Int32} {n_r0 : Nat} {f1 : Nat} {n_f1 : Nat} (hK : ∀ {a k n : Nat}, K a = (k, n) → n < 2147483648) (hn_r0 : K r0 = (10, n_r0)) (hf1 : F r0 2 = some f1) (hn_f1 : K f1 = (100, n_f1)) (H : ((x1 < 0 → (((((xup I r0 0 (nI 1))) r0 0) ≤ 0 → (∃ j2 : Nat, x1 = nI j2 ∧ j2 < n_f1 ∧ Q (some (.int (((xup I r0 0 (nI 1))) f1 j2)), (K, P, (xup I r0 0 (nI 1)), J, F)))) ∧ (¬ (((xup I r0 0 (nI 1))) r0 0) ≤ 0 → Q (some (.int (nI 0)), (K, P, (xup I r0 0 (nI 1)), J, F))))) ∧ (¬ x1 < 0 → ((x1 < (I r0 3) → (((((xup I r0 0 (nI 0))) r0 0) ≤ 0 → (∃ j3 : Nat, x1 = nI j3 ∧ j3 < n_f1 ∧ Q (some (.int (((xup I r0 0 (nI 0))) f1 j3)), (K, P, (xup I r0 0 (nI 0)), J, F)))) ∧ (¬ (((xup I r0 0 (nI 0))) r0 0) ≤ 0 → Q (some (.int (nI 0)), (K, P, (xup I r0 0 (nI 0)), J, F))))) ∧ (¬ x1 < (I r0 3) → (((((xup I r0 0 (nI 1))) r0 0) ≤ 0 → (∃ j4 : Nat, x1 = nI j4 ∧ j4 < n_f1 ∧ Q (some (.int (((xup I r0 0 (nI 1))) f1 j4)), (K, P, (xup I r0 0 (nI 1)), J, F)))) ∧ (¬ (((xup I r0 0 (nI 1))) r0 0) ≤ 0 → Q (some (.int (nI 0)), (K, P, (xup I r0 0 (nI 1)), J, F))))))))) : Wp d 163 0 [some (.ref r0), some (.int x1)] [] (K, P, I, J, F) Q := by
  refine Wp.go (x := (.aload_n 0, 1, 0, 0)) rfl 1 [some (.ref r0), some (.int x1)] [.ref r0] rfl ⟨rfl, rfl, rfl, rfl⟩ ?_
  refine Wp.go (x := (.iload_n 1, 1, 0, 0)) rfl 2 [some (.ref r0), some (.int x1)] [.int x1, .ref r0] rfl ⟨rfl, rfl, rfl, rfl⟩ ?_
  refine Wp.z_lt rfl rfl ⟨fun c => ?_, fun c => ?_⟩
  · have H := H.1 c
    refine Wp.ic (v := nI 1) rfl rfl (by decide) ?_
    refine Wp.go (x := (.goto 4, 3, 18, 0)) rfl 18 [some (.ref r0), some (.int x1)] [.int (nI 1), .ref r0] rfl ⟨rfl, rfl, rfl, rfl⟩ ?_
    refine Wp.pI rfl rfl hn_r0 rfl (Or.inl rfl) ?_
    refine Wp.go (x := (.aload_n 0, 1, 0, 0)) rfl 22 [some (.ref r0), some (.int x1)] [.ref r0] rfl ⟨rfl, rfl, rfl, rfl⟩ ?_
    refine Wp.gI rfl rfl hn_r0 rfl ⟨by decide, by decide⟩ ?_
    refine Wp.z_le rfl rfl ⟨fun c => ?_, fun c => ?_⟩
    · have H := H.1 c
      refine Wp.go (x := (.aload_n 0, 1, 0, 0)) rfl 33 [some (.ref r0), some (.int x1)] [.ref r0] rfl ⟨rfl, rfl, rfl, rfl⟩ ?_
      refine Wp.gR rfl rfl hn_r0 rfl rfl hf1 ?_
      refine Wp.go (x := (.iload_n 1, 1, 0, 0)) rfl 37 [some (.ref r0), some (.int x1)] [.int x1, .ref f1] rfl ⟨rfl, rfl, rfl, rfl⟩ ?_
      obtain ⟨j2, e, b, H⟩ := H
      refine Wp.ald rfl rfl hn_f1 (Or.inl rfl) (hK hn_f1) ⟨j2, e, b, ?_⟩
      exact Wp.rI rfl rfl H
    · have H := H.2 c
      refine Wp.ic (v := nI 0) rfl rfl (by decide) ?_
      refine Wp.go (x := (.goto 9, 3, 38, 0)) rfl 38 [some (.ref r0), some (.int x1)] [.int (nI 0)] rfl ⟨rfl, rfl, rfl, rfl⟩ ?_
      exact Wp.rI rfl rfl H
  · have H := H.2 c
    refine Wp.go (x := (.iload_n 1, 1, 0, 0)) rfl 6 [some (.ref r0), some (.int x1)] [.int x1, .ref r0] rfl ⟨rfl, rfl, rfl, rfl⟩ ?_
    refine Wp.go (x := (.aload_n 0, 1, 0, 0)) rfl 7 [some (.ref r0), some (.int x1)] [.ref r0, .int x1, .ref r0] rfl ⟨rfl, rfl, rfl, rfl⟩ ?_
    refine Wp.gI rfl rfl hn_r0 rfl ⟨by decide, by decide⟩ ?_
    refine Wp.c_lt rfl rfl ⟨fun c => ?_, fun c => ?_⟩
    · have H := H.1 c
      refine Wp.ic (v := nI 0) rfl rfl (by decide) ?_
      refine Wp.pI rfl rfl hn_r0 rfl (Or.inl rfl) ?_
      refine Wp.go (x := (.aload_n 0, 1, 0, 0)) rfl 22 [some (.ref r0), some (.int x1)] [.ref r0] rfl ⟨rfl, rfl, rfl, rfl⟩ ?_
      refine Wp.gI rfl rfl hn_r0 rfl ⟨by decide, by decide⟩ ?_
      refine Wp.z_le rfl rfl ⟨fun c => ?_, fun c => ?_⟩
      · have H := H.1 c
        refine Wp.go (x := (.aload_n 0, 1, 0, 0)) rfl 33 [some (.ref r0), some (.int x1)] [.ref r0] rfl ⟨rfl, rfl, rfl, rfl⟩ ?_
        refine Wp.gR rfl rfl hn_r0 rfl rfl hf1 ?_
        refine Wp.go (x := (.iload_n 1, 1, 0, 0)) rfl 37 [some (.ref r0), some (.int x1)] [.int x1, .ref f1] rfl ⟨rfl, rfl, rfl, rfl⟩ ?_
        obtain ⟨j3, e, b, H⟩ := H
        refine Wp.ald rfl rfl hn_f1 (Or.inl rfl) (hK hn_f1) ⟨j3, e, b, ?_⟩
        exact Wp.rI rfl rfl H
      · have H := H.2 c
        refine Wp.ic (v := nI 0) rfl rfl (by decide) ?_
        refine Wp.go (x := (.goto 9, 3, 38, 0)) rfl 38 [some (.ref r0), some (.int x1)] [.int (nI 0)] rfl ⟨rfl, rfl, rfl, rfl⟩ ?_
        exact Wp.rI rfl rfl H
    · have H := H.2 c
      refine Wp.ic (v := nI 1) rfl rfl (by decide) ?_
      refine Wp.go (x := (.goto 4, 3, 18, 0)) rfl 18 [some (.ref r0), some (.int x1)] [.int (nI 1), .ref r0] rfl ⟨rfl, rfl, rfl, rfl⟩ ?_
      refine Wp.pI rfl rfl hn_r0 rfl (Or.inl rfl) ?_
      refine Wp.go (x := (.aload_n 0, 1, 0, 0)) rfl 22 [some (.ref r0), some (.int x1)] [.ref r0] rfl ⟨rfl, rfl, rfl, rfl⟩ ?_
      refine Wp.gI rfl rfl hn_r0 rfl ⟨by decide, by decide⟩ ?_
      refine Wp.z_le rfl rfl ⟨fun c => ?_, fun c => ?_⟩
      · have H := H.1 c
        refine Wp.go (x := (.aload_n 0, 1, 0, 0)) rfl 33 [some (.ref r0), some (.int x1)] [.ref r0] rfl ⟨rfl, rfl, rfl, rfl⟩ ?_
        refine Wp.gR rfl rfl hn_r0 rfl rfl hf1 ?_
        refine Wp.go (x := (.iload_n 1, 1, 0, 0)) rfl 37 [some (.ref r0), some (.int x1)] [.int x1, .ref f1] rfl ⟨rfl, rfl, rfl, rfl⟩ ?_
        obtain ⟨j4, e, b, H⟩ := H
        refine Wp.ald rfl rfl hn_f1 (Or.inl rfl) (hK hn_f1) ⟨j4, e, b, ?_⟩
        exact Wp.rI rfl rfl H
      · have H := H.2 c
        refine Wp.ic (v := nI 0) rfl rfl (by decide) ?_
        refine Wp.go (x := (.goto 9, 3, 38, 0)) rfl 38 [some (.ref r0), some (.int x1)] [.int (nI 0)] rfl ⟨rfl, rfl, rfl, rfl⟩ ?_
        exact Wp.rI rfl rfl H
set_option maxRecDepth 20000 in
theorem wJ7_rangeCheck_23922_0 {d : Nat} {Q : Option Value × xS → Prop} {K : Nat → Nat × Nat} {P : List Nat × Nat × Nat} {I : Nat → Nat → Int32} {J : Nat → Nat → Int64} {F : Nat → Nat → Option Nat} {x0 : Int32} {x1 : Int32} {x2 : Int32}  (H : ((x1 ≤ x2 → ((0 ≤ x1 → ((x2 ≤ x0 → Q (none, (K, P, I, J, F))) ∧ (¬ x2 ≤ x0 → False))) ∧ (¬ 0 ≤ x1 → False))) ∧ (¬ x1 ≤ x2 → False))) : Wp d 164 0 [some (.int x0), some (.int x1), some (.int x2)] [] (K, P, I, J, F) Q := by
  refine Wp.go (x := (.iload_n 1, 1, 0, 0)) rfl 1 [some (.int x0), some (.int x1), some (.int x2)] [.int x1] rfl ⟨rfl, rfl, rfl, rfl⟩ ?_
  refine Wp.go (x := (.iload_n 2, 1, 0, 0)) rfl 2 [some (.int x0), some (.int x1), some (.int x2)] [.int x2, .int x1] rfl ⟨rfl, rfl, rfl, rfl⟩ ?_
  refine Wp.c_le rfl rfl ⟨fun c => ?_, fun c => ?_⟩
  · have H := H.1 c
    refine Wp.go (x := (.iload_n 1, 1, 0, 0)) rfl 47 [some (.int x0), some (.int x1), some (.int x2)] [.int x1] rfl ⟨rfl, rfl, rfl, rfl⟩ ?_
    refine Wp.z_ge rfl rfl ⟨fun c => ?_, fun c => ?_⟩
    · have H := H.1 c
      refine Wp.go (x := (.iload_n 2, 1, 0, 0)) rfl 60 [some (.int x0), some (.int x1), some (.int x2)] [.int x2] rfl ⟨rfl, rfl, rfl, rfl⟩ ?_
      refine Wp.go (x := (.iload_n 0, 1, 0, 0)) rfl 61 [some (.int x0), some (.int x1), some (.int x2)] [.int x0, .int x2] rfl ⟨rfl, rfl, rfl, rfl⟩ ?_
      refine Wp.c_le rfl rfl ⟨fun c => ?_, fun c => ?_⟩
      · have H := H.1 c
        exact Wp.rV rfl rfl H
      · have H := H.2 c
        exact H.elim
    · have H := H.2 c
      exact H.elim
  · have H := H.2 c
    exact H.elim
set_option maxRecDepth 20000 in
theorem wJ7_fill_d0a16_0 {d : Nat} {Q : Option Value × xS → Prop} {K : Nat → Nat × Nat} {P : List Nat × Nat × Nat} {I : Nat → Nat → Int32} {J : Nat → Nat → Int64} {F : Nat → Nat → Option Nat} {r0 : Nat} {y1 : Int64} {n_r0 : Nat} (hn_r0 : K r0 = (101, n_r0)) (H : Wp d 165 6 [some (.ref r0), some (.long y1), none, some (.int (nI 0)), some (.int (nI n_r0))] [] (K, P, I, J, F) Q) : Wp d 165 0 [some (.ref r0), some (.long y1), none, none, none] [] (K, P, I, J, F) Q := by
  refine Wp.ic (v := nI 0) rfl rfl (by decide) ?_
  refine Wp.go (x := (.istore_n 3, 1, 0, 0)) rfl 2 [some (.ref r0), some (.long y1), none, some (.int (nI 0)), none] [] rfl ⟨rfl, rfl, rfl, rfl⟩ ?_
  refine Wp.go (x := (.aload_n 0, 1, 0, 0)) rfl 3 [some (.ref r0), some (.long y1), none, some (.int (nI 0)), none] [.ref r0] rfl ⟨rfl, rfl, rfl, rfl⟩ ?_
  refine Wp.alen rfl rfl hn_r0 (Or.inr (Or.inr rfl)) ?_
  refine Wp.go (x := (.istore 4, 2, 0, 0)) rfl 6 [some (.ref r0), some (.long y1), none, some (.int (nI 0)), some (.int (nI n_r0))] [] rfl ⟨rfl, rfl, rfl, rfl⟩ ?_
  exact H
set_option maxRecDepth 20000 in
theorem wJ7_fill_d0a16_6 {d : Nat} {Q : Option Value × xS → Prop} {K : Nat → Nat × Nat} {P : List Nat × Nat × Nat} {I : Nat → Nat → Int32} {J : Nat → Nat → Int64} {F : Nat → Nat → Option Nat} {r0 : Nat} {y1 : Int64} {x3 : Int32} {x4 : Int32} {n_r0 : Nat} (hK : ∀ {a k n : Nat}, K a = (k, n) → n < 2147483648) (hn_r0 : K r0 = (101, n_r0)) (H : ((x4 ≤ x3 → Q (none, (K, P, I, J, F))) ∧ (¬ x4 ≤ x3 → (∃ j1 : Nat, x3 = nI j1 ∧ j1 < n_r0 ∧ Wp d 165 6 [some (.ref r0), some (.long y1), none, some (.int (x3 + nI 1)), some (.int x4)] [] (K, P, I, (xup J r0 j1 y1), F) Q)))) : Wp d 165 6 [some (.ref r0), some (.long y1), none, some (.int x3), some (.int x4)] [] (K, P, I, J, F) Q := by
  refine Wp.go (x := (.iload_n 3, 1, 0, 0)) rfl 7 [some (.ref r0), some (.long y1), none, some (.int x3), some (.int x4)] [.int x3] rfl ⟨rfl, rfl, rfl, rfl⟩ ?_
  refine Wp.go (x := (.iload 4, 2, 0, 0)) rfl 9 [some (.ref r0), some (.long y1), none, some (.int x3), some (.int x4)] [.int x4, .int x3] rfl ⟨rfl, rfl, rfl, rfl⟩ ?_
  refine Wp.c_ge rfl rfl ⟨fun c => ?_, fun c => ?_⟩
  · have H := H.1 c
    exact Wp.rV rfl rfl H
  · have H := H.2 c
    refine Wp.go (x := (.aload_n 0, 1, 0, 0)) rfl 13 [some (.ref r0), some (.long y1), none, some (.int x3), some (.int x4)] [.ref r0] rfl ⟨rfl, rfl, rfl, rfl⟩ ?_
    refine Wp.go (x := (.iload_n 3, 1, 0, 0)) rfl 14 [some (.ref r0), some (.long y1), none, some (.int x3), some (.int x4)] [.int x3, .ref r0] rfl ⟨rfl, rfl, rfl, rfl⟩ ?_
    refine Wp.go (x := (.lload_n 1, 1, 0, 0)) rfl 15 [some (.ref r0), some (.long y1), none, some (.int x3), some (.int x4)] [.long y1, .int x3, .ref r0] rfl ⟨rfl, rfl, rfl, rfl⟩ ?_
    obtain ⟨j1, e, b, H⟩ := H
    refine Wp.lst rfl rfl hn_r0 (hK hn_r0) ⟨j1, e, b, ?_⟩
    refine Wp.ii (v := nI 1) rfl rfl (by decide) rfl (L' := [some (.ref r0), some (.long y1), none, some (.int (x3 + nI 1)), some (.int x4)]) rfl ?_
    refine Wp.go (x := (.goto (-13), 3, 6, 0)) rfl 6 [some (.ref r0), some (.long y1), none, some (.int (x3 + nI 1)), some (.int x4)] [] rfl ⟨rfl, rfl, rfl, rfl⟩ ?_
    exact H
set_option maxRecDepth 20000 in
theorem wJ7_fill_53178_0 {d : Nat} {Q : Option Value × xS → Prop} {K : Nat → Nat × Nat} {P : List Nat × Nat × Nat} {I : Nat → Nat → Int32} {J : Nat → Nat → Int64} {F : Nat → Nat → Option Nat} {r0 : Nat} {x1 : Int32} {n_r0 : Nat} (hn_r0 : K r0 = (100, n_r0)) (H : Wp d 166 5 [some (.ref r0), some (.int x1), some (.int (nI 0)), some (.int (nI n_r0))] [] (K, P, I, J, F) Q) : Wp d 166 0 [some (.ref r0), some (.int x1), none, none] [] (K, P, I, J, F) Q := by
  refine Wp.ic (v := nI 0) rfl rfl (by decide) ?_
  refine Wp.go (x := (.istore_n 2, 1, 0, 0)) rfl 2 [some (.ref r0), some (.int x1), some (.int (nI 0)), none] [] rfl ⟨rfl, rfl, rfl, rfl⟩ ?_
  refine Wp.go (x := (.aload_n 0, 1, 0, 0)) rfl 3 [some (.ref r0), some (.int x1), some (.int (nI 0)), none] [.ref r0] rfl ⟨rfl, rfl, rfl, rfl⟩ ?_
  refine Wp.alen rfl rfl hn_r0 (Or.inl rfl) ?_
  refine Wp.go (x := (.istore_n 3, 1, 0, 0)) rfl 5 [some (.ref r0), some (.int x1), some (.int (nI 0)), some (.int (nI n_r0))] [] rfl ⟨rfl, rfl, rfl, rfl⟩ ?_
  exact H
set_option maxRecDepth 20000 in
theorem wJ7_fill_53178_5 {d : Nat} {Q : Option Value × xS → Prop} {K : Nat → Nat × Nat} {P : List Nat × Nat × Nat} {I : Nat → Nat → Int32} {J : Nat → Nat → Int64} {F : Nat → Nat → Option Nat} {r0 : Nat} {x1 : Int32} {x2 : Int32} {x3 : Int32} {n_r0 : Nat} (hK : ∀ {a k n : Nat}, K a = (k, n) → n < 2147483648) (hn_r0 : K r0 = (100, n_r0)) (H : ((x3 ≤ x2 → Q (none, (K, P, I, J, F))) ∧ (¬ x3 ≤ x2 → (∃ j1 : Nat, x2 = nI j1 ∧ j1 < n_r0 ∧ Wp d 166 5 [some (.ref r0), some (.int x1), some (.int (x2 + nI 1)), some (.int x3)] [] (K, P, (xup I r0 j1 x1), J, F) Q)))) : Wp d 166 5 [some (.ref r0), some (.int x1), some (.int x2), some (.int x3)] [] (K, P, I, J, F) Q := by
  refine Wp.go (x := (.iload_n 2, 1, 0, 0)) rfl 6 [some (.ref r0), some (.int x1), some (.int x2), some (.int x3)] [.int x2] rfl ⟨rfl, rfl, rfl, rfl⟩ ?_
  refine Wp.go (x := (.iload_n 3, 1, 0, 0)) rfl 7 [some (.ref r0), some (.int x1), some (.int x2), some (.int x3)] [.int x3, .int x2] rfl ⟨rfl, rfl, rfl, rfl⟩ ?_
  refine Wp.c_ge rfl rfl ⟨fun c => ?_, fun c => ?_⟩
  · have H := H.1 c
    exact Wp.rV rfl rfl H
  · have H := H.2 c
    refine Wp.go (x := (.aload_n 0, 1, 0, 0)) rfl 11 [some (.ref r0), some (.int x1), some (.int x2), some (.int x3)] [.ref r0] rfl ⟨rfl, rfl, rfl, rfl⟩ ?_
    refine Wp.go (x := (.iload_n 2, 1, 0, 0)) rfl 12 [some (.ref r0), some (.int x1), some (.int x2), some (.int x3)] [.int x2, .ref r0] rfl ⟨rfl, rfl, rfl, rfl⟩ ?_
    refine Wp.go (x := (.iload_n 1, 1, 0, 0)) rfl 13 [some (.ref r0), some (.int x1), some (.int x2), some (.int x3)] [.int x1, .int x2, .ref r0] rfl ⟨rfl, rfl, rfl, rfl⟩ ?_
    obtain ⟨j1, e, b, H⟩ := H
    refine Wp.ast rfl rfl hn_r0 (hK hn_r0) ⟨j1, e, b, ?_⟩
    refine Wp.ii (v := nI 1) rfl rfl (by decide) rfl (L' := [some (.ref r0), some (.int x1), some (.int (x2 + nI 1)), some (.int x3)]) rfl ?_
    refine Wp.go (x := (.goto (-12), 3, 5, 0)) rfl 5 [some (.ref r0), some (.int x1), some (.int (x2 + nI 1)), some (.int x3)] [] rfl ⟨rfl, rfl, rfl, rfl⟩ ?_
    exact H
set_option maxRecDepth 20000 in
theorem wJ7_fill_fda19_0 {d : Nat} {Q : Option Value × xS → Prop} {K : Nat → Nat × Nat} {P : List Nat × Nat × Nat} {I : Nat → Nat → Int32} {J : Nat → Nat → Int64} {F : Nat → Nat → Option Nat} {r0 : Nat} {x1 : Int32} {x2 : Int32} {x3 : Int32} {n_r0 : Nat} (hn_r0 : K r0 = (100, n_r0)) (H : Wp d 164 0 [some (.int (nI n_r0)), some (.int x1), some (.int x2)] [] (K, P, I, J, F) (xrV K P F (fun I1 J2 => Wp (d + 1) 167 10 [some (.ref r0), none, some (.int x2), some (.int x3), some (.int x1)] [] (K, P, I1, J2, F) Q))) : Wp (d + 1) 167 0 [some (.ref r0), some (.int x1), some (.int x2), some (.int x3), none] [] (K, P, I, J, F) Q := by
  refine Wp.go (x := (.aload_n 0, 1, 0, 0)) rfl 1 [some (.ref r0), some (.int x1), some (.int x2), some (.int x3), none] [.ref r0] rfl ⟨rfl, rfl, rfl, rfl⟩ ?_
  refine Wp.alen rfl rfl hn_r0 (Or.inl rfl) ?_
  refine Wp.go (x := (.iload_n 1, 1, 0, 0)) rfl 3 [some (.ref r0), some (.int x1), some (.int x2), some (.int x3), none] [.int x1, .int (nI n_r0)] rfl ⟨rfl, rfl, rfl, rfl⟩ ?_
  refine Wp.go (x := (.iload_n 2, 1, 0, 0)) rfl 4 [some (.ref r0), some (.int x1), some (.int x2), some (.int x3), none] [.int x2, .int x1, .int (nI n_r0)] rfl ⟨rfl, rfl, rfl, rfl⟩ ?_
  refine Wp.kV (x := (.invokestatic 13, 3, 164, 3)) (j := 164) (vs := [.int (nI n_r0), .int x1, .int x2]) (rest := []) rfl rfl rfl ⟨Nat.le_of_ble_eq_true rfl, Nat.le_of_ble_eq_true rfl, Nat.le_of_ble_eq_true rfl⟩ rfl rfl rfl H (fun I1 J2 H => ?_)
  refine Wp.go (x := (.iload_n 1, 1, 0, 0)) rfl 8 [some (.ref r0), some (.int x1), some (.int x2), some (.int x3), none] [.int x1] rfl ⟨rfl, rfl, rfl, rfl⟩ ?_
  refine Wp.go (x := (.istore 4, 2, 0, 0)) rfl 10 [some (.ref r0), some (.int x1), some (.int x2), some (.int x3), some (.int x1)] [] rfl ⟨rfl, rfl, rfl, rfl⟩ ?_
  exact Wp.wk (L := [some (.ref r0), none, some (.int x2), some (.int x3), some (.int x1)]) ⟨Or.inr rfl, Or.inl rfl, Or.inr rfl, Or.inr rfl, Or.inr rfl, trivial⟩ H
set_option maxRecDepth 20000 in
theorem wJ7_fill_fda19_10 {d : Nat} {Q : Option Value × xS → Prop} {K : Nat → Nat × Nat} {P : List Nat × Nat × Nat} {I : Nat → Nat → Int32} {J : Nat → Nat → Int64} {F : Nat → Nat → Option Nat} {r0 : Nat} {x2 : Int32} {x3 : Int32} {x4 : Int32} {n_r0 : Nat} (hK : ∀ {a k n : Nat}, K a = (k, n) → n < 2147483648) (hn_r0 : K r0 = (100, n_r0)) (H : ((x2 ≤ x4 → Q (none, (K, P, I, J, F))) ∧ (¬ x2 ≤ x4 → (∃ j1 : Nat, x4 = nI j1 ∧ j1 < n_r0 ∧ Wp d 167 10 [some (.ref r0), none, some (.int x2), some (.int x3), some (.int (x4 + nI 1))] [] (K, P, (xup I r0 j1 x3), J, F) Q)))) : Wp d 167 10 [some (.ref r0), none, some (.int x2), some (.int x3), some (.int x4)] [] (K, P, I, J, F) Q := by
  refine Wp.go (x := (.iload 4, 2, 0, 0)) rfl 12 [some (.ref r0), none, some (.int x2), some (.int x3), some (.int x4)] [.int x4] rfl ⟨rfl, rfl, rfl, rfl⟩ ?_
  refine Wp.go (x := (.iload_n 2, 1, 0, 0)) rfl 13 [some (.ref r0), none, some (.int x2), some (.int x3), some (.int x4)] [.int x2, .int x4] rfl ⟨rfl, rfl, rfl, rfl⟩ ?_
  refine Wp.c_ge rfl rfl ⟨fun c => ?_, fun c => ?_⟩
  · have H := H.1 c
    exact Wp.rV rfl rfl H
  · have H := H.2 c
    refine Wp.go (x := (.aload_n 0, 1, 0, 0)) rfl 17 [some (.ref r0), none, some (.int x2), some (.int x3), some (.int x4)] [.ref r0] rfl ⟨rfl, rfl, rfl, rfl⟩ ?_
    refine Wp.go (x := (.iload 4, 2, 0, 0)) rfl 19 [some (.ref r0), none, some (.int x2), some (.int x3), some (.int x4)] [.int x4, .ref r0] rfl ⟨rfl, rfl, rfl, rfl⟩ ?_
    refine Wp.go (x := (.iload_n 3, 1, 0, 0)) rfl 20 [some (.ref r0), none, some (.int x2), some (.int x3), some (.int x4)] [.int x3, .int x4, .ref r0] rfl ⟨rfl, rfl, rfl, rfl⟩ ?_
    obtain ⟨j1, e, b, H⟩ := H
    refine Wp.ast rfl rfl hn_r0 (hK hn_r0) ⟨j1, e, b, ?_⟩
    refine Wp.ii (v := nI 1) rfl rfl (by decide) rfl (L' := [some (.ref r0), none, some (.int x2), some (.int x3), some (.int (x4 + nI 1))]) rfl ?_
    refine Wp.go (x := (.goto (-14), 3, 10, 0)) rfl 10 [some (.ref r0), none, some (.int x2), some (.int x3), some (.int (x4 + nI 1))] [] rfl ⟨rfl, rfl, rfl, rfl⟩ ?_
    exact H
set_option maxRecDepth 20000 in
theorem wL_cell_0 {d : Nat} {Q : Option Value × xS → Prop} {K : Nat → Nat × Nat} {P : List Nat × Nat × Nat} {I : Nat → Nat → Int32} {J : Nat → Nat → Int64} {F : Nat → Nat → Option Nat} {r0 : Nat} {x1 : Int32} {n_r0 : Nat} (hK : ∀ {a k n : Nat}, K a = (k, n) → n < 2147483648) (hn_r0 : K r0 = (100, n_r0)) (H : (((nI n_r0) ≤ x1 → Q (some (.int (nI 0)), (K, P, I, J, F))) ∧ (¬ (nI n_r0) ≤ x1 → (∃ j1 : Nat, x1 = nI j1 ∧ j1 < n_r0 ∧ Q (some (.int (I r0 j1)), (K, P, I, J, F)))))) : Wp d 168 0 [some (.ref r0), some (.int x1)] [] (K, P, I, J, F) Q := by
  refine Wp.go (x := (.iload_n 1, 1, 0, 0)) rfl 1 [some (.ref r0), some (.int x1)] [.int x1] rfl ⟨rfl, rfl, rfl, rfl⟩ ?_
  refine Wp.go (x := (.aload_n 0, 1, 0, 0)) rfl 2 [some (.ref r0), some (.int x1)] [.ref r0, .int x1] rfl ⟨rfl, rfl, rfl, rfl⟩ ?_
  refine Wp.alen rfl rfl hn_r0 (Or.inl rfl) ?_
  refine Wp.c_ge rfl rfl ⟨fun c => ?_, fun c => ?_⟩
  · have H := H.1 c
    refine Wp.ic (v := nI 0) rfl rfl (by decide) ?_
    exact Wp.rI rfl rfl H
  · have H := H.2 c
    refine Wp.go (x := (.aload_n 0, 1, 0, 0)) rfl 7 [some (.ref r0), some (.int x1)] [.ref r0] rfl ⟨rfl, rfl, rfl, rfl⟩ ?_
    refine Wp.go (x := (.iload_n 1, 1, 0, 0)) rfl 8 [some (.ref r0), some (.int x1)] [.int x1, .ref r0] rfl ⟨rfl, rfl, rfl, rfl⟩ ?_
    obtain ⟨j1, e, b, H⟩ := H
    refine Wp.ald rfl rfl hn_r0 (Or.inl rfl) (hK hn_r0) ⟨j1, e, b, ?_⟩
    refine Wp.go (x := (.goto 4, 3, 13, 0)) rfl 13 [some (.ref r0), some (.int x1)] [.int (I r0 j1)] rfl ⟨rfl, rfl, rfl, rfl⟩ ?_
    exact Wp.rI rfl rfl H
