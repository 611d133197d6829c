set_option maxRecDepth 20000 in
theorem wX5_findFirst_0 {d : Nat} {Q : Option Value × xS → Prop} {K : Nat → Nat × Nat} {P : List Nat × Nat × Nat} {I : Nat → Nat → Int32} {J : Nat → Nat → Int64} {F : Nat → Nat → Option Nat} {r0 : Nat} {x1 : Int32}  (H : Wp d 43 5 [some (.ref r0), some (.int x1), some (.int (nI 1073741824)), some (.int (nI 0)), none] [] (K, P, I, J, F) Q) : Wp d 43 0 [some (.ref r0), some (.int x1), none, none, none] [] (K, P, I, J, F) Q := by
  refine Wp.ldc (v := nI 1073741824) rfl rfl (by first | rfl | decide) ?_
  refine Wp.go (x := (.istore_n 2, 1, 0, 0)) rfl 3 [some (.ref r0), some (.int x1), some (.int (nI 1073741824)), none, none] [] rfl ⟨rfl, rfl, rfl, rfl⟩ ?_
  refine Wp.ic (v := nI 0) rfl rfl (by decide) ?_
  refine Wp.go (x := (.istore_n 3, 1, 0, 0)) rfl 5 [some (.ref r0), some (.int x1), some (.int (nI 1073741824)), some (.int (nI 0)), none] [] rfl ⟨rfl, rfl, rfl, rfl⟩ ?_
  exact H
set_option maxRecDepth 20000 in
theorem wX5_findFirst_5 {d : Nat} {Q : Option Value × xS → Prop} {K : Nat → Nat × Nat} {P : List Nat × Nat × Nat} {I : Nat → Nat → Int32} {J : Nat → Nat → Int64} {F : Nat → Nat → Option Nat} {r0 : Nat} {x1 : Int32} {x2 : Int32} {x3 : Int32} {n_r0 : Nat} {f1 : Nat} {n_f1 : Nat} {f3 : Nat} {n_f3 : Nat} {f5 : Nat} {n_f5 : Nat} {f8 : Nat} {n_f8 : Nat} (hK : ∀ {a k n : Nat}, K a = (k, n) → n < 2147483648) (hn_r0 : K r0 = (4, n_r0)) (hf1 : F r0 5 = some f1) (hn_f1 : K f1 = (100, n_f1)) (hf3 : F r0 2 = some f3) (hn_f3 : K f3 = (100, n_f3)) (hf5 : F r0 6 = some f5) (hn_f5 : K f5 = (100, n_f5)) (hf8 : F r0 4 = some f8) (hn_f8 : K f8 = (100, n_f8)) (H : ((x1 < x3 → (∃ j2 : Nat, x1 = nI j2 ∧ j2 < n_f1 ∧ Q (none, (K, P, (xup I f1 j2 x2), J, F)))) ∧ (¬ x1 < x3 → (∃ j4 : Nat, (x1 - x3) = nI j4 ∧ j4 < n_f3 ∧ (((I f3 j4) = (nI 1073741824) → Wp d 43 5 [some (.ref r0), some (.int x1), some (.int x2), some (.int (x3 + nI 1)), none] [] (K, P, I, J, F) Q) ∧ (¬ (I f3 j4) = (nI 1073741824) → (∃ j6 : Nat, x3 = nI j6 ∧ j6 < n_f5 ∧ ((x2 ≤ ((I f3 j4) + (I f5 j6)) → Wp d 43 5 [some (.ref r0), some (.int x1), some (.int x2), some (.int (x3 + nI 1)), none] [] (K, P, I, J, F) Q) ∧ (¬ x2 ≤ ((I f3 j4) + (I f5 j6)) → (∃ j7 : Nat, x3 = nI j7 ∧ j7 < n_f5 ∧ (∃ j9 : Nat, x1 = nI j9 ∧ j9 < n_f8 ∧ Wp d 43 5 [some (.ref r0), some (.int x1), some (.int ((I f3 j4) + (I f5 j7))), some (.int (x3 + nI 1)), none] [] (K, P, (xup I f8 j9 x3), J, F) Q))))))))))) : Wp d 43 5 [some (.ref r0), some (.int x1), some (.int x2), some (.int x3), none] [] (K, P, I, J, F) Q := by
  refine Wp.go (x := (.iload_n 3, 1, 0, 0)) rfl 6 [some (.ref r0), some (.int x1), some (.int x2), some (.int x3), none] [.int x3] rfl ⟨rfl, rfl, rfl, rfl⟩ ?_
  refine Wp.go (x := (.iload_n 1, 1, 0, 0)) rfl 7 [some (.ref r0), some (.int x1), some (.int x2), some (.int x3), none] [.int x1, .int x3] rfl ⟨rfl, rfl, rfl, rfl⟩ ?_
  refine Wp.c_gt rfl rfl ⟨fun c => ?_, fun c => ?_⟩
  · have H := H.1 c
    refine Wp.go (x := (.aload_n 0, 1, 0, 0)) rfl 64 [some (.ref r0), some (.int x1), some (.int x2), some (.int x3), none] [.ref r0] rfl ⟨rfl, rfl, rfl, rfl⟩ ?_
    refine Wp.gR rfl rfl hn_r0 rfl rfl hf1 ?_
    refine Wp.go (x := (.iload_n 1, 1, 0, 0)) rfl 68 [some (.ref r0), some (.int x1), some (.int x2), some (.int x3), none] [.int x1, .ref f1] rfl ⟨rfl, rfl, rfl, rfl⟩ ?_
    refine Wp.go (x := (.iload_n 2, 1, 0, 0)) rfl 69 [some (.ref r0), some (.int x1), some (.int x2), some (.int x3), none] [.int x2, .int x1, .ref f1] rfl ⟨rfl, rfl, rfl, rfl⟩ ?_
    obtain ⟨j2, e, b, H⟩ := H
    refine Wp.ast rfl rfl hn_f1 (hK hn_f1) ⟨j2, e, b, ?_⟩
    exact Wp.rV rfl rfl H
  · have H := H.2 c
    refine Wp.go (x := (.aload_n 0, 1, 0, 0)) rfl 11 [some (.ref r0), some (.int x1), some (.int x2), some (.int x3), none] [.ref r0] rfl ⟨rfl, rfl, rfl, rfl⟩ ?_
    refine Wp.gR rfl rfl hn_r0 rfl rfl hf3 ?_
    refine Wp.go (x := (.iload_n 1, 1, 0, 0)) rfl 15 [some (.ref r0), some (.int x1), some (.int x2), some (.int x3), none] [.int x1, .ref f3] rfl ⟨rfl, rfl, rfl, rfl⟩ ?_
    refine Wp.go (x := (.iload_n 3, 1, 0, 0)) rfl 16 [some (.ref r0), some (.int x1), some (.int x2), some (.int x3), none] [.int x3, .int x1, .ref f3] rfl ⟨rfl, rfl, rfl, rfl⟩ ?_
    refine Wp.go (x := (.isub, 1, 0, 0)) rfl 17 [some (.ref r0), some (.int x1), some (.int x2), some (.int x3), none] [.int (x1 - x3), .ref f3] rfl ⟨rfl, rfl, rfl, rfl⟩ ?_
    obtain ⟨j4, e, b, H⟩ := H
    refine Wp.ald rfl rfl hn_f3 (Or.inl rfl) (hK hn_f3) ⟨j4, e, b, ?_⟩
    refine Wp.go (x := (.istore 4, 2, 0, 0)) rfl 20 [some (.ref r0), some (.int x1), some (.int x2), some (.int x3), some (.int (I f3 j4))] [] rfl ⟨rfl, rfl, rfl, rfl⟩ ?_
    refine Wp.go (x := (.iload 4, 2, 0, 0)) rfl 22 [some (.ref r0), some (.int x1), some (.int x2), some (.int x3), some (.int (I f3 j4))] [.int (I f3 j4)] rfl ⟨rfl, rfl, rfl, rfl⟩ ?_
    refine Wp.ldc (v := nI 1073741824) rfl rfl (by first | rfl | decide) ?_
    refine Wp.c_eq rfl rfl ⟨fun c => ?_, fun c => ?_⟩
    · have H := H.1 c
      refine Wp.ii (v := nI 1) rfl rfl (by decide) rfl (L' := [some (.ref r0), some (.int x1), some (.int x2), some (.int (x3 + nI 1)), some (.int (I f3 j4))]) rfl ?_
      refine Wp.go (x := (.goto (-55), 3, 5, 0)) rfl 5 [some (.ref r0), some (.int x1), some (.int x2), some (.int (x3 + nI 1)), some (.int (I f3 j4))] [] rfl ⟨rfl, rfl, rfl, rfl⟩ ?_
      exact Wp.wk (L := [some (.ref r0), some (.int x1), some (.int x2), some (.int (x3 + nI 1)), none]) ⟨Or.inr rfl, Or.inr rfl, Or.inr rfl, Or.inr rfl, Or.inl rfl, trivial⟩ H
    · have H := H.2 c
      refine Wp.go (x := (.iload 4, 2, 0, 0)) rfl 29 [some (.ref r0), some (.int x1), some (.int x2), some (.int x3), some (.int (I f3 j4))] [.int (I f3 j4)] rfl ⟨rfl, rfl, rfl, rfl⟩ ?_
      refine Wp.go (x := (.aload_n 0, 1, 0, 0)) rfl 30 [some (.ref r0), some (.int x1), some (.int x2), some (.int x3), some (.int (I f3 j4))] [.ref r0, .int (I f3 j4)] rfl ⟨rfl, rfl, rfl, rfl⟩ ?_
      refine Wp.gR rfl rfl hn_r0 rfl rfl hf5 ?_
      refine Wp.go (x := (.iload_n 3, 1, 0, 0)) rfl 34 [some (.ref r0), some (.int x1), some (.int x2), some (.int x3), some (.int (I f3 j4))] [.int x3, .ref f5, .int (I f3 j4)] rfl ⟨rfl, rfl, rfl, rfl⟩ ?_
      obtain ⟨j6, e, b, H⟩ := H
      refine Wp.ald rfl rfl hn_f5 (Or.inl rfl) (hK hn_f5) ⟨j6, e, b, ?_⟩
      refine Wp.go (x := (.iadd, 1, 0, 0)) rfl 36 [some (.ref r0), some (.int x1), some (.int x2), some (.int x3), some (.int (I f3 j4))] [.int ((I f3 j4) + (I f5 j6))] rfl ⟨rfl, rfl, rfl, rfl⟩ ?_
      refine Wp.go (x := (.iload_n 2, 1, 0, 0)) rfl 37 [some (.ref r0), some (.int x1), some (.int x2), some (.int x3), some (.int (I f3 j4))] [.int x2, .int ((I f3 j4) + (I f5 j6))] rfl ⟨rfl, rfl, rfl, rfl⟩ ?_
      refine Wp.c_ge rfl rfl ⟨fun c => ?_, fun c => ?_⟩
      · have H := H.1 c
        refine Wp.ii (v := nI 1) rfl rfl (by decide) rfl (L' := [some (.ref r0), some (.int x1), some (.int x2), some (.int (x3 + nI 1)), some (.int (I f3 j4))]) rfl ?_
        refine Wp.go (x := (.goto (-55), 3, 5, 0)) rfl 5 [some (.ref r0), some (.int x1), some (.int x2), some (.int (x3 + nI 1)), some (.int (I f3 j4))] [] rfl ⟨rfl, rfl, rfl, rfl⟩ ?_
        exact Wp.wk (L := [some (.ref r0), some (.int x1), some (.int x2), some (.int (x3 + nI 1)), none]) ⟨Or.inr rfl, Or.inr rfl, Or.inr rfl, Or.inr rfl, Or.inl rfl, trivial⟩ H
      · have H := H.2 c
        refine Wp.go (x := (.iload 4, 2, 0, 0)) rfl 42 [some (.ref r0), some (.int x1), some (.int x2), some (.int x3), some (.int (I f3 j4))] [.int (I f3 j4)] rfl ⟨rfl, rfl, rfl, rfl⟩ ?_
        refine Wp.go (x := (.aload_n 0, 1, 0, 0)) rfl 43 [some (.ref r0), some (.int x1), some (.int x2), some (.int x3), some (.int (I f3 j4))] [.ref r0, .int (I f3 j4)] rfl ⟨rfl, rfl, rfl, rfl⟩ ?_
        refine Wp.gR rfl rfl hn_r0 rfl rfl hf5 ?_
        refine Wp.go (x := (.iload_n 3, 1, 0, 0)) rfl 47 [some (.ref r0), some (.int x1), some (.int x2), some (.int x3), some (.int (I f3 j4))] [.int x3, .ref f5, .int (I f3 j4)] rfl ⟨rfl, rfl, rfl, rfl⟩ ?_
        obtain ⟨j7, e, b, H⟩ := H
        refine Wp.ald rfl rfl hn_f5 (Or.inl rfl) (hK hn_f5) ⟨j7, e, b, ?_⟩
        refine Wp.go (x := (.iadd, 1, 0, 0)) rfl 49 [some (.ref r0), some (.int x1), some (.int x2), some (.int x3), some (.int (I f3 j4))] [.int ((I f3 j4) + (I f5 j7))] rfl ⟨rfl, rfl, rfl, rfl⟩ ?_
        refine Wp.go (x := (.istore_n 2, 1, 0, 0)) rfl 50 [some (.ref r0), some (.int x1), some (.int ((I f3 j4) + (I f5 j7))), some (.int x3), some (.int (I f3 j4))] [] rfl ⟨rfl, rfl, rfl, rfl⟩ ?_
        refine Wp.go (x := (.aload_n 0, 1, 0, 0)) rfl 51 [some (.ref r0), some (.int x1), some (.int ((I f3 j4) + (I f5 j7))), some (.int x3), some (.int (I f3 j4))] [.ref r0] rfl ⟨rfl, rfl, rfl, rfl⟩ ?_
        refine Wp.gR rfl rfl hn_r0 rfl rfl hf8 ?_
        refine Wp.go (x := (.iload_n 1, 1, 0, 0)) rfl 55 [some (.ref r0), some (.int x1), some (.int ((I f3 j4) + (I f5 j7))), some (.int x3), some (.int (I f3 j4))] [.int x1, .ref f8] rfl ⟨rfl, rfl, rfl, rfl⟩ ?_
        refine Wp.go (x := (.iload_n 3, 1, 0, 0)) rfl 56 [some (.ref r0), some (.int x1), some (.int ((I f3 j4) + (I f5 j7))), some (.int x3), some (.int (I f3 j4))] [.int x3, .int x1, .ref f8] rfl ⟨rfl, rfl, rfl, rfl⟩ ?_
        obtain ⟨j9, e, b, H⟩ := H
        refine Wp.ast rfl rfl hn_f8 (hK hn_f8) ⟨j9, e, b, ?_⟩
        refine Wp.ii (v := nI 1) rfl rfl (by decide) rfl (L' := [some (.ref r0), some (.int x1), some (.int ((I f3 j4) + (I f5 j7))), some (.int (x3 + nI 1)), some (.int (I f3 j4))]) rfl ?_
        refine Wp.go (x := (.goto (-55), 3, 5, 0)) rfl 5 [some (.ref r0), some (.int x1), some (.int ((I f3 j4) + (I f5 j7))), some (.int (x3 + nI 1)), some (.int (I f3 j4))] [] rfl ⟨rfl, rfl, rfl, rfl⟩ ?_
        exact Wp.wk (L := [some (.ref r0), some (.int x1), some (.int ((I f3 j4) + (I f5 j7))), some (.int (x3 + nI 1)), none]) ⟨Or.inr rfl, Or.inr rfl, Or.inr rfl, Or.inr rfl, Or.inl rfl, trivial⟩ H
set_option maxRecDepth 20000 in
theorem wX5_lead_0 {d : Nat} {Q : Option Value × xS → Prop} {K : Nat → Nat × Nat} {P : List Nat × Nat × Nat} {I : Nat → Nat → Int32} {J : Nat → Nat → Int64} {F : Nat → Nat → Option Nat} {r0 : Nat} {x1 : Int32} {x2 : Int32} {n_r0 : Nat} {f1 : Nat} {n_f1 : Nat} {f6 : Nat} {n_f6 : Nat} {f9 : Nat} {n_f9 : Nat} (hK : ∀ {a k n : Nat}, K a = (k, n) → n < 2147483648) (hn_r0 : K r0 = (4, n_r0)) (hf1 : F r0 5 = some f1) (hn_f1 : K f1 = (100, n_f1)) (hf6 : F r0 2 = some f6) (hn_f6 : K f6 = (100, n_f6)) (hf9 : F r0 3 = some f9) (hn_f9 : K f9 = (100, n_f9)) (H : (∃ j2 : Nat, x1 = nI j2 ∧ j2 < n_f1 ∧ Wp d 47 0 [some (.int x2)] [] (K, P, I, J, F) (xrI K P F (fun v3 I4 J5 => (∃ j7 : Nat, (x1 + x2) = nI j7 ∧ j7 < n_f6 ∧ (((I4 f6 j7) ≤ ((I f1 j2) + v3) → Q (none, (K, P, I4, J5, F))) ∧ (¬ (I4 f6 j7) ≤ ((I f1 j2) + v3) → (∃ j8 : Nat, (x1 + x2) = nI j8 ∧ j8 < n_f6 ∧ (∃ j10 : Nat, (x1 + x2) = nI j10 ∧ j10 < n_f9 ∧ Q (none, (K, P, (xup ((xup I4 f6 j8 ((I f1 j2) + v3))) f9 j10 x2), J5, F))))))))))) : Wp (d + 1) 44 0 [some (.ref r0), some (.int x1), some (.int x2), none] [] (K, P, I, J, F) Q := by
  refine Wp.go (x := (.aload_n 0, 1, 0, 0)) rfl 1 [some (.ref r0), some (.int x1), some (.int x2), none] [.ref r0] rfl ⟨rfl, rfl, rfl, rfl⟩ ?_
  refine Wp.gR rfl rfl hn_r0 rfl rfl hf1 ?_
  refine Wp.go (x := (.iload_n 1, 1, 0, 0)) rfl 5 [some (.ref r0), some (.int x1), some (.int x2), none] [.int x1, .ref f1] rfl ⟨rfl, rfl, rfl, rfl⟩ ?_
  obtain ⟨j2, e, b, H⟩ := H
  refine Wp.ald rfl rfl hn_f1 (Or.inl rfl) (hK hn_f1) ⟨j2, e, b, ?_⟩
  refine Wp.go (x := (.iload_n 2, 1, 0, 0)) rfl 7 [some (.ref r0), some (.int x1), some (.int x2), none] [.int x2, .int (I f1 j2)] rfl ⟨rfl, rfl, rfl, rfl⟩ ?_
  refine Wp.kI (x := (.invokestatic 67, 3, 47, 1)) (j := 47) (vs := [.int x2]) (rest := [.int (I f1 j2)]) rfl rfl rfl ⟨Nat.le_of_ble_eq_true rfl, Nat.le_of_ble_eq_true rfl, Nat.le_of_ble_eq_true rfl⟩ rfl rfl rfl H (fun v3 I4 J5 H => ?_)
  refine Wp.go (x := (.iadd, 1, 0, 0)) rfl 11 [some (.ref r0), some (.int x1), some (.int x2), none] [.int ((I f1 j2) + v3)] rfl ⟨rfl, rfl, rfl, rfl⟩ ?_
  refine Wp.go (x := (.istore_n 3, 1, 0, 0)) rfl 12 [some (.ref r0), some (.int x1), some (.int x2), some (.int ((I f1 j2) + v3))] [] rfl ⟨rfl, rfl, rfl, rfl⟩ ?_
  refine Wp.go (x := (.iload_n 3, 1, 0, 0)) rfl 13 [some (.ref r0), some (.int x1), some (.int x2), some (.int ((I f1 j2) + v3))] [.int ((I f1 j2) + v3)] rfl ⟨rfl, rfl, rfl, rfl⟩ ?_
  refine Wp.go (x := (.aload_n 0, 1, 0, 0)) rfl 14 [some (.ref r0), some (.int x1), some (.int x2), some (.int ((I f1 j2) + v3))] [.ref r0, .int ((I f1 j2) + v3)] rfl ⟨rfl, rfl, rfl, rfl⟩ ?_
  refine Wp.gR rfl rfl hn_r0 rfl rfl hf6 ?_
  refine Wp.go (x := (.iload_n 1, 1, 0, 0)) rfl 18 [some (.ref r0), some (.int x1), some (.int x2), some (.int ((I f1 j2) + v3))] [.int x1, .ref f6, .int ((I f1 j2) + v3)] rfl ⟨rfl, rfl, rfl, rfl⟩ ?_
  refine Wp.go (x := (.iload_n 2, 1, 0, 0)) rfl 19 [some (.ref r0), some (.int x1), some (.int x2), some (.int ((I f1 j2) + v3))] [.int x2, .int x1, .ref f6, .int ((I f1 j2) + v3)] rfl ⟨rfl, rfl, rfl, rfl⟩ ?_
  refine Wp.go (x := (.iadd, 1, 0, 0)) rfl 20 [some (.ref r0), some (.int x1), some (.int x2), some (.int ((I f1 j2) + v3))] [.int (x1 + x2), .ref f6, .int ((I f1 j2) + v3)] rfl ⟨rfl, rfl, rfl, rfl⟩ ?_
  obtain ⟨j7, e, b, H⟩ := H
  refine Wp.ald rfl rfl hn_f6 (Or.inl rfl) (hK hn_f6) ⟨j7, e, b, ?_⟩
  refine Wp.c_ge rfl rfl ⟨fun c => ?_, fun c => ?_⟩
  · have H := H.1 c
    exact Wp.rV rfl rfl H
  · have H := H.2 c
    refine Wp.go (x := (.aload_n 0, 1, 0, 0)) rfl 25 [some (.ref r0), some (.int x1), some (.int x2), some (.int ((I f1 j2) + v3))] [.ref r0] rfl ⟨rfl, rfl, rfl, rfl⟩ ?_
    refine Wp.gR rfl rfl hn_r0 rfl rfl hf6 ?_
    refine Wp.go (x := (.iload_n 1, 1, 0, 0)) rfl 29 [some (.ref r0), some (.int x1), some (.int x2), some (.int ((I f1 j2) + v3))] [.int x1, .ref f6] rfl ⟨rfl, rfl, rfl, rfl⟩ ?_
    refine Wp.go (x := (.iload_n 2, 1, 0, 0)) rfl 30 [some (.ref r0), some (.int x1), some (.int x2), some (.int ((I f1 j2) + v3))] [.int x2, .int x1, .ref f6] rfl ⟨rfl, rfl, rfl, rfl⟩ ?_
    refine Wp.go (x := (.iadd, 1, 0, 0)) rfl 31 [some (.ref r0), some (.int x1), some (.int x2), some (.int ((I f1 j2) + v3))] [.int (x1 + x2), .ref f6] rfl ⟨rfl, rfl, rfl, rfl⟩ ?_
    refine Wp.go (x := (.iload_n 3, 1, 0, 0)) rfl 32 [some (.ref r0), some (.int x1), some (.int x2), some (.int ((I f1 j2) + v3))] [.int ((I f1 j2) + v3), .int (x1 + x2), .ref f6] rfl ⟨rfl, rfl, rfl, rfl⟩ ?_
    obtain ⟨j8, e, b, H⟩ := H
    refine Wp.ast rfl rfl hn_f6 (hK hn_f6) ⟨j8, e, b, ?_⟩
    refine Wp.go (x := (.aload_n 0, 1, 0, 0)) rfl 34 [some (.ref r0), some (.int x1), some (.int x2), some (.int ((I f1 j2) + v3))] [.ref r0] rfl ⟨rfl, rfl, rfl, rfl⟩ ?_
    refine Wp.gR rfl rfl hn_r0 rfl rfl hf9 ?_
    refine Wp.go (x := (.iload_n 1, 1, 0, 0)) rfl 38 [some (.ref r0), some (.int x1), some (.int x2), some (.int ((I f1 j2) + v3))] [.int x1, .ref f9] rfl ⟨rfl, rfl, rfl, rfl⟩ ?_
    refine Wp.go (x := (.iload_n 2, 1, 0, 0)) rfl 39 [some (.ref r0), some (.int x1), some (.int x2), some (.int ((I f1 j2) + v3))] [.int x2, .int x1, .ref f9] rfl ⟨rfl, rfl, rfl, rfl⟩ ?_
    refine Wp.go (x := (.iadd, 1, 0, 0)) rfl 40 [some (.ref r0), some (.int x1), some (.int x2), some (.int ((I f1 j2) + v3))] [.int (x1 + x2), .ref f9] rfl ⟨rfl, rfl, rfl, rfl⟩ ?_
    refine Wp.go (x := (.iload_n 2, 1, 0, 0)) rfl 41 [some (.ref r0), some (.int x1), some (.int x2), some (.int ((I f1 j2) + v3))] [.int x2, .int (x1 + x2), .ref f9] rfl ⟨rfl, rfl, rfl, rfl⟩ ?_
    obtain ⟨j10, e, b, H⟩ := H
    refine Wp.ast rfl rfl hn_f9 (hK hn_f9) ⟨j10, e, b, ?_⟩
    exact Wp.rV rfl rfl H
set_option maxRecDepth 20000 in
theorem wX5_tellSteps_0 {d : Nat} {Q : Option Value × xS → Prop} {K : Nat → Nat × Nat} {P : List Nat × Nat × Nat} {I : Nat → Nat → Int32} {J : Nat → Nat → Int64} {F : Nat → Nat → Option Nat} {r0 : Nat} {r1 : Nat} {n_r1 : Nat} {n_r0 : Nat} {f3 : Nat} {n_f3 : Nat} (hn_r1 : K r1 = (5, n_r1)) (hn_r0 : K r0 = (4, n_r0)) (hf3 : F r0 0 = some f3) (hn_f3 : K f3 = (8, n_f3)) (H : Wp d 51 0 [some (.ref r1)] [] (K, P, I, J, F) (xrV K P F (fun I1 J2 => Wp (d + 1) 45 12 [some (.ref r0), some (.ref r1), some (.int (I1 f3 3)), none, none] [] (K, P, I1, J2, F) Q))) : Wp (d + 1) 45 0 [some (.ref r0), some (.ref r1), none, none, none] [] (K, P, I, J, F) Q := by
  refine Wp.go (x := (.aload_n 1, 1, 0, 0)) rfl 1 [some (.ref r0), some (.ref r1), none, none, none] [.ref r1] rfl ⟨rfl, rfl, rfl, rfl⟩ ?_
  refine Wp.kV (x := (.invokevirtual 70, 3, 51, 1)) (j := 51) (vs := [.ref r1]) (rest := []) rfl (by show xtg 51 (K r1).1 = _; rw [hn_r1]; rfl) rfl ⟨Nat.le_of_ble_eq_true rfl, Nat.le_of_ble_eq_true rfl, Nat.le_of_ble_eq_true rfl⟩ rfl rfl rfl H (fun I1 J2 H => ?_)
  refine Wp.go (x := (.aload_n 0, 1, 0, 0)) rfl 5 [some (.ref r0), some (.ref r1), none, none, none] [.ref r0] rfl ⟨rfl, rfl, rfl, rfl⟩ ?_
  refine Wp.gR rfl rfl hn_r0 rfl rfl hf3 ?_
  refine Wp.gI rfl rfl hn_f3 rfl ⟨by decide, by decide⟩ ?_
  refine Wp.go (x := (.istore_n 2, 1, 0, 0)) rfl 12 [some (.ref r0), some (.ref r1), some (.int (I1 f3 3)), none, none] [] rfl ⟨rfl, rfl, rfl, rfl⟩ ?_
  exact H
set_option maxRecDepth 20000 in
theorem wX5_tellSteps_12 {d : Nat} {Q : Option Value × xS → Prop} {K : Nat → Nat × Nat} {P : List Nat × Nat × Nat} {I : Nat → Nat → Int32} {J : Nat → Nat → Int64} {F : Nat → Nat → Option Nat} {r0 : Nat} {r1 : Nat} {x2 : Int32} {n_r1 : Nat} {n_r0 : Nat} {f3 : Nat} {n_f3 : Nat} (hK : ∀ {a k n : Nat}, K a = (k, n) → n < 2147483648) (hn_r1 : K r1 = (5, n_r1)) (hn_r0 : K r0 = (4, n_r0)) (hf3 : F r0 4 = some f3) (hn_f3 : K f3 = (100, n_f3)) (H : ((x2 ≤ 0 → Wp d 53 0 [some (.ref r1), none, none] [] (K, P, I, J, F) (xrV K P F (fun I1 J2 => Q (none, (K, P, I1, J2, F))))) ∧ (¬ x2 ≤ 0 → (∃ j4 : Nat, x2 = nI j4 ∧ j4 < n_f3 ∧ Wp (d + 1) 45 30 [some (.ref r0), some (.ref r1), none, some (.int (x2 - (I f3 j4))), some (.int (x2 - (nI 1)))] [] (K, P, I, J, F) Q)))) : Wp (d + 1) 45 12 [some (.ref r0), some (.ref r1), some (.int x2), none, none] [] (K, P, I, J, F) Q := by
  refine Wp.go (x := (.iload_n 2, 1, 0, 0)) rfl 13 [some (.ref r0), some (.ref r1), some (.int x2), none, none] [.int x2] rfl ⟨rfl, rfl, rfl, rfl⟩ ?_
  refine Wp.z_le rfl rfl ⟨fun c => ?_, fun c => ?_⟩
  · have H := H.1 c
    refine Wp.go (x := (.aload_n 1, 1, 0, 0)) rfl 96 [some (.ref r0), some (.ref r1), some (.int x2), none, none] [.ref r1] rfl ⟨rfl, rfl, rfl, rfl⟩ ?_
    refine Wp.kV (x := (.invokevirtual 88, 3, 53, 1)) (j := 53) (vs := [.ref r1]) (rest := []) rfl (by show xtg 53 (K r1).1 = _; rw [hn_r1]; rfl) rfl ⟨Nat.le_of_ble_eq_true rfl, Nat.le_of_ble_eq_true rfl, Nat.le_of_ble_eq_true rfl⟩ rfl rfl rfl H (fun I1 J2 H => ?_)
    exact Wp.rV rfl rfl H
  · have H := H.2 c
    refine Wp.go (x := (.iload_n 2, 1, 0, 0)) rfl 17 [some (.ref r0), some (.ref r1), some (.int x2), none, none] [.int x2] rfl ⟨rfl, rfl, rfl, rfl⟩ ?_
    refine Wp.go (x := (.aload_n 0, 1, 0, 0)) rfl 18 [some (.ref r0), some (.ref r1), some (.int x2), none, none] [.ref r0, .int x2] rfl ⟨rfl, rfl, rfl, rfl⟩ ?_
    refine Wp.gR rfl rfl hn_r0 rfl rfl hf3 ?_
    refine Wp.go (x := (.iload_n 2, 1, 0, 0)) rfl 22 [some (.ref r0), some (.ref r1), some (.int x2), none, none] [.int x2, .ref f3, .int x2] rfl ⟨rfl, rfl, rfl, rfl⟩ ?_
    obtain ⟨j4, e, b, H⟩ := H
    refine Wp.ald rfl rfl hn_f3 (Or.inl rfl) (hK hn_f3) ⟨j4, e, b, ?_⟩
    refine Wp.go (x := (.isub, 1, 0, 0)) rfl 24 [some (.ref r0), some (.ref r1), some (.int x2), none, none] [.int (x2 - (I f3 j4))] rfl ⟨rfl, rfl, rfl, rfl⟩ ?_
    refine Wp.go (x := (.istore_n 3, 1, 0, 0)) rfl 25 [some (.ref r0), some (.ref r1), some (.int x2), some (.int (x2 - (I f3 j4))), none] [] rfl ⟨rfl, rfl, rfl, rfl⟩ ?_
    refine Wp.go (x := (.iload_n 2, 1, 0, 0)) rfl 26 [some (.ref r0), some (.ref r1), some (.int x2), some (.int (x2 - (I f3 j4))), none] [.int x2] rfl ⟨rfl, rfl, rfl, rfl⟩ ?_
    refine Wp.ic (v := nI 1) rfl rfl (by decide) ?_
    refine Wp.go (x := (.isub, 1, 0, 0)) rfl 28 [some (.ref r0), some (.ref r1), some (.int x2), some (.int (x2 - (I f3 j4))), none] [.int (x2 - (nI 1))] rfl ⟨rfl, rfl, rfl, rfl⟩ ?_
    refine Wp.go (x := (.istore 4, 2, 0, 0)) rfl 30 [some (.ref r0), some (.ref r1), some (.int x2), some (.int (x2 - (I f3 j4))), some (.int (x2 - (nI 1)))] [] rfl ⟨rfl, rfl, rfl, rfl⟩ ?_
    exact Wp.wk (L := [some (.ref r0), some (.ref r1), none, some (.int (x2 - (I f3 j4))), some (.int (x2 - (nI 1)))]) ⟨Or.inr rfl, Or.inr rfl, Or.inl rfl, Or.inr rfl, Or.inr rfl, trivial⟩ H
set_option maxRecDepth 20000 in
theorem wX5_tellSteps_30 {d : Nat} {Q : Option Value × xS → Prop} {K : Nat → Nat × Nat} {P : List Nat × Nat × Nat} {I : Nat → Nat → Int32} {J : Nat → Nat → Int64} {F : Nat → Nat → Option Nat} {r0 : Nat} {r1 : Nat} {x3 : Int32} {x4 : Int32} {n_r0 : Nat} {f1 : Nat} {n_f1 : Nat} {f3 : Nat} {n_f3 : Nat} {n_r1 : Nat} (hK : ∀ {a k n : Nat}, K a = (k, n) → n < 2147483648) (hn_r0 : K r0 = (4, n_r0)) (hf1 : F r0 3 = some f1) (hn_f1 : K f1 = (100, n_f1)) (hf3 : F r0 0 = some f3) (hn_f3 : K f3 = (8, n_f3)) (hn_r1 : K r1 = (5, n_r1)) (H : ((x4 < x3 → ((x3 ≤ 0 → Wp (d + 1) 45 12 [some (.ref r0), some (.ref r1), some (.int x3), none, none] [] (K, P, I, J, F) Q) ∧ (¬ x3 ≤ 0 → (∃ j2 : Nat, x3 = nI j2 ∧ j2 < n_f1 ∧ Wp d 70 0 [some (.ref f3), some (.int (x3 - (if (nI 1) < (I f1 j2) then (I f1 j2) else (nI 1)))), some (.int (if (nI 1) < (I f1 j2) then (I f1 j2) else (nI 1)))] [] (K, P, I, J, F) (xrI K P F (fun v4 I5 J6 => Wp d 52 0 [some (.ref r1), some (.int (nI 1)), some (.int (x3 - (if (nI 1) < (I f1 j2) then (I f1 j2) else (nI 1)))), some (.int (if (nI 1) < (I f1 j2) then (I f1 j2) else (nI 1))), some (.int v4)] [] (K, P, I5, J6, F) (xrV K P F (fun I7 J8 => Wp (d + 1) 45 12 [some (.ref r0), some (.ref r1), some (.int (x3 - (if (nI 1) < (I f1 j2) then (I f1 j2) else (nI 1)))), none, none] [] (K, P, I7, J8, F) Q)))))))) ∧ (¬ x4 < x3 → Wp d 52 0 [some (.ref r1), some (.int (nI 0)), some (.int x4), some (.int (nI 1)), some (.int (nI 0))] [] (K, P, I, J, F) (xrV K P F (fun I9 J10 => Wp (d + 1) 45 30 [some (.ref r0), some (.ref r1), none, some (.int x3), some (.int (x4 + (-1)))] [] (K, P, I9, J10, F) Q))))) : Wp (d + 1) 45 30 [some (.ref r0), some (.ref r1), none, some (.int x3), some (.int x4)] [] (K, P, I, J, F) Q := by
  refine Wp.go (x := (.iload 4, 2, 0, 0)) rfl 32 [some (.ref r0), some (.ref r1), none, some (.int x3), some (.int x4)] [.int x4] rfl ⟨rfl, rfl, rfl, rfl⟩ ?_
  refine Wp.go (x := (.iload_n 3, 1, 0, 0)) rfl 33 [some (.ref r0), some (.ref r1), none, some (.int x3), some (.int x4)] [.int x3, .int x4] rfl ⟨rfl, rfl, rfl, rfl⟩ ?_
  refine Wp.c_lt rfl rfl ⟨fun c => ?_, fun c => ?_⟩
  · have H := H.1 c
    refine Wp.go (x := (.iload_n 3, 1, 0, 0)) rfl 52 [some (.ref r0), some (.ref r1), none, some (.int x3), some (.int x4)] [.int x3] rfl ⟨rfl, rfl, rfl, rfl⟩ ?_
    refine Wp.go (x := (.istore_n 2, 1, 0, 0)) rfl 53 [some (.ref r0), some (.ref r1), some (.int x3), some (.int x3), some (.int x4)] [] rfl ⟨rfl, rfl, rfl, rfl⟩ ?_
    refine Wp.go (x := (.iload_n 3, 1, 0, 0)) rfl 54 [some (.ref r0), some (.ref r1), some (.int x3), some (.int x3), some (.int x4)] [.int x3] rfl ⟨rfl, rfl, rfl, rfl⟩ ?_
    refine Wp.z_le rfl rfl ⟨fun c => ?_, fun c => ?_⟩
    · have H := H.1 c
      refine Wp.go (x := (.goto (-80), 3, 12, 0)) rfl 12 [some (.ref r0), some (.ref r1), some (.int x3), some (.int x3), some (.int x4)] [] rfl ⟨rfl, rfl, rfl, rfl⟩ ?_
      exact Wp.wk (L := [some (.ref r0), some (.ref r1), some (.int x3), none, none]) ⟨Or.inr rfl, Or.inr rfl, Or.inr rfl, Or.inl rfl, Or.inl rfl, trivial⟩ H
    · have H := H.2 c
      refine Wp.ic (v := nI 1) rfl rfl (by decide) ?_
      refine Wp.go (x := (.aload_n 0, 1, 0, 0)) rfl 59 [some (.ref r0), some (.ref r1), some (.int x3), some (.int x3), some (.int x4)] [.ref r0, .int (nI 1)] rfl ⟨rfl, rfl, rfl, rfl⟩ ?_
      refine Wp.gR rfl rfl hn_r0 rfl rfl hf1 ?_
      refine Wp.go (x := (.iload_n 3, 1, 0, 0)) rfl 63 [some (.ref r0), some (.ref r1), some (.int x3), some (.int x3), some (.int x4)] [.int x3, .ref f1, .int (nI 1)] rfl ⟨rfl, rfl, rfl, rfl⟩ ?_
      obtain ⟨j2, e, b, H⟩ := H
      refine Wp.ald rfl rfl hn_f1 (Or.inl rfl) (hK hn_f1) ⟨j2, e, b, ?_⟩
      refine Wp.max rfl rfl (by omega) (Nat.le_of_ble_eq_true rfl) ?_
      refine Wp.go (x := (.istore 4, 2, 0, 0)) rfl 69 [some (.ref r0), some (.ref r1), some (.int x3), some (.int x3), some (.int (if (nI 1) < (I f1 j2) then (I f1 j2) else (nI 1)))] [] rfl ⟨rfl, rfl, rfl, rfl⟩ ?_
      refine Wp.go (x := (.iload_n 3, 1, 0, 0)) rfl 70 [some (.ref r0), some (.ref r1), some (.int x3), some (.int x3), some (.int (if (nI 1) < (I f1 j2) then (I f1 j2) else (nI 1)))] [.int x3] rfl ⟨rfl, rfl, rfl, rfl⟩ ?_
      refine Wp.go (x := (.iload 4, 2, 0, 0)) rfl 72 [some (.ref r0), some (.ref r1), some (.int x3), some (.int x3), some (.int (if (nI 1) < (I f1 j2) then (I f1 j2) else (nI 1)))] [.int (if (nI 1) < (I f1 j2) then (I f1 j2) else (nI 1)), .int x3] rfl ⟨rfl, rfl, rfl, rfl⟩ ?_
      refine Wp.go (x := (.isub, 1, 0, 0)) rfl 73 [some (.ref r0), some (.ref r1), some (.int x3), some (.int x3), some (.int (if (nI 1) < (I f1 j2) then (I f1 j2) else (nI 1)))] [.int (x3 - (if (nI 1) < (I f1 j2) then (I f1 j2) else (nI 1)))] rfl ⟨rfl, rfl, rfl, rfl⟩ ?_
      refine Wp.go (x := (.istore_n 2, 1, 0, 0)) rfl 74 [some (.ref r0), some (.ref r1), some (.int (x3 - (if (nI 1) < (I f1 j2) then (I f1 j2) else (nI 1)))), some (.int x3), some (.int (if (nI 1) < (I f1 j2) then (I f1 j2) else (nI 1)))] [] rfl ⟨rfl, rfl, rfl, rfl⟩ ?_
      refine Wp.go (x := (.aload_n 1, 1, 0, 0)) rfl 75 [some (.ref r0), some (.ref r1), some (.int (x3 - (if (nI 1) < (I f1 j2) then (I f1 j2) else (nI 1)))), some (.int x3), some (.int (if (nI 1) < (I f1 j2) then (I f1 j2) else (nI 1)))] [.ref r1] rfl ⟨rfl, rfl, rfl, rfl⟩ ?_
      refine Wp.ic (v := nI 1) rfl rfl (by decide) ?_
      refine Wp.go (x := (.iload_n 2, 1, 0, 0)) rfl 77 [some (.ref r0), some (.ref r1), some (.int (x3 - (if (nI 1) < (I f1 j2) then (I f1 j2) else (nI 1)))), some (.int x3), some (.int (if (nI 1) < (I f1 j2) then (I f1 j2) else (nI 1)))] [.int (x3 - (if (nI 1) < (I f1 j2) then (I f1 j2) else (nI 1))), .int (nI 1), .ref r1] rfl ⟨rfl, rfl, rfl, rfl⟩ ?_
      refine Wp.go (x := (.iload 4, 2, 0, 0)) rfl 79 [some (.ref r0), some (.ref r1), some (.int (x3 - (if (nI 1) < (I f1 j2) then (I f1 j2) else (nI 1)))), some (.int x3), some (.int (if (nI 1) < (I f1 j2) then (I f1 j2) else (nI 1)))] [.int (if (nI 1) < (I f1 j2) then (I f1 j2) else (nI 1)), .int (x3 - (if (nI 1) < (I f1 j2) then (I f1 j2) else (nI 1))), .int (nI 1), .ref r1] rfl ⟨rfl, rfl, rfl, rfl⟩ ?_
      refine Wp.go (x := (.aload_n 0, 1, 0, 0)) rfl 80 [some (.ref r0), some (.ref r1), some (.int (x3 - (if (nI 1) < (I f1 j2) then (I f1 j2) else (nI 1)))), some (.int x3), some (.int (if (nI 1) < (I f1 j2) then (I f1 j2) else (nI 1)))] [.ref r0, .int (if (nI 1) < (I f1 j2) then (I f1 j2) else (nI 1)), .int (x3 - (if (nI 1) < (I f1 j2) then (I f1 j2) else (nI 1))), .int (nI 1), .ref r1] rfl ⟨rfl, rfl, rfl, rfl⟩ ?_
      refine Wp.gR rfl rfl hn_r0 rfl rfl hf3 ?_
      refine Wp.go (x := (.iload_n 2, 1, 0, 0)) rfl 84 [some (.ref r0), some (.ref r1), some (.int (x3 - (if (nI 1) < (I f1 j2) then (I f1 j2) else (nI 1)))), some (.int x3), some (.int (if (nI 1) < (I f1 j2) then (I f1 j2) else (nI 1)))] [.int (x3 - (if (nI 1) < (I f1 j2) then (I f1 j2) else (nI 1))), .ref f3, .int (if (nI 1) < (I f1 j2) then (I f1 j2) else (nI 1)), .int (x3 - (if (nI 1) < (I f1 j2) then (I f1 j2) else (nI 1))), .int (nI 1), .ref r1] rfl ⟨rfl, rfl, rfl, rfl⟩ ?_
      refine Wp.go (x := (.iload 4, 2, 0, 0)) rfl 86 [some (.ref r0), some (.ref r1), some (.int (x3 - (if (nI 1) < (I f1 j2) then (I f1 j2) else (nI 1)))), some (.int x3), some (.int (if (nI 1) < (I f1 j2) then (I f1 j2) else (nI 1)))] [.int (if (nI 1) < (I f1 j2) then (I f1 j2) else (nI 1)), .int (x3 - (if (nI 1) < (I f1 j2) then (I f1 j2) else (nI 1))), .ref f3, .int (if (nI 1) < (I f1 j2) then (I f1 j2) else (nI 1)), .int (x3 - (if (nI 1) < (I f1 j2) then (I f1 j2) else (nI 1))), .int (nI 1), .ref r1] rfl ⟨rfl, rfl, rfl, rfl⟩ ?_
      refine Wp.kI (x := (.invokevirtual 85, 3, 70, 3)) (j := 70) (vs := [.ref f3, .int (x3 - (if (nI 1) < (I f1 j2) then (I f1 j2) else (nI 1))), .int (if (nI 1) < (I f1 j2) then (I f1 j2) else (nI 1))]) (rest := [.int (if (nI 1) < (I f1 j2) then (I f1 j2) else (nI 1)), .int (x3 - (if (nI 1) < (I f1 j2) then (I f1 j2) else (nI 1))), .int (nI 1), .ref r1]) rfl (by show xtg 70 (K f3).1 = _; rw [hn_f3]; rfl) rfl ⟨Nat.le_of_ble_eq_true rfl, Nat.le_of_ble_eq_true rfl, Nat.le_of_ble_eq_true rfl⟩ rfl rfl rfl H (fun v4 I5 J6 H => ?_)
      refine Wp.kV (x := (.invokevirtual 76, 3, 52, 5)) (j := 52) (vs := [.ref r1, .int (nI 1), .int (x3 - (if (nI 1) < (I f1 j2) then (I f1 j2) else (nI 1))), .int (if (nI 1) < (I f1 j2) then (I f1 j2) else (nI 1)), .int v4]) (rest := []) rfl (by show xtg 52 (K r1).1 = _; rw [hn_r1]; rfl) rfl ⟨Nat.le_of_ble_eq_true rfl, Nat.le_of_ble_eq_true rfl, Nat.le_of_ble_eq_true rfl⟩ rfl rfl rfl H (fun I7 J8 H => ?_)
      refine Wp.go (x := (.goto (-80), 3, 12, 0)) rfl 12 [some (.ref r0), some (.ref r1), some (.int (x3 - (if (nI 1) < (I f1 j2) then (I f1 j2) else (nI 1)))), some (.int x3), some (.int (if (nI 1) < (I f1 j2) then (I f1 j2) else (nI 1)))] [] rfl ⟨rfl, rfl, rfl, rfl⟩ ?_
      exact Wp.wk (L := [some (.ref r0), some (.ref r1), some (.int (x3 - (if (nI 1) < (I f1 j2) then (I f1 j2) else (nI 1)))), none, none]) ⟨Or.inr rfl, Or.inr rfl, Or.inr rfl, Or.inl rfl, Or.inl rfl, trivial⟩ H
  · have H := H.2 c
    refine Wp.go (x := (.aload_n 1, 1, 0, 0)) rfl 37 [some (.ref r0), some (.ref r1), none, some (.int x3), some (.int x4)] [.ref r1] rfl ⟨rfl, rfl, rfl, rfl⟩ ?_
    refine Wp.ic (v := nI 0) rfl rfl (by decide) ?_
    refine Wp.go (x := (.iload 4, 2, 0, 0)) rfl 40 [some (.ref r0), some (.ref r1), none, some (.int x3), some (.int x4)] [.int x4, .int (nI 0), .ref r1] rfl ⟨rfl, rfl, rfl, rfl⟩ ?_
    refine Wp.ic (v := nI 1) rfl rfl (by decide) ?_
    refine Wp.ic (v := nI 0) rfl rfl (by decide) ?_
    refine Wp.kV (x := (.invokevirtual 76, 3, 52, 5)) (j := 52) (vs := [.ref r1, .int (nI 0), .int x4, .int (nI 1), .int (nI 0)]) (rest := []) rfl (by show xtg 52 (K r1).1 = _; rw [hn_r1]; rfl) rfl ⟨Nat.le_of_ble_eq_true rfl, Nat.le_of_ble_eq_true rfl, Nat.le_of_ble_eq_true rfl⟩ rfl rfl rfl H (fun I9 J10 H => ?_)
    refine Wp.ii (v := (-1)) rfl rfl (by decide) rfl (L' := [some (.ref r0), some (.ref r1), none, some (.int x3), some (.int (x4 + (-1)))]) rfl ?_
    refine Wp.go (x := (.goto (-18), 3, 30, 0)) rfl 30 [some (.ref r0), some (.ref r1), none, some (.int x3), some (.int (x4 + (-1)))] [] rfl ⟨rfl, rfl, rfl, rfl⟩ ?_
    exact H
set_option maxRecDepth 20000 in
theorem wX5_costOf_0 {d : Nat} {Q : Option Value × xS → Prop} {K : Nat → Nat × Nat} {P : List Nat × Nat × Nat} {I : Nat → Nat → Int32} {J : Nat → Nat → Int64} {F : Nat → Nat → Option Nat} {r0 : Nat} {r1 : Nat}  (H : Wp d 46 9 [some (.ref r0), some (.ref r1), some (.int (nI 512)), some (.int (nI 0)), some (.int (nI 0))] [] (K, P, I, J, F) Q) : Wp d 46 0 [some (.ref r0), some (.ref r1), none, none, none] [] (K, P, I, J, F) Q := by
  refine Wp.sp (v := nI 512) rfl rfl (by decide) ?_
  refine Wp.go (x := (.istore_n 2, 1, 0, 0)) rfl 4 [some (.ref r0), some (.ref r1), some (.int (nI 512)), none, none] [] rfl ⟨rfl, rfl, rfl, rfl⟩ ?_
  refine Wp.ic (v := nI 0) rfl rfl (by decide) ?_
  refine Wp.go (x := (.istore_n 3, 1, 0, 0)) rfl 6 [some (.ref r0), some (.ref r1), some (.int (nI 512)), some (.int (nI 0)), none] [] rfl ⟨rfl, rfl, rfl, rfl⟩ ?_
  refine Wp.ic (v := nI 0) rfl rfl (by decide) ?_
  refine Wp.go (x := (.istore 4, 2, 0, 0)) rfl 9 [some (.ref r0), some (.ref r1), some (.int (nI 512)), some (.int (nI 0)), some (.int (nI 0))] [] rfl ⟨rfl, rfl, rfl, rfl⟩ ?_
  exact H
set_option maxRecDepth 20000 in
theorem wX5_costOf_9 {d : Nat} {Q : Option Value × xS → Prop} {K : Nat → Nat × Nat} {P : List Nat × Nat × Nat} {I : Nat → Nat → Int32} {J : Nat → Nat → Int64} {F : Nat → Nat → Option Nat} {r0 : Nat} {r1 : Nat} {x2 : Int32} {x3 : Int32} {x4 : Int32} {n_r1 : Nat} {n_r0 : Nat} {f1 : Nat} {n_f1 : Nat} {f3 : Nat} {n_f3 : Nat} {f6 : Nat} {n_f6 : Nat} (hK : ∀ {a k n : Nat}, K a = (k, n) → n < 2147483648) (hn_r1 : K r1 = (5, n_r1)) (hn_r0 : K r0 = (4, n_r0)) (hf1 : F r0 6 = some f1) (hn_f1 : K f1 = (100, n_f1)) (hf3 : F r1 3 = some f3) (hn_f3 : K f3 = (100, n_f3)) (hf6 : F r1 1 = some f6) (hn_f6 : K f6 = (100, n_f6)) (H : (((I r1 5) ≤ x4 → (∃ j2 : Nat, x3 = nI j2 ∧ j2 < n_f1 ∧ Q (some (.long ((x2 + (I f1 j2)).toInt64)), (K, P, I, J, F)))) ∧ (¬ (I r1 5) ≤ x4 → (∃ j4 : Nat, x4 = nI j4 ∧ j4 < n_f3 ∧ ((¬ (I f3 j4) = 0 → (∃ j5 : Nat, x3 = nI j5 ∧ j5 < n_f1 ∧ (∃ j7 : Nat, x4 = nI j7 ∧ j7 < n_f6 ∧ Wp d 47 0 [some (.int (I f6 j7))] [] (K, P, I, J, F) (xrI K P F (fun v8 I9 J10 => Wp (d + 1) 46 9 [some (.ref r0), some (.ref r1), some (.int (x2 + ((I f1 j5) + v8))), some (.int (nI 0)), some (.int (x4 + nI 1))] [] (K, P, I9, J10, F) Q))))) ∧ ((I f3 j4) = 0 → Wp (d + 1) 46 9 [some (.ref r0), some (.ref r1), some (.int x2), some (.int (x3 + nI 1)), some (.int (x4 + nI 1))] [] (K, P, I, J, F) Q)))))) : Wp (d + 1) 46 9 [some (.ref r0), some (.ref r1), some (.int x2), some (.int x3), some (.int x4)] [] (K, P, I, J, F) Q := by
  refine Wp.go (x := (.iload 4, 2, 0, 0)) rfl 11 [some (.ref r0), some (.ref r1), some (.int x2), some (.int x3), some (.int x4)] [.int x4] rfl ⟨rfl, rfl, rfl, rfl⟩ ?_
  refine Wp.go (x := (.aload_n 1, 1, 0, 0)) rfl 12 [some (.ref r0), some (.ref r1), some (.int x2), some (.int x3), some (.int x4)] [.ref r1, .int x4] rfl ⟨rfl, rfl, rfl, rfl⟩ ?_
  refine Wp.gI rfl rfl hn_r1 rfl ⟨by decide, by decide⟩ ?_
  refine Wp.c_ge rfl rfl ⟨fun c => ?_, fun c => ?_⟩
  · have H := H.1 c
    refine Wp.go (x := (.iload_n 2, 1, 0, 0)) rfl 63 [some (.ref r0), some (.ref r1), some (.int x2), some (.int x3), some (.int x4)] [.int x2] rfl ⟨rfl, rfl, rfl, rfl⟩ ?_
    refine Wp.go (x := (.aload_n 0, 1, 0, 0)) rfl 64 [some (.ref r0), some (.ref r1), some (.int x2), some (.int x3), some (.int x4)] [.ref r0, .int x2] rfl ⟨rfl, rfl, rfl, rfl⟩ ?_
    refine Wp.gR rfl rfl hn_r0 rfl rfl hf1 ?_
    refine Wp.go (x := (.iload_n 3, 1, 0, 0)) rfl 68 [some (.ref r0), some (.ref r1), some (.int x2), some (.int x3), some (.int x4)] [.int x3, .ref f1, .int x2] rfl ⟨rfl, rfl, rfl, rfl⟩ ?_
    obtain ⟨j2, e, b, H⟩ := H
    refine Wp.ald rfl rfl hn_f1 (Or.inl rfl) (hK hn_f1) ⟨j2, e, b, ?_⟩
    refine Wp.go (x := (.iadd, 1, 0, 0)) rfl 70 [some (.ref r0), some (.ref r1), some (.int x2), some (.int x3), some (.int x4)] [.int (x2 + (I f1 j2))] rfl ⟨rfl, rfl, rfl, rfl⟩ ?_
    refine Wp.go (x := (.i2l, 1, 0, 0)) rfl 71 [some (.ref r0), some (.ref r1), some (.int x2), some (.int x3), some (.int x4)] [.long ((x2 + (I f1 j2)).toInt64)] rfl ⟨rfl, rfl, rfl, rfl⟩ ?_
    exact Wp.rJ rfl rfl H
  · have H := H.2 c
    refine Wp.go (x := (.aload_n 1, 1, 0, 0)) rfl 19 [some (.ref r0), some (.ref r1), some (.int x2), some (.int x3), some (.int x4)] [.ref r1] rfl ⟨rfl, rfl, rfl, rfl⟩ ?_
    refine Wp.gR rfl rfl hn_r1 rfl rfl hf3 ?_
    refine Wp.go (x := (.iload 4, 2, 0, 0)) rfl 24 [some (.ref r0), some (.ref r1), some (.int x2), some (.int x3), some (.int x4)] [.int x4, .ref f3] rfl ⟨rfl, rfl, rfl, rfl⟩ ?_
    obtain ⟨j4, e, b, H⟩ := H
    refine Wp.ald rfl rfl hn_f3 (Or.inl rfl) (hK hn_f3) ⟨j4, e, b, ?_⟩
    refine Wp.z_ne rfl rfl ⟨fun c => ?_, fun c => ?_⟩
    · have H := H.1 c
      refine Wp.go (x := (.iload_n 2, 1, 0, 0)) rfl 35 [some (.ref r0), some (.ref r1), some (.int x2), some (.int x3), some (.int x4)] [.int x2] rfl ⟨rfl, rfl, rfl, rfl⟩ ?_
      refine Wp.go (x := (.aload_n 0, 1, 0, 0)) rfl 36 [some (.ref r0), some (.ref r1), some (.int x2), some (.int x3), some (.int x4)] [.ref r0, .int x2] rfl ⟨rfl, rfl, rfl, rfl⟩ ?_
      refine Wp.gR rfl rfl hn_r0 rfl rfl hf1 ?_
      refine Wp.go (x := (.iload_n 3, 1, 0, 0)) rfl 40 [some (.ref r0), some (.ref r1), some (.int x2), some (.int x3), some (.int x4)] [.int x3, .ref f1, .int x2] rfl ⟨rfl, rfl, rfl, rfl⟩ ?_
      obtain ⟨j5, e, b, H⟩ := H
      refine Wp.ald rfl rfl hn_f1 (Or.inl rfl) (hK hn_f1) ⟨j5, e, b, ?_⟩
      refine Wp.go (x := (.aload_n 1, 1, 0, 0)) rfl 42 [some (.ref r0), some (.ref r1), some (.int x2), some (.int x3), some (.int x4)] [.ref r1, .int (I f1 j5), .int x2] rfl ⟨rfl, rfl, rfl, rfl⟩ ?_
      refine Wp.gR rfl rfl hn_r1 rfl rfl hf6 ?_
      refine Wp.go (x := (.iload 4, 2, 0, 0)) rfl 47 [some (.ref r0), some (.ref r1), some (.int x2), some (.int x3), some (.int x4)] [.int x4, .ref f6, .int (I f1 j5), .int x2] rfl ⟨rfl, rfl, rfl, rfl⟩ ?_
      obtain ⟨j7, e, b, H⟩ := H
      refine Wp.ald rfl rfl hn_f6 (Or.inl rfl) (hK hn_f6) ⟨j7, e, b, ?_⟩
      refine Wp.kI (x := (.invokestatic 67, 3, 47, 1)) (j := 47) (vs := [.int (I f6 j7)]) (rest := [.int (I f1 j5), .int x2]) rfl rfl rfl ⟨Nat.le_of_ble_eq_true rfl, Nat.le_of_ble_eq_true rfl, Nat.le_of_ble_eq_true rfl⟩ rfl rfl rfl H (fun v8 I9 J10 H => ?_)
      refine Wp.go (x := (.iadd, 1, 0, 0)) rfl 52 [some (.ref r0), some (.ref r1), some (.int x2), some (.int x3), some (.int x4)] [.int ((I f1 j5) + v8), .int x2] rfl ⟨rfl, rfl, rfl, rfl⟩ ?_
      refine Wp.go (x := (.iadd, 1, 0, 0)) rfl 53 [some (.ref r0), some (.ref r1), some (.int x2), some (.int x3), some (.int x4)] [.int (x2 + ((I f1 j5) + v8))] rfl ⟨rfl, rfl, rfl, rfl⟩ ?_
      refine Wp.go (x := (.istore_n 2, 1, 0, 0)) rfl 54 [some (.ref r0), some (.ref r1), some (.int (x2 + ((I f1 j5) + v8))), some (.int x3), some (.int x4)] [] rfl ⟨rfl, rfl, rfl, rfl⟩ ?_
      refine Wp.ic (v := nI 0) rfl rfl (by decide) ?_
      refine Wp.go (x := (.istore_n 3, 1, 0, 0)) rfl 56 [some (.ref r0), some (.ref r1), some (.int (x2 + ((I f1 j5) + v8))), some (.int (nI 0)), some (.int x4)] [] rfl ⟨rfl, rfl, rfl, rfl⟩ ?_
      refine Wp.ii (v := nI 1) rfl rfl (by decide) rfl (L' := [some (.ref r0), some (.ref r1), some (.int (x2 + ((I f1 j5) + v8))), some (.int (nI 0)), some (.int (x4 + nI 1))]) rfl ?_
      refine Wp.go (x := (.goto (-50), 3, 9, 0)) rfl 9 [some (.ref r0), some (.ref r1), some (.int (x2 + ((I f1 j5) + v8))), some (.int (nI 0)), some (.int (x4 + nI 1))] [] rfl ⟨rfl, rfl, rfl, rfl⟩ ?_
      exact H
    · have H := H.2 c
      refine Wp.ii (v := nI 1) rfl rfl (by decide) rfl (L' := [some (.ref r0), some (.ref r1), some (.int x2), some (.int (x3 + nI 1)), some (.int x4)]) rfl ?_
      refine Wp.go (x := (.goto 25, 3, 56, 0)) rfl 56 [some (.ref r0), some (.ref r1), some (.int x2), some (.int (x3 + nI 1)), some (.int x4)] [] rfl ⟨rfl, rfl, rfl, rfl⟩ ?_
      refine Wp.ii (v := nI 1) rfl rfl (by decide) rfl (L' := [some (.ref r0), some (.ref r1), some (.int x2), some (.int (x3 + nI 1)), some (.int (x4 + nI 1))]) rfl ?_
      refine Wp.go (x := (.goto (-50), 3, 9, 0)) rfl 9 [some (.ref r0), some (.ref r1), some (.int x2), some (.int (x3 + nI 1)), some (.int (x4 + nI 1))] [] rfl ⟨rfl, rfl, rfl, rfl⟩ ?_
      exact H
set_option maxRecDepth 20000 in
theorem wX5_copyCost_0 {d : Nat} {Q : Option Value × xS → Prop} {K : Nat → Nat × Nat} {P : List Nat × Nat × Nat} {I : Nat → Nat → Int32} {J : Nat → Nat → Int64} {F : Nat → Nat → Option Nat} {x0 : Int32}  (H : Wp d 48 0 [some (.int x0), some (.int (nI 19))] [] (K, P, I, J, F) (xrI K P F (fun v1 I2 J3 => Q (some (.int ((nI 512) * ((nI 3) + v1))), (K, P, I2, J3, F))))) : Wp (d + 1) 47 0 [some (.int x0)] [] (K, P, I, J, F) Q := by
  refine Wp.sp (v := nI 512) rfl rfl (by decide) ?_
  refine Wp.ic (v := nI 3) rfl rfl (by decide) ?_
  refine Wp.go (x := (.iload_n 0, 1, 0, 0)) rfl 5 [some (.int x0)] [.int x0, .int (nI 3), .int (nI 512)] rfl ⟨rfl, rfl, rfl, rfl⟩ ?_
  refine Wp.bp (v := nI 19) rfl rfl (by decide) ?_
  refine Wp.kI (x := (.invokestatic 27, 3, 48, 2)) (j := 48) (vs := [.int x0, .int (nI 19)]) (rest := [.int (nI 3), .int (nI 512)]) rfl rfl rfl ⟨Nat.le_of_ble_eq_true rfl, Nat.le_of_ble_eq_true rfl, Nat.le_of_ble_eq_true rfl⟩ rfl rfl rfl H (fun v1 I2 J3 H => ?_)
  refine Wp.go (x := (.iadd, 1, 0, 0)) rfl 11 [some (.int x0)] [.int ((nI 3) + v1), .int (nI 512)] rfl ⟨rfl, rfl, rfl, rfl⟩ ?_
  refine Wp.go (x := (.imul, 1, 0, 0)) rfl 12 [some (.int x0)] [.int ((nI 512) * ((nI 3) + v1))] rfl ⟨rfl, rfl, rfl, rfl⟩ ?_
  exact Wp.rI rfl rfl H
set_option maxRecDepth 20000 in
theorem wX5_beyond_0 {d : Nat} {Q : Option Value × xS → Prop} {K : Nat → Nat × Nat} {P : List Nat × Nat × Nat} {I : Nat → Nat → Int32} {J : Nat → Nat → Int64} {F : Nat → Nat → Option Nat} {x0 : Int32} {x1 : Int32}  (H : ((x1 ≤ x0 → (¬ (nI 255) = 0 ∧ Q (some (.int ((nI 1) + ((x0 - x1) / (nI 255)))), (K, P, I, J, F)))) ∧ (¬ x1 ≤ x0 → Q (some (.int (nI 0)), (K, P, I, J, F))))) : Wp d 48 0 [some (.int x0), some (.int x1)] [] (K, P, I, J, F) Q := by
  refine Wp.go (x := (.iload_n 0, 1, 0, 0)) rfl 1 [some (.int x0), some (.int x1)] [.int x0] rfl ⟨rfl, rfl, rfl, rfl⟩ ?_
  refine Wp.go (x := (.iload_n 1, 1, 0, 0)) rfl 2 [some (.int x0), some (.int x1)] [.int x1, .int x0] rfl ⟨rfl, rfl, rfl, rfl⟩ ?_
  refine Wp.c_ge rfl rfl ⟨fun c => ?_, fun c => ?_⟩
  · have H := H.1 c
    refine Wp.ic (v := nI 1) rfl rfl (by decide) ?_
    refine Wp.go (x := (.iload_n 0, 1, 0, 0)) rfl 11 [some (.int x0), some (.int x1)] [.int x0, .int (nI 1)] rfl ⟨rfl, rfl, rfl, rfl⟩ ?_
    refine Wp.go (x := (.iload_n 1, 1, 0, 0)) rfl 12 [some (.int x0), some (.int x1)] [.int x1, .int x0, .int (nI 1)] rfl ⟨rfl, rfl, rfl, rfl⟩ ?_
    refine Wp.go (x := (.isub, 1, 0, 0)) rfl 13 [some (.int x0), some (.int x1)] [.int (x0 - x1), .int (nI 1)] rfl ⟨rfl, rfl, rfl, rfl⟩ ?_
    refine Wp.sp (v := nI 255) rfl rfl (by decide) ?_
    obtain ⟨z, H⟩ := H
    refine Wp.idiv rfl rfl z ?_
    refine Wp.go (x := (.iadd, 1, 0, 0)) rfl 18 [some (.int x0), some (.int x1)] [.int ((nI 1) + ((x0 - x1) / (nI 255)))] rfl ⟨rfl, rfl, rfl, rfl⟩ ?_
    exact Wp.rI rfl rfl H
  · have H := H.2 c
    refine Wp.ic (v := nI 0) rfl rfl (by decide) ?_
    refine Wp.go (x := (.goto 12, 3, 18, 0)) rfl 18 [some (.int x0), some (.int x1)] [.int (nI 0)] rfl ⟨rfl, rfl, rfl, rfl⟩ ?_
    exact Wp.rI rfl rfl H
set_option maxRecDepth 20000 in
theorem wX6_hasStep_0 {d : Nat} {Q : Option Value × xS → Prop} {K : Nat → Nat × Nat} {P : List Nat × Nat × Nat} {I : Nat → Nat → Int32} {J : Nat → Nat → Int64} {F : Nat → Nat → Option Nat} {r0 : Nat} {x1 : Int32} {n_r0 : Nat} (hn_r0 : K r0 = (5, n_r0)) (H : ((x1 < 0 → Q (some (.int (nI 0)), (K, P, I, J, F))) ∧ (¬ x1 < 0 → (((I r0 5) ≤ x1 → Q (some (.int (nI 0)), (K, P, I, J, F))) ∧ (¬ (I r0 5) ≤ x1 → Q (some (.int (nI 1)), (K, P, I, J, F))))))) : Wp d 50 0 [some (.ref r0), some (.int x1)] [] (K, P, I, J, F) Q := by
  refine Wp.go (x := (.iload_n 1, 1, 0, 0)) rfl 1 [some (.ref r0), some (.int x1)] [.int x1] rfl ⟨rfl, rfl, rfl, rfl⟩ ?_
  refine Wp.z_lt rfl rfl ⟨fun c => ?_, fun c => ?_⟩
  · have H := H.1 c
    refine Wp.ic (v := nI 0) rfl rfl (by decide) ?_
    exact Wp.rZ rfl rfl (Or.inl rfl) H
  · have H := H.2 c
    refine Wp.go (x := (.iload_n 1, 1, 0, 0)) rfl 5 [some (.ref r0), some (.int x1)] [.int x1] rfl ⟨rfl, rfl, rfl, rfl⟩ ?_
    refine Wp.go (x := (.aload_n 0, 1, 0, 0)) rfl 6 [some (.ref r0), some (.int x1)] [.ref r0, .int x1] rfl ⟨rfl, rfl, rfl, rfl⟩ ?_
    refine Wp.gI rfl rfl hn_r0 rfl ⟨by decide, by decide⟩ ?_
    refine Wp.c_ge rfl rfl ⟨fun c => ?_, fun c => ?_⟩
    · have H := H.1 c
      refine Wp.ic (v := nI 0) rfl rfl (by decide) ?_
      exact Wp.rZ rfl rfl (Or.inl rfl) H
    · have H := H.2 c
      refine Wp.ic (v := nI 1) rfl rfl (by decide) ?_
      refine Wp.go (x := (.goto 4, 3, 17, 0)) rfl 17 [some (.ref r0), some (.int x1)] [.int (nI 1)] rfl ⟨rfl, rfl, rfl, rfl⟩ ?_
      exact Wp.rZ rfl rfl (Or.inr rfl) H
set_option maxRecDepth 20000 in
theorem wX6_begin_0 {d : Nat} {Q : Option Value × xS → Prop} {K : Nat → Nat × Nat} {P : List Nat × Nat × Nat} {I : Nat → Nat → Int32} {J : Nat → Nat → Int64} {F : Nat → Nat → Option Nat} {r0 : Nat} {n_r0 : Nat} (hn_r0 : K r0 = (5, n_r0)) (H : Q (none, (K, P, (xup I r0 5 (nI 0)), J, F))) : Wp d 51 0 [some (.ref r0)] [] (K, P, I, J, F) Q := by
  refine Wp.go (x := (.aload_n 0, 1, 0, 0)) rfl 1 [some (.ref r0)] [.ref r0] rfl ⟨rfl, rfl, rfl, rfl⟩ ?_
  refine Wp.ic (v := nI 0) rfl rfl (by decide) ?_
  refine Wp.pI rfl rfl hn_r0 rfl (Or.inl rfl) ?_
  exact Wp.rV rfl rfl H
set_option maxRecDepth 20000 in
theorem wX6_add_0 {d : Nat} {Q : Option Value × xS → Prop} {K : Nat → Nat × Nat} {P : List Nat × Nat × Nat} {I : Nat → Nat → Int32} {J : Nat → Nat → Int64} {F : Nat → Nat → Option Nat} {r0 : Nat} {x1 : Int32} {x2 : Int32} {x3 : Int32} {x4 : Int32} {n_r0 : Nat} {f1 : Nat} {n_f1 : Nat} {f3 : Nat} {n_f3 : Nat} {f5 : Nat} {n_f5 : Nat} {f7 : Nat} {n_f7 : Nat} (hK : ∀ {a k n : Nat}, K a = (k, n) → n < 2147483648) (hn_r0 : K r0 = (5, n_r0)) (hf1 : F r0 3 = some f1) (hn_f1 : K f1 = (100, n_f1)) (hf3 : F r0 0 = some f3) (hn_f3 : K f3 = (100, n_f3)) (hf5 : F r0 1 = some f5) (hn_f5 : K f5 = (100, n_f5)) (hf7 : F r0 2 = some f7) (hn_f7 : K f7 = (100, n_f7)) (H : (((I r0 5) < (nI 300) → (∃ j2 : Nat, (I r0 5) = nI j2 ∧ j2 < n_f1 ∧ (∃ j4 : Nat, (((xup I f1 j2 x1)) r0 5) = nI j4 ∧ j4 < n_f3 ∧ (∃ j6 : Nat, (((xup ((xup I f1 j2 x1)) f3 j4 x2)) r0 5) = nI j6 ∧ j6 < n_f5 ∧ (∃ j8 : Nat, (((xup ((xup ((xup I f1 j2 x1)) f3 j4 x2)) f5 j6 x3)) r0 5) = nI j8 ∧ j8 < n_f7 ∧ Q (none, (K, P, (xup ((xup ((xup ((xup ((xup I f1 j2 x1)) f3 j4 x2)) f5 j6 x3)) f7 j8 x4)) r0 5 ((((xup ((xup ((xup ((xup I f1 j2 x1)) f3 j4 x2)) f5 j6 x3)) f7 j8 x4)) r0 5) + (nI 1))), J, F))))))) ∧ (¬ (I r0 5) < (nI 300) → Q (none, (K, P, I, J, F))))) : Wp d 52 0 [some (.ref r0), some (.int x1), some (.int x2), some (.int x3), some (.int x4)] [] (K, P, I, J, F) Q := by
  refine Wp.go (x := (.aload_n 0, 1, 0, 0)) rfl 1 [some (.ref r0), some (.int x1), some (.int x2), some (.int x3), some (.int x4)] [.ref r0] rfl ⟨rfl, rfl, rfl, rfl⟩ ?_
  refine Wp.gI rfl rfl hn_r0 rfl ⟨by decide, by decide⟩ ?_
  refine Wp.sp (v := nI 300) rfl rfl (by decide) ?_
  refine Wp.c_lt rfl rfl ⟨fun c => ?_, fun c => ?_⟩
  · have H := H.1 c
    refine Wp.go (x := (.aload_n 0, 1, 0, 0)) rfl 12 [some (.ref r0), some (.int x1), some (.int x2), some (.int x3), some (.int x4)] [.ref r0] rfl ⟨rfl, rfl, rfl, rfl⟩ ?_
    refine Wp.gR rfl rfl hn_r0 rfl rfl hf1 ?_
    refine Wp.go (x := (.aload_n 0, 1, 0, 0)) rfl 16 [some (.ref r0), some (.int x1), some (.int x2), some (.int x3), some (.int x4)] [.ref r0, .ref f1] rfl ⟨rfl, rfl, rfl, rfl⟩ ?_
    refine Wp.gI rfl rfl hn_r0 rfl ⟨by decide, by decide⟩ ?_
    refine Wp.go (x := (.iload_n 1, 1, 0, 0)) rfl 20 [some (.ref r0), some (.int x1), some (.int x2), some (.int x3), some (.int x4)] [.int x1, .int (I r0 5), .ref f1] rfl ⟨rfl, rfl, rfl, rfl⟩ ?_
    obtain ⟨j2, e, b, H⟩ := H
    refine Wp.ast rfl rfl hn_f1 (hK hn_f1) ⟨j2, e, b, ?_⟩
    refine Wp.go (x := (.aload_n 0, 1, 0, 0)) rfl 22 [some (.ref r0), some (.int x1), some (.int x2), some (.int x3), some (.int x4)] [.ref r0] rfl ⟨rfl, rfl, rfl, rfl⟩ ?_
    refine Wp.gR rfl rfl hn_r0 rfl rfl hf3 ?_
    refine Wp.go (x := (.aload_n 0, 1, 0, 0)) rfl 26 [some (.ref r0), some (.int x1), some (.int x2), some (.int x3), some (.int x4)] [.ref r0, .ref f3] rfl ⟨rfl, rfl, rfl, rfl⟩ ?_
    refine Wp.gI rfl rfl hn_r0 rfl ⟨by decide, by decide⟩ ?_
    refine Wp.go (x := (.iload_n 2, 1, 0, 0)) rfl 30 [some (.ref r0), some (.int x1), some (.int x2), some (.int x3), some (.int x4)] [.int x2, .int (((xup I f1 j2 x1)) r0 5), .ref f3] rfl ⟨rfl, rfl, rfl, rfl⟩ ?_
    obtain ⟨j4, e, b, H⟩ := H
    refine Wp.ast rfl rfl hn_f3 (hK hn_f3) ⟨j4, e, b, ?_⟩
    refine Wp.go (x := (.aload_n 0, 1, 0, 0)) rfl 32 [some (.ref r0), some (.int x1), some (.int x2), some (.int x3), some (.int x4)] [.ref r0] rfl ⟨rfl, rfl, rfl, rfl⟩ ?_
    refine Wp.gR rfl rfl hn_r0 rfl rfl hf5 ?_
    refine Wp.go (x := (.aload_n 0, 1, 0, 0)) rfl 36 [some (.ref r0), some (.int x1), some (.int x2), some (.int x3), some (.int x4)] [.ref r0, .ref f5] rfl ⟨rfl, rfl, rfl, rfl⟩ ?_
    refine Wp.gI rfl rfl hn_r0 rfl ⟨by decide, by decide⟩ ?_
    refine Wp.go (x := (.iload_n 3, 1, 0, 0)) rfl 40 [some (.ref r0), some (.int x1), some (.int x2), some (.int x3), some (.int x4)] [.int x3, .int (((xup ((xup I f1 j2 x1)) f3 j4 x2)) r0 5), .ref f5] rfl ⟨rfl, rfl, rfl, rfl⟩ ?_
    obtain ⟨j6, e, b, H⟩ := H
    refine Wp.ast rfl rfl hn_f5 (hK hn_f5) ⟨j6, e, b, ?_⟩
    refine Wp.go (x := (.aload_n 0, 1, 0, 0)) rfl 42 [some (.ref r0), some (.int x1), some (.int x2), some (.int x3), some (.int x4)] [.ref r0] rfl ⟨rfl, rfl, rfl, rfl⟩ ?_
    refine Wp.gR rfl rfl hn_r0 rfl rfl hf7 ?_
    refine Wp.go (x := (.aload_n 0, 1, 0, 0)) rfl 46 [some (.ref r0), some (.int x1), some (.int x2), some (.int x3), some (.int x4)] [.ref r0, .ref f7] rfl ⟨rfl, rfl, rfl, rfl⟩ ?_
    refine Wp.gI rfl rfl hn_r0 rfl ⟨by decide, by decide⟩ ?_
    refine Wp.go (x := (.iload 4, 2, 0, 0)) rfl 51 [some (.ref r0), some (.int x1), some (.int x2), some (.int x3), some (.int x4)] [.int x4, .int (((xup ((xup ((xup I f1 j2 x1)) f3 j4 x2)) f5 j6 x3)) r0 5), .ref f7] rfl ⟨rfl, rfl, rfl, rfl⟩ ?_
    obtain ⟨j8, e, b, H⟩ := H
    refine Wp.ast rfl rfl hn_f7 (hK hn_f7) ⟨j8, e, b, ?_⟩
    refine Wp.go (x := (.aload_n 0, 1, 0, 0)) rfl 53 [some (.ref r0), some (.int x1), some (.int x2), some (.int x3), some (.int x4)] [.ref r0] rfl ⟨rfl, rfl, rfl, rfl⟩ ?_
    refine Wp.go (x := (.dup, 1, 0, 0)) rfl 54 [some (.ref r0), some (.int x1), some (.int x2), some (.int x3), some (.int x4)] [.ref r0, .ref r0] rfl ⟨rfl, rfl, rfl, rfl⟩ ?_
    refine Wp.gI rfl rfl hn_r0 rfl ⟨by decide, by decide⟩ ?_
    refine Wp.ic (v := nI 1) rfl rfl (by decide) ?_
    refine Wp.go (x := (.iadd, 1, 0, 0)) rfl 59 [some (.ref r0), some (.int x1), some (.int x2), some (.int x3), some (.int x4)] [.int ((((xup ((xup ((xup ((xup I f1 j2 x1)) f3 j4 x2)) f5 j6 x3)) f7 j8 x4)) r0 5) + (nI 1)), .ref r0] rfl ⟨rfl, rfl, rfl, rfl⟩ ?_
    refine Wp.pI rfl rfl hn_r0 rfl (Or.inl rfl) ?_
    exact Wp.rV rfl rfl H
  · have H := H.2 c
    exact Wp.rV rfl rfl H
set_option maxRecDepth 20000 in
theorem wX6_turnRound_0 {d : Nat} {Q : Option Value × xS → Prop} {K : Nat → Nat × Nat} {P : List Nat × Nat × Nat} {I : Nat → Nat → Int32} {J : Nat → Nat → Int64} {F : Nat → Nat → Option Nat} {r0 : Nat}  (H : Wp d 53 2 [some (.ref r0), some (.int (nI 0)), none] [] (K, P, I, J, F) Q) : Wp d 53 0 [some (.ref r0), none, none] [] (K, P, I, J, F) Q := by
  refine Wp.ic (v := nI 0) rfl rfl (by decide) ?_
  refine Wp.go (x := (.istore_n 1, 1, 0, 0)) rfl 2 [some (.ref r0), some (.int (nI 0)), none] [] rfl ⟨rfl, rfl, rfl, rfl⟩ ?_
  exact H
set_option maxRecDepth 20000 in
theorem wX6_turnRound_2 {d : Nat} {Q : Option Value × xS → Prop} {K : Nat → Nat × Nat} {P : List Nat × Nat × Nat} {I : Nat → Nat → Int32} {J : Nat → Nat → Int64} {F : Nat → Nat → Option Nat} {r0 : Nat} {x1 : Int32} {n_r0 : Nat} {f1 : Nat} {f4 : Nat} {f7 : Nat} {f10 : Nat} (hn_r0 : K r0 = (5, n_r0)) (hf1 : F r0 3 = some f1) (hf4 : F r0 0 = some f4) (hf7 : F r0 1 = some f7) (hf10 : F r0 2 = some f10) (H : (¬ (nI 2) = 0 ∧ ((((I r0 5) / (nI 2)) ≤ x1 → Q (none, (K, P, I, J, F))) ∧ (¬ ((I r0 5) / (nI 2)) ≤ x1 → Wp d 54 0 [some (.ref f1), some (.int x1), some (.int (((I r0 5) - (nI 1)) - x1)), none] [] (K, P, I, J, F) (xrV K P F (fun I2 J3 => Wp d 54 0 [some (.ref f4), some (.int x1), some (.int (((I r0 5) - (nI 1)) - x1)), none] [] (K, P, I2, J3, F) (xrV K P F (fun I5 J6 => Wp d 54 0 [some (.ref f7), some (.int x1), some (.int (((I r0 5) - (nI 1)) - x1)), none] [] (K, P, I5, J6, F) (xrV K P F (fun I8 J9 => Wp d 54 0 [some (.ref f10), some (.int x1), some (.int (((I r0 5) - (nI 1)) - x1)), none] [] (K, P, I8, J9, F) (xrV K P F (fun I11 J12 => Wp (d + 1) 53 2 [some (.ref r0), some (.int (x1 + nI 1)), none] [] (K, P, I11, J12, F) Q)))))))))))) : Wp (d + 1) 53 2 [some (.ref r0), some (.int x1), none] [] (K, P, I, J, F) Q := by
  refine Wp.go (x := (.iload_n 1, 1, 0, 0)) rfl 3 [some (.ref r0), some (.int x1), none] [.int x1] rfl ⟨rfl, rfl, rfl, rfl⟩ ?_
  refine Wp.go (x := (.aload_n 0, 1, 0, 0)) rfl 4 [some (.ref r0), some (.int x1), none] [.ref r0, .int x1] rfl ⟨rfl, rfl, rfl, rfl⟩ ?_
  refine Wp.gI rfl rfl hn_r0 rfl ⟨by decide, by decide⟩ ?_
  refine Wp.ic (v := nI 2) rfl rfl (by decide) ?_
  obtain ⟨z, H⟩ := H
  refine Wp.idiv rfl rfl z ?_
  refine Wp.c_ge rfl rfl ⟨fun c => ?_, fun c => ?_⟩
  · have H := H.1 c
    exact Wp.rV rfl rfl H
  · have H := H.2 c
    refine Wp.go (x := (.aload_n 0, 1, 0, 0)) rfl 13 [some (.ref r0), some (.int x1), none] [.ref r0] rfl ⟨rfl, rfl, rfl, rfl⟩ ?_
    refine Wp.gI rfl rfl hn_r0 rfl ⟨by decide, by decide⟩ ?_
    refine Wp.ic (v := nI 1) rfl rfl (by decide) ?_
    refine Wp.go (x := (.isub, 1, 0, 0)) rfl 18 [some (.ref r0), some (.int x1), none] [.int ((I r0 5) - (nI 1))] rfl ⟨rfl, rfl, rfl, rfl⟩ ?_
    refine Wp.go (x := (.iload_n 1, 1, 0, 0)) rfl 19 [some (.ref r0), some (.int x1), none] [.int x1, .int ((I r0 5) - (nI 1))] rfl ⟨rfl, rfl, rfl, rfl⟩ ?_
    refine Wp.go (x := (.isub, 1, 0, 0)) rfl 20 [some (.ref r0), some (.int x1), none] [.int (((I r0 5) - (nI 1)) - x1)] rfl ⟨rfl, rfl, rfl, rfl⟩ ?_
    refine Wp.go (x := (.istore_n 2, 1, 0, 0)) rfl 21 [some (.ref r0), some (.int x1), some (.int (((I r0 5) - (nI 1)) - x1))] [] rfl ⟨rfl, rfl, rfl, rfl⟩ ?_
    refine Wp.go (x := (.aload_n 0, 1, 0, 0)) rfl 22 [some (.ref r0), some (.int x1), some (.int (((I r0 5) - (nI 1)) - x1))] [.ref r0] rfl ⟨rfl, rfl, rfl, rfl⟩ ?_
    refine Wp.gR rfl rfl hn_r0 rfl rfl hf1 ?_
    refine Wp.go (x := (.iload_n 1, 1, 0, 0)) rfl 26 [some (.ref r0), some (.int x1), some (.int (((I r0 5) - (nI 1)) - x1))] [.int x1, .ref f1] rfl ⟨rfl, rfl, rfl, rfl⟩ ?_
    refine Wp.go (x := (.iload_n 2, 1, 0, 0)) rfl 27 [some (.ref r0), some (.int x1), some (.int (((I r0 5) - (nI 1)) - x1))] [.int (((I r0 5) - (nI 1)) - x1), .int x1, .ref f1] rfl ⟨rfl, rfl, rfl, rfl⟩ ?_
    refine Wp.kV (x := (.invokestatic 31, 3, 54, 3)) (j := 54) (vs := [.ref f1, .int x1, .int (((I r0 5) - (nI 1)) - x1)]) (rest := []) rfl rfl rfl ⟨Nat.le_of_ble_eq_true rfl, Nat.le_of_ble_eq_true rfl, Nat.le_of_ble_eq_true rfl⟩ rfl rfl rfl H (fun I2 J3 H => ?_)
    refine Wp.go (x := (.aload_n 0, 1, 0, 0)) rfl 31 [some (.ref r0), some (.int x1), some (.int (((I r0 5) - (nI 1)) - x1))] [.ref r0] rfl ⟨rfl, rfl, rfl, rfl⟩ ?_
    refine Wp.gR rfl rfl hn_r0 rfl rfl hf4 ?_
    refine Wp.go (x := (.iload_n 1, 1, 0, 0)) rfl 35 [some (.ref r0), some (.int x1), some (.int (((I r0 5) - (nI 1)) - x1))] [.int x1, .ref f4] rfl ⟨rfl, rfl, rfl, rfl⟩ ?_
    refine Wp.go (x := (.iload_n 2, 1, 0, 0)) rfl 36 [some (.ref r0), some (.int x1), some (.int (((I r0 5) - (nI 1)) - x1))] [.int (((I r0 5) - (nI 1)) - x1), .int x1, .ref f4] rfl ⟨rfl, rfl, rfl, rfl⟩ ?_
    refine Wp.kV (x := (.invokestatic 31, 3, 54, 3)) (j := 54) (vs := [.ref f4, .int x1, .int (((I r0 5) - (nI 1)) - x1)]) (rest := []) rfl rfl rfl ⟨Nat.le_of_ble_eq_true rfl, Nat.le_of_ble_eq_true rfl, Nat.le_of_ble_eq_true rfl⟩ rfl rfl rfl H (fun I5 J6 H => ?_)
    refine Wp.go (x := (.aload_n 0, 1, 0, 0)) rfl 40 [some (.ref r0), some (.int x1), some (.int (((I r0 5) - (nI 1)) - x1))] [.ref r0] rfl ⟨rfl, rfl, rfl, rfl⟩ ?_
    refine Wp.gR rfl rfl hn_r0 rfl rfl hf7 ?_
    refine Wp.go (x := (.iload_n 1, 1, 0, 0)) rfl 44 [some (.ref r0), some (.int x1), some (.int (((I r0 5) - (nI 1)) - x1))] [.int x1, .ref f7] rfl ⟨rfl, rfl, rfl, rfl⟩ ?_
    refine Wp.go (x := (.iload_n 2, 1, 0, 0)) rfl 45 [some (.ref r0), some (.int x1), some (.int (((I r0 5) - (nI 1)) - x1))] [.int (((I r0 5) - (nI 1)) - x1), .int x1, .ref f7] rfl ⟨rfl, rfl, rfl, rfl⟩ ?_
    refine Wp.kV (x := (.invokestatic 31, 3, 54, 3)) (j := 54) (vs := [.ref f7, .int x1, .int (((I r0 5) - (nI 1)) - x1)]) (rest := []) rfl rfl rfl ⟨Nat.le_of_ble_eq_true rfl, Nat.le_of_ble_eq_true rfl, Nat.le_of_ble_eq_true rfl⟩ rfl rfl rfl H (fun I8 J9 H => ?_)
    refine Wp.go (x := (.aload_n 0, 1, 0, 0)) rfl 49 [some (.ref r0), some (.int x1), some (.int (((I r0 5) - (nI 1)) - x1))] [.ref r0] rfl ⟨rfl, rfl, rfl, rfl⟩ ?_
    refine Wp.gR rfl rfl hn_r0 rfl rfl hf10 ?_
    refine Wp.go (x := (.iload_n 1, 1, 0, 0)) rfl 53 [some (.ref r0), some (.int x1), some (.int (((I r0 5) - (nI 1)) - x1))] [.int x1, .ref f10] rfl ⟨rfl, rfl, rfl, rfl⟩ ?_
    refine Wp.go (x := (.iload_n 2, 1, 0, 0)) rfl 54 [some (.ref r0), some (.int x1), some (.int (((I r0 5) - (nI 1)) - x1))] [.int (((I r0 5) - (nI 1)) - x1), .int x1, .ref f10] rfl ⟨rfl, rfl, rfl, rfl⟩ ?_
    refine Wp.kV (x := (.invokestatic 31, 3, 54, 3)) (j := 54) (vs := [.ref f10, .int x1, .int (((I r0 5) - (nI 1)) - x1)]) (rest := []) rfl rfl rfl ⟨Nat.le_of_ble_eq_true rfl, Nat.le_of_ble_eq_true rfl, Nat.le_of_ble_eq_true rfl⟩ rfl rfl rfl H (fun I11 J12 H => ?_)
    refine Wp.ii (v := nI 1) rfl rfl (by decide) rfl (L' := [some (.ref r0), some (.int (x1 + nI 1)), some (.int (((I r0 5) - (nI 1)) - x1))]) rfl ?_
    refine Wp.go (x := (.goto (-58), 3, 2, 0)) rfl 2 [some (.ref r0), some (.int (x1 + nI 1)), some (.int (((I r0 5) - (nI 1)) - x1))] [] rfl ⟨rfl, rfl, rfl, rfl⟩ ?_
    exact Wp.wk (L := [some (.ref r0), some (.int (x1 + nI 1)), none]) ⟨Or.inr rfl, Or.inr rfl, Or.inl rfl, trivial⟩ H
set_option maxRecDepth 20000 in
theorem wX6_swap_0 {d : Nat} {Q : Option Value × xS → Prop} {K : Nat → Nat × Nat} {P : List Nat × Nat × Nat} {I : Nat → Nat → Int32} {J : Nat → Nat → Int64} {F : Nat → Nat → Option Nat} {r0 : Nat} {x1 : Int32} {x2 : Int32} {n_r0 : Nat} (hK : ∀ {a k n : Nat}, K a = (k, n) → n < 2147483648) (hn_r0 : K r0 = (100, n_r0)) (H : (∃ j1 : Nat, x1 = nI j1 ∧ j1 < n_r0 ∧ (∃ j2 : Nat, x2 = nI j2 ∧ j2 < n_r0 ∧ (∃ j3 : Nat, x1 = nI j3 ∧ j3 < n_r0 ∧ (∃ j4 : Nat, x2 = nI j4 ∧ j4 < n_r0 ∧ Q (none, (K, P, (xup ((xup I r0 j3 (I r0 j2))) r0 j4 (I r0 j1)), J, F))))))) : Wp d 54 0 [some (.ref r0), some (.int x1), some (.int x2), none] [] (K, P, I, J, F) Q := by
  refine Wp.go (x := (.aload_n 0, 1, 0, 0)) rfl 1 [some (.ref r0), some (.int x1), some (.int x2), none] [.ref r0] rfl ⟨rfl, rfl, rfl, rfl⟩ ?_
  refine Wp.go (x := (.iload_n 1, 1, 0, 0)) rfl 2 [some (.ref r0), some (.int x1), some (.int x2), none] [.int x1, .ref r0] rfl ⟨rfl, rfl, rfl, rfl⟩ ?_
  obtain ⟨j1, e, b, H⟩ := H
  refine Wp.ald rfl rfl hn_r0 (Or.inl rfl) (hK hn_r0) ⟨j1, e, b, ?_⟩
  refine Wp.go (x := (.istore_n 3, 1, 0, 0)) rfl 4 [some (.ref r0), some (.int x1), some (.int x2), some (.int (I r0 j1))] [] rfl ⟨rfl, rfl, rfl, rfl⟩ ?_
  refine Wp.go (x := (.aload_n 0, 1, 0, 0)) rfl 5 [some (.ref r0), some (.int x1), some (.int x2), some (.int (I r0 j1))] [.ref r0] rfl ⟨rfl, rfl, rfl, rfl⟩ ?_
  refine Wp.go (x := (.iload_n 1, 1, 0, 0)) rfl 6 [some (.ref r0), some (.int x1), some (.int x2), some (.int (I r0 j1))] [.int x1, .ref r0] rfl ⟨rfl, rfl, rfl, rfl⟩ ?_
  refine Wp.go (x := (.aload_n 0, 1, 0, 0)) rfl 7 [some (.ref r0), some (.int x1), some (.int x2), some (.int (I r0 j1))] [.ref r0, .int x1, .ref r0] rfl ⟨rfl, rfl, rfl, rfl⟩ ?_
  refine Wp.go (x := (.iload_n 2, 1, 0, 0)) rfl 8 [some (.ref r0), some (.int x1), some (.int x2), some (.int (I r0 j1))] [.int x2, .ref r0, .int x1, .ref r0] rfl ⟨rfl, rfl, rfl, rfl⟩ ?_
  obtain ⟨j2, e, b, H⟩ := H
  refine Wp.ald rfl rfl hn_r0 (Or.inl rfl) (hK hn_r0) ⟨j2, e, b, ?_⟩
  obtain ⟨j3, e, b, H⟩ := H
  refine Wp.ast rfl rfl hn_r0 (hK hn_r0) ⟨j3, e, b, ?_⟩
  refine Wp.go (x := (.aload_n 0, 1, 0, 0)) rfl 11 [some (.ref r0), some (.int x1), some (.int x2), some (.int (I r0 j1))] [.ref r0] rfl ⟨rfl, rfl, rfl, rfl⟩ ?_
  refine Wp.go (x := (.iload_n 2, 1, 0, 0)) rfl 12 [some (.ref r0), some (.int x1), some (.int x2), some (.int (I r0 j1))] [.int x2, .ref r0] rfl ⟨rfl, rfl, rfl, rfl⟩ ?_
  refine Wp.go (x := (.iload_n 3, 1, 0, 0)) rfl 13 [some (.ref r0), some (.int x1), some (.int x2), some (.int (I r0 j1))] [.int (I r0 j1), .int x2, .ref r0] rfl ⟨rfl, rfl, rfl, rfl⟩ ?_
  obtain ⟨j4, e, b, H⟩ := H
  refine Wp.ast rfl rfl hn_r0 (hK hn_r0) ⟨j4, e, b, ?_⟩
  exact Wp.rV rfl rfl H
set_option maxRecDepth 20000 in
theorem wX6_finish_0 {d : Nat} {Q : Option Value × xS → Prop} {K : Nat → Nat × Nat} {P : List Nat × Nat × Nat} {I : Nat → Nat → Int32} {J : Nat → Nat → Int64} {F : Nat → Nat → Option Nat} {r0 : Nat} {r1 : Nat} {y2 : Int64} {x4 : Int32} {n_r0 : Nat} (hn_r0 : K r0 = (5, n_r0)) (H : ((x4 = 0 ∨ x4 = 1) ∧ Wp d 55 14 [some (.ref r0), some (.ref r1), none, none, none, some (.int (nI 0)), none] [] (K, P, (xup I r0 7 x4), (xup J r0 6 y2), F) Q)) : Wp d 55 0 [some (.ref r0), some (.ref r1), some (.long y2), none, some (.int x4), none, none] [] (K, P, I, J, F) Q := by
  refine Wp.go (x := (.aload_n 0, 1, 0, 0)) rfl 1 [some (.ref r0), some (.ref r1), some (.long y2), none, some (.int x4), none, none] [.ref r0] rfl ⟨rfl, rfl, rfl, rfl⟩ ?_
  refine Wp.go (x := (.lload_n 2, 1, 0, 0)) rfl 2 [some (.ref r0), some (.ref r1), some (.long y2), none, some (.int x4), none, none] [.long y2, .ref r0] rfl ⟨rfl, rfl, rfl, rfl⟩ ?_
  refine Wp.pJ rfl rfl hn_r0 rfl rfl ?_
  refine Wp.go (x := (.aload_n 0, 1, 0, 0)) rfl 6 [some (.ref r0), some (.ref r1), some (.long y2), none, some (.int x4), none, none] [.ref r0] rfl ⟨rfl, rfl, rfl, rfl⟩ ?_
  refine Wp.go (x := (.iload 4, 2, 0, 0)) rfl 8 [some (.ref r0), some (.ref r1), some (.long y2), none, some (.int x4), none, none] [.int x4, .ref r0] rfl ⟨rfl, rfl, rfl, rfl⟩ ?_
  obtain ⟨z, H⟩ := H
  refine Wp.pI rfl rfl hn_r0 rfl (Or.inr ⟨rfl, z⟩) ?_
  refine Wp.ic (v := nI 0) rfl rfl (by decide) ?_
  refine Wp.go (x := (.istore 5, 2, 0, 0)) rfl 14 [some (.ref r0), some (.ref r1), some (.long y2), none, some (.int x4), some (.int (nI 0)), none] [] rfl ⟨rfl, rfl, rfl, rfl⟩ ?_
  exact Wp.wk (L := [some (.ref r0), some (.ref r1), none, none, none, some (.int (nI 0)), none]) ⟨Or.inr rfl, Or.inr rfl, Or.inl rfl, Or.inr rfl, Or.inl rfl, Or.inr rfl, Or.inr rfl, trivial⟩ H
set_option maxRecDepth 20000 in
theorem wX6_finish_14 {d : Nat} {Q : Option Value × xS → Prop} {K : Nat → Nat × Nat} {P : List Nat × Nat × Nat} {I : Nat → Nat → Int32} {J : Nat → Nat → Int64} {F : Nat → Nat → Option Nat} {r0 : Nat} {r1 : Nat} {x5 : Int32} {n_r0 : Nat} {f1 : Nat} {n_f1 : Nat} {f3 : Nat} {n_f3 : Nat} {f5 : Nat} {n_f5 : Nat} {f7 : Nat} {n_f7 : Nat} {f11 : Nat} {n_r1 : Nat} {f12 : Nat} {n_f12 : Nat} {n_f11 : Nat} (hK : ∀ {a k n : Nat}, K a = (k, n) → n < 2147483648) (hn_r0 : K r0 = (5, n_r0)) (hf1 : F r0 0 = some f1) (hn_f1 : K f1 = (100, n_f1)) (hf3 : F r0 3 = some f3) (hn_f3 : K f3 = (100, n_f3)) (hf5 : F r0 1 = some f5) (hn_f5 : K f5 = (100, n_f5)) (hf7 : F r0 2 = some f7) (hn_f7 : K f7 = (100, n_f7)) (hf11 : F r0 4 = some f11) (hn_r1 : K r1 = (8, n_r1)) (hf12 : F r1 2 = some f12) (hn_f12 : K f12 = (100, n_f12)) (hn_f11 : K f11 = (100, n_f11)) (H : (((I r0 5) ≤ x5 → Q (none, (K, P, I, J, F))) ∧ (¬ (I r0 5) ≤ x5 → (∃ j2 : Nat, x5 = nI j2 ∧ j2 < n_f1 ∧ (∃ j4 : Nat, x5 = nI j4 ∧ j4 < n_f3 ∧ ((¬ (I f3 j4) = 0 → (∃ j6 : Nat, x5 = nI j6 ∧ j6 < n_f5 ∧ (∃ j8 : Nat, x5 = nI j8 ∧ j8 < n_f7 ∧ Wp d 56 0 [some (.ref r0), some (.int (I f1 j2)), some (.int (I f5 j6)), some (.int (I f7 j8)), none] [] (K, P, I, J, F) (xrV K P F (fun I9 J10 => Wp (d + 1) 55 14 [some (.ref r0), some (.ref r1), none, none, none, some (.int (x5 + nI 1)), none] [] (K, P, I9, J10, F) Q))))) ∧ ((I f3 j4) = 0 → (∃ j13 : Nat, (I f1 j2) = nI j13 ∧ j13 < n_f12 ∧ (∃ j14 : Nat, (I f1 j2) = nI j14 ∧ j14 < n_f11 ∧ Wp (d + 1) 55 14 [some (.ref r0), some (.ref r1), none, none, none, some (.int (x5 + nI 1)), none] [] (K, P, (xup I f11 j14 (I f12 j13)), J, F) Q))))))))) : Wp (d + 1) 55 14 [some (.ref r0), some (.ref r1), none, none, none, some (.int x5), none] [] (K, P, I, J, F) Q := by
  refine Wp.go (x := (.iload 5, 2, 0, 0)) rfl 16 [some (.ref r0), some (.ref r1), none, none, none, some (.int x5), none] [.int x5] rfl ⟨rfl, rfl, rfl, rfl⟩ ?_
  refine Wp.go (x := (.aload_n 0, 1, 0, 0)) rfl 17 [some (.ref r0), some (.ref r1), none, none, none, some (.int x5), none] [.ref r0, .int x5] rfl ⟨rfl, rfl, rfl, rfl⟩ ?_
  refine Wp.gI rfl rfl hn_r0 rfl ⟨by decide, by decide⟩ ?_
  refine Wp.c_ge rfl rfl ⟨fun c => ?_, fun c => ?_⟩
  · have H := H.1 c
    exact Wp.rV rfl rfl H
  · have H := H.2 c
    refine Wp.go (x := (.aload_n 0, 1, 0, 0)) rfl 24 [some (.ref r0), some (.ref r1), none, none, none, some (.int x5), none] [.ref r0] rfl ⟨rfl, rfl, rfl, rfl⟩ ?_
    refine Wp.gR rfl rfl hn_r0 rfl rfl hf1 ?_
    refine Wp.go (x := (.iload 5, 2, 0, 0)) rfl 29 [some (.ref r0), some (.ref r1), none, none, none, some (.int x5), none] [.int x5, .ref f1] rfl ⟨rfl, rfl, rfl, rfl⟩ ?_
    obtain ⟨j2, e, b, H⟩ := H
    refine Wp.ald rfl rfl hn_f1 (Or.inl rfl) (hK hn_f1) ⟨j2, e, b, ?_⟩
    refine Wp.go (x := (.istore 6, 2, 0, 0)) rfl 32 [some (.ref r0), some (.ref r1), none, none, none, some (.int x5), some (.int (I f1 j2))] [] rfl ⟨rfl, rfl, rfl, rfl⟩ ?_
    refine Wp.go (x := (.aload_n 0, 1, 0, 0)) rfl 33 [some (.ref r0), some (.ref r1), none, none, none, some (.int x5), some (.int (I f1 j2))] [.ref r0] rfl ⟨rfl, rfl, rfl, rfl⟩ ?_
    refine Wp.gR rfl rfl hn_r0 rfl rfl hf3 ?_
    refine Wp.go (x := (.iload 5, 2, 0, 0)) rfl 38 [some (.ref r0), some (.ref r1), none, none, none, some (.int x5), some (.int (I f1 j2))] [.int x5, .ref f3] rfl ⟨rfl, rfl, rfl, rfl⟩ ?_
    obtain ⟨j4, e, b, H⟩ := H
    refine Wp.ald rfl rfl hn_f3 (Or.inl rfl) (hK hn_f3) ⟨j4, e, b, ?_⟩
    refine Wp.z_ne rfl rfl ⟨fun c => ?_, fun c => ?_⟩
    · have H := H.1 c
      refine Wp.go (x := (.aload_n 0, 1, 0, 0)) rfl 60 [some (.ref r0), some (.ref r1), none, none, none, some (.int x5), some (.int (I f1 j2))] [.ref r0] rfl ⟨rfl, rfl, rfl, rfl⟩ ?_
      refine Wp.go (x := (.iload 6, 2, 0, 0)) rfl 62 [some (.ref r0), some (.ref r1), none, none, none, some (.int x5), some (.int (I f1 j2))] [.int (I f1 j2), .ref r0] rfl ⟨rfl, rfl, rfl, rfl⟩ ?_
      refine Wp.go (x := (.aload_n 0, 1, 0, 0)) rfl 63 [some (.ref r0), some (.ref r1), none, none, none, some (.int x5), some (.int (I f1 j2))] [.ref r0, .int (I f1 j2), .ref r0] rfl ⟨rfl, rfl, rfl, rfl⟩ ?_
      refine Wp.gR rfl rfl hn_r0 rfl rfl hf5 ?_
      refine Wp.go (x := (.iload 5, 2, 0, 0)) rfl 68 [some (.ref r0), some (.ref r1), none, none, none, some (.int x5), some (.int (I f1 j2))] [.int x5, .ref f5, .int (I f1 j2), .ref r0] rfl ⟨rfl, rfl, rfl, rfl⟩ ?_
      obtain ⟨j6, e, b, H⟩ := H
      refine Wp.ald rfl rfl hn_f5 (Or.inl rfl) (hK hn_f5) ⟨j6, e, b, ?_⟩
      refine Wp.go (x := (.aload_n 0, 1, 0, 0)) rfl 70 [some (.ref r0), some (.ref r1), none, none, none, some (.int x5), some (.int (I f1 j2))] [.ref r0, .int (I f5 j6), .int (I f1 j2), .ref r0] rfl ⟨rfl, rfl, rfl, rfl⟩ ?_
      refine Wp.gR rfl rfl hn_r0 rfl rfl hf7 ?_
      refine Wp.go (x := (.iload 5, 2, 0, 0)) rfl 75 [some (.ref r0), some (.ref r1), none, none, none, some (.int x5), some (.int (I f1 j2))] [.int x5, .ref f7, .int (I f5 j6), .int (I f1 j2), .ref r0] rfl ⟨rfl, rfl, rfl, rfl⟩ ?_
      obtain ⟨j8, e, b, H⟩ := H
      refine Wp.ald rfl rfl hn_f7 (Or.inl rfl) (hK hn_f7) ⟨j8, e, b, ?_⟩
      refine Wp.kV (x := (.invokevirtual 48, 3, 56, 4)) (j := 56) (vs := [.ref r0, .int (I f1 j2), .int (I f5 j6), .int (I f7 j8)]) (rest := []) rfl (by show xtg 56 (K r0).1 = _; rw [hn_r0]; rfl) rfl ⟨Nat.le_of_ble_eq_true rfl, Nat.le_of_ble_eq_true rfl, Nat.le_of_ble_eq_true rfl⟩ rfl rfl rfl H (fun I9 J10 H => ?_)
      refine Wp.ii (v := nI 1) rfl rfl (by decide) rfl (L' := [some (.ref r0), some (.ref r1), none, none, none, some (.int (x5 + nI 1)), some (.int (I f1 j2))]) rfl ?_
      refine Wp.go (x := (.goto (-68), 3, 14, 0)) rfl 14 [some (.ref r0), some (.ref r1), none, none, none, some (.int (x5 + nI 1)), some (.int (I f1 j2))] [] rfl ⟨rfl, rfl, rfl, rfl⟩ ?_
      exact Wp.wk (L := [some (.ref r0), some (.ref r1), none, none, none, some (.int (x5 + nI 1)), none]) ⟨Or.inr rfl, Or.inr rfl, Or.inr rfl, Or.inr rfl, Or.inr rfl, Or.inr rfl, Or.inl rfl, trivial⟩ H
    · have H := H.2 c
      refine Wp.go (x := (.aload_n 0, 1, 0, 0)) rfl 43 [some (.ref r0), some (.ref r1), none, none, none, some (.int x5), some (.int (I f1 j2))] [.ref r0] rfl ⟨rfl, rfl, rfl, rfl⟩ ?_
      refine Wp.gR rfl rfl hn_r0 rfl rfl hf11 ?_
      refine Wp.go (x := (.iload 6, 2, 0, 0)) rfl 48 [some (.ref r0), some (.ref r1), none, none, none, some (.int x5), some (.int (I f1 j2))] [.int (I f1 j2), .ref f11] rfl ⟨rfl, rfl, rfl, rfl⟩ ?_
      refine Wp.go (x := (.aload_n 1, 1, 0, 0)) rfl 49 [some (.ref r0), some (.ref r1), none, none, none, some (.int x5), some (.int (I f1 j2))] [.ref r1, .int (I f1 j2), .ref f11] rfl ⟨rfl, rfl, rfl, rfl⟩ ?_
      refine Wp.gR rfl rfl hn_r1 rfl rfl hf12 ?_
      refine Wp.go (x := (.iload 6, 2, 0, 0)) rfl 54 [some (.ref r0), some (.ref r1), none, none, none, some (.int x5), some (.int (I f1 j2))] [.int (I f1 j2), .ref f12, .int (I f1 j2), .ref f11] rfl ⟨rfl, rfl, rfl, rfl⟩ ?_
      obtain ⟨j13, e, b, H⟩ := H
      refine Wp.ald rfl rfl hn_f12 (Or.inl rfl) (hK hn_f12) ⟨j13, e, b, ?_⟩
      obtain ⟨j14, e, b, H⟩ := H
      refine Wp.ast rfl rfl hn_f11 (hK hn_f11) ⟨j14, e, b, ?_⟩
      refine Wp.go (x := (.goto 23, 3, 79, 0)) rfl 79 [some (.ref r0), some (.ref r1), none, none, none, some (.int x5), some (.int (I f1 j2))] [] rfl ⟨rfl, rfl, rfl, rfl⟩ ?_
      refine Wp.ii (v := nI 1) rfl rfl (by decide) rfl (L' := [some (.ref r0), some (.ref r1), none, none, none, some (.int (x5 + nI 1)), some (.int (I f1 j2))]) rfl ?_
      refine Wp.go (x := (.goto (-68), 3, 14, 0)) rfl 14 [some (.ref r0), some (.ref r1), none, none, none, some (.int (x5 + nI 1)), some (.int (I f1 j2))] [] rfl ⟨rfl, rfl, rfl, rfl⟩ ?_
      exact Wp.wk (L := [some (.ref r0), some (.ref r1), none, none, none, some (.int (x5 + nI 1)), none]) ⟨Or.inr rfl, Or.inr rfl, Or.inr rfl, Or.inr rfl, Or.inr rfl, Or.inr rfl, Or.inl rfl, trivial⟩ H
set_option maxRecDepth 20000 in
theorem wX6_tellBack_0 {d : Nat} {Q : Option Value × xS → Prop} {K : Nat → Nat × Nat} {P : List Nat × Nat × Nat} {I : Nat → Nat → Int32} {J : Nat → Nat → Int64} {F : Nat → Nat → Option Nat} {r0 : Nat} {x1 : Int32} {x2 : Int32} {x3 : Int32}  (H : Wp d 56 3 [some (.ref r0), some (.int x1), some (.int x2), some (.int x3), some (.int x1)] [] (K, P, I, J, F) Q) : Wp d 56 0 [some (.ref r0), some (.int x1), some (.int x2), some (.int x3), none] [] (K, P, I, J, F) Q := by
  refine Wp.go (x := (.iload_n 1, 1, 0, 0)) rfl 1 [some (.ref r0), some (.int x1), some (.int x2), some (.int x3), none] [.int x1] rfl ⟨rfl, rfl, rfl, rfl⟩ ?_
  refine Wp.go (x := (.istore 4, 2, 0, 0)) rfl 3 [some (.ref r0), some (.int x1), some (.int x2), some (.int x3), some (.int x1)] [] rfl ⟨rfl, rfl, rfl, rfl⟩ ?_
  exact H
set_option maxRecDepth 20000 in
theorem wX6_tellBack_3 {d : Nat} {Q : Option Value × xS → Prop} {K : Nat → Nat × Nat} {P : List Nat × Nat × Nat} {I : Nat → Nat → Int32} {J : Nat → Nat → Int64} {F : Nat → Nat → Option Nat} {r0 : Nat} {x1 : Int32} {x2 : Int32} {x3 : Int32} {x4 : Int32} {n_r0 : Nat} {f1 : Nat} {n_f1 : Nat} (hK : ∀ {a k n : Nat}, K a = (k, n) → n < 2147483648) (hn_r0 : K r0 = (5, n_r0)) (hf1 : F r0 4 = some f1) (hn_f1 : K f1 = (100, n_f1)) (H : (((x1 + x2) ≤ x4 → Q (none, (K, P, I, J, F))) ∧ (¬ (x1 + x2) ≤ x4 → (∃ j2 : Nat, (x4 - x3) = nI j2 ∧ j2 < n_f1 ∧ (∃ j3 : Nat, x4 = nI j3 ∧ j3 < n_f1 ∧ Wp d 56 3 [some (.ref r0), some (.int x1), some (.int x2), some (.int x3), some (.int (x4 + nI 1))] [] (K, P, (xup I f1 j3 (I f1 j2)), J, F) Q))))) : Wp d 56 3 [some (.ref r0), some (.int x1), some (.int x2), some (.int x3), some (.int x4)] [] (K, P, I, J, F) Q := by
  refine Wp.go (x := (.iload 4, 2, 0, 0)) rfl 5 [some (.ref r0), some (.int x1), some (.int x2), some (.int x3), some (.int x4)] [.int x4] rfl ⟨rfl, rfl, rfl, rfl⟩ ?_
  refine Wp.go (x := (.iload_n 1, 1, 0, 0)) rfl 6 [some (.ref r0), some (.int x1), some (.int x2), some (.int x3), some (.int x4)] [.int x1, .int x4] rfl ⟨rfl, rfl, rfl, rfl⟩ ?_
  refine Wp.go (x := (.iload_n 2, 1, 0, 0)) rfl 7 [some (.ref r0), some (.int x1), some (.int x2), some (.int x3), some (.int x4)] [.int x2, .int x1, .int x4] rfl ⟨rfl, rfl, rfl, rfl⟩ ?_
  refine Wp.go (x := (.iadd, 1, 0, 0)) rfl 8 [some (.ref r0), some (.int x1), some (.int x2), some (.int x3), some (.int x4)] [.int (x1 + x2), .int x4] rfl ⟨rfl, rfl, rfl, rfl⟩ ?_
  refine Wp.c_ge rfl rfl ⟨fun c => ?_, fun c => ?_⟩
  · have H := H.1 c
    exact Wp.rV rfl rfl H
  · have H := H.2 c
    refine Wp.go (x := (.aload_n 0, 1, 0, 0)) rfl 12 [some (.ref r0), some (.int x1), some (.int x2), some (.int x3), some (.int x4)] [.ref r0] rfl ⟨rfl, rfl, rfl, rfl⟩ ?_
    refine Wp.gR rfl rfl hn_r0 rfl rfl hf1 ?_
    refine Wp.go (x := (.iload 4, 2, 0, 0)) rfl 17 [some (.ref r0), some (.int x1), some (.int x2), some (.int x3), some (.int x4)] [.int x4, .ref f1] rfl ⟨rfl, rfl, rfl, rfl⟩ ?_
    refine Wp.go (x := (.aload_n 0, 1, 0, 0)) rfl 18 [some (.ref r0), some (.int x1), some (.int x2), some (.int x3), some (.int x4)] [.ref r0, .int x4, .ref f1] rfl ⟨rfl, rfl, rfl, rfl⟩ ?_
    refine Wp.gR rfl rfl hn_r0 rfl rfl hf1 ?_
    refine Wp.go (x := (.iload 4, 2, 0, 0)) rfl 23 [some (.ref r0), some (.int x1), some (.int x2), some (.int x3), some (.int x4)] [.int x4, .ref f1, .int x4, .ref f1] rfl ⟨rfl, rfl, rfl, rfl⟩ ?_
    refine Wp.go (x := (.iload_n 3, 1, 0, 0)) rfl 24 [some (.ref r0), some (.int x1), some (.int x2), some (.int x3), some (.int x4)] [.int x3, .int x4, .ref f1, .int x4, .ref f1] rfl ⟨rfl, rfl, rfl, rfl⟩ ?_
    refine Wp.go (x := (.isub, 1, 0, 0)) rfl 25 [some (.ref r0), some (.int x1), some (.int x2), some (.int x3), some (.int x4)] [.int (x4 - x3), .ref f1, .int x4, .ref f1] rfl ⟨rfl, rfl, rfl, rfl⟩ ?_
    obtain ⟨j2, e, b, H⟩ := H
    refine Wp.ald rfl rfl hn_f1 (Or.inl rfl) (hK hn_f1) ⟨j2, e, b, ?_⟩
    obtain ⟨j3, e, b, H⟩ := H
    refine Wp.ast rfl rfl hn_f1 (hK hn_f1) ⟨j3, e, b, ?_⟩
    refine Wp.ii (v := nI 1) rfl rfl (by decide) rfl (L' := [some (.ref r0), some (.int x1), some (.int x2), some (.int x3), some (.int (x4 + nI 1))]) rfl ?_
    refine Wp.go (x := (.goto (-27), 3, 3, 0)) rfl 3 [some (.ref r0), some (.int x1), some (.int x2), some (.int x3), some (.int (x4 + nI 1))] [] rfl ⟨rfl, rfl, rfl, rfl⟩ ?_
    exact H
set_option maxRecDepth 20000 in
theorem wX7_findBest_0 {d : Nat} {Q : Option Value × xS → Prop} {K : Nat → Nat × Nat} {P : List Nat × Nat × Nat} {I : Nat → Nat → Int32} {J : Nat → Nat → Int64} {F : Nat → Nat → Option Nat} {r0 : Nat} {r1 : Nat} {n_r0 : Nat} {f1 : Nat} {f2 : Nat} {n_f1 : Nat} {f5 : Nat} {n_f5 : Nat} (hK : ∀ {a k n : Nat}, K a = (k, n) → n < 2147483648) (hn_r0 : K r0 = (6, n_r0)) (hf1 : F r0 1 = some f1) (hf2 : F r0 0 = some f2) (hn_f1 : K f1 = (2, n_f1)) (hf5 : F r0 2 = some f5) (hn_f5 : K f5 = (100, n_f5)) (H : Wp d 13 0 [some (.ref f1), some (.ref f2), none] [] (K, P, I, J, F) (xrV K P F (fun I3 J4 => Wp d 166 0 [some (.ref f5), some (.int (nI 1073741824)), none, none] [] (K, P, I3, J4, F) (xrV K P F (fun I6 J7 => (∃ j8 : Nat, (nI 0) = nI j8 ∧ j8 < n_f5 ∧ Wp (d + 1) 58 29 [some (.ref r0), some (.ref r1), none, some (.int (nI 0)), none, none] [] (K, P, (xup I6 f5 j8 (nI 0)), J7, F) Q)))))) : Wp (d + 1) 58 0 [some (.ref r0), some (.ref r1), none, none, none, none] [] (K, P, I, J, F) Q := by
  refine Wp.go (x := (.aload_n 0, 1, 0, 0)) rfl 1 [some (.ref r0), some (.ref r1), none, none, none, none] [.ref r0] rfl ⟨rfl, rfl, rfl, rfl⟩ ?_
  refine Wp.gR rfl rfl hn_r0 rfl rfl hf1 ?_
  refine Wp.go (x := (.aload_n 0, 1, 0, 0)) rfl 5 [some (.ref r0), some (.ref r1), none, none, none, none] [.ref r0, .ref f1] rfl ⟨rfl, rfl, rfl, rfl⟩ ?_
  refine Wp.gR rfl rfl hn_r0 rfl rfl hf2 ?_
  refine Wp.kV (x := (.invokevirtual 26, 3, 13, 2)) (j := 13) (vs := [.ref f1, .ref f2]) (rest := []) rfl (by show xtg 13 (K f1).1 = _; rw [hn_f1]; rfl) rfl ⟨Nat.le_of_ble_eq_true rfl, Nat.le_of_ble_eq_true rfl, Nat.le_of_ble_eq_true rfl⟩ rfl rfl rfl H (fun I3 J4 H => ?_)
  refine Wp.go (x := (.aload_n 0, 1, 0, 0)) rfl 12 [some (.ref r0), some (.ref r1), none, none, none, none] [.ref r0] rfl ⟨rfl, rfl, rfl, rfl⟩ ?_
  refine Wp.gR rfl rfl hn_r0 rfl rfl hf5 ?_
  refine Wp.ldc (v := nI 1073741824) rfl rfl (by first | rfl | decide) ?_
  refine Wp.kV (x := (.invokestatic 33, 3, 166, 2)) (j := 166) (vs := [.ref f5, .int (nI 1073741824)]) (rest := []) rfl rfl rfl ⟨Nat.le_of_ble_eq_true rfl, Nat.le_of_ble_eq_true rfl, Nat.le_of_ble_eq_true rfl⟩ rfl rfl rfl H (fun I6 J7 H => ?_)
  refine Wp.go (x := (.aload_n 0, 1, 0, 0)) rfl 21 [some (.ref r0), some (.ref r1), none, none, none, none] [.ref r0] rfl ⟨rfl, rfl, rfl, rfl⟩ ?_
  refine Wp.gR rfl rfl hn_r0 rfl rfl hf5 ?_
  refine Wp.ic (v := nI 0) rfl rfl (by decide) ?_
  refine Wp.ic (v := nI 0) rfl rfl (by decide) ?_
  obtain ⟨j8, e, b, H⟩ := H
  refine Wp.ast rfl rfl hn_f5 (hK hn_f5) ⟨j8, e, b, ?_⟩
  refine Wp.ic (v := nI 0) rfl rfl (by decide) ?_
  refine Wp.go (x := (.istore_n 3, 1, 0, 0)) rfl 29 [some (.ref r0), some (.ref r1), none, some (.int (nI 0)), none, none] [] rfl ⟨rfl, rfl, rfl, rfl⟩ ?_
  exact H
set_option maxRecDepth 20000 in
theorem wX7_findBest_29 {d : Nat} {Q : Option Value × xS → Prop} {K : Nat → Nat × Nat} {P : List Nat × Nat × Nat} {I : Nat → Nat → Int32} {J : Nat → Nat → Int64} {F : Nat → Nat → Option Nat} {r0 : Nat} {r1 : Nat} {x3 : Int32} {n_r0 : Nat} {f1 : Nat} {n_f1 : Nat} (hn_r0 : K r0 = (6, n_r0)) (hf1 : F r0 0 = some f1) (hn_f1 : K f1 = (8, n_f1)) (H : (((I f1 3) ≤ x3 → Wp d 60 0 [some (.ref r0), some (.ref r1), none, none] [] (K, P, I, J, F) (xrV K P F (fun I2 J3 => Q (some (.int (nI 0)), (K, P, I2, J3, F))))) ∧ (¬ (I f1 3) ≤ x3 → Wp d 69 0 [some (.ref f1), some (.int x3)] [] (K, P, I, J, F) (xrI K P F (fun v4 I5 J6 => Wp (d + 1) 58 50 [some (.ref r0), some (.ref r1), none, some (.int x3), some (.int v4), none] [] (K, P, I5, J6, F) Q))))) : Wp (d + 1) 58 29 [some (.ref r0), some (.ref r1), none, some (.int x3), none, none] [] (K, P, I, J, F) Q := by
  refine Wp.go (x := (.iload_n 3, 1, 0, 0)) rfl 30 [some (.ref r0), some (.ref r1), none, some (.int x3), none, none] [.int x3] rfl ⟨rfl, rfl, rfl, rfl⟩ ?_
  refine Wp.go (x := (.aload_n 0, 1, 0, 0)) rfl 31 [some (.ref r0), some (.ref r1), none, some (.int x3), none, none] [.ref r0, .int x3] rfl ⟨rfl, rfl, rfl, rfl⟩ ?_
  refine Wp.gR rfl rfl hn_r0 rfl rfl hf1 ?_
  refine Wp.gI rfl rfl hn_f1 rfl ⟨by decide, by decide⟩ ?_
  refine Wp.c_ge rfl rfl ⟨fun c => ?_, fun c => ?_⟩
  · have H := H.1 c
    refine Wp.go (x := (.aload_n 0, 1, 0, 0)) rfl 137 [some (.ref r0), some (.ref r1), none, some (.int x3), none, none] [.ref r0] rfl ⟨rfl, rfl, rfl, rfl⟩ ?_
    refine Wp.go (x := (.aload_n 1, 1, 0, 0)) rfl 138 [some (.ref r0), some (.ref r1), none, some (.int x3), none, none] [.ref r1, .ref r0] rfl ⟨rfl, rfl, rfl, rfl⟩ ?_
    refine Wp.kV (x := (.invokevirtual 72, 3, 60, 2)) (j := 60) (vs := [.ref r0, .ref r1]) (rest := []) rfl (by show xtg 60 (K r0).1 = _; rw [hn_r0]; rfl) rfl ⟨Nat.le_of_ble_eq_true rfl, Nat.le_of_ble_eq_true rfl, Nat.le_of_ble_eq_true rfl⟩ rfl rfl rfl H (fun I2 J3 H => ?_)
    refine Wp.ic (v := nI 0) rfl rfl (by decide) ?_
    exact Wp.rI rfl rfl H
  · have H := H.2 c
    refine Wp.go (x := (.aload_n 0, 1, 0, 0)) rfl 41 [some (.ref r0), some (.ref r1), none, some (.int x3), none, none] [.ref r0] rfl ⟨rfl, rfl, rfl, rfl⟩ ?_
    refine Wp.gR rfl rfl hn_r0 rfl rfl hf1 ?_
    refine Wp.go (x := (.iload_n 3, 1, 0, 0)) rfl 45 [some (.ref r0), some (.ref r1), none, some (.int x3), none, none] [.int x3, .ref f1] rfl ⟨rfl, rfl, rfl, rfl⟩ ?_
    refine Wp.kI (x := (.invokevirtual 45, 3, 69, 2)) (j := 69) (vs := [.ref f1, .int x3]) (rest := []) rfl (by show xtg 69 (K f1).1 = _; rw [hn_f1]; rfl) rfl ⟨Nat.le_of_ble_eq_true rfl, Nat.le_of_ble_eq_true rfl, Nat.le_of_ble_eq_true rfl⟩ rfl rfl rfl H (fun v4 I5 J6 H => ?_)
    refine Wp.go (x := (.istore 4, 2, 0, 0)) rfl 50 [some (.ref r0), some (.ref r1), none, some (.int x3), some (.int v4), none] [] rfl ⟨rfl, rfl, rfl, rfl⟩ ?_
    exact H
set_option maxRecDepth 20000 in
theorem wX7_findBest_50 {d : Nat} {Q : Option Value × xS → Prop} {K : Nat → Nat × Nat} {P : List Nat × Nat × Nat} {I : Nat → Nat → Int32} {J : Nat → Nat → Int64} {F : Nat → Nat → Option Nat} {r0 : Nat} {r1 : Nat} {x3 : Int32} {x4 : Int32} {n_r0 : Nat} {f1 : Nat} {n_f1 : Nat} {f2 : Nat} {f3 : Nat} {n_f3 : Nat} {n_f2 : Nat} {f13 : Nat} {n_f13 : Nat} {f15 : Nat} {n_f15 : Nat} (hK : ∀ {a k n : Nat}, K a = (k, n) → n < 2147483648) (hn_r0 : K r0 = (6, n_r0)) (hf1 : F r0 0 = some f1) (hn_f1 : K f1 = (8, n_f1)) (hf2 : F r0 1 = some f2) (hf3 : F f1 2 = some f3) (hn_f3 : K f3 = (100, n_f3)) (hn_f2 : K f2 = (2, n_f2)) (hf13 : F f2 3 = some f13) (hn_f13 : K f13 = (100, n_f13)) (hf15 : F f2 4 = some f15) (hn_f15 : K f15 = (100, n_f15)) (H : ((x4 < (I f1 0) → (∃ j4 : Nat, x3 = nI j4 ∧ j4 < n_f3 ∧ Wp d 14 0 [some (.ref f2), some (.int (I f3 j4))] [] (K, P, I, J, F) (xrI K P F (fun v5 I6 J7 => Wp d 59 0 [some (.ref r0), some (.int x3), some (.int (nI 1)), some (.int v5), none] [] (K, P, I6, J7, F) (xrV K P F (fun I8 J9 => Wp (d + 1) 58 29 [some (.ref r0), some (.ref r1), none, some (.int (x3 + nI 1)), none, none] [] (K, P, I8, J9, F) Q)))))) ∧ (¬ x4 < (I f1 0) → Wp d 70 0 [some (.ref f1), some (.int x3), some (.int x4)] [] (K, P, I, J, F) (xrI K P F (fun v10 I11 J12 => (∃ j14 : Nat, x4 = nI j14 ∧ j14 < n_f13 ∧ (∃ j16 : Nat, v10 = nI j16 ∧ j16 < n_f15 ∧ Wp d 59 0 [some (.ref r0), some (.int x3), some (.int x4), some (.int ((I11 f13 j14) + (I11 f15 j16))), none] [] (K, P, I11, J12, F) (xrV K P F (fun I17 J18 => Wp (d + 1) 58 50 [some (.ref r0), some (.ref r1), none, some (.int x3), some (.int (x4 + (-1))), none] [] (K, P, I17, J18, F) Q))))))))) : Wp (d + 1) 58 50 [some (.ref r0), some (.ref r1), none, some (.int x3), some (.int x4), none] [] (K, P, I, J, F) Q := by
  refine Wp.go (x := (.iload 4, 2, 0, 0)) rfl 52 [some (.ref r0), some (.ref r1), none, some (.int x3), some (.int x4), none] [.int x4] rfl ⟨rfl, rfl, rfl, rfl⟩ ?_
  refine Wp.go (x := (.aload_n 0, 1, 0, 0)) rfl 53 [some (.ref r0), some (.ref r1), none, some (.int x3), some (.int x4), none] [.ref r0, .int x4] rfl ⟨rfl, rfl, rfl, rfl⟩ ?_
  refine Wp.gR rfl rfl hn_r0 rfl rfl hf1 ?_
  refine Wp.gI rfl rfl hn_f1 rfl ⟨by decide, by decide⟩ ?_
  refine Wp.c_lt rfl rfl ⟨fun c => ?_, fun c => ?_⟩
  · have H := H.1 c
    refine Wp.go (x := (.aload_n 0, 1, 0, 0)) rfl 109 [some (.ref r0), some (.ref r1), none, some (.int x3), some (.int x4), none] [.ref r0] rfl ⟨rfl, rfl, rfl, rfl⟩ ?_
    refine Wp.go (x := (.iload_n 3, 1, 0, 0)) rfl 110 [some (.ref r0), some (.ref r1), none, some (.int x3), some (.int x4), none] [.int x3, .ref r0] rfl ⟨rfl, rfl, rfl, rfl⟩ ?_
    refine Wp.ic (v := nI 1) rfl rfl (by decide) ?_
    refine Wp.go (x := (.aload_n 0, 1, 0, 0)) rfl 112 [some (.ref r0), some (.ref r1), none, some (.int x3), some (.int x4), none] [.ref r0, .int (nI 1), .int x3, .ref r0] rfl ⟨rfl, rfl, rfl, rfl⟩ ?_
    refine Wp.gR rfl rfl hn_r0 rfl rfl hf2 ?_
    refine Wp.go (x := (.aload_n 0, 1, 0, 0)) rfl 116 [some (.ref r0), some (.ref r1), none, some (.int x3), some (.int x4), none] [.ref r0, .ref f2, .int (nI 1), .int x3, .ref r0] rfl ⟨rfl, rfl, rfl, rfl⟩ ?_
    refine Wp.gR rfl rfl hn_r0 rfl rfl hf1 ?_
    refine Wp.gR rfl rfl hn_f1 rfl rfl hf3 ?_
    refine Wp.go (x := (.iload_n 3, 1, 0, 0)) rfl 123 [some (.ref r0), some (.ref r1), none, some (.int x3), some (.int x4), none] [.int x3, .ref f3, .ref f2, .int (nI 1), .int x3, .ref r0] rfl ⟨rfl, rfl, rfl, rfl⟩ ?_
    obtain ⟨j4, e, b, H⟩ := H
    refine Wp.ald rfl rfl hn_f3 (Or.inl rfl) (hK hn_f3) ⟨j4, e, b, ?_⟩
    refine Wp.kI (x := (.invokevirtual 69, 3, 14, 2)) (j := 14) (vs := [.ref f2, .int (I f3 j4)]) (rest := [.int (nI 1), .int x3, .ref r0]) rfl (by show xtg 14 (K f2).1 = _; rw [hn_f2]; rfl) rfl ⟨Nat.le_of_ble_eq_true rfl, Nat.le_of_ble_eq_true rfl, Nat.le_of_ble_eq_true rfl⟩ rfl rfl rfl H (fun v5 I6 J7 H => ?_)
    refine Wp.kV (x := (.invokevirtual 62, 3, 59, 4)) (j := 59) (vs := [.ref r0, .int x3, .int (nI 1), .int v5]) (rest := []) rfl (by show xtg 59 (K r0).1 = _; rw [hn_r0]; rfl) rfl ⟨Nat.le_of_ble_eq_true rfl, Nat.le_of_ble_eq_true rfl, Nat.le_of_ble_eq_true rfl⟩ rfl rfl rfl H (fun I8 J9 H => ?_)
    refine Wp.ii (v := nI 1) rfl rfl (by decide) rfl (L' := [some (.ref r0), some (.ref r1), none, some (.int (x3 + nI 1)), some (.int x4), none]) rfl ?_
    refine Wp.go (x := (.goto (-104), 3, 29, 0)) rfl 29 [some (.ref r0), some (.ref r1), none, some (.int (x3 + nI 1)), some (.int x4), none] [] rfl ⟨rfl, rfl, rfl, rfl⟩ ?_
    exact Wp.wk (L := [some (.ref r0), some (.ref r1), none, some (.int (x3 + nI 1)), none, none]) ⟨Or.inr rfl, Or.inr rfl, Or.inr rfl, Or.inr rfl, Or.inl rfl, Or.inr rfl, trivial⟩ H
  · have H := H.2 c
    refine Wp.go (x := (.aload_n 0, 1, 0, 0)) rfl 63 [some (.ref r0), some (.ref r1), none, some (.int x3), some (.int x4), none] [.ref r0] rfl ⟨rfl, rfl, rfl, rfl⟩ ?_
    refine Wp.gR rfl rfl hn_r0 rfl rfl hf1 ?_
    refine Wp.go (x := (.iload_n 3, 1, 0, 0)) rfl 67 [some (.ref r0), some (.ref r1), none, some (.int x3), some (.int x4), none] [.int x3, .ref f1] rfl ⟨rfl, rfl, rfl, rfl⟩ ?_
    refine Wp.go (x := (.iload 4, 2, 0, 0)) rfl 69 [some (.ref r0), some (.ref r1), none, some (.int x3), some (.int x4), none] [.int x4, .int x3, .ref f1] rfl ⟨rfl, rfl, rfl, rfl⟩ ?_
    refine Wp.kI (x := (.invokevirtual 52, 3, 70, 3)) (j := 70) (vs := [.ref f1, .int x3, .int x4]) (rest := []) rfl (by show xtg 70 (K f1).1 = _; rw [hn_f1]; rfl) rfl ⟨Nat.le_of_ble_eq_true rfl, Nat.le_of_ble_eq_true rfl, Nat.le_of_ble_eq_true rfl⟩ rfl rfl rfl H (fun v10 I11 J12 H => ?_)
    refine Wp.go (x := (.istore 5, 2, 0, 0)) rfl 74 [some (.ref r0), some (.ref r1), none, some (.int x3), some (.int x4), some (.int v10)] [] rfl ⟨rfl, rfl, rfl, rfl⟩ ?_
    refine Wp.go (x := (.aload_n 0, 1, 0, 0)) rfl 75 [some (.ref r0), some (.ref r1), none, some (.int x3), some (.int x4), some (.int v10)] [.ref r0] rfl ⟨rfl, rfl, rfl, rfl⟩ ?_
    refine Wp.go (x := (.iload_n 3, 1, 0, 0)) rfl 76 [some (.ref r0), some (.ref r1), none, some (.int x3), some (.int x4), some (.int v10)] [.int x3, .ref r0] rfl ⟨rfl, rfl, rfl, rfl⟩ ?_
    refine Wp.go (x := (.iload 4, 2, 0, 0)) rfl 78 [some (.ref r0), some (.ref r1), none, some (.int x3), some (.int x4), some (.int v10)] [.int x4, .int x3, .ref r0] rfl ⟨rfl, rfl, rfl, rfl⟩ ?_
    refine Wp.go (x := (.aload_n 0, 1, 0, 0)) rfl 79 [some (.ref r0), some (.ref r1), none, some (.int x3), some (.int x4), some (.int v10)] [.ref r0, .int x4, .int x3, .ref r0] rfl ⟨rfl, rfl, rfl, rfl⟩ ?_
    refine Wp.gR rfl rfl hn_r0 rfl rfl hf2 ?_
    refine Wp.gR rfl rfl hn_f2 rfl rfl hf13 ?_
    refine Wp.go (x := (.iload 4, 2, 0, 0)) rfl 87 [some (.ref r0), some (.ref r1), none, some (.int x3), some (.int x4), some (.int v10)] [.int x4, .ref f13, .int x4, .int x3, .ref r0] rfl ⟨rfl, rfl, rfl, rfl⟩ ?_
    obtain ⟨j14, e, b, H⟩ := H
    refine Wp.ald rfl rfl hn_f13 (Or.inl rfl) (hK hn_f13) ⟨j14, e, b, ?_⟩
    refine Wp.go (x := (.aload_n 0, 1, 0, 0)) rfl 89 [some (.ref r0), some (.ref r1), none, some (.int x3), some (.int x4), some (.int v10)] [.ref r0, .int (I11 f13 j14), .int x4, .int x3, .ref r0] rfl ⟨rfl, rfl, rfl, rfl⟩ ?_
    refine Wp.gR rfl rfl hn_r0 rfl rfl hf2 ?_
    refine Wp.gR rfl rfl hn_f2 rfl rfl hf15 ?_
    refine Wp.go (x := (.iload 5, 2, 0, 0)) rfl 97 [some (.ref r0), some (.ref r1), none, some (.int x3), some (.int x4), some (.int v10)] [.int v10, .ref f15, .int (I11 f13 j14), .int x4, .int x3, .ref r0] rfl ⟨rfl, rfl, rfl, rfl⟩ ?_
    obtain ⟨j16, e, b, H⟩ := H
    refine Wp.ald rfl rfl hn_f15 (Or.inl rfl) (hK hn_f15) ⟨j16, e, b, ?_⟩
    refine Wp.go (x := (.iadd, 1, 0, 0)) rfl 99 [some (.ref r0), some (.ref r1), none, some (.int x3), some (.int x4), some (.int v10)] [.int ((I11 f13 j14) + (I11 f15 j16)), .int x4, .int x3, .ref r0] rfl ⟨rfl, rfl, rfl, rfl⟩ ?_
    refine Wp.kV (x := (.invokevirtual 62, 3, 59, 4)) (j := 59) (vs := [.ref r0, .int x3, .int x4, .int ((I11 f13 j14) + (I11 f15 j16))]) (rest := []) rfl (by show xtg 59 (K r0).1 = _; rw [hn_r0]; rfl) rfl ⟨Nat.le_of_ble_eq_true rfl, Nat.le_of_ble_eq_true rfl, Nat.le_of_ble_eq_true rfl⟩ rfl rfl rfl H (fun I17 J18 H => ?_)
    refine Wp.ii (v := (-1)) rfl rfl (by decide) rfl (L' := [some (.ref r0), some (.ref r1), none, some (.int x3), some (.int (x4 + (-1))), some (.int v10)]) rfl ?_
    refine Wp.go (x := (.goto (-55), 3, 50, 0)) rfl 50 [some (.ref r0), some (.ref r1), none, some (.int x3), some (.int (x4 + (-1))), some (.int v10)] [] rfl ⟨rfl, rfl, rfl, rfl⟩ ?_
    exact Wp.wk (L := [some (.ref r0), some (.ref r1), none, some (.int x3), some (.int (x4 + (-1))), none]) ⟨Or.inr rfl, Or.inr rfl, Or.inr rfl, Or.inr rfl, Or.inr rfl, Or.inl rfl, trivial⟩ H
set_option maxRecDepth 20000 in
theorem wX7_lead_0 {d : Nat} {Q : Option Value × xS → Prop} {K : Nat → Nat × Nat} {P : List Nat × Nat × Nat} {I : Nat → Nat → Int32} {J : Nat → Nat → Int64} {F : Nat → Nat → Option Nat} {r0 : Nat} {x1 : Int32} {x2 : Int32} {x3 : Int32} {n_r0 : Nat} {f1 : Nat} {n_f1 : Nat} {f5 : Nat} {n_f5 : Nat} (hK : ∀ {a k n : Nat}, K a = (k, n) → n < 2147483648) (hn_r0 : K r0 = (6, n_r0)) (hf1 : F r0 2 = some f1) (hn_f1 : K f1 = (100, n_f1)) (hf5 : F r0 3 = some f5) (hn_f5 : K f5 = (100, n_f5)) (H : (∃ j2 : Nat, x1 = nI j2 ∧ j2 < n_f1 ∧ (∃ j3 : Nat, (x1 + x2) = nI j3 ∧ j3 < n_f1 ∧ (((I f1 j3) ≤ ((I f1 j2) + x3) → Q (none, (K, P, I, J, F))) ∧ (¬ (I f1 j3) ≤ ((I f1 j2) + x3) → (∃ j4 : Nat, (x1 + x2) = nI j4 ∧ j4 < n_f1 ∧ (∃ j6 : Nat, (x1 + x2) = nI j6 ∧ j6 < n_f5 ∧ Q (none, (K, P, (xup ((xup I f1 j4 ((I f1 j2) + x3))) f5 j6 x2), J, F))))))))) : Wp d 59 0 [some (.ref r0), some (.int x1), some (.int x2), some (.int x3), none] [] (K, P, I, J, F) Q := by
  refine Wp.go (x := (.aload_n 0, 1, 0, 0)) rfl 1 [some (.ref r0), some (.int x1), some (.int x2), some (.int x3), none] [.ref r0] rfl ⟨rfl, rfl, rfl, rfl⟩ ?_
  refine Wp.gR rfl rfl hn_r0 rfl rfl hf1 ?_
  refine Wp.go (x := (.iload_n 1, 1, 0, 0)) rfl 5 [some (.ref r0), some (.int x1), some (.int x2), some (.int x3), none] [.int x1, .ref f1] rfl ⟨rfl, rfl, rfl, rfl⟩ ?_
  obtain ⟨j2, e, b, H⟩ := H
  refine Wp.ald rfl rfl hn_f1 (Or.inl rfl) (hK hn_f1) ⟨j2, e, b, ?_⟩
  refine Wp.go (x := (.iload_n 3, 1, 0, 0)) rfl 7 [some (.ref r0), some (.int x1), some (.int x2), some (.int x3), none] [.int x3, .int (I f1 j2)] rfl ⟨rfl, rfl, rfl, rfl⟩ ?_
  refine Wp.go (x := (.iadd, 1, 0, 0)) rfl 8 [some (.ref r0), some (.int x1), some (.int x2), some (.int x3), none] [.int ((I f1 j2) + x3)] rfl ⟨rfl, rfl, rfl, rfl⟩ ?_
  refine Wp.go (x := (.istore 4, 2, 0, 0)) rfl 10 [some (.ref r0), some (.int x1), some (.int x2), some (.int x3), some (.int ((I f1 j2) + x3))] [] rfl ⟨rfl, rfl, rfl, rfl⟩ ?_
  refine Wp.go (x := (.iload 4, 2, 0, 0)) rfl 12 [some (.ref r0), some (.int x1), some (.int x2), some (.int x3), some (.int ((I f1 j2) + x3))] [.int ((I f1 j2) + x3)] rfl ⟨rfl, rfl, rfl, rfl⟩ ?_
  refine Wp.go (x := (.aload_n 0, 1, 0, 0)) rfl 13 [some (.ref r0), some (.int x1), some (.int x2), some (.int x3), some (.int ((I f1 j2) + x3))] [.ref r0, .int ((I f1 j2) + x3)] rfl ⟨rfl, rfl, rfl, rfl⟩ ?_
  refine Wp.gR rfl rfl hn_r0 rfl rfl hf1 ?_
  refine Wp.go (x := (.iload_n 1, 1, 0, 0)) rfl 17 [some (.ref r0), some (.int x1), some (.int x2), some (.int x3), some (.int ((I f1 j2) + x3))] [.int x1, .ref f1, .int ((I f1 j2) + x3)] rfl ⟨rfl, rfl, rfl, rfl⟩ ?_
  refine Wp.go (x := (.iload_n 2, 1, 0, 0)) rfl 18 [some (.ref r0), some (.int x1), some (.int x2), some (.int x3), some (.int ((I f1 j2) + x3))] [.int x2, .int x1, .ref f1, .int ((I f1 j2) + x3)] rfl ⟨rfl, rfl, rfl, rfl⟩ ?_
  refine Wp.go (x := (.iadd, 1, 0, 0)) rfl 19 [some (.ref r0), some (.int x1), some (.int x2), some (.int x3), some (.int ((I f1 j2) + x3))] [.int (x1 + x2), .ref f1, .int ((I f1 j2) + x3)] rfl ⟨rfl, rfl, rfl, rfl⟩ ?_
  obtain ⟨j3, e, b, H⟩ := H
  refine Wp.ald rfl rfl hn_f1 (Or.inl rfl) (hK hn_f1) ⟨j3, e, b, ?_⟩
  refine Wp.c_ge rfl rfl ⟨fun c => ?_, fun c => ?_⟩
  · have H := H.1 c
    exact Wp.rV rfl rfl H
  · have H := H.2 c
    refine Wp.go (x := (.aload_n 0, 1, 0, 0)) rfl 24 [some (.ref r0), some (.int x1), some (.int x2), some (.int x3), some (.int ((I f1 j2) + x3))] [.ref r0] rfl ⟨rfl, rfl, rfl, rfl⟩ ?_
    refine Wp.gR rfl rfl hn_r0 rfl rfl hf1 ?_
    refine Wp.go (x := (.iload_n 1, 1, 0, 0)) rfl 28 [some (.ref r0), some (.int x1), some (.int x2), some (.int x3), some (.int ((I f1 j2) + x3))] [.int x1, .ref f1] rfl ⟨rfl, rfl, rfl, rfl⟩ ?_
    refine Wp.go (x := (.iload_n 2, 1, 0, 0)) rfl 29 [some (.ref r0), some (.int x1), some (.int x2), some (.int x3), some (.int ((I f1 j2) + x3))] [.int x2, .int x1, .ref f1] rfl ⟨rfl, rfl, rfl, rfl⟩ ?_
    refine Wp.go (x := (.iadd, 1, 0, 0)) rfl 30 [some (.ref r0), some (.int x1), some (.int x2), some (.int x3), some (.int ((I f1 j2) + x3))] [.int (x1 + x2), .ref f1] rfl ⟨rfl, rfl, rfl, rfl⟩ ?_
    refine Wp.go (x := (.iload 4, 2, 0, 0)) rfl 32 [some (.ref r0), some (.int x1), some (.int x2), some (.int x3), some (.int ((I f1 j2) + x3))] [.int ((I f1 j2) + x3), .int (x1 + x2), .ref f1] rfl ⟨rfl, rfl, rfl, rfl⟩ ?_
    obtain ⟨j4, e, b, H⟩ := H
    refine Wp.ast rfl rfl hn_f1 (hK hn_f1) ⟨j4, e, b, ?_⟩
    refine Wp.go (x := (.aload_n 0, 1, 0, 0)) rfl 34 [some (.ref r0), some (.int x1), some (.int x2), some (.int x3), some (.int ((I f1 j2) + x3))] [.ref r0] rfl ⟨rfl, rfl, rfl, rfl⟩ ?_
    refine Wp.gR rfl rfl hn_r0 rfl rfl hf5 ?_
    refine Wp.go (x := (.iload_n 1, 1, 0, 0)) rfl 38 [some (.ref r0), some (.int x1), some (.int x2), some (.int x3), some (.int ((I f1 j2) + x3))] [.int x1, .ref f5] rfl ⟨rfl, rfl, rfl, rfl⟩ ?_
    refine Wp.go (x := (.iload_n 2, 1, 0, 0)) rfl 39 [some (.ref r0), some (.int x1), some (.int x2), some (.int x3), some (.int ((I f1 j2) + x3))] [.int x2, .int x1, .ref f5] rfl ⟨rfl, rfl, rfl, rfl⟩ ?_
    refine Wp.go (x := (.iadd, 1, 0, 0)) rfl 40 [some (.ref r0), some (.int x1), some (.int x2), some (.int x3), some (.int ((I f1 j2) + x3))] [.int (x1 + x2), .ref f5] rfl ⟨rfl, rfl, rfl, rfl⟩ ?_
    refine Wp.go (x := (.iload_n 2, 1, 0, 0)) rfl 41 [some (.ref r0), some (.int x1), some (.int x2), some (.int x3), some (.int ((I f1 j2) + x3))] [.int x2, .int (x1 + x2), .ref f5] rfl ⟨rfl, rfl, rfl, rfl⟩ ?_
    obtain ⟨j6, e, b, H⟩ := H
    refine Wp.ast rfl rfl hn_f5 (hK hn_f5) ⟨j6, e, b, ?_⟩
    exact Wp.rV rfl rfl H
set_option maxRecDepth 20000 in
theorem wX7_tellSteps_0 {d : Nat} {Q : Option Value × xS → Prop} {K : Nat → Nat × Nat} {P : List Nat × Nat × Nat} {I : Nat → Nat → Int32} {J : Nat → Nat → Int64} {F : Nat → Nat → Option Nat} {r0 : Nat} {r1 : Nat} {n_r1 : Nat} {n_r0 : Nat} {f3 : Nat} {n_f3 : Nat} (hn_r1 : K r1 = (5, n_r1)) (hn_r0 : K r0 = (6, n_r0)) (hf3 : F r0 0 = some f3) (hn_f3 : K f3 = (8, n_f3)) (H : Wp d 51 0 [some (.ref r1)] [] (K, P, I, J, F) (xrV K P F (fun I1 J2 => Wp (d + 1) 60 12 [some (.ref r0), some (.ref r1), some (.int (I1 f3 3)), none] [] (K, P, I1, J2, F) Q))) : Wp (d + 1) 60 0 [some (.ref r0), some (.ref r1), none, none] [] (K, P, I, J, F) Q := by
  refine Wp.go (x := (.aload_n 1, 1, 0, 0)) rfl 1 [some (.ref r0), some (.ref r1), none, none] [.ref r1] rfl ⟨rfl, rfl, rfl, rfl⟩ ?_
  refine Wp.kV (x := (.invokevirtual 76, 3, 51, 1)) (j := 51) (vs := [.ref r1]) (rest := []) rfl (by show xtg 51 (K r1).1 = _; rw [hn_r1]; rfl) rfl ⟨Nat.le_of_ble_eq_true rfl, Nat.le_of_ble_eq_true rfl, Nat.le_of_ble_eq_true rfl⟩ rfl rfl rfl H (fun I1 J2 H => ?_)
  refine Wp.go (x := (.aload_n 0, 1, 0, 0)) rfl 5 [some (.ref r0), some (.ref r1), none, none] [.ref r0] rfl ⟨rfl, rfl, rfl, rfl⟩ ?_
  refine Wp.gR rfl rfl hn_r0 rfl rfl hf3 ?_
  refine Wp.gI rfl rfl hn_f3 rfl ⟨by decide, by decide⟩ ?_
  refine Wp.go (x := (.istore_n 2, 1, 0, 0)) rfl 12 [some (.ref r0), some (.ref r1), some (.int (I1 f3 3)), none] [] rfl ⟨rfl, rfl, rfl, rfl⟩ ?_
  exact H
set_option maxRecDepth 20000 in
theorem wX7_tellSteps_12 {d : Nat} {Q : Option Value × xS → Prop} {K : Nat → Nat × Nat} {P : List Nat × Nat × Nat} {I : Nat → Nat → Int32} {J : Nat → Nat → Int64} {F : Nat → Nat → Option Nat} {r0 : Nat} {r1 : Nat} {x2 : Int32} {n_r1 : Nat} {n_r0 : Nat} {f3 : Nat} {n_f3 : Nat} {f5 : Nat} {n_f5 : Nat} (hK : ∀ {a k n : Nat}, K a = (k, n) → n < 2147483648) (hn_r1 : K r1 = (5, n_r1)) (hn_r0 : K r0 = (6, n_r0)) (hf3 : F r0 3 = some f3) (hn_f3 : K f3 = (100, n_f3)) (hf5 : F r0 0 = some f5) (hn_f5 : K f5 = (8, n_f5)) (H : ((x2 ≤ 0 → Wp d 53 0 [some (.ref r1), none, none] [] (K, P, I, J, F) (xrV K P F (fun I1 J2 => Q (none, (K, P, I1, J2, F))))) ∧ (¬ x2 ≤ 0 → (∃ j4 : Nat, x2 = nI j4 ∧ j4 < n_f3 ∧ ((¬ (if (nI 1) < (I f3 j4) then (I f3 j4) else (nI 1)) = (nI 1) → Wp d 70 0 [some (.ref f5), some (.int (x2 - (if (nI 1) < (I f3 j4) then (I f3 j4) else (nI 1)))), some (.int (if (nI 1) < (I f3 j4) then (I f3 j4) else (nI 1)))] [] (K, P, I, J, F) (xrI K P F (fun v6 I7 J8 => Wp d 52 0 [some (.ref r1), some (.int (nI 1)), some (.int (x2 - (if (nI 1) < (I f3 j4) then (I f3 j4) else (nI 1)))), some (.int (if (nI 1) < (I f3 j4) then (I f3 j4) else (nI 1))), some (.int v6)] [] (K, P, I7, J8, F) (xrV K P F (fun I9 J10 => Wp (d + 1) 60 12 [some (.ref r0), some (.ref r1), some (.int (x2 - (if (nI 1) < (I f3 j4) then (I f3 j4) else (nI 1)))), none] [] (K, P, I9, J10, F) Q))))) ∧ ((if (nI 1) < (I f3 j4) then (I f3 j4) else (nI 1)) = (nI 1) → Wp d 52 0 [some (.ref r1), some (.int (nI 0)), some (.int (x2 - (if (nI 1) < (I f3 j4) then (I f3 j4) else (nI 1)))), some (.int (nI 1)), some (.int (nI 0))] [] (K, P, I, J, F) (xrV K P F (fun I11 J12 => Wp (d + 1) 60 12 [some (.ref r0), some (.ref r1), some (.int (x2 - (if (nI 1) < (I f3 j4) then (I f3 j4) else (nI 1)))), none] [] (K, P, I11, J12, F) Q)))))))) : Wp (d + 1) 60 12 [some (.ref r0), some (.ref r1), some (.int x2), none] [] (K, P, I, J, F) Q := by
  refine Wp.go (x := (.iload_n 2, 1, 0, 0)) rfl 13 [some (.ref r0), some (.ref r1), some (.int x2), none] [.int x2] rfl ⟨rfl, rfl, rfl, rfl⟩ ?_
  refine Wp.z_le rfl rfl ⟨fun c => ?_, fun c => ?_⟩
  · have H := H.1 c
    refine Wp.go (x := (.aload_n 1, 1, 0, 0)) rfl 67 [some (.ref r0), some (.ref r1), some (.int x2), none] [.ref r1] rfl ⟨rfl, rfl, rfl, rfl⟩ ?_
    refine Wp.kV (x := (.invokevirtual 91, 3, 53, 1)) (j := 53) (vs := [.ref r1]) (rest := []) rfl (by show xtg 53 (K r1).1 = _; rw [hn_r1]; rfl) rfl ⟨Nat.le_of_ble_eq_true rfl, Nat.le_of_ble_eq_true rfl, Nat.le_of_ble_eq_true rfl⟩ rfl rfl rfl H (fun I1 J2 H => ?_)
    exact Wp.rV rfl rfl H
  · have H := H.2 c
    refine Wp.ic (v := nI 1) rfl rfl (by decide) ?_
    refine Wp.go (x := (.aload_n 0, 1, 0, 0)) rfl 18 [some (.ref r0), some (.ref r1), some (.int x2), none] [.ref r0, .int (nI 1)] rfl ⟨rfl, rfl, rfl, rfl⟩ ?_
    refine Wp.gR rfl rfl hn_r0 rfl rfl hf3 ?_
    refine Wp.go (x := (.iload_n 2, 1, 0, 0)) rfl 22 [some (.ref r0), some (.ref r1), some (.int x2), none] [.int x2, .ref f3, .int (nI 1)] rfl ⟨rfl, rfl, rfl, rfl⟩ ?_
    obtain ⟨j4, e, b, H⟩ := H
    refine Wp.ald rfl rfl hn_f3 (Or.inl rfl) (hK hn_f3) ⟨j4, e, b, ?_⟩
    refine Wp.max rfl rfl (by omega) (Nat.le_of_ble_eq_true rfl) ?_
    refine Wp.go (x := (.istore_n 3, 1, 0, 0)) rfl 27 [some (.ref r0), some (.ref r1), some (.int x2), some (.int (if (nI 1) < (I f3 j4) then (I f3 j4) else (nI 1)))] [] rfl ⟨rfl, rfl, rfl, rfl⟩ ?_
    refine Wp.go (x := (.iload_n 2, 1, 0, 0)) rfl 28 [some (.ref r0), some (.ref r1), some (.int x2), some (.int (if (nI 1) < (I f3 j4) then (I f3 j4) else (nI 1)))] [.int x2] rfl ⟨rfl, rfl, rfl, rfl⟩ ?_
    refine Wp.go (x := (.iload_n 3, 1, 0, 0)) rfl 29 [some (.ref r0), some (.ref r1), some (.int x2), some (.int (if (nI 1) < (I f3 j4) then (I f3 j4) else (nI 1)))] [.int (if (nI 1) < (I f3 j4) then (I f3 j4) else (nI 1)), .int x2] rfl ⟨rfl, rfl, rfl, rfl⟩ ?_
    refine Wp.go (x := (.isub, 1, 0, 0)) rfl 30 [some (.ref r0), some (.ref r1), some (.int x2), some (.int (if (nI 1) < (I f3 j4) then (I f3 j4) else (nI 1)))] [.int (x2 - (if (nI 1) < (I f3 j4) then (I f3 j4) else (nI 1)))] rfl ⟨rfl, rfl, rfl, rfl⟩ ?_
    refine Wp.go (x := (.istore_n 2, 1, 0, 0)) rfl 31 [some (.ref r0), some (.ref r1), some (.int (x2 - (if (nI 1) < (I f3 j4) then (I f3 j4) else (nI 1)))), some (.int (if (nI 1) < (I f3 j4) then (I f3 j4) else (nI 1)))] [] rfl ⟨rfl, rfl, rfl, rfl⟩ ?_
    refine Wp.go (x := (.iload_n 3, 1, 0, 0)) rfl 32 [some (.ref r0), some (.ref r1), some (.int (x2 - (if (nI 1) < (I f3 j4) then (I f3 j4) else (nI 1)))), some (.int (if (nI 1) < (I f3 j4) then (I f3 j4) else (nI 1)))] [.int (if (nI 1) < (I f3 j4) then (I f3 j4) else (nI 1))] rfl ⟨rfl, rfl, rfl, rfl⟩ ?_
    refine Wp.ic (v := nI 1) rfl rfl (by decide) ?_
    refine Wp.c_ne rfl rfl ⟨fun c => ?_, fun c => ?_⟩
    · have H := H.1 c
      refine Wp.go (x := (.aload_n 1, 1, 0, 0)) rfl 48 [some (.ref r0), some (.ref r1), some (.int (x2 - (if (nI 1) < (I f3 j4) then (I f3 j4) else (nI 1)))), some (.int (if (nI 1) < (I f3 j4) then (I f3 j4) else (nI 1)))] [.ref r1] rfl ⟨rfl, rfl, rfl, rfl⟩ ?_
      refine Wp.ic (v := nI 1) rfl rfl (by decide) ?_
      refine Wp.go (x := (.iload_n 2, 1, 0, 0)) rfl 50 [some (.ref r0), some (.ref r1), some (.int (x2 - (if (nI 1) < (I f3 j4) then (I f3 j4) else (nI 1)))), some (.int (if (nI 1) < (I f3 j4) then (I f3 j4) else (nI 1)))] [.int (x2 - (if (nI 1) < (I f3 j4) then (I f3 j4) else (nI 1))), .int (nI 1), .ref r1] rfl ⟨rfl, rfl, rfl, rfl⟩ ?_
      refine Wp.go (x := (.iload_n 3, 1, 0, 0)) rfl 51 [some (.ref r0), some (.ref r1), some (.int (x2 - (if (nI 1) < (I f3 j4) then (I f3 j4) else (nI 1)))), some (.int (if (nI 1) < (I f3 j4) then (I f3 j4) else (nI 1)))] [.int (if (nI 1) < (I f3 j4) then (I f3 j4) else (nI 1)), .int (x2 - (if (nI 1) < (I f3 j4) then (I f3 j4) else (nI 1))), .int (nI 1), .ref r1] rfl ⟨rfl, rfl, rfl, rfl⟩ ?_
      refine Wp.go (x := (.aload_n 0, 1, 0, 0)) rfl 52 [some (.ref r0), some (.ref r1), some (.int (x2 - (if (nI 1) < (I f3 j4) then (I f3 j4) else (nI 1)))), some (.int (if (nI 1) < (I f3 j4) then (I f3 j4) else (nI 1)))] [.ref r0, .int (if (nI 1) < (I f3 j4) then (I f3 j4) else (nI 1)), .int (x2 - (if (nI 1) < (I f3 j4) then (I f3 j4) else (nI 1))), .int (nI 1), .ref r1] rfl ⟨rfl, rfl, rfl, rfl⟩ ?_
      refine Wp.gR rfl rfl hn_r0 rfl rfl hf5 ?_
      refine Wp.go (x := (.iload_n 2, 1, 0, 0)) rfl 56 [some (.ref r0), some (.ref r1), some (.int (x2 - (if (nI 1) < (I f3 j4) then (I f3 j4) else (nI 1)))), some (.int (if (nI 1) < (I f3 j4) then (I f3 j4) else (nI 1)))] [.int (x2 - (if (nI 1) < (I f3 j4) then (I f3 j4) else (nI 1))), .ref f5, .int (if (nI 1) < (I f3 j4) then (I f3 j4) else (nI 1)), .int (x2 - (if (nI 1) < (I f3 j4) then (I f3 j4) else (nI 1))), .int (nI 1), .ref r1] rfl ⟨rfl, rfl, rfl, rfl⟩ ?_
      refine Wp.go (x := (.iload_n 3, 1, 0, 0)) rfl 57 [some (.ref r0), some (.ref r1), some (.int (x2 - (if (nI 1) < (I f3 j4) then (I f3 j4) else (nI 1)))), some (.int (if (nI 1) < (I f3 j4) then (I f3 j4) else (nI 1)))] [.int (if (nI 1) < (I f3 j4) then (I f3 j4) else (nI 1)), .int (x2 - (if (nI 1) < (I f3 j4) then (I f3 j4) else (nI 1))), .ref f5, .int (if (nI 1) < (I f3 j4) then (I f3 j4) else (nI 1)), .int (x2 - (if (nI 1) < (I f3 j4) then (I f3 j4) else (nI 1))), .int (nI 1), .ref r1] rfl ⟨rfl, rfl, rfl, rfl⟩ ?_
      refine Wp.kI (x := (.invokevirtual 52, 3, 70, 3)) (j := 70) (vs := [.ref f5, .int (x2 - (if (nI 1) < (I f3 j4) then (I f3 j4) else (nI 1))), .int (if (nI 1) < (I f3 j4) then (I f3 j4) else (nI 1))]) (rest := [.int (if (nI 1) < (I f3 j4) then (I f3 j4) else (nI 1)), .int (x2 - (if (nI 1) < (I f3 j4) then (I f3 j4) else (nI 1))), .int (nI 1), .ref r1]) rfl (by show xtg 70 (K f5).1 = _; rw [hn_f5]; rfl) rfl ⟨Nat.le_of_ble_eq_true rfl, Nat.le_of_ble_eq_true rfl, Nat.le_of_ble_eq_true rfl⟩ rfl rfl rfl H (fun v6 I7 J8 H => ?_)
      refine Wp.kV (x := (.invokevirtual 87, 3, 52, 5)) (j := 52) (vs := [.ref r1, .int (nI 1), .int (x2 - (if (nI 1) < (I f3 j4) then (I f3 j4) else (nI 1))), .int (if (nI 1) < (I f3 j4) then (I f3 j4) else (nI 1)), .int v6]) (rest := []) rfl (by show xtg 52 (K r1).1 = _; rw [hn_r1]; rfl) rfl ⟨Nat.le_of_ble_eq_true rfl, Nat.le_of_ble_eq_true rfl, Nat.le_of_ble_eq_true rfl⟩ rfl rfl rfl H (fun I9 J10 H => ?_)
      refine Wp.go (x := (.goto (-51), 3, 12, 0)) rfl 12 [some (.ref r0), some (.ref r1), some (.int (x2 - (if (nI 1) < (I f3 j4) then (I f3 j4) else (nI 1)))), some (.int (if (nI 1) < (I f3 j4) then (I f3 j4) else (nI 1)))] [] rfl ⟨rfl, rfl, rfl, rfl⟩ ?_
      exact Wp.wk (L := [some (.ref r0), some (.ref r1), some (.int (x2 - (if (nI 1) < (I f3 j4) then (I f3 j4) else (nI 1)))), none]) ⟨Or.inr rfl, Or.inr rfl, Or.inr rfl, Or.inl rfl, trivial⟩ H
    · have H := H.2 c
      refine Wp.go (x := (.aload_n 1, 1, 0, 0)) rfl 37 [some (.ref r0), some (.ref r1), some (.int (x2 - (if (nI 1) < (I f3 j4) then (I f3 j4) else (nI 1)))), some (.int (if (nI 1) < (I f3 j4) then (I f3 j4) else (nI 1)))] [.ref r1] rfl ⟨rfl, rfl, rfl, rfl⟩ ?_
      refine Wp.ic (v := nI 0) rfl rfl (by decide) ?_
      refine Wp.go (x := (.iload_n 2, 1, 0, 0)) rfl 39 [some (.ref r0), some (.ref r1), some (.int (x2 - (if (nI 1) < (I f3 j4) then (I f3 j4) else (nI 1)))), some (.int (if (nI 1) < (I f3 j4) then (I f3 j4) else (nI 1)))] [.int (x2 - (if (nI 1) < (I f3 j4) then (I f3 j4) else (nI 1))), .int (nI 0), .ref r1] rfl ⟨rfl, rfl, rfl, rfl⟩ ?_
      refine Wp.ic (v := nI 1) rfl rfl (by decide) ?_
      refine Wp.ic (v := nI 0) rfl rfl (by decide) ?_
      refine Wp.kV (x := (.invokevirtual 87, 3, 52, 5)) (j := 52) (vs := [.ref r1, .int (nI 0), .int (x2 - (if (nI 1) < (I f3 j4) then (I f3 j4) else (nI 1))), .int (nI 1), .int (nI 0)]) (rest := []) rfl (by show xtg 52 (K r1).1 = _; rw [hn_r1]; rfl) rfl ⟨Nat.le_of_ble_eq_true rfl, Nat.le_of_ble_eq_true rfl, Nat.le_of_ble_eq_true rfl⟩ rfl rfl rfl H (fun I11 J12 H => ?_)
      refine Wp.go (x := (.goto 19, 3, 63, 0)) rfl 63 [some (.ref r0), some (.ref r1), some (.int (x2 - (if (nI 1) < (I f3 j4) then (I f3 j4) else (nI 1)))), some (.int (if (nI 1) < (I f3 j4) then (I f3 j4) else (nI 1)))] [] rfl ⟨rfl, rfl, rfl, rfl⟩ ?_
      refine Wp.go (x := (.goto (-51), 3, 12, 0)) rfl 12 [some (.ref r0), some (.ref r1), some (.int (x2 - (if (nI 1) < (I f3 j4) then (I f3 j4) else (nI 1)))), some (.int (if (nI 1) < (I f3 j4) then (I f3 j4) else (nI 1)))] [] rfl ⟨rfl, rfl, rfl, rfl⟩ ?_
      exact Wp.wk (L := [some (.ref r0), some (.ref r1), some (.int (x2 - (if (nI 1) < (I f3 j4) then (I f3 j4) else (nI 1)))), none]) ⟨Or.inr rfl, Or.inr rfl, Or.inr rfl, Or.inl rfl, trivial⟩ H
set_option maxRecDepth 20000 in
theorem wX8_walk_0 {d : Nat} {Q : Option Value × xS → Prop} {K : Nat → Nat × Nat} {P : List Nat × Nat × Nat} {I : Nat → Nat → Int32} {J : Nat → Nat → Int64} {F : Nat → Nat → Option Nat} {r0 : Nat} {r1 : Nat} {x2 : Int32} {n_r1 : Nat} (hn_r1 : K r1 = (5, n_r1)) (H : Wp d 51 0 [some (.ref r1)] [] (K, P, I, J, F) (xrV K P F (fun I1 J2 => Wp (d + 1) 62 11 [some (.ref r0), some (.ref r1), some (.int x2), some (.long (lN 134480385)), none, some (.int (nI 0)), none, none, none] [] (K, P, I1, J2, F) Q))) : Wp (d + 1) 62 0 [some (.ref r0), some (.ref r1), some (.int x2), none, none, none, none, none, none] [] (K, P, I, J, F) Q := by
  refine Wp.go (x := (.aload_n 1, 1, 0, 0)) rfl 1 [some (.ref r0), some (.ref r1), some (.int x2), none, none, none, none, none, none] [.ref r1] rfl ⟨rfl, rfl, rfl, rfl⟩ ?_
  refine Wp.kV (x := (.invokevirtual 19, 3, 51, 1)) (j := 51) (vs := [.ref r1]) (rest := []) rfl (by show xtg 51 (K r1).1 = _; rw [hn_r1]; rfl) rfl ⟨Nat.le_of_ble_eq_true rfl, Nat.le_of_ble_eq_true rfl, Nat.le_of_ble_eq_true rfl⟩ rfl rfl rfl H (fun I1 J2 H => ?_)
  refine Wp.ldcj (v := lN 134480385) rfl rfl (by first | rfl | decide) ?_
  refine Wp.go (x := (.lstore_n 3, 1, 0, 0)) rfl 8 [some (.ref r0), some (.ref r1), some (.int x2), some (.long (lN 134480385)), none, none, none, none, none] [] rfl ⟨rfl, rfl, rfl, rfl⟩ ?_
  refine Wp.ic (v := nI 0) rfl rfl (by decide) ?_
  refine Wp.go (x := (.istore 5, 2, 0, 0)) rfl 11 [some (.ref r0), some (.ref r1), some (.int x2), some (.long (lN 134480385)), none, some (.int (nI 0)), none, none, none] [] rfl ⟨rfl, rfl, rfl, rfl⟩ ?_
  exact H
set_option maxRecDepth 20000 in
theorem wX8_walk_11 {d : Nat} {Q : Option Value × xS → Prop} {K : Nat → Nat × Nat} {P : List Nat × Nat × Nat} {I : Nat → Nat → Int32} {J : Nat → Nat → Int64} {F : Nat → Nat → Option Nat} {r0 : Nat} {r1 : Nat} {x2 : Int32} {y3 : Int64} {x5 : Int32} {n_r0 : Nat} {f1 : Nat} {n_f1 : Nat} {n_r1 : Nat} (hn_r0 : K r0 = (7, n_r0)) (hf1 : F r0 0 = some f1) (hn_f1 : K f1 = (8, n_f1)) (hn_r1 : K r1 = (5, n_r1)) (H : (((I f1 3) ≤ x5 → Q (none, (K, P, I, J, F))) ∧ (¬ (I f1 3) ≤ x5 → Wp d 69 0 [some (.ref f1), some (.int x5)] [] (K, P, I, J, F) (xrI K P F (fun v2 I3 J4 => ((v2 = 0 → Wp d 52 0 [some (.ref r1), some (.int (nI 0)), some (.int x5), some (.int (nI 1)), some (.int (nI 0))] [] (K, P, I3, J4, F) (xrV K P F (fun I5 J6 => Wp (d + 1) 62 11 [some (.ref r0), some (.ref r1), some (.int x2), some (.long y3), none, some (.int (x5 + nI 1)), none, none, none] [] (K, P, I5, J6, F) Q))) ∧ (¬ v2 = 0 → Wp d 63 0 [some (.ref r0), some (.int x5), some (.int v2), some (.int x2), none] [] (K, P, I3, J4, F) (xrI K P F (fun v7 I8 J9 => ((v7 = 0 → Wp d 64 0 [some (.ref r0), some (.long y3), none, some (.int x5), some (.int v2), none] [] (K, P, I8, J9, F) (xrI K P F (fun v10 I11 J12 => (((nI 4) ≤ v10 → Wp d 70 0 [some (.ref f1), some (.int x5), some (.int v2)] [] (K, P, I11, J12, F) (xrI K P F (fun v13 I14 J15 => Wp d 52 0 [some (.ref r1), some (.int (nI 1)), some (.int x5), some (.int v2), some (.int v13)] [] (K, P, I14, J15, F) (xrV K P F (fun I16 J17 => Wp d 28 0 [some (.long y3), none, some (.int v13)] [] (K, P, I16, J17, F) (xrJ K P F (fun v18 I19 J20 => Wp (d + 1) 62 11 [some (.ref r0), some (.ref r1), some (.int x2), some (.long v18), none, some (.int (x5 + v2)), none, none, none] [] (K, P, I19, J20, F) Q))))))) ∧ (¬ (nI 4) ≤ v10 → Wp d 27 0 [some (.long y3), none, some (.int v10)] [] (K, P, I11, J12, F) (xrI K P F (fun v21 I22 J23 => Wp d 52 0 [some (.ref r1), some (.int ((nI 2) + v10)), some (.int x5), some (.int v2), some (.int v21)] [] (K, P, I22, J23, F) (xrV K P F (fun I24 J25 => Wp d 29 0 [some (.long y3), none, some (.int v10), none, none, none, none, none] [] (K, P, I24, J25, F) (xrJ K P F (fun v26 I27 J28 => Wp (d + 1) 62 11 [some (.ref r0), some (.ref r1), some (.int x2), some (.long v26), none, some (.int (x5 + v2)), none, none, none] [] (K, P, I27, J28, F) Q))))))))))) ∧ (¬ v7 = 0 → Wp d 52 0 [some (.ref r1), some (.int (nI 0)), some (.int x5), some (.int (nI 1)), some (.int (nI 0))] [] (K, P, I8, J9, F) (xrV K P F (fun I29 J30 => Wp (d + 1) 62 11 [some (.ref r0), some (.ref r1), some (.int x2), some (.long y3), none, some (.int (x5 + nI 1)), none, none, none] [] (K, P, I29, J30, F) Q))))))))))))) : Wp (d + 1) 62 11 [some (.ref r0), some (.ref r1), some (.int x2), some (.long y3), none, some (.int x5), none, none, none] [] (K, P, I, J, F) Q := by
  refine Wp.go (x := (.iload 5, 2, 0, 0)) rfl 13 [some (.ref r0), some (.ref r1), some (.int x2), some (.long y3), none, some (.int x5), none, none, none] [.int x5] rfl ⟨rfl, rfl, rfl, rfl⟩ ?_
  refine Wp.go (x := (.aload_n 0, 1, 0, 0)) rfl 14 [some (.ref r0), some (.ref r1), some (.int x2), some (.long y3), none, some (.int x5), none, none, none] [.ref r0, .int x5] rfl ⟨rfl, rfl, rfl, rfl⟩ ?_
  refine Wp.gR rfl rfl hn_r0 rfl rfl hf1 ?_
  refine Wp.gI rfl rfl hn_f1 rfl ⟨by decide, by decide⟩ ?_
  refine Wp.c_ge rfl rfl ⟨fun c => ?_, fun c => ?_⟩
  · have H := H.1 c
    exact Wp.rV rfl rfl H
  · have H := H.2 c
    refine Wp.go (x := (.aload_n 0, 1, 0, 0)) rfl 24 [some (.ref r0), some (.ref r1), some (.int x2), some (.long y3), none, some (.int x5), none, none, none] [.ref r0] rfl ⟨rfl, rfl, rfl, rfl⟩ ?_
    refine Wp.gR rfl rfl hn_r0 rfl rfl hf1 ?_
    refine Wp.go (x := (.iload 5, 2, 0, 0)) rfl 29 [some (.ref r0), some (.ref r1), some (.int x2), some (.long y3), none, some (.int x5), none, none, none] [.int x5, .ref f1] rfl ⟨rfl, rfl, rfl, rfl⟩ ?_
    refine Wp.kI (x := (.invokevirtual 34, 3, 69, 2)) (j := 69) (vs := [.ref f1, .int x5]) (rest := []) rfl (by show xtg 69 (K f1).1 = _; rw [hn_f1]; rfl) rfl ⟨Nat.le_of_ble_eq_true rfl, Nat.le_of_ble_eq_true rfl, Nat.le_of_ble_eq_true rfl⟩ rfl rfl rfl H (fun v2 I3 J4 H => ?_)
    refine Wp.go (x := (.istore 6, 2, 0, 0)) rfl 34 [some (.ref r0), some (.ref r1), some (.int x2), some (.long y3), none, some (.int x5), some (.int v2), none, none] [] rfl ⟨rfl, rfl, rfl, rfl⟩ ?_
    refine Wp.go (x := (.iload 6, 2, 0, 0)) rfl 36 [some (.ref r0), some (.ref r1), some (.int x2), some (.long y3), none, some (.int x5), some (.int v2), none, none] [.int v2] rfl ⟨rfl, rfl, rfl, rfl⟩ ?_
    refine Wp.z_eq rfl rfl ⟨fun c => ?_, fun c => ?_⟩
    · have H := H.1 c
      refine Wp.go (x := (.aload_n 1, 1, 0, 0)) rfl 52 [some (.ref r0), some (.ref r1), some (.int x2), some (.long y3), none, some (.int x5), some (.int v2), none, none] [.ref r1] rfl ⟨rfl, rfl, rfl, rfl⟩ ?_
      refine Wp.ic (v := nI 0) rfl rfl (by decide) ?_
      refine Wp.go (x := (.iload 5, 2, 0, 0)) rfl 55 [some (.ref r0), some (.ref r1), some (.int x2), some (.long y3), none, some (.int x5), some (.int v2), none, none] [.int x5, .int (nI 0), .ref r1] rfl ⟨rfl, rfl, rfl, rfl⟩ ?_
      refine Wp.ic (v := nI 1) rfl rfl (by decide) ?_
      refine Wp.ic (v := nI 0) rfl rfl (by decide) ?_
      refine Wp.kV (x := (.invokevirtual 42, 3, 52, 5)) (j := 52) (vs := [.ref r1, .int (nI 0), .int x5, .int (nI 1), .int (nI 0)]) (rest := []) rfl (by show xtg 52 (K r1).1 = _; rw [hn_r1]; rfl) rfl ⟨Nat.le_of_ble_eq_true rfl, Nat.le_of_ble_eq_true rfl, Nat.le_of_ble_eq_true rfl⟩ rfl rfl rfl H (fun I5 J6 H => ?_)
      refine Wp.ii (v := nI 1) rfl rfl (by decide) rfl (L' := [some (.ref r0), some (.ref r1), some (.int x2), some (.long y3), none, some (.int (x5 + nI 1)), some (.int v2), none, none]) rfl ?_
      refine Wp.go (x := (.goto (-52), 3, 11, 0)) rfl 11 [some (.ref r0), some (.ref r1), some (.int x2), some (.long y3), none, some (.int (x5 + nI 1)), some (.int v2), none, none] [] rfl ⟨rfl, rfl, rfl, rfl⟩ ?_
      exact Wp.wk (L := [some (.ref r0), some (.ref r1), some (.int x2), some (.long y3), none, some (.int (x5 + nI 1)), none, none, none]) ⟨Or.inr rfl, Or.inr rfl, Or.inr rfl, Or.inr rfl, Or.inr rfl, Or.inr rfl, Or.inl rfl, Or.inr rfl, Or.inr rfl, trivial⟩ H
    · have H := H.2 c
      refine Wp.go (x := (.aload_n 0, 1, 0, 0)) rfl 40 [some (.ref r0), some (.ref r1), some (.int x2), some (.long y3), none, some (.int x5), some (.int v2), none, none] [.ref r0] rfl ⟨rfl, rfl, rfl, rfl⟩ ?_
      refine Wp.go (x := (.iload 5, 2, 0, 0)) rfl 42 [some (.ref r0), some (.ref r1), some (.int x2), some (.long y3), none, some (.int x5), some (.int v2), none, none] [.int x5, .ref r0] rfl ⟨rfl, rfl, rfl, rfl⟩ ?_
      refine Wp.go (x := (.iload 6, 2, 0, 0)) rfl 44 [some (.ref r0), some (.ref r1), some (.int x2), some (.long y3), none, some (.int x5), some (.int v2), none, none] [.int v2, .int x5, .ref r0] rfl ⟨rfl, rfl, rfl, rfl⟩ ?_
      refine Wp.go (x := (.iload_n 2, 1, 0, 0)) rfl 45 [some (.ref r0), some (.ref r1), some (.int x2), some (.long y3), none, some (.int x5), some (.int v2), none, none] [.int x2, .int v2, .int x5, .ref r0] rfl ⟨rfl, rfl, rfl, rfl⟩ ?_
      refine Wp.kI (x := (.invokevirtual 38, 3, 63, 4)) (j := 63) (vs := [.ref r0, .int x5, .int v2, .int x2]) (rest := []) rfl (by show xtg 63 (K r0).1 = _; rw [hn_r0]; rfl) rfl ⟨Nat.le_of_ble_eq_true rfl, Nat.le_of_ble_eq_true rfl, Nat.le_of_ble_eq_true rfl⟩ rfl rfl rfl H (fun v7 I8 J9 H => ?_)
      refine Wp.z_eq rfl rfl ⟨fun c => ?_, fun c => ?_⟩
      · have H := H.1 c
        refine Wp.go (x := (.aload_n 0, 1, 0, 0)) rfl 67 [some (.ref r0), some (.ref r1), some (.int x2), some (.long y3), none, some (.int x5), some (.int v2), none, none] [.ref r0] rfl ⟨rfl, rfl, rfl, rfl⟩ ?_
        refine Wp.go (x := (.lload_n 3, 1, 0, 0)) rfl 68 [some (.ref r0), some (.ref r1), some (.int x2), some (.long y3), none, some (.int x5), some (.int v2), none, none] [.long y3, .ref r0] rfl ⟨rfl, rfl, rfl, rfl⟩ ?_
        refine Wp.go (x := (.iload 5, 2, 0, 0)) rfl 70 [some (.ref r0), some (.ref r1), some (.int x2), some (.long y3), none, some (.int x5), some (.int v2), none, none] [.int x5, .long y3, .ref r0] rfl ⟨rfl, rfl, rfl, rfl⟩ ?_
        refine Wp.go (x := (.iload 6, 2, 0, 0)) rfl 72 [some (.ref r0), some (.ref r1), some (.int x2), some (.long y3), none, some (.int x5), some (.int v2), none, none] [.int v2, .int x5, .long y3, .ref r0] rfl ⟨rfl, rfl, rfl, rfl⟩ ?_
        refine Wp.kI (x := (.invokevirtual 46, 3, 64, 4)) (j := 64) (vs := [.ref r0, .long y3, .int x5, .int v2]) (rest := []) rfl (by show xtg 64 (K r0).1 = _; rw [hn_r0]; rfl) rfl ⟨Nat.le_of_ble_eq_true rfl, Nat.le_of_ble_eq_true rfl, Nat.le_of_ble_eq_true rfl⟩ rfl rfl rfl H (fun v10 I11 J12 H => ?_)
        refine Wp.go (x := (.istore 7, 2, 0, 0)) rfl 77 [some (.ref r0), some (.ref r1), some (.int x2), some (.long y3), none, some (.int x5), some (.int v2), some (.int v10), none] [] rfl ⟨rfl, rfl, rfl, rfl⟩ ?_
        refine Wp.go (x := (.iload 7, 2, 0, 0)) rfl 79 [some (.ref r0), some (.ref r1), some (.int x2), some (.long y3), none, some (.int x5), some (.int v2), some (.int v10), none] [.int v10] rfl ⟨rfl, rfl, rfl, rfl⟩ ?_
        refine Wp.ic (v := nI 4) rfl rfl (by decide) ?_
        refine Wp.c_ge rfl rfl ⟨fun c => ?_, fun c => ?_⟩
        · have H := H.1 c
          refine Wp.go (x := (.aload_n 0, 1, 0, 0)) rfl 112 [some (.ref r0), some (.ref r1), some (.int x2), some (.long y3), none, some (.int x5), some (.int v2), some (.int v10), none] [.ref r0] rfl ⟨rfl, rfl, rfl, rfl⟩ ?_
          refine Wp.gR rfl rfl hn_r0 rfl rfl hf1 ?_
          refine Wp.go (x := (.iload 5, 2, 0, 0)) rfl 117 [some (.ref r0), some (.ref r1), some (.int x2), some (.long y3), none, some (.int x5), some (.int v2), some (.int v10), none] [.int x5, .ref f1] rfl ⟨rfl, rfl, rfl, rfl⟩ ?_
          refine Wp.go (x := (.iload 6, 2, 0, 0)) rfl 119 [some (.ref r0), some (.ref r1), some (.int x2), some (.long y3), none, some (.int x5), some (.int v2), some (.int v10), none] [.int v2, .int x5, .ref f1] rfl ⟨rfl, rfl, rfl, rfl⟩ ?_
          refine Wp.kI (x := (.invokevirtual 58, 3, 70, 3)) (j := 70) (vs := [.ref f1, .int x5, .int v2]) (rest := []) rfl (by show xtg 70 (K f1).1 = _; rw [hn_f1]; rfl) rfl ⟨Nat.le_of_ble_eq_true rfl, Nat.le_of_ble_eq_true rfl, Nat.le_of_ble_eq_true rfl⟩ rfl rfl rfl H (fun v13 I14 J15 H => ?_)
          refine Wp.go (x := (.istore 8, 2, 0, 0)) rfl 124 [some (.ref r0), some (.ref r1), some (.int x2), some (.long y3), none, some (.int x5), some (.int v2), some (.int v10), some (.int v13)] [] rfl ⟨rfl, rfl, rfl, rfl⟩ ?_
          refine Wp.go (x := (.aload_n 1, 1, 0, 0)) rfl 125 [some (.ref r0), some (.ref r1), some (.int x2), some (.long y3), none, some (.int x5), some (.int v2), some (.int v10), some (.int v13)] [.ref r1] rfl ⟨rfl, rfl, rfl, rfl⟩ ?_
          refine Wp.ic (v := nI 1) rfl rfl (by decide) ?_
          refine Wp.go (x := (.iload 5, 2, 0, 0)) rfl 128 [some (.ref r0), some (.ref r1), some (.int x2), some (.long y3), none, some (.int x5), some (.int v2), some (.int v10), some (.int v13)] [.int x5, .int (nI 1), .ref r1] rfl ⟨rfl, rfl, rfl, rfl⟩ ?_
          refine Wp.go (x := (.iload 6, 2, 0, 0)) rfl 130 [some (.ref r0), some (.ref r1), some (.int x2), some (.long y3), none, some (.int x5), some (.int v2), some (.int v10), some (.int v13)] [.int v2, .int x5, .int (nI 1), .ref r1] rfl ⟨rfl, rfl, rfl, rfl⟩ ?_
          refine Wp.go (x := (.iload 8, 2, 0, 0)) rfl 132 [some (.ref r0), some (.ref r1), some (.int x2), some (.long y3), none, some (.int x5), some (.int v2), some (.int v10), some (.int v13)] [.int v13, .int v2, .int x5, .int (nI 1), .ref r1] rfl ⟨rfl, rfl, rfl, rfl⟩ ?_
          refine Wp.kV (x := (.invokevirtual 42, 3, 52, 5)) (j := 52) (vs := [.ref r1, .int (nI 1), .int x5, .int v2, .int v13]) (rest := []) rfl (by show xtg 52 (K r1).1 = _; rw [hn_r1]; rfl) rfl ⟨Nat.le_of_ble_eq_true rfl, Nat.le_of_ble_eq_true rfl, Nat.le_of_ble_eq_true rfl⟩ rfl rfl rfl H (fun I16 J17 H => ?_)
          refine Wp.go (x := (.lload_n 3, 1, 0, 0)) rfl 136 [some (.ref r0), some (.ref r1), some (.int x2), some (.long y3), none, some (.int x5), some (.int v2), some (.int v10), some (.int v13)] [.long y3] rfl ⟨rfl, rfl, rfl, rfl⟩ ?_
          refine Wp.go (x := (.iload 8, 2, 0, 0)) rfl 138 [some (.ref r0), some (.ref r1), some (.int x2), some (.long y3), none, some (.int x5), some (.int v2), some (.int v10), some (.int v13)] [.int v13, .long y3] rfl ⟨rfl, rfl, rfl, rfl⟩ ?_
          refine Wp.kJ (x := (.invokestatic 62, 3, 28, 2)) (j := 28) (vs := [.long y3, .int v13]) (rest := []) rfl rfl rfl ⟨Nat.le_of_ble_eq_true rfl, Nat.le_of_ble_eq_true rfl, Nat.le_of_ble_eq_true rfl⟩ rfl rfl rfl H (fun v18 I19 J20 H => ?_)
          refine Wp.go (x := (.lstore_n 3, 1, 0, 0)) rfl 142 [some (.ref r0), some (.ref r1), some (.int x2), some (.long v18), none, some (.int x5), some (.int v2), some (.int v10), some (.int v13)] [] rfl ⟨rfl, rfl, rfl, rfl⟩ ?_
          refine Wp.go (x := (.iload 5, 2, 0, 0)) rfl 144 [some (.ref r0), some (.ref r1), some (.int x2), some (.long v18), none, some (.int x5), some (.int v2), some (.int v10), some (.int v13)] [.int x5] rfl ⟨rfl, rfl, rfl, rfl⟩ ?_
          refine Wp.go (x := (.iload 6, 2, 0, 0)) rfl 146 [some (.ref r0), some (.ref r1), some (.int x2), some (.long v18), none, some (.int x5), some (.int v2), some (.int v10), some (.int v13)] [.int v2, .int x5] rfl ⟨rfl, rfl, rfl, rfl⟩ ?_
          refine Wp.go (x := (.iadd, 1, 0, 0)) rfl 147 [some (.ref r0), some (.ref r1), some (.int x2), some (.long v18), none, some (.int x5), some (.int v2), some (.int v10), some (.int v13)] [.int (x5 + v2)] rfl ⟨rfl, rfl, rfl, rfl⟩ ?_
          refine Wp.go (x := (.istore 5, 2, 0, 0)) rfl 149 [some (.ref r0), some (.ref r1), some (.int x2), some (.long v18), none, some (.int (x5 + v2)), some (.int v2), some (.int v10), some (.int v13)] [] rfl ⟨rfl, rfl, rfl, rfl⟩ ?_
          refine Wp.go (x := (.goto (-138), 3, 11, 0)) rfl 11 [some (.ref r0), some (.ref r1), some (.int x2), some (.long v18), none, some (.int (x5 + v2)), some (.int v2), some (.int v10), some (.int v13)] [] rfl ⟨rfl, rfl, rfl, rfl⟩ ?_
          exact Wp.wk (L := [some (.ref r0), some (.ref r1), some (.int x2), some (.long v18), none, some (.int (x5 + v2)), none, none, none]) ⟨Or.inr rfl, Or.inr rfl, Or.inr rfl, Or.inr rfl, Or.inr rfl, Or.inr rfl, Or.inl rfl, Or.inl rfl, Or.inl rfl, trivial⟩ H
        · have H := H.2 c
          refine Wp.go (x := (.aload_n 1, 1, 0, 0)) rfl 84 [some (.ref r0), some (.ref r1), some (.int x2), some (.long y3), none, some (.int x5), some (.int v2), some (.int v10), none] [.ref r1] rfl ⟨rfl, rfl, rfl, rfl⟩ ?_
          refine Wp.ic (v := nI 2) rfl rfl (by decide) ?_
          refine Wp.go (x := (.iload 7, 2, 0, 0)) rfl 87 [some (.ref r0), some (.ref r1), some (.int x2), some (.long y3), none, some (.int x5), some (.int v2), some (.int v10), none] [.int v10, .int (nI 2), .ref r1] rfl ⟨rfl, rfl, rfl, rfl⟩ ?_
          refine Wp.go (x := (.iadd, 1, 0, 0)) rfl 88 [some (.ref r0), some (.ref r1), some (.int x2), some (.long y3), none, some (.int x5), some (.int v2), some (.int v10), none] [.int ((nI 2) + v10), .ref r1] rfl ⟨rfl, rfl, rfl, rfl⟩ ?_
          refine Wp.go (x := (.iload 5, 2, 0, 0)) rfl 90 [some (.ref r0), some (.ref r1), some (.int x2), some (.long y3), none, some (.int x5), some (.int v2), some (.int v10), none] [.int x5, .int ((nI 2) + v10), .ref r1] rfl ⟨rfl, rfl, rfl, rfl⟩ ?_
          refine Wp.go (x := (.iload 6, 2, 0, 0)) rfl 92 [some (.ref r0), some (.ref r1), some (.int x2), some (.long y3), none, some (.int x5), some (.int v2), some (.int v10), none] [.int v2, .int x5, .int ((nI 2) + v10), .ref r1] rfl ⟨rfl, rfl, rfl, rfl⟩ ?_
          refine Wp.go (x := (.lload_n 3, 1, 0, 0)) rfl 93 [some (.ref r0), some (.ref r1), some (.int x2), some (.long y3), none, some (.int x5), some (.int v2), some (.int v10), none] [.long y3, .int v2, .int x5, .int ((nI 2) + v10), .ref r1] rfl ⟨rfl, rfl, rfl, rfl⟩ ?_
          refine Wp.go (x := (.iload 7, 2, 0, 0)) rfl 95 [some (.ref r0), some (.ref r1), some (.int x2), some (.long y3), none, some (.int x5), some (.int v2), some (.int v10), none] [.int v10, .long y3, .int v2, .int x5, .int ((nI 2) + v10), .ref r1] rfl ⟨rfl, rfl, rfl, rfl⟩ ?_
          refine Wp.kI (x := (.invokestatic 50, 3, 27, 2)) (j := 27) (vs := [.long y3, .int v10]) (rest := [.int v2, .int x5, .int ((nI 2) + v10), .ref r1]) rfl rfl rfl ⟨Nat.le_of_ble_eq_true rfl, Nat.le_of_ble_eq_true rfl, Nat.le_of_ble_eq_true rfl⟩ rfl rfl rfl H (fun v21 I22 J23 H => ?_)
          refine Wp.kV (x := (.invokevirtual 42, 3, 52, 5)) (j := 52) (vs := [.ref r1, .int ((nI 2) + v10), .int x5, .int v2, .int v21]) (rest := []) rfl (by show xtg 52 (K r1).1 = _; rw [hn_r1]; rfl) rfl ⟨Nat.le_of_ble_eq_true rfl, Nat.le_of_ble_eq_true rfl, Nat.le_of_ble_eq_true rfl⟩ rfl rfl rfl H (fun I24 J25 H => ?_)
          refine Wp.go (x := (.lload_n 3, 1, 0, 0)) rfl 102 [some (.ref r0), some (.ref r1), some (.int x2), some (.long y3), none, some (.int x5), some (.int v2), some (.int v10), none] [.long y3] rfl ⟨rfl, rfl, rfl, rfl⟩ ?_
          refine Wp.go (x := (.iload 7, 2, 0, 0)) rfl 104 [some (.ref r0), some (.ref r1), some (.int x2), some (.long y3), none, some (.int x5), some (.int v2), some (.int v10), none] [.int v10, .long y3] rfl ⟨rfl, rfl, rfl, rfl⟩ ?_
          refine Wp.kJ (x := (.invokestatic 54, 3, 29, 2)) (j := 29) (vs := [.long y3, .int v10]) (rest := []) rfl rfl rfl ⟨Nat.le_of_ble_eq_true rfl, Nat.le_of_ble_eq_true rfl, Nat.le_of_ble_eq_true rfl⟩ rfl rfl rfl H (fun v26 I27 J28 H => ?_)
          refine Wp.go (x := (.lstore_n 3, 1, 0, 0)) rfl 108 [some (.ref r0), some (.ref r1), some (.int x2), some (.long v26), none, some (.int x5), some (.int v2), some (.int v10), none] [] rfl ⟨rfl, rfl, rfl, rfl⟩ ?_
          refine Wp.go (x := (.goto 34, 3, 142, 0)) rfl 142 [some (.ref r0), some (.ref r1), some (.int x2), some (.long v26), none, some (.int x5), some (.int v2), some (.int v10), none] [] rfl ⟨rfl, rfl, rfl, rfl⟩ ?_
          refine Wp.go (x := (.iload 5, 2, 0, 0)) rfl 144 [some (.ref r0), some (.ref r1), some (.int x2), some (.long v26), none, some (.int x5), some (.int v2), some (.int v10), none] [.int x5] rfl ⟨rfl, rfl, rfl, rfl⟩ ?_
          refine Wp.go (x := (.iload 6, 2, 0, 0)) rfl 146 [some (.ref r0), some (.ref r1), some (.int x2), some (.long v26), none, some (.int x5), some (.int v2), some (.int v10), none] [.int v2, .int x5] rfl ⟨rfl, rfl, rfl, rfl⟩ ?_
          refine Wp.go (x := (.iadd, 1, 0, 0)) rfl 147 [some (.ref r0), some (.ref r1), some (.int x2), some (.long v26), none, some (.int x5), some (.int v2), some (.int v10), none] [.int (x5 + v2)] rfl ⟨rfl, rfl, rfl, rfl⟩ ?_
          refine Wp.go (x := (.istore 5, 2, 0, 0)) rfl 149 [some (.ref r0), some (.ref r1), some (.int x2), some (.long v26), none, some (.int (x5 + v2)), some (.int v2), some (.int v10), none] [] rfl ⟨rfl, rfl, rfl, rfl⟩ ?_
          refine Wp.go (x := (.goto (-138), 3, 11, 0)) rfl 11 [some (.ref r0), some (.ref r1), some (.int x2), some (.long v26), none, some (.int (x5 + v2)), some (.int v2), some (.int v10), none] [] rfl ⟨rfl, rfl, rfl, rfl⟩ ?_
          exact Wp.wk (L := [some (.ref r0), some (.ref r1), some (.int x2), some (.long v26), none, some (.int (x5 + v2)), none, none, none]) ⟨Or.inr rfl, Or.inr rfl, Or.inr rfl, Or.inr rfl, Or.inr rfl, Or.inr rfl, Or.inl rfl, Or.inl rfl, Or.inr rfl, trivial⟩ H
      · have H := H.2 c
        refine Wp.go (x := (.aload_n 1, 1, 0, 0)) rfl 52 [some (.ref r0), some (.ref r1), some (.int x2), some (.long y3), none, some (.int x5), some (.int v2), none, none] [.ref r1] rfl ⟨rfl, rfl, rfl, rfl⟩ ?_
        refine Wp.ic (v := nI 0) rfl rfl (by decide) ?_
        refine Wp.go (x := (.iload 5, 2, 0, 0)) rfl 55 [some (.ref r0), some (.ref r1), some (.int x2), some (.long y3), none, some (.int x5), some (.int v2), none, none] [.int x5, .int (nI 0), .ref r1] rfl ⟨rfl, rfl, rfl, rfl⟩ ?_
        refine Wp.ic (v := nI 1) rfl rfl (by decide) ?_
        refine Wp.ic (v := nI 0) rfl rfl (by decide) ?_
        refine Wp.kV (x := (.invokevirtual 42, 3, 52, 5)) (j := 52) (vs := [.ref r1, .int (nI 0), .int x5, .int (nI 1), .int (nI 0)]) (rest := []) rfl (by show xtg 52 (K r1).1 = _; rw [hn_r1]; rfl) rfl ⟨Nat.le_of_ble_eq_true rfl, Nat.le_of_ble_eq_true rfl, Nat.le_of_ble_eq_true rfl⟩ rfl rfl rfl H (fun I29 J30 H => ?_)
        refine Wp.ii (v := nI 1) rfl rfl (by decide) rfl (L' := [some (.ref r0), some (.ref r1), some (.int x2), some (.long y3), none, some (.int (x5 + nI 1)), some (.int v2), none, none]) rfl ?_
        refine Wp.go (x := (.goto (-52), 3, 11, 0)) rfl 11 [some (.ref r0), some (.ref r1), some (.int x2), some (.long y3), none, some (.int (x5 + nI 1)), some (.int v2), none, none] [] rfl ⟨rfl, rfl, rfl, rfl⟩ ?_
        exact Wp.wk (L := [some (.ref r0), some (.ref r1), some (.int x2), some (.long y3), none, some (.int (x5 + nI 1)), none, none, none]) ⟨Or.inr rfl, Or.inr rfl, Or.inr rfl, Or.inr rfl, Or.inr rfl, Or.inr rfl, Or.inl rfl, Or.inr rfl, Or.inr rfl, trivial⟩ H
set_option maxRecDepth 20000 in
theorem wX8_longerAhead_0 {d : Nat} {Q : Option Value × xS → Prop} {K : Nat → Nat × Nat} {P : List Nat × Nat × Nat} {I : Nat → Nat → Int32} {J : Nat → Nat → Int64} {F : Nat → Nat → Option Nat} {r0 : Nat} {x1 : Int32} {x2 : Int32} {x3 : Int32}  (H : Wp d 63 3 [some (.ref r0), some (.int x1), some (.int x2), some (.int x3), some (.int (nI 1))] [] (K, P, I, J, F) Q) : Wp d 63 0 [some (.ref r0), some (.int x1), some (.int x2), some (.int x3), none] [] (K, P, I, J, F) Q := by
  refine Wp.ic (v := nI 1) rfl rfl (by decide) ?_
  refine Wp.go (x := (.istore 4, 2, 0, 0)) rfl 3 [some (.ref r0), some (.int x1), some (.int x2), some (.int x3), some (.int (nI 1))] [] rfl ⟨rfl, rfl, rfl, rfl⟩ ?_
  exact H
set_option maxRecDepth 20000 in
theorem wX8_longerAhead_3 {d : Nat} {Q : Option Value × xS → Prop} {K : Nat → Nat × Nat} {P : List Nat × Nat × Nat} {I : Nat → Nat → Int32} {J : Nat → Nat → Int64} {F : Nat → Nat → Option Nat} {r0 : Nat} {x1 : Int32} {x2 : Int32} {x3 : Int32} {x4 : Int32} {n_r0 : Nat} {f1 : Nat} {n_f1 : Nat} (hn_r0 : K r0 = (7, n_r0)) (hf1 : F r0 0 = some f1) (hn_f1 : K f1 = (8, n_f1)) (H : ((x3 < x4 → Q (some (.int (nI 0)), (K, P, I, J, F))) ∧ (¬ x3 < x4 → Wp d 69 0 [some (.ref f1), some (.int (x1 + x4))] [] (K, P, I, J, F) (xrI K P F (fun v2 I3 J4 => ((v2 ≤ x2 → Wp (d + 1) 63 3 [some (.ref r0), some (.int x1), some (.int x2), some (.int x3), some (.int (x4 + nI 1))] [] (K, P, I3, J4, F) Q) ∧ (¬ v2 ≤ x2 → Q (some (.int (nI 1)), (K, P, I3, J4, F))))))))) : Wp (d + 1) 63 3 [some (.ref r0), some (.int x1), some (.int x2), some (.int x3), some (.int x4)] [] (K, P, I, J, F) Q := by
  refine Wp.go (x := (.iload 4, 2, 0, 0)) rfl 5 [some (.ref r0), some (.int x1), some (.int x2), some (.int x3), some (.int x4)] [.int x4] rfl ⟨rfl, rfl, rfl, rfl⟩ ?_
  refine Wp.go (x := (.iload_n 3, 1, 0, 0)) rfl 6 [some (.ref r0), some (.int x1), some (.int x2), some (.int x3), some (.int x4)] [.int x3, .int x4] rfl ⟨rfl, rfl, rfl, rfl⟩ ?_
  refine Wp.c_gt rfl rfl ⟨fun c => ?_, fun c => ?_⟩
  · have H := H.1 c
    refine Wp.ic (v := nI 0) rfl rfl (by decide) ?_
    exact Wp.rZ rfl rfl (Or.inl rfl) H
  · have H := H.2 c
    refine Wp.go (x := (.aload_n 0, 1, 0, 0)) rfl 10 [some (.ref r0), some (.int x1), some (.int x2), some (.int x3), some (.int x4)] [.ref r0] rfl ⟨rfl, rfl, rfl, rfl⟩ ?_
    refine Wp.gR rfl rfl hn_r0 rfl rfl hf1 ?_
    refine Wp.go (x := (.iload_n 1, 1, 0, 0)) rfl 14 [some (.ref r0), some (.int x1), some (.int x2), some (.int x3), some (.int x4)] [.int x1, .ref f1] rfl ⟨rfl, rfl, rfl, rfl⟩ ?_
    refine Wp.go (x := (.iload 4, 2, 0, 0)) rfl 16 [some (.ref r0), some (.int x1), some (.int x2), some (.int x3), some (.int x4)] [.int x4, .int x1, .ref f1] rfl ⟨rfl, rfl, rfl, rfl⟩ ?_
    refine Wp.go (x := (.iadd, 1, 0, 0)) rfl 17 [some (.ref r0), some (.int x1), some (.int x2), some (.int x3), some (.int x4)] [.int (x1 + x4), .ref f1] rfl ⟨rfl, rfl, rfl, rfl⟩ ?_
    refine Wp.kI (x := (.invokevirtual 34, 3, 69, 2)) (j := 69) (vs := [.ref f1, .int (x1 + x4)]) (rest := []) rfl (by show xtg 69 (K f1).1 = _; rw [hn_f1]; rfl) rfl ⟨Nat.le_of_ble_eq_true rfl, Nat.le_of_ble_eq_true rfl, Nat.le_of_ble_eq_true rfl⟩ rfl rfl rfl H (fun v2 I3 J4 H => ?_)
    refine Wp.go (x := (.iload_n 2, 1, 0, 0)) rfl 21 [some (.ref r0), some (.int x1), some (.int x2), some (.int x3), some (.int x4)] [.int x2, .int v2] rfl ⟨rfl, rfl, rfl, rfl⟩ ?_
    refine Wp.c_le rfl rfl ⟨fun c => ?_, fun c => ?_⟩
    · have H := H.1 c
      refine Wp.ii (v := nI 1) rfl rfl (by decide) rfl (L' := [some (.ref r0), some (.int x1), some (.int x2), some (.int x3), some (.int (x4 + nI 1))]) rfl ?_
      refine Wp.go (x := (.goto (-26), 3, 3, 0)) rfl 3 [some (.ref r0), some (.int x1), some (.int x2), some (.int x3), some (.int (x4 + nI 1))] [] rfl ⟨rfl, rfl, rfl, rfl⟩ ?_
      exact H
    · have H := H.2 c
      refine Wp.ic (v := nI 1) rfl rfl (by decide) ?_
      exact Wp.rZ rfl rfl (Or.inr rfl) H
set_option maxRecDepth 20000 in
theorem wX8_againAsLong_0 {d : Nat} {Q : Option Value × xS → Prop} {K : Nat → Nat × Nat} {P : List Nat × Nat × Nat} {I : Nat → Nat → Int32} {J : Nat → Nat → Int64} {F : Nat → Nat → Option Nat} {r0 : Nat} {y1 : Int64} {x3 : Int32} {x4 : Int32} {n_r0 : Nat} (hn_r0 : K r0 = (7, n_r0)) (H : ((¬ (I r0 1) = 0 → Wp d 64 12 [some (.ref r0), some (.long y1), none, some (.int x3), some (.int x4), some (.int (nI 0))] [] (K, P, I, J, F) Q) ∧ ((I r0 1) = 0 → Q (some (.int (nI 4)), (K, P, I, J, F))))) : Wp d 64 0 [some (.ref r0), some (.long y1), none, some (.int x3), some (.int x4), none] [] (K, P, I, J, F) Q := by
  refine Wp.go (x := (.aload_n 0, 1, 0, 0)) rfl 1 [some (.ref r0), some (.long y1), none, some (.int x3), some (.int x4), none] [.ref r0] rfl ⟨rfl, rfl, rfl, rfl⟩ ?_
  refine Wp.gI rfl rfl hn_r0 rfl ⟨by decide, by decide⟩ ?_
  refine Wp.z_ne rfl rfl ⟨fun c => ?_, fun c => ?_⟩
  · have H := H.1 c
    refine Wp.ic (v := nI 0) rfl rfl (by decide) ?_
    refine Wp.go (x := (.istore 5, 2, 0, 0)) rfl 12 [some (.ref r0), some (.long y1), none, some (.int x3), some (.int x4), some (.int (nI 0))] [] rfl ⟨rfl, rfl, rfl, rfl⟩ ?_
    exact H
  · have H := H.2 c
    refine Wp.ic (v := nI 4) rfl rfl (by decide) ?_
    exact Wp.rI rfl rfl H
set_option maxRecDepth 20000 in
theorem wX8_againAsLong_12 {d : Nat} {Q : Option Value × xS → Prop} {K : Nat → Nat × Nat} {P : List Nat × Nat × Nat} {I : Nat → Nat → Int32} {J : Nat → Nat → Int64} {F : Nat → Nat → Option Nat} {r0 : Nat} {y1 : Int64} {x3 : Int32} {x4 : Int32} {x5 : Int32} {n_r0 : Nat} {f1 : Nat} {n_f1 : Nat} (hn_r0 : K r0 = (7, n_r0)) (hf1 : F r0 0 = some f1) (hn_f1 : K f1 = (8, n_f1)) (H : (((nI 4) ≤ x5 → Q (some (.int x5), (K, P, I, J, F))) ∧ (¬ (nI 4) ≤ x5 → Wp d 27 0 [some (.long y1), none, some (.int x5)] [] (K, P, I, J, F) (xrI K P F (fun v2 I3 J4 => Wp d 71 0 [some (.ref f1), some (.int x3), some (.int v2), none, none] [] (K, P, I3, J4, F) (xrI K P F (fun v5 I6 J7 => ((x4 ≤ v5 → Q (some (.int x5), (K, P, I6, J7, F))) ∧ (¬ x4 ≤ v5 → Wp (d + 1) 64 12 [some (.ref r0), some (.long y1), none, some (.int x3), some (.int x4), some (.int (x5 + nI 1))] [] (K, P, I6, J7, F) Q))))))))) : Wp (d + 1) 64 12 [some (.ref r0), some (.long y1), none, some (.int x3), some (.int x4), some (.int x5)] [] (K, P, I, J, F) Q := by
  refine Wp.go (x := (.iload 5, 2, 0, 0)) rfl 14 [some (.ref r0), some (.long y1), none, some (.int x3), some (.int x4), some (.int x5)] [.int x5] rfl ⟨rfl, rfl, rfl, rfl⟩ ?_
  refine Wp.ic (v := nI 4) rfl rfl (by decide) ?_
  refine Wp.c_ge rfl rfl ⟨fun c => ?_, fun c => ?_⟩
  · have H := H.1 c
    refine Wp.go (x := (.iload 5, 2, 0, 0)) rfl 45 [some (.ref r0), some (.long y1), none, some (.int x3), some (.int x4), some (.int x5)] [.int x5] rfl ⟨rfl, rfl, rfl, rfl⟩ ?_
    exact Wp.rI rfl rfl H
  · have H := H.2 c
    refine Wp.go (x := (.aload_n 0, 1, 0, 0)) rfl 19 [some (.ref r0), some (.long y1), none, some (.int x3), some (.int x4), some (.int x5)] [.ref r0] rfl ⟨rfl, rfl, rfl, rfl⟩ ?_
    refine Wp.gR rfl rfl hn_r0 rfl rfl hf1 ?_
    refine Wp.go (x := (.iload_n 3, 1, 0, 0)) rfl 23 [some (.ref r0), some (.long y1), none, some (.int x3), some (.int x4), some (.int x5)] [.int x3, .ref f1] rfl ⟨rfl, rfl, rfl, rfl⟩ ?_
    refine Wp.go (x := (.lload_n 1, 1, 0, 0)) rfl 24 [some (.ref r0), some (.long y1), none, some (.int x3), some (.int x4), some (.int x5)] [.long y1, .int x3, .ref f1] rfl ⟨rfl, rfl, rfl, rfl⟩ ?_
    refine Wp.go (x := (.iload 5, 2, 0, 0)) rfl 26 [some (.ref r0), some (.long y1), none, some (.int x3), some (.int x4), some (.int x5)] [.int x5, .long y1, .int x3, .ref f1] rfl ⟨rfl, rfl, rfl, rfl⟩ ?_
    refine Wp.kI (x := (.invokestatic 50, 3, 27, 2)) (j := 27) (vs := [.long y1, .int x5]) (rest := [.int x3, .ref f1]) rfl rfl rfl ⟨Nat.le_of_ble_eq_true rfl, Nat.le_of_ble_eq_true rfl, Nat.le_of_ble_eq_true rfl⟩ rfl rfl rfl H (fun v2 I3 J4 H => ?_)
    refine Wp.kI (x := (.invokevirtual 65, 3, 71, 3)) (j := 71) (vs := [.ref f1, .int x3, .int v2]) (rest := []) rfl (by show xtg 71 (K f1).1 = _; rw [hn_f1]; rfl) rfl ⟨Nat.le_of_ble_eq_true rfl, Nat.le_of_ble_eq_true rfl, Nat.le_of_ble_eq_true rfl⟩ rfl rfl rfl H (fun v5 I6 J7 H => ?_)
    refine Wp.go (x := (.iload 4, 2, 0, 0)) rfl 34 [some (.ref r0), some (.long y1), none, some (.int x3), some (.int x4), some (.int x5)] [.int x4, .int v5] rfl ⟨rfl, rfl, rfl, rfl⟩ ?_
    refine Wp.c_ge rfl rfl ⟨fun c => ?_, fun c => ?_⟩
    · have H := H.1 c
      refine Wp.go (x := (.iload 5, 2, 0, 0)) rfl 45 [some (.ref r0), some (.long y1), none, some (.int x3), some (.int x4), some (.int x5)] [.int x5] rfl ⟨rfl, rfl, rfl, rfl⟩ ?_
      exact Wp.rI rfl rfl H
    · have H := H.2 c
      refine Wp.ii (v := nI 1) rfl rfl (by decide) rfl (L' := [some (.ref r0), some (.long y1), none, some (.int x3), some (.int x4), some (.int (x5 + nI 1))]) rfl ?_
      refine Wp.go (x := (.goto (-28), 3, 12, 0)) rfl 12 [some (.ref r0), some (.long y1), none, some (.int x3), some (.int x4), some (.int (x5 + nI 1))] [] rfl ⟨rfl, rfl, rfl, rfl⟩ ?_
      exact H
set_option maxRecDepth 20000 in
theorem wX9_has_0 {d : Nat} {Q : Option Value × xS → Prop} {K : Nat → Nat × Nat} {P : List Nat × Nat × Nat} {I : Nat → Nat → Int32} {J : Nat → Nat → Int64} {F : Nat → Nat → Option Nat} {r0 : Nat} {x1 : Int32} {n_r0 : Nat} (hn_r0 : K r0 = (8, n_r0)) (H : ((x1 < 0 → Q (some (.int (nI 0)), (K, P, I, J, F))) ∧ (¬ x1 < 0 → (((I r0 3) ≤ x1 → Q (some (.int (nI 0)), (K, P, I, J, F))) ∧ (¬ (I r0 3) ≤ x1 → Q (some (.int (nI 1)), (K, P, I, J, F))))))) : Wp d 66 0 [some (.ref r0), some (.int x1)] [] (K, P, I, J, F) Q := by
  refine Wp.go (x := (.iload_n 1, 1, 0, 0)) rfl 1 [some (.ref r0), some (.int x1)] [.int x1] rfl ⟨rfl, rfl, rfl, rfl⟩ ?_
  refine Wp.z_lt rfl rfl ⟨fun c => ?_, fun c => ?_⟩
  · have H := H.1 c
    refine Wp.ic (v := nI 0) rfl rfl (by decide) ?_
    exact Wp.rZ rfl rfl (Or.inl rfl) H
  · have H := H.2 c
    refine Wp.go (x := (.iload_n 1, 1, 0, 0)) rfl 5 [some (.ref r0), some (.int x1)] [.int x1] rfl ⟨rfl, rfl, rfl, rfl⟩ ?_
    refine Wp.go (x := (.aload_n 0, 1, 0, 0)) rfl 6 [some (.ref r0), some (.int x1)] [.ref r0, .int x1] rfl ⟨rfl, rfl, rfl, rfl⟩ ?_
    refine Wp.gI rfl rfl hn_r0 rfl ⟨by decide, by decide⟩ ?_
    refine Wp.c_ge rfl rfl ⟨fun c => ?_, fun c => ?_⟩
    · have H := H.1 c
      refine Wp.ic (v := nI 0) rfl rfl (by decide) ?_
      exact Wp.rZ rfl rfl (Or.inl rfl) H
    · have H := H.2 c
      refine Wp.ic (v := nI 1) rfl rfl (by decide) ?_
      refine Wp.go (x := (.goto 4, 3, 17, 0)) rfl 17 [some (.ref r0), some (.int x1)] [.int (nI 1)] rfl ⟨rfl, rfl, rfl, rfl⟩ ?_
      exact Wp.rZ rfl rfl (Or.inr rfl) H
set_option maxRecDepth 20000 in
theorem wX9_append_0 {d : Nat} {Q : Option Value × xS → Prop} {K : Nat → Nat × Nat} {P : List Nat × Nat × Nat} {I : Nat → Nat → Int32} {J : Nat → Nat → Int64} {F : Nat → Nat → Option Nat} {r0 : Nat} {x1 : Int32} {n_r0 : Nat} {f1 : Nat} {n_f1 : Nat} {f3 : Nat} {n_f3 : Nat} {f5 : Nat} {n_f5 : Nat} (hK : ∀ {a k n : Nat}, K a = (k, n) → n < 2147483648) (hn_r0 : K r0 = (8, n_r0)) (hf1 : F r0 2 = some f1) (hn_f1 : K f1 = (100, n_f1)) (hf3 : F r0 6 = some f3) (hn_f3 : K f3 = (100, n_f3)) (hf5 : F r0 4 = some f5) (hn_f5 : K f5 = (100, n_f5)) (H : (((I r0 3) < (nI 300) → (∃ j2 : Nat, (I r0 3) = nI j2 ∧ j2 < n_f1 ∧ (∃ j4 : Nat, (I r0 3) = nI j4 ∧ j4 < n_f3 ∧ (∃ j6 : Nat, (I r0 3) = nI j6 ∧ j6 < n_f5 ∧ Wp d 67 52 [some (.ref r0), some (.int x1), some (.int (I r0 3)), some (.int (nI 0)), some (.int (nI 1))] [] (K, P, (xup ((xup ((xup ((xup I f1 j2 x1)) f3 j4 (nI 0))) f5 j6 (nI 0))) r0 3 ((((xup ((xup ((xup I f1 j2 x1)) f3 j4 (nI 0))) f5 j6 (nI 0))) r0 3) + (nI 1))), J, F) Q)))) ∧ (¬ (I r0 3) < (nI 300) → Q (none, (K, P, I, J, F))))) : Wp d 67 0 [some (.ref r0), some (.int x1), none, none, none] [] (K, P, I, J, F) Q := by
  refine Wp.go (x := (.aload_n 0, 1, 0, 0)) rfl 1 [some (.ref r0), some (.int x1), none, none, none] [.ref r0] rfl ⟨rfl, rfl, rfl, rfl⟩ ?_
  refine Wp.gI rfl rfl hn_r0 rfl ⟨by decide, by decide⟩ ?_
  refine Wp.sp (v := nI 300) rfl rfl (by decide) ?_
  refine Wp.c_lt rfl rfl ⟨fun c => ?_, fun c => ?_⟩
  · have H := H.1 c
    refine Wp.go (x := (.aload_n 0, 1, 0, 0)) rfl 12 [some (.ref r0), some (.int x1), none, none, none] [.ref r0] rfl ⟨rfl, rfl, rfl, rfl⟩ ?_
    refine Wp.gI rfl rfl hn_r0 rfl ⟨by decide, by decide⟩ ?_
    refine Wp.go (x := (.istore_n 2, 1, 0, 0)) rfl 16 [some (.ref r0), some (.int x1), some (.int (I r0 3)), none, none] [] rfl ⟨rfl, rfl, rfl, rfl⟩ ?_
    refine Wp.go (x := (.aload_n 0, 1, 0, 0)) rfl 17 [some (.ref r0), some (.int x1), some (.int (I r0 3)), none, none] [.ref r0] rfl ⟨rfl, rfl, rfl, rfl⟩ ?_
    refine Wp.gR rfl rfl hn_r0 rfl rfl hf1 ?_
    refine Wp.go (x := (.iload_n 2, 1, 0, 0)) rfl 21 [some (.ref r0), some (.int x1), some (.int (I r0 3)), none, none] [.int (I r0 3), .ref f1] rfl ⟨rfl, rfl, rfl, rfl⟩ ?_
    refine Wp.go (x := (.iload_n 1, 1, 0, 0)) rfl 22 [some (.ref r0), some (.int x1), some (.int (I r0 3)), none, none] [.int x1, .int (I r0 3), .ref f1] rfl ⟨rfl, rfl, rfl, rfl⟩ ?_
    obtain ⟨j2, e, b, H⟩ := H
    refine Wp.ast rfl rfl hn_f1 (hK hn_f1) ⟨j2, e, b, ?_⟩
    refine Wp.go (x := (.aload_n 0, 1, 0, 0)) rfl 24 [some (.ref r0), some (.int x1), some (.int (I r0 3)), none, none] [.ref r0] rfl ⟨rfl, rfl, rfl, rfl⟩ ?_
    refine Wp.gR rfl rfl hn_r0 rfl rfl hf3 ?_
    refine Wp.go (x := (.iload_n 2, 1, 0, 0)) rfl 28 [some (.ref r0), some (.int x1), some (.int (I r0 3)), none, none] [.int (I r0 3), .ref f3] rfl ⟨rfl, rfl, rfl, rfl⟩ ?_
    refine Wp.ic (v := nI 0) rfl rfl (by decide) ?_
    obtain ⟨j4, e, b, H⟩ := H
    refine Wp.ast rfl rfl hn_f3 (hK hn_f3) ⟨j4, e, b, ?_⟩
    refine Wp.go (x := (.aload_n 0, 1, 0, 0)) rfl 31 [some (.ref r0), some (.int x1), some (.int (I r0 3)), none, none] [.ref r0] rfl ⟨rfl, rfl, rfl, rfl⟩ ?_
    refine Wp.gR rfl rfl hn_r0 rfl rfl hf5 ?_
    refine Wp.go (x := (.iload_n 2, 1, 0, 0)) rfl 35 [some (.ref r0), some (.int x1), some (.int (I r0 3)), none, none] [.int (I r0 3), .ref f5] rfl ⟨rfl, rfl, rfl, rfl⟩ ?_
    refine Wp.ic (v := nI 0) rfl rfl (by decide) ?_
    obtain ⟨j6, e, b, H⟩ := H
    refine Wp.ast rfl rfl hn_f5 (hK hn_f5) ⟨j6, e, b, ?_⟩
    refine Wp.go (x := (.aload_n 0, 1, 0, 0)) rfl 38 [some (.ref r0), some (.int x1), some (.int (I r0 3)), none, none] [.ref r0] rfl ⟨rfl, rfl, rfl, rfl⟩ ?_
    refine Wp.go (x := (.dup, 1, 0, 0)) rfl 39 [some (.ref r0), some (.int x1), some (.int (I r0 3)), none, none] [.ref r0, .ref r0] rfl ⟨rfl, rfl, rfl, rfl⟩ ?_
    refine Wp.gI rfl rfl hn_r0 rfl ⟨by decide, by decide⟩ ?_
    refine Wp.ic (v := nI 1) rfl rfl (by decide) ?_
    refine Wp.go (x := (.iadd, 1, 0, 0)) rfl 44 [some (.ref r0), some (.int x1), some (.int (I r0 3)), none, none] [.int ((((xup ((xup ((xup I f1 j2 x1)) f3 j4 (nI 0))) f5 j6 (nI 0))) r0 3) + (nI 1)), .ref r0] rfl ⟨rfl, rfl, rfl, rfl⟩ ?_
    refine Wp.pI rfl rfl hn_r0 rfl (Or.inl rfl) ?_
    refine Wp.ic (v := nI 0) rfl rfl (by decide) ?_
    refine Wp.go (x := (.istore_n 3, 1, 0, 0)) rfl 49 [some (.ref r0), some (.int x1), some (.int (I r0 3)), some (.int (nI 0)), none] [] rfl ⟨rfl, rfl, rfl, rfl⟩ ?_
    refine Wp.ic (v := nI 1) rfl rfl (by decide) ?_
    refine Wp.go (x := (.istore 4, 2, 0, 0)) rfl 52 [some (.ref r0), some (.int x1), some (.int (I r0 3)), some (.int (nI 0)), some (.int (nI 1))] [] rfl ⟨rfl, rfl, rfl, rfl⟩ ?_
    exact H
  · have H := H.2 c
    exact Wp.rV rfl rfl H
set_option maxRecDepth 20000 in
theorem wX9_append_52 {d : Nat} {Q : Option Value × xS → Prop} {K : Nat → Nat × Nat} {P : List Nat × Nat × Nat} {I : Nat → Nat → Int32} {J : Nat → Nat → Int64} {F : Nat → Nat → Option Nat} {r0 : Nat} {x1 : Int32} {x2 : Int32} {x3 : Int32} {x4 : Int32} {n_r0 : Nat} {f1 : Nat} {f2 : Nat} {n_f2 : Nat} {n_f1 : Nat} (hK : ∀ {a k n : Nat}, K a = (k, n) → n < 2147483648) (hn_r0 : K r0 = (8, n_r0)) (hf1 : F r0 4 = some f1) (hf2 : F r0 2 = some f2) (hn_f2 : K f2 = (100, n_f2)) (hn_f1 : K f1 = (100, n_f1)) (H : ((x2 < x4 → Q (none, (K, P, I, J, F))) ∧ (¬ x2 < x4 → (∃ j3 : Nat, (x2 - x4) = nI j3 ∧ j3 < n_f2 ∧ ((¬ (I f2 j3) = x1 → Wp d 67 90 [some (.ref r0), some (.int x1), some (.int x2), some (.int x3), some (.int x4)] [.int (nI 0), .int x4, .ref f1] (K, P, I, J, F) Q) ∧ ((I f2 j3) = x1 → (∃ j4 : Nat, x4 = nI j4 ∧ j4 < n_f1 ∧ Wp d 67 90 [some (.ref r0), some (.int x1), some (.int x2), some (.int x3), some (.int x4)] [.int ((I f1 j4) + (nI 1)), .int x4, .ref f1] (K, P, I, J, F) Q))))))) : Wp d 67 52 [some (.ref r0), some (.int x1), some (.int x2), some (.int x3), some (.int x4)] [] (K, P, I, J, F) Q := by
  refine Wp.go (x := (.iload 4, 2, 0, 0)) rfl 54 [some (.ref r0), some (.int x1), some (.int x2), some (.int x3), some (.int x4)] [.int x4] rfl ⟨rfl, rfl, rfl, rfl⟩ ?_
  refine Wp.go (x := (.iload_n 2, 1, 0, 0)) rfl 55 [some (.ref r0), some (.int x1), some (.int x2), some (.int x3), some (.int x4)] [.int x2, .int x4] rfl ⟨rfl, rfl, rfl, rfl⟩ ?_
  refine Wp.c_gt rfl rfl ⟨fun c => ?_, fun c => ?_⟩
  · have H := H.1 c
    exact Wp.rV rfl rfl H
  · have H := H.2 c
    refine Wp.go (x := (.aload_n 0, 1, 0, 0)) rfl 59 [some (.ref r0), some (.int x1), some (.int x2), some (.int x3), some (.int x4)] [.ref r0] rfl ⟨rfl, rfl, rfl, rfl⟩ ?_
    refine Wp.gR rfl rfl hn_r0 rfl rfl hf1 ?_
    refine Wp.go (x := (.iload 4, 2, 0, 0)) rfl 64 [some (.ref r0), some (.int x1), some (.int x2), some (.int x3), some (.int x4)] [.int x4, .ref f1] rfl ⟨rfl, rfl, rfl, rfl⟩ ?_
    refine Wp.go (x := (.aload_n 0, 1, 0, 0)) rfl 65 [some (.ref r0), some (.int x1), some (.int x2), some (.int x3), some (.int x4)] [.ref r0, .int x4, .ref f1] rfl ⟨rfl, rfl, rfl, rfl⟩ ?_
    refine Wp.gR rfl rfl hn_r0 rfl rfl hf2 ?_
    refine Wp.go (x := (.iload_n 2, 1, 0, 0)) rfl 69 [some (.ref r0), some (.int x1), some (.int x2), some (.int x3), some (.int x4)] [.int x2, .ref f2, .int x4, .ref f1] rfl ⟨rfl, rfl, rfl, rfl⟩ ?_
    refine Wp.go (x := (.iload 4, 2, 0, 0)) rfl 71 [some (.ref r0), some (.int x1), some (.int x2), some (.int x3), some (.int x4)] [.int x4, .int x2, .ref f2, .int x4, .ref f1] rfl ⟨rfl, rfl, rfl, rfl⟩ ?_
    refine Wp.go (x := (.isub, 1, 0, 0)) rfl 72 [some (.ref r0), some (.int x1), some (.int x2), some (.int x3), some (.int x4)] [.int (x2 - x4), .ref f2, .int x4, .ref f1] rfl ⟨rfl, rfl, rfl, rfl⟩ ?_
    obtain ⟨j3, e, b, H⟩ := H
    refine Wp.ald rfl rfl hn_f2 (Or.inl rfl) (hK hn_f2) ⟨j3, e, b, ?_⟩
    refine Wp.go (x := (.iload_n 1, 1, 0, 0)) rfl 74 [some (.ref r0), some (.int x1), some (.int x2), some (.int x3), some (.int x4)] [.int x1, .int (I f2 j3), .int x4, .ref f1] rfl ⟨rfl, rfl, rfl, rfl⟩ ?_
    refine Wp.c_ne rfl rfl ⟨fun c => ?_, fun c => ?_⟩
    · have H := H.1 c
      refine Wp.ic (v := nI 0) rfl rfl (by decide) ?_
      exact H
    · have H := H.2 c
      refine Wp.go (x := (.aload_n 0, 1, 0, 0)) rfl 78 [some (.ref r0), some (.int x1), some (.int x2), some (.int x3), some (.int x4)] [.ref r0, .int x4, .ref f1] rfl ⟨rfl, rfl, rfl, rfl⟩ ?_
      refine Wp.gR rfl rfl hn_r0 rfl rfl hf1 ?_
      refine Wp.go (x := (.iload 4, 2, 0, 0)) rfl 83 [some (.ref r0), some (.int x1), some (.int x2), some (.int x3), some (.int x4)] [.int x4, .ref f1, .int x4, .ref f1] rfl ⟨rfl, rfl, rfl, rfl⟩ ?_
      obtain ⟨j4, e, b, H⟩ := H
      refine Wp.ald rfl rfl hn_f1 (Or.inl rfl) (hK hn_f1) ⟨j4, e, b, ?_⟩
      refine Wp.ic (v := nI 1) rfl rfl (by decide) ?_
      refine Wp.go (x := (.iadd, 1, 0, 0)) rfl 86 [some (.ref r0), some (.int x1), some (.int x2), some (.int x3), some (.int x4)] [.int ((I f1 j4) + (nI 1)), .int x4, .ref f1] rfl ⟨rfl, rfl, rfl, rfl⟩ ?_
      refine Wp.go (x := (.goto 4, 3, 90, 0)) rfl 90 [some (.ref r0), some (.int x1), some (.int x2), some (.int x3), some (.int x4)] [.int ((I f1 j4) + (nI 1)), .int x4, .ref f1] rfl ⟨rfl, rfl, rfl, rfl⟩ ?_
      exact H
set_option maxRecDepth 20000 in
theorem wX9_append_90 {d : Nat} {Q : Option Value × xS → Prop} {K : Nat → Nat × Nat} {P : List Nat × Nat × Nat} {I : Nat → Nat → Int32} {J : Nat → Nat → Int64} {F : Nat → Nat → Option Nat} {r0 : Nat} {x1 : Int32} {x2 : Int32} {x3 : Int32} {x4 : Int32} {q0 : Nat} {s1 : Int32} {s2 : Int32} {n_q0 : Nat} {n_r0 : Nat} {f2 : Nat} {n_f2 : Nat} (hK : ∀ {a k n : Nat}, K a = (k, n) → n < 2147483648) (hn_q0 : K q0 = (100, n_q0)) (hn_r0 : K r0 = (8, n_r0)) (hf2 : F r0 4 = some f2) (hn_f2 : K f2 = (100, n_f2)) (H : (∃ j1 : Nat, s1 = nI j1 ∧ j1 < n_q0 ∧ (∃ j3 : Nat, x4 = nI j3 ∧ j3 < n_f2 ∧ (((((xup I q0 j1 s2)) f2 j3) ≤ x3 → Wp (d + 1) 67 52 [some (.ref r0), some (.int x1), some (.int x2), some (.int x3), some (.int (x4 + nI 1))] [] (K, P, (xup I q0 j1 s2), J, F) Q) ∧ (¬ (((xup I q0 j1 s2)) f2 j3) ≤ x3 → Wp d 68 0 [some (.ref r0), some (.int x2), some (.int x4), some (.int (x3 + (nI 1))), none, none] [] (K, P, (xup I q0 j1 s2), J, F) (xrV K P F (fun I4 J5 => (∃ j6 : Nat, x4 = nI j6 ∧ j6 < n_f2 ∧ Wp (d + 1) 67 52 [some (.ref r0), some (.int x1), some (.int x2), some (.int (I4 f2 j6)), some (.int (x4 + nI 1))] [] (K, P, I4, J5, F) Q)))))))) : Wp (d + 1) 67 90 [some (.ref r0), some (.int x1), some (.int x2), some (.int x3), some (.int x4)] [.int s2, .int s1, .ref q0] (K, P, I, J, F) Q := by
  obtain ⟨j1, e, b, H⟩ := H
  refine Wp.ast rfl rfl hn_q0 (hK hn_q0) ⟨j1, e, b, ?_⟩
  refine Wp.go (x := (.aload_n 0, 1, 0, 0)) rfl 92 [some (.ref r0), some (.int x1), some (.int x2), some (.int x3), some (.int x4)] [.ref r0] rfl ⟨rfl, rfl, rfl, rfl⟩ ?_
  refine Wp.gR rfl rfl hn_r0 rfl rfl hf2 ?_
  refine Wp.go (x := (.iload 4, 2, 0, 0)) rfl 97 [some (.ref r0), some (.int x1), some (.int x2), some (.int x3), some (.int x4)] [.int x4, .ref f2] rfl ⟨rfl, rfl, rfl, rfl⟩ ?_
  obtain ⟨j3, e, b, H⟩ := H
  refine Wp.ald rfl rfl hn_f2 (Or.inl rfl) (hK hn_f2) ⟨j3, e, b, ?_⟩
  refine Wp.go (x := (.iload_n 3, 1, 0, 0)) rfl 99 [some (.ref r0), some (.int x1), some (.int x2), some (.int x3), some (.int x4)] [.int x3, .int (((xup I q0 j1 s2)) f2 j3)] rfl ⟨rfl, rfl, rfl, rfl⟩ ?_
  refine Wp.c_le rfl rfl ⟨fun c => ?_, fun c => ?_⟩
  · have H := H.1 c
    refine Wp.ii (v := nI 1) rfl rfl (by decide) rfl (L' := [some (.ref r0), some (.int x1), some (.int x2), some (.int x3), some (.int (x4 + nI 1))]) rfl ?_
    refine Wp.go (x := (.goto (-71), 3, 52, 0)) rfl 52 [some (.ref r0), some (.int x1), some (.int x2), some (.int x3), some (.int (x4 + nI 1))] [] rfl ⟨rfl, rfl, rfl, rfl⟩ ?_
    exact H
  · have H := H.2 c
    refine Wp.go (x := (.aload_n 0, 1, 0, 0)) rfl 103 [some (.ref r0), some (.int x1), some (.int x2), some (.int x3), some (.int x4)] [.ref r0] rfl ⟨rfl, rfl, rfl, rfl⟩ ?_
    refine Wp.go (x := (.iload_n 2, 1, 0, 0)) rfl 104 [some (.ref r0), some (.int x1), some (.int x2), some (.int x3), some (.int x4)] [.int x2, .ref r0] rfl ⟨rfl, rfl, rfl, rfl⟩ ?_
    refine Wp.go (x := (.iload 4, 2, 0, 0)) rfl 106 [some (.ref r0), some (.int x1), some (.int x2), some (.int x3), some (.int x4)] [.int x4, .int x2, .ref r0] rfl ⟨rfl, rfl, rfl, rfl⟩ ?_
    refine Wp.go (x := (.iload_n 3, 1, 0, 0)) rfl 107 [some (.ref r0), some (.int x1), some (.int x2), some (.int x3), some (.int x4)] [.int x3, .int x4, .int x2, .ref r0] rfl ⟨rfl, rfl, rfl, rfl⟩ ?_
    refine Wp.ic (v := nI 1) rfl rfl (by decide) ?_
    refine Wp.go (x := (.iadd, 1, 0, 0)) rfl 109 [some (.ref r0), some (.int x1), some (.int x2), some (.int x3), some (.int x4)] [.int (x3 + (nI 1)), .int x4, .int x2, .ref r0] rfl ⟨rfl, rfl, rfl, rfl⟩ ?_
    refine Wp.kV (x := (.invokevirtual 35, 3, 68, 4)) (j := 68) (vs := [.ref r0, .int x2, .int x4, .int (x3 + (nI 1))]) (rest := []) rfl (by show xtg 68 (K r0).1 = _; rw [hn_r0]; rfl) rfl ⟨Nat.le_of_ble_eq_true rfl, Nat.le_of_ble_eq_true rfl, Nat.le_of_ble_eq_true rfl⟩ rfl rfl rfl H (fun I4 J5 H => ?_)
    refine Wp.go (x := (.aload_n 0, 1, 0, 0)) rfl 113 [some (.ref r0), some (.int x1), some (.int x2), some (.int x3), some (.int x4)] [.ref r0] rfl ⟨rfl, rfl, rfl, rfl⟩ ?_
    refine Wp.gR rfl rfl hn_r0 rfl rfl hf2 ?_
    refine Wp.go (x := (.iload 4, 2, 0, 0)) rfl 118 [some (.ref r0), some (.int x1), some (.int x2), some (.int x3), some (.int x4)] [.int x4, .ref f2] rfl ⟨rfl, rfl, rfl, rfl⟩ ?_
    obtain ⟨j6, e, b, H⟩ := H
    refine Wp.ald rfl rfl hn_f2 (Or.inl rfl) (hK hn_f2) ⟨j6, e, b, ?_⟩
    refine Wp.go (x := (.istore_n 3, 1, 0, 0)) rfl 120 [some (.ref r0), some (.int x1), some (.int x2), some (.int (I4 f2 j6)), some (.int x4)] [] rfl ⟨rfl, rfl, rfl, rfl⟩ ?_
    refine Wp.ii (v := nI 1) rfl rfl (by decide) rfl (L' := [some (.ref r0), some (.int x1), some (.int x2), some (.int (I4 f2 j6)), some (.int (x4 + nI 1))]) rfl ?_
    refine Wp.go (x := (.goto (-71), 3, 52, 0)) rfl 52 [some (.ref r0), some (.int x1), some (.int x2), some (.int (I4 f2 j6)), some (.int (x4 + nI 1))] [] rfl ⟨rfl, rfl, rfl, rfl⟩ ?_
    exact H
