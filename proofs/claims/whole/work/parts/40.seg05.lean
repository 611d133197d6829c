set_option maxRecDepth 20000 in
theorem wX11_longestOf_41 {d : Nat} {Q : Option Value × xS → Prop} {K : Nat → Nat × Nat} {P : List Nat × Nat × Nat} {I : Nat → Nat → Int32} {J : Nat → Nat → Int64} {F : Nat → Nat → Option Nat} {r0 : Nat} {x1 : Int32} {x2 : Int32} {x3 : Int32} {n_r0 : Nat} {f1 : Nat} {n_f1 : Nat} (hK : ∀ {a k n : Nat}, K a = (k, n) → n < 2147483648) (hn_r0 : K r0 = (10, n_r0)) (hf1 : F r0 21 = some f1) (hn_f1 : K f1 = (100, n_f1)) (H : ((x3 < 0 → Q (some (.int x2), (K, P, I, J, F))) ∧ (¬ x3 < 0 → (∃ j2 : Nat, x3 = nI j2 ∧ j2 < n_f1 ∧ Wp d 109 0 [some (.ref r0), some (.int x1), some (.int (I f1 j2)), none] [] (K, P, I, J, F) (xrI K P F (fun v3 I4 J5 => ((v3 ≤ 0 → Wp (d + 1) 123 41 [some (.ref r0), some (.int x1), some (.int x2), some (.int (x3 + (-1))), none] [] (K, P, I4, J5, F) Q) ∧ (¬ v3 ≤ 0 → ((x2 < v3 → Wp (d + 1) 123 41 [some (.ref r0), some (.int x1), some (.int v3), some (.int (x3 + (-1))), none] [] (K, P, (xup I4 r0 22 ((nI 2) + x3)), J5, F) Q) ∧ (¬ x2 < v3 → ((¬ v3 = x2 → Wp (d + 1) 123 41 [some (.ref r0), some (.int x1), some (.int x2), some (.int (x3 + (-1))), none] [] (K, P, I4, J5, F) Q) ∧ (v3 = x2 → Wp (d + 1) 123 41 [some (.ref r0), some (.int x1), some (.int v3), some (.int (x3 + (-1))), none] [] (K, P, (xup I4 r0 22 ((nI 2) + x3)), J5, F) Q)))))))))))) : Wp (d + 1) 123 41 [some (.ref r0), some (.int x1), some (.int x2), some (.int x3), none] [] (K, P, I, J, F) Q := by
  refine Wp.go (x := (.iload_n 3, 1, 0, 0)) rfl 42 [some (.ref r0), some (.int x1), some (.int x2), some (.int x3), none] [.int x3] rfl ⟨rfl, rfl, rfl, rfl⟩ ?_
  refine Wp.z_lt rfl rfl ⟨fun c => ?_, fun c => ?_⟩
  · have H := H.1 c
    refine Wp.go (x := (.iload_n 2, 1, 0, 0)) rfl 92 [some (.ref r0), some (.int x1), some (.int x2), some (.int x3), none] [.int x2] rfl ⟨rfl, rfl, rfl, rfl⟩ ?_
    exact Wp.rI rfl rfl H
  · have H := H.2 c
    refine Wp.go (x := (.aload_n 0, 1, 0, 0)) rfl 46 [some (.ref r0), some (.int x1), some (.int x2), some (.int x3), none] [.ref r0] rfl ⟨rfl, rfl, rfl, rfl⟩ ?_
    refine Wp.go (x := (.iload_n 1, 1, 0, 0)) rfl 47 [some (.ref r0), some (.int x1), some (.int x2), some (.int x3), none] [.int x1, .ref r0] rfl ⟨rfl, rfl, rfl, rfl⟩ ?_
    refine Wp.go (x := (.aload_n 0, 1, 0, 0)) rfl 48 [some (.ref r0), some (.int x1), some (.int x2), some (.int x3), none] [.ref r0, .int x1, .ref r0] rfl ⟨rfl, rfl, rfl, rfl⟩ ?_
    refine Wp.gR rfl rfl hn_r0 rfl rfl hf1 ?_
    refine Wp.go (x := (.iload_n 3, 1, 0, 0)) rfl 52 [some (.ref r0), some (.int x1), some (.int x2), some (.int x3), none] [.int x3, .ref f1, .int x1, .ref r0] rfl ⟨rfl, rfl, rfl, rfl⟩ ?_
    obtain ⟨j2, e, b, H⟩ := H
    refine Wp.ald rfl rfl hn_f1 (Or.inl rfl) (hK hn_f1) ⟨j2, e, b, ?_⟩
    refine Wp.kI (x := (.invokevirtual 199, 3, 109, 3)) (j := 109) (vs := [.ref r0, .int x1, .int (I f1 j2)]) (rest := []) rfl (by show xtg 109 (K r0).1 = _; rw [hn_r0]; rfl) rfl ⟨Nat.le_of_ble_eq_true rfl, Nat.le_of_ble_eq_true rfl, Nat.le_of_ble_eq_true rfl⟩ rfl rfl rfl H (fun v3 I4 J5 H => ?_)
    refine Wp.go (x := (.istore 4, 2, 0, 0)) rfl 58 [some (.ref r0), some (.int x1), some (.int x2), some (.int x3), some (.int v3)] [] rfl ⟨rfl, rfl, rfl, rfl⟩ ?_
    refine Wp.go (x := (.iload 4, 2, 0, 0)) rfl 60 [some (.ref r0), some (.int x1), some (.int x2), some (.int x3), some (.int v3)] [.int v3] rfl ⟨rfl, rfl, rfl, rfl⟩ ?_
    refine Wp.z_le rfl rfl ⟨fun c => ?_, fun c => ?_⟩
    · have H := H.1 c
      refine Wp.ii (v := (-1)) rfl rfl (by decide) rfl (L' := [some (.ref r0), some (.int x1), some (.int x2), some (.int (x3 + (-1))), some (.int v3)]) rfl ?_
      refine Wp.go (x := (.goto (-47), 3, 41, 0)) rfl 41 [some (.ref r0), some (.int x1), some (.int x2), some (.int (x3 + (-1))), some (.int v3)] [] rfl ⟨rfl, rfl, rfl, rfl⟩ ?_
      exact Wp.wk (L := [some (.ref r0), some (.int x1), some (.int x2), some (.int (x3 + (-1))), none]) ⟨Or.inr rfl, Or.inr rfl, Or.inr rfl, Or.inr rfl, Or.inl rfl, trivial⟩ H
    · have H := H.2 c
      refine Wp.go (x := (.iload 4, 2, 0, 0)) rfl 65 [some (.ref r0), some (.int x1), some (.int x2), some (.int x3), some (.int v3)] [.int v3] rfl ⟨rfl, rfl, rfl, rfl⟩ ?_
      refine Wp.go (x := (.iload_n 2, 1, 0, 0)) rfl 66 [some (.ref r0), some (.int x1), some (.int x2), some (.int x3), some (.int v3)] [.int x2, .int v3] rfl ⟨rfl, rfl, rfl, rfl⟩ ?_
      refine Wp.c_gt rfl rfl ⟨fun c => ?_, fun c => ?_⟩
      · have H := H.1 c
        refine Wp.go (x := (.iload 4, 2, 0, 0)) rfl 77 [some (.ref r0), some (.int x1), some (.int x2), some (.int x3), some (.int v3)] [.int v3] rfl ⟨rfl, rfl, rfl, rfl⟩ ?_
        refine Wp.go (x := (.istore_n 2, 1, 0, 0)) rfl 78 [some (.ref r0), some (.int x1), some (.int v3), some (.int x3), some (.int v3)] [] rfl ⟨rfl, rfl, rfl, rfl⟩ ?_
        refine Wp.go (x := (.aload_n 0, 1, 0, 0)) rfl 79 [some (.ref r0), some (.int x1), some (.int v3), some (.int x3), some (.int v3)] [.ref r0] rfl ⟨rfl, rfl, rfl, rfl⟩ ?_
        refine Wp.ic (v := nI 2) rfl rfl (by decide) ?_
        refine Wp.go (x := (.iload_n 3, 1, 0, 0)) rfl 81 [some (.ref r0), some (.int x1), some (.int v3), some (.int x3), some (.int v3)] [.int x3, .int (nI 2), .ref r0] rfl ⟨rfl, rfl, rfl, rfl⟩ ?_
        refine Wp.go (x := (.iadd, 1, 0, 0)) rfl 82 [some (.ref r0), some (.int x1), some (.int v3), some (.int x3), some (.int v3)] [.int ((nI 2) + x3), .ref r0] rfl ⟨rfl, rfl, rfl, rfl⟩ ?_
        refine Wp.pI rfl rfl hn_r0 rfl (Or.inl rfl) ?_
        refine Wp.ii (v := (-1)) rfl rfl (by decide) rfl (L' := [some (.ref r0), some (.int x1), some (.int v3), some (.int (x3 + (-1))), some (.int v3)]) rfl ?_
        refine Wp.go (x := (.goto (-47), 3, 41, 0)) rfl 41 [some (.ref r0), some (.int x1), some (.int v3), some (.int (x3 + (-1))), some (.int v3)] [] rfl ⟨rfl, rfl, rfl, rfl⟩ ?_
        exact Wp.wk (L := [some (.ref r0), some (.int x1), some (.int v3), some (.int (x3 + (-1))), none]) ⟨Or.inr rfl, Or.inr rfl, Or.inr rfl, Or.inr rfl, Or.inl rfl, trivial⟩ H
      · have H := H.2 c
        refine Wp.go (x := (.iload 4, 2, 0, 0)) rfl 71 [some (.ref r0), some (.int x1), some (.int x2), some (.int x3), some (.int v3)] [.int v3] rfl ⟨rfl, rfl, rfl, rfl⟩ ?_
        refine Wp.go (x := (.iload_n 2, 1, 0, 0)) rfl 72 [some (.ref r0), some (.int x1), some (.int x2), some (.int x3), some (.int v3)] [.int x2, .int v3] rfl ⟨rfl, rfl, rfl, rfl⟩ ?_
        refine Wp.c_ne rfl rfl ⟨fun c => ?_, fun c => ?_⟩
        · have H := H.1 c
          refine Wp.ii (v := (-1)) rfl rfl (by decide) rfl (L' := [some (.ref r0), some (.int x1), some (.int x2), some (.int (x3 + (-1))), some (.int v3)]) rfl ?_
          refine Wp.go (x := (.goto (-47), 3, 41, 0)) rfl 41 [some (.ref r0), some (.int x1), some (.int x2), some (.int (x3 + (-1))), some (.int v3)] [] rfl ⟨rfl, rfl, rfl, rfl⟩ ?_
          exact Wp.wk (L := [some (.ref r0), some (.int x1), some (.int x2), some (.int (x3 + (-1))), none]) ⟨Or.inr rfl, Or.inr rfl, Or.inr rfl, Or.inr rfl, Or.inl rfl, trivial⟩ H
        · have H := H.2 c
          refine Wp.go (x := (.iload 4, 2, 0, 0)) rfl 77 [some (.ref r0), some (.int x1), some (.int x2), some (.int x3), some (.int v3)] [.int v3] rfl ⟨rfl, rfl, rfl, rfl⟩ ?_
          refine Wp.go (x := (.istore_n 2, 1, 0, 0)) rfl 78 [some (.ref r0), some (.int x1), some (.int v3), some (.int x3), some (.int v3)] [] rfl ⟨rfl, rfl, rfl, rfl⟩ ?_
          refine Wp.go (x := (.aload_n 0, 1, 0, 0)) rfl 79 [some (.ref r0), some (.int x1), some (.int v3), some (.int x3), some (.int v3)] [.ref r0] rfl ⟨rfl, rfl, rfl, rfl⟩ ?_
          refine Wp.ic (v := nI 2) rfl rfl (by decide) ?_
          refine Wp.go (x := (.iload_n 3, 1, 0, 0)) rfl 81 [some (.ref r0), some (.int x1), some (.int v3), some (.int x3), some (.int v3)] [.int x3, .int (nI 2), .ref r0] rfl ⟨rfl, rfl, rfl, rfl⟩ ?_
          refine Wp.go (x := (.iadd, 1, 0, 0)) rfl 82 [some (.ref r0), some (.int x1), some (.int v3), some (.int x3), some (.int v3)] [.int ((nI 2) + x3), .ref r0] rfl ⟨rfl, rfl, rfl, rfl⟩ ?_
          refine Wp.pI rfl rfl hn_r0 rfl (Or.inl rfl) ?_
          refine Wp.ii (v := (-1)) rfl rfl (by decide) rfl (L' := [some (.ref r0), some (.int x1), some (.int v3), some (.int (x3 + (-1))), some (.int v3)]) rfl ?_
          refine Wp.go (x := (.goto (-47), 3, 41, 0)) rfl 41 [some (.ref r0), some (.int x1), some (.int v3), some (.int (x3 + (-1))), some (.int v3)] [] rfl ⟨rfl, rfl, rfl, rfl⟩ ?_
          exact Wp.wk (L := [some (.ref r0), some (.int x1), some (.int v3), some (.int (x3 + (-1))), none]) ⟨Or.inr rfl, Or.inr rfl, Or.inr rfl, Or.inr rfl, Or.inl rfl, trivial⟩ H
set_option maxRecDepth 20000 in
theorem wX11_addStep_0 {d : Nat} {Q : Option Value × xS → Prop} {K : Nat → Nat × Nat} {P : List Nat × Nat × Nat} {I : Nat → Nat → Int32} {J : Nat → Nat → Int64} {F : Nat → Nat → Option Nat} {r0 : Nat} {x1 : Int32} {x2 : Int32} {x3 : Int32} {x4 : Int32} {n_r0 : Nat} {f1 : Nat} {n_f1 : Nat} {f3 : Nat} {n_f3 : Nat} {f5 : Nat} {n_f5 : Nat} {f7 : Nat} {n_f7 : Nat} (hK : ∀ {a k n : Nat}, K a = (k, n) → n < 2147483648) (hn_r0 : K r0 = (10, n_r0)) (hf1 : F r0 12 = some f1) (hn_f1 : K f1 = (100, n_f1)) (hf3 : F r0 15 = some f3) (hn_f3 : K f3 = (100, n_f3)) (hf5 : F r0 13 = some f5) (hn_f5 : K f5 = (100, n_f5)) (hf7 : F r0 14 = some f7) (hn_f7 : K f7 = (100, n_f7)) (H : (∃ j2 : Nat, (I r0 11) = nI j2 ∧ j2 < n_f1 ∧ (∃ j4 : Nat, (((xup I f1 j2 x1)) r0 11) = nI j4 ∧ j4 < n_f3 ∧ (∃ j6 : Nat, (((xup ((xup I f1 j2 x1)) f3 j4 x2)) r0 11) = nI j6 ∧ j6 < n_f5 ∧ (∃ j8 : Nat, (((xup ((xup ((xup I f1 j2 x1)) f3 j4 x2)) f5 j6 x3)) r0 11) = nI j8 ∧ j8 < n_f7 ∧ Q (none, (K, P, (xup ((xup ((xup ((xup ((xup I f1 j2 x1)) f3 j4 x2)) f5 j6 x3)) f7 j8 x4)) r0 11 ((((xup ((xup ((xup ((xup I f1 j2 x1)) f3 j4 x2)) f5 j6 x3)) f7 j8 x4)) r0 11) + (nI 1))), J, F))))))) : Wp d 124 0 [some (.ref r0), some (.int x1), some (.int x2), some (.int x3), some (.int x4)] [] (K, P, I, J, F) Q := by
  refine Wp.go (x := (.aload_n 0, 1, 0, 0)) rfl 1 [some (.ref r0), some (.int x1), some (.int x2), some (.int x3), some (.int x4)] [.ref r0] rfl ⟨rfl, rfl, rfl, rfl⟩ ?_
  refine Wp.gR rfl rfl hn_r0 rfl rfl hf1 ?_
  refine Wp.go (x := (.aload_n 0, 1, 0, 0)) rfl 5 [some (.ref r0), some (.int x1), some (.int x2), some (.int x3), some (.int x4)] [.ref r0, .ref f1] rfl ⟨rfl, rfl, rfl, rfl⟩ ?_
  refine Wp.gI rfl rfl hn_r0 rfl ⟨by decide, by decide⟩ ?_
  refine Wp.go (x := (.iload_n 1, 1, 0, 0)) rfl 9 [some (.ref r0), some (.int x1), some (.int x2), some (.int x3), some (.int x4)] [.int x1, .int (I r0 11), .ref f1] rfl ⟨rfl, rfl, rfl, rfl⟩ ?_
  obtain ⟨j2, e, b, H⟩ := H
  refine Wp.ast rfl rfl hn_f1 (hK hn_f1) ⟨j2, e, b, ?_⟩
  refine Wp.go (x := (.aload_n 0, 1, 0, 0)) rfl 11 [some (.ref r0), some (.int x1), some (.int x2), some (.int x3), some (.int x4)] [.ref r0] rfl ⟨rfl, rfl, rfl, rfl⟩ ?_
  refine Wp.gR rfl rfl hn_r0 rfl rfl hf3 ?_
  refine Wp.go (x := (.aload_n 0, 1, 0, 0)) rfl 15 [some (.ref r0), some (.int x1), some (.int x2), some (.int x3), some (.int x4)] [.ref r0, .ref f3] rfl ⟨rfl, rfl, rfl, rfl⟩ ?_
  refine Wp.gI rfl rfl hn_r0 rfl ⟨by decide, by decide⟩ ?_
  refine Wp.go (x := (.iload_n 2, 1, 0, 0)) rfl 19 [some (.ref r0), some (.int x1), some (.int x2), some (.int x3), some (.int x4)] [.int x2, .int (((xup I f1 j2 x1)) r0 11), .ref f3] rfl ⟨rfl, rfl, rfl, rfl⟩ ?_
  obtain ⟨j4, e, b, H⟩ := H
  refine Wp.ast rfl rfl hn_f3 (hK hn_f3) ⟨j4, e, b, ?_⟩
  refine Wp.go (x := (.aload_n 0, 1, 0, 0)) rfl 21 [some (.ref r0), some (.int x1), some (.int x2), some (.int x3), some (.int x4)] [.ref r0] rfl ⟨rfl, rfl, rfl, rfl⟩ ?_
  refine Wp.gR rfl rfl hn_r0 rfl rfl hf5 ?_
  refine Wp.go (x := (.aload_n 0, 1, 0, 0)) rfl 25 [some (.ref r0), some (.int x1), some (.int x2), some (.int x3), some (.int x4)] [.ref r0, .ref f5] rfl ⟨rfl, rfl, rfl, rfl⟩ ?_
  refine Wp.gI rfl rfl hn_r0 rfl ⟨by decide, by decide⟩ ?_
  refine Wp.go (x := (.iload_n 3, 1, 0, 0)) rfl 29 [some (.ref r0), some (.int x1), some (.int x2), some (.int x3), some (.int x4)] [.int x3, .int (((xup ((xup I f1 j2 x1)) f3 j4 x2)) r0 11), .ref f5] rfl ⟨rfl, rfl, rfl, rfl⟩ ?_
  obtain ⟨j6, e, b, H⟩ := H
  refine Wp.ast rfl rfl hn_f5 (hK hn_f5) ⟨j6, e, b, ?_⟩
  refine Wp.go (x := (.aload_n 0, 1, 0, 0)) rfl 31 [some (.ref r0), some (.int x1), some (.int x2), some (.int x3), some (.int x4)] [.ref r0] rfl ⟨rfl, rfl, rfl, rfl⟩ ?_
  refine Wp.gR rfl rfl hn_r0 rfl rfl hf7 ?_
  refine Wp.go (x := (.aload_n 0, 1, 0, 0)) rfl 35 [some (.ref r0), some (.int x1), some (.int x2), some (.int x3), some (.int x4)] [.ref r0, .ref f7] rfl ⟨rfl, rfl, rfl, rfl⟩ ?_
  refine Wp.gI rfl rfl hn_r0 rfl ⟨by decide, by decide⟩ ?_
  refine Wp.go (x := (.iload 4, 2, 0, 0)) rfl 40 [some (.ref r0), some (.int x1), some (.int x2), some (.int x3), some (.int x4)] [.int x4, .int (((xup ((xup ((xup I f1 j2 x1)) f3 j4 x2)) f5 j6 x3)) r0 11), .ref f7] rfl ⟨rfl, rfl, rfl, rfl⟩ ?_
  obtain ⟨j8, e, b, H⟩ := H
  refine Wp.ast rfl rfl hn_f7 (hK hn_f7) ⟨j8, e, b, ?_⟩
  refine Wp.go (x := (.aload_n 0, 1, 0, 0)) rfl 42 [some (.ref r0), some (.int x1), some (.int x2), some (.int x3), some (.int x4)] [.ref r0] rfl ⟨rfl, rfl, rfl, rfl⟩ ?_
  refine Wp.go (x := (.dup, 1, 0, 0)) rfl 43 [some (.ref r0), some (.int x1), some (.int x2), some (.int x3), some (.int x4)] [.ref r0, .ref r0] rfl ⟨rfl, rfl, rfl, rfl⟩ ?_
  refine Wp.gI rfl rfl hn_r0 rfl ⟨by decide, by decide⟩ ?_
  refine Wp.ic (v := nI 1) rfl rfl (by decide) ?_
  refine Wp.go (x := (.iadd, 1, 0, 0)) rfl 48 [some (.ref r0), some (.int x1), some (.int x2), some (.int x3), some (.int x4)] [.int ((((xup ((xup ((xup ((xup I f1 j2 x1)) f3 j4 x2)) f5 j6 x3)) f7 j8 x4)) r0 11) + (nI 1)), .ref r0] rfl ⟨rfl, rfl, rfl, rfl⟩ ?_
  refine Wp.pI rfl rfl hn_r0 rfl (Or.inl rfl) ?_
  exact Wp.rV rfl rfl H
set_option maxRecDepth 20000 in
theorem wX11_greedy_0 {d : Nat} {Q : Option Value × xS → Prop} {K : Nat → Nat × Nat} {P : List Nat × Nat × Nat} {I : Nat → Nat → Int32} {J : Nat → Nat → Int64} {F : Nat → Nat → Option Nat} {r0 : Nat} {x1 : Int32} {n_r0 : Nat} (hn_r0 : K r0 = (10, n_r0)) (H : Wp d 121 0 [some (.ref r0), none] [] (K, P, (xup I r0 11 (nI 0)), J, F) (xrV K P F (fun I1 J2 => Wp (d + 1) 125 11 [some (.ref r0), some (.int x1), some (.int (nI 0)), none, none, none] [] (K, P, I1, J2, F) Q))) : Wp (d + 1) 125 0 [some (.ref r0), some (.int x1), none, none, none, none] [] (K, P, I, J, F) Q := by
  refine Wp.go (x := (.aload_n 0, 1, 0, 0)) rfl 1 [some (.ref r0), some (.int x1), none, none, none, none] [.ref r0] rfl ⟨rfl, rfl, rfl, rfl⟩ ?_
  refine Wp.ic (v := nI 0) rfl rfl (by decide) ?_
  refine Wp.pI rfl rfl hn_r0 rfl (Or.inl rfl) ?_
  refine Wp.go (x := (.aload_n 0, 1, 0, 0)) rfl 6 [some (.ref r0), some (.int x1), none, none, none, none] [.ref r0] rfl ⟨rfl, rfl, rfl, rfl⟩ ?_
  refine Wp.kV (x := (.invokevirtual 202, 3, 121, 1)) (j := 121) (vs := [.ref r0]) (rest := []) rfl (by show xtg 121 (K r0).1 = _; rw [hn_r0]; rfl) rfl ⟨Nat.le_of_ble_eq_true rfl, Nat.le_of_ble_eq_true rfl, Nat.le_of_ble_eq_true rfl⟩ rfl rfl rfl H (fun I1 J2 H => ?_)
  refine Wp.ic (v := nI 0) rfl rfl (by decide) ?_
  refine Wp.go (x := (.istore_n 2, 1, 0, 0)) rfl 11 [some (.ref r0), some (.int x1), some (.int (nI 0)), none, none, none] [] rfl ⟨rfl, rfl, rfl, rfl⟩ ?_
  exact H
set_option maxRecDepth 20000 in
theorem wX11_greedy_11 {d : Nat} {Q : Option Value × xS → Prop} {K : Nat → Nat × Nat} {P : List Nat × Nat × Nat} {I : Nat → Nat → Int32} {J : Nat → Nat → Int64} {F : Nat → Nat → Option Nat} {r0 : Nat} {x1 : Int32} {x2 : Int32} {n_r0 : Nat} (hn_r0 : K r0 = (10, n_r0)) (H : (((I r0 3) ≤ x2 → Wp d 120 0 [some (.ref r0), none, none, none, none] [] (K, P, I, J, F) (xrJ K P F (fun v1 I2 J3 => Q (none, (K, P, (xup I2 r0 17 (nI 0)), (xup J3 r0 16 v1), F))))) ∧ (¬ (I r0 3) ≤ x2 → Wp d 123 0 [some (.ref r0), some (.int x2), none, none, none] [] (K, P, I, J, F) (xrI K P F (fun v4 I5 J6 => Wp (d + 1) 125 31 [some (.ref r0), some (.int x1), some (.int x2), some (.int v4), some (.int (nI 0)), some (.int (nI 1))] [] (K, P, I5, J6, F) Q))))) : Wp (d + 1) 125 11 [some (.ref r0), some (.int x1), some (.int x2), none, none, none] [] (K, P, I, J, F) Q := by
  refine Wp.go (x := (.iload_n 2, 1, 0, 0)) rfl 12 [some (.ref r0), some (.int x1), some (.int x2), none, none, none] [.int x2] rfl ⟨rfl, rfl, rfl, rfl⟩ ?_
  refine Wp.go (x := (.aload_n 0, 1, 0, 0)) rfl 13 [some (.ref r0), some (.int x1), some (.int x2), none, none, none] [.ref r0, .int x2] rfl ⟨rfl, rfl, rfl, rfl⟩ ?_
  refine Wp.gI rfl rfl hn_r0 rfl ⟨by decide, by decide⟩ ?_
  refine Wp.c_ge rfl rfl ⟨fun c => ?_, fun c => ?_⟩
  · have H := H.1 c
    refine Wp.go (x := (.aload_n 0, 1, 0, 0)) rfl 195 [some (.ref r0), some (.int x1), some (.int x2), none, none, none] [.ref r0] rfl ⟨rfl, rfl, rfl, rfl⟩ ?_
    refine Wp.go (x := (.aload_n 0, 1, 0, 0)) rfl 196 [some (.ref r0), some (.int x1), some (.int x2), none, none, none] [.ref r0, .ref r0] rfl ⟨rfl, rfl, rfl, rfl⟩ ?_
    refine Wp.kJ (x := (.invokevirtual 216, 3, 120, 1)) (j := 120) (vs := [.ref r0]) (rest := [.ref r0]) rfl (by show xtg 120 (K r0).1 = _; rw [hn_r0]; rfl) rfl ⟨Nat.le_of_ble_eq_true rfl, Nat.le_of_ble_eq_true rfl, Nat.le_of_ble_eq_true rfl⟩ rfl rfl rfl H (fun v1 I2 J3 H => ?_)
    refine Wp.pJ rfl rfl hn_r0 rfl rfl ?_
    refine Wp.go (x := (.aload_n 0, 1, 0, 0)) rfl 203 [some (.ref r0), some (.int x1), some (.int x2), none, none, none] [.ref r0] rfl ⟨rfl, rfl, rfl, rfl⟩ ?_
    refine Wp.ic (v := nI 0) rfl rfl (by decide) ?_
    refine Wp.pI rfl rfl hn_r0 rfl (Or.inr ⟨rfl, Or.inl rfl⟩) ?_
    exact Wp.rV rfl rfl H
  · have H := H.2 c
    refine Wp.go (x := (.aload_n 0, 1, 0, 0)) rfl 20 [some (.ref r0), some (.int x1), some (.int x2), none, none, none] [.ref r0] rfl ⟨rfl, rfl, rfl, rfl⟩ ?_
    refine Wp.go (x := (.iload_n 2, 1, 0, 0)) rfl 21 [some (.ref r0), some (.int x1), some (.int x2), none, none, none] [.int x2, .ref r0] rfl ⟨rfl, rfl, rfl, rfl⟩ ?_
    refine Wp.kI (x := (.invokevirtual 205, 3, 123, 2)) (j := 123) (vs := [.ref r0, .int x2]) (rest := []) rfl (by show xtg 123 (K r0).1 = _; rw [hn_r0]; rfl) rfl ⟨Nat.le_of_ble_eq_true rfl, Nat.le_of_ble_eq_true rfl, Nat.le_of_ble_eq_true rfl⟩ rfl rfl rfl H (fun v4 I5 J6 H => ?_)
    refine Wp.go (x := (.istore_n 3, 1, 0, 0)) rfl 25 [some (.ref r0), some (.int x1), some (.int x2), some (.int v4), none, none] [] rfl ⟨rfl, rfl, rfl, rfl⟩ ?_
    refine Wp.ic (v := nI 0) rfl rfl (by decide) ?_
    refine Wp.go (x := (.istore 4, 2, 0, 0)) rfl 28 [some (.ref r0), some (.int x1), some (.int x2), some (.int v4), some (.int (nI 0)), none] [] rfl ⟨rfl, rfl, rfl, rfl⟩ ?_
    refine Wp.ic (v := nI 1) rfl rfl (by decide) ?_
    refine Wp.go (x := (.istore 5, 2, 0, 0)) rfl 31 [some (.ref r0), some (.int x1), some (.int x2), some (.int v4), some (.int (nI 0)), some (.int (nI 1))] [] rfl ⟨rfl, rfl, rfl, rfl⟩ ?_
    exact H
set_option maxRecDepth 20000 in
theorem wX11_greedy_31 {d : Nat} {Q : Option Value × xS → Prop} {K : Nat → Nat × Nat} {P : List Nat × Nat × Nat} {I : Nat → Nat → Int32} {J : Nat → Nat → Int64} {F : Nat → Nat → Option Nat} {r0 : Nat} {x1 : Int32} {x2 : Int32} {x3 : Int32} {x4 : Int32} {x5 : Int32} {n_r0 : Nat} {f6 : Nat} {n_f6 : Nat} {f12 : Nat} {n_f12 : Nat} (hK : ∀ {a k n : Nat}, K a = (k, n) → n < 2147483648) (hn_r0 : K r0 = (10, n_r0)) (hf6 : F r0 21 = some f6) (hn_f6 : K f6 = (100, n_f6)) (hf12 : F r0 20 = some f12) (hn_f12 : K f12 = (100, n_f12)) (H : ((x1 < x5 → Wp d 123 0 [some (.ref r0), some (.int x2), none, none, none] [] (K, P, I, J, F) (xrI K P F (fun v1 I2 J3 => ((v1 = 0 → Wp d 124 0 [some (.ref r0), some (.int x2), some (.int (nI 0)), some (.int (nI 1)), some (.int (nI 0))] [] (K, P, I2, J3, F) (xrV K P F (fun I4 J5 => Wp (d + 1) 125 11 [some (.ref r0), some (.int x1), some (.int (x2 + nI 1)), none, none, none] [] (K, P, I4, J5, F) Q))) ∧ (¬ v1 = 0 → ((x4 = 0 → ((¬ (I2 r0 22) = (nI 1) → (∃ j7 : Nat, ((I2 r0 22) - (nI 2)) = nI j7 ∧ j7 < n_f6 ∧ Wp d 124 0 [some (.ref r0), some (.int x2), some (.int (I2 r0 22)), some (.int v1), some (.int (I2 f6 j7))] [] (K, P, I2, J3, F) (xrV K P F (fun I8 J9 => Wp d 122 0 [some (.ref r0), some (.int (I2 f6 j7)), some (.int ((I8 r0 22) - (nI 2))), none] [] (K, P, I8, J9, F) (xrV K P F (fun I10 J11 => Wp (d + 1) 125 11 [some (.ref r0), some (.int x1), some (.int (x2 + v1)), none, none, none] [] (K, P, I10, J11, F) Q)))))) ∧ ((I2 r0 22) = (nI 1) → (∃ j13 : Nat, (((nI 301) * x2) + v1) = nI j13 ∧ j13 < n_f12 ∧ Wp d 124 0 [some (.ref r0), some (.int x2), some (.int (nI 1)), some (.int v1), some (.int (I2 f12 j13))] [] (K, P, I2, J3, F) (xrV K P F (fun I14 J15 => Wp d 122 0 [some (.ref r0), some (.int (I2 f12 j13)), some (.int (nI 3)), none] [] (K, P, I14, J15, F) (xrV K P F (fun I16 J17 => Wp (d + 1) 125 11 [some (.ref r0), some (.int x1), some (.int (x2 + v1)), none, none, none] [] (K, P, I16, J17, F) Q)))))))) ∧ (¬ x4 = 0 → Wp d 124 0 [some (.ref r0), some (.int x2), some (.int (nI 0)), some (.int (nI 1)), some (.int (nI 0))] [] (K, P, I2, J3, F) (xrV K P F (fun I18 J19 => Wp (d + 1) 125 11 [some (.ref r0), some (.int x1), some (.int (x2 + nI 1)), none, none, none] [] (K, P, I18, J19, F) Q))))))))) ∧ (¬ x1 < x5 → (((I r0 3) ≤ (x2 + x5) → Wp (d + 1) 125 31 [some (.ref r0), some (.int x1), some (.int x2), some (.int x3), some (.int (x4 ||| (nI 0))), some (.int (x5 + nI 1))] [] (K, P, I, J, F) Q) ∧ (¬ (I r0 3) ≤ (x2 + x5) → Wp d 123 0 [some (.ref r0), some (.int (x2 + x5)), none, none, none] [] (K, P, I, J, F) (xrI K P F (fun v20 I21 J22 => ((v20 ≤ x3 → Wp (d + 1) 125 31 [some (.ref r0), some (.int x1), some (.int x2), some (.int x3), some (.int (x4 ||| (nI 0))), some (.int (x5 + nI 1))] [] (K, P, I21, J22, F) Q) ∧ (¬ v20 ≤ x3 → Wp (d + 1) 125 31 [some (.ref r0), some (.int x1), some (.int x2), some (.int x3), some (.int (x4 ||| (nI 1))), some (.int (x5 + nI 1))] [] (K, P, I21, J22, F) Q))))))))) : Wp (d + 1) 125 31 [some (.ref r0), some (.int x1), some (.int x2), some (.int x3), some (.int x4), some (.int x5)] [] (K, P, I, J, F) Q := by
  refine Wp.go (x := (.iload 5, 2, 0, 0)) rfl 33 [some (.ref r0), some (.int x1), some (.int x2), some (.int x3), some (.int x4), some (.int x5)] [.int x5] rfl ⟨rfl, rfl, rfl, rfl⟩ ?_
  refine Wp.go (x := (.iload_n 1, 1, 0, 0)) rfl 34 [some (.ref r0), some (.int x1), some (.int x2), some (.int x3), some (.int x4), some (.int x5)] [.int x1, .int x5] rfl ⟨rfl, rfl, rfl, rfl⟩ ?_
  refine Wp.c_gt rfl rfl ⟨fun c => ?_, fun c => ?_⟩
  · have H := H.1 c
    refine Wp.go (x := (.aload_n 0, 1, 0, 0)) rfl 77 [some (.ref r0), some (.int x1), some (.int x2), some (.int x3), some (.int x4), some (.int x5)] [.ref r0] rfl ⟨rfl, rfl, rfl, rfl⟩ ?_
    refine Wp.go (x := (.iload_n 2, 1, 0, 0)) rfl 78 [some (.ref r0), some (.int x1), some (.int x2), some (.int x3), some (.int x4), some (.int x5)] [.int x2, .ref r0] rfl ⟨rfl, rfl, rfl, rfl⟩ ?_
    refine Wp.kI (x := (.invokevirtual 205, 3, 123, 2)) (j := 123) (vs := [.ref r0, .int x2]) (rest := []) rfl (by show xtg 123 (K r0).1 = _; rw [hn_r0]; rfl) rfl ⟨Nat.le_of_ble_eq_true rfl, Nat.le_of_ble_eq_true rfl, Nat.le_of_ble_eq_true rfl⟩ rfl rfl rfl H (fun v1 I2 J3 H => ?_)
    refine Wp.go (x := (.istore_n 3, 1, 0, 0)) rfl 82 [some (.ref r0), some (.int x1), some (.int x2), some (.int v1), some (.int x4), some (.int x5)] [] rfl ⟨rfl, rfl, rfl, rfl⟩ ?_
    refine Wp.go (x := (.iload_n 3, 1, 0, 0)) rfl 83 [some (.ref r0), some (.int x1), some (.int x2), some (.int v1), some (.int x4), some (.int x5)] [.int v1] rfl ⟨rfl, rfl, rfl, rfl⟩ ?_
    refine Wp.z_eq rfl rfl ⟨fun c => ?_, fun c => ?_⟩
    · have H := H.1 c
      refine Wp.go (x := (.aload_n 0, 1, 0, 0)) rfl 92 [some (.ref r0), some (.int x1), some (.int x2), some (.int v1), some (.int x4), some (.int x5)] [.ref r0] rfl ⟨rfl, rfl, rfl, rfl⟩ ?_
      refine Wp.go (x := (.iload_n 2, 1, 0, 0)) rfl 93 [some (.ref r0), some (.int x1), some (.int x2), some (.int v1), some (.int x4), some (.int x5)] [.int x2, .ref r0] rfl ⟨rfl, rfl, rfl, rfl⟩ ?_
      refine Wp.ic (v := nI 0) rfl rfl (by decide) ?_
      refine Wp.ic (v := nI 1) rfl rfl (by decide) ?_
      refine Wp.ic (v := nI 0) rfl rfl (by decide) ?_
      refine Wp.kV (x := (.invokevirtual 208, 3, 124, 5)) (j := 124) (vs := [.ref r0, .int x2, .int (nI 0), .int (nI 1), .int (nI 0)]) (rest := []) rfl (by show xtg 124 (K r0).1 = _; rw [hn_r0]; rfl) rfl ⟨Nat.le_of_ble_eq_true rfl, Nat.le_of_ble_eq_true rfl, Nat.le_of_ble_eq_true rfl⟩ rfl rfl rfl H (fun I4 J5 H => ?_)
      refine Wp.ii (v := nI 1) rfl rfl (by decide) rfl (L' := [some (.ref r0), some (.int x1), some (.int (x2 + nI 1)), some (.int v1), some (.int x4), some (.int x5)]) rfl ?_
      refine Wp.go (x := (.goto 89, 3, 191, 0)) rfl 191 [some (.ref r0), some (.int x1), some (.int (x2 + nI 1)), some (.int v1), some (.int x4), some (.int x5)] [] rfl ⟨rfl, rfl, rfl, rfl⟩ ?_
      refine Wp.go (x := (.goto (-180), 3, 11, 0)) rfl 11 [some (.ref r0), some (.int x1), some (.int (x2 + nI 1)), some (.int v1), some (.int x4), some (.int x5)] [] rfl ⟨rfl, rfl, rfl, rfl⟩ ?_
      exact Wp.wk (L := [some (.ref r0), some (.int x1), some (.int (x2 + nI 1)), none, none, none]) ⟨Or.inr rfl, Or.inr rfl, Or.inr rfl, Or.inl rfl, Or.inl rfl, Or.inl rfl, trivial⟩ H
    · have H := H.2 c
      refine Wp.go (x := (.iload 4, 2, 0, 0)) rfl 88 [some (.ref r0), some (.int x1), some (.int x2), some (.int v1), some (.int x4), some (.int x5)] [.int x4] rfl ⟨rfl, rfl, rfl, rfl⟩ ?_
      refine Wp.z_eq rfl rfl ⟨fun c => ?_, fun c => ?_⟩
      · have H := H.1 c
        refine Wp.go (x := (.aload_n 0, 1, 0, 0)) rfl 106 [some (.ref r0), some (.int x1), some (.int x2), some (.int v1), some (.int x4), some (.int x5)] [.ref r0] rfl ⟨rfl, rfl, rfl, rfl⟩ ?_
        refine Wp.gI rfl rfl hn_r0 rfl ⟨by decide, by decide⟩ ?_
        refine Wp.ic (v := nI 1) rfl rfl (by decide) ?_
        refine Wp.c_ne rfl rfl ⟨fun c => ?_, fun c => ?_⟩
        · have H := H.1 c
          refine Wp.go (x := (.aload_n 0, 1, 0, 0)) rfl 151 [some (.ref r0), some (.int x1), some (.int x2), some (.int v1), some (.int x4), some (.int x5)] [.ref r0] rfl ⟨rfl, rfl, rfl, rfl⟩ ?_
          refine Wp.gR rfl rfl hn_r0 rfl rfl hf6 ?_
          refine Wp.go (x := (.aload_n 0, 1, 0, 0)) rfl 155 [some (.ref r0), some (.int x1), some (.int x2), some (.int v1), some (.int x4), some (.int x5)] [.ref r0, .ref f6] rfl ⟨rfl, rfl, rfl, rfl⟩ ?_
          refine Wp.gI rfl rfl hn_r0 rfl ⟨by decide, by decide⟩ ?_
          refine Wp.ic (v := nI 2) rfl rfl (by decide) ?_
          refine Wp.go (x := (.isub, 1, 0, 0)) rfl 160 [some (.ref r0), some (.int x1), some (.int x2), some (.int v1), some (.int x4), some (.int x5)] [.int ((I2 r0 22) - (nI 2)), .ref f6] rfl ⟨rfl, rfl, rfl, rfl⟩ ?_
          obtain ⟨j7, e, b, H⟩ := H
          refine Wp.ald rfl rfl hn_f6 (Or.inl rfl) (hK hn_f6) ⟨j7, e, b, ?_⟩
          refine Wp.go (x := (.istore 5, 2, 0, 0)) rfl 163 [some (.ref r0), some (.int x1), some (.int x2), some (.int v1), some (.int x4), some (.int (I2 f6 j7))] [] rfl ⟨rfl, rfl, rfl, rfl⟩ ?_
          refine Wp.go (x := (.aload_n 0, 1, 0, 0)) rfl 164 [some (.ref r0), some (.int x1), some (.int x2), some (.int v1), some (.int x4), some (.int (I2 f6 j7))] [.ref r0] rfl ⟨rfl, rfl, rfl, rfl⟩ ?_
          refine Wp.go (x := (.iload_n 2, 1, 0, 0)) rfl 165 [some (.ref r0), some (.int x1), some (.int x2), some (.int v1), some (.int x4), some (.int (I2 f6 j7))] [.int x2, .ref r0] rfl ⟨rfl, rfl, rfl, rfl⟩ ?_
          refine Wp.go (x := (.aload_n 0, 1, 0, 0)) rfl 166 [some (.ref r0), some (.int x1), some (.int x2), some (.int v1), some (.int x4), some (.int (I2 f6 j7))] [.ref r0, .int x2, .ref r0] rfl ⟨rfl, rfl, rfl, rfl⟩ ?_
          refine Wp.gI rfl rfl hn_r0 rfl ⟨by decide, by decide⟩ ?_
          refine Wp.go (x := (.iload_n 3, 1, 0, 0)) rfl 170 [some (.ref r0), some (.int x1), some (.int x2), some (.int v1), some (.int x4), some (.int (I2 f6 j7))] [.int v1, .int (I2 r0 22), .int x2, .ref r0] rfl ⟨rfl, rfl, rfl, rfl⟩ ?_
          refine Wp.go (x := (.iload 5, 2, 0, 0)) rfl 172 [some (.ref r0), some (.int x1), some (.int x2), some (.int v1), some (.int x4), some (.int (I2 f6 j7))] [.int (I2 f6 j7), .int v1, .int (I2 r0 22), .int x2, .ref r0] rfl ⟨rfl, rfl, rfl, rfl⟩ ?_
          refine Wp.kV (x := (.invokevirtual 208, 3, 124, 5)) (j := 124) (vs := [.ref r0, .int x2, .int (I2 r0 22), .int v1, .int (I2 f6 j7)]) (rest := []) rfl (by show xtg 124 (K r0).1 = _; rw [hn_r0]; rfl) rfl ⟨Nat.le_of_ble_eq_true rfl, Nat.le_of_ble_eq_true rfl, Nat.le_of_ble_eq_true rfl⟩ rfl rfl rfl H (fun I8 J9 H => ?_)
          refine Wp.go (x := (.aload_n 0, 1, 0, 0)) rfl 176 [some (.ref r0), some (.int x1), some (.int x2), some (.int v1), some (.int x4), some (.int (I2 f6 j7))] [.ref r0] rfl ⟨rfl, rfl, rfl, rfl⟩ ?_
          refine Wp.go (x := (.iload 5, 2, 0, 0)) rfl 178 [some (.ref r0), some (.int x1), some (.int x2), some (.int v1), some (.int x4), some (.int (I2 f6 j7))] [.int (I2 f6 j7), .ref r0] rfl ⟨rfl, rfl, rfl, rfl⟩ ?_
          refine Wp.go (x := (.aload_n 0, 1, 0, 0)) rfl 179 [some (.ref r0), some (.int x1), some (.int x2), some (.int v1), some (.int x4), some (.int (I2 f6 j7))] [.ref r0, .int (I2 f6 j7), .ref r0] rfl ⟨rfl, rfl, rfl, rfl⟩ ?_
          refine Wp.gI rfl rfl hn_r0 rfl ⟨by decide, by decide⟩ ?_
          refine Wp.ic (v := nI 2) rfl rfl (by decide) ?_
          refine Wp.go (x := (.isub, 1, 0, 0)) rfl 184 [some (.ref r0), some (.int x1), some (.int x2), some (.int v1), some (.int x4), some (.int (I2 f6 j7))] [.int ((I8 r0 22) - (nI 2)), .int (I2 f6 j7), .ref r0] rfl ⟨rfl, rfl, rfl, rfl⟩ ?_
          refine Wp.kV (x := (.invokevirtual 212, 3, 122, 3)) (j := 122) (vs := [.ref r0, .int (I2 f6 j7), .int ((I8 r0 22) - (nI 2))]) (rest := []) rfl (by show xtg 122 (K r0).1 = _; rw [hn_r0]; rfl) rfl ⟨Nat.le_of_ble_eq_true rfl, Nat.le_of_ble_eq_true rfl, Nat.le_of_ble_eq_true rfl⟩ rfl rfl rfl H (fun I10 J11 H => ?_)
          refine Wp.go (x := (.iload_n 2, 1, 0, 0)) rfl 188 [some (.ref r0), some (.int x1), some (.int x2), some (.int v1), some (.int x4), some (.int (I2 f6 j7))] [.int x2] rfl ⟨rfl, rfl, rfl, rfl⟩ ?_
          refine Wp.go (x := (.iload_n 3, 1, 0, 0)) rfl 189 [some (.ref r0), some (.int x1), some (.int x2), some (.int v1), some (.int x4), some (.int (I2 f6 j7))] [.int v1, .int x2] rfl ⟨rfl, rfl, rfl, rfl⟩ ?_
          refine Wp.go (x := (.iadd, 1, 0, 0)) rfl 190 [some (.ref r0), some (.int x1), some (.int x2), some (.int v1), some (.int x4), some (.int (I2 f6 j7))] [.int (x2 + v1)] rfl ⟨rfl, rfl, rfl, rfl⟩ ?_
          refine Wp.go (x := (.istore_n 2, 1, 0, 0)) rfl 191 [some (.ref r0), some (.int x1), some (.int (x2 + v1)), some (.int v1), some (.int x4), some (.int (I2 f6 j7))] [] rfl ⟨rfl, rfl, rfl, rfl⟩ ?_
          refine Wp.go (x := (.goto (-180), 3, 11, 0)) rfl 11 [some (.ref r0), some (.int x1), some (.int (x2 + v1)), some (.int v1), some (.int x4), some (.int (I2 f6 j7))] [] rfl ⟨rfl, rfl, rfl, rfl⟩ ?_
          exact Wp.wk (L := [some (.ref r0), some (.int x1), some (.int (x2 + v1)), none, none, none]) ⟨Or.inr rfl, Or.inr rfl, Or.inr rfl, Or.inl rfl, Or.inl rfl, Or.inl rfl, trivial⟩ H
        · have H := H.2 c
          refine Wp.go (x := (.aload_n 0, 1, 0, 0)) rfl 114 [some (.ref r0), some (.int x1), some (.int x2), some (.int v1), some (.int x4), some (.int x5)] [.ref r0] rfl ⟨rfl, rfl, rfl, rfl⟩ ?_
          refine Wp.gR rfl rfl hn_r0 rfl rfl hf12 ?_
          refine Wp.sp (v := nI 301) rfl rfl (by decide) ?_
          refine Wp.go (x := (.iload_n 2, 1, 0, 0)) rfl 121 [some (.ref r0), some (.int x1), some (.int x2), some (.int v1), some (.int x4), some (.int x5)] [.int x2, .int (nI 301), .ref f12] rfl ⟨rfl, rfl, rfl, rfl⟩ ?_
          refine Wp.go (x := (.imul, 1, 0, 0)) rfl 122 [some (.ref r0), some (.int x1), some (.int x2), some (.int v1), some (.int x4), some (.int x5)] [.int ((nI 301) * x2), .ref f12] rfl ⟨rfl, rfl, rfl, rfl⟩ ?_
          refine Wp.go (x := (.iload_n 3, 1, 0, 0)) rfl 123 [some (.ref r0), some (.int x1), some (.int x2), some (.int v1), some (.int x4), some (.int x5)] [.int v1, .int ((nI 301) * x2), .ref f12] rfl ⟨rfl, rfl, rfl, rfl⟩ ?_
          refine Wp.go (x := (.iadd, 1, 0, 0)) rfl 124 [some (.ref r0), some (.int x1), some (.int x2), some (.int v1), some (.int x4), some (.int x5)] [.int (((nI 301) * x2) + v1), .ref f12] rfl ⟨rfl, rfl, rfl, rfl⟩ ?_
          obtain ⟨j13, e, b, H⟩ := H
          refine Wp.ald rfl rfl hn_f12 (Or.inl rfl) (hK hn_f12) ⟨j13, e, b, ?_⟩
          refine Wp.go (x := (.istore 5, 2, 0, 0)) rfl 127 [some (.ref r0), some (.int x1), some (.int x2), some (.int v1), some (.int x4), some (.int (I2 f12 j13))] [] rfl ⟨rfl, rfl, rfl, rfl⟩ ?_
          refine Wp.go (x := (.aload_n 0, 1, 0, 0)) rfl 128 [some (.ref r0), some (.int x1), some (.int x2), some (.int v1), some (.int x4), some (.int (I2 f12 j13))] [.ref r0] rfl ⟨rfl, rfl, rfl, rfl⟩ ?_
          refine Wp.go (x := (.iload_n 2, 1, 0, 0)) rfl 129 [some (.ref r0), some (.int x1), some (.int x2), some (.int v1), some (.int x4), some (.int (I2 f12 j13))] [.int x2, .ref r0] rfl ⟨rfl, rfl, rfl, rfl⟩ ?_
          refine Wp.ic (v := nI 1) rfl rfl (by decide) ?_
          refine Wp.go (x := (.iload_n 3, 1, 0, 0)) rfl 131 [some (.ref r0), some (.int x1), some (.int x2), some (.int v1), some (.int x4), some (.int (I2 f12 j13))] [.int v1, .int (nI 1), .int x2, .ref r0] rfl ⟨rfl, rfl, rfl, rfl⟩ ?_
          refine Wp.go (x := (.iload 5, 2, 0, 0)) rfl 133 [some (.ref r0), some (.int x1), some (.int x2), some (.int v1), some (.int x4), some (.int (I2 f12 j13))] [.int (I2 f12 j13), .int v1, .int (nI 1), .int x2, .ref r0] rfl ⟨rfl, rfl, rfl, rfl⟩ ?_
          refine Wp.kV (x := (.invokevirtual 208, 3, 124, 5)) (j := 124) (vs := [.ref r0, .int x2, .int (nI 1), .int v1, .int (I2 f12 j13)]) (rest := []) rfl (by show xtg 124 (K r0).1 = _; rw [hn_r0]; rfl) rfl ⟨Nat.le_of_ble_eq_true rfl, Nat.le_of_ble_eq_true rfl, Nat.le_of_ble_eq_true rfl⟩ rfl rfl rfl H (fun I14 J15 H => ?_)
          refine Wp.go (x := (.aload_n 0, 1, 0, 0)) rfl 137 [some (.ref r0), some (.int x1), some (.int x2), some (.int v1), some (.int x4), some (.int (I2 f12 j13))] [.ref r0] rfl ⟨rfl, rfl, rfl, rfl⟩ ?_
          refine Wp.go (x := (.iload 5, 2, 0, 0)) rfl 139 [some (.ref r0), some (.int x1), some (.int x2), some (.int v1), some (.int x4), some (.int (I2 f12 j13))] [.int (I2 f12 j13), .ref r0] rfl ⟨rfl, rfl, rfl, rfl⟩ ?_
          refine Wp.ic (v := nI 3) rfl rfl (by decide) ?_
          refine Wp.kV (x := (.invokevirtual 212, 3, 122, 3)) (j := 122) (vs := [.ref r0, .int (I2 f12 j13), .int (nI 3)]) (rest := []) rfl (by show xtg 122 (K r0).1 = _; rw [hn_r0]; rfl) rfl ⟨Nat.le_of_ble_eq_true rfl, Nat.le_of_ble_eq_true rfl, Nat.le_of_ble_eq_true rfl⟩ rfl rfl rfl H (fun I16 J17 H => ?_)
          refine Wp.go (x := (.iload_n 2, 1, 0, 0)) rfl 144 [some (.ref r0), some (.int x1), some (.int x2), some (.int v1), some (.int x4), some (.int (I2 f12 j13))] [.int x2] rfl ⟨rfl, rfl, rfl, rfl⟩ ?_
          refine Wp.go (x := (.iload_n 3, 1, 0, 0)) rfl 145 [some (.ref r0), some (.int x1), some (.int x2), some (.int v1), some (.int x4), some (.int (I2 f12 j13))] [.int v1, .int x2] rfl ⟨rfl, rfl, rfl, rfl⟩ ?_
          refine Wp.go (x := (.iadd, 1, 0, 0)) rfl 146 [some (.ref r0), some (.int x1), some (.int x2), some (.int v1), some (.int x4), some (.int (I2 f12 j13))] [.int (x2 + v1)] rfl ⟨rfl, rfl, rfl, rfl⟩ ?_
          refine Wp.go (x := (.istore_n 2, 1, 0, 0)) rfl 147 [some (.ref r0), some (.int x1), some (.int (x2 + v1)), some (.int v1), some (.int x4), some (.int (I2 f12 j13))] [] rfl ⟨rfl, rfl, rfl, rfl⟩ ?_
          refine Wp.go (x := (.goto 44, 3, 191, 0)) rfl 191 [some (.ref r0), some (.int x1), some (.int (x2 + v1)), some (.int v1), some (.int x4), some (.int (I2 f12 j13))] [] rfl ⟨rfl, rfl, rfl, rfl⟩ ?_
          refine Wp.go (x := (.goto (-180), 3, 11, 0)) rfl 11 [some (.ref r0), some (.int x1), some (.int (x2 + v1)), some (.int v1), some (.int x4), some (.int (I2 f12 j13))] [] rfl ⟨rfl, rfl, rfl, rfl⟩ ?_
          exact Wp.wk (L := [some (.ref r0), some (.int x1), some (.int (x2 + v1)), none, none, none]) ⟨Or.inr rfl, Or.inr rfl, Or.inr rfl, Or.inl rfl, Or.inl rfl, Or.inl rfl, trivial⟩ H
      · have H := H.2 c
        refine Wp.go (x := (.aload_n 0, 1, 0, 0)) rfl 92 [some (.ref r0), some (.int x1), some (.int x2), some (.int v1), some (.int x4), some (.int x5)] [.ref r0] rfl ⟨rfl, rfl, rfl, rfl⟩ ?_
        refine Wp.go (x := (.iload_n 2, 1, 0, 0)) rfl 93 [some (.ref r0), some (.int x1), some (.int x2), some (.int v1), some (.int x4), some (.int x5)] [.int x2, .ref r0] rfl ⟨rfl, rfl, rfl, rfl⟩ ?_
        refine Wp.ic (v := nI 0) rfl rfl (by decide) ?_
        refine Wp.ic (v := nI 1) rfl rfl (by decide) ?_
        refine Wp.ic (v := nI 0) rfl rfl (by decide) ?_
        refine Wp.kV (x := (.invokevirtual 208, 3, 124, 5)) (j := 124) (vs := [.ref r0, .int x2, .int (nI 0), .int (nI 1), .int (nI 0)]) (rest := []) rfl (by show xtg 124 (K r0).1 = _; rw [hn_r0]; rfl) rfl ⟨Nat.le_of_ble_eq_true rfl, Nat.le_of_ble_eq_true rfl, Nat.le_of_ble_eq_true rfl⟩ rfl rfl rfl H (fun I18 J19 H => ?_)
        refine Wp.ii (v := nI 1) rfl rfl (by decide) rfl (L' := [some (.ref r0), some (.int x1), some (.int (x2 + nI 1)), some (.int v1), some (.int x4), some (.int x5)]) rfl ?_
        refine Wp.go (x := (.goto 89, 3, 191, 0)) rfl 191 [some (.ref r0), some (.int x1), some (.int (x2 + nI 1)), some (.int v1), some (.int x4), some (.int x5)] [] rfl ⟨rfl, rfl, rfl, rfl⟩ ?_
        refine Wp.go (x := (.goto (-180), 3, 11, 0)) rfl 11 [some (.ref r0), some (.int x1), some (.int (x2 + nI 1)), some (.int v1), some (.int x4), some (.int x5)] [] rfl ⟨rfl, rfl, rfl, rfl⟩ ?_
        exact Wp.wk (L := [some (.ref r0), some (.int x1), some (.int (x2 + nI 1)), none, none, none]) ⟨Or.inr rfl, Or.inr rfl, Or.inr rfl, Or.inl rfl, Or.inl rfl, Or.inl rfl, trivial⟩ H
  · have H := H.2 c
    refine Wp.go (x := (.iload 4, 2, 0, 0)) rfl 39 [some (.ref r0), some (.int x1), some (.int x2), some (.int x3), some (.int x4), some (.int x5)] [.int x4] rfl ⟨rfl, rfl, rfl, rfl⟩ ?_
    refine Wp.go (x := (.iload_n 2, 1, 0, 0)) rfl 40 [some (.ref r0), some (.int x1), some (.int x2), some (.int x3), some (.int x4), some (.int x5)] [.int x2, .int x4] rfl ⟨rfl, rfl, rfl, rfl⟩ ?_
    refine Wp.go (x := (.iload 5, 2, 0, 0)) rfl 42 [some (.ref r0), some (.int x1), some (.int x2), some (.int x3), some (.int x4), some (.int x5)] [.int x5, .int x2, .int x4] rfl ⟨rfl, rfl, rfl, rfl⟩ ?_
    refine Wp.go (x := (.iadd, 1, 0, 0)) rfl 43 [some (.ref r0), some (.int x1), some (.int x2), some (.int x3), some (.int x4), some (.int x5)] [.int (x2 + x5), .int x4] rfl ⟨rfl, rfl, rfl, rfl⟩ ?_
    refine Wp.go (x := (.aload_n 0, 1, 0, 0)) rfl 44 [some (.ref r0), some (.int x1), some (.int x2), some (.int x3), some (.int x4), some (.int x5)] [.ref r0, .int (x2 + x5), .int x4] rfl ⟨rfl, rfl, rfl, rfl⟩ ?_
    refine Wp.gI rfl rfl hn_r0 rfl ⟨by decide, by decide⟩ ?_
    refine Wp.c_ge rfl rfl ⟨fun c => ?_, fun c => ?_⟩
    · have H := H.1 c
      refine Wp.ic (v := nI 0) rfl rfl (by decide) ?_
      refine Wp.go (x := (.ior, 1, 0, 0)) rfl 68 [some (.ref r0), some (.int x1), some (.int x2), some (.int x3), some (.int x4), some (.int x5)] [.int (x4 ||| (nI 0))] rfl ⟨rfl, rfl, rfl, rfl⟩ ?_
      refine Wp.go (x := (.istore 4, 2, 0, 0)) rfl 70 [some (.ref r0), some (.int x1), some (.int x2), some (.int x3), some (.int (x4 ||| (nI 0))), some (.int x5)] [] rfl ⟨rfl, rfl, rfl, rfl⟩ ?_
      refine Wp.ii (v := nI 1) rfl rfl (by decide) rfl (L' := [some (.ref r0), some (.int x1), some (.int x2), some (.int x3), some (.int (x4 ||| (nI 0))), some (.int (x5 + nI 1))]) rfl ?_
      refine Wp.go (x := (.goto (-42), 3, 31, 0)) rfl 31 [some (.ref r0), some (.int x1), some (.int x2), some (.int x3), some (.int (x4 ||| (nI 0))), some (.int (x5 + nI 1))] [] rfl ⟨rfl, rfl, rfl, rfl⟩ ?_
      exact H
    · have H := H.2 c
      refine Wp.go (x := (.aload_n 0, 1, 0, 0)) rfl 51 [some (.ref r0), some (.int x1), some (.int x2), some (.int x3), some (.int x4), some (.int x5)] [.ref r0, .int x4] rfl ⟨rfl, rfl, rfl, rfl⟩ ?_
      refine Wp.go (x := (.iload_n 2, 1, 0, 0)) rfl 52 [some (.ref r0), some (.int x1), some (.int x2), some (.int x3), some (.int x4), some (.int x5)] [.int x2, .ref r0, .int x4] rfl ⟨rfl, rfl, rfl, rfl⟩ ?_
      refine Wp.go (x := (.iload 5, 2, 0, 0)) rfl 54 [some (.ref r0), some (.int x1), some (.int x2), some (.int x3), some (.int x4), some (.int x5)] [.int x5, .int x2, .ref r0, .int x4] rfl ⟨rfl, rfl, rfl, rfl⟩ ?_
      refine Wp.go (x := (.iadd, 1, 0, 0)) rfl 55 [some (.ref r0), some (.int x1), some (.int x2), some (.int x3), some (.int x4), some (.int x5)] [.int (x2 + x5), .ref r0, .int x4] rfl ⟨rfl, rfl, rfl, rfl⟩ ?_
      refine Wp.kI (x := (.invokevirtual 205, 3, 123, 2)) (j := 123) (vs := [.ref r0, .int (x2 + x5)]) (rest := [.int x4]) rfl (by show xtg 123 (K r0).1 = _; rw [hn_r0]; rfl) rfl ⟨Nat.le_of_ble_eq_true rfl, Nat.le_of_ble_eq_true rfl, Nat.le_of_ble_eq_true rfl⟩ rfl rfl rfl H (fun v20 I21 J22 H => ?_)
      refine Wp.go (x := (.iload_n 3, 1, 0, 0)) rfl 59 [some (.ref r0), some (.int x1), some (.int x2), some (.int x3), some (.int x4), some (.int x5)] [.int x3, .int v20, .int x4] rfl ⟨rfl, rfl, rfl, rfl⟩ ?_
      refine Wp.c_le rfl rfl ⟨fun c => ?_, fun c => ?_⟩
      · have H := H.1 c
        refine Wp.ic (v := nI 0) rfl rfl (by decide) ?_
        refine Wp.go (x := (.ior, 1, 0, 0)) rfl 68 [some (.ref r0), some (.int x1), some (.int x2), some (.int x3), some (.int x4), some (.int x5)] [.int (x4 ||| (nI 0))] rfl ⟨rfl, rfl, rfl, rfl⟩ ?_
        refine Wp.go (x := (.istore 4, 2, 0, 0)) rfl 70 [some (.ref r0), some (.int x1), some (.int x2), some (.int x3), some (.int (x4 ||| (nI 0))), some (.int x5)] [] rfl ⟨rfl, rfl, rfl, rfl⟩ ?_
        refine Wp.ii (v := nI 1) rfl rfl (by decide) rfl (L' := [some (.ref r0), some (.int x1), some (.int x2), some (.int x3), some (.int (x4 ||| (nI 0))), some (.int (x5 + nI 1))]) rfl ?_
        refine Wp.go (x := (.goto (-42), 3, 31, 0)) rfl 31 [some (.ref r0), some (.int x1), some (.int x2), some (.int x3), some (.int (x4 ||| (nI 0))), some (.int (x5 + nI 1))] [] rfl ⟨rfl, rfl, rfl, rfl⟩ ?_
        exact H
      · have H := H.2 c
        refine Wp.ic (v := nI 1) rfl rfl (by decide) ?_
        refine Wp.go (x := (.goto 4, 3, 67, 0)) rfl 67 [some (.ref r0), some (.int x1), some (.int x2), some (.int x3), some (.int x4), some (.int x5)] [.int (nI 1), .int x4] rfl ⟨rfl, rfl, rfl, rfl⟩ ?_
        refine Wp.go (x := (.ior, 1, 0, 0)) rfl 68 [some (.ref r0), some (.int x1), some (.int x2), some (.int x3), some (.int x4), some (.int x5)] [.int (x4 ||| (nI 1))] rfl ⟨rfl, rfl, rfl, rfl⟩ ?_
        refine Wp.go (x := (.istore 4, 2, 0, 0)) rfl 70 [some (.ref r0), some (.int x1), some (.int x2), some (.int x3), some (.int (x4 ||| (nI 1))), some (.int x5)] [] rfl ⟨rfl, rfl, rfl, rfl⟩ ?_
        refine Wp.ii (v := nI 1) rfl rfl (by decide) rfl (L' := [some (.ref r0), some (.int x1), some (.int x2), some (.int x3), some (.int (x4 ||| (nI 1))), some (.int (x5 + nI 1))]) rfl ?_
        refine Wp.go (x := (.goto (-42), 3, 31, 0)) rfl 31 [some (.ref r0), some (.int x1), some (.int x2), some (.int x3), some (.int (x4 ||| (nI 1))), some (.int (x5 + nI 1))] [] rfl ⟨rfl, rfl, rfl, rfl⟩ ?_
        exact H
set_option maxRecDepth 20000 in
theorem wX11_at_0 {d : Nat} {Q : Option Value × xS → Prop} {K : Nat → Nat × Nat} {P : List Nat × Nat × Nat} {I : Nat → Nat → Int32} {J : Nat → Nat → Int64} {F : Nat → Nat → Option Nat} {x1 : Int32} {x2 : Int32}  (H : Q (some (.int (((nI 301) * x1) + x2)), (K, P, I, J, F))) : Wp d 126 0 [none, some (.int x1), some (.int x2)] [] (K, P, I, J, F) Q := by
  refine Wp.sp (v := nI 301) rfl rfl (by decide) ?_
  refine Wp.go (x := (.iload_n 1, 1, 0, 0)) rfl 4 [none, some (.int x1), some (.int x2)] [.int x1, .int (nI 301)] rfl ⟨rfl, rfl, rfl, rfl⟩ ?_
  refine Wp.go (x := (.imul, 1, 0, 0)) rfl 5 [none, some (.int x1), some (.int x2)] [.int ((nI 301) * x1)] rfl ⟨rfl, rfl, rfl, rfl⟩ ?_
  refine Wp.go (x := (.iload_n 2, 1, 0, 0)) rfl 6 [none, some (.int x1), some (.int x2)] [.int x2, .int ((nI 301) * x1)] rfl ⟨rfl, rfl, rfl, rfl⟩ ?_
  refine Wp.go (x := (.iadd, 1, 0, 0)) rfl 7 [none, some (.int x1), some (.int x2)] [.int (((nI 301) * x1) + x2)] rfl ⟨rfl, rfl, rfl, rfl⟩ ?_
  exact Wp.rI rfl rfl H
set_option maxRecDepth 20000 in
theorem wX11_firstRow_0 {d : Nat} {Q : Option Value × xS → Prop} {K : Nat → Nat × Nat} {P : List Nat × Nat × Nat} {I : Nat → Nat → Int32} {J : Nat → Nat → Int64} {F : Nat → Nat → Option Nat} {r0 : Nat} {x1 : Int32}  (H : Wp d 127 4 [some (.ref r0), some (.int x1), some (.int (nI 0)), some (.int (nI 1))] [] (K, P, I, J, F) Q) : Wp d 127 0 [some (.ref r0), some (.int x1), none, none] [] (K, P, I, J, F) Q := by
  refine Wp.ic (v := nI 0) rfl rfl (by decide) ?_
  refine Wp.go (x := (.istore_n 2, 1, 0, 0)) rfl 2 [some (.ref r0), some (.int x1), some (.int (nI 0)), none] [] rfl ⟨rfl, rfl, rfl, rfl⟩ ?_
  refine Wp.ic (v := nI 1) rfl rfl (by decide) ?_
  refine Wp.go (x := (.istore_n 3, 1, 0, 0)) rfl 4 [some (.ref r0), some (.int x1), some (.int (nI 0)), some (.int (nI 1))] [] rfl ⟨rfl, rfl, rfl, rfl⟩ ?_
  exact H
set_option maxRecDepth 20000 in
theorem wX11_firstRow_4 {d : Nat} {Q : Option Value × xS → Prop} {K : Nat → Nat × Nat} {P : List Nat × Nat × Nat} {I : Nat → Nat → Int32} {J : Nat → Nat → Int64} {F : Nat → Nat → Option Nat} {r0 : Nat} {x1 : Int32} {x2 : Int32} {x3 : Int32} {n_r0 : Nat} {f1 : Nat} {n_f1 : Nat} (hK : ∀ {a k n : Nat}, K a = (k, n) → n < 2147483648) (hn_r0 : K r0 = (10, n_r0)) (hf1 : F r0 23 = some f1) (hn_f1 : K f1 = (100, n_f1)) (H : ((x1 < x3 → Q (some (.int x2), (K, P, I, J, F))) ∧ (¬ x1 < x3 → ((¬ (I r0 1) = (nI 1) → Q (some (.int x2), (K, P, I, J, F))) ∧ ((I r0 1) = (nI 1) → Wp d 126 0 [some (.ref r0), some (.int x1), some (.int x3)] [] (K, P, I, J, F) (xrI K P F (fun v2 I3 J4 => (∃ j5 : Nat, v2 = nI j5 ∧ j5 < n_f1 ∧ Wp d 126 0 [some (.ref r0), some (.int x1), some (.int x2)] [] (K, P, I3, J4, F) (xrI K P F (fun v6 I7 J8 => (∃ j9 : Nat, v6 = nI j9 ∧ j9 < n_f1 ∧ (((I7 f1 j9) ≤ (I3 f1 j5) → Wp (d + 1) 127 4 [some (.ref r0), some (.int x1), some (.int x2), some (.int (x3 + nI 1))] [] (K, P, I7, J8, F) Q) ∧ (¬ (I7 f1 j9) ≤ (I3 f1 j5) → Wp (d + 1) 127 4 [some (.ref r0), some (.int x1), some (.int x3), some (.int (x3 + nI 1))] [] (K, P, I7, J8, F) Q))))))))))))) : Wp (d + 1) 127 4 [some (.ref r0), some (.int x1), some (.int x2), some (.int x3)] [] (K, P, I, J, F) Q := by
  refine Wp.go (x := (.iload_n 3, 1, 0, 0)) rfl 5 [some (.ref r0), some (.int x1), some (.int x2), some (.int x3)] [.int x3] rfl ⟨rfl, rfl, rfl, rfl⟩ ?_
  refine Wp.go (x := (.iload_n 1, 1, 0, 0)) rfl 6 [some (.ref r0), some (.int x1), some (.int x2), some (.int x3)] [.int x1, .int x3] rfl ⟨rfl, rfl, rfl, rfl⟩ ?_
  refine Wp.c_gt rfl rfl ⟨fun c => ?_, fun c => ?_⟩
  · have H := H.1 c
    refine Wp.go (x := (.iload_n 2, 1, 0, 0)) rfl 51 [some (.ref r0), some (.int x1), some (.int x2), some (.int x3)] [.int x2] rfl ⟨rfl, rfl, rfl, rfl⟩ ?_
    exact Wp.rI rfl rfl H
  · have H := H.2 c
    refine Wp.go (x := (.aload_n 0, 1, 0, 0)) rfl 10 [some (.ref r0), some (.int x1), some (.int x2), some (.int x3)] [.ref r0] rfl ⟨rfl, rfl, rfl, rfl⟩ ?_
    refine Wp.gI rfl rfl hn_r0 rfl ⟨by decide, by decide⟩ ?_
    refine Wp.ic (v := nI 1) rfl rfl (by decide) ?_
    refine Wp.c_ne rfl rfl ⟨fun c => ?_, fun c => ?_⟩
    · have H := H.1 c
      refine Wp.go (x := (.iload_n 2, 1, 0, 0)) rfl 51 [some (.ref r0), some (.int x1), some (.int x2), some (.int x3)] [.int x2] rfl ⟨rfl, rfl, rfl, rfl⟩ ?_
      exact Wp.rI rfl rfl H
    · have H := H.2 c
      refine Wp.go (x := (.aload_n 0, 1, 0, 0)) rfl 18 [some (.ref r0), some (.int x1), some (.int x2), some (.int x3)] [.ref r0] rfl ⟨rfl, rfl, rfl, rfl⟩ ?_
      refine Wp.gR rfl rfl hn_r0 rfl rfl hf1 ?_
      refine Wp.go (x := (.aload_n 0, 1, 0, 0)) rfl 22 [some (.ref r0), some (.int x1), some (.int x2), some (.int x3)] [.ref r0, .ref f1] rfl ⟨rfl, rfl, rfl, rfl⟩ ?_
      refine Wp.go (x := (.iload_n 1, 1, 0, 0)) rfl 23 [some (.ref r0), some (.int x1), some (.int x2), some (.int x3)] [.int x1, .ref r0, .ref f1] rfl ⟨rfl, rfl, rfl, rfl⟩ ?_
      refine Wp.go (x := (.iload_n 3, 1, 0, 0)) rfl 24 [some (.ref r0), some (.int x1), some (.int x2), some (.int x3)] [.int x3, .int x1, .ref r0, .ref f1] rfl ⟨rfl, rfl, rfl, rfl⟩ ?_
      refine Wp.kI (x := (.invokevirtual 227, 3, 126, 3)) (j := 126) (vs := [.ref r0, .int x1, .int x3]) (rest := [.ref f1]) rfl (by show xtg 126 (K r0).1 = _; rw [hn_r0]; rfl) rfl ⟨Nat.le_of_ble_eq_true rfl, Nat.le_of_ble_eq_true rfl, Nat.le_of_ble_eq_true rfl⟩ rfl rfl rfl H (fun v2 I3 J4 H => ?_)
      obtain ⟨j5, e, b, H⟩ := H
      refine Wp.ald rfl rfl hn_f1 (Or.inl rfl) (hK hn_f1) ⟨j5, e, b, ?_⟩
      refine Wp.go (x := (.aload_n 0, 1, 0, 0)) rfl 29 [some (.ref r0), some (.int x1), some (.int x2), some (.int x3)] [.ref r0, .int (I3 f1 j5)] rfl ⟨rfl, rfl, rfl, rfl⟩ ?_
      refine Wp.gR rfl rfl hn_r0 rfl rfl hf1 ?_
      refine Wp.go (x := (.aload_n 0, 1, 0, 0)) rfl 33 [some (.ref r0), some (.int x1), some (.int x2), some (.int x3)] [.ref r0, .ref f1, .int (I3 f1 j5)] rfl ⟨rfl, rfl, rfl, rfl⟩ ?_
      refine Wp.go (x := (.iload_n 1, 1, 0, 0)) rfl 34 [some (.ref r0), some (.int x1), some (.int x2), some (.int x3)] [.int x1, .ref r0, .ref f1, .int (I3 f1 j5)] rfl ⟨rfl, rfl, rfl, rfl⟩ ?_
      refine Wp.go (x := (.iload_n 2, 1, 0, 0)) rfl 35 [some (.ref r0), some (.int x1), some (.int x2), some (.int x3)] [.int x2, .int x1, .ref r0, .ref f1, .int (I3 f1 j5)] rfl ⟨rfl, rfl, rfl, rfl⟩ ?_
      refine Wp.kI (x := (.invokevirtual 227, 3, 126, 3)) (j := 126) (vs := [.ref r0, .int x1, .int x2]) (rest := [.ref f1, .int (I3 f1 j5)]) rfl (by show xtg 126 (K r0).1 = _; rw [hn_r0]; rfl) rfl ⟨Nat.le_of_ble_eq_true rfl, Nat.le_of_ble_eq_true rfl, Nat.le_of_ble_eq_true rfl⟩ rfl rfl rfl H (fun v6 I7 J8 H => ?_)
      obtain ⟨j9, e, b, H⟩ := H
      refine Wp.ald rfl rfl hn_f1 (Or.inl rfl) (hK hn_f1) ⟨j9, e, b, ?_⟩
      refine Wp.c_ge rfl rfl ⟨fun c => ?_, fun c => ?_⟩
      · have H := H.1 c
        refine Wp.ii (v := nI 1) rfl rfl (by decide) rfl (L' := [some (.ref r0), some (.int x1), some (.int x2), some (.int (x3 + nI 1))]) rfl ?_
        refine Wp.go (x := (.goto (-43), 3, 4, 0)) rfl 4 [some (.ref r0), some (.int x1), some (.int x2), some (.int (x3 + nI 1))] [] rfl ⟨rfl, rfl, rfl, rfl⟩ ?_
        exact H
      · have H := H.2 c
        refine Wp.go (x := (.iload_n 3, 1, 0, 0)) rfl 43 [some (.ref r0), some (.int x1), some (.int x2), some (.int x3)] [.int x3] rfl ⟨rfl, rfl, rfl, rfl⟩ ?_
        refine Wp.go (x := (.istore_n 2, 1, 0, 0)) rfl 44 [some (.ref r0), some (.int x1), some (.int x3), some (.int x3)] [] rfl ⟨rfl, rfl, rfl, rfl⟩ ?_
        refine Wp.ii (v := nI 1) rfl rfl (by decide) rfl (L' := [some (.ref r0), some (.int x1), some (.int x3), some (.int (x3 + nI 1))]) rfl ?_
        refine Wp.go (x := (.goto (-43), 3, 4, 0)) rfl 4 [some (.ref r0), some (.int x1), some (.int x3), some (.int (x3 + nI 1))] [] rfl ⟨rfl, rfl, rfl, rfl⟩ ?_
        exact H
set_option maxRecDepth 20000 in
theorem wX11_clearTable_0 {d : Nat} {Q : Option Value × xS → Prop} {K : Nat → Nat × Nat} {P : List Nat × Nat × Nat} {I : Nat → Nat → Int32} {J : Nat → Nat → Int64} {F : Nat → Nat → Option Nat} {r0 : Nat}  (H : Wp d 128 2 [some (.ref r0), some (.int (nI 0)), none] [] (K, P, I, J, F) Q) : Wp d 128 0 [some (.ref r0), none, none] [] (K, P, I, J, F) Q := by
  refine Wp.ic (v := nI 0) rfl rfl (by decide) ?_
  refine Wp.go (x := (.istore_n 1, 1, 0, 0)) rfl 2 [some (.ref r0), some (.int (nI 0)), none] [] rfl ⟨rfl, rfl, rfl, rfl⟩ ?_
  exact H
set_option maxRecDepth 20000 in
theorem wX11_clearTable_2 {d : Nat} {Q : Option Value × xS → Prop} {K : Nat → Nat × Nat} {P : List Nat × Nat × Nat} {I : Nat → Nat → Int32} {J : Nat → Nat → Int64} {F : Nat → Nat → Option Nat} {r0 : Nat} {x1 : Int32} {n_r0 : Nat} {f1 : Nat} {n_f1 : Nat} (hK : ∀ {a k n : Nat}, K a = (k, n) → n < 2147483648) (hn_r0 : K r0 = (10, n_r0)) (hf1 : F r0 23 = some f1) (hn_f1 : K f1 = (100, n_f1)) (H : (((I r0 3) < x1 → (∃ j2 : Nat, (nI 0) = nI j2 ∧ j2 < n_f1 ∧ Q (none, (K, P, (xup I f1 j2 (nI 0)), J, F)))) ∧ (¬ (I r0 3) < x1 → Wp d 128 12 [some (.ref r0), some (.int x1), some (.int (nI 0))] [] (K, P, I, J, F) Q))) : Wp d 128 2 [some (.ref r0), some (.int x1), none] [] (K, P, I, J, F) Q := by
  refine Wp.go (x := (.iload_n 1, 1, 0, 0)) rfl 3 [some (.ref r0), some (.int x1), none] [.int x1] rfl ⟨rfl, rfl, rfl, rfl⟩ ?_
  refine Wp.go (x := (.aload_n 0, 1, 0, 0)) rfl 4 [some (.ref r0), some (.int x1), none] [.ref r0, .int x1] rfl ⟨rfl, rfl, rfl, rfl⟩ ?_
  refine Wp.gI rfl rfl hn_r0 rfl ⟨by decide, by decide⟩ ?_
  refine Wp.c_gt rfl rfl ⟨fun c => ?_, fun c => ?_⟩
  · have H := H.1 c
    refine Wp.go (x := (.aload_n 0, 1, 0, 0)) rfl 62 [some (.ref r0), some (.int x1), none] [.ref r0] rfl ⟨rfl, rfl, rfl, rfl⟩ ?_
    refine Wp.gR rfl rfl hn_r0 rfl rfl hf1 ?_
    refine Wp.ic (v := nI 0) rfl rfl (by decide) ?_
    refine Wp.ic (v := nI 0) rfl rfl (by decide) ?_
    obtain ⟨j2, e, b, H⟩ := H
    refine Wp.ast rfl rfl hn_f1 (hK hn_f1) ⟨j2, e, b, ?_⟩
    exact Wp.rV rfl rfl H
  · have H := H.2 c
    refine Wp.ic (v := nI 0) rfl rfl (by decide) ?_
    refine Wp.go (x := (.istore_n 2, 1, 0, 0)) rfl 12 [some (.ref r0), some (.int x1), some (.int (nI 0))] [] rfl ⟨rfl, rfl, rfl, rfl⟩ ?_
    exact H
set_option maxRecDepth 20000 in
theorem wX11_clearTable_12 {d : Nat} {Q : Option Value × xS → Prop} {K : Nat → Nat × Nat} {P : List Nat × Nat × Nat} {I : Nat → Nat → Int32} {J : Nat → Nat → Int64} {F : Nat → Nat → Option Nat} {r0 : Nat} {x1 : Int32} {x2 : Int32} {n_r0 : Nat} (hn_r0 : K r0 = (10, n_r0)) (H : ((¬ (I r0 1) = (nI 1) → Wp d 128 26 [some (.ref r0), some (.int x1), some (.int x2)] [.int (nI 0), .int x2] (K, P, I, J, F) Q) ∧ ((I r0 1) = (nI 1) → Wp d 128 26 [some (.ref r0), some (.int x1), some (.int x2)] [.int x1, .int x2] (K, P, I, J, F) Q))) : Wp d 128 12 [some (.ref r0), some (.int x1), some (.int x2)] [] (K, P, I, J, F) Q := by
  refine Wp.go (x := (.iload_n 2, 1, 0, 0)) rfl 13 [some (.ref r0), some (.int x1), some (.int x2)] [.int x2] rfl ⟨rfl, rfl, rfl, rfl⟩ ?_
  refine Wp.go (x := (.aload_n 0, 1, 0, 0)) rfl 14 [some (.ref r0), some (.int x1), some (.int x2)] [.ref r0, .int x2] rfl ⟨rfl, rfl, rfl, rfl⟩ ?_
  refine Wp.gI rfl rfl hn_r0 rfl ⟨by decide, by decide⟩ ?_
  refine Wp.ic (v := nI 1) rfl rfl (by decide) ?_
  refine Wp.c_ne rfl rfl ⟨fun c => ?_, fun c => ?_⟩
  · have H := H.1 c
    refine Wp.ic (v := nI 0) rfl rfl (by decide) ?_
    exact H
  · have H := H.2 c
    refine Wp.go (x := (.iload_n 1, 1, 0, 0)) rfl 22 [some (.ref r0), some (.int x1), some (.int x2)] [.int x1, .int x2] rfl ⟨rfl, rfl, rfl, rfl⟩ ?_
    refine Wp.go (x := (.goto 4, 3, 26, 0)) rfl 26 [some (.ref r0), some (.int x1), some (.int x2)] [.int x1, .int x2] rfl ⟨rfl, rfl, rfl, rfl⟩ ?_
    exact H
set_option maxRecDepth 20000 in
theorem wX11_clearTable_26 {d : Nat} {Q : Option Value × xS → Prop} {K : Nat → Nat × Nat} {P : List Nat × Nat × Nat} {I : Nat → Nat → Int32} {J : Nat → Nat → Int64} {F : Nat → Nat → Option Nat} {r0 : Nat} {x1 : Int32} {x2 : Int32} {s0 : Int32} {s1 : Int32} {n_r0 : Nat} {f1 : Nat} {n_f1 : Nat} {f3 : Nat} {n_f3 : Nat} (hK : ∀ {a k n : Nat}, K a = (k, n) → n < 2147483648) (hn_r0 : K r0 = (10, n_r0)) (hf1 : F r0 27 = some f1) (hn_f1 : K f1 = (102, n_f1)) (hf3 : F r0 23 = some f3) (hn_f3 : K f3 = (100, n_f3)) (H : ((s1 < s0 → (∃ j2 : Nat, x1 = nI j2 ∧ j2 < n_f1 ∧ Wp (d + 1) 128 2 [some (.ref r0), some (.int (x1 + nI 1)), none] [] (K, P, (xup I f1 j2 (nI 0)), J, F) Q)) ∧ (¬ s1 < s0 → Wp d 126 0 [some (.ref r0), some (.int x1), some (.int x2)] [] (K, P, I, J, F) (xrI K P F (fun v4 I5 J6 => (∃ j7 : Nat, v4 = nI j7 ∧ j7 < n_f3 ∧ Wp (d + 1) 128 12 [some (.ref r0), some (.int x1), some (.int (x2 + nI 1))] [] (K, P, (xup I5 f3 j7 (nI 2000000000)), J6, F) Q)))))) : Wp (d + 1) 128 26 [some (.ref r0), some (.int x1), some (.int x2)] [.int s1, .int s0] (K, P, I, J, F) Q := by
  refine Wp.c_gt rfl rfl ⟨fun c => ?_, fun c => ?_⟩
  · have H := H.1 c
    refine Wp.go (x := (.aload_n 0, 1, 0, 0)) rfl 49 [some (.ref r0), some (.int x1), some (.int x2)] [.ref r0] rfl ⟨rfl, rfl, rfl, rfl⟩ ?_
    refine Wp.gR rfl rfl hn_r0 rfl rfl hf1 ?_
    refine Wp.go (x := (.iload_n 1, 1, 0, 0)) rfl 53 [some (.ref r0), some (.int x1), some (.int x2)] [.int x1, .ref f1] rfl ⟨rfl, rfl, rfl, rfl⟩ ?_
    refine Wp.ic (v := nI 0) rfl rfl (by decide) ?_
    obtain ⟨j2, e, b, H⟩ := H
    refine Wp.bst rfl rfl hn_f1 (hK hn_f1) (Or.inl rfl) ⟨j2, e, b, ?_⟩
    refine Wp.ii (v := nI 1) rfl rfl (by decide) rfl (L' := [some (.ref r0), some (.int (x1 + nI 1)), some (.int x2)]) rfl ?_
    refine Wp.go (x := (.goto (-56), 3, 2, 0)) rfl 2 [some (.ref r0), some (.int (x1 + nI 1)), some (.int x2)] [] rfl ⟨rfl, rfl, rfl, rfl⟩ ?_
    exact Wp.wk (L := [some (.ref r0), some (.int (x1 + nI 1)), none]) ⟨Or.inr rfl, Or.inr rfl, Or.inl rfl, trivial⟩ H
  · have H := H.2 c
    refine Wp.go (x := (.aload_n 0, 1, 0, 0)) rfl 30 [some (.ref r0), some (.int x1), some (.int x2)] [.ref r0] rfl ⟨rfl, rfl, rfl, rfl⟩ ?_
    refine Wp.gR rfl rfl hn_r0 rfl rfl hf3 ?_
    refine Wp.go (x := (.aload_n 0, 1, 0, 0)) rfl 34 [some (.ref r0), some (.int x1), some (.int x2)] [.ref r0, .ref f3] rfl ⟨rfl, rfl, rfl, rfl⟩ ?_
    refine Wp.go (x := (.iload_n 1, 1, 0, 0)) rfl 35 [some (.ref r0), some (.int x1), some (.int x2)] [.int x1, .ref r0, .ref f3] rfl ⟨rfl, rfl, rfl, rfl⟩ ?_
    refine Wp.go (x := (.iload_n 2, 1, 0, 0)) rfl 36 [some (.ref r0), some (.int x1), some (.int x2)] [.int x2, .int x1, .ref r0, .ref f3] rfl ⟨rfl, rfl, rfl, rfl⟩ ?_
    refine Wp.kI (x := (.invokevirtual 227, 3, 126, 3)) (j := 126) (vs := [.ref r0, .int x1, .int x2]) (rest := [.ref f3]) rfl (by show xtg 126 (K r0).1 = _; rw [hn_r0]; rfl) rfl ⟨Nat.le_of_ble_eq_true rfl, Nat.le_of_ble_eq_true rfl, Nat.le_of_ble_eq_true rfl⟩ rfl rfl rfl H (fun v4 I5 J6 H => ?_)
    refine Wp.ldc (v := nI 2000000000) rfl rfl (by first | rfl | decide) ?_
    obtain ⟨j7, e, b, H⟩ := H
    refine Wp.ast rfl rfl hn_f3 (hK hn_f3) ⟨j7, e, b, ?_⟩
    refine Wp.ii (v := nI 1) rfl rfl (by decide) rfl (L' := [some (.ref r0), some (.int x1), some (.int (x2 + nI 1))]) rfl ?_
    refine Wp.go (x := (.goto (-33), 3, 12, 0)) rfl 12 [some (.ref r0), some (.int x1), some (.int (x2 + nI 1))] [] rfl ⟨rfl, rfl, rfl, rfl⟩ ?_
    exact H
set_option maxRecDepth 20000 in
theorem wX11_copies_0 {d : Nat} {Q : Option Value × xS → Prop} {K : Nat → Nat × Nat} {P : List Nat × Nat × Nat} {I : Nat → Nat → Int32} {J : Nat → Nat → Int64} {F : Nat → Nat → Option Nat} {r0 : Nat} {x1 : Int32} {x2 : Int32} {n_r0 : Nat} {f1 : Nat} {n_f1 : Nat} (hK : ∀ {a k n : Nat}, K a = (k, n) → n < 2147483648) (hn_r0 : K r0 = (10, n_r0)) (hf1 : F r0 23 = some f1) (hn_f1 : K f1 = (100, n_f1)) (H : Wp d 126 0 [some (.ref r0), some (.int x1), some (.int x2)] [] (K, P, I, J, F) (xrI K P F (fun v2 I3 J4 => (∃ j5 : Nat, v2 = nI j5 ∧ j5 < n_f1 ∧ Wp d 108 0 [some (.ref r0), some (.int x1), none] [] (K, P, I3, J4, F) (xrI K P F (fun v6 I7 J8 => Wp (d + 1) 129 19 [some (.ref r0), some (.int x1), some (.int x2), some (.int (I3 f1 j5)), some (.int v6), none, none] [] (K, P, I7, J8, F) Q)))))) : Wp (d + 1) 129 0 [some (.ref r0), some (.int x1), some (.int x2), none, none, none, none] [] (K, P, I, J, F) Q := by
  refine Wp.go (x := (.aload_n 0, 1, 0, 0)) rfl 1 [some (.ref r0), some (.int x1), some (.int x2), none, none, none, none] [.ref r0] rfl ⟨rfl, rfl, rfl, rfl⟩ ?_
  refine Wp.gR rfl rfl hn_r0 rfl rfl hf1 ?_
  refine Wp.go (x := (.aload_n 0, 1, 0, 0)) rfl 5 [some (.ref r0), some (.int x1), some (.int x2), none, none, none, none] [.ref r0, .ref f1] rfl ⟨rfl, rfl, rfl, rfl⟩ ?_
  refine Wp.go (x := (.iload_n 1, 1, 0, 0)) rfl 6 [some (.ref r0), some (.int x1), some (.int x2), none, none, none, none] [.int x1, .ref r0, .ref f1] rfl ⟨rfl, rfl, rfl, rfl⟩ ?_
  refine Wp.go (x := (.iload_n 2, 1, 0, 0)) rfl 7 [some (.ref r0), some (.int x1), some (.int x2), none, none, none, none] [.int x2, .int x1, .ref r0, .ref f1] rfl ⟨rfl, rfl, rfl, rfl⟩ ?_
  refine Wp.kI (x := (.invokevirtual 227, 3, 126, 3)) (j := 126) (vs := [.ref r0, .int x1, .int x2]) (rest := [.ref f1]) rfl (by show xtg 126 (K r0).1 = _; rw [hn_r0]; rfl) rfl ⟨Nat.le_of_ble_eq_true rfl, Nat.le_of_ble_eq_true rfl, Nat.le_of_ble_eq_true rfl⟩ rfl rfl rfl H (fun v2 I3 J4 H => ?_)
  obtain ⟨j5, e, b, H⟩ := H
  refine Wp.ald rfl rfl hn_f1 (Or.inl rfl) (hK hn_f1) ⟨j5, e, b, ?_⟩
  refine Wp.go (x := (.istore_n 3, 1, 0, 0)) rfl 12 [some (.ref r0), some (.int x1), some (.int x2), some (.int (I3 f1 j5)), none, none, none] [] rfl ⟨rfl, rfl, rfl, rfl⟩ ?_
  refine Wp.go (x := (.aload_n 0, 1, 0, 0)) rfl 13 [some (.ref r0), some (.int x1), some (.int x2), some (.int (I3 f1 j5)), none, none, none] [.ref r0] rfl ⟨rfl, rfl, rfl, rfl⟩ ?_
  refine Wp.go (x := (.iload_n 1, 1, 0, 0)) rfl 14 [some (.ref r0), some (.int x1), some (.int x2), some (.int (I3 f1 j5)), none, none, none] [.int x1, .ref r0] rfl ⟨rfl, rfl, rfl, rfl⟩ ?_
  refine Wp.kI (x := (.invokevirtual 193, 3, 108, 2)) (j := 108) (vs := [.ref r0, .int x1]) (rest := []) rfl (by show xtg 108 (K r0).1 = _; rw [hn_r0]; rfl) rfl ⟨Nat.le_of_ble_eq_true rfl, Nat.le_of_ble_eq_true rfl, Nat.le_of_ble_eq_true rfl⟩ rfl rfl rfl H (fun v6 I7 J8 H => ?_)
  refine Wp.go (x := (.istore 4, 2, 0, 0)) rfl 19 [some (.ref r0), some (.int x1), some (.int x2), some (.int (I3 f1 j5)), some (.int v6), none, none] [] rfl ⟨rfl, rfl, rfl, rfl⟩ ?_
  exact H
set_option maxRecDepth 20000 in
theorem wX11_copies_19 {d : Nat} {Q : Option Value × xS → Prop} {K : Nat → Nat × Nat} {P : List Nat × Nat × Nat} {I : Nat → Nat → Int32} {J : Nat → Nat → Int64} {F : Nat → Nat → Option Nat} {r0 : Nat} {x1 : Int32} {x2 : Int32} {x3 : Int32} {x4 : Int32} {n_r0 : Nat} {f4 : Nat} {n_f4 : Nat} {f9 : Nat} {n_f9 : Nat} {f18 : Nat} {n_f18 : Nat} {f20 : Nat} {n_f20 : Nat} {f22 : Nat} {n_f22 : Nat} {f24 : Nat} {n_f24 : Nat} (hK : ∀ {a k n : Nat}, K a = (k, n) → n < 2147483648) (hn_r0 : K r0 = (10, n_r0)) (hf4 : F r0 20 = some f4) (hn_f4 : K f4 = (100, n_f4)) (hf9 : F r0 23 = some f9) (hn_f9 : K f9 = (100, n_f9)) (hf18 : F r0 24 = some f18) (hn_f18 : K f18 = (100, n_f18)) (hf20 : F r0 25 = some f20) (hn_f20 : K f20 = (100, n_f20)) (hf22 : F r0 26 = some f22) (hn_f22 : K f22 = (100, n_f22)) (hf24 : F r0 27 = some f24) (hn_f24 : K f24 = (102, n_f24)) (H : Wp d 99 0 [some (.ref r0)] [] (K, P, I, J, F) (xrI K P F (fun v1 I2 J3 => ((x4 < v1 → Q (none, (K, P, I2, J3, F))) ∧ (¬ x4 < v1 → (∃ j5 : Nat, (((nI 301) * x1) + x4) = nI j5 ∧ j5 < n_f4 ∧ Wp d 119 0 [some (.ref r0), some (.int (nI 1)), some (.int x4), some (.int (I2 f4 j5)), some (.int (nI 0)), some (.int (nI 0))] [] (K, P, I2, J3, F) (xrI K P F (fun v6 I7 J8 => Wp d 126 0 [some (.ref r0), some (.int (x1 + x4)), some (.int (nI 0))] [] (K, P, I7, J8, F) (xrI K P F (fun v10 I11 J12 => (∃ j13 : Nat, v10 = nI j13 ∧ j13 < n_f9 ∧ (((I11 f9 j13) ≤ (x3 + v6) → Wp (d + 1) 129 19 [some (.ref r0), some (.int x1), some (.int x2), some (.int x3), some (.int (x4 + (-1))), none, none] [] (K, P, I11, J12, F) Q) ∧ (¬ (I11 f9 j13) ≤ (x3 + v6) → Wp d 126 0 [some (.ref r0), some (.int (x1 + x4)), some (.int (nI 0))] [] (K, P, I11, J12, F) (xrI K P F (fun v14 I15 J16 => (∃ j17 : Nat, v14 = nI j17 ∧ j17 < n_f9 ∧ (∃ j19 : Nat, (x1 + x4) = nI j19 ∧ j19 < n_f18 ∧ (∃ j21 : Nat, (x1 + x4) = nI j21 ∧ j21 < n_f20 ∧ (∃ j23 : Nat, (x1 + x4) = nI j23 ∧ j23 < n_f22 ∧ (∃ j25 : Nat, (x1 + x4) = nI j25 ∧ j25 < n_f24 ∧ Wp (d + 1) 129 19 [some (.ref r0), some (.int x1), some (.int x2), some (.int x3), some (.int (x4 + (-1))), none, none] [] (K, P, (xup ((xup ((xup ((xup ((xup I15 f9 j17 (x3 + v6))) f18 j19 x1)) f20 j21 x2)) f22 j23 (I2 f4 j5))) f24 j25 (nI 0)), J16, F) Q)))))))))))))))))))) : Wp (d + 1) 129 19 [some (.ref r0), some (.int x1), some (.int x2), some (.int x3), some (.int x4), none, none] [] (K, P, I, J, F) Q := by
  refine Wp.go (x := (.iload 4, 2, 0, 0)) rfl 21 [some (.ref r0), some (.int x1), some (.int x2), some (.int x3), some (.int x4), none, none] [.int x4] rfl ⟨rfl, rfl, rfl, rfl⟩ ?_
  refine Wp.go (x := (.aload_n 0, 1, 0, 0)) rfl 22 [some (.ref r0), some (.int x1), some (.int x2), some (.int x3), some (.int x4), none, none] [.ref r0, .int x4] rfl ⟨rfl, rfl, rfl, rfl⟩ ?_
  refine Wp.kI (x := (.invokevirtual 153, 3, 99, 1)) (j := 99) (vs := [.ref r0]) (rest := [.int x4]) rfl (by show xtg 99 (K r0).1 = _; rw [hn_r0]; rfl) rfl ⟨Nat.le_of_ble_eq_true rfl, Nat.le_of_ble_eq_true rfl, Nat.le_of_ble_eq_true rfl⟩ rfl rfl rfl H (fun v1 I2 J3 H => ?_)
  refine Wp.c_lt rfl rfl ⟨fun c => ?_, fun c => ?_⟩
  · have H := H.1 c
    exact Wp.rV rfl rfl H
  · have H := H.2 c
    refine Wp.go (x := (.aload_n 0, 1, 0, 0)) rfl 29 [some (.ref r0), some (.int x1), some (.int x2), some (.int x3), some (.int x4), none, none] [.ref r0] rfl ⟨rfl, rfl, rfl, rfl⟩ ?_
    refine Wp.gR rfl rfl hn_r0 rfl rfl hf4 ?_
    refine Wp.sp (v := nI 301) rfl rfl (by decide) ?_
    refine Wp.go (x := (.iload_n 1, 1, 0, 0)) rfl 36 [some (.ref r0), some (.int x1), some (.int x2), some (.int x3), some (.int x4), none, none] [.int x1, .int (nI 301), .ref f4] rfl ⟨rfl, rfl, rfl, rfl⟩ ?_
    refine Wp.go (x := (.imul, 1, 0, 0)) rfl 37 [some (.ref r0), some (.int x1), some (.int x2), some (.int x3), some (.int x4), none, none] [.int ((nI 301) * x1), .ref f4] rfl ⟨rfl, rfl, rfl, rfl⟩ ?_
    refine Wp.go (x := (.iload 4, 2, 0, 0)) rfl 39 [some (.ref r0), some (.int x1), some (.int x2), some (.int x3), some (.int x4), none, none] [.int x4, .int ((nI 301) * x1), .ref f4] rfl ⟨rfl, rfl, rfl, rfl⟩ ?_
    refine Wp.go (x := (.iadd, 1, 0, 0)) rfl 40 [some (.ref r0), some (.int x1), some (.int x2), some (.int x3), some (.int x4), none, none] [.int (((nI 301) * x1) + x4), .ref f4] rfl ⟨rfl, rfl, rfl, rfl⟩ ?_
    obtain ⟨j5, e, b, H⟩ := H
    refine Wp.ald rfl rfl hn_f4 (Or.inl rfl) (hK hn_f4) ⟨j5, e, b, ?_⟩
    refine Wp.go (x := (.istore 5, 2, 0, 0)) rfl 43 [some (.ref r0), some (.int x1), some (.int x2), some (.int x3), some (.int x4), some (.int (I2 f4 j5)), none] [] rfl ⟨rfl, rfl, rfl, rfl⟩ ?_
    refine Wp.go (x := (.iload_n 3, 1, 0, 0)) rfl 44 [some (.ref r0), some (.int x1), some (.int x2), some (.int x3), some (.int x4), some (.int (I2 f4 j5)), none] [.int x3] rfl ⟨rfl, rfl, rfl, rfl⟩ ?_
    refine Wp.go (x := (.aload_n 0, 1, 0, 0)) rfl 45 [some (.ref r0), some (.int x1), some (.int x2), some (.int x3), some (.int x4), some (.int (I2 f4 j5)), none] [.ref r0, .int x3] rfl ⟨rfl, rfl, rfl, rfl⟩ ?_
    refine Wp.ic (v := nI 1) rfl rfl (by decide) ?_
    refine Wp.go (x := (.iload 4, 2, 0, 0)) rfl 48 [some (.ref r0), some (.int x1), some (.int x2), some (.int x3), some (.int x4), some (.int (I2 f4 j5)), none] [.int x4, .int (nI 1), .ref r0, .int x3] rfl ⟨rfl, rfl, rfl, rfl⟩ ?_
    refine Wp.go (x := (.iload 5, 2, 0, 0)) rfl 50 [some (.ref r0), some (.int x1), some (.int x2), some (.int x3), some (.int x4), some (.int (I2 f4 j5)), none] [.int (I2 f4 j5), .int x4, .int (nI 1), .ref r0, .int x3] rfl ⟨rfl, rfl, rfl, rfl⟩ ?_
    refine Wp.ic (v := nI 0) rfl rfl (by decide) ?_
    refine Wp.ic (v := nI 0) rfl rfl (by decide) ?_
    refine Wp.kI (x := (.invokevirtual 189, 3, 119, 6)) (j := 119) (vs := [.ref r0, .int (nI 1), .int x4, .int (I2 f4 j5), .int (nI 0), .int (nI 0)]) (rest := [.int x3]) rfl (by show xtg 119 (K r0).1 = _; rw [hn_r0]; rfl) rfl ⟨Nat.le_of_ble_eq_true rfl, Nat.le_of_ble_eq_true rfl, Nat.le_of_ble_eq_true rfl⟩ rfl rfl rfl H (fun v6 I7 J8 H => ?_)
    refine Wp.go (x := (.iadd, 1, 0, 0)) rfl 56 [some (.ref r0), some (.int x1), some (.int x2), some (.int x3), some (.int x4), some (.int (I2 f4 j5)), none] [.int (x3 + v6)] rfl ⟨rfl, rfl, rfl, rfl⟩ ?_
    refine Wp.go (x := (.istore 6, 2, 0, 0)) rfl 58 [some (.ref r0), some (.int x1), some (.int x2), some (.int x3), some (.int x4), some (.int (I2 f4 j5)), some (.int (x3 + v6))] [] rfl ⟨rfl, rfl, rfl, rfl⟩ ?_
    refine Wp.go (x := (.iload 6, 2, 0, 0)) rfl 60 [some (.ref r0), some (.int x1), some (.int x2), some (.int x3), some (.int x4), some (.int (I2 f4 j5)), some (.int (x3 + v6))] [.int (x3 + v6)] rfl ⟨rfl, rfl, rfl, rfl⟩ ?_
    refine Wp.go (x := (.aload_n 0, 1, 0, 0)) rfl 61 [some (.ref r0), some (.int x1), some (.int x2), some (.int x3), some (.int x4), some (.int (I2 f4 j5)), some (.int (x3 + v6))] [.ref r0, .int (x3 + v6)] rfl ⟨rfl, rfl, rfl, rfl⟩ ?_
    refine Wp.gR rfl rfl hn_r0 rfl rfl hf9 ?_
    refine Wp.go (x := (.aload_n 0, 1, 0, 0)) rfl 65 [some (.ref r0), some (.int x1), some (.int x2), some (.int x3), some (.int x4), some (.int (I2 f4 j5)), some (.int (x3 + v6))] [.ref r0, .ref f9, .int (x3 + v6)] rfl ⟨rfl, rfl, rfl, rfl⟩ ?_
    refine Wp.go (x := (.iload_n 1, 1, 0, 0)) rfl 66 [some (.ref r0), some (.int x1), some (.int x2), some (.int x3), some (.int x4), some (.int (I2 f4 j5)), some (.int (x3 + v6))] [.int x1, .ref r0, .ref f9, .int (x3 + v6)] rfl ⟨rfl, rfl, rfl, rfl⟩ ?_
    refine Wp.go (x := (.iload 4, 2, 0, 0)) rfl 68 [some (.ref r0), some (.int x1), some (.int x2), some (.int x3), some (.int x4), some (.int (I2 f4 j5)), some (.int (x3 + v6))] [.int x4, .int x1, .ref r0, .ref f9, .int (x3 + v6)] rfl ⟨rfl, rfl, rfl, rfl⟩ ?_
    refine Wp.go (x := (.iadd, 1, 0, 0)) rfl 69 [some (.ref r0), some (.int x1), some (.int x2), some (.int x3), some (.int x4), some (.int (I2 f4 j5)), some (.int (x3 + v6))] [.int (x1 + x4), .ref r0, .ref f9, .int (x3 + v6)] rfl ⟨rfl, rfl, rfl, rfl⟩ ?_
    refine Wp.ic (v := nI 0) rfl rfl (by decide) ?_
    refine Wp.kI (x := (.invokevirtual 227, 3, 126, 3)) (j := 126) (vs := [.ref r0, .int (x1 + x4), .int (nI 0)]) (rest := [.ref f9, .int (x3 + v6)]) rfl (by show xtg 126 (K r0).1 = _; rw [hn_r0]; rfl) rfl ⟨Nat.le_of_ble_eq_true rfl, Nat.le_of_ble_eq_true rfl, Nat.le_of_ble_eq_true rfl⟩ rfl rfl rfl H (fun v10 I11 J12 H => ?_)
    obtain ⟨j13, e, b, H⟩ := H
    refine Wp.ald rfl rfl hn_f9 (Or.inl rfl) (hK hn_f9) ⟨j13, e, b, ?_⟩
    refine Wp.c_ge rfl rfl ⟨fun c => ?_, fun c => ?_⟩
    · have H := H.1 c
      refine Wp.ii (v := (-1)) rfl rfl (by decide) rfl (L' := [some (.ref r0), some (.int x1), some (.int x2), some (.int x3), some (.int (x4 + (-1))), some (.int (I2 f4 j5)), some (.int (x3 + v6))]) rfl ?_
      refine Wp.go (x := (.goto (-118), 3, 19, 0)) rfl 19 [some (.ref r0), some (.int x1), some (.int x2), some (.int x3), some (.int (x4 + (-1))), some (.int (I2 f4 j5)), some (.int (x3 + v6))] [] rfl ⟨rfl, rfl, rfl, rfl⟩ ?_
      exact Wp.wk (L := [some (.ref r0), some (.int x1), some (.int x2), some (.int x3), some (.int (x4 + (-1))), none, none]) ⟨Or.inr rfl, Or.inr rfl, Or.inr rfl, Or.inr rfl, Or.inr rfl, Or.inl rfl, Or.inl rfl, trivial⟩ H
    · have H := H.2 c
      refine Wp.go (x := (.aload_n 0, 1, 0, 0)) rfl 78 [some (.ref r0), some (.int x1), some (.int x2), some (.int x3), some (.int x4), some (.int (I2 f4 j5)), some (.int (x3 + v6))] [.ref r0] rfl ⟨rfl, rfl, rfl, rfl⟩ ?_
      refine Wp.gR rfl rfl hn_r0 rfl rfl hf9 ?_
      refine Wp.go (x := (.aload_n 0, 1, 0, 0)) rfl 82 [some (.ref r0), some (.int x1), some (.int x2), some (.int x3), some (.int x4), some (.int (I2 f4 j5)), some (.int (x3 + v6))] [.ref r0, .ref f9] rfl ⟨rfl, rfl, rfl, rfl⟩ ?_
      refine Wp.go (x := (.iload_n 1, 1, 0, 0)) rfl 83 [some (.ref r0), some (.int x1), some (.int x2), some (.int x3), some (.int x4), some (.int (I2 f4 j5)), some (.int (x3 + v6))] [.int x1, .ref r0, .ref f9] rfl ⟨rfl, rfl, rfl, rfl⟩ ?_
      refine Wp.go (x := (.iload 4, 2, 0, 0)) rfl 85 [some (.ref r0), some (.int x1), some (.int x2), some (.int x3), some (.int x4), some (.int (I2 f4 j5)), some (.int (x3 + v6))] [.int x4, .int x1, .ref r0, .ref f9] rfl ⟨rfl, rfl, rfl, rfl⟩ ?_
      refine Wp.go (x := (.iadd, 1, 0, 0)) rfl 86 [some (.ref r0), some (.int x1), some (.int x2), some (.int x3), some (.int x4), some (.int (I2 f4 j5)), some (.int (x3 + v6))] [.int (x1 + x4), .ref r0, .ref f9] rfl ⟨rfl, rfl, rfl, rfl⟩ ?_
      refine Wp.ic (v := nI 0) rfl rfl (by decide) ?_
      refine Wp.kI (x := (.invokevirtual 227, 3, 126, 3)) (j := 126) (vs := [.ref r0, .int (x1 + x4), .int (nI 0)]) (rest := [.ref f9]) rfl (by show xtg 126 (K r0).1 = _; rw [hn_r0]; rfl) rfl ⟨Nat.le_of_ble_eq_true rfl, Nat.le_of_ble_eq_true rfl, Nat.le_of_ble_eq_true rfl⟩ rfl rfl rfl H (fun v14 I15 J16 H => ?_)
      refine Wp.go (x := (.iload 6, 2, 0, 0)) rfl 92 [some (.ref r0), some (.int x1), some (.int x2), some (.int x3), some (.int x4), some (.int (I2 f4 j5)), some (.int (x3 + v6))] [.int (x3 + v6), .int v14, .ref f9] rfl ⟨rfl, rfl, rfl, rfl⟩ ?_
      obtain ⟨j17, e, b, H⟩ := H
      refine Wp.ast rfl rfl hn_f9 (hK hn_f9) ⟨j17, e, b, ?_⟩
      refine Wp.go (x := (.aload_n 0, 1, 0, 0)) rfl 94 [some (.ref r0), some (.int x1), some (.int x2), some (.int x3), some (.int x4), some (.int (I2 f4 j5)), some (.int (x3 + v6))] [.ref r0] rfl ⟨rfl, rfl, rfl, rfl⟩ ?_
      refine Wp.gR rfl rfl hn_r0 rfl rfl hf18 ?_
      refine Wp.go (x := (.iload_n 1, 1, 0, 0)) rfl 98 [some (.ref r0), some (.int x1), some (.int x2), some (.int x3), some (.int x4), some (.int (I2 f4 j5)), some (.int (x3 + v6))] [.int x1, .ref f18] rfl ⟨rfl, rfl, rfl, rfl⟩ ?_
      refine Wp.go (x := (.iload 4, 2, 0, 0)) rfl 100 [some (.ref r0), some (.int x1), some (.int x2), some (.int x3), some (.int x4), some (.int (I2 f4 j5)), some (.int (x3 + v6))] [.int x4, .int x1, .ref f18] rfl ⟨rfl, rfl, rfl, rfl⟩ ?_
      refine Wp.go (x := (.iadd, 1, 0, 0)) rfl 101 [some (.ref r0), some (.int x1), some (.int x2), some (.int x3), some (.int x4), some (.int (I2 f4 j5)), some (.int (x3 + v6))] [.int (x1 + x4), .ref f18] rfl ⟨rfl, rfl, rfl, rfl⟩ ?_
      refine Wp.go (x := (.iload_n 1, 1, 0, 0)) rfl 102 [some (.ref r0), some (.int x1), some (.int x2), some (.int x3), some (.int x4), some (.int (I2 f4 j5)), some (.int (x3 + v6))] [.int x1, .int (x1 + x4), .ref f18] rfl ⟨rfl, rfl, rfl, rfl⟩ ?_
      obtain ⟨j19, e, b, H⟩ := H
      refine Wp.ast rfl rfl hn_f18 (hK hn_f18) ⟨j19, e, b, ?_⟩
      refine Wp.go (x := (.aload_n 0, 1, 0, 0)) rfl 104 [some (.ref r0), some (.int x1), some (.int x2), some (.int x3), some (.int x4), some (.int (I2 f4 j5)), some (.int (x3 + v6))] [.ref r0] rfl ⟨rfl, rfl, rfl, rfl⟩ ?_
      refine Wp.gR rfl rfl hn_r0 rfl rfl hf20 ?_
      refine Wp.go (x := (.iload_n 1, 1, 0, 0)) rfl 108 [some (.ref r0), some (.int x1), some (.int x2), some (.int x3), some (.int x4), some (.int (I2 f4 j5)), some (.int (x3 + v6))] [.int x1, .ref f20] rfl ⟨rfl, rfl, rfl, rfl⟩ ?_
      refine Wp.go (x := (.iload 4, 2, 0, 0)) rfl 110 [some (.ref r0), some (.int x1), some (.int x2), some (.int x3), some (.int x4), some (.int (I2 f4 j5)), some (.int (x3 + v6))] [.int x4, .int x1, .ref f20] rfl ⟨rfl, rfl, rfl, rfl⟩ ?_
      refine Wp.go (x := (.iadd, 1, 0, 0)) rfl 111 [some (.ref r0), some (.int x1), some (.int x2), some (.int x3), some (.int x4), some (.int (I2 f4 j5)), some (.int (x3 + v6))] [.int (x1 + x4), .ref f20] rfl ⟨rfl, rfl, rfl, rfl⟩ ?_
      refine Wp.go (x := (.iload_n 2, 1, 0, 0)) rfl 112 [some (.ref r0), some (.int x1), some (.int x2), some (.int x3), some (.int x4), some (.int (I2 f4 j5)), some (.int (x3 + v6))] [.int x2, .int (x1 + x4), .ref f20] rfl ⟨rfl, rfl, rfl, rfl⟩ ?_
      obtain ⟨j21, e, b, H⟩ := H
      refine Wp.ast rfl rfl hn_f20 (hK hn_f20) ⟨j21, e, b, ?_⟩
      refine Wp.go (x := (.aload_n 0, 1, 0, 0)) rfl 114 [some (.ref r0), some (.int x1), some (.int x2), some (.int x3), some (.int x4), some (.int (I2 f4 j5)), some (.int (x3 + v6))] [.ref r0] rfl ⟨rfl, rfl, rfl, rfl⟩ ?_
      refine Wp.gR rfl rfl hn_r0 rfl rfl hf22 ?_
      refine Wp.go (x := (.iload_n 1, 1, 0, 0)) rfl 118 [some (.ref r0), some (.int x1), some (.int x2), some (.int x3), some (.int x4), some (.int (I2 f4 j5)), some (.int (x3 + v6))] [.int x1, .ref f22] rfl ⟨rfl, rfl, rfl, rfl⟩ ?_
      refine Wp.go (x := (.iload 4, 2, 0, 0)) rfl 120 [some (.ref r0), some (.int x1), some (.int x2), some (.int x3), some (.int x4), some (.int (I2 f4 j5)), some (.int (x3 + v6))] [.int x4, .int x1, .ref f22] rfl ⟨rfl, rfl, rfl, rfl⟩ ?_
      refine Wp.go (x := (.iadd, 1, 0, 0)) rfl 121 [some (.ref r0), some (.int x1), some (.int x2), some (.int x3), some (.int x4), some (.int (I2 f4 j5)), some (.int (x3 + v6))] [.int (x1 + x4), .ref f22] rfl ⟨rfl, rfl, rfl, rfl⟩ ?_
      refine Wp.go (x := (.iload 5, 2, 0, 0)) rfl 123 [some (.ref r0), some (.int x1), some (.int x2), some (.int x3), some (.int x4), some (.int (I2 f4 j5)), some (.int (x3 + v6))] [.int (I2 f4 j5), .int (x1 + x4), .ref f22] rfl ⟨rfl, rfl, rfl, rfl⟩ ?_
      obtain ⟨j23, e, b, H⟩ := H
      refine Wp.ast rfl rfl hn_f22 (hK hn_f22) ⟨j23, e, b, ?_⟩
      refine Wp.go (x := (.aload_n 0, 1, 0, 0)) rfl 125 [some (.ref r0), some (.int x1), some (.int x2), some (.int x3), some (.int x4), some (.int (I2 f4 j5)), some (.int (x3 + v6))] [.ref r0] rfl ⟨rfl, rfl, rfl, rfl⟩ ?_
      refine Wp.gR rfl rfl hn_r0 rfl rfl hf24 ?_
      refine Wp.go (x := (.iload_n 1, 1, 0, 0)) rfl 129 [some (.ref r0), some (.int x1), some (.int x2), some (.int x3), some (.int x4), some (.int (I2 f4 j5)), some (.int (x3 + v6))] [.int x1, .ref f24] rfl ⟨rfl, rfl, rfl, rfl⟩ ?_
      refine Wp.go (x := (.iload 4, 2, 0, 0)) rfl 131 [some (.ref r0), some (.int x1), some (.int x2), some (.int x3), some (.int x4), some (.int (I2 f4 j5)), some (.int (x3 + v6))] [.int x4, .int x1, .ref f24] rfl ⟨rfl, rfl, rfl, rfl⟩ ?_
      refine Wp.go (x := (.iadd, 1, 0, 0)) rfl 132 [some (.ref r0), some (.int x1), some (.int x2), some (.int x3), some (.int x4), some (.int (I2 f4 j5)), some (.int (x3 + v6))] [.int (x1 + x4), .ref f24] rfl ⟨rfl, rfl, rfl, rfl⟩ ?_
      refine Wp.ic (v := nI 0) rfl rfl (by decide) ?_
      obtain ⟨j25, e, b, H⟩ := H
      refine Wp.bst rfl rfl hn_f24 (hK hn_f24) (Or.inl rfl) ⟨j25, e, b, ?_⟩
      refine Wp.ii (v := (-1)) rfl rfl (by decide) rfl (L' := [some (.ref r0), some (.int x1), some (.int x2), some (.int x3), some (.int (x4 + (-1))), some (.int (I2 f4 j5)), some (.int (x3 + v6))]) rfl ?_
      refine Wp.go (x := (.goto (-118), 3, 19, 0)) rfl 19 [some (.ref r0), some (.int x1), some (.int x2), some (.int x3), some (.int (x4 + (-1))), some (.int (I2 f4 j5)), some (.int (x3 + v6))] [] rfl ⟨rfl, rfl, rfl, rfl⟩ ?_
      exact Wp.wk (L := [some (.ref r0), some (.int x1), some (.int x2), some (.int x3), some (.int (x4 + (-1))), none, none]) ⟨Or.inr rfl, Or.inr rfl, Or.inr rfl, Or.inr rfl, Or.inr rfl, Or.inl rfl, Or.inl rfl, trivial⟩ H
set_option maxRecDepth 20000 in
theorem wX11_literals_0 {d : Nat} {Q : Option Value × xS → Prop} {K : Nat → Nat × Nat} {P : List Nat × Nat × Nat} {I : Nat → Nat → Int32} {J : Nat → Nat → Int64} {F : Nat → Nat → Option Nat} {r0 : Nat} {x1 : Int32}  (H : Wp d 130 2 [some (.ref r0), some (.int x1), some (.int (nI 0)), none, none, none] [] (K, P, I, J, F) Q) : Wp d 130 0 [some (.ref r0), some (.int x1), none, none, none, none] [] (K, P, I, J, F) Q := by
  refine Wp.ic (v := nI 0) rfl rfl (by decide) ?_
  refine Wp.go (x := (.istore_n 2, 1, 0, 0)) rfl 2 [some (.ref r0), some (.int x1), some (.int (nI 0)), none, none, none] [] rfl ⟨rfl, rfl, rfl, rfl⟩ ?_
  exact H
set_option maxRecDepth 20000 in
theorem wX11_literals_2 {d : Nat} {Q : Option Value × xS → Prop} {K : Nat → Nat × Nat} {P : List Nat × Nat × Nat} {I : Nat → Nat → Int32} {J : Nat → Nat → Int64} {F : Nat → Nat → Option Nat} {r0 : Nat} {x1 : Int32} {x2 : Int32} {n_r0 : Nat} (hn_r0 : K r0 = (10, n_r0)) (H : ((¬ (I r0 1) = (nI 1) → Wp d 130 16 [some (.ref r0), some (.int x1), some (.int x2), none, none, none] [.int (nI 0), .int x2] (K, P, I, J, F) Q) ∧ ((I r0 1) = (nI 1) → Wp d 130 16 [some (.ref r0), some (.int x1), some (.int x2), none, none, none] [.int x1, .int x2] (K, P, I, J, F) Q))) : Wp d 130 2 [some (.ref r0), some (.int x1), some (.int x2), none, none, none] [] (K, P, I, J, F) Q := by
  refine Wp.go (x := (.iload_n 2, 1, 0, 0)) rfl 3 [some (.ref r0), some (.int x1), some (.int x2), none, none, none] [.int x2] rfl ⟨rfl, rfl, rfl, rfl⟩ ?_
  refine Wp.go (x := (.aload_n 0, 1, 0, 0)) rfl 4 [some (.ref r0), some (.int x1), some (.int x2), none, none, none] [.ref r0, .int x2] rfl ⟨rfl, rfl, rfl, rfl⟩ ?_
  refine Wp.gI rfl rfl hn_r0 rfl ⟨by decide, by decide⟩ ?_
  refine Wp.ic (v := nI 1) rfl rfl (by decide) ?_
  refine Wp.c_ne rfl rfl ⟨fun c => ?_, fun c => ?_⟩
  · have H := H.1 c
    refine Wp.ic (v := nI 0) rfl rfl (by decide) ?_
    exact H
  · have H := H.2 c
    refine Wp.go (x := (.iload_n 1, 1, 0, 0)) rfl 12 [some (.ref r0), some (.int x1), some (.int x2), none, none, none] [.int x1, .int x2] rfl ⟨rfl, rfl, rfl, rfl⟩ ?_
    refine Wp.go (x := (.goto 4, 3, 16, 0)) rfl 16 [some (.ref r0), some (.int x1), some (.int x2), none, none, none] [.int x1, .int x2] rfl ⟨rfl, rfl, rfl, rfl⟩ ?_
    exact H
set_option maxRecDepth 20000 in
theorem wX11_literals_16 {d : Nat} {Q : Option Value × xS → Prop} {K : Nat → Nat × Nat} {P : List Nat × Nat × Nat} {I : Nat → Nat → Int32} {J : Nat → Nat → Int64} {F : Nat → Nat → Option Nat} {r0 : Nat} {x1 : Int32} {x2 : Int32} {s0 : Int32} {s1 : Int32} {n_r0 : Nat} {f1 : Nat} {n_f1 : Nat} {f6 : Nat} {n_f6 : Nat} (hK : ∀ {a k n : Nat}, K a = (k, n) → n < 2147483648) (hn_r0 : K r0 = (10, n_r0)) (hf1 : F r0 23 = some f1) (hn_f1 : K f1 = (100, n_f1)) (hf6 : F r0 2 = some f6) (hn_f6 : K f6 = (100, n_f6)) (H : ((s1 < s0 → Q (none, (K, P, I, J, F))) ∧ (¬ s1 < s0 → Wp d 126 0 [some (.ref r0), some (.int x1), some (.int x2)] [] (K, P, I, J, F) (xrI K P F (fun v2 I3 J4 => (∃ j5 : Nat, v2 = nI j5 ∧ j5 < n_f1 ∧ (((nI 2000000000) ≤ (I3 f1 j5) → Wp (d + 1) 130 2 [some (.ref r0), some (.int x1), some (.int (x2 + nI 1)), none, none, none] [] (K, P, I3, J4, F) Q) ∧ (¬ (nI 2000000000) ≤ (I3 f1 j5) → (∃ j7 : Nat, x1 = nI j7 ∧ j7 < n_f6 ∧ Wp d 119 0 [some (.ref r0), some (.int (nI 0)), some (.int (nI 1)), some (.int (nI 0)), some (.int (I3 f6 j7)), some (.int x2)] [] (K, P, I3, J4, F) (xrI K P F (fun v8 I9 J10 => ((¬ (I9 r0 1) = (nI 1) → Wp (d + 1) 130 74 [some (.ref r0), some (.int x1), some (.int x2), none, some (.int ((I3 f1 j5) + v8)), none] [.int (nI 0), .int (x1 + (nI 1)), .ref r0] (K, P, I9, J10, F) Q) ∧ ((I9 r0 1) = (nI 1) → Wp (d + 1) 130 74 [some (.ref r0), some (.int x1), some (.int x2), none, some (.int ((I3 f1 j5) + v8)), none] [.int (x2 + (nI 1)), .int (x1 + (nI 1)), .ref r0] (K, P, I9, J10, F) Q))))))))))))) : Wp (d + 1) 130 16 [some (.ref r0), some (.int x1), some (.int x2), none, none, none] [.int s1, .int s0] (K, P, I, J, F) Q := by
  refine Wp.c_gt rfl rfl ⟨fun c => ?_, fun c => ?_⟩
  · have H := H.1 c
    exact Wp.rV rfl rfl H
  · have H := H.2 c
    refine Wp.go (x := (.aload_n 0, 1, 0, 0)) rfl 20 [some (.ref r0), some (.int x1), some (.int x2), none, none, none] [.ref r0] rfl ⟨rfl, rfl, rfl, rfl⟩ ?_
    refine Wp.gR rfl rfl hn_r0 rfl rfl hf1 ?_
    refine Wp.go (x := (.aload_n 0, 1, 0, 0)) rfl 24 [some (.ref r0), some (.int x1), some (.int x2), none, none, none] [.ref r0, .ref f1] rfl ⟨rfl, rfl, rfl, rfl⟩ ?_
    refine Wp.go (x := (.iload_n 1, 1, 0, 0)) rfl 25 [some (.ref r0), some (.int x1), some (.int x2), none, none, none] [.int x1, .ref r0, .ref f1] rfl ⟨rfl, rfl, rfl, rfl⟩ ?_
    refine Wp.go (x := (.iload_n 2, 1, 0, 0)) rfl 26 [some (.ref r0), some (.int x1), some (.int x2), none, none, none] [.int x2, .int x1, .ref r0, .ref f1] rfl ⟨rfl, rfl, rfl, rfl⟩ ?_
    refine Wp.kI (x := (.invokevirtual 227, 3, 126, 3)) (j := 126) (vs := [.ref r0, .int x1, .int x2]) (rest := [.ref f1]) rfl (by show xtg 126 (K r0).1 = _; rw [hn_r0]; rfl) rfl ⟨Nat.le_of_ble_eq_true rfl, Nat.le_of_ble_eq_true rfl, Nat.le_of_ble_eq_true rfl⟩ rfl rfl rfl H (fun v2 I3 J4 H => ?_)
    obtain ⟨j5, e, b, H⟩ := H
    refine Wp.ald rfl rfl hn_f1 (Or.inl rfl) (hK hn_f1) ⟨j5, e, b, ?_⟩
    refine Wp.go (x := (.istore_n 3, 1, 0, 0)) rfl 31 [some (.ref r0), some (.int x1), some (.int x2), some (.int (I3 f1 j5)), none, none] [] rfl ⟨rfl, rfl, rfl, rfl⟩ ?_
    refine Wp.go (x := (.iload_n 3, 1, 0, 0)) rfl 32 [some (.ref r0), some (.int x1), some (.int x2), some (.int (I3 f1 j5)), none, none] [.int (I3 f1 j5)] rfl ⟨rfl, rfl, rfl, rfl⟩ ?_
    refine Wp.ldc (v := nI 2000000000) rfl rfl (by first | rfl | decide) ?_
    refine Wp.c_ge rfl rfl ⟨fun c => ?_, fun c => ?_⟩
    · have H := H.1 c
      refine Wp.ii (v := nI 1) rfl rfl (by decide) rfl (L' := [some (.ref r0), some (.int x1), some (.int (x2 + nI 1)), some (.int (I3 f1 j5)), none, none]) rfl ?_
      refine Wp.go (x := (.goto (-117), 3, 2, 0)) rfl 2 [some (.ref r0), some (.int x1), some (.int (x2 + nI 1)), some (.int (I3 f1 j5)), none, none] [] rfl ⟨rfl, rfl, rfl, rfl⟩ ?_
      exact Wp.wk (L := [some (.ref r0), some (.int x1), some (.int (x2 + nI 1)), none, none, none]) ⟨Or.inr rfl, Or.inr rfl, Or.inr rfl, Or.inl rfl, Or.inr rfl, Or.inr rfl, trivial⟩ H
    · have H := H.2 c
      refine Wp.go (x := (.iload_n 3, 1, 0, 0)) rfl 38 [some (.ref r0), some (.int x1), some (.int x2), some (.int (I3 f1 j5)), none, none] [.int (I3 f1 j5)] rfl ⟨rfl, rfl, rfl, rfl⟩ ?_
      refine Wp.go (x := (.aload_n 0, 1, 0, 0)) rfl 39 [some (.ref r0), some (.int x1), some (.int x2), some (.int (I3 f1 j5)), none, none] [.ref r0, .int (I3 f1 j5)] rfl ⟨rfl, rfl, rfl, rfl⟩ ?_
      refine Wp.ic (v := nI 0) rfl rfl (by decide) ?_
      refine Wp.ic (v := nI 1) rfl rfl (by decide) ?_
      refine Wp.ic (v := nI 0) rfl rfl (by decide) ?_
      refine Wp.go (x := (.aload_n 0, 1, 0, 0)) rfl 43 [some (.ref r0), some (.int x1), some (.int x2), some (.int (I3 f1 j5)), none, none] [.ref r0, .int (nI 0), .int (nI 1), .int (nI 0), .ref r0, .int (I3 f1 j5)] rfl ⟨rfl, rfl, rfl, rfl⟩ ?_
      refine Wp.gR rfl rfl hn_r0 rfl rfl hf6 ?_
      refine Wp.go (x := (.iload_n 1, 1, 0, 0)) rfl 47 [some (.ref r0), some (.int x1), some (.int x2), some (.int (I3 f1 j5)), none, none] [.int x1, .ref f6, .int (nI 0), .int (nI 1), .int (nI 0), .ref r0, .int (I3 f1 j5)] rfl ⟨rfl, rfl, rfl, rfl⟩ ?_
      obtain ⟨j7, e, b, H⟩ := H
      refine Wp.ald rfl rfl hn_f6 (Or.inl rfl) (hK hn_f6) ⟨j7, e, b, ?_⟩
      refine Wp.go (x := (.iload_n 2, 1, 0, 0)) rfl 49 [some (.ref r0), some (.int x1), some (.int x2), some (.int (I3 f1 j5)), none, none] [.int x2, .int (I3 f6 j7), .int (nI 0), .int (nI 1), .int (nI 0), .ref r0, .int (I3 f1 j5)] rfl ⟨rfl, rfl, rfl, rfl⟩ ?_
      refine Wp.kI (x := (.invokevirtual 189, 3, 119, 6)) (j := 119) (vs := [.ref r0, .int (nI 0), .int (nI 1), .int (nI 0), .int (I3 f6 j7), .int x2]) (rest := [.int (I3 f1 j5)]) rfl (by show xtg 119 (K r0).1 = _; rw [hn_r0]; rfl) rfl ⟨Nat.le_of_ble_eq_true rfl, Nat.le_of_ble_eq_true rfl, Nat.le_of_ble_eq_true rfl⟩ rfl rfl rfl H (fun v8 I9 J10 H => ?_)
      refine Wp.go (x := (.iadd, 1, 0, 0)) rfl 53 [some (.ref r0), some (.int x1), some (.int x2), some (.int (I3 f1 j5)), none, none] [.int ((I3 f1 j5) + v8)] rfl ⟨rfl, rfl, rfl, rfl⟩ ?_
      refine Wp.go (x := (.istore 4, 2, 0, 0)) rfl 55 [some (.ref r0), some (.int x1), some (.int x2), some (.int (I3 f1 j5)), some (.int ((I3 f1 j5) + v8)), none] [] rfl ⟨rfl, rfl, rfl, rfl⟩ ?_
      refine Wp.go (x := (.aload_n 0, 1, 0, 0)) rfl 56 [some (.ref r0), some (.int x1), some (.int x2), some (.int (I3 f1 j5)), some (.int ((I3 f1 j5) + v8)), none] [.ref r0] rfl ⟨rfl, rfl, rfl, rfl⟩ ?_
      refine Wp.go (x := (.iload_n 1, 1, 0, 0)) rfl 57 [some (.ref r0), some (.int x1), some (.int x2), some (.int (I3 f1 j5)), some (.int ((I3 f1 j5) + v8)), none] [.int x1, .ref r0] rfl ⟨rfl, rfl, rfl, rfl⟩ ?_
      refine Wp.ic (v := nI 1) rfl rfl (by decide) ?_
      refine Wp.go (x := (.iadd, 1, 0, 0)) rfl 59 [some (.ref r0), some (.int x1), some (.int x2), some (.int (I3 f1 j5)), some (.int ((I3 f1 j5) + v8)), none] [.int (x1 + (nI 1)), .ref r0] rfl ⟨rfl, rfl, rfl, rfl⟩ ?_
      refine Wp.go (x := (.aload_n 0, 1, 0, 0)) rfl 60 [some (.ref r0), some (.int x1), some (.int x2), some (.int (I3 f1 j5)), some (.int ((I3 f1 j5) + v8)), none] [.ref r0, .int (x1 + (nI 1)), .ref r0] rfl ⟨rfl, rfl, rfl, rfl⟩ ?_
      refine Wp.gI rfl rfl hn_r0 rfl ⟨by decide, by decide⟩ ?_
      refine Wp.ic (v := nI 1) rfl rfl (by decide) ?_
      refine Wp.c_ne rfl rfl ⟨fun c => ?_, fun c => ?_⟩
      · have H := H.1 c
        refine Wp.ic (v := nI 0) rfl rfl (by decide) ?_
        exact Wp.wk (L := [some (.ref r0), some (.int x1), some (.int x2), none, some (.int ((I3 f1 j5) + v8)), none]) ⟨Or.inr rfl, Or.inr rfl, Or.inr rfl, Or.inl rfl, Or.inr rfl, Or.inr rfl, trivial⟩ H
      · have H := H.2 c
        refine Wp.go (x := (.iload_n 2, 1, 0, 0)) rfl 68 [some (.ref r0), some (.int x1), some (.int x2), some (.int (I3 f1 j5)), some (.int ((I3 f1 j5) + v8)), none] [.int x2, .int (x1 + (nI 1)), .ref r0] rfl ⟨rfl, rfl, rfl, rfl⟩ ?_
        refine Wp.ic (v := nI 1) rfl rfl (by decide) ?_
        refine Wp.go (x := (.iadd, 1, 0, 0)) rfl 70 [some (.ref r0), some (.int x1), some (.int x2), some (.int (I3 f1 j5)), some (.int ((I3 f1 j5) + v8)), none] [.int (x2 + (nI 1)), .int (x1 + (nI 1)), .ref r0] rfl ⟨rfl, rfl, rfl, rfl⟩ ?_
        refine Wp.go (x := (.goto 4, 3, 74, 0)) rfl 74 [some (.ref r0), some (.int x1), some (.int x2), some (.int (I3 f1 j5)), some (.int ((I3 f1 j5) + v8)), none] [.int (x2 + (nI 1)), .int (x1 + (nI 1)), .ref r0] rfl ⟨rfl, rfl, rfl, rfl⟩ ?_
        exact Wp.wk (L := [some (.ref r0), some (.int x1), some (.int x2), none, some (.int ((I3 f1 j5) + v8)), none]) ⟨Or.inr rfl, Or.inr rfl, Or.inr rfl, Or.inl rfl, Or.inr rfl, Or.inr rfl, trivial⟩ H
set_option maxRecDepth 20000 in
theorem wX11_literals_74 {d : Nat} {Q : Option Value × xS → Prop} {K : Nat → Nat × Nat} {P : List Nat × Nat × Nat} {I : Nat → Nat → Int32} {J : Nat → Nat → Int64} {F : Nat → Nat → Option Nat} {r0 : Nat} {x1 : Int32} {x2 : Int32} {x4 : Int32} {q0 : Nat} {s1 : Int32} {s2 : Int32} {n_q0 : Nat} {n_r0 : Nat} {f4 : Nat} {n_f4 : Nat} {f7 : Nat} {n_f7 : Nat} (hK : ∀ {a k n : Nat}, K a = (k, n) → n < 2147483648) (hn_q0 : K q0 = (10, n_q0)) (hn_r0 : K r0 = (10, n_r0)) (hf4 : F r0 23 = some f4) (hn_f4 : K f4 = (100, n_f4)) (hf7 : F r0 27 = some f7) (hn_f7 : K f7 = (102, n_f7)) (H : Wp d 126 0 [some (.ref q0), some (.int s1), some (.int s2)] [] (K, P, I, J, F) (xrI K P F (fun v1 I2 J3 => (∃ j5 : Nat, v1 = nI j5 ∧ j5 < n_f4 ∧ (((I2 f4 j5) ≤ x4 → Wp (d + 1) 130 2 [some (.ref r0), some (.int x1), some (.int (x2 + nI 1)), none, none, none] [] (K, P, I2, J3, F) Q) ∧ (¬ (I2 f4 j5) ≤ x4 → (∃ j6 : Nat, v1 = nI j6 ∧ j6 < n_f4 ∧ ((¬ (((xup I2 f4 j6 x4)) r0 1) = 0 → Wp (d + 1) 130 2 [some (.ref r0), some (.int x1), some (.int (x2 + nI 1)), none, none, none] [] (K, P, (xup I2 f4 j6 x4), J3, F) Q) ∧ ((((xup I2 f4 j6 x4)) r0 1) = 0 → (∃ j8 : Nat, (x1 + (nI 1)) = nI j8 ∧ j8 < n_f7 ∧ Wp (d + 1) 130 2 [some (.ref r0), some (.int x1), some (.int (x2 + nI 1)), none, none, none] [] (K, P, (xup ((xup I2 f4 j6 x4)) f7 j8 (nI 1)), J3, F) Q)))))))))) : Wp (d + 1) 130 74 [some (.ref r0), some (.int x1), some (.int x2), none, some (.int x4), none] [.int s2, .int s1, .ref q0] (K, P, I, J, F) Q := by
  refine Wp.kI (x := (.invokevirtual 227, 3, 126, 3)) (j := 126) (vs := [.ref q0, .int s1, .int s2]) (rest := []) rfl (by show xtg 126 (K q0).1 = _; rw [hn_q0]; rfl) rfl ⟨Nat.le_of_ble_eq_true rfl, Nat.le_of_ble_eq_true rfl, Nat.le_of_ble_eq_true rfl⟩ rfl rfl rfl H (fun v1 I2 J3 H => ?_)
  refine Wp.go (x := (.istore 5, 2, 0, 0)) rfl 79 [some (.ref r0), some (.int x1), some (.int x2), none, some (.int x4), some (.int v1)] [] rfl ⟨rfl, rfl, rfl, rfl⟩ ?_
  refine Wp.go (x := (.iload 4, 2, 0, 0)) rfl 81 [some (.ref r0), some (.int x1), some (.int x2), none, some (.int x4), some (.int v1)] [.int x4] rfl ⟨rfl, rfl, rfl, rfl⟩ ?_
  refine Wp.go (x := (.aload_n 0, 1, 0, 0)) rfl 82 [some (.ref r0), some (.int x1), some (.int x2), none, some (.int x4), some (.int v1)] [.ref r0, .int x4] rfl ⟨rfl, rfl, rfl, rfl⟩ ?_
  refine Wp.gR rfl rfl hn_r0 rfl rfl hf4 ?_
  refine Wp.go (x := (.iload 5, 2, 0, 0)) rfl 87 [some (.ref r0), some (.int x1), some (.int x2), none, some (.int x4), some (.int v1)] [.int v1, .ref f4, .int x4] rfl ⟨rfl, rfl, rfl, rfl⟩ ?_
  obtain ⟨j5, e, b, H⟩ := H
  refine Wp.ald rfl rfl hn_f4 (Or.inl rfl) (hK hn_f4) ⟨j5, e, b, ?_⟩
  refine Wp.c_ge rfl rfl ⟨fun c => ?_, fun c => ?_⟩
  · have H := H.1 c
    refine Wp.ii (v := nI 1) rfl rfl (by decide) rfl (L' := [some (.ref r0), some (.int x1), some (.int (x2 + nI 1)), none, some (.int x4), some (.int v1)]) rfl ?_
    refine Wp.go (x := (.goto (-117), 3, 2, 0)) rfl 2 [some (.ref r0), some (.int x1), some (.int (x2 + nI 1)), none, some (.int x4), some (.int v1)] [] rfl ⟨rfl, rfl, rfl, rfl⟩ ?_
    exact Wp.wk (L := [some (.ref r0), some (.int x1), some (.int (x2 + nI 1)), none, none, none]) ⟨Or.inr rfl, Or.inr rfl, Or.inr rfl, Or.inr rfl, Or.inl rfl, Or.inl rfl, trivial⟩ H
  · have H := H.2 c
    refine Wp.go (x := (.aload_n 0, 1, 0, 0)) rfl 92 [some (.ref r0), some (.int x1), some (.int x2), none, some (.int x4), some (.int v1)] [.ref r0] rfl ⟨rfl, rfl, rfl, rfl⟩ ?_
    refine Wp.gR rfl rfl hn_r0 rfl rfl hf4 ?_
    refine Wp.go (x := (.iload 5, 2, 0, 0)) rfl 97 [some (.ref r0), some (.int x1), some (.int x2), none, some (.int x4), some (.int v1)] [.int v1, .ref f4] rfl ⟨rfl, rfl, rfl, rfl⟩ ?_
    refine Wp.go (x := (.iload 4, 2, 0, 0)) rfl 99 [some (.ref r0), some (.int x1), some (.int x2), none, some (.int x4), some (.int v1)] [.int x4, .int v1, .ref f4] rfl ⟨rfl, rfl, rfl, rfl⟩ ?_
    obtain ⟨j6, e, b, H⟩ := H
    refine Wp.ast rfl rfl hn_f4 (hK hn_f4) ⟨j6, e, b, ?_⟩
    refine Wp.go (x := (.aload_n 0, 1, 0, 0)) rfl 101 [some (.ref r0), some (.int x1), some (.int x2), none, some (.int x4), some (.int v1)] [.ref r0] rfl ⟨rfl, rfl, rfl, rfl⟩ ?_
    refine Wp.gI rfl rfl hn_r0 rfl ⟨by decide, by decide⟩ ?_
    refine Wp.z_ne rfl rfl ⟨fun c => ?_, fun c => ?_⟩
    · have H := H.1 c
      refine Wp.ii (v := nI 1) rfl rfl (by decide) rfl (L' := [some (.ref r0), some (.int x1), some (.int (x2 + nI 1)), none, some (.int x4), some (.int v1)]) rfl ?_
      refine Wp.go (x := (.goto (-117), 3, 2, 0)) rfl 2 [some (.ref r0), some (.int x1), some (.int (x2 + nI 1)), none, some (.int x4), some (.int v1)] [] rfl ⟨rfl, rfl, rfl, rfl⟩ ?_
      exact Wp.wk (L := [some (.ref r0), some (.int x1), some (.int (x2 + nI 1)), none, none, none]) ⟨Or.inr rfl, Or.inr rfl, Or.inr rfl, Or.inr rfl, Or.inl rfl, Or.inl rfl, trivial⟩ H
    · have H := H.2 c
      refine Wp.go (x := (.aload_n 0, 1, 0, 0)) rfl 108 [some (.ref r0), some (.int x1), some (.int x2), none, some (.int x4), some (.int v1)] [.ref r0] rfl ⟨rfl, rfl, rfl, rfl⟩ ?_
      refine Wp.gR rfl rfl hn_r0 rfl rfl hf7 ?_
      refine Wp.go (x := (.iload_n 1, 1, 0, 0)) rfl 112 [some (.ref r0), some (.int x1), some (.int x2), none, some (.int x4), some (.int v1)] [.int x1, .ref f7] rfl ⟨rfl, rfl, rfl, rfl⟩ ?_
      refine Wp.ic (v := nI 1) rfl rfl (by decide) ?_
      refine Wp.go (x := (.iadd, 1, 0, 0)) rfl 114 [some (.ref r0), some (.int x1), some (.int x2), none, some (.int x4), some (.int v1)] [.int (x1 + (nI 1)), .ref f7] rfl ⟨rfl, rfl, rfl, rfl⟩ ?_
      refine Wp.ic (v := nI 1) rfl rfl (by decide) ?_
      obtain ⟨j8, e, b, H⟩ := H
      refine Wp.bst rfl rfl hn_f7 (hK hn_f7) (Or.inr rfl) ⟨j8, e, b, ?_⟩
      refine Wp.ii (v := nI 1) rfl rfl (by decide) rfl (L' := [some (.ref r0), some (.int x1), some (.int (x2 + nI 1)), none, some (.int x4), some (.int v1)]) rfl ?_
      refine Wp.go (x := (.goto (-117), 3, 2, 0)) rfl 2 [some (.ref r0), some (.int x1), some (.int (x2 + nI 1)), none, some (.int x4), some (.int v1)] [] rfl ⟨rfl, rfl, rfl, rfl⟩ ?_
      exact Wp.wk (L := [some (.ref r0), some (.int x1), some (.int (x2 + nI 1)), none, none, none]) ⟨Or.inr rfl, Or.inr rfl, Or.inr rfl, Or.inr rfl, Or.inl rfl, Or.inl rfl, trivial⟩ H
set_option maxRecDepth 20000 in
theorem wX11_backPlain_0 {d : Nat} {Q : Option Value × xS → Prop} {K : Nat → Nat × Nat} {P : List Nat × Nat × Nat} {I : Nat → Nat → Int32} {J : Nat → Nat → Int64} {F : Nat → Nat → Option Nat} {r0 : Nat} {n_r0 : Nat} {f4 : Nat} {n_f4 : Nat} (hK : ∀ {a k n : Nat}, K a = (k, n) → n < 2147483648) (hn_r0 : K r0 = (10, n_r0)) (hf4 : F r0 23 = some f4) (hn_f4 : K f4 = (100, n_f4)) (H : Wp d 127 0 [some (.ref r0), some (.int (I r0 3)), none, none] [] (K, P, I, J, F) (xrI K P F (fun v1 I2 J3 => Wp d 126 0 [some (.ref r0), some (.int (I2 r0 3)), some (.int v1)] [] (K, P, I2, J3, F) (xrI K P F (fun v5 I6 J7 => (∃ j8 : Nat, v5 = nI j8 ∧ j8 < n_f4 ∧ ((¬ (I6 r0 1) = (nI 1) → Wp (d + 1) 131 51 [some (.ref r0), some (.int (I r0 3)), some (.int v1), some (.int (nI 0)), none, none] [] (K, P, I6, (xup J7 r0 16 (((I6 f4 j8).toInt64) + (lN 0))), F) Q) ∧ ((I6 r0 1) = (nI 1) → Wp (d + 1) 131 51 [some (.ref r0), some (.int (I r0 3)), some (.int v1), some (.int (nI 0)), none, none] [] (K, P, I6, (xup J7 r0 16 (((I6 f4 j8).toInt64) + (lN 512))), F) Q)))))))) : Wp (d + 1) 131 0 [some (.ref r0), none, none, none, none, none] [] (K, P, I, J, F) Q := by
  refine Wp.go (x := (.aload_n 0, 1, 0, 0)) rfl 1 [some (.ref r0), none, none, none, none, none] [.ref r0] rfl ⟨rfl, rfl, rfl, rfl⟩ ?_
  refine Wp.gI rfl rfl hn_r0 rfl ⟨by decide, by decide⟩ ?_
  refine Wp.go (x := (.istore_n 1, 1, 0, 0)) rfl 5 [some (.ref r0), some (.int (I r0 3)), none, none, none, none] [] rfl ⟨rfl, rfl, rfl, rfl⟩ ?_
  refine Wp.go (x := (.aload_n 0, 1, 0, 0)) rfl 6 [some (.ref r0), some (.int (I r0 3)), none, none, none, none] [.ref r0] rfl ⟨rfl, rfl, rfl, rfl⟩ ?_
  refine Wp.go (x := (.aload_n 0, 1, 0, 0)) rfl 7 [some (.ref r0), some (.int (I r0 3)), none, none, none, none] [.ref r0, .ref r0] rfl ⟨rfl, rfl, rfl, rfl⟩ ?_
  refine Wp.gI rfl rfl hn_r0 rfl ⟨by decide, by decide⟩ ?_
  refine Wp.kI (x := (.invokevirtual 231, 3, 127, 2)) (j := 127) (vs := [.ref r0, .int (I r0 3)]) (rest := []) rfl (by show xtg 127 (K r0).1 = _; rw [hn_r0]; rfl) rfl ⟨Nat.le_of_ble_eq_true rfl, Nat.le_of_ble_eq_true rfl, Nat.le_of_ble_eq_true rfl⟩ rfl rfl rfl H (fun v1 I2 J3 H => ?_)
  refine Wp.go (x := (.istore_n 2, 1, 0, 0)) rfl 14 [some (.ref r0), some (.int (I r0 3)), some (.int v1), none, none, none] [] rfl ⟨rfl, rfl, rfl, rfl⟩ ?_
  refine Wp.go (x := (.aload_n 0, 1, 0, 0)) rfl 15 [some (.ref r0), some (.int (I r0 3)), some (.int v1), none, none, none] [.ref r0] rfl ⟨rfl, rfl, rfl, rfl⟩ ?_
  refine Wp.go (x := (.aload_n 0, 1, 0, 0)) rfl 16 [some (.ref r0), some (.int (I r0 3)), some (.int v1), none, none, none] [.ref r0, .ref r0] rfl ⟨rfl, rfl, rfl, rfl⟩ ?_
  refine Wp.gR rfl rfl hn_r0 rfl rfl hf4 ?_
  refine Wp.go (x := (.aload_n 0, 1, 0, 0)) rfl 20 [some (.ref r0), some (.int (I r0 3)), some (.int v1), none, none, none] [.ref r0, .ref f4, .ref r0] rfl ⟨rfl, rfl, rfl, rfl⟩ ?_
  refine Wp.go (x := (.aload_n 0, 1, 0, 0)) rfl 21 [some (.ref r0), some (.int (I r0 3)), some (.int v1), none, none, none] [.ref r0, .ref r0, .ref f4, .ref r0] rfl ⟨rfl, rfl, rfl, rfl⟩ ?_
  refine Wp.gI rfl rfl hn_r0 rfl ⟨by decide, by decide⟩ ?_
  refine Wp.go (x := (.iload_n 2, 1, 0, 0)) rfl 25 [some (.ref r0), some (.int (I r0 3)), some (.int v1), none, none, none] [.int v1, .int (I2 r0 3), .ref r0, .ref f4, .ref r0] rfl ⟨rfl, rfl, rfl, rfl⟩ ?_
  refine Wp.kI (x := (.invokevirtual 227, 3, 126, 3)) (j := 126) (vs := [.ref r0, .int (I2 r0 3), .int v1]) (rest := [.ref f4, .ref r0]) rfl (by show xtg 126 (K r0).1 = _; rw [hn_r0]; rfl) rfl ⟨Nat.le_of_ble_eq_true rfl, Nat.le_of_ble_eq_true rfl, Nat.le_of_ble_eq_true rfl⟩ rfl rfl rfl H (fun v5 I6 J7 H => ?_)
  obtain ⟨j8, e, b, H⟩ := H
  refine Wp.ald rfl rfl hn_f4 (Or.inl rfl) (hK hn_f4) ⟨j8, e, b, ?_⟩
  refine Wp.go (x := (.i2l, 1, 0, 0)) rfl 30 [some (.ref r0), some (.int (I r0 3)), some (.int v1), none, none, none] [.long ((I6 f4 j8).toInt64), .ref r0] rfl ⟨rfl, rfl, rfl, rfl⟩ ?_
  refine Wp.go (x := (.aload_n 0, 1, 0, 0)) rfl 31 [some (.ref r0), some (.int (I r0 3)), some (.int v1), none, none, none] [.ref r0, .long ((I6 f4 j8).toInt64), .ref r0] rfl ⟨rfl, rfl, rfl, rfl⟩ ?_
  refine Wp.gI rfl rfl hn_r0 rfl ⟨by decide, by decide⟩ ?_
  refine Wp.ic (v := nI 1) rfl rfl (by decide) ?_
  refine Wp.c_ne rfl rfl ⟨fun c => ?_, fun c => ?_⟩
  · have H := H.1 c
    refine Wp.lc (v := lN 0) rfl rfl (by first | rfl | decide) ?_
    refine Wp.go (x := (.ladd, 1, 0, 0)) rfl 46 [some (.ref r0), some (.int (I r0 3)), some (.int v1), none, none, none] [.long (((I6 f4 j8).toInt64) + (lN 0)), .ref r0] rfl ⟨rfl, rfl, rfl, rfl⟩ ?_
    refine Wp.pJ rfl rfl hn_r0 rfl rfl ?_
    refine Wp.ic (v := nI 0) rfl rfl (by decide) ?_
    refine Wp.go (x := (.istore_n 3, 1, 0, 0)) rfl 51 [some (.ref r0), some (.int (I r0 3)), some (.int v1), some (.int (nI 0)), none, none] [] rfl ⟨rfl, rfl, rfl, rfl⟩ ?_
    exact H
  · have H := H.2 c
    refine Wp.ldcj (v := lN 512) rfl rfl (by first | rfl | decide) ?_
    refine Wp.go (x := (.goto 4, 3, 45, 0)) rfl 45 [some (.ref r0), some (.int (I r0 3)), some (.int v1), none, none, none] [.long (lN 512), .long ((I6 f4 j8).toInt64), .ref r0] rfl ⟨rfl, rfl, rfl, rfl⟩ ?_
    refine Wp.go (x := (.ladd, 1, 0, 0)) rfl 46 [some (.ref r0), some (.int (I r0 3)), some (.int v1), none, none, none] [.long (((I6 f4 j8).toInt64) + (lN 512)), .ref r0] rfl ⟨rfl, rfl, rfl, rfl⟩ ?_
    refine Wp.pJ rfl rfl hn_r0 rfl rfl ?_
    refine Wp.ic (v := nI 0) rfl rfl (by decide) ?_
    refine Wp.go (x := (.istore_n 3, 1, 0, 0)) rfl 51 [some (.ref r0), some (.int (I r0 3)), some (.int v1), some (.int (nI 0)), none, none] [] rfl ⟨rfl, rfl, rfl, rfl⟩ ?_
    exact H
set_option maxRecDepth 20000 in
theorem wX11_backPlain_51 {d : Nat} {Q : Option Value × xS → Prop} {K : Nat → Nat × Nat} {P : List Nat × Nat × Nat} {I : Nat → Nat → Int32} {J : Nat → Nat → Int64} {F : Nat → Nat → Option Nat} {r0 : Nat} {x1 : Int32} {x2 : Int32} {x3 : Int32} {n_r0 : Nat} {f3 : Nat} {n_f3 : Nat} {f5 : Nat} {n_f5 : Nat} (hK : ∀ {a k n : Nat}, K a = (k, n) → n < 2147483648) (hn_r0 : K r0 = (10, n_r0)) (hf3 : F r0 27 = some f3) (hn_f3 : K f3 = (102, n_f3)) (hf5 : F r0 24 = some f5) (hn_f5 : K f5 = (100, n_f5)) (H : ((x1 ≤ 0 → Wp d 132 0 [some (.ref r0), some (.int x3), none] [] (K, P, I, J, F) (xrV K P F (fun I1 J2 => Q (none, (K, P, I1, J2, F))))) ∧ (¬ x1 ≤ 0 → ((¬ (I r0 1) = (nI 1) → (∃ j4 : Nat, x1 = nI j4 ∧ j4 < n_f3 ∧ (((I f3 j4) = 0 → (∃ j6 : Nat, x1 = nI j6 ∧ j6 < n_f5 ∧ Wp (d + 1) 131 100 [some (.ref r0), some (.int x1), some (.int x2), some (.int x3), some (.int (I f3 j4)), none] [.int (I f5 j6)] (K, P, I, J, F) Q)) ∧ (¬ (I f3 j4) = 0 → Wp (d + 1) 131 100 [some (.ref r0), some (.int x1), some (.int x2), some (.int x3), some (.int (I f3 j4)), none] [.int (x1 - (nI 1))] (K, P, I, J, F) Q)))) ∧ ((I r0 1) = (nI 1) → ((x2 ≤ 0 → (((nI 0) = 0 → (∃ j7 : Nat, x1 = nI j7 ∧ j7 < n_f5 ∧ Wp (d + 1) 131 100 [some (.ref r0), some (.int x1), some (.int x2), some (.int x3), some (.int (nI 0)), none] [.int (I f5 j7)] (K, P, I, J, F) Q)) ∧ (¬ (nI 0) = 0 → Wp (d + 1) 131 100 [some (.ref r0), some (.int x1), some (.int x2), some (.int x3), some (.int (nI 0)), none] [.int (x1 - (nI 1))] (K, P, I, J, F) Q))) ∧ (¬ x2 ≤ 0 → (((nI 1) = 0 → (∃ j8 : Nat, x1 = nI j8 ∧ j8 < n_f5 ∧ Wp (d + 1) 131 100 [some (.ref r0), some (.int x1), some (.int x2), some (.int x3), some (.int (nI 1)), none] [.int (I f5 j8)] (K, P, I, J, F) Q)) ∧ (¬ (nI 1) = 0 → Wp (d + 1) 131 100 [some (.ref r0), some (.int x1), some (.int x2), some (.int x3), some (.int (nI 1)), none] [.int (x1 - (nI 1))] (K, P, I, J, F) Q))))))))) : Wp (d + 1) 131 51 [some (.ref r0), some (.int x1), some (.int x2), some (.int x3), none, none] [] (K, P, I, J, F) Q := by
  refine Wp.go (x := (.iload_n 1, 1, 0, 0)) rfl 52 [some (.ref r0), some (.int x1), some (.int x2), some (.int x3), none, none] [.int x1] rfl ⟨rfl, rfl, rfl, rfl⟩ ?_
  refine Wp.z_le rfl rfl ⟨fun c => ?_, fun c => ?_⟩
  · have H := H.1 c
    refine Wp.go (x := (.aload_n 0, 1, 0, 0)) rfl 197 [some (.ref r0), some (.int x1), some (.int x2), some (.int x3), none, none] [.ref r0] rfl ⟨rfl, rfl, rfl, rfl⟩ ?_
    refine Wp.go (x := (.iload_n 3, 1, 0, 0)) rfl 198 [some (.ref r0), some (.int x1), some (.int x2), some (.int x3), none, none] [.int x3, .ref r0] rfl ⟨rfl, rfl, rfl, rfl⟩ ?_
    refine Wp.kV (x := (.invokevirtual 234, 3, 132, 2)) (j := 132) (vs := [.ref r0, .int x3]) (rest := []) rfl (by show xtg 132 (K r0).1 = _; rw [hn_r0]; rfl) rfl ⟨Nat.le_of_ble_eq_true rfl, Nat.le_of_ble_eq_true rfl, Nat.le_of_ble_eq_true rfl⟩ rfl rfl rfl H (fun I1 J2 H => ?_)
    exact Wp.rV rfl rfl H
  · have H := H.2 c
    refine Wp.go (x := (.aload_n 0, 1, 0, 0)) rfl 56 [some (.ref r0), some (.int x1), some (.int x2), some (.int x3), none, none] [.ref r0] rfl ⟨rfl, rfl, rfl, rfl⟩ ?_
    refine Wp.gI rfl rfl hn_r0 rfl ⟨by decide, by decide⟩ ?_
    refine Wp.ic (v := nI 1) rfl rfl (by decide) ?_
    refine Wp.c_ne rfl rfl ⟨fun c => ?_, fun c => ?_⟩
    · have H := H.1 c
      refine Wp.go (x := (.aload_n 0, 1, 0, 0)) rfl 76 [some (.ref r0), some (.int x1), some (.int x2), some (.int x3), none, none] [.ref r0] rfl ⟨rfl, rfl, rfl, rfl⟩ ?_
      refine Wp.gR rfl rfl hn_r0 rfl rfl hf3 ?_
      refine Wp.go (x := (.iload_n 1, 1, 0, 0)) rfl 80 [some (.ref r0), some (.int x1), some (.int x2), some (.int x3), none, none] [.int x1, .ref f3] rfl ⟨rfl, rfl, rfl, rfl⟩ ?_
      obtain ⟨j4, e, b, H⟩ := H
      refine Wp.bld rfl rfl hn_f3 (hK hn_f3) ⟨j4, e, b, ?_⟩
      refine Wp.go (x := (.istore 4, 2, 0, 0)) rfl 83 [some (.ref r0), some (.int x1), some (.int x2), some (.int x3), some (.int (I f3 j4)), none] [] rfl ⟨rfl, rfl, rfl, rfl⟩ ?_
      refine Wp.go (x := (.iload 4, 2, 0, 0)) rfl 85 [some (.ref r0), some (.int x1), some (.int x2), some (.int x3), some (.int (I f3 j4)), none] [.int (I f3 j4)] rfl ⟨rfl, rfl, rfl, rfl⟩ ?_
      refine Wp.z_eq rfl rfl ⟨fun c => ?_, fun c => ?_⟩
      · have H := H.1 c
        refine Wp.go (x := (.aload_n 0, 1, 0, 0)) rfl 95 [some (.ref r0), some (.int x1), some (.int x2), some (.int x3), some (.int (I f3 j4)), none] [.ref r0] rfl ⟨rfl, rfl, rfl, rfl⟩ ?_
        refine Wp.gR rfl rfl hn_r0 rfl rfl hf5 ?_
        refine Wp.go (x := (.iload_n 1, 1, 0, 0)) rfl 99 [some (.ref r0), some (.int x1), some (.int x2), some (.int x3), some (.int (I f3 j4)), none] [.int x1, .ref f5] rfl ⟨rfl, rfl, rfl, rfl⟩ ?_
        obtain ⟨j6, e, b, H⟩ := H
        refine Wp.ald rfl rfl hn_f5 (Or.inl rfl) (hK hn_f5) ⟨j6, e, b, ?_⟩
        exact H
      · have H := H.2 c
        refine Wp.go (x := (.iload_n 1, 1, 0, 0)) rfl 89 [some (.ref r0), some (.int x1), some (.int x2), some (.int x3), some (.int (I f3 j4)), none] [.int x1] rfl ⟨rfl, rfl, rfl, rfl⟩ ?_
        refine Wp.ic (v := nI 1) rfl rfl (by decide) ?_
        refine Wp.go (x := (.isub, 1, 0, 0)) rfl 91 [some (.ref r0), some (.int x1), some (.int x2), some (.int x3), some (.int (I f3 j4)), none] [.int (x1 - (nI 1))] rfl ⟨rfl, rfl, rfl, rfl⟩ ?_
        refine Wp.go (x := (.goto 9, 3, 100, 0)) rfl 100 [some (.ref r0), some (.int x1), some (.int x2), some (.int x3), some (.int (I f3 j4)), none] [.int (x1 - (nI 1))] rfl ⟨rfl, rfl, rfl, rfl⟩ ?_
        exact H
    · have H := H.2 c
      refine Wp.go (x := (.iload_n 2, 1, 0, 0)) rfl 64 [some (.ref r0), some (.int x1), some (.int x2), some (.int x3), none, none] [.int x2] rfl ⟨rfl, rfl, rfl, rfl⟩ ?_
      refine Wp.z_le rfl rfl ⟨fun c => ?_, fun c => ?_⟩
      · have H := H.1 c
        refine Wp.ic (v := nI 0) rfl rfl (by decide) ?_
        refine Wp.go (x := (.goto 9, 3, 81, 0)) rfl 81 [some (.ref r0), some (.int x1), some (.int x2), some (.int x3), none, none] [.int (nI 0)] rfl ⟨rfl, rfl, rfl, rfl⟩ ?_
        refine Wp.go (x := (.istore 4, 2, 0, 0)) rfl 83 [some (.ref r0), some (.int x1), some (.int x2), some (.int x3), some (.int (nI 0)), none] [] rfl ⟨rfl, rfl, rfl, rfl⟩ ?_
        refine Wp.go (x := (.iload 4, 2, 0, 0)) rfl 85 [some (.ref r0), some (.int x1), some (.int x2), some (.int x3), some (.int (nI 0)), none] [.int (nI 0)] rfl ⟨rfl, rfl, rfl, rfl⟩ ?_
        refine Wp.z_eq rfl rfl ⟨fun c => ?_, fun c => ?_⟩
        · have H := H.1 c
          refine Wp.go (x := (.aload_n 0, 1, 0, 0)) rfl 95 [some (.ref r0), some (.int x1), some (.int x2), some (.int x3), some (.int (nI 0)), none] [.ref r0] rfl ⟨rfl, rfl, rfl, rfl⟩ ?_
          refine Wp.gR rfl rfl hn_r0 rfl rfl hf5 ?_
          refine Wp.go (x := (.iload_n 1, 1, 0, 0)) rfl 99 [some (.ref r0), some (.int x1), some (.int x2), some (.int x3), some (.int (nI 0)), none] [.int x1, .ref f5] rfl ⟨rfl, rfl, rfl, rfl⟩ ?_
          obtain ⟨j7, e, b, H⟩ := H
          refine Wp.ald rfl rfl hn_f5 (Or.inl rfl) (hK hn_f5) ⟨j7, e, b, ?_⟩
          exact H
        · have H := H.2 c
          refine Wp.go (x := (.iload_n 1, 1, 0, 0)) rfl 89 [some (.ref r0), some (.int x1), some (.int x2), some (.int x3), some (.int (nI 0)), none] [.int x1] rfl ⟨rfl, rfl, rfl, rfl⟩ ?_
          refine Wp.ic (v := nI 1) rfl rfl (by decide) ?_
          refine Wp.go (x := (.isub, 1, 0, 0)) rfl 91 [some (.ref r0), some (.int x1), some (.int x2), some (.int x3), some (.int (nI 0)), none] [.int (x1 - (nI 1))] rfl ⟨rfl, rfl, rfl, rfl⟩ ?_
          refine Wp.go (x := (.goto 9, 3, 100, 0)) rfl 100 [some (.ref r0), some (.int x1), some (.int x2), some (.int x3), some (.int (nI 0)), none] [.int (x1 - (nI 1))] rfl ⟨rfl, rfl, rfl, rfl⟩ ?_
          exact H
      · have H := H.2 c
        refine Wp.ic (v := nI 1) rfl rfl (by decide) ?_
        refine Wp.go (x := (.goto 13, 3, 81, 0)) rfl 81 [some (.ref r0), some (.int x1), some (.int x2), some (.int x3), none, none] [.int (nI 1)] rfl ⟨rfl, rfl, rfl, rfl⟩ ?_
        refine Wp.go (x := (.istore 4, 2, 0, 0)) rfl 83 [some (.ref r0), some (.int x1), some (.int x2), some (.int x3), some (.int (nI 1)), none] [] rfl ⟨rfl, rfl, rfl, rfl⟩ ?_
        refine Wp.go (x := (.iload 4, 2, 0, 0)) rfl 85 [some (.ref r0), some (.int x1), some (.int x2), some (.int x3), some (.int (nI 1)), none] [.int (nI 1)] rfl ⟨rfl, rfl, rfl, rfl⟩ ?_
        refine Wp.z_eq rfl rfl ⟨fun c => ?_, fun c => ?_⟩
        · have H := H.1 c
          refine Wp.go (x := (.aload_n 0, 1, 0, 0)) rfl 95 [some (.ref r0), some (.int x1), some (.int x2), some (.int x3), some (.int (nI 1)), none] [.ref r0] rfl ⟨rfl, rfl, rfl, rfl⟩ ?_
          refine Wp.gR rfl rfl hn_r0 rfl rfl hf5 ?_
          refine Wp.go (x := (.iload_n 1, 1, 0, 0)) rfl 99 [some (.ref r0), some (.int x1), some (.int x2), some (.int x3), some (.int (nI 1)), none] [.int x1, .ref f5] rfl ⟨rfl, rfl, rfl, rfl⟩ ?_
          obtain ⟨j8, e, b, H⟩ := H
          refine Wp.ald rfl rfl hn_f5 (Or.inl rfl) (hK hn_f5) ⟨j8, e, b, ?_⟩
          exact H
        · have H := H.2 c
          refine Wp.go (x := (.iload_n 1, 1, 0, 0)) rfl 89 [some (.ref r0), some (.int x1), some (.int x2), some (.int x3), some (.int (nI 1)), none] [.int x1] rfl ⟨rfl, rfl, rfl, rfl⟩ ?_
          refine Wp.ic (v := nI 1) rfl rfl (by decide) ?_
          refine Wp.go (x := (.isub, 1, 0, 0)) rfl 91 [some (.ref r0), some (.int x1), some (.int x2), some (.int x3), some (.int (nI 1)), none] [.int (x1 - (nI 1))] rfl ⟨rfl, rfl, rfl, rfl⟩ ?_
          refine Wp.go (x := (.goto 9, 3, 100, 0)) rfl 100 [some (.ref r0), some (.int x1), some (.int x2), some (.int x3), some (.int (nI 1)), none] [.int (x1 - (nI 1))] rfl ⟨rfl, rfl, rfl, rfl⟩ ?_
          exact H
set_option maxRecDepth 20000 in
theorem wX11_backPlain_100 {d : Nat} {Q : Option Value × xS → Prop} {K : Nat → Nat × Nat} {P : List Nat × Nat × Nat} {I : Nat → Nat → Int32} {J : Nat → Nat → Int64} {F : Nat → Nat → Option Nat} {r0 : Nat} {x1 : Int32} {x2 : Int32} {x3 : Int32} {x4 : Int32} {s0 : Int32} {n_r0 : Nat} {f1 : Nat} {n_f1 : Nat} {f3 : Nat} {n_f3 : Nat} {f5 : Nat} {f6 : Nat} {n_f6 : Nat} (hK : ∀ {a k n : Nat}, K a = (k, n) → n < 2147483648) (hn_r0 : K r0 = (10, n_r0)) (hf1 : F r0 28 = some f1) (hn_f1 : K f1 = (100, n_f1)) (hf3 : F r0 29 = some f3) (hn_f3 : K f3 = (100, n_f3)) (hf5 : F r0 30 = some f5) (hf6 : F r0 26 = some f6) (hn_f6 : K f6 = (100, n_f6)) (H : (∃ j2 : Nat, x3 = nI j2 ∧ j2 < n_f1 ∧ ((x4 = 0 → (∃ j4 : Nat, x3 = nI j4 ∧ j4 < n_f3 ∧ ((x4 = 0 → (∃ j7 : Nat, x1 = nI j7 ∧ j7 < n_f6 ∧ Wp d 131 146 [some (.ref r0), some (.int x1), some (.int x2), some (.int x3), some (.int x4), some (.int s0)] [.int (((xup ((xup I f1 j2 s0)) f3 j4 (nI 1))) f6 j7), .int x3, .ref f5] (K, P, (xup ((xup I f1 j2 s0)) f3 j4 (nI 1)), J, F) Q)) ∧ (¬ x4 = 0 → Wp d 131 146 [some (.ref r0), some (.int x1), some (.int x2), some (.int x3), some (.int x4), some (.int s0)] [.int (nI 0), .int x3, .ref f5] (K, P, (xup ((xup I f1 j2 s0)) f3 j4 (nI 1)), J, F) Q)))) ∧ (¬ x4 = 0 → (∃ j8 : Nat, x3 = nI j8 ∧ j8 < n_f3 ∧ ((x4 = 0 → (∃ j9 : Nat, x1 = nI j9 ∧ j9 < n_f6 ∧ Wp d 131 146 [some (.ref r0), some (.int x1), some (.int x2), some (.int x3), some (.int x4), some (.int s0)] [.int (((xup ((xup I f1 j2 s0)) f3 j8 (nI 0))) f6 j9), .int x3, .ref f5] (K, P, (xup ((xup I f1 j2 s0)) f3 j8 (nI 0)), J, F) Q)) ∧ (¬ x4 = 0 → Wp d 131 146 [some (.ref r0), some (.int x1), some (.int x2), some (.int x3), some (.int x4), some (.int s0)] [.int (nI 0), .int x3, .ref f5] (K, P, (xup ((xup I f1 j2 s0)) f3 j8 (nI 0)), J, F) Q))))))) : Wp d 131 100 [some (.ref r0), some (.int x1), some (.int x2), some (.int x3), some (.int x4), none] [.int s0] (K, P, I, J, F) Q := by
  refine Wp.go (x := (.istore 5, 2, 0, 0)) rfl 102 [some (.ref r0), some (.int x1), some (.int x2), some (.int x3), some (.int x4), some (.int s0)] [] rfl ⟨rfl, rfl, rfl, rfl⟩ ?_
  refine Wp.go (x := (.aload_n 0, 1, 0, 0)) rfl 103 [some (.ref r0), some (.int x1), some (.int x2), some (.int x3), some (.int x4), some (.int s0)] [.ref r0] rfl ⟨rfl, rfl, rfl, rfl⟩ ?_
  refine Wp.gR rfl rfl hn_r0 rfl rfl hf1 ?_
  refine Wp.go (x := (.iload_n 3, 1, 0, 0)) rfl 107 [some (.ref r0), some (.int x1), some (.int x2), some (.int x3), some (.int x4), some (.int s0)] [.int x3, .ref f1] rfl ⟨rfl, rfl, rfl, rfl⟩ ?_
  refine Wp.go (x := (.iload 5, 2, 0, 0)) rfl 109 [some (.ref r0), some (.int x1), some (.int x2), some (.int x3), some (.int x4), some (.int s0)] [.int s0, .int x3, .ref f1] rfl ⟨rfl, rfl, rfl, rfl⟩ ?_
  obtain ⟨j2, e, b, H⟩ := H
  refine Wp.ast rfl rfl hn_f1 (hK hn_f1) ⟨j2, e, b, ?_⟩
  refine Wp.go (x := (.aload_n 0, 1, 0, 0)) rfl 111 [some (.ref r0), some (.int x1), some (.int x2), some (.int x3), some (.int x4), some (.int s0)] [.ref r0] rfl ⟨rfl, rfl, rfl, rfl⟩ ?_
  refine Wp.gR rfl rfl hn_r0 rfl rfl hf3 ?_
  refine Wp.go (x := (.iload_n 3, 1, 0, 0)) rfl 115 [some (.ref r0), some (.int x1), some (.int x2), some (.int x3), some (.int x4), some (.int s0)] [.int x3, .ref f3] rfl ⟨rfl, rfl, rfl, rfl⟩ ?_
  refine Wp.go (x := (.iload 4, 2, 0, 0)) rfl 117 [some (.ref r0), some (.int x1), some (.int x2), some (.int x3), some (.int x4), some (.int s0)] [.int x4, .int x3, .ref f3] rfl ⟨rfl, rfl, rfl, rfl⟩ ?_
  refine Wp.z_eq rfl rfl ⟨fun c => ?_, fun c => ?_⟩
  · have H := H.1 c
    refine Wp.ic (v := nI 1) rfl rfl (by decide) ?_
    obtain ⟨j4, e, b, H⟩ := H
    refine Wp.ast rfl rfl hn_f3 (hK hn_f3) ⟨j4, e, b, ?_⟩
    refine Wp.go (x := (.aload_n 0, 1, 0, 0)) rfl 127 [some (.ref r0), some (.int x1), some (.int x2), some (.int x3), some (.int x4), some (.int s0)] [.ref r0] rfl ⟨rfl, rfl, rfl, rfl⟩ ?_
    refine Wp.gR rfl rfl hn_r0 rfl rfl hf5 ?_
    refine Wp.go (x := (.iload_n 3, 1, 0, 0)) rfl 131 [some (.ref r0), some (.int x1), some (.int x2), some (.int x3), some (.int x4), some (.int s0)] [.int x3, .ref f5] rfl ⟨rfl, rfl, rfl, rfl⟩ ?_
    refine Wp.go (x := (.iload 4, 2, 0, 0)) rfl 133 [some (.ref r0), some (.int x1), some (.int x2), some (.int x3), some (.int x4), some (.int s0)] [.int x4, .int x3, .ref f5] rfl ⟨rfl, rfl, rfl, rfl⟩ ?_
    refine Wp.z_eq rfl rfl ⟨fun c => ?_, fun c => ?_⟩
    · have H := H.1 c
      refine Wp.go (x := (.aload_n 0, 1, 0, 0)) rfl 141 [some (.ref r0), some (.int x1), some (.int x2), some (.int x3), some (.int x4), some (.int s0)] [.ref r0, .int x3, .ref f5] rfl ⟨rfl, rfl, rfl, rfl⟩ ?_
      refine Wp.gR rfl rfl hn_r0 rfl rfl hf6 ?_
      refine Wp.go (x := (.iload_n 1, 1, 0, 0)) rfl 145 [some (.ref r0), some (.int x1), some (.int x2), some (.int x3), some (.int x4), some (.int s0)] [.int x1, .ref f6, .int x3, .ref f5] rfl ⟨rfl, rfl, rfl, rfl⟩ ?_
      obtain ⟨j7, e, b, H⟩ := H
      refine Wp.ald rfl rfl hn_f6 (Or.inl rfl) (hK hn_f6) ⟨j7, e, b, ?_⟩
      exact H
    · have H := H.2 c
      refine Wp.ic (v := nI 0) rfl rfl (by decide) ?_
      refine Wp.go (x := (.goto 9, 3, 146, 0)) rfl 146 [some (.ref r0), some (.int x1), some (.int x2), some (.int x3), some (.int x4), some (.int s0)] [.int (nI 0), .int x3, .ref f5] rfl ⟨rfl, rfl, rfl, rfl⟩ ?_
      exact H
  · have H := H.2 c
    refine Wp.ic (v := nI 0) rfl rfl (by decide) ?_
    refine Wp.go (x := (.goto 4, 3, 125, 0)) rfl 125 [some (.ref r0), some (.int x1), some (.int x2), some (.int x3), some (.int x4), some (.int s0)] [.int (nI 0), .int x3, .ref f3] rfl ⟨rfl, rfl, rfl, rfl⟩ ?_
    obtain ⟨j8, e, b, H⟩ := H
    refine Wp.ast rfl rfl hn_f3 (hK hn_f3) ⟨j8, e, b, ?_⟩
    refine Wp.go (x := (.aload_n 0, 1, 0, 0)) rfl 127 [some (.ref r0), some (.int x1), some (.int x2), some (.int x3), some (.int x4), some (.int s0)] [.ref r0] rfl ⟨rfl, rfl, rfl, rfl⟩ ?_
    refine Wp.gR rfl rfl hn_r0 rfl rfl hf5 ?_
    refine Wp.go (x := (.iload_n 3, 1, 0, 0)) rfl 131 [some (.ref r0), some (.int x1), some (.int x2), some (.int x3), some (.int x4), some (.int s0)] [.int x3, .ref f5] rfl ⟨rfl, rfl, rfl, rfl⟩ ?_
    refine Wp.go (x := (.iload 4, 2, 0, 0)) rfl 133 [some (.ref r0), some (.int x1), some (.int x2), some (.int x3), some (.int x4), some (.int s0)] [.int x4, .int x3, .ref f5] rfl ⟨rfl, rfl, rfl, rfl⟩ ?_
    refine Wp.z_eq rfl rfl ⟨fun c => ?_, fun c => ?_⟩
    · have H := H.1 c
      refine Wp.go (x := (.aload_n 0, 1, 0, 0)) rfl 141 [some (.ref r0), some (.int x1), some (.int x2), some (.int x3), some (.int x4), some (.int s0)] [.ref r0, .int x3, .ref f5] rfl ⟨rfl, rfl, rfl, rfl⟩ ?_
      refine Wp.gR rfl rfl hn_r0 rfl rfl hf6 ?_
      refine Wp.go (x := (.iload_n 1, 1, 0, 0)) rfl 145 [some (.ref r0), some (.int x1), some (.int x2), some (.int x3), some (.int x4), some (.int s0)] [.int x1, .ref f6, .int x3, .ref f5] rfl ⟨rfl, rfl, rfl, rfl⟩ ?_
      obtain ⟨j9, e, b, H⟩ := H
      refine Wp.ald rfl rfl hn_f6 (Or.inl rfl) (hK hn_f6) ⟨j9, e, b, ?_⟩
      exact H
    · have H := H.2 c
      refine Wp.ic (v := nI 0) rfl rfl (by decide) ?_
      refine Wp.go (x := (.goto 9, 3, 146, 0)) rfl 146 [some (.ref r0), some (.int x1), some (.int x2), some (.int x3), some (.int x4), some (.int s0)] [.int (nI 0), .int x3, .ref f5] rfl ⟨rfl, rfl, rfl, rfl⟩ ?_
      exact H
set_option maxRecDepth 20000 in
theorem wX11_backPlain_146 {d : Nat} {Q : Option Value × xS → Prop} {K : Nat → Nat × Nat} {P : List Nat × Nat × Nat} {I : Nat → Nat → Int32} {J : Nat → Nat → Int64} {F : Nat → Nat → Option Nat} {r0 : Nat} {x1 : Int32} {x2 : Int32} {x3 : Int32} {x4 : Int32} {x5 : Int32} {q0 : Nat} {s1 : Int32} {s2 : Int32} {n_q0 : Nat} {n_r0 : Nat} {f2 : Nat} {n_f2 : Nat} {f4 : Nat} {n_f4 : Nat} (hK : ∀ {a k n : Nat}, K a = (k, n) → n < 2147483648) (hn_q0 : K q0 = (100, n_q0)) (hn_r0 : K r0 = (10, n_r0)) (hf2 : F r0 31 = some f2) (hn_f2 : K f2 = (100, n_f2)) (hf4 : F r0 25 = some f4) (hn_f4 : K f4 = (100, n_f4)) (H : (∃ j1 : Nat, s1 = nI j1 ∧ j1 < n_q0 ∧ (∃ j3 : Nat, x3 = nI j3 ∧ j3 < n_f2 ∧ ((x4 = 0 → (∃ j5 : Nat, x1 = nI j5 ∧ j5 < n_f4 ∧ Wp d 131 51 [some (.ref r0), some (.int x5), some (.int (((xup ((xup I q0 j1 s2)) f2 j3 (x1 - x5))) f4 j5)), some (.int (x3 + nI 1)), none, none] [] (K, P, (xup ((xup I q0 j1 s2)) f2 j3 (x1 - x5)), J, F) Q)) ∧ (¬ x4 = 0 → ((¬ (((xup ((xup I q0 j1 s2)) f2 j3 (x1 - x5))) r0 1) = (nI 1) → Wp d 131 51 [some (.ref r0), some (.int x5), some (.int (nI 0)), some (.int (x3 + nI 1)), none, none] [] (K, P, (xup ((xup I q0 j1 s2)) f2 j3 (x1 - x5)), J, F) Q) ∧ ((((xup ((xup I q0 j1 s2)) f2 j3 (x1 - x5))) r0 1) = (nI 1) → Wp d 131 51 [some (.ref r0), some (.int x5), some (.int (x2 - (nI 1))), some (.int (x3 + nI 1)), none, none] [] (K, P, (xup ((xup I q0 j1 s2)) f2 j3 (x1 - x5)), J, F) Q))))))) : Wp d 131 146 [some (.ref r0), some (.int x1), some (.int x2), some (.int x3), some (.int x4), some (.int x5)] [.int s2, .int s1, .ref q0] (K, P, I, J, F) Q := by
  obtain ⟨j1, e, b, H⟩ := H
  refine Wp.ast rfl rfl hn_q0 (hK hn_q0) ⟨j1, e, b, ?_⟩
  refine Wp.go (x := (.aload_n 0, 1, 0, 0)) rfl 148 [some (.ref r0), some (.int x1), some (.int x2), some (.int x3), some (.int x4), some (.int x5)] [.ref r0] rfl ⟨rfl, rfl, rfl, rfl⟩ ?_
  refine Wp.gR rfl rfl hn_r0 rfl rfl hf2 ?_
  refine Wp.go (x := (.iload_n 3, 1, 0, 0)) rfl 152 [some (.ref r0), some (.int x1), some (.int x2), some (.int x3), some (.int x4), some (.int x5)] [.int x3, .ref f2] rfl ⟨rfl, rfl, rfl, rfl⟩ ?_
  refine Wp.go (x := (.iload_n 1, 1, 0, 0)) rfl 153 [some (.ref r0), some (.int x1), some (.int x2), some (.int x3), some (.int x4), some (.int x5)] [.int x1, .int x3, .ref f2] rfl ⟨rfl, rfl, rfl, rfl⟩ ?_
  refine Wp.go (x := (.iload 5, 2, 0, 0)) rfl 155 [some (.ref r0), some (.int x1), some (.int x2), some (.int x3), some (.int x4), some (.int x5)] [.int x5, .int x1, .int x3, .ref f2] rfl ⟨rfl, rfl, rfl, rfl⟩ ?_
  refine Wp.go (x := (.isub, 1, 0, 0)) rfl 156 [some (.ref r0), some (.int x1), some (.int x2), some (.int x3), some (.int x4), some (.int x5)] [.int (x1 - x5), .int x3, .ref f2] rfl ⟨rfl, rfl, rfl, rfl⟩ ?_
  obtain ⟨j3, e, b, H⟩ := H
  refine Wp.ast rfl rfl hn_f2 (hK hn_f2) ⟨j3, e, b, ?_⟩
  refine Wp.ii (v := nI 1) rfl rfl (by decide) rfl (L' := [some (.ref r0), some (.int x1), some (.int x2), some (.int (x3 + nI 1)), some (.int x4), some (.int x5)]) rfl ?_
  refine Wp.go (x := (.iload 4, 2, 0, 0)) rfl 162 [some (.ref r0), some (.int x1), some (.int x2), some (.int (x3 + nI 1)), some (.int x4), some (.int x5)] [.int x4] rfl ⟨rfl, rfl, rfl, rfl⟩ ?_
  refine Wp.z_eq rfl rfl ⟨fun c => ?_, fun c => ?_⟩
  · have H := H.1 c
    refine Wp.go (x := (.aload_n 0, 1, 0, 0)) rfl 184 [some (.ref r0), some (.int x1), some (.int x2), some (.int (x3 + nI 1)), some (.int x4), some (.int x5)] [.ref r0] rfl ⟨rfl, rfl, rfl, rfl⟩ ?_
    refine Wp.gR rfl rfl hn_r0 rfl rfl hf4 ?_
    refine Wp.go (x := (.iload_n 1, 1, 0, 0)) rfl 188 [some (.ref r0), some (.int x1), some (.int x2), some (.int (x3 + nI 1)), some (.int x4), some (.int x5)] [.int x1, .ref f4] rfl ⟨rfl, rfl, rfl, rfl⟩ ?_
    obtain ⟨j5, e, b, H⟩ := H
    refine Wp.ald rfl rfl hn_f4 (Or.inl rfl) (hK hn_f4) ⟨j5, e, b, ?_⟩
    refine Wp.go (x := (.istore_n 2, 1, 0, 0)) rfl 190 [some (.ref r0), some (.int x1), some (.int (((xup ((xup I q0 j1 s2)) f2 j3 (x1 - x5))) f4 j5)), some (.int (x3 + nI 1)), some (.int x4), some (.int x5)] [] rfl ⟨rfl, rfl, rfl, rfl⟩ ?_
    refine Wp.go (x := (.iload 5, 2, 0, 0)) rfl 192 [some (.ref r0), some (.int x1), some (.int (((xup ((xup I q0 j1 s2)) f2 j3 (x1 - x5))) f4 j5)), some (.int (x3 + nI 1)), some (.int x4), some (.int x5)] [.int x5] rfl ⟨rfl, rfl, rfl, rfl⟩ ?_
    refine Wp.go (x := (.istore_n 1, 1, 0, 0)) rfl 193 [some (.ref r0), some (.int x5), some (.int (((xup ((xup I q0 j1 s2)) f2 j3 (x1 - x5))) f4 j5)), some (.int (x3 + nI 1)), some (.int x4), some (.int x5)] [] rfl ⟨rfl, rfl, rfl, rfl⟩ ?_
    refine Wp.go (x := (.goto (-142), 3, 51, 0)) rfl 51 [some (.ref r0), some (.int x5), some (.int (((xup ((xup I q0 j1 s2)) f2 j3 (x1 - x5))) f4 j5)), some (.int (x3 + nI 1)), some (.int x4), some (.int x5)] [] rfl ⟨rfl, rfl, rfl, rfl⟩ ?_
    exact Wp.wk (L := [some (.ref r0), some (.int x5), some (.int (((xup ((xup I q0 j1 s2)) f2 j3 (x1 - x5))) f4 j5)), some (.int (x3 + nI 1)), none, none]) ⟨Or.inr rfl, Or.inr rfl, Or.inr rfl, Or.inr rfl, Or.inl rfl, Or.inl rfl, trivial⟩ H
  · have H := H.2 c
    refine Wp.go (x := (.aload_n 0, 1, 0, 0)) rfl 166 [some (.ref r0), some (.int x1), some (.int x2), some (.int (x3 + nI 1)), some (.int x4), some (.int x5)] [.ref r0] rfl ⟨rfl, rfl, rfl, rfl⟩ ?_
    refine Wp.gI rfl rfl hn_r0 rfl ⟨by decide, by decide⟩ ?_
    refine Wp.ic (v := nI 1) rfl rfl (by decide) ?_
    refine Wp.c_ne rfl rfl ⟨fun c => ?_, fun c => ?_⟩
    · have H := H.1 c
      refine Wp.ic (v := nI 0) rfl rfl (by decide) ?_
      refine Wp.go (x := (.goto 9, 3, 189, 0)) rfl 189 [some (.ref r0), some (.int x1), some (.int x2), some (.int (x3 + nI 1)), some (.int x4), some (.int x5)] [.int (nI 0)] rfl ⟨rfl, rfl, rfl, rfl⟩ ?_
      refine Wp.go (x := (.istore_n 2, 1, 0, 0)) rfl 190 [some (.ref r0), some (.int x1), some (.int (nI 0)), some (.int (x3 + nI 1)), some (.int x4), some (.int x5)] [] rfl ⟨rfl, rfl, rfl, rfl⟩ ?_
      refine Wp.go (x := (.iload 5, 2, 0, 0)) rfl 192 [some (.ref r0), some (.int x1), some (.int (nI 0)), some (.int (x3 + nI 1)), some (.int x4), some (.int x5)] [.int x5] rfl ⟨rfl, rfl, rfl, rfl⟩ ?_
      refine Wp.go (x := (.istore_n 1, 1, 0, 0)) rfl 193 [some (.ref r0), some (.int x5), some (.int (nI 0)), some (.int (x3 + nI 1)), some (.int x4), some (.int x5)] [] rfl ⟨rfl, rfl, rfl, rfl⟩ ?_
      refine Wp.go (x := (.goto (-142), 3, 51, 0)) rfl 51 [some (.ref r0), some (.int x5), some (.int (nI 0)), some (.int (x3 + nI 1)), some (.int x4), some (.int x5)] [] rfl ⟨rfl, rfl, rfl, rfl⟩ ?_
      exact Wp.wk (L := [some (.ref r0), some (.int x5), some (.int (nI 0)), some (.int (x3 + nI 1)), none, none]) ⟨Or.inr rfl, Or.inr rfl, Or.inr rfl, Or.inr rfl, Or.inl rfl, Or.inl rfl, trivial⟩ H
    · have H := H.2 c
      refine Wp.go (x := (.iload_n 2, 1, 0, 0)) rfl 174 [some (.ref r0), some (.int x1), some (.int x2), some (.int (x3 + nI 1)), some (.int x4), some (.int x5)] [.int x2] rfl ⟨rfl, rfl, rfl, rfl⟩ ?_
      refine Wp.ic (v := nI 1) rfl rfl (by decide) ?_
      refine Wp.go (x := (.isub, 1, 0, 0)) rfl 176 [some (.ref r0), some (.int x1), some (.int x2), some (.int (x3 + nI 1)), some (.int x4), some (.int x5)] [.int (x2 - (nI 1))] rfl ⟨rfl, rfl, rfl, rfl⟩ ?_
      refine Wp.go (x := (.goto 13, 3, 189, 0)) rfl 189 [some (.ref r0), some (.int x1), some (.int x2), some (.int (x3 + nI 1)), some (.int x4), some (.int x5)] [.int (x2 - (nI 1))] rfl ⟨rfl, rfl, rfl, rfl⟩ ?_
      refine Wp.go (x := (.istore_n 2, 1, 0, 0)) rfl 190 [some (.ref r0), some (.int x1), some (.int (x2 - (nI 1))), some (.int (x3 + nI 1)), some (.int x4), some (.int x5)] [] rfl ⟨rfl, rfl, rfl, rfl⟩ ?_
      refine Wp.go (x := (.iload 5, 2, 0, 0)) rfl 192 [some (.ref r0), some (.int x1), some (.int (x2 - (nI 1))), some (.int (x3 + nI 1)), some (.int x4), some (.int x5)] [.int x5] rfl ⟨rfl, rfl, rfl, rfl⟩ ?_
      refine Wp.go (x := (.istore_n 1, 1, 0, 0)) rfl 193 [some (.ref r0), some (.int x5), some (.int (x2 - (nI 1))), some (.int (x3 + nI 1)), some (.int x4), some (.int x5)] [] rfl ⟨rfl, rfl, rfl, rfl⟩ ?_
      refine Wp.go (x := (.goto (-142), 3, 51, 0)) rfl 51 [some (.ref r0), some (.int x5), some (.int (x2 - (nI 1))), some (.int (x3 + nI 1)), some (.int x4), some (.int x5)] [] rfl ⟨rfl, rfl, rfl, rfl⟩ ?_
      exact Wp.wk (L := [some (.ref r0), some (.int x5), some (.int (x2 - (nI 1))), some (.int (x3 + nI 1)), none, none]) ⟨Or.inr rfl, Or.inr rfl, Or.inr rfl, Or.inr rfl, Or.inl rfl, Or.inl rfl, trivial⟩ H
set_option maxRecDepth 20000 in
theorem wX11_turnBack_0 {d : Nat} {Q : Option Value × xS → Prop} {K : Nat → Nat × Nat} {P : List Nat × Nat × Nat} {I : Nat → Nat → Int32} {J : Nat → Nat → Int64} {F : Nat → Nat → Option Nat} {r0 : Nat} {x1 : Int32} {n_r0 : Nat} (hn_r0 : K r0 = (10, n_r0)) (H : Wp d 132 9 [some (.ref r0), none, some (.int (x1 - (nI 1)))] [] (K, P, (xup I r0 11 (nI 0)), J, F) Q) : Wp d 132 0 [some (.ref r0), some (.int x1), none] [] (K, P, I, J, F) Q := by
  refine Wp.go (x := (.aload_n 0, 1, 0, 0)) rfl 1 [some (.ref r0), some (.int x1), none] [.ref r0] rfl ⟨rfl, rfl, rfl, rfl⟩ ?_
  refine Wp.ic (v := nI 0) rfl rfl (by decide) ?_
  refine Wp.pI rfl rfl hn_r0 rfl (Or.inl rfl) ?_
  refine Wp.go (x := (.iload_n 1, 1, 0, 0)) rfl 6 [some (.ref r0), some (.int x1), none] [.int x1] rfl ⟨rfl, rfl, rfl, rfl⟩ ?_
  refine Wp.ic (v := nI 1) rfl rfl (by decide) ?_
  refine Wp.go (x := (.isub, 1, 0, 0)) rfl 8 [some (.ref r0), some (.int x1), none] [.int (x1 - (nI 1))] rfl ⟨rfl, rfl, rfl, rfl⟩ ?_
  refine Wp.go (x := (.istore_n 2, 1, 0, 0)) rfl 9 [some (.ref r0), some (.int x1), some (.int (x1 - (nI 1)))] [] rfl ⟨rfl, rfl, rfl, rfl⟩ ?_
  exact Wp.wk (L := [some (.ref r0), none, some (.int (x1 - (nI 1)))]) ⟨Or.inr rfl, Or.inl rfl, Or.inr rfl, trivial⟩ H
set_option maxRecDepth 20000 in
theorem wX11_turnBack_9 {d : Nat} {Q : Option Value × xS → Prop} {K : Nat → Nat × Nat} {P : List Nat × Nat × Nat} {I : Nat → Nat → Int32} {J : Nat → Nat → Int64} {F : Nat → Nat → Option Nat} {r0 : Nat} {x2 : Int32} {n_r0 : Nat} {f1 : Nat} {n_f1 : Nat} {f3 : Nat} {n_f3 : Nat} {f5 : Nat} {n_f5 : Nat} {f7 : Nat} {n_f7 : Nat} (hK : ∀ {a k n : Nat}, K a = (k, n) → n < 2147483648) (hn_r0 : K r0 = (10, n_r0)) (hf1 : F r0 28 = some f1) (hn_f1 : K f1 = (100, n_f1)) (hf3 : F r0 29 = some f3) (hn_f3 : K f3 = (100, n_f3)) (hf5 : F r0 31 = some f5) (hn_f5 : K f5 = (100, n_f5)) (hf7 : F r0 30 = some f7) (hn_f7 : K f7 = (100, n_f7)) (H : ((x2 < 0 → Q (none, (K, P, I, J, F))) ∧ (¬ x2 < 0 → (∃ j2 : Nat, x2 = nI j2 ∧ j2 < n_f1 ∧ (∃ j4 : Nat, x2 = nI j4 ∧ j4 < n_f3 ∧ (∃ j6 : Nat, x2 = nI j6 ∧ j6 < n_f5 ∧ (∃ j8 : Nat, x2 = nI j8 ∧ j8 < n_f7 ∧ Wp d 124 0 [some (.ref r0), some (.int (I f1 j2)), some (.int (I f3 j4)), some (.int (I f5 j6)), some (.int (I f7 j8))] [] (K, P, I, J, F) (xrV K P F (fun I9 J10 => Wp (d + 1) 132 9 [some (.ref r0), none, some (.int (x2 + (-1)))] [] (K, P, I9, J10, F) Q))))))))) : Wp (d + 1) 132 9 [some (.ref r0), none, some (.int x2)] [] (K, P, I, J, F) Q := by
  refine Wp.go (x := (.iload_n 2, 1, 0, 0)) rfl 10 [some (.ref r0), none, some (.int x2)] [.int x2] rfl ⟨rfl, rfl, rfl, rfl⟩ ?_
  refine Wp.z_lt rfl rfl ⟨fun c => ?_, fun c => ?_⟩
  · have H := H.1 c
    exact Wp.rV rfl rfl H
  · have H := H.2 c
    refine Wp.go (x := (.aload_n 0, 1, 0, 0)) rfl 14 [some (.ref r0), none, some (.int x2)] [.ref r0] rfl ⟨rfl, rfl, rfl, rfl⟩ ?_
    refine Wp.go (x := (.aload_n 0, 1, 0, 0)) rfl 15 [some (.ref r0), none, some (.int x2)] [.ref r0, .ref r0] rfl ⟨rfl, rfl, rfl, rfl⟩ ?_
    refine Wp.gR rfl rfl hn_r0 rfl rfl hf1 ?_
    refine Wp.go (x := (.iload_n 2, 1, 0, 0)) rfl 19 [some (.ref r0), none, some (.int x2)] [.int x2, .ref f1, .ref r0] rfl ⟨rfl, rfl, rfl, rfl⟩ ?_
    obtain ⟨j2, e, b, H⟩ := H
    refine Wp.ald rfl rfl hn_f1 (Or.inl rfl) (hK hn_f1) ⟨j2, e, b, ?_⟩
    refine Wp.go (x := (.aload_n 0, 1, 0, 0)) rfl 21 [some (.ref r0), none, some (.int x2)] [.ref r0, .int (I f1 j2), .ref r0] rfl ⟨rfl, rfl, rfl, rfl⟩ ?_
    refine Wp.gR rfl rfl hn_r0 rfl rfl hf3 ?_
    refine Wp.go (x := (.iload_n 2, 1, 0, 0)) rfl 25 [some (.ref r0), none, some (.int x2)] [.int x2, .ref f3, .int (I f1 j2), .ref r0] rfl ⟨rfl, rfl, rfl, rfl⟩ ?_
    obtain ⟨j4, e, b, H⟩ := H
    refine Wp.ald rfl rfl hn_f3 (Or.inl rfl) (hK hn_f3) ⟨j4, e, b, ?_⟩
    refine Wp.go (x := (.aload_n 0, 1, 0, 0)) rfl 27 [some (.ref r0), none, some (.int x2)] [.ref r0, .int (I f3 j4), .int (I f1 j2), .ref r0] rfl ⟨rfl, rfl, rfl, rfl⟩ ?_
    refine Wp.gR rfl rfl hn_r0 rfl rfl hf5 ?_
    refine Wp.go (x := (.iload_n 2, 1, 0, 0)) rfl 31 [some (.ref r0), none, some (.int x2)] [.int x2, .ref f5, .int (I f3 j4), .int (I f1 j2), .ref r0] rfl ⟨rfl, rfl, rfl, rfl⟩ ?_
    obtain ⟨j6, e, b, H⟩ := H
    refine Wp.ald rfl rfl hn_f5 (Or.inl rfl) (hK hn_f5) ⟨j6, e, b, ?_⟩
    refine Wp.go (x := (.aload_n 0, 1, 0, 0)) rfl 33 [some (.ref r0), none, some (.int x2)] [.ref r0, .int (I f5 j6), .int (I f3 j4), .int (I f1 j2), .ref r0] rfl ⟨rfl, rfl, rfl, rfl⟩ ?_
    refine Wp.gR rfl rfl hn_r0 rfl rfl hf7 ?_
    refine Wp.go (x := (.iload_n 2, 1, 0, 0)) rfl 37 [some (.ref r0), none, some (.int x2)] [.int x2, .ref f7, .int (I f5 j6), .int (I f3 j4), .int (I f1 j2), .ref r0] rfl ⟨rfl, rfl, rfl, rfl⟩ ?_
    obtain ⟨j8, e, b, H⟩ := H
    refine Wp.ald rfl rfl hn_f7 (Or.inl rfl) (hK hn_f7) ⟨j8, e, b, ?_⟩
    refine Wp.kV (x := (.invokevirtual 208, 3, 124, 5)) (j := 124) (vs := [.ref r0, .int (I f1 j2), .int (I f3 j4), .int (I f5 j6), .int (I f7 j8)]) (rest := []) rfl (by show xtg 124 (K r0).1 = _; rw [hn_r0]; rfl) rfl ⟨Nat.le_of_ble_eq_true rfl, Nat.le_of_ble_eq_true rfl, Nat.le_of_ble_eq_true rfl⟩ rfl rfl rfl H (fun I9 J10 H => ?_)
    refine Wp.ii (v := (-1)) rfl rfl (by decide) rfl (L' := [some (.ref r0), none, some (.int (x2 + (-1)))]) rfl ?_
    refine Wp.go (x := (.goto (-35), 3, 9, 0)) rfl 9 [some (.ref r0), none, some (.int (x2 + (-1)))] [] rfl ⟨rfl, rfl, rfl, rfl⟩ ?_
    exact H
set_option maxRecDepth 20000 in
theorem wX11_bestPlain_0 {d : Nat} {Q : Option Value × xS → Prop} {K : Nat → Nat × Nat} {P : List Nat × Nat × Nat} {I : Nat → Nat → Int32} {J : Nat → Nat → Int64} {F : Nat → Nat → Option Nat} {r0 : Nat} {n_r0 : Nat} (hn_r0 : K r0 = (10, n_r0)) (H : Wp d 128 0 [some (.ref r0), none, none] [] (K, P, I, J, F) (xrV K P F (fun I1 J2 => Wp (d + 1) 133 6 [some (.ref r0), some (.int (nI 0))] [] (K, P, I1, J2, F) Q))) : Wp (d + 1) 133 0 [some (.ref r0), none] [] (K, P, I, J, F) Q := by
  refine Wp.go (x := (.aload_n 0, 1, 0, 0)) rfl 1 [some (.ref r0), none] [.ref r0] rfl ⟨rfl, rfl, rfl, rfl⟩ ?_
  refine Wp.kV (x := (.invokevirtual 238, 3, 128, 1)) (j := 128) (vs := [.ref r0]) (rest := []) rfl (by show xtg 128 (K r0).1 = _; rw [hn_r0]; rfl) rfl ⟨Nat.le_of_ble_eq_true rfl, Nat.le_of_ble_eq_true rfl, Nat.le_of_ble_eq_true rfl⟩ rfl rfl rfl H (fun I1 J2 H => ?_)
  refine Wp.ic (v := nI 0) rfl rfl (by decide) ?_
  refine Wp.go (x := (.istore_n 1, 1, 0, 0)) rfl 6 [some (.ref r0), some (.int (nI 0))] [] rfl ⟨rfl, rfl, rfl, rfl⟩ ?_
  exact H
set_option maxRecDepth 20000 in
theorem wX11_bestPlain_6 {d : Nat} {Q : Option Value × xS → Prop} {K : Nat → Nat × Nat} {P : List Nat × Nat × Nat} {I : Nat → Nat → Int32} {J : Nat → Nat → Int64} {F : Nat → Nat → Option Nat} {r0 : Nat} {x1 : Int32} {n_r0 : Nat} (hn_r0 : K r0 = (10, n_r0)) (H : (((I r0 3) ≤ x1 → Wp d 131 0 [some (.ref r0), none, none, none, none, none] [] (K, P, I, J, F) (xrV K P F (fun I1 J2 => Q (none, (K, P, (xup ((xup I1 r0 17 (nI 1))) r0 18 (nI 0)), J2, F))))) ∧ (¬ (I r0 3) ≤ x1 → Wp d 127 0 [some (.ref r0), some (.int x1), none, none] [] (K, P, I, J, F) (xrI K P F (fun v3 I4 J5 => Wp d 129 0 [some (.ref r0), some (.int x1), some (.int v3), none, none, none, none] [] (K, P, I4, J5, F) (xrV K P F (fun I6 J7 => Wp d 130 0 [some (.ref r0), some (.int x1), none, none, none, none] [] (K, P, I6, J7, F) (xrV K P F (fun I8 J9 => Wp (d + 1) 133 6 [some (.ref r0), some (.int (x1 + nI 1))] [] (K, P, I8, J9, F) Q))))))))) : Wp (d + 1) 133 6 [some (.ref r0), some (.int x1)] [] (K, P, I, J, F) Q := by
  refine Wp.go (x := (.iload_n 1, 1, 0, 0)) rfl 7 [some (.ref r0), some (.int x1)] [.int x1] rfl ⟨rfl, rfl, rfl, rfl⟩ ?_
  refine Wp.go (x := (.aload_n 0, 1, 0, 0)) rfl 8 [some (.ref r0), some (.int x1)] [.ref r0, .int x1] rfl ⟨rfl, rfl, rfl, rfl⟩ ?_
  refine Wp.gI rfl rfl hn_r0 rfl ⟨by decide, by decide⟩ ?_
  refine Wp.c_ge rfl rfl ⟨fun c => ?_, fun c => ?_⟩
  · have H := H.1 c
    refine Wp.go (x := (.aload_n 0, 1, 0, 0)) rfl 36 [some (.ref r0), some (.int x1)] [.ref r0] rfl ⟨rfl, rfl, rfl, rfl⟩ ?_
    refine Wp.kV (x := (.invokevirtual 247, 3, 131, 1)) (j := 131) (vs := [.ref r0]) (rest := []) rfl (by show xtg 131 (K r0).1 = _; rw [hn_r0]; rfl) rfl ⟨Nat.le_of_ble_eq_true rfl, Nat.le_of_ble_eq_true rfl, Nat.le_of_ble_eq_true rfl⟩ rfl rfl rfl H (fun I1 J2 H => ?_)
    refine Wp.go (x := (.aload_n 0, 1, 0, 0)) rfl 40 [some (.ref r0), some (.int x1)] [.ref r0] rfl ⟨rfl, rfl, rfl, rfl⟩ ?_
    refine Wp.ic (v := nI 1) rfl rfl (by decide) ?_
    refine Wp.pI rfl rfl hn_r0 rfl (Or.inr ⟨rfl, Or.inr rfl⟩) ?_
    refine Wp.go (x := (.aload_n 0, 1, 0, 0)) rfl 45 [some (.ref r0), some (.int x1)] [.ref r0] rfl ⟨rfl, rfl, rfl, rfl⟩ ?_
    refine Wp.ic (v := nI 0) rfl rfl (by decide) ?_
    refine Wp.pI rfl rfl hn_r0 rfl (Or.inl rfl) ?_
    exact Wp.rV rfl rfl H
  · have H := H.2 c
    refine Wp.go (x := (.aload_n 0, 1, 0, 0)) rfl 15 [some (.ref r0), some (.int x1)] [.ref r0] rfl ⟨rfl, rfl, rfl, rfl⟩ ?_
    refine Wp.go (x := (.iload_n 1, 1, 0, 0)) rfl 16 [some (.ref r0), some (.int x1)] [.int x1, .ref r0] rfl ⟨rfl, rfl, rfl, rfl⟩ ?_
    refine Wp.go (x := (.aload_n 0, 1, 0, 0)) rfl 17 [some (.ref r0), some (.int x1)] [.ref r0, .int x1, .ref r0] rfl ⟨rfl, rfl, rfl, rfl⟩ ?_
    refine Wp.go (x := (.iload_n 1, 1, 0, 0)) rfl 18 [some (.ref r0), some (.int x1)] [.int x1, .ref r0, .int x1, .ref r0] rfl ⟨rfl, rfl, rfl, rfl⟩ ?_
    refine Wp.kI (x := (.invokevirtual 231, 3, 127, 2)) (j := 127) (vs := [.ref r0, .int x1]) (rest := [.int x1, .ref r0]) rfl (by show xtg 127 (K r0).1 = _; rw [hn_r0]; rfl) rfl ⟨Nat.le_of_ble_eq_true rfl, Nat.le_of_ble_eq_true rfl, Nat.le_of_ble_eq_true rfl⟩ rfl rfl rfl H (fun v3 I4 J5 H => ?_)
    refine Wp.kV (x := (.invokevirtual 241, 3, 129, 3)) (j := 129) (vs := [.ref r0, .int x1, .int v3]) (rest := []) rfl (by show xtg 129 (K r0).1 = _; rw [hn_r0]; rfl) rfl ⟨Nat.le_of_ble_eq_true rfl, Nat.le_of_ble_eq_true rfl, Nat.le_of_ble_eq_true rfl⟩ rfl rfl rfl H (fun I6 J7 H => ?_)
    refine Wp.go (x := (.aload_n 0, 1, 0, 0)) rfl 25 [some (.ref r0), some (.int x1)] [.ref r0] rfl ⟨rfl, rfl, rfl, rfl⟩ ?_
    refine Wp.go (x := (.iload_n 1, 1, 0, 0)) rfl 26 [some (.ref r0), some (.int x1)] [.int x1, .ref r0] rfl ⟨rfl, rfl, rfl, rfl⟩ ?_
    refine Wp.kV (x := (.invokevirtual 244, 3, 130, 2)) (j := 130) (vs := [.ref r0, .int x1]) (rest := []) rfl (by show xtg 130 (K r0).1 = _; rw [hn_r0]; rfl) rfl ⟨Nat.le_of_ble_eq_true rfl, Nat.le_of_ble_eq_true rfl, Nat.le_of_ble_eq_true rfl⟩ rfl rfl rfl H (fun I8 J9 H => ?_)
    refine Wp.ii (v := nI 1) rfl rfl (by decide) rfl (L' := [some (.ref r0), some (.int (x1 + nI 1))]) rfl ?_
    refine Wp.go (x := (.goto (-26), 3, 6, 0)) rfl 6 [some (.ref r0), some (.int (x1 + nI 1))] [] rfl ⟨rfl, rfl, rfl, rfl⟩ ?_
    exact H
set_option maxRecDepth 20000 in
theorem wX11_isState_0 {d : Nat} {Q : Option Value × xS → Prop} {K : Nat → Nat × Nat} {P : List Nat × Nat × Nat} {I : Nat → Nat → Int32} {J : Nat → Nat → Int64} {F : Nat → Nat → Option Nat} {r0 : Nat} {x1 : Int32}  (H : Wp d 134 4 [some (.ref r0), some (.int x1), some (.int (nI 1)), some (.int (nI 0))] [] (K, P, I, J, F) Q) : Wp d 134 0 [some (.ref r0), some (.int x1), none, none] [] (K, P, I, J, F) Q := by
  refine Wp.ic (v := nI 1) rfl rfl (by decide) ?_
  refine Wp.go (x := (.istore_n 2, 1, 0, 0)) rfl 2 [some (.ref r0), some (.int x1), some (.int (nI 1)), none] [] rfl ⟨rfl, rfl, rfl, rfl⟩ ?_
  refine Wp.ic (v := nI 0) rfl rfl (by decide) ?_
  refine Wp.go (x := (.istore_n 3, 1, 0, 0)) rfl 4 [some (.ref r0), some (.int x1), some (.int (nI 1)), some (.int (nI 0))] [] rfl ⟨rfl, rfl, rfl, rfl⟩ ?_
  exact H
set_option maxRecDepth 20000 in
theorem wX11_isState_4 {d : Nat} {Q : Option Value × xS → Prop} {K : Nat → Nat × Nat} {P : List Nat × Nat × Nat} {I : Nat → Nat → Int32} {J : Nat → Nat → Int64} {F : Nat → Nat → Option Nat} {r0 : Nat} {x1 : Int32} {x2 : Int32} {x3 : Int32} {n_r0 : Nat} {f1 : Nat} {n_f1 : Nat} {f3 : Nat} {n_f3 : Nat} (hK : ∀ {a k n : Nat}, K a = (k, n) → n < 2147483648) (hn_r0 : K r0 = (10, n_r0)) (hf1 : F r0 35 = some f1) (hn_f1 : K f1 = (100, n_f1)) (hf3 : F r0 21 = some f3) (hn_f3 : K f3 = (100, n_f3)) (H : (((nI 4) ≤ x3 → ((x2 = 0 ∨ x2 = 1) ∧ Q (some (.int x2), (K, P, I, J, F)))) ∧ (¬ (nI 4) ≤ x3 → (∃ j2 : Nat, (((nI 4) * x1) + x3) = nI j2 ∧ j2 < n_f1 ∧ (∃ j4 : Nat, x3 = nI j4 ∧ j4 < n_f3 ∧ ((¬ (I f1 j2) = (I f3 j4) → Wp d 134 4 [some (.ref r0), some (.int x1), some (.int (x2 &&& (nI 0))), some (.int (x3 + nI 1))] [] (K, P, I, J, F) Q) ∧ ((I f1 j2) = (I f3 j4) → Wp d 134 4 [some (.ref r0), some (.int x1), some (.int (x2 &&& (nI 1))), some (.int (x3 + nI 1))] [] (K, P, I, J, F) Q))))))) : Wp d 134 4 [some (.ref r0), some (.int x1), some (.int x2), some (.int x3)] [] (K, P, I, J, F) Q := by
  refine Wp.go (x := (.iload_n 3, 1, 0, 0)) rfl 5 [some (.ref r0), some (.int x1), some (.int x2), some (.int x3)] [.int x3] rfl ⟨rfl, rfl, rfl, rfl⟩ ?_
  refine Wp.ic (v := nI 4) rfl rfl (by decide) ?_
  refine Wp.c_ge rfl rfl ⟨fun c => ?_, fun c => ?_⟩
  · have H := H.1 c
    refine Wp.go (x := (.iload_n 2, 1, 0, 0)) rfl 43 [some (.ref r0), some (.int x1), some (.int x2), some (.int x3)] [.int x2] rfl ⟨rfl, rfl, rfl, rfl⟩ ?_
    exact Wp.rZ rfl rfl H.1 H.2
  · have H := H.2 c
    refine Wp.go (x := (.iload_n 2, 1, 0, 0)) rfl 10 [some (.ref r0), some (.int x1), some (.int x2), some (.int x3)] [.int x2] rfl ⟨rfl, rfl, rfl, rfl⟩ ?_
    refine Wp.go (x := (.aload_n 0, 1, 0, 0)) rfl 11 [some (.ref r0), some (.int x1), some (.int x2), some (.int x3)] [.ref r0, .int x2] rfl ⟨rfl, rfl, rfl, rfl⟩ ?_
    refine Wp.gR rfl rfl hn_r0 rfl rfl hf1 ?_
    refine Wp.ic (v := nI 4) rfl rfl (by decide) ?_
    refine Wp.go (x := (.iload_n 1, 1, 0, 0)) rfl 16 [some (.ref r0), some (.int x1), some (.int x2), some (.int x3)] [.int x1, .int (nI 4), .ref f1, .int x2] rfl ⟨rfl, rfl, rfl, rfl⟩ ?_
    refine Wp.go (x := (.imul, 1, 0, 0)) rfl 17 [some (.ref r0), some (.int x1), some (.int x2), some (.int x3)] [.int ((nI 4) * x1), .ref f1, .int x2] rfl ⟨rfl, rfl, rfl, rfl⟩ ?_
    refine Wp.go (x := (.iload_n 3, 1, 0, 0)) rfl 18 [some (.ref r0), some (.int x1), some (.int x2), some (.int x3)] [.int x3, .int ((nI 4) * x1), .ref f1, .int x2] rfl ⟨rfl, rfl, rfl, rfl⟩ ?_
    refine Wp.go (x := (.iadd, 1, 0, 0)) rfl 19 [some (.ref r0), some (.int x1), some (.int x2), some (.int x3)] [.int (((nI 4) * x1) + x3), .ref f1, .int x2] rfl ⟨rfl, rfl, rfl, rfl⟩ ?_
    obtain ⟨j2, e, b, H⟩ := H
    refine Wp.ald rfl rfl hn_f1 (Or.inl rfl) (hK hn_f1) ⟨j2, e, b, ?_⟩
    refine Wp.go (x := (.aload_n 0, 1, 0, 0)) rfl 21 [some (.ref r0), some (.int x1), some (.int x2), some (.int x3)] [.ref r0, .int (I f1 j2), .int x2] rfl ⟨rfl, rfl, rfl, rfl⟩ ?_
    refine Wp.gR rfl rfl hn_r0 rfl rfl hf3 ?_
    refine Wp.go (x := (.iload_n 3, 1, 0, 0)) rfl 25 [some (.ref r0), some (.int x1), some (.int x2), some (.int x3)] [.int x3, .ref f3, .int (I f1 j2), .int x2] rfl ⟨rfl, rfl, rfl, rfl⟩ ?_
    obtain ⟨j4, e, b, H⟩ := H
    refine Wp.ald rfl rfl hn_f3 (Or.inl rfl) (hK hn_f3) ⟨j4, e, b, ?_⟩
    refine Wp.c_ne rfl rfl ⟨fun c => ?_, fun c => ?_⟩
    · have H := H.1 c
      refine Wp.ic (v := nI 0) rfl rfl (by decide) ?_
      refine Wp.go (x := (.iand, 1, 0, 0)) rfl 35 [some (.ref r0), some (.int x1), some (.int x2), some (.int x3)] [.int (x2 &&& (nI 0))] rfl ⟨rfl, rfl, rfl, rfl⟩ ?_
      refine Wp.go (x := (.istore_n 2, 1, 0, 0)) rfl 36 [some (.ref r0), some (.int x1), some (.int (x2 &&& (nI 0))), some (.int x3)] [] rfl ⟨rfl, rfl, rfl, rfl⟩ ?_
      refine Wp.ii (v := nI 1) rfl rfl (by decide) rfl (L' := [some (.ref r0), some (.int x1), some (.int (x2 &&& (nI 0))), some (.int (x3 + nI 1))]) rfl ?_
      refine Wp.go (x := (.goto (-35), 3, 4, 0)) rfl 4 [some (.ref r0), some (.int x1), some (.int (x2 &&& (nI 0))), some (.int (x3 + nI 1))] [] rfl ⟨rfl, rfl, rfl, rfl⟩ ?_
      exact H
    · have H := H.2 c
      refine Wp.ic (v := nI 1) rfl rfl (by decide) ?_
      refine Wp.go (x := (.goto 4, 3, 34, 0)) rfl 34 [some (.ref r0), some (.int x1), some (.int x2), some (.int x3)] [.int (nI 1), .int x2] rfl ⟨rfl, rfl, rfl, rfl⟩ ?_
      refine Wp.go (x := (.iand, 1, 0, 0)) rfl 35 [some (.ref r0), some (.int x1), some (.int x2), some (.int x3)] [.int (x2 &&& (nI 1))] rfl ⟨rfl, rfl, rfl, rfl⟩ ?_
      refine Wp.go (x := (.istore_n 2, 1, 0, 0)) rfl 36 [some (.ref r0), some (.int x1), some (.int (x2 &&& (nI 1))), some (.int x3)] [] rfl ⟨rfl, rfl, rfl, rfl⟩ ?_
      refine Wp.ii (v := nI 1) rfl rfl (by decide) rfl (L' := [some (.ref r0), some (.int x1), some (.int (x2 &&& (nI 1))), some (.int (x3 + nI 1))]) rfl ?_
      refine Wp.go (x := (.goto (-35), 3, 4, 0)) rfl 4 [some (.ref r0), some (.int x1), some (.int (x2 &&& (nI 1))), some (.int (x3 + nI 1))] [] rfl ⟨rfl, rfl, rfl, rfl⟩ ?_
      exact H
set_option maxRecDepth 20000 in
theorem wX11_isBehind_0 {d : Nat} {Q : Option Value × xS → Prop} {K : Nat → Nat × Nat} {P : List Nat × Nat × Nat} {I : Nat → Nat → Int32} {J : Nat → Nat → Int64} {F : Nat → Nat → Option Nat} {r0 : Nat} {x1 : Int32} {x2 : Int32} {n_r0 : Nat} {f1 : Nat} {n_f1 : Nat} (hK : ∀ {a k n : Nat}, K a = (k, n) → n < 2147483648) (hn_r0 : K r0 = (10, n_r0)) (hf1 : F r0 34 = some f1) (hn_f1 : K f1 = (100, n_f1)) (H : (∃ j2 : Nat, x1 = nI j2 ∧ j2 < n_f1 ∧ (((I f1 j2) = x2 → Wp d 135 28 [some (.ref r0), some (.int x1), none, some (.int (nI 0))] [] (K, P, I, J, F) Q) ∧ (¬ (I f1 j2) = x2 → (∃ j3 : Nat, x1 = nI j3 ∧ j3 < n_f1 ∧ (((I f1 j3) ≤ x2 → Q (some (.int (nI 0)), (K, P, I, J, F))) ∧ (¬ (I f1 j3) ≤ x2 → Q (some (.int (nI 1)), (K, P, I, J, F))))))))) : Wp d 135 0 [some (.ref r0), some (.int x1), some (.int x2), none] [] (K, P, I, J, F) Q := by
  refine Wp.go (x := (.aload_n 0, 1, 0, 0)) rfl 1 [some (.ref r0), some (.int x1), some (.int x2), none] [.ref r0] rfl ⟨rfl, rfl, rfl, rfl⟩ ?_
  refine Wp.gR rfl rfl hn_r0 rfl rfl hf1 ?_
  refine Wp.go (x := (.iload_n 1, 1, 0, 0)) rfl 5 [some (.ref r0), some (.int x1), some (.int x2), none] [.int x1, .ref f1] rfl ⟨rfl, rfl, rfl, rfl⟩ ?_
  obtain ⟨j2, e, b, H⟩ := H
  refine Wp.ald rfl rfl hn_f1 (Or.inl rfl) (hK hn_f1) ⟨j2, e, b, ?_⟩
  refine Wp.go (x := (.iload_n 2, 1, 0, 0)) rfl 7 [some (.ref r0), some (.int x1), some (.int x2), none] [.int x2, .int (I f1 j2)] rfl ⟨rfl, rfl, rfl, rfl⟩ ?_
  refine Wp.c_eq rfl rfl ⟨fun c => ?_, fun c => ?_⟩
  · have H := H.1 c
    refine Wp.ic (v := nI 0) rfl rfl (by decide) ?_
    refine Wp.go (x := (.istore_n 3, 1, 0, 0)) rfl 28 [some (.ref r0), some (.int x1), some (.int x2), some (.int (nI 0))] [] rfl ⟨rfl, rfl, rfl, rfl⟩ ?_
    exact Wp.wk (L := [some (.ref r0), some (.int x1), none, some (.int (nI 0))]) ⟨Or.inr rfl, Or.inr rfl, Or.inl rfl, Or.inr rfl, trivial⟩ H
  · have H := H.2 c
    refine Wp.go (x := (.aload_n 0, 1, 0, 0)) rfl 11 [some (.ref r0), some (.int x1), some (.int x2), none] [.ref r0] rfl ⟨rfl, rfl, rfl, rfl⟩ ?_
    refine Wp.gR rfl rfl hn_r0 rfl rfl hf1 ?_
    refine Wp.go (x := (.iload_n 1, 1, 0, 0)) rfl 15 [some (.ref r0), some (.int x1), some (.int x2), none] [.int x1, .ref f1] rfl ⟨rfl, rfl, rfl, rfl⟩ ?_
    obtain ⟨j3, e, b, H⟩ := H
    refine Wp.ald rfl rfl hn_f1 (Or.inl rfl) (hK hn_f1) ⟨j3, e, b, ?_⟩
    refine Wp.go (x := (.iload_n 2, 1, 0, 0)) rfl 17 [some (.ref r0), some (.int x1), some (.int x2), none] [.int x2, .int (I f1 j3)] rfl ⟨rfl, rfl, rfl, rfl⟩ ?_
    refine Wp.c_le rfl rfl ⟨fun c => ?_, fun c => ?_⟩
    · have H := H.1 c
      refine Wp.ic (v := nI 0) rfl rfl (by decide) ?_
      exact Wp.rZ rfl rfl (Or.inl rfl) H
    · have H := H.2 c
      refine Wp.ic (v := nI 1) rfl rfl (by decide) ?_
      refine Wp.go (x := (.goto 4, 3, 25, 0)) rfl 25 [some (.ref r0), some (.int x1), some (.int x2), none] [.int (nI 1)] rfl ⟨rfl, rfl, rfl, rfl⟩ ?_
      exact Wp.rZ rfl rfl (Or.inr rfl) H
set_option maxRecDepth 20000 in
theorem wX11_isBehind_28 {d : Nat} {Q : Option Value × xS → Prop} {K : Nat → Nat × Nat} {P : List Nat × Nat × Nat} {I : Nat → Nat → Int32} {J : Nat → Nat → Int64} {F : Nat → Nat → Option Nat} {r0 : Nat} {x1 : Int32} {x3 : Int32} {n_r0 : Nat} {f1 : Nat} {n_f1 : Nat} {f3 : Nat} {n_f3 : Nat} (hK : ∀ {a k n : Nat}, K a = (k, n) → n < 2147483648) (hn_r0 : K r0 = (10, n_r0)) (hf1 : F r0 35 = some f1) (hn_f1 : K f1 = (100, n_f1)) (hf3 : F r0 21 = some f3) (hn_f3 : K f3 = (100, n_f3)) (H : (((nI 4) ≤ x3 → Q (some (.int (nI 0)), (K, P, I, J, F))) ∧ (¬ (nI 4) ≤ x3 → (∃ j2 : Nat, (((nI 4) * x1) + x3) = nI j2 ∧ j2 < n_f1 ∧ (∃ j4 : Nat, x3 = nI j4 ∧ j4 < n_f3 ∧ (((I f1 j2) = (I f3 j4) → Wp d 135 28 [some (.ref r0), some (.int x1), none, some (.int (x3 + nI 1))] [] (K, P, I, J, F) Q) ∧ (¬ (I f1 j2) = (I f3 j4) → (∃ j5 : Nat, (((nI 4) * x1) + x3) = nI j5 ∧ j5 < n_f1 ∧ (∃ j6 : Nat, x3 = nI j6 ∧ j6 < n_f3 ∧ (((I f1 j5) ≤ (I f3 j6) → Q (some (.int (nI 0)), (K, P, I, J, F))) ∧ (¬ (I f1 j5) ≤ (I f3 j6) → Q (some (.int (nI 1)), (K, P, I, J, F))))))))))))) : Wp d 135 28 [some (.ref r0), some (.int x1), none, some (.int x3)] [] (K, P, I, J, F) Q := by
  refine Wp.go (x := (.iload_n 3, 1, 0, 0)) rfl 29 [some (.ref r0), some (.int x1), none, some (.int x3)] [.int x3] rfl ⟨rfl, rfl, rfl, rfl⟩ ?_
  refine Wp.ic (v := nI 4) rfl rfl (by decide) ?_
  refine Wp.c_ge rfl rfl ⟨fun c => ?_, fun c => ?_⟩
  · have H := H.1 c
    refine Wp.ic (v := nI 0) rfl rfl (by decide) ?_
    exact Wp.rZ rfl rfl (Or.inl rfl) H
  · have H := H.2 c
    refine Wp.go (x := (.aload_n 0, 1, 0, 0)) rfl 34 [some (.ref r0), some (.int x1), none, some (.int x3)] [.ref r0] rfl ⟨rfl, rfl, rfl, rfl⟩ ?_
    refine Wp.gR rfl rfl hn_r0 rfl rfl hf1 ?_
    refine Wp.ic (v := nI 4) rfl rfl (by decide) ?_
    refine Wp.go (x := (.iload_n 1, 1, 0, 0)) rfl 39 [some (.ref r0), some (.int x1), none, some (.int x3)] [.int x1, .int (nI 4), .ref f1] rfl ⟨rfl, rfl, rfl, rfl⟩ ?_
    refine Wp.go (x := (.imul, 1, 0, 0)) rfl 40 [some (.ref r0), some (.int x1), none, some (.int x3)] [.int ((nI 4) * x1), .ref f1] rfl ⟨rfl, rfl, rfl, rfl⟩ ?_
    refine Wp.go (x := (.iload_n 3, 1, 0, 0)) rfl 41 [some (.ref r0), some (.int x1), none, some (.int x3)] [.int x3, .int ((nI 4) * x1), .ref f1] rfl ⟨rfl, rfl, rfl, rfl⟩ ?_
    refine Wp.go (x := (.iadd, 1, 0, 0)) rfl 42 [some (.ref r0), some (.int x1), none, some (.int x3)] [.int (((nI 4) * x1) + x3), .ref f1] rfl ⟨rfl, rfl, rfl, rfl⟩ ?_
    obtain ⟨j2, e, b, H⟩ := H
    refine Wp.ald rfl rfl hn_f1 (Or.inl rfl) (hK hn_f1) ⟨j2, e, b, ?_⟩
    refine Wp.go (x := (.aload_n 0, 1, 0, 0)) rfl 44 [some (.ref r0), some (.int x1), none, some (.int x3)] [.ref r0, .int (I f1 j2)] rfl ⟨rfl, rfl, rfl, rfl⟩ ?_
    refine Wp.gR rfl rfl hn_r0 rfl rfl hf3 ?_
    refine Wp.go (x := (.iload_n 3, 1, 0, 0)) rfl 48 [some (.ref r0), some (.int x1), none, some (.int x3)] [.int x3, .ref f3, .int (I f1 j2)] rfl ⟨rfl, rfl, rfl, rfl⟩ ?_
    obtain ⟨j4, e, b, H⟩ := H
    refine Wp.ald rfl rfl hn_f3 (Or.inl rfl) (hK hn_f3) ⟨j4, e, b, ?_⟩
    refine Wp.c_eq rfl rfl ⟨fun c => ?_, fun c => ?_⟩
    · have H := H.1 c
      refine Wp.ii (v := nI 1) rfl rfl (by decide) rfl (L' := [some (.ref r0), some (.int x1), none, some (.int (x3 + nI 1))]) rfl ?_
      refine Wp.go (x := (.goto (-52), 3, 28, 0)) rfl 28 [some (.ref r0), some (.int x1), none, some (.int (x3 + nI 1))] [] rfl ⟨rfl, rfl, rfl, rfl⟩ ?_
      exact H
    · have H := H.2 c
      refine Wp.go (x := (.aload_n 0, 1, 0, 0)) rfl 53 [some (.ref r0), some (.int x1), none, some (.int x3)] [.ref r0] rfl ⟨rfl, rfl, rfl, rfl⟩ ?_
      refine Wp.gR rfl rfl hn_r0 rfl rfl hf1 ?_
      refine Wp.ic (v := nI 4) rfl rfl (by decide) ?_
      refine Wp.go (x := (.iload_n 1, 1, 0, 0)) rfl 58 [some (.ref r0), some (.int x1), none, some (.int x3)] [.int x1, .int (nI 4), .ref f1] rfl ⟨rfl, rfl, rfl, rfl⟩ ?_
      refine Wp.go (x := (.imul, 1, 0, 0)) rfl 59 [some (.ref r0), some (.int x1), none, some (.int x3)] [.int ((nI 4) * x1), .ref f1] rfl ⟨rfl, rfl, rfl, rfl⟩ ?_
      refine Wp.go (x := (.iload_n 3, 1, 0, 0)) rfl 60 [some (.ref r0), some (.int x1), none, some (.int x3)] [.int x3, .int ((nI 4) * x1), .ref f1] rfl ⟨rfl, rfl, rfl, rfl⟩ ?_
      refine Wp.go (x := (.iadd, 1, 0, 0)) rfl 61 [some (.ref r0), some (.int x1), none, some (.int x3)] [.int (((nI 4) * x1) + x3), .ref f1] rfl ⟨rfl, rfl, rfl, rfl⟩ ?_
      obtain ⟨j5, e, b, H⟩ := H
      refine Wp.ald rfl rfl hn_f1 (Or.inl rfl) (hK hn_f1) ⟨j5, e, b, ?_⟩
      refine Wp.go (x := (.aload_n 0, 1, 0, 0)) rfl 63 [some (.ref r0), some (.int x1), none, some (.int x3)] [.ref r0, .int (I f1 j5)] rfl ⟨rfl, rfl, rfl, rfl⟩ ?_
      refine Wp.gR rfl rfl hn_r0 rfl rfl hf3 ?_
      refine Wp.go (x := (.iload_n 3, 1, 0, 0)) rfl 67 [some (.ref r0), some (.int x1), none, some (.int x3)] [.int x3, .ref f3, .int (I f1 j5)] rfl ⟨rfl, rfl, rfl, rfl⟩ ?_
      obtain ⟨j6, e, b, H⟩ := H
      refine Wp.ald rfl rfl hn_f3 (Or.inl rfl) (hK hn_f3) ⟨j6, e, b, ?_⟩
      refine Wp.c_le rfl rfl ⟨fun c => ?_, fun c => ?_⟩
      · have H := H.1 c
        refine Wp.ic (v := nI 0) rfl rfl (by decide) ?_
        exact Wp.rZ rfl rfl (Or.inl rfl) H
      · have H := H.2 c
        refine Wp.ic (v := nI 1) rfl rfl (by decide) ?_
        refine Wp.go (x := (.goto 4, 3, 76, 0)) rfl 76 [some (.ref r0), some (.int x1), none, some (.int x3)] [.int (nI 1)] rfl ⟨rfl, rfl, rfl, rfl⟩ ?_
        exact Wp.rZ rfl rfl (Or.inr rfl) H
set_option maxRecDepth 20000 in
theorem wX11_moveState_0 {d : Nat} {Q : Option Value × xS → Prop} {K : Nat → Nat × Nat} {P : List Nat × Nat × Nat} {I : Nat → Nat → Int32} {J : Nat → Nat → Int64} {F : Nat → Nat → Option Nat} {r0 : Nat} {x1 : Int32} {x2 : Int32} {n_r0 : Nat} {f1 : Nat} {n_f1 : Nat} {f4 : Nat} {n_f4 : Nat} {f7 : Nat} {n_f7 : Nat} {f10 : Nat} {n_f10 : Nat} (hK : ∀ {a k n : Nat}, K a = (k, n) → n < 2147483648) (hn_r0 : K r0 = (10, n_r0)) (hf1 : F r0 34 = some f1) (hn_f1 : K f1 = (100, n_f1)) (hf4 : F r0 36 = some f4) (hn_f4 : K f4 = (100, n_f4)) (hf7 : F r0 37 = some f7) (hn_f7 : K f7 = (100, n_f7)) (hf10 : F r0 38 = some f10) (hn_f10 : K f10 = (100, n_f10)) (H : (∃ j2 : Nat, x1 = nI j2 ∧ j2 < n_f1 ∧ (∃ j3 : Nat, x2 = nI j3 ∧ j3 < n_f1 ∧ (∃ j5 : Nat, x1 = nI j5 ∧ j5 < n_f4 ∧ (∃ j6 : Nat, x2 = nI j6 ∧ j6 < n_f4 ∧ (∃ j8 : Nat, x1 = nI j8 ∧ j8 < n_f7 ∧ (∃ j9 : Nat, x2 = nI j9 ∧ j9 < n_f7 ∧ (∃ j11 : Nat, x1 = nI j11 ∧ j11 < n_f10 ∧ (∃ j12 : Nat, x2 = nI j12 ∧ j12 < n_f10 ∧ Wp d 136 50 [some (.ref r0), some (.int x1), some (.int x2), some (.int (nI 0))] [] (K, P, (xup ((xup ((xup ((xup I f1 j3 (I f1 j2))) f4 j6 (((xup I f1 j3 (I f1 j2))) f4 j5))) f7 j9 (((xup ((xup I f1 j3 (I f1 j2))) f4 j6 (((xup I f1 j3 (I f1 j2))) f4 j5))) f7 j8))) f10 j12 (((xup ((xup ((xup I f1 j3 (I f1 j2))) f4 j6 (((xup I f1 j3 (I f1 j2))) f4 j5))) f7 j9 (((xup ((xup I f1 j3 (I f1 j2))) f4 j6 (((xup I f1 j3 (I f1 j2))) f4 j5))) f7 j8))) f10 j11)), J, F) Q))))))))) : Wp d 136 0 [some (.ref r0), some (.int x1), some (.int x2), none] [] (K, P, I, J, F) Q := by
  refine Wp.go (x := (.aload_n 0, 1, 0, 0)) rfl 1 [some (.ref r0), some (.int x1), some (.int x2), none] [.ref r0] rfl ⟨rfl, rfl, rfl, rfl⟩ ?_
  refine Wp.gR rfl rfl hn_r0 rfl rfl hf1 ?_
  refine Wp.go (x := (.iload_n 2, 1, 0, 0)) rfl 5 [some (.ref r0), some (.int x1), some (.int x2), none] [.int x2, .ref f1] rfl ⟨rfl, rfl, rfl, rfl⟩ ?_
  refine Wp.go (x := (.aload_n 0, 1, 0, 0)) rfl 6 [some (.ref r0), some (.int x1), some (.int x2), none] [.ref r0, .int x2, .ref f1] rfl ⟨rfl, rfl, rfl, rfl⟩ ?_
  refine Wp.gR rfl rfl hn_r0 rfl rfl hf1 ?_
  refine Wp.go (x := (.iload_n 1, 1, 0, 0)) rfl 10 [some (.ref r0), some (.int x1), some (.int x2), none] [.int x1, .ref f1, .int x2, .ref f1] rfl ⟨rfl, rfl, rfl, rfl⟩ ?_
  obtain ⟨j2, e, b, H⟩ := H
  refine Wp.ald rfl rfl hn_f1 (Or.inl rfl) (hK hn_f1) ⟨j2, e, b, ?_⟩
  obtain ⟨j3, e, b, H⟩ := H
  refine Wp.ast rfl rfl hn_f1 (hK hn_f1) ⟨j3, e, b, ?_⟩
  refine Wp.go (x := (.aload_n 0, 1, 0, 0)) rfl 13 [some (.ref r0), some (.int x1), some (.int x2), none] [.ref r0] rfl ⟨rfl, rfl, rfl, rfl⟩ ?_
  refine Wp.gR rfl rfl hn_r0 rfl rfl hf4 ?_
  refine Wp.go (x := (.iload_n 2, 1, 0, 0)) rfl 17 [some (.ref r0), some (.int x1), some (.int x2), none] [.int x2, .ref f4] rfl ⟨rfl, rfl, rfl, rfl⟩ ?_
  refine Wp.go (x := (.aload_n 0, 1, 0, 0)) rfl 18 [some (.ref r0), some (.int x1), some (.int x2), none] [.ref r0, .int x2, .ref f4] rfl ⟨rfl, rfl, rfl, rfl⟩ ?_
  refine Wp.gR rfl rfl hn_r0 rfl rfl hf4 ?_
  refine Wp.go (x := (.iload_n 1, 1, 0, 0)) rfl 22 [some (.ref r0), some (.int x1), some (.int x2), none] [.int x1, .ref f4, .int x2, .ref f4] rfl ⟨rfl, rfl, rfl, rfl⟩ ?_
  obtain ⟨j5, e, b, H⟩ := H
  refine Wp.ald rfl rfl hn_f4 (Or.inl rfl) (hK hn_f4) ⟨j5, e, b, ?_⟩
  obtain ⟨j6, e, b, H⟩ := H
  refine Wp.ast rfl rfl hn_f4 (hK hn_f4) ⟨j6, e, b, ?_⟩
  refine Wp.go (x := (.aload_n 0, 1, 0, 0)) rfl 25 [some (.ref r0), some (.int x1), some (.int x2), none] [.ref r0] rfl ⟨rfl, rfl, rfl, rfl⟩ ?_
  refine Wp.gR rfl rfl hn_r0 rfl rfl hf7 ?_
  refine Wp.go (x := (.iload_n 2, 1, 0, 0)) rfl 29 [some (.ref r0), some (.int x1), some (.int x2), none] [.int x2, .ref f7] rfl ⟨rfl, rfl, rfl, rfl⟩ ?_
  refine Wp.go (x := (.aload_n 0, 1, 0, 0)) rfl 30 [some (.ref r0), some (.int x1), some (.int x2), none] [.ref r0, .int x2, .ref f7] rfl ⟨rfl, rfl, rfl, rfl⟩ ?_
  refine Wp.gR rfl rfl hn_r0 rfl rfl hf7 ?_
  refine Wp.go (x := (.iload_n 1, 1, 0, 0)) rfl 34 [some (.ref r0), some (.int x1), some (.int x2), none] [.int x1, .ref f7, .int x2, .ref f7] rfl ⟨rfl, rfl, rfl, rfl⟩ ?_
  obtain ⟨j8, e, b, H⟩ := H
  refine Wp.ald rfl rfl hn_f7 (Or.inl rfl) (hK hn_f7) ⟨j8, e, b, ?_⟩
  obtain ⟨j9, e, b, H⟩ := H
  refine Wp.ast rfl rfl hn_f7 (hK hn_f7) ⟨j9, e, b, ?_⟩
  refine Wp.go (x := (.aload_n 0, 1, 0, 0)) rfl 37 [some (.ref r0), some (.int x1), some (.int x2), none] [.ref r0] rfl ⟨rfl, rfl, rfl, rfl⟩ ?_
  refine Wp.gR rfl rfl hn_r0 rfl rfl hf10 ?_
  refine Wp.go (x := (.iload_n 2, 1, 0, 0)) rfl 41 [some (.ref r0), some (.int x1), some (.int x2), none] [.int x2, .ref f10] rfl ⟨rfl, rfl, rfl, rfl⟩ ?_
  refine Wp.go (x := (.aload_n 0, 1, 0, 0)) rfl 42 [some (.ref r0), some (.int x1), some (.int x2), none] [.ref r0, .int x2, .ref f10] rfl ⟨rfl, rfl, rfl, rfl⟩ ?_
  refine Wp.gR rfl rfl hn_r0 rfl rfl hf10 ?_
  refine Wp.go (x := (.iload_n 1, 1, 0, 0)) rfl 46 [some (.ref r0), some (.int x1), some (.int x2), none] [.int x1, .ref f10, .int x2, .ref f10] rfl ⟨rfl, rfl, rfl, rfl⟩ ?_
  obtain ⟨j11, e, b, H⟩ := H
  refine Wp.ald rfl rfl hn_f10 (Or.inl rfl) (hK hn_f10) ⟨j11, e, b, ?_⟩
  obtain ⟨j12, e, b, H⟩ := H
  refine Wp.ast rfl rfl hn_f10 (hK hn_f10) ⟨j12, e, b, ?_⟩
  refine Wp.ic (v := nI 0) rfl rfl (by decide) ?_
  refine Wp.go (x := (.istore_n 3, 1, 0, 0)) rfl 50 [some (.ref r0), some (.int x1), some (.int x2), some (.int (nI 0))] [] rfl ⟨rfl, rfl, rfl, rfl⟩ ?_
  exact H
set_option maxRecDepth 20000 in
theorem wX11_moveState_50 {d : Nat} {Q : Option Value × xS → Prop} {K : Nat → Nat × Nat} {P : List Nat × Nat × Nat} {I : Nat → Nat → Int32} {J : Nat → Nat → Int64} {F : Nat → Nat → Option Nat} {r0 : Nat} {x1 : Int32} {x2 : Int32} {x3 : Int32} {n_r0 : Nat} {f1 : Nat} {n_f1 : Nat} (hK : ∀ {a k n : Nat}, K a = (k, n) → n < 2147483648) (hn_r0 : K r0 = (10, n_r0)) (hf1 : F r0 35 = some f1) (hn_f1 : K f1 = (100, n_f1)) (H : (((nI 4) ≤ x3 → Q (none, (K, P, I, J, F))) ∧ (¬ (nI 4) ≤ x3 → (∃ j2 : Nat, (((nI 4) * x1) + x3) = nI j2 ∧ j2 < n_f1 ∧ (∃ j3 : Nat, (((nI 4) * x2) + x3) = nI j3 ∧ j3 < n_f1 ∧ Wp d 136 50 [some (.ref r0), some (.int x1), some (.int x2), some (.int (x3 + nI 1))] [] (K, P, (xup I f1 j3 (I f1 j2)), J, F) Q))))) : Wp d 136 50 [some (.ref r0), some (.int x1), some (.int x2), some (.int x3)] [] (K, P, I, J, F) Q := by
  refine Wp.go (x := (.iload_n 3, 1, 0, 0)) rfl 51 [some (.ref r0), some (.int x1), some (.int x2), some (.int x3)] [.int x3] rfl ⟨rfl, rfl, rfl, rfl⟩ ?_
  refine Wp.ic (v := nI 4) rfl rfl (by decide) ?_
  refine Wp.c_ge rfl rfl ⟨fun c => ?_, fun c => ?_⟩
  · have H := H.1 c
    exact Wp.rV rfl rfl H
  · have H := H.2 c
    refine Wp.go (x := (.aload_n 0, 1, 0, 0)) rfl 56 [some (.ref r0), some (.int x1), some (.int x2), some (.int x3)] [.ref r0] rfl ⟨rfl, rfl, rfl, rfl⟩ ?_
    refine Wp.gR rfl rfl hn_r0 rfl rfl hf1 ?_
    refine Wp.ic (v := nI 4) rfl rfl (by decide) ?_
    refine Wp.go (x := (.iload_n 2, 1, 0, 0)) rfl 61 [some (.ref r0), some (.int x1), some (.int x2), some (.int x3)] [.int x2, .int (nI 4), .ref f1] rfl ⟨rfl, rfl, rfl, rfl⟩ ?_
    refine Wp.go (x := (.imul, 1, 0, 0)) rfl 62 [some (.ref r0), some (.int x1), some (.int x2), some (.int x3)] [.int ((nI 4) * x2), .ref f1] rfl ⟨rfl, rfl, rfl, rfl⟩ ?_
    refine Wp.go (x := (.iload_n 3, 1, 0, 0)) rfl 63 [some (.ref r0), some (.int x1), some (.int x2), some (.int x3)] [.int x3, .int ((nI 4) * x2), .ref f1] rfl ⟨rfl, rfl, rfl, rfl⟩ ?_
    refine Wp.go (x := (.iadd, 1, 0, 0)) rfl 64 [some (.ref r0), some (.int x1), some (.int x2), some (.int x3)] [.int (((nI 4) * x2) + x3), .ref f1] rfl ⟨rfl, rfl, rfl, rfl⟩ ?_
    refine Wp.go (x := (.aload_n 0, 1, 0, 0)) rfl 65 [some (.ref r0), some (.int x1), some (.int x2), some (.int x3)] [.ref r0, .int (((nI 4) * x2) + x3), .ref f1] rfl ⟨rfl, rfl, rfl, rfl⟩ ?_
    refine Wp.gR rfl rfl hn_r0 rfl rfl hf1 ?_
    refine Wp.ic (v := nI 4) rfl rfl (by decide) ?_
    refine Wp.go (x := (.iload_n 1, 1, 0, 0)) rfl 70 [some (.ref r0), some (.int x1), some (.int x2), some (.int x3)] [.int x1, .int (nI 4), .ref f1, .int (((nI 4) * x2) + x3), .ref f1] rfl ⟨rfl, rfl, rfl, rfl⟩ ?_
    refine Wp.go (x := (.imul, 1, 0, 0)) rfl 71 [some (.ref r0), some (.int x1), some (.int x2), some (.int x3)] [.int ((nI 4) * x1), .ref f1, .int (((nI 4) * x2) + x3), .ref f1] rfl ⟨rfl, rfl, rfl, rfl⟩ ?_
    refine Wp.go (x := (.iload_n 3, 1, 0, 0)) rfl 72 [some (.ref r0), some (.int x1), some (.int x2), some (.int x3)] [.int x3, .int ((nI 4) * x1), .ref f1, .int (((nI 4) * x2) + x3), .ref f1] rfl ⟨rfl, rfl, rfl, rfl⟩ ?_
    refine Wp.go (x := (.iadd, 1, 0, 0)) rfl 73 [some (.ref r0), some (.int x1), some (.int x2), some (.int x3)] [.int (((nI 4) * x1) + x3), .ref f1, .int (((nI 4) * x2) + x3), .ref f1] rfl ⟨rfl, rfl, rfl, rfl⟩ ?_
    obtain ⟨j2, e, b, H⟩ := H
    refine Wp.ald rfl rfl hn_f1 (Or.inl rfl) (hK hn_f1) ⟨j2, e, b, ?_⟩
    obtain ⟨j3, e, b, H⟩ := H
    refine Wp.ast rfl rfl hn_f1 (hK hn_f1) ⟨j3, e, b, ?_⟩
    refine Wp.ii (v := nI 1) rfl rfl (by decide) rfl (L' := [some (.ref r0), some (.int x1), some (.int x2), some (.int (x3 + nI 1))]) rfl ?_
    refine Wp.go (x := (.goto (-28), 3, 50, 0)) rfl 50 [some (.ref r0), some (.int x1), some (.int x2), some (.int (x3 + nI 1))] [] rfl ⟨rfl, rfl, rfl, rfl⟩ ?_
    exact H
set_option maxRecDepth 20000 in
theorem wX11_comes_0 {d : Nat} {Q : Option Value × xS → Prop} {K : Nat → Nat × Nat} {P : List Nat × Nat × Nat} {I : Nat → Nat → Int32} {J : Nat → Nat → Int64} {F : Nat → Nat → Option Nat} {r0 : Nat} {x1 : Int32} {x2 : Int32} {x3 : Int32} {x4 : Int32} {x5 : Int32} {n_r0 : Nat} {f1 : Nat} {n_f1 : Nat} (hK : ∀ {a k n : Nat}, K a = (k, n) → n < 2147483648) (hn_r0 : K r0 = (10, n_r0)) (hf1 : F r0 32 = some f1) (hn_f1 : K f1 = (100, n_f1)) (H : (∃ j2 : Nat, x1 = nI j2 ∧ j2 < n_f1 ∧ Wp d 137 17 [some (.ref r0), some (.int x1), some (.int x2), some (.int x3), some (.int x4), some (.int x5), some (.int ((nI 40) * x1)), some (.int (I f1 j2)), some (.int (nI 0)), none] [] (K, P, I, J, F) Q)) : Wp d 137 0 [some (.ref r0), some (.int x1), some (.int x2), some (.int x3), some (.int x4), some (.int x5), none, none, none, none] [] (K, P, I, J, F) Q := by
  refine Wp.bp (v := nI 40) rfl rfl (by decide) ?_
  refine Wp.go (x := (.iload_n 1, 1, 0, 0)) rfl 3 [some (.ref r0), some (.int x1), some (.int x2), some (.int x3), some (.int x4), some (.int x5), none, none, none, none] [.int x1, .int (nI 40)] rfl ⟨rfl, rfl, rfl, rfl⟩ ?_
  refine Wp.go (x := (.imul, 1, 0, 0)) rfl 4 [some (.ref r0), some (.int x1), some (.int x2), some (.int x3), some (.int x4), some (.int x5), none, none, none, none] [.int ((nI 40) * x1)] rfl ⟨rfl, rfl, rfl, rfl⟩ ?_
  refine Wp.go (x := (.istore 6, 2, 0, 0)) rfl 6 [some (.ref r0), some (.int x1), some (.int x2), some (.int x3), some (.int x4), some (.int x5), some (.int ((nI 40) * x1)), none, none, none] [] rfl ⟨rfl, rfl, rfl, rfl⟩ ?_
  refine Wp.go (x := (.aload_n 0, 1, 0, 0)) rfl 7 [some (.ref r0), some (.int x1), some (.int x2), some (.int x3), some (.int x4), some (.int x5), some (.int ((nI 40) * x1)), none, none, none] [.ref r0] rfl ⟨rfl, rfl, rfl, rfl⟩ ?_
  refine Wp.gR rfl rfl hn_r0 rfl rfl hf1 ?_
  refine Wp.go (x := (.iload_n 1, 1, 0, 0)) rfl 11 [some (.ref r0), some (.int x1), some (.int x2), some (.int x3), some (.int x4), some (.int x5), some (.int ((nI 40) * x1)), none, none, none] [.int x1, .ref f1] rfl ⟨rfl, rfl, rfl, rfl⟩ ?_
  obtain ⟨j2, e, b, H⟩ := H
  refine Wp.ald rfl rfl hn_f1 (Or.inl rfl) (hK hn_f1) ⟨j2, e, b, ?_⟩
  refine Wp.go (x := (.istore 7, 2, 0, 0)) rfl 14 [some (.ref r0), some (.int x1), some (.int x2), some (.int x3), some (.int x4), some (.int x5), some (.int ((nI 40) * x1)), some (.int (I f1 j2)), none, none] [] rfl ⟨rfl, rfl, rfl, rfl⟩ ?_
  refine Wp.ic (v := nI 0) rfl rfl (by decide) ?_
  refine Wp.go (x := (.istore 8, 2, 0, 0)) rfl 17 [some (.ref r0), some (.int x1), some (.int x2), some (.int x3), some (.int x4), some (.int x5), some (.int ((nI 40) * x1)), some (.int (I f1 j2)), some (.int (nI 0)), none] [] rfl ⟨rfl, rfl, rfl, rfl⟩ ?_
  exact H
set_option maxRecDepth 20000 in
theorem wX11_comes_17 {d : Nat} {Q : Option Value × xS → Prop} {K : Nat → Nat × Nat} {P : List Nat × Nat × Nat} {I : Nat → Nat → Int32} {J : Nat → Nat → Int64} {F : Nat → Nat → Option Nat} {r0 : Nat} {x1 : Int32} {x2 : Int32} {x3 : Int32} {x4 : Int32} {x5 : Int32} {x6 : Int32} {x7 : Int32} {x8 : Int32} {n_r0 : Nat} {f1 : Nat} {n_f1 : Nat} {f6 : Nat} {n_f6 : Nat} {f11 : Nat} {n_f11 : Nat} (hK : ∀ {a k n : Nat}, K a = (k, n) → n < 2147483648) (hn_r0 : K r0 = (10, n_r0)) (hf1 : F r0 33 = some f1) (hn_f1 : K f1 = (102, n_f1)) (hf6 : F r0 32 = some f6) (hn_f6 : K f6 = (100, n_f6)) (hf11 : F r0 34 = some f11) (hn_f11 : K f11 = (100, n_f11)) (H : ((x7 ≤ x8 → ((¬ x7 = (I r0 5) → Wp (d + 1) 137 146 [some (.ref r0), some (.int x1), some (.int x2), some (.int x3), some (.int x4), some (.int x5), some (.int x6), some (.int x7), some (.int x7), none] [] (K, P, I, J, F) Q) ∧ (x7 = (I r0 5) → (∃ j2 : Nat, x1 = nI j2 ∧ j2 < n_f1 ∧ Wp d 135 0 [some (.ref r0), some (.int ((x6 + x7) - (nI 1))), some (.int x2), none] [] (K, P, (xup I f1 j2 (nI 1)), J, F) (xrI K P F (fun v3 I4 J5 => ((¬ v3 = 0 → Wp (d + 1) 137 146 [some (.ref r0), some (.int x1), some (.int x2), some (.int x3), some (.int x4), some (.int x5), some (.int x6), some (.int (x7 + (-1))), some (.int (x7 + (-1))), none] [] (K, P, I4, J5, F) Q) ∧ (v3 = 0 → (∃ j7 : Nat, x1 = nI j7 ∧ j7 < n_f6 ∧ Q (none, (K, P, (xup I4 f6 j7 x7), J5, F))))))))))) ∧ (¬ x7 ≤ x8 → Wp d 134 0 [some (.ref r0), some (.int (x6 + x8)), none, none] [] (K, P, I, J, F) (xrI K P F (fun v8 I9 J10 => ((v8 = 0 → Wp (d + 1) 137 17 [some (.ref r0), some (.int x1), some (.int x2), some (.int x3), some (.int x4), some (.int x5), some (.int x6), some (.int x7), some (.int (x8 + nI 1)), none] [] (K, P, I9, J10, F) Q) ∧ (¬ v8 = 0 → (∃ j12 : Nat, (x6 + x8) = nI j12 ∧ j12 < n_f11 ∧ ((x2 < (I9 f11 j12) → Wp (d + 1) 137 55 [some (.ref r0), some (.int x1), some (.int x2), some (.int x3), some (.int x4), some (.int x5), some (.int x6), some (.int x7), none, some (.int x8)] [] (K, P, I9, J10, F) Q) ∧ (¬ x2 < (I9 f11 j12) → Q (none, (K, P, I9, J10, F)))))))))))) : Wp (d + 1) 137 17 [some (.ref r0), some (.int x1), some (.int x2), some (.int x3), some (.int x4), some (.int x5), some (.int x6), some (.int x7), some (.int x8), none] [] (K, P, I, J, F) Q := by
  refine Wp.go (x := (.iload 8, 2, 0, 0)) rfl 19 [some (.ref r0), some (.int x1), some (.int x2), some (.int x3), some (.int x4), some (.int x5), some (.int x6), some (.int x7), some (.int x8), none] [.int x8] rfl ⟨rfl, rfl, rfl, rfl⟩ ?_
  refine Wp.go (x := (.iload 7, 2, 0, 0)) rfl 21 [some (.ref r0), some (.int x1), some (.int x2), some (.int x3), some (.int x4), some (.int x5), some (.int x6), some (.int x7), some (.int x8), none] [.int x7, .int x8] rfl ⟨rfl, rfl, rfl, rfl⟩ ?_
  refine Wp.c_ge rfl rfl ⟨fun c => ?_, fun c => ?_⟩
  · have H := H.1 c
    refine Wp.go (x := (.iload 7, 2, 0, 0)) rfl 101 [some (.ref r0), some (.int x1), some (.int x2), some (.int x3), some (.int x4), some (.int x5), some (.int x6), some (.int x7), some (.int x8), none] [.int x7] rfl ⟨rfl, rfl, rfl, rfl⟩ ?_
    refine Wp.go (x := (.aload_n 0, 1, 0, 0)) rfl 102 [some (.ref r0), some (.int x1), some (.int x2), some (.int x3), some (.int x4), some (.int x5), some (.int x6), some (.int x7), some (.int x8), none] [.ref r0, .int x7] rfl ⟨rfl, rfl, rfl, rfl⟩ ?_
    refine Wp.gI rfl rfl hn_r0 rfl ⟨by decide, by decide⟩ ?_
    refine Wp.c_ne rfl rfl ⟨fun c => ?_, fun c => ?_⟩
    · have H := H.1 c
      refine Wp.go (x := (.iload 7, 2, 0, 0)) rfl 144 [some (.ref r0), some (.int x1), some (.int x2), some (.int x3), some (.int x4), some (.int x5), some (.int x6), some (.int x7), some (.int x8), none] [.int x7] rfl ⟨rfl, rfl, rfl, rfl⟩ ?_
      refine Wp.go (x := (.istore 8, 2, 0, 0)) rfl 146 [some (.ref r0), some (.int x1), some (.int x2), some (.int x3), some (.int x4), some (.int x5), some (.int x6), some (.int x7), some (.int x7), none] [] rfl ⟨rfl, rfl, rfl, rfl⟩ ?_
      exact H
    · have H := H.2 c
      refine Wp.go (x := (.aload_n 0, 1, 0, 0)) rfl 109 [some (.ref r0), some (.int x1), some (.int x2), some (.int x3), some (.int x4), some (.int x5), some (.int x6), some (.int x7), some (.int x8), none] [.ref r0] rfl ⟨rfl, rfl, rfl, rfl⟩ ?_
      refine Wp.gR rfl rfl hn_r0 rfl rfl hf1 ?_
      refine Wp.go (x := (.iload_n 1, 1, 0, 0)) rfl 113 [some (.ref r0), some (.int x1), some (.int x2), some (.int x3), some (.int x4), some (.int x5), some (.int x6), some (.int x7), some (.int x8), none] [.int x1, .ref f1] rfl ⟨rfl, rfl, rfl, rfl⟩ ?_
      refine Wp.ic (v := nI 1) rfl rfl (by decide) ?_
      obtain ⟨j2, e, b, H⟩ := H
      refine Wp.bst rfl rfl hn_f1 (hK hn_f1) (Or.inr rfl) ⟨j2, e, b, ?_⟩
      refine Wp.go (x := (.aload_n 0, 1, 0, 0)) rfl 116 [some (.ref r0), some (.int x1), some (.int x2), some (.int x3), some (.int x4), some (.int x5), some (.int x6), some (.int x7), some (.int x8), none] [.ref r0] rfl ⟨rfl, rfl, rfl, rfl⟩ ?_
      refine Wp.go (x := (.iload 6, 2, 0, 0)) rfl 118 [some (.ref r0), some (.int x1), some (.int x2), some (.int x3), some (.int x4), some (.int x5), some (.int x6), some (.int x7), some (.int x8), none] [.int x6, .ref r0] rfl ⟨rfl, rfl, rfl, rfl⟩ ?_
      refine Wp.go (x := (.iload 7, 2, 0, 0)) rfl 120 [some (.ref r0), some (.int x1), some (.int x2), some (.int x3), some (.int x4), some (.int x5), some (.int x6), some (.int x7), some (.int x8), none] [.int x7, .int x6, .ref r0] rfl ⟨rfl, rfl, rfl, rfl⟩ ?_
      refine Wp.go (x := (.iadd, 1, 0, 0)) rfl 121 [some (.ref r0), some (.int x1), some (.int x2), some (.int x3), some (.int x4), some (.int x5), some (.int x6), some (.int x7), some (.int x8), none] [.int (x6 + x7), .ref r0] rfl ⟨rfl, rfl, rfl, rfl⟩ ?_
      refine Wp.ic (v := nI 1) rfl rfl (by decide) ?_
      refine Wp.go (x := (.isub, 1, 0, 0)) rfl 123 [some (.ref r0), some (.int x1), some (.int x2), some (.int x3), some (.int x4), some (.int x5), some (.int x6), some (.int x7), some (.int x8), none] [.int ((x6 + x7) - (nI 1)), .ref r0] rfl ⟨rfl, rfl, rfl, rfl⟩ ?_
      refine Wp.go (x := (.iload_n 2, 1, 0, 0)) rfl 124 [some (.ref r0), some (.int x1), some (.int x2), some (.int x3), some (.int x4), some (.int x5), some (.int x6), some (.int x7), some (.int x8), none] [.int x2, .int ((x6 + x7) - (nI 1)), .ref r0] rfl ⟨rfl, rfl, rfl, rfl⟩ ?_
      refine Wp.kI (x := (.invokevirtual 260, 3, 135, 3)) (j := 135) (vs := [.ref r0, .int ((x6 + x7) - (nI 1)), .int x2]) (rest := []) rfl (by show xtg 135 (K r0).1 = _; rw [hn_r0]; rfl) rfl ⟨Nat.le_of_ble_eq_true rfl, Nat.le_of_ble_eq_true rfl, Nat.le_of_ble_eq_true rfl⟩ rfl rfl rfl H (fun v3 I4 J5 H => ?_)
      refine Wp.z_ne rfl rfl ⟨fun c => ?_, fun c => ?_⟩
      · have H := H.1 c
        refine Wp.ii (v := (-1)) rfl rfl (by decide) rfl (L' := [some (.ref r0), some (.int x1), some (.int x2), some (.int x3), some (.int x4), some (.int x5), some (.int x6), some (.int (x7 + (-1))), some (.int x8), none]) rfl ?_
        refine Wp.go (x := (.iload 7, 2, 0, 0)) rfl 144 [some (.ref r0), some (.int x1), some (.int x2), some (.int x3), some (.int x4), some (.int x5), some (.int x6), some (.int (x7 + (-1))), some (.int x8), none] [.int (x7 + (-1))] rfl ⟨rfl, rfl, rfl, rfl⟩ ?_
        refine Wp.go (x := (.istore 8, 2, 0, 0)) rfl 146 [some (.ref r0), some (.int x1), some (.int x2), some (.int x3), some (.int x4), some (.int x5), some (.int x6), some (.int (x7 + (-1))), some (.int (x7 + (-1))), none] [] rfl ⟨rfl, rfl, rfl, rfl⟩ ?_
        exact H
      · have H := H.2 c
        refine Wp.go (x := (.aload_n 0, 1, 0, 0)) rfl 131 [some (.ref r0), some (.int x1), some (.int x2), some (.int x3), some (.int x4), some (.int x5), some (.int x6), some (.int x7), some (.int x8), none] [.ref r0] rfl ⟨rfl, rfl, rfl, rfl⟩ ?_
        refine Wp.gR rfl rfl hn_r0 rfl rfl hf6 ?_
        refine Wp.go (x := (.iload_n 1, 1, 0, 0)) rfl 135 [some (.ref r0), some (.int x1), some (.int x2), some (.int x3), some (.int x4), some (.int x5), some (.int x6), some (.int x7), some (.int x8), none] [.int x1, .ref f6] rfl ⟨rfl, rfl, rfl, rfl⟩ ?_
        refine Wp.go (x := (.iload 7, 2, 0, 0)) rfl 137 [some (.ref r0), some (.int x1), some (.int x2), some (.int x3), some (.int x4), some (.int x5), some (.int x6), some (.int x7), some (.int x8), none] [.int x7, .int x1, .ref f6] rfl ⟨rfl, rfl, rfl, rfl⟩ ?_
        obtain ⟨j7, e, b, H⟩ := H
        refine Wp.ast rfl rfl hn_f6 (hK hn_f6) ⟨j7, e, b, ?_⟩
        exact Wp.rV rfl rfl H
  · have H := H.2 c
    refine Wp.go (x := (.aload_n 0, 1, 0, 0)) rfl 25 [some (.ref r0), some (.int x1), some (.int x2), some (.int x3), some (.int x4), some (.int x5), some (.int x6), some (.int x7), some (.int x8), none] [.ref r0] rfl ⟨rfl, rfl, rfl, rfl⟩ ?_
    refine Wp.go (x := (.iload 6, 2, 0, 0)) rfl 27 [some (.ref r0), some (.int x1), some (.int x2), some (.int x3), some (.int x4), some (.int x5), some (.int x6), some (.int x7), some (.int x8), none] [.int x6, .ref r0] rfl ⟨rfl, rfl, rfl, rfl⟩ ?_
    refine Wp.go (x := (.iload 8, 2, 0, 0)) rfl 29 [some (.ref r0), some (.int x1), some (.int x2), some (.int x3), some (.int x4), some (.int x5), some (.int x6), some (.int x7), some (.int x8), none] [.int x8, .int x6, .ref r0] rfl ⟨rfl, rfl, rfl, rfl⟩ ?_
    refine Wp.go (x := (.iadd, 1, 0, 0)) rfl 30 [some (.ref r0), some (.int x1), some (.int x2), some (.int x3), some (.int x4), some (.int x5), some (.int x6), some (.int x7), some (.int x8), none] [.int (x6 + x8), .ref r0] rfl ⟨rfl, rfl, rfl, rfl⟩ ?_
    refine Wp.kI (x := (.invokevirtual 253, 3, 134, 2)) (j := 134) (vs := [.ref r0, .int (x6 + x8)]) (rest := []) rfl (by show xtg 134 (K r0).1 = _; rw [hn_r0]; rfl) rfl ⟨Nat.le_of_ble_eq_true rfl, Nat.le_of_ble_eq_true rfl, Nat.le_of_ble_eq_true rfl⟩ rfl rfl rfl H (fun v8 I9 J10 H => ?_)
    refine Wp.z_eq rfl rfl ⟨fun c => ?_, fun c => ?_⟩
    · have H := H.1 c
      refine Wp.ii (v := nI 1) rfl rfl (by decide) rfl (L' := [some (.ref r0), some (.int x1), some (.int x2), some (.int x3), some (.int x4), some (.int x5), some (.int x6), some (.int x7), some (.int (x8 + nI 1)), none]) rfl ?_
      refine Wp.go (x := (.goto (-79), 3, 17, 0)) rfl 17 [some (.ref r0), some (.int x1), some (.int x2), some (.int x3), some (.int x4), some (.int x5), some (.int x6), some (.int x7), some (.int (x8 + nI 1)), none] [] rfl ⟨rfl, rfl, rfl, rfl⟩ ?_
      exact H
    · have H := H.2 c
      refine Wp.go (x := (.aload_n 0, 1, 0, 0)) rfl 37 [some (.ref r0), some (.int x1), some (.int x2), some (.int x3), some (.int x4), some (.int x5), some (.int x6), some (.int x7), some (.int x8), none] [.ref r0] rfl ⟨rfl, rfl, rfl, rfl⟩ ?_
      refine Wp.gR rfl rfl hn_r0 rfl rfl hf11 ?_
      refine Wp.go (x := (.iload 6, 2, 0, 0)) rfl 42 [some (.ref r0), some (.int x1), some (.int x2), some (.int x3), some (.int x4), some (.int x5), some (.int x6), some (.int x7), some (.int x8), none] [.int x6, .ref f11] rfl ⟨rfl, rfl, rfl, rfl⟩ ?_
      refine Wp.go (x := (.iload 8, 2, 0, 0)) rfl 44 [some (.ref r0), some (.int x1), some (.int x2), some (.int x3), some (.int x4), some (.int x5), some (.int x6), some (.int x7), some (.int x8), none] [.int x8, .int x6, .ref f11] rfl ⟨rfl, rfl, rfl, rfl⟩ ?_
      refine Wp.go (x := (.iadd, 1, 0, 0)) rfl 45 [some (.ref r0), some (.int x1), some (.int x2), some (.int x3), some (.int x4), some (.int x5), some (.int x6), some (.int x7), some (.int x8), none] [.int (x6 + x8), .ref f11] rfl ⟨rfl, rfl, rfl, rfl⟩ ?_
      obtain ⟨j12, e, b, H⟩ := H
      refine Wp.ald rfl rfl hn_f11 (Or.inl rfl) (hK hn_f11) ⟨j12, e, b, ?_⟩
      refine Wp.go (x := (.iload_n 2, 1, 0, 0)) rfl 47 [some (.ref r0), some (.int x1), some (.int x2), some (.int x3), some (.int x4), some (.int x5), some (.int x6), some (.int x7), some (.int x8), none] [.int x2, .int (I9 f11 j12)] rfl ⟨rfl, rfl, rfl, rfl⟩ ?_
      refine Wp.c_gt rfl rfl ⟨fun c => ?_, fun c => ?_⟩
      · have H := H.1 c
        refine Wp.go (x := (.iload 8, 2, 0, 0)) rfl 53 [some (.ref r0), some (.int x1), some (.int x2), some (.int x3), some (.int x4), some (.int x5), some (.int x6), some (.int x7), some (.int x8), none] [.int x8] rfl ⟨rfl, rfl, rfl, rfl⟩ ?_
        refine Wp.go (x := (.istore 9, 2, 0, 0)) rfl 55 [some (.ref r0), some (.int x1), some (.int x2), some (.int x3), some (.int x4), some (.int x5), some (.int x6), some (.int x7), some (.int x8), some (.int x8)] [] rfl ⟨rfl, rfl, rfl, rfl⟩ ?_
        exact Wp.wk (L := [some (.ref r0), some (.int x1), some (.int x2), some (.int x3), some (.int x4), some (.int x5), some (.int x6), some (.int x7), none, some (.int x8)]) ⟨Or.inr rfl, Or.inr rfl, Or.inr rfl, Or.inr rfl, Or.inr rfl, Or.inr rfl, Or.inr rfl, Or.inr rfl, Or.inl rfl, Or.inr rfl, trivial⟩ H
      · have H := H.2 c
        exact Wp.rV rfl rfl H
set_option maxRecDepth 20000 in
theorem wX11_comes_55 {d : Nat} {Q : Option Value × xS → Prop} {K : Nat → Nat × Nat} {P : List Nat × Nat × Nat} {I : Nat → Nat → Int32} {J : Nat → Nat → Int64} {F : Nat → Nat → Option Nat} {r0 : Nat} {x1 : Int32} {x2 : Int32} {x3 : Int32} {x4 : Int32} {x5 : Int32} {x6 : Int32} {x7 : Int32} {x9 : Int32} {n_r0 : Nat} (hn_r0 : K r0 = (10, n_r0)) (H : ((x7 ≤ (x9 + (nI 1)) → Wp (d + 1) 137 17 [some (.ref r0), some (.int x1), some (.int x2), some (.int x3), some (.int x4), some (.int x5), some (.int x6), some (.int (x7 + (-1))), some (.int ((x7 + (-1)) + nI 1)), none] [] (K, P, I, J, F) Q) ∧ (¬ x7 ≤ (x9 + (nI 1)) → Wp d 136 0 [some (.ref r0), some (.int ((x6 + x9) + (nI 1))), some (.int (x6 + x9)), none] [] (K, P, I, J, F) (xrV K P F (fun I1 J2 => Wp (d + 1) 137 55 [some (.ref r0), some (.int x1), some (.int x2), some (.int x3), some (.int x4), some (.int x5), some (.int x6), some (.int x7), none, some (.int (x9 + nI 1))] [] (K, P, I1, J2, F) Q))))) : Wp (d + 1) 137 55 [some (.ref r0), some (.int x1), some (.int x2), some (.int x3), some (.int x4), some (.int x5), some (.int x6), some (.int x7), none, some (.int x9)] [] (K, P, I, J, F) Q := by
  refine Wp.go (x := (.iload 9, 2, 0, 0)) rfl 57 [some (.ref r0), some (.int x1), some (.int x2), some (.int x3), some (.int x4), some (.int x5), some (.int x6), some (.int x7), none, some (.int x9)] [.int x9] rfl ⟨rfl, rfl, rfl, rfl⟩ ?_
  refine Wp.ic (v := nI 1) rfl rfl (by decide) ?_
  refine Wp.go (x := (.iadd, 1, 0, 0)) rfl 59 [some (.ref r0), some (.int x1), some (.int x2), some (.int x3), some (.int x4), some (.int x5), some (.int x6), some (.int x7), none, some (.int x9)] [.int (x9 + (nI 1))] rfl ⟨rfl, rfl, rfl, rfl⟩ ?_
  refine Wp.go (x := (.iload 7, 2, 0, 0)) rfl 61 [some (.ref r0), some (.int x1), some (.int x2), some (.int x3), some (.int x4), some (.int x5), some (.int x6), some (.int x7), none, some (.int x9)] [.int x7, .int (x9 + (nI 1))] rfl ⟨rfl, rfl, rfl, rfl⟩ ?_
  refine Wp.c_ge rfl rfl ⟨fun c => ?_, fun c => ?_⟩
  · have H := H.1 c
    refine Wp.ii (v := (-1)) rfl rfl (by decide) rfl (L' := [some (.ref r0), some (.int x1), some (.int x2), some (.int x3), some (.int x4), some (.int x5), some (.int x6), some (.int (x7 + (-1))), none, some (.int x9)]) rfl ?_
    refine Wp.go (x := (.iload 7, 2, 0, 0)) rfl 91 [some (.ref r0), some (.int x1), some (.int x2), some (.int x3), some (.int x4), some (.int x5), some (.int x6), some (.int (x7 + (-1))), none, some (.int x9)] [.int (x7 + (-1))] rfl ⟨rfl, rfl, rfl, rfl⟩ ?_
    refine Wp.go (x := (.istore 8, 2, 0, 0)) rfl 93 [some (.ref r0), some (.int x1), some (.int x2), some (.int x3), some (.int x4), some (.int x5), some (.int x6), some (.int (x7 + (-1))), some (.int (x7 + (-1))), some (.int x9)] [] rfl ⟨rfl, rfl, rfl, rfl⟩ ?_
    refine Wp.ii (v := nI 1) rfl rfl (by decide) rfl (L' := [some (.ref r0), some (.int x1), some (.int x2), some (.int x3), some (.int x4), some (.int x5), some (.int x6), some (.int (x7 + (-1))), some (.int ((x7 + (-1)) + nI 1)), some (.int x9)]) rfl ?_
    refine Wp.go (x := (.goto (-79), 3, 17, 0)) rfl 17 [some (.ref r0), some (.int x1), some (.int x2), some (.int x3), some (.int x4), some (.int x5), some (.int x6), some (.int (x7 + (-1))), some (.int ((x7 + (-1)) + nI 1)), some (.int x9)] [] rfl ⟨rfl, rfl, rfl, rfl⟩ ?_
    exact Wp.wk (L := [some (.ref r0), some (.int x1), some (.int x2), some (.int x3), some (.int x4), some (.int x5), some (.int x6), some (.int (x7 + (-1))), some (.int ((x7 + (-1)) + nI 1)), none]) ⟨Or.inr rfl, Or.inr rfl, Or.inr rfl, Or.inr rfl, Or.inr rfl, Or.inr rfl, Or.inr rfl, Or.inr rfl, Or.inr rfl, Or.inl rfl, trivial⟩ H
  · have H := H.2 c
    refine Wp.go (x := (.aload_n 0, 1, 0, 0)) rfl 65 [some (.ref r0), some (.int x1), some (.int x2), some (.int x3), some (.int x4), some (.int x5), some (.int x6), some (.int x7), none, some (.int x9)] [.ref r0] rfl ⟨rfl, rfl, rfl, rfl⟩ ?_
    refine Wp.go (x := (.iload 6, 2, 0, 0)) rfl 67 [some (.ref r0), some (.int x1), some (.int x2), some (.int x3), some (.int x4), some (.int x5), some (.int x6), some (.int x7), none, some (.int x9)] [.int x6, .ref r0] rfl ⟨rfl, rfl, rfl, rfl⟩ ?_
    refine Wp.go (x := (.iload 9, 2, 0, 0)) rfl 69 [some (.ref r0), some (.int x1), some (.int x2), some (.int x3), some (.int x4), some (.int x5), some (.int x6), some (.int x7), none, some (.int x9)] [.int x9, .int x6, .ref r0] rfl ⟨rfl, rfl, rfl, rfl⟩ ?_
    refine Wp.go (x := (.iadd, 1, 0, 0)) rfl 70 [some (.ref r0), some (.int x1), some (.int x2), some (.int x3), some (.int x4), some (.int x5), some (.int x6), some (.int x7), none, some (.int x9)] [.int (x6 + x9), .ref r0] rfl ⟨rfl, rfl, rfl, rfl⟩ ?_
    refine Wp.ic (v := nI 1) rfl rfl (by decide) ?_
    refine Wp.go (x := (.iadd, 1, 0, 0)) rfl 72 [some (.ref r0), some (.int x1), some (.int x2), some (.int x3), some (.int x4), some (.int x5), some (.int x6), some (.int x7), none, some (.int x9)] [.int ((x6 + x9) + (nI 1)), .ref r0] rfl ⟨rfl, rfl, rfl, rfl⟩ ?_
    refine Wp.go (x := (.iload 6, 2, 0, 0)) rfl 74 [some (.ref r0), some (.int x1), some (.int x2), some (.int x3), some (.int x4), some (.int x5), some (.int x6), some (.int x7), none, some (.int x9)] [.int x6, .int ((x6 + x9) + (nI 1)), .ref r0] rfl ⟨rfl, rfl, rfl, rfl⟩ ?_
    refine Wp.go (x := (.iload 9, 2, 0, 0)) rfl 76 [some (.ref r0), some (.int x1), some (.int x2), some (.int x3), some (.int x4), some (.int x5), some (.int x6), some (.int x7), none, some (.int x9)] [.int x9, .int x6, .int ((x6 + x9) + (nI 1)), .ref r0] rfl ⟨rfl, rfl, rfl, rfl⟩ ?_
    refine Wp.go (x := (.iadd, 1, 0, 0)) rfl 77 [some (.ref r0), some (.int x1), some (.int x2), some (.int x3), some (.int x4), some (.int x5), some (.int x6), some (.int x7), none, some (.int x9)] [.int (x6 + x9), .int ((x6 + x9) + (nI 1)), .ref r0] rfl ⟨rfl, rfl, rfl, rfl⟩ ?_
    refine Wp.kV (x := (.invokevirtual 257, 3, 136, 3)) (j := 136) (vs := [.ref r0, .int ((x6 + x9) + (nI 1)), .int (x6 + x9)]) (rest := []) rfl (by show xtg 136 (K r0).1 = _; rw [hn_r0]; rfl) rfl ⟨Nat.le_of_ble_eq_true rfl, Nat.le_of_ble_eq_true rfl, Nat.le_of_ble_eq_true rfl⟩ rfl rfl rfl H (fun I1 J2 H => ?_)
    refine Wp.ii (v := nI 1) rfl rfl (by decide) rfl (L' := [some (.ref r0), some (.int x1), some (.int x2), some (.int x3), some (.int x4), some (.int x5), some (.int x6), some (.int x7), none, some (.int (x9 + nI 1))]) rfl ?_
    refine Wp.go (x := (.goto (-28), 3, 55, 0)) rfl 55 [some (.ref r0), some (.int x1), some (.int x2), some (.int x3), some (.int x4), some (.int x5), some (.int x6), some (.int x7), none, some (.int (x9 + nI 1))] [] rfl ⟨rfl, rfl, rfl, rfl⟩ ?_
    exact H
set_option maxRecDepth 20000 in
theorem wX11_comes_146 {d : Nat} {Q : Option Value × xS → Prop} {K : Nat → Nat × Nat} {P : List Nat × Nat × Nat} {I : Nat → Nat → Int32} {J : Nat → Nat → Int64} {F : Nat → Nat → Option Nat} {r0 : Nat} {x1 : Int32} {x2 : Int32} {x3 : Int32} {x4 : Int32} {x5 : Int32} {x6 : Int32} {x7 : Int32} {x8 : Int32} {n_r0 : Nat} (hn_r0 : K r0 = (10, n_r0)) (H : ((x8 ≤ 0 → Wp (d + 1) 137 188 [some (.ref r0), some (.int x1), some (.int x2), some (.int x3), some (.int x4), some (.int x5), some (.int x6), some (.int x7), some (.int x8), none] [] (K, P, I, J, F) Q) ∧ (¬ x8 ≤ 0 → Wp d 135 0 [some (.ref r0), some (.int ((x6 + x8) - (nI 1))), some (.int x2), none] [] (K, P, I, J, F) (xrI K P F (fun v1 I2 J3 => ((v1 = 0 → Wp (d + 1) 137 188 [some (.ref r0), some (.int x1), some (.int x2), some (.int x3), some (.int x4), some (.int x5), some (.int x6), some (.int x7), some (.int x8), none] [] (K, P, I2, J3, F) Q) ∧ (¬ v1 = 0 → Wp d 136 0 [some (.ref r0), some (.int ((x6 + x8) - (nI 1))), some (.int (x6 + x8)), none] [] (K, P, I2, J3, F) (xrV K P F (fun I4 J5 => Wp (d + 1) 137 146 [some (.ref r0), some (.int x1), some (.int x2), some (.int x3), some (.int x4), some (.int x5), some (.int x6), some (.int x7), some (.int (x8 + (-1))), none] [] (K, P, I4, J5, F) Q))))))))) : Wp (d + 1) 137 146 [some (.ref r0), some (.int x1), some (.int x2), some (.int x3), some (.int x4), some (.int x5), some (.int x6), some (.int x7), some (.int x8), none] [] (K, P, I, J, F) Q := by
  refine Wp.go (x := (.iload 8, 2, 0, 0)) rfl 148 [some (.ref r0), some (.int x1), some (.int x2), some (.int x3), some (.int x4), some (.int x5), some (.int x6), some (.int x7), some (.int x8), none] [.int x8] rfl ⟨rfl, rfl, rfl, rfl⟩ ?_
  refine Wp.z_le rfl rfl ⟨fun c => ?_, fun c => ?_⟩
  · have H := H.1 c
    exact H
  · have H := H.2 c
    refine Wp.go (x := (.aload_n 0, 1, 0, 0)) rfl 152 [some (.ref r0), some (.int x1), some (.int x2), some (.int x3), some (.int x4), some (.int x5), some (.int x6), some (.int x7), some (.int x8), none] [.ref r0] rfl ⟨rfl, rfl, rfl, rfl⟩ ?_
    refine Wp.go (x := (.iload 6, 2, 0, 0)) rfl 154 [some (.ref r0), some (.int x1), some (.int x2), some (.int x3), some (.int x4), some (.int x5), some (.int x6), some (.int x7), some (.int x8), none] [.int x6, .ref r0] rfl ⟨rfl, rfl, rfl, rfl⟩ ?_
    refine Wp.go (x := (.iload 8, 2, 0, 0)) rfl 156 [some (.ref r0), some (.int x1), some (.int x2), some (.int x3), some (.int x4), some (.int x5), some (.int x6), some (.int x7), some (.int x8), none] [.int x8, .int x6, .ref r0] rfl ⟨rfl, rfl, rfl, rfl⟩ ?_
    refine Wp.go (x := (.iadd, 1, 0, 0)) rfl 157 [some (.ref r0), some (.int x1), some (.int x2), some (.int x3), some (.int x4), some (.int x5), some (.int x6), some (.int x7), some (.int x8), none] [.int (x6 + x8), .ref r0] rfl ⟨rfl, rfl, rfl, rfl⟩ ?_
    refine Wp.ic (v := nI 1) rfl rfl (by decide) ?_
    refine Wp.go (x := (.isub, 1, 0, 0)) rfl 159 [some (.ref r0), some (.int x1), some (.int x2), some (.int x3), some (.int x4), some (.int x5), some (.int x6), some (.int x7), some (.int x8), none] [.int ((x6 + x8) - (nI 1)), .ref r0] rfl ⟨rfl, rfl, rfl, rfl⟩ ?_
    refine Wp.go (x := (.iload_n 2, 1, 0, 0)) rfl 160 [some (.ref r0), some (.int x1), some (.int x2), some (.int x3), some (.int x4), some (.int x5), some (.int x6), some (.int x7), some (.int x8), none] [.int x2, .int ((x6 + x8) - (nI 1)), .ref r0] rfl ⟨rfl, rfl, rfl, rfl⟩ ?_
    refine Wp.kI (x := (.invokevirtual 260, 3, 135, 3)) (j := 135) (vs := [.ref r0, .int ((x6 + x8) - (nI 1)), .int x2]) (rest := []) rfl (by show xtg 135 (K r0).1 = _; rw [hn_r0]; rfl) rfl ⟨Nat.le_of_ble_eq_true rfl, Nat.le_of_ble_eq_true rfl, Nat.le_of_ble_eq_true rfl⟩ rfl rfl rfl H (fun v1 I2 J3 H => ?_)
    refine Wp.z_eq rfl rfl ⟨fun c => ?_, fun c => ?_⟩
    · have H := H.1 c
      exact H
    · have H := H.2 c
      refine Wp.go (x := (.aload_n 0, 1, 0, 0)) rfl 167 [some (.ref r0), some (.int x1), some (.int x2), some (.int x3), some (.int x4), some (.int x5), some (.int x6), some (.int x7), some (.int x8), none] [.ref r0] rfl ⟨rfl, rfl, rfl, rfl⟩ ?_
      refine Wp.go (x := (.iload 6, 2, 0, 0)) rfl 169 [some (.ref r0), some (.int x1), some (.int x2), some (.int x3), some (.int x4), some (.int x5), some (.int x6), some (.int x7), some (.int x8), none] [.int x6, .ref r0] rfl ⟨rfl, rfl, rfl, rfl⟩ ?_
      refine Wp.go (x := (.iload 8, 2, 0, 0)) rfl 171 [some (.ref r0), some (.int x1), some (.int x2), some (.int x3), some (.int x4), some (.int x5), some (.int x6), some (.int x7), some (.int x8), none] [.int x8, .int x6, .ref r0] rfl ⟨rfl, rfl, rfl, rfl⟩ ?_
      refine Wp.go (x := (.iadd, 1, 0, 0)) rfl 172 [some (.ref r0), some (.int x1), some (.int x2), some (.int x3), some (.int x4), some (.int x5), some (.int x6), some (.int x7), some (.int x8), none] [.int (x6 + x8), .ref r0] rfl ⟨rfl, rfl, rfl, rfl⟩ ?_
      refine Wp.ic (v := nI 1) rfl rfl (by decide) ?_
      refine Wp.go (x := (.isub, 1, 0, 0)) rfl 174 [some (.ref r0), some (.int x1), some (.int x2), some (.int x3), some (.int x4), some (.int x5), some (.int x6), some (.int x7), some (.int x8), none] [.int ((x6 + x8) - (nI 1)), .ref r0] rfl ⟨rfl, rfl, rfl, rfl⟩ ?_
      refine Wp.go (x := (.iload 6, 2, 0, 0)) rfl 176 [some (.ref r0), some (.int x1), some (.int x2), some (.int x3), some (.int x4), some (.int x5), some (.int x6), some (.int x7), some (.int x8), none] [.int x6, .int ((x6 + x8) - (nI 1)), .ref r0] rfl ⟨rfl, rfl, rfl, rfl⟩ ?_
      refine Wp.go (x := (.iload 8, 2, 0, 0)) rfl 178 [some (.ref r0), some (.int x1), some (.int x2), some (.int x3), some (.int x4), some (.int x5), some (.int x6), some (.int x7), some (.int x8), none] [.int x8, .int x6, .int ((x6 + x8) - (nI 1)), .ref r0] rfl ⟨rfl, rfl, rfl, rfl⟩ ?_
      refine Wp.go (x := (.iadd, 1, 0, 0)) rfl 179 [some (.ref r0), some (.int x1), some (.int x2), some (.int x3), some (.int x4), some (.int x5), some (.int x6), some (.int x7), some (.int x8), none] [.int (x6 + x8), .int ((x6 + x8) - (nI 1)), .ref r0] rfl ⟨rfl, rfl, rfl, rfl⟩ ?_
      refine Wp.kV (x := (.invokevirtual 257, 3, 136, 3)) (j := 136) (vs := [.ref r0, .int ((x6 + x8) - (nI 1)), .int (x6 + x8)]) (rest := []) rfl (by show xtg 136 (K r0).1 = _; rw [hn_r0]; rfl) rfl ⟨Nat.le_of_ble_eq_true rfl, Nat.le_of_ble_eq_true rfl, Nat.le_of_ble_eq_true rfl⟩ rfl rfl rfl H (fun I4 J5 H => ?_)
      refine Wp.ii (v := (-1)) rfl rfl (by decide) rfl (L' := [some (.ref r0), some (.int x1), some (.int x2), some (.int x3), some (.int x4), some (.int x5), some (.int x6), some (.int x7), some (.int (x8 + (-1))), none]) rfl ?_
      refine Wp.go (x := (.goto (-39), 3, 146, 0)) rfl 146 [some (.ref r0), some (.int x1), some (.int x2), some (.int x3), some (.int x4), some (.int x5), some (.int x6), some (.int x7), some (.int (x8 + (-1))), none] [] rfl ⟨rfl, rfl, rfl, rfl⟩ ?_
      exact H
