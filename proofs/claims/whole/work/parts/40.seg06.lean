set_option maxRecDepth 20000 in
theorem wX11_comes_188 {d : Nat} {Q : Option Value × xS → Prop} {K : Nat → Nat × Nat} {P : List Nat × Nat × Nat} {I : Nat → Nat → Int32} {J : Nat → Nat → Int64} {F : Nat → Nat → Option Nat} {r0 : Nat} {x1 : Int32} {x2 : Int32} {x3 : Int32} {x4 : Int32} {x5 : Int32} {x6 : Int32} {x7 : Int32} {x8 : Int32} {n_r0 : Nat} {f1 : Nat} {n_f1 : Nat} {f3 : Nat} {n_f3 : Nat} {f5 : Nat} {n_f5 : Nat} {f7 : Nat} {n_f7 : Nat} (hK : ∀ {a k n : Nat}, K a = (k, n) → n < 2147483648) (hn_r0 : K r0 = (10, n_r0)) (hf1 : F r0 34 = some f1) (hn_f1 : K f1 = (100, n_f1)) (hf3 : F r0 36 = some f3) (hn_f3 : K f3 = (100, n_f3)) (hf5 : F r0 38 = some f5) (hn_f5 : K f5 = (100, n_f5)) (hf7 : F r0 37 = some f7) (hn_f7 : K f7 = (100, n_f7)) (H : (∃ j2 : Nat, (x6 + x8) = nI j2 ∧ j2 < n_f1 ∧ (∃ j4 : Nat, (x6 + x8) = nI j4 ∧ j4 < n_f3 ∧ (∃ j6 : Nat, (x6 + x8) = nI j6 ∧ j6 < n_f5 ∧ (∃ j8 : Nat, (x6 + x8) = nI j8 ∧ j8 < n_f7 ∧ Wp d 137 237 [some (.ref r0), some (.int x1), none, none, none, none, some (.int x6), some (.int x7), some (.int x8), some (.int (nI 0))] [] (K, P, (xup ((xup ((xup ((xup I f1 j2 x2)) f3 j4 x3)) f5 j6 x4)) f7 j8 x5), J, F) Q))))) : Wp d 137 188 [some (.ref r0), some (.int x1), some (.int x2), some (.int x3), some (.int x4), some (.int x5), some (.int x6), some (.int x7), some (.int x8), none] [] (K, P, I, J, F) Q := by
  refine Wp.go (x := (.aload_n 0, 1, 0, 0)) rfl 189 [some (.ref r0), some (.int x1), some (.int x2), some (.int x3), some (.int x4), some (.int x5), some (.int x6), some (.int x7), some (.int x8), none] [.ref r0] rfl ⟨rfl, rfl, rfl, rfl⟩ ?_
  refine Wp.gR rfl rfl hn_r0 rfl rfl hf1 ?_
  refine Wp.go (x := (.iload 6, 2, 0, 0)) rfl 194 [some (.ref r0), some (.int x1), some (.int x2), some (.int x3), some (.int x4), some (.int x5), some (.int x6), some (.int x7), some (.int x8), none] [.int x6, .ref f1] rfl ⟨rfl, rfl, rfl, rfl⟩ ?_
  refine Wp.go (x := (.iload 8, 2, 0, 0)) rfl 196 [some (.ref r0), some (.int x1), some (.int x2), some (.int x3), some (.int x4), some (.int x5), some (.int x6), some (.int x7), some (.int x8), none] [.int x8, .int x6, .ref f1] rfl ⟨rfl, rfl, rfl, rfl⟩ ?_
  refine Wp.go (x := (.iadd, 1, 0, 0)) rfl 197 [some (.ref r0), some (.int x1), some (.int x2), some (.int x3), some (.int x4), some (.int x5), some (.int x6), some (.int x7), some (.int x8), none] [.int (x6 + x8), .ref f1] rfl ⟨rfl, rfl, rfl, rfl⟩ ?_
  refine Wp.go (x := (.iload_n 2, 1, 0, 0)) rfl 198 [some (.ref r0), some (.int x1), some (.int x2), some (.int x3), some (.int x4), some (.int x5), some (.int x6), some (.int x7), some (.int x8), none] [.int x2, .int (x6 + x8), .ref f1] rfl ⟨rfl, rfl, rfl, rfl⟩ ?_
  obtain ⟨j2, e, b, H⟩ := H
  refine Wp.ast rfl rfl hn_f1 (hK hn_f1) ⟨j2, e, b, ?_⟩
  refine Wp.go (x := (.aload_n 0, 1, 0, 0)) rfl 200 [some (.ref r0), some (.int x1), some (.int x2), some (.int x3), some (.int x4), some (.int x5), some (.int x6), some (.int x7), some (.int x8), none] [.ref r0] rfl ⟨rfl, rfl, rfl, rfl⟩ ?_
  refine Wp.gR rfl rfl hn_r0 rfl rfl hf3 ?_
  refine Wp.go (x := (.iload 6, 2, 0, 0)) rfl 205 [some (.ref r0), some (.int x1), some (.int x2), some (.int x3), some (.int x4), some (.int x5), some (.int x6), some (.int x7), some (.int x8), none] [.int x6, .ref f3] rfl ⟨rfl, rfl, rfl, rfl⟩ ?_
  refine Wp.go (x := (.iload 8, 2, 0, 0)) rfl 207 [some (.ref r0), some (.int x1), some (.int x2), some (.int x3), some (.int x4), some (.int x5), some (.int x6), some (.int x7), some (.int x8), none] [.int x8, .int x6, .ref f3] rfl ⟨rfl, rfl, rfl, rfl⟩ ?_
  refine Wp.go (x := (.iadd, 1, 0, 0)) rfl 208 [some (.ref r0), some (.int x1), some (.int x2), some (.int x3), some (.int x4), some (.int x5), some (.int x6), some (.int x7), some (.int x8), none] [.int (x6 + x8), .ref f3] rfl ⟨rfl, rfl, rfl, rfl⟩ ?_
  refine Wp.go (x := (.iload_n 3, 1, 0, 0)) rfl 209 [some (.ref r0), some (.int x1), some (.int x2), some (.int x3), some (.int x4), some (.int x5), some (.int x6), some (.int x7), some (.int x8), none] [.int x3, .int (x6 + x8), .ref f3] rfl ⟨rfl, rfl, rfl, rfl⟩ ?_
  obtain ⟨j4, e, b, H⟩ := H
  refine Wp.ast rfl rfl hn_f3 (hK hn_f3) ⟨j4, e, b, ?_⟩
  refine Wp.go (x := (.aload_n 0, 1, 0, 0)) rfl 211 [some (.ref r0), some (.int x1), some (.int x2), some (.int x3), some (.int x4), some (.int x5), some (.int x6), some (.int x7), some (.int x8), none] [.ref r0] rfl ⟨rfl, rfl, rfl, rfl⟩ ?_
  refine Wp.gR rfl rfl hn_r0 rfl rfl hf5 ?_
  refine Wp.go (x := (.iload 6, 2, 0, 0)) rfl 216 [some (.ref r0), some (.int x1), some (.int x2), some (.int x3), some (.int x4), some (.int x5), some (.int x6), some (.int x7), some (.int x8), none] [.int x6, .ref f5] rfl ⟨rfl, rfl, rfl, rfl⟩ ?_
  refine Wp.go (x := (.iload 8, 2, 0, 0)) rfl 218 [some (.ref r0), some (.int x1), some (.int x2), some (.int x3), some (.int x4), some (.int x5), some (.int x6), some (.int x7), some (.int x8), none] [.int x8, .int x6, .ref f5] rfl ⟨rfl, rfl, rfl, rfl⟩ ?_
  refine Wp.go (x := (.iadd, 1, 0, 0)) rfl 219 [some (.ref r0), some (.int x1), some (.int x2), some (.int x3), some (.int x4), some (.int x5), some (.int x6), some (.int x7), some (.int x8), none] [.int (x6 + x8), .ref f5] rfl ⟨rfl, rfl, rfl, rfl⟩ ?_
  refine Wp.go (x := (.iload 4, 2, 0, 0)) rfl 221 [some (.ref r0), some (.int x1), some (.int x2), some (.int x3), some (.int x4), some (.int x5), some (.int x6), some (.int x7), some (.int x8), none] [.int x4, .int (x6 + x8), .ref f5] rfl ⟨rfl, rfl, rfl, rfl⟩ ?_
  obtain ⟨j6, e, b, H⟩ := H
  refine Wp.ast rfl rfl hn_f5 (hK hn_f5) ⟨j6, e, b, ?_⟩
  refine Wp.go (x := (.aload_n 0, 1, 0, 0)) rfl 223 [some (.ref r0), some (.int x1), some (.int x2), some (.int x3), some (.int x4), some (.int x5), some (.int x6), some (.int x7), some (.int x8), none] [.ref r0] rfl ⟨rfl, rfl, rfl, rfl⟩ ?_
  refine Wp.gR rfl rfl hn_r0 rfl rfl hf7 ?_
  refine Wp.go (x := (.iload 6, 2, 0, 0)) rfl 228 [some (.ref r0), some (.int x1), some (.int x2), some (.int x3), some (.int x4), some (.int x5), some (.int x6), some (.int x7), some (.int x8), none] [.int x6, .ref f7] rfl ⟨rfl, rfl, rfl, rfl⟩ ?_
  refine Wp.go (x := (.iload 8, 2, 0, 0)) rfl 230 [some (.ref r0), some (.int x1), some (.int x2), some (.int x3), some (.int x4), some (.int x5), some (.int x6), some (.int x7), some (.int x8), none] [.int x8, .int x6, .ref f7] rfl ⟨rfl, rfl, rfl, rfl⟩ ?_
  refine Wp.go (x := (.iadd, 1, 0, 0)) rfl 231 [some (.ref r0), some (.int x1), some (.int x2), some (.int x3), some (.int x4), some (.int x5), some (.int x6), some (.int x7), some (.int x8), none] [.int (x6 + x8), .ref f7] rfl ⟨rfl, rfl, rfl, rfl⟩ ?_
  refine Wp.go (x := (.iload 5, 2, 0, 0)) rfl 233 [some (.ref r0), some (.int x1), some (.int x2), some (.int x3), some (.int x4), some (.int x5), some (.int x6), some (.int x7), some (.int x8), none] [.int x5, .int (x6 + x8), .ref f7] rfl ⟨rfl, rfl, rfl, rfl⟩ ?_
  obtain ⟨j8, e, b, H⟩ := H
  refine Wp.ast rfl rfl hn_f7 (hK hn_f7) ⟨j8, e, b, ?_⟩
  refine Wp.ic (v := nI 0) rfl rfl (by decide) ?_
  refine Wp.go (x := (.istore 9, 2, 0, 0)) rfl 237 [some (.ref r0), some (.int x1), some (.int x2), some (.int x3), some (.int x4), some (.int x5), some (.int x6), some (.int x7), some (.int x8), some (.int (nI 0))] [] rfl ⟨rfl, rfl, rfl, rfl⟩ ?_
  exact Wp.wk (L := [some (.ref r0), some (.int x1), none, none, none, none, some (.int x6), some (.int x7), some (.int x8), some (.int (nI 0))]) ⟨Or.inr rfl, Or.inr rfl, Or.inl rfl, Or.inl rfl, Or.inl rfl, Or.inl rfl, Or.inr rfl, Or.inr rfl, Or.inr rfl, Or.inr rfl, trivial⟩ H
set_option maxRecDepth 20000 in
theorem wX11_comes_237 {d : Nat} {Q : Option Value × xS → Prop} {K : Nat → Nat × Nat} {P : List Nat × Nat × Nat} {I : Nat → Nat → Int32} {J : Nat → Nat → Int64} {F : Nat → Nat → Option Nat} {r0 : Nat} {x1 : Int32} {x6 : Int32} {x7 : Int32} {x8 : Int32} {x9 : Int32} {n_r0 : Nat} {f1 : Nat} {n_f1 : Nat} {f3 : Nat} {f4 : Nat} {n_f4 : Nat} {n_f3 : Nat} (hK : ∀ {a k n : Nat}, K a = (k, n) → n < 2147483648) (hn_r0 : K r0 = (10, n_r0)) (hf1 : F r0 32 = some f1) (hn_f1 : K f1 = (100, n_f1)) (hf3 : F r0 35 = some f3) (hf4 : F r0 21 = some f4) (hn_f4 : K f4 = (100, n_f4)) (hn_f3 : K f3 = (100, n_f3)) (H : (((nI 4) ≤ x9 → (∃ j2 : Nat, x1 = nI j2 ∧ j2 < n_f1 ∧ Q (none, (K, P, (xup I f1 j2 (x7 + (nI 1))), J, F)))) ∧ (¬ (nI 4) ≤ x9 → (∃ j5 : Nat, x9 = nI j5 ∧ j5 < n_f4 ∧ (∃ j6 : Nat, (((nI 4) * (x6 + x8)) + x9) = nI j6 ∧ j6 < n_f3 ∧ Wp d 137 237 [some (.ref r0), some (.int x1), none, none, none, none, some (.int x6), some (.int x7), some (.int x8), some (.int (x9 + nI 1))] [] (K, P, (xup I f3 j6 (I f4 j5)), J, F) Q))))) : Wp d 137 237 [some (.ref r0), some (.int x1), none, none, none, none, some (.int x6), some (.int x7), some (.int x8), some (.int x9)] [] (K, P, I, J, F) Q := by
  refine Wp.go (x := (.iload 9, 2, 0, 0)) rfl 239 [some (.ref r0), some (.int x1), none, none, none, none, some (.int x6), some (.int x7), some (.int x8), some (.int x9)] [.int x9] rfl ⟨rfl, rfl, rfl, rfl⟩ ?_
  refine Wp.ic (v := nI 4) rfl rfl (by decide) ?_
  refine Wp.c_ge rfl rfl ⟨fun c => ?_, fun c => ?_⟩
  · have H := H.1 c
    refine Wp.go (x := (.aload_n 0, 1, 0, 0)) rfl 272 [some (.ref r0), some (.int x1), none, none, none, none, some (.int x6), some (.int x7), some (.int x8), some (.int x9)] [.ref r0] rfl ⟨rfl, rfl, rfl, rfl⟩ ?_
    refine Wp.gR rfl rfl hn_r0 rfl rfl hf1 ?_
    refine Wp.go (x := (.iload_n 1, 1, 0, 0)) rfl 276 [some (.ref r0), some (.int x1), none, none, none, none, some (.int x6), some (.int x7), some (.int x8), some (.int x9)] [.int x1, .ref f1] rfl ⟨rfl, rfl, rfl, rfl⟩ ?_
    refine Wp.go (x := (.iload 7, 2, 0, 0)) rfl 278 [some (.ref r0), some (.int x1), none, none, none, none, some (.int x6), some (.int x7), some (.int x8), some (.int x9)] [.int x7, .int x1, .ref f1] rfl ⟨rfl, rfl, rfl, rfl⟩ ?_
    refine Wp.ic (v := nI 1) rfl rfl (by decide) ?_
    refine Wp.go (x := (.iadd, 1, 0, 0)) rfl 280 [some (.ref r0), some (.int x1), none, none, none, none, some (.int x6), some (.int x7), some (.int x8), some (.int x9)] [.int (x7 + (nI 1)), .int x1, .ref f1] rfl ⟨rfl, rfl, rfl, rfl⟩ ?_
    obtain ⟨j2, e, b, H⟩ := H
    refine Wp.ast rfl rfl hn_f1 (hK hn_f1) ⟨j2, e, b, ?_⟩
    exact Wp.rV rfl rfl H
  · have H := H.2 c
    refine Wp.go (x := (.aload_n 0, 1, 0, 0)) rfl 244 [some (.ref r0), some (.int x1), none, none, none, none, some (.int x6), some (.int x7), some (.int x8), some (.int x9)] [.ref r0] rfl ⟨rfl, rfl, rfl, rfl⟩ ?_
    refine Wp.gR rfl rfl hn_r0 rfl rfl hf3 ?_
    refine Wp.ic (v := nI 4) rfl rfl (by decide) ?_
    refine Wp.go (x := (.iload 6, 2, 0, 0)) rfl 250 [some (.ref r0), some (.int x1), none, none, none, none, some (.int x6), some (.int x7), some (.int x8), some (.int x9)] [.int x6, .int (nI 4), .ref f3] rfl ⟨rfl, rfl, rfl, rfl⟩ ?_
    refine Wp.go (x := (.iload 8, 2, 0, 0)) rfl 252 [some (.ref r0), some (.int x1), none, none, none, none, some (.int x6), some (.int x7), some (.int x8), some (.int x9)] [.int x8, .int x6, .int (nI 4), .ref f3] rfl ⟨rfl, rfl, rfl, rfl⟩ ?_
    refine Wp.go (x := (.iadd, 1, 0, 0)) rfl 253 [some (.ref r0), some (.int x1), none, none, none, none, some (.int x6), some (.int x7), some (.int x8), some (.int x9)] [.int (x6 + x8), .int (nI 4), .ref f3] rfl ⟨rfl, rfl, rfl, rfl⟩ ?_
    refine Wp.go (x := (.imul, 1, 0, 0)) rfl 254 [some (.ref r0), some (.int x1), none, none, none, none, some (.int x6), some (.int x7), some (.int x8), some (.int x9)] [.int ((nI 4) * (x6 + x8)), .ref f3] rfl ⟨rfl, rfl, rfl, rfl⟩ ?_
    refine Wp.go (x := (.iload 9, 2, 0, 0)) rfl 256 [some (.ref r0), some (.int x1), none, none, none, none, some (.int x6), some (.int x7), some (.int x8), some (.int x9)] [.int x9, .int ((nI 4) * (x6 + x8)), .ref f3] rfl ⟨rfl, rfl, rfl, rfl⟩ ?_
    refine Wp.go (x := (.iadd, 1, 0, 0)) rfl 257 [some (.ref r0), some (.int x1), none, none, none, none, some (.int x6), some (.int x7), some (.int x8), some (.int x9)] [.int (((nI 4) * (x6 + x8)) + x9), .ref f3] rfl ⟨rfl, rfl, rfl, rfl⟩ ?_
    refine Wp.go (x := (.aload_n 0, 1, 0, 0)) rfl 258 [some (.ref r0), some (.int x1), none, none, none, none, some (.int x6), some (.int x7), some (.int x8), some (.int x9)] [.ref r0, .int (((nI 4) * (x6 + x8)) + x9), .ref f3] rfl ⟨rfl, rfl, rfl, rfl⟩ ?_
    refine Wp.gR rfl rfl hn_r0 rfl rfl hf4 ?_
    refine Wp.go (x := (.iload 9, 2, 0, 0)) rfl 263 [some (.ref r0), some (.int x1), none, none, none, none, some (.int x6), some (.int x7), some (.int x8), some (.int x9)] [.int x9, .ref f4, .int (((nI 4) * (x6 + x8)) + x9), .ref f3] rfl ⟨rfl, rfl, rfl, rfl⟩ ?_
    obtain ⟨j5, e, b, H⟩ := H
    refine Wp.ald rfl rfl hn_f4 (Or.inl rfl) (hK hn_f4) ⟨j5, e, b, ?_⟩
    obtain ⟨j6, e, b, H⟩ := H
    refine Wp.ast rfl rfl hn_f3 (hK hn_f3) ⟨j6, e, b, ?_⟩
    refine Wp.ii (v := nI 1) rfl rfl (by decide) rfl (L' := [some (.ref r0), some (.int x1), none, none, none, none, some (.int x6), some (.int x7), some (.int x8), some (.int (x9 + nI 1))]) rfl ?_
    refine Wp.go (x := (.goto (-31), 3, 237, 0)) rfl 237 [some (.ref r0), some (.int x1), none, none, none, none, some (.int x6), some (.int x7), some (.int x8), some (.int (x9 + nI 1))] [] rfl ⟨rfl, rfl, rfl, rfl⟩ ?_
    exact H
set_option maxRecDepth 20000 in
theorem wX11_takeLatest_0 {d : Nat} {Q : Option Value × xS → Prop} {K : Nat → Nat × Nat} {P : List Nat × Nat × Nat} {I : Nat → Nat → Int32} {J : Nat → Nat → Int64} {F : Nat → Nat → Option Nat} {r0 : Nat} {x1 : Int32}  (H : Wp d 138 2 [some (.ref r0), some (.int x1), some (.int (nI 0))] [] (K, P, I, J, F) Q) : Wp d 138 0 [some (.ref r0), some (.int x1), none] [] (K, P, I, J, F) Q := by
  refine Wp.ic (v := nI 0) rfl rfl (by decide) ?_
  refine Wp.go (x := (.istore_n 2, 1, 0, 0)) rfl 2 [some (.ref r0), some (.int x1), some (.int (nI 0))] [] rfl ⟨rfl, rfl, rfl, rfl⟩ ?_
  exact H
set_option maxRecDepth 20000 in
theorem wX11_takeLatest_2 {d : Nat} {Q : Option Value × xS → Prop} {K : Nat → Nat × Nat} {P : List Nat × Nat × Nat} {I : Nat → Nat → Int32} {J : Nat → Nat → Int64} {F : Nat → Nat → Option Nat} {r0 : Nat} {x1 : Int32} {x2 : Int32} {n_r0 : Nat} {f1 : Nat} {f2 : Nat} {n_f2 : Nat} {n_f1 : Nat} (hK : ∀ {a k n : Nat}, K a = (k, n) → n < 2147483648) (hn_r0 : K r0 = (10, n_r0)) (hf1 : F r0 21 = some f1) (hf2 : F r0 35 = some f2) (hn_f2 : K f2 = (100, n_f2)) (hn_f1 : K f1 = (100, n_f1)) (H : (((nI 4) ≤ x2 → Q (none, (K, P, I, J, F))) ∧ (¬ (nI 4) ≤ x2 → (∃ j3 : Nat, (((nI 4) * x1) + x2) = nI j3 ∧ j3 < n_f2 ∧ (∃ j4 : Nat, x2 = nI j4 ∧ j4 < n_f1 ∧ Wp d 138 2 [some (.ref r0), some (.int x1), some (.int (x2 + nI 1))] [] (K, P, (xup I f1 j4 (I f2 j3)), J, F) Q))))) : Wp d 138 2 [some (.ref r0), some (.int x1), some (.int x2)] [] (K, P, I, J, F) Q := by
  refine Wp.go (x := (.iload_n 2, 1, 0, 0)) rfl 3 [some (.ref r0), some (.int x1), some (.int x2)] [.int x2] rfl ⟨rfl, rfl, rfl, rfl⟩ ?_
  refine Wp.ic (v := nI 4) rfl rfl (by decide) ?_
  refine Wp.c_ge rfl rfl ⟨fun c => ?_, fun c => ?_⟩
  · have H := H.1 c
    exact Wp.rV rfl rfl H
  · have H := H.2 c
    refine Wp.go (x := (.aload_n 0, 1, 0, 0)) rfl 8 [some (.ref r0), some (.int x1), some (.int x2)] [.ref r0] rfl ⟨rfl, rfl, rfl, rfl⟩ ?_
    refine Wp.gR rfl rfl hn_r0 rfl rfl hf1 ?_
    refine Wp.go (x := (.iload_n 2, 1, 0, 0)) rfl 12 [some (.ref r0), some (.int x1), some (.int x2)] [.int x2, .ref f1] rfl ⟨rfl, rfl, rfl, rfl⟩ ?_
    refine Wp.go (x := (.aload_n 0, 1, 0, 0)) rfl 13 [some (.ref r0), some (.int x1), some (.int x2)] [.ref r0, .int x2, .ref f1] rfl ⟨rfl, rfl, rfl, rfl⟩ ?_
    refine Wp.gR rfl rfl hn_r0 rfl rfl hf2 ?_
    refine Wp.ic (v := nI 4) rfl rfl (by decide) ?_
    refine Wp.go (x := (.iload_n 1, 1, 0, 0)) rfl 18 [some (.ref r0), some (.int x1), some (.int x2)] [.int x1, .int (nI 4), .ref f2, .int x2, .ref f1] rfl ⟨rfl, rfl, rfl, rfl⟩ ?_
    refine Wp.go (x := (.imul, 1, 0, 0)) rfl 19 [some (.ref r0), some (.int x1), some (.int x2)] [.int ((nI 4) * x1), .ref f2, .int x2, .ref f1] rfl ⟨rfl, rfl, rfl, rfl⟩ ?_
    refine Wp.go (x := (.iload_n 2, 1, 0, 0)) rfl 20 [some (.ref r0), some (.int x1), some (.int x2)] [.int x2, .int ((nI 4) * x1), .ref f2, .int x2, .ref f1] rfl ⟨rfl, rfl, rfl, rfl⟩ ?_
    refine Wp.go (x := (.iadd, 1, 0, 0)) rfl 21 [some (.ref r0), some (.int x1), some (.int x2)] [.int (((nI 4) * x1) + x2), .ref f2, .int x2, .ref f1] rfl ⟨rfl, rfl, rfl, rfl⟩ ?_
    obtain ⟨j3, e, b, H⟩ := H
    refine Wp.ald rfl rfl hn_f2 (Or.inl rfl) (hK hn_f2) ⟨j3, e, b, ?_⟩
    obtain ⟨j4, e, b, H⟩ := H
    refine Wp.ast rfl rfl hn_f1 (hK hn_f1) ⟨j4, e, b, ?_⟩
    refine Wp.ii (v := nI 1) rfl rfl (by decide) rfl (L' := [some (.ref r0), some (.int x1), some (.int (x2 + nI 1))]) rfl ?_
    refine Wp.go (x := (.goto (-24), 3, 2, 0)) rfl 2 [some (.ref r0), some (.int x1), some (.int (x2 + nI 1))] [] rfl ⟨rfl, rfl, rfl, rfl⟩ ?_
    exact H
set_option maxRecDepth 20000 in
theorem wX11_expand_0 {d : Nat} {Q : Option Value × xS → Prop} {K : Nat → Nat × Nat} {P : List Nat × Nat × Nat} {I : Nat → Nat → Int32} {J : Nat → Nat → Int64} {F : Nat → Nat → Option Nat} {r0 : Nat} {x1 : Int32} {x2 : Int32} {n_r0 : Nat} {f1 : Nat} {n_f1 : Nat} (hK : ∀ {a k n : Nat}, K a = (k, n) → n < 2147483648) (hn_r0 : K r0 = (10, n_r0)) (hf1 : F r0 34 = some f1) (hn_f1 : K f1 = (100, n_f1)) (H : (∃ j2 : Nat, (((nI 40) * x1) + x2) = nI j2 ∧ j2 < n_f1 ∧ Wp d 108 0 [some (.ref r0), some (.int x1), none] [] (K, P, I, J, F) (xrI K P F (fun v3 I4 J5 => Wp (d + 1) 139 22 [some (.ref r0), some (.int x1), some (.int x2), some (.int (((nI 40) * x1) + x2)), some (.int (I f1 j2)), some (.int v3), none, none] [] (K, P, I4, J5, F) Q)))) : Wp (d + 1) 139 0 [some (.ref r0), some (.int x1), some (.int x2), none, none, none, none, none] [] (K, P, I, J, F) Q := by
  refine Wp.bp (v := nI 40) rfl rfl (by decide) ?_
  refine Wp.go (x := (.iload_n 1, 1, 0, 0)) rfl 3 [some (.ref r0), some (.int x1), some (.int x2), none, none, none, none, none] [.int x1, .int (nI 40)] rfl ⟨rfl, rfl, rfl, rfl⟩ ?_
  refine Wp.go (x := (.imul, 1, 0, 0)) rfl 4 [some (.ref r0), some (.int x1), some (.int x2), none, none, none, none, none] [.int ((nI 40) * x1)] rfl ⟨rfl, rfl, rfl, rfl⟩ ?_
  refine Wp.go (x := (.iload_n 2, 1, 0, 0)) rfl 5 [some (.ref r0), some (.int x1), some (.int x2), none, none, none, none, none] [.int x2, .int ((nI 40) * x1)] rfl ⟨rfl, rfl, rfl, rfl⟩ ?_
  refine Wp.go (x := (.iadd, 1, 0, 0)) rfl 6 [some (.ref r0), some (.int x1), some (.int x2), none, none, none, none, none] [.int (((nI 40) * x1) + x2)] rfl ⟨rfl, rfl, rfl, rfl⟩ ?_
  refine Wp.go (x := (.istore_n 3, 1, 0, 0)) rfl 7 [some (.ref r0), some (.int x1), some (.int x2), some (.int (((nI 40) * x1) + x2)), none, none, none, none] [] rfl ⟨rfl, rfl, rfl, rfl⟩ ?_
  refine Wp.go (x := (.aload_n 0, 1, 0, 0)) rfl 8 [some (.ref r0), some (.int x1), some (.int x2), some (.int (((nI 40) * x1) + x2)), none, none, none, none] [.ref r0] rfl ⟨rfl, rfl, rfl, rfl⟩ ?_
  refine Wp.gR rfl rfl hn_r0 rfl rfl hf1 ?_
  refine Wp.go (x := (.iload_n 3, 1, 0, 0)) rfl 12 [some (.ref r0), some (.int x1), some (.int x2), some (.int (((nI 40) * x1) + x2)), none, none, none, none] [.int (((nI 40) * x1) + x2), .ref f1] rfl ⟨rfl, rfl, rfl, rfl⟩ ?_
  obtain ⟨j2, e, b, H⟩ := H
  refine Wp.ald rfl rfl hn_f1 (Or.inl rfl) (hK hn_f1) ⟨j2, e, b, ?_⟩
  refine Wp.go (x := (.istore 4, 2, 0, 0)) rfl 15 [some (.ref r0), some (.int x1), some (.int x2), some (.int (((nI 40) * x1) + x2)), some (.int (I f1 j2)), none, none, none] [] rfl ⟨rfl, rfl, rfl, rfl⟩ ?_
  refine Wp.go (x := (.aload_n 0, 1, 0, 0)) rfl 16 [some (.ref r0), some (.int x1), some (.int x2), some (.int (((nI 40) * x1) + x2)), some (.int (I f1 j2)), none, none, none] [.ref r0] rfl ⟨rfl, rfl, rfl, rfl⟩ ?_
  refine Wp.go (x := (.iload_n 1, 1, 0, 0)) rfl 17 [some (.ref r0), some (.int x1), some (.int x2), some (.int (((nI 40) * x1) + x2)), some (.int (I f1 j2)), none, none, none] [.int x1, .ref r0] rfl ⟨rfl, rfl, rfl, rfl⟩ ?_
  refine Wp.kI (x := (.invokevirtual 193, 3, 108, 2)) (j := 108) (vs := [.ref r0, .int x1]) (rest := []) rfl (by show xtg 108 (K r0).1 = _; rw [hn_r0]; rfl) rfl ⟨Nat.le_of_ble_eq_true rfl, Nat.le_of_ble_eq_true rfl, Nat.le_of_ble_eq_true rfl⟩ rfl rfl rfl H (fun v3 I4 J5 H => ?_)
  refine Wp.go (x := (.istore 5, 2, 0, 0)) rfl 22 [some (.ref r0), some (.int x1), some (.int x2), some (.int (((nI 40) * x1) + x2)), some (.int (I f1 j2)), some (.int v3), none, none] [] rfl ⟨rfl, rfl, rfl, rfl⟩ ?_
  exact H
set_option maxRecDepth 20000 in
theorem wX11_expand_22 {d : Nat} {Q : Option Value × xS → Prop} {K : Nat → Nat × Nat} {P : List Nat × Nat × Nat} {I : Nat → Nat → Int32} {J : Nat → Nat → Int64} {F : Nat → Nat → Option Nat} {r0 : Nat} {x1 : Int32} {x2 : Int32} {x3 : Int32} {x4 : Int32} {x5 : Int32} {n_r0 : Nat} {f6 : Nat} {n_f6 : Nat} (hK : ∀ {a k n : Nat}, K a = (k, n) → n < 2147483648) (hn_r0 : K r0 = (10, n_r0)) (hf6 : F r0 20 = some f6) (hn_f6 : K f6 = (100, n_f6)) (H : Wp d 99 0 [some (.ref r0)] [] (K, P, I, J, F) (xrI K P F (fun v1 I2 J3 => ((x5 < v1 → Wp (d + 1) 139 92 [some (.ref r0), some (.int x1), some (.int x2), some (.int x3), some (.int x4), some (.int (nI 0)), none, none] [] (K, P, I2, J3, F) Q) ∧ (¬ x5 < v1 → Wp d 138 0 [some (.ref r0), some (.int x3), none] [] (K, P, I2, J3, F) (xrV K P F (fun I4 J5 => (∃ j7 : Nat, (((nI 301) * x1) + x5) = nI j7 ∧ j7 < n_f6 ∧ Wp d 122 0 [some (.ref r0), some (.int (I4 f6 j7)), some (.int (nI 3)), none] [] (K, P, I4, J5, F) (xrV K P F (fun I8 J9 => Wp d 119 0 [some (.ref r0), some (.int (nI 1)), some (.int x5), some (.int (I4 f6 j7)), some (.int (nI 0)), some (.int (nI 0))] [] (K, P, I8, J9, F) (xrI K P F (fun v10 I11 J12 => Wp d 137 0 [some (.ref r0), some (.int (x1 + x5)), some (.int (x4 + v10)), some (.int x1), some (.int x2), some (.int (nI 1)), none, none, none, none] [] (K, P, I11, J12, F) (xrV K P F (fun I13 J14 => Wp (d + 1) 139 22 [some (.ref r0), some (.int x1), some (.int x2), some (.int x3), some (.int x4), some (.int (x5 + (-1))), none, none] [] (K, P, I13, J14, F) Q)))))))))))))) : Wp (d + 1) 139 22 [some (.ref r0), some (.int x1), some (.int x2), some (.int x3), some (.int x4), some (.int x5), none, none] [] (K, P, I, J, F) Q := by
  refine Wp.go (x := (.iload 5, 2, 0, 0)) rfl 24 [some (.ref r0), some (.int x1), some (.int x2), some (.int x3), some (.int x4), some (.int x5), none, none] [.int x5] rfl ⟨rfl, rfl, rfl, rfl⟩ ?_
  refine Wp.go (x := (.aload_n 0, 1, 0, 0)) rfl 25 [some (.ref r0), some (.int x1), some (.int x2), some (.int x3), some (.int x4), some (.int x5), none, none] [.ref r0, .int x5] rfl ⟨rfl, rfl, rfl, rfl⟩ ?_
  refine Wp.kI (x := (.invokevirtual 153, 3, 99, 1)) (j := 99) (vs := [.ref r0]) (rest := [.int x5]) rfl (by show xtg 99 (K r0).1 = _; rw [hn_r0]; rfl) rfl ⟨Nat.le_of_ble_eq_true rfl, Nat.le_of_ble_eq_true rfl, Nat.le_of_ble_eq_true rfl⟩ rfl rfl rfl H (fun v1 I2 J3 H => ?_)
  refine Wp.c_lt rfl rfl ⟨fun c => ?_, fun c => ?_⟩
  · have H := H.1 c
    refine Wp.ic (v := nI 0) rfl rfl (by decide) ?_
    refine Wp.go (x := (.istore 5, 2, 0, 0)) rfl 92 [some (.ref r0), some (.int x1), some (.int x2), some (.int x3), some (.int x4), some (.int (nI 0)), none, none] [] rfl ⟨rfl, rfl, rfl, rfl⟩ ?_
    exact H
  · have H := H.2 c
    refine Wp.go (x := (.aload_n 0, 1, 0, 0)) rfl 32 [some (.ref r0), some (.int x1), some (.int x2), some (.int x3), some (.int x4), some (.int x5), none, none] [.ref r0] rfl ⟨rfl, rfl, rfl, rfl⟩ ?_
    refine Wp.go (x := (.iload_n 3, 1, 0, 0)) rfl 33 [some (.ref r0), some (.int x1), some (.int x2), some (.int x3), some (.int x4), some (.int x5), none, none] [.int x3, .ref r0] rfl ⟨rfl, rfl, rfl, rfl⟩ ?_
    refine Wp.kV (x := (.invokevirtual 263, 3, 138, 2)) (j := 138) (vs := [.ref r0, .int x3]) (rest := []) rfl (by show xtg 138 (K r0).1 = _; rw [hn_r0]; rfl) rfl ⟨Nat.le_of_ble_eq_true rfl, Nat.le_of_ble_eq_true rfl, Nat.le_of_ble_eq_true rfl⟩ rfl rfl rfl H (fun I4 J5 H => ?_)
    refine Wp.go (x := (.aload_n 0, 1, 0, 0)) rfl 37 [some (.ref r0), some (.int x1), some (.int x2), some (.int x3), some (.int x4), some (.int x5), none, none] [.ref r0] rfl ⟨rfl, rfl, rfl, rfl⟩ ?_
    refine Wp.gR rfl rfl hn_r0 rfl rfl hf6 ?_
    refine Wp.sp (v := nI 301) rfl rfl (by decide) ?_
    refine Wp.go (x := (.iload_n 1, 1, 0, 0)) rfl 44 [some (.ref r0), some (.int x1), some (.int x2), some (.int x3), some (.int x4), some (.int x5), none, none] [.int x1, .int (nI 301), .ref f6] rfl ⟨rfl, rfl, rfl, rfl⟩ ?_
    refine Wp.go (x := (.imul, 1, 0, 0)) rfl 45 [some (.ref r0), some (.int x1), some (.int x2), some (.int x3), some (.int x4), some (.int x5), none, none] [.int ((nI 301) * x1), .ref f6] rfl ⟨rfl, rfl, rfl, rfl⟩ ?_
    refine Wp.go (x := (.iload 5, 2, 0, 0)) rfl 47 [some (.ref r0), some (.int x1), some (.int x2), some (.int x3), some (.int x4), some (.int x5), none, none] [.int x5, .int ((nI 301) * x1), .ref f6] rfl ⟨rfl, rfl, rfl, rfl⟩ ?_
    refine Wp.go (x := (.iadd, 1, 0, 0)) rfl 48 [some (.ref r0), some (.int x1), some (.int x2), some (.int x3), some (.int x4), some (.int x5), none, none] [.int (((nI 301) * x1) + x5), .ref f6] rfl ⟨rfl, rfl, rfl, rfl⟩ ?_
    obtain ⟨j7, e, b, H⟩ := H
    refine Wp.ald rfl rfl hn_f6 (Or.inl rfl) (hK hn_f6) ⟨j7, e, b, ?_⟩
    refine Wp.go (x := (.istore 6, 2, 0, 0)) rfl 51 [some (.ref r0), some (.int x1), some (.int x2), some (.int x3), some (.int x4), some (.int x5), some (.int (I4 f6 j7)), none] [] rfl ⟨rfl, rfl, rfl, rfl⟩ ?_
    refine Wp.go (x := (.aload_n 0, 1, 0, 0)) rfl 52 [some (.ref r0), some (.int x1), some (.int x2), some (.int x3), some (.int x4), some (.int x5), some (.int (I4 f6 j7)), none] [.ref r0] rfl ⟨rfl, rfl, rfl, rfl⟩ ?_
    refine Wp.go (x := (.iload 6, 2, 0, 0)) rfl 54 [some (.ref r0), some (.int x1), some (.int x2), some (.int x3), some (.int x4), some (.int x5), some (.int (I4 f6 j7)), none] [.int (I4 f6 j7), .ref r0] rfl ⟨rfl, rfl, rfl, rfl⟩ ?_
    refine Wp.ic (v := nI 3) rfl rfl (by decide) ?_
    refine Wp.kV (x := (.invokevirtual 212, 3, 122, 3)) (j := 122) (vs := [.ref r0, .int (I4 f6 j7), .int (nI 3)]) (rest := []) rfl (by show xtg 122 (K r0).1 = _; rw [hn_r0]; rfl) rfl ⟨Nat.le_of_ble_eq_true rfl, Nat.le_of_ble_eq_true rfl, Nat.le_of_ble_eq_true rfl⟩ rfl rfl rfl H (fun I8 J9 H => ?_)
    refine Wp.go (x := (.aload_n 0, 1, 0, 0)) rfl 59 [some (.ref r0), some (.int x1), some (.int x2), some (.int x3), some (.int x4), some (.int x5), some (.int (I4 f6 j7)), none] [.ref r0] rfl ⟨rfl, rfl, rfl, rfl⟩ ?_
    refine Wp.go (x := (.iload_n 1, 1, 0, 0)) rfl 60 [some (.ref r0), some (.int x1), some (.int x2), some (.int x3), some (.int x4), some (.int x5), some (.int (I4 f6 j7)), none] [.int x1, .ref r0] rfl ⟨rfl, rfl, rfl, rfl⟩ ?_
    refine Wp.go (x := (.iload 5, 2, 0, 0)) rfl 62 [some (.ref r0), some (.int x1), some (.int x2), some (.int x3), some (.int x4), some (.int x5), some (.int (I4 f6 j7)), none] [.int x5, .int x1, .ref r0] rfl ⟨rfl, rfl, rfl, rfl⟩ ?_
    refine Wp.go (x := (.iadd, 1, 0, 0)) rfl 63 [some (.ref r0), some (.int x1), some (.int x2), some (.int x3), some (.int x4), some (.int x5), some (.int (I4 f6 j7)), none] [.int (x1 + x5), .ref r0] rfl ⟨rfl, rfl, rfl, rfl⟩ ?_
    refine Wp.go (x := (.iload 4, 2, 0, 0)) rfl 65 [some (.ref r0), some (.int x1), some (.int x2), some (.int x3), some (.int x4), some (.int x5), some (.int (I4 f6 j7)), none] [.int x4, .int (x1 + x5), .ref r0] rfl ⟨rfl, rfl, rfl, rfl⟩ ?_
    refine Wp.go (x := (.aload_n 0, 1, 0, 0)) rfl 66 [some (.ref r0), some (.int x1), some (.int x2), some (.int x3), some (.int x4), some (.int x5), some (.int (I4 f6 j7)), none] [.ref r0, .int x4, .int (x1 + x5), .ref r0] rfl ⟨rfl, rfl, rfl, rfl⟩ ?_
    refine Wp.ic (v := nI 1) rfl rfl (by decide) ?_
    refine Wp.go (x := (.iload 5, 2, 0, 0)) rfl 69 [some (.ref r0), some (.int x1), some (.int x2), some (.int x3), some (.int x4), some (.int x5), some (.int (I4 f6 j7)), none] [.int x5, .int (nI 1), .ref r0, .int x4, .int (x1 + x5), .ref r0] rfl ⟨rfl, rfl, rfl, rfl⟩ ?_
    refine Wp.go (x := (.iload 6, 2, 0, 0)) rfl 71 [some (.ref r0), some (.int x1), some (.int x2), some (.int x3), some (.int x4), some (.int x5), some (.int (I4 f6 j7)), none] [.int (I4 f6 j7), .int x5, .int (nI 1), .ref r0, .int x4, .int (x1 + x5), .ref r0] rfl ⟨rfl, rfl, rfl, rfl⟩ ?_
    refine Wp.ic (v := nI 0) rfl rfl (by decide) ?_
    refine Wp.ic (v := nI 0) rfl rfl (by decide) ?_
    refine Wp.kI (x := (.invokevirtual 189, 3, 119, 6)) (j := 119) (vs := [.ref r0, .int (nI 1), .int x5, .int (I4 f6 j7), .int (nI 0), .int (nI 0)]) (rest := [.int x4, .int (x1 + x5), .ref r0]) rfl (by show xtg 119 (K r0).1 = _; rw [hn_r0]; rfl) rfl ⟨Nat.le_of_ble_eq_true rfl, Nat.le_of_ble_eq_true rfl, Nat.le_of_ble_eq_true rfl⟩ rfl rfl rfl H (fun v10 I11 J12 H => ?_)
    refine Wp.go (x := (.iadd, 1, 0, 0)) rfl 77 [some (.ref r0), some (.int x1), some (.int x2), some (.int x3), some (.int x4), some (.int x5), some (.int (I4 f6 j7)), none] [.int (x4 + v10), .int (x1 + x5), .ref r0] rfl ⟨rfl, rfl, rfl, rfl⟩ ?_
    refine Wp.go (x := (.iload_n 1, 1, 0, 0)) rfl 78 [some (.ref r0), some (.int x1), some (.int x2), some (.int x3), some (.int x4), some (.int x5), some (.int (I4 f6 j7)), none] [.int x1, .int (x4 + v10), .int (x1 + x5), .ref r0] rfl ⟨rfl, rfl, rfl, rfl⟩ ?_
    refine Wp.go (x := (.iload_n 2, 1, 0, 0)) rfl 79 [some (.ref r0), some (.int x1), some (.int x2), some (.int x3), some (.int x4), some (.int x5), some (.int (I4 f6 j7)), none] [.int x2, .int x1, .int (x4 + v10), .int (x1 + x5), .ref r0] rfl ⟨rfl, rfl, rfl, rfl⟩ ?_
    refine Wp.ic (v := nI 1) rfl rfl (by decide) ?_
    refine Wp.kV (x := (.invokevirtual 266, 3, 137, 6)) (j := 137) (vs := [.ref r0, .int (x1 + x5), .int (x4 + v10), .int x1, .int x2, .int (nI 1)]) (rest := []) rfl (by show xtg 137 (K r0).1 = _; rw [hn_r0]; rfl) rfl ⟨Nat.le_of_ble_eq_true rfl, Nat.le_of_ble_eq_true rfl, Nat.le_of_ble_eq_true rfl⟩ rfl rfl rfl H (fun I13 J14 H => ?_)
    refine Wp.ii (v := (-1)) rfl rfl (by decide) rfl (L' := [some (.ref r0), some (.int x1), some (.int x2), some (.int x3), some (.int x4), some (.int (x5 + (-1))), some (.int (I4 f6 j7)), none]) rfl ?_
    refine Wp.go (x := (.goto (-64), 3, 22, 0)) rfl 22 [some (.ref r0), some (.int x1), some (.int x2), some (.int x3), some (.int x4), some (.int (x5 + (-1))), some (.int (I4 f6 j7)), none] [] rfl ⟨rfl, rfl, rfl, rfl⟩ ?_
    exact Wp.wk (L := [some (.ref r0), some (.int x1), some (.int x2), some (.int x3), some (.int x4), some (.int (x5 + (-1))), none, none]) ⟨Or.inr rfl, Or.inr rfl, Or.inr rfl, Or.inr rfl, Or.inr rfl, Or.inr rfl, Or.inl rfl, Or.inr rfl, trivial⟩ H
set_option maxRecDepth 20000 in
theorem wX11_expand_92 {d : Nat} {Q : Option Value × xS → Prop} {K : Nat → Nat × Nat} {P : List Nat × Nat × Nat} {I : Nat → Nat → Int32} {J : Nat → Nat → Int64} {F : Nat → Nat → Option Nat} {r0 : Nat} {x1 : Int32} {x2 : Int32} {x3 : Int32} {x4 : Int32} {x5 : Int32} {n_r0 : Nat} {f3 : Nat} {n_f3 : Nat} {f5 : Nat} {n_f5 : Nat} (hK : ∀ {a k n : Nat}, K a = (k, n) → n < 2147483648) (hn_r0 : K r0 = (10, n_r0)) (hf3 : F r0 21 = some f3) (hn_f3 : K f3 = (100, n_f3)) (hf5 : F r0 2 = some f5) (hn_f5 : K f5 = (100, n_f5)) (H : (((nI 4) ≤ x5 → Wp d 138 0 [some (.ref r0), some (.int x3), none] [] (K, P, I, J, F) (xrV K P F (fun I1 J2 => (∃ j4 : Nat, (nI 0) = nI j4 ∧ j4 < n_f3 ∧ ((x1 < (I1 f3 j4) → Wp (d + 1) 139 244 [some (.ref r0), some (.int x1), some (.int x2), none, some (.int x4), none, none, none] [] (K, P, I1, J2, F) Q) ∧ (¬ x1 < (I1 f3 j4) → (∃ j6 : Nat, x1 = nI j6 ∧ j6 < n_f5 ∧ (∃ j7 : Nat, (nI 0) = nI j7 ∧ j7 < n_f3 ∧ (∃ j8 : Nat, (x1 - (I1 f3 j7)) = nI j8 ∧ j8 < n_f5 ∧ ((¬ (I1 f5 j6) = (I1 f5 j8) → Wp (d + 1) 139 244 [some (.ref r0), some (.int x1), some (.int x2), none, some (.int x4), none, none, none] [] (K, P, I1, J2, F) Q) ∧ ((I1 f5 j6) = (I1 f5 j8) → (∃ j9 : Nat, (nI 0) = nI j9 ∧ j9 < n_f3 ∧ Wp d 119 0 [some (.ref r0), some (.int (nI 6)), some (.int (nI 1)), some (.int (I1 f3 j9)), some (.int (nI 0)), some (.int (nI 0))] [] (K, P, I1, J2, F) (xrI K P F (fun v10 I11 J12 => Wp d 137 0 [some (.ref r0), some (.int (x1 + (nI 1))), some (.int (x4 + v10)), some (.int x1), some (.int x2), some (.int (nI 6)), none, none, none, none] [] (K, P, I11, J12, F) (xrV K P F (fun I13 J14 => Wp (d + 1) 139 244 [some (.ref r0), some (.int x1), some (.int x2), none, some (.int x4), none, none, none] [] (K, P, I13, J14, F) Q)))))))))))))))) ∧ (¬ (nI 4) ≤ x5 → Wp d 138 0 [some (.ref r0), some (.int x3), none] [] (K, P, I, J, F) (xrV K P F (fun I15 J16 => (∃ j17 : Nat, x5 = nI j17 ∧ j17 < n_f3 ∧ Wp d 122 0 [some (.ref r0), some (.int (I15 f3 j17)), some (.int x5), none] [] (K, P, I15, J16, F) (xrV K P F (fun I18 J19 => Wp d 109 0 [some (.ref r0), some (.int x1), some (.int (I15 f3 j17)), none] [] (K, P, I18, J19, F) (xrI K P F (fun v20 I21 J22 => Wp (d + 1) 139 129 [some (.ref r0), some (.int x1), some (.int x2), some (.int x3), some (.int x4), some (.int x5), some (.int (I15 f3 j17)), some (.int v20)] [] (K, P, I21, J22, F) Q)))))))))) : Wp (d + 1) 139 92 [some (.ref r0), some (.int x1), some (.int x2), some (.int x3), some (.int x4), some (.int x5), none, none] [] (K, P, I, J, F) Q := by
  refine Wp.go (x := (.iload 5, 2, 0, 0)) rfl 94 [some (.ref r0), some (.int x1), some (.int x2), some (.int x3), some (.int x4), some (.int x5), none, none] [.int x5] rfl ⟨rfl, rfl, rfl, rfl⟩ ?_
  refine Wp.ic (v := nI 4) rfl rfl (by decide) ?_
  refine Wp.c_ge rfl rfl ⟨fun c => ?_, fun c => ?_⟩
  · have H := H.1 c
    refine Wp.go (x := (.aload_n 0, 1, 0, 0)) rfl 179 [some (.ref r0), some (.int x1), some (.int x2), some (.int x3), some (.int x4), some (.int x5), none, none] [.ref r0] rfl ⟨rfl, rfl, rfl, rfl⟩ ?_
    refine Wp.go (x := (.iload_n 3, 1, 0, 0)) rfl 180 [some (.ref r0), some (.int x1), some (.int x2), some (.int x3), some (.int x4), some (.int x5), none, none] [.int x3, .ref r0] rfl ⟨rfl, rfl, rfl, rfl⟩ ?_
    refine Wp.kV (x := (.invokevirtual 263, 3, 138, 2)) (j := 138) (vs := [.ref r0, .int x3]) (rest := []) rfl (by show xtg 138 (K r0).1 = _; rw [hn_r0]; rfl) rfl ⟨Nat.le_of_ble_eq_true rfl, Nat.le_of_ble_eq_true rfl, Nat.le_of_ble_eq_true rfl⟩ rfl rfl rfl H (fun I1 J2 H => ?_)
    refine Wp.go (x := (.aload_n 0, 1, 0, 0)) rfl 184 [some (.ref r0), some (.int x1), some (.int x2), some (.int x3), some (.int x4), some (.int x5), none, none] [.ref r0] rfl ⟨rfl, rfl, rfl, rfl⟩ ?_
    refine Wp.gR rfl rfl hn_r0 rfl rfl hf3 ?_
    refine Wp.ic (v := nI 0) rfl rfl (by decide) ?_
    obtain ⟨j4, e, b, H⟩ := H
    refine Wp.ald rfl rfl hn_f3 (Or.inl rfl) (hK hn_f3) ⟨j4, e, b, ?_⟩
    refine Wp.go (x := (.iload_n 1, 1, 0, 0)) rfl 190 [some (.ref r0), some (.int x1), some (.int x2), some (.int x3), some (.int x4), some (.int x5), none, none] [.int x1, .int (I1 f3 j4)] rfl ⟨rfl, rfl, rfl, rfl⟩ ?_
    refine Wp.c_gt rfl rfl ⟨fun c => ?_, fun c => ?_⟩
    · have H := H.1 c
      exact Wp.wk (L := [some (.ref r0), some (.int x1), some (.int x2), none, some (.int x4), none, none, none]) ⟨Or.inr rfl, Or.inr rfl, Or.inr rfl, Or.inl rfl, Or.inr rfl, Or.inl rfl, Or.inr rfl, Or.inr rfl, trivial⟩ H
    · have H := H.2 c
      refine Wp.go (x := (.aload_n 0, 1, 0, 0)) rfl 194 [some (.ref r0), some (.int x1), some (.int x2), some (.int x3), some (.int x4), some (.int x5), none, none] [.ref r0] rfl ⟨rfl, rfl, rfl, rfl⟩ ?_
      refine Wp.gR rfl rfl hn_r0 rfl rfl hf5 ?_
      refine Wp.go (x := (.iload_n 1, 1, 0, 0)) rfl 198 [some (.ref r0), some (.int x1), some (.int x2), some (.int x3), some (.int x4), some (.int x5), none, none] [.int x1, .ref f5] rfl ⟨rfl, rfl, rfl, rfl⟩ ?_
      obtain ⟨j6, e, b, H⟩ := H
      refine Wp.ald rfl rfl hn_f5 (Or.inl rfl) (hK hn_f5) ⟨j6, e, b, ?_⟩
      refine Wp.go (x := (.aload_n 0, 1, 0, 0)) rfl 200 [some (.ref r0), some (.int x1), some (.int x2), some (.int x3), some (.int x4), some (.int x5), none, none] [.ref r0, .int (I1 f5 j6)] rfl ⟨rfl, rfl, rfl, rfl⟩ ?_
      refine Wp.gR rfl rfl hn_r0 rfl rfl hf5 ?_
      refine Wp.go (x := (.iload_n 1, 1, 0, 0)) rfl 204 [some (.ref r0), some (.int x1), some (.int x2), some (.int x3), some (.int x4), some (.int x5), none, none] [.int x1, .ref f5, .int (I1 f5 j6)] rfl ⟨rfl, rfl, rfl, rfl⟩ ?_
      refine Wp.go (x := (.aload_n 0, 1, 0, 0)) rfl 205 [some (.ref r0), some (.int x1), some (.int x2), some (.int x3), some (.int x4), some (.int x5), none, none] [.ref r0, .int x1, .ref f5, .int (I1 f5 j6)] rfl ⟨rfl, rfl, rfl, rfl⟩ ?_
      refine Wp.gR rfl rfl hn_r0 rfl rfl hf3 ?_
      refine Wp.ic (v := nI 0) rfl rfl (by decide) ?_
      obtain ⟨j7, e, b, H⟩ := H
      refine Wp.ald rfl rfl hn_f3 (Or.inl rfl) (hK hn_f3) ⟨j7, e, b, ?_⟩
      refine Wp.go (x := (.isub, 1, 0, 0)) rfl 211 [some (.ref r0), some (.int x1), some (.int x2), some (.int x3), some (.int x4), some (.int x5), none, none] [.int (x1 - (I1 f3 j7)), .ref f5, .int (I1 f5 j6)] rfl ⟨rfl, rfl, rfl, rfl⟩ ?_
      obtain ⟨j8, e, b, H⟩ := H
      refine Wp.ald rfl rfl hn_f5 (Or.inl rfl) (hK hn_f5) ⟨j8, e, b, ?_⟩
      refine Wp.c_ne rfl rfl ⟨fun c => ?_, fun c => ?_⟩
      · have H := H.1 c
        exact Wp.wk (L := [some (.ref r0), some (.int x1), some (.int x2), none, some (.int x4), none, none, none]) ⟨Or.inr rfl, Or.inr rfl, Or.inr rfl, Or.inl rfl, Or.inr rfl, Or.inl rfl, Or.inr rfl, Or.inr rfl, trivial⟩ H
      · have H := H.2 c
        refine Wp.go (x := (.aload_n 0, 1, 0, 0)) rfl 216 [some (.ref r0), some (.int x1), some (.int x2), some (.int x3), some (.int x4), some (.int x5), none, none] [.ref r0] rfl ⟨rfl, rfl, rfl, rfl⟩ ?_
        refine Wp.go (x := (.iload_n 1, 1, 0, 0)) rfl 217 [some (.ref r0), some (.int x1), some (.int x2), some (.int x3), some (.int x4), some (.int x5), none, none] [.int x1, .ref r0] rfl ⟨rfl, rfl, rfl, rfl⟩ ?_
        refine Wp.ic (v := nI 1) rfl rfl (by decide) ?_
        refine Wp.go (x := (.iadd, 1, 0, 0)) rfl 219 [some (.ref r0), some (.int x1), some (.int x2), some (.int x3), some (.int x4), some (.int x5), none, none] [.int (x1 + (nI 1)), .ref r0] rfl ⟨rfl, rfl, rfl, rfl⟩ ?_
        refine Wp.go (x := (.iload 4, 2, 0, 0)) rfl 221 [some (.ref r0), some (.int x1), some (.int x2), some (.int x3), some (.int x4), some (.int x5), none, none] [.int x4, .int (x1 + (nI 1)), .ref r0] rfl ⟨rfl, rfl, rfl, rfl⟩ ?_
        refine Wp.go (x := (.aload_n 0, 1, 0, 0)) rfl 222 [some (.ref r0), some (.int x1), some (.int x2), some (.int x3), some (.int x4), some (.int x5), none, none] [.ref r0, .int x4, .int (x1 + (nI 1)), .ref r0] rfl ⟨rfl, rfl, rfl, rfl⟩ ?_
        refine Wp.bp (v := nI 6) rfl rfl (by decide) ?_
        refine Wp.ic (v := nI 1) rfl rfl (by decide) ?_
        refine Wp.go (x := (.aload_n 0, 1, 0, 0)) rfl 226 [some (.ref r0), some (.int x1), some (.int x2), some (.int x3), some (.int x4), some (.int x5), none, none] [.ref r0, .int (nI 1), .int (nI 6), .ref r0, .int x4, .int (x1 + (nI 1)), .ref r0] rfl ⟨rfl, rfl, rfl, rfl⟩ ?_
        refine Wp.gR rfl rfl hn_r0 rfl rfl hf3 ?_
        refine Wp.ic (v := nI 0) rfl rfl (by decide) ?_
        obtain ⟨j9, e, b, H⟩ := H
        refine Wp.ald rfl rfl hn_f3 (Or.inl rfl) (hK hn_f3) ⟨j9, e, b, ?_⟩
        refine Wp.ic (v := nI 0) rfl rfl (by decide) ?_
        refine Wp.ic (v := nI 0) rfl rfl (by decide) ?_
        refine Wp.kI (x := (.invokevirtual 189, 3, 119, 6)) (j := 119) (vs := [.ref r0, .int (nI 6), .int (nI 1), .int (I1 f3 j9), .int (nI 0), .int (nI 0)]) (rest := [.int x4, .int (x1 + (nI 1)), .ref r0]) rfl (by show xtg 119 (K r0).1 = _; rw [hn_r0]; rfl) rfl ⟨Nat.le_of_ble_eq_true rfl, Nat.le_of_ble_eq_true rfl, Nat.le_of_ble_eq_true rfl⟩ rfl rfl rfl H (fun v10 I11 J12 H => ?_)
        refine Wp.go (x := (.iadd, 1, 0, 0)) rfl 237 [some (.ref r0), some (.int x1), some (.int x2), some (.int x3), some (.int x4), some (.int x5), none, none] [.int (x4 + v10), .int (x1 + (nI 1)), .ref r0] rfl ⟨rfl, rfl, rfl, rfl⟩ ?_
        refine Wp.go (x := (.iload_n 1, 1, 0, 0)) rfl 238 [some (.ref r0), some (.int x1), some (.int x2), some (.int x3), some (.int x4), some (.int x5), none, none] [.int x1, .int (x4 + v10), .int (x1 + (nI 1)), .ref r0] rfl ⟨rfl, rfl, rfl, rfl⟩ ?_
        refine Wp.go (x := (.iload_n 2, 1, 0, 0)) rfl 239 [some (.ref r0), some (.int x1), some (.int x2), some (.int x3), some (.int x4), some (.int x5), none, none] [.int x2, .int x1, .int (x4 + v10), .int (x1 + (nI 1)), .ref r0] rfl ⟨rfl, rfl, rfl, rfl⟩ ?_
        refine Wp.bp (v := nI 6) rfl rfl (by decide) ?_
        refine Wp.kV (x := (.invokevirtual 266, 3, 137, 6)) (j := 137) (vs := [.ref r0, .int (x1 + (nI 1)), .int (x4 + v10), .int x1, .int x2, .int (nI 6)]) (rest := []) rfl (by show xtg 137 (K r0).1 = _; rw [hn_r0]; rfl) rfl ⟨Nat.le_of_ble_eq_true rfl, Nat.le_of_ble_eq_true rfl, Nat.le_of_ble_eq_true rfl⟩ rfl rfl rfl H (fun I13 J14 H => ?_)
        exact Wp.wk (L := [some (.ref r0), some (.int x1), some (.int x2), none, some (.int x4), none, none, none]) ⟨Or.inr rfl, Or.inr rfl, Or.inr rfl, Or.inl rfl, Or.inr rfl, Or.inl rfl, Or.inr rfl, Or.inr rfl, trivial⟩ H
  · have H := H.2 c
    refine Wp.go (x := (.aload_n 0, 1, 0, 0)) rfl 99 [some (.ref r0), some (.int x1), some (.int x2), some (.int x3), some (.int x4), some (.int x5), none, none] [.ref r0] rfl ⟨rfl, rfl, rfl, rfl⟩ ?_
    refine Wp.go (x := (.iload_n 3, 1, 0, 0)) rfl 100 [some (.ref r0), some (.int x1), some (.int x2), some (.int x3), some (.int x4), some (.int x5), none, none] [.int x3, .ref r0] rfl ⟨rfl, rfl, rfl, rfl⟩ ?_
    refine Wp.kV (x := (.invokevirtual 263, 3, 138, 2)) (j := 138) (vs := [.ref r0, .int x3]) (rest := []) rfl (by show xtg 138 (K r0).1 = _; rw [hn_r0]; rfl) rfl ⟨Nat.le_of_ble_eq_true rfl, Nat.le_of_ble_eq_true rfl, Nat.le_of_ble_eq_true rfl⟩ rfl rfl rfl H (fun I15 J16 H => ?_)
    refine Wp.go (x := (.aload_n 0, 1, 0, 0)) rfl 104 [some (.ref r0), some (.int x1), some (.int x2), some (.int x3), some (.int x4), some (.int x5), none, none] [.ref r0] rfl ⟨rfl, rfl, rfl, rfl⟩ ?_
    refine Wp.gR rfl rfl hn_r0 rfl rfl hf3 ?_
    refine Wp.go (x := (.iload 5, 2, 0, 0)) rfl 109 [some (.ref r0), some (.int x1), some (.int x2), some (.int x3), some (.int x4), some (.int x5), none, none] [.int x5, .ref f3] rfl ⟨rfl, rfl, rfl, rfl⟩ ?_
    obtain ⟨j17, e, b, H⟩ := H
    refine Wp.ald rfl rfl hn_f3 (Or.inl rfl) (hK hn_f3) ⟨j17, e, b, ?_⟩
    refine Wp.go (x := (.istore 6, 2, 0, 0)) rfl 112 [some (.ref r0), some (.int x1), some (.int x2), some (.int x3), some (.int x4), some (.int x5), some (.int (I15 f3 j17)), none] [] rfl ⟨rfl, rfl, rfl, rfl⟩ ?_
    refine Wp.go (x := (.aload_n 0, 1, 0, 0)) rfl 113 [some (.ref r0), some (.int x1), some (.int x2), some (.int x3), some (.int x4), some (.int x5), some (.int (I15 f3 j17)), none] [.ref r0] rfl ⟨rfl, rfl, rfl, rfl⟩ ?_
    refine Wp.go (x := (.iload 6, 2, 0, 0)) rfl 115 [some (.ref r0), some (.int x1), some (.int x2), some (.int x3), some (.int x4), some (.int x5), some (.int (I15 f3 j17)), none] [.int (I15 f3 j17), .ref r0] rfl ⟨rfl, rfl, rfl, rfl⟩ ?_
    refine Wp.go (x := (.iload 5, 2, 0, 0)) rfl 117 [some (.ref r0), some (.int x1), some (.int x2), some (.int x3), some (.int x4), some (.int x5), some (.int (I15 f3 j17)), none] [.int x5, .int (I15 f3 j17), .ref r0] rfl ⟨rfl, rfl, rfl, rfl⟩ ?_
    refine Wp.kV (x := (.invokevirtual 212, 3, 122, 3)) (j := 122) (vs := [.ref r0, .int (I15 f3 j17), .int x5]) (rest := []) rfl (by show xtg 122 (K r0).1 = _; rw [hn_r0]; rfl) rfl ⟨Nat.le_of_ble_eq_true rfl, Nat.le_of_ble_eq_true rfl, Nat.le_of_ble_eq_true rfl⟩ rfl rfl rfl H (fun I18 J19 H => ?_)
    refine Wp.go (x := (.aload_n 0, 1, 0, 0)) rfl 121 [some (.ref r0), some (.int x1), some (.int x2), some (.int x3), some (.int x4), some (.int x5), some (.int (I15 f3 j17)), none] [.ref r0] rfl ⟨rfl, rfl, rfl, rfl⟩ ?_
    refine Wp.go (x := (.iload_n 1, 1, 0, 0)) rfl 122 [some (.ref r0), some (.int x1), some (.int x2), some (.int x3), some (.int x4), some (.int x5), some (.int (I15 f3 j17)), none] [.int x1, .ref r0] rfl ⟨rfl, rfl, rfl, rfl⟩ ?_
    refine Wp.go (x := (.iload 6, 2, 0, 0)) rfl 124 [some (.ref r0), some (.int x1), some (.int x2), some (.int x3), some (.int x4), some (.int x5), some (.int (I15 f3 j17)), none] [.int (I15 f3 j17), .int x1, .ref r0] rfl ⟨rfl, rfl, rfl, rfl⟩ ?_
    refine Wp.kI (x := (.invokevirtual 199, 3, 109, 3)) (j := 109) (vs := [.ref r0, .int x1, .int (I15 f3 j17)]) (rest := []) rfl (by show xtg 109 (K r0).1 = _; rw [hn_r0]; rfl) rfl ⟨Nat.le_of_ble_eq_true rfl, Nat.le_of_ble_eq_true rfl, Nat.le_of_ble_eq_true rfl⟩ rfl rfl rfl H (fun v20 I21 J22 H => ?_)
    refine Wp.go (x := (.istore 7, 2, 0, 0)) rfl 129 [some (.ref r0), some (.int x1), some (.int x2), some (.int x3), some (.int x4), some (.int x5), some (.int (I15 f3 j17)), some (.int v20)] [] rfl ⟨rfl, rfl, rfl, rfl⟩ ?_
    exact H
set_option maxRecDepth 20000 in
theorem wX11_expand_129 {d : Nat} {Q : Option Value × xS → Prop} {K : Nat → Nat × Nat} {P : List Nat × Nat × Nat} {I : Nat → Nat → Int32} {J : Nat → Nat → Int64} {F : Nat → Nat → Option Nat} {r0 : Nat} {x1 : Int32} {x2 : Int32} {x3 : Int32} {x4 : Int32} {x5 : Int32} {x6 : Int32} {x7 : Int32} {n_r0 : Nat} (hn_r0 : K r0 = (10, n_r0)) (H : ((x7 < (nI 2) → Wp (d + 1) 139 92 [some (.ref r0), some (.int x1), some (.int x2), some (.int x3), some (.int x4), some (.int (x5 + nI 1)), none, none] [] (K, P, I, J, F) Q) ∧ (¬ x7 < (nI 2) → Wp d 119 0 [some (.ref r0), some (.int ((nI 2) + x5)), some (.int x7), some (.int x6), some (.int (nI 0)), some (.int (nI 0))] [] (K, P, I, J, F) (xrI K P F (fun v1 I2 J3 => Wp d 137 0 [some (.ref r0), some (.int (x1 + x7)), some (.int (x4 + v1)), some (.int x1), some (.int x2), some (.int ((nI 2) + x5)), none, none, none, none] [] (K, P, I2, J3, F) (xrV K P F (fun I4 J5 => Wp (d + 1) 139 129 [some (.ref r0), some (.int x1), some (.int x2), some (.int x3), some (.int x4), some (.int x5), some (.int x6), some (.int (x7 + (-1)))] [] (K, P, I4, J5, F) Q))))))) : Wp (d + 1) 139 129 [some (.ref r0), some (.int x1), some (.int x2), some (.int x3), some (.int x4), some (.int x5), some (.int x6), some (.int x7)] [] (K, P, I, J, F) Q := by
  refine Wp.go (x := (.iload 7, 2, 0, 0)) rfl 131 [some (.ref r0), some (.int x1), some (.int x2), some (.int x3), some (.int x4), some (.int x5), some (.int x6), some (.int x7)] [.int x7] rfl ⟨rfl, rfl, rfl, rfl⟩ ?_
  refine Wp.ic (v := nI 2) rfl rfl (by decide) ?_
  refine Wp.c_lt rfl rfl ⟨fun c => ?_, fun c => ?_⟩
  · have H := H.1 c
    refine Wp.ii (v := nI 1) rfl rfl (by decide) rfl (L' := [some (.ref r0), some (.int x1), some (.int x2), some (.int x3), some (.int x4), some (.int (x5 + nI 1)), some (.int x6), some (.int x7)]) rfl ?_
    refine Wp.go (x := (.goto (-83), 3, 92, 0)) rfl 92 [some (.ref r0), some (.int x1), some (.int x2), some (.int x3), some (.int x4), some (.int (x5 + nI 1)), some (.int x6), some (.int x7)] [] rfl ⟨rfl, rfl, rfl, rfl⟩ ?_
    exact Wp.wk (L := [some (.ref r0), some (.int x1), some (.int x2), some (.int x3), some (.int x4), some (.int (x5 + nI 1)), none, none]) ⟨Or.inr rfl, Or.inr rfl, Or.inr rfl, Or.inr rfl, Or.inr rfl, Or.inr rfl, Or.inl rfl, Or.inl rfl, trivial⟩ H
  · have H := H.2 c
    refine Wp.go (x := (.aload_n 0, 1, 0, 0)) rfl 136 [some (.ref r0), some (.int x1), some (.int x2), some (.int x3), some (.int x4), some (.int x5), some (.int x6), some (.int x7)] [.ref r0] rfl ⟨rfl, rfl, rfl, rfl⟩ ?_
    refine Wp.go (x := (.iload_n 1, 1, 0, 0)) rfl 137 [some (.ref r0), some (.int x1), some (.int x2), some (.int x3), some (.int x4), some (.int x5), some (.int x6), some (.int x7)] [.int x1, .ref r0] rfl ⟨rfl, rfl, rfl, rfl⟩ ?_
    refine Wp.go (x := (.iload 7, 2, 0, 0)) rfl 139 [some (.ref r0), some (.int x1), some (.int x2), some (.int x3), some (.int x4), some (.int x5), some (.int x6), some (.int x7)] [.int x7, .int x1, .ref r0] rfl ⟨rfl, rfl, rfl, rfl⟩ ?_
    refine Wp.go (x := (.iadd, 1, 0, 0)) rfl 140 [some (.ref r0), some (.int x1), some (.int x2), some (.int x3), some (.int x4), some (.int x5), some (.int x6), some (.int x7)] [.int (x1 + x7), .ref r0] rfl ⟨rfl, rfl, rfl, rfl⟩ ?_
    refine Wp.go (x := (.iload 4, 2, 0, 0)) rfl 142 [some (.ref r0), some (.int x1), some (.int x2), some (.int x3), some (.int x4), some (.int x5), some (.int x6), some (.int x7)] [.int x4, .int (x1 + x7), .ref r0] rfl ⟨rfl, rfl, rfl, rfl⟩ ?_
    refine Wp.go (x := (.aload_n 0, 1, 0, 0)) rfl 143 [some (.ref r0), some (.int x1), some (.int x2), some (.int x3), some (.int x4), some (.int x5), some (.int x6), some (.int x7)] [.ref r0, .int x4, .int (x1 + x7), .ref r0] rfl ⟨rfl, rfl, rfl, rfl⟩ ?_
    refine Wp.ic (v := nI 2) rfl rfl (by decide) ?_
    refine Wp.go (x := (.iload 5, 2, 0, 0)) rfl 146 [some (.ref r0), some (.int x1), some (.int x2), some (.int x3), some (.int x4), some (.int x5), some (.int x6), some (.int x7)] [.int x5, .int (nI 2), .ref r0, .int x4, .int (x1 + x7), .ref r0] rfl ⟨rfl, rfl, rfl, rfl⟩ ?_
    refine Wp.go (x := (.iadd, 1, 0, 0)) rfl 147 [some (.ref r0), some (.int x1), some (.int x2), some (.int x3), some (.int x4), some (.int x5), some (.int x6), some (.int x7)] [.int ((nI 2) + x5), .ref r0, .int x4, .int (x1 + x7), .ref r0] rfl ⟨rfl, rfl, rfl, rfl⟩ ?_
    refine Wp.go (x := (.iload 7, 2, 0, 0)) rfl 149 [some (.ref r0), some (.int x1), some (.int x2), some (.int x3), some (.int x4), some (.int x5), some (.int x6), some (.int x7)] [.int x7, .int ((nI 2) + x5), .ref r0, .int x4, .int (x1 + x7), .ref r0] rfl ⟨rfl, rfl, rfl, rfl⟩ ?_
    refine Wp.go (x := (.iload 6, 2, 0, 0)) rfl 151 [some (.ref r0), some (.int x1), some (.int x2), some (.int x3), some (.int x4), some (.int x5), some (.int x6), some (.int x7)] [.int x6, .int x7, .int ((nI 2) + x5), .ref r0, .int x4, .int (x1 + x7), .ref r0] rfl ⟨rfl, rfl, rfl, rfl⟩ ?_
    refine Wp.ic (v := nI 0) rfl rfl (by decide) ?_
    refine Wp.ic (v := nI 0) rfl rfl (by decide) ?_
    refine Wp.kI (x := (.invokevirtual 189, 3, 119, 6)) (j := 119) (vs := [.ref r0, .int ((nI 2) + x5), .int x7, .int x6, .int (nI 0), .int (nI 0)]) (rest := [.int x4, .int (x1 + x7), .ref r0]) rfl (by show xtg 119 (K r0).1 = _; rw [hn_r0]; rfl) rfl ⟨Nat.le_of_ble_eq_true rfl, Nat.le_of_ble_eq_true rfl, Nat.le_of_ble_eq_true rfl⟩ rfl rfl rfl H (fun v1 I2 J3 H => ?_)
    refine Wp.go (x := (.iadd, 1, 0, 0)) rfl 157 [some (.ref r0), some (.int x1), some (.int x2), some (.int x3), some (.int x4), some (.int x5), some (.int x6), some (.int x7)] [.int (x4 + v1), .int (x1 + x7), .ref r0] rfl ⟨rfl, rfl, rfl, rfl⟩ ?_
    refine Wp.go (x := (.iload_n 1, 1, 0, 0)) rfl 158 [some (.ref r0), some (.int x1), some (.int x2), some (.int x3), some (.int x4), some (.int x5), some (.int x6), some (.int x7)] [.int x1, .int (x4 + v1), .int (x1 + x7), .ref r0] rfl ⟨rfl, rfl, rfl, rfl⟩ ?_
    refine Wp.go (x := (.iload_n 2, 1, 0, 0)) rfl 159 [some (.ref r0), some (.int x1), some (.int x2), some (.int x3), some (.int x4), some (.int x5), some (.int x6), some (.int x7)] [.int x2, .int x1, .int (x4 + v1), .int (x1 + x7), .ref r0] rfl ⟨rfl, rfl, rfl, rfl⟩ ?_
    refine Wp.ic (v := nI 2) rfl rfl (by decide) ?_
    refine Wp.go (x := (.iload 5, 2, 0, 0)) rfl 162 [some (.ref r0), some (.int x1), some (.int x2), some (.int x3), some (.int x4), some (.int x5), some (.int x6), some (.int x7)] [.int x5, .int (nI 2), .int x2, .int x1, .int (x4 + v1), .int (x1 + x7), .ref r0] rfl ⟨rfl, rfl, rfl, rfl⟩ ?_
    refine Wp.go (x := (.iadd, 1, 0, 0)) rfl 163 [some (.ref r0), some (.int x1), some (.int x2), some (.int x3), some (.int x4), some (.int x5), some (.int x6), some (.int x7)] [.int ((nI 2) + x5), .int x2, .int x1, .int (x4 + v1), .int (x1 + x7), .ref r0] rfl ⟨rfl, rfl, rfl, rfl⟩ ?_
    refine Wp.kV (x := (.invokevirtual 266, 3, 137, 6)) (j := 137) (vs := [.ref r0, .int (x1 + x7), .int (x4 + v1), .int x1, .int x2, .int ((nI 2) + x5)]) (rest := []) rfl (by show xtg 137 (K r0).1 = _; rw [hn_r0]; rfl) rfl ⟨Nat.le_of_ble_eq_true rfl, Nat.le_of_ble_eq_true rfl, Nat.le_of_ble_eq_true rfl⟩ rfl rfl rfl H (fun I4 J5 H => ?_)
    refine Wp.ii (v := (-1)) rfl rfl (by decide) rfl (L' := [some (.ref r0), some (.int x1), some (.int x2), some (.int x3), some (.int x4), some (.int x5), some (.int x6), some (.int (x7 + (-1)))]) rfl ?_
    refine Wp.go (x := (.goto (-40), 3, 129, 0)) rfl 129 [some (.ref r0), some (.int x1), some (.int x2), some (.int x3), some (.int x4), some (.int x5), some (.int x6), some (.int (x7 + (-1)))] [] rfl ⟨rfl, rfl, rfl, rfl⟩ ?_
    exact H
set_option maxRecDepth 20000 in
theorem wX11_expand_244 {d : Nat} {Q : Option Value × xS → Prop} {K : Nat → Nat × Nat} {P : List Nat × Nat × Nat} {I : Nat → Nat → Int32} {J : Nat → Nat → Int64} {F : Nat → Nat → Option Nat} {r0 : Nat} {x1 : Int32} {x2 : Int32} {x4 : Int32} {n_r0 : Nat} {f1 : Nat} {n_f1 : Nat} (hK : ∀ {a k n : Nat}, K a = (k, n) → n < 2147483648) (hn_r0 : K r0 = (10, n_r0)) (hf1 : F r0 2 = some f1) (hn_f1 : K f1 = (100, n_f1)) (H : (∃ j2 : Nat, x1 = nI j2 ∧ j2 < n_f1 ∧ Wp d 119 0 [some (.ref r0), some (.int (nI 0)), some (.int (nI 1)), some (.int (nI 0)), some (.int (I f1 j2)), some (.int (nI 0))] [] (K, P, I, J, F) (xrI K P F (fun v3 I4 J5 => Wp d 137 0 [some (.ref r0), some (.int (x1 + (nI 1))), some (.int (x4 + v3)), some (.int x1), some (.int x2), some (.int (nI 0)), none, none, none, none] [] (K, P, I4, J5, F) (xrV K P F (fun I6 J7 => Q (none, (K, P, I6, J7, F)))))))) : Wp (d + 1) 139 244 [some (.ref r0), some (.int x1), some (.int x2), none, some (.int x4), none, none, none] [] (K, P, I, J, F) Q := by
  refine Wp.go (x := (.aload_n 0, 1, 0, 0)) rfl 245 [some (.ref r0), some (.int x1), some (.int x2), none, some (.int x4), none, none, none] [.ref r0] rfl ⟨rfl, rfl, rfl, rfl⟩ ?_
  refine Wp.go (x := (.iload_n 1, 1, 0, 0)) rfl 246 [some (.ref r0), some (.int x1), some (.int x2), none, some (.int x4), none, none, none] [.int x1, .ref r0] rfl ⟨rfl, rfl, rfl, rfl⟩ ?_
  refine Wp.ic (v := nI 1) rfl rfl (by decide) ?_
  refine Wp.go (x := (.iadd, 1, 0, 0)) rfl 248 [some (.ref r0), some (.int x1), some (.int x2), none, some (.int x4), none, none, none] [.int (x1 + (nI 1)), .ref r0] rfl ⟨rfl, rfl, rfl, rfl⟩ ?_
  refine Wp.go (x := (.iload 4, 2, 0, 0)) rfl 250 [some (.ref r0), some (.int x1), some (.int x2), none, some (.int x4), none, none, none] [.int x4, .int (x1 + (nI 1)), .ref r0] rfl ⟨rfl, rfl, rfl, rfl⟩ ?_
  refine Wp.go (x := (.aload_n 0, 1, 0, 0)) rfl 251 [some (.ref r0), some (.int x1), some (.int x2), none, some (.int x4), none, none, none] [.ref r0, .int x4, .int (x1 + (nI 1)), .ref r0] rfl ⟨rfl, rfl, rfl, rfl⟩ ?_
  refine Wp.ic (v := nI 0) rfl rfl (by decide) ?_
  refine Wp.ic (v := nI 1) rfl rfl (by decide) ?_
  refine Wp.ic (v := nI 0) rfl rfl (by decide) ?_
  refine Wp.go (x := (.aload_n 0, 1, 0, 0)) rfl 255 [some (.ref r0), some (.int x1), some (.int x2), none, some (.int x4), none, none, none] [.ref r0, .int (nI 0), .int (nI 1), .int (nI 0), .ref r0, .int x4, .int (x1 + (nI 1)), .ref r0] rfl ⟨rfl, rfl, rfl, rfl⟩ ?_
  refine Wp.gR rfl rfl hn_r0 rfl rfl hf1 ?_
  refine Wp.go (x := (.iload_n 1, 1, 0, 0)) rfl 259 [some (.ref r0), some (.int x1), some (.int x2), none, some (.int x4), none, none, none] [.int x1, .ref f1, .int (nI 0), .int (nI 1), .int (nI 0), .ref r0, .int x4, .int (x1 + (nI 1)), .ref r0] rfl ⟨rfl, rfl, rfl, rfl⟩ ?_
  obtain ⟨j2, e, b, H⟩ := H
  refine Wp.ald rfl rfl hn_f1 (Or.inl rfl) (hK hn_f1) ⟨j2, e, b, ?_⟩
  refine Wp.ic (v := nI 0) rfl rfl (by decide) ?_
  refine Wp.kI (x := (.invokevirtual 189, 3, 119, 6)) (j := 119) (vs := [.ref r0, .int (nI 0), .int (nI 1), .int (nI 0), .int (I f1 j2), .int (nI 0)]) (rest := [.int x4, .int (x1 + (nI 1)), .ref r0]) rfl (by show xtg 119 (K r0).1 = _; rw [hn_r0]; rfl) rfl ⟨Nat.le_of_ble_eq_true rfl, Nat.le_of_ble_eq_true rfl, Nat.le_of_ble_eq_true rfl⟩ rfl rfl rfl H (fun v3 I4 J5 H => ?_)
  refine Wp.go (x := (.iadd, 1, 0, 0)) rfl 265 [some (.ref r0), some (.int x1), some (.int x2), none, some (.int x4), none, none, none] [.int (x4 + v3), .int (x1 + (nI 1)), .ref r0] rfl ⟨rfl, rfl, rfl, rfl⟩ ?_
  refine Wp.go (x := (.iload_n 1, 1, 0, 0)) rfl 266 [some (.ref r0), some (.int x1), some (.int x2), none, some (.int x4), none, none, none] [.int x1, .int (x4 + v3), .int (x1 + (nI 1)), .ref r0] rfl ⟨rfl, rfl, rfl, rfl⟩ ?_
  refine Wp.go (x := (.iload_n 2, 1, 0, 0)) rfl 267 [some (.ref r0), some (.int x1), some (.int x2), none, some (.int x4), none, none, none] [.int x2, .int x1, .int (x4 + v3), .int (x1 + (nI 1)), .ref r0] rfl ⟨rfl, rfl, rfl, rfl⟩ ?_
  refine Wp.ic (v := nI 0) rfl rfl (by decide) ?_
  refine Wp.kV (x := (.invokevirtual 266, 3, 137, 6)) (j := 137) (vs := [.ref r0, .int (x1 + (nI 1)), .int (x4 + v3), .int x1, .int x2, .int (nI 0)]) (rest := []) rfl (by show xtg 137 (K r0).1 = _; rw [hn_r0]; rfl) rfl ⟨Nat.le_of_ble_eq_true rfl, Nat.le_of_ble_eq_true rfl, Nat.le_of_ble_eq_true rfl⟩ rfl rfl rfl H (fun I6 J7 H => ?_)
  exact Wp.rV rfl rfl H
set_option maxRecDepth 20000 in
theorem wX11_bestWide_0 {d : Nat} {Q : Option Value × xS → Prop} {K : Nat → Nat × Nat} {P : List Nat × Nat × Nat} {I : Nat → Nat → Int32} {J : Nat → Nat → Int64} {F : Nat → Nat → Option Nat} {r0 : Nat}  (H : Wp d 140 2 [some (.ref r0), some (.int (nI 0)), none, none, none, none, none] [] (K, P, I, J, F) Q) : Wp d 140 0 [some (.ref r0), none, none, none, none, none, none] [] (K, P, I, J, F) Q := by
  refine Wp.ic (v := nI 0) rfl rfl (by decide) ?_
  refine Wp.go (x := (.istore_n 1, 1, 0, 0)) rfl 2 [some (.ref r0), some (.int (nI 0)), none, none, none, none, none] [] rfl ⟨rfl, rfl, rfl, rfl⟩ ?_
  exact H
set_option maxRecDepth 20000 in
theorem wX11_bestWide_2 {d : Nat} {Q : Option Value × xS → Prop} {K : Nat → Nat × Nat} {P : List Nat × Nat × Nat} {I : Nat → Nat → Int32} {J : Nat → Nat → Int64} {F : Nat → Nat → Option Nat} {r0 : Nat} {x1 : Int32} {n_r0 : Nat} {f5 : Nat} {n_f5 : Nat} {f7 : Nat} {n_f7 : Nat} (hK : ∀ {a k n : Nat}, K a = (k, n) → n < 2147483648) (hn_r0 : K r0 = (10, n_r0)) (hf5 : F r0 32 = some f5) (hn_f5 : K f5 = (100, n_f5)) (hf7 : F r0 33 = some f7) (hn_f7 : K f7 = (102, n_f7)) (H : (((I r0 3) < x1 → Wp d 121 0 [some (.ref r0), none] [] (K, P, I, J, F) (xrV K P F (fun I1 J2 => Wp d 137 0 [some (.ref r0), some (.int (nI 0)), some (.int (nI 0)), some (.int (nI 0)), some (.int (nI 0)), some (.int (nI 0)), none, none, none, none] [] (K, P, I1, J2, F) (xrV K P F (fun I3 J4 => Wp (d + 1) 140 45 [some (.ref r0), some (.int (nI 0)), none, none, none, none, none] [] (K, P, I3, J4, F) Q))))) ∧ (¬ (I r0 3) < x1 → (∃ j6 : Nat, x1 = nI j6 ∧ j6 < n_f5 ∧ (∃ j8 : Nat, x1 = nI j8 ∧ j8 < n_f7 ∧ Wp (d + 1) 140 2 [some (.ref r0), some (.int (x1 + nI 1)), none, none, none, none, none] [] (K, P, (xup ((xup I f5 j6 (nI 0))) f7 j8 (nI 0)), J, F) Q))))) : Wp (d + 1) 140 2 [some (.ref r0), some (.int x1), none, none, none, none, none] [] (K, P, I, J, F) Q := by
  refine Wp.go (x := (.iload_n 1, 1, 0, 0)) rfl 3 [some (.ref r0), some (.int x1), none, none, none, none, none] [.int x1] rfl ⟨rfl, rfl, rfl, rfl⟩ ?_
  refine Wp.go (x := (.aload_n 0, 1, 0, 0)) rfl 4 [some (.ref r0), some (.int x1), none, none, none, none, none] [.ref r0, .int x1] rfl ⟨rfl, rfl, rfl, rfl⟩ ?_
  refine Wp.gI rfl rfl hn_r0 rfl ⟨by decide, by decide⟩ ?_
  refine Wp.c_gt rfl rfl ⟨fun c => ?_, fun c => ?_⟩
  · have H := H.1 c
    refine Wp.go (x := (.aload_n 0, 1, 0, 0)) rfl 31 [some (.ref r0), some (.int x1), none, none, none, none, none] [.ref r0] rfl ⟨rfl, rfl, rfl, rfl⟩ ?_
    refine Wp.kV (x := (.invokevirtual 202, 3, 121, 1)) (j := 121) (vs := [.ref r0]) (rest := []) rfl (by show xtg 121 (K r0).1 = _; rw [hn_r0]; rfl) rfl ⟨Nat.le_of_ble_eq_true rfl, Nat.le_of_ble_eq_true rfl, Nat.le_of_ble_eq_true rfl⟩ rfl rfl rfl H (fun I1 J2 H => ?_)
    refine Wp.go (x := (.aload_n 0, 1, 0, 0)) rfl 35 [some (.ref r0), some (.int x1), none, none, none, none, none] [.ref r0] rfl ⟨rfl, rfl, rfl, rfl⟩ ?_
    refine Wp.ic (v := nI 0) rfl rfl (by decide) ?_
    refine Wp.ic (v := nI 0) rfl rfl (by decide) ?_
    refine Wp.ic (v := nI 0) rfl rfl (by decide) ?_
    refine Wp.ic (v := nI 0) rfl rfl (by decide) ?_
    refine Wp.ic (v := nI 0) rfl rfl (by decide) ?_
    refine Wp.kV (x := (.invokevirtual 266, 3, 137, 6)) (j := 137) (vs := [.ref r0, .int (nI 0), .int (nI 0), .int (nI 0), .int (nI 0), .int (nI 0)]) (rest := []) rfl (by show xtg 137 (K r0).1 = _; rw [hn_r0]; rfl) rfl ⟨Nat.le_of_ble_eq_true rfl, Nat.le_of_ble_eq_true rfl, Nat.le_of_ble_eq_true rfl⟩ rfl rfl rfl H (fun I3 J4 H => ?_)
    refine Wp.ic (v := nI 0) rfl rfl (by decide) ?_
    refine Wp.go (x := (.istore_n 1, 1, 0, 0)) rfl 45 [some (.ref r0), some (.int (nI 0)), none, none, none, none, none] [] rfl ⟨rfl, rfl, rfl, rfl⟩ ?_
    exact H
  · have H := H.2 c
    refine Wp.go (x := (.aload_n 0, 1, 0, 0)) rfl 11 [some (.ref r0), some (.int x1), none, none, none, none, none] [.ref r0] rfl ⟨rfl, rfl, rfl, rfl⟩ ?_
    refine Wp.gR rfl rfl hn_r0 rfl rfl hf5 ?_
    refine Wp.go (x := (.iload_n 1, 1, 0, 0)) rfl 15 [some (.ref r0), some (.int x1), none, none, none, none, none] [.int x1, .ref f5] rfl ⟨rfl, rfl, rfl, rfl⟩ ?_
    refine Wp.ic (v := nI 0) rfl rfl (by decide) ?_
    obtain ⟨j6, e, b, H⟩ := H
    refine Wp.ast rfl rfl hn_f5 (hK hn_f5) ⟨j6, e, b, ?_⟩
    refine Wp.go (x := (.aload_n 0, 1, 0, 0)) rfl 18 [some (.ref r0), some (.int x1), none, none, none, none, none] [.ref r0] rfl ⟨rfl, rfl, rfl, rfl⟩ ?_
    refine Wp.gR rfl rfl hn_r0 rfl rfl hf7 ?_
    refine Wp.go (x := (.iload_n 1, 1, 0, 0)) rfl 22 [some (.ref r0), some (.int x1), none, none, none, none, none] [.int x1, .ref f7] rfl ⟨rfl, rfl, rfl, rfl⟩ ?_
    refine Wp.ic (v := nI 0) rfl rfl (by decide) ?_
    obtain ⟨j8, e, b, H⟩ := H
    refine Wp.bst rfl rfl hn_f7 (hK hn_f7) (Or.inl rfl) ⟨j8, e, b, ?_⟩
    refine Wp.ii (v := nI 1) rfl rfl (by decide) rfl (L' := [some (.ref r0), some (.int (x1 + nI 1)), none, none, none, none, none]) rfl ?_
    refine Wp.go (x := (.goto (-25), 3, 2, 0)) rfl 2 [some (.ref r0), some (.int (x1 + nI 1)), none, none, none, none, none] [] rfl ⟨rfl, rfl, rfl, rfl⟩ ?_
    exact H
set_option maxRecDepth 20000 in
theorem wX11_bestWide_45 {d : Nat} {Q : Option Value × xS → Prop} {K : Nat → Nat × Nat} {P : List Nat × Nat × Nat} {I : Nat → Nat → Int32} {J : Nat → Nat → Int64} {F : Nat → Nat → Option Nat} {r0 : Nat} {x1 : Int32} {n_r0 : Nat} (hn_r0 : K r0 = (10, n_r0)) (H : (((I r0 3) ≤ x1 → Wp d 140 90 [some (.ref r0), some (.int (nI 0)), none, none, none, none, none] [] (K, P, (xup I r0 18 (nI 0)), J, F) Q) ∧ (¬ (I r0 3) ≤ x1 → Wp d 140 55 [some (.ref r0), some (.int x1), some (.int (nI 0)), none, none, none, none] [] (K, P, I, J, F) Q))) : Wp d 140 45 [some (.ref r0), some (.int x1), none, none, none, none, none] [] (K, P, I, J, F) Q := by
  refine Wp.go (x := (.iload_n 1, 1, 0, 0)) rfl 46 [some (.ref r0), some (.int x1), none, none, none, none, none] [.int x1] rfl ⟨rfl, rfl, rfl, rfl⟩ ?_
  refine Wp.go (x := (.aload_n 0, 1, 0, 0)) rfl 47 [some (.ref r0), some (.int x1), none, none, none, none, none] [.ref r0, .int x1] rfl ⟨rfl, rfl, rfl, rfl⟩ ?_
  refine Wp.gI rfl rfl hn_r0 rfl ⟨by decide, by decide⟩ ?_
  refine Wp.c_ge rfl rfl ⟨fun c => ?_, fun c => ?_⟩
  · have H := H.1 c
    refine Wp.go (x := (.aload_n 0, 1, 0, 0)) rfl 84 [some (.ref r0), some (.int x1), none, none, none, none, none] [.ref r0] rfl ⟨rfl, rfl, rfl, rfl⟩ ?_
    refine Wp.ic (v := nI 0) rfl rfl (by decide) ?_
    refine Wp.pI rfl rfl hn_r0 rfl (Or.inl rfl) ?_
    refine Wp.ic (v := nI 0) rfl rfl (by decide) ?_
    refine Wp.go (x := (.istore_n 1, 1, 0, 0)) rfl 90 [some (.ref r0), some (.int (nI 0)), none, none, none, none, none] [] rfl ⟨rfl, rfl, rfl, rfl⟩ ?_
    exact H
  · have H := H.2 c
    refine Wp.ic (v := nI 0) rfl rfl (by decide) ?_
    refine Wp.go (x := (.istore_n 2, 1, 0, 0)) rfl 55 [some (.ref r0), some (.int x1), some (.int (nI 0)), none, none, none, none] [] rfl ⟨rfl, rfl, rfl, rfl⟩ ?_
    exact H
set_option maxRecDepth 20000 in
theorem wX11_bestWide_55 {d : Nat} {Q : Option Value × xS → Prop} {K : Nat → Nat × Nat} {P : List Nat × Nat × Nat} {I : Nat → Nat → Int32} {J : Nat → Nat → Int64} {F : Nat → Nat → Option Nat} {r0 : Nat} {x1 : Int32} {x2 : Int32} {n_r0 : Nat} {f1 : Nat} {n_f1 : Nat} (hK : ∀ {a k n : Nat}, K a = (k, n) → n < 2147483648) (hn_r0 : K r0 = (10, n_r0)) (hf1 : F r0 32 = some f1) (hn_f1 : K f1 = (100, n_f1)) (H : (∃ j2 : Nat, x1 = nI j2 ∧ j2 < n_f1 ∧ (((I f1 j2) ≤ x2 → Wp (d + 1) 140 45 [some (.ref r0), some (.int (x1 + nI 1)), none, none, none, none, none] [] (K, P, I, J, F) Q) ∧ (¬ (I f1 j2) ≤ x2 → Wp d 139 0 [some (.ref r0), some (.int x1), some (.int x2), none, none, none, none, none] [] (K, P, I, J, F) (xrV K P F (fun I3 J4 => Wp (d + 1) 140 55 [some (.ref r0), some (.int x1), some (.int (x2 + nI 1)), none, none, none, none] [] (K, P, I3, J4, F) Q)))))) : Wp (d + 1) 140 55 [some (.ref r0), some (.int x1), some (.int x2), none, none, none, none] [] (K, P, I, J, F) Q := by
  refine Wp.go (x := (.iload_n 2, 1, 0, 0)) rfl 56 [some (.ref r0), some (.int x1), some (.int x2), none, none, none, none] [.int x2] rfl ⟨rfl, rfl, rfl, rfl⟩ ?_
  refine Wp.go (x := (.aload_n 0, 1, 0, 0)) rfl 57 [some (.ref r0), some (.int x1), some (.int x2), none, none, none, none] [.ref r0, .int x2] rfl ⟨rfl, rfl, rfl, rfl⟩ ?_
  refine Wp.gR rfl rfl hn_r0 rfl rfl hf1 ?_
  refine Wp.go (x := (.iload_n 1, 1, 0, 0)) rfl 61 [some (.ref r0), some (.int x1), some (.int x2), none, none, none, none] [.int x1, .ref f1, .int x2] rfl ⟨rfl, rfl, rfl, rfl⟩ ?_
  obtain ⟨j2, e, b, H⟩ := H
  refine Wp.ald rfl rfl hn_f1 (Or.inl rfl) (hK hn_f1) ⟨j2, e, b, ?_⟩
  refine Wp.c_ge rfl rfl ⟨fun c => ?_, fun c => ?_⟩
  · have H := H.1 c
    refine Wp.ii (v := nI 1) rfl rfl (by decide) rfl (L' := [some (.ref r0), some (.int (x1 + nI 1)), some (.int x2), none, none, none, none]) rfl ?_
    refine Wp.go (x := (.goto (-35), 3, 45, 0)) rfl 45 [some (.ref r0), some (.int (x1 + nI 1)), some (.int x2), none, none, none, none] [] rfl ⟨rfl, rfl, rfl, rfl⟩ ?_
    exact Wp.wk (L := [some (.ref r0), some (.int (x1 + nI 1)), none, none, none, none, none]) ⟨Or.inr rfl, Or.inr rfl, Or.inl rfl, Or.inr rfl, Or.inr rfl, Or.inr rfl, Or.inr rfl, trivial⟩ H
  · have H := H.2 c
    refine Wp.go (x := (.aload_n 0, 1, 0, 0)) rfl 66 [some (.ref r0), some (.int x1), some (.int x2), none, none, none, none] [.ref r0] rfl ⟨rfl, rfl, rfl, rfl⟩ ?_
    refine Wp.go (x := (.iload_n 1, 1, 0, 0)) rfl 67 [some (.ref r0), some (.int x1), some (.int x2), none, none, none, none] [.int x1, .ref r0] rfl ⟨rfl, rfl, rfl, rfl⟩ ?_
    refine Wp.go (x := (.iload_n 2, 1, 0, 0)) rfl 68 [some (.ref r0), some (.int x1), some (.int x2), none, none, none, none] [.int x2, .int x1, .ref r0] rfl ⟨rfl, rfl, rfl, rfl⟩ ?_
    refine Wp.kV (x := (.invokevirtual 270, 3, 139, 3)) (j := 139) (vs := [.ref r0, .int x1, .int x2]) (rest := []) rfl (by show xtg 139 (K r0).1 = _; rw [hn_r0]; rfl) rfl ⟨Nat.le_of_ble_eq_true rfl, Nat.le_of_ble_eq_true rfl, Nat.le_of_ble_eq_true rfl⟩ rfl rfl rfl H (fun I3 J4 H => ?_)
    refine Wp.ii (v := nI 1) rfl rfl (by decide) rfl (L' := [some (.ref r0), some (.int x1), some (.int (x2 + nI 1)), none, none, none, none]) rfl ?_
    refine Wp.go (x := (.goto (-19), 3, 55, 0)) rfl 55 [some (.ref r0), some (.int x1), some (.int (x2 + nI 1)), none, none, none, none] [] rfl ⟨rfl, rfl, rfl, rfl⟩ ?_
    exact H
set_option maxRecDepth 20000 in
theorem wX11_bestWide_90 {d : Nat} {Q : Option Value × xS → Prop} {K : Nat → Nat × Nat} {P : List Nat × Nat × Nat} {I : Nat → Nat → Int32} {J : Nat → Nat → Int64} {F : Nat → Nat → Option Nat} {r0 : Nat} {x1 : Int32} {n_r0 : Nat} {f1 : Nat} {n_f1 : Nat} (hK : ∀ {a k n : Nat}, K a = (k, n) → n < 2147483648) (hn_r0 : K r0 = (10, n_r0)) (hf1 : F r0 33 = some f1) (hn_f1 : K f1 = (102, n_f1)) (H : (((I r0 3) ≤ x1 → ((¬ (I r0 18) = 0 → Wp d 140 140 [some (.ref r0), none, none, none, none, none, none] [.int (nI 0), .ref r0] (K, P, I, J, F) Q) ∧ ((I r0 18) = 0 → Wp d 140 140 [some (.ref r0), none, none, none, none, none, none] [.int (nI 1), .ref r0] (K, P, I, J, F) Q))) ∧ (¬ (I r0 3) ≤ x1 → (∃ j2 : Nat, x1 = nI j2 ∧ j2 < n_f1 ∧ (((I f1 j2) = 0 → Wp d 140 90 [some (.ref r0), some (.int (x1 + nI 1)), none, none, none, none, none] [] (K, P, (xup I r0 18 ((I r0 18) + (nI 0))), J, F) Q) ∧ (¬ (I f1 j2) = 0 → Wp d 140 90 [some (.ref r0), some (.int (x1 + nI 1)), none, none, none, none, none] [] (K, P, (xup I r0 18 ((I r0 18) + (nI 1))), J, F) Q)))))) : Wp d 140 90 [some (.ref r0), some (.int x1), none, none, none, none, none] [] (K, P, I, J, F) Q := by
  refine Wp.go (x := (.iload_n 1, 1, 0, 0)) rfl 91 [some (.ref r0), some (.int x1), none, none, none, none, none] [.int x1] rfl ⟨rfl, rfl, rfl, rfl⟩ ?_
  refine Wp.go (x := (.aload_n 0, 1, 0, 0)) rfl 92 [some (.ref r0), some (.int x1), none, none, none, none, none] [.ref r0, .int x1] rfl ⟨rfl, rfl, rfl, rfl⟩ ?_
  refine Wp.gI rfl rfl hn_r0 rfl ⟨by decide, by decide⟩ ?_
  refine Wp.c_ge rfl rfl ⟨fun c => ?_, fun c => ?_⟩
  · have H := H.1 c
    refine Wp.go (x := (.aload_n 0, 1, 0, 0)) rfl 128 [some (.ref r0), some (.int x1), none, none, none, none, none] [.ref r0] rfl ⟨rfl, rfl, rfl, rfl⟩ ?_
    refine Wp.go (x := (.aload_n 0, 1, 0, 0)) rfl 129 [some (.ref r0), some (.int x1), none, none, none, none, none] [.ref r0, .ref r0] rfl ⟨rfl, rfl, rfl, rfl⟩ ?_
    refine Wp.gI rfl rfl hn_r0 rfl ⟨by decide, by decide⟩ ?_
    refine Wp.z_ne rfl rfl ⟨fun c => ?_, fun c => ?_⟩
    · have H := H.1 c
      refine Wp.ic (v := nI 0) rfl rfl (by decide) ?_
      exact Wp.wk (L := [some (.ref r0), none, none, none, none, none, none]) ⟨Or.inr rfl, Or.inl rfl, Or.inr rfl, Or.inr rfl, Or.inr rfl, Or.inr rfl, Or.inr rfl, trivial⟩ H
    · have H := H.2 c
      refine Wp.ic (v := nI 1) rfl rfl (by decide) ?_
      refine Wp.go (x := (.goto 4, 3, 140, 0)) rfl 140 [some (.ref r0), some (.int x1), none, none, none, none, none] [.int (nI 1), .ref r0] rfl ⟨rfl, rfl, rfl, rfl⟩ ?_
      exact Wp.wk (L := [some (.ref r0), none, none, none, none, none, none]) ⟨Or.inr rfl, Or.inl rfl, Or.inr rfl, Or.inr rfl, Or.inr rfl, Or.inr rfl, Or.inr rfl, trivial⟩ H
  · have H := H.2 c
    refine Wp.go (x := (.aload_n 0, 1, 0, 0)) rfl 99 [some (.ref r0), some (.int x1), none, none, none, none, none] [.ref r0] rfl ⟨rfl, rfl, rfl, rfl⟩ ?_
    refine Wp.go (x := (.dup, 1, 0, 0)) rfl 100 [some (.ref r0), some (.int x1), none, none, none, none, none] [.ref r0, .ref r0] rfl ⟨rfl, rfl, rfl, rfl⟩ ?_
    refine Wp.gI rfl rfl hn_r0 rfl ⟨by decide, by decide⟩ ?_
    refine Wp.go (x := (.aload_n 0, 1, 0, 0)) rfl 104 [some (.ref r0), some (.int x1), none, none, none, none, none] [.ref r0, .int (I r0 18), .ref r0] rfl ⟨rfl, rfl, rfl, rfl⟩ ?_
    refine Wp.gR rfl rfl hn_r0 rfl rfl hf1 ?_
    refine Wp.go (x := (.iload_n 1, 1, 0, 0)) rfl 108 [some (.ref r0), some (.int x1), none, none, none, none, none] [.int x1, .ref f1, .int (I r0 18), .ref r0] rfl ⟨rfl, rfl, rfl, rfl⟩ ?_
    obtain ⟨j2, e, b, H⟩ := H
    refine Wp.bld rfl rfl hn_f1 (hK hn_f1) ⟨j2, e, b, ?_⟩
    refine Wp.z_eq rfl rfl ⟨fun c => ?_, fun c => ?_⟩
    · have H := H.1 c
      refine Wp.ic (v := nI 0) rfl rfl (by decide) ?_
      refine Wp.go (x := (.iadd, 1, 0, 0)) rfl 118 [some (.ref r0), some (.int x1), none, none, none, none, none] [.int ((I r0 18) + (nI 0)), .ref r0] rfl ⟨rfl, rfl, rfl, rfl⟩ ?_
      refine Wp.pI rfl rfl hn_r0 rfl (Or.inl rfl) ?_
      refine Wp.ii (v := nI 1) rfl rfl (by decide) rfl (L' := [some (.ref r0), some (.int (x1 + nI 1)), none, none, none, none, none]) rfl ?_
      refine Wp.go (x := (.goto (-34), 3, 90, 0)) rfl 90 [some (.ref r0), some (.int (x1 + nI 1)), none, none, none, none, none] [] rfl ⟨rfl, rfl, rfl, rfl⟩ ?_
      exact H
    · have H := H.2 c
      refine Wp.ic (v := nI 1) rfl rfl (by decide) ?_
      refine Wp.go (x := (.goto 4, 3, 117, 0)) rfl 117 [some (.ref r0), some (.int x1), none, none, none, none, none] [.int (nI 1), .int (I r0 18), .ref r0] rfl ⟨rfl, rfl, rfl, rfl⟩ ?_
      refine Wp.go (x := (.iadd, 1, 0, 0)) rfl 118 [some (.ref r0), some (.int x1), none, none, none, none, none] [.int ((I r0 18) + (nI 1)), .ref r0] rfl ⟨rfl, rfl, rfl, rfl⟩ ?_
      refine Wp.pI rfl rfl hn_r0 rfl (Or.inl rfl) ?_
      refine Wp.ii (v := nI 1) rfl rfl (by decide) rfl (L' := [some (.ref r0), some (.int (x1 + nI 1)), none, none, none, none, none]) rfl ?_
      refine Wp.go (x := (.goto (-34), 3, 90, 0)) rfl 90 [some (.ref r0), some (.int (x1 + nI 1)), none, none, none, none, none] [] rfl ⟨rfl, rfl, rfl, rfl⟩ ?_
      exact H
set_option maxRecDepth 20000 in
theorem wX11_bestWide_140 {d : Nat} {Q : Option Value × xS → Prop} {K : Nat → Nat × Nat} {P : List Nat × Nat × Nat} {I : Nat → Nat → Int32} {J : Nat → Nat → Int64} {F : Nat → Nat → Option Nat} {r0 : Nat} {q0 : Nat} {s1 : Int32} {n_q0 : Nat} {n_r0 : Nat} {f1 : Nat} {n_f1 : Nat} (hK : ∀ {a k n : Nat}, K a = (k, n) → n < 2147483648) (hn_q0 : K q0 = (10, n_q0)) (hn_r0 : K r0 = (10, n_r0)) (hf1 : F r0 34 = some f1) (hn_f1 : K f1 = (100, n_f1)) (H : ((s1 = 0 ∨ s1 = 1) ∧ (∃ j2 : Nat, ((nI 40) * (((xup I q0 17 s1)) r0 3)) = nI j2 ∧ j2 < n_f1 ∧ Wp d 140 169 [some (.ref r0), some (.int (nI 0)), some (.int (((xup I q0 17 s1)) r0 3)), some (.int (nI 0)), none, none, none] [] (K, P, (xup I q0 17 s1), (xup J r0 16 ((((xup I q0 17 s1)) f1 j2).toInt64)), F) Q))) : Wp d 140 140 [some (.ref r0), none, none, none, none, none, none] [.int s1, .ref q0] (K, P, I, J, F) Q := by
  obtain ⟨z, H⟩ := H
  refine Wp.pI rfl rfl hn_q0 rfl (Or.inr ⟨rfl, z⟩) ?_
  refine Wp.go (x := (.aload_n 0, 1, 0, 0)) rfl 144 [some (.ref r0), none, none, none, none, none, none] [.ref r0] rfl ⟨rfl, rfl, rfl, rfl⟩ ?_
  refine Wp.go (x := (.aload_n 0, 1, 0, 0)) rfl 145 [some (.ref r0), none, none, none, none, none, none] [.ref r0, .ref r0] rfl ⟨rfl, rfl, rfl, rfl⟩ ?_
  refine Wp.gR rfl rfl hn_r0 rfl rfl hf1 ?_
  refine Wp.bp (v := nI 40) rfl rfl (by decide) ?_
  refine Wp.go (x := (.aload_n 0, 1, 0, 0)) rfl 151 [some (.ref r0), none, none, none, none, none, none] [.ref r0, .int (nI 40), .ref f1, .ref r0] rfl ⟨rfl, rfl, rfl, rfl⟩ ?_
  refine Wp.gI rfl rfl hn_r0 rfl ⟨by decide, by decide⟩ ?_
  refine Wp.go (x := (.imul, 1, 0, 0)) rfl 155 [some (.ref r0), none, none, none, none, none, none] [.int ((nI 40) * (((xup I q0 17 s1)) r0 3)), .ref f1, .ref r0] rfl ⟨rfl, rfl, rfl, rfl⟩ ?_
  obtain ⟨j2, e, b, H⟩ := H
  refine Wp.ald rfl rfl hn_f1 (Or.inl rfl) (hK hn_f1) ⟨j2, e, b, ?_⟩
  refine Wp.go (x := (.i2l, 1, 0, 0)) rfl 157 [some (.ref r0), none, none, none, none, none, none] [.long ((((xup I q0 17 s1)) f1 j2).toInt64), .ref r0] rfl ⟨rfl, rfl, rfl, rfl⟩ ?_
  refine Wp.pJ rfl rfl hn_r0 rfl rfl ?_
  refine Wp.ic (v := nI 0) rfl rfl (by decide) ?_
  refine Wp.go (x := (.istore_n 1, 1, 0, 0)) rfl 162 [some (.ref r0), some (.int (nI 0)), none, none, none, none, none] [] rfl ⟨rfl, rfl, rfl, rfl⟩ ?_
  refine Wp.go (x := (.aload_n 0, 1, 0, 0)) rfl 163 [some (.ref r0), some (.int (nI 0)), none, none, none, none, none] [.ref r0] rfl ⟨rfl, rfl, rfl, rfl⟩ ?_
  refine Wp.gI rfl rfl hn_r0 rfl ⟨by decide, by decide⟩ ?_
  refine Wp.go (x := (.istore_n 2, 1, 0, 0)) rfl 167 [some (.ref r0), some (.int (nI 0)), some (.int (((xup I q0 17 s1)) r0 3)), none, none, none, none] [] rfl ⟨rfl, rfl, rfl, rfl⟩ ?_
  refine Wp.ic (v := nI 0) rfl rfl (by decide) ?_
  refine Wp.go (x := (.istore_n 3, 1, 0, 0)) rfl 169 [some (.ref r0), some (.int (nI 0)), some (.int (((xup I q0 17 s1)) r0 3)), some (.int (nI 0)), none, none, none] [] rfl ⟨rfl, rfl, rfl, rfl⟩ ?_
  exact H
set_option maxRecDepth 20000 in
theorem wX11_bestWide_169 {d : Nat} {Q : Option Value × xS → Prop} {K : Nat → Nat × Nat} {P : List Nat × Nat × Nat} {I : Nat → Nat → Int32} {J : Nat → Nat → Int64} {F : Nat → Nat → Option Nat} {r0 : Nat} {x1 : Int32} {x2 : Int32} {x3 : Int32} {n_r0 : Nat} {f3 : Nat} {n_f3 : Nat} {f5 : Nat} {n_f5 : Nat} {f7 : Nat} {n_f7 : Nat} {f9 : Nat} {n_f9 : Nat} {f11 : Nat} {n_f11 : Nat} {f13 : Nat} {f14 : Nat} {n_f14 : Nat} {n_f13 : Nat} {f17 : Nat} {n_f17 : Nat} (hK : ∀ {a k n : Nat}, K a = (k, n) → n < 2147483648) (hn_r0 : K r0 = (10, n_r0)) (hf3 : F r0 36 = some f3) (hn_f3 : K f3 = (100, n_f3)) (hf5 : F r0 37 = some f5) (hn_f5 : K f5 = (100, n_f5)) (hf7 : F r0 28 = some f7) (hn_f7 : K f7 = (100, n_f7)) (hf9 : F r0 29 = some f9) (hn_f9 : K f9 = (100, n_f9)) (hf11 : F r0 31 = some f11) (hn_f11 : K f11 = (100, n_f11)) (hf13 : F r0 30 = some f13) (hf14 : F r0 35 = some f14) (hn_f14 : K f14 = (100, n_f14)) (hn_f13 : K f13 = (100, n_f13)) (hf17 : F r0 38 = some f17) (hn_f17 : K f17 = (100, n_f17)) (H : ((x2 ≤ 0 → Wp d 132 0 [some (.ref r0), some (.int x1), none] [] (K, P, I, J, F) (xrV K P F (fun I1 J2 => Q (none, (K, P, I1, J2, F))))) ∧ (¬ x2 ≤ 0 → (∃ j4 : Nat, (((nI 40) * x2) + x3) = nI j4 ∧ j4 < n_f3 ∧ (∃ j6 : Nat, (((nI 40) * x2) + x3) = nI j6 ∧ j6 < n_f5 ∧ (∃ j8 : Nat, x1 = nI j8 ∧ j8 < n_f7 ∧ (∃ j10 : Nat, x1 = nI j10 ∧ j10 < n_f9 ∧ (∃ j12 : Nat, x1 = nI j12 ∧ j12 < n_f11 ∧ ((¬ (I f5 j6) = 0 → (∃ j15 : Nat, ((nI 4) * (((nI 40) * x2) + x3)) = nI j15 ∧ j15 < n_f14 ∧ (∃ j16 : Nat, x1 = nI j16 ∧ j16 < n_f13 ∧ (∃ j18 : Nat, (((nI 40) * x2) + x3) = nI j18 ∧ j18 < n_f17 ∧ Wp (d + 1) 140 169 [some (.ref r0), some (.int (x1 + nI 1)), some (.int (I f3 j4)), some (.int (((xup ((xup ((xup ((xup I f7 j8 (I f3 j4))) f9 j10 (I f5 j6))) f11 j12 (x2 - (I f3 j4)))) f13 j16 (((xup ((xup ((xup I f7 j8 (I f3 j4))) f9 j10 (I f5 j6))) f11 j12 (x2 - (I f3 j4)))) f14 j15))) f17 j18)), none, none, none] [] (K, P, (xup ((xup ((xup ((xup I f7 j8 (I f3 j4))) f9 j10 (I f5 j6))) f11 j12 (x2 - (I f3 j4)))) f13 j16 (((xup ((xup ((xup I f7 j8 (I f3 j4))) f9 j10 (I f5 j6))) f11 j12 (x2 - (I f3 j4)))) f14 j15)), J, F) Q)))) ∧ ((I f5 j6) = 0 → (∃ j19 : Nat, x1 = nI j19 ∧ j19 < n_f13 ∧ (∃ j20 : Nat, (((nI 40) * x2) + x3) = nI j20 ∧ j20 < n_f17 ∧ Wp (d + 1) 140 169 [some (.ref r0), some (.int (x1 + nI 1)), some (.int (I f3 j4)), some (.int (((xup ((xup ((xup ((xup I f7 j8 (I f3 j4))) f9 j10 (I f5 j6))) f11 j12 (x2 - (I f3 j4)))) f13 j19 (nI 0))) f17 j20)), none, none, none] [] (K, P, (xup ((xup ((xup ((xup I f7 j8 (I f3 j4))) f9 j10 (I f5 j6))) f11 j12 (x2 - (I f3 j4)))) f13 j19 (nI 0)), J, F) Q)))))))))))) : Wp (d + 1) 140 169 [some (.ref r0), some (.int x1), some (.int x2), some (.int x3), none, none, none] [] (K, P, I, J, F) Q := by
  refine Wp.go (x := (.iload_n 2, 1, 0, 0)) rfl 170 [some (.ref r0), some (.int x1), some (.int x2), some (.int x3), none, none, none] [.int x2] rfl ⟨rfl, rfl, rfl, rfl⟩ ?_
  refine Wp.z_le rfl rfl ⟨fun c => ?_, fun c => ?_⟩
  · have H := H.1 c
    refine Wp.go (x := (.aload_n 0, 1, 0, 0)) rfl 267 [some (.ref r0), some (.int x1), some (.int x2), some (.int x3), none, none, none] [.ref r0] rfl ⟨rfl, rfl, rfl, rfl⟩ ?_
    refine Wp.go (x := (.iload_n 1, 1, 0, 0)) rfl 268 [some (.ref r0), some (.int x1), some (.int x2), some (.int x3), none, none, none] [.int x1, .ref r0] rfl ⟨rfl, rfl, rfl, rfl⟩ ?_
    refine Wp.kV (x := (.invokevirtual 234, 3, 132, 2)) (j := 132) (vs := [.ref r0, .int x1]) (rest := []) rfl (by show xtg 132 (K r0).1 = _; rw [hn_r0]; rfl) rfl ⟨Nat.le_of_ble_eq_true rfl, Nat.le_of_ble_eq_true rfl, Nat.le_of_ble_eq_true rfl⟩ rfl rfl rfl H (fun I1 J2 H => ?_)
    exact Wp.rV rfl rfl H
  · have H := H.2 c
    refine Wp.bp (v := nI 40) rfl rfl (by decide) ?_
    refine Wp.go (x := (.iload_n 2, 1, 0, 0)) rfl 176 [some (.ref r0), some (.int x1), some (.int x2), some (.int x3), none, none, none] [.int x2, .int (nI 40)] rfl ⟨rfl, rfl, rfl, rfl⟩ ?_
    refine Wp.go (x := (.imul, 1, 0, 0)) rfl 177 [some (.ref r0), some (.int x1), some (.int x2), some (.int x3), none, none, none] [.int ((nI 40) * x2)] rfl ⟨rfl, rfl, rfl, rfl⟩ ?_
    refine Wp.go (x := (.iload_n 3, 1, 0, 0)) rfl 178 [some (.ref r0), some (.int x1), some (.int x2), some (.int x3), none, none, none] [.int x3, .int ((nI 40) * x2)] rfl ⟨rfl, rfl, rfl, rfl⟩ ?_
    refine Wp.go (x := (.iadd, 1, 0, 0)) rfl 179 [some (.ref r0), some (.int x1), some (.int x2), some (.int x3), none, none, none] [.int (((nI 40) * x2) + x3)] rfl ⟨rfl, rfl, rfl, rfl⟩ ?_
    refine Wp.go (x := (.istore 4, 2, 0, 0)) rfl 181 [some (.ref r0), some (.int x1), some (.int x2), some (.int x3), some (.int (((nI 40) * x2) + x3)), none, none] [] rfl ⟨rfl, rfl, rfl, rfl⟩ ?_
    refine Wp.go (x := (.aload_n 0, 1, 0, 0)) rfl 182 [some (.ref r0), some (.int x1), some (.int x2), some (.int x3), some (.int (((nI 40) * x2) + x3)), none, none] [.ref r0] rfl ⟨rfl, rfl, rfl, rfl⟩ ?_
    refine Wp.gR rfl rfl hn_r0 rfl rfl hf3 ?_
    refine Wp.go (x := (.iload 4, 2, 0, 0)) rfl 187 [some (.ref r0), some (.int x1), some (.int x2), some (.int x3), some (.int (((nI 40) * x2) + x3)), none, none] [.int (((nI 40) * x2) + x3), .ref f3] rfl ⟨rfl, rfl, rfl, rfl⟩ ?_
    obtain ⟨j4, e, b, H⟩ := H
    refine Wp.ald rfl rfl hn_f3 (Or.inl rfl) (hK hn_f3) ⟨j4, e, b, ?_⟩
    refine Wp.go (x := (.istore 5, 2, 0, 0)) rfl 190 [some (.ref r0), some (.int x1), some (.int x2), some (.int x3), some (.int (((nI 40) * x2) + x3)), some (.int (I f3 j4)), none] [] rfl ⟨rfl, rfl, rfl, rfl⟩ ?_
    refine Wp.go (x := (.aload_n 0, 1, 0, 0)) rfl 191 [some (.ref r0), some (.int x1), some (.int x2), some (.int x3), some (.int (((nI 40) * x2) + x3)), some (.int (I f3 j4)), none] [.ref r0] rfl ⟨rfl, rfl, rfl, rfl⟩ ?_
    refine Wp.gR rfl rfl hn_r0 rfl rfl hf5 ?_
    refine Wp.go (x := (.iload 4, 2, 0, 0)) rfl 196 [some (.ref r0), some (.int x1), some (.int x2), some (.int x3), some (.int (((nI 40) * x2) + x3)), some (.int (I f3 j4)), none] [.int (((nI 40) * x2) + x3), .ref f5] rfl ⟨rfl, rfl, rfl, rfl⟩ ?_
    obtain ⟨j6, e, b, H⟩ := H
    refine Wp.ald rfl rfl hn_f5 (Or.inl rfl) (hK hn_f5) ⟨j6, e, b, ?_⟩
    refine Wp.go (x := (.istore 6, 2, 0, 0)) rfl 199 [some (.ref r0), some (.int x1), some (.int x2), some (.int x3), some (.int (((nI 40) * x2) + x3)), some (.int (I f3 j4)), some (.int (I f5 j6))] [] rfl ⟨rfl, rfl, rfl, rfl⟩ ?_
    refine Wp.go (x := (.aload_n 0, 1, 0, 0)) rfl 200 [some (.ref r0), some (.int x1), some (.int x2), some (.int x3), some (.int (((nI 40) * x2) + x3)), some (.int (I f3 j4)), some (.int (I f5 j6))] [.ref r0] rfl ⟨rfl, rfl, rfl, rfl⟩ ?_
    refine Wp.gR rfl rfl hn_r0 rfl rfl hf7 ?_
    refine Wp.go (x := (.iload_n 1, 1, 0, 0)) rfl 204 [some (.ref r0), some (.int x1), some (.int x2), some (.int x3), some (.int (((nI 40) * x2) + x3)), some (.int (I f3 j4)), some (.int (I f5 j6))] [.int x1, .ref f7] rfl ⟨rfl, rfl, rfl, rfl⟩ ?_
    refine Wp.go (x := (.iload 5, 2, 0, 0)) rfl 206 [some (.ref r0), some (.int x1), some (.int x2), some (.int x3), some (.int (((nI 40) * x2) + x3)), some (.int (I f3 j4)), some (.int (I f5 j6))] [.int (I f3 j4), .int x1, .ref f7] rfl ⟨rfl, rfl, rfl, rfl⟩ ?_
    obtain ⟨j8, e, b, H⟩ := H
    refine Wp.ast rfl rfl hn_f7 (hK hn_f7) ⟨j8, e, b, ?_⟩
    refine Wp.go (x := (.aload_n 0, 1, 0, 0)) rfl 208 [some (.ref r0), some (.int x1), some (.int x2), some (.int x3), some (.int (((nI 40) * x2) + x3)), some (.int (I f3 j4)), some (.int (I f5 j6))] [.ref r0] rfl ⟨rfl, rfl, rfl, rfl⟩ ?_
    refine Wp.gR rfl rfl hn_r0 rfl rfl hf9 ?_
    refine Wp.go (x := (.iload_n 1, 1, 0, 0)) rfl 212 [some (.ref r0), some (.int x1), some (.int x2), some (.int x3), some (.int (((nI 40) * x2) + x3)), some (.int (I f3 j4)), some (.int (I f5 j6))] [.int x1, .ref f9] rfl ⟨rfl, rfl, rfl, rfl⟩ ?_
    refine Wp.go (x := (.iload 6, 2, 0, 0)) rfl 214 [some (.ref r0), some (.int x1), some (.int x2), some (.int x3), some (.int (((nI 40) * x2) + x3)), some (.int (I f3 j4)), some (.int (I f5 j6))] [.int (I f5 j6), .int x1, .ref f9] rfl ⟨rfl, rfl, rfl, rfl⟩ ?_
    obtain ⟨j10, e, b, H⟩ := H
    refine Wp.ast rfl rfl hn_f9 (hK hn_f9) ⟨j10, e, b, ?_⟩
    refine Wp.go (x := (.aload_n 0, 1, 0, 0)) rfl 216 [some (.ref r0), some (.int x1), some (.int x2), some (.int x3), some (.int (((nI 40) * x2) + x3)), some (.int (I f3 j4)), some (.int (I f5 j6))] [.ref r0] rfl ⟨rfl, rfl, rfl, rfl⟩ ?_
    refine Wp.gR rfl rfl hn_r0 rfl rfl hf11 ?_
    refine Wp.go (x := (.iload_n 1, 1, 0, 0)) rfl 220 [some (.ref r0), some (.int x1), some (.int x2), some (.int x3), some (.int (((nI 40) * x2) + x3)), some (.int (I f3 j4)), some (.int (I f5 j6))] [.int x1, .ref f11] rfl ⟨rfl, rfl, rfl, rfl⟩ ?_
    refine Wp.go (x := (.iload_n 2, 1, 0, 0)) rfl 221 [some (.ref r0), some (.int x1), some (.int x2), some (.int x3), some (.int (((nI 40) * x2) + x3)), some (.int (I f3 j4)), some (.int (I f5 j6))] [.int x2, .int x1, .ref f11] rfl ⟨rfl, rfl, rfl, rfl⟩ ?_
    refine Wp.go (x := (.iload 5, 2, 0, 0)) rfl 223 [some (.ref r0), some (.int x1), some (.int x2), some (.int x3), some (.int (((nI 40) * x2) + x3)), some (.int (I f3 j4)), some (.int (I f5 j6))] [.int (I f3 j4), .int x2, .int x1, .ref f11] rfl ⟨rfl, rfl, rfl, rfl⟩ ?_
    refine Wp.go (x := (.isub, 1, 0, 0)) rfl 224 [some (.ref r0), some (.int x1), some (.int x2), some (.int x3), some (.int (((nI 40) * x2) + x3)), some (.int (I f3 j4)), some (.int (I f5 j6))] [.int (x2 - (I f3 j4)), .int x1, .ref f11] rfl ⟨rfl, rfl, rfl, rfl⟩ ?_
    obtain ⟨j12, e, b, H⟩ := H
    refine Wp.ast rfl rfl hn_f11 (hK hn_f11) ⟨j12, e, b, ?_⟩
    refine Wp.go (x := (.aload_n 0, 1, 0, 0)) rfl 226 [some (.ref r0), some (.int x1), some (.int x2), some (.int x3), some (.int (((nI 40) * x2) + x3)), some (.int (I f3 j4)), some (.int (I f5 j6))] [.ref r0] rfl ⟨rfl, rfl, rfl, rfl⟩ ?_
    refine Wp.gR rfl rfl hn_r0 rfl rfl hf13 ?_
    refine Wp.go (x := (.iload_n 1, 1, 0, 0)) rfl 230 [some (.ref r0), some (.int x1), some (.int x2), some (.int x3), some (.int (((nI 40) * x2) + x3)), some (.int (I f3 j4)), some (.int (I f5 j6))] [.int x1, .ref f13] rfl ⟨rfl, rfl, rfl, rfl⟩ ?_
    refine Wp.go (x := (.iload 6, 2, 0, 0)) rfl 232 [some (.ref r0), some (.int x1), some (.int x2), some (.int x3), some (.int (((nI 40) * x2) + x3)), some (.int (I f3 j4)), some (.int (I f5 j6))] [.int (I f5 j6), .int x1, .ref f13] rfl ⟨rfl, rfl, rfl, rfl⟩ ?_
    refine Wp.z_ne rfl rfl ⟨fun c => ?_, fun c => ?_⟩
    · have H := H.1 c
      refine Wp.go (x := (.aload_n 0, 1, 0, 0)) rfl 240 [some (.ref r0), some (.int x1), some (.int x2), some (.int x3), some (.int (((nI 40) * x2) + x3)), some (.int (I f3 j4)), some (.int (I f5 j6))] [.ref r0, .int x1, .ref f13] rfl ⟨rfl, rfl, rfl, rfl⟩ ?_
      refine Wp.gR rfl rfl hn_r0 rfl rfl hf14 ?_
      refine Wp.ic (v := nI 4) rfl rfl (by decide) ?_
      refine Wp.go (x := (.iload 4, 2, 0, 0)) rfl 246 [some (.ref r0), some (.int x1), some (.int x2), some (.int x3), some (.int (((nI 40) * x2) + x3)), some (.int (I f3 j4)), some (.int (I f5 j6))] [.int (((nI 40) * x2) + x3), .int (nI 4), .ref f14, .int x1, .ref f13] rfl ⟨rfl, rfl, rfl, rfl⟩ ?_
      refine Wp.go (x := (.imul, 1, 0, 0)) rfl 247 [some (.ref r0), some (.int x1), some (.int x2), some (.int x3), some (.int (((nI 40) * x2) + x3)), some (.int (I f3 j4)), some (.int (I f5 j6))] [.int ((nI 4) * (((nI 40) * x2) + x3)), .ref f14, .int x1, .ref f13] rfl ⟨rfl, rfl, rfl, rfl⟩ ?_
      obtain ⟨j15, e, b, H⟩ := H
      refine Wp.ald rfl rfl hn_f14 (Or.inl rfl) (hK hn_f14) ⟨j15, e, b, ?_⟩
      obtain ⟨j16, e, b, H⟩ := H
      refine Wp.ast rfl rfl hn_f13 (hK hn_f13) ⟨j16, e, b, ?_⟩
      refine Wp.ii (v := nI 1) rfl rfl (by decide) rfl (L' := [some (.ref r0), some (.int (x1 + nI 1)), some (.int x2), some (.int x3), some (.int (((nI 40) * x2) + x3)), some (.int (I f3 j4)), some (.int (I f5 j6))]) rfl ?_
      refine Wp.go (x := (.aload_n 0, 1, 0, 0)) rfl 253 [some (.ref r0), some (.int (x1 + nI 1)), some (.int x2), some (.int x3), some (.int (((nI 40) * x2) + x3)), some (.int (I f3 j4)), some (.int (I f5 j6))] [.ref r0] rfl ⟨rfl, rfl, rfl, rfl⟩ ?_
      refine Wp.gR rfl rfl hn_r0 rfl rfl hf17 ?_
      refine Wp.go (x := (.iload 4, 2, 0, 0)) rfl 258 [some (.ref r0), some (.int (x1 + nI 1)), some (.int x2), some (.int x3), some (.int (((nI 40) * x2) + x3)), some (.int (I f3 j4)), some (.int (I f5 j6))] [.int (((nI 40) * x2) + x3), .ref f17] rfl ⟨rfl, rfl, rfl, rfl⟩ ?_
      obtain ⟨j18, e, b, H⟩ := H
      refine Wp.ald rfl rfl hn_f17 (Or.inl rfl) (hK hn_f17) ⟨j18, e, b, ?_⟩
      refine Wp.go (x := (.istore_n 3, 1, 0, 0)) rfl 260 [some (.ref r0), some (.int (x1 + nI 1)), some (.int x2), some (.int (((xup ((xup ((xup ((xup I f7 j8 (I f3 j4))) f9 j10 (I f5 j6))) f11 j12 (x2 - (I f3 j4)))) f13 j16 (((xup ((xup ((xup I f7 j8 (I f3 j4))) f9 j10 (I f5 j6))) f11 j12 (x2 - (I f3 j4)))) f14 j15))) f17 j18)), some (.int (((nI 40) * x2) + x3)), some (.int (I f3 j4)), some (.int (I f5 j6))] [] rfl ⟨rfl, rfl, rfl, rfl⟩ ?_
      refine Wp.go (x := (.iload 5, 2, 0, 0)) rfl 262 [some (.ref r0), some (.int (x1 + nI 1)), some (.int x2), some (.int (((xup ((xup ((xup ((xup I f7 j8 (I f3 j4))) f9 j10 (I f5 j6))) f11 j12 (x2 - (I f3 j4)))) f13 j16 (((xup ((xup ((xup I f7 j8 (I f3 j4))) f9 j10 (I f5 j6))) f11 j12 (x2 - (I f3 j4)))) f14 j15))) f17 j18)), some (.int (((nI 40) * x2) + x3)), some (.int (I f3 j4)), some (.int (I f5 j6))] [.int (I f3 j4)] rfl ⟨rfl, rfl, rfl, rfl⟩ ?_
      refine Wp.go (x := (.istore_n 2, 1, 0, 0)) rfl 263 [some (.ref r0), some (.int (x1 + nI 1)), some (.int (I f3 j4)), some (.int (((xup ((xup ((xup ((xup I f7 j8 (I f3 j4))) f9 j10 (I f5 j6))) f11 j12 (x2 - (I f3 j4)))) f13 j16 (((xup ((xup ((xup I f7 j8 (I f3 j4))) f9 j10 (I f5 j6))) f11 j12 (x2 - (I f3 j4)))) f14 j15))) f17 j18)), some (.int (((nI 40) * x2) + x3)), some (.int (I f3 j4)), some (.int (I f5 j6))] [] rfl ⟨rfl, rfl, rfl, rfl⟩ ?_
      refine Wp.go (x := (.goto (-94), 3, 169, 0)) rfl 169 [some (.ref r0), some (.int (x1 + nI 1)), some (.int (I f3 j4)), some (.int (((xup ((xup ((xup ((xup I f7 j8 (I f3 j4))) f9 j10 (I f5 j6))) f11 j12 (x2 - (I f3 j4)))) f13 j16 (((xup ((xup ((xup I f7 j8 (I f3 j4))) f9 j10 (I f5 j6))) f11 j12 (x2 - (I f3 j4)))) f14 j15))) f17 j18)), some (.int (((nI 40) * x2) + x3)), some (.int (I f3 j4)), some (.int (I f5 j6))] [] rfl ⟨rfl, rfl, rfl, rfl⟩ ?_
      exact Wp.wk (L := [some (.ref r0), some (.int (x1 + nI 1)), some (.int (I f3 j4)), some (.int (((xup ((xup ((xup ((xup I f7 j8 (I f3 j4))) f9 j10 (I f5 j6))) f11 j12 (x2 - (I f3 j4)))) f13 j16 (((xup ((xup ((xup I f7 j8 (I f3 j4))) f9 j10 (I f5 j6))) f11 j12 (x2 - (I f3 j4)))) f14 j15))) f17 j18)), none, none, none]) ⟨Or.inr rfl, Or.inr rfl, Or.inr rfl, Or.inr rfl, Or.inl rfl, Or.inl rfl, Or.inl rfl, trivial⟩ H
    · have H := H.2 c
      refine Wp.ic (v := nI 0) rfl rfl (by decide) ?_
      refine Wp.go (x := (.goto 12, 3, 248, 0)) rfl 248 [some (.ref r0), some (.int x1), some (.int x2), some (.int x3), some (.int (((nI 40) * x2) + x3)), some (.int (I f3 j4)), some (.int (I f5 j6))] [.int (nI 0), .int x1, .ref f13] rfl ⟨rfl, rfl, rfl, rfl⟩ ?_
      obtain ⟨j19, e, b, H⟩ := H
      refine Wp.ast rfl rfl hn_f13 (hK hn_f13) ⟨j19, e, b, ?_⟩
      refine Wp.ii (v := nI 1) rfl rfl (by decide) rfl (L' := [some (.ref r0), some (.int (x1 + nI 1)), some (.int x2), some (.int x3), some (.int (((nI 40) * x2) + x3)), some (.int (I f3 j4)), some (.int (I f5 j6))]) rfl ?_
      refine Wp.go (x := (.aload_n 0, 1, 0, 0)) rfl 253 [some (.ref r0), some (.int (x1 + nI 1)), some (.int x2), some (.int x3), some (.int (((nI 40) * x2) + x3)), some (.int (I f3 j4)), some (.int (I f5 j6))] [.ref r0] rfl ⟨rfl, rfl, rfl, rfl⟩ ?_
      refine Wp.gR rfl rfl hn_r0 rfl rfl hf17 ?_
      refine Wp.go (x := (.iload 4, 2, 0, 0)) rfl 258 [some (.ref r0), some (.int (x1 + nI 1)), some (.int x2), some (.int x3), some (.int (((nI 40) * x2) + x3)), some (.int (I f3 j4)), some (.int (I f5 j6))] [.int (((nI 40) * x2) + x3), .ref f17] rfl ⟨rfl, rfl, rfl, rfl⟩ ?_
      obtain ⟨j20, e, b, H⟩ := H
      refine Wp.ald rfl rfl hn_f17 (Or.inl rfl) (hK hn_f17) ⟨j20, e, b, ?_⟩
      refine Wp.go (x := (.istore_n 3, 1, 0, 0)) rfl 260 [some (.ref r0), some (.int (x1 + nI 1)), some (.int x2), some (.int (((xup ((xup ((xup ((xup I f7 j8 (I f3 j4))) f9 j10 (I f5 j6))) f11 j12 (x2 - (I f3 j4)))) f13 j19 (nI 0))) f17 j20)), some (.int (((nI 40) * x2) + x3)), some (.int (I f3 j4)), some (.int (I f5 j6))] [] rfl ⟨rfl, rfl, rfl, rfl⟩ ?_
      refine Wp.go (x := (.iload 5, 2, 0, 0)) rfl 262 [some (.ref r0), some (.int (x1 + nI 1)), some (.int x2), some (.int (((xup ((xup ((xup ((xup I f7 j8 (I f3 j4))) f9 j10 (I f5 j6))) f11 j12 (x2 - (I f3 j4)))) f13 j19 (nI 0))) f17 j20)), some (.int (((nI 40) * x2) + x3)), some (.int (I f3 j4)), some (.int (I f5 j6))] [.int (I f3 j4)] rfl ⟨rfl, rfl, rfl, rfl⟩ ?_
      refine Wp.go (x := (.istore_n 2, 1, 0, 0)) rfl 263 [some (.ref r0), some (.int (x1 + nI 1)), some (.int (I f3 j4)), some (.int (((xup ((xup ((xup ((xup I f7 j8 (I f3 j4))) f9 j10 (I f5 j6))) f11 j12 (x2 - (I f3 j4)))) f13 j19 (nI 0))) f17 j20)), some (.int (((nI 40) * x2) + x3)), some (.int (I f3 j4)), some (.int (I f5 j6))] [] rfl ⟨rfl, rfl, rfl, rfl⟩ ?_
      refine Wp.go (x := (.goto (-94), 3, 169, 0)) rfl 169 [some (.ref r0), some (.int (x1 + nI 1)), some (.int (I f3 j4)), some (.int (((xup ((xup ((xup ((xup I f7 j8 (I f3 j4))) f9 j10 (I f5 j6))) f11 j12 (x2 - (I f3 j4)))) f13 j19 (nI 0))) f17 j20)), some (.int (((nI 40) * x2) + x3)), some (.int (I f3 j4)), some (.int (I f5 j6))] [] rfl ⟨rfl, rfl, rfl, rfl⟩ ?_
      exact Wp.wk (L := [some (.ref r0), some (.int (x1 + nI 1)), some (.int (I f3 j4)), some (.int (((xup ((xup ((xup ((xup I f7 j8 (I f3 j4))) f9 j10 (I f5 j6))) f11 j12 (x2 - (I f3 j4)))) f13 j19 (nI 0))) f17 j20)), none, none, none]) ⟨Or.inr rfl, Or.inr rfl, Or.inr rfl, Or.inr rfl, Or.inl rfl, Or.inl rfl, Or.inl rfl, trivial⟩ H
set_option maxRecDepth 20000 in
theorem wX11_best_0 {d : Nat} {Q : Option Value × xS → Prop} {K : Nat → Nat × Nat} {P : List Nat × Nat × Nat} {I : Nat → Nat → Int32} {J : Nat → Nat → Int64} {F : Nat → Nat → Option Nat} {r0 : Nat} {n_r0 : Nat} (hn_r0 : K r0 = (10, n_r0)) (H : Wp d 107 0 [some (.ref r0), none, none, none, none, none] [] (K, P, I, J, F) (xrV K P F (fun I1 J2 => ((¬ (I1 r0 1) = (nI 2) → Wp d 133 0 [some (.ref r0), none] [] (K, P, I1, J2, F) (xrV K P F (fun I3 J4 => Q (none, (K, P, I3, J4, F))))) ∧ ((I1 r0 1) = (nI 2) → Wp d 140 0 [some (.ref r0), none, none, none, none, none, none] [] (K, P, I1, J2, F) (xrV K P F (fun I5 J6 => Q (none, (K, P, I5, J6, F))))))))) : Wp (d + 1) 141 0 [some (.ref r0)] [] (K, P, I, J, F) Q := by
  refine Wp.go (x := (.aload_n 0, 1, 0, 0)) rfl 1 [some (.ref r0)] [.ref r0] rfl ⟨rfl, rfl, rfl, rfl⟩ ?_
  refine Wp.kV (x := (.invokevirtual 273, 3, 107, 1)) (j := 107) (vs := [.ref r0]) (rest := []) rfl (by show xtg 107 (K r0).1 = _; rw [hn_r0]; rfl) rfl ⟨Nat.le_of_ble_eq_true rfl, Nat.le_of_ble_eq_true rfl, Nat.le_of_ble_eq_true rfl⟩ rfl rfl rfl H (fun I1 J2 H => ?_)
  refine Wp.go (x := (.aload_n 0, 1, 0, 0)) rfl 5 [some (.ref r0)] [.ref r0] rfl ⟨rfl, rfl, rfl, rfl⟩ ?_
  refine Wp.gI rfl rfl hn_r0 rfl ⟨by decide, by decide⟩ ?_
  refine Wp.ic (v := nI 2) rfl rfl (by decide) ?_
  refine Wp.c_ne rfl rfl ⟨fun c => ?_, fun c => ?_⟩
  · have H := H.1 c
    refine Wp.go (x := (.aload_n 0, 1, 0, 0)) rfl 20 [some (.ref r0)] [.ref r0] rfl ⟨rfl, rfl, rfl, rfl⟩ ?_
    refine Wp.kV (x := (.invokevirtual 279, 3, 133, 1)) (j := 133) (vs := [.ref r0]) (rest := []) rfl (by show xtg 133 (K r0).1 = _; rw [hn_r0]; rfl) rfl ⟨Nat.le_of_ble_eq_true rfl, Nat.le_of_ble_eq_true rfl, Nat.le_of_ble_eq_true rfl⟩ rfl rfl rfl H (fun I3 J4 H => ?_)
    exact Wp.rV rfl rfl H
  · have H := H.2 c
    refine Wp.go (x := (.aload_n 0, 1, 0, 0)) rfl 13 [some (.ref r0)] [.ref r0] rfl ⟨rfl, rfl, rfl, rfl⟩ ?_
    refine Wp.kV (x := (.invokevirtual 276, 3, 140, 1)) (j := 140) (vs := [.ref r0]) (rest := []) rfl (by show xtg 140 (K r0).1 = _; rw [hn_r0]; rfl) rfl ⟨Nat.le_of_ble_eq_true rfl, Nat.le_of_ble_eq_true rfl, Nat.le_of_ble_eq_true rfl⟩ rfl rfl rfl H (fun I5 J6 H => ?_)
    refine Wp.go (x := (.goto 7, 3, 23, 0)) rfl 23 [some (.ref r0)] [] rfl ⟨rfl, rfl, rfl, rfl⟩ ?_
    exact Wp.rV rfl rfl H
set_option maxRecDepth 20000 in
theorem wX11_parse_0 {d : Nat} {Q : Option Value × xS → Prop} {K : Nat → Nat × Nat} {P : List Nat × Nat × Nat} {I : Nat → Nat → Int32} {J : Nat → Nat → Int64} {F : Nat → Nat → Option Nat} {r0 : Nat} {x1 : Int32} {n_r0 : Nat} (hn_r0 : K r0 = (10, n_r0)) (H : ((x1 < 0 → Q (some (.int ((-1))), (K, P, (xup I r0 0 (nI 0)), J, F))) ∧ (¬ x1 < 0 → ((x1 ≤ (nI 3) → ((¬ x1 = (nI 3) → Wp d 107 0 [some (.ref r0), none, none, none, none, none] [] (K, P, (xup ((xup I r0 0 (nI 0))) r0 10 (nI 1)), J, F) (xrV K P F (fun I1 J2 => Wp d 125 0 [some (.ref r0), some (.int x1), none, none, none, none] [] (K, P, I1, J2, F) (xrV K P F (fun I3 J4 => Q (some (.int (I3 r0 11)), (K, P, I3, J4, F))))))) ∧ (x1 = (nI 3) → Wp d 141 0 [some (.ref r0)] [] (K, P, (xup ((xup I r0 0 (nI 0))) r0 10 (nI 1)), J, F) (xrV K P F (fun I5 J6 => Q (some (.int (I5 r0 11)), (K, P, I5, J6, F))))))) ∧ (¬ x1 ≤ (nI 3) → Q (some (.int ((-1))), (K, P, (xup I r0 0 (nI 0)), J, F))))))) : Wp (d + 1) 142 0 [some (.ref r0), some (.int x1)] [] (K, P, I, J, F) Q := by
  refine Wp.go (x := (.aload_n 0, 1, 0, 0)) rfl 1 [some (.ref r0), some (.int x1)] [.ref r0] rfl ⟨rfl, rfl, rfl, rfl⟩ ?_
  refine Wp.ic (v := nI 0) rfl rfl (by decide) ?_
  refine Wp.pI rfl rfl hn_r0 rfl (Or.inl rfl) ?_
  refine Wp.go (x := (.iload_n 1, 1, 0, 0)) rfl 6 [some (.ref r0), some (.int x1)] [.int x1] rfl ⟨rfl, rfl, rfl, rfl⟩ ?_
  refine Wp.z_lt rfl rfl ⟨fun c => ?_, fun c => ?_⟩
  · have H := H.1 c
    refine Wp.ic (v := (-1)) rfl rfl (by decide) ?_
    exact Wp.rI rfl rfl H
  · have H := H.2 c
    refine Wp.go (x := (.iload_n 1, 1, 0, 0)) rfl 10 [some (.ref r0), some (.int x1)] [.int x1] rfl ⟨rfl, rfl, rfl, rfl⟩ ?_
    refine Wp.ic (v := nI 3) rfl rfl (by decide) ?_
    refine Wp.c_le rfl rfl ⟨fun c => ?_, fun c => ?_⟩
    · have H := H.1 c
      refine Wp.go (x := (.aload_n 0, 1, 0, 0)) rfl 17 [some (.ref r0), some (.int x1)] [.ref r0] rfl ⟨rfl, rfl, rfl, rfl⟩ ?_
      refine Wp.ic (v := nI 1) rfl rfl (by decide) ?_
      refine Wp.pI rfl rfl hn_r0 rfl (Or.inr ⟨rfl, Or.inr rfl⟩) ?_
      refine Wp.go (x := (.iload_n 1, 1, 0, 0)) rfl 22 [some (.ref r0), some (.int x1)] [.int x1] rfl ⟨rfl, rfl, rfl, rfl⟩ ?_
      refine Wp.ic (v := nI 3) rfl rfl (by decide) ?_
      refine Wp.c_ne rfl rfl ⟨fun c => ?_, fun c => ?_⟩
      · have H := H.1 c
        refine Wp.go (x := (.aload_n 0, 1, 0, 0)) rfl 34 [some (.ref r0), some (.int x1)] [.ref r0] rfl ⟨rfl, rfl, rfl, rfl⟩ ?_
        refine Wp.kV (x := (.invokevirtual 273, 3, 107, 1)) (j := 107) (vs := [.ref r0]) (rest := []) rfl (by show xtg 107 (K r0).1 = _; rw [hn_r0]; rfl) rfl ⟨Nat.le_of_ble_eq_true rfl, Nat.le_of_ble_eq_true rfl, Nat.le_of_ble_eq_true rfl⟩ rfl rfl rfl H (fun I1 J2 H => ?_)
        refine Wp.go (x := (.aload_n 0, 1, 0, 0)) rfl 38 [some (.ref r0), some (.int x1)] [.ref r0] rfl ⟨rfl, rfl, rfl, rfl⟩ ?_
        refine Wp.go (x := (.iload_n 1, 1, 0, 0)) rfl 39 [some (.ref r0), some (.int x1)] [.int x1, .ref r0] rfl ⟨rfl, rfl, rfl, rfl⟩ ?_
        refine Wp.kV (x := (.invokevirtual 285, 3, 125, 2)) (j := 125) (vs := [.ref r0, .int x1]) (rest := []) rfl (by show xtg 125 (K r0).1 = _; rw [hn_r0]; rfl) rfl ⟨Nat.le_of_ble_eq_true rfl, Nat.le_of_ble_eq_true rfl, Nat.le_of_ble_eq_true rfl⟩ rfl rfl rfl H (fun I3 J4 H => ?_)
        refine Wp.go (x := (.aload_n 0, 1, 0, 0)) rfl 43 [some (.ref r0), some (.int x1)] [.ref r0] rfl ⟨rfl, rfl, rfl, rfl⟩ ?_
        refine Wp.gI rfl rfl hn_r0 rfl ⟨by decide, by decide⟩ ?_
        exact Wp.rI rfl rfl H
      · have H := H.2 c
        refine Wp.go (x := (.aload_n 0, 1, 0, 0)) rfl 27 [some (.ref r0), some (.int x1)] [.ref r0] rfl ⟨rfl, rfl, rfl, rfl⟩ ?_
        refine Wp.kV (x := (.invokevirtual 282, 3, 141, 1)) (j := 141) (vs := [.ref r0]) (rest := []) rfl (by show xtg 141 (K r0).1 = _; rw [hn_r0]; rfl) rfl ⟨Nat.le_of_ble_eq_true rfl, Nat.le_of_ble_eq_true rfl, Nat.le_of_ble_eq_true rfl⟩ rfl rfl rfl H (fun I5 J6 H => ?_)
        refine Wp.go (x := (.goto 12, 3, 42, 0)) rfl 42 [some (.ref r0), some (.int x1)] [] rfl ⟨rfl, rfl, rfl, rfl⟩ ?_
        refine Wp.go (x := (.aload_n 0, 1, 0, 0)) rfl 43 [some (.ref r0), some (.int x1)] [.ref r0] rfl ⟨rfl, rfl, rfl, rfl⟩ ?_
        refine Wp.gI rfl rfl hn_r0 rfl ⟨by decide, by decide⟩ ?_
        exact Wp.rI rfl rfl H
    · have H := H.2 c
      refine Wp.ic (v := (-1)) rfl rfl (by decide) ?_
      exact Wp.rI rfl rfl H
set_option maxRecDepth 20000 in
theorem wX11_log_0 {d : Nat} {Q : Option Value × xS → Prop} {K : Nat → Nat × Nat} {P : List Nat × Nat × Nat} {I : Nat → Nat → Int32} {J : Nat → Nat → Int64} {F : Nat → Nat → Option Nat} {x0 : Int32}  (H : Wp d 110 0 [some (.int x0), none] [] (K, P, I, J, F) (xrI K P F (fun v1 I2 J3 => Q (some (.int ((((nI 64) * v1) + ((((lN 64) * x0.toInt64) >>> (v1.toInt64 &&& 63)).toInt32)) - (nI 64))), (K, P, I2, J3, F))))) : Wp (d + 1) 143 0 [some (.int x0), none] [] (K, P, I, J, F) Q := by
  refine Wp.go (x := (.iload_n 0, 1, 0, 0)) rfl 1 [some (.int x0), none] [.int x0] rfl ⟨rfl, rfl, rfl, rfl⟩ ?_
  refine Wp.kI (x := (.invokestatic 156, 3, 110, 1)) (j := 110) (vs := [.int x0]) (rest := []) rfl rfl rfl ⟨Nat.le_of_ble_eq_true rfl, Nat.le_of_ble_eq_true rfl, Nat.le_of_ble_eq_true rfl⟩ rfl rfl rfl H (fun v1 I2 J3 H => ?_)
  refine Wp.go (x := (.istore_n 1, 1, 0, 0)) rfl 5 [some (.int x0), some (.int v1)] [] rfl ⟨rfl, rfl, rfl, rfl⟩ ?_
  refine Wp.bp (v := nI 64) rfl rfl (by decide) ?_
  refine Wp.go (x := (.iload_n 1, 1, 0, 0)) rfl 8 [some (.int x0), some (.int v1)] [.int v1, .int (nI 64)] rfl ⟨rfl, rfl, rfl, rfl⟩ ?_
  refine Wp.go (x := (.imul, 1, 0, 0)) rfl 9 [some (.int x0), some (.int v1)] [.int ((nI 64) * v1)] rfl ⟨rfl, rfl, rfl, rfl⟩ ?_
  refine Wp.ldcj (v := lN 64) rfl rfl (by first | rfl | decide) ?_
  refine Wp.go (x := (.iload_n 0, 1, 0, 0)) rfl 13 [some (.int x0), some (.int v1)] [.int x0, .long (lN 64), .int ((nI 64) * v1)] rfl ⟨rfl, rfl, rfl, rfl⟩ ?_
  refine Wp.go (x := (.i2l, 1, 0, 0)) rfl 14 [some (.int x0), some (.int v1)] [.long x0.toInt64, .long (lN 64), .int ((nI 64) * v1)] rfl ⟨rfl, rfl, rfl, rfl⟩ ?_
  refine Wp.go (x := (.lmul, 1, 0, 0)) rfl 15 [some (.int x0), some (.int v1)] [.long ((lN 64) * x0.toInt64), .int ((nI 64) * v1)] rfl ⟨rfl, rfl, rfl, rfl⟩ ?_
  refine Wp.go (x := (.iload_n 1, 1, 0, 0)) rfl 16 [some (.int x0), some (.int v1)] [.int v1, .long ((lN 64) * x0.toInt64), .int ((nI 64) * v1)] rfl ⟨rfl, rfl, rfl, rfl⟩ ?_
  refine Wp.go (x := (.lshr, 1, 0, 0)) rfl 17 [some (.int x0), some (.int v1)] [.long (((lN 64) * x0.toInt64) >>> (v1.toInt64 &&& 63)), .int ((nI 64) * v1)] rfl ⟨rfl, rfl, rfl, rfl⟩ ?_
  refine Wp.go (x := (.l2i, 1, 0, 0)) rfl 18 [some (.int x0), some (.int v1)] [.int ((((lN 64) * x0.toInt64) >>> (v1.toInt64 &&& 63)).toInt32), .int ((nI 64) * v1)] rfl ⟨rfl, rfl, rfl, rfl⟩ ?_
  refine Wp.go (x := (.iadd, 1, 0, 0)) rfl 19 [some (.int x0), some (.int v1)] [.int (((nI 64) * v1) + ((((lN 64) * x0.toInt64) >>> (v1.toInt64 &&& 63)).toInt32))] rfl ⟨rfl, rfl, rfl, rfl⟩ ?_
  refine Wp.bp (v := nI 64) rfl rfl (by decide) ?_
  refine Wp.go (x := (.isub, 1, 0, 0)) rfl 22 [some (.int x0), some (.int v1)] [.int ((((nI 64) * v1) + ((((lN 64) * x0.toInt64) >>> (v1.toInt64 &&& 63)).toInt32)) - (nI 64))] rfl ⟨rfl, rfl, rfl, rfl⟩ ?_
  exact Wp.rI rfl rfl H
set_option maxRecDepth 20000 in
theorem wX11_fit_0 {d : Nat} {Q : Option Value × xS → Prop} {K : Nat → Nat × Nat} {P : List Nat × Nat × Nat} {I : Nat → Nat → Int32} {J : Nat → Nat → Int64} {F : Nat → Nat → Option Nat} {r0 : Nat}  (H : Wp d 144 2 [some (.ref r0), some (.int (nI 0)), none, none, none] [] (K, P, I, J, F) Q) : Wp d 144 0 [some (.ref r0), none, none, none, none] [] (K, P, I, J, F) Q := by
  refine Wp.ic (v := nI 0) rfl rfl (by decide) ?_
  refine Wp.go (x := (.istore_n 1, 1, 0, 0)) rfl 2 [some (.ref r0), some (.int (nI 0)), none, none, none] [] rfl ⟨rfl, rfl, rfl, rfl⟩ ?_
  exact H
set_option maxRecDepth 20000 in
theorem wX11_fit_2 {d : Nat} {Q : Option Value × xS → Prop} {K : Nat → Nat × Nat} {P : List Nat × Nat × Nat} {I : Nat → Nat → Int32} {J : Nat → Nat → Int64} {F : Nat → Nat → Option Nat} {r0 : Nat} {x1 : Int32} {n_r0 : Nat} {f1 : Nat} {n_f1 : Nat} (hK : ∀ {a k n : Nat}, K a = (k, n) → n < 2147483648) (hn_r0 : K r0 = (10, n_r0)) (hf1 : F r0 39 = some f1) (hn_f1 : K f1 = (100, n_f1)) (H : (((nI 1024) ≤ x1 → Wp d 144 24 [some (.ref r0), some (.int (nI 0)), none, none, none] [] (K, P, I, J, F) Q) ∧ (¬ (nI 1024) ≤ x1 → (∃ j2 : Nat, x1 = nI j2 ∧ j2 < n_f1 ∧ Wp d 144 2 [some (.ref r0), some (.int (x1 + nI 1)), none, none, none] [] (K, P, (xup I f1 j2 (nI 0)), J, F) Q)))) : Wp d 144 2 [some (.ref r0), some (.int x1), none, none, none] [] (K, P, I, J, F) Q := by
  refine Wp.go (x := (.iload_n 1, 1, 0, 0)) rfl 3 [some (.ref r0), some (.int x1), none, none, none] [.int x1] rfl ⟨rfl, rfl, rfl, rfl⟩ ?_
  refine Wp.sp (v := nI 1024) rfl rfl (by decide) ?_
  refine Wp.c_ge rfl rfl ⟨fun c => ?_, fun c => ?_⟩
  · have H := H.1 c
    refine Wp.ic (v := nI 0) rfl rfl (by decide) ?_
    refine Wp.go (x := (.istore_n 1, 1, 0, 0)) rfl 24 [some (.ref r0), some (.int (nI 0)), none, none, none] [] rfl ⟨rfl, rfl, rfl, rfl⟩ ?_
    exact H
  · have H := H.2 c
    refine Wp.go (x := (.aload_n 0, 1, 0, 0)) rfl 10 [some (.ref r0), some (.int x1), none, none, none] [.ref r0] rfl ⟨rfl, rfl, rfl, rfl⟩ ?_
    refine Wp.gR rfl rfl hn_r0 rfl rfl hf1 ?_
    refine Wp.go (x := (.iload_n 1, 1, 0, 0)) rfl 14 [some (.ref r0), some (.int x1), none, none, none] [.int x1, .ref f1] rfl ⟨rfl, rfl, rfl, rfl⟩ ?_
    refine Wp.ic (v := nI 0) rfl rfl (by decide) ?_
    obtain ⟨j2, e, b, H⟩ := H
    refine Wp.ast rfl rfl hn_f1 (hK hn_f1) ⟨j2, e, b, ?_⟩
    refine Wp.ii (v := nI 1) rfl rfl (by decide) rfl (L' := [some (.ref r0), some (.int (x1 + nI 1)), none, none, none]) rfl ?_
    refine Wp.go (x := (.goto (-17), 3, 2, 0)) rfl 2 [some (.ref r0), some (.int (x1 + nI 1)), none, none, none] [] rfl ⟨rfl, rfl, rfl, rfl⟩ ?_
    exact H
set_option maxRecDepth 20000 in
theorem wX11_fit_24 {d : Nat} {Q : Option Value × xS → Prop} {K : Nat → Nat × Nat} {P : List Nat × Nat × Nat} {I : Nat → Nat → Int32} {J : Nat → Nat → Int64} {F : Nat → Nat → Option Nat} {r0 : Nat} {x1 : Int32} {n_r0 : Nat} {f1 : Nat} {n_f1 : Nat} {f3 : Nat} {f4 : Nat} {n_f4 : Nat} {n_f3 : Nat} {f14 : Nat} {f15 : Nat} {n_f15 : Nat} {n_f14 : Nat} (hK : ∀ {a k n : Nat}, K a = (k, n) → n < 2147483648) (hn_r0 : K r0 = (10, n_r0)) (hf1 : F r0 15 = some f1) (hn_f1 : K f1 = (100, n_f1)) (hf3 : F r0 39 = some f3) (hf4 : F r0 13 = some f4) (hn_f4 : K f4 = (100, n_f4)) (hn_f3 : K f3 = (100, n_f3)) (hf14 : F r0 2 = some f14) (hf15 : F r0 12 = some f15) (hn_f15 : K f15 = (100, n_f15)) (hn_f14 : K f14 = (100, n_f14)) (H : (((I r0 11) ≤ x1 → Wp (d + 1) 144 150 [some (.ref r0), some (.int (nI 0)), none, none, none] [] (K, P, I, J, F) Q) ∧ (¬ (I r0 11) ≤ x1 → (∃ j2 : Nat, x1 = nI j2 ∧ j2 < n_f1 ∧ ((¬ (I f1 j2) = 0 → (((I f1 j2) = (nI 6) → Wp (d + 1) 144 99 [some (.ref r0), some (.int x1), some (.int (I f1 j2)), none, none] [] (K, P, I, J, F) Q) ∧ (¬ (I f1 j2) = (nI 6) → (∃ j5 : Nat, x1 = nI j5 ∧ j5 < n_f4 ∧ Wp d 99 0 [some (.ref r0)] [] (K, P, I, J, F) (xrI K P F (fun v6 I7 J8 => Wp d 111 0 [some (.int ((I f4 j5) - v6)), none] [] (K, P, I7, J8, F) (xrI K P F (fun v9 I10 J11 => (∃ j12 : Nat, ((nI 256) + v9) = nI j12 ∧ j12 < n_f3 ∧ (∃ j13 : Nat, ((nI 256) + v9) = nI j13 ∧ j13 < n_f3 ∧ Wp (d + 1) 144 99 [some (.ref r0), some (.int x1), some (.int (I f1 j2)), none, none] [] (K, P, (xup I10 f3 j13 ((I10 f3 j12) + (nI 1))), J11, F) Q)))))))))) ∧ ((I f1 j2) = 0 → (∃ j16 : Nat, x1 = nI j16 ∧ j16 < n_f15 ∧ (∃ j17 : Nat, (I f15 j16) = nI j17 ∧ j17 < n_f14 ∧ (∃ j18 : Nat, (I f14 j17) = nI j18 ∧ j18 < n_f3 ∧ (∃ j19 : Nat, (I f14 j17) = nI j19 ∧ j19 < n_f3 ∧ Wp (d + 1) 144 99 [some (.ref r0), some (.int x1), some (.int (I f1 j2)), none, none] [] (K, P, (xup I f3 j19 ((I f3 j18) + (nI 1))), J, F) Q)))))))))) : Wp (d + 1) 144 24 [some (.ref r0), some (.int x1), none, none, none] [] (K, P, I, J, F) Q := by
  refine Wp.go (x := (.iload_n 1, 1, 0, 0)) rfl 25 [some (.ref r0), some (.int x1), none, none, none] [.int x1] rfl ⟨rfl, rfl, rfl, rfl⟩ ?_
  refine Wp.go (x := (.aload_n 0, 1, 0, 0)) rfl 26 [some (.ref r0), some (.int x1), none, none, none] [.ref r0, .int x1] rfl ⟨rfl, rfl, rfl, rfl⟩ ?_
  refine Wp.gI rfl rfl hn_r0 rfl ⟨by decide, by decide⟩ ?_
  refine Wp.c_ge rfl rfl ⟨fun c => ?_, fun c => ?_⟩
  · have H := H.1 c
    refine Wp.ic (v := nI 0) rfl rfl (by decide) ?_
    refine Wp.go (x := (.istore_n 1, 1, 0, 0)) rfl 150 [some (.ref r0), some (.int (nI 0)), none, none, none] [] rfl ⟨rfl, rfl, rfl, rfl⟩ ?_
    exact H
  · have H := H.2 c
    refine Wp.go (x := (.aload_n 0, 1, 0, 0)) rfl 33 [some (.ref r0), some (.int x1), none, none, none] [.ref r0] rfl ⟨rfl, rfl, rfl, rfl⟩ ?_
    refine Wp.gR rfl rfl hn_r0 rfl rfl hf1 ?_
    refine Wp.go (x := (.iload_n 1, 1, 0, 0)) rfl 37 [some (.ref r0), some (.int x1), none, none, none] [.int x1, .ref f1] rfl ⟨rfl, rfl, rfl, rfl⟩ ?_
    obtain ⟨j2, e, b, H⟩ := H
    refine Wp.ald rfl rfl hn_f1 (Or.inl rfl) (hK hn_f1) ⟨j2, e, b, ?_⟩
    refine Wp.go (x := (.istore_n 2, 1, 0, 0)) rfl 39 [some (.ref r0), some (.int x1), some (.int (I f1 j2)), none, none] [] rfl ⟨rfl, rfl, rfl, rfl⟩ ?_
    refine Wp.go (x := (.iload_n 2, 1, 0, 0)) rfl 40 [some (.ref r0), some (.int x1), some (.int (I f1 j2)), none, none] [.int (I f1 j2)] rfl ⟨rfl, rfl, rfl, rfl⟩ ?_
    refine Wp.z_ne rfl rfl ⟨fun c => ?_, fun c => ?_⟩
    · have H := H.1 c
      refine Wp.go (x := (.iload_n 2, 1, 0, 0)) rfl 67 [some (.ref r0), some (.int x1), some (.int (I f1 j2)), none, none] [.int (I f1 j2)] rfl ⟨rfl, rfl, rfl, rfl⟩ ?_
      refine Wp.bp (v := nI 6) rfl rfl (by decide) ?_
      refine Wp.c_eq rfl rfl ⟨fun c => ?_, fun c => ?_⟩
      · have H := H.1 c
        exact H
      · have H := H.2 c
        refine Wp.go (x := (.aload_n 0, 1, 0, 0)) rfl 73 [some (.ref r0), some (.int x1), some (.int (I f1 j2)), none, none] [.ref r0] rfl ⟨rfl, rfl, rfl, rfl⟩ ?_
        refine Wp.gR rfl rfl hn_r0 rfl rfl hf3 ?_
        refine Wp.sp (v := nI 256) rfl rfl (by decide) ?_
        refine Wp.go (x := (.aload_n 0, 1, 0, 0)) rfl 80 [some (.ref r0), some (.int x1), some (.int (I f1 j2)), none, none] [.ref r0, .int (nI 256), .ref f3] rfl ⟨rfl, rfl, rfl, rfl⟩ ?_
        refine Wp.gR rfl rfl hn_r0 rfl rfl hf4 ?_
        refine Wp.go (x := (.iload_n 1, 1, 0, 0)) rfl 84 [some (.ref r0), some (.int x1), some (.int (I f1 j2)), none, none] [.int x1, .ref f4, .int (nI 256), .ref f3] rfl ⟨rfl, rfl, rfl, rfl⟩ ?_
        obtain ⟨j5, e, b, H⟩ := H
        refine Wp.ald rfl rfl hn_f4 (Or.inl rfl) (hK hn_f4) ⟨j5, e, b, ?_⟩
        refine Wp.go (x := (.aload_n 0, 1, 0, 0)) rfl 86 [some (.ref r0), some (.int x1), some (.int (I f1 j2)), none, none] [.ref r0, .int (I f4 j5), .int (nI 256), .ref f3] rfl ⟨rfl, rfl, rfl, rfl⟩ ?_
        refine Wp.kI (x := (.invokevirtual 153, 3, 99, 1)) (j := 99) (vs := [.ref r0]) (rest := [.int (I f4 j5), .int (nI 256), .ref f3]) rfl (by show xtg 99 (K r0).1 = _; rw [hn_r0]; rfl) rfl ⟨Nat.le_of_ble_eq_true rfl, Nat.le_of_ble_eq_true rfl, Nat.le_of_ble_eq_true rfl⟩ rfl rfl rfl H (fun v6 I7 J8 H => ?_)
        refine Wp.go (x := (.isub, 1, 0, 0)) rfl 90 [some (.ref r0), some (.int x1), some (.int (I f1 j2)), none, none] [.int ((I f4 j5) - v6), .int (nI 256), .ref f3] rfl ⟨rfl, rfl, rfl, rfl⟩ ?_
        refine Wp.kI (x := (.invokestatic 159, 3, 111, 1)) (j := 111) (vs := [.int ((I f4 j5) - v6)]) (rest := [.int (nI 256), .ref f3]) rfl rfl rfl ⟨Nat.le_of_ble_eq_true rfl, Nat.le_of_ble_eq_true rfl, Nat.le_of_ble_eq_true rfl⟩ rfl rfl rfl H (fun v9 I10 J11 H => ?_)
        refine Wp.go (x := (.iadd, 1, 0, 0)) rfl 94 [some (.ref r0), some (.int x1), some (.int (I f1 j2)), none, none] [.int ((nI 256) + v9), .ref f3] rfl ⟨rfl, rfl, rfl, rfl⟩ ?_
        refine Wp.go (x := (.dup2, 1, 0, 0)) rfl 95 [some (.ref r0), some (.int x1), some (.int (I f1 j2)), none, none] [.int ((nI 256) + v9), .ref f3, .int ((nI 256) + v9), .ref f3] rfl ⟨rfl, rfl, rfl, rfl⟩ ?_
        obtain ⟨j12, e, b, H⟩ := H
        refine Wp.ald rfl rfl hn_f3 (Or.inl rfl) (hK hn_f3) ⟨j12, e, b, ?_⟩
        refine Wp.ic (v := nI 1) rfl rfl (by decide) ?_
        refine Wp.go (x := (.iadd, 1, 0, 0)) rfl 98 [some (.ref r0), some (.int x1), some (.int (I f1 j2)), none, none] [.int ((I10 f3 j12) + (nI 1)), .int ((nI 256) + v9), .ref f3] rfl ⟨rfl, rfl, rfl, rfl⟩ ?_
        obtain ⟨j13, e, b, H⟩ := H
        refine Wp.ast rfl rfl hn_f3 (hK hn_f3) ⟨j13, e, b, ?_⟩
        exact H
    · have H := H.2 c
      refine Wp.go (x := (.aload_n 0, 1, 0, 0)) rfl 44 [some (.ref r0), some (.int x1), some (.int (I f1 j2)), none, none] [.ref r0] rfl ⟨rfl, rfl, rfl, rfl⟩ ?_
      refine Wp.gR rfl rfl hn_r0 rfl rfl hf3 ?_
      refine Wp.go (x := (.aload_n 0, 1, 0, 0)) rfl 48 [some (.ref r0), some (.int x1), some (.int (I f1 j2)), none, none] [.ref r0, .ref f3] rfl ⟨rfl, rfl, rfl, rfl⟩ ?_
      refine Wp.gR rfl rfl hn_r0 rfl rfl hf14 ?_
      refine Wp.go (x := (.aload_n 0, 1, 0, 0)) rfl 52 [some (.ref r0), some (.int x1), some (.int (I f1 j2)), none, none] [.ref r0, .ref f14, .ref f3] rfl ⟨rfl, rfl, rfl, rfl⟩ ?_
      refine Wp.gR rfl rfl hn_r0 rfl rfl hf15 ?_
      refine Wp.go (x := (.iload_n 1, 1, 0, 0)) rfl 56 [some (.ref r0), some (.int x1), some (.int (I f1 j2)), none, none] [.int x1, .ref f15, .ref f14, .ref f3] rfl ⟨rfl, rfl, rfl, rfl⟩ ?_
      obtain ⟨j16, e, b, H⟩ := H
      refine Wp.ald rfl rfl hn_f15 (Or.inl rfl) (hK hn_f15) ⟨j16, e, b, ?_⟩
      obtain ⟨j17, e, b, H⟩ := H
      refine Wp.ald rfl rfl hn_f14 (Or.inl rfl) (hK hn_f14) ⟨j17, e, b, ?_⟩
      refine Wp.go (x := (.dup2, 1, 0, 0)) rfl 59 [some (.ref r0), some (.int x1), some (.int (I f1 j2)), none, none] [.int (I f14 j17), .ref f3, .int (I f14 j17), .ref f3] rfl ⟨rfl, rfl, rfl, rfl⟩ ?_
      obtain ⟨j18, e, b, H⟩ := H
      refine Wp.ald rfl rfl hn_f3 (Or.inl rfl) (hK hn_f3) ⟨j18, e, b, ?_⟩
      refine Wp.ic (v := nI 1) rfl rfl (by decide) ?_
      refine Wp.go (x := (.iadd, 1, 0, 0)) rfl 62 [some (.ref r0), some (.int x1), some (.int (I f1 j2)), none, none] [.int ((I f3 j18) + (nI 1)), .int (I f14 j17), .ref f3] rfl ⟨rfl, rfl, rfl, rfl⟩ ?_
      obtain ⟨j19, e, b, H⟩ := H
      refine Wp.ast rfl rfl hn_f3 (hK hn_f3) ⟨j19, e, b, ?_⟩
      refine Wp.go (x := (.goto 36, 3, 99, 0)) rfl 99 [some (.ref r0), some (.int x1), some (.int (I f1 j2)), none, none] [] rfl ⟨rfl, rfl, rfl, rfl⟩ ?_
      exact H
set_option maxRecDepth 20000 in
theorem wX11_fit_99 {d : Nat} {Q : Option Value × xS → Prop} {K : Nat → Nat × Nat} {P : List Nat × Nat × Nat} {I : Nat → Nat → Int32} {J : Nat → Nat → Int64} {F : Nat → Nat → Option Nat} {r0 : Nat} {x1 : Int32} {x2 : Int32} {n_r0 : Nat} {f1 : Nat} {n_f1 : Nat} {f4 : Nat} {n_f4 : Nat} (hK : ∀ {a k n : Nat}, K a = (k, n) → n < 2147483648) (hn_r0 : K r0 = (10, n_r0)) (hf1 : F r0 39 = some f1) (hn_f1 : K f1 = (100, n_f1)) (hf4 : F r0 14 = some f4) (hn_f4 : K f4 = (100, n_f4)) (H : ((¬ x2 = (nI 1) → (∃ j2 : Nat, ((nI 768) + x2) = nI j2 ∧ j2 < n_f1 ∧ (∃ j3 : Nat, ((nI 768) + x2) = nI j3 ∧ j3 < n_f1 ∧ Wp (d + 1) 144 24 [some (.ref r0), some (.int (x1 + nI 1)), none, none, none] [] (K, P, (xup I f1 j3 ((I f1 j2) + (nI 1))), J, F) Q))) ∧ (x2 = (nI 1) → (∃ j5 : Nat, x1 = nI j5 ∧ j5 < n_f4 ∧ Wp d 113 0 [some (.int ((I f4 j5) - (nI 1))), none] [] (K, P, I, J, F) (xrI K P F (fun v6 I7 J8 => (∃ j9 : Nat, ((nI 512) + v6) = nI j9 ∧ j9 < n_f1 ∧ (∃ j10 : Nat, ((nI 512) + v6) = nI j10 ∧ j10 < n_f1 ∧ (∃ j11 : Nat, ((nI 768) + x2) = nI j11 ∧ j11 < n_f1 ∧ (∃ j12 : Nat, ((nI 768) + x2) = nI j12 ∧ j12 < n_f1 ∧ Wp (d + 1) 144 24 [some (.ref r0), some (.int (x1 + nI 1)), none, none, none] [] (K, P, (xup ((xup I7 f1 j10 ((I7 f1 j9) + (nI 1)))) f1 j12 ((((xup I7 f1 j10 ((I7 f1 j9) + (nI 1)))) f1 j11) + (nI 1))), J8, F) Q)))))))))) : Wp (d + 1) 144 99 [some (.ref r0), some (.int x1), some (.int x2), none, none] [] (K, P, I, J, F) Q := by
  refine Wp.go (x := (.iload_n 2, 1, 0, 0)) rfl 100 [some (.ref r0), some (.int x1), some (.int x2), none, none] [.int x2] rfl ⟨rfl, rfl, rfl, rfl⟩ ?_
  refine Wp.ic (v := nI 1) rfl rfl (by decide) ?_
  refine Wp.c_ne rfl rfl ⟨fun c => ?_, fun c => ?_⟩
  · have H := H.1 c
    refine Wp.go (x := (.aload_n 0, 1, 0, 0)) rfl 129 [some (.ref r0), some (.int x1), some (.int x2), none, none] [.ref r0] rfl ⟨rfl, rfl, rfl, rfl⟩ ?_
    refine Wp.gR rfl rfl hn_r0 rfl rfl hf1 ?_
    refine Wp.sp (v := nI 768) rfl rfl (by decide) ?_
    refine Wp.go (x := (.iload_n 2, 1, 0, 0)) rfl 136 [some (.ref r0), some (.int x1), some (.int x2), none, none] [.int x2, .int (nI 768), .ref f1] rfl ⟨rfl, rfl, rfl, rfl⟩ ?_
    refine Wp.go (x := (.iadd, 1, 0, 0)) rfl 137 [some (.ref r0), some (.int x1), some (.int x2), none, none] [.int ((nI 768) + x2), .ref f1] rfl ⟨rfl, rfl, rfl, rfl⟩ ?_
    refine Wp.go (x := (.dup2, 1, 0, 0)) rfl 138 [some (.ref r0), some (.int x1), some (.int x2), none, none] [.int ((nI 768) + x2), .ref f1, .int ((nI 768) + x2), .ref f1] rfl ⟨rfl, rfl, rfl, rfl⟩ ?_
    obtain ⟨j2, e, b, H⟩ := H
    refine Wp.ald rfl rfl hn_f1 (Or.inl rfl) (hK hn_f1) ⟨j2, e, b, ?_⟩
    refine Wp.ic (v := nI 1) rfl rfl (by decide) ?_
    refine Wp.go (x := (.iadd, 1, 0, 0)) rfl 141 [some (.ref r0), some (.int x1), some (.int x2), none, none] [.int ((I f1 j2) + (nI 1)), .int ((nI 768) + x2), .ref f1] rfl ⟨rfl, rfl, rfl, rfl⟩ ?_
    obtain ⟨j3, e, b, H⟩ := H
    refine Wp.ast rfl rfl hn_f1 (hK hn_f1) ⟨j3, e, b, ?_⟩
    refine Wp.ii (v := nI 1) rfl rfl (by decide) rfl (L' := [some (.ref r0), some (.int (x1 + nI 1)), some (.int x2), none, none]) rfl ?_
    refine Wp.go (x := (.goto (-121), 3, 24, 0)) rfl 24 [some (.ref r0), some (.int (x1 + nI 1)), some (.int x2), none, none] [] rfl ⟨rfl, rfl, rfl, rfl⟩ ?_
    exact Wp.wk (L := [some (.ref r0), some (.int (x1 + nI 1)), none, none, none]) ⟨Or.inr rfl, Or.inr rfl, Or.inl rfl, Or.inr rfl, Or.inr rfl, trivial⟩ H
  · have H := H.2 c
    refine Wp.go (x := (.aload_n 0, 1, 0, 0)) rfl 105 [some (.ref r0), some (.int x1), some (.int x2), none, none] [.ref r0] rfl ⟨rfl, rfl, rfl, rfl⟩ ?_
    refine Wp.gR rfl rfl hn_r0 rfl rfl hf1 ?_
    refine Wp.sp (v := nI 512) rfl rfl (by decide) ?_
    refine Wp.go (x := (.aload_n 0, 1, 0, 0)) rfl 112 [some (.ref r0), some (.int x1), some (.int x2), none, none] [.ref r0, .int (nI 512), .ref f1] rfl ⟨rfl, rfl, rfl, rfl⟩ ?_
    refine Wp.gR rfl rfl hn_r0 rfl rfl hf4 ?_
    refine Wp.go (x := (.iload_n 1, 1, 0, 0)) rfl 116 [some (.ref r0), some (.int x1), some (.int x2), none, none] [.int x1, .ref f4, .int (nI 512), .ref f1] rfl ⟨rfl, rfl, rfl, rfl⟩ ?_
    obtain ⟨j5, e, b, H⟩ := H
    refine Wp.ald rfl rfl hn_f4 (Or.inl rfl) (hK hn_f4) ⟨j5, e, b, ?_⟩
    refine Wp.ic (v := nI 1) rfl rfl (by decide) ?_
    refine Wp.go (x := (.isub, 1, 0, 0)) rfl 119 [some (.ref r0), some (.int x1), some (.int x2), none, none] [.int ((I f4 j5) - (nI 1)), .int (nI 512), .ref f1] rfl ⟨rfl, rfl, rfl, rfl⟩ ?_
    refine Wp.kI (x := (.invokestatic 165, 3, 113, 1)) (j := 113) (vs := [.int ((I f4 j5) - (nI 1))]) (rest := [.int (nI 512), .ref f1]) rfl rfl rfl ⟨Nat.le_of_ble_eq_true rfl, Nat.le_of_ble_eq_true rfl, Nat.le_of_ble_eq_true rfl⟩ rfl rfl rfl H (fun v6 I7 J8 H => ?_)
    refine Wp.go (x := (.iadd, 1, 0, 0)) rfl 123 [some (.ref r0), some (.int x1), some (.int x2), none, none] [.int ((nI 512) + v6), .ref f1] rfl ⟨rfl, rfl, rfl, rfl⟩ ?_
    refine Wp.go (x := (.dup2, 1, 0, 0)) rfl 124 [some (.ref r0), some (.int x1), some (.int x2), none, none] [.int ((nI 512) + v6), .ref f1, .int ((nI 512) + v6), .ref f1] rfl ⟨rfl, rfl, rfl, rfl⟩ ?_
    obtain ⟨j9, e, b, H⟩ := H
    refine Wp.ald rfl rfl hn_f1 (Or.inl rfl) (hK hn_f1) ⟨j9, e, b, ?_⟩
    refine Wp.ic (v := nI 1) rfl rfl (by decide) ?_
    refine Wp.go (x := (.iadd, 1, 0, 0)) rfl 127 [some (.ref r0), some (.int x1), some (.int x2), none, none] [.int ((I7 f1 j9) + (nI 1)), .int ((nI 512) + v6), .ref f1] rfl ⟨rfl, rfl, rfl, rfl⟩ ?_
    obtain ⟨j10, e, b, H⟩ := H
    refine Wp.ast rfl rfl hn_f1 (hK hn_f1) ⟨j10, e, b, ?_⟩
    refine Wp.go (x := (.aload_n 0, 1, 0, 0)) rfl 129 [some (.ref r0), some (.int x1), some (.int x2), none, none] [.ref r0] rfl ⟨rfl, rfl, rfl, rfl⟩ ?_
    refine Wp.gR rfl rfl hn_r0 rfl rfl hf1 ?_
    refine Wp.sp (v := nI 768) rfl rfl (by decide) ?_
    refine Wp.go (x := (.iload_n 2, 1, 0, 0)) rfl 136 [some (.ref r0), some (.int x1), some (.int x2), none, none] [.int x2, .int (nI 768), .ref f1] rfl ⟨rfl, rfl, rfl, rfl⟩ ?_
    refine Wp.go (x := (.iadd, 1, 0, 0)) rfl 137 [some (.ref r0), some (.int x1), some (.int x2), none, none] [.int ((nI 768) + x2), .ref f1] rfl ⟨rfl, rfl, rfl, rfl⟩ ?_
    refine Wp.go (x := (.dup2, 1, 0, 0)) rfl 138 [some (.ref r0), some (.int x1), some (.int x2), none, none] [.int ((nI 768) + x2), .ref f1, .int ((nI 768) + x2), .ref f1] rfl ⟨rfl, rfl, rfl, rfl⟩ ?_
    obtain ⟨j11, e, b, H⟩ := H
    refine Wp.ald rfl rfl hn_f1 (Or.inl rfl) (hK hn_f1) ⟨j11, e, b, ?_⟩
    refine Wp.ic (v := nI 1) rfl rfl (by decide) ?_
    refine Wp.go (x := (.iadd, 1, 0, 0)) rfl 141 [some (.ref r0), some (.int x1), some (.int x2), none, none] [.int ((((xup I7 f1 j10 ((I7 f1 j9) + (nI 1)))) f1 j11) + (nI 1)), .int ((nI 768) + x2), .ref f1] rfl ⟨rfl, rfl, rfl, rfl⟩ ?_
    obtain ⟨j12, e, b, H⟩ := H
    refine Wp.ast rfl rfl hn_f1 (hK hn_f1) ⟨j12, e, b, ?_⟩
    refine Wp.ii (v := nI 1) rfl rfl (by decide) rfl (L' := [some (.ref r0), some (.int (x1 + nI 1)), some (.int x2), none, none]) rfl ?_
    refine Wp.go (x := (.goto (-121), 3, 24, 0)) rfl 24 [some (.ref r0), some (.int (x1 + nI 1)), some (.int x2), none, none] [] rfl ⟨rfl, rfl, rfl, rfl⟩ ?_
    exact Wp.wk (L := [some (.ref r0), some (.int (x1 + nI 1)), none, none, none]) ⟨Or.inr rfl, Or.inr rfl, Or.inl rfl, Or.inr rfl, Or.inr rfl, trivial⟩ H
set_option maxRecDepth 20000 in
theorem wX11_fit_150 {d : Nat} {Q : Option Value × xS → Prop} {K : Nat → Nat × Nat} {P : List Nat × Nat × Nat} {I : Nat → Nat → Int32} {J : Nat → Nat → Int64} {F : Nat → Nat → Option Nat} {r0 : Nat} {x1 : Int32} {n_r0 : Nat} (hn_r0 : K r0 = (10, n_r0)) (H : ((¬ (I r0 1) = 0 → (((nI 4) ≤ x1 → Q (none, (K, P, I, J, F))) ∧ (¬ (nI 4) ≤ x1 → Wp d 144 170 [some (.ref r0), some (.int x1), some (.int (nI 0)), some (.int (nI 0)), none] [] (K, P, I, J, F) Q))) ∧ ((I r0 1) = 0 → (((nI 3) ≤ x1 → Q (none, (K, P, I, J, F))) ∧ (¬ (nI 3) ≤ x1 → Wp d 144 170 [some (.ref r0), some (.int x1), some (.int (nI 0)), some (.int (nI 0)), none] [] (K, P, I, J, F) Q))))) : Wp d 144 150 [some (.ref r0), some (.int x1), none, none, none] [] (K, P, I, J, F) Q := by
  refine Wp.go (x := (.iload_n 1, 1, 0, 0)) rfl 151 [some (.ref r0), some (.int x1), none, none, none] [.int x1] rfl ⟨rfl, rfl, rfl, rfl⟩ ?_
  refine Wp.go (x := (.aload_n 0, 1, 0, 0)) rfl 152 [some (.ref r0), some (.int x1), none, none, none] [.ref r0, .int x1] rfl ⟨rfl, rfl, rfl, rfl⟩ ?_
  refine Wp.gI rfl rfl hn_r0 rfl ⟨by decide, by decide⟩ ?_
  refine Wp.z_ne rfl rfl ⟨fun c => ?_, fun c => ?_⟩
  · have H := H.1 c
    refine Wp.ic (v := nI 4) rfl rfl (by decide) ?_
    refine Wp.c_ge rfl rfl ⟨fun c => ?_, fun c => ?_⟩
    · have H := H.1 c
      exact Wp.rV rfl rfl H
    · have H := H.2 c
      refine Wp.ic (v := nI 0) rfl rfl (by decide) ?_
      refine Wp.go (x := (.istore_n 2, 1, 0, 0)) rfl 168 [some (.ref r0), some (.int x1), some (.int (nI 0)), none, none] [] rfl ⟨rfl, rfl, rfl, rfl⟩ ?_
      refine Wp.ic (v := nI 0) rfl rfl (by decide) ?_
      refine Wp.go (x := (.istore_n 3, 1, 0, 0)) rfl 170 [some (.ref r0), some (.int x1), some (.int (nI 0)), some (.int (nI 0)), none] [] rfl ⟨rfl, rfl, rfl, rfl⟩ ?_
      exact H
  · have H := H.2 c
    refine Wp.ic (v := nI 3) rfl rfl (by decide) ?_
    refine Wp.go (x := (.goto 4, 3, 163, 0)) rfl 163 [some (.ref r0), some (.int x1), none, none, none] [.int (nI 3), .int x1] rfl ⟨rfl, rfl, rfl, rfl⟩ ?_
    refine Wp.c_ge rfl rfl ⟨fun c => ?_, fun c => ?_⟩
    · have H := H.1 c
      exact Wp.rV rfl rfl H
    · have H := H.2 c
      refine Wp.ic (v := nI 0) rfl rfl (by decide) ?_
      refine Wp.go (x := (.istore_n 2, 1, 0, 0)) rfl 168 [some (.ref r0), some (.int x1), some (.int (nI 0)), none, none] [] rfl ⟨rfl, rfl, rfl, rfl⟩ ?_
      refine Wp.ic (v := nI 0) rfl rfl (by decide) ?_
      refine Wp.go (x := (.istore_n 3, 1, 0, 0)) rfl 170 [some (.ref r0), some (.int x1), some (.int (nI 0)), some (.int (nI 0)), none] [] rfl ⟨rfl, rfl, rfl, rfl⟩ ?_
      exact H
set_option maxRecDepth 20000 in
theorem wX11_fit_170 {d : Nat} {Q : Option Value × xS → Prop} {K : Nat → Nat × Nat} {P : List Nat × Nat × Nat} {I : Nat → Nat → Int32} {J : Nat → Nat → Int64} {F : Nat → Nat → Option Nat} {r0 : Nat} {x1 : Int32} {x2 : Int32} {x3 : Int32} {n_r0 : Nat} {f4 : Nat} {n_f4 : Nat} (hK : ∀ {a k n : Nat}, K a = (k, n) → n < 2147483648) (hn_r0 : K r0 = (10, n_r0)) (hf4 : F r0 39 = some f4) (hn_f4 : K f4 = (100, n_f4)) (H : Wp d 101 0 [some (.int x1)] [] (K, P, I, J, F) (xrI K P F (fun v1 I2 J3 => ((v1 ≤ x3 → Wp (d + 1) 144 201 [some (.ref r0), some (.int x1), some (.int x2), some (.int (nI 0)), none] [] (K, P, I2, J3, F) Q) ∧ (¬ v1 ≤ x3 → (∃ j5 : Nat, (((nI 256) * x1) + x3) = nI j5 ∧ j5 < n_f4 ∧ Wp (d + 1) 144 170 [some (.ref r0), some (.int x1), some (.int (x2 + (I2 f4 j5))), some (.int (x3 + nI 1)), none] [] (K, P, I2, J3, F) Q)))))) : Wp (d + 1) 144 170 [some (.ref r0), some (.int x1), some (.int x2), some (.int x3), none] [] (K, P, I, J, F) Q := by
  refine Wp.go (x := (.iload_n 3, 1, 0, 0)) rfl 171 [some (.ref r0), some (.int x1), some (.int x2), some (.int x3), none] [.int x3] rfl ⟨rfl, rfl, rfl, rfl⟩ ?_
  refine Wp.go (x := (.iload_n 1, 1, 0, 0)) rfl 172 [some (.ref r0), some (.int x1), some (.int x2), some (.int x3), none] [.int x1, .int x3] rfl ⟨rfl, rfl, rfl, rfl⟩ ?_
  refine Wp.kI (x := (.invokestatic 132, 3, 101, 1)) (j := 101) (vs := [.int x1]) (rest := [.int x3]) rfl rfl rfl ⟨Nat.le_of_ble_eq_true rfl, Nat.le_of_ble_eq_true rfl, Nat.le_of_ble_eq_true rfl⟩ rfl rfl rfl H (fun v1 I2 J3 H => ?_)
  refine Wp.c_ge rfl rfl ⟨fun c => ?_, fun c => ?_⟩
  · have H := H.1 c
    refine Wp.ic (v := nI 0) rfl rfl (by decide) ?_
    refine Wp.go (x := (.istore_n 3, 1, 0, 0)) rfl 201 [some (.ref r0), some (.int x1), some (.int x2), some (.int (nI 0)), none] [] rfl ⟨rfl, rfl, rfl, rfl⟩ ?_
    exact H
  · have H := H.2 c
    refine Wp.go (x := (.iload_n 2, 1, 0, 0)) rfl 179 [some (.ref r0), some (.int x1), some (.int x2), some (.int x3), none] [.int x2] rfl ⟨rfl, rfl, rfl, rfl⟩ ?_
    refine Wp.go (x := (.aload_n 0, 1, 0, 0)) rfl 180 [some (.ref r0), some (.int x1), some (.int x2), some (.int x3), none] [.ref r0, .int x2] rfl ⟨rfl, rfl, rfl, rfl⟩ ?_
    refine Wp.gR rfl rfl hn_r0 rfl rfl hf4 ?_
    refine Wp.sp (v := nI 256) rfl rfl (by decide) ?_
    refine Wp.go (x := (.iload_n 1, 1, 0, 0)) rfl 187 [some (.ref r0), some (.int x1), some (.int x2), some (.int x3), none] [.int x1, .int (nI 256), .ref f4, .int x2] rfl ⟨rfl, rfl, rfl, rfl⟩ ?_
    refine Wp.go (x := (.imul, 1, 0, 0)) rfl 188 [some (.ref r0), some (.int x1), some (.int x2), some (.int x3), none] [.int ((nI 256) * x1), .ref f4, .int x2] rfl ⟨rfl, rfl, rfl, rfl⟩ ?_
    refine Wp.go (x := (.iload_n 3, 1, 0, 0)) rfl 189 [some (.ref r0), some (.int x1), some (.int x2), some (.int x3), none] [.int x3, .int ((nI 256) * x1), .ref f4, .int x2] rfl ⟨rfl, rfl, rfl, rfl⟩ ?_
    refine Wp.go (x := (.iadd, 1, 0, 0)) rfl 190 [some (.ref r0), some (.int x1), some (.int x2), some (.int x3), none] [.int (((nI 256) * x1) + x3), .ref f4, .int x2] rfl ⟨rfl, rfl, rfl, rfl⟩ ?_
    obtain ⟨j5, e, b, H⟩ := H
    refine Wp.ald rfl rfl hn_f4 (Or.inl rfl) (hK hn_f4) ⟨j5, e, b, ?_⟩
    refine Wp.go (x := (.iadd, 1, 0, 0)) rfl 192 [some (.ref r0), some (.int x1), some (.int x2), some (.int x3), none] [.int (x2 + (I2 f4 j5))] rfl ⟨rfl, rfl, rfl, rfl⟩ ?_
    refine Wp.go (x := (.istore_n 2, 1, 0, 0)) rfl 193 [some (.ref r0), some (.int x1), some (.int (x2 + (I2 f4 j5))), some (.int x3), none] [] rfl ⟨rfl, rfl, rfl, rfl⟩ ?_
    refine Wp.ii (v := nI 1) rfl rfl (by decide) rfl (L' := [some (.ref r0), some (.int x1), some (.int (x2 + (I2 f4 j5))), some (.int (x3 + nI 1)), none]) rfl ?_
    refine Wp.go (x := (.goto (-26), 3, 170, 0)) rfl 170 [some (.ref r0), some (.int x1), some (.int (x2 + (I2 f4 j5))), some (.int (x3 + nI 1)), none] [] rfl ⟨rfl, rfl, rfl, rfl⟩ ?_
    exact H
set_option maxRecDepth 20000 in
theorem wX11_fit_201 {d : Nat} {Q : Option Value × xS → Prop} {K : Nat → Nat × Nat} {P : List Nat × Nat × Nat} {I : Nat → Nat → Int32} {J : Nat → Nat → Int64} {F : Nat → Nat → Option Nat} {r0 : Nat} {x1 : Int32} {x2 : Int32} {x3 : Int32} {n_r0 : Nat} {f10 : Nat} {n_f10 : Nat} {f15 : Nat} {n_f15 : Nat} (hK : ∀ {a k n : Nat}, K a = (k, n) → n < 2147483648) (hn_r0 : K r0 = (10, n_r0)) (hf10 : F r0 39 = some f10) (hn_f10 : K f10 = (100, n_f10)) (hf15 : F r0 4 = some f15) (hn_f15 : K f15 = (100, n_f15)) (H : Wp d 101 0 [some (.int x1)] [] (K, P, I, J, F) (xrI K P F (fun v1 I2 J3 => ((v1 ≤ x3 → Wp (d + 1) 144 150 [some (.ref r0), some (.int (x1 + nI 1)), none, none, none] [] (K, P, I2, J3, F) Q) ∧ (¬ v1 ≤ x3 → Wp d 101 0 [some (.int x1)] [] (K, P, I2, J3, F) (xrI K P F (fun v4 I5 J6 => Wp d 143 0 [some (.int (x2 + v4)), none] [] (K, P, I5, J6, F) (xrI K P F (fun v7 I8 J9 => (∃ j11 : Nat, (((nI 256) * x1) + x3) = nI j11 ∧ j11 < n_f10 ∧ Wp d 143 0 [some (.int ((I8 f10 j11) + (nI 1))), none] [] (K, P, I8, J9, F) (xrI K P F (fun v12 I13 J14 => (((nI 1) ≤ (v7 - v12) → (∃ j16 : Nat, (((nI 256) * x1) + x3) = nI j16 ∧ j16 < n_f15 ∧ Wp (d + 1) 144 201 [some (.ref r0), some (.int x1), some (.int x2), some (.int (x3 + nI 1)), none] [] (K, P, (xup I13 f15 j16 (v7 - v12)), J14, F) Q)) ∧ (¬ (nI 1) ≤ (v7 - v12) → (∃ j17 : Nat, (((nI 256) * x1) + x3) = nI j17 ∧ j17 < n_f15 ∧ Wp (d + 1) 144 201 [some (.ref r0), some (.int x1), some (.int x2), some (.int (x3 + nI 1)), none] [] (K, P, (xup I13 f15 j17 (nI 1)), J14, F) Q))))))))))))))) : Wp (d + 1) 144 201 [some (.ref r0), some (.int x1), some (.int x2), some (.int x3), none] [] (K, P, I, J, F) Q := by
  refine Wp.go (x := (.iload_n 3, 1, 0, 0)) rfl 202 [some (.ref r0), some (.int x1), some (.int x2), some (.int x3), none] [.int x3] rfl ⟨rfl, rfl, rfl, rfl⟩ ?_
  refine Wp.go (x := (.iload_n 1, 1, 0, 0)) rfl 203 [some (.ref r0), some (.int x1), some (.int x2), some (.int x3), none] [.int x1, .int x3] rfl ⟨rfl, rfl, rfl, rfl⟩ ?_
  refine Wp.kI (x := (.invokestatic 132, 3, 101, 1)) (j := 101) (vs := [.int x1]) (rest := [.int x3]) rfl rfl rfl ⟨Nat.le_of_ble_eq_true rfl, Nat.le_of_ble_eq_true rfl, Nat.le_of_ble_eq_true rfl⟩ rfl rfl rfl H (fun v1 I2 J3 H => ?_)
  refine Wp.c_ge rfl rfl ⟨fun c => ?_, fun c => ?_⟩
  · have H := H.1 c
    refine Wp.ii (v := nI 1) rfl rfl (by decide) rfl (L' := [some (.ref r0), some (.int (x1 + nI 1)), some (.int x2), some (.int x3), none]) rfl ?_
    refine Wp.go (x := (.goto (-121), 3, 150, 0)) rfl 150 [some (.ref r0), some (.int (x1 + nI 1)), some (.int x2), some (.int x3), none] [] rfl ⟨rfl, rfl, rfl, rfl⟩ ?_
    exact Wp.wk (L := [some (.ref r0), some (.int (x1 + nI 1)), none, none, none]) ⟨Or.inr rfl, Or.inr rfl, Or.inl rfl, Or.inl rfl, Or.inr rfl, trivial⟩ H
  · have H := H.2 c
    refine Wp.go (x := (.iload_n 2, 1, 0, 0)) rfl 210 [some (.ref r0), some (.int x1), some (.int x2), some (.int x3), none] [.int x2] rfl ⟨rfl, rfl, rfl, rfl⟩ ?_
    refine Wp.go (x := (.iload_n 1, 1, 0, 0)) rfl 211 [some (.ref r0), some (.int x1), some (.int x2), some (.int x3), none] [.int x1, .int x2] rfl ⟨rfl, rfl, rfl, rfl⟩ ?_
    refine Wp.kI (x := (.invokestatic 132, 3, 101, 1)) (j := 101) (vs := [.int x1]) (rest := [.int x2]) rfl rfl rfl ⟨Nat.le_of_ble_eq_true rfl, Nat.le_of_ble_eq_true rfl, Nat.le_of_ble_eq_true rfl⟩ rfl rfl rfl H (fun v4 I5 J6 H => ?_)
    refine Wp.go (x := (.iadd, 1, 0, 0)) rfl 215 [some (.ref r0), some (.int x1), some (.int x2), some (.int x3), none] [.int (x2 + v4)] rfl ⟨rfl, rfl, rfl, rfl⟩ ?_
    refine Wp.kI (x := (.invokestatic 290, 3, 143, 1)) (j := 143) (vs := [.int (x2 + v4)]) (rest := []) rfl rfl rfl ⟨Nat.le_of_ble_eq_true rfl, Nat.le_of_ble_eq_true rfl, Nat.le_of_ble_eq_true rfl⟩ rfl rfl rfl H (fun v7 I8 J9 H => ?_)
    refine Wp.go (x := (.aload_n 0, 1, 0, 0)) rfl 219 [some (.ref r0), some (.int x1), some (.int x2), some (.int x3), none] [.ref r0, .int v7] rfl ⟨rfl, rfl, rfl, rfl⟩ ?_
    refine Wp.gR rfl rfl hn_r0 rfl rfl hf10 ?_
    refine Wp.sp (v := nI 256) rfl rfl (by decide) ?_
    refine Wp.go (x := (.iload_n 1, 1, 0, 0)) rfl 226 [some (.ref r0), some (.int x1), some (.int x2), some (.int x3), none] [.int x1, .int (nI 256), .ref f10, .int v7] rfl ⟨rfl, rfl, rfl, rfl⟩ ?_
    refine Wp.go (x := (.imul, 1, 0, 0)) rfl 227 [some (.ref r0), some (.int x1), some (.int x2), some (.int x3), none] [.int ((nI 256) * x1), .ref f10, .int v7] rfl ⟨rfl, rfl, rfl, rfl⟩ ?_
    refine Wp.go (x := (.iload_n 3, 1, 0, 0)) rfl 228 [some (.ref r0), some (.int x1), some (.int x2), some (.int x3), none] [.int x3, .int ((nI 256) * x1), .ref f10, .int v7] rfl ⟨rfl, rfl, rfl, rfl⟩ ?_
    refine Wp.go (x := (.iadd, 1, 0, 0)) rfl 229 [some (.ref r0), some (.int x1), some (.int x2), some (.int x3), none] [.int (((nI 256) * x1) + x3), .ref f10, .int v7] rfl ⟨rfl, rfl, rfl, rfl⟩ ?_
    obtain ⟨j11, e, b, H⟩ := H
    refine Wp.ald rfl rfl hn_f10 (Or.inl rfl) (hK hn_f10) ⟨j11, e, b, ?_⟩
    refine Wp.ic (v := nI 1) rfl rfl (by decide) ?_
    refine Wp.go (x := (.iadd, 1, 0, 0)) rfl 232 [some (.ref r0), some (.int x1), some (.int x2), some (.int x3), none] [.int ((I8 f10 j11) + (nI 1)), .int v7] rfl ⟨rfl, rfl, rfl, rfl⟩ ?_
    refine Wp.kI (x := (.invokestatic 290, 3, 143, 1)) (j := 143) (vs := [.int ((I8 f10 j11) + (nI 1))]) (rest := [.int v7]) rfl rfl rfl ⟨Nat.le_of_ble_eq_true rfl, Nat.le_of_ble_eq_true rfl, Nat.le_of_ble_eq_true rfl⟩ rfl rfl rfl H (fun v12 I13 J14 H => ?_)
    refine Wp.go (x := (.isub, 1, 0, 0)) rfl 236 [some (.ref r0), some (.int x1), some (.int x2), some (.int x3), none] [.int (v7 - v12)] rfl ⟨rfl, rfl, rfl, rfl⟩ ?_
    refine Wp.go (x := (.istore 4, 2, 0, 0)) rfl 238 [some (.ref r0), some (.int x1), some (.int x2), some (.int x3), some (.int (v7 - v12))] [] rfl ⟨rfl, rfl, rfl, rfl⟩ ?_
    refine Wp.go (x := (.aload_n 0, 1, 0, 0)) rfl 239 [some (.ref r0), some (.int x1), some (.int x2), some (.int x3), some (.int (v7 - v12))] [.ref r0] rfl ⟨rfl, rfl, rfl, rfl⟩ ?_
    refine Wp.gR rfl rfl hn_r0 rfl rfl hf15 ?_
    refine Wp.sp (v := nI 256) rfl rfl (by decide) ?_
    refine Wp.go (x := (.iload_n 1, 1, 0, 0)) rfl 246 [some (.ref r0), some (.int x1), some (.int x2), some (.int x3), some (.int (v7 - v12))] [.int x1, .int (nI 256), .ref f15] rfl ⟨rfl, rfl, rfl, rfl⟩ ?_
    refine Wp.go (x := (.imul, 1, 0, 0)) rfl 247 [some (.ref r0), some (.int x1), some (.int x2), some (.int x3), some (.int (v7 - v12))] [.int ((nI 256) * x1), .ref f15] rfl ⟨rfl, rfl, rfl, rfl⟩ ?_
    refine Wp.go (x := (.iload_n 3, 1, 0, 0)) rfl 248 [some (.ref r0), some (.int x1), some (.int x2), some (.int x3), some (.int (v7 - v12))] [.int x3, .int ((nI 256) * x1), .ref f15] rfl ⟨rfl, rfl, rfl, rfl⟩ ?_
    refine Wp.go (x := (.iadd, 1, 0, 0)) rfl 249 [some (.ref r0), some (.int x1), some (.int x2), some (.int x3), some (.int (v7 - v12))] [.int (((nI 256) * x1) + x3), .ref f15] rfl ⟨rfl, rfl, rfl, rfl⟩ ?_
    refine Wp.go (x := (.iload 4, 2, 0, 0)) rfl 251 [some (.ref r0), some (.int x1), some (.int x2), some (.int x3), some (.int (v7 - v12))] [.int (v7 - v12), .int (((nI 256) * x1) + x3), .ref f15] rfl ⟨rfl, rfl, rfl, rfl⟩ ?_
    refine Wp.ic (v := nI 1) rfl rfl (by decide) ?_
    refine Wp.c_ge rfl rfl ⟨fun c => ?_, fun c => ?_⟩
    · have H := H.1 c
      refine Wp.go (x := (.iload 4, 2, 0, 0)) rfl 261 [some (.ref r0), some (.int x1), some (.int x2), some (.int x3), some (.int (v7 - v12))] [.int (v7 - v12), .int (((nI 256) * x1) + x3), .ref f15] rfl ⟨rfl, rfl, rfl, rfl⟩ ?_
      obtain ⟨j16, e, b, H⟩ := H
      refine Wp.ast rfl rfl hn_f15 (hK hn_f15) ⟨j16, e, b, ?_⟩
      refine Wp.ii (v := nI 1) rfl rfl (by decide) rfl (L' := [some (.ref r0), some (.int x1), some (.int x2), some (.int (x3 + nI 1)), some (.int (v7 - v12))]) rfl ?_
      refine Wp.go (x := (.goto (-64), 3, 201, 0)) rfl 201 [some (.ref r0), some (.int x1), some (.int x2), some (.int (x3 + nI 1)), some (.int (v7 - v12))] [] rfl ⟨rfl, rfl, rfl, rfl⟩ ?_
      exact Wp.wk (L := [some (.ref r0), some (.int x1), some (.int x2), some (.int (x3 + nI 1)), none]) ⟨Or.inr rfl, Or.inr rfl, Or.inr rfl, Or.inr rfl, Or.inl rfl, trivial⟩ H
    · have H := H.2 c
      refine Wp.ic (v := nI 1) rfl rfl (by decide) ?_
      refine Wp.go (x := (.goto 5, 3, 261, 0)) rfl 261 [some (.ref r0), some (.int x1), some (.int x2), some (.int x3), some (.int (v7 - v12))] [.int (nI 1), .int (((nI 256) * x1) + x3), .ref f15] rfl ⟨rfl, rfl, rfl, rfl⟩ ?_
      obtain ⟨j17, e, b, H⟩ := H
      refine Wp.ast rfl rfl hn_f15 (hK hn_f15) ⟨j17, e, b, ?_⟩
      refine Wp.ii (v := nI 1) rfl rfl (by decide) rfl (L' := [some (.ref r0), some (.int x1), some (.int x2), some (.int (x3 + nI 1)), some (.int (v7 - v12))]) rfl ?_
      refine Wp.go (x := (.goto (-64), 3, 201, 0)) rfl 201 [some (.ref r0), some (.int x1), some (.int x2), some (.int (x3 + nI 1)), some (.int (v7 - v12))] [] rfl ⟨rfl, rfl, rfl, rfl⟩ ?_
      exact Wp.wk (L := [some (.ref r0), some (.int x1), some (.int x2), some (.int (x3 + nI 1)), none]) ⟨Or.inr rfl, Or.inr rfl, Or.inr rfl, Or.inr rfl, Or.inl rfl, trivial⟩ H
set_option maxRecDepth 20000 in
theorem wX11_rounds_0 {d : Nat} {Q : Option Value × xS → Prop} {K : Nat → Nat × Nat} {P : List Nat × Nat × Nat} {I : Nat → Nat → Int32} {J : Nat → Nat → Int64} {F : Nat → Nat → Option Nat} {r0 : Nat} {x1 : Int32} {n_r0 : Nat} (hn_r0 : K r0 = (10, n_r0)) (H : ((x1 < (nI 1) → Q (some (.long ((-1))), (K, P, (xup I r0 0 (nI 0)), J, F))) ∧ (¬ x1 < (nI 1) → (((nI 8) < x1 → Q (some (.long ((-1))), (K, P, (xup I r0 0 (nI 0)), J, F))) ∧ (¬ (nI 8) < x1 → (((((xup I r0 0 (nI 0))) r0 1) = (nI 1) → Q (some (.long ((-1))), (K, P, (xup I r0 0 (nI 0)), J, F))) ∧ (¬ (((xup I r0 0 (nI 0))) r0 1) = (nI 1) → ((¬ (((xup I r0 0 (nI 0))) r0 3) = 0 → Wp d 145 51 [some (.ref r0), some (.int x1), some (.long ((-1))), none, some (.int (nI 0)), some (.long (lN 0)), none, some (.int (nI 0)), some (.int (nI 0)), none, none, none] [] (K, P, (xup I r0 0 (nI 0)), J, F) Q) ∧ ((((xup I r0 0 (nI 0))) r0 3) = 0 → Q (some (.long ((-1))), (K, P, (xup I r0 0 (nI 0)), J, F))))))))))) : Wp d 145 0 [some (.ref r0), some (.int x1), none, none, none, none, none, none, none, none, none, none] [] (K, P, I, J, F) Q := by
  refine Wp.go (x := (.aload_n 0, 1, 0, 0)) rfl 1 [some (.ref r0), some (.int x1), none, none, none, none, none, none, none, none, none, none] [.ref r0] rfl ⟨rfl, rfl, rfl, rfl⟩ ?_
  refine Wp.ic (v := nI 0) rfl rfl (by decide) ?_
  refine Wp.pI rfl rfl hn_r0 rfl (Or.inl rfl) ?_
  refine Wp.go (x := (.iload_n 1, 1, 0, 0)) rfl 6 [some (.ref r0), some (.int x1), none, none, none, none, none, none, none, none, none, none] [.int x1] rfl ⟨rfl, rfl, rfl, rfl⟩ ?_
  refine Wp.ic (v := nI 1) rfl rfl (by decide) ?_
  refine Wp.c_lt rfl rfl ⟨fun c => ?_, fun c => ?_⟩
  · have H := H.1 c
    refine Wp.ldcj (v := (-1)) rfl rfl (by first | rfl | decide) ?_
    exact Wp.rJ rfl rfl H
  · have H := H.2 c
    refine Wp.go (x := (.iload_n 1, 1, 0, 0)) rfl 11 [some (.ref r0), some (.int x1), none, none, none, none, none, none, none, none, none, none] [.int x1] rfl ⟨rfl, rfl, rfl, rfl⟩ ?_
    refine Wp.bp (v := nI 8) rfl rfl (by decide) ?_
    refine Wp.c_gt rfl rfl ⟨fun c => ?_, fun c => ?_⟩
    · have H := H.1 c
      refine Wp.ldcj (v := (-1)) rfl rfl (by first | rfl | decide) ?_
      exact Wp.rJ rfl rfl H
    · have H := H.2 c
      refine Wp.go (x := (.aload_n 0, 1, 0, 0)) rfl 17 [some (.ref r0), some (.int x1), none, none, none, none, none, none, none, none, none, none] [.ref r0] rfl ⟨rfl, rfl, rfl, rfl⟩ ?_
      refine Wp.gI rfl rfl hn_r0 rfl ⟨by decide, by decide⟩ ?_
      refine Wp.ic (v := nI 1) rfl rfl (by decide) ?_
      refine Wp.c_eq rfl rfl ⟨fun c => ?_, fun c => ?_⟩
      · have H := H.1 c
        refine Wp.ldcj (v := (-1)) rfl rfl (by first | rfl | decide) ?_
        exact Wp.rJ rfl rfl H
      · have H := H.2 c
        refine Wp.go (x := (.aload_n 0, 1, 0, 0)) rfl 25 [some (.ref r0), some (.int x1), none, none, none, none, none, none, none, none, none, none] [.ref r0] rfl ⟨rfl, rfl, rfl, rfl⟩ ?_
        refine Wp.gI rfl rfl hn_r0 rfl ⟨by decide, by decide⟩ ?_
        refine Wp.z_ne rfl rfl ⟨fun c => ?_, fun c => ?_⟩
        · have H := H.1 c
          refine Wp.ldcj (v := (-1)) rfl rfl (by first | rfl | decide) ?_
          refine Wp.go (x := (.lstore_n 2, 1, 0, 0)) rfl 39 [some (.ref r0), some (.int x1), some (.long ((-1))), none, none, none, none, none, none, none, none, none] [] rfl ⟨rfl, rfl, rfl, rfl⟩ ?_
          refine Wp.ic (v := nI 0) rfl rfl (by decide) ?_
          refine Wp.go (x := (.istore 4, 2, 0, 0)) rfl 42 [some (.ref r0), some (.int x1), some (.long ((-1))), none, some (.int (nI 0)), none, none, none, none, none, none, none] [] rfl ⟨rfl, rfl, rfl, rfl⟩ ?_
          refine Wp.lc (v := lN 0) rfl rfl (by first | rfl | decide) ?_
          refine Wp.go (x := (.lstore 5, 2, 0, 0)) rfl 45 [some (.ref r0), some (.int x1), some (.long ((-1))), none, some (.int (nI 0)), some (.long (lN 0)), none, none, none, none, none, none] [] rfl ⟨rfl, rfl, rfl, rfl⟩ ?_
          refine Wp.ic (v := nI 0) rfl rfl (by decide) ?_
          refine Wp.go (x := (.istore 7, 2, 0, 0)) rfl 48 [some (.ref r0), some (.int x1), some (.long ((-1))), none, some (.int (nI 0)), some (.long (lN 0)), none, some (.int (nI 0)), none, none, none, none] [] rfl ⟨rfl, rfl, rfl, rfl⟩ ?_
          refine Wp.ic (v := nI 0) rfl rfl (by decide) ?_
          refine Wp.go (x := (.istore 8, 2, 0, 0)) rfl 51 [some (.ref r0), some (.int x1), some (.long ((-1))), none, some (.int (nI 0)), some (.long (lN 0)), none, some (.int (nI 0)), some (.int (nI 0)), none, none, none] [] rfl ⟨rfl, rfl, rfl, rfl⟩ ?_
          exact H
        · have H := H.2 c
          refine Wp.ldcj (v := (-1)) rfl rfl (by first | rfl | decide) ?_
          exact Wp.rJ rfl rfl H
set_option maxRecDepth 20000 in
theorem wX11_rounds_51 {d : Nat} {Q : Option Value × xS → Prop} {K : Nat → Nat × Nat} {P : List Nat × Nat × Nat} {I : Nat → Nat → Int32} {J : Nat → Nat → Int64} {F : Nat → Nat → Option Nat} {r0 : Nat} {x1 : Int32} {y2 : Int64} {x4 : Int32} {y5 : Int64} {x7 : Int32} {x8 : Int32} {n_r0 : Nat} (hn_r0 : K r0 = (10, n_r0)) (H : ((x1 ≤ x8 → Wp (d + 1) 145 219 [some (.ref r0), none, some (.long y2), none, some (.int x4), some (.long y5), none, some (.int x7), some (.int (nI 0)), none, none, none] [] (K, P, I, J, F) Q) ∧ (¬ x1 ≤ x8 → Wp d 141 0 [some (.ref r0)] [] (K, P, I, J, F) (xrV K P F (fun I1 J2 => Wp d 144 0 [some (.ref r0), none, none, none, none] [] (K, P, I1, J2, F) (xrV K P F (fun I3 J4 => Wp d 120 0 [some (.ref r0), none, none, none, none] [] (K, P, I3, J4, F) (xrJ K P F (fun v5 I6 J7 => (((lg_cmp y2 (lN 0)) < 0 → Wp (d + 1) 145 108 [some (.ref r0), some (.int x1), some (.long v5), none, some (.int (I6 r0 11)), some (.long (J7 r0 16)), none, some (.int (I6 r0 17)), some (.int x8), none, none, some (.int (nI 0))] [] (K, P, I6, J7, F) Q) ∧ (¬ (lg_cmp y2 (lN 0)) < 0 → ((0 ≤ (lg_cmp v5 y2) → Wp (d + 1) 145 51 [some (.ref r0), some (.int x1), some (.long y2), none, some (.int x4), some (.long y5), none, some (.int x7), some (.int (x8 + nI 1)), none, none, none] [] (K, P, I6, J7, F) Q) ∧ (¬ 0 ≤ (lg_cmp v5 y2) → Wp (d + 1) 145 108 [some (.ref r0), some (.int x1), some (.long v5), none, some (.int (I6 r0 11)), some (.long (J7 r0 16)), none, some (.int (I6 r0 17)), some (.int x8), none, none, some (.int (nI 0))] [] (K, P, I6, J7, F) Q))))))))))))) : Wp (d + 1) 145 51 [some (.ref r0), some (.int x1), some (.long y2), none, some (.int x4), some (.long y5), none, some (.int x7), some (.int x8), none, none, none] [] (K, P, I, J, F) Q := by
  refine Wp.go (x := (.iload 8, 2, 0, 0)) rfl 53 [some (.ref r0), some (.int x1), some (.long y2), none, some (.int x4), some (.long y5), none, some (.int x7), some (.int x8), none, none, none] [.int x8] rfl ⟨rfl, rfl, rfl, rfl⟩ ?_
  refine Wp.go (x := (.iload_n 1, 1, 0, 0)) rfl 54 [some (.ref r0), some (.int x1), some (.long y2), none, some (.int x4), some (.long y5), none, some (.int x7), some (.int x8), none, none, none] [.int x1, .int x8] rfl ⟨rfl, rfl, rfl, rfl⟩ ?_
  refine Wp.c_ge rfl rfl ⟨fun c => ?_, fun c => ?_⟩
  · have H := H.1 c
    refine Wp.ic (v := nI 0) rfl rfl (by decide) ?_
    refine Wp.go (x := (.istore 8, 2, 0, 0)) rfl 219 [some (.ref r0), some (.int x1), some (.long y2), none, some (.int x4), some (.long y5), none, some (.int x7), some (.int (nI 0)), none, none, none] [] rfl ⟨rfl, rfl, rfl, rfl⟩ ?_
    exact Wp.wk (L := [some (.ref r0), none, some (.long y2), none, some (.int x4), some (.long y5), none, some (.int x7), some (.int (nI 0)), none, none, none]) ⟨Or.inr rfl, Or.inl rfl, Or.inr rfl, Or.inr rfl, Or.inr rfl, Or.inr rfl, Or.inr rfl, Or.inr rfl, Or.inr rfl, Or.inr rfl, Or.inr rfl, Or.inr rfl, trivial⟩ H
  · have H := H.2 c
    refine Wp.go (x := (.aload_n 0, 1, 0, 0)) rfl 58 [some (.ref r0), some (.int x1), some (.long y2), none, some (.int x4), some (.long y5), none, some (.int x7), some (.int x8), none, none, none] [.ref r0] rfl ⟨rfl, rfl, rfl, rfl⟩ ?_
    refine Wp.kV (x := (.invokevirtual 282, 3, 141, 1)) (j := 141) (vs := [.ref r0]) (rest := []) rfl (by show xtg 141 (K r0).1 = _; rw [hn_r0]; rfl) rfl ⟨Nat.le_of_ble_eq_true rfl, Nat.le_of_ble_eq_true rfl, Nat.le_of_ble_eq_true rfl⟩ rfl rfl rfl H (fun I1 J2 H => ?_)
    refine Wp.go (x := (.aload_n 0, 1, 0, 0)) rfl 62 [some (.ref r0), some (.int x1), some (.long y2), none, some (.int x4), some (.long y5), none, some (.int x7), some (.int x8), none, none, none] [.ref r0] rfl ⟨rfl, rfl, rfl, rfl⟩ ?_
    refine Wp.kV (x := (.invokevirtual 295, 3, 144, 1)) (j := 144) (vs := [.ref r0]) (rest := []) rfl (by show xtg 144 (K r0).1 = _; rw [hn_r0]; rfl) rfl ⟨Nat.le_of_ble_eq_true rfl, Nat.le_of_ble_eq_true rfl, Nat.le_of_ble_eq_true rfl⟩ rfl rfl rfl H (fun I3 J4 H => ?_)
    refine Wp.go (x := (.aload_n 0, 1, 0, 0)) rfl 66 [some (.ref r0), some (.int x1), some (.long y2), none, some (.int x4), some (.long y5), none, some (.int x7), some (.int x8), none, none, none] [.ref r0] rfl ⟨rfl, rfl, rfl, rfl⟩ ?_
    refine Wp.kJ (x := (.invokevirtual 216, 3, 120, 1)) (j := 120) (vs := [.ref r0]) (rest := []) rfl (by show xtg 120 (K r0).1 = _; rw [hn_r0]; rfl) rfl ⟨Nat.le_of_ble_eq_true rfl, Nat.le_of_ble_eq_true rfl, Nat.le_of_ble_eq_true rfl⟩ rfl rfl rfl H (fun v5 I6 J7 H => ?_)
    refine Wp.go (x := (.lstore 9, 2, 0, 0)) rfl 71 [some (.ref r0), some (.int x1), some (.long y2), none, some (.int x4), some (.long y5), none, some (.int x7), some (.int x8), some (.long v5), none, none] [] rfl ⟨rfl, rfl, rfl, rfl⟩ ?_
    refine Wp.go (x := (.lload_n 2, 1, 0, 0)) rfl 72 [some (.ref r0), some (.int x1), some (.long y2), none, some (.int x4), some (.long y5), none, some (.int x7), some (.int x8), some (.long v5), none, none] [.long y2] rfl ⟨rfl, rfl, rfl, rfl⟩ ?_
    refine Wp.lc (v := lN 0) rfl rfl (by first | rfl | decide) ?_
    refine Wp.go (x := (.lcmp, 1, 0, 0)) rfl 74 [some (.ref r0), some (.int x1), some (.long y2), none, some (.int x4), some (.long y5), none, some (.int x7), some (.int x8), some (.long v5), none, none] [.int (lg_cmp y2 (lN 0))] rfl ⟨rfl, rfl, rfl, rfl⟩ ?_
    refine Wp.z_lt rfl rfl ⟨fun c => ?_, fun c => ?_⟩
    · have H := H.1 c
      refine Wp.go (x := (.lload 9, 2, 0, 0)) rfl 86 [some (.ref r0), some (.int x1), some (.long y2), none, some (.int x4), some (.long y5), none, some (.int x7), some (.int x8), some (.long v5), none, none] [.long v5] rfl ⟨rfl, rfl, rfl, rfl⟩ ?_
      refine Wp.go (x := (.lstore_n 2, 1, 0, 0)) rfl 87 [some (.ref r0), some (.int x1), some (.long v5), none, some (.int x4), some (.long y5), none, some (.int x7), some (.int x8), some (.long v5), none, none] [] rfl ⟨rfl, rfl, rfl, rfl⟩ ?_
      refine Wp.go (x := (.aload_n 0, 1, 0, 0)) rfl 88 [some (.ref r0), some (.int x1), some (.long v5), none, some (.int x4), some (.long y5), none, some (.int x7), some (.int x8), some (.long v5), none, none] [.ref r0] rfl ⟨rfl, rfl, rfl, rfl⟩ ?_
      refine Wp.gI rfl rfl hn_r0 rfl ⟨by decide, by decide⟩ ?_
      refine Wp.go (x := (.istore 4, 2, 0, 0)) rfl 93 [some (.ref r0), some (.int x1), some (.long v5), none, some (.int (I6 r0 11)), some (.long y5), none, some (.int x7), some (.int x8), some (.long v5), none, none] [] rfl ⟨rfl, rfl, rfl, rfl⟩ ?_
      refine Wp.go (x := (.aload_n 0, 1, 0, 0)) rfl 94 [some (.ref r0), some (.int x1), some (.long v5), none, some (.int (I6 r0 11)), some (.long y5), none, some (.int x7), some (.int x8), some (.long v5), none, none] [.ref r0] rfl ⟨rfl, rfl, rfl, rfl⟩ ?_
      refine Wp.gJ rfl rfl hn_r0 rfl rfl ?_
      refine Wp.go (x := (.lstore 5, 2, 0, 0)) rfl 99 [some (.ref r0), some (.int x1), some (.long v5), none, some (.int (I6 r0 11)), some (.long (J7 r0 16)), none, some (.int x7), some (.int x8), some (.long v5), none, none] [] rfl ⟨rfl, rfl, rfl, rfl⟩ ?_
      refine Wp.go (x := (.aload_n 0, 1, 0, 0)) rfl 100 [some (.ref r0), some (.int x1), some (.long v5), none, some (.int (I6 r0 11)), some (.long (J7 r0 16)), none, some (.int x7), some (.int x8), some (.long v5), none, none] [.ref r0] rfl ⟨rfl, rfl, rfl, rfl⟩ ?_
      refine Wp.gI rfl rfl hn_r0 rfl ⟨by decide, by decide⟩ ?_
      refine Wp.go (x := (.istore 7, 2, 0, 0)) rfl 105 [some (.ref r0), some (.int x1), some (.long v5), none, some (.int (I6 r0 11)), some (.long (J7 r0 16)), none, some (.int (I6 r0 17)), some (.int x8), some (.long v5), none, none] [] rfl ⟨rfl, rfl, rfl, rfl⟩ ?_
      refine Wp.ic (v := nI 0) rfl rfl (by decide) ?_
      refine Wp.go (x := (.istore 11, 2, 0, 0)) rfl 108 [some (.ref r0), some (.int x1), some (.long v5), none, some (.int (I6 r0 11)), some (.long (J7 r0 16)), none, some (.int (I6 r0 17)), some (.int x8), some (.long v5), none, some (.int (nI 0))] [] rfl ⟨rfl, rfl, rfl, rfl⟩ ?_
      exact Wp.wk (L := [some (.ref r0), some (.int x1), some (.long v5), none, some (.int (I6 r0 11)), some (.long (J7 r0 16)), none, some (.int (I6 r0 17)), some (.int x8), none, none, some (.int (nI 0))]) ⟨Or.inr rfl, Or.inr rfl, Or.inr rfl, Or.inr rfl, Or.inr rfl, Or.inr rfl, Or.inr rfl, Or.inr rfl, Or.inr rfl, Or.inl rfl, Or.inr rfl, Or.inr rfl, trivial⟩ H
    · have H := H.2 c
      refine Wp.go (x := (.lload 9, 2, 0, 0)) rfl 79 [some (.ref r0), some (.int x1), some (.long y2), none, some (.int x4), some (.long y5), none, some (.int x7), some (.int x8), some (.long v5), none, none] [.long v5] rfl ⟨rfl, rfl, rfl, rfl⟩ ?_
      refine Wp.go (x := (.lload_n 2, 1, 0, 0)) rfl 80 [some (.ref r0), some (.int x1), some (.long y2), none, some (.int x4), some (.long y5), none, some (.int x7), some (.int x8), some (.long v5), none, none] [.long y2, .long v5] rfl ⟨rfl, rfl, rfl, rfl⟩ ?_
      refine Wp.go (x := (.lcmp, 1, 0, 0)) rfl 81 [some (.ref r0), some (.int x1), some (.long y2), none, some (.int x4), some (.long y5), none, some (.int x7), some (.int x8), some (.long v5), none, none] [.int (lg_cmp v5 y2)] rfl ⟨rfl, rfl, rfl, rfl⟩ ?_
      refine Wp.z_ge rfl rfl ⟨fun c => ?_, fun c => ?_⟩
      · have H := H.1 c
        refine Wp.ii (v := nI 1) rfl rfl (by decide) rfl (L' := [some (.ref r0), some (.int x1), some (.long y2), none, some (.int x4), some (.long y5), none, some (.int x7), some (.int (x8 + nI 1)), some (.long v5), none, none]) rfl ?_
        refine Wp.go (x := (.goto (-162), 3, 51, 0)) rfl 51 [some (.ref r0), some (.int x1), some (.long y2), none, some (.int x4), some (.long y5), none, some (.int x7), some (.int (x8 + nI 1)), some (.long v5), none, none] [] rfl ⟨rfl, rfl, rfl, rfl⟩ ?_
        exact Wp.wk (L := [some (.ref r0), some (.int x1), some (.long y2), none, some (.int x4), some (.long y5), none, some (.int x7), some (.int (x8 + nI 1)), none, none, none]) ⟨Or.inr rfl, Or.inr rfl, Or.inr rfl, Or.inr rfl, Or.inr rfl, Or.inr rfl, Or.inr rfl, Or.inr rfl, Or.inr rfl, Or.inl rfl, Or.inr rfl, Or.inr rfl, trivial⟩ H
      · have H := H.2 c
        refine Wp.go (x := (.lload 9, 2, 0, 0)) rfl 86 [some (.ref r0), some (.int x1), some (.long y2), none, some (.int x4), some (.long y5), none, some (.int x7), some (.int x8), some (.long v5), none, none] [.long v5] rfl ⟨rfl, rfl, rfl, rfl⟩ ?_
        refine Wp.go (x := (.lstore_n 2, 1, 0, 0)) rfl 87 [some (.ref r0), some (.int x1), some (.long v5), none, some (.int x4), some (.long y5), none, some (.int x7), some (.int x8), some (.long v5), none, none] [] rfl ⟨rfl, rfl, rfl, rfl⟩ ?_
        refine Wp.go (x := (.aload_n 0, 1, 0, 0)) rfl 88 [some (.ref r0), some (.int x1), some (.long v5), none, some (.int x4), some (.long y5), none, some (.int x7), some (.int x8), some (.long v5), none, none] [.ref r0] rfl ⟨rfl, rfl, rfl, rfl⟩ ?_
        refine Wp.gI rfl rfl hn_r0 rfl ⟨by decide, by decide⟩ ?_
        refine Wp.go (x := (.istore 4, 2, 0, 0)) rfl 93 [some (.ref r0), some (.int x1), some (.long v5), none, some (.int (I6 r0 11)), some (.long y5), none, some (.int x7), some (.int x8), some (.long v5), none, none] [] rfl ⟨rfl, rfl, rfl, rfl⟩ ?_
        refine Wp.go (x := (.aload_n 0, 1, 0, 0)) rfl 94 [some (.ref r0), some (.int x1), some (.long v5), none, some (.int (I6 r0 11)), some (.long y5), none, some (.int x7), some (.int x8), some (.long v5), none, none] [.ref r0] rfl ⟨rfl, rfl, rfl, rfl⟩ ?_
        refine Wp.gJ rfl rfl hn_r0 rfl rfl ?_
        refine Wp.go (x := (.lstore 5, 2, 0, 0)) rfl 99 [some (.ref r0), some (.int x1), some (.long v5), none, some (.int (I6 r0 11)), some (.long (J7 r0 16)), none, some (.int x7), some (.int x8), some (.long v5), none, none] [] rfl ⟨rfl, rfl, rfl, rfl⟩ ?_
        refine Wp.go (x := (.aload_n 0, 1, 0, 0)) rfl 100 [some (.ref r0), some (.int x1), some (.long v5), none, some (.int (I6 r0 11)), some (.long (J7 r0 16)), none, some (.int x7), some (.int x8), some (.long v5), none, none] [.ref r0] rfl ⟨rfl, rfl, rfl, rfl⟩ ?_
        refine Wp.gI rfl rfl hn_r0 rfl ⟨by decide, by decide⟩ ?_
        refine Wp.go (x := (.istore 7, 2, 0, 0)) rfl 105 [some (.ref r0), some (.int x1), some (.long v5), none, some (.int (I6 r0 11)), some (.long (J7 r0 16)), none, some (.int (I6 r0 17)), some (.int x8), some (.long v5), none, none] [] rfl ⟨rfl, rfl, rfl, rfl⟩ ?_
        refine Wp.ic (v := nI 0) rfl rfl (by decide) ?_
        refine Wp.go (x := (.istore 11, 2, 0, 0)) rfl 108 [some (.ref r0), some (.int x1), some (.long v5), none, some (.int (I6 r0 11)), some (.long (J7 r0 16)), none, some (.int (I6 r0 17)), some (.int x8), some (.long v5), none, some (.int (nI 0))] [] rfl ⟨rfl, rfl, rfl, rfl⟩ ?_
        exact Wp.wk (L := [some (.ref r0), some (.int x1), some (.long v5), none, some (.int (I6 r0 11)), some (.long (J7 r0 16)), none, some (.int (I6 r0 17)), some (.int x8), none, none, some (.int (nI 0))]) ⟨Or.inr rfl, Or.inr rfl, Or.inr rfl, Or.inr rfl, Or.inr rfl, Or.inr rfl, Or.inr rfl, Or.inr rfl, Or.inr rfl, Or.inl rfl, Or.inr rfl, Or.inr rfl, trivial⟩ H
set_option maxRecDepth 20000 in
theorem wX11_rounds_108 {d : Nat} {Q : Option Value × xS → Prop} {K : Nat → Nat × Nat} {P : List Nat × Nat × Nat} {I : Nat → Nat → Int32} {J : Nat → Nat → Int64} {F : Nat → Nat → Option Nat} {r0 : Nat} {x1 : Int32} {y2 : Int64} {x4 : Int32} {y5 : Int64} {x7 : Int32} {x8 : Int32} {x11 : Int32} {n_r0 : Nat} {f1 : Nat} {f2 : Nat} {n_f2 : Nat} {n_f1 : Nat} (hK : ∀ {a k n : Nat}, K a = (k, n) → n < 2147483648) (hn_r0 : K r0 = (10, n_r0)) (hf1 : F r0 40 = some f1) (hf2 : F r0 4 = some f2) (hn_f2 : K f2 = (100, n_f2)) (hn_f1 : K f1 = (100, n_f1)) (H : (((nI 1024) ≤ x11 → Wp d 145 139 [some (.ref r0), some (.int x1), some (.long y2), none, some (.int x4), some (.long y5), none, some (.int x7), some (.int x8), none, none, some (.int (nI 0))] [] (K, P, I, J, F) Q) ∧ (¬ (nI 1024) ≤ x11 → (∃ j3 : Nat, x11 = nI j3 ∧ j3 < n_f2 ∧ (∃ j4 : Nat, x11 = nI j4 ∧ j4 < n_f1 ∧ Wp d 145 108 [some (.ref r0), some (.int x1), some (.long y2), none, some (.int x4), some (.long y5), none, some (.int x7), some (.int x8), none, none, some (.int (x11 + nI 1))] [] (K, P, (xup I f1 j4 (I f2 j3)), J, F) Q))))) : Wp d 145 108 [some (.ref r0), some (.int x1), some (.long y2), none, some (.int x4), some (.long y5), none, some (.int x7), some (.int x8), none, none, some (.int x11)] [] (K, P, I, J, F) Q := by
  refine Wp.go (x := (.iload 11, 2, 0, 0)) rfl 110 [some (.ref r0), some (.int x1), some (.long y2), none, some (.int x4), some (.long y5), none, some (.int x7), some (.int x8), none, none, some (.int x11)] [.int x11] rfl ⟨rfl, rfl, rfl, rfl⟩ ?_
  refine Wp.sp (v := nI 1024) rfl rfl (by decide) ?_
  refine Wp.c_ge rfl rfl ⟨fun c => ?_, fun c => ?_⟩
  · have H := H.1 c
    refine Wp.ic (v := nI 0) rfl rfl (by decide) ?_
    refine Wp.go (x := (.istore 11, 2, 0, 0)) rfl 139 [some (.ref r0), some (.int x1), some (.long y2), none, some (.int x4), some (.long y5), none, some (.int x7), some (.int x8), none, none, some (.int (nI 0))] [] rfl ⟨rfl, rfl, rfl, rfl⟩ ?_
    exact H
  · have H := H.2 c
    refine Wp.go (x := (.aload_n 0, 1, 0, 0)) rfl 117 [some (.ref r0), some (.int x1), some (.long y2), none, some (.int x4), some (.long y5), none, some (.int x7), some (.int x8), none, none, some (.int x11)] [.ref r0] rfl ⟨rfl, rfl, rfl, rfl⟩ ?_
    refine Wp.gR rfl rfl hn_r0 rfl rfl hf1 ?_
    refine Wp.go (x := (.iload 11, 2, 0, 0)) rfl 122 [some (.ref r0), some (.int x1), some (.long y2), none, some (.int x4), some (.long y5), none, some (.int x7), some (.int x8), none, none, some (.int x11)] [.int x11, .ref f1] rfl ⟨rfl, rfl, rfl, rfl⟩ ?_
    refine Wp.go (x := (.aload_n 0, 1, 0, 0)) rfl 123 [some (.ref r0), some (.int x1), some (.long y2), none, some (.int x4), some (.long y5), none, some (.int x7), some (.int x8), none, none, some (.int x11)] [.ref r0, .int x11, .ref f1] rfl ⟨rfl, rfl, rfl, rfl⟩ ?_
    refine Wp.gR rfl rfl hn_r0 rfl rfl hf2 ?_
    refine Wp.go (x := (.iload 11, 2, 0, 0)) rfl 128 [some (.ref r0), some (.int x1), some (.long y2), none, some (.int x4), some (.long y5), none, some (.int x7), some (.int x8), none, none, some (.int x11)] [.int x11, .ref f2, .int x11, .ref f1] rfl ⟨rfl, rfl, rfl, rfl⟩ ?_
    obtain ⟨j3, e, b, H⟩ := H
    refine Wp.ald rfl rfl hn_f2 (Or.inl rfl) (hK hn_f2) ⟨j3, e, b, ?_⟩
    obtain ⟨j4, e, b, H⟩ := H
    refine Wp.ast rfl rfl hn_f1 (hK hn_f1) ⟨j4, e, b, ?_⟩
    refine Wp.ii (v := nI 1) rfl rfl (by decide) rfl (L' := [some (.ref r0), some (.int x1), some (.long y2), none, some (.int x4), some (.long y5), none, some (.int x7), some (.int x8), none, none, some (.int (x11 + nI 1))]) rfl ?_
    refine Wp.go (x := (.goto (-25), 3, 108, 0)) rfl 108 [some (.ref r0), some (.int x1), some (.long y2), none, some (.int x4), some (.long y5), none, some (.int x7), some (.int x8), none, none, some (.int (x11 + nI 1))] [] rfl ⟨rfl, rfl, rfl, rfl⟩ ?_
    exact H
set_option maxRecDepth 20000 in
theorem wX11_rounds_139 {d : Nat} {Q : Option Value × xS → Prop} {K : Nat → Nat × Nat} {P : List Nat × Nat × Nat} {I : Nat → Nat → Int32} {J : Nat → Nat → Int64} {F : Nat → Nat → Option Nat} {r0 : Nat} {x1 : Int32} {y2 : Int64} {x4 : Int32} {y5 : Int64} {x7 : Int32} {x8 : Int32} {x11 : Int32} {n_r0 : Nat} {f1 : Nat} {f2 : Nat} {n_f2 : Nat} {n_f1 : Nat} {f5 : Nat} {f6 : Nat} {n_f6 : Nat} {n_f5 : Nat} {f9 : Nat} {f10 : Nat} {n_f10 : Nat} {n_f9 : Nat} {f13 : Nat} {f14 : Nat} {n_f14 : Nat} {n_f13 : Nat} (hK : ∀ {a k n : Nat}, K a = (k, n) → n < 2147483648) (hn_r0 : K r0 = (10, n_r0)) (hf1 : F r0 41 = some f1) (hf2 : F r0 12 = some f2) (hn_f2 : K f2 = (100, n_f2)) (hn_f1 : K f1 = (100, n_f1)) (hf5 : F r0 42 = some f5) (hf6 : F r0 13 = some f6) (hn_f6 : K f6 = (100, n_f6)) (hn_f5 : K f5 = (100, n_f5)) (hf9 : F r0 43 = some f9) (hf10 : F r0 14 = some f10) (hn_f10 : K f10 = (100, n_f10)) (hn_f9 : K f9 = (100, n_f9)) (hf13 : F r0 44 = some f13) (hf14 : F r0 15 = some f14) (hn_f14 : K f14 = (100, n_f14)) (hn_f13 : K f13 = (100, n_f13)) (H : (((I r0 11) ≤ x11 → Wp d 145 51 [some (.ref r0), some (.int x1), some (.long y2), none, some (.int x4), some (.long y5), none, some (.int x7), some (.int (x8 + nI 1)), none, none, none] [] (K, P, I, J, F) Q) ∧ (¬ (I r0 11) ≤ x11 → (∃ j3 : Nat, x11 = nI j3 ∧ j3 < n_f2 ∧ (∃ j4 : Nat, x11 = nI j4 ∧ j4 < n_f1 ∧ (∃ j7 : Nat, x11 = nI j7 ∧ j7 < n_f6 ∧ (∃ j8 : Nat, x11 = nI j8 ∧ j8 < n_f5 ∧ (∃ j11 : Nat, x11 = nI j11 ∧ j11 < n_f10 ∧ (∃ j12 : Nat, x11 = nI j12 ∧ j12 < n_f9 ∧ (∃ j15 : Nat, x11 = nI j15 ∧ j15 < n_f14 ∧ (∃ j16 : Nat, x11 = nI j16 ∧ j16 < n_f13 ∧ Wp d 145 139 [some (.ref r0), some (.int x1), some (.long y2), none, some (.int x4), some (.long y5), none, some (.int x7), some (.int x8), none, none, some (.int (x11 + nI 1))] [] (K, P, (xup ((xup ((xup ((xup I f1 j4 (I f2 j3))) f5 j8 (((xup I f1 j4 (I f2 j3))) f6 j7))) f9 j12 (((xup ((xup I f1 j4 (I f2 j3))) f5 j8 (((xup I f1 j4 (I f2 j3))) f6 j7))) f10 j11))) f13 j16 (((xup ((xup ((xup I f1 j4 (I f2 j3))) f5 j8 (((xup I f1 j4 (I f2 j3))) f6 j7))) f9 j12 (((xup ((xup I f1 j4 (I f2 j3))) f5 j8 (((xup I f1 j4 (I f2 j3))) f6 j7))) f10 j11))) f14 j15)), J, F) Q))))))))))) : Wp d 145 139 [some (.ref r0), some (.int x1), some (.long y2), none, some (.int x4), some (.long y5), none, some (.int x7), some (.int x8), none, none, some (.int x11)] [] (K, P, I, J, F) Q := by
  refine Wp.go (x := (.iload 11, 2, 0, 0)) rfl 141 [some (.ref r0), some (.int x1), some (.long y2), none, some (.int x4), some (.long y5), none, some (.int x7), some (.int x8), none, none, some (.int x11)] [.int x11] rfl ⟨rfl, rfl, rfl, rfl⟩ ?_
  refine Wp.go (x := (.aload_n 0, 1, 0, 0)) rfl 142 [some (.ref r0), some (.int x1), some (.long y2), none, some (.int x4), some (.long y5), none, some (.int x7), some (.int x8), none, none, some (.int x11)] [.ref r0, .int x11] rfl ⟨rfl, rfl, rfl, rfl⟩ ?_
  refine Wp.gI rfl rfl hn_r0 rfl ⟨by decide, by decide⟩ ?_
  refine Wp.c_ge rfl rfl ⟨fun c => ?_, fun c => ?_⟩
  · have H := H.1 c
    refine Wp.ii (v := nI 1) rfl rfl (by decide) rfl (L' := [some (.ref r0), some (.int x1), some (.long y2), none, some (.int x4), some (.long y5), none, some (.int x7), some (.int (x8 + nI 1)), none, none, some (.int x11)]) rfl ?_
    refine Wp.go (x := (.goto (-162), 3, 51, 0)) rfl 51 [some (.ref r0), some (.int x1), some (.long y2), none, some (.int x4), some (.long y5), none, some (.int x7), some (.int (x8 + nI 1)), none, none, some (.int x11)] [] rfl ⟨rfl, rfl, rfl, rfl⟩ ?_
    exact Wp.wk (L := [some (.ref r0), some (.int x1), some (.long y2), none, some (.int x4), some (.long y5), none, some (.int x7), some (.int (x8 + nI 1)), none, none, none]) ⟨Or.inr rfl, Or.inr rfl, Or.inr rfl, Or.inr rfl, Or.inr rfl, Or.inr rfl, Or.inr rfl, Or.inr rfl, Or.inr rfl, Or.inr rfl, Or.inr rfl, Or.inl rfl, trivial⟩ H
  · have H := H.2 c
    refine Wp.go (x := (.aload_n 0, 1, 0, 0)) rfl 149 [some (.ref r0), some (.int x1), some (.long y2), none, some (.int x4), some (.long y5), none, some (.int x7), some (.int x8), none, none, some (.int x11)] [.ref r0] rfl ⟨rfl, rfl, rfl, rfl⟩ ?_
    refine Wp.gR rfl rfl hn_r0 rfl rfl hf1 ?_
    refine Wp.go (x := (.iload 11, 2, 0, 0)) rfl 154 [some (.ref r0), some (.int x1), some (.long y2), none, some (.int x4), some (.long y5), none, some (.int x7), some (.int x8), none, none, some (.int x11)] [.int x11, .ref f1] rfl ⟨rfl, rfl, rfl, rfl⟩ ?_
    refine Wp.go (x := (.aload_n 0, 1, 0, 0)) rfl 155 [some (.ref r0), some (.int x1), some (.long y2), none, some (.int x4), some (.long y5), none, some (.int x7), some (.int x8), none, none, some (.int x11)] [.ref r0, .int x11, .ref f1] rfl ⟨rfl, rfl, rfl, rfl⟩ ?_
    refine Wp.gR rfl rfl hn_r0 rfl rfl hf2 ?_
    refine Wp.go (x := (.iload 11, 2, 0, 0)) rfl 160 [some (.ref r0), some (.int x1), some (.long y2), none, some (.int x4), some (.long y5), none, some (.int x7), some (.int x8), none, none, some (.int x11)] [.int x11, .ref f2, .int x11, .ref f1] rfl ⟨rfl, rfl, rfl, rfl⟩ ?_
    obtain ⟨j3, e, b, H⟩ := H
    refine Wp.ald rfl rfl hn_f2 (Or.inl rfl) (hK hn_f2) ⟨j3, e, b, ?_⟩
    obtain ⟨j4, e, b, H⟩ := H
    refine Wp.ast rfl rfl hn_f1 (hK hn_f1) ⟨j4, e, b, ?_⟩
    refine Wp.go (x := (.aload_n 0, 1, 0, 0)) rfl 163 [some (.ref r0), some (.int x1), some (.long y2), none, some (.int x4), some (.long y5), none, some (.int x7), some (.int x8), none, none, some (.int x11)] [.ref r0] rfl ⟨rfl, rfl, rfl, rfl⟩ ?_
    refine Wp.gR rfl rfl hn_r0 rfl rfl hf5 ?_
    refine Wp.go (x := (.iload 11, 2, 0, 0)) rfl 168 [some (.ref r0), some (.int x1), some (.long y2), none, some (.int x4), some (.long y5), none, some (.int x7), some (.int x8), none, none, some (.int x11)] [.int x11, .ref f5] rfl ⟨rfl, rfl, rfl, rfl⟩ ?_
    refine Wp.go (x := (.aload_n 0, 1, 0, 0)) rfl 169 [some (.ref r0), some (.int x1), some (.long y2), none, some (.int x4), some (.long y5), none, some (.int x7), some (.int x8), none, none, some (.int x11)] [.ref r0, .int x11, .ref f5] rfl ⟨rfl, rfl, rfl, rfl⟩ ?_
    refine Wp.gR rfl rfl hn_r0 rfl rfl hf6 ?_
    refine Wp.go (x := (.iload 11, 2, 0, 0)) rfl 174 [some (.ref r0), some (.int x1), some (.long y2), none, some (.int x4), some (.long y5), none, some (.int x7), some (.int x8), none, none, some (.int x11)] [.int x11, .ref f6, .int x11, .ref f5] rfl ⟨rfl, rfl, rfl, rfl⟩ ?_
    obtain ⟨j7, e, b, H⟩ := H
    refine Wp.ald rfl rfl hn_f6 (Or.inl rfl) (hK hn_f6) ⟨j7, e, b, ?_⟩
    obtain ⟨j8, e, b, H⟩ := H
    refine Wp.ast rfl rfl hn_f5 (hK hn_f5) ⟨j8, e, b, ?_⟩
    refine Wp.go (x := (.aload_n 0, 1, 0, 0)) rfl 177 [some (.ref r0), some (.int x1), some (.long y2), none, some (.int x4), some (.long y5), none, some (.int x7), some (.int x8), none, none, some (.int x11)] [.ref r0] rfl ⟨rfl, rfl, rfl, rfl⟩ ?_
    refine Wp.gR rfl rfl hn_r0 rfl rfl hf9 ?_
    refine Wp.go (x := (.iload 11, 2, 0, 0)) rfl 182 [some (.ref r0), some (.int x1), some (.long y2), none, some (.int x4), some (.long y5), none, some (.int x7), some (.int x8), none, none, some (.int x11)] [.int x11, .ref f9] rfl ⟨rfl, rfl, rfl, rfl⟩ ?_
    refine Wp.go (x := (.aload_n 0, 1, 0, 0)) rfl 183 [some (.ref r0), some (.int x1), some (.long y2), none, some (.int x4), some (.long y5), none, some (.int x7), some (.int x8), none, none, some (.int x11)] [.ref r0, .int x11, .ref f9] rfl ⟨rfl, rfl, rfl, rfl⟩ ?_
    refine Wp.gR rfl rfl hn_r0 rfl rfl hf10 ?_
    refine Wp.go (x := (.iload 11, 2, 0, 0)) rfl 188 [some (.ref r0), some (.int x1), some (.long y2), none, some (.int x4), some (.long y5), none, some (.int x7), some (.int x8), none, none, some (.int x11)] [.int x11, .ref f10, .int x11, .ref f9] rfl ⟨rfl, rfl, rfl, rfl⟩ ?_
    obtain ⟨j11, e, b, H⟩ := H
    refine Wp.ald rfl rfl hn_f10 (Or.inl rfl) (hK hn_f10) ⟨j11, e, b, ?_⟩
    obtain ⟨j12, e, b, H⟩ := H
    refine Wp.ast rfl rfl hn_f9 (hK hn_f9) ⟨j12, e, b, ?_⟩
    refine Wp.go (x := (.aload_n 0, 1, 0, 0)) rfl 191 [some (.ref r0), some (.int x1), some (.long y2), none, some (.int x4), some (.long y5), none, some (.int x7), some (.int x8), none, none, some (.int x11)] [.ref r0] rfl ⟨rfl, rfl, rfl, rfl⟩ ?_
    refine Wp.gR rfl rfl hn_r0 rfl rfl hf13 ?_
    refine Wp.go (x := (.iload 11, 2, 0, 0)) rfl 196 [some (.ref r0), some (.int x1), some (.long y2), none, some (.int x4), some (.long y5), none, some (.int x7), some (.int x8), none, none, some (.int x11)] [.int x11, .ref f13] rfl ⟨rfl, rfl, rfl, rfl⟩ ?_
    refine Wp.go (x := (.aload_n 0, 1, 0, 0)) rfl 197 [some (.ref r0), some (.int x1), some (.long y2), none, some (.int x4), some (.long y5), none, some (.int x7), some (.int x8), none, none, some (.int x11)] [.ref r0, .int x11, .ref f13] rfl ⟨rfl, rfl, rfl, rfl⟩ ?_
    refine Wp.gR rfl rfl hn_r0 rfl rfl hf14 ?_
    refine Wp.go (x := (.iload 11, 2, 0, 0)) rfl 202 [some (.ref r0), some (.int x1), some (.long y2), none, some (.int x4), some (.long y5), none, some (.int x7), some (.int x8), none, none, some (.int x11)] [.int x11, .ref f14, .int x11, .ref f13] rfl ⟨rfl, rfl, rfl, rfl⟩ ?_
    obtain ⟨j15, e, b, H⟩ := H
    refine Wp.ald rfl rfl hn_f14 (Or.inl rfl) (hK hn_f14) ⟨j15, e, b, ?_⟩
    obtain ⟨j16, e, b, H⟩ := H
    refine Wp.ast rfl rfl hn_f13 (hK hn_f13) ⟨j16, e, b, ?_⟩
    refine Wp.ii (v := nI 1) rfl rfl (by decide) rfl (L' := [some (.ref r0), some (.int x1), some (.long y2), none, some (.int x4), some (.long y5), none, some (.int x7), some (.int x8), none, none, some (.int (x11 + nI 1))]) rfl ?_
    refine Wp.go (x := (.goto (-68), 3, 139, 0)) rfl 139 [some (.ref r0), some (.int x1), some (.long y2), none, some (.int x4), some (.long y5), none, some (.int x7), some (.int x8), none, none, some (.int (x11 + nI 1))] [] rfl ⟨rfl, rfl, rfl, rfl⟩ ?_
    exact H
set_option maxRecDepth 20000 in
theorem wX11_rounds_219 {d : Nat} {Q : Option Value × xS → Prop} {K : Nat → Nat × Nat} {P : List Nat × Nat × Nat} {I : Nat → Nat → Int32} {J : Nat → Nat → Int64} {F : Nat → Nat → Option Nat} {r0 : Nat} {y2 : Int64} {x4 : Int32} {y5 : Int64} {x7 : Int32} {x8 : Int32} {n_r0 : Nat} {f1 : Nat} {f2 : Nat} {n_f2 : Nat} {n_f1 : Nat} (hK : ∀ {a k n : Nat}, K a = (k, n) → n < 2147483648) (hn_r0 : K r0 = (10, n_r0)) (hf1 : F r0 4 = some f1) (hf2 : F r0 40 = some f2) (hn_f2 : K f2 = (100, n_f2)) (hn_f1 : K f1 = (100, n_f1)) (H : (((nI 1024) ≤ x8 → Wp d 145 255 [some (.ref r0), none, some (.long y2), none, some (.int x4), some (.long y5), none, some (.int x7), some (.int (nI 0)), none, none, none] [] (K, P, (xup I r0 11 (nI 0)), J, F) Q) ∧ (¬ (nI 1024) ≤ x8 → (∃ j3 : Nat, x8 = nI j3 ∧ j3 < n_f2 ∧ (∃ j4 : Nat, x8 = nI j4 ∧ j4 < n_f1 ∧ Wp d 145 219 [some (.ref r0), none, some (.long y2), none, some (.int x4), some (.long y5), none, some (.int x7), some (.int (x8 + nI 1)), none, none, none] [] (K, P, (xup I f1 j4 (I f2 j3)), J, F) Q))))) : Wp d 145 219 [some (.ref r0), none, some (.long y2), none, some (.int x4), some (.long y5), none, some (.int x7), some (.int x8), none, none, none] [] (K, P, I, J, F) Q := by
  refine Wp.go (x := (.iload 8, 2, 0, 0)) rfl 221 [some (.ref r0), none, some (.long y2), none, some (.int x4), some (.long y5), none, some (.int x7), some (.int x8), none, none, none] [.int x8] rfl ⟨rfl, rfl, rfl, rfl⟩ ?_
  refine Wp.sp (v := nI 1024) rfl rfl (by decide) ?_
  refine Wp.c_ge rfl rfl ⟨fun c => ?_, fun c => ?_⟩
  · have H := H.1 c
    refine Wp.go (x := (.aload_n 0, 1, 0, 0)) rfl 248 [some (.ref r0), none, some (.long y2), none, some (.int x4), some (.long y5), none, some (.int x7), some (.int x8), none, none, none] [.ref r0] rfl ⟨rfl, rfl, rfl, rfl⟩ ?_
    refine Wp.ic (v := nI 0) rfl rfl (by decide) ?_
    refine Wp.pI rfl rfl hn_r0 rfl (Or.inl rfl) ?_
    refine Wp.ic (v := nI 0) rfl rfl (by decide) ?_
    refine Wp.go (x := (.istore 8, 2, 0, 0)) rfl 255 [some (.ref r0), none, some (.long y2), none, some (.int x4), some (.long y5), none, some (.int x7), some (.int (nI 0)), none, none, none] [] rfl ⟨rfl, rfl, rfl, rfl⟩ ?_
    exact H
  · have H := H.2 c
    refine Wp.go (x := (.aload_n 0, 1, 0, 0)) rfl 228 [some (.ref r0), none, some (.long y2), none, some (.int x4), some (.long y5), none, some (.int x7), some (.int x8), none, none, none] [.ref r0] rfl ⟨rfl, rfl, rfl, rfl⟩ ?_
    refine Wp.gR rfl rfl hn_r0 rfl rfl hf1 ?_
    refine Wp.go (x := (.iload 8, 2, 0, 0)) rfl 233 [some (.ref r0), none, some (.long y2), none, some (.int x4), some (.long y5), none, some (.int x7), some (.int x8), none, none, none] [.int x8, .ref f1] rfl ⟨rfl, rfl, rfl, rfl⟩ ?_
    refine Wp.go (x := (.aload_n 0, 1, 0, 0)) rfl 234 [some (.ref r0), none, some (.long y2), none, some (.int x4), some (.long y5), none, some (.int x7), some (.int x8), none, none, none] [.ref r0, .int x8, .ref f1] rfl ⟨rfl, rfl, rfl, rfl⟩ ?_
    refine Wp.gR rfl rfl hn_r0 rfl rfl hf2 ?_
    refine Wp.go (x := (.iload 8, 2, 0, 0)) rfl 239 [some (.ref r0), none, some (.long y2), none, some (.int x4), some (.long y5), none, some (.int x7), some (.int x8), none, none, none] [.int x8, .ref f2, .int x8, .ref f1] rfl ⟨rfl, rfl, rfl, rfl⟩ ?_
    obtain ⟨j3, e, b, H⟩ := H
    refine Wp.ald rfl rfl hn_f2 (Or.inl rfl) (hK hn_f2) ⟨j3, e, b, ?_⟩
    obtain ⟨j4, e, b, H⟩ := H
    refine Wp.ast rfl rfl hn_f1 (hK hn_f1) ⟨j4, e, b, ?_⟩
    refine Wp.ii (v := nI 1) rfl rfl (by decide) rfl (L' := [some (.ref r0), none, some (.long y2), none, some (.int x4), some (.long y5), none, some (.int x7), some (.int (x8 + nI 1)), none, none, none]) rfl ?_
    refine Wp.go (x := (.goto (-25), 3, 219, 0)) rfl 219 [some (.ref r0), none, some (.long y2), none, some (.int x4), some (.long y5), none, some (.int x7), some (.int (x8 + nI 1)), none, none, none] [] rfl ⟨rfl, rfl, rfl, rfl⟩ ?_
    exact H
set_option maxRecDepth 20000 in
theorem wX11_rounds_255 {d : Nat} {Q : Option Value × xS → Prop} {K : Nat → Nat × Nat} {P : List Nat × Nat × Nat} {I : Nat → Nat → Int32} {J : Nat → Nat → Int64} {F : Nat → Nat → Option Nat} {r0 : Nat} {y2 : Int64} {x4 : Int32} {y5 : Int64} {x7 : Int32} {x8 : Int32} {n_r0 : Nat} {f1 : Nat} {n_f1 : Nat} {f3 : Nat} {n_f3 : Nat} {f5 : Nat} {n_f5 : Nat} {f7 : Nat} {n_f7 : Nat} (hK : ∀ {a k n : Nat}, K a = (k, n) → n < 2147483648) (hn_r0 : K r0 = (10, n_r0)) (hf1 : F r0 41 = some f1) (hn_f1 : K f1 = (100, n_f1)) (hf3 : F r0 44 = some f3) (hn_f3 : K f3 = (100, n_f3)) (hf5 : F r0 42 = some f5) (hn_f5 : K f5 = (100, n_f5)) (hf7 : F r0 43 = some f7) (hn_f7 : K f7 = (100, n_f7)) (H : ((x4 ≤ x8 → ((x7 = 0 ∨ x7 = 1) ∧ Q (some (.long y2), (K, P, (xup ((xup I r0 17 x7)) r0 10 (nI 1)), (xup J r0 16 y5), F)))) ∧ (¬ x4 ≤ x8 → (∃ j2 : Nat, x8 = nI j2 ∧ j2 < n_f1 ∧ (∃ j4 : Nat, x8 = nI j4 ∧ j4 < n_f3 ∧ (∃ j6 : Nat, x8 = nI j6 ∧ j6 < n_f5 ∧ (∃ j8 : Nat, x8 = nI j8 ∧ j8 < n_f7 ∧ Wp d 124 0 [some (.ref r0), some (.int (I f1 j2)), some (.int (I f3 j4)), some (.int (I f5 j6)), some (.int (I f7 j8))] [] (K, P, I, J, F) (xrV K P F (fun I9 J10 => Wp (d + 1) 145 255 [some (.ref r0), none, some (.long y2), none, some (.int x4), some (.long y5), none, some (.int x7), some (.int (x8 + nI 1)), none, none, none] [] (K, P, I9, J10, F) Q))))))))) : Wp (d + 1) 145 255 [some (.ref r0), none, some (.long y2), none, some (.int x4), some (.long y5), none, some (.int x7), some (.int x8), none, none, none] [] (K, P, I, J, F) Q := by
  refine Wp.go (x := (.iload 8, 2, 0, 0)) rfl 257 [some (.ref r0), none, some (.long y2), none, some (.int x4), some (.long y5), none, some (.int x7), some (.int x8), none, none, none] [.int x8] rfl ⟨rfl, rfl, rfl, rfl⟩ ?_
  refine Wp.go (x := (.iload 4, 2, 0, 0)) rfl 259 [some (.ref r0), none, some (.long y2), none, some (.int x4), some (.long y5), none, some (.int x7), some (.int x8), none, none, none] [.int x4, .int x8] rfl ⟨rfl, rfl, rfl, rfl⟩ ?_
  refine Wp.c_ge rfl rfl ⟨fun c => ?_, fun c => ?_⟩
  · have H := H.1 c
    refine Wp.go (x := (.aload_n 0, 1, 0, 0)) rfl 301 [some (.ref r0), none, some (.long y2), none, some (.int x4), some (.long y5), none, some (.int x7), some (.int x8), none, none, none] [.ref r0] rfl ⟨rfl, rfl, rfl, rfl⟩ ?_
    refine Wp.go (x := (.lload 5, 2, 0, 0)) rfl 303 [some (.ref r0), none, some (.long y2), none, some (.int x4), some (.long y5), none, some (.int x7), some (.int x8), none, none, none] [.long y5, .ref r0] rfl ⟨rfl, rfl, rfl, rfl⟩ ?_
    refine Wp.pJ rfl rfl hn_r0 rfl rfl ?_
    refine Wp.go (x := (.aload_n 0, 1, 0, 0)) rfl 307 [some (.ref r0), none, some (.long y2), none, some (.int x4), some (.long y5), none, some (.int x7), some (.int x8), none, none, none] [.ref r0] rfl ⟨rfl, rfl, rfl, rfl⟩ ?_
    refine Wp.go (x := (.iload 7, 2, 0, 0)) rfl 309 [some (.ref r0), none, some (.long y2), none, some (.int x4), some (.long y5), none, some (.int x7), some (.int x8), none, none, none] [.int x7, .ref r0] rfl ⟨rfl, rfl, rfl, rfl⟩ ?_
    obtain ⟨z, H⟩ := H
    refine Wp.pI rfl rfl hn_r0 rfl (Or.inr ⟨rfl, z⟩) ?_
    refine Wp.go (x := (.aload_n 0, 1, 0, 0)) rfl 313 [some (.ref r0), none, some (.long y2), none, some (.int x4), some (.long y5), none, some (.int x7), some (.int x8), none, none, none] [.ref r0] rfl ⟨rfl, rfl, rfl, rfl⟩ ?_
    refine Wp.ic (v := nI 1) rfl rfl (by decide) ?_
    refine Wp.pI rfl rfl hn_r0 rfl (Or.inr ⟨rfl, Or.inr rfl⟩) ?_
    refine Wp.go (x := (.lload_n 2, 1, 0, 0)) rfl 318 [some (.ref r0), none, some (.long y2), none, some (.int x4), some (.long y5), none, some (.int x7), some (.int x8), none, none, none] [.long y2] rfl ⟨rfl, rfl, rfl, rfl⟩ ?_
    exact Wp.rJ rfl rfl H
  · have H := H.2 c
    refine Wp.go (x := (.aload_n 0, 1, 0, 0)) rfl 263 [some (.ref r0), none, some (.long y2), none, some (.int x4), some (.long y5), none, some (.int x7), some (.int x8), none, none, none] [.ref r0] rfl ⟨rfl, rfl, rfl, rfl⟩ ?_
    refine Wp.go (x := (.aload_n 0, 1, 0, 0)) rfl 264 [some (.ref r0), none, some (.long y2), none, some (.int x4), some (.long y5), none, some (.int x7), some (.int x8), none, none, none] [.ref r0, .ref r0] rfl ⟨rfl, rfl, rfl, rfl⟩ ?_
    refine Wp.gR rfl rfl hn_r0 rfl rfl hf1 ?_
    refine Wp.go (x := (.iload 8, 2, 0, 0)) rfl 269 [some (.ref r0), none, some (.long y2), none, some (.int x4), some (.long y5), none, some (.int x7), some (.int x8), none, none, none] [.int x8, .ref f1, .ref r0] rfl ⟨rfl, rfl, rfl, rfl⟩ ?_
    obtain ⟨j2, e, b, H⟩ := H
    refine Wp.ald rfl rfl hn_f1 (Or.inl rfl) (hK hn_f1) ⟨j2, e, b, ?_⟩
    refine Wp.go (x := (.aload_n 0, 1, 0, 0)) rfl 271 [some (.ref r0), none, some (.long y2), none, some (.int x4), some (.long y5), none, some (.int x7), some (.int x8), none, none, none] [.ref r0, .int (I f1 j2), .ref r0] rfl ⟨rfl, rfl, rfl, rfl⟩ ?_
    refine Wp.gR rfl rfl hn_r0 rfl rfl hf3 ?_
    refine Wp.go (x := (.iload 8, 2, 0, 0)) rfl 276 [some (.ref r0), none, some (.long y2), none, some (.int x4), some (.long y5), none, some (.int x7), some (.int x8), none, none, none] [.int x8, .ref f3, .int (I f1 j2), .ref r0] rfl ⟨rfl, rfl, rfl, rfl⟩ ?_
    obtain ⟨j4, e, b, H⟩ := H
    refine Wp.ald rfl rfl hn_f3 (Or.inl rfl) (hK hn_f3) ⟨j4, e, b, ?_⟩
    refine Wp.go (x := (.aload_n 0, 1, 0, 0)) rfl 278 [some (.ref r0), none, some (.long y2), none, some (.int x4), some (.long y5), none, some (.int x7), some (.int x8), none, none, none] [.ref r0, .int (I f3 j4), .int (I f1 j2), .ref r0] rfl ⟨rfl, rfl, rfl, rfl⟩ ?_
    refine Wp.gR rfl rfl hn_r0 rfl rfl hf5 ?_
    refine Wp.go (x := (.iload 8, 2, 0, 0)) rfl 283 [some (.ref r0), none, some (.long y2), none, some (.int x4), some (.long y5), none, some (.int x7), some (.int x8), none, none, none] [.int x8, .ref f5, .int (I f3 j4), .int (I f1 j2), .ref r0] rfl ⟨rfl, rfl, rfl, rfl⟩ ?_
    obtain ⟨j6, e, b, H⟩ := H
    refine Wp.ald rfl rfl hn_f5 (Or.inl rfl) (hK hn_f5) ⟨j6, e, b, ?_⟩
    refine Wp.go (x := (.aload_n 0, 1, 0, 0)) rfl 285 [some (.ref r0), none, some (.long y2), none, some (.int x4), some (.long y5), none, some (.int x7), some (.int x8), none, none, none] [.ref r0, .int (I f5 j6), .int (I f3 j4), .int (I f1 j2), .ref r0] rfl ⟨rfl, rfl, rfl, rfl⟩ ?_
    refine Wp.gR rfl rfl hn_r0 rfl rfl hf7 ?_
    refine Wp.go (x := (.iload 8, 2, 0, 0)) rfl 290 [some (.ref r0), none, some (.long y2), none, some (.int x4), some (.long y5), none, some (.int x7), some (.int x8), none, none, none] [.int x8, .ref f7, .int (I f5 j6), .int (I f3 j4), .int (I f1 j2), .ref r0] rfl ⟨rfl, rfl, rfl, rfl⟩ ?_
    obtain ⟨j8, e, b, H⟩ := H
    refine Wp.ald rfl rfl hn_f7 (Or.inl rfl) (hK hn_f7) ⟨j8, e, b, ?_⟩
    refine Wp.kV (x := (.invokevirtual 208, 3, 124, 5)) (j := 124) (vs := [.ref r0, .int (I f1 j2), .int (I f3 j4), .int (I f5 j6), .int (I f7 j8)]) (rest := []) rfl (by show xtg 124 (K r0).1 = _; rw [hn_r0]; rfl) rfl ⟨Nat.le_of_ble_eq_true rfl, Nat.le_of_ble_eq_true rfl, Nat.le_of_ble_eq_true rfl⟩ rfl rfl rfl H (fun I9 J10 H => ?_)
    refine Wp.ii (v := nI 1) rfl rfl (by decide) rfl (L' := [some (.ref r0), none, some (.long y2), none, some (.int x4), some (.long y5), none, some (.int x7), some (.int (x8 + nI 1)), none, none, none]) rfl ?_
    refine Wp.go (x := (.goto (-42), 3, 255, 0)) rfl 255 [some (.ref r0), none, some (.long y2), none, some (.int x4), some (.long y5), none, some (.int x7), some (.int (x8 + nI 1)), none, none, none] [] rfl ⟨rfl, rfl, rfl, rfl⟩ ?_
    exact H
set_option maxRecDepth 20000 in
theorem wX11_step_0 {d : Nat} {Q : Option Value × xS → Prop} {K : Nat → Nat × Nat} {P : List Nat × Nat × Nat} {I : Nat → Nat → Int32} {J : Nat → Nat → Int64} {F : Nat → Nat → Option Nat} {r0 : Nat} {x1 : Int32} {x2 : Int32} {n_r0 : Nat} {f1 : Nat} {n_f1 : Nat} {f3 : Nat} {n_f3 : Nat} {f5 : Nat} {n_f5 : Nat} {f7 : Nat} {n_f7 : Nat} (hK : ∀ {a k n : Nat}, K a = (k, n) → n < 2147483648) (hn_r0 : K r0 = (10, n_r0)) (hf1 : F r0 15 = some f1) (hn_f1 : K f1 = (100, n_f1)) (hf3 : F r0 14 = some f3) (hn_f3 : K f3 = (100, n_f3)) (hf5 : F r0 13 = some f5) (hn_f5 : K f5 = (100, n_f5)) (hf7 : F r0 12 = some f7) (hn_f7 : K f7 = (100, n_f7)) (H : (((((xup I r0 0 (nI 0))) r0 10) = 0 → Q (some (.int ((-1))), (K, P, (xup I r0 0 (nI 0)), J, F))) ∧ (¬ (((xup I r0 0 (nI 0))) r0 10) = 0 → ((x1 < 0 → Q (some (.int ((-1))), (K, P, (xup I r0 0 (nI 0)), J, F))) ∧ (¬ x1 < 0 → (((((xup I r0 0 (nI 0))) r0 11) ≤ x1 → Q (some (.int ((-1))), (K, P, (xup I r0 0 (nI 0)), J, F))) ∧ (¬ (((xup I r0 0 (nI 0))) r0 11) ≤ x1 → ((x2 < 0 → Q (some (.int ((-1))), (K, P, (xup I r0 0 (nI 0)), J, F))) ∧ (¬ x2 < 0 → ((x2 ≤ (nI 3) → ((¬ x2 = 0 → ((¬ x2 = (nI 1) → ((¬ x2 = (nI 2) → (∃ j2 : Nat, x1 = nI j2 ∧ j2 < n_f1 ∧ Q (some (.int (((xup I r0 0 (nI 0))) f1 j2)), (K, P, (xup I r0 0 (nI 0)), J, F)))) ∧ (x2 = (nI 2) → (∃ j4 : Nat, x1 = nI j4 ∧ j4 < n_f3 ∧ Q (some (.int (((xup I r0 0 (nI 0))) f3 j4)), (K, P, (xup I r0 0 (nI 0)), J, F)))))) ∧ (x2 = (nI 1) → (∃ j6 : Nat, x1 = nI j6 ∧ j6 < n_f5 ∧ Q (some (.int (((xup I r0 0 (nI 0))) f5 j6)), (K, P, (xup I r0 0 (nI 0)), J, F)))))) ∧ (x2 = 0 → (∃ j8 : Nat, x1 = nI j8 ∧ j8 < n_f7 ∧ Q (some (.int (((xup I r0 0 (nI 0))) f7 j8)), (K, P, (xup I r0 0 (nI 0)), J, F)))))) ∧ (¬ x2 ≤ (nI 3) → Q (some (.int ((-1))), (K, P, (xup I r0 0 (nI 0)), J, F))))))))))))) : Wp d 146 0 [some (.ref r0), some (.int x1), some (.int x2)] [] (K, P, I, J, F) Q := by
  refine Wp.go (x := (.aload_n 0, 1, 0, 0)) rfl 1 [some (.ref r0), some (.int x1), some (.int x2)] [.ref r0] rfl ⟨rfl, rfl, rfl, rfl⟩ ?_
  refine Wp.ic (v := nI 0) rfl rfl (by decide) ?_
  refine Wp.pI rfl rfl hn_r0 rfl (Or.inl rfl) ?_
  refine Wp.go (x := (.aload_n 0, 1, 0, 0)) rfl 6 [some (.ref r0), some (.int x1), some (.int x2)] [.ref r0] rfl ⟨rfl, rfl, rfl, rfl⟩ ?_
  refine Wp.gI rfl rfl hn_r0 rfl ⟨by decide, by decide⟩ ?_
  refine Wp.z_eq rfl rfl ⟨fun c => ?_, fun c => ?_⟩
  · have H := H.1 c
    refine Wp.ic (v := (-1)) rfl rfl (by decide) ?_
    exact Wp.rI rfl rfl H
  · have H := H.2 c
    refine Wp.go (x := (.iload_n 1, 1, 0, 0)) rfl 13 [some (.ref r0), some (.int x1), some (.int x2)] [.int x1] rfl ⟨rfl, rfl, rfl, rfl⟩ ?_
    refine Wp.z_lt rfl rfl ⟨fun c => ?_, fun c => ?_⟩
    · have H := H.1 c
      refine Wp.ic (v := (-1)) rfl rfl (by decide) ?_
      exact Wp.rI rfl rfl H
    · have H := H.2 c
      refine Wp.go (x := (.iload_n 1, 1, 0, 0)) rfl 17 [some (.ref r0), some (.int x1), some (.int x2)] [.int x1] rfl ⟨rfl, rfl, rfl, rfl⟩ ?_
      refine Wp.go (x := (.aload_n 0, 1, 0, 0)) rfl 18 [some (.ref r0), some (.int x1), some (.int x2)] [.ref r0, .int x1] rfl ⟨rfl, rfl, rfl, rfl⟩ ?_
      refine Wp.gI rfl rfl hn_r0 rfl ⟨by decide, by decide⟩ ?_
      refine Wp.c_ge rfl rfl ⟨fun c => ?_, fun c => ?_⟩
      · have H := H.1 c
        refine Wp.ic (v := (-1)) rfl rfl (by decide) ?_
        exact Wp.rI rfl rfl H
      · have H := H.2 c
        refine Wp.go (x := (.iload_n 2, 1, 0, 0)) rfl 25 [some (.ref r0), some (.int x1), some (.int x2)] [.int x2] rfl ⟨rfl, rfl, rfl, rfl⟩ ?_
        refine Wp.z_lt rfl rfl ⟨fun c => ?_, fun c => ?_⟩
        · have H := H.1 c
          refine Wp.ic (v := (-1)) rfl rfl (by decide) ?_
          exact Wp.rI rfl rfl H
        · have H := H.2 c
          refine Wp.go (x := (.iload_n 2, 1, 0, 0)) rfl 29 [some (.ref r0), some (.int x1), some (.int x2)] [.int x2] rfl ⟨rfl, rfl, rfl, rfl⟩ ?_
          refine Wp.ic (v := nI 3) rfl rfl (by decide) ?_
          refine Wp.c_le rfl rfl ⟨fun c => ?_, fun c => ?_⟩
          · have H := H.1 c
            refine Wp.go (x := (.iload_n 2, 1, 0, 0)) rfl 36 [some (.ref r0), some (.int x1), some (.int x2)] [.int x2] rfl ⟨rfl, rfl, rfl, rfl⟩ ?_
            refine Wp.z_ne rfl rfl ⟨fun c => ?_, fun c => ?_⟩
            · have H := H.1 c
              refine Wp.go (x := (.iload_n 2, 1, 0, 0)) rfl 49 [some (.ref r0), some (.int x1), some (.int x2)] [.int x2] rfl ⟨rfl, rfl, rfl, rfl⟩ ?_
              refine Wp.ic (v := nI 1) rfl rfl (by decide) ?_
              refine Wp.c_ne rfl rfl ⟨fun c => ?_, fun c => ?_⟩
              · have H := H.1 c
                refine Wp.go (x := (.iload_n 2, 1, 0, 0)) rfl 63 [some (.ref r0), some (.int x1), some (.int x2)] [.int x2] rfl ⟨rfl, rfl, rfl, rfl⟩ ?_
                refine Wp.ic (v := nI 2) rfl rfl (by decide) ?_
                refine Wp.c_ne rfl rfl ⟨fun c => ?_, fun c => ?_⟩
                · have H := H.1 c
                  refine Wp.go (x := (.aload_n 0, 1, 0, 0)) rfl 77 [some (.ref r0), some (.int x1), some (.int x2)] [.ref r0] rfl ⟨rfl, rfl, rfl, rfl⟩ ?_
                  refine Wp.gR rfl rfl hn_r0 rfl rfl hf1 ?_
                  refine Wp.go (x := (.iload_n 1, 1, 0, 0)) rfl 81 [some (.ref r0), some (.int x1), some (.int x2)] [.int x1, .ref f1] rfl ⟨rfl, rfl, rfl, rfl⟩ ?_
                  obtain ⟨j2, e, b, H⟩ := H
                  refine Wp.ald rfl rfl hn_f1 (Or.inl rfl) (hK hn_f1) ⟨j2, e, b, ?_⟩
                  exact Wp.rI rfl rfl H
                · have H := H.2 c
                  refine Wp.go (x := (.aload_n 0, 1, 0, 0)) rfl 68 [some (.ref r0), some (.int x1), some (.int x2)] [.ref r0] rfl ⟨rfl, rfl, rfl, rfl⟩ ?_
                  refine Wp.gR rfl rfl hn_r0 rfl rfl hf3 ?_
                  refine Wp.go (x := (.iload_n 1, 1, 0, 0)) rfl 72 [some (.ref r0), some (.int x1), some (.int x2)] [.int x1, .ref f3] rfl ⟨rfl, rfl, rfl, rfl⟩ ?_
                  obtain ⟨j4, e, b, H⟩ := H
                  refine Wp.ald rfl rfl hn_f3 (Or.inl rfl) (hK hn_f3) ⟨j4, e, b, ?_⟩
                  refine Wp.go (x := (.goto 9, 3, 82, 0)) rfl 82 [some (.ref r0), some (.int x1), some (.int x2)] [.int (((xup I r0 0 (nI 0))) f3 j4)] rfl ⟨rfl, rfl, rfl, rfl⟩ ?_
                  exact Wp.rI rfl rfl H
              · have H := H.2 c
                refine Wp.go (x := (.aload_n 0, 1, 0, 0)) rfl 54 [some (.ref r0), some (.int x1), some (.int x2)] [.ref r0] rfl ⟨rfl, rfl, rfl, rfl⟩ ?_
                refine Wp.gR rfl rfl hn_r0 rfl rfl hf5 ?_
                refine Wp.go (x := (.iload_n 1, 1, 0, 0)) rfl 58 [some (.ref r0), some (.int x1), some (.int x2)] [.int x1, .ref f5] rfl ⟨rfl, rfl, rfl, rfl⟩ ?_
                obtain ⟨j6, e, b, H⟩ := H
                refine Wp.ald rfl rfl hn_f5 (Or.inl rfl) (hK hn_f5) ⟨j6, e, b, ?_⟩
                refine Wp.go (x := (.goto 23, 3, 82, 0)) rfl 82 [some (.ref r0), some (.int x1), some (.int x2)] [.int (((xup I r0 0 (nI 0))) f5 j6)] rfl ⟨rfl, rfl, rfl, rfl⟩ ?_
                exact Wp.rI rfl rfl H
            · have H := H.2 c
              refine Wp.go (x := (.aload_n 0, 1, 0, 0)) rfl 40 [some (.ref r0), some (.int x1), some (.int x2)] [.ref r0] rfl ⟨rfl, rfl, rfl, rfl⟩ ?_
              refine Wp.gR rfl rfl hn_r0 rfl rfl hf7 ?_
              refine Wp.go (x := (.iload_n 1, 1, 0, 0)) rfl 44 [some (.ref r0), some (.int x1), some (.int x2)] [.int x1, .ref f7] rfl ⟨rfl, rfl, rfl, rfl⟩ ?_
              obtain ⟨j8, e, b, H⟩ := H
              refine Wp.ald rfl rfl hn_f7 (Or.inl rfl) (hK hn_f7) ⟨j8, e, b, ?_⟩
              refine Wp.go (x := (.goto 37, 3, 82, 0)) rfl 82 [some (.ref r0), some (.int x1), some (.int x2)] [.int (((xup I r0 0 (nI 0))) f7 j8)] rfl ⟨rfl, rfl, rfl, rfl⟩ ?_
              exact Wp.rI rfl rfl H
          · have H := H.2 c
            refine Wp.ic (v := (-1)) rfl rfl (by decide) ?_
            exact Wp.rI rfl rfl H
set_option maxRecDepth 20000 in
theorem wX11_sum_0 {d : Nat} {Q : Option Value × xS → Prop} {K : Nat → Nat × Nat} {P : List Nat × Nat × Nat} {I : Nat → Nat → Int32} {J : Nat → Nat → Int64} {F : Nat → Nat → Option Nat} {r0 : Nat} {n_r0 : Nat} (hn_r0 : K r0 = (10, n_r0)) (H : (((((xup I r0 0 (nI 0))) r0 10) = 0 → Q (some (.long ((-1))), (K, P, (xup I r0 0 (nI 0)), J, F))) ∧ (¬ (((xup I r0 0 (nI 0))) r0 10) = 0 → Q (some (.long (J r0 16)), (K, P, (xup I r0 0 (nI 0)), J, F))))) : Wp d 147 0 [some (.ref r0)] [] (K, P, I, J, F) Q := by
  refine Wp.go (x := (.aload_n 0, 1, 0, 0)) rfl 1 [some (.ref r0)] [.ref r0] rfl ⟨rfl, rfl, rfl, rfl⟩ ?_
  refine Wp.ic (v := nI 0) rfl rfl (by decide) ?_
  refine Wp.pI rfl rfl hn_r0 rfl (Or.inl rfl) ?_
  refine Wp.go (x := (.aload_n 0, 1, 0, 0)) rfl 6 [some (.ref r0)] [.ref r0] rfl ⟨rfl, rfl, rfl, rfl⟩ ?_
  refine Wp.gI rfl rfl hn_r0 rfl ⟨by decide, by decide⟩ ?_
  refine Wp.z_eq rfl rfl ⟨fun c => ?_, fun c => ?_⟩
  · have H := H.1 c
    refine Wp.ldcj (v := (-1)) rfl rfl (by first | rfl | decide) ?_
    exact Wp.rJ rfl rfl H
  · have H := H.2 c
    refine Wp.go (x := (.aload_n 0, 1, 0, 0)) rfl 13 [some (.ref r0)] [.ref r0] rfl ⟨rfl, rfl, rfl, rfl⟩ ?_
    refine Wp.gJ rfl rfl hn_r0 rfl rfl ?_
    refine Wp.go (x := (.goto 6, 3, 22, 0)) rfl 22 [some (.ref r0)] [.long (J r0 16)] rfl ⟨rfl, rfl, rfl, rfl⟩ ?_
    exact Wp.rJ rfl rfl H
set_option maxRecDepth 20000 in
theorem wX11_again_0 {d : Nat} {Q : Option Value × xS → Prop} {K : Nat → Nat × Nat} {P : List Nat × Nat × Nat} {I : Nat → Nat → Int32} {J : Nat → Nat → Int64} {F : Nat → Nat → Option Nat} {r0 : Nat} {n_r0 : Nat} (hn_r0 : K r0 = (10, n_r0)) (H : (((((xup I r0 0 (nI 0))) r0 10) = 0 → Q (some (.long ((-1))), (K, P, (xup I r0 0 (nI 0)), J, F))) ∧ (¬ (((xup I r0 0 (nI 0))) r0 10) = 0 → Wp d 120 0 [some (.ref r0), none, none, none, none] [] (K, P, (xup I r0 0 (nI 0)), J, F) (xrJ K P F (fun v1 I2 J3 => Q (some (.long v1), (K, P, I2, J3, F))))))) : Wp (d + 1) 148 0 [some (.ref r0)] [] (K, P, I, J, F) Q := by
  refine Wp.go (x := (.aload_n 0, 1, 0, 0)) rfl 1 [some (.ref r0)] [.ref r0] rfl ⟨rfl, rfl, rfl, rfl⟩ ?_
  refine Wp.ic (v := nI 0) rfl rfl (by decide) ?_
  refine Wp.pI rfl rfl hn_r0 rfl (Or.inl rfl) ?_
  refine Wp.go (x := (.aload_n 0, 1, 0, 0)) rfl 6 [some (.ref r0)] [.ref r0] rfl ⟨rfl, rfl, rfl, rfl⟩ ?_
  refine Wp.gI rfl rfl hn_r0 rfl ⟨by decide, by decide⟩ ?_
  refine Wp.z_eq rfl rfl ⟨fun c => ?_, fun c => ?_⟩
  · have H := H.1 c
    refine Wp.ldcj (v := (-1)) rfl rfl (by first | rfl | decide) ?_
    exact Wp.rJ rfl rfl H
  · have H := H.2 c
    refine Wp.go (x := (.aload_n 0, 1, 0, 0)) rfl 13 [some (.ref r0)] [.ref r0] rfl ⟨rfl, rfl, rfl, rfl⟩ ?_
    refine Wp.kJ (x := (.invokevirtual 216, 3, 120, 1)) (j := 120) (vs := [.ref r0]) (rest := []) rfl (by show xtg 120 (K r0).1 = _; rw [hn_r0]; rfl) rfl ⟨Nat.le_of_ble_eq_true rfl, Nat.le_of_ble_eq_true rfl, Nat.le_of_ble_eq_true rfl⟩ rfl rfl rfl H (fun v1 I2 J3 H => ?_)
    refine Wp.go (x := (.goto 6, 3, 22, 0)) rfl 22 [some (.ref r0)] [.long v1] rfl ⟨rfl, rfl, rfl, rfl⟩ ?_
    exact Wp.rJ rfl rfl H
set_option maxRecDepth 20000 in
theorem wX11_least_0 {d : Nat} {Q : Option Value × xS → Prop} {K : Nat → Nat × Nat} {P : List Nat × Nat × Nat} {I : Nat → Nat → Int32} {J : Nat → Nat → Int64} {F : Nat → Nat → Option Nat} {r0 : Nat} {n_r0 : Nat} (hn_r0 : K r0 = (10, n_r0)) (H : (((((xup I r0 0 (nI 0))) r0 10) = 0 → Q (some (.int (nI 0)), (K, P, (xup I r0 0 (nI 0)), J, F))) ∧ (¬ (((xup I r0 0 (nI 0))) r0 10) = 0 → (((((xup I r0 0 (nI 0))) r0 17) = 0 → Q (some (.int (nI 0)), (K, P, (xup I r0 0 (nI 0)), J, F))) ∧ (¬ (((xup I r0 0 (nI 0))) r0 17) = 0 → Q (some (.int (nI 1)), (K, P, (xup I r0 0 (nI 0)), J, F))))))) : Wp d 149 0 [some (.ref r0)] [] (K, P, I, J, F) Q := by
  refine Wp.go (x := (.aload_n 0, 1, 0, 0)) rfl 1 [some (.ref r0)] [.ref r0] rfl ⟨rfl, rfl, rfl, rfl⟩ ?_
  refine Wp.ic (v := nI 0) rfl rfl (by decide) ?_
  refine Wp.pI rfl rfl hn_r0 rfl (Or.inl rfl) ?_
  refine Wp.go (x := (.aload_n 0, 1, 0, 0)) rfl 6 [some (.ref r0)] [.ref r0] rfl ⟨rfl, rfl, rfl, rfl⟩ ?_
  refine Wp.gI rfl rfl hn_r0 rfl ⟨by decide, by decide⟩ ?_
  refine Wp.z_eq rfl rfl ⟨fun c => ?_, fun c => ?_⟩
  · have H := H.1 c
    refine Wp.ic (v := nI 0) rfl rfl (by decide) ?_
    exact Wp.rZ rfl rfl (Or.inl rfl) H
  · have H := H.2 c
    refine Wp.go (x := (.aload_n 0, 1, 0, 0)) rfl 13 [some (.ref r0)] [.ref r0] rfl ⟨rfl, rfl, rfl, rfl⟩ ?_
    refine Wp.gI rfl rfl hn_r0 rfl ⟨by decide, by decide⟩ ?_
    refine Wp.z_eq rfl rfl ⟨fun c => ?_, fun c => ?_⟩
    · have H := H.1 c
      refine Wp.ic (v := nI 0) rfl rfl (by decide) ?_
      exact Wp.rZ rfl rfl (Or.inl rfl) H
    · have H := H.2 c
      refine Wp.ic (v := nI 1) rfl rfl (by decide) ?_
      refine Wp.go (x := (.goto 4, 3, 24, 0)) rfl 24 [some (.ref r0)] [.int (nI 1)] rfl ⟨rfl, rfl, rfl, rfl⟩ ?_
      exact Wp.rZ rfl rfl (Or.inr rfl) H
