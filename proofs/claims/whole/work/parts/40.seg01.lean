set_option maxRecDepth 20000 in
theorem wX1_fitClass_21 {d : Nat} {Q : Option Value × xS → Prop} {K : Nat → Nat × Nat} {P : List Nat × Nat × Nat} {I : Nat → Nat → Int32} {J : Nat → Nat → Int64} {F : Nat → Nat → Option Nat} {r0 : Nat} {x1 : Int32} {x2 : Int32} {x3 : Int32} {x4 : Int32} {n_c1 : Nat} {n_c2 : Nat} {n_r0 : Nat} {f6 : Nat} {n_f6 : Nat} (hK : ∀ {a k n : Nat}, K a = (k, n) → n < 2147483648) (hn_c1 : K 1 = (103, n_c1)) (hn_c2 : K 2 = (103, n_c2)) (hn_r0 : K r0 = (2, n_r0)) (hf6 : F r0 2 = some f6) (hn_f6 : K f6 = (100, n_f6)) (H : ((x2 ≤ x4 → (∃ j1 : Nat, x1 = nI j1 ∧ j1 < n_c1 ∧ Wp d 94 0 [some (.int (x3 + (I 1 j1))), none] [] (K, P, I, J, F) (xrI K P F (fun v2 I3 J4 => (∃ j5 : Nat, x1 = nI j5 ∧ j5 < n_c2 ∧ Wp (d + 1) 24 62 [some (.ref r0), none, some (.int x2), none, some (.int v2), some (.int (I3 2 j5))] [] (K, P, I3, J4, F) Q))))) ∧ (¬ x2 ≤ x4 → (∃ j7 : Nat, x4 = nI j7 ∧ j7 < n_f6 ∧ Wp (d + 1) 24 21 [some (.ref r0), some (.int x1), some (.int x2), some (.int (x3 + (I f6 j7))), some (.int (x4 + nI 1)), none] [] (K, P, I, J, F) Q)))) : Wp (d + 1) 24 21 [some (.ref r0), some (.int x1), some (.int x2), some (.int x3), some (.int x4), none] [] (K, P, I, J, F) Q := by
  refine Wp.go (x := (.iload 4, 2, 0, 0)) rfl 23 [some (.ref r0), some (.int x1), some (.int x2), some (.int x3), some (.int x4), none] [.int x4] rfl ⟨rfl, rfl, rfl, rfl⟩ ?_
  refine Wp.go (x := (.iload_n 2, 1, 0, 0)) rfl 24 [some (.ref r0), some (.int x1), some (.int x2), some (.int x3), some (.int x4), none] [.int x2, .int x4] rfl ⟨rfl, rfl, rfl, rfl⟩ ?_
  refine Wp.c_ge rfl rfl ⟨fun c => ?_, fun c => ?_⟩
  · have H := H.1 c
    refine Wp.go (x := (.iload_n 3, 1, 0, 0)) rfl 44 [some (.ref r0), some (.int x1), some (.int x2), some (.int x3), some (.int x4), none] [.int x3] rfl ⟨rfl, rfl, rfl, rfl⟩ ?_
    refine Wp.gst rfl rfl ?_
    refine Wp.go (x := (.iload_n 1, 1, 0, 0)) rfl 48 [some (.ref r0), some (.int x1), some (.int x2), some (.int x3), some (.int x4), none] [.int x1, .ref 1, .int x3] rfl ⟨rfl, rfl, rfl, rfl⟩ ?_
    obtain ⟨j1, e, b, H⟩ := H
    refine Wp.ald rfl rfl hn_c1 (Or.inr rfl) (hK hn_c1) ⟨j1, e, b, ?_⟩
    refine Wp.go (x := (.iadd, 1, 0, 0)) rfl 50 [some (.ref r0), some (.int x1), some (.int x2), some (.int x3), some (.int x4), none] [.int (x3 + (I 1 j1))] rfl ⟨rfl, rfl, rfl, rfl⟩ ?_
    refine Wp.kI (x := (.invokestatic 129, 3, 94, 1)) (j := 94) (vs := [.int (x3 + (I 1 j1))]) (rest := []) rfl rfl rfl ⟨Nat.le_of_ble_eq_true rfl, Nat.le_of_ble_eq_true rfl, Nat.le_of_ble_eq_true rfl⟩ rfl rfl rfl H (fun v2 I3 J4 H => ?_)
    refine Wp.go (x := (.istore 4, 2, 0, 0)) rfl 55 [some (.ref r0), some (.int x1), some (.int x2), some (.int x3), some (.int v2), none] [] rfl ⟨rfl, rfl, rfl, rfl⟩ ?_
    refine Wp.gst rfl rfl ?_
    refine Wp.go (x := (.iload_n 1, 1, 0, 0)) rfl 59 [some (.ref r0), some (.int x1), some (.int x2), some (.int x3), some (.int v2), none] [.int x1, .ref 2] rfl ⟨rfl, rfl, rfl, rfl⟩ ?_
    obtain ⟨j5, e, b, H⟩ := H
    refine Wp.ald rfl rfl hn_c2 (Or.inr rfl) (hK hn_c2) ⟨j5, e, b, ?_⟩
    refine Wp.go (x := (.istore 5, 2, 0, 0)) rfl 62 [some (.ref r0), some (.int x1), some (.int x2), some (.int x3), some (.int v2), some (.int (I3 2 j5))] [] rfl ⟨rfl, rfl, rfl, rfl⟩ ?_
    exact Wp.wk (L := [some (.ref r0), none, some (.int x2), none, some (.int v2), some (.int (I3 2 j5))]) ⟨Or.inr rfl, Or.inl rfl, Or.inr rfl, Or.inl rfl, Or.inr rfl, Or.inr rfl, trivial⟩ H
  · have H := H.2 c
    refine Wp.go (x := (.iload_n 3, 1, 0, 0)) rfl 28 [some (.ref r0), some (.int x1), some (.int x2), some (.int x3), some (.int x4), none] [.int x3] rfl ⟨rfl, rfl, rfl, rfl⟩ ?_
    refine Wp.go (x := (.aload_n 0, 1, 0, 0)) rfl 29 [some (.ref r0), some (.int x1), some (.int x2), some (.int x3), some (.int x4), none] [.ref r0, .int x3] rfl ⟨rfl, rfl, rfl, rfl⟩ ?_
    refine Wp.gR rfl rfl hn_r0 rfl rfl hf6 ?_
    refine Wp.go (x := (.iload 4, 2, 0, 0)) rfl 34 [some (.ref r0), some (.int x1), some (.int x2), some (.int x3), some (.int x4), none] [.int x4, .ref f6, .int x3] rfl ⟨rfl, rfl, rfl, rfl⟩ ?_
    obtain ⟨j7, e, b, H⟩ := H
    refine Wp.ald rfl rfl hn_f6 (Or.inl rfl) (hK hn_f6) ⟨j7, e, b, ?_⟩
    refine Wp.go (x := (.iadd, 1, 0, 0)) rfl 36 [some (.ref r0), some (.int x1), some (.int x2), some (.int x3), some (.int x4), none] [.int (x3 + (I f6 j7))] rfl ⟨rfl, rfl, rfl, rfl⟩ ?_
    refine Wp.go (x := (.istore_n 3, 1, 0, 0)) rfl 37 [some (.ref r0), some (.int x1), some (.int x2), some (.int (x3 + (I f6 j7))), some (.int x4), none] [] rfl ⟨rfl, rfl, rfl, rfl⟩ ?_
    refine Wp.ii (v := nI 1) rfl rfl (by decide) rfl (L' := [some (.ref r0), some (.int x1), some (.int x2), some (.int (x3 + (I f6 j7))), some (.int (x4 + nI 1)), none]) rfl ?_
    refine Wp.go (x := (.goto (-19), 3, 21, 0)) rfl 21 [some (.ref r0), some (.int x1), some (.int x2), some (.int (x3 + (I f6 j7))), some (.int (x4 + nI 1)), none] [] rfl ⟨rfl, rfl, rfl, rfl⟩ ?_
    exact H
set_option maxRecDepth 20000 in
theorem wX1_fitClass_62 {d : Nat} {Q : Option Value × xS → Prop} {K : Nat → Nat × Nat} {P : List Nat × Nat × Nat} {I : Nat → Nat → Int32} {J : Nat → Nat → Int64} {F : Nat → Nat → Option Nat} {r0 : Nat} {x2 : Int32} {x4 : Int32} {x5 : Int32} {n_r0 : Nat} {f1 : Nat} {f2 : Nat} {n_f2 : Nat} {n_f1 : Nat} (hK : ∀ {a k n : Nat}, K a = (k, n) → n < 2147483648) (hn_r0 : K r0 = (2, n_r0)) (hf1 : F r0 1 = some f1) (hf2 : F r0 2 = some f2) (hn_f2 : K f2 = (100, n_f2)) (hn_f1 : K f1 = (100, n_f1)) (H : ((x2 ≤ x5 → Q (none, (K, P, I, J, F))) ∧ (¬ x2 ≤ x5 → (∃ j3 : Nat, x5 = nI j3 ∧ j3 < n_f2 ∧ Wp d 94 0 [some (.int ((I f2 j3) + (nI 1))), none] [] (K, P, I, J, F) (xrI K P F (fun v4 I5 J6 => (∃ j7 : Nat, x5 = nI j7 ∧ j7 < n_f1 ∧ Wp (d + 1) 24 62 [some (.ref r0), none, some (.int x2), none, some (.int x4), some (.int (x5 + nI 1))] [] (K, P, (xup I5 f1 j7 (if (nI 1) < (x4 - v4) then (x4 - v4) else (nI 1))), J6, F) Q))))))) : Wp (d + 1) 24 62 [some (.ref r0), none, some (.int x2), none, some (.int x4), some (.int x5)] [] (K, P, I, J, F) Q := by
  refine Wp.go (x := (.iload 5, 2, 0, 0)) rfl 64 [some (.ref r0), none, some (.int x2), none, some (.int x4), some (.int x5)] [.int x5] rfl ⟨rfl, rfl, rfl, rfl⟩ ?_
  refine Wp.go (x := (.iload_n 2, 1, 0, 0)) rfl 65 [some (.ref r0), none, some (.int x2), none, some (.int x4), some (.int x5)] [.int x2, .int x5] rfl ⟨rfl, rfl, rfl, rfl⟩ ?_
  refine Wp.c_ge rfl rfl ⟨fun c => ?_, fun c => ?_⟩
  · have H := H.1 c
    exact Wp.rV rfl rfl H
  · have H := H.2 c
    refine Wp.go (x := (.aload_n 0, 1, 0, 0)) rfl 69 [some (.ref r0), none, some (.int x2), none, some (.int x4), some (.int x5)] [.ref r0] rfl ⟨rfl, rfl, rfl, rfl⟩ ?_
    refine Wp.gR rfl rfl hn_r0 rfl rfl hf1 ?_
    refine Wp.go (x := (.iload 5, 2, 0, 0)) rfl 74 [some (.ref r0), none, some (.int x2), none, some (.int x4), some (.int x5)] [.int x5, .ref f1] rfl ⟨rfl, rfl, rfl, rfl⟩ ?_
    refine Wp.ic (v := nI 1) rfl rfl (by decide) ?_
    refine Wp.go (x := (.iload 4, 2, 0, 0)) rfl 77 [some (.ref r0), none, some (.int x2), none, some (.int x4), some (.int x5)] [.int x4, .int (nI 1), .int x5, .ref f1] rfl ⟨rfl, rfl, rfl, rfl⟩ ?_
    refine Wp.go (x := (.aload_n 0, 1, 0, 0)) rfl 78 [some (.ref r0), none, some (.int x2), none, some (.int x4), some (.int x5)] [.ref r0, .int x4, .int (nI 1), .int x5, .ref f1] rfl ⟨rfl, rfl, rfl, rfl⟩ ?_
    refine Wp.gR rfl rfl hn_r0 rfl rfl hf2 ?_
    refine Wp.go (x := (.iload 5, 2, 0, 0)) rfl 83 [some (.ref r0), none, some (.int x2), none, some (.int x4), some (.int x5)] [.int x5, .ref f2, .int x4, .int (nI 1), .int x5, .ref f1] rfl ⟨rfl, rfl, rfl, rfl⟩ ?_
    obtain ⟨j3, e, b, H⟩ := H
    refine Wp.ald rfl rfl hn_f2 (Or.inl rfl) (hK hn_f2) ⟨j3, e, b, ?_⟩
    refine Wp.ic (v := nI 1) rfl rfl (by decide) ?_
    refine Wp.go (x := (.iadd, 1, 0, 0)) rfl 86 [some (.ref r0), none, some (.int x2), none, some (.int x4), some (.int x5)] [.int ((I f2 j3) + (nI 1)), .int x4, .int (nI 1), .int x5, .ref f1] rfl ⟨rfl, rfl, rfl, rfl⟩ ?_
    refine Wp.kI (x := (.invokestatic 129, 3, 94, 1)) (j := 94) (vs := [.int ((I f2 j3) + (nI 1))]) (rest := [.int x4, .int (nI 1), .int x5, .ref f1]) rfl rfl rfl ⟨Nat.le_of_ble_eq_true rfl, Nat.le_of_ble_eq_true rfl, Nat.le_of_ble_eq_true rfl⟩ rfl rfl rfl H (fun v4 I5 J6 H => ?_)
    refine Wp.go (x := (.isub, 1, 0, 0)) rfl 90 [some (.ref r0), none, some (.int x2), none, some (.int x4), some (.int x5)] [.int (x4 - v4), .int (nI 1), .int x5, .ref f1] rfl ⟨rfl, rfl, rfl, rfl⟩ ?_
    refine Wp.max rfl rfl (by omega) (Nat.le_of_ble_eq_true rfl) ?_
    obtain ⟨j7, e, b, H⟩ := H
    refine Wp.ast rfl rfl hn_f1 (hK hn_f1) ⟨j7, e, b, ?_⟩
    refine Wp.ii (v := nI 1) rfl rfl (by decide) rfl (L' := [some (.ref r0), none, some (.int x2), none, some (.int x4), some (.int (x5 + nI 1))]) rfl ?_
    refine Wp.go (x := (.goto (-35), 3, 62, 0)) rfl 62 [some (.ref r0), none, some (.int x2), none, some (.int x4), some (.int (x5 + nI 1))] [] rfl ⟨rfl, rfl, rfl, rfl⟩ ?_
    exact H
set_option maxRecDepth 20000 in
theorem wX2_costOf_0 {d : Nat} {Q : Option Value × xS → Prop} {K : Nat → Nat × Nat} {P : List Nat × Nat × Nat} {I : Nat → Nat → Int32} {J : Nat → Nat → Int64} {F : Nat → Nat → Option Nat} {r0 : Nat} {r1 : Nat}  (H : Wp d 26 4 [some (.ref r0), some (.ref r1), some (.int (nI 0)), some (.int (nI 0))] [] (K, P, I, J, F) Q) : Wp d 26 0 [some (.ref r0), some (.ref r1), none, none] [] (K, P, I, J, F) Q := by
  refine Wp.ic (v := nI 0) rfl rfl (by decide) ?_
  refine Wp.go (x := (.istore_n 2, 1, 0, 0)) rfl 2 [some (.ref r0), some (.ref r1), some (.int (nI 0)), none] [] rfl ⟨rfl, rfl, rfl, rfl⟩ ?_
  refine Wp.ic (v := nI 0) rfl rfl (by decide) ?_
  refine Wp.go (x := (.istore_n 3, 1, 0, 0)) rfl 4 [some (.ref r0), some (.ref r1), some (.int (nI 0)), some (.int (nI 0))] [] rfl ⟨rfl, rfl, rfl, rfl⟩ ?_
  exact H
set_option maxRecDepth 20000 in
theorem wX2_costOf_4 {d : Nat} {Q : Option Value × xS → Prop} {K : Nat → Nat × Nat} {P : List Nat × Nat × Nat} {I : Nat → Nat → Int32} {J : Nat → Nat → Int64} {F : Nat → Nat → Option Nat} {r0 : Nat} {r1 : Nat} {x2 : Int32} {x3 : Int32} {n_r1 : Nat} {n_r0 : Nat} {k_r0 : Nat} {f1 : Nat} {f2 : Nat} {n_f1 : Nat} (hn_r1 : K r1 = (5, n_r1)) (hn_r0 : K r0 = (k_r0, n_r0)) (hs_r0 : xsub 11 k_r0 = true) (hf1 : F r0 1 = some f1) (ht_r0_1 : xft k_r0 1 = 3) (hf2 : F r0 0 = some f2) (ht_r0_0 : xft k_r0 0 = 3) (hn_f1 : K f1 = (2, n_f1)) (H : (((I r1 5) ≤ x3 → Q (some (.long x2.toInt64), (K, P, I, J, F))) ∧ (¬ (I r1 5) ≤ x3 → Wp d 16 0 [some (.ref f1), some (.ref r1), some (.int x3), some (.ref f2), none, none] [] (K, P, I, J, F) (xrI K P F (fun v3 I4 J5 => Wp (d + 1) 26 4 [some (.ref r0), some (.ref r1), some (.int (x2 + v3)), some (.int (x3 + nI 1))] [] (K, P, I4, J5, F) Q))))) : Wp (d + 1) 26 4 [some (.ref r0), some (.ref r1), some (.int x2), some (.int x3)] [] (K, P, I, J, F) Q := by
  refine Wp.go (x := (.iload_n 3, 1, 0, 0)) rfl 5 [some (.ref r0), some (.ref r1), some (.int x2), some (.int x3)] [.int x3] rfl ⟨rfl, rfl, rfl, rfl⟩ ?_
  refine Wp.go (x := (.aload_n 1, 1, 0, 0)) rfl 6 [some (.ref r0), some (.ref r1), some (.int x2), some (.int x3)] [.ref r1, .int x3] rfl ⟨rfl, rfl, rfl, rfl⟩ ?_
  refine Wp.gI rfl rfl hn_r1 rfl ⟨by decide, by decide⟩ ?_
  refine Wp.c_ge rfl rfl ⟨fun c => ?_, fun c => ?_⟩
  · have H := H.1 c
    refine Wp.go (x := (.iload_n 2, 1, 0, 0)) rfl 35 [some (.ref r0), some (.ref r1), some (.int x2), some (.int x3)] [.int x2] rfl ⟨rfl, rfl, rfl, rfl⟩ ?_
    refine Wp.go (x := (.i2l, 1, 0, 0)) rfl 36 [some (.ref r0), some (.ref r1), some (.int x2), some (.int x3)] [.long x2.toInt64] rfl ⟨rfl, rfl, rfl, rfl⟩ ?_
    exact Wp.rJ rfl rfl H
  · have H := H.2 c
    refine Wp.go (x := (.iload_n 2, 1, 0, 0)) rfl 13 [some (.ref r0), some (.ref r1), some (.int x2), some (.int x3)] [.int x2] rfl ⟨rfl, rfl, rfl, rfl⟩ ?_
    refine Wp.go (x := (.aload_n 0, 1, 0, 0)) rfl 14 [some (.ref r0), some (.ref r1), some (.int x2), some (.int x3)] [.ref r0, .int x2] rfl ⟨rfl, rfl, rfl, rfl⟩ ?_
    refine Wp.gR rfl rfl hn_r0 hs_r0 ht_r0_1 hf1 ?_
    refine Wp.go (x := (.aload_n 1, 1, 0, 0)) rfl 18 [some (.ref r0), some (.ref r1), some (.int x2), some (.int x3)] [.ref r1, .ref f1, .int x2] rfl ⟨rfl, rfl, rfl, rfl⟩ ?_
    refine Wp.go (x := (.iload_n 3, 1, 0, 0)) rfl 19 [some (.ref r0), some (.ref r1), some (.int x2), some (.int x3)] [.int x3, .ref r1, .ref f1, .int x2] rfl ⟨rfl, rfl, rfl, rfl⟩ ?_
    refine Wp.go (x := (.aload_n 0, 1, 0, 0)) rfl 20 [some (.ref r0), some (.ref r1), some (.int x2), some (.int x3)] [.ref r0, .int x3, .ref r1, .ref f1, .int x2] rfl ⟨rfl, rfl, rfl, rfl⟩ ?_
    refine Wp.gR rfl rfl hn_r0 hs_r0 ht_r0_0 hf2 ?_
    refine Wp.kI (x := (.invokevirtual 23, 3, 16, 4)) (j := 16) (vs := [.ref f1, .ref r1, .int x3, .ref f2]) (rest := [.int x2]) rfl (by show xtg 16 (K f1).1 = _; rw [hn_f1]; rfl) rfl ⟨Nat.le_of_ble_eq_true rfl, Nat.le_of_ble_eq_true rfl, Nat.le_of_ble_eq_true rfl⟩ rfl rfl rfl H (fun v3 I4 J5 H => ?_)
    refine Wp.go (x := (.iadd, 1, 0, 0)) rfl 27 [some (.ref r0), some (.ref r1), some (.int x2), some (.int x3)] [.int (x2 + v3)] rfl ⟨rfl, rfl, rfl, rfl⟩ ?_
    refine Wp.go (x := (.istore_n 2, 1, 0, 0)) rfl 28 [some (.ref r0), some (.ref r1), some (.int (x2 + v3)), some (.int x3)] [] rfl ⟨rfl, rfl, rfl, rfl⟩ ?_
    refine Wp.ii (v := nI 1) rfl rfl (by decide) rfl (L' := [some (.ref r0), some (.ref r1), some (.int (x2 + v3)), some (.int (x3 + nI 1))]) rfl ?_
    refine Wp.go (x := (.goto (-27), 3, 4, 0)) rfl 4 [some (.ref r0), some (.ref r1), some (.int (x2 + v3)), some (.int (x3 + nI 1))] [] rfl ⟨rfl, rfl, rfl, rfl⟩ ?_
    exact H
set_option maxRecDepth 20000 in
theorem wX3_at_0 {d : Nat} {Q : Option Value × xS → Prop} {K : Nat → Nat × Nat} {P : List Nat × Nat × Nat} {I : Nat → Nat → Int32} {J : Nat → Nat → Int64} {F : Nat → Nat → Option Nat} {y0 : Int64} {x2 : Int32}  (H : Q (some (.int ((((y0.toUInt64 >>> (((nI 9) * ((nI 3) - x2)).toInt64.toUInt64 &&& Int64.toUInt64 63)).toInt64).toInt32) &&& (nI 511))), (K, P, I, J, F))) : Wp d 27 0 [some (.long y0), none, some (.int x2)] [] (K, P, I, J, F) Q := by
  refine Wp.go (x := (.lload_n 0, 1, 0, 0)) rfl 1 [some (.long y0), none, some (.int x2)] [.long y0] rfl ⟨rfl, rfl, rfl, rfl⟩ ?_
  refine Wp.bp (v := nI 9) rfl rfl (by decide) ?_
  refine Wp.ic (v := nI 3) rfl rfl (by decide) ?_
  refine Wp.go (x := (.iload_n 2, 1, 0, 0)) rfl 5 [some (.long y0), none, some (.int x2)] [.int x2, .int (nI 3), .int (nI 9), .long y0] rfl ⟨rfl, rfl, rfl, rfl⟩ ?_
  refine Wp.go (x := (.isub, 1, 0, 0)) rfl 6 [some (.long y0), none, some (.int x2)] [.int ((nI 3) - x2), .int (nI 9), .long y0] rfl ⟨rfl, rfl, rfl, rfl⟩ ?_
  refine Wp.go (x := (.imul, 1, 0, 0)) rfl 7 [some (.long y0), none, some (.int x2)] [.int ((nI 9) * ((nI 3) - x2)), .long y0] rfl ⟨rfl, rfl, rfl, rfl⟩ ?_
  refine Wp.go (x := (.lushr, 1, 0, 0)) rfl 8 [some (.long y0), none, some (.int x2)] [.long ((y0.toUInt64 >>> (((nI 9) * ((nI 3) - x2)).toInt64.toUInt64 &&& Int64.toUInt64 63)).toInt64)] rfl ⟨rfl, rfl, rfl, rfl⟩ ?_
  refine Wp.go (x := (.l2i, 1, 0, 0)) rfl 9 [some (.long y0), none, some (.int x2)] [.int (((y0.toUInt64 >>> (((nI 9) * ((nI 3) - x2)).toInt64.toUInt64 &&& Int64.toUInt64 63)).toInt64).toInt32)] rfl ⟨rfl, rfl, rfl, rfl⟩ ?_
  refine Wp.sp (v := nI 511) rfl rfl (by decide) ?_
  refine Wp.go (x := (.iand, 1, 0, 0)) rfl 13 [some (.long y0), none, some (.int x2)] [.int ((((y0.toUInt64 >>> (((nI 9) * ((nI 3) - x2)).toInt64.toUInt64 &&& Int64.toUInt64 63)).toInt64).toInt32) &&& (nI 511))] rfl ⟨rfl, rfl, rfl, rfl⟩ ?_
  exact Wp.rI rfl rfl H
set_option maxRecDepth 20000 in
theorem wX3_behindCopy_0 {d : Nat} {Q : Option Value × xS → Prop} {K : Nat → Nat × Nat} {P : List Nat × Nat × Nat} {I : Nat → Nat → Int32} {J : Nat → Nat → Int64} {F : Nat → Nat → Option Nat} {y0 : Int64} {x2 : Int32}  (H : Q (some (.long ((x2.toInt64 <<< ((nI 27).toInt64 &&& 63)) ||| ((y0.toUInt64 >>> ((nI 9).toInt64.toUInt64 &&& Int64.toUInt64 63)).toInt64))), (K, P, I, J, F))) : Wp d 28 0 [some (.long y0), none, some (.int x2)] [] (K, P, I, J, F) Q := by
  refine Wp.go (x := (.iload_n 2, 1, 0, 0)) rfl 1 [some (.long y0), none, some (.int x2)] [.int x2] rfl ⟨rfl, rfl, rfl, rfl⟩ ?_
  refine Wp.go (x := (.i2l, 1, 0, 0)) rfl 2 [some (.long y0), none, some (.int x2)] [.long x2.toInt64] rfl ⟨rfl, rfl, rfl, rfl⟩ ?_
  refine Wp.bp (v := nI 27) rfl rfl (by decide) ?_
  refine Wp.go (x := (.lshl, 1, 0, 0)) rfl 5 [some (.long y0), none, some (.int x2)] [.long (x2.toInt64 <<< ((nI 27).toInt64 &&& 63))] rfl ⟨rfl, rfl, rfl, rfl⟩ ?_
  refine Wp.go (x := (.lload_n 0, 1, 0, 0)) rfl 6 [some (.long y0), none, some (.int x2)] [.long y0, .long (x2.toInt64 <<< ((nI 27).toInt64 &&& 63))] rfl ⟨rfl, rfl, rfl, rfl⟩ ?_
  refine Wp.bp (v := nI 9) rfl rfl (by decide) ?_
  refine Wp.go (x := (.lushr, 1, 0, 0)) rfl 9 [some (.long y0), none, some (.int x2)] [.long ((y0.toUInt64 >>> ((nI 9).toInt64.toUInt64 &&& Int64.toUInt64 63)).toInt64), .long (x2.toInt64 <<< ((nI 27).toInt64 &&& 63))] rfl ⟨rfl, rfl, rfl, rfl⟩ ?_
  refine Wp.go (x := (.lor, 1, 0, 0)) rfl 10 [some (.long y0), none, some (.int x2)] [.long ((x2.toInt64 <<< ((nI 27).toInt64 &&& 63)) ||| ((y0.toUInt64 >>> ((nI 9).toInt64.toUInt64 &&& Int64.toUInt64 63)).toInt64))] rfl ⟨rfl, rfl, rfl, rfl⟩ ?_
  exact Wp.rJ rfl rfl H
set_option maxRecDepth 20000 in
theorem wX3_behindAgain_0 {d : Nat} {Q : Option Value × xS → Prop} {K : Nat → Nat × Nat} {P : List Nat × Nat × Nat} {I : Nat → Nat → Int32} {J : Nat → Nat → Int64} {F : Nat → Nat → Option Nat} {y0 : Int64} {x2 : Int32}  (H : Wp d 27 0 [some (.long y0), none, some (.int x2)] [] (K, P, I, J, F) (xrI K P F (fun v1 I2 J3 => Q (some (.long (((v1.toInt64 <<< ((nI 27).toInt64 &&& 63)) ||| (((y0.toUInt64 >>> ((((nI 9) * ((nI 3) - x2)) + (nI 9)).toInt64.toUInt64 &&& Int64.toUInt64 63)).toInt64) <<< (((nI 9) * ((nI 3) - x2)).toInt64 &&& 63))) ||| (y0 &&& (((lN 1) <<< (((nI 9) * ((nI 3) - x2)).toInt64 &&& 63)) - (lN 1))))), (K, P, I2, J3, F))))) : Wp (d + 1) 29 0 [some (.long y0), none, some (.int x2), none, none, none, none, none] [] (K, P, I, J, F) Q := by
  refine Wp.bp (v := nI 9) rfl rfl (by decide) ?_
  refine Wp.ic (v := nI 3) rfl rfl (by decide) ?_
  refine Wp.go (x := (.iload_n 2, 1, 0, 0)) rfl 4 [some (.long y0), none, some (.int x2), none, none, none, none, none] [.int x2, .int (nI 3), .int (nI 9)] rfl ⟨rfl, rfl, rfl, rfl⟩ ?_
  refine Wp.go (x := (.isub, 1, 0, 0)) rfl 5 [some (.long y0), none, some (.int x2), none, none, none, none, none] [.int ((nI 3) - x2), .int (nI 9)] rfl ⟨rfl, rfl, rfl, rfl⟩ ?_
  refine Wp.go (x := (.imul, 1, 0, 0)) rfl 6 [some (.long y0), none, some (.int x2), none, none, none, none, none] [.int ((nI 9) * ((nI 3) - x2))] rfl ⟨rfl, rfl, rfl, rfl⟩ ?_
  refine Wp.go (x := (.istore_n 3, 1, 0, 0)) rfl 7 [some (.long y0), none, some (.int x2), some (.int ((nI 9) * ((nI 3) - x2))), none, none, none, none] [] rfl ⟨rfl, rfl, rfl, rfl⟩ ?_
  refine Wp.go (x := (.lload_n 0, 1, 0, 0)) rfl 8 [some (.long y0), none, some (.int x2), some (.int ((nI 9) * ((nI 3) - x2))), none, none, none, none] [.long y0] rfl ⟨rfl, rfl, rfl, rfl⟩ ?_
  refine Wp.lc (v := lN 1) rfl rfl (by first | rfl | decide) ?_
  refine Wp.go (x := (.iload_n 3, 1, 0, 0)) rfl 10 [some (.long y0), none, some (.int x2), some (.int ((nI 9) * ((nI 3) - x2))), none, none, none, none] [.int ((nI 9) * ((nI 3) - x2)), .long (lN 1), .long y0] rfl ⟨rfl, rfl, rfl, rfl⟩ ?_
  refine Wp.go (x := (.lshl, 1, 0, 0)) rfl 11 [some (.long y0), none, some (.int x2), some (.int ((nI 9) * ((nI 3) - x2))), none, none, none, none] [.long ((lN 1) <<< (((nI 9) * ((nI 3) - x2)).toInt64 &&& 63)), .long y0] rfl ⟨rfl, rfl, rfl, rfl⟩ ?_
  refine Wp.lc (v := lN 1) rfl rfl (by first | rfl | decide) ?_
  refine Wp.go (x := (.lsub, 1, 0, 0)) rfl 13 [some (.long y0), none, some (.int x2), some (.int ((nI 9) * ((nI 3) - x2))), none, none, none, none] [.long (((lN 1) <<< (((nI 9) * ((nI 3) - x2)).toInt64 &&& 63)) - (lN 1)), .long y0] rfl ⟨rfl, rfl, rfl, rfl⟩ ?_
  refine Wp.go (x := (.land, 1, 0, 0)) rfl 14 [some (.long y0), none, some (.int x2), some (.int ((nI 9) * ((nI 3) - x2))), none, none, none, none] [.long (y0 &&& (((lN 1) <<< (((nI 9) * ((nI 3) - x2)).toInt64 &&& 63)) - (lN 1)))] rfl ⟨rfl, rfl, rfl, rfl⟩ ?_
  refine Wp.go (x := (.lstore 4, 2, 0, 0)) rfl 16 [some (.long y0), none, some (.int x2), some (.int ((nI 9) * ((nI 3) - x2))), some (.long (y0 &&& (((lN 1) <<< (((nI 9) * ((nI 3) - x2)).toInt64 &&& 63)) - (lN 1)))), none, none, none] [] rfl ⟨rfl, rfl, rfl, rfl⟩ ?_
  refine Wp.go (x := (.lload_n 0, 1, 0, 0)) rfl 17 [some (.long y0), none, some (.int x2), some (.int ((nI 9) * ((nI 3) - x2))), some (.long (y0 &&& (((lN 1) <<< (((nI 9) * ((nI 3) - x2)).toInt64 &&& 63)) - (lN 1)))), none, none, none] [.long y0] rfl ⟨rfl, rfl, rfl, rfl⟩ ?_
  refine Wp.go (x := (.iload_n 3, 1, 0, 0)) rfl 18 [some (.long y0), none, some (.int x2), some (.int ((nI 9) * ((nI 3) - x2))), some (.long (y0 &&& (((lN 1) <<< (((nI 9) * ((nI 3) - x2)).toInt64 &&& 63)) - (lN 1)))), none, none, none] [.int ((nI 9) * ((nI 3) - x2)), .long y0] rfl ⟨rfl, rfl, rfl, rfl⟩ ?_
  refine Wp.bp (v := nI 9) rfl rfl (by decide) ?_
  refine Wp.go (x := (.iadd, 1, 0, 0)) rfl 21 [some (.long y0), none, some (.int x2), some (.int ((nI 9) * ((nI 3) - x2))), some (.long (y0 &&& (((lN 1) <<< (((nI 9) * ((nI 3) - x2)).toInt64 &&& 63)) - (lN 1)))), none, none, none] [.int (((nI 9) * ((nI 3) - x2)) + (nI 9)), .long y0] rfl ⟨rfl, rfl, rfl, rfl⟩ ?_
  refine Wp.go (x := (.lushr, 1, 0, 0)) rfl 22 [some (.long y0), none, some (.int x2), some (.int ((nI 9) * ((nI 3) - x2))), some (.long (y0 &&& (((lN 1) <<< (((nI 9) * ((nI 3) - x2)).toInt64 &&& 63)) - (lN 1)))), none, none, none] [.long ((y0.toUInt64 >>> ((((nI 9) * ((nI 3) - x2)) + (nI 9)).toInt64.toUInt64 &&& Int64.toUInt64 63)).toInt64)] rfl ⟨rfl, rfl, rfl, rfl⟩ ?_
  refine Wp.go (x := (.iload_n 3, 1, 0, 0)) rfl 23 [some (.long y0), none, some (.int x2), some (.int ((nI 9) * ((nI 3) - x2))), some (.long (y0 &&& (((lN 1) <<< (((nI 9) * ((nI 3) - x2)).toInt64 &&& 63)) - (lN 1)))), none, none, none] [.int ((nI 9) * ((nI 3) - x2)), .long ((y0.toUInt64 >>> ((((nI 9) * ((nI 3) - x2)) + (nI 9)).toInt64.toUInt64 &&& Int64.toUInt64 63)).toInt64)] rfl ⟨rfl, rfl, rfl, rfl⟩ ?_
  refine Wp.go (x := (.lshl, 1, 0, 0)) rfl 24 [some (.long y0), none, some (.int x2), some (.int ((nI 9) * ((nI 3) - x2))), some (.long (y0 &&& (((lN 1) <<< (((nI 9) * ((nI 3) - x2)).toInt64 &&& 63)) - (lN 1)))), none, none, none] [.long (((y0.toUInt64 >>> ((((nI 9) * ((nI 3) - x2)) + (nI 9)).toInt64.toUInt64 &&& Int64.toUInt64 63)).toInt64) <<< (((nI 9) * ((nI 3) - x2)).toInt64 &&& 63))] rfl ⟨rfl, rfl, rfl, rfl⟩ ?_
  refine Wp.go (x := (.lstore 6, 2, 0, 0)) rfl 26 [some (.long y0), none, some (.int x2), some (.int ((nI 9) * ((nI 3) - x2))), some (.long (y0 &&& (((lN 1) <<< (((nI 9) * ((nI 3) - x2)).toInt64 &&& 63)) - (lN 1)))), none, some (.long (((y0.toUInt64 >>> ((((nI 9) * ((nI 3) - x2)) + (nI 9)).toInt64.toUInt64 &&& Int64.toUInt64 63)).toInt64) <<< (((nI 9) * ((nI 3) - x2)).toInt64 &&& 63))), none] [] rfl ⟨rfl, rfl, rfl, rfl⟩ ?_
  refine Wp.go (x := (.lload_n 0, 1, 0, 0)) rfl 27 [some (.long y0), none, some (.int x2), some (.int ((nI 9) * ((nI 3) - x2))), some (.long (y0 &&& (((lN 1) <<< (((nI 9) * ((nI 3) - x2)).toInt64 &&& 63)) - (lN 1)))), none, some (.long (((y0.toUInt64 >>> ((((nI 9) * ((nI 3) - x2)) + (nI 9)).toInt64.toUInt64 &&& Int64.toUInt64 63)).toInt64) <<< (((nI 9) * ((nI 3) - x2)).toInt64 &&& 63))), none] [.long y0] rfl ⟨rfl, rfl, rfl, rfl⟩ ?_
  refine Wp.go (x := (.iload_n 2, 1, 0, 0)) rfl 28 [some (.long y0), none, some (.int x2), some (.int ((nI 9) * ((nI 3) - x2))), some (.long (y0 &&& (((lN 1) <<< (((nI 9) * ((nI 3) - x2)).toInt64 &&& 63)) - (lN 1)))), none, some (.long (((y0.toUInt64 >>> ((((nI 9) * ((nI 3) - x2)) + (nI 9)).toInt64.toUInt64 &&& Int64.toUInt64 63)).toInt64) <<< (((nI 9) * ((nI 3) - x2)).toInt64 &&& 63))), none] [.int x2, .long y0] rfl ⟨rfl, rfl, rfl, rfl⟩ ?_
  refine Wp.kI (x := (.invokestatic 9, 3, 27, 2)) (j := 27) (vs := [.long y0, .int x2]) (rest := []) rfl rfl rfl ⟨Nat.le_of_ble_eq_true rfl, Nat.le_of_ble_eq_true rfl, Nat.le_of_ble_eq_true rfl⟩ rfl rfl rfl H (fun v1 I2 J3 H => ?_)
  refine Wp.go (x := (.i2l, 1, 0, 0)) rfl 32 [some (.long y0), none, some (.int x2), some (.int ((nI 9) * ((nI 3) - x2))), some (.long (y0 &&& (((lN 1) <<< (((nI 9) * ((nI 3) - x2)).toInt64 &&& 63)) - (lN 1)))), none, some (.long (((y0.toUInt64 >>> ((((nI 9) * ((nI 3) - x2)) + (nI 9)).toInt64.toUInt64 &&& Int64.toUInt64 63)).toInt64) <<< (((nI 9) * ((nI 3) - x2)).toInt64 &&& 63))), none] [.long v1.toInt64] rfl ⟨rfl, rfl, rfl, rfl⟩ ?_
  refine Wp.bp (v := nI 27) rfl rfl (by decide) ?_
  refine Wp.go (x := (.lshl, 1, 0, 0)) rfl 35 [some (.long y0), none, some (.int x2), some (.int ((nI 9) * ((nI 3) - x2))), some (.long (y0 &&& (((lN 1) <<< (((nI 9) * ((nI 3) - x2)).toInt64 &&& 63)) - (lN 1)))), none, some (.long (((y0.toUInt64 >>> ((((nI 9) * ((nI 3) - x2)) + (nI 9)).toInt64.toUInt64 &&& Int64.toUInt64 63)).toInt64) <<< (((nI 9) * ((nI 3) - x2)).toInt64 &&& 63))), none] [.long (v1.toInt64 <<< ((nI 27).toInt64 &&& 63))] rfl ⟨rfl, rfl, rfl, rfl⟩ ?_
  refine Wp.go (x := (.lload 6, 2, 0, 0)) rfl 37 [some (.long y0), none, some (.int x2), some (.int ((nI 9) * ((nI 3) - x2))), some (.long (y0 &&& (((lN 1) <<< (((nI 9) * ((nI 3) - x2)).toInt64 &&& 63)) - (lN 1)))), none, some (.long (((y0.toUInt64 >>> ((((nI 9) * ((nI 3) - x2)) + (nI 9)).toInt64.toUInt64 &&& Int64.toUInt64 63)).toInt64) <<< (((nI 9) * ((nI 3) - x2)).toInt64 &&& 63))), none] [.long (((y0.toUInt64 >>> ((((nI 9) * ((nI 3) - x2)) + (nI 9)).toInt64.toUInt64 &&& Int64.toUInt64 63)).toInt64) <<< (((nI 9) * ((nI 3) - x2)).toInt64 &&& 63)), .long (v1.toInt64 <<< ((nI 27).toInt64 &&& 63))] rfl ⟨rfl, rfl, rfl, rfl⟩ ?_
  refine Wp.go (x := (.lor, 1, 0, 0)) rfl 38 [some (.long y0), none, some (.int x2), some (.int ((nI 9) * ((nI 3) - x2))), some (.long (y0 &&& (((lN 1) <<< (((nI 9) * ((nI 3) - x2)).toInt64 &&& 63)) - (lN 1)))), none, some (.long (((y0.toUInt64 >>> ((((nI 9) * ((nI 3) - x2)) + (nI 9)).toInt64.toUInt64 &&& Int64.toUInt64 63)).toInt64) <<< (((nI 9) * ((nI 3) - x2)).toInt64 &&& 63))), none] [.long ((v1.toInt64 <<< ((nI 27).toInt64 &&& 63)) ||| (((y0.toUInt64 >>> ((((nI 9) * ((nI 3) - x2)) + (nI 9)).toInt64.toUInt64 &&& Int64.toUInt64 63)).toInt64) <<< (((nI 9) * ((nI 3) - x2)).toInt64 &&& 63)))] rfl ⟨rfl, rfl, rfl, rfl⟩ ?_
  refine Wp.go (x := (.lload 4, 2, 0, 0)) rfl 40 [some (.long y0), none, some (.int x2), some (.int ((nI 9) * ((nI 3) - x2))), some (.long (y0 &&& (((lN 1) <<< (((nI 9) * ((nI 3) - x2)).toInt64 &&& 63)) - (lN 1)))), none, some (.long (((y0.toUInt64 >>> ((((nI 9) * ((nI 3) - x2)) + (nI 9)).toInt64.toUInt64 &&& Int64.toUInt64 63)).toInt64) <<< (((nI 9) * ((nI 3) - x2)).toInt64 &&& 63))), none] [.long (y0 &&& (((lN 1) <<< (((nI 9) * ((nI 3) - x2)).toInt64 &&& 63)) - (lN 1))), .long ((v1.toInt64 <<< ((nI 27).toInt64 &&& 63)) ||| (((y0.toUInt64 >>> ((((nI 9) * ((nI 3) - x2)) + (nI 9)).toInt64.toUInt64 &&& Int64.toUInt64 63)).toInt64) <<< (((nI 9) * ((nI 3) - x2)).toInt64 &&& 63)))] rfl ⟨rfl, rfl, rfl, rfl⟩ ?_
  refine Wp.go (x := (.lor, 1, 0, 0)) rfl 41 [some (.long y0), none, some (.int x2), some (.int ((nI 9) * ((nI 3) - x2))), some (.long (y0 &&& (((lN 1) <<< (((nI 9) * ((nI 3) - x2)).toInt64 &&& 63)) - (lN 1)))), none, some (.long (((y0.toUInt64 >>> ((((nI 9) * ((nI 3) - x2)) + (nI 9)).toInt64.toUInt64 &&& Int64.toUInt64 63)).toInt64) <<< (((nI 9) * ((nI 3) - x2)).toInt64 &&& 63))), none] [.long (((v1.toInt64 <<< ((nI 27).toInt64 &&& 63)) ||| (((y0.toUInt64 >>> ((((nI 9) * ((nI 3) - x2)) + (nI 9)).toInt64.toUInt64 &&& Int64.toUInt64 63)).toInt64) <<< (((nI 9) * ((nI 3) - x2)).toInt64 &&& 63))) ||| (y0 &&& (((lN 1) <<< (((nI 9) * ((nI 3) - x2)).toInt64 &&& 63)) - (lN 1))))] rfl ⟨rfl, rfl, rfl, rfl⟩ ?_
  exact Wp.rJ rfl rfl H
set_option maxRecDepth 20000 in
theorem wX4_findBest_0 {d : Nat} {Q : Option Value × xS → Prop} {K : Nat → Nat × Nat} {P : List Nat × Nat × Nat} {I : Nat → Nat → Int32} {J : Nat → Nat → Int64} {F : Nat → Nat → Option Nat} {r0 : Nat} {r1 : Nat} {x2 : Int32} {n_r0 : Nat} (hn_r0 : K r0 = (3, n_r0)) (H : Wp d 32 0 [some (.ref r0), some (.int x2), none] [] (K, P, I, J, F) (xrV K P F (fun I1 J2 => Wp (d + 1) 31 10 [some (.ref r0), some (.ref r1), none, some (.int (nI 0)), some (.int (nI 0)), none] [] (K, P, I1, J2, F) Q))) : Wp (d + 1) 31 0 [some (.ref r0), some (.ref r1), some (.int x2), none, none, none] [] (K, P, I, J, F) Q := by
  refine Wp.go (x := (.aload_n 0, 1, 0, 0)) rfl 1 [some (.ref r0), some (.ref r1), some (.int x2), none, none, none] [.ref r0] rfl ⟨rfl, rfl, rfl, rfl⟩ ?_
  refine Wp.go (x := (.iload_n 2, 1, 0, 0)) rfl 2 [some (.ref r0), some (.ref r1), some (.int x2), none, none, none] [.int x2, .ref r0] rfl ⟨rfl, rfl, rfl, rfl⟩ ?_
  refine Wp.kV (x := (.invokevirtual 29, 3, 32, 2)) (j := 32) (vs := [.ref r0, .int x2]) (rest := []) rfl (by show xtg 32 (K r0).1 = _; rw [hn_r0]; rfl) rfl ⟨Nat.le_of_ble_eq_true rfl, Nat.le_of_ble_eq_true rfl, Nat.le_of_ble_eq_true rfl⟩ rfl rfl rfl H (fun I1 J2 H => ?_)
  refine Wp.ic (v := nI 0) rfl rfl (by decide) ?_
  refine Wp.go (x := (.istore_n 3, 1, 0, 0)) rfl 7 [some (.ref r0), some (.ref r1), some (.int x2), some (.int (nI 0)), none, none] [] rfl ⟨rfl, rfl, rfl, rfl⟩ ?_
  refine Wp.ic (v := nI 0) rfl rfl (by decide) ?_
  refine Wp.go (x := (.istore 4, 2, 0, 0)) rfl 10 [some (.ref r0), some (.ref r1), some (.int x2), some (.int (nI 0)), some (.int (nI 0)), none] [] rfl ⟨rfl, rfl, rfl, rfl⟩ ?_
  exact Wp.wk (L := [some (.ref r0), some (.ref r1), none, some (.int (nI 0)), some (.int (nI 0)), none]) ⟨Or.inr rfl, Or.inr rfl, Or.inl rfl, Or.inr rfl, Or.inr rfl, Or.inr rfl, trivial⟩ H
set_option maxRecDepth 20000 in
theorem wX4_findBest_10 {d : Nat} {Q : Option Value × xS → Prop} {K : Nat → Nat × Nat} {P : List Nat × Nat × Nat} {I : Nat → Nat → Int32} {J : Nat → Nat → Int64} {F : Nat → Nat → Option Nat} {r0 : Nat} {r1 : Nat} {x3 : Int32} {x4 : Int32} {n_r0 : Nat} {f1 : Nat} {n_f1 : Nat} (hn_r0 : K r0 = (3, n_r0)) (hf1 : F r0 0 = some f1) (hn_f1 : K f1 = (8, n_f1)) (H : (((I f1 3) ≤ x4 → Wp d 40 0 [some (.ref r0), some (.ref r1), none, none, none, none, none, none] [] (K, P, I, J, F) (xrV K P F (fun I2 J3 => Q (some (.int x3), (K, P, I2, J3, F))))) ∧ (¬ (I f1 3) ≤ x4 → Wp (d + 1) 31 25 [some (.ref r0), some (.ref r1), none, some (.int x3), some (.int x4), some (.int (nI 0))] [] (K, P, I, J, F) Q))) : Wp (d + 1) 31 10 [some (.ref r0), some (.ref r1), none, some (.int x3), some (.int x4), none] [] (K, P, I, J, F) Q := by
  refine Wp.go (x := (.iload 4, 2, 0, 0)) rfl 12 [some (.ref r0), some (.ref r1), none, some (.int x3), some (.int x4), none] [.int x4] rfl ⟨rfl, rfl, rfl, rfl⟩ ?_
  refine Wp.go (x := (.aload_n 0, 1, 0, 0)) rfl 13 [some (.ref r0), some (.ref r1), none, some (.int x3), some (.int x4), none] [.ref r0, .int x4] rfl ⟨rfl, rfl, rfl, rfl⟩ ?_
  refine Wp.gR rfl rfl hn_r0 rfl rfl hf1 ?_
  refine Wp.gI rfl rfl hn_f1 rfl ⟨by decide, by decide⟩ ?_
  refine Wp.c_ge rfl rfl ⟨fun c => ?_, fun c => ?_⟩
  · have H := H.1 c
    refine Wp.go (x := (.aload_n 0, 1, 0, 0)) rfl 71 [some (.ref r0), some (.ref r1), none, some (.int x3), some (.int x4), none] [.ref r0] rfl ⟨rfl, rfl, rfl, rfl⟩ ?_
    refine Wp.go (x := (.aload_n 1, 1, 0, 0)) rfl 72 [some (.ref r0), some (.ref r1), none, some (.int x3), some (.int x4), none] [.ref r1, .ref r0] rfl ⟨rfl, rfl, rfl, rfl⟩ ?_
    refine Wp.kV (x := (.invokevirtual 47, 3, 40, 2)) (j := 40) (vs := [.ref r0, .ref r1]) (rest := []) rfl (by show xtg 40 (K r0).1 = _; rw [hn_r0]; rfl) rfl ⟨Nat.le_of_ble_eq_true rfl, Nat.le_of_ble_eq_true rfl, Nat.le_of_ble_eq_true rfl⟩ rfl rfl rfl H (fun I2 J3 H => ?_)
    refine Wp.go (x := (.iload_n 3, 1, 0, 0)) rfl 76 [some (.ref r0), some (.ref r1), none, some (.int x3), some (.int x4), none] [.int x3] rfl ⟨rfl, rfl, rfl, rfl⟩ ?_
    exact Wp.rI rfl rfl H
  · have H := H.2 c
    refine Wp.ic (v := nI 0) rfl rfl (by decide) ?_
    refine Wp.go (x := (.istore 5, 2, 0, 0)) rfl 25 [some (.ref r0), some (.ref r1), none, some (.int x3), some (.int x4), some (.int (nI 0))] [] rfl ⟨rfl, rfl, rfl, rfl⟩ ?_
    exact H
set_option maxRecDepth 20000 in
theorem wX4_findBest_25 {d : Nat} {Q : Option Value × xS → Prop} {K : Nat → Nat × Nat} {P : List Nat × Nat × Nat} {I : Nat → Nat → Int32} {J : Nat → Nat → Int64} {F : Nat → Nat → Option Nat} {r0 : Nat} {r1 : Nat} {x3 : Int32} {x4 : Int32} {x5 : Int32} {n_r0 : Nat} {f1 : Nat} {n_f1 : Nat} {f3 : Nat} {n_f3 : Nat} (hK : ∀ {a k n : Nat}, K a = (k, n) → n < 2147483648) (hn_r0 : K r0 = (3, n_r0)) (hf1 : F r0 4 = some f1) (hn_f1 : K f1 = (100, n_f1)) (hf3 : F r0 5 = some f3) (hn_f3 : K f3 = (102, n_f3)) (H : (∃ j2 : Nat, x4 = nI j2 ∧ j2 < n_f1 ∧ (((I f1 j2) ≤ x5 → (∃ j4 : Nat, x4 = nI j4 ∧ j4 < n_f3 ∧ (((I f3 j4) = 0 → Wp (d + 1) 31 10 [some (.ref r0), some (.ref r1), none, some (.int x3), some (.int (x4 + nI 1)), none] [] (K, P, I, J, F) Q) ∧ (¬ (I f3 j4) = 0 → Wp (d + 1) 31 10 [some (.ref r0), some (.ref r1), none, some (.int (x3 + nI 1)), some (.int (x4 + nI 1)), none] [] (K, P, I, J, F) Q)))) ∧ (¬ (I f1 j2) ≤ x5 → Wp d 33 0 [some (.ref r0), some (.int x4), some (.int x5), none, none, none] [] (K, P, I, J, F) (xrV K P F (fun I5 J6 => Wp (d + 1) 31 25 [some (.ref r0), some (.ref r1), none, some (.int x3), some (.int x4), some (.int (x5 + nI 1))] [] (K, P, I5, J6, F) Q)))))) : Wp (d + 1) 31 25 [some (.ref r0), some (.ref r1), none, some (.int x3), some (.int x4), some (.int x5)] [] (K, P, I, J, F) Q := by
  refine Wp.go (x := (.iload 5, 2, 0, 0)) rfl 27 [some (.ref r0), some (.ref r1), none, some (.int x3), some (.int x4), some (.int x5)] [.int x5] rfl ⟨rfl, rfl, rfl, rfl⟩ ?_
  refine Wp.go (x := (.aload_n 0, 1, 0, 0)) rfl 28 [some (.ref r0), some (.ref r1), none, some (.int x3), some (.int x4), some (.int x5)] [.ref r0, .int x5] rfl ⟨rfl, rfl, rfl, rfl⟩ ?_
  refine Wp.gR rfl rfl hn_r0 rfl rfl hf1 ?_
  refine Wp.go (x := (.iload 4, 2, 0, 0)) rfl 33 [some (.ref r0), some (.ref r1), none, some (.int x3), some (.int x4), some (.int x5)] [.int x4, .ref f1, .int x5] rfl ⟨rfl, rfl, rfl, rfl⟩ ?_
  obtain ⟨j2, e, b, H⟩ := H
  refine Wp.ald rfl rfl hn_f1 (Or.inl rfl) (hK hn_f1) ⟨j2, e, b, ?_⟩
  refine Wp.c_ge rfl rfl ⟨fun c => ?_, fun c => ?_⟩
  · have H := H.1 c
    refine Wp.go (x := (.aload_n 0, 1, 0, 0)) rfl 52 [some (.ref r0), some (.ref r1), none, some (.int x3), some (.int x4), some (.int x5)] [.ref r0] rfl ⟨rfl, rfl, rfl, rfl⟩ ?_
    refine Wp.gR rfl rfl hn_r0 rfl rfl hf3 ?_
    refine Wp.go (x := (.iload 4, 2, 0, 0)) rfl 57 [some (.ref r0), some (.ref r1), none, some (.int x3), some (.int x4), some (.int x5)] [.int x4, .ref f3] rfl ⟨rfl, rfl, rfl, rfl⟩ ?_
    obtain ⟨j4, e, b, H⟩ := H
    refine Wp.bld rfl rfl hn_f3 (hK hn_f3) ⟨j4, e, b, ?_⟩
    refine Wp.z_eq rfl rfl ⟨fun c => ?_, fun c => ?_⟩
    · have H := H.1 c
      refine Wp.ii (v := nI 1) rfl rfl (by decide) rfl (L' := [some (.ref r0), some (.ref r1), none, some (.int x3), some (.int (x4 + nI 1)), some (.int x5)]) rfl ?_
      refine Wp.go (x := (.goto (-57), 3, 10, 0)) rfl 10 [some (.ref r0), some (.ref r1), none, some (.int x3), some (.int (x4 + nI 1)), some (.int x5)] [] rfl ⟨rfl, rfl, rfl, rfl⟩ ?_
      exact Wp.wk (L := [some (.ref r0), some (.ref r1), none, some (.int x3), some (.int (x4 + nI 1)), none]) ⟨Or.inr rfl, Or.inr rfl, Or.inr rfl, Or.inr rfl, Or.inr rfl, Or.inl rfl, trivial⟩ H
    · have H := H.2 c
      refine Wp.ii (v := nI 1) rfl rfl (by decide) rfl (L' := [some (.ref r0), some (.ref r1), none, some (.int (x3 + nI 1)), some (.int x4), some (.int x5)]) rfl ?_
      refine Wp.ii (v := nI 1) rfl rfl (by decide) rfl (L' := [some (.ref r0), some (.ref r1), none, some (.int (x3 + nI 1)), some (.int (x4 + nI 1)), some (.int x5)]) rfl ?_
      refine Wp.go (x := (.goto (-57), 3, 10, 0)) rfl 10 [some (.ref r0), some (.ref r1), none, some (.int (x3 + nI 1)), some (.int (x4 + nI 1)), some (.int x5)] [] rfl ⟨rfl, rfl, rfl, rfl⟩ ?_
      exact Wp.wk (L := [some (.ref r0), some (.ref r1), none, some (.int (x3 + nI 1)), some (.int (x4 + nI 1)), none]) ⟨Or.inr rfl, Or.inr rfl, Or.inr rfl, Or.inr rfl, Or.inr rfl, Or.inl rfl, trivial⟩ H
  · have H := H.2 c
    refine Wp.go (x := (.aload_n 0, 1, 0, 0)) rfl 38 [some (.ref r0), some (.ref r1), none, some (.int x3), some (.int x4), some (.int x5)] [.ref r0] rfl ⟨rfl, rfl, rfl, rfl⟩ ?_
    refine Wp.go (x := (.iload 4, 2, 0, 0)) rfl 40 [some (.ref r0), some (.ref r1), none, some (.int x3), some (.int x4), some (.int x5)] [.int x4, .ref r0] rfl ⟨rfl, rfl, rfl, rfl⟩ ?_
    refine Wp.go (x := (.iload 5, 2, 0, 0)) rfl 42 [some (.ref r0), some (.ref r1), none, some (.int x3), some (.int x4), some (.int x5)] [.int x5, .int x4, .ref r0] rfl ⟨rfl, rfl, rfl, rfl⟩ ?_
    refine Wp.kV (x := (.invokevirtual 43, 3, 33, 3)) (j := 33) (vs := [.ref r0, .int x4, .int x5]) (rest := []) rfl (by show xtg 33 (K r0).1 = _; rw [hn_r0]; rfl) rfl ⟨Nat.le_of_ble_eq_true rfl, Nat.le_of_ble_eq_true rfl, Nat.le_of_ble_eq_true rfl⟩ rfl rfl rfl H (fun I5 J6 H => ?_)
    refine Wp.ii (v := nI 1) rfl rfl (by decide) rfl (L' := [some (.ref r0), some (.ref r1), none, some (.int x3), some (.int x4), some (.int (x5 + nI 1))]) rfl ?_
    refine Wp.go (x := (.goto (-23), 3, 25, 0)) rfl 25 [some (.ref r0), some (.ref r1), none, some (.int x3), some (.int x4), some (.int (x5 + nI 1))] [] rfl ⟨rfl, rfl, rfl, rfl⟩ ?_
    exact H
set_option maxRecDepth 20000 in
theorem wX4_begin_0 {d : Nat} {Q : Option Value × xS → Prop} {K : Nat → Nat × Nat} {P : List Nat × Nat × Nat} {I : Nat → Nat → Int32} {J : Nat → Nat → Int64} {F : Nat → Nat → Option Nat} {r0 : Nat} {x1 : Int32} {n_r0 : Nat} {f1 : Nat} {f2 : Nat} {n_f1 : Nat} (hn_r0 : K r0 = (3, n_r0)) (hf1 : F r0 1 = some f1) (hf2 : F r0 0 = some f2) (hn_f1 : K f1 = (2, n_f1)) (H : Wp d 13 0 [some (.ref f1), some (.ref f2), none] [] (K, P, I, J, F) (xrV K P F (fun I3 J4 => Wp (d + 1) 32 27 [some (.ref r0), none, some (.int (nI 0))] [] (K, P, (xup I3 r0 7 (if (nI 1) < (if (nI 40) < x1 then (nI 40) else x1) then (if (nI 40) < x1 then (nI 40) else x1) else (nI 1))), J4, F) Q))) : Wp (d + 1) 32 0 [some (.ref r0), some (.int x1), none] [] (K, P, I, J, F) Q := by
  refine Wp.go (x := (.aload_n 0, 1, 0, 0)) rfl 1 [some (.ref r0), some (.int x1), none] [.ref r0] rfl ⟨rfl, rfl, rfl, rfl⟩ ?_
  refine Wp.gR rfl rfl hn_r0 rfl rfl hf1 ?_
  refine Wp.go (x := (.aload_n 0, 1, 0, 0)) rfl 5 [some (.ref r0), some (.int x1), none] [.ref r0, .ref f1] rfl ⟨rfl, rfl, rfl, rfl⟩ ?_
  refine Wp.gR rfl rfl hn_r0 rfl rfl hf2 ?_
  refine Wp.kV (x := (.invokevirtual 55, 3, 13, 2)) (j := 13) (vs := [.ref f1, .ref f2]) (rest := []) rfl (by show xtg 13 (K f1).1 = _; rw [hn_f1]; rfl) rfl ⟨Nat.le_of_ble_eq_true rfl, Nat.le_of_ble_eq_true rfl, Nat.le_of_ble_eq_true rfl⟩ rfl rfl rfl H (fun I3 J4 H => ?_)
  refine Wp.go (x := (.aload_n 0, 1, 0, 0)) rfl 12 [some (.ref r0), some (.int x1), none] [.ref r0] rfl ⟨rfl, rfl, rfl, rfl⟩ ?_
  refine Wp.ic (v := nI 1) rfl rfl (by decide) ?_
  refine Wp.go (x := (.iload_n 1, 1, 0, 0)) rfl 14 [some (.ref r0), some (.int x1), none] [.int x1, .int (nI 1), .ref r0] rfl ⟨rfl, rfl, rfl, rfl⟩ ?_
  refine Wp.bp (v := nI 40) rfl rfl (by decide) ?_
  refine Wp.min rfl rfl (by omega) (Nat.le_of_ble_eq_true rfl) ?_
  refine Wp.max rfl rfl (by omega) (Nat.le_of_ble_eq_true rfl) ?_
  refine Wp.pI rfl rfl hn_r0 rfl (Or.inl rfl) ?_
  refine Wp.ic (v := nI 0) rfl rfl (by decide) ?_
  refine Wp.go (x := (.istore_n 2, 1, 0, 0)) rfl 27 [some (.ref r0), some (.int x1), some (.int (nI 0))] [] rfl ⟨rfl, rfl, rfl, rfl⟩ ?_
  exact Wp.wk (L := [some (.ref r0), none, some (.int (nI 0))]) ⟨Or.inr rfl, Or.inl rfl, Or.inr rfl, trivial⟩ H
set_option maxRecDepth 20000 in
theorem wX4_begin_27 {d : Nat} {Q : Option Value × xS → Prop} {K : Nat → Nat × Nat} {P : List Nat × Nat × Nat} {I : Nat → Nat → Int32} {J : Nat → Nat → Int64} {F : Nat → Nat → Option Nat} {r0 : Nat} {x2 : Int32} {n_r0 : Nat} {f1 : Nat} {n_f1 : Nat} {f2 : Nat} {n_f2 : Nat} {f5 : Nat} {f8 : Nat} {n_f8 : Nat} {f11 : Nat} {n_f11 : Nat} (hK : ∀ {a k n : Nat}, K a = (k, n) → n < 2147483648) (hn_r0 : K r0 = (3, n_r0)) (hf1 : F r0 0 = some f1) (hn_f1 : K f1 = (8, n_f1)) (hf2 : F r0 4 = some f2) (hn_f2 : K f2 = (100, n_f2)) (hf5 : F r0 6 = some f5) (hf8 : F r0 2 = some f8) (hn_f8 : K f8 = (101, n_f8)) (hf11 : F r0 5 = some f11) (hn_f11 : K f11 = (102, n_f11)) (H : (((I f1 3) ≤ x2 → (∃ j3 : Nat, (I f1 3) = nI j3 ∧ j3 < n_f2 ∧ (∃ j4 : Nat, (nI 0) = nI j4 ∧ j4 < n_f2 ∧ Wp d 165 0 [some (.ref f5), some (.long (lN 4611686018427387904)), none, none, none] [] (K, P, (xup ((xup I f2 j3 (nI 0))) f2 j4 (nI 1)), J, F) (xrV K P F (fun I6 J7 => (∃ j9 : Nat, (nI 0) = nI j9 ∧ j9 < n_f8 ∧ Q (none, (K, P, I6, (xup J7 f8 j9 (lN 134480385)), F)))))))) ∧ (¬ (I f1 3) ≤ x2 → (∃ j10 : Nat, x2 = nI j10 ∧ j10 < n_f2 ∧ (∃ j12 : Nat, x2 = nI j12 ∧ j12 < n_f11 ∧ Wp (d + 1) 32 27 [some (.ref r0), none, some (.int (x2 + nI 1))] [] (K, P, (xup ((xup I f2 j10 (nI 0))) f11 j12 (nI 0)), J, F) Q))))) : Wp (d + 1) 32 27 [some (.ref r0), none, some (.int x2)] [] (K, P, I, J, F) Q := by
  refine Wp.go (x := (.iload_n 2, 1, 0, 0)) rfl 28 [some (.ref r0), none, some (.int x2)] [.int x2] rfl ⟨rfl, rfl, rfl, rfl⟩ ?_
  refine Wp.go (x := (.aload_n 0, 1, 0, 0)) rfl 29 [some (.ref r0), none, some (.int x2)] [.ref r0, .int x2] rfl ⟨rfl, rfl, rfl, rfl⟩ ?_
  refine Wp.gR rfl rfl hn_r0 rfl rfl hf1 ?_
  refine Wp.gI rfl rfl hn_f1 rfl ⟨by decide, by decide⟩ ?_
  refine Wp.c_ge rfl rfl ⟨fun c => ?_, fun c => ?_⟩
  · have H := H.1 c
    refine Wp.go (x := (.aload_n 0, 1, 0, 0)) rfl 59 [some (.ref r0), none, some (.int x2)] [.ref r0] rfl ⟨rfl, rfl, rfl, rfl⟩ ?_
    refine Wp.gR rfl rfl hn_r0 rfl rfl hf2 ?_
    refine Wp.go (x := (.aload_n 0, 1, 0, 0)) rfl 63 [some (.ref r0), none, some (.int x2)] [.ref r0, .ref f2] rfl ⟨rfl, rfl, rfl, rfl⟩ ?_
    refine Wp.gR rfl rfl hn_r0 rfl rfl hf1 ?_
    refine Wp.gI rfl rfl hn_f1 rfl ⟨by decide, by decide⟩ ?_
    refine Wp.ic (v := nI 0) rfl rfl (by decide) ?_
    obtain ⟨j3, e, b, H⟩ := H
    refine Wp.ast rfl rfl hn_f2 (hK hn_f2) ⟨j3, e, b, ?_⟩
    refine Wp.go (x := (.aload_n 0, 1, 0, 0)) rfl 72 [some (.ref r0), none, some (.int x2)] [.ref r0] rfl ⟨rfl, rfl, rfl, rfl⟩ ?_
    refine Wp.gR rfl rfl hn_r0 rfl rfl hf2 ?_
    refine Wp.ic (v := nI 0) rfl rfl (by decide) ?_
    refine Wp.ic (v := nI 1) rfl rfl (by decide) ?_
    obtain ⟨j4, e, b, H⟩ := H
    refine Wp.ast rfl rfl hn_f2 (hK hn_f2) ⟨j4, e, b, ?_⟩
    refine Wp.go (x := (.aload_n 0, 1, 0, 0)) rfl 79 [some (.ref r0), none, some (.int x2)] [.ref r0] rfl ⟨rfl, rfl, rfl, rfl⟩ ?_
    refine Wp.gR rfl rfl hn_r0 rfl rfl hf5 ?_
    refine Wp.ldcj (v := lN 4611686018427387904) rfl rfl (by first | rfl | decide) ?_
    refine Wp.kV (x := (.invokestatic 75, 3, 165, 2)) (j := 165) (vs := [.ref f5, .long (lN 4611686018427387904)]) (rest := []) rfl rfl rfl ⟨Nat.le_of_ble_eq_true rfl, Nat.le_of_ble_eq_true rfl, Nat.le_of_ble_eq_true rfl⟩ rfl rfl rfl H (fun I6 J7 H => ?_)
    refine Wp.go (x := (.aload_n 0, 1, 0, 0)) rfl 89 [some (.ref r0), none, some (.int x2)] [.ref r0] rfl ⟨rfl, rfl, rfl, rfl⟩ ?_
    refine Wp.gR rfl rfl hn_r0 rfl rfl hf8 ?_
    refine Wp.ic (v := nI 0) rfl rfl (by decide) ?_
    refine Wp.ldcj (v := lN 134480385) rfl rfl (by first | rfl | decide) ?_
    obtain ⟨j9, e, b, H⟩ := H
    refine Wp.lst rfl rfl hn_f8 (hK hn_f8) ⟨j9, e, b, ?_⟩
    exact Wp.rV rfl rfl H
  · have H := H.2 c
    refine Wp.go (x := (.aload_n 0, 1, 0, 0)) rfl 39 [some (.ref r0), none, some (.int x2)] [.ref r0] rfl ⟨rfl, rfl, rfl, rfl⟩ ?_
    refine Wp.gR rfl rfl hn_r0 rfl rfl hf2 ?_
    refine Wp.go (x := (.iload_n 2, 1, 0, 0)) rfl 43 [some (.ref r0), none, some (.int x2)] [.int x2, .ref f2] rfl ⟨rfl, rfl, rfl, rfl⟩ ?_
    refine Wp.ic (v := nI 0) rfl rfl (by decide) ?_
    obtain ⟨j10, e, b, H⟩ := H
    refine Wp.ast rfl rfl hn_f2 (hK hn_f2) ⟨j10, e, b, ?_⟩
    refine Wp.go (x := (.aload_n 0, 1, 0, 0)) rfl 46 [some (.ref r0), none, some (.int x2)] [.ref r0] rfl ⟨rfl, rfl, rfl, rfl⟩ ?_
    refine Wp.gR rfl rfl hn_r0 rfl rfl hf11 ?_
    refine Wp.go (x := (.iload_n 2, 1, 0, 0)) rfl 50 [some (.ref r0), none, some (.int x2)] [.int x2, .ref f11] rfl ⟨rfl, rfl, rfl, rfl⟩ ?_
    refine Wp.ic (v := nI 0) rfl rfl (by decide) ?_
    obtain ⟨j12, e, b, H⟩ := H
    refine Wp.bst rfl rfl hn_f11 (hK hn_f11) (Or.inl rfl) ⟨j12, e, b, ?_⟩
    refine Wp.ii (v := nI 1) rfl rfl (by decide) rfl (L' := [some (.ref r0), none, some (.int (x2 + nI 1))]) rfl ?_
    refine Wp.go (x := (.goto (-28), 3, 27, 0)) rfl 27 [some (.ref r0), none, some (.int (x2 + nI 1))] [] rfl ⟨rfl, rfl, rfl, rfl⟩ ?_
    exact H
set_option maxRecDepth 20000 in
theorem wX4_goFrom_0 {d : Nat} {Q : Option Value × xS → Prop} {K : Nat → Nat × Nat} {P : List Nat × Nat × Nat} {I : Nat → Nat → Int32} {J : Nat → Nat → Int64} {F : Nat → Nat → Option Nat} {r0 : Nat} {x1 : Int32} {x2 : Int32} {n_r0 : Nat} {f1 : Nat} {n_f1 : Nat} (hK : ∀ {a k n : Nat}, K a = (k, n) → n < 2147483648) (hn_r0 : K r0 = (3, n_r0)) (hf1 : F r0 2 = some f1) (hn_f1 : K f1 = (101, n_f1)) (H : (∃ j2 : Nat, ((x1 * (nI 40)) + x2) = nI j2 ∧ j2 < n_f1 ∧ Wp d 34 0 [some (.ref r0), none, none] [] (K, P, (xup ((xup I r0 8 x1)) r0 9 x2), (xup ((xup J r0 10 (((J f1 j2).toUInt64 >>> ((nI 36).toInt64.toUInt64 &&& Int64.toUInt64 63)).toInt64))) r0 11 ((J f1 j2) &&& (lN 68719476735))), F) (xrI K P F (fun v3 I4 J5 => ((¬ v3 = 0 → Wp (d + 1) 33 53 [some (.ref r0), none, none, none, none, some (.int (nI 0))] [] (K, P, I4, J5, F) Q) ∧ (v3 = 0 → Wp d 35 0 [some (.ref r0), none, none, none, none] [] (K, P, I4, J5, F) (xrV K P F (fun I6 J7 => Wp (d + 1) 33 53 [some (.ref r0), none, none, none, none, some (.int (nI 0))] [] (K, P, I6, J7, F) Q)))))))) : Wp (d + 1) 33 0 [some (.ref r0), some (.int x1), some (.int x2), none, none, none] [] (K, P, I, J, F) Q := by
  refine Wp.go (x := (.aload_n 0, 1, 0, 0)) rfl 1 [some (.ref r0), some (.int x1), some (.int x2), none, none, none] [.ref r0] rfl ⟨rfl, rfl, rfl, rfl⟩ ?_
  refine Wp.go (x := (.iload_n 1, 1, 0, 0)) rfl 2 [some (.ref r0), some (.int x1), some (.int x2), none, none, none] [.int x1, .ref r0] rfl ⟨rfl, rfl, rfl, rfl⟩ ?_
  refine Wp.pI rfl rfl hn_r0 rfl (Or.inl rfl) ?_
  refine Wp.go (x := (.aload_n 0, 1, 0, 0)) rfl 6 [some (.ref r0), some (.int x1), some (.int x2), none, none, none] [.ref r0] rfl ⟨rfl, rfl, rfl, rfl⟩ ?_
  refine Wp.go (x := (.iload_n 2, 1, 0, 0)) rfl 7 [some (.ref r0), some (.int x1), some (.int x2), none, none, none] [.int x2, .ref r0] rfl ⟨rfl, rfl, rfl, rfl⟩ ?_
  refine Wp.pI rfl rfl hn_r0 rfl (Or.inl rfl) ?_
  refine Wp.go (x := (.aload_n 0, 1, 0, 0)) rfl 11 [some (.ref r0), some (.int x1), some (.int x2), none, none, none] [.ref r0] rfl ⟨rfl, rfl, rfl, rfl⟩ ?_
  refine Wp.gR rfl rfl hn_r0 rfl rfl hf1 ?_
  refine Wp.go (x := (.iload_n 1, 1, 0, 0)) rfl 15 [some (.ref r0), some (.int x1), some (.int x2), none, none, none] [.int x1, .ref f1] rfl ⟨rfl, rfl, rfl, rfl⟩ ?_
  refine Wp.bp (v := nI 40) rfl rfl (by decide) ?_
  refine Wp.go (x := (.imul, 1, 0, 0)) rfl 18 [some (.ref r0), some (.int x1), some (.int x2), none, none, none] [.int (x1 * (nI 40)), .ref f1] rfl ⟨rfl, rfl, rfl, rfl⟩ ?_
  refine Wp.go (x := (.iload_n 2, 1, 0, 0)) rfl 19 [some (.ref r0), some (.int x1), some (.int x2), none, none, none] [.int x2, .int (x1 * (nI 40)), .ref f1] rfl ⟨rfl, rfl, rfl, rfl⟩ ?_
  refine Wp.go (x := (.iadd, 1, 0, 0)) rfl 20 [some (.ref r0), some (.int x1), some (.int x2), none, none, none] [.int ((x1 * (nI 40)) + x2), .ref f1] rfl ⟨rfl, rfl, rfl, rfl⟩ ?_
  obtain ⟨j2, e, b, H⟩ := H
  refine Wp.lld rfl rfl hn_f1 (hK hn_f1) ⟨j2, e, b, ?_⟩
  refine Wp.go (x := (.lstore_n 3, 1, 0, 0)) rfl 22 [some (.ref r0), some (.int x1), some (.int x2), some (.long (J f1 j2)), none, none] [] rfl ⟨rfl, rfl, rfl, rfl⟩ ?_
  refine Wp.go (x := (.aload_n 0, 1, 0, 0)) rfl 23 [some (.ref r0), some (.int x1), some (.int x2), some (.long (J f1 j2)), none, none] [.ref r0] rfl ⟨rfl, rfl, rfl, rfl⟩ ?_
  refine Wp.go (x := (.lload_n 3, 1, 0, 0)) rfl 24 [some (.ref r0), some (.int x1), some (.int x2), some (.long (J f1 j2)), none, none] [.long (J f1 j2), .ref r0] rfl ⟨rfl, rfl, rfl, rfl⟩ ?_
  refine Wp.bp (v := nI 36) rfl rfl (by decide) ?_
  refine Wp.go (x := (.lushr, 1, 0, 0)) rfl 27 [some (.ref r0), some (.int x1), some (.int x2), some (.long (J f1 j2)), none, none] [.long (((J f1 j2).toUInt64 >>> ((nI 36).toInt64.toUInt64 &&& Int64.toUInt64 63)).toInt64), .ref r0] rfl ⟨rfl, rfl, rfl, rfl⟩ ?_
  refine Wp.pJ rfl rfl hn_r0 rfl rfl ?_
  refine Wp.go (x := (.aload_n 0, 1, 0, 0)) rfl 31 [some (.ref r0), some (.int x1), some (.int x2), some (.long (J f1 j2)), none, none] [.ref r0] rfl ⟨rfl, rfl, rfl, rfl⟩ ?_
  refine Wp.go (x := (.lload_n 3, 1, 0, 0)) rfl 32 [some (.ref r0), some (.int x1), some (.int x2), some (.long (J f1 j2)), none, none] [.long (J f1 j2), .ref r0] rfl ⟨rfl, rfl, rfl, rfl⟩ ?_
  refine Wp.ldcj (v := lN 68719476735) rfl rfl (by first | rfl | decide) ?_
  refine Wp.go (x := (.land, 1, 0, 0)) rfl 36 [some (.ref r0), some (.int x1), some (.int x2), some (.long (J f1 j2)), none, none] [.long ((J f1 j2) &&& (lN 68719476735)), .ref r0] rfl ⟨rfl, rfl, rfl, rfl⟩ ?_
  refine Wp.pJ rfl rfl hn_r0 rfl rfl ?_
  refine Wp.go (x := (.aload_n 0, 1, 0, 0)) rfl 40 [some (.ref r0), some (.int x1), some (.int x2), some (.long (J f1 j2)), none, none] [.ref r0] rfl ⟨rfl, rfl, rfl, rfl⟩ ?_
  refine Wp.kI (x := (.invokevirtual 100, 3, 34, 1)) (j := 34) (vs := [.ref r0]) (rest := []) rfl (by show xtg 34 (K r0).1 = _; rw [hn_r0]; rfl) rfl ⟨Nat.le_of_ble_eq_true rfl, Nat.le_of_ble_eq_true rfl, Nat.le_of_ble_eq_true rfl⟩ rfl rfl rfl H (fun v3 I4 J5 H => ?_)
  refine Wp.z_ne rfl rfl ⟨fun c => ?_, fun c => ?_⟩
  · have H := H.1 c
    refine Wp.ic (v := nI 0) rfl rfl (by decide) ?_
    refine Wp.go (x := (.istore 5, 2, 0, 0)) rfl 53 [some (.ref r0), some (.int x1), some (.int x2), some (.long (J f1 j2)), none, some (.int (nI 0))] [] rfl ⟨rfl, rfl, rfl, rfl⟩ ?_
    exact Wp.wk (L := [some (.ref r0), none, none, none, none, some (.int (nI 0))]) ⟨Or.inr rfl, Or.inl rfl, Or.inl rfl, Or.inl rfl, Or.inr rfl, Or.inr rfl, trivial⟩ H
  · have H := H.2 c
    refine Wp.go (x := (.aload_n 0, 1, 0, 0)) rfl 47 [some (.ref r0), some (.int x1), some (.int x2), some (.long (J f1 j2)), none, none] [.ref r0] rfl ⟨rfl, rfl, rfl, rfl⟩ ?_
    refine Wp.kV (x := (.invokevirtual 104, 3, 35, 1)) (j := 35) (vs := [.ref r0]) (rest := []) rfl (by show xtg 35 (K r0).1 = _; rw [hn_r0]; rfl) rfl ⟨Nat.le_of_ble_eq_true rfl, Nat.le_of_ble_eq_true rfl, Nat.le_of_ble_eq_true rfl⟩ rfl rfl rfl H (fun I6 J7 H => ?_)
    refine Wp.ic (v := nI 0) rfl rfl (by decide) ?_
    refine Wp.go (x := (.istore 5, 2, 0, 0)) rfl 53 [some (.ref r0), some (.int x1), some (.int x2), some (.long (J f1 j2)), none, some (.int (nI 0))] [] rfl ⟨rfl, rfl, rfl, rfl⟩ ?_
    exact Wp.wk (L := [some (.ref r0), none, none, none, none, some (.int (nI 0))]) ⟨Or.inr rfl, Or.inl rfl, Or.inl rfl, Or.inl rfl, Or.inr rfl, Or.inr rfl, trivial⟩ H
set_option maxRecDepth 20000 in
theorem wX4_goFrom_53 {d : Nat} {Q : Option Value × xS → Prop} {K : Nat → Nat × Nat} {P : List Nat × Nat × Nat} {I : Nat → Nat → Int32} {J : Nat → Nat → Int64} {F : Nat → Nat → Option Nat} {r0 : Nat} {x5 : Int32} {n_r0 : Nat} {f4 : Nat} {n_f4 : Nat} {f5 : Nat} {n_f5 : Nat} {f8 : Nat} {n_f8 : Nat} (hK : ∀ {a k n : Nat}, K a = (k, n) → n < 2147483648) (hn_r0 : K r0 = (3, n_r0)) (hf4 : F r0 0 = some f4) (hn_f4 : K f4 = (8, n_f4)) (hf5 : F f4 2 = some f5) (hn_f5 : K f5 = (100, n_f5)) (hf8 : F r0 1 = some f8) (hn_f8 : K f8 = (2, n_f8)) (H : (((nI 4) ≤ x5 → Wp d 27 0 [some (.long (J r0 11)), none, some (.int (nI 0))] [] (K, P, I, J, F) (xrI K P F (fun v1 I2 J3 => (((I2 r0 8) < v1 → Wp (d + 1) 33 140 [some (.ref r0), none, none, none, none, none] [] (K, P, I2, J3, F) Q) ∧ (¬ (I2 r0 8) < v1 → (∃ j6 : Nat, (I2 r0 8) = nI j6 ∧ j6 < n_f5 ∧ (∃ j7 : Nat, ((I2 r0 8) - v1) = nI j7 ∧ j7 < n_f5 ∧ ((¬ (I2 f5 j6) = (I2 f5 j7) → Wp (d + 1) 33 140 [some (.ref r0), none, none, none, none, none] [] (K, P, I2, J3, F) Q) ∧ ((I2 f5 j6) = (I2 f5 j7) → Wp d 15 0 [some (.ref f8), some (.int (nI 6))] [] (K, P, I2, J3, F) (xrI K P F (fun v9 I10 J11 => Wp d 37 0 [some (.ref r0), some (.int (nI 6)), some (.int (nI 1)), some (.int v9), some (.long (J11 r0 11)), none, none, none, none, none, none, none] [] (K, P, I10, J11, F) (xrV K P F (fun I12 J13 => Wp (d + 1) 33 140 [some (.ref r0), none, none, none, none, none] [] (K, P, I12, J13, F) Q))))))))))))) ∧ (¬ (nI 4) ≤ x5 → Wp d 36 0 [some (.ref r0), some (.int x5), none, none, none, none] [] (K, P, I, J, F) (xrV K P F (fun I14 J15 => Wp (d + 1) 33 53 [some (.ref r0), none, none, none, none, some (.int (x5 + nI 1))] [] (K, P, I14, J15, F) Q))))) : Wp (d + 1) 33 53 [some (.ref r0), none, none, none, none, some (.int x5)] [] (K, P, I, J, F) Q := by
  refine Wp.go (x := (.iload 5, 2, 0, 0)) rfl 55 [some (.ref r0), none, none, none, none, some (.int x5)] [.int x5] rfl ⟨rfl, rfl, rfl, rfl⟩ ?_
  refine Wp.ic (v := nI 4) rfl rfl (by decide) ?_
  refine Wp.c_ge rfl rfl ⟨fun c => ?_, fun c => ?_⟩
  · have H := H.1 c
    refine Wp.go (x := (.aload_n 0, 1, 0, 0)) rfl 72 [some (.ref r0), none, none, none, none, some (.int x5)] [.ref r0] rfl ⟨rfl, rfl, rfl, rfl⟩ ?_
    refine Wp.gJ rfl rfl hn_r0 rfl rfl ?_
    refine Wp.ic (v := nI 0) rfl rfl (by decide) ?_
    refine Wp.kI (x := (.invokestatic 111, 3, 27, 2)) (j := 27) (vs := [.long (J r0 11), .int (nI 0)]) (rest := []) rfl rfl rfl ⟨Nat.le_of_ble_eq_true rfl, Nat.le_of_ble_eq_true rfl, Nat.le_of_ble_eq_true rfl⟩ rfl rfl rfl H (fun v1 I2 J3 H => ?_)
    refine Wp.go (x := (.istore 5, 2, 0, 0)) rfl 81 [some (.ref r0), none, none, none, none, some (.int v1)] [] rfl ⟨rfl, rfl, rfl, rfl⟩ ?_
    refine Wp.go (x := (.iload 5, 2, 0, 0)) rfl 83 [some (.ref r0), none, none, none, none, some (.int v1)] [.int v1] rfl ⟨rfl, rfl, rfl, rfl⟩ ?_
    refine Wp.go (x := (.aload_n 0, 1, 0, 0)) rfl 84 [some (.ref r0), none, none, none, none, some (.int v1)] [.ref r0, .int v1] rfl ⟨rfl, rfl, rfl, rfl⟩ ?_
    refine Wp.gI rfl rfl hn_r0 rfl ⟨by decide, by decide⟩ ?_
    refine Wp.c_gt rfl rfl ⟨fun c => ?_, fun c => ?_⟩
    · have H := H.1 c
      exact Wp.wk (L := [some (.ref r0), none, none, none, none, none]) ⟨Or.inr rfl, Or.inr rfl, Or.inr rfl, Or.inr rfl, Or.inr rfl, Or.inl rfl, trivial⟩ H
    · have H := H.2 c
      refine Wp.go (x := (.aload_n 0, 1, 0, 0)) rfl 91 [some (.ref r0), none, none, none, none, some (.int v1)] [.ref r0] rfl ⟨rfl, rfl, rfl, rfl⟩ ?_
      refine Wp.gR rfl rfl hn_r0 rfl rfl hf4 ?_
      refine Wp.gR rfl rfl hn_f4 rfl rfl hf5 ?_
      refine Wp.go (x := (.aload_n 0, 1, 0, 0)) rfl 98 [some (.ref r0), none, none, none, none, some (.int v1)] [.ref r0, .ref f5] rfl ⟨rfl, rfl, rfl, rfl⟩ ?_
      refine Wp.gI rfl rfl hn_r0 rfl ⟨by decide, by decide⟩ ?_
      obtain ⟨j6, e, b, H⟩ := H
      refine Wp.ald rfl rfl hn_f5 (Or.inl rfl) (hK hn_f5) ⟨j6, e, b, ?_⟩
      refine Wp.go (x := (.aload_n 0, 1, 0, 0)) rfl 103 [some (.ref r0), none, none, none, none, some (.int v1)] [.ref r0, .int (I2 f5 j6)] rfl ⟨rfl, rfl, rfl, rfl⟩ ?_
      refine Wp.gR rfl rfl hn_r0 rfl rfl hf4 ?_
      refine Wp.gR rfl rfl hn_f4 rfl rfl hf5 ?_
      refine Wp.go (x := (.aload_n 0, 1, 0, 0)) rfl 110 [some (.ref r0), none, none, none, none, some (.int v1)] [.ref r0, .ref f5, .int (I2 f5 j6)] rfl ⟨rfl, rfl, rfl, rfl⟩ ?_
      refine Wp.gI rfl rfl hn_r0 rfl ⟨by decide, by decide⟩ ?_
      refine Wp.go (x := (.iload 5, 2, 0, 0)) rfl 115 [some (.ref r0), none, none, none, none, some (.int v1)] [.int v1, .int (I2 r0 8), .ref f5, .int (I2 f5 j6)] rfl ⟨rfl, rfl, rfl, rfl⟩ ?_
      refine Wp.go (x := (.isub, 1, 0, 0)) rfl 116 [some (.ref r0), none, none, none, none, some (.int v1)] [.int ((I2 r0 8) - v1), .ref f5, .int (I2 f5 j6)] rfl ⟨rfl, rfl, rfl, rfl⟩ ?_
      obtain ⟨j7, e, b, H⟩ := H
      refine Wp.ald rfl rfl hn_f5 (Or.inl rfl) (hK hn_f5) ⟨j7, e, b, ?_⟩
      refine Wp.c_ne rfl rfl ⟨fun c => ?_, fun c => ?_⟩
      · have H := H.1 c
        exact Wp.wk (L := [some (.ref r0), none, none, none, none, none]) ⟨Or.inr rfl, Or.inr rfl, Or.inr rfl, Or.inr rfl, Or.inr rfl, Or.inl rfl, trivial⟩ H
      · have H := H.2 c
        refine Wp.go (x := (.aload_n 0, 1, 0, 0)) rfl 121 [some (.ref r0), none, none, none, none, some (.int v1)] [.ref r0] rfl ⟨rfl, rfl, rfl, rfl⟩ ?_
        refine Wp.bp (v := nI 6) rfl rfl (by decide) ?_
        refine Wp.ic (v := nI 1) rfl rfl (by decide) ?_
        refine Wp.go (x := (.aload_n 0, 1, 0, 0)) rfl 125 [some (.ref r0), none, none, none, none, some (.int v1)] [.ref r0, .int (nI 1), .int (nI 6), .ref r0] rfl ⟨rfl, rfl, rfl, rfl⟩ ?_
        refine Wp.gR rfl rfl hn_r0 rfl rfl hf8 ?_
        refine Wp.bp (v := nI 6) rfl rfl (by decide) ?_
        refine Wp.kI (x := (.invokevirtual 118, 3, 15, 2)) (j := 15) (vs := [.ref f8, .int (nI 6)]) (rest := [.int (nI 1), .int (nI 6), .ref r0]) rfl (by show xtg 15 (K f8).1 = _; rw [hn_f8]; rfl) rfl ⟨Nat.le_of_ble_eq_true rfl, Nat.le_of_ble_eq_true rfl, Nat.le_of_ble_eq_true rfl⟩ rfl rfl rfl H (fun v9 I10 J11 H => ?_)
        refine Wp.go (x := (.aload_n 0, 1, 0, 0)) rfl 134 [some (.ref r0), none, none, none, none, some (.int v1)] [.ref r0, .int v9, .int (nI 1), .int (nI 6), .ref r0] rfl ⟨rfl, rfl, rfl, rfl⟩ ?_
        refine Wp.gJ rfl rfl hn_r0 rfl rfl ?_
        refine Wp.kV (x := (.invokevirtual 122, 3, 37, 5)) (j := 37) (vs := [.ref r0, .int (nI 6), .int (nI 1), .int v9, .long (J11 r0 11)]) (rest := []) rfl (by show xtg 37 (K r0).1 = _; rw [hn_r0]; rfl) rfl ⟨Nat.le_of_ble_eq_true rfl, Nat.le_of_ble_eq_true rfl, Nat.le_of_ble_eq_true rfl⟩ rfl rfl rfl H (fun I12 J13 H => ?_)
        exact Wp.wk (L := [some (.ref r0), none, none, none, none, none]) ⟨Or.inr rfl, Or.inr rfl, Or.inr rfl, Or.inr rfl, Or.inr rfl, Or.inl rfl, trivial⟩ H
  · have H := H.2 c
    refine Wp.go (x := (.aload_n 0, 1, 0, 0)) rfl 60 [some (.ref r0), none, none, none, none, some (.int x5)] [.ref r0] rfl ⟨rfl, rfl, rfl, rfl⟩ ?_
    refine Wp.go (x := (.iload 5, 2, 0, 0)) rfl 62 [some (.ref r0), none, none, none, none, some (.int x5)] [.int x5, .ref r0] rfl ⟨rfl, rfl, rfl, rfl⟩ ?_
    refine Wp.kV (x := (.invokevirtual 108, 3, 36, 2)) (j := 36) (vs := [.ref r0, .int x5]) (rest := []) rfl (by show xtg 36 (K r0).1 = _; rw [hn_r0]; rfl) rfl ⟨Nat.le_of_ble_eq_true rfl, Nat.le_of_ble_eq_true rfl, Nat.le_of_ble_eq_true rfl⟩ rfl rfl rfl H (fun I14 J15 H => ?_)
    refine Wp.ii (v := nI 1) rfl rfl (by decide) rfl (L' := [some (.ref r0), none, none, none, none, some (.int (x5 + nI 1))]) rfl ?_
    refine Wp.go (x := (.goto (-15), 3, 53, 0)) rfl 53 [some (.ref r0), none, none, none, none, some (.int (x5 + nI 1))] [] rfl ⟨rfl, rfl, rfl, rfl⟩ ?_
    exact H
set_option maxRecDepth 20000 in
theorem wX4_goFrom_140 {d : Nat} {Q : Option Value × xS → Prop} {K : Nat → Nat × Nat} {P : List Nat × Nat × Nat} {I : Nat → Nat → Int32} {J : Nat → Nat → Int64} {F : Nat → Nat → Option Nat} {r0 : Nat} {n_r0 : Nat} {f1 : Nat} {f2 : Nat} {n_f2 : Nat} {f3 : Nat} {n_f3 : Nat} {n_f1 : Nat} (hK : ∀ {a k n : Nat}, K a = (k, n) → n < 2147483648) (hn_r0 : K r0 = (3, n_r0)) (hf1 : F r0 1 = some f1) (hf2 : F r0 0 = some f2) (hn_f2 : K f2 = (8, n_f2)) (hf3 : F f2 2 = some f3) (hn_f3 : K f3 = (100, n_f3)) (hn_f1 : K f1 = (2, n_f1)) (H : (∃ j4 : Nat, (I r0 8) = nI j4 ∧ j4 < n_f3 ∧ Wp d 14 0 [some (.ref f1), some (.int (I f3 j4))] [] (K, P, I, J, F) (xrI K P F (fun v5 I6 J7 => Wp d 37 0 [some (.ref r0), some (.int (nI 0)), some (.int (nI 1)), some (.int v5), some (.long (J7 r0 11)), none, none, none, none, none, none, none] [] (K, P, I6, J7, F) (xrV K P F (fun I8 J9 => Q (none, (K, P, I8, J9, F)))))))) : Wp (d + 1) 33 140 [some (.ref r0), none, none, none, none, none] [] (K, P, I, J, F) Q := by
  refine Wp.go (x := (.aload_n 0, 1, 0, 0)) rfl 141 [some (.ref r0), none, none, none, none, none] [.ref r0] rfl ⟨rfl, rfl, rfl, rfl⟩ ?_
  refine Wp.ic (v := nI 0) rfl rfl (by decide) ?_
  refine Wp.ic (v := nI 1) rfl rfl (by decide) ?_
  refine Wp.go (x := (.aload_n 0, 1, 0, 0)) rfl 144 [some (.ref r0), none, none, none, none, none] [.ref r0, .int (nI 1), .int (nI 0), .ref r0] rfl ⟨rfl, rfl, rfl, rfl⟩ ?_
  refine Wp.gR rfl rfl hn_r0 rfl rfl hf1 ?_
  refine Wp.go (x := (.aload_n 0, 1, 0, 0)) rfl 148 [some (.ref r0), none, none, none, none, none] [.ref r0, .ref f1, .int (nI 1), .int (nI 0), .ref r0] rfl ⟨rfl, rfl, rfl, rfl⟩ ?_
  refine Wp.gR rfl rfl hn_r0 rfl rfl hf2 ?_
  refine Wp.gR rfl rfl hn_f2 rfl rfl hf3 ?_
  refine Wp.go (x := (.aload_n 0, 1, 0, 0)) rfl 155 [some (.ref r0), none, none, none, none, none] [.ref r0, .ref f3, .ref f1, .int (nI 1), .int (nI 0), .ref r0] rfl ⟨rfl, rfl, rfl, rfl⟩ ?_
  refine Wp.gI rfl rfl hn_r0 rfl ⟨by decide, by decide⟩ ?_
  obtain ⟨j4, e, b, H⟩ := H
  refine Wp.ald rfl rfl hn_f3 (Or.inl rfl) (hK hn_f3) ⟨j4, e, b, ?_⟩
  refine Wp.kI (x := (.invokevirtual 126, 3, 14, 2)) (j := 14) (vs := [.ref f1, .int (I f3 j4)]) (rest := [.int (nI 1), .int (nI 0), .ref r0]) rfl (by show xtg 14 (K f1).1 = _; rw [hn_f1]; rfl) rfl ⟨Nat.le_of_ble_eq_true rfl, Nat.le_of_ble_eq_true rfl, Nat.le_of_ble_eq_true rfl⟩ rfl rfl rfl H (fun v5 I6 J7 H => ?_)
  refine Wp.go (x := (.aload_n 0, 1, 0, 0)) rfl 163 [some (.ref r0), none, none, none, none, none] [.ref r0, .int v5, .int (nI 1), .int (nI 0), .ref r0] rfl ⟨rfl, rfl, rfl, rfl⟩ ?_
  refine Wp.gJ rfl rfl hn_r0 rfl rfl ?_
  refine Wp.kV (x := (.invokevirtual 122, 3, 37, 5)) (j := 37) (vs := [.ref r0, .int (nI 0), .int (nI 1), .int v5, .long (J7 r0 11)]) (rest := []) rfl (by show xtg 37 (K r0).1 = _; rw [hn_r0]; rfl) rfl ⟨Nat.le_of_ble_eq_true rfl, Nat.le_of_ble_eq_true rfl, Nat.le_of_ble_eq_true rfl⟩ rfl rfl rfl H (fun I8 J9 H => ?_)
  exact Wp.rV rfl rfl H
set_option maxRecDepth 20000 in
theorem wX4_copiesWereLed_0 {d : Nat} {Q : Option Value × xS → Prop} {K : Nat → Nat × Nat} {P : List Nat × Nat × Nat} {I : Nat → Nat → Int32} {J : Nat → Nat → Int64} {F : Nat → Nat → Option Nat} {r0 : Nat} {n_r0 : Nat} (hn_r0 : K r0 = (3, n_r0)) (H : Wp d 34 10 [some (.ref r0), some (.int ((I r0 8) * (nI 40))), some (.int ((I r0 8) * (nI 40)))] [] (K, P, I, J, F) Q) : Wp d 34 0 [some (.ref r0), none, none] [] (K, P, I, J, F) Q := by
  refine Wp.go (x := (.aload_n 0, 1, 0, 0)) rfl 1 [some (.ref r0), none, none] [.ref r0] rfl ⟨rfl, rfl, rfl, rfl⟩ ?_
  refine Wp.gI rfl rfl hn_r0 rfl ⟨by decide, by decide⟩ ?_
  refine Wp.bp (v := nI 40) rfl rfl (by decide) ?_
  refine Wp.go (x := (.imul, 1, 0, 0)) rfl 7 [some (.ref r0), none, none] [.int ((I r0 8) * (nI 40))] rfl ⟨rfl, rfl, rfl, rfl⟩ ?_
  refine Wp.go (x := (.istore_n 1, 1, 0, 0)) rfl 8 [some (.ref r0), some (.int ((I r0 8) * (nI 40))), none] [] rfl ⟨rfl, rfl, rfl, rfl⟩ ?_
  refine Wp.go (x := (.iload_n 1, 1, 0, 0)) rfl 9 [some (.ref r0), some (.int ((I r0 8) * (nI 40))), none] [.int ((I r0 8) * (nI 40))] rfl ⟨rfl, rfl, rfl, rfl⟩ ?_
  refine Wp.go (x := (.istore_n 2, 1, 0, 0)) rfl 10 [some (.ref r0), some (.int ((I r0 8) * (nI 40))), some (.int ((I r0 8) * (nI 40)))] [] rfl ⟨rfl, rfl, rfl, rfl⟩ ?_
  exact H
set_option maxRecDepth 20000 in
theorem wX4_copiesWereLed_10 {d : Nat} {Q : Option Value × xS → Prop} {K : Nat → Nat × Nat} {P : List Nat × Nat × Nat} {I : Nat → Nat → Int32} {J : Nat → Nat → Int64} {F : Nat → Nat → Option Nat} {r0 : Nat} {x1 : Int32} {x2 : Int32} {n_r0 : Nat} {f1 : Nat} {n_f1 : Nat} (hK : ∀ {a k n : Nat}, K a = (k, n) → n < 2147483648) (hn_r0 : K r0 = (3, n_r0)) (hf1 : F r0 2 = some f1) (hn_f1 : K f1 = (101, n_f1)) (H : (((x1 + (I r0 9)) ≤ x2 → Q (some (.int (nI 0)), (K, P, I, J, F))) ∧ (¬ (x1 + (I r0 9)) ≤ x2 → (∃ j2 : Nat, x2 = nI j2 ∧ j2 < n_f1 ∧ ((¬ (lg_cmp (((((J f1 j2) ^^^ (J r0 11)) &&& (lN 68719476735)).toUInt64 >>> ((nI 9).toInt64.toUInt64 &&& Int64.toUInt64 63)).toInt64) (lN 0)) = 0 → Wp d 34 10 [some (.ref r0), some (.int x1), some (.int (x2 + nI 1))] [] (K, P, I, J, F) Q) ∧ ((lg_cmp (((((J f1 j2) ^^^ (J r0 11)) &&& (lN 68719476735)).toUInt64 >>> ((nI 9).toInt64.toUInt64 &&& Int64.toUInt64 63)).toInt64) (lN 0)) = 0 → Q (some (.int (nI 1)), (K, P, I, J, F)))))))) : Wp d 34 10 [some (.ref r0), some (.int x1), some (.int x2)] [] (K, P, I, J, F) Q := by
  refine Wp.go (x := (.iload_n 2, 1, 0, 0)) rfl 11 [some (.ref r0), some (.int x1), some (.int x2)] [.int x2] rfl ⟨rfl, rfl, rfl, rfl⟩ ?_
  refine Wp.go (x := (.iload_n 1, 1, 0, 0)) rfl 12 [some (.ref r0), some (.int x1), some (.int x2)] [.int x1, .int x2] rfl ⟨rfl, rfl, rfl, rfl⟩ ?_
  refine Wp.go (x := (.aload_n 0, 1, 0, 0)) rfl 13 [some (.ref r0), some (.int x1), some (.int x2)] [.ref r0, .int x1, .int x2] rfl ⟨rfl, rfl, rfl, rfl⟩ ?_
  refine Wp.gI rfl rfl hn_r0 rfl ⟨by decide, by decide⟩ ?_
  refine Wp.go (x := (.iadd, 1, 0, 0)) rfl 17 [some (.ref r0), some (.int x1), some (.int x2)] [.int (x1 + (I r0 9)), .int x2] rfl ⟨rfl, rfl, rfl, rfl⟩ ?_
  refine Wp.c_ge rfl rfl ⟨fun c => ?_, fun c => ?_⟩
  · have H := H.1 c
    refine Wp.ic (v := nI 0) rfl rfl (by decide) ?_
    exact Wp.rZ rfl rfl (Or.inl rfl) H
  · have H := H.2 c
    refine Wp.go (x := (.aload_n 0, 1, 0, 0)) rfl 21 [some (.ref r0), some (.int x1), some (.int x2)] [.ref r0] rfl ⟨rfl, rfl, rfl, rfl⟩ ?_
    refine Wp.gR rfl rfl hn_r0 rfl rfl hf1 ?_
    refine Wp.go (x := (.iload_n 2, 1, 0, 0)) rfl 25 [some (.ref r0), some (.int x1), some (.int x2)] [.int x2, .ref f1] rfl ⟨rfl, rfl, rfl, rfl⟩ ?_
    obtain ⟨j2, e, b, H⟩ := H
    refine Wp.lld rfl rfl hn_f1 (hK hn_f1) ⟨j2, e, b, ?_⟩
    refine Wp.go (x := (.aload_n 0, 1, 0, 0)) rfl 27 [some (.ref r0), some (.int x1), some (.int x2)] [.ref r0, .long (J f1 j2)] rfl ⟨rfl, rfl, rfl, rfl⟩ ?_
    refine Wp.gJ rfl rfl hn_r0 rfl rfl ?_
    refine Wp.go (x := (.lxor, 1, 0, 0)) rfl 31 [some (.ref r0), some (.int x1), some (.int x2)] [.long ((J f1 j2) ^^^ (J r0 11))] rfl ⟨rfl, rfl, rfl, rfl⟩ ?_
    refine Wp.ldcj (v := lN 68719476735) rfl rfl (by first | rfl | decide) ?_
    refine Wp.go (x := (.land, 1, 0, 0)) rfl 35 [some (.ref r0), some (.int x1), some (.int x2)] [.long (((J f1 j2) ^^^ (J r0 11)) &&& (lN 68719476735))] rfl ⟨rfl, rfl, rfl, rfl⟩ ?_
    refine Wp.bp (v := nI 9) rfl rfl (by decide) ?_
    refine Wp.go (x := (.lushr, 1, 0, 0)) rfl 38 [some (.ref r0), some (.int x1), some (.int x2)] [.long (((((J f1 j2) ^^^ (J r0 11)) &&& (lN 68719476735)).toUInt64 >>> ((nI 9).toInt64.toUInt64 &&& Int64.toUInt64 63)).toInt64)] rfl ⟨rfl, rfl, rfl, rfl⟩ ?_
    refine Wp.lc (v := lN 0) rfl rfl (by first | rfl | decide) ?_
    refine Wp.go (x := (.lcmp, 1, 0, 0)) rfl 40 [some (.ref r0), some (.int x1), some (.int x2)] [.int (lg_cmp (((((J f1 j2) ^^^ (J r0 11)) &&& (lN 68719476735)).toUInt64 >>> ((nI 9).toInt64.toUInt64 &&& Int64.toUInt64 63)).toInt64) (lN 0))] rfl ⟨rfl, rfl, rfl, rfl⟩ ?_
    refine Wp.z_ne rfl rfl ⟨fun c => ?_, fun c => ?_⟩
    · have H := H.1 c
      refine Wp.ii (v := nI 1) rfl rfl (by decide) rfl (L' := [some (.ref r0), some (.int x1), some (.int (x2 + nI 1))]) rfl ?_
      refine Wp.go (x := (.goto (-38), 3, 10, 0)) rfl 10 [some (.ref r0), some (.int x1), some (.int (x2 + nI 1))] [] rfl ⟨rfl, rfl, rfl, rfl⟩ ?_
      exact H
    · have H := H.2 c
      refine Wp.ic (v := nI 1) rfl rfl (by decide) ?_
      exact Wp.rZ rfl rfl (Or.inr rfl) H
set_option maxRecDepth 20000 in
theorem wX4_leadByCopies_0 {d : Nat} {Q : Option Value × xS → Prop} {K : Nat → Nat × Nat} {P : List Nat × Nat × Nat} {I : Nat → Nat → Int32} {J : Nat → Nat → Int64} {F : Nat → Nat → Option Nat} {r0 : Nat} {n_r0 : Nat} {f1 : Nat} {n_f1 : Nat} {f5 : Nat} {n_f5 : Nat} (hn_r0 : K r0 = (3, n_r0)) (hf1 : F r0 1 = some f1) (hn_f1 : K f1 = (2, n_f1)) (hf5 : F r0 0 = some f5) (hn_f5 : K f5 = (8, n_f5)) (H : Wp d 15 0 [some (.ref f1), some (.int (nI 1))] [] (K, P, I, J, F) (xrI K P F (fun v2 I3 J4 => Wp d 69 0 [some (.ref f5), some (.int (I3 r0 8))] [] (K, P, I3, J4, F) (xrI K P F (fun v6 I7 J8 => Wp (d + 1) 35 21 [some (.ref r0), some (.int v2), some (.int v6), none, none] [] (K, P, I7, J8, F) Q))))) : Wp (d + 1) 35 0 [some (.ref r0), none, none, none, none] [] (K, P, I, J, F) Q := by
  refine Wp.go (x := (.aload_n 0, 1, 0, 0)) rfl 1 [some (.ref r0), none, none, none, none] [.ref r0] rfl ⟨rfl, rfl, rfl, rfl⟩ ?_
  refine Wp.gR rfl rfl hn_r0 rfl rfl hf1 ?_
  refine Wp.ic (v := nI 1) rfl rfl (by decide) ?_
  refine Wp.kI (x := (.invokevirtual 118, 3, 15, 2)) (j := 15) (vs := [.ref f1, .int (nI 1)]) (rest := []) rfl (by show xtg 15 (K f1).1 = _; rw [hn_f1]; rfl) rfl ⟨Nat.le_of_ble_eq_true rfl, Nat.le_of_ble_eq_true rfl, Nat.le_of_ble_eq_true rfl⟩ rfl rfl rfl H (fun v2 I3 J4 H => ?_)
  refine Wp.go (x := (.istore_n 1, 1, 0, 0)) rfl 9 [some (.ref r0), some (.int v2), none, none, none] [] rfl ⟨rfl, rfl, rfl, rfl⟩ ?_
  refine Wp.go (x := (.aload_n 0, 1, 0, 0)) rfl 10 [some (.ref r0), some (.int v2), none, none, none] [.ref r0] rfl ⟨rfl, rfl, rfl, rfl⟩ ?_
  refine Wp.gR rfl rfl hn_r0 rfl rfl hf5 ?_
  refine Wp.go (x := (.aload_n 0, 1, 0, 0)) rfl 14 [some (.ref r0), some (.int v2), none, none, none] [.ref r0, .ref f5] rfl ⟨rfl, rfl, rfl, rfl⟩ ?_
  refine Wp.gI rfl rfl hn_r0 rfl ⟨by decide, by decide⟩ ?_
  refine Wp.kI (x := (.invokevirtual 129, 3, 69, 2)) (j := 69) (vs := [.ref f5, .int (I3 r0 8)]) (rest := []) rfl (by show xtg 69 (K f5).1 = _; rw [hn_f5]; rfl) rfl ⟨Nat.le_of_ble_eq_true rfl, Nat.le_of_ble_eq_true rfl, Nat.le_of_ble_eq_true rfl⟩ rfl rfl rfl H (fun v6 I7 J8 H => ?_)
  refine Wp.go (x := (.istore_n 2, 1, 0, 0)) rfl 21 [some (.ref r0), some (.int v2), some (.int v6), none, none] [] rfl ⟨rfl, rfl, rfl, rfl⟩ ?_
  exact H
set_option maxRecDepth 20000 in
theorem wX4_leadByCopies_21 {d : Nat} {Q : Option Value × xS → Prop} {K : Nat → Nat × Nat} {P : List Nat × Nat × Nat} {I : Nat → Nat → Int32} {J : Nat → Nat → Int64} {F : Nat → Nat → Option Nat} {r0 : Nat} {x1 : Int32} {x2 : Int32} {n_r0 : Nat} {f1 : Nat} {n_f1 : Nat} {f5 : Nat} {n_f5 : Nat} {f6 : Nat} {n_f6 : Nat} {f8 : Nat} {n_f8 : Nat} (hK : ∀ {a k n : Nat}, K a = (k, n) → n < 2147483648) (hn_r0 : K r0 = (3, n_r0)) (hf1 : F r0 0 = some f1) (hn_f1 : K f1 = (8, n_f1)) (hf5 : F r0 1 = some f5) (hn_f5 : K f5 = (2, n_f5)) (hf6 : F f5 3 = some f6) (hn_f6 : K f6 = (100, n_f6)) (hf8 : F f5 4 = some f8) (hn_f8 : K f8 = (100, n_f8)) (H : ((x2 < (I f1 0) → Q (none, (K, P, I, J, F))) ∧ (¬ x2 < (I f1 0) → Wp d 70 0 [some (.ref f1), some (.int (I r0 8)), some (.int x2)] [] (K, P, I, J, F) (xrI K P F (fun v2 I3 J4 => (∃ j7 : Nat, x2 = nI j7 ∧ j7 < n_f6 ∧ (∃ j9 : Nat, v2 = nI j9 ∧ j9 < n_f8 ∧ Wp d 28 0 [some (.long (J4 r0 11)), none, some (.int v2)] [] (K, P, I3, J4, F) (xrJ K P F (fun v10 I11 J12 => Wp d 37 0 [some (.ref r0), some (.int (nI 1)), some (.int x2), some (.int ((x1 + (I3 f6 j7)) + (I3 f8 j9))), some (.long v10), none, none, none, none, none, none, none] [] (K, P, I11, J12, F) (xrV K P F (fun I13 J14 => Wp (d + 1) 35 21 [some (.ref r0), some (.int x1), some (.int (x2 + (-1))), none, none] [] (K, P, I13, J14, F) Q))))))))))) : Wp (d + 1) 35 21 [some (.ref r0), some (.int x1), some (.int x2), none, none] [] (K, P, I, J, F) Q := by
  refine Wp.go (x := (.iload_n 2, 1, 0, 0)) rfl 22 [some (.ref r0), some (.int x1), some (.int x2), none, none] [.int x2] rfl ⟨rfl, rfl, rfl, rfl⟩ ?_
  refine Wp.go (x := (.aload_n 0, 1, 0, 0)) rfl 23 [some (.ref r0), some (.int x1), some (.int x2), none, none] [.ref r0, .int x2] rfl ⟨rfl, rfl, rfl, rfl⟩ ?_
  refine Wp.gR rfl rfl hn_r0 rfl rfl hf1 ?_
  refine Wp.gI rfl rfl hn_f1 rfl ⟨by decide, by decide⟩ ?_
  refine Wp.c_lt rfl rfl ⟨fun c => ?_, fun c => ?_⟩
  · have H := H.1 c
    exact Wp.rV rfl rfl H
  · have H := H.2 c
    refine Wp.go (x := (.aload_n 0, 1, 0, 0)) rfl 33 [some (.ref r0), some (.int x1), some (.int x2), none, none] [.ref r0] rfl ⟨rfl, rfl, rfl, rfl⟩ ?_
    refine Wp.gR rfl rfl hn_r0 rfl rfl hf1 ?_
    refine Wp.go (x := (.aload_n 0, 1, 0, 0)) rfl 37 [some (.ref r0), some (.int x1), some (.int x2), none, none] [.ref r0, .ref f1] rfl ⟨rfl, rfl, rfl, rfl⟩ ?_
    refine Wp.gI rfl rfl hn_r0 rfl ⟨by decide, by decide⟩ ?_
    refine Wp.go (x := (.iload_n 2, 1, 0, 0)) rfl 41 [some (.ref r0), some (.int x1), some (.int x2), none, none] [.int x2, .int (I r0 8), .ref f1] rfl ⟨rfl, rfl, rfl, rfl⟩ ?_
    refine Wp.kI (x := (.invokevirtual 135, 3, 70, 3)) (j := 70) (vs := [.ref f1, .int (I r0 8), .int x2]) (rest := []) rfl (by show xtg 70 (K f1).1 = _; rw [hn_f1]; rfl) rfl ⟨Nat.le_of_ble_eq_true rfl, Nat.le_of_ble_eq_true rfl, Nat.le_of_ble_eq_true rfl⟩ rfl rfl rfl H (fun v2 I3 J4 H => ?_)
    refine Wp.go (x := (.istore_n 3, 1, 0, 0)) rfl 45 [some (.ref r0), some (.int x1), some (.int x2), some (.int v2), none] [] rfl ⟨rfl, rfl, rfl, rfl⟩ ?_
    refine Wp.go (x := (.iload_n 1, 1, 0, 0)) rfl 46 [some (.ref r0), some (.int x1), some (.int x2), some (.int v2), none] [.int x1] rfl ⟨rfl, rfl, rfl, rfl⟩ ?_
    refine Wp.go (x := (.aload_n 0, 1, 0, 0)) rfl 47 [some (.ref r0), some (.int x1), some (.int x2), some (.int v2), none] [.ref r0, .int x1] rfl ⟨rfl, rfl, rfl, rfl⟩ ?_
    refine Wp.gR rfl rfl hn_r0 rfl rfl hf5 ?_
    refine Wp.gR rfl rfl hn_f5 rfl rfl hf6 ?_
    refine Wp.go (x := (.iload_n 2, 1, 0, 0)) rfl 54 [some (.ref r0), some (.int x1), some (.int x2), some (.int v2), none] [.int x2, .ref f6, .int x1] rfl ⟨rfl, rfl, rfl, rfl⟩ ?_
    obtain ⟨j7, e, b, H⟩ := H
    refine Wp.ald rfl rfl hn_f6 (Or.inl rfl) (hK hn_f6) ⟨j7, e, b, ?_⟩
    refine Wp.go (x := (.iadd, 1, 0, 0)) rfl 56 [some (.ref r0), some (.int x1), some (.int x2), some (.int v2), none] [.int (x1 + (I3 f6 j7))] rfl ⟨rfl, rfl, rfl, rfl⟩ ?_
    refine Wp.go (x := (.aload_n 0, 1, 0, 0)) rfl 57 [some (.ref r0), some (.int x1), some (.int x2), some (.int v2), none] [.ref r0, .int (x1 + (I3 f6 j7))] rfl ⟨rfl, rfl, rfl, rfl⟩ ?_
    refine Wp.gR rfl rfl hn_r0 rfl rfl hf5 ?_
    refine Wp.gR rfl rfl hn_f5 rfl rfl hf8 ?_
    refine Wp.go (x := (.iload_n 3, 1, 0, 0)) rfl 64 [some (.ref r0), some (.int x1), some (.int x2), some (.int v2), none] [.int v2, .ref f8, .int (x1 + (I3 f6 j7))] rfl ⟨rfl, rfl, rfl, rfl⟩ ?_
    obtain ⟨j9, e, b, H⟩ := H
    refine Wp.ald rfl rfl hn_f8 (Or.inl rfl) (hK hn_f8) ⟨j9, e, b, ?_⟩
    refine Wp.go (x := (.iadd, 1, 0, 0)) rfl 66 [some (.ref r0), some (.int x1), some (.int x2), some (.int v2), none] [.int ((x1 + (I3 f6 j7)) + (I3 f8 j9))] rfl ⟨rfl, rfl, rfl, rfl⟩ ?_
    refine Wp.go (x := (.istore 4, 2, 0, 0)) rfl 68 [some (.ref r0), some (.int x1), some (.int x2), some (.int v2), some (.int ((x1 + (I3 f6 j7)) + (I3 f8 j9)))] [] rfl ⟨rfl, rfl, rfl, rfl⟩ ?_
    refine Wp.go (x := (.aload_n 0, 1, 0, 0)) rfl 69 [some (.ref r0), some (.int x1), some (.int x2), some (.int v2), some (.int ((x1 + (I3 f6 j7)) + (I3 f8 j9)))] [.ref r0] rfl ⟨rfl, rfl, rfl, rfl⟩ ?_
    refine Wp.ic (v := nI 1) rfl rfl (by decide) ?_
    refine Wp.go (x := (.iload_n 2, 1, 0, 0)) rfl 71 [some (.ref r0), some (.int x1), some (.int x2), some (.int v2), some (.int ((x1 + (I3 f6 j7)) + (I3 f8 j9)))] [.int x2, .int (nI 1), .ref r0] rfl ⟨rfl, rfl, rfl, rfl⟩ ?_
    refine Wp.go (x := (.iload 4, 2, 0, 0)) rfl 73 [some (.ref r0), some (.int x1), some (.int x2), some (.int v2), some (.int ((x1 + (I3 f6 j7)) + (I3 f8 j9)))] [.int ((x1 + (I3 f6 j7)) + (I3 f8 j9)), .int x2, .int (nI 1), .ref r0] rfl ⟨rfl, rfl, rfl, rfl⟩ ?_
    refine Wp.go (x := (.aload_n 0, 1, 0, 0)) rfl 74 [some (.ref r0), some (.int x1), some (.int x2), some (.int v2), some (.int ((x1 + (I3 f6 j7)) + (I3 f8 j9)))] [.ref r0, .int ((x1 + (I3 f6 j7)) + (I3 f8 j9)), .int x2, .int (nI 1), .ref r0] rfl ⟨rfl, rfl, rfl, rfl⟩ ?_
    refine Wp.gJ rfl rfl hn_r0 rfl rfl ?_
    refine Wp.go (x := (.iload_n 3, 1, 0, 0)) rfl 78 [some (.ref r0), some (.int x1), some (.int x2), some (.int v2), some (.int ((x1 + (I3 f6 j7)) + (I3 f8 j9)))] [.int v2, .long (J4 r0 11), .int ((x1 + (I3 f6 j7)) + (I3 f8 j9)), .int x2, .int (nI 1), .ref r0] rfl ⟨rfl, rfl, rfl, rfl⟩ ?_
    refine Wp.kJ (x := (.invokestatic 144, 3, 28, 2)) (j := 28) (vs := [.long (J4 r0 11), .int v2]) (rest := [.int ((x1 + (I3 f6 j7)) + (I3 f8 j9)), .int x2, .int (nI 1), .ref r0]) rfl rfl rfl ⟨Nat.le_of_ble_eq_true rfl, Nat.le_of_ble_eq_true rfl, Nat.le_of_ble_eq_true rfl⟩ rfl rfl rfl H (fun v10 I11 J12 H => ?_)
    refine Wp.kV (x := (.invokevirtual 122, 3, 37, 5)) (j := 37) (vs := [.ref r0, .int (nI 1), .int x2, .int ((x1 + (I3 f6 j7)) + (I3 f8 j9)), .long v10]) (rest := []) rfl (by show xtg 37 (K r0).1 = _; rw [hn_r0]; rfl) rfl ⟨Nat.le_of_ble_eq_true rfl, Nat.le_of_ble_eq_true rfl, Nat.le_of_ble_eq_true rfl⟩ rfl rfl rfl H (fun I13 J14 H => ?_)
    refine Wp.ii (v := (-1)) rfl rfl (by decide) rfl (L' := [some (.ref r0), some (.int x1), some (.int (x2 + (-1))), some (.int v2), some (.int ((x1 + (I3 f6 j7)) + (I3 f8 j9)))]) rfl ?_
    refine Wp.go (x := (.goto (-66), 3, 21, 0)) rfl 21 [some (.ref r0), some (.int x1), some (.int (x2 + (-1))), some (.int v2), some (.int ((x1 + (I3 f6 j7)) + (I3 f8 j9)))] [] rfl ⟨rfl, rfl, rfl, rfl⟩ ?_
    exact Wp.wk (L := [some (.ref r0), some (.int x1), some (.int (x2 + (-1))), none, none]) ⟨Or.inr rfl, Or.inr rfl, Or.inr rfl, Or.inl rfl, Or.inl rfl, trivial⟩ H
set_option maxRecDepth 20000 in
theorem wX4_leadByAgain_0 {d : Nat} {Q : Option Value × xS → Prop} {K : Nat → Nat × Nat} {P : List Nat × Nat × Nat} {I : Nat → Nat → Int32} {J : Nat → Nat → Int64} {F : Nat → Nat → Option Nat} {r0 : Nat} {x1 : Int32} {n_r0 : Nat} {f1 : Nat} {n_f1 : Nat} {f8 : Nat} {n_f8 : Nat} (hn_r0 : K r0 = (3, n_r0)) (hf1 : F r0 0 = some f1) (hn_f1 : K f1 = (8, n_f1)) (hf8 : F r0 1 = some f8) (hn_f8 : K f8 = (2, n_f8)) (H : Wp d 27 0 [some (.long (J r0 11)), none, some (.int x1)] [] (K, P, I, J, F) (xrI K P F (fun v2 I3 J4 => Wp d 71 0 [some (.ref f1), some (.int (I r0 8)), some (.int v2), none, none] [] (K, P, I3, J4, F) (xrI K P F (fun v5 I6 J7 => Wp d 15 0 [some (.ref f8), some (.int ((nI 2) + x1))] [] (K, P, I6, J7, F) (xrI K P F (fun v9 I10 J11 => Wp d 29 0 [some (.long (J11 r0 11)), none, some (.int x1), none, none, none, none, none] [] (K, P, I10, J11, F) (xrJ K P F (fun v12 I13 J14 => Wp (d + 1) 36 41 [some (.ref r0), some (.int x1), some (.int v5), some (.int v9), some (.long v12), none] [] (K, P, I13, J14, F) Q))))))))) : Wp (d + 1) 36 0 [some (.ref r0), some (.int x1), none, none, none, none] [] (K, P, I, J, F) Q := by
  refine Wp.go (x := (.aload_n 0, 1, 0, 0)) rfl 1 [some (.ref r0), some (.int x1), none, none, none, none] [.ref r0] rfl ⟨rfl, rfl, rfl, rfl⟩ ?_
  refine Wp.gR rfl rfl hn_r0 rfl rfl hf1 ?_
  refine Wp.go (x := (.aload_n 0, 1, 0, 0)) rfl 5 [some (.ref r0), some (.int x1), none, none, none, none] [.ref r0, .ref f1] rfl ⟨rfl, rfl, rfl, rfl⟩ ?_
  refine Wp.gI rfl rfl hn_r0 rfl ⟨by decide, by decide⟩ ?_
  refine Wp.go (x := (.aload_n 0, 1, 0, 0)) rfl 9 [some (.ref r0), some (.int x1), none, none, none, none] [.ref r0, .int (I r0 8), .ref f1] rfl ⟨rfl, rfl, rfl, rfl⟩ ?_
  refine Wp.gJ rfl rfl hn_r0 rfl rfl ?_
  refine Wp.go (x := (.iload_n 1, 1, 0, 0)) rfl 13 [some (.ref r0), some (.int x1), none, none, none, none] [.int x1, .long (J r0 11), .int (I r0 8), .ref f1] rfl ⟨rfl, rfl, rfl, rfl⟩ ?_
  refine Wp.kI (x := (.invokestatic 111, 3, 27, 2)) (j := 27) (vs := [.long (J r0 11), .int x1]) (rest := [.int (I r0 8), .ref f1]) rfl rfl rfl ⟨Nat.le_of_ble_eq_true rfl, Nat.le_of_ble_eq_true rfl, Nat.le_of_ble_eq_true rfl⟩ rfl rfl rfl H (fun v2 I3 J4 H => ?_)
  refine Wp.kI (x := (.invokevirtual 148, 3, 71, 3)) (j := 71) (vs := [.ref f1, .int (I r0 8), .int v2]) (rest := []) rfl (by show xtg 71 (K f1).1 = _; rw [hn_f1]; rfl) rfl ⟨Nat.le_of_ble_eq_true rfl, Nat.le_of_ble_eq_true rfl, Nat.le_of_ble_eq_true rfl⟩ rfl rfl rfl H (fun v5 I6 J7 H => ?_)
  refine Wp.go (x := (.istore_n 2, 1, 0, 0)) rfl 20 [some (.ref r0), some (.int x1), some (.int v5), none, none, none] [] rfl ⟨rfl, rfl, rfl, rfl⟩ ?_
  refine Wp.go (x := (.aload_n 0, 1, 0, 0)) rfl 21 [some (.ref r0), some (.int x1), some (.int v5), none, none, none] [.ref r0] rfl ⟨rfl, rfl, rfl, rfl⟩ ?_
  refine Wp.gR rfl rfl hn_r0 rfl rfl hf8 ?_
  refine Wp.ic (v := nI 2) rfl rfl (by decide) ?_
  refine Wp.go (x := (.iload_n 1, 1, 0, 0)) rfl 26 [some (.ref r0), some (.int x1), some (.int v5), none, none, none] [.int x1, .int (nI 2), .ref f8] rfl ⟨rfl, rfl, rfl, rfl⟩ ?_
  refine Wp.go (x := (.iadd, 1, 0, 0)) rfl 27 [some (.ref r0), some (.int x1), some (.int v5), none, none, none] [.int ((nI 2) + x1), .ref f8] rfl ⟨rfl, rfl, rfl, rfl⟩ ?_
  refine Wp.kI (x := (.invokevirtual 118, 3, 15, 2)) (j := 15) (vs := [.ref f8, .int ((nI 2) + x1)]) (rest := []) rfl (by show xtg 15 (K f8).1 = _; rw [hn_f8]; rfl) rfl ⟨Nat.le_of_ble_eq_true rfl, Nat.le_of_ble_eq_true rfl, Nat.le_of_ble_eq_true rfl⟩ rfl rfl rfl H (fun v9 I10 J11 H => ?_)
  refine Wp.go (x := (.istore_n 3, 1, 0, 0)) rfl 31 [some (.ref r0), some (.int x1), some (.int v5), some (.int v9), none, none] [] rfl ⟨rfl, rfl, rfl, rfl⟩ ?_
  refine Wp.go (x := (.aload_n 0, 1, 0, 0)) rfl 32 [some (.ref r0), some (.int x1), some (.int v5), some (.int v9), none, none] [.ref r0] rfl ⟨rfl, rfl, rfl, rfl⟩ ?_
  refine Wp.gJ rfl rfl hn_r0 rfl rfl ?_
  refine Wp.go (x := (.iload_n 1, 1, 0, 0)) rfl 36 [some (.ref r0), some (.int x1), some (.int v5), some (.int v9), none, none] [.int x1, .long (J11 r0 11)] rfl ⟨rfl, rfl, rfl, rfl⟩ ?_
  refine Wp.kJ (x := (.invokestatic 151, 3, 29, 2)) (j := 29) (vs := [.long (J11 r0 11), .int x1]) (rest := []) rfl rfl rfl ⟨Nat.le_of_ble_eq_true rfl, Nat.le_of_ble_eq_true rfl, Nat.le_of_ble_eq_true rfl⟩ rfl rfl rfl H (fun v12 I13 J14 H => ?_)
  refine Wp.go (x := (.lstore 4, 2, 0, 0)) rfl 41 [some (.ref r0), some (.int x1), some (.int v5), some (.int v9), some (.long v12), none] [] rfl ⟨rfl, rfl, rfl, rfl⟩ ?_
  exact H
set_option maxRecDepth 20000 in
theorem wX4_leadByAgain_41 {d : Nat} {Q : Option Value × xS → Prop} {K : Nat → Nat × Nat} {P : List Nat × Nat × Nat} {I : Nat → Nat → Int32} {J : Nat → Nat → Int64} {F : Nat → Nat → Option Nat} {r0 : Nat} {x1 : Int32} {x2 : Int32} {x3 : Int32} {y4 : Int64} {n_r0 : Nat} {f1 : Nat} {n_f1 : Nat} {f2 : Nat} {n_f2 : Nat} {f3 : Nat} {n_f3 : Nat} (hK : ∀ {a k n : Nat}, K a = (k, n) → n < 2147483648) (hn_r0 : K r0 = (3, n_r0)) (hf1 : F r0 0 = some f1) (hn_f1 : K f1 = (8, n_f1)) (hf2 : F r0 1 = some f2) (hn_f2 : K f2 = (2, n_f2)) (hf3 : F f2 3 = some f3) (hn_f3 : K f3 = (100, n_f3)) (H : ((x2 < (I f1 0) → Q (none, (K, P, I, J, F))) ∧ (¬ x2 < (I f1 0) → (∃ j4 : Nat, x2 = nI j4 ∧ j4 < n_f3 ∧ Wp d 37 0 [some (.ref r0), some (.int ((nI 2) + x1)), some (.int x2), some (.int (x3 + (I f3 j4))), some (.long y4), none, none, none, none, none, none, none] [] (K, P, I, J, F) (xrV K P F (fun I5 J6 => Wp (d + 1) 36 41 [some (.ref r0), some (.int x1), some (.int (x2 + (-1))), some (.int x3), some (.long y4), none] [] (K, P, I5, J6, F) Q)))))) : Wp (d + 1) 36 41 [some (.ref r0), some (.int x1), some (.int x2), some (.int x3), some (.long y4), none] [] (K, P, I, J, F) Q := by
  refine Wp.go (x := (.iload_n 2, 1, 0, 0)) rfl 42 [some (.ref r0), some (.int x1), some (.int x2), some (.int x3), some (.long y4), none] [.int x2] rfl ⟨rfl, rfl, rfl, rfl⟩ ?_
  refine Wp.go (x := (.aload_n 0, 1, 0, 0)) rfl 43 [some (.ref r0), some (.int x1), some (.int x2), some (.int x3), some (.long y4), none] [.ref r0, .int x2] rfl ⟨rfl, rfl, rfl, rfl⟩ ?_
  refine Wp.gR rfl rfl hn_r0 rfl rfl hf1 ?_
  refine Wp.gI rfl rfl hn_f1 rfl ⟨by decide, by decide⟩ ?_
  refine Wp.c_lt rfl rfl ⟨fun c => ?_, fun c => ?_⟩
  · have H := H.1 c
    exact Wp.rV rfl rfl H
  · have H := H.2 c
    refine Wp.go (x := (.aload_n 0, 1, 0, 0)) rfl 53 [some (.ref r0), some (.int x1), some (.int x2), some (.int x3), some (.long y4), none] [.ref r0] rfl ⟨rfl, rfl, rfl, rfl⟩ ?_
    refine Wp.ic (v := nI 2) rfl rfl (by decide) ?_
    refine Wp.go (x := (.iload_n 1, 1, 0, 0)) rfl 55 [some (.ref r0), some (.int x1), some (.int x2), some (.int x3), some (.long y4), none] [.int x1, .int (nI 2), .ref r0] rfl ⟨rfl, rfl, rfl, rfl⟩ ?_
    refine Wp.go (x := (.iadd, 1, 0, 0)) rfl 56 [some (.ref r0), some (.int x1), some (.int x2), some (.int x3), some (.long y4), none] [.int ((nI 2) + x1), .ref r0] rfl ⟨rfl, rfl, rfl, rfl⟩ ?_
    refine Wp.go (x := (.iload_n 2, 1, 0, 0)) rfl 57 [some (.ref r0), some (.int x1), some (.int x2), some (.int x3), some (.long y4), none] [.int x2, .int ((nI 2) + x1), .ref r0] rfl ⟨rfl, rfl, rfl, rfl⟩ ?_
    refine Wp.go (x := (.iload_n 3, 1, 0, 0)) rfl 58 [some (.ref r0), some (.int x1), some (.int x2), some (.int x3), some (.long y4), none] [.int x3, .int x2, .int ((nI 2) + x1), .ref r0] rfl ⟨rfl, rfl, rfl, rfl⟩ ?_
    refine Wp.go (x := (.aload_n 0, 1, 0, 0)) rfl 59 [some (.ref r0), some (.int x1), some (.int x2), some (.int x3), some (.long y4), none] [.ref r0, .int x3, .int x2, .int ((nI 2) + x1), .ref r0] rfl ⟨rfl, rfl, rfl, rfl⟩ ?_
    refine Wp.gR rfl rfl hn_r0 rfl rfl hf2 ?_
    refine Wp.gR rfl rfl hn_f2 rfl rfl hf3 ?_
    refine Wp.go (x := (.iload_n 2, 1, 0, 0)) rfl 66 [some (.ref r0), some (.int x1), some (.int x2), some (.int x3), some (.long y4), none] [.int x2, .ref f3, .int x3, .int x2, .int ((nI 2) + x1), .ref r0] rfl ⟨rfl, rfl, rfl, rfl⟩ ?_
    obtain ⟨j4, e, b, H⟩ := H
    refine Wp.ald rfl rfl hn_f3 (Or.inl rfl) (hK hn_f3) ⟨j4, e, b, ?_⟩
    refine Wp.go (x := (.iadd, 1, 0, 0)) rfl 68 [some (.ref r0), some (.int x1), some (.int x2), some (.int x3), some (.long y4), none] [.int (x3 + (I f3 j4)), .int x2, .int ((nI 2) + x1), .ref r0] rfl ⟨rfl, rfl, rfl, rfl⟩ ?_
    refine Wp.go (x := (.lload 4, 2, 0, 0)) rfl 70 [some (.ref r0), some (.int x1), some (.int x2), some (.int x3), some (.long y4), none] [.long y4, .int (x3 + (I f3 j4)), .int x2, .int ((nI 2) + x1), .ref r0] rfl ⟨rfl, rfl, rfl, rfl⟩ ?_
    refine Wp.kV (x := (.invokevirtual 122, 3, 37, 5)) (j := 37) (vs := [.ref r0, .int ((nI 2) + x1), .int x2, .int (x3 + (I f3 j4)), .long y4]) (rest := []) rfl (by show xtg 37 (K r0).1 = _; rw [hn_r0]; rfl) rfl ⟨Nat.le_of_ble_eq_true rfl, Nat.le_of_ble_eq_true rfl, Nat.le_of_ble_eq_true rfl⟩ rfl rfl rfl H (fun I5 J6 H => ?_)
    refine Wp.ii (v := (-1)) rfl rfl (by decide) rfl (L' := [some (.ref r0), some (.int x1), some (.int (x2 + (-1))), some (.int x3), some (.long y4), none]) rfl ?_
    refine Wp.go (x := (.goto (-35), 3, 41, 0)) rfl 41 [some (.ref r0), some (.int x1), some (.int (x2 + (-1))), some (.int x3), some (.long y4), none] [] rfl ⟨rfl, rfl, rfl, rfl⟩ ?_
    exact H
set_option maxRecDepth 20000 in
theorem wX4_lead_0 {d : Nat} {Q : Option Value × xS → Prop} {K : Nat → Nat × Nat} {P : List Nat × Nat × Nat} {I : Nat → Nat → Int32} {J : Nat → Nat → Int64} {F : Nat → Nat → Option Nat} {r0 : Nat} {x1 : Int32} {x2 : Int32} {x3 : Int32} {y4 : Int64} {n_r0 : Nat} {f1 : Nat} {n_f1 : Nat} {f3 : Nat} {n_f3 : Nat} (hK : ∀ {a k n : Nat}, K a = (k, n) → n < 2147483648) (hn_r0 : K r0 = (3, n_r0)) (hf1 : F r0 6 = some f1) (hn_f1 : K f1 = (101, n_f1)) (hf3 : F r0 4 = some f3) (hn_f3 : K f3 = (100, n_f3)) (H : (∃ j2 : Nat, ((I r0 8) + x2) = nI j2 ∧ j2 < n_f1 ∧ (((lg_cmp ((((J r0 10) + x3.toInt64) <<< ((nI 36).toInt64 &&& 63)) ||| y4) (J f1 j2)) ≤ 0 → (∃ j4 : Nat, ((I r0 8) + x2) = nI j4 ∧ j4 < n_f3 ∧ Wp d 37 59 [some (.ref r0), some (.int x1), some (.int x2), none, some (.long y4), none, some (.int ((I r0 8) + x2)), some (.long ((((J r0 10) + x3.toInt64) <<< ((nI 36).toInt64 &&& 63)) ||| y4)), none, some (.int ((((I r0 8) + x2) * (nI 40)) + (I f3 j4))), some (.int (((I r0 8) + x2) * (nI 40))), none] [] (K, P, I, J, F) Q)) ∧ (¬ (lg_cmp ((((J r0 10) + x3.toInt64) <<< ((nI 36).toInt64 &&& 63)) ||| y4) (J f1 j2)) ≤ 0 → Q (none, (K, P, I, J, F)))))) : Wp d 37 0 [some (.ref r0), some (.int x1), some (.int x2), some (.int x3), some (.long y4), none, none, none, none, none, none, none] [] (K, P, I, J, F) Q := by
  refine Wp.go (x := (.aload_n 0, 1, 0, 0)) rfl 1 [some (.ref r0), some (.int x1), some (.int x2), some (.int x3), some (.long y4), none, none, none, none, none, none, none] [.ref r0] rfl ⟨rfl, rfl, rfl, rfl⟩ ?_
  refine Wp.gI rfl rfl hn_r0 rfl ⟨by decide, by decide⟩ ?_
  refine Wp.go (x := (.iload_n 2, 1, 0, 0)) rfl 5 [some (.ref r0), some (.int x1), some (.int x2), some (.int x3), some (.long y4), none, none, none, none, none, none, none] [.int x2, .int (I r0 8)] rfl ⟨rfl, rfl, rfl, rfl⟩ ?_
  refine Wp.go (x := (.iadd, 1, 0, 0)) rfl 6 [some (.ref r0), some (.int x1), some (.int x2), some (.int x3), some (.long y4), none, none, none, none, none, none, none] [.int ((I r0 8) + x2)] rfl ⟨rfl, rfl, rfl, rfl⟩ ?_
  refine Wp.go (x := (.istore 6, 2, 0, 0)) rfl 8 [some (.ref r0), some (.int x1), some (.int x2), some (.int x3), some (.long y4), none, some (.int ((I r0 8) + x2)), none, none, none, none, none] [] rfl ⟨rfl, rfl, rfl, rfl⟩ ?_
  refine Wp.go (x := (.aload_n 0, 1, 0, 0)) rfl 9 [some (.ref r0), some (.int x1), some (.int x2), some (.int x3), some (.long y4), none, some (.int ((I r0 8) + x2)), none, none, none, none, none] [.ref r0] rfl ⟨rfl, rfl, rfl, rfl⟩ ?_
  refine Wp.gJ rfl rfl hn_r0 rfl rfl ?_
  refine Wp.go (x := (.iload_n 3, 1, 0, 0)) rfl 13 [some (.ref r0), some (.int x1), some (.int x2), some (.int x3), some (.long y4), none, some (.int ((I r0 8) + x2)), none, none, none, none, none] [.int x3, .long (J r0 10)] rfl ⟨rfl, rfl, rfl, rfl⟩ ?_
  refine Wp.go (x := (.i2l, 1, 0, 0)) rfl 14 [some (.ref r0), some (.int x1), some (.int x2), some (.int x3), some (.long y4), none, some (.int ((I r0 8) + x2)), none, none, none, none, none] [.long x3.toInt64, .long (J r0 10)] rfl ⟨rfl, rfl, rfl, rfl⟩ ?_
  refine Wp.go (x := (.ladd, 1, 0, 0)) rfl 15 [some (.ref r0), some (.int x1), some (.int x2), some (.int x3), some (.long y4), none, some (.int ((I r0 8) + x2)), none, none, none, none, none] [.long ((J r0 10) + x3.toInt64)] rfl ⟨rfl, rfl, rfl, rfl⟩ ?_
  refine Wp.bp (v := nI 36) rfl rfl (by decide) ?_
  refine Wp.go (x := (.lshl, 1, 0, 0)) rfl 18 [some (.ref r0), some (.int x1), some (.int x2), some (.int x3), some (.long y4), none, some (.int ((I r0 8) + x2)), none, none, none, none, none] [.long (((J r0 10) + x3.toInt64) <<< ((nI 36).toInt64 &&& 63))] rfl ⟨rfl, rfl, rfl, rfl⟩ ?_
  refine Wp.go (x := (.lload 4, 2, 0, 0)) rfl 20 [some (.ref r0), some (.int x1), some (.int x2), some (.int x3), some (.long y4), none, some (.int ((I r0 8) + x2)), none, none, none, none, none] [.long y4, .long (((J r0 10) + x3.toInt64) <<< ((nI 36).toInt64 &&& 63))] rfl ⟨rfl, rfl, rfl, rfl⟩ ?_
  refine Wp.go (x := (.lor, 1, 0, 0)) rfl 21 [some (.ref r0), some (.int x1), some (.int x2), some (.int x3), some (.long y4), none, some (.int ((I r0 8) + x2)), none, none, none, none, none] [.long ((((J r0 10) + x3.toInt64) <<< ((nI 36).toInt64 &&& 63)) ||| y4)] rfl ⟨rfl, rfl, rfl, rfl⟩ ?_
  refine Wp.go (x := (.lstore 7, 2, 0, 0)) rfl 23 [some (.ref r0), some (.int x1), some (.int x2), some (.int x3), some (.long y4), none, some (.int ((I r0 8) + x2)), some (.long ((((J r0 10) + x3.toInt64) <<< ((nI 36).toInt64 &&& 63)) ||| y4)), none, none, none, none] [] rfl ⟨rfl, rfl, rfl, rfl⟩ ?_
  refine Wp.go (x := (.lload 7, 2, 0, 0)) rfl 25 [some (.ref r0), some (.int x1), some (.int x2), some (.int x3), some (.long y4), none, some (.int ((I r0 8) + x2)), some (.long ((((J r0 10) + x3.toInt64) <<< ((nI 36).toInt64 &&& 63)) ||| y4)), none, none, none, none] [.long ((((J r0 10) + x3.toInt64) <<< ((nI 36).toInt64 &&& 63)) ||| y4)] rfl ⟨rfl, rfl, rfl, rfl⟩ ?_
  refine Wp.go (x := (.aload_n 0, 1, 0, 0)) rfl 26 [some (.ref r0), some (.int x1), some (.int x2), some (.int x3), some (.long y4), none, some (.int ((I r0 8) + x2)), some (.long ((((J r0 10) + x3.toInt64) <<< ((nI 36).toInt64 &&& 63)) ||| y4)), none, none, none, none] [.ref r0, .long ((((J r0 10) + x3.toInt64) <<< ((nI 36).toInt64 &&& 63)) ||| y4)] rfl ⟨rfl, rfl, rfl, rfl⟩ ?_
  refine Wp.gR rfl rfl hn_r0 rfl rfl hf1 ?_
  refine Wp.go (x := (.iload 6, 2, 0, 0)) rfl 31 [some (.ref r0), some (.int x1), some (.int x2), some (.int x3), some (.long y4), none, some (.int ((I r0 8) + x2)), some (.long ((((J r0 10) + x3.toInt64) <<< ((nI 36).toInt64 &&& 63)) ||| y4)), none, none, none, none] [.int ((I r0 8) + x2), .ref f1, .long ((((J r0 10) + x3.toInt64) <<< ((nI 36).toInt64 &&& 63)) ||| y4)] rfl ⟨rfl, rfl, rfl, rfl⟩ ?_
  obtain ⟨j2, e, b, H⟩ := H
  refine Wp.lld rfl rfl hn_f1 (hK hn_f1) ⟨j2, e, b, ?_⟩
  refine Wp.go (x := (.lcmp, 1, 0, 0)) rfl 33 [some (.ref r0), some (.int x1), some (.int x2), some (.int x3), some (.long y4), none, some (.int ((I r0 8) + x2)), some (.long ((((J r0 10) + x3.toInt64) <<< ((nI 36).toInt64 &&& 63)) ||| y4)), none, none, none, none] [.int (lg_cmp ((((J r0 10) + x3.toInt64) <<< ((nI 36).toInt64 &&& 63)) ||| y4) (J f1 j2))] rfl ⟨rfl, rfl, rfl, rfl⟩ ?_
  refine Wp.z_le rfl rfl ⟨fun c => ?_, fun c => ?_⟩
  · have H := H.1 c
    refine Wp.go (x := (.iload 6, 2, 0, 0)) rfl 39 [some (.ref r0), some (.int x1), some (.int x2), some (.int x3), some (.long y4), none, some (.int ((I r0 8) + x2)), some (.long ((((J r0 10) + x3.toInt64) <<< ((nI 36).toInt64 &&& 63)) ||| y4)), none, none, none, none] [.int ((I r0 8) + x2)] rfl ⟨rfl, rfl, rfl, rfl⟩ ?_
    refine Wp.bp (v := nI 40) rfl rfl (by decide) ?_
    refine Wp.go (x := (.imul, 1, 0, 0)) rfl 42 [some (.ref r0), some (.int x1), some (.int x2), some (.int x3), some (.long y4), none, some (.int ((I r0 8) + x2)), some (.long ((((J r0 10) + x3.toInt64) <<< ((nI 36).toInt64 &&& 63)) ||| y4)), none, none, none, none] [.int (((I r0 8) + x2) * (nI 40))] rfl ⟨rfl, rfl, rfl, rfl⟩ ?_
    refine Wp.go (x := (.aload_n 0, 1, 0, 0)) rfl 43 [some (.ref r0), some (.int x1), some (.int x2), some (.int x3), some (.long y4), none, some (.int ((I r0 8) + x2)), some (.long ((((J r0 10) + x3.toInt64) <<< ((nI 36).toInt64 &&& 63)) ||| y4)), none, none, none, none] [.ref r0, .int (((I r0 8) + x2) * (nI 40))] rfl ⟨rfl, rfl, rfl, rfl⟩ ?_
    refine Wp.gR rfl rfl hn_r0 rfl rfl hf3 ?_
    refine Wp.go (x := (.iload 6, 2, 0, 0)) rfl 48 [some (.ref r0), some (.int x1), some (.int x2), some (.int x3), some (.long y4), none, some (.int ((I r0 8) + x2)), some (.long ((((J r0 10) + x3.toInt64) <<< ((nI 36).toInt64 &&& 63)) ||| y4)), none, none, none, none] [.int ((I r0 8) + x2), .ref f3, .int (((I r0 8) + x2) * (nI 40))] rfl ⟨rfl, rfl, rfl, rfl⟩ ?_
    obtain ⟨j4, e, b, H⟩ := H
    refine Wp.ald rfl rfl hn_f3 (Or.inl rfl) (hK hn_f3) ⟨j4, e, b, ?_⟩
    refine Wp.go (x := (.iadd, 1, 0, 0)) rfl 50 [some (.ref r0), some (.int x1), some (.int x2), some (.int x3), some (.long y4), none, some (.int ((I r0 8) + x2)), some (.long ((((J r0 10) + x3.toInt64) <<< ((nI 36).toInt64 &&& 63)) ||| y4)), none, none, none, none] [.int ((((I r0 8) + x2) * (nI 40)) + (I f3 j4))] rfl ⟨rfl, rfl, rfl, rfl⟩ ?_
    refine Wp.go (x := (.istore 9, 2, 0, 0)) rfl 52 [some (.ref r0), some (.int x1), some (.int x2), some (.int x3), some (.long y4), none, some (.int ((I r0 8) + x2)), some (.long ((((J r0 10) + x3.toInt64) <<< ((nI 36).toInt64 &&& 63)) ||| y4)), none, some (.int ((((I r0 8) + x2) * (nI 40)) + (I f3 j4))), none, none] [] rfl ⟨rfl, rfl, rfl, rfl⟩ ?_
    refine Wp.go (x := (.iload 6, 2, 0, 0)) rfl 54 [some (.ref r0), some (.int x1), some (.int x2), some (.int x3), some (.long y4), none, some (.int ((I r0 8) + x2)), some (.long ((((J r0 10) + x3.toInt64) <<< ((nI 36).toInt64 &&& 63)) ||| y4)), none, some (.int ((((I r0 8) + x2) * (nI 40)) + (I f3 j4))), none, none] [.int ((I r0 8) + x2)] rfl ⟨rfl, rfl, rfl, rfl⟩ ?_
    refine Wp.bp (v := nI 40) rfl rfl (by decide) ?_
    refine Wp.go (x := (.imul, 1, 0, 0)) rfl 57 [some (.ref r0), some (.int x1), some (.int x2), some (.int x3), some (.long y4), none, some (.int ((I r0 8) + x2)), some (.long ((((J r0 10) + x3.toInt64) <<< ((nI 36).toInt64 &&& 63)) ||| y4)), none, some (.int ((((I r0 8) + x2) * (nI 40)) + (I f3 j4))), none, none] [.int (((I r0 8) + x2) * (nI 40))] rfl ⟨rfl, rfl, rfl, rfl⟩ ?_
    refine Wp.go (x := (.istore 10, 2, 0, 0)) rfl 59 [some (.ref r0), some (.int x1), some (.int x2), some (.int x3), some (.long y4), none, some (.int ((I r0 8) + x2)), some (.long ((((J r0 10) + x3.toInt64) <<< ((nI 36).toInt64 &&& 63)) ||| y4)), none, some (.int ((((I r0 8) + x2) * (nI 40)) + (I f3 j4))), some (.int (((I r0 8) + x2) * (nI 40))), none] [] rfl ⟨rfl, rfl, rfl, rfl⟩ ?_
    exact Wp.wk (L := [some (.ref r0), some (.int x1), some (.int x2), none, some (.long y4), none, some (.int ((I r0 8) + x2)), some (.long ((((J r0 10) + x3.toInt64) <<< ((nI 36).toInt64 &&& 63)) ||| y4)), none, some (.int ((((I r0 8) + x2) * (nI 40)) + (I f3 j4))), some (.int (((I r0 8) + x2) * (nI 40))), none]) ⟨Or.inr rfl, Or.inr rfl, Or.inr rfl, Or.inl rfl, Or.inr rfl, Or.inr rfl, Or.inr rfl, Or.inr rfl, Or.inr rfl, Or.inr rfl, Or.inr rfl, Or.inr rfl, trivial⟩ H
  · have H := H.2 c
    exact Wp.rV rfl rfl H
set_option maxRecDepth 20000 in
theorem wX4_lead_59 {d : Nat} {Q : Option Value × xS → Prop} {K : Nat → Nat × Nat} {P : List Nat × Nat × Nat} {I : Nat → Nat → Int32} {J : Nat → Nat → Int64} {F : Nat → Nat → Option Nat} {r0 : Nat} {x1 : Int32} {x2 : Int32} {y4 : Int64} {x6 : Int32} {y7 : Int64} {x9 : Int32} {x10 : Int32} {n_r0 : Nat} {f1 : Nat} {n_f1 : Nat} (hK : ∀ {a k n : Nat}, K a = (k, n) → n < 2147483648) (hn_r0 : K r0 = (3, n_r0)) (hf1 : F r0 2 = some f1) (hn_f1 : K f1 = (101, n_f1)) (H : ((x9 ≤ x10 → Wp d 37 107 [some (.ref r0), some (.int x1), some (.int x2), none, some (.long y4), none, some (.int x6), some (.long y7), none, some (.int x9), some (.int x10), some (.int x10)] [] (K, P, I, J, F) Q) ∧ (¬ x9 ≤ x10 → (∃ j2 : Nat, x10 = nI j2 ∧ j2 < n_f1 ∧ ((0 < (lg_cmp (J f1 j2) y7) → Wp d 37 107 [some (.ref r0), some (.int x1), some (.int x2), none, some (.long y4), none, some (.int x6), some (.long y7), none, some (.int x9), some (.int x10), some (.int x10)] [] (K, P, I, J, F) Q) ∧ (¬ 0 < (lg_cmp (J f1 j2) y7) → (∃ j3 : Nat, x10 = nI j3 ∧ j3 < n_f1 ∧ ((¬ (lg_cmp ((J f1 j3) &&& (lN 68719476735)) y4) = 0 → Wp d 37 59 [some (.ref r0), some (.int x1), some (.int x2), none, some (.long y4), none, some (.int x6), some (.long y7), none, some (.int x9), some (.int (x10 + nI 1)), none] [] (K, P, I, J, F) Q) ∧ ((lg_cmp ((J f1 j3) &&& (lN 68719476735)) y4) = 0 → Q (none, (K, P, I, J, F))))))))))) : Wp d 37 59 [some (.ref r0), some (.int x1), some (.int x2), none, some (.long y4), none, some (.int x6), some (.long y7), none, some (.int x9), some (.int x10), none] [] (K, P, I, J, F) Q := by
  refine Wp.go (x := (.iload 10, 2, 0, 0)) rfl 61 [some (.ref r0), some (.int x1), some (.int x2), none, some (.long y4), none, some (.int x6), some (.long y7), none, some (.int x9), some (.int x10), none] [.int x10] rfl ⟨rfl, rfl, rfl, rfl⟩ ?_
  refine Wp.go (x := (.iload 9, 2, 0, 0)) rfl 63 [some (.ref r0), some (.int x1), some (.int x2), none, some (.long y4), none, some (.int x6), some (.long y7), none, some (.int x9), some (.int x10), none] [.int x9, .int x10] rfl ⟨rfl, rfl, rfl, rfl⟩ ?_
  refine Wp.c_ge rfl rfl ⟨fun c => ?_, fun c => ?_⟩
  · have H := H.1 c
    refine Wp.go (x := (.iload 10, 2, 0, 0)) rfl 105 [some (.ref r0), some (.int x1), some (.int x2), none, some (.long y4), none, some (.int x6), some (.long y7), none, some (.int x9), some (.int x10), none] [.int x10] rfl ⟨rfl, rfl, rfl, rfl⟩ ?_
    refine Wp.go (x := (.istore 11, 2, 0, 0)) rfl 107 [some (.ref r0), some (.int x1), some (.int x2), none, some (.long y4), none, some (.int x6), some (.long y7), none, some (.int x9), some (.int x10), some (.int x10)] [] rfl ⟨rfl, rfl, rfl, rfl⟩ ?_
    exact H
  · have H := H.2 c
    refine Wp.go (x := (.aload_n 0, 1, 0, 0)) rfl 67 [some (.ref r0), some (.int x1), some (.int x2), none, some (.long y4), none, some (.int x6), some (.long y7), none, some (.int x9), some (.int x10), none] [.ref r0] rfl ⟨rfl, rfl, rfl, rfl⟩ ?_
    refine Wp.gR rfl rfl hn_r0 rfl rfl hf1 ?_
    refine Wp.go (x := (.iload 10, 2, 0, 0)) rfl 72 [some (.ref r0), some (.int x1), some (.int x2), none, some (.long y4), none, some (.int x6), some (.long y7), none, some (.int x9), some (.int x10), none] [.int x10, .ref f1] rfl ⟨rfl, rfl, rfl, rfl⟩ ?_
    obtain ⟨j2, e, b, H⟩ := H
    refine Wp.lld rfl rfl hn_f1 (hK hn_f1) ⟨j2, e, b, ?_⟩
    refine Wp.go (x := (.lload 7, 2, 0, 0)) rfl 75 [some (.ref r0), some (.int x1), some (.int x2), none, some (.long y4), none, some (.int x6), some (.long y7), none, some (.int x9), some (.int x10), none] [.long y7, .long (J f1 j2)] rfl ⟨rfl, rfl, rfl, rfl⟩ ?_
    refine Wp.go (x := (.lcmp, 1, 0, 0)) rfl 76 [some (.ref r0), some (.int x1), some (.int x2), none, some (.long y4), none, some (.int x6), some (.long y7), none, some (.int x9), some (.int x10), none] [.int (lg_cmp (J f1 j2) y7)] rfl ⟨rfl, rfl, rfl, rfl⟩ ?_
    refine Wp.z_gt rfl rfl ⟨fun c => ?_, fun c => ?_⟩
    · have H := H.1 c
      refine Wp.go (x := (.iload 10, 2, 0, 0)) rfl 105 [some (.ref r0), some (.int x1), some (.int x2), none, some (.long y4), none, some (.int x6), some (.long y7), none, some (.int x9), some (.int x10), none] [.int x10] rfl ⟨rfl, rfl, rfl, rfl⟩ ?_
      refine Wp.go (x := (.istore 11, 2, 0, 0)) rfl 107 [some (.ref r0), some (.int x1), some (.int x2), none, some (.long y4), none, some (.int x6), some (.long y7), none, some (.int x9), some (.int x10), some (.int x10)] [] rfl ⟨rfl, rfl, rfl, rfl⟩ ?_
      exact H
    · have H := H.2 c
      refine Wp.go (x := (.aload_n 0, 1, 0, 0)) rfl 80 [some (.ref r0), some (.int x1), some (.int x2), none, some (.long y4), none, some (.int x6), some (.long y7), none, some (.int x9), some (.int x10), none] [.ref r0] rfl ⟨rfl, rfl, rfl, rfl⟩ ?_
      refine Wp.gR rfl rfl hn_r0 rfl rfl hf1 ?_
      refine Wp.go (x := (.iload 10, 2, 0, 0)) rfl 85 [some (.ref r0), some (.int x1), some (.int x2), none, some (.long y4), none, some (.int x6), some (.long y7), none, some (.int x9), some (.int x10), none] [.int x10, .ref f1] rfl ⟨rfl, rfl, rfl, rfl⟩ ?_
      obtain ⟨j3, e, b, H⟩ := H
      refine Wp.lld rfl rfl hn_f1 (hK hn_f1) ⟨j3, e, b, ?_⟩
      refine Wp.ldcj (v := lN 68719476735) rfl rfl (by first | rfl | decide) ?_
      refine Wp.go (x := (.land, 1, 0, 0)) rfl 90 [some (.ref r0), some (.int x1), some (.int x2), none, some (.long y4), none, some (.int x6), some (.long y7), none, some (.int x9), some (.int x10), none] [.long ((J f1 j3) &&& (lN 68719476735))] rfl ⟨rfl, rfl, rfl, rfl⟩ ?_
      refine Wp.go (x := (.lload 4, 2, 0, 0)) rfl 92 [some (.ref r0), some (.int x1), some (.int x2), none, some (.long y4), none, some (.int x6), some (.long y7), none, some (.int x9), some (.int x10), none] [.long y4, .long ((J f1 j3) &&& (lN 68719476735))] rfl ⟨rfl, rfl, rfl, rfl⟩ ?_
      refine Wp.go (x := (.lcmp, 1, 0, 0)) rfl 93 [some (.ref r0), some (.int x1), some (.int x2), none, some (.long y4), none, some (.int x6), some (.long y7), none, some (.int x9), some (.int x10), none] [.int (lg_cmp ((J f1 j3) &&& (lN 68719476735)) y4)] rfl ⟨rfl, rfl, rfl, rfl⟩ ?_
      refine Wp.z_ne rfl rfl ⟨fun c => ?_, fun c => ?_⟩
      · have H := H.1 c
        refine Wp.ii (v := nI 1) rfl rfl (by decide) rfl (L' := [some (.ref r0), some (.int x1), some (.int x2), none, some (.long y4), none, some (.int x6), some (.long y7), none, some (.int x9), some (.int (x10 + nI 1)), none]) rfl ?_
        refine Wp.go (x := (.goto (-41), 3, 59, 0)) rfl 59 [some (.ref r0), some (.int x1), some (.int x2), none, some (.long y4), none, some (.int x6), some (.long y7), none, some (.int x9), some (.int (x10 + nI 1)), none] [] rfl ⟨rfl, rfl, rfl, rfl⟩ ?_
        exact H
      · have H := H.2 c
        exact Wp.rV rfl rfl H
set_option maxRecDepth 20000 in
theorem wX4_lead_107 {d : Nat} {Q : Option Value × xS → Prop} {K : Nat → Nat × Nat} {P : List Nat × Nat × Nat} {I : Nat → Nat → Int32} {J : Nat → Nat → Int64} {F : Nat → Nat → Option Nat} {r0 : Nat} {x1 : Int32} {x2 : Int32} {y4 : Int64} {x6 : Int32} {y7 : Int64} {x9 : Int32} {x10 : Int32} {x11 : Int32} {n_r0 : Nat} {f4 : Nat} {n_f4 : Nat} (hK : ∀ {a k n : Nat}, K a = (k, n) → n < 2147483648) (hn_r0 : K r0 = (3, n_r0)) (hf4 : F r0 2 = some f4) (hn_f4 : K f4 = (101, n_f4)) (H : ((x9 ≤ x11 → ((¬ x11 = x9 → Wp (d + 1) 37 156 [some (.ref r0), some (.int x1), some (.int x2), none, none, none, some (.int x6), some (.long y7), none, none, some (.int x10), some (.int x11)] [] (K, P, I, J, F) Q) ∧ (x11 = x9 → Wp d 38 0 [some (.ref r0), some (.int x6)] [] (K, P, I, J, F) (xrI K P F (fun v1 I2 J3 => ((¬ v1 = 0 → Wp (d + 1) 37 156 [some (.ref r0), some (.int x1), some (.int x2), none, none, none, some (.int x6), some (.long y7), none, none, some (.int x10), some (.int x11)] [] (K, P, I2, J3, F) Q) ∧ (v1 = 0 → Wp (d + 1) 37 156 [some (.ref r0), some (.int x1), some (.int x2), none, none, none, some (.int x6), some (.long y7), none, none, some (.int x10), some (.int (x11 + (-1)))] [] (K, P, I2, J3, F) Q))))))) ∧ (¬ x9 ≤ x11 → (∃ j5 : Nat, x11 = nI j5 ∧ j5 < n_f4 ∧ (((lg_cmp ((J f4 j5) &&& (lN 68719476735)) y4) = 0 → ((¬ x11 = x9 → Wp (d + 1) 37 156 [some (.ref r0), some (.int x1), some (.int x2), none, none, none, some (.int x6), some (.long y7), none, none, some (.int x10), some (.int x11)] [] (K, P, I, J, F) Q) ∧ (x11 = x9 → Wp d 38 0 [some (.ref r0), some (.int x6)] [] (K, P, I, J, F) (xrI K P F (fun v6 I7 J8 => ((¬ v6 = 0 → Wp (d + 1) 37 156 [some (.ref r0), some (.int x1), some (.int x2), none, none, none, some (.int x6), some (.long y7), none, none, some (.int x10), some (.int x11)] [] (K, P, I7, J8, F) Q) ∧ (v6 = 0 → Wp (d + 1) 37 156 [some (.ref r0), some (.int x1), some (.int x2), none, none, none, some (.int x6), some (.long y7), none, none, some (.int x10), some (.int (x11 + (-1)))] [] (K, P, I7, J8, F) Q))))))) ∧ (¬ (lg_cmp ((J f4 j5) &&& (lN 68719476735)) y4) = 0 → Wp (d + 1) 37 107 [some (.ref r0), some (.int x1), some (.int x2), none, some (.long y4), none, some (.int x6), some (.long y7), none, some (.int x9), some (.int x10), some (.int (x11 + nI 1))] [] (K, P, I, J, F) Q)))))) : Wp (d + 1) 37 107 [some (.ref r0), some (.int x1), some (.int x2), none, some (.long y4), none, some (.int x6), some (.long y7), none, some (.int x9), some (.int x10), some (.int x11)] [] (K, P, I, J, F) Q := by
  refine Wp.go (x := (.iload 11, 2, 0, 0)) rfl 109 [some (.ref r0), some (.int x1), some (.int x2), none, some (.long y4), none, some (.int x6), some (.long y7), none, some (.int x9), some (.int x10), some (.int x11)] [.int x11] rfl ⟨rfl, rfl, rfl, rfl⟩ ?_
  refine Wp.go (x := (.iload 9, 2, 0, 0)) rfl 111 [some (.ref r0), some (.int x1), some (.int x2), none, some (.long y4), none, some (.int x6), some (.long y7), none, some (.int x9), some (.int x10), some (.int x11)] [.int x9, .int x11] rfl ⟨rfl, rfl, rfl, rfl⟩ ?_
  refine Wp.c_ge rfl rfl ⟨fun c => ?_, fun c => ?_⟩
  · have H := H.1 c
    refine Wp.go (x := (.iload 11, 2, 0, 0)) rfl 139 [some (.ref r0), some (.int x1), some (.int x2), none, some (.long y4), none, some (.int x6), some (.long y7), none, some (.int x9), some (.int x10), some (.int x11)] [.int x11] rfl ⟨rfl, rfl, rfl, rfl⟩ ?_
    refine Wp.go (x := (.iload 9, 2, 0, 0)) rfl 141 [some (.ref r0), some (.int x1), some (.int x2), none, some (.long y4), none, some (.int x6), some (.long y7), none, some (.int x9), some (.int x10), some (.int x11)] [.int x9, .int x11] rfl ⟨rfl, rfl, rfl, rfl⟩ ?_
    refine Wp.c_ne rfl rfl ⟨fun c => ?_, fun c => ?_⟩
    · have H := H.1 c
      exact Wp.wk (L := [some (.ref r0), some (.int x1), some (.int x2), none, none, none, some (.int x6), some (.long y7), none, none, some (.int x10), some (.int x11)]) ⟨Or.inr rfl, Or.inr rfl, Or.inr rfl, Or.inr rfl, Or.inl rfl, Or.inr rfl, Or.inr rfl, Or.inr rfl, Or.inr rfl, Or.inl rfl, Or.inr rfl, Or.inr rfl, trivial⟩ H
    · have H := H.2 c
      refine Wp.go (x := (.aload_n 0, 1, 0, 0)) rfl 145 [some (.ref r0), some (.int x1), some (.int x2), none, some (.long y4), none, some (.int x6), some (.long y7), none, some (.int x9), some (.int x10), some (.int x11)] [.ref r0] rfl ⟨rfl, rfl, rfl, rfl⟩ ?_
      refine Wp.go (x := (.iload 6, 2, 0, 0)) rfl 147 [some (.ref r0), some (.int x1), some (.int x2), none, some (.long y4), none, some (.int x6), some (.long y7), none, some (.int x9), some (.int x10), some (.int x11)] [.int x6, .ref r0] rfl ⟨rfl, rfl, rfl, rfl⟩ ?_
      refine Wp.kI (x := (.invokevirtual 154, 3, 38, 2)) (j := 38) (vs := [.ref r0, .int x6]) (rest := []) rfl (by show xtg 38 (K r0).1 = _; rw [hn_r0]; rfl) rfl ⟨Nat.le_of_ble_eq_true rfl, Nat.le_of_ble_eq_true rfl, Nat.le_of_ble_eq_true rfl⟩ rfl rfl rfl H (fun v1 I2 J3 H => ?_)
      refine Wp.z_ne rfl rfl ⟨fun c => ?_, fun c => ?_⟩
      · have H := H.1 c
        exact Wp.wk (L := [some (.ref r0), some (.int x1), some (.int x2), none, none, none, some (.int x6), some (.long y7), none, none, some (.int x10), some (.int x11)]) ⟨Or.inr rfl, Or.inr rfl, Or.inr rfl, Or.inr rfl, Or.inl rfl, Or.inr rfl, Or.inr rfl, Or.inr rfl, Or.inr rfl, Or.inl rfl, Or.inr rfl, Or.inr rfl, trivial⟩ H
      · have H := H.2 c
        refine Wp.ii (v := (-1)) rfl rfl (by decide) rfl (L' := [some (.ref r0), some (.int x1), some (.int x2), none, some (.long y4), none, some (.int x6), some (.long y7), none, some (.int x9), some (.int x10), some (.int (x11 + (-1)))]) rfl ?_
        exact Wp.wk (L := [some (.ref r0), some (.int x1), some (.int x2), none, none, none, some (.int x6), some (.long y7), none, none, some (.int x10), some (.int (x11 + (-1)))]) ⟨Or.inr rfl, Or.inr rfl, Or.inr rfl, Or.inr rfl, Or.inl rfl, Or.inr rfl, Or.inr rfl, Or.inr rfl, Or.inr rfl, Or.inl rfl, Or.inr rfl, Or.inr rfl, trivial⟩ H
  · have H := H.2 c
    refine Wp.go (x := (.aload_n 0, 1, 0, 0)) rfl 115 [some (.ref r0), some (.int x1), some (.int x2), none, some (.long y4), none, some (.int x6), some (.long y7), none, some (.int x9), some (.int x10), some (.int x11)] [.ref r0] rfl ⟨rfl, rfl, rfl, rfl⟩ ?_
    refine Wp.gR rfl rfl hn_r0 rfl rfl hf4 ?_
    refine Wp.go (x := (.iload 11, 2, 0, 0)) rfl 120 [some (.ref r0), some (.int x1), some (.int x2), none, some (.long y4), none, some (.int x6), some (.long y7), none, some (.int x9), some (.int x10), some (.int x11)] [.int x11, .ref f4] rfl ⟨rfl, rfl, rfl, rfl⟩ ?_
    obtain ⟨j5, e, b, H⟩ := H
    refine Wp.lld rfl rfl hn_f4 (hK hn_f4) ⟨j5, e, b, ?_⟩
    refine Wp.ldcj (v := lN 68719476735) rfl rfl (by first | rfl | decide) ?_
    refine Wp.go (x := (.land, 1, 0, 0)) rfl 125 [some (.ref r0), some (.int x1), some (.int x2), none, some (.long y4), none, some (.int x6), some (.long y7), none, some (.int x9), some (.int x10), some (.int x11)] [.long ((J f4 j5) &&& (lN 68719476735))] rfl ⟨rfl, rfl, rfl, rfl⟩ ?_
    refine Wp.go (x := (.lload 4, 2, 0, 0)) rfl 127 [some (.ref r0), some (.int x1), some (.int x2), none, some (.long y4), none, some (.int x6), some (.long y7), none, some (.int x9), some (.int x10), some (.int x11)] [.long y4, .long ((J f4 j5) &&& (lN 68719476735))] rfl ⟨rfl, rfl, rfl, rfl⟩ ?_
    refine Wp.go (x := (.lcmp, 1, 0, 0)) rfl 128 [some (.ref r0), some (.int x1), some (.int x2), none, some (.long y4), none, some (.int x6), some (.long y7), none, some (.int x9), some (.int x10), some (.int x11)] [.int (lg_cmp ((J f4 j5) &&& (lN 68719476735)) y4)] rfl ⟨rfl, rfl, rfl, rfl⟩ ?_
    refine Wp.z_eq rfl rfl ⟨fun c => ?_, fun c => ?_⟩
    · have H := H.1 c
      refine Wp.go (x := (.iload 11, 2, 0, 0)) rfl 139 [some (.ref r0), some (.int x1), some (.int x2), none, some (.long y4), none, some (.int x6), some (.long y7), none, some (.int x9), some (.int x10), some (.int x11)] [.int x11] rfl ⟨rfl, rfl, rfl, rfl⟩ ?_
      refine Wp.go (x := (.iload 9, 2, 0, 0)) rfl 141 [some (.ref r0), some (.int x1), some (.int x2), none, some (.long y4), none, some (.int x6), some (.long y7), none, some (.int x9), some (.int x10), some (.int x11)] [.int x9, .int x11] rfl ⟨rfl, rfl, rfl, rfl⟩ ?_
      refine Wp.c_ne rfl rfl ⟨fun c => ?_, fun c => ?_⟩
      · have H := H.1 c
        exact Wp.wk (L := [some (.ref r0), some (.int x1), some (.int x2), none, none, none, some (.int x6), some (.long y7), none, none, some (.int x10), some (.int x11)]) ⟨Or.inr rfl, Or.inr rfl, Or.inr rfl, Or.inr rfl, Or.inl rfl, Or.inr rfl, Or.inr rfl, Or.inr rfl, Or.inr rfl, Or.inl rfl, Or.inr rfl, Or.inr rfl, trivial⟩ H
      · have H := H.2 c
        refine Wp.go (x := (.aload_n 0, 1, 0, 0)) rfl 145 [some (.ref r0), some (.int x1), some (.int x2), none, some (.long y4), none, some (.int x6), some (.long y7), none, some (.int x9), some (.int x10), some (.int x11)] [.ref r0] rfl ⟨rfl, rfl, rfl, rfl⟩ ?_
        refine Wp.go (x := (.iload 6, 2, 0, 0)) rfl 147 [some (.ref r0), some (.int x1), some (.int x2), none, some (.long y4), none, some (.int x6), some (.long y7), none, some (.int x9), some (.int x10), some (.int x11)] [.int x6, .ref r0] rfl ⟨rfl, rfl, rfl, rfl⟩ ?_
        refine Wp.kI (x := (.invokevirtual 154, 3, 38, 2)) (j := 38) (vs := [.ref r0, .int x6]) (rest := []) rfl (by show xtg 38 (K r0).1 = _; rw [hn_r0]; rfl) rfl ⟨Nat.le_of_ble_eq_true rfl, Nat.le_of_ble_eq_true rfl, Nat.le_of_ble_eq_true rfl⟩ rfl rfl rfl H (fun v6 I7 J8 H => ?_)
        refine Wp.z_ne rfl rfl ⟨fun c => ?_, fun c => ?_⟩
        · have H := H.1 c
          exact Wp.wk (L := [some (.ref r0), some (.int x1), some (.int x2), none, none, none, some (.int x6), some (.long y7), none, none, some (.int x10), some (.int x11)]) ⟨Or.inr rfl, Or.inr rfl, Or.inr rfl, Or.inr rfl, Or.inl rfl, Or.inr rfl, Or.inr rfl, Or.inr rfl, Or.inr rfl, Or.inl rfl, Or.inr rfl, Or.inr rfl, trivial⟩ H
        · have H := H.2 c
          refine Wp.ii (v := (-1)) rfl rfl (by decide) rfl (L' := [some (.ref r0), some (.int x1), some (.int x2), none, some (.long y4), none, some (.int x6), some (.long y7), none, some (.int x9), some (.int x10), some (.int (x11 + (-1)))]) rfl ?_
          exact Wp.wk (L := [some (.ref r0), some (.int x1), some (.int x2), none, none, none, some (.int x6), some (.long y7), none, none, some (.int x10), some (.int (x11 + (-1)))]) ⟨Or.inr rfl, Or.inr rfl, Or.inr rfl, Or.inr rfl, Or.inl rfl, Or.inr rfl, Or.inr rfl, Or.inr rfl, Or.inr rfl, Or.inl rfl, Or.inr rfl, Or.inr rfl, trivial⟩ H
    · have H := H.2 c
      refine Wp.ii (v := nI 1) rfl rfl (by decide) rfl (L' := [some (.ref r0), some (.int x1), some (.int x2), none, some (.long y4), none, some (.int x6), some (.long y7), none, some (.int x9), some (.int x10), some (.int (x11 + nI 1))]) rfl ?_
      refine Wp.go (x := (.goto (-27), 3, 107, 0)) rfl 107 [some (.ref r0), some (.int x1), some (.int x2), none, some (.long y4), none, some (.int x6), some (.long y7), none, some (.int x9), some (.int x10), some (.int (x11 + nI 1))] [] rfl ⟨rfl, rfl, rfl, rfl⟩ ?_
      exact H
set_option maxRecDepth 20000 in
theorem wX4_lead_156 {d : Nat} {Q : Option Value × xS → Prop} {K : Nat → Nat × Nat} {P : List Nat × Nat × Nat} {I : Nat → Nat → Int32} {J : Nat → Nat → Int64} {F : Nat → Nat → Option Nat} {r0 : Nat} {x1 : Int32} {x2 : Int32} {x6 : Int32} {y7 : Int64} {x10 : Int32} {x11 : Int32} {n_r0 : Nat} {f1 : Nat} {n_f1 : Nat} {f2 : Nat} {n_f2 : Nat} (hK : ∀ {a k n : Nat}, K a = (k, n) → n < 2147483648) (hn_r0 : K r0 = (3, n_r0)) (hf1 : F r0 0 = some f1) (hn_f1 : K f1 = (8, n_f1)) (hf2 : F r0 5 = some f2) (hn_f2 : K f2 = (102, n_f2)) (H : ((x11 < x10 → ((x6 = (I f1 3) → Wp (d + 1) 37 208 [some (.ref r0), none, none, none, none, none, some (.int x6), none, none, none, none, none] [] (K, P, I, J, F) Q) ∧ (¬ x6 = (I f1 3) → (∃ j3 : Nat, x6 = nI j3 ∧ j3 < n_f2 ∧ (((I f2 j3) = 0 → Q (none, (K, P, I, J, F))) ∧ (¬ (I f2 j3) = 0 → Wp (d + 1) 37 208 [some (.ref r0), none, none, none, none, none, some (.int x6), none, none, none, none, none] [] (K, P, I, J, F) Q)))))) ∧ (¬ x11 < x10 → Wp d 39 0 [some (.ref r0), some (.int x10), some (.int x11), some (.long y7), none, some (.int ((((I r0 9) <<< ((nI 12) &&& 31)) ||| (x2 <<< ((nI 3) &&& 31))) ||| x1)), none] [] (K, P, I, J, F) (xrV K P F (fun I4 J5 => ((x6 = (I4 f1 3) → Wp (d + 1) 37 208 [some (.ref r0), none, none, none, none, none, some (.int x6), none, none, none, none, none] [] (K, P, I4, J5, F) Q) ∧ (¬ x6 = (I4 f1 3) → (∃ j6 : Nat, x6 = nI j6 ∧ j6 < n_f2 ∧ (((I4 f2 j6) = 0 → Q (none, (K, P, I4, J5, F))) ∧ (¬ (I4 f2 j6) = 0 → Wp (d + 1) 37 208 [some (.ref r0), none, none, none, none, none, some (.int x6), none, none, none, none, none] [] (K, P, I4, J5, F) Q)))))))))) : Wp (d + 1) 37 156 [some (.ref r0), some (.int x1), some (.int x2), none, none, none, some (.int x6), some (.long y7), none, none, some (.int x10), some (.int x11)] [] (K, P, I, J, F) Q := by
  refine Wp.go (x := (.iload 10, 2, 0, 0)) rfl 158 [some (.ref r0), some (.int x1), some (.int x2), none, none, none, some (.int x6), some (.long y7), none, none, some (.int x10), some (.int x11)] [.int x10] rfl ⟨rfl, rfl, rfl, rfl⟩ ?_
  refine Wp.go (x := (.iload 11, 2, 0, 0)) rfl 160 [some (.ref r0), some (.int x1), some (.int x2), none, none, none, some (.int x6), some (.long y7), none, none, some (.int x10), some (.int x11)] [.int x11, .int x10] rfl ⟨rfl, rfl, rfl, rfl⟩ ?_
  refine Wp.c_gt rfl rfl ⟨fun c => ?_, fun c => ?_⟩
  · have H := H.1 c
    refine Wp.go (x := (.iload 6, 2, 0, 0)) rfl 188 [some (.ref r0), some (.int x1), some (.int x2), none, none, none, some (.int x6), some (.long y7), none, none, some (.int x10), some (.int x11)] [.int x6] rfl ⟨rfl, rfl, rfl, rfl⟩ ?_
    refine Wp.go (x := (.aload_n 0, 1, 0, 0)) rfl 189 [some (.ref r0), some (.int x1), some (.int x2), none, none, none, some (.int x6), some (.long y7), none, none, some (.int x10), some (.int x11)] [.ref r0, .int x6] rfl ⟨rfl, rfl, rfl, rfl⟩ ?_
    refine Wp.gR rfl rfl hn_r0 rfl rfl hf1 ?_
    refine Wp.gI rfl rfl hn_f1 rfl ⟨by decide, by decide⟩ ?_
    refine Wp.c_eq rfl rfl ⟨fun c => ?_, fun c => ?_⟩
    · have H := H.1 c
      exact Wp.wk (L := [some (.ref r0), none, none, none, none, none, some (.int x6), none, none, none, none, none]) ⟨Or.inr rfl, Or.inl rfl, Or.inl rfl, Or.inr rfl, Or.inr rfl, Or.inr rfl, Or.inr rfl, Or.inl rfl, Or.inr rfl, Or.inr rfl, Or.inl rfl, Or.inl rfl, trivial⟩ H
    · have H := H.2 c
      refine Wp.go (x := (.aload_n 0, 1, 0, 0)) rfl 199 [some (.ref r0), some (.int x1), some (.int x2), none, none, none, some (.int x6), some (.long y7), none, none, some (.int x10), some (.int x11)] [.ref r0] rfl ⟨rfl, rfl, rfl, rfl⟩ ?_
      refine Wp.gR rfl rfl hn_r0 rfl rfl hf2 ?_
      refine Wp.go (x := (.iload 6, 2, 0, 0)) rfl 204 [some (.ref r0), some (.int x1), some (.int x2), none, none, none, some (.int x6), some (.long y7), none, none, some (.int x10), some (.int x11)] [.int x6, .ref f2] rfl ⟨rfl, rfl, rfl, rfl⟩ ?_
      obtain ⟨j3, e, b, H⟩ := H
      refine Wp.bld rfl rfl hn_f2 (hK hn_f2) ⟨j3, e, b, ?_⟩
      refine Wp.z_eq rfl rfl ⟨fun c => ?_, fun c => ?_⟩
      · have H := H.1 c
        exact Wp.rV rfl rfl H
      · have H := H.2 c
        exact Wp.wk (L := [some (.ref r0), none, none, none, none, none, some (.int x6), none, none, none, none, none]) ⟨Or.inr rfl, Or.inl rfl, Or.inl rfl, Or.inr rfl, Or.inr rfl, Or.inr rfl, Or.inr rfl, Or.inl rfl, Or.inr rfl, Or.inr rfl, Or.inl rfl, Or.inl rfl, trivial⟩ H
  · have H := H.2 c
    refine Wp.go (x := (.aload_n 0, 1, 0, 0)) rfl 164 [some (.ref r0), some (.int x1), some (.int x2), none, none, none, some (.int x6), some (.long y7), none, none, some (.int x10), some (.int x11)] [.ref r0] rfl ⟨rfl, rfl, rfl, rfl⟩ ?_
    refine Wp.go (x := (.iload 10, 2, 0, 0)) rfl 166 [some (.ref r0), some (.int x1), some (.int x2), none, none, none, some (.int x6), some (.long y7), none, none, some (.int x10), some (.int x11)] [.int x10, .ref r0] rfl ⟨rfl, rfl, rfl, rfl⟩ ?_
    refine Wp.go (x := (.iload 11, 2, 0, 0)) rfl 168 [some (.ref r0), some (.int x1), some (.int x2), none, none, none, some (.int x6), some (.long y7), none, none, some (.int x10), some (.int x11)] [.int x11, .int x10, .ref r0] rfl ⟨rfl, rfl, rfl, rfl⟩ ?_
    refine Wp.go (x := (.lload 7, 2, 0, 0)) rfl 170 [some (.ref r0), some (.int x1), some (.int x2), none, none, none, some (.int x6), some (.long y7), none, none, some (.int x10), some (.int x11)] [.long y7, .int x11, .int x10, .ref r0] rfl ⟨rfl, rfl, rfl, rfl⟩ ?_
    refine Wp.go (x := (.aload_n 0, 1, 0, 0)) rfl 171 [some (.ref r0), some (.int x1), some (.int x2), none, none, none, some (.int x6), some (.long y7), none, none, some (.int x10), some (.int x11)] [.ref r0, .long y7, .int x11, .int x10, .ref r0] rfl ⟨rfl, rfl, rfl, rfl⟩ ?_
    refine Wp.gI rfl rfl hn_r0 rfl ⟨by decide, by decide⟩ ?_
    refine Wp.bp (v := nI 12) rfl rfl (by decide) ?_
    refine Wp.go (x := (.ishl, 1, 0, 0)) rfl 177 [some (.ref r0), some (.int x1), some (.int x2), none, none, none, some (.int x6), some (.long y7), none, none, some (.int x10), some (.int x11)] [.int ((I r0 9) <<< ((nI 12) &&& 31)), .long y7, .int x11, .int x10, .ref r0] rfl ⟨rfl, rfl, rfl, rfl⟩ ?_
    refine Wp.go (x := (.iload_n 2, 1, 0, 0)) rfl 178 [some (.ref r0), some (.int x1), some (.int x2), none, none, none, some (.int x6), some (.long y7), none, none, some (.int x10), some (.int x11)] [.int x2, .int ((I r0 9) <<< ((nI 12) &&& 31)), .long y7, .int x11, .int x10, .ref r0] rfl ⟨rfl, rfl, rfl, rfl⟩ ?_
    refine Wp.ic (v := nI 3) rfl rfl (by decide) ?_
    refine Wp.go (x := (.ishl, 1, 0, 0)) rfl 180 [some (.ref r0), some (.int x1), some (.int x2), none, none, none, some (.int x6), some (.long y7), none, none, some (.int x10), some (.int x11)] [.int (x2 <<< ((nI 3) &&& 31)), .int ((I r0 9) <<< ((nI 12) &&& 31)), .long y7, .int x11, .int x10, .ref r0] rfl ⟨rfl, rfl, rfl, rfl⟩ ?_
    refine Wp.go (x := (.ior, 1, 0, 0)) rfl 181 [some (.ref r0), some (.int x1), some (.int x2), none, none, none, some (.int x6), some (.long y7), none, none, some (.int x10), some (.int x11)] [.int (((I r0 9) <<< ((nI 12) &&& 31)) ||| (x2 <<< ((nI 3) &&& 31))), .long y7, .int x11, .int x10, .ref r0] rfl ⟨rfl, rfl, rfl, rfl⟩ ?_
    refine Wp.go (x := (.iload_n 1, 1, 0, 0)) rfl 182 [some (.ref r0), some (.int x1), some (.int x2), none, none, none, some (.int x6), some (.long y7), none, none, some (.int x10), some (.int x11)] [.int x1, .int (((I r0 9) <<< ((nI 12) &&& 31)) ||| (x2 <<< ((nI 3) &&& 31))), .long y7, .int x11, .int x10, .ref r0] rfl ⟨rfl, rfl, rfl, rfl⟩ ?_
    refine Wp.go (x := (.ior, 1, 0, 0)) rfl 183 [some (.ref r0), some (.int x1), some (.int x2), none, none, none, some (.int x6), some (.long y7), none, none, some (.int x10), some (.int x11)] [.int ((((I r0 9) <<< ((nI 12) &&& 31)) ||| (x2 <<< ((nI 3) &&& 31))) ||| x1), .long y7, .int x11, .int x10, .ref r0] rfl ⟨rfl, rfl, rfl, rfl⟩ ?_
    refine Wp.kV (x := (.invokevirtual 158, 3, 39, 5)) (j := 39) (vs := [.ref r0, .int x10, .int x11, .long y7, .int ((((I r0 9) <<< ((nI 12) &&& 31)) ||| (x2 <<< ((nI 3) &&& 31))) ||| x1)]) (rest := []) rfl (by show xtg 39 (K r0).1 = _; rw [hn_r0]; rfl) rfl ⟨Nat.le_of_ble_eq_true rfl, Nat.le_of_ble_eq_true rfl, Nat.le_of_ble_eq_true rfl⟩ rfl rfl rfl H (fun I4 J5 H => ?_)
    refine Wp.go (x := (.iload 6, 2, 0, 0)) rfl 188 [some (.ref r0), some (.int x1), some (.int x2), none, none, none, some (.int x6), some (.long y7), none, none, some (.int x10), some (.int x11)] [.int x6] rfl ⟨rfl, rfl, rfl, rfl⟩ ?_
    refine Wp.go (x := (.aload_n 0, 1, 0, 0)) rfl 189 [some (.ref r0), some (.int x1), some (.int x2), none, none, none, some (.int x6), some (.long y7), none, none, some (.int x10), some (.int x11)] [.ref r0, .int x6] rfl ⟨rfl, rfl, rfl, rfl⟩ ?_
    refine Wp.gR rfl rfl hn_r0 rfl rfl hf1 ?_
    refine Wp.gI rfl rfl hn_f1 rfl ⟨by decide, by decide⟩ ?_
    refine Wp.c_eq rfl rfl ⟨fun c => ?_, fun c => ?_⟩
    · have H := H.1 c
      exact Wp.wk (L := [some (.ref r0), none, none, none, none, none, some (.int x6), none, none, none, none, none]) ⟨Or.inr rfl, Or.inl rfl, Or.inl rfl, Or.inr rfl, Or.inr rfl, Or.inr rfl, Or.inr rfl, Or.inl rfl, Or.inr rfl, Or.inr rfl, Or.inl rfl, Or.inl rfl, trivial⟩ H
    · have H := H.2 c
      refine Wp.go (x := (.aload_n 0, 1, 0, 0)) rfl 199 [some (.ref r0), some (.int x1), some (.int x2), none, none, none, some (.int x6), some (.long y7), none, none, some (.int x10), some (.int x11)] [.ref r0] rfl ⟨rfl, rfl, rfl, rfl⟩ ?_
      refine Wp.gR rfl rfl hn_r0 rfl rfl hf2 ?_
      refine Wp.go (x := (.iload 6, 2, 0, 0)) rfl 204 [some (.ref r0), some (.int x1), some (.int x2), none, none, none, some (.int x6), some (.long y7), none, none, some (.int x10), some (.int x11)] [.int x6, .ref f2] rfl ⟨rfl, rfl, rfl, rfl⟩ ?_
      obtain ⟨j6, e, b, H⟩ := H
      refine Wp.bld rfl rfl hn_f2 (hK hn_f2) ⟨j6, e, b, ?_⟩
      refine Wp.z_eq rfl rfl ⟨fun c => ?_, fun c => ?_⟩
      · have H := H.1 c
        exact Wp.rV rfl rfl H
      · have H := H.2 c
        exact Wp.wk (L := [some (.ref r0), none, none, none, none, none, some (.int x6), none, none, none, none, none]) ⟨Or.inr rfl, Or.inl rfl, Or.inl rfl, Or.inr rfl, Or.inr rfl, Or.inr rfl, Or.inr rfl, Or.inl rfl, Or.inr rfl, Or.inr rfl, Or.inl rfl, Or.inl rfl, trivial⟩ H
set_option maxRecDepth 20000 in
theorem wX4_lead_208 {d : Nat} {Q : Option Value × xS → Prop} {K : Nat → Nat × Nat} {P : List Nat × Nat × Nat} {I : Nat → Nat → Int32} {J : Nat → Nat → Int64} {F : Nat → Nat → Option Nat} {r0 : Nat} {x6 : Int32} {n_r0 : Nat} {f1 : Nat} {f2 : Nat} {f3 : Nat} {n_f3 : Nat} {n_f2 : Nat} {n_f1 : Nat} (hK : ∀ {a k n : Nat}, K a = (k, n) → n < 2147483648) (hn_r0 : K r0 = (3, n_r0)) (hf1 : F r0 6 = some f1) (hf2 : F r0 2 = some f2) (hf3 : F r0 4 = some f3) (hn_f3 : K f3 = (100, n_f3)) (hn_f2 : K f2 = (101, n_f2)) (hn_f1 : K f1 = (101, n_f1)) (H : (∃ j4 : Nat, x6 = nI j4 ∧ j4 < n_f3 ∧ (∃ j5 : Nat, (((x6 * (nI 40)) + (I f3 j4)) - (nI 1)) = nI j5 ∧ j5 < n_f2 ∧ (∃ j6 : Nat, x6 = nI j6 ∧ j6 < n_f1 ∧ Q (none, (K, P, I, (xup J f1 j6 (J f2 j5)), F)))))) : Wp d 37 208 [some (.ref r0), none, none, none, none, none, some (.int x6), none, none, none, none, none] [] (K, P, I, J, F) Q := by
  refine Wp.go (x := (.aload_n 0, 1, 0, 0)) rfl 209 [some (.ref r0), none, none, none, none, none, some (.int x6), none, none, none, none, none] [.ref r0] rfl ⟨rfl, rfl, rfl, rfl⟩ ?_
  refine Wp.gR rfl rfl hn_r0 rfl rfl hf1 ?_
  refine Wp.go (x := (.iload 6, 2, 0, 0)) rfl 214 [some (.ref r0), none, none, none, none, none, some (.int x6), none, none, none, none, none] [.int x6, .ref f1] rfl ⟨rfl, rfl, rfl, rfl⟩ ?_
  refine Wp.go (x := (.aload_n 0, 1, 0, 0)) rfl 215 [some (.ref r0), none, none, none, none, none, some (.int x6), none, none, none, none, none] [.ref r0, .int x6, .ref f1] rfl ⟨rfl, rfl, rfl, rfl⟩ ?_
  refine Wp.gR rfl rfl hn_r0 rfl rfl hf2 ?_
  refine Wp.go (x := (.iload 6, 2, 0, 0)) rfl 220 [some (.ref r0), none, none, none, none, none, some (.int x6), none, none, none, none, none] [.int x6, .ref f2, .int x6, .ref f1] rfl ⟨rfl, rfl, rfl, rfl⟩ ?_
  refine Wp.bp (v := nI 40) rfl rfl (by decide) ?_
  refine Wp.go (x := (.imul, 1, 0, 0)) rfl 223 [some (.ref r0), none, none, none, none, none, some (.int x6), none, none, none, none, none] [.int (x6 * (nI 40)), .ref f2, .int x6, .ref f1] rfl ⟨rfl, rfl, rfl, rfl⟩ ?_
  refine Wp.go (x := (.aload_n 0, 1, 0, 0)) rfl 224 [some (.ref r0), none, none, none, none, none, some (.int x6), none, none, none, none, none] [.ref r0, .int (x6 * (nI 40)), .ref f2, .int x6, .ref f1] rfl ⟨rfl, rfl, rfl, rfl⟩ ?_
  refine Wp.gR rfl rfl hn_r0 rfl rfl hf3 ?_
  refine Wp.go (x := (.iload 6, 2, 0, 0)) rfl 229 [some (.ref r0), none, none, none, none, none, some (.int x6), none, none, none, none, none] [.int x6, .ref f3, .int (x6 * (nI 40)), .ref f2, .int x6, .ref f1] rfl ⟨rfl, rfl, rfl, rfl⟩ ?_
  obtain ⟨j4, e, b, H⟩ := H
  refine Wp.ald rfl rfl hn_f3 (Or.inl rfl) (hK hn_f3) ⟨j4, e, b, ?_⟩
  refine Wp.go (x := (.iadd, 1, 0, 0)) rfl 231 [some (.ref r0), none, none, none, none, none, some (.int x6), none, none, none, none, none] [.int ((x6 * (nI 40)) + (I f3 j4)), .ref f2, .int x6, .ref f1] rfl ⟨rfl, rfl, rfl, rfl⟩ ?_
  refine Wp.ic (v := nI 1) rfl rfl (by decide) ?_
  refine Wp.go (x := (.isub, 1, 0, 0)) rfl 233 [some (.ref r0), none, none, none, none, none, some (.int x6), none, none, none, none, none] [.int (((x6 * (nI 40)) + (I f3 j4)) - (nI 1)), .ref f2, .int x6, .ref f1] rfl ⟨rfl, rfl, rfl, rfl⟩ ?_
  obtain ⟨j5, e, b, H⟩ := H
  refine Wp.lld rfl rfl hn_f2 (hK hn_f2) ⟨j5, e, b, ?_⟩
  obtain ⟨j6, e, b, H⟩ := H
  refine Wp.lst rfl rfl hn_f1 (hK hn_f1) ⟨j6, e, b, ?_⟩
  exact Wp.rV rfl rfl H
set_option maxRecDepth 20000 in
theorem wX4_makeRoom_0 {d : Nat} {Q : Option Value × xS → Prop} {K : Nat → Nat × Nat} {P : List Nat × Nat × Nat} {I : Nat → Nat → Int32} {J : Nat → Nat → Int64} {F : Nat → Nat → Option Nat} {r0 : Nat} {x1 : Int32} {n_r0 : Nat} {f1 : Nat} {n_f1 : Nat} {f3 : Nat} {n_f3 : Nat} (hK : ∀ {a k n : Nat}, K a = (k, n) → n < 2147483648) (hn_r0 : K r0 = (3, n_r0)) (hf1 : F r0 4 = some f1) (hn_f1 : K f1 = (100, n_f1)) (hf3 : F r0 0 = some f3) (hn_f3 : K f3 = (8, n_f3)) (H : (∃ j2 : Nat, x1 = nI j2 ∧ j2 < n_f1 ∧ ((¬ x1 = (I f3 3) → Wp d 38 25 [some (.ref r0), some (.int x1)] [.int (I r0 7), .int (I f1 j2)] (K, P, I, J, F) Q) ∧ (x1 = (I f3 3) → Wp d 38 25 [some (.ref r0), some (.int x1)] [.int (nI 1), .int (I f1 j2)] (K, P, I, J, F) Q)))) : Wp d 38 0 [some (.ref r0), some (.int x1)] [] (K, P, I, J, F) Q := by
  refine Wp.go (x := (.aload_n 0, 1, 0, 0)) rfl 1 [some (.ref r0), some (.int x1)] [.ref r0] rfl ⟨rfl, rfl, rfl, rfl⟩ ?_
  refine Wp.gR rfl rfl hn_r0 rfl rfl hf1 ?_
  refine Wp.go (x := (.iload_n 1, 1, 0, 0)) rfl 5 [some (.ref r0), some (.int x1)] [.int x1, .ref f1] rfl ⟨rfl, rfl, rfl, rfl⟩ ?_
  obtain ⟨j2, e, b, H⟩ := H
  refine Wp.ald rfl rfl hn_f1 (Or.inl rfl) (hK hn_f1) ⟨j2, e, b, ?_⟩
  refine Wp.go (x := (.iload_n 1, 1, 0, 0)) rfl 7 [some (.ref r0), some (.int x1)] [.int x1, .int (I f1 j2)] rfl ⟨rfl, rfl, rfl, rfl⟩ ?_
  refine Wp.go (x := (.aload_n 0, 1, 0, 0)) rfl 8 [some (.ref r0), some (.int x1)] [.ref r0, .int x1, .int (I f1 j2)] rfl ⟨rfl, rfl, rfl, rfl⟩ ?_
  refine Wp.gR rfl rfl hn_r0 rfl rfl hf3 ?_
  refine Wp.gI rfl rfl hn_f3 rfl ⟨by decide, by decide⟩ ?_
  refine Wp.c_ne rfl rfl ⟨fun c => ?_, fun c => ?_⟩
  · have H := H.1 c
    refine Wp.go (x := (.aload_n 0, 1, 0, 0)) rfl 22 [some (.ref r0), some (.int x1)] [.ref r0, .int (I f1 j2)] rfl ⟨rfl, rfl, rfl, rfl⟩ ?_
    refine Wp.gI rfl rfl hn_r0 rfl ⟨by decide, by decide⟩ ?_
    exact H
  · have H := H.2 c
    refine Wp.ic (v := nI 1) rfl rfl (by decide) ?_
    refine Wp.go (x := (.goto 7, 3, 25, 0)) rfl 25 [some (.ref r0), some (.int x1)] [.int (nI 1), .int (I f1 j2)] rfl ⟨rfl, rfl, rfl, rfl⟩ ?_
    exact H
set_option maxRecDepth 20000 in
theorem wX4_makeRoom_25 {d : Nat} {Q : Option Value × xS → Prop} {K : Nat → Nat × Nat} {P : List Nat × Nat × Nat} {I : Nat → Nat → Int32} {J : Nat → Nat → Int64} {F : Nat → Nat → Option Nat} {r0 : Nat} {x1 : Int32} {s0 : Int32} {s1 : Int32} {n_r0 : Nat} {f1 : Nat} {n_f1 : Nat} {f2 : Nat} {n_f2 : Nat} {f4 : Nat} {n_f4 : Nat} (hK : ∀ {a k n : Nat}, K a = (k, n) → n < 2147483648) (hn_r0 : K r0 = (3, n_r0)) (hf1 : F r0 0 = some f1) (hn_f1 : K f1 = (8, n_f1)) (hf2 : F r0 5 = some f2) (hn_f2 : K f2 = (102, n_f2)) (hf4 : F r0 4 = some f4) (hn_f4 : K f4 = (100, n_f4)) (H : ((s1 ≤ s0 → (((I f1 3) ≤ x1 → Q (some (.int (nI 0)), (K, P, I, J, F))) ∧ (¬ (I f1 3) ≤ x1 → (∃ j3 : Nat, x1 = nI j3 ∧ j3 < n_f2 ∧ Q (some (.int (nI 0)), (K, P, (xup I f2 j3 (nI 1)), J, F)))))) ∧ (¬ s1 ≤ s0 → (∃ j5 : Nat, x1 = nI j5 ∧ j5 < n_f4 ∧ (∃ j6 : Nat, x1 = nI j6 ∧ j6 < n_f4 ∧ Q (some (.int (nI 1)), (K, P, (xup I f4 j6 ((I f4 j5) + (nI 1))), J, F))))))) : Wp d 38 25 [some (.ref r0), some (.int x1)] [.int s1, .int s0] (K, P, I, J, F) Q := by
  refine Wp.c_ge rfl rfl ⟨fun c => ?_, fun c => ?_⟩
  · have H := H.1 c
    refine Wp.go (x := (.iload_n 1, 1, 0, 0)) rfl 41 [some (.ref r0), some (.int x1)] [.int x1] rfl ⟨rfl, rfl, rfl, rfl⟩ ?_
    refine Wp.go (x := (.aload_n 0, 1, 0, 0)) rfl 42 [some (.ref r0), some (.int x1)] [.ref r0, .int x1] rfl ⟨rfl, rfl, rfl, rfl⟩ ?_
    refine Wp.gR rfl rfl hn_r0 rfl rfl hf1 ?_
    refine Wp.gI rfl rfl hn_f1 rfl ⟨by decide, by decide⟩ ?_
    refine Wp.c_ge rfl rfl ⟨fun c => ?_, fun c => ?_⟩
    · have H := H.1 c
      refine Wp.ic (v := nI 0) rfl rfl (by decide) ?_
      exact Wp.rZ rfl rfl (Or.inl rfl) H
    · have H := H.2 c
      refine Wp.go (x := (.aload_n 0, 1, 0, 0)) rfl 52 [some (.ref r0), some (.int x1)] [.ref r0] rfl ⟨rfl, rfl, rfl, rfl⟩ ?_
      refine Wp.gR rfl rfl hn_r0 rfl rfl hf2 ?_
      refine Wp.go (x := (.iload_n 1, 1, 0, 0)) rfl 56 [some (.ref r0), some (.int x1)] [.int x1, .ref f2] rfl ⟨rfl, rfl, rfl, rfl⟩ ?_
      refine Wp.ic (v := nI 1) rfl rfl (by decide) ?_
      obtain ⟨j3, e, b, H⟩ := H
      refine Wp.bst rfl rfl hn_f2 (hK hn_f2) (Or.inr rfl) ⟨j3, e, b, ?_⟩
      refine Wp.ic (v := nI 0) rfl rfl (by decide) ?_
      exact Wp.rZ rfl rfl (Or.inl rfl) H
  · have H := H.2 c
    refine Wp.go (x := (.aload_n 0, 1, 0, 0)) rfl 29 [some (.ref r0), some (.int x1)] [.ref r0] rfl ⟨rfl, rfl, rfl, rfl⟩ ?_
    refine Wp.gR rfl rfl hn_r0 rfl rfl hf4 ?_
    refine Wp.go (x := (.iload_n 1, 1, 0, 0)) rfl 33 [some (.ref r0), some (.int x1)] [.int x1, .ref f4] rfl ⟨rfl, rfl, rfl, rfl⟩ ?_
    refine Wp.go (x := (.dup2, 1, 0, 0)) rfl 34 [some (.ref r0), some (.int x1)] [.int x1, .ref f4, .int x1, .ref f4] rfl ⟨rfl, rfl, rfl, rfl⟩ ?_
    obtain ⟨j5, e, b, H⟩ := H
    refine Wp.ald rfl rfl hn_f4 (Or.inl rfl) (hK hn_f4) ⟨j5, e, b, ?_⟩
    refine Wp.ic (v := nI 1) rfl rfl (by decide) ?_
    refine Wp.go (x := (.iadd, 1, 0, 0)) rfl 37 [some (.ref r0), some (.int x1)] [.int ((I f4 j5) + (nI 1)), .int x1, .ref f4] rfl ⟨rfl, rfl, rfl, rfl⟩ ?_
    obtain ⟨j6, e, b, H⟩ := H
    refine Wp.ast rfl rfl hn_f4 (hK hn_f4) ⟨j6, e, b, ?_⟩
    refine Wp.ic (v := nI 1) rfl rfl (by decide) ?_
    exact Wp.rZ rfl rfl (Or.inr rfl) H
set_option maxRecDepth 20000 in
theorem wX4_insert_0 {d : Nat} {Q : Option Value × xS → Prop} {K : Nat → Nat × Nat} {P : List Nat × Nat × Nat} {I : Nat → Nat → Int32} {J : Nat → Nat → Int64} {F : Nat → Nat → Option Nat} {r0 : Nat} {x1 : Int32} {x2 : Int32} {y3 : Int64} {x5 : Int32}  (H : Wp d 39 3 [some (.ref r0), some (.int x1), none, some (.long y3), none, some (.int x5), some (.int x2)] [] (K, P, I, J, F) Q) : Wp d 39 0 [some (.ref r0), some (.int x1), some (.int x2), some (.long y3), none, some (.int x5), none] [] (K, P, I, J, F) Q := by
  refine Wp.go (x := (.iload_n 2, 1, 0, 0)) rfl 1 [some (.ref r0), some (.int x1), some (.int x2), some (.long y3), none, some (.int x5), none] [.int x2] rfl ⟨rfl, rfl, rfl, rfl⟩ ?_
  refine Wp.go (x := (.istore 6, 2, 0, 0)) rfl 3 [some (.ref r0), some (.int x1), some (.int x2), some (.long y3), none, some (.int x5), some (.int x2)] [] rfl ⟨rfl, rfl, rfl, rfl⟩ ?_
  exact Wp.wk (L := [some (.ref r0), some (.int x1), none, some (.long y3), none, some (.int x5), some (.int x2)]) ⟨Or.inr rfl, Or.inr rfl, Or.inl rfl, Or.inr rfl, Or.inr rfl, Or.inr rfl, Or.inr rfl, trivial⟩ H
set_option maxRecDepth 20000 in
theorem wX4_insert_3 {d : Nat} {Q : Option Value × xS → Prop} {K : Nat → Nat × Nat} {P : List Nat × Nat × Nat} {I : Nat → Nat → Int32} {J : Nat → Nat → Int64} {F : Nat → Nat → Option Nat} {r0 : Nat} {x1 : Int32} {y3 : Int64} {x5 : Int32} {x6 : Int32} {n_r0 : Nat} {f1 : Nat} {n_f1 : Nat} {f3 : Nat} {n_f3 : Nat} (hK : ∀ {a k n : Nat}, K a = (k, n) → n < 2147483648) (hn_r0 : K r0 = (3, n_r0)) (hf1 : F r0 2 = some f1) (hn_f1 : K f1 = (101, n_f1)) (hf3 : F r0 3 = some f3) (hn_f3 : K f3 = (100, n_f3)) (H : ((x6 ≤ x1 → (∃ j2 : Nat, x1 = nI j2 ∧ j2 < n_f1 ∧ (∃ j4 : Nat, x1 = nI j4 ∧ j4 < n_f3 ∧ Q (none, (K, P, (xup I f3 j4 x5), (xup J f1 j2 y3), F))))) ∧ (¬ x6 ≤ x1 → (∃ j5 : Nat, (x6 - (nI 1)) = nI j5 ∧ j5 < n_f1 ∧ (∃ j6 : Nat, x6 = nI j6 ∧ j6 < n_f1 ∧ (∃ j7 : Nat, (x6 - (nI 1)) = nI j7 ∧ j7 < n_f3 ∧ (∃ j8 : Nat, x6 = nI j8 ∧ j8 < n_f3 ∧ Wp d 39 3 [some (.ref r0), some (.int x1), none, some (.long y3), none, some (.int x5), some (.int (x6 + (-1)))] [] (K, P, (xup I f3 j8 (I f3 j7)), (xup J f1 j6 (J f1 j5)), F) Q))))))) : Wp d 39 3 [some (.ref r0), some (.int x1), none, some (.long y3), none, some (.int x5), some (.int x6)] [] (K, P, I, J, F) Q := by
  refine Wp.go (x := (.iload 6, 2, 0, 0)) rfl 5 [some (.ref r0), some (.int x1), none, some (.long y3), none, some (.int x5), some (.int x6)] [.int x6] rfl ⟨rfl, rfl, rfl, rfl⟩ ?_
  refine Wp.go (x := (.iload_n 1, 1, 0, 0)) rfl 6 [some (.ref r0), some (.int x1), none, some (.long y3), none, some (.int x5), some (.int x6)] [.int x1, .int x6] rfl ⟨rfl, rfl, rfl, rfl⟩ ?_
  refine Wp.c_le rfl rfl ⟨fun c => ?_, fun c => ?_⟩
  · have H := H.1 c
    refine Wp.go (x := (.aload_n 0, 1, 0, 0)) rfl 48 [some (.ref r0), some (.int x1), none, some (.long y3), none, some (.int x5), some (.int x6)] [.ref r0] rfl ⟨rfl, rfl, rfl, rfl⟩ ?_
    refine Wp.gR rfl rfl hn_r0 rfl rfl hf1 ?_
    refine Wp.go (x := (.iload_n 1, 1, 0, 0)) rfl 52 [some (.ref r0), some (.int x1), none, some (.long y3), none, some (.int x5), some (.int x6)] [.int x1, .ref f1] rfl ⟨rfl, rfl, rfl, rfl⟩ ?_
    refine Wp.go (x := (.lload_n 3, 1, 0, 0)) rfl 53 [some (.ref r0), some (.int x1), none, some (.long y3), none, some (.int x5), some (.int x6)] [.long y3, .int x1, .ref f1] rfl ⟨rfl, rfl, rfl, rfl⟩ ?_
    obtain ⟨j2, e, b, H⟩ := H
    refine Wp.lst rfl rfl hn_f1 (hK hn_f1) ⟨j2, e, b, ?_⟩
    refine Wp.go (x := (.aload_n 0, 1, 0, 0)) rfl 55 [some (.ref r0), some (.int x1), none, some (.long y3), none, some (.int x5), some (.int x6)] [.ref r0] rfl ⟨rfl, rfl, rfl, rfl⟩ ?_
    refine Wp.gR rfl rfl hn_r0 rfl rfl hf3 ?_
    refine Wp.go (x := (.iload_n 1, 1, 0, 0)) rfl 59 [some (.ref r0), some (.int x1), none, some (.long y3), none, some (.int x5), some (.int x6)] [.int x1, .ref f3] rfl ⟨rfl, rfl, rfl, rfl⟩ ?_
    refine Wp.go (x := (.iload 5, 2, 0, 0)) rfl 61 [some (.ref r0), some (.int x1), none, some (.long y3), none, some (.int x5), some (.int x6)] [.int x5, .int x1, .ref f3] rfl ⟨rfl, rfl, rfl, rfl⟩ ?_
    obtain ⟨j4, e, b, H⟩ := H
    refine Wp.ast rfl rfl hn_f3 (hK hn_f3) ⟨j4, e, b, ?_⟩
    exact Wp.rV rfl rfl H
  · have H := H.2 c
    refine Wp.go (x := (.aload_n 0, 1, 0, 0)) rfl 10 [some (.ref r0), some (.int x1), none, some (.long y3), none, some (.int x5), some (.int x6)] [.ref r0] rfl ⟨rfl, rfl, rfl, rfl⟩ ?_
    refine Wp.gR rfl rfl hn_r0 rfl rfl hf1 ?_
    refine Wp.go (x := (.iload 6, 2, 0, 0)) rfl 15 [some (.ref r0), some (.int x1), none, some (.long y3), none, some (.int x5), some (.int x6)] [.int x6, .ref f1] rfl ⟨rfl, rfl, rfl, rfl⟩ ?_
    refine Wp.go (x := (.aload_n 0, 1, 0, 0)) rfl 16 [some (.ref r0), some (.int x1), none, some (.long y3), none, some (.int x5), some (.int x6)] [.ref r0, .int x6, .ref f1] rfl ⟨rfl, rfl, rfl, rfl⟩ ?_
    refine Wp.gR rfl rfl hn_r0 rfl rfl hf1 ?_
    refine Wp.go (x := (.iload 6, 2, 0, 0)) rfl 21 [some (.ref r0), some (.int x1), none, some (.long y3), none, some (.int x5), some (.int x6)] [.int x6, .ref f1, .int x6, .ref f1] rfl ⟨rfl, rfl, rfl, rfl⟩ ?_
    refine Wp.ic (v := nI 1) rfl rfl (by decide) ?_
    refine Wp.go (x := (.isub, 1, 0, 0)) rfl 23 [some (.ref r0), some (.int x1), none, some (.long y3), none, some (.int x5), some (.int x6)] [.int (x6 - (nI 1)), .ref f1, .int x6, .ref f1] rfl ⟨rfl, rfl, rfl, rfl⟩ ?_
    obtain ⟨j5, e, b, H⟩ := H
    refine Wp.lld rfl rfl hn_f1 (hK hn_f1) ⟨j5, e, b, ?_⟩
    obtain ⟨j6, e, b, H⟩ := H
    refine Wp.lst rfl rfl hn_f1 (hK hn_f1) ⟨j6, e, b, ?_⟩
    refine Wp.go (x := (.aload_n 0, 1, 0, 0)) rfl 26 [some (.ref r0), some (.int x1), none, some (.long y3), none, some (.int x5), some (.int x6)] [.ref r0] rfl ⟨rfl, rfl, rfl, rfl⟩ ?_
    refine Wp.gR rfl rfl hn_r0 rfl rfl hf3 ?_
    refine Wp.go (x := (.iload 6, 2, 0, 0)) rfl 31 [some (.ref r0), some (.int x1), none, some (.long y3), none, some (.int x5), some (.int x6)] [.int x6, .ref f3] rfl ⟨rfl, rfl, rfl, rfl⟩ ?_
    refine Wp.go (x := (.aload_n 0, 1, 0, 0)) rfl 32 [some (.ref r0), some (.int x1), none, some (.long y3), none, some (.int x5), some (.int x6)] [.ref r0, .int x6, .ref f3] rfl ⟨rfl, rfl, rfl, rfl⟩ ?_
    refine Wp.gR rfl rfl hn_r0 rfl rfl hf3 ?_
    refine Wp.go (x := (.iload 6, 2, 0, 0)) rfl 37 [some (.ref r0), some (.int x1), none, some (.long y3), none, some (.int x5), some (.int x6)] [.int x6, .ref f3, .int x6, .ref f3] rfl ⟨rfl, rfl, rfl, rfl⟩ ?_
    refine Wp.ic (v := nI 1) rfl rfl (by decide) ?_
    refine Wp.go (x := (.isub, 1, 0, 0)) rfl 39 [some (.ref r0), some (.int x1), none, some (.long y3), none, some (.int x5), some (.int x6)] [.int (x6 - (nI 1)), .ref f3, .int x6, .ref f3] rfl ⟨rfl, rfl, rfl, rfl⟩ ?_
    obtain ⟨j7, e, b, H⟩ := H
    refine Wp.ald rfl rfl hn_f3 (Or.inl rfl) (hK hn_f3) ⟨j7, e, b, ?_⟩
    obtain ⟨j8, e, b, H⟩ := H
    refine Wp.ast rfl rfl hn_f3 (hK hn_f3) ⟨j8, e, b, ?_⟩
    refine Wp.ii (v := (-1)) rfl rfl (by decide) rfl (L' := [some (.ref r0), some (.int x1), none, some (.long y3), none, some (.int x5), some (.int (x6 + (-1)))]) rfl ?_
    refine Wp.go (x := (.goto (-41), 3, 3, 0)) rfl 3 [some (.ref r0), some (.int x1), none, some (.long y3), none, some (.int x5), some (.int (x6 + (-1)))] [] rfl ⟨rfl, rfl, rfl, rfl⟩ ?_
    exact H
set_option maxRecDepth 20000 in
theorem wX4_tellSteps_0 {d : Nat} {Q : Option Value × xS → Prop} {K : Nat → Nat × Nat} {P : List Nat × Nat × Nat} {I : Nat → Nat → Int32} {J : Nat → Nat → Int64} {F : Nat → Nat → Option Nat} {r0 : Nat} {r1 : Nat} {n_r1 : Nat} {n_r0 : Nat} {f3 : Nat} {n_f3 : Nat} (hn_r1 : K r1 = (5, n_r1)) (hn_r0 : K r0 = (3, n_r0)) (hf3 : F r0 0 = some f3) (hn_f3 : K f3 = (8, n_f3)) (H : Wp d 51 0 [some (.ref r1)] [] (K, P, I, J, F) (xrV K P F (fun I1 J2 => Wp (d + 1) 40 17 [some (.ref r0), some (.ref r1), some (.int (I1 f3 3)), some (.int ((I1 f3 3) * (nI 40))), none, none, none, none] [] (K, P, I1, J2, F) Q))) : Wp (d + 1) 40 0 [some (.ref r0), some (.ref r1), none, none, none, none, none, none] [] (K, P, I, J, F) Q := by
  refine Wp.go (x := (.aload_n 1, 1, 0, 0)) rfl 1 [some (.ref r0), some (.ref r1), none, none, none, none, none, none] [.ref r1] rfl ⟨rfl, rfl, rfl, rfl⟩ ?_
  refine Wp.kV (x := (.invokevirtual 162, 3, 51, 1)) (j := 51) (vs := [.ref r1]) (rest := []) rfl (by show xtg 51 (K r1).1 = _; rw [hn_r1]; rfl) rfl ⟨Nat.le_of_ble_eq_true rfl, Nat.le_of_ble_eq_true rfl, Nat.le_of_ble_eq_true rfl⟩ rfl rfl rfl H (fun I1 J2 H => ?_)
  refine Wp.go (x := (.aload_n 0, 1, 0, 0)) rfl 5 [some (.ref r0), some (.ref r1), none, none, none, none, none, none] [.ref r0] rfl ⟨rfl, rfl, rfl, rfl⟩ ?_
  refine Wp.gR rfl rfl hn_r0 rfl rfl hf3 ?_
  refine Wp.gI rfl rfl hn_f3 rfl ⟨by decide, by decide⟩ ?_
  refine Wp.go (x := (.istore_n 2, 1, 0, 0)) rfl 12 [some (.ref r0), some (.ref r1), some (.int (I1 f3 3)), none, none, none, none, none] [] rfl ⟨rfl, rfl, rfl, rfl⟩ ?_
  refine Wp.go (x := (.iload_n 2, 1, 0, 0)) rfl 13 [some (.ref r0), some (.ref r1), some (.int (I1 f3 3)), none, none, none, none, none] [.int (I1 f3 3)] rfl ⟨rfl, rfl, rfl, rfl⟩ ?_
  refine Wp.bp (v := nI 40) rfl rfl (by decide) ?_
  refine Wp.go (x := (.imul, 1, 0, 0)) rfl 16 [some (.ref r0), some (.ref r1), some (.int (I1 f3 3)), none, none, none, none, none] [.int ((I1 f3 3) * (nI 40))] rfl ⟨rfl, rfl, rfl, rfl⟩ ?_
  refine Wp.go (x := (.istore_n 3, 1, 0, 0)) rfl 17 [some (.ref r0), some (.ref r1), some (.int (I1 f3 3)), some (.int ((I1 f3 3) * (nI 40))), none, none, none, none] [] rfl ⟨rfl, rfl, rfl, rfl⟩ ?_
  exact H
set_option maxRecDepth 20000 in
theorem wX4_tellSteps_17 {d : Nat} {Q : Option Value × xS → Prop} {K : Nat → Nat × Nat} {P : List Nat × Nat × Nat} {I : Nat → Nat → Int32} {J : Nat → Nat → Int64} {F : Nat → Nat → Option Nat} {r0 : Nat} {r1 : Nat} {x2 : Int32} {x3 : Int32} {n_r1 : Nat} {n_r0 : Nat} {f3 : Nat} {n_f3 : Nat} {f5 : Nat} {n_f5 : Nat} (hK : ∀ {a k n : Nat}, K a = (k, n) → n < 2147483648) (hn_r1 : K r1 = (5, n_r1)) (hn_r0 : K r0 = (3, n_r0)) (hf3 : F r0 3 = some f3) (hn_f3 : K f3 = (100, n_f3)) (hf5 : F r0 2 = some f5) (hn_f5 : K f5 = (101, n_f5)) (H : ((x2 ≤ 0 → Wp d 53 0 [some (.ref r1), none, none] [] (K, P, I, J, F) (xrV K P F (fun I1 J2 => Q (none, (K, P, I1, J2, F))))) ∧ (¬ x2 ≤ 0 → (∃ j4 : Nat, x3 = nI j4 ∧ j4 < n_f3 ∧ ((¬ ((I f3 j4) &&& (nI 7)) = 0 → (∃ j6 : Nat, x3 = nI j6 ∧ j6 < n_f5 ∧ Wp d 27 0 [some (.long ((J f5 j6) &&& (lN 68719476735))), none, some (.int (nI 0))] [] (K, P, I, J, F) (xrI K P F (fun v7 I8 J9 => Wp (d + 1) 40 73 [some (.ref r0), some (.ref r1), some (.int x2), none, some (.int (I f3 j4)), some (.int ((I f3 j4) &&& (nI 7))), some (.int (if (nI 1) < (((I f3 j4) >>> ((nI 3) &&& 31)) &&& (nI 511)) then (((I f3 j4) >>> ((nI 3) &&& 31)) &&& (nI 511)) else (nI 1))), none] [.int v7] (K, P, I8, J9, F) Q)))) ∧ (((I f3 j4) &&& (nI 7)) = 0 → Wp (d + 1) 40 73 [some (.ref r0), some (.ref r1), some (.int x2), none, some (.int (I f3 j4)), some (.int ((I f3 j4) &&& (nI 7))), some (.int (if (nI 1) < (((I f3 j4) >>> ((nI 3) &&& 31)) &&& (nI 511)) then (((I f3 j4) >>> ((nI 3) &&& 31)) &&& (nI 511)) else (nI 1))), none] [.int (nI 0)] (K, P, I, J, F) Q)))))) : Wp (d + 1) 40 17 [some (.ref r0), some (.ref r1), some (.int x2), some (.int x3), none, none, none, none] [] (K, P, I, J, F) Q := by
  refine Wp.go (x := (.iload_n 2, 1, 0, 0)) rfl 18 [some (.ref r0), some (.ref r1), some (.int x2), some (.int x3), none, none, none, none] [.int x2] rfl ⟨rfl, rfl, rfl, rfl⟩ ?_
  refine Wp.z_le rfl rfl ⟨fun c => ?_, fun c => ?_⟩
  · have H := H.1 c
    refine Wp.go (x := (.aload_n 1, 1, 0, 0)) rfl 106 [some (.ref r0), some (.ref r1), some (.int x2), some (.int x3), none, none, none, none] [.ref r1] rfl ⟨rfl, rfl, rfl, rfl⟩ ?_
    refine Wp.kV (x := (.invokevirtual 170, 3, 53, 1)) (j := 53) (vs := [.ref r1]) (rest := []) rfl (by show xtg 53 (K r1).1 = _; rw [hn_r1]; rfl) rfl ⟨Nat.le_of_ble_eq_true rfl, Nat.le_of_ble_eq_true rfl, Nat.le_of_ble_eq_true rfl⟩ rfl rfl rfl H (fun I1 J2 H => ?_)
    exact Wp.rV rfl rfl H
  · have H := H.2 c
    refine Wp.go (x := (.aload_n 0, 1, 0, 0)) rfl 22 [some (.ref r0), some (.ref r1), some (.int x2), some (.int x3), none, none, none, none] [.ref r0] rfl ⟨rfl, rfl, rfl, rfl⟩ ?_
    refine Wp.gR rfl rfl hn_r0 rfl rfl hf3 ?_
    refine Wp.go (x := (.iload_n 3, 1, 0, 0)) rfl 26 [some (.ref r0), some (.ref r1), some (.int x2), some (.int x3), none, none, none, none] [.int x3, .ref f3] rfl ⟨rfl, rfl, rfl, rfl⟩ ?_
    obtain ⟨j4, e, b, H⟩ := H
    refine Wp.ald rfl rfl hn_f3 (Or.inl rfl) (hK hn_f3) ⟨j4, e, b, ?_⟩
    refine Wp.go (x := (.istore 4, 2, 0, 0)) rfl 29 [some (.ref r0), some (.ref r1), some (.int x2), some (.int x3), some (.int (I f3 j4)), none, none, none] [] rfl ⟨rfl, rfl, rfl, rfl⟩ ?_
    refine Wp.go (x := (.iload 4, 2, 0, 0)) rfl 31 [some (.ref r0), some (.ref r1), some (.int x2), some (.int x3), some (.int (I f3 j4)), none, none, none] [.int (I f3 j4)] rfl ⟨rfl, rfl, rfl, rfl⟩ ?_
    refine Wp.bp (v := nI 7) rfl rfl (by decide) ?_
    refine Wp.go (x := (.iand, 1, 0, 0)) rfl 34 [some (.ref r0), some (.ref r1), some (.int x2), some (.int x3), some (.int (I f3 j4)), none, none, none] [.int ((I f3 j4) &&& (nI 7))] rfl ⟨rfl, rfl, rfl, rfl⟩ ?_
    refine Wp.go (x := (.istore 5, 2, 0, 0)) rfl 36 [some (.ref r0), some (.ref r1), some (.int x2), some (.int x3), some (.int (I f3 j4)), some (.int ((I f3 j4) &&& (nI 7))), none, none] [] rfl ⟨rfl, rfl, rfl, rfl⟩ ?_
    refine Wp.ic (v := nI 1) rfl rfl (by decide) ?_
    refine Wp.go (x := (.iload 4, 2, 0, 0)) rfl 39 [some (.ref r0), some (.ref r1), some (.int x2), some (.int x3), some (.int (I f3 j4)), some (.int ((I f3 j4) &&& (nI 7))), none, none] [.int (I f3 j4), .int (nI 1)] rfl ⟨rfl, rfl, rfl, rfl⟩ ?_
    refine Wp.ic (v := nI 3) rfl rfl (by decide) ?_
    refine Wp.go (x := (.ishr, 1, 0, 0)) rfl 41 [some (.ref r0), some (.ref r1), some (.int x2), some (.int x3), some (.int (I f3 j4)), some (.int ((I f3 j4) &&& (nI 7))), none, none] [.int ((I f3 j4) >>> ((nI 3) &&& 31)), .int (nI 1)] rfl ⟨rfl, rfl, rfl, rfl⟩ ?_
    refine Wp.sp (v := nI 511) rfl rfl (by decide) ?_
    refine Wp.go (x := (.iand, 1, 0, 0)) rfl 45 [some (.ref r0), some (.ref r1), some (.int x2), some (.int x3), some (.int (I f3 j4)), some (.int ((I f3 j4) &&& (nI 7))), none, none] [.int (((I f3 j4) >>> ((nI 3) &&& 31)) &&& (nI 511)), .int (nI 1)] rfl ⟨rfl, rfl, rfl, rfl⟩ ?_
    refine Wp.max rfl rfl (by omega) (Nat.le_of_ble_eq_true rfl) ?_
    refine Wp.go (x := (.istore 6, 2, 0, 0)) rfl 50 [some (.ref r0), some (.ref r1), some (.int x2), some (.int x3), some (.int (I f3 j4)), some (.int ((I f3 j4) &&& (nI 7))), some (.int (if (nI 1) < (((I f3 j4) >>> ((nI 3) &&& 31)) &&& (nI 511)) then (((I f3 j4) >>> ((nI 3) &&& 31)) &&& (nI 511)) else (nI 1))), none] [] rfl ⟨rfl, rfl, rfl, rfl⟩ ?_
    refine Wp.go (x := (.iload 5, 2, 0, 0)) rfl 52 [some (.ref r0), some (.ref r1), some (.int x2), some (.int x3), some (.int (I f3 j4)), some (.int ((I f3 j4) &&& (nI 7))), some (.int (if (nI 1) < (((I f3 j4) >>> ((nI 3) &&& 31)) &&& (nI 511)) then (((I f3 j4) >>> ((nI 3) &&& 31)) &&& (nI 511)) else (nI 1))), none] [.int ((I f3 j4) &&& (nI 7))] rfl ⟨rfl, rfl, rfl, rfl⟩ ?_
    refine Wp.z_ne rfl rfl ⟨fun c => ?_, fun c => ?_⟩
    · have H := H.1 c
      refine Wp.go (x := (.aload_n 0, 1, 0, 0)) rfl 60 [some (.ref r0), some (.ref r1), some (.int x2), some (.int x3), some (.int (I f3 j4)), some (.int ((I f3 j4) &&& (nI 7))), some (.int (if (nI 1) < (((I f3 j4) >>> ((nI 3) &&& 31)) &&& (nI 511)) then (((I f3 j4) >>> ((nI 3) &&& 31)) &&& (nI 511)) else (nI 1))), none] [.ref r0] rfl ⟨rfl, rfl, rfl, rfl⟩ ?_
      refine Wp.gR rfl rfl hn_r0 rfl rfl hf5 ?_
      refine Wp.go (x := (.iload_n 3, 1, 0, 0)) rfl 64 [some (.ref r0), some (.ref r1), some (.int x2), some (.int x3), some (.int (I f3 j4)), some (.int ((I f3 j4) &&& (nI 7))), some (.int (if (nI 1) < (((I f3 j4) >>> ((nI 3) &&& 31)) &&& (nI 511)) then (((I f3 j4) >>> ((nI 3) &&& 31)) &&& (nI 511)) else (nI 1))), none] [.int x3, .ref f5] rfl ⟨rfl, rfl, rfl, rfl⟩ ?_
      obtain ⟨j6, e, b, H⟩ := H
      refine Wp.lld rfl rfl hn_f5 (hK hn_f5) ⟨j6, e, b, ?_⟩
      refine Wp.ldcj (v := lN 68719476735) rfl rfl (by first | rfl | decide) ?_
      refine Wp.go (x := (.land, 1, 0, 0)) rfl 69 [some (.ref r0), some (.ref r1), some (.int x2), some (.int x3), some (.int (I f3 j4)), some (.int ((I f3 j4) &&& (nI 7))), some (.int (if (nI 1) < (((I f3 j4) >>> ((nI 3) &&& 31)) &&& (nI 511)) then (((I f3 j4) >>> ((nI 3) &&& 31)) &&& (nI 511)) else (nI 1))), none] [.long ((J f5 j6) &&& (lN 68719476735))] rfl ⟨rfl, rfl, rfl, rfl⟩ ?_
      refine Wp.ic (v := nI 0) rfl rfl (by decide) ?_
      refine Wp.kI (x := (.invokestatic 111, 3, 27, 2)) (j := 27) (vs := [.long ((J f5 j6) &&& (lN 68719476735)), .int (nI 0)]) (rest := []) rfl rfl rfl ⟨Nat.le_of_ble_eq_true rfl, Nat.le_of_ble_eq_true rfl, Nat.le_of_ble_eq_true rfl⟩ rfl rfl rfl H (fun v7 I8 J9 H => ?_)
      exact Wp.wk (L := [some (.ref r0), some (.ref r1), some (.int x2), none, some (.int (I f3 j4)), some (.int ((I f3 j4) &&& (nI 7))), some (.int (if (nI 1) < (((I f3 j4) >>> ((nI 3) &&& 31)) &&& (nI 511)) then (((I f3 j4) >>> ((nI 3) &&& 31)) &&& (nI 511)) else (nI 1))), none]) ⟨Or.inr rfl, Or.inr rfl, Or.inr rfl, Or.inl rfl, Or.inr rfl, Or.inr rfl, Or.inr rfl, Or.inr rfl, trivial⟩ H
    · have H := H.2 c
      refine Wp.ic (v := nI 0) rfl rfl (by decide) ?_
      refine Wp.go (x := (.goto 17, 3, 73, 0)) rfl 73 [some (.ref r0), some (.ref r1), some (.int x2), some (.int x3), some (.int (I f3 j4)), some (.int ((I f3 j4) &&& (nI 7))), some (.int (if (nI 1) < (((I f3 j4) >>> ((nI 3) &&& 31)) &&& (nI 511)) then (((I f3 j4) >>> ((nI 3) &&& 31)) &&& (nI 511)) else (nI 1))), none] [.int (nI 0)] rfl ⟨rfl, rfl, rfl, rfl⟩ ?_
      exact Wp.wk (L := [some (.ref r0), some (.ref r1), some (.int x2), none, some (.int (I f3 j4)), some (.int ((I f3 j4) &&& (nI 7))), some (.int (if (nI 1) < (((I f3 j4) >>> ((nI 3) &&& 31)) &&& (nI 511)) then (((I f3 j4) >>> ((nI 3) &&& 31)) &&& (nI 511)) else (nI 1))), none]) ⟨Or.inr rfl, Or.inr rfl, Or.inr rfl, Or.inl rfl, Or.inr rfl, Or.inr rfl, Or.inr rfl, Or.inr rfl, trivial⟩ H
set_option maxRecDepth 20000 in
theorem wX4_tellSteps_73 {d : Nat} {Q : Option Value × xS → Prop} {K : Nat → Nat × Nat} {P : List Nat × Nat × Nat} {I : Nat → Nat → Int32} {J : Nat → Nat → Int64} {F : Nat → Nat → Option Nat} {r0 : Nat} {r1 : Nat} {x2 : Int32} {x4 : Int32} {x5 : Int32} {x6 : Int32} {s0 : Int32} {n_r1 : Nat} (hn_r1 : K r1 = (5, n_r1)) (H : Wp d 52 0 [some (.ref r1), some (.int x5), some (.int (x2 - x6)), some (.int x6), some (.int s0)] [] (K, P, I, J, F) (xrV K P F (fun I1 J2 => Wp (d + 1) 40 17 [some (.ref r0), some (.ref r1), some (.int (x2 - x6)), some (.int (((x2 - x6) * (nI 40)) + (x4 >>> ((nI 12) &&& 31)))), none, none, none, none] [] (K, P, I1, J2, F) Q))) : Wp (d + 1) 40 73 [some (.ref r0), some (.ref r1), some (.int x2), none, some (.int x4), some (.int x5), some (.int x6), none] [.int s0] (K, P, I, J, F) Q := by
  refine Wp.go (x := (.istore 7, 2, 0, 0)) rfl 75 [some (.ref r0), some (.ref r1), some (.int x2), none, some (.int x4), some (.int x5), some (.int x6), some (.int s0)] [] rfl ⟨rfl, rfl, rfl, rfl⟩ ?_
  refine Wp.go (x := (.iload_n 2, 1, 0, 0)) rfl 76 [some (.ref r0), some (.ref r1), some (.int x2), none, some (.int x4), some (.int x5), some (.int x6), some (.int s0)] [.int x2] rfl ⟨rfl, rfl, rfl, rfl⟩ ?_
  refine Wp.go (x := (.iload 6, 2, 0, 0)) rfl 78 [some (.ref r0), some (.ref r1), some (.int x2), none, some (.int x4), some (.int x5), some (.int x6), some (.int s0)] [.int x6, .int x2] rfl ⟨rfl, rfl, rfl, rfl⟩ ?_
  refine Wp.go (x := (.isub, 1, 0, 0)) rfl 79 [some (.ref r0), some (.ref r1), some (.int x2), none, some (.int x4), some (.int x5), some (.int x6), some (.int s0)] [.int (x2 - x6)] rfl ⟨rfl, rfl, rfl, rfl⟩ ?_
  refine Wp.go (x := (.istore_n 2, 1, 0, 0)) rfl 80 [some (.ref r0), some (.ref r1), some (.int (x2 - x6)), none, some (.int x4), some (.int x5), some (.int x6), some (.int s0)] [] rfl ⟨rfl, rfl, rfl, rfl⟩ ?_
  refine Wp.go (x := (.aload_n 1, 1, 0, 0)) rfl 81 [some (.ref r0), some (.ref r1), some (.int (x2 - x6)), none, some (.int x4), some (.int x5), some (.int x6), some (.int s0)] [.ref r1] rfl ⟨rfl, rfl, rfl, rfl⟩ ?_
  refine Wp.go (x := (.iload 5, 2, 0, 0)) rfl 83 [some (.ref r0), some (.ref r1), some (.int (x2 - x6)), none, some (.int x4), some (.int x5), some (.int x6), some (.int s0)] [.int x5, .ref r1] rfl ⟨rfl, rfl, rfl, rfl⟩ ?_
  refine Wp.go (x := (.iload_n 2, 1, 0, 0)) rfl 84 [some (.ref r0), some (.ref r1), some (.int (x2 - x6)), none, some (.int x4), some (.int x5), some (.int x6), some (.int s0)] [.int (x2 - x6), .int x5, .ref r1] rfl ⟨rfl, rfl, rfl, rfl⟩ ?_
  refine Wp.go (x := (.iload 6, 2, 0, 0)) rfl 86 [some (.ref r0), some (.ref r1), some (.int (x2 - x6)), none, some (.int x4), some (.int x5), some (.int x6), some (.int s0)] [.int x6, .int (x2 - x6), .int x5, .ref r1] rfl ⟨rfl, rfl, rfl, rfl⟩ ?_
  refine Wp.go (x := (.iload 7, 2, 0, 0)) rfl 88 [some (.ref r0), some (.ref r1), some (.int (x2 - x6)), none, some (.int x4), some (.int x5), some (.int x6), some (.int s0)] [.int s0, .int x6, .int (x2 - x6), .int x5, .ref r1] rfl ⟨rfl, rfl, rfl, rfl⟩ ?_
  refine Wp.kV (x := (.invokevirtual 166, 3, 52, 5)) (j := 52) (vs := [.ref r1, .int x5, .int (x2 - x6), .int x6, .int s0]) (rest := []) rfl (by show xtg 52 (K r1).1 = _; rw [hn_r1]; rfl) rfl ⟨Nat.le_of_ble_eq_true rfl, Nat.le_of_ble_eq_true rfl, Nat.le_of_ble_eq_true rfl⟩ rfl rfl rfl H (fun I1 J2 H => ?_)
  refine Wp.go (x := (.iload_n 2, 1, 0, 0)) rfl 92 [some (.ref r0), some (.ref r1), some (.int (x2 - x6)), none, some (.int x4), some (.int x5), some (.int x6), some (.int s0)] [.int (x2 - x6)] rfl ⟨rfl, rfl, rfl, rfl⟩ ?_
  refine Wp.bp (v := nI 40) rfl rfl (by decide) ?_
  refine Wp.go (x := (.imul, 1, 0, 0)) rfl 95 [some (.ref r0), some (.ref r1), some (.int (x2 - x6)), none, some (.int x4), some (.int x5), some (.int x6), some (.int s0)] [.int ((x2 - x6) * (nI 40))] rfl ⟨rfl, rfl, rfl, rfl⟩ ?_
  refine Wp.go (x := (.iload 4, 2, 0, 0)) rfl 97 [some (.ref r0), some (.ref r1), some (.int (x2 - x6)), none, some (.int x4), some (.int x5), some (.int x6), some (.int s0)] [.int x4, .int ((x2 - x6) * (nI 40))] rfl ⟨rfl, rfl, rfl, rfl⟩ ?_
  refine Wp.bp (v := nI 12) rfl rfl (by decide) ?_
  refine Wp.go (x := (.ishr, 1, 0, 0)) rfl 100 [some (.ref r0), some (.ref r1), some (.int (x2 - x6)), none, some (.int x4), some (.int x5), some (.int x6), some (.int s0)] [.int (x4 >>> ((nI 12) &&& 31)), .int ((x2 - x6) * (nI 40))] rfl ⟨rfl, rfl, rfl, rfl⟩ ?_
  refine Wp.go (x := (.iadd, 1, 0, 0)) rfl 101 [some (.ref r0), some (.ref r1), some (.int (x2 - x6)), none, some (.int x4), some (.int x5), some (.int x6), some (.int s0)] [.int (((x2 - x6) * (nI 40)) + (x4 >>> ((nI 12) &&& 31)))] rfl ⟨rfl, rfl, rfl, rfl⟩ ?_
  refine Wp.go (x := (.istore_n 3, 1, 0, 0)) rfl 102 [some (.ref r0), some (.ref r1), some (.int (x2 - x6)), some (.int (((x2 - x6) * (nI 40)) + (x4 >>> ((nI 12) &&& 31)))), some (.int x4), some (.int x5), some (.int x6), some (.int s0)] [] rfl ⟨rfl, rfl, rfl, rfl⟩ ?_
  refine Wp.go (x := (.goto (-85), 3, 17, 0)) rfl 17 [some (.ref r0), some (.ref r1), some (.int (x2 - x6)), some (.int (((x2 - x6) * (nI 40)) + (x4 >>> ((nI 12) &&& 31)))), some (.int x4), some (.int x5), some (.int x6), some (.int s0)] [] rfl ⟨rfl, rfl, rfl, rfl⟩ ?_
  exact Wp.wk (L := [some (.ref r0), some (.ref r1), some (.int (x2 - x6)), some (.int (((x2 - x6) * (nI 40)) + (x4 >>> ((nI 12) &&& 31)))), none, none, none, none]) ⟨Or.inr rfl, Or.inr rfl, Or.inr rfl, Or.inr rfl, Or.inl rfl, Or.inl rfl, Or.inl rfl, Or.inl rfl, trivial⟩ H
set_option maxRecDepth 20000 in
theorem wX5_findBest_0 {d : Nat} {Q : Option Value × xS → Prop} {K : Nat → Nat × Nat} {P : List Nat × Nat × Nat} {I : Nat → Nat → Int32} {J : Nat → Nat → Int64} {F : Nat → Nat → Option Nat} {r0 : Nat} {r1 : Nat} {n_r0 : Nat} {f1 : Nat} {n_f1 : Nat} (hK : ∀ {a k n : Nat}, K a = (k, n) → n < 2147483648) (hn_r0 : K r0 = (4, n_r0)) (hf1 : F r0 2 = some f1) (hn_f1 : K f1 = (100, n_f1)) (H : Wp d 166 0 [some (.ref f1), some (.int (nI 1073741824)), none, none] [] (K, P, I, J, F) (xrV K P F (fun I2 J3 => (∃ j4 : Nat, (nI 0) = nI j4 ∧ j4 < n_f1 ∧ Wp (d + 1) 42 18 [some (.ref r0), some (.ref r1), none, some (.int (nI 0)), none] [] (K, P, (xup I2 f1 j4 (nI 0)), J3, F) Q)))) : Wp (d + 1) 42 0 [some (.ref r0), some (.ref r1), none, none, none] [] (K, P, I, J, F) Q := by
  refine Wp.go (x := (.aload_n 0, 1, 0, 0)) rfl 1 [some (.ref r0), some (.ref r1), none, none, none] [.ref r0] rfl ⟨rfl, rfl, rfl, rfl⟩ ?_
  refine Wp.gR rfl rfl hn_r0 rfl rfl hf1 ?_
  refine Wp.ldc (v := nI 1073741824) rfl rfl (by first | rfl | decide) ?_
  refine Wp.kV (x := (.invokestatic 32, 3, 166, 2)) (j := 166) (vs := [.ref f1, .int (nI 1073741824)]) (rest := []) rfl rfl rfl ⟨Nat.le_of_ble_eq_true rfl, Nat.le_of_ble_eq_true rfl, Nat.le_of_ble_eq_true rfl⟩ rfl rfl rfl H (fun I2 J3 H => ?_)
  refine Wp.go (x := (.aload_n 0, 1, 0, 0)) rfl 10 [some (.ref r0), some (.ref r1), none, none, none] [.ref r0] rfl ⟨rfl, rfl, rfl, rfl⟩ ?_
  refine Wp.gR rfl rfl hn_r0 rfl rfl hf1 ?_
  refine Wp.ic (v := nI 0) rfl rfl (by decide) ?_
  refine Wp.ic (v := nI 0) rfl rfl (by decide) ?_
  obtain ⟨j4, e, b, H⟩ := H
  refine Wp.ast rfl rfl hn_f1 (hK hn_f1) ⟨j4, e, b, ?_⟩
  refine Wp.ic (v := nI 0) rfl rfl (by decide) ?_
  refine Wp.go (x := (.istore_n 3, 1, 0, 0)) rfl 18 [some (.ref r0), some (.ref r1), none, some (.int (nI 0)), none] [] rfl ⟨rfl, rfl, rfl, rfl⟩ ?_
  exact H
set_option maxRecDepth 20000 in
theorem wX5_findBest_18 {d : Nat} {Q : Option Value × xS → Prop} {K : Nat → Nat × Nat} {P : List Nat × Nat × Nat} {I : Nat → Nat → Int32} {J : Nat → Nat → Int64} {F : Nat → Nat → Option Nat} {r0 : Nat} {r1 : Nat} {x3 : Int32} {n_r0 : Nat} {f1 : Nat} {n_f1 : Nat} (hn_r0 : K r0 = (4, n_r0)) (hf1 : F r0 0 = some f1) (hn_f1 : K f1 = (8, n_f1)) (H : (((I f1 3) ≤ x3 → Wp d 43 0 [some (.ref r0), some (.int (I f1 3)), none, none, none] [] (K, P, I, J, F) (xrV K P F (fun I2 J3 => Wp d 45 0 [some (.ref r0), some (.ref r1), none, none, none] [] (K, P, I2, J3, F) (xrV K P F (fun I4 J5 => Q (some (.int (nI 0)), (K, P, I4, J5, F))))))) ∧ (¬ (I f1 3) ≤ x3 → Wp d 69 0 [some (.ref f1), some (.int x3)] [] (K, P, I, J, F) (xrI K P F (fun v6 I7 J8 => ((v6 ≤ 0 → Wp (d + 1) 42 49 [some (.ref r0), some (.ref r1), none, some (.int x3), some (.int v6)] [] (K, P, I7, J8, F) Q) ∧ (¬ v6 ≤ 0 → Wp d 43 0 [some (.ref r0), some (.int x3), none, none, none] [] (K, P, I7, J8, F) (xrV K P F (fun I9 J10 => Wp (d + 1) 42 49 [some (.ref r0), some (.ref r1), none, some (.int x3), some (.int v6)] [] (K, P, I9, J10, F) Q))))))))) : Wp (d + 1) 42 18 [some (.ref r0), some (.ref r1), none, some (.int x3), none] [] (K, P, I, J, F) Q := by
  refine Wp.go (x := (.iload_n 3, 1, 0, 0)) rfl 19 [some (.ref r0), some (.ref r1), none, some (.int x3), none] [.int x3] rfl ⟨rfl, rfl, rfl, rfl⟩ ?_
  refine Wp.go (x := (.aload_n 0, 1, 0, 0)) rfl 20 [some (.ref r0), some (.ref r1), none, some (.int x3), none] [.ref r0, .int x3] rfl ⟨rfl, rfl, rfl, rfl⟩ ?_
  refine Wp.gR rfl rfl hn_r0 rfl rfl hf1 ?_
  refine Wp.gI rfl rfl hn_f1 rfl ⟨by decide, by decide⟩ ?_
  refine Wp.c_ge rfl rfl ⟨fun c => ?_, fun c => ?_⟩
  · have H := H.1 c
    refine Wp.go (x := (.aload_n 0, 1, 0, 0)) rfl 81 [some (.ref r0), some (.ref r1), none, some (.int x3), none] [.ref r0] rfl ⟨rfl, rfl, rfl, rfl⟩ ?_
    refine Wp.go (x := (.aload_n 0, 1, 0, 0)) rfl 82 [some (.ref r0), some (.ref r1), none, some (.int x3), none] [.ref r0, .ref r0] rfl ⟨rfl, rfl, rfl, rfl⟩ ?_
    refine Wp.gR rfl rfl hn_r0 rfl rfl hf1 ?_
    refine Wp.gI rfl rfl hn_f1 rfl ⟨by decide, by decide⟩ ?_
    refine Wp.kV (x := (.invokevirtual 52, 3, 43, 2)) (j := 43) (vs := [.ref r0, .int (I f1 3)]) (rest := []) rfl (by show xtg 43 (K r0).1 = _; rw [hn_r0]; rfl) rfl ⟨Nat.le_of_ble_eq_true rfl, Nat.le_of_ble_eq_true rfl, Nat.le_of_ble_eq_true rfl⟩ rfl rfl rfl H (fun I2 J3 H => ?_)
    refine Wp.go (x := (.aload_n 0, 1, 0, 0)) rfl 92 [some (.ref r0), some (.ref r1), none, some (.int x3), none] [.ref r0] rfl ⟨rfl, rfl, rfl, rfl⟩ ?_
    refine Wp.go (x := (.aload_n 1, 1, 0, 0)) rfl 93 [some (.ref r0), some (.ref r1), none, some (.int x3), none] [.ref r1, .ref r0] rfl ⟨rfl, rfl, rfl, rfl⟩ ?_
    refine Wp.kV (x := (.invokevirtual 63, 3, 45, 2)) (j := 45) (vs := [.ref r0, .ref r1]) (rest := []) rfl (by show xtg 45 (K r0).1 = _; rw [hn_r0]; rfl) rfl ⟨Nat.le_of_ble_eq_true rfl, Nat.le_of_ble_eq_true rfl, Nat.le_of_ble_eq_true rfl⟩ rfl rfl rfl H (fun I4 J5 H => ?_)
    refine Wp.ic (v := nI 0) rfl rfl (by decide) ?_
    exact Wp.rI rfl rfl H
  · have H := H.2 c
    refine Wp.go (x := (.aload_n 0, 1, 0, 0)) rfl 30 [some (.ref r0), some (.ref r1), none, some (.int x3), none] [.ref r0] rfl ⟨rfl, rfl, rfl, rfl⟩ ?_
    refine Wp.gR rfl rfl hn_r0 rfl rfl hf1 ?_
    refine Wp.go (x := (.iload_n 3, 1, 0, 0)) rfl 34 [some (.ref r0), some (.ref r1), none, some (.int x3), none] [.int x3, .ref f1] rfl ⟨rfl, rfl, rfl, rfl⟩ ?_
    refine Wp.kI (x := (.invokevirtual 48, 3, 69, 2)) (j := 69) (vs := [.ref f1, .int x3]) (rest := []) rfl (by show xtg 69 (K f1).1 = _; rw [hn_f1]; rfl) rfl ⟨Nat.le_of_ble_eq_true rfl, Nat.le_of_ble_eq_true rfl, Nat.le_of_ble_eq_true rfl⟩ rfl rfl rfl H (fun v6 I7 J8 H => ?_)
    refine Wp.go (x := (.istore 4, 2, 0, 0)) rfl 39 [some (.ref r0), some (.ref r1), none, some (.int x3), some (.int v6)] [] rfl ⟨rfl, rfl, rfl, rfl⟩ ?_
    refine Wp.go (x := (.iload 4, 2, 0, 0)) rfl 41 [some (.ref r0), some (.ref r1), none, some (.int x3), some (.int v6)] [.int v6] rfl ⟨rfl, rfl, rfl, rfl⟩ ?_
    refine Wp.z_le rfl rfl ⟨fun c => ?_, fun c => ?_⟩
    · have H := H.1 c
      exact H
    · have H := H.2 c
      refine Wp.go (x := (.aload_n 0, 1, 0, 0)) rfl 45 [some (.ref r0), some (.ref r1), none, some (.int x3), some (.int v6)] [.ref r0] rfl ⟨rfl, rfl, rfl, rfl⟩ ?_
      refine Wp.go (x := (.iload_n 3, 1, 0, 0)) rfl 46 [some (.ref r0), some (.ref r1), none, some (.int x3), some (.int v6)] [.int x3, .ref r0] rfl ⟨rfl, rfl, rfl, rfl⟩ ?_
      refine Wp.kV (x := (.invokevirtual 52, 3, 43, 2)) (j := 43) (vs := [.ref r0, .int x3]) (rest := []) rfl (by show xtg 43 (K r0).1 = _; rw [hn_r0]; rfl) rfl ⟨Nat.le_of_ble_eq_true rfl, Nat.le_of_ble_eq_true rfl, Nat.le_of_ble_eq_true rfl⟩ rfl rfl rfl H (fun I9 J10 H => ?_)
      exact H
set_option maxRecDepth 20000 in
theorem wX5_findBest_49 {d : Nat} {Q : Option Value × xS → Prop} {K : Nat → Nat × Nat} {P : List Nat × Nat × Nat} {I : Nat → Nat → Int32} {J : Nat → Nat → Int64} {F : Nat → Nat → Option Nat} {r0 : Nat} {r1 : Nat} {x3 : Int32} {x4 : Int32} {n_r0 : Nat} {f1 : Nat} {n_f1 : Nat} (hn_r0 : K r0 = (4, n_r0)) (hf1 : F r0 0 = some f1) (hn_f1 : K f1 = (8, n_f1)) (H : ((x4 < (I f1 0) → Wp (d + 1) 42 18 [some (.ref r0), some (.ref r1), none, some (.int (x3 + nI 1)), none] [] (K, P, I, J, F) Q) ∧ (¬ x4 < (I f1 0) → Wp d 44 0 [some (.ref r0), some (.int x3), some (.int x4), none] [] (K, P, I, J, F) (xrV K P F (fun I2 J3 => Wp (d + 1) 42 49 [some (.ref r0), some (.ref r1), none, some (.int x3), some (.int (x4 + (-1)))] [] (K, P, I2, J3, F) Q))))) : Wp (d + 1) 42 49 [some (.ref r0), some (.ref r1), none, some (.int x3), some (.int x4)] [] (K, P, I, J, F) Q := by
  refine Wp.go (x := (.iload 4, 2, 0, 0)) rfl 51 [some (.ref r0), some (.ref r1), none, some (.int x3), some (.int x4)] [.int x4] rfl ⟨rfl, rfl, rfl, rfl⟩ ?_
  refine Wp.go (x := (.aload_n 0, 1, 0, 0)) rfl 52 [some (.ref r0), some (.ref r1), none, some (.int x3), some (.int x4)] [.ref r0, .int x4] rfl ⟨rfl, rfl, rfl, rfl⟩ ?_
  refine Wp.gR rfl rfl hn_r0 rfl rfl hf1 ?_
  refine Wp.gI rfl rfl hn_f1 rfl ⟨by decide, by decide⟩ ?_
  refine Wp.c_lt rfl rfl ⟨fun c => ?_, fun c => ?_⟩
  · have H := H.1 c
    refine Wp.ii (v := nI 1) rfl rfl (by decide) rfl (L' := [some (.ref r0), some (.ref r1), none, some (.int (x3 + nI 1)), some (.int x4)]) rfl ?_
    refine Wp.go (x := (.goto (-59), 3, 18, 0)) rfl 18 [some (.ref r0), some (.ref r1), none, some (.int (x3 + nI 1)), some (.int x4)] [] rfl ⟨rfl, rfl, rfl, rfl⟩ ?_
    exact Wp.wk (L := [some (.ref r0), some (.ref r1), none, some (.int (x3 + nI 1)), none]) ⟨Or.inr rfl, Or.inr rfl, Or.inr rfl, Or.inr rfl, Or.inl rfl, trivial⟩ H
  · have H := H.2 c
    refine Wp.go (x := (.aload_n 0, 1, 0, 0)) rfl 62 [some (.ref r0), some (.ref r1), none, some (.int x3), some (.int x4)] [.ref r0] rfl ⟨rfl, rfl, rfl, rfl⟩ ?_
    refine Wp.go (x := (.iload_n 3, 1, 0, 0)) rfl 63 [some (.ref r0), some (.ref r1), none, some (.int x3), some (.int x4)] [.int x3, .ref r0] rfl ⟨rfl, rfl, rfl, rfl⟩ ?_
    refine Wp.go (x := (.iload 4, 2, 0, 0)) rfl 65 [some (.ref r0), some (.ref r1), none, some (.int x3), some (.int x4)] [.int x4, .int x3, .ref r0] rfl ⟨rfl, rfl, rfl, rfl⟩ ?_
    refine Wp.kV (x := (.invokevirtual 59, 3, 44, 3)) (j := 44) (vs := [.ref r0, .int x3, .int x4]) (rest := []) rfl (by show xtg 44 (K r0).1 = _; rw [hn_r0]; rfl) rfl ⟨Nat.le_of_ble_eq_true rfl, Nat.le_of_ble_eq_true rfl, Nat.le_of_ble_eq_true rfl⟩ rfl rfl rfl H (fun I2 J3 H => ?_)
    refine Wp.ii (v := (-1)) rfl rfl (by decide) rfl (L' := [some (.ref r0), some (.ref r1), none, some (.int x3), some (.int (x4 + (-1)))]) rfl ?_
    refine Wp.go (x := (.goto (-22), 3, 49, 0)) rfl 49 [some (.ref r0), some (.ref r1), none, some (.int x3), some (.int (x4 + (-1)))] [] rfl ⟨rfl, rfl, rfl, rfl⟩ ?_
    exact H
