set_option maxRecDepth 20000 in
theorem wX11_isCost_25 {d : Nat} {Q : Option Value × xS → Prop} {K : Nat → Nat × Nat} {P : List Nat × Nat × Nat} {I : Nat → Nat → Int32} {J : Nat → Nat → Int64} {F : Nat → Nat → Option Nat} {x1 : Int32} {x2 : Int32} {s0 : Int32} {s1 : Int32}  (H : ((s1 ≤ s0 → Q (some (.int (nI 0)), (K, P, I, J, F))) ∧ (¬ s1 ≤ s0 → ((x2 < 0 → Q (some (.int (nI 0)), (K, P, I, J, F))) ∧ (¬ x2 < 0 → Wp d 101 0 [some (.int x1)] [] (K, P, I, J, F) (xrI K P F (fun v1 I2 J3 => ((v1 ≤ x2 → Q (some (.int (nI 0)), (K, P, I2, J3, F))) ∧ (¬ v1 ≤ x2 → Q (some (.int (nI 1)), (K, P, I2, J3, F))))))))))) : Wp (d + 1) 102 25 [none, some (.int x1), some (.int x2)] [.int s1, .int s0] (K, P, I, J, F) Q := by
  refine Wp.c_ge rfl rfl ⟨fun c => ?_, fun c => ?_⟩
  · have H := H.1 c
    refine Wp.ic (v := nI 0) rfl rfl (by decide) ?_
    exact Wp.rZ rfl rfl (Or.inl rfl) H
  · have H := H.2 c
    refine Wp.go (x := (.iload_n 2, 1, 0, 0)) rfl 29 [none, some (.int x1), some (.int x2)] [.int x2] rfl ⟨rfl, rfl, rfl, rfl⟩ ?_
    refine Wp.z_lt rfl rfl ⟨fun c => ?_, fun c => ?_⟩
    · have H := H.1 c
      refine Wp.ic (v := nI 0) rfl rfl (by decide) ?_
      exact Wp.rZ rfl rfl (Or.inl rfl) H
    · have H := H.2 c
      refine Wp.go (x := (.iload_n 2, 1, 0, 0)) rfl 33 [none, some (.int x1), some (.int x2)] [.int x2] rfl ⟨rfl, rfl, rfl, rfl⟩ ?_
      refine Wp.go (x := (.iload_n 1, 1, 0, 0)) rfl 34 [none, some (.int x1), some (.int x2)] [.int x1, .int x2] rfl ⟨rfl, rfl, rfl, rfl⟩ ?_
      refine Wp.kI (x := (.invokestatic 132, 3, 101, 1)) (j := 101) (vs := [.int x1]) (rest := [.int x2]) rfl rfl rfl ⟨Nat.le_of_ble_eq_true rfl, Nat.le_of_ble_eq_true rfl, Nat.le_of_ble_eq_true rfl⟩ rfl rfl rfl H (fun v1 I2 J3 H => ?_)
      refine Wp.c_ge rfl rfl ⟨fun c => ?_, fun c => ?_⟩
      · have H := H.1 c
        refine Wp.ic (v := nI 0) rfl rfl (by decide) ?_
        exact Wp.rZ rfl rfl (Or.inl rfl) H
      · have H := H.2 c
        refine Wp.ic (v := nI 1) rfl rfl (by decide) ?_
        refine Wp.go (x := (.goto 4, 3, 45, 0)) rfl 45 [none, some (.int x1), some (.int x2)] [.int (nI 1)] rfl ⟨rfl, rfl, rfl, rfl⟩ ?_
        exact Wp.rZ rfl rfl (Or.inr rfl) H
set_option maxRecDepth 20000 in
theorem wX11_octets_0 {d : Nat} {Q : Option Value × xS → Prop} {K : Nat → Nat × Nat} {P : List Nat × Nat × Nat} {I : Nat → Nat → Int32} {J : Nat → Nat → Int64} {F : Nat → Nat → Option Nat} {r0 : Nat} {x1 : Int32} {y2 : Int64} {n_r0 : Nat} (hn_r0 : K r0 = (10, n_r0)) (H : ((x1 < (nI 1) → Q (some (.int ((-1))), (K, P, (xup I r0 0 (nI 0)), J, F))) ∧ (¬ x1 < (nI 1) → (((nI 8) < x1 → Q (some (.int ((-1))), (K, P, (xup I r0 0 (nI 0)), J, F))) ∧ (¬ (nI 8) < x1 → ((((((xup I r0 0 (nI 0))) r0 3) + x1) ≤ (nI 300) → Wp d 103 33 [some (.ref r0), some (.int x1), some (.long y2), none, some (.int (nI 0))] [] (K, P, (xup I r0 0 (nI 0)), J, F) Q) ∧ (¬ ((((xup I r0 0 (nI 0))) r0 3) + x1) ≤ (nI 300) → Q (some (.int ((-1))), (K, P, (xup I r0 0 (nI 0)), J, F))))))))) : Wp d 103 0 [some (.ref r0), some (.int x1), some (.long y2), none, none] [] (K, P, I, J, F) Q := by
  refine Wp.go (x := (.aload_n 0, 1, 0, 0)) rfl 1 [some (.ref r0), some (.int x1), some (.long y2), none, none] [.ref r0] rfl ⟨rfl, rfl, rfl, rfl⟩ ?_
  refine Wp.ic (v := nI 0) rfl rfl (by decide) ?_
  refine Wp.pI rfl rfl hn_r0 rfl (Or.inl rfl) ?_
  refine Wp.go (x := (.iload_n 1, 1, 0, 0)) rfl 6 [some (.ref r0), some (.int x1), some (.long y2), none, none] [.int x1] rfl ⟨rfl, rfl, rfl, rfl⟩ ?_
  refine Wp.ic (v := nI 1) rfl rfl (by decide) ?_
  refine Wp.c_lt rfl rfl ⟨fun c => ?_, fun c => ?_⟩
  · have H := H.1 c
    refine Wp.ic (v := (-1)) rfl rfl (by decide) ?_
    exact Wp.rI rfl rfl H
  · have H := H.2 c
    refine Wp.go (x := (.iload_n 1, 1, 0, 0)) rfl 11 [some (.ref r0), some (.int x1), some (.long y2), none, none] [.int x1] rfl ⟨rfl, rfl, rfl, rfl⟩ ?_
    refine Wp.bp (v := nI 8) rfl rfl (by decide) ?_
    refine Wp.c_gt rfl rfl ⟨fun c => ?_, fun c => ?_⟩
    · have H := H.1 c
      refine Wp.ic (v := (-1)) rfl rfl (by decide) ?_
      exact Wp.rI rfl rfl H
    · have H := H.2 c
      refine Wp.go (x := (.aload_n 0, 1, 0, 0)) rfl 17 [some (.ref r0), some (.int x1), some (.long y2), none, none] [.ref r0] rfl ⟨rfl, rfl, rfl, rfl⟩ ?_
      refine Wp.gI rfl rfl hn_r0 rfl ⟨by decide, by decide⟩ ?_
      refine Wp.go (x := (.iload_n 1, 1, 0, 0)) rfl 21 [some (.ref r0), some (.int x1), some (.long y2), none, none] [.int x1, .int (((xup I r0 0 (nI 0))) r0 3)] rfl ⟨rfl, rfl, rfl, rfl⟩ ?_
      refine Wp.go (x := (.iadd, 1, 0, 0)) rfl 22 [some (.ref r0), some (.int x1), some (.long y2), none, none] [.int ((((xup I r0 0 (nI 0))) r0 3) + x1)] rfl ⟨rfl, rfl, rfl, rfl⟩ ?_
      refine Wp.sp (v := nI 300) rfl rfl (by decide) ?_
      refine Wp.c_le rfl rfl ⟨fun c => ?_, fun c => ?_⟩
      · have H := H.1 c
        refine Wp.ic (v := nI 0) rfl rfl (by decide) ?_
        refine Wp.go (x := (.istore 4, 2, 0, 0)) rfl 33 [some (.ref r0), some (.int x1), some (.long y2), none, some (.int (nI 0))] [] rfl ⟨rfl, rfl, rfl, rfl⟩ ?_
        exact H
      · have H := H.2 c
        refine Wp.ic (v := (-1)) rfl rfl (by decide) ?_
        exact Wp.rI rfl rfl H
set_option maxRecDepth 20000 in
theorem wX11_octets_33 {d : Nat} {Q : Option Value × xS → Prop} {K : Nat → Nat × Nat} {P : List Nat × Nat × Nat} {I : Nat → Nat → Int32} {J : Nat → Nat → Int64} {F : Nat → Nat → Option Nat} {r0 : Nat} {x1 : Int32} {y2 : Int64} {x4 : Int32} {n_r0 : Nat} {f1 : Nat} {n_f1 : Nat} (hK : ∀ {a k n : Nat}, K a = (k, n) → n < 2147483648) (hn_r0 : K r0 = (10, n_r0)) (hf1 : F r0 2 = some f1) (hn_f1 : K f1 = (100, n_f1)) (H : ((x1 ≤ x4 → Q (some (.int (((xup I r0 10 (nI 0))) r0 3)), (K, P, (xup I r0 10 (nI 0)), J, F))) ∧ (¬ x1 ≤ x4 → (∃ j2 : Nat, (I r0 3) = nI j2 ∧ j2 < n_f1 ∧ Wp d 103 33 [some (.ref r0), some (.int x1), some (.long y2), none, some (.int (x4 + nI 1))] [] (K, P, (xup ((xup I f1 j2 (((y2 >>> (((nI 8) * x4).toInt64 &&& 63)) &&& (lN 255)).toInt32))) r0 3 ((((xup I f1 j2 (((y2 >>> (((nI 8) * x4).toInt64 &&& 63)) &&& (lN 255)).toInt32))) r0 3) + (nI 1))), J, F) Q)))) : Wp d 103 33 [some (.ref r0), some (.int x1), some (.long y2), none, some (.int x4)] [] (K, P, I, J, F) Q := by
  refine Wp.go (x := (.iload 4, 2, 0, 0)) rfl 35 [some (.ref r0), some (.int x1), some (.long y2), none, some (.int x4)] [.int x4] rfl ⟨rfl, rfl, rfl, rfl⟩ ?_
  refine Wp.go (x := (.iload_n 1, 1, 0, 0)) rfl 36 [some (.ref r0), some (.int x1), some (.long y2), none, some (.int x4)] [.int x1, .int x4] rfl ⟨rfl, rfl, rfl, rfl⟩ ?_
  refine Wp.c_ge rfl rfl ⟨fun c => ?_, fun c => ?_⟩
  · have H := H.1 c
    refine Wp.go (x := (.aload_n 0, 1, 0, 0)) rfl 77 [some (.ref r0), some (.int x1), some (.long y2), none, some (.int x4)] [.ref r0] rfl ⟨rfl, rfl, rfl, rfl⟩ ?_
    refine Wp.ic (v := nI 0) rfl rfl (by decide) ?_
    refine Wp.pI rfl rfl hn_r0 rfl (Or.inr ⟨rfl, Or.inl rfl⟩) ?_
    refine Wp.go (x := (.aload_n 0, 1, 0, 0)) rfl 82 [some (.ref r0), some (.int x1), some (.long y2), none, some (.int x4)] [.ref r0] rfl ⟨rfl, rfl, rfl, rfl⟩ ?_
    refine Wp.gI rfl rfl hn_r0 rfl ⟨by decide, by decide⟩ ?_
    exact Wp.rI rfl rfl H
  · have H := H.2 c
    refine Wp.go (x := (.aload_n 0, 1, 0, 0)) rfl 40 [some (.ref r0), some (.int x1), some (.long y2), none, some (.int x4)] [.ref r0] rfl ⟨rfl, rfl, rfl, rfl⟩ ?_
    refine Wp.gR rfl rfl hn_r0 rfl rfl hf1 ?_
    refine Wp.go (x := (.aload_n 0, 1, 0, 0)) rfl 44 [some (.ref r0), some (.int x1), some (.long y2), none, some (.int x4)] [.ref r0, .ref f1] rfl ⟨rfl, rfl, rfl, rfl⟩ ?_
    refine Wp.gI rfl rfl hn_r0 rfl ⟨by decide, by decide⟩ ?_
    refine Wp.go (x := (.lload_n 2, 1, 0, 0)) rfl 48 [some (.ref r0), some (.int x1), some (.long y2), none, some (.int x4)] [.long y2, .int (I r0 3), .ref f1] rfl ⟨rfl, rfl, rfl, rfl⟩ ?_
    refine Wp.bp (v := nI 8) rfl rfl (by decide) ?_
    refine Wp.go (x := (.iload 4, 2, 0, 0)) rfl 52 [some (.ref r0), some (.int x1), some (.long y2), none, some (.int x4)] [.int x4, .int (nI 8), .long y2, .int (I r0 3), .ref f1] rfl ⟨rfl, rfl, rfl, rfl⟩ ?_
    refine Wp.go (x := (.imul, 1, 0, 0)) rfl 53 [some (.ref r0), some (.int x1), some (.long y2), none, some (.int x4)] [.int ((nI 8) * x4), .long y2, .int (I r0 3), .ref f1] rfl ⟨rfl, rfl, rfl, rfl⟩ ?_
    refine Wp.go (x := (.lshr, 1, 0, 0)) rfl 54 [some (.ref r0), some (.int x1), some (.long y2), none, some (.int x4)] [.long (y2 >>> (((nI 8) * x4).toInt64 &&& 63)), .int (I r0 3), .ref f1] rfl ⟨rfl, rfl, rfl, rfl⟩ ?_
    refine Wp.ldcj (v := lN 255) rfl rfl (by first | rfl | decide) ?_
    refine Wp.go (x := (.land, 1, 0, 0)) rfl 58 [some (.ref r0), some (.int x1), some (.long y2), none, some (.int x4)] [.long ((y2 >>> (((nI 8) * x4).toInt64 &&& 63)) &&& (lN 255)), .int (I r0 3), .ref f1] rfl ⟨rfl, rfl, rfl, rfl⟩ ?_
    refine Wp.go (x := (.l2i, 1, 0, 0)) rfl 59 [some (.ref r0), some (.int x1), some (.long y2), none, some (.int x4)] [.int (((y2 >>> (((nI 8) * x4).toInt64 &&& 63)) &&& (lN 255)).toInt32), .int (I r0 3), .ref f1] rfl ⟨rfl, rfl, rfl, rfl⟩ ?_
    obtain ⟨j2, e, b, H⟩ := H
    refine Wp.ast rfl rfl hn_f1 (hK hn_f1) ⟨j2, e, b, ?_⟩
    refine Wp.go (x := (.aload_n 0, 1, 0, 0)) rfl 61 [some (.ref r0), some (.int x1), some (.long y2), none, some (.int x4)] [.ref r0] rfl ⟨rfl, rfl, rfl, rfl⟩ ?_
    refine Wp.go (x := (.dup, 1, 0, 0)) rfl 62 [some (.ref r0), some (.int x1), some (.long y2), none, some (.int x4)] [.ref r0, .ref r0] rfl ⟨rfl, rfl, rfl, rfl⟩ ?_
    refine Wp.gI rfl rfl hn_r0 rfl ⟨by decide, by decide⟩ ?_
    refine Wp.ic (v := nI 1) rfl rfl (by decide) ?_
    refine Wp.go (x := (.iadd, 1, 0, 0)) rfl 67 [some (.ref r0), some (.int x1), some (.long y2), none, some (.int x4)] [.int ((((xup I f1 j2 (((y2 >>> (((nI 8) * x4).toInt64 &&& 63)) &&& (lN 255)).toInt32))) r0 3) + (nI 1)), .ref r0] rfl ⟨rfl, rfl, rfl, rfl⟩ ?_
    refine Wp.pI rfl rfl hn_r0 rfl (Or.inl rfl) ?_
    refine Wp.ii (v := nI 1) rfl rfl (by decide) rfl (L' := [some (.ref r0), some (.int x1), some (.long y2), none, some (.int (x4 + nI 1))]) rfl ?_
    refine Wp.go (x := (.goto (-40), 3, 33, 0)) rfl 33 [some (.ref r0), some (.int x1), some (.long y2), none, some (.int (x4 + nI 1))] [] rfl ⟨rfl, rfl, rfl, rfl⟩ ?_
    exact H
set_option maxRecDepth 20000 in
theorem wX11_cost_0 {d : Nat} {Q : Option Value × xS → Prop} {K : Nat → Nat × Nat} {P : List Nat × Nat × Nat} {I : Nat → Nat → Int32} {J : Nat → Nat → Int64} {F : Nat → Nat → Option Nat} {r0 : Nat} {x1 : Int32} {x2 : Int32} {x3 : Int32} {n_r0 : Nat} {f4 : Nat} {n_f4 : Nat} (hK : ∀ {a k n : Nat}, K a = (k, n) → n < 2147483648) (hn_r0 : K r0 = (10, n_r0)) (hf4 : F r0 4 = some f4) (hn_f4 : K f4 = (100, n_f4)) (H : Wp d 102 0 [some (.ref r0), some (.int x1), some (.int x2)] [] (K, P, (xup I r0 0 (nI 0)), J, F) (xrI K P F (fun v1 I2 J3 => ((v1 = 0 → Q (some (.int ((-1))), (K, P, I2, J3, F))) ∧ (¬ v1 = 0 → ((x3 < (nI 1) → Q (some (.int ((-1))), (K, P, I2, J3, F))) ∧ (¬ x3 < (nI 1) → ((x3 ≤ (nI 10000) → (∃ j5 : Nat, (((nI 256) * x1) + x2) = nI j5 ∧ j5 < n_f4 ∧ (∃ j6 : Nat, (((nI 256) * x1) + x2) = nI j6 ∧ j6 < n_f4 ∧ Q (some (.int (I2 f4 j5)), (K, P, (xup I2 f4 j6 x3), J3, F))))) ∧ (¬ x3 ≤ (nI 10000) → Q (some (.int ((-1))), (K, P, I2, J3, F))))))))))) : Wp (d + 1) 104 0 [some (.ref r0), some (.int x1), some (.int x2), some (.int x3), none] [] (K, P, I, J, F) Q := by
  refine Wp.go (x := (.aload_n 0, 1, 0, 0)) rfl 1 [some (.ref r0), some (.int x1), some (.int x2), some (.int x3), none] [.ref r0] rfl ⟨rfl, rfl, rfl, rfl⟩ ?_
  refine Wp.ic (v := nI 0) rfl rfl (by decide) ?_
  refine Wp.pI rfl rfl hn_r0 rfl (Or.inl rfl) ?_
  refine Wp.go (x := (.aload_n 0, 1, 0, 0)) rfl 6 [some (.ref r0), some (.int x1), some (.int x2), some (.int x3), none] [.ref r0] rfl ⟨rfl, rfl, rfl, rfl⟩ ?_
  refine Wp.go (x := (.iload_n 1, 1, 0, 0)) rfl 7 [some (.ref r0), some (.int x1), some (.int x2), some (.int x3), none] [.int x1, .ref r0] rfl ⟨rfl, rfl, rfl, rfl⟩ ?_
  refine Wp.go (x := (.iload_n 2, 1, 0, 0)) rfl 8 [some (.ref r0), some (.int x1), some (.int x2), some (.int x3), none] [.int x2, .int x1, .ref r0] rfl ⟨rfl, rfl, rfl, rfl⟩ ?_
  refine Wp.kI (x := (.invokevirtual 145, 3, 102, 3)) (j := 102) (vs := [.ref r0, .int x1, .int x2]) (rest := []) rfl (by show xtg 102 (K r0).1 = _; rw [hn_r0]; rfl) rfl ⟨Nat.le_of_ble_eq_true rfl, Nat.le_of_ble_eq_true rfl, Nat.le_of_ble_eq_true rfl⟩ rfl rfl rfl H (fun v1 I2 J3 H => ?_)
  refine Wp.z_eq rfl rfl ⟨fun c => ?_, fun c => ?_⟩
  · have H := H.1 c
    refine Wp.ic (v := (-1)) rfl rfl (by decide) ?_
    exact Wp.rI rfl rfl H
  · have H := H.2 c
    refine Wp.go (x := (.iload_n 3, 1, 0, 0)) rfl 15 [some (.ref r0), some (.int x1), some (.int x2), some (.int x3), none] [.int x3] rfl ⟨rfl, rfl, rfl, rfl⟩ ?_
    refine Wp.ic (v := nI 1) rfl rfl (by decide) ?_
    refine Wp.c_lt rfl rfl ⟨fun c => ?_, fun c => ?_⟩
    · have H := H.1 c
      refine Wp.ic (v := (-1)) rfl rfl (by decide) ?_
      exact Wp.rI rfl rfl H
    · have H := H.2 c
      refine Wp.go (x := (.iload_n 3, 1, 0, 0)) rfl 20 [some (.ref r0), some (.int x1), some (.int x2), some (.int x3), none] [.int x3] rfl ⟨rfl, rfl, rfl, rfl⟩ ?_
      refine Wp.sp (v := nI 10000) rfl rfl (by decide) ?_
      refine Wp.c_le rfl rfl ⟨fun c => ?_, fun c => ?_⟩
      · have H := H.1 c
        refine Wp.go (x := (.aload_n 0, 1, 0, 0)) rfl 29 [some (.ref r0), some (.int x1), some (.int x2), some (.int x3), none] [.ref r0] rfl ⟨rfl, rfl, rfl, rfl⟩ ?_
        refine Wp.gR rfl rfl hn_r0 rfl rfl hf4 ?_
        refine Wp.sp (v := nI 256) rfl rfl (by decide) ?_
        refine Wp.go (x := (.iload_n 1, 1, 0, 0)) rfl 36 [some (.ref r0), some (.int x1), some (.int x2), some (.int x3), none] [.int x1, .int (nI 256), .ref f4] rfl ⟨rfl, rfl, rfl, rfl⟩ ?_
        refine Wp.go (x := (.imul, 1, 0, 0)) rfl 37 [some (.ref r0), some (.int x1), some (.int x2), some (.int x3), none] [.int ((nI 256) * x1), .ref f4] rfl ⟨rfl, rfl, rfl, rfl⟩ ?_
        refine Wp.go (x := (.iload_n 2, 1, 0, 0)) rfl 38 [some (.ref r0), some (.int x1), some (.int x2), some (.int x3), none] [.int x2, .int ((nI 256) * x1), .ref f4] rfl ⟨rfl, rfl, rfl, rfl⟩ ?_
        refine Wp.go (x := (.iadd, 1, 0, 0)) rfl 39 [some (.ref r0), some (.int x1), some (.int x2), some (.int x3), none] [.int (((nI 256) * x1) + x2), .ref f4] rfl ⟨rfl, rfl, rfl, rfl⟩ ?_
        obtain ⟨j5, e, b, H⟩ := H
        refine Wp.ald rfl rfl hn_f4 (Or.inl rfl) (hK hn_f4) ⟨j5, e, b, ?_⟩
        refine Wp.go (x := (.istore 4, 2, 0, 0)) rfl 42 [some (.ref r0), some (.int x1), some (.int x2), some (.int x3), some (.int (I2 f4 j5))] [] rfl ⟨rfl, rfl, rfl, rfl⟩ ?_
        refine Wp.go (x := (.aload_n 0, 1, 0, 0)) rfl 43 [some (.ref r0), some (.int x1), some (.int x2), some (.int x3), some (.int (I2 f4 j5))] [.ref r0] rfl ⟨rfl, rfl, rfl, rfl⟩ ?_
        refine Wp.gR rfl rfl hn_r0 rfl rfl hf4 ?_
        refine Wp.sp (v := nI 256) rfl rfl (by decide) ?_
        refine Wp.go (x := (.iload_n 1, 1, 0, 0)) rfl 50 [some (.ref r0), some (.int x1), some (.int x2), some (.int x3), some (.int (I2 f4 j5))] [.int x1, .int (nI 256), .ref f4] rfl ⟨rfl, rfl, rfl, rfl⟩ ?_
        refine Wp.go (x := (.imul, 1, 0, 0)) rfl 51 [some (.ref r0), some (.int x1), some (.int x2), some (.int x3), some (.int (I2 f4 j5))] [.int ((nI 256) * x1), .ref f4] rfl ⟨rfl, rfl, rfl, rfl⟩ ?_
        refine Wp.go (x := (.iload_n 2, 1, 0, 0)) rfl 52 [some (.ref r0), some (.int x1), some (.int x2), some (.int x3), some (.int (I2 f4 j5))] [.int x2, .int ((nI 256) * x1), .ref f4] rfl ⟨rfl, rfl, rfl, rfl⟩ ?_
        refine Wp.go (x := (.iadd, 1, 0, 0)) rfl 53 [some (.ref r0), some (.int x1), some (.int x2), some (.int x3), some (.int (I2 f4 j5))] [.int (((nI 256) * x1) + x2), .ref f4] rfl ⟨rfl, rfl, rfl, rfl⟩ ?_
        refine Wp.go (x := (.iload_n 3, 1, 0, 0)) rfl 54 [some (.ref r0), some (.int x1), some (.int x2), some (.int x3), some (.int (I2 f4 j5))] [.int x3, .int (((nI 256) * x1) + x2), .ref f4] rfl ⟨rfl, rfl, rfl, rfl⟩ ?_
        obtain ⟨j6, e, b, H⟩ := H
        refine Wp.ast rfl rfl hn_f4 (hK hn_f4) ⟨j6, e, b, ?_⟩
        refine Wp.go (x := (.iload 4, 2, 0, 0)) rfl 57 [some (.ref r0), some (.int x1), some (.int x2), some (.int x3), some (.int (I2 f4 j5))] [.int (I2 f4 j5)] rfl ⟨rfl, rfl, rfl, rfl⟩ ?_
        exact Wp.rI rfl rfl H
      · have H := H.2 c
        refine Wp.ic (v := (-1)) rfl rfl (by decide) ?_
        exact Wp.rI rfl rfl H
set_option maxRecDepth 20000 in
theorem wX11_price_0 {d : Nat} {Q : Option Value × xS → Prop} {K : Nat → Nat × Nat} {P : List Nat × Nat × Nat} {I : Nat → Nat → Int32} {J : Nat → Nat → Int64} {F : Nat → Nat → Option Nat} {r0 : Nat} {x1 : Int32} {x2 : Int32} {n_r0 : Nat} {f4 : Nat} {n_f4 : Nat} (hK : ∀ {a k n : Nat}, K a = (k, n) → n < 2147483648) (hn_r0 : K r0 = (10, n_r0)) (hf4 : F r0 4 = some f4) (hn_f4 : K f4 = (100, n_f4)) (H : Wp d 102 0 [some (.ref r0), some (.int x1), some (.int x2)] [] (K, P, (xup I r0 0 (nI 0)), J, F) (xrI K P F (fun v1 I2 J3 => ((v1 = 0 → Q (some (.int ((-1))), (K, P, I2, J3, F))) ∧ (¬ v1 = 0 → (∃ j5 : Nat, (((nI 256) * x1) + x2) = nI j5 ∧ j5 < n_f4 ∧ Q (some (.int (I2 f4 j5)), (K, P, I2, J3, F)))))))) : Wp (d + 1) 105 0 [some (.ref r0), some (.int x1), some (.int x2)] [] (K, P, I, J, F) Q := by
  refine Wp.go (x := (.aload_n 0, 1, 0, 0)) rfl 1 [some (.ref r0), some (.int x1), some (.int x2)] [.ref r0] rfl ⟨rfl, rfl, rfl, rfl⟩ ?_
  refine Wp.ic (v := nI 0) rfl rfl (by decide) ?_
  refine Wp.pI rfl rfl hn_r0 rfl (Or.inl rfl) ?_
  refine Wp.go (x := (.aload_n 0, 1, 0, 0)) rfl 6 [some (.ref r0), some (.int x1), some (.int x2)] [.ref r0] rfl ⟨rfl, rfl, rfl, rfl⟩ ?_
  refine Wp.go (x := (.iload_n 1, 1, 0, 0)) rfl 7 [some (.ref r0), some (.int x1), some (.int x2)] [.int x1, .ref r0] rfl ⟨rfl, rfl, rfl, rfl⟩ ?_
  refine Wp.go (x := (.iload_n 2, 1, 0, 0)) rfl 8 [some (.ref r0), some (.int x1), some (.int x2)] [.int x2, .int x1, .ref r0] rfl ⟨rfl, rfl, rfl, rfl⟩ ?_
  refine Wp.kI (x := (.invokevirtual 145, 3, 102, 3)) (j := 102) (vs := [.ref r0, .int x1, .int x2]) (rest := []) rfl (by show xtg 102 (K r0).1 = _; rw [hn_r0]; rfl) rfl ⟨Nat.le_of_ble_eq_true rfl, Nat.le_of_ble_eq_true rfl, Nat.le_of_ble_eq_true rfl⟩ rfl rfl rfl H (fun v1 I2 J3 H => ?_)
  refine Wp.z_eq rfl rfl ⟨fun c => ?_, fun c => ?_⟩
  · have H := H.1 c
    refine Wp.ic (v := (-1)) rfl rfl (by decide) ?_
    exact Wp.rI rfl rfl H
  · have H := H.2 c
    refine Wp.go (x := (.aload_n 0, 1, 0, 0)) rfl 15 [some (.ref r0), some (.int x1), some (.int x2)] [.ref r0] rfl ⟨rfl, rfl, rfl, rfl⟩ ?_
    refine Wp.gR rfl rfl hn_r0 rfl rfl hf4 ?_
    refine Wp.sp (v := nI 256) rfl rfl (by decide) ?_
    refine Wp.go (x := (.iload_n 1, 1, 0, 0)) rfl 22 [some (.ref r0), some (.int x1), some (.int x2)] [.int x1, .int (nI 256), .ref f4] rfl ⟨rfl, rfl, rfl, rfl⟩ ?_
    refine Wp.go (x := (.imul, 1, 0, 0)) rfl 23 [some (.ref r0), some (.int x1), some (.int x2)] [.int ((nI 256) * x1), .ref f4] rfl ⟨rfl, rfl, rfl, rfl⟩ ?_
    refine Wp.go (x := (.iload_n 2, 1, 0, 0)) rfl 24 [some (.ref r0), some (.int x1), some (.int x2)] [.int x2, .int ((nI 256) * x1), .ref f4] rfl ⟨rfl, rfl, rfl, rfl⟩ ?_
    refine Wp.go (x := (.iadd, 1, 0, 0)) rfl 25 [some (.ref r0), some (.int x1), some (.int x2)] [.int (((nI 256) * x1) + x2), .ref f4] rfl ⟨rfl, rfl, rfl, rfl⟩ ?_
    obtain ⟨j5, e, b, H⟩ := H
    refine Wp.ald rfl rfl hn_f4 (Or.inl rfl) (hK hn_f4) ⟨j5, e, b, ?_⟩
    refine Wp.go (x := (.goto 4, 3, 30, 0)) rfl 30 [some (.ref r0), some (.int x1), some (.int x2)] [.int (I2 f4 j5)] rfl ⟨rfl, rfl, rfl, rfl⟩ ?_
    exact Wp.rI rfl rfl H
set_option maxRecDepth 20000 in
theorem wX11_keep_0 {d : Nat} {Q : Option Value × xS → Prop} {K : Nat → Nat × Nat} {P : List Nat × Nat × Nat} {I : Nat → Nat → Int32} {J : Nat → Nat → Int64} {F : Nat → Nat → Option Nat} {r0 : Nat} {x1 : Int32} {n_r0 : Nat} (hn_r0 : K r0 = (10, n_r0)) (H : ((x1 < (nI 1) → Q (some (.int ((-1))), (K, P, (xup I r0 0 (nI 0)), J, F))) ∧ (¬ x1 < (nI 1) → (((nI 40) < x1 → Q (some (.int ((-1))), (K, P, (xup I r0 0 (nI 0)), J, F))) ∧ (¬ (nI 40) < x1 → (((((xup I r0 0 (nI 0))) r0 1) = (nI 2) → Q (some (.int (((xup I r0 0 (nI 0))) r0 5)), (K, P, (xup ((xup I r0 0 (nI 0))) r0 5 x1), J, F))) ∧ (¬ (((xup I r0 0 (nI 0))) r0 1) = (nI 2) → Q (some (.int ((-1))), (K, P, (xup I r0 0 (nI 0)), J, F))))))))) : Wp d 106 0 [some (.ref r0), some (.int x1), none] [] (K, P, I, J, F) Q := by
  refine Wp.go (x := (.aload_n 0, 1, 0, 0)) rfl 1 [some (.ref r0), some (.int x1), none] [.ref r0] rfl ⟨rfl, rfl, rfl, rfl⟩ ?_
  refine Wp.ic (v := nI 0) rfl rfl (by decide) ?_
  refine Wp.pI rfl rfl hn_r0 rfl (Or.inl rfl) ?_
  refine Wp.go (x := (.iload_n 1, 1, 0, 0)) rfl 6 [some (.ref r0), some (.int x1), none] [.int x1] rfl ⟨rfl, rfl, rfl, rfl⟩ ?_
  refine Wp.ic (v := nI 1) rfl rfl (by decide) ?_
  refine Wp.c_lt rfl rfl ⟨fun c => ?_, fun c => ?_⟩
  · have H := H.1 c
    refine Wp.ic (v := (-1)) rfl rfl (by decide) ?_
    exact Wp.rI rfl rfl H
  · have H := H.2 c
    refine Wp.go (x := (.iload_n 1, 1, 0, 0)) rfl 11 [some (.ref r0), some (.int x1), none] [.int x1] rfl ⟨rfl, rfl, rfl, rfl⟩ ?_
    refine Wp.bp (v := nI 40) rfl rfl (by decide) ?_
    refine Wp.c_gt rfl rfl ⟨fun c => ?_, fun c => ?_⟩
    · have H := H.1 c
      refine Wp.ic (v := (-1)) rfl rfl (by decide) ?_
      exact Wp.rI rfl rfl H
    · have H := H.2 c
      refine Wp.go (x := (.aload_n 0, 1, 0, 0)) rfl 17 [some (.ref r0), some (.int x1), none] [.ref r0] rfl ⟨rfl, rfl, rfl, rfl⟩ ?_
      refine Wp.gI rfl rfl hn_r0 rfl ⟨by decide, by decide⟩ ?_
      refine Wp.ic (v := nI 2) rfl rfl (by decide) ?_
      refine Wp.c_eq rfl rfl ⟨fun c => ?_, fun c => ?_⟩
      · have H := H.1 c
        refine Wp.go (x := (.aload_n 0, 1, 0, 0)) rfl 27 [some (.ref r0), some (.int x1), none] [.ref r0] rfl ⟨rfl, rfl, rfl, rfl⟩ ?_
        refine Wp.gI rfl rfl hn_r0 rfl ⟨by decide, by decide⟩ ?_
        refine Wp.go (x := (.istore_n 2, 1, 0, 0)) rfl 31 [some (.ref r0), some (.int x1), some (.int (((xup I r0 0 (nI 0))) r0 5))] [] rfl ⟨rfl, rfl, rfl, rfl⟩ ?_
        refine Wp.go (x := (.aload_n 0, 1, 0, 0)) rfl 32 [some (.ref r0), some (.int x1), some (.int (((xup I r0 0 (nI 0))) r0 5))] [.ref r0] rfl ⟨rfl, rfl, rfl, rfl⟩ ?_
        refine Wp.go (x := (.iload_n 1, 1, 0, 0)) rfl 33 [some (.ref r0), some (.int x1), some (.int (((xup I r0 0 (nI 0))) r0 5))] [.int x1, .ref r0] rfl ⟨rfl, rfl, rfl, rfl⟩ ?_
        refine Wp.pI rfl rfl hn_r0 rfl (Or.inl rfl) ?_
        refine Wp.go (x := (.iload_n 2, 1, 0, 0)) rfl 37 [some (.ref r0), some (.int x1), some (.int (((xup I r0 0 (nI 0))) r0 5))] [.int (((xup I r0 0 (nI 0))) r0 5)] rfl ⟨rfl, rfl, rfl, rfl⟩ ?_
        exact Wp.rI rfl rfl H
      · have H := H.2 c
        refine Wp.ic (v := (-1)) rfl rfl (by decide) ?_
        exact Wp.rI rfl rfl H
set_option maxRecDepth 20000 in
theorem wX11_layOut_0 {d : Nat} {Q : Option Value × xS → Prop} {K : Nat → Nat × Nat} {P : List Nat × Nat × Nat} {I : Nat → Nat → Int32} {J : Nat → Nat → Int64} {F : Nat → Nat → Option Nat} {r0 : Nat}  (H : Wp d 107 2 [some (.ref r0), some (.int (nI 1)), none, none, none, none] [] (K, P, I, J, F) Q) : Wp d 107 0 [some (.ref r0), none, none, none, none, none] [] (K, P, I, J, F) Q := by
  refine Wp.ic (v := nI 1) rfl rfl (by decide) ?_
  refine Wp.go (x := (.istore_n 1, 1, 0, 0)) rfl 2 [some (.ref r0), some (.int (nI 1)), none, none, none, none] [] rfl ⟨rfl, rfl, rfl, rfl⟩ ?_
  exact H
set_option maxRecDepth 20000 in
theorem wX11_layOut_2 {d : Nat} {Q : Option Value × xS → Prop} {K : Nat → Nat × Nat} {P : List Nat × Nat × Nat} {I : Nat → Nat → Int32} {J : Nat → Nat → Int64} {F : Nat → Nat → Option Nat} {r0 : Nat} {x1 : Int32} {n_r0 : Nat} (hn_r0 : K r0 = (10, n_r0)) (H : (((nI 300) < x1 → Wp d 107 75 [some (.ref r0), some (.int (nI 0)), none, none, none, none] [] (K, P, I, J, F) Q) ∧ (¬ (nI 300) < x1 → Wp d 107 18 [some (.ref r0), some (.int x1), some (.int (nI 0)), some (.int ((I r0 3) - (nI 1))), none, none] [] (K, P, I, J, F) Q))) : Wp d 107 2 [some (.ref r0), some (.int x1), none, none, none, none] [] (K, P, I, J, F) Q := by
  refine Wp.go (x := (.iload_n 1, 1, 0, 0)) rfl 3 [some (.ref r0), some (.int x1), none, none, none, none] [.int x1] rfl ⟨rfl, rfl, rfl, rfl⟩ ?_
  refine Wp.sp (v := nI 300) rfl rfl (by decide) ?_
  refine Wp.c_gt rfl rfl ⟨fun c => ?_, fun c => ?_⟩
  · have H := H.1 c
    refine Wp.ic (v := nI 0) rfl rfl (by decide) ?_
    refine Wp.go (x := (.istore_n 1, 1, 0, 0)) rfl 75 [some (.ref r0), some (.int (nI 0)), none, none, none, none] [] rfl ⟨rfl, rfl, rfl, rfl⟩ ?_
    exact H
  · have H := H.2 c
    refine Wp.ic (v := nI 0) rfl rfl (by decide) ?_
    refine Wp.go (x := (.istore_n 2, 1, 0, 0)) rfl 11 [some (.ref r0), some (.int x1), some (.int (nI 0)), none, none, none] [] rfl ⟨rfl, rfl, rfl, rfl⟩ ?_
    refine Wp.go (x := (.aload_n 0, 1, 0, 0)) rfl 12 [some (.ref r0), some (.int x1), some (.int (nI 0)), none, none, none] [.ref r0] rfl ⟨rfl, rfl, rfl, rfl⟩ ?_
    refine Wp.gI rfl rfl hn_r0 rfl ⟨by decide, by decide⟩ ?_
    refine Wp.ic (v := nI 1) rfl rfl (by decide) ?_
    refine Wp.go (x := (.isub, 1, 0, 0)) rfl 17 [some (.ref r0), some (.int x1), some (.int (nI 0)), none, none, none] [.int ((I r0 3) - (nI 1))] rfl ⟨rfl, rfl, rfl, rfl⟩ ?_
    refine Wp.go (x := (.istore_n 3, 1, 0, 0)) rfl 18 [some (.ref r0), some (.int x1), some (.int (nI 0)), some (.int ((I r0 3) - (nI 1))), none, none] [] rfl ⟨rfl, rfl, rfl, rfl⟩ ?_
    exact H
set_option maxRecDepth 20000 in
theorem wX11_layOut_18 {d : Nat} {Q : Option Value × xS → Prop} {K : Nat → Nat × Nat} {P : List Nat × Nat × Nat} {I : Nat → Nat → Int32} {J : Nat → Nat → Int64} {F : Nat → Nat → Option Nat} {r0 : Nat} {x1 : Int32} {x2 : Int32} {x3 : Int32} {n_r0 : Nat} {f1 : Nat} {n_f1 : Nat} {f4 : Nat} {n_f4 : Nat} (hK : ∀ {a k n : Nat}, K a = (k, n) → n < 2147483648) (hn_r0 : K r0 = (10, n_r0)) (hf1 : F r0 2 = some f1) (hn_f1 : K f1 = (100, n_f1)) (hf4 : F r0 19 = some f4) (hn_f4 : K f4 = (100, n_f4)) (H : ((x3 < x1 → Wp d 107 2 [some (.ref r0), some (.int (x1 + nI 1)), none, none, none, none] [] (K, P, I, J, F) Q) ∧ (¬ x3 < x1 → (∃ j2 : Nat, x3 = nI j2 ∧ j2 < n_f1 ∧ (∃ j3 : Nat, (x3 - x1) = nI j3 ∧ j3 < n_f1 ∧ ((¬ (I f1 j2) = (I f1 j3) → (∃ j5 : Nat, (((nI 301) * x3) + x1) = nI j5 ∧ j5 < n_f4 ∧ Wp d 107 18 [some (.ref r0), some (.int x1), some (.int (nI 0)), some (.int (x3 + (-1))), none, none] [] (K, P, (xup I f4 j5 (nI 0)), J, F) Q)) ∧ ((I f1 j2) = (I f1 j3) → (∃ j6 : Nat, (((nI 301) * x3) + x1) = nI j6 ∧ j6 < n_f4 ∧ Wp d 107 18 [some (.ref r0), some (.int x1), some (.int (x2 + (nI 1))), some (.int (x3 + (-1))), none, none] [] (K, P, (xup I f4 j6 (x2 + (nI 1))), J, F) Q)))))))) : Wp d 107 18 [some (.ref r0), some (.int x1), some (.int x2), some (.int x3), none, none] [] (K, P, I, J, F) Q := by
  refine Wp.go (x := (.iload_n 3, 1, 0, 0)) rfl 19 [some (.ref r0), some (.int x1), some (.int x2), some (.int x3), none, none] [.int x3] rfl ⟨rfl, rfl, rfl, rfl⟩ ?_
  refine Wp.go (x := (.iload_n 1, 1, 0, 0)) rfl 20 [some (.ref r0), some (.int x1), some (.int x2), some (.int x3), none, none] [.int x1, .int x3] rfl ⟨rfl, rfl, rfl, rfl⟩ ?_
  refine Wp.c_lt rfl rfl ⟨fun c => ?_, fun c => ?_⟩
  · have H := H.1 c
    refine Wp.ii (v := nI 1) rfl rfl (by decide) rfl (L' := [some (.ref r0), some (.int (x1 + nI 1)), some (.int x2), some (.int x3), none, none]) rfl ?_
    refine Wp.go (x := (.goto (-68), 3, 2, 0)) rfl 2 [some (.ref r0), some (.int (x1 + nI 1)), some (.int x2), some (.int x3), none, none] [] rfl ⟨rfl, rfl, rfl, rfl⟩ ?_
    exact Wp.wk (L := [some (.ref r0), some (.int (x1 + nI 1)), none, none, none, none]) ⟨Or.inr rfl, Or.inr rfl, Or.inl rfl, Or.inl rfl, Or.inr rfl, Or.inr rfl, trivial⟩ H
  · have H := H.2 c
    refine Wp.go (x := (.aload_n 0, 1, 0, 0)) rfl 24 [some (.ref r0), some (.int x1), some (.int x2), some (.int x3), none, none] [.ref r0] rfl ⟨rfl, rfl, rfl, rfl⟩ ?_
    refine Wp.gR rfl rfl hn_r0 rfl rfl hf1 ?_
    refine Wp.go (x := (.iload_n 3, 1, 0, 0)) rfl 28 [some (.ref r0), some (.int x1), some (.int x2), some (.int x3), none, none] [.int x3, .ref f1] rfl ⟨rfl, rfl, rfl, rfl⟩ ?_
    obtain ⟨j2, e, b, H⟩ := H
    refine Wp.ald rfl rfl hn_f1 (Or.inl rfl) (hK hn_f1) ⟨j2, e, b, ?_⟩
    refine Wp.go (x := (.aload_n 0, 1, 0, 0)) rfl 30 [some (.ref r0), some (.int x1), some (.int x2), some (.int x3), none, none] [.ref r0, .int (I f1 j2)] rfl ⟨rfl, rfl, rfl, rfl⟩ ?_
    refine Wp.gR rfl rfl hn_r0 rfl rfl hf1 ?_
    refine Wp.go (x := (.iload_n 3, 1, 0, 0)) rfl 34 [some (.ref r0), some (.int x1), some (.int x2), some (.int x3), none, none] [.int x3, .ref f1, .int (I f1 j2)] rfl ⟨rfl, rfl, rfl, rfl⟩ ?_
    refine Wp.go (x := (.iload_n 1, 1, 0, 0)) rfl 35 [some (.ref r0), some (.int x1), some (.int x2), some (.int x3), none, none] [.int x1, .int x3, .ref f1, .int (I f1 j2)] rfl ⟨rfl, rfl, rfl, rfl⟩ ?_
    refine Wp.go (x := (.isub, 1, 0, 0)) rfl 36 [some (.ref r0), some (.int x1), some (.int x2), some (.int x3), none, none] [.int (x3 - x1), .ref f1, .int (I f1 j2)] rfl ⟨rfl, rfl, rfl, rfl⟩ ?_
    obtain ⟨j3, e, b, H⟩ := H
    refine Wp.ald rfl rfl hn_f1 (Or.inl rfl) (hK hn_f1) ⟨j3, e, b, ?_⟩
    refine Wp.c_ne rfl rfl ⟨fun c => ?_, fun c => ?_⟩
    · have H := H.1 c
      refine Wp.ic (v := nI 0) rfl rfl (by decide) ?_
      refine Wp.go (x := (.istore_n 2, 1, 0, 0)) rfl 48 [some (.ref r0), some (.int x1), some (.int (nI 0)), some (.int x3), none, none] [] rfl ⟨rfl, rfl, rfl, rfl⟩ ?_
      refine Wp.go (x := (.aload_n 0, 1, 0, 0)) rfl 49 [some (.ref r0), some (.int x1), some (.int (nI 0)), some (.int x3), none, none] [.ref r0] rfl ⟨rfl, rfl, rfl, rfl⟩ ?_
      refine Wp.gR rfl rfl hn_r0 rfl rfl hf4 ?_
      refine Wp.sp (v := nI 301) rfl rfl (by decide) ?_
      refine Wp.go (x := (.iload_n 3, 1, 0, 0)) rfl 56 [some (.ref r0), some (.int x1), some (.int (nI 0)), some (.int x3), none, none] [.int x3, .int (nI 301), .ref f4] rfl ⟨rfl, rfl, rfl, rfl⟩ ?_
      refine Wp.go (x := (.imul, 1, 0, 0)) rfl 57 [some (.ref r0), some (.int x1), some (.int (nI 0)), some (.int x3), none, none] [.int ((nI 301) * x3), .ref f4] rfl ⟨rfl, rfl, rfl, rfl⟩ ?_
      refine Wp.go (x := (.iload_n 1, 1, 0, 0)) rfl 58 [some (.ref r0), some (.int x1), some (.int (nI 0)), some (.int x3), none, none] [.int x1, .int ((nI 301) * x3), .ref f4] rfl ⟨rfl, rfl, rfl, rfl⟩ ?_
      refine Wp.go (x := (.iadd, 1, 0, 0)) rfl 59 [some (.ref r0), some (.int x1), some (.int (nI 0)), some (.int x3), none, none] [.int (((nI 301) * x3) + x1), .ref f4] rfl ⟨rfl, rfl, rfl, rfl⟩ ?_
      refine Wp.go (x := (.iload_n 2, 1, 0, 0)) rfl 60 [some (.ref r0), some (.int x1), some (.int (nI 0)), some (.int x3), none, none] [.int (nI 0), .int (((nI 301) * x3) + x1), .ref f4] rfl ⟨rfl, rfl, rfl, rfl⟩ ?_
      obtain ⟨j5, e, b, H⟩ := H
      refine Wp.ast rfl rfl hn_f4 (hK hn_f4) ⟨j5, e, b, ?_⟩
      refine Wp.ii (v := (-1)) rfl rfl (by decide) rfl (L' := [some (.ref r0), some (.int x1), some (.int (nI 0)), some (.int (x3 + (-1))), none, none]) rfl ?_
      refine Wp.go (x := (.goto (-46), 3, 18, 0)) rfl 18 [some (.ref r0), some (.int x1), some (.int (nI 0)), some (.int (x3 + (-1))), none, none] [] rfl ⟨rfl, rfl, rfl, rfl⟩ ?_
      exact H
    · have H := H.2 c
      refine Wp.go (x := (.iload_n 2, 1, 0, 0)) rfl 41 [some (.ref r0), some (.int x1), some (.int x2), some (.int x3), none, none] [.int x2] rfl ⟨rfl, rfl, rfl, rfl⟩ ?_
      refine Wp.ic (v := nI 1) rfl rfl (by decide) ?_
      refine Wp.go (x := (.iadd, 1, 0, 0)) rfl 43 [some (.ref r0), some (.int x1), some (.int x2), some (.int x3), none, none] [.int (x2 + (nI 1))] rfl ⟨rfl, rfl, rfl, rfl⟩ ?_
      refine Wp.go (x := (.goto 4, 3, 47, 0)) rfl 47 [some (.ref r0), some (.int x1), some (.int x2), some (.int x3), none, none] [.int (x2 + (nI 1))] rfl ⟨rfl, rfl, rfl, rfl⟩ ?_
      refine Wp.go (x := (.istore_n 2, 1, 0, 0)) rfl 48 [some (.ref r0), some (.int x1), some (.int (x2 + (nI 1))), some (.int x3), none, none] [] rfl ⟨rfl, rfl, rfl, rfl⟩ ?_
      refine Wp.go (x := (.aload_n 0, 1, 0, 0)) rfl 49 [some (.ref r0), some (.int x1), some (.int (x2 + (nI 1))), some (.int x3), none, none] [.ref r0] rfl ⟨rfl, rfl, rfl, rfl⟩ ?_
      refine Wp.gR rfl rfl hn_r0 rfl rfl hf4 ?_
      refine Wp.sp (v := nI 301) rfl rfl (by decide) ?_
      refine Wp.go (x := (.iload_n 3, 1, 0, 0)) rfl 56 [some (.ref r0), some (.int x1), some (.int (x2 + (nI 1))), some (.int x3), none, none] [.int x3, .int (nI 301), .ref f4] rfl ⟨rfl, rfl, rfl, rfl⟩ ?_
      refine Wp.go (x := (.imul, 1, 0, 0)) rfl 57 [some (.ref r0), some (.int x1), some (.int (x2 + (nI 1))), some (.int x3), none, none] [.int ((nI 301) * x3), .ref f4] rfl ⟨rfl, rfl, rfl, rfl⟩ ?_
      refine Wp.go (x := (.iload_n 1, 1, 0, 0)) rfl 58 [some (.ref r0), some (.int x1), some (.int (x2 + (nI 1))), some (.int x3), none, none] [.int x1, .int ((nI 301) * x3), .ref f4] rfl ⟨rfl, rfl, rfl, rfl⟩ ?_
      refine Wp.go (x := (.iadd, 1, 0, 0)) rfl 59 [some (.ref r0), some (.int x1), some (.int (x2 + (nI 1))), some (.int x3), none, none] [.int (((nI 301) * x3) + x1), .ref f4] rfl ⟨rfl, rfl, rfl, rfl⟩ ?_
      refine Wp.go (x := (.iload_n 2, 1, 0, 0)) rfl 60 [some (.ref r0), some (.int x1), some (.int (x2 + (nI 1))), some (.int x3), none, none] [.int (x2 + (nI 1)), .int (((nI 301) * x3) + x1), .ref f4] rfl ⟨rfl, rfl, rfl, rfl⟩ ?_
      obtain ⟨j6, e, b, H⟩ := H
      refine Wp.ast rfl rfl hn_f4 (hK hn_f4) ⟨j6, e, b, ?_⟩
      refine Wp.ii (v := (-1)) rfl rfl (by decide) rfl (L' := [some (.ref r0), some (.int x1), some (.int (x2 + (nI 1))), some (.int (x3 + (-1))), none, none]) rfl ?_
      refine Wp.go (x := (.goto (-46), 3, 18, 0)) rfl 18 [some (.ref r0), some (.int x1), some (.int (x2 + (nI 1))), some (.int (x3 + (-1))), none, none] [] rfl ⟨rfl, rfl, rfl, rfl⟩ ?_
      exact H
set_option maxRecDepth 20000 in
theorem wX11_layOut_75 {d : Nat} {Q : Option Value × xS → Prop} {K : Nat → Nat × Nat} {P : List Nat × Nat × Nat} {I : Nat → Nat → Int32} {J : Nat → Nat → Int64} {F : Nat → Nat → Option Nat} {r0 : Nat} {x1 : Int32} {n_r0 : Nat} (hn_r0 : K r0 = (10, n_r0)) (H : (((I r0 3) ≤ x1 → Q (none, (K, P, I, J, F))) ∧ (¬ (I r0 3) ≤ x1 → Wp d 107 87 [some (.ref r0), some (.int x1), some (.int (nI 0)), some (.int (nI 1)), none, none] [] (K, P, I, J, F) Q))) : Wp d 107 75 [some (.ref r0), some (.int x1), none, none, none, none] [] (K, P, I, J, F) Q := by
  refine Wp.go (x := (.iload_n 1, 1, 0, 0)) rfl 76 [some (.ref r0), some (.int x1), none, none, none, none] [.int x1] rfl ⟨rfl, rfl, rfl, rfl⟩ ?_
  refine Wp.go (x := (.aload_n 0, 1, 0, 0)) rfl 77 [some (.ref r0), some (.int x1), none, none, none, none] [.ref r0, .int x1] rfl ⟨rfl, rfl, rfl, rfl⟩ ?_
  refine Wp.gI rfl rfl hn_r0 rfl ⟨by decide, by decide⟩ ?_
  refine Wp.c_ge rfl rfl ⟨fun c => ?_, fun c => ?_⟩
  · have H := H.1 c
    exact Wp.rV rfl rfl H
  · have H := H.2 c
    refine Wp.ic (v := nI 0) rfl rfl (by decide) ?_
    refine Wp.go (x := (.istore_n 2, 1, 0, 0)) rfl 85 [some (.ref r0), some (.int x1), some (.int (nI 0)), none, none, none] [] rfl ⟨rfl, rfl, rfl, rfl⟩ ?_
    refine Wp.ic (v := nI 1) rfl rfl (by decide) ?_
    refine Wp.go (x := (.istore_n 3, 1, 0, 0)) rfl 87 [some (.ref r0), some (.int x1), some (.int (nI 0)), some (.int (nI 1)), none, none] [] rfl ⟨rfl, rfl, rfl, rfl⟩ ?_
    exact H
set_option maxRecDepth 20000 in
theorem wX11_layOut_87 {d : Nat} {Q : Option Value × xS → Prop} {K : Nat → Nat × Nat} {P : List Nat × Nat × Nat} {I : Nat → Nat → Int32} {J : Nat → Nat → Int64} {F : Nat → Nat → Option Nat} {r0 : Nat} {x1 : Int32} {x2 : Int32} {x3 : Int32} {n_r0 : Nat} {f1 : Nat} {n_f1 : Nat} (hK : ∀ {a k n : Nat}, K a = (k, n) → n < 2147483648) (hn_r0 : K r0 = (10, n_r0)) (hf1 : F r0 19 = some f1) (hn_f1 : K f1 = (100, n_f1)) (H : ((x1 < x3 → Wp (d + 1) 107 181 [some (.ref r0), some (.int x1), none, some (.int (x2 + (nI 1))), none, none] [] (K, P, I, J, F) Q) ∧ (¬ x1 < x3 → (∃ j2 : Nat, (((nI 301) * x1) + x3) = nI j2 ∧ j2 < n_f1 ∧ Wp d 100 0 [some (.ref r0)] [] (K, P, I, J, F) (xrI K P F (fun v3 I4 J5 => (((I f1 j2) ≤ v3 → Wp (d + 1) 107 131 [some (.ref r0), some (.int x1), some (.int x2), some (.int x3), some (.int (I f1 j2)), some (.int (x2 + (nI 1)))] [] (K, P, I4, J5, F) Q) ∧ (¬ (I f1 j2) ≤ v3 → Wp d 100 0 [some (.ref r0)] [] (K, P, I4, J5, F) (xrI K P F (fun v6 I7 J8 => Wp (d + 1) 107 131 [some (.ref r0), some (.int x1), some (.int x2), some (.int x3), some (.int v6), some (.int (x2 + (nI 1)))] [] (K, P, I7, J8, F) Q)))))))))) : Wp (d + 1) 107 87 [some (.ref r0), some (.int x1), some (.int x2), some (.int x3), none, none] [] (K, P, I, J, F) Q := by
  refine Wp.go (x := (.iload_n 3, 1, 0, 0)) rfl 88 [some (.ref r0), some (.int x1), some (.int x2), some (.int x3), none, none] [.int x3] rfl ⟨rfl, rfl, rfl, rfl⟩ ?_
  refine Wp.go (x := (.iload_n 1, 1, 0, 0)) rfl 89 [some (.ref r0), some (.int x1), some (.int x2), some (.int x3), none, none] [.int x1, .int x3] rfl ⟨rfl, rfl, rfl, rfl⟩ ?_
  refine Wp.c_gt rfl rfl ⟨fun c => ?_, fun c => ?_⟩
  · have H := H.1 c
    refine Wp.go (x := (.iload_n 2, 1, 0, 0)) rfl 178 [some (.ref r0), some (.int x1), some (.int x2), some (.int x3), none, none] [.int x2] rfl ⟨rfl, rfl, rfl, rfl⟩ ?_
    refine Wp.ic (v := nI 1) rfl rfl (by decide) ?_
    refine Wp.go (x := (.iadd, 1, 0, 0)) rfl 180 [some (.ref r0), some (.int x1), some (.int x2), some (.int x3), none, none] [.int (x2 + (nI 1))] rfl ⟨rfl, rfl, rfl, rfl⟩ ?_
    refine Wp.go (x := (.istore_n 3, 1, 0, 0)) rfl 181 [some (.ref r0), some (.int x1), some (.int x2), some (.int (x2 + (nI 1))), none, none] [] rfl ⟨rfl, rfl, rfl, rfl⟩ ?_
    exact Wp.wk (L := [some (.ref r0), some (.int x1), none, some (.int (x2 + (nI 1))), none, none]) ⟨Or.inr rfl, Or.inr rfl, Or.inl rfl, Or.inr rfl, Or.inr rfl, Or.inr rfl, trivial⟩ H
  · have H := H.2 c
    refine Wp.go (x := (.aload_n 0, 1, 0, 0)) rfl 93 [some (.ref r0), some (.int x1), some (.int x2), some (.int x3), none, none] [.ref r0] rfl ⟨rfl, rfl, rfl, rfl⟩ ?_
    refine Wp.gR rfl rfl hn_r0 rfl rfl hf1 ?_
    refine Wp.sp (v := nI 301) rfl rfl (by decide) ?_
    refine Wp.go (x := (.iload_n 1, 1, 0, 0)) rfl 100 [some (.ref r0), some (.int x1), some (.int x2), some (.int x3), none, none] [.int x1, .int (nI 301), .ref f1] rfl ⟨rfl, rfl, rfl, rfl⟩ ?_
    refine Wp.go (x := (.imul, 1, 0, 0)) rfl 101 [some (.ref r0), some (.int x1), some (.int x2), some (.int x3), none, none] [.int ((nI 301) * x1), .ref f1] rfl ⟨rfl, rfl, rfl, rfl⟩ ?_
    refine Wp.go (x := (.iload_n 3, 1, 0, 0)) rfl 102 [some (.ref r0), some (.int x1), some (.int x2), some (.int x3), none, none] [.int x3, .int ((nI 301) * x1), .ref f1] rfl ⟨rfl, rfl, rfl, rfl⟩ ?_
    refine Wp.go (x := (.iadd, 1, 0, 0)) rfl 103 [some (.ref r0), some (.int x1), some (.int x2), some (.int x3), none, none] [.int (((nI 301) * x1) + x3), .ref f1] rfl ⟨rfl, rfl, rfl, rfl⟩ ?_
    obtain ⟨j2, e, b, H⟩ := H
    refine Wp.ald rfl rfl hn_f1 (Or.inl rfl) (hK hn_f1) ⟨j2, e, b, ?_⟩
    refine Wp.go (x := (.istore 4, 2, 0, 0)) rfl 106 [some (.ref r0), some (.int x1), some (.int x2), some (.int x3), some (.int (I f1 j2)), none] [] rfl ⟨rfl, rfl, rfl, rfl⟩ ?_
    refine Wp.go (x := (.iload 4, 2, 0, 0)) rfl 108 [some (.ref r0), some (.int x1), some (.int x2), some (.int x3), some (.int (I f1 j2)), none] [.int (I f1 j2)] rfl ⟨rfl, rfl, rfl, rfl⟩ ?_
    refine Wp.go (x := (.aload_n 0, 1, 0, 0)) rfl 109 [some (.ref r0), some (.int x1), some (.int x2), some (.int x3), some (.int (I f1 j2)), none] [.ref r0, .int (I f1 j2)] rfl ⟨rfl, rfl, rfl, rfl⟩ ?_
    refine Wp.kI (x := (.invokevirtual 149, 3, 100, 1)) (j := 100) (vs := [.ref r0]) (rest := [.int (I f1 j2)]) rfl (by show xtg 100 (K r0).1 = _; rw [hn_r0]; rfl) rfl ⟨Nat.le_of_ble_eq_true rfl, Nat.le_of_ble_eq_true rfl, Nat.le_of_ble_eq_true rfl⟩ rfl rfl rfl H (fun v3 I4 J5 H => ?_)
    refine Wp.c_le rfl rfl ⟨fun c => ?_, fun c => ?_⟩
    · have H := H.1 c
      refine Wp.go (x := (.iload 4, 2, 0, 0)) rfl 124 [some (.ref r0), some (.int x1), some (.int x2), some (.int x3), some (.int (I f1 j2)), none] [.int (I f1 j2)] rfl ⟨rfl, rfl, rfl, rfl⟩ ?_
      refine Wp.go (x := (.istore 4, 2, 0, 0)) rfl 126 [some (.ref r0), some (.int x1), some (.int x2), some (.int x3), some (.int (I f1 j2)), none] [] rfl ⟨rfl, rfl, rfl, rfl⟩ ?_
      refine Wp.go (x := (.iload_n 2, 1, 0, 0)) rfl 127 [some (.ref r0), some (.int x1), some (.int x2), some (.int x3), some (.int (I f1 j2)), none] [.int x2] rfl ⟨rfl, rfl, rfl, rfl⟩ ?_
      refine Wp.ic (v := nI 1) rfl rfl (by decide) ?_
      refine Wp.go (x := (.iadd, 1, 0, 0)) rfl 129 [some (.ref r0), some (.int x1), some (.int x2), some (.int x3), some (.int (I f1 j2)), none] [.int (x2 + (nI 1))] rfl ⟨rfl, rfl, rfl, rfl⟩ ?_
      refine Wp.go (x := (.istore 5, 2, 0, 0)) rfl 131 [some (.ref r0), some (.int x1), some (.int x2), some (.int x3), some (.int (I f1 j2)), some (.int (x2 + (nI 1)))] [] rfl ⟨rfl, rfl, rfl, rfl⟩ ?_
      exact H
    · have H := H.2 c
      refine Wp.go (x := (.aload_n 0, 1, 0, 0)) rfl 116 [some (.ref r0), some (.int x1), some (.int x2), some (.int x3), some (.int (I f1 j2)), none] [.ref r0] rfl ⟨rfl, rfl, rfl, rfl⟩ ?_
      refine Wp.kI (x := (.invokevirtual 149, 3, 100, 1)) (j := 100) (vs := [.ref r0]) (rest := []) rfl (by show xtg 100 (K r0).1 = _; rw [hn_r0]; rfl) rfl ⟨Nat.le_of_ble_eq_true rfl, Nat.le_of_ble_eq_true rfl, Nat.le_of_ble_eq_true rfl⟩ rfl rfl rfl H (fun v6 I7 J8 H => ?_)
      refine Wp.go (x := (.goto 5, 3, 124, 0)) rfl 124 [some (.ref r0), some (.int x1), some (.int x2), some (.int x3), some (.int (I f1 j2)), none] [.int v6] rfl ⟨rfl, rfl, rfl, rfl⟩ ?_
      refine Wp.go (x := (.istore 4, 2, 0, 0)) rfl 126 [some (.ref r0), some (.int x1), some (.int x2), some (.int x3), some (.int v6), none] [] rfl ⟨rfl, rfl, rfl, rfl⟩ ?_
      refine Wp.go (x := (.iload_n 2, 1, 0, 0)) rfl 127 [some (.ref r0), some (.int x1), some (.int x2), some (.int x3), some (.int v6), none] [.int x2] rfl ⟨rfl, rfl, rfl, rfl⟩ ?_
      refine Wp.ic (v := nI 1) rfl rfl (by decide) ?_
      refine Wp.go (x := (.iadd, 1, 0, 0)) rfl 129 [some (.ref r0), some (.int x1), some (.int x2), some (.int x3), some (.int v6), none] [.int (x2 + (nI 1))] rfl ⟨rfl, rfl, rfl, rfl⟩ ?_
      refine Wp.go (x := (.istore 5, 2, 0, 0)) rfl 131 [some (.ref r0), some (.int x1), some (.int x2), some (.int x3), some (.int v6), some (.int (x2 + (nI 1)))] [] rfl ⟨rfl, rfl, rfl, rfl⟩ ?_
      exact H
set_option maxRecDepth 20000 in
theorem wX11_layOut_131 {d : Nat} {Q : Option Value × xS → Prop} {K : Nat → Nat × Nat} {P : List Nat × Nat × Nat} {I : Nat → Nat → Int32} {J : Nat → Nat → Int64} {F : Nat → Nat → Option Nat} {r0 : Nat} {x1 : Int32} {x2 : Int32} {x3 : Int32} {x4 : Int32} {x5 : Int32} {n_r0 : Nat} {f1 : Nat} {n_f1 : Nat} (hK : ∀ {a k n : Nat}, K a = (k, n) → n < 2147483648) (hn_r0 : K r0 = (10, n_r0)) (hf1 : F r0 20 = some f1) (hn_f1 : K f1 = (100, n_f1)) (H : ((x4 < x5 → ((x4 ≤ x2 → Wp d 107 87 [some (.ref r0), some (.int x1), some (.int x2), some (.int (x3 + nI 1)), none, none] [] (K, P, I, J, F) Q) ∧ (¬ x4 ≤ x2 → Wp d 107 87 [some (.ref r0), some (.int x1), some (.int x4), some (.int (x3 + nI 1)), none, none] [] (K, P, I, J, F) Q))) ∧ (¬ x4 < x5 → (∃ j2 : Nat, (((nI 301) * x1) + x5) = nI j2 ∧ j2 < n_f1 ∧ Wp d 107 131 [some (.ref r0), some (.int x1), some (.int x2), some (.int x3), some (.int x4), some (.int (x5 + nI 1))] [] (K, P, (xup I f1 j2 x3), J, F) Q)))) : Wp d 107 131 [some (.ref r0), some (.int x1), some (.int x2), some (.int x3), some (.int x4), some (.int x5)] [] (K, P, I, J, F) Q := by
  refine Wp.go (x := (.iload 5, 2, 0, 0)) rfl 133 [some (.ref r0), some (.int x1), some (.int x2), some (.int x3), some (.int x4), some (.int x5)] [.int x5] rfl ⟨rfl, rfl, rfl, rfl⟩ ?_
  refine Wp.go (x := (.iload 4, 2, 0, 0)) rfl 135 [some (.ref r0), some (.int x1), some (.int x2), some (.int x3), some (.int x4), some (.int x5)] [.int x4, .int x5] rfl ⟨rfl, rfl, rfl, rfl⟩ ?_
  refine Wp.c_gt rfl rfl ⟨fun c => ?_, fun c => ?_⟩
  · have H := H.1 c
    refine Wp.go (x := (.iload 4, 2, 0, 0)) rfl 160 [some (.ref r0), some (.int x1), some (.int x2), some (.int x3), some (.int x4), some (.int x5)] [.int x4] rfl ⟨rfl, rfl, rfl, rfl⟩ ?_
    refine Wp.go (x := (.iload_n 2, 1, 0, 0)) rfl 161 [some (.ref r0), some (.int x1), some (.int x2), some (.int x3), some (.int x4), some (.int x5)] [.int x2, .int x4] rfl ⟨rfl, rfl, rfl, rfl⟩ ?_
    refine Wp.c_le rfl rfl ⟨fun c => ?_, fun c => ?_⟩
    · have H := H.1 c
      refine Wp.go (x := (.iload_n 2, 1, 0, 0)) rfl 170 [some (.ref r0), some (.int x1), some (.int x2), some (.int x3), some (.int x4), some (.int x5)] [.int x2] rfl ⟨rfl, rfl, rfl, rfl⟩ ?_
      refine Wp.go (x := (.istore_n 2, 1, 0, 0)) rfl 171 [some (.ref r0), some (.int x1), some (.int x2), some (.int x3), some (.int x4), some (.int x5)] [] rfl ⟨rfl, rfl, rfl, rfl⟩ ?_
      refine Wp.ii (v := nI 1) rfl rfl (by decide) rfl (L' := [some (.ref r0), some (.int x1), some (.int x2), some (.int (x3 + nI 1)), some (.int x4), some (.int x5)]) rfl ?_
      refine Wp.go (x := (.goto (-87), 3, 87, 0)) rfl 87 [some (.ref r0), some (.int x1), some (.int x2), some (.int (x3 + nI 1)), some (.int x4), some (.int x5)] [] rfl ⟨rfl, rfl, rfl, rfl⟩ ?_
      exact Wp.wk (L := [some (.ref r0), some (.int x1), some (.int x2), some (.int (x3 + nI 1)), none, none]) ⟨Or.inr rfl, Or.inr rfl, Or.inr rfl, Or.inr rfl, Or.inl rfl, Or.inl rfl, trivial⟩ H
    · have H := H.2 c
      refine Wp.go (x := (.iload 4, 2, 0, 0)) rfl 166 [some (.ref r0), some (.int x1), some (.int x2), some (.int x3), some (.int x4), some (.int x5)] [.int x4] rfl ⟨rfl, rfl, rfl, rfl⟩ ?_
      refine Wp.go (x := (.goto 4, 3, 170, 0)) rfl 170 [some (.ref r0), some (.int x1), some (.int x2), some (.int x3), some (.int x4), some (.int x5)] [.int x4] rfl ⟨rfl, rfl, rfl, rfl⟩ ?_
      refine Wp.go (x := (.istore_n 2, 1, 0, 0)) rfl 171 [some (.ref r0), some (.int x1), some (.int x4), some (.int x3), some (.int x4), some (.int x5)] [] rfl ⟨rfl, rfl, rfl, rfl⟩ ?_
      refine Wp.ii (v := nI 1) rfl rfl (by decide) rfl (L' := [some (.ref r0), some (.int x1), some (.int x4), some (.int (x3 + nI 1)), some (.int x4), some (.int x5)]) rfl ?_
      refine Wp.go (x := (.goto (-87), 3, 87, 0)) rfl 87 [some (.ref r0), some (.int x1), some (.int x4), some (.int (x3 + nI 1)), some (.int x4), some (.int x5)] [] rfl ⟨rfl, rfl, rfl, rfl⟩ ?_
      exact Wp.wk (L := [some (.ref r0), some (.int x1), some (.int x4), some (.int (x3 + nI 1)), none, none]) ⟨Or.inr rfl, Or.inr rfl, Or.inr rfl, Or.inr rfl, Or.inl rfl, Or.inl rfl, trivial⟩ H
  · have H := H.2 c
    refine Wp.go (x := (.aload_n 0, 1, 0, 0)) rfl 139 [some (.ref r0), some (.int x1), some (.int x2), some (.int x3), some (.int x4), some (.int x5)] [.ref r0] rfl ⟨rfl, rfl, rfl, rfl⟩ ?_
    refine Wp.gR rfl rfl hn_r0 rfl rfl hf1 ?_
    refine Wp.sp (v := nI 301) rfl rfl (by decide) ?_
    refine Wp.go (x := (.iload_n 1, 1, 0, 0)) rfl 146 [some (.ref r0), some (.int x1), some (.int x2), some (.int x3), some (.int x4), some (.int x5)] [.int x1, .int (nI 301), .ref f1] rfl ⟨rfl, rfl, rfl, rfl⟩ ?_
    refine Wp.go (x := (.imul, 1, 0, 0)) rfl 147 [some (.ref r0), some (.int x1), some (.int x2), some (.int x3), some (.int x4), some (.int x5)] [.int ((nI 301) * x1), .ref f1] rfl ⟨rfl, rfl, rfl, rfl⟩ ?_
    refine Wp.go (x := (.iload 5, 2, 0, 0)) rfl 149 [some (.ref r0), some (.int x1), some (.int x2), some (.int x3), some (.int x4), some (.int x5)] [.int x5, .int ((nI 301) * x1), .ref f1] rfl ⟨rfl, rfl, rfl, rfl⟩ ?_
    refine Wp.go (x := (.iadd, 1, 0, 0)) rfl 150 [some (.ref r0), some (.int x1), some (.int x2), some (.int x3), some (.int x4), some (.int x5)] [.int (((nI 301) * x1) + x5), .ref f1] rfl ⟨rfl, rfl, rfl, rfl⟩ ?_
    refine Wp.go (x := (.iload_n 3, 1, 0, 0)) rfl 151 [some (.ref r0), some (.int x1), some (.int x2), some (.int x3), some (.int x4), some (.int x5)] [.int x3, .int (((nI 301) * x1) + x5), .ref f1] rfl ⟨rfl, rfl, rfl, rfl⟩ ?_
    obtain ⟨j2, e, b, H⟩ := H
    refine Wp.ast rfl rfl hn_f1 (hK hn_f1) ⟨j2, e, b, ?_⟩
    refine Wp.ii (v := nI 1) rfl rfl (by decide) rfl (L' := [some (.ref r0), some (.int x1), some (.int x2), some (.int x3), some (.int x4), some (.int (x5 + nI 1))]) rfl ?_
    refine Wp.go (x := (.goto (-24), 3, 131, 0)) rfl 131 [some (.ref r0), some (.int x1), some (.int x2), some (.int x3), some (.int x4), some (.int (x5 + nI 1))] [] rfl ⟨rfl, rfl, rfl, rfl⟩ ?_
    exact H
set_option maxRecDepth 20000 in
theorem wX11_layOut_181 {d : Nat} {Q : Option Value × xS → Prop} {K : Nat → Nat × Nat} {P : List Nat × Nat × Nat} {I : Nat → Nat → Int32} {J : Nat → Nat → Int64} {F : Nat → Nat → Option Nat} {r0 : Nat} {x1 : Int32} {x3 : Int32} {n_r0 : Nat} {f1 : Nat} {n_f1 : Nat} (hK : ∀ {a k n : Nat}, K a = (k, n) → n < 2147483648) (hn_r0 : K r0 = (10, n_r0)) (hf1 : F r0 20 = some f1) (hn_f1 : K f1 = (100, n_f1)) (H : (((nI 300) < x3 → Wp d 107 75 [some (.ref r0), some (.int (x1 + nI 1)), none, none, none, none] [] (K, P, I, J, F) Q) ∧ (¬ (nI 300) < x3 → (∃ j2 : Nat, (((nI 301) * x1) + x3) = nI j2 ∧ j2 < n_f1 ∧ Wp d 107 181 [some (.ref r0), some (.int x1), none, some (.int (x3 + nI 1)), none, none] [] (K, P, (xup I f1 j2 (nI 0)), J, F) Q)))) : Wp d 107 181 [some (.ref r0), some (.int x1), none, some (.int x3), none, none] [] (K, P, I, J, F) Q := by
  refine Wp.go (x := (.iload_n 3, 1, 0, 0)) rfl 182 [some (.ref r0), some (.int x1), none, some (.int x3), none, none] [.int x3] rfl ⟨rfl, rfl, rfl, rfl⟩ ?_
  refine Wp.sp (v := nI 300) rfl rfl (by decide) ?_
  refine Wp.c_gt rfl rfl ⟨fun c => ?_, fun c => ?_⟩
  · have H := H.1 c
    refine Wp.ii (v := nI 1) rfl rfl (by decide) rfl (L' := [some (.ref r0), some (.int (x1 + nI 1)), none, some (.int x3), none, none]) rfl ?_
    refine Wp.go (x := (.goto (-135), 3, 75, 0)) rfl 75 [some (.ref r0), some (.int (x1 + nI 1)), none, some (.int x3), none, none] [] rfl ⟨rfl, rfl, rfl, rfl⟩ ?_
    exact Wp.wk (L := [some (.ref r0), some (.int (x1 + nI 1)), none, none, none, none]) ⟨Or.inr rfl, Or.inr rfl, Or.inr rfl, Or.inl rfl, Or.inr rfl, Or.inr rfl, trivial⟩ H
  · have H := H.2 c
    refine Wp.go (x := (.aload_n 0, 1, 0, 0)) rfl 189 [some (.ref r0), some (.int x1), none, some (.int x3), none, none] [.ref r0] rfl ⟨rfl, rfl, rfl, rfl⟩ ?_
    refine Wp.gR rfl rfl hn_r0 rfl rfl hf1 ?_
    refine Wp.sp (v := nI 301) rfl rfl (by decide) ?_
    refine Wp.go (x := (.iload_n 1, 1, 0, 0)) rfl 196 [some (.ref r0), some (.int x1), none, some (.int x3), none, none] [.int x1, .int (nI 301), .ref f1] rfl ⟨rfl, rfl, rfl, rfl⟩ ?_
    refine Wp.go (x := (.imul, 1, 0, 0)) rfl 197 [some (.ref r0), some (.int x1), none, some (.int x3), none, none] [.int ((nI 301) * x1), .ref f1] rfl ⟨rfl, rfl, rfl, rfl⟩ ?_
    refine Wp.go (x := (.iload_n 3, 1, 0, 0)) rfl 198 [some (.ref r0), some (.int x1), none, some (.int x3), none, none] [.int x3, .int ((nI 301) * x1), .ref f1] rfl ⟨rfl, rfl, rfl, rfl⟩ ?_
    refine Wp.go (x := (.iadd, 1, 0, 0)) rfl 199 [some (.ref r0), some (.int x1), none, some (.int x3), none, none] [.int (((nI 301) * x1) + x3), .ref f1] rfl ⟨rfl, rfl, rfl, rfl⟩ ?_
    refine Wp.ic (v := nI 0) rfl rfl (by decide) ?_
    obtain ⟨j2, e, b, H⟩ := H
    refine Wp.ast rfl rfl hn_f1 (hK hn_f1) ⟨j2, e, b, ?_⟩
    refine Wp.ii (v := nI 1) rfl rfl (by decide) rfl (L' := [some (.ref r0), some (.int x1), none, some (.int (x3 + nI 1)), none, none]) rfl ?_
    refine Wp.go (x := (.goto (-23), 3, 181, 0)) rfl 181 [some (.ref r0), some (.int x1), none, some (.int (x3 + nI 1)), none, none] [] rfl ⟨rfl, rfl, rfl, rfl⟩ ?_
    exact H
set_option maxRecDepth 20000 in
theorem wX11_longestCopy_0 {d : Nat} {Q : Option Value × xS → Prop} {K : Nat → Nat × Nat} {P : List Nat × Nat × Nat} {I : Nat → Nat → Int32} {J : Nat → Nat → Int64} {F : Nat → Nat → Option Nat} {r0 : Nat} {x1 : Int32} {n_r0 : Nat} (hn_r0 : K r0 = (10, n_r0)) (H : Wp d 100 0 [some (.ref r0)] [] (K, P, I, J, F) (xrI K P F (fun v1 I2 J3 => Wp (d + 1) 108 5 [some (.ref r0), some (.int x1), some (.int v1)] [] (K, P, I2, J3, F) Q))) : Wp (d + 1) 108 0 [some (.ref r0), some (.int x1), none] [] (K, P, I, J, F) Q := by
  refine Wp.go (x := (.aload_n 0, 1, 0, 0)) rfl 1 [some (.ref r0), some (.int x1), none] [.ref r0] rfl ⟨rfl, rfl, rfl, rfl⟩ ?_
  refine Wp.kI (x := (.invokevirtual 149, 3, 100, 1)) (j := 100) (vs := [.ref r0]) (rest := []) rfl (by show xtg 100 (K r0).1 = _; rw [hn_r0]; rfl) rfl ⟨Nat.le_of_ble_eq_true rfl, Nat.le_of_ble_eq_true rfl, Nat.le_of_ble_eq_true rfl⟩ rfl rfl rfl H (fun v1 I2 J3 H => ?_)
  refine Wp.go (x := (.istore_n 2, 1, 0, 0)) rfl 5 [some (.ref r0), some (.int x1), some (.int v1)] [] rfl ⟨rfl, rfl, rfl, rfl⟩ ?_
  exact H
set_option maxRecDepth 20000 in
theorem wX11_longestCopy_5 {d : Nat} {Q : Option Value × xS → Prop} {K : Nat → Nat × Nat} {P : List Nat × Nat × Nat} {I : Nat → Nat → Int32} {J : Nat → Nat → Int64} {F : Nat → Nat → Option Nat} {r0 : Nat} {x1 : Int32} {x2 : Int32} {n_r0 : Nat} {f7 : Nat} {n_f7 : Nat} (hK : ∀ {a k n : Nat}, K a = (k, n) → n < 2147483648) (hn_r0 : K r0 = (10, n_r0)) (hf7 : F r0 20 = some f7) (hn_f7 : K f7 = (100, n_f7)) (H : Wp d 99 0 [some (.ref r0)] [] (K, P, I, J, F) (xrI K P F (fun v1 I2 J3 => ((x2 < v1 → Wp d 99 0 [some (.ref r0)] [] (K, P, I2, J3, F) (xrI K P F (fun v4 I5 J6 => ((v4 ≤ x2 → Q (some (.int x2), (K, P, I5, J6, F))) ∧ (¬ v4 ≤ x2 → Q (some (.int (nI 0)), (K, P, I5, J6, F))))))) ∧ (¬ x2 < v1 → (∃ j8 : Nat, (((nI 301) * x1) + x2) = nI j8 ∧ j8 < n_f7 ∧ ((¬ (I2 f7 j8) = 0 → Wp d 99 0 [some (.ref r0)] [] (K, P, I2, J3, F) (xrI K P F (fun v9 I10 J11 => ((v9 ≤ x2 → Q (some (.int x2), (K, P, I10, J11, F))) ∧ (¬ v9 ≤ x2 → Q (some (.int (nI 0)), (K, P, I10, J11, F))))))) ∧ ((I2 f7 j8) = 0 → Wp (d + 1) 108 5 [some (.ref r0), some (.int x1), some (.int (x2 + (-1)))] [] (K, P, I2, J3, F) Q)))))))) : Wp (d + 1) 108 5 [some (.ref r0), some (.int x1), some (.int x2)] [] (K, P, I, J, F) Q := by
  refine Wp.go (x := (.iload_n 2, 1, 0, 0)) rfl 6 [some (.ref r0), some (.int x1), some (.int x2)] [.int x2] rfl ⟨rfl, rfl, rfl, rfl⟩ ?_
  refine Wp.go (x := (.aload_n 0, 1, 0, 0)) rfl 7 [some (.ref r0), some (.int x1), some (.int x2)] [.ref r0, .int x2] rfl ⟨rfl, rfl, rfl, rfl⟩ ?_
  refine Wp.kI (x := (.invokevirtual 153, 3, 99, 1)) (j := 99) (vs := [.ref r0]) (rest := [.int x2]) rfl (by show xtg 99 (K r0).1 = _; rw [hn_r0]; rfl) rfl ⟨Nat.le_of_ble_eq_true rfl, Nat.le_of_ble_eq_true rfl, Nat.le_of_ble_eq_true rfl⟩ rfl rfl rfl H (fun v1 I2 J3 H => ?_)
  refine Wp.c_lt rfl rfl ⟨fun c => ?_, fun c => ?_⟩
  · have H := H.1 c
    refine Wp.go (x := (.iload_n 2, 1, 0, 0)) rfl 35 [some (.ref r0), some (.int x1), some (.int x2)] [.int x2] rfl ⟨rfl, rfl, rfl, rfl⟩ ?_
    refine Wp.go (x := (.aload_n 0, 1, 0, 0)) rfl 36 [some (.ref r0), some (.int x1), some (.int x2)] [.ref r0, .int x2] rfl ⟨rfl, rfl, rfl, rfl⟩ ?_
    refine Wp.kI (x := (.invokevirtual 153, 3, 99, 1)) (j := 99) (vs := [.ref r0]) (rest := [.int x2]) rfl (by show xtg 99 (K r0).1 = _; rw [hn_r0]; rfl) rfl ⟨Nat.le_of_ble_eq_true rfl, Nat.le_of_ble_eq_true rfl, Nat.le_of_ble_eq_true rfl⟩ rfl rfl rfl H (fun v4 I5 J6 H => ?_)
    refine Wp.c_ge rfl rfl ⟨fun c => ?_, fun c => ?_⟩
    · have H := H.1 c
      refine Wp.go (x := (.iload_n 2, 1, 0, 0)) rfl 47 [some (.ref r0), some (.int x1), some (.int x2)] [.int x2] rfl ⟨rfl, rfl, rfl, rfl⟩ ?_
      exact Wp.rI rfl rfl H
    · have H := H.2 c
      refine Wp.ic (v := nI 0) rfl rfl (by decide) ?_
      refine Wp.go (x := (.goto 4, 3, 47, 0)) rfl 47 [some (.ref r0), some (.int x1), some (.int x2)] [.int (nI 0)] rfl ⟨rfl, rfl, rfl, rfl⟩ ?_
      exact Wp.rI rfl rfl H
  · have H := H.2 c
    refine Wp.go (x := (.aload_n 0, 1, 0, 0)) rfl 14 [some (.ref r0), some (.int x1), some (.int x2)] [.ref r0] rfl ⟨rfl, rfl, rfl, rfl⟩ ?_
    refine Wp.gR rfl rfl hn_r0 rfl rfl hf7 ?_
    refine Wp.sp (v := nI 301) rfl rfl (by decide) ?_
    refine Wp.go (x := (.iload_n 1, 1, 0, 0)) rfl 21 [some (.ref r0), some (.int x1), some (.int x2)] [.int x1, .int (nI 301), .ref f7] rfl ⟨rfl, rfl, rfl, rfl⟩ ?_
    refine Wp.go (x := (.imul, 1, 0, 0)) rfl 22 [some (.ref r0), some (.int x1), some (.int x2)] [.int ((nI 301) * x1), .ref f7] rfl ⟨rfl, rfl, rfl, rfl⟩ ?_
    refine Wp.go (x := (.iload_n 2, 1, 0, 0)) rfl 23 [some (.ref r0), some (.int x1), some (.int x2)] [.int x2, .int ((nI 301) * x1), .ref f7] rfl ⟨rfl, rfl, rfl, rfl⟩ ?_
    refine Wp.go (x := (.iadd, 1, 0, 0)) rfl 24 [some (.ref r0), some (.int x1), some (.int x2)] [.int (((nI 301) * x1) + x2), .ref f7] rfl ⟨rfl, rfl, rfl, rfl⟩ ?_
    obtain ⟨j8, e, b, H⟩ := H
    refine Wp.ald rfl rfl hn_f7 (Or.inl rfl) (hK hn_f7) ⟨j8, e, b, ?_⟩
    refine Wp.z_ne rfl rfl ⟨fun c => ?_, fun c => ?_⟩
    · have H := H.1 c
      refine Wp.go (x := (.iload_n 2, 1, 0, 0)) rfl 35 [some (.ref r0), some (.int x1), some (.int x2)] [.int x2] rfl ⟨rfl, rfl, rfl, rfl⟩ ?_
      refine Wp.go (x := (.aload_n 0, 1, 0, 0)) rfl 36 [some (.ref r0), some (.int x1), some (.int x2)] [.ref r0, .int x2] rfl ⟨rfl, rfl, rfl, rfl⟩ ?_
      refine Wp.kI (x := (.invokevirtual 153, 3, 99, 1)) (j := 99) (vs := [.ref r0]) (rest := [.int x2]) rfl (by show xtg 99 (K r0).1 = _; rw [hn_r0]; rfl) rfl ⟨Nat.le_of_ble_eq_true rfl, Nat.le_of_ble_eq_true rfl, Nat.le_of_ble_eq_true rfl⟩ rfl rfl rfl H (fun v9 I10 J11 H => ?_)
      refine Wp.c_ge rfl rfl ⟨fun c => ?_, fun c => ?_⟩
      · have H := H.1 c
        refine Wp.go (x := (.iload_n 2, 1, 0, 0)) rfl 47 [some (.ref r0), some (.int x1), some (.int x2)] [.int x2] rfl ⟨rfl, rfl, rfl, rfl⟩ ?_
        exact Wp.rI rfl rfl H
      · have H := H.2 c
        refine Wp.ic (v := nI 0) rfl rfl (by decide) ?_
        refine Wp.go (x := (.goto 4, 3, 47, 0)) rfl 47 [some (.ref r0), some (.int x1), some (.int x2)] [.int (nI 0)] rfl ⟨rfl, rfl, rfl, rfl⟩ ?_
        exact Wp.rI rfl rfl H
    · have H := H.2 c
      refine Wp.ii (v := (-1)) rfl rfl (by decide) rfl (L' := [some (.ref r0), some (.int x1), some (.int (x2 + (-1)))]) rfl ?_
      refine Wp.go (x := (.goto (-26), 3, 5, 0)) rfl 5 [some (.ref r0), some (.int x1), some (.int (x2 + (-1)))] [] rfl ⟨rfl, rfl, rfl, rfl⟩ ?_
      exact H
set_option maxRecDepth 20000 in
theorem wX11_longestAgain_0 {d : Nat} {Q : Option Value × xS → Prop} {K : Nat → Nat × Nat} {P : List Nat × Nat × Nat} {I : Nat → Nat → Int32} {J : Nat → Nat → Int64} {F : Nat → Nat → Option Nat} {r0 : Nat} {x1 : Int32} {x2 : Int32} {n_r0 : Nat} {f1 : Nat} {n_f1 : Nat} (hK : ∀ {a k n : Nat}, K a = (k, n) → n < 2147483648) (hn_r0 : K r0 = (10, n_r0)) (hf1 : F r0 19 = some f1) (hn_f1 : K f1 = (100, n_f1)) (H : ((x2 ≤ x1 → (∃ j2 : Nat, (((nI 301) * x1) + x2) = nI j2 ∧ j2 < n_f1 ∧ Wp d 109 21 [some (.ref r0), none, none, none] [.int (I f1 j2)] (K, P, I, J, F) Q)) ∧ (¬ x2 ≤ x1 → Wp d 109 21 [some (.ref r0), none, none, none] [.int (nI 0)] (K, P, I, J, F) Q))) : Wp d 109 0 [some (.ref r0), some (.int x1), some (.int x2), none] [] (K, P, I, J, F) Q := by
  refine Wp.go (x := (.iload_n 2, 1, 0, 0)) rfl 1 [some (.ref r0), some (.int x1), some (.int x2), none] [.int x2] rfl ⟨rfl, rfl, rfl, rfl⟩ ?_
  refine Wp.go (x := (.iload_n 1, 1, 0, 0)) rfl 2 [some (.ref r0), some (.int x1), some (.int x2), none] [.int x1, .int x2] rfl ⟨rfl, rfl, rfl, rfl⟩ ?_
  refine Wp.c_le rfl rfl ⟨fun c => ?_, fun c => ?_⟩
  · have H := H.1 c
    refine Wp.go (x := (.aload_n 0, 1, 0, 0)) rfl 10 [some (.ref r0), some (.int x1), some (.int x2), none] [.ref r0] rfl ⟨rfl, rfl, rfl, rfl⟩ ?_
    refine Wp.gR rfl rfl hn_r0 rfl rfl hf1 ?_
    refine Wp.sp (v := nI 301) rfl rfl (by decide) ?_
    refine Wp.go (x := (.iload_n 1, 1, 0, 0)) rfl 17 [some (.ref r0), some (.int x1), some (.int x2), none] [.int x1, .int (nI 301), .ref f1] rfl ⟨rfl, rfl, rfl, rfl⟩ ?_
    refine Wp.go (x := (.imul, 1, 0, 0)) rfl 18 [some (.ref r0), some (.int x1), some (.int x2), none] [.int ((nI 301) * x1), .ref f1] rfl ⟨rfl, rfl, rfl, rfl⟩ ?_
    refine Wp.go (x := (.iload_n 2, 1, 0, 0)) rfl 19 [some (.ref r0), some (.int x1), some (.int x2), none] [.int x2, .int ((nI 301) * x1), .ref f1] rfl ⟨rfl, rfl, rfl, rfl⟩ ?_
    refine Wp.go (x := (.iadd, 1, 0, 0)) rfl 20 [some (.ref r0), some (.int x1), some (.int x2), none] [.int (((nI 301) * x1) + x2), .ref f1] rfl ⟨rfl, rfl, rfl, rfl⟩ ?_
    obtain ⟨j2, e, b, H⟩ := H
    refine Wp.ald rfl rfl hn_f1 (Or.inl rfl) (hK hn_f1) ⟨j2, e, b, ?_⟩
    exact Wp.wk (L := [some (.ref r0), none, none, none]) ⟨Or.inr rfl, Or.inl rfl, Or.inl rfl, Or.inr rfl, trivial⟩ H
  · have H := H.2 c
    refine Wp.ic (v := nI 0) rfl rfl (by decide) ?_
    refine Wp.go (x := (.goto 15, 3, 21, 0)) rfl 21 [some (.ref r0), some (.int x1), some (.int x2), none] [.int (nI 0)] rfl ⟨rfl, rfl, rfl, rfl⟩ ?_
    exact Wp.wk (L := [some (.ref r0), none, none, none]) ⟨Or.inr rfl, Or.inl rfl, Or.inl rfl, Or.inr rfl, trivial⟩ H
set_option maxRecDepth 20000 in
theorem wX11_longestAgain_21 {d : Nat} {Q : Option Value × xS → Prop} {K : Nat → Nat × Nat} {P : List Nat × Nat × Nat} {I : Nat → Nat → Int32} {J : Nat → Nat → Int64} {F : Nat → Nat → Option Nat} {r0 : Nat} {s0 : Int32} {n_r0 : Nat} (hn_r0 : K r0 = (10, n_r0)) (H : Wp d 100 0 [some (.ref r0)] [] (K, P, I, J, F) (xrI K P F (fun v1 I2 J3 => ((s0 ≤ v1 → (((nI 2) ≤ s0 → Q (some (.int s0), (K, P, I2, J3, F))) ∧ (¬ (nI 2) ≤ s0 → Q (some (.int (nI 0)), (K, P, I2, J3, F))))) ∧ (¬ s0 ≤ v1 → Wp d 100 0 [some (.ref r0)] [] (K, P, I2, J3, F) (xrI K P F (fun v4 I5 J6 => (((nI 2) ≤ v4 → Q (some (.int v4), (K, P, I5, J6, F))) ∧ (¬ (nI 2) ≤ v4 → Q (some (.int (nI 0)), (K, P, I5, J6, F))))))))))) : Wp (d + 1) 109 21 [some (.ref r0), none, none, none] [.int s0] (K, P, I, J, F) Q := by
  refine Wp.go (x := (.istore_n 3, 1, 0, 0)) rfl 22 [some (.ref r0), none, none, some (.int s0)] [] rfl ⟨rfl, rfl, rfl, rfl⟩ ?_
  refine Wp.go (x := (.iload_n 3, 1, 0, 0)) rfl 23 [some (.ref r0), none, none, some (.int s0)] [.int s0] rfl ⟨rfl, rfl, rfl, rfl⟩ ?_
  refine Wp.go (x := (.aload_n 0, 1, 0, 0)) rfl 24 [some (.ref r0), none, none, some (.int s0)] [.ref r0, .int s0] rfl ⟨rfl, rfl, rfl, rfl⟩ ?_
  refine Wp.kI (x := (.invokevirtual 149, 3, 100, 1)) (j := 100) (vs := [.ref r0]) (rest := [.int s0]) rfl (by show xtg 100 (K r0).1 = _; rw [hn_r0]; rfl) rfl ⟨Nat.le_of_ble_eq_true rfl, Nat.le_of_ble_eq_true rfl, Nat.le_of_ble_eq_true rfl⟩ rfl rfl rfl H (fun v1 I2 J3 H => ?_)
  refine Wp.c_le rfl rfl ⟨fun c => ?_, fun c => ?_⟩
  · have H := H.1 c
    refine Wp.go (x := (.iload_n 3, 1, 0, 0)) rfl 38 [some (.ref r0), none, none, some (.int s0)] [.int s0] rfl ⟨rfl, rfl, rfl, rfl⟩ ?_
    refine Wp.go (x := (.istore_n 3, 1, 0, 0)) rfl 39 [some (.ref r0), none, none, some (.int s0)] [] rfl ⟨rfl, rfl, rfl, rfl⟩ ?_
    refine Wp.go (x := (.iload_n 3, 1, 0, 0)) rfl 40 [some (.ref r0), none, none, some (.int s0)] [.int s0] rfl ⟨rfl, rfl, rfl, rfl⟩ ?_
    refine Wp.ic (v := nI 2) rfl rfl (by decide) ?_
    refine Wp.c_ge rfl rfl ⟨fun c => ?_, fun c => ?_⟩
    · have H := H.1 c
      refine Wp.go (x := (.iload_n 3, 1, 0, 0)) rfl 49 [some (.ref r0), none, none, some (.int s0)] [.int s0] rfl ⟨rfl, rfl, rfl, rfl⟩ ?_
      exact Wp.rI rfl rfl H
    · have H := H.2 c
      refine Wp.ic (v := nI 0) rfl rfl (by decide) ?_
      refine Wp.go (x := (.goto 4, 3, 49, 0)) rfl 49 [some (.ref r0), none, none, some (.int s0)] [.int (nI 0)] rfl ⟨rfl, rfl, rfl, rfl⟩ ?_
      exact Wp.rI rfl rfl H
  · have H := H.2 c
    refine Wp.go (x := (.aload_n 0, 1, 0, 0)) rfl 31 [some (.ref r0), none, none, some (.int s0)] [.ref r0] rfl ⟨rfl, rfl, rfl, rfl⟩ ?_
    refine Wp.kI (x := (.invokevirtual 149, 3, 100, 1)) (j := 100) (vs := [.ref r0]) (rest := []) rfl (by show xtg 100 (K r0).1 = _; rw [hn_r0]; rfl) rfl ⟨Nat.le_of_ble_eq_true rfl, Nat.le_of_ble_eq_true rfl, Nat.le_of_ble_eq_true rfl⟩ rfl rfl rfl H (fun v4 I5 J6 H => ?_)
    refine Wp.go (x := (.goto 4, 3, 38, 0)) rfl 38 [some (.ref r0), none, none, some (.int s0)] [.int v4] rfl ⟨rfl, rfl, rfl, rfl⟩ ?_
    refine Wp.go (x := (.istore_n 3, 1, 0, 0)) rfl 39 [some (.ref r0), none, none, some (.int v4)] [] rfl ⟨rfl, rfl, rfl, rfl⟩ ?_
    refine Wp.go (x := (.iload_n 3, 1, 0, 0)) rfl 40 [some (.ref r0), none, none, some (.int v4)] [.int v4] rfl ⟨rfl, rfl, rfl, rfl⟩ ?_
    refine Wp.ic (v := nI 2) rfl rfl (by decide) ?_
    refine Wp.c_ge rfl rfl ⟨fun c => ?_, fun c => ?_⟩
    · have H := H.1 c
      refine Wp.go (x := (.iload_n 3, 1, 0, 0)) rfl 49 [some (.ref r0), none, none, some (.int v4)] [.int v4] rfl ⟨rfl, rfl, rfl, rfl⟩ ?_
      exact Wp.rI rfl rfl H
    · have H := H.2 c
      refine Wp.ic (v := nI 0) rfl rfl (by decide) ?_
      refine Wp.go (x := (.goto 4, 3, 49, 0)) rfl 49 [some (.ref r0), none, none, some (.int v4)] [.int (nI 0)] rfl ⟨rfl, rfl, rfl, rfl⟩ ?_
      exact Wp.rI rfl rfl H
set_option maxRecDepth 20000 in
theorem wX11_high_0 {d : Nat} {Q : Option Value × xS → Prop} {K : Nat → Nat × Nat} {P : List Nat × Nat × Nat} {I : Nat → Nat → Int32} {J : Nat → Nat → Int64} {F : Nat → Nat → Option Nat} {x0 : Int32}  (H : Wp d 110 2 [some (.int x0), some (.int (nI 0))] [] (K, P, I, J, F) Q) : Wp d 110 0 [some (.int x0), none] [] (K, P, I, J, F) Q := by
  refine Wp.ic (v := nI 0) rfl rfl (by decide) ?_
  refine Wp.go (x := (.istore_n 1, 1, 0, 0)) rfl 2 [some (.int x0), some (.int (nI 0))] [] rfl ⟨rfl, rfl, rfl, rfl⟩ ?_
  exact H
set_option maxRecDepth 20000 in
theorem wX11_high_2 {d : Nat} {Q : Option Value × xS → Prop} {K : Nat → Nat × Nat} {P : List Nat × Nat × Nat} {I : Nat → Nat → Int32} {J : Nat → Nat → Int64} {F : Nat → Nat → Option Nat} {x0 : Int32} {x1 : Int32}  (H : (((x0 >>> ((x1 + (nI 1)) &&& 31)) ≤ 0 → Q (some (.int x1), (K, P, I, J, F))) ∧ (¬ (x0 >>> ((x1 + (nI 1)) &&& 31)) ≤ 0 → Wp d 110 2 [some (.int x0), some (.int (x1 + nI 1))] [] (K, P, I, J, F) Q))) : Wp d 110 2 [some (.int x0), some (.int x1)] [] (K, P, I, J, F) Q := by
  refine Wp.go (x := (.iload_n 0, 1, 0, 0)) rfl 3 [some (.int x0), some (.int x1)] [.int x0] rfl ⟨rfl, rfl, rfl, rfl⟩ ?_
  refine Wp.go (x := (.iload_n 1, 1, 0, 0)) rfl 4 [some (.int x0), some (.int x1)] [.int x1, .int x0] rfl ⟨rfl, rfl, rfl, rfl⟩ ?_
  refine Wp.ic (v := nI 1) rfl rfl (by decide) ?_
  refine Wp.go (x := (.iadd, 1, 0, 0)) rfl 6 [some (.int x0), some (.int x1)] [.int (x1 + (nI 1)), .int x0] rfl ⟨rfl, rfl, rfl, rfl⟩ ?_
  refine Wp.go (x := (.ishr, 1, 0, 0)) rfl 7 [some (.int x0), some (.int x1)] [.int (x0 >>> ((x1 + (nI 1)) &&& 31))] rfl ⟨rfl, rfl, rfl, rfl⟩ ?_
  refine Wp.z_le rfl rfl ⟨fun c => ?_, fun c => ?_⟩
  · have H := H.1 c
    refine Wp.go (x := (.iload_n 1, 1, 0, 0)) rfl 17 [some (.int x0), some (.int x1)] [.int x1] rfl ⟨rfl, rfl, rfl, rfl⟩ ?_
    exact Wp.rI rfl rfl H
  · have H := H.2 c
    refine Wp.ii (v := nI 1) rfl rfl (by decide) rfl (L' := [some (.int x0), some (.int (x1 + nI 1))]) rfl ?_
    refine Wp.go (x := (.goto (-11), 3, 2, 0)) rfl 2 [some (.int x0), some (.int (x1 + nI 1))] [] rfl ⟨rfl, rfl, rfl, rfl⟩ ?_
    exact H
set_option maxRecDepth 20000 in
theorem wX11_lengthSlot_0 {d : Nat} {Q : Option Value × xS → Prop} {K : Nat → Nat × Nat} {P : List Nat × Nat × Nat} {I : Nat → Nat → Int32} {J : Nat → Nat → Int64} {F : Nat → Nat → Option Nat} {x0 : Int32}  (H : Wp d 110 0 [some (.int x0), none] [] (K, P, I, J, F) (xrI K P F (fun v1 I2 J3 => (((nI 8) ≤ x0 → Q (some (.int (((nI 4) * (v1 - (nI 1))) + ((x0 >>> ((v1 - (nI 2)) &&& 31)) &&& (nI 3)))), (K, P, I2, J3, F))) ∧ (¬ (nI 8) ≤ x0 → Q (some (.int x0), (K, P, I2, J3, F))))))) : Wp (d + 1) 111 0 [some (.int x0), none] [] (K, P, I, J, F) Q := by
  refine Wp.go (x := (.iload_n 0, 1, 0, 0)) rfl 1 [some (.int x0), none] [.int x0] rfl ⟨rfl, rfl, rfl, rfl⟩ ?_
  refine Wp.kI (x := (.invokestatic 156, 3, 110, 1)) (j := 110) (vs := [.int x0]) (rest := []) rfl rfl rfl ⟨Nat.le_of_ble_eq_true rfl, Nat.le_of_ble_eq_true rfl, Nat.le_of_ble_eq_true rfl⟩ rfl rfl rfl H (fun v1 I2 J3 H => ?_)
  refine Wp.go (x := (.istore_n 1, 1, 0, 0)) rfl 5 [some (.int x0), some (.int v1)] [] rfl ⟨rfl, rfl, rfl, rfl⟩ ?_
  refine Wp.go (x := (.iload_n 0, 1, 0, 0)) rfl 6 [some (.int x0), some (.int v1)] [.int x0] rfl ⟨rfl, rfl, rfl, rfl⟩ ?_
  refine Wp.bp (v := nI 8) rfl rfl (by decide) ?_
  refine Wp.c_ge rfl rfl ⟨fun c => ?_, fun c => ?_⟩
  · have H := H.1 c
    refine Wp.ic (v := nI 4) rfl rfl (by decide) ?_
    refine Wp.go (x := (.iload_n 1, 1, 0, 0)) rfl 17 [some (.int x0), some (.int v1)] [.int v1, .int (nI 4)] rfl ⟨rfl, rfl, rfl, rfl⟩ ?_
    refine Wp.ic (v := nI 1) rfl rfl (by decide) ?_
    refine Wp.go (x := (.isub, 1, 0, 0)) rfl 19 [some (.int x0), some (.int v1)] [.int (v1 - (nI 1)), .int (nI 4)] rfl ⟨rfl, rfl, rfl, rfl⟩ ?_
    refine Wp.go (x := (.imul, 1, 0, 0)) rfl 20 [some (.int x0), some (.int v1)] [.int ((nI 4) * (v1 - (nI 1)))] rfl ⟨rfl, rfl, rfl, rfl⟩ ?_
    refine Wp.go (x := (.iload_n 0, 1, 0, 0)) rfl 21 [some (.int x0), some (.int v1)] [.int x0, .int ((nI 4) * (v1 - (nI 1)))] rfl ⟨rfl, rfl, rfl, rfl⟩ ?_
    refine Wp.go (x := (.iload_n 1, 1, 0, 0)) rfl 22 [some (.int x0), some (.int v1)] [.int v1, .int x0, .int ((nI 4) * (v1 - (nI 1)))] rfl ⟨rfl, rfl, rfl, rfl⟩ ?_
    refine Wp.ic (v := nI 2) rfl rfl (by decide) ?_
    refine Wp.go (x := (.isub, 1, 0, 0)) rfl 24 [some (.int x0), some (.int v1)] [.int (v1 - (nI 2)), .int x0, .int ((nI 4) * (v1 - (nI 1)))] rfl ⟨rfl, rfl, rfl, rfl⟩ ?_
    refine Wp.go (x := (.ishr, 1, 0, 0)) rfl 25 [some (.int x0), some (.int v1)] [.int (x0 >>> ((v1 - (nI 2)) &&& 31)), .int ((nI 4) * (v1 - (nI 1)))] rfl ⟨rfl, rfl, rfl, rfl⟩ ?_
    refine Wp.ic (v := nI 3) rfl rfl (by decide) ?_
    refine Wp.go (x := (.iand, 1, 0, 0)) rfl 27 [some (.int x0), some (.int v1)] [.int ((x0 >>> ((v1 - (nI 2)) &&& 31)) &&& (nI 3)), .int ((nI 4) * (v1 - (nI 1)))] rfl ⟨rfl, rfl, rfl, rfl⟩ ?_
    refine Wp.go (x := (.iadd, 1, 0, 0)) rfl 28 [some (.int x0), some (.int v1)] [.int (((nI 4) * (v1 - (nI 1))) + ((x0 >>> ((v1 - (nI 2)) &&& 31)) &&& (nI 3)))] rfl ⟨rfl, rfl, rfl, rfl⟩ ?_
    exact Wp.rI rfl rfl H
  · have H := H.2 c
    refine Wp.go (x := (.iload_n 0, 1, 0, 0)) rfl 12 [some (.int x0), some (.int v1)] [.int x0] rfl ⟨rfl, rfl, rfl, rfl⟩ ?_
    refine Wp.go (x := (.goto 16, 3, 28, 0)) rfl 28 [some (.int x0), some (.int v1)] [.int x0] rfl ⟨rfl, rfl, rfl, rfl⟩ ?_
    exact Wp.rI rfl rfl H
set_option maxRecDepth 20000 in
theorem wX11_lengthBits_0 {d : Nat} {Q : Option Value × xS → Prop} {K : Nat → Nat × Nat} {P : List Nat × Nat × Nat} {I : Nat → Nat → Int32} {J : Nat → Nat → Int64} {F : Nat → Nat → Option Nat} {x0 : Int32}  (H : (((nI 8) ≤ x0 → Wp d 110 0 [some (.int x0), none] [] (K, P, I, J, F) (xrI K P F (fun v1 I2 J3 => Q (some (.int (v1 - (nI 2))), (K, P, I2, J3, F))))) ∧ (¬ (nI 8) ≤ x0 → Q (some (.int (nI 0)), (K, P, I, J, F))))) : Wp (d + 1) 112 0 [some (.int x0)] [] (K, P, I, J, F) Q := by
  refine Wp.go (x := (.iload_n 0, 1, 0, 0)) rfl 1 [some (.int x0)] [.int x0] rfl ⟨rfl, rfl, rfl, rfl⟩ ?_
  refine Wp.bp (v := nI 8) rfl rfl (by decide) ?_
  refine Wp.c_ge rfl rfl ⟨fun c => ?_, fun c => ?_⟩
  · have H := H.1 c
    refine Wp.go (x := (.iload_n 0, 1, 0, 0)) rfl 11 [some (.int x0)] [.int x0] rfl ⟨rfl, rfl, rfl, rfl⟩ ?_
    refine Wp.kI (x := (.invokestatic 156, 3, 110, 1)) (j := 110) (vs := [.int x0]) (rest := []) rfl rfl rfl ⟨Nat.le_of_ble_eq_true rfl, Nat.le_of_ble_eq_true rfl, Nat.le_of_ble_eq_true rfl⟩ rfl rfl rfl H (fun v1 I2 J3 H => ?_)
    refine Wp.ic (v := nI 2) rfl rfl (by decide) ?_
    refine Wp.go (x := (.isub, 1, 0, 0)) rfl 16 [some (.int x0)] [.int (v1 - (nI 2))] rfl ⟨rfl, rfl, rfl, rfl⟩ ?_
    exact Wp.rI rfl rfl H
  · have H := H.2 c
    refine Wp.ic (v := nI 0) rfl rfl (by decide) ?_
    refine Wp.go (x := (.goto 9, 3, 16, 0)) rfl 16 [some (.int x0)] [.int (nI 0)] rfl ⟨rfl, rfl, rfl, rfl⟩ ?_
    exact Wp.rI rfl rfl H
set_option maxRecDepth 20000 in
theorem wX11_distanceSlot_0 {d : Nat} {Q : Option Value × xS → Prop} {K : Nat → Nat × Nat} {P : List Nat × Nat × Nat} {I : Nat → Nat → Int32} {J : Nat → Nat → Int64} {F : Nat → Nat → Option Nat} {x0 : Int32}  (H : Wp d 110 0 [some (.int x0), none] [] (K, P, I, J, F) (xrI K P F (fun v1 I2 J3 => (((nI 4) ≤ x0 → Q (some (.int (((nI 2) * v1) + ((x0 >>> ((v1 - (nI 1)) &&& 31)) &&& (nI 1)))), (K, P, I2, J3, F))) ∧ (¬ (nI 4) ≤ x0 → Q (some (.int x0), (K, P, I2, J3, F))))))) : Wp (d + 1) 113 0 [some (.int x0), none] [] (K, P, I, J, F) Q := by
  refine Wp.go (x := (.iload_n 0, 1, 0, 0)) rfl 1 [some (.int x0), none] [.int x0] rfl ⟨rfl, rfl, rfl, rfl⟩ ?_
  refine Wp.kI (x := (.invokestatic 156, 3, 110, 1)) (j := 110) (vs := [.int x0]) (rest := []) rfl rfl rfl ⟨Nat.le_of_ble_eq_true rfl, Nat.le_of_ble_eq_true rfl, Nat.le_of_ble_eq_true rfl⟩ rfl rfl rfl H (fun v1 I2 J3 H => ?_)
  refine Wp.go (x := (.istore_n 1, 1, 0, 0)) rfl 5 [some (.int x0), some (.int v1)] [] rfl ⟨rfl, rfl, rfl, rfl⟩ ?_
  refine Wp.go (x := (.iload_n 0, 1, 0, 0)) rfl 6 [some (.int x0), some (.int v1)] [.int x0] rfl ⟨rfl, rfl, rfl, rfl⟩ ?_
  refine Wp.ic (v := nI 4) rfl rfl (by decide) ?_
  refine Wp.c_ge rfl rfl ⟨fun c => ?_, fun c => ?_⟩
  · have H := H.1 c
    refine Wp.ic (v := nI 2) rfl rfl (by decide) ?_
    refine Wp.go (x := (.iload_n 1, 1, 0, 0)) rfl 16 [some (.int x0), some (.int v1)] [.int v1, .int (nI 2)] rfl ⟨rfl, rfl, rfl, rfl⟩ ?_
    refine Wp.go (x := (.imul, 1, 0, 0)) rfl 17 [some (.int x0), some (.int v1)] [.int ((nI 2) * v1)] rfl ⟨rfl, rfl, rfl, rfl⟩ ?_
    refine Wp.go (x := (.iload_n 0, 1, 0, 0)) rfl 18 [some (.int x0), some (.int v1)] [.int x0, .int ((nI 2) * v1)] rfl ⟨rfl, rfl, rfl, rfl⟩ ?_
    refine Wp.go (x := (.iload_n 1, 1, 0, 0)) rfl 19 [some (.int x0), some (.int v1)] [.int v1, .int x0, .int ((nI 2) * v1)] rfl ⟨rfl, rfl, rfl, rfl⟩ ?_
    refine Wp.ic (v := nI 1) rfl rfl (by decide) ?_
    refine Wp.go (x := (.isub, 1, 0, 0)) rfl 21 [some (.int x0), some (.int v1)] [.int (v1 - (nI 1)), .int x0, .int ((nI 2) * v1)] rfl ⟨rfl, rfl, rfl, rfl⟩ ?_
    refine Wp.go (x := (.ishr, 1, 0, 0)) rfl 22 [some (.int x0), some (.int v1)] [.int (x0 >>> ((v1 - (nI 1)) &&& 31)), .int ((nI 2) * v1)] rfl ⟨rfl, rfl, rfl, rfl⟩ ?_
    refine Wp.ic (v := nI 1) rfl rfl (by decide) ?_
    refine Wp.go (x := (.iand, 1, 0, 0)) rfl 24 [some (.int x0), some (.int v1)] [.int ((x0 >>> ((v1 - (nI 1)) &&& 31)) &&& (nI 1)), .int ((nI 2) * v1)] rfl ⟨rfl, rfl, rfl, rfl⟩ ?_
    refine Wp.go (x := (.iadd, 1, 0, 0)) rfl 25 [some (.int x0), some (.int v1)] [.int (((nI 2) * v1) + ((x0 >>> ((v1 - (nI 1)) &&& 31)) &&& (nI 1)))] rfl ⟨rfl, rfl, rfl, rfl⟩ ?_
    exact Wp.rI rfl rfl H
  · have H := H.2 c
    refine Wp.go (x := (.iload_n 0, 1, 0, 0)) rfl 11 [some (.int x0), some (.int v1)] [.int x0] rfl ⟨rfl, rfl, rfl, rfl⟩ ?_
    refine Wp.go (x := (.goto 14, 3, 25, 0)) rfl 25 [some (.int x0), some (.int v1)] [.int x0] rfl ⟨rfl, rfl, rfl, rfl⟩ ?_
    exact Wp.rI rfl rfl H
set_option maxRecDepth 20000 in
theorem wX11_distanceBits_0 {d : Nat} {Q : Option Value × xS → Prop} {K : Nat → Nat × Nat} {P : List Nat × Nat × Nat} {I : Nat → Nat → Int32} {J : Nat → Nat → Int64} {F : Nat → Nat → Option Nat} {x0 : Int32}  (H : (((nI 4) ≤ x0 → Wp d 110 0 [some (.int x0), none] [] (K, P, I, J, F) (xrI K P F (fun v1 I2 J3 => Q (some (.int (v1 - (nI 1))), (K, P, I2, J3, F))))) ∧ (¬ (nI 4) ≤ x0 → Q (some (.int (nI 0)), (K, P, I, J, F))))) : Wp (d + 1) 114 0 [some (.int x0)] [] (K, P, I, J, F) Q := by
  refine Wp.go (x := (.iload_n 0, 1, 0, 0)) rfl 1 [some (.int x0)] [.int x0] rfl ⟨rfl, rfl, rfl, rfl⟩ ?_
  refine Wp.ic (v := nI 4) rfl rfl (by decide) ?_
  refine Wp.c_ge rfl rfl ⟨fun c => ?_, fun c => ?_⟩
  · have H := H.1 c
    refine Wp.go (x := (.iload_n 0, 1, 0, 0)) rfl 10 [some (.int x0)] [.int x0] rfl ⟨rfl, rfl, rfl, rfl⟩ ?_
    refine Wp.kI (x := (.invokestatic 156, 3, 110, 1)) (j := 110) (vs := [.int x0]) (rest := []) rfl rfl rfl ⟨Nat.le_of_ble_eq_true rfl, Nat.le_of_ble_eq_true rfl, Nat.le_of_ble_eq_true rfl⟩ rfl rfl rfl H (fun v1 I2 J3 H => ?_)
    refine Wp.ic (v := nI 1) rfl rfl (by decide) ?_
    refine Wp.go (x := (.isub, 1, 0, 0)) rfl 15 [some (.int x0)] [.int (v1 - (nI 1))] rfl ⟨rfl, rfl, rfl, rfl⟩ ?_
    exact Wp.rI rfl rfl H
  · have H := H.2 c
    refine Wp.ic (v := nI 0) rfl rfl (by decide) ?_
    refine Wp.go (x := (.goto 9, 3, 15, 0)) rfl 15 [some (.int x0)] [.int (nI 0)] rfl ⟨rfl, rfl, rfl, rfl⟩ ?_
    exact Wp.rI rfl rfl H
set_option maxRecDepth 20000 in
theorem wX11_lengthCost_0 {d : Nat} {Q : Option Value × xS → Prop} {K : Nat → Nat × Nat} {P : List Nat × Nat × Nat} {I : Nat → Nat → Int32} {J : Nat → Nat → Int64} {F : Nat → Nat → Option Nat} {r0 : Nat} {x1 : Int32} {n_r0 : Nat} {f4 : Nat} {n_f4 : Nat} (hK : ∀ {a k n : Nat}, K a = (k, n) → n < 2147483648) (hn_r0 : K r0 = (10, n_r0)) (hf4 : F r0 4 = some f4) (hn_f4 : K f4 = (100, n_f4)) (H : Wp d 99 0 [some (.ref r0)] [] (K, P, I, J, F) (xrI K P F (fun v1 I2 J3 => Wp d 111 0 [some (.int (x1 - v1)), none] [] (K, P, I2, J3, F) (xrI K P F (fun v5 I6 J7 => (∃ j8 : Nat, ((nI 256) + v5) = nI j8 ∧ j8 < n_f4 ∧ Wp d 112 0 [some (.int (x1 - v1))] [] (K, P, I6, J7, F) (xrI K P F (fun v9 I10 J11 => Q (some (.int ((I6 f4 j8) + ((nI 64) * v9))), (K, P, I10, J11, F)))))))))) : Wp (d + 1) 115 0 [some (.ref r0), some (.int x1), none] [] (K, P, I, J, F) Q := by
  refine Wp.go (x := (.iload_n 1, 1, 0, 0)) rfl 1 [some (.ref r0), some (.int x1), none] [.int x1] rfl ⟨rfl, rfl, rfl, rfl⟩ ?_
  refine Wp.go (x := (.aload_n 0, 1, 0, 0)) rfl 2 [some (.ref r0), some (.int x1), none] [.ref r0, .int x1] rfl ⟨rfl, rfl, rfl, rfl⟩ ?_
  refine Wp.kI (x := (.invokevirtual 153, 3, 99, 1)) (j := 99) (vs := [.ref r0]) (rest := [.int x1]) rfl (by show xtg 99 (K r0).1 = _; rw [hn_r0]; rfl) rfl ⟨Nat.le_of_ble_eq_true rfl, Nat.le_of_ble_eq_true rfl, Nat.le_of_ble_eq_true rfl⟩ rfl rfl rfl H (fun v1 I2 J3 H => ?_)
  refine Wp.go (x := (.isub, 1, 0, 0)) rfl 6 [some (.ref r0), some (.int x1), none] [.int (x1 - v1)] rfl ⟨rfl, rfl, rfl, rfl⟩ ?_
  refine Wp.go (x := (.istore_n 2, 1, 0, 0)) rfl 7 [some (.ref r0), some (.int x1), some (.int (x1 - v1))] [] rfl ⟨rfl, rfl, rfl, rfl⟩ ?_
  refine Wp.go (x := (.aload_n 0, 1, 0, 0)) rfl 8 [some (.ref r0), some (.int x1), some (.int (x1 - v1))] [.ref r0] rfl ⟨rfl, rfl, rfl, rfl⟩ ?_
  refine Wp.gR rfl rfl hn_r0 rfl rfl hf4 ?_
  refine Wp.sp (v := nI 256) rfl rfl (by decide) ?_
  refine Wp.go (x := (.iload_n 2, 1, 0, 0)) rfl 15 [some (.ref r0), some (.int x1), some (.int (x1 - v1))] [.int (x1 - v1), .int (nI 256), .ref f4] rfl ⟨rfl, rfl, rfl, rfl⟩ ?_
  refine Wp.kI (x := (.invokestatic 159, 3, 111, 1)) (j := 111) (vs := [.int (x1 - v1)]) (rest := [.int (nI 256), .ref f4]) rfl rfl rfl ⟨Nat.le_of_ble_eq_true rfl, Nat.le_of_ble_eq_true rfl, Nat.le_of_ble_eq_true rfl⟩ rfl rfl rfl H (fun v5 I6 J7 H => ?_)
  refine Wp.go (x := (.iadd, 1, 0, 0)) rfl 19 [some (.ref r0), some (.int x1), some (.int (x1 - v1))] [.int ((nI 256) + v5), .ref f4] rfl ⟨rfl, rfl, rfl, rfl⟩ ?_
  obtain ⟨j8, e, b, H⟩ := H
  refine Wp.ald rfl rfl hn_f4 (Or.inl rfl) (hK hn_f4) ⟨j8, e, b, ?_⟩
  refine Wp.bp (v := nI 64) rfl rfl (by decide) ?_
  refine Wp.go (x := (.iload_n 2, 1, 0, 0)) rfl 23 [some (.ref r0), some (.int x1), some (.int (x1 - v1))] [.int (x1 - v1), .int (nI 64), .int (I6 f4 j8)] rfl ⟨rfl, rfl, rfl, rfl⟩ ?_
  refine Wp.kI (x := (.invokestatic 162, 3, 112, 1)) (j := 112) (vs := [.int (x1 - v1)]) (rest := [.int (nI 64), .int (I6 f4 j8)]) rfl rfl rfl ⟨Nat.le_of_ble_eq_true rfl, Nat.le_of_ble_eq_true rfl, Nat.le_of_ble_eq_true rfl⟩ rfl rfl rfl H (fun v9 I10 J11 H => ?_)
  refine Wp.go (x := (.imul, 1, 0, 0)) rfl 27 [some (.ref r0), some (.int x1), some (.int (x1 - v1))] [.int ((nI 64) * v9), .int (I6 f4 j8)] rfl ⟨rfl, rfl, rfl, rfl⟩ ?_
  refine Wp.go (x := (.iadd, 1, 0, 0)) rfl 28 [some (.ref r0), some (.int x1), some (.int (x1 - v1))] [.int ((I6 f4 j8) + ((nI 64) * v9))] rfl ⟨rfl, rfl, rfl, rfl⟩ ?_
  exact Wp.rI rfl rfl H
set_option maxRecDepth 20000 in
theorem wX11_distanceCost_0 {d : Nat} {Q : Option Value × xS → Prop} {K : Nat → Nat × Nat} {P : List Nat × Nat × Nat} {I : Nat → Nat → Int32} {J : Nat → Nat → Int64} {F : Nat → Nat → Option Nat} {r0 : Nat} {x1 : Int32} {n_r0 : Nat} {f1 : Nat} {n_f1 : Nat} (hK : ∀ {a k n : Nat}, K a = (k, n) → n < 2147483648) (hn_r0 : K r0 = (10, n_r0)) (hf1 : F r0 4 = some f1) (hn_f1 : K f1 = (100, n_f1)) (H : Wp d 113 0 [some (.int (x1 - (nI 1))), none] [] (K, P, I, J, F) (xrI K P F (fun v2 I3 J4 => (∃ j5 : Nat, ((nI 512) + v2) = nI j5 ∧ j5 < n_f1 ∧ Wp d 114 0 [some (.int (x1 - (nI 1)))] [] (K, P, I3, J4, F) (xrI K P F (fun v6 I7 J8 => Q (some (.int ((I3 f1 j5) + ((nI 64) * v6))), (K, P, I7, J8, F)))))))) : Wp (d + 1) 116 0 [some (.ref r0), some (.int x1)] [] (K, P, I, J, F) Q := by
  refine Wp.go (x := (.aload_n 0, 1, 0, 0)) rfl 1 [some (.ref r0), some (.int x1)] [.ref r0] rfl ⟨rfl, rfl, rfl, rfl⟩ ?_
  refine Wp.gR rfl rfl hn_r0 rfl rfl hf1 ?_
  refine Wp.sp (v := nI 512) rfl rfl (by decide) ?_
  refine Wp.go (x := (.iload_n 1, 1, 0, 0)) rfl 8 [some (.ref r0), some (.int x1)] [.int x1, .int (nI 512), .ref f1] rfl ⟨rfl, rfl, rfl, rfl⟩ ?_
  refine Wp.ic (v := nI 1) rfl rfl (by decide) ?_
  refine Wp.go (x := (.isub, 1, 0, 0)) rfl 10 [some (.ref r0), some (.int x1)] [.int (x1 - (nI 1)), .int (nI 512), .ref f1] rfl ⟨rfl, rfl, rfl, rfl⟩ ?_
  refine Wp.kI (x := (.invokestatic 165, 3, 113, 1)) (j := 113) (vs := [.int (x1 - (nI 1))]) (rest := [.int (nI 512), .ref f1]) rfl rfl rfl ⟨Nat.le_of_ble_eq_true rfl, Nat.le_of_ble_eq_true rfl, Nat.le_of_ble_eq_true rfl⟩ rfl rfl rfl H (fun v2 I3 J4 H => ?_)
  refine Wp.go (x := (.iadd, 1, 0, 0)) rfl 14 [some (.ref r0), some (.int x1)] [.int ((nI 512) + v2), .ref f1] rfl ⟨rfl, rfl, rfl, rfl⟩ ?_
  obtain ⟨j5, e, b, H⟩ := H
  refine Wp.ald rfl rfl hn_f1 (Or.inl rfl) (hK hn_f1) ⟨j5, e, b, ?_⟩
  refine Wp.bp (v := nI 64) rfl rfl (by decide) ?_
  refine Wp.go (x := (.iload_n 1, 1, 0, 0)) rfl 18 [some (.ref r0), some (.int x1)] [.int x1, .int (nI 64), .int (I3 f1 j5)] rfl ⟨rfl, rfl, rfl, rfl⟩ ?_
  refine Wp.ic (v := nI 1) rfl rfl (by decide) ?_
  refine Wp.go (x := (.isub, 1, 0, 0)) rfl 20 [some (.ref r0), some (.int x1)] [.int (x1 - (nI 1)), .int (nI 64), .int (I3 f1 j5)] rfl ⟨rfl, rfl, rfl, rfl⟩ ?_
  refine Wp.kI (x := (.invokestatic 168, 3, 114, 1)) (j := 114) (vs := [.int (x1 - (nI 1))]) (rest := [.int (nI 64), .int (I3 f1 j5)]) rfl rfl rfl ⟨Nat.le_of_ble_eq_true rfl, Nat.le_of_ble_eq_true rfl, Nat.le_of_ble_eq_true rfl⟩ rfl rfl rfl H (fun v6 I7 J8 H => ?_)
  refine Wp.go (x := (.imul, 1, 0, 0)) rfl 24 [some (.ref r0), some (.int x1)] [.int ((nI 64) * v6), .int (I3 f1 j5)] rfl ⟨rfl, rfl, rfl, rfl⟩ ?_
  refine Wp.go (x := (.iadd, 1, 0, 0)) rfl 25 [some (.ref r0), some (.int x1)] [.int ((I3 f1 j5) + ((nI 64) * v6))] rfl ⟨rfl, rfl, rfl, rfl⟩ ?_
  exact Wp.rI rfl rfl H
set_option maxRecDepth 20000 in
theorem wX11_kindCost_0 {d : Nat} {Q : Option Value × xS → Prop} {K : Nat → Nat × Nat} {P : List Nat × Nat × Nat} {I : Nat → Nat → Int32} {J : Nat → Nat → Int64} {F : Nat → Nat → Option Nat} {r0 : Nat} {x1 : Int32} {n_r0 : Nat} {f1 : Nat} {n_f1 : Nat} (hK : ∀ {a k n : Nat}, K a = (k, n) → n < 2147483648) (hn_r0 : K r0 = (10, n_r0)) (hf1 : F r0 4 = some f1) (hn_f1 : K f1 = (100, n_f1)) (H : ((¬ (I r0 1) = (nI 2) → Q (some (.int (nI 0)), (K, P, I, J, F))) ∧ ((I r0 1) = (nI 2) → (∃ j2 : Nat, ((nI 768) + x1) = nI j2 ∧ j2 < n_f1 ∧ Q (some (.int (I f1 j2)), (K, P, I, J, F)))))) : Wp d 117 0 [some (.ref r0), some (.int x1)] [] (K, P, I, J, F) Q := by
  refine Wp.go (x := (.aload_n 0, 1, 0, 0)) rfl 1 [some (.ref r0), some (.int x1)] [.ref r0] rfl ⟨rfl, rfl, rfl, rfl⟩ ?_
  refine Wp.gI rfl rfl hn_r0 rfl ⟨by decide, by decide⟩ ?_
  refine Wp.ic (v := nI 2) rfl rfl (by decide) ?_
  refine Wp.c_ne rfl rfl ⟨fun c => ?_, fun c => ?_⟩
  · have H := H.1 c
    refine Wp.ic (v := nI 0) rfl rfl (by decide) ?_
    exact Wp.rI rfl rfl H
  · have H := H.2 c
    refine Wp.go (x := (.aload_n 0, 1, 0, 0)) rfl 9 [some (.ref r0), some (.int x1)] [.ref r0] rfl ⟨rfl, rfl, rfl, rfl⟩ ?_
    refine Wp.gR rfl rfl hn_r0 rfl rfl hf1 ?_
    refine Wp.sp (v := nI 768) rfl rfl (by decide) ?_
    refine Wp.go (x := (.iload_n 1, 1, 0, 0)) rfl 16 [some (.ref r0), some (.int x1)] [.int x1, .int (nI 768), .ref f1] rfl ⟨rfl, rfl, rfl, rfl⟩ ?_
    refine Wp.go (x := (.iadd, 1, 0, 0)) rfl 17 [some (.ref r0), some (.int x1)] [.int ((nI 768) + x1), .ref f1] rfl ⟨rfl, rfl, rfl, rfl⟩ ?_
    obtain ⟨j2, e, b, H⟩ := H
    refine Wp.ald rfl rfl hn_f1 (Or.inl rfl) (hK hn_f1) ⟨j2, e, b, ?_⟩
    refine Wp.go (x := (.goto 4, 3, 22, 0)) rfl 22 [some (.ref r0), some (.int x1)] [.int (I f1 j2)] rfl ⟨rfl, rfl, rfl, rfl⟩ ?_
    exact Wp.rI rfl rfl H
set_option maxRecDepth 20000 in
theorem wX11_more_0 {d : Nat} {Q : Option Value × xS → Prop} {K : Nat → Nat × Nat} {P : List Nat × Nat × Nat} {I : Nat → Nat → Int32} {J : Nat → Nat → Int64} {F : Nat → Nat → Option Nat} {x0 : Int32} {x1 : Int32}  (H : ((x1 ≤ x0 → (¬ (nI 255) = 0 ∧ Q (some (.int ((nI 1) + ((x0 - x1) / (nI 255)))), (K, P, I, J, F)))) ∧ (¬ x1 ≤ x0 → Q (some (.int (nI 0)), (K, P, I, J, F))))) : Wp d 118 0 [some (.int x0), some (.int x1)] [] (K, P, I, J, F) Q := by
  refine Wp.go (x := (.iload_n 0, 1, 0, 0)) rfl 1 [some (.int x0), some (.int x1)] [.int x0] rfl ⟨rfl, rfl, rfl, rfl⟩ ?_
  refine Wp.go (x := (.iload_n 1, 1, 0, 0)) rfl 2 [some (.int x0), some (.int x1)] [.int x1, .int x0] rfl ⟨rfl, rfl, rfl, rfl⟩ ?_
  refine Wp.c_ge rfl rfl ⟨fun c => ?_, fun c => ?_⟩
  · have H := H.1 c
    refine Wp.ic (v := nI 1) rfl rfl (by decide) ?_
    refine Wp.go (x := (.iload_n 0, 1, 0, 0)) rfl 11 [some (.int x0), some (.int x1)] [.int x0, .int (nI 1)] rfl ⟨rfl, rfl, rfl, rfl⟩ ?_
    refine Wp.go (x := (.iload_n 1, 1, 0, 0)) rfl 12 [some (.int x0), some (.int x1)] [.int x1, .int x0, .int (nI 1)] rfl ⟨rfl, rfl, rfl, rfl⟩ ?_
    refine Wp.go (x := (.isub, 1, 0, 0)) rfl 13 [some (.int x0), some (.int x1)] [.int (x0 - x1), .int (nI 1)] rfl ⟨rfl, rfl, rfl, rfl⟩ ?_
    refine Wp.sp (v := nI 255) rfl rfl (by decide) ?_
    obtain ⟨z, H⟩ := H
    refine Wp.idiv rfl rfl z ?_
    refine Wp.go (x := (.iadd, 1, 0, 0)) rfl 18 [some (.int x0), some (.int x1)] [.int ((nI 1) + ((x0 - x1) / (nI 255)))] rfl ⟨rfl, rfl, rfl, rfl⟩ ?_
    exact Wp.rI rfl rfl H
  · have H := H.2 c
    refine Wp.ic (v := nI 0) rfl rfl (by decide) ?_
    refine Wp.go (x := (.goto 12, 3, 18, 0)) rfl 18 [some (.int x0), some (.int x1)] [.int (nI 0)] rfl ⟨rfl, rfl, rfl, rfl⟩ ?_
    exact Wp.rI rfl rfl H
set_option maxRecDepth 20000 in
theorem wX11_stepCost_0 {d : Nat} {Q : Option Value × xS → Prop} {K : Nat → Nat × Nat} {P : List Nat × Nat × Nat} {I : Nat → Nat → Int32} {J : Nat → Nat → Int64} {F : Nat → Nat → Option Nat} {r0 : Nat} {x1 : Int32} {x2 : Int32} {x3 : Int32} {x4 : Int32} {x5 : Int32} {n_r0 : Nat} {f19 : Nat} {n_f19 : Nat} (hK : ∀ {a k n : Nat}, K a = (k, n) → n < 2147483648) (hn_r0 : K r0 = (10, n_r0)) (hf19 : F r0 4 = some f19) (hn_f19 : K f19 = (100, n_f19)) (H : ((¬ (I r0 1) = (nI 1) → ((¬ x1 = 0 → ((¬ x1 = (nI 1) → ((¬ x1 = (nI 6) → Wp d 117 0 [some (.ref r0), some (.int x1)] [] (K, P, I, J, F) (xrI K P F (fun v1 I2 J3 => Wp d 115 0 [some (.ref r0), some (.int x2), none] [] (K, P, I2, J3, F) (xrI K P F (fun v4 I5 J6 => Q (some (.int (v1 + v4)), (K, P, I5, J6, F))))))) ∧ (x1 = (nI 6) → Wp d 117 0 [some (.ref r0), some (.int (nI 6))] [] (K, P, I, J, F) (xrI K P F (fun v7 I8 J9 => Q (some (.int v7), (K, P, I8, J9, F))))))) ∧ (x1 = (nI 1) → Wp d 117 0 [some (.ref r0), some (.int (nI 1))] [] (K, P, I, J, F) (xrI K P F (fun v10 I11 J12 => Wp d 115 0 [some (.ref r0), some (.int x2), none] [] (K, P, I11, J12, F) (xrI K P F (fun v13 I14 J15 => Wp d 116 0 [some (.ref r0), some (.int x3)] [] (K, P, I14, J15, F) (xrI K P F (fun v16 I17 J18 => Q (some (.int ((v10 + v13) + v16)), (K, P, I17, J18, F))))))))))) ∧ (x1 = 0 → (∃ j20 : Nat, x4 = nI j20 ∧ j20 < n_f19 ∧ Wp d 117 0 [some (.ref r0), some (.int (nI 0))] [] (K, P, I, J, F) (xrI K P F (fun v21 I22 J23 => Q (some (.int ((I f19 j20) + v21)), (K, P, I22, J23, F)))))))) ∧ ((I r0 1) = (nI 1) → ((¬ x1 = 0 → Wp d 118 0 [some (.int x2), some (.int (nI 19))] [] (K, P, I, J, F) (xrI K P F (fun v24 I25 J26 => Q (some (.int ((nI 512) * ((nI 3) + v24))), (K, P, I25, J26, F))))) ∧ (x1 = 0 → Wp d 118 0 [some (.int (x5 + (nI 1))), some (.int (nI 15))] [] (K, P, I, J, F) (xrI K P F (fun v27 I28 J29 => Wp d 118 0 [some (.int x5), some (.int (nI 15))] [] (K, P, I28, J29, F) (xrI K P F (fun v30 I31 J32 => Q (some (.int ((nI 512) * (((nI 1) + v27) - v30))), (K, P, I31, J32, F))))))))))) : Wp (d + 1) 119 0 [some (.ref r0), some (.int x1), some (.int x2), some (.int x3), some (.int x4), some (.int x5)] [] (K, P, I, J, F) Q := by
  refine Wp.go (x := (.aload_n 0, 1, 0, 0)) rfl 1 [some (.ref r0), some (.int x1), some (.int x2), some (.int x3), some (.int x4), some (.int x5)] [.ref r0] rfl ⟨rfl, rfl, rfl, rfl⟩ ?_
  refine Wp.gI rfl rfl hn_r0 rfl ⟨by decide, by decide⟩ ?_
  refine Wp.ic (v := nI 1) rfl rfl (by decide) ?_
  refine Wp.c_ne rfl rfl ⟨fun c => ?_, fun c => ?_⟩
  · have H := H.1 c
    refine Wp.go (x := (.iload_n 1, 1, 0, 0)) rfl 52 [some (.ref r0), some (.int x1), some (.int x2), some (.int x3), some (.int x4), some (.int x5)] [.int x1] rfl ⟨rfl, rfl, rfl, rfl⟩ ?_
    refine Wp.z_ne rfl rfl ⟨fun c => ?_, fun c => ?_⟩
    · have H := H.1 c
      refine Wp.go (x := (.iload_n 1, 1, 0, 0)) rfl 70 [some (.ref r0), some (.int x1), some (.int x2), some (.int x3), some (.int x4), some (.int x5)] [.int x1] rfl ⟨rfl, rfl, rfl, rfl⟩ ?_
      refine Wp.ic (v := nI 1) rfl rfl (by decide) ?_
      refine Wp.c_ne rfl rfl ⟨fun c => ?_, fun c => ?_⟩
      · have H := H.1 c
        refine Wp.go (x := (.iload_n 1, 1, 0, 0)) rfl 93 [some (.ref r0), some (.int x1), some (.int x2), some (.int x3), some (.int x4), some (.int x5)] [.int x1] rfl ⟨rfl, rfl, rfl, rfl⟩ ?_
        refine Wp.bp (v := nI 6) rfl rfl (by decide) ?_
        refine Wp.c_ne rfl rfl ⟨fun c => ?_, fun c => ?_⟩
        · have H := H.1 c
          refine Wp.go (x := (.aload_n 0, 1, 0, 0)) rfl 108 [some (.ref r0), some (.int x1), some (.int x2), some (.int x3), some (.int x4), some (.int x5)] [.ref r0] rfl ⟨rfl, rfl, rfl, rfl⟩ ?_
          refine Wp.go (x := (.iload_n 1, 1, 0, 0)) rfl 109 [some (.ref r0), some (.int x1), some (.int x2), some (.int x3), some (.int x4), some (.int x5)] [.int x1, .ref r0] rfl ⟨rfl, rfl, rfl, rfl⟩ ?_
          refine Wp.kI (x := (.invokevirtual 175, 3, 117, 2)) (j := 117) (vs := [.ref r0, .int x1]) (rest := []) rfl (by show xtg 117 (K r0).1 = _; rw [hn_r0]; rfl) rfl ⟨Nat.le_of_ble_eq_true rfl, Nat.le_of_ble_eq_true rfl, Nat.le_of_ble_eq_true rfl⟩ rfl rfl rfl H (fun v1 I2 J3 H => ?_)
          refine Wp.go (x := (.aload_n 0, 1, 0, 0)) rfl 113 [some (.ref r0), some (.int x1), some (.int x2), some (.int x3), some (.int x4), some (.int x5)] [.ref r0, .int v1] rfl ⟨rfl, rfl, rfl, rfl⟩ ?_
          refine Wp.go (x := (.iload_n 2, 1, 0, 0)) rfl 114 [some (.ref r0), some (.int x1), some (.int x2), some (.int x3), some (.int x4), some (.int x5)] [.int x2, .ref r0, .int v1] rfl ⟨rfl, rfl, rfl, rfl⟩ ?_
          refine Wp.kI (x := (.invokevirtual 178, 3, 115, 2)) (j := 115) (vs := [.ref r0, .int x2]) (rest := [.int v1]) rfl (by show xtg 115 (K r0).1 = _; rw [hn_r0]; rfl) rfl ⟨Nat.le_of_ble_eq_true rfl, Nat.le_of_ble_eq_true rfl, Nat.le_of_ble_eq_true rfl⟩ rfl rfl rfl H (fun v4 I5 J6 H => ?_)
          refine Wp.go (x := (.iadd, 1, 0, 0)) rfl 118 [some (.ref r0), some (.int x1), some (.int x2), some (.int x3), some (.int x4), some (.int x5)] [.int (v1 + v4)] rfl ⟨rfl, rfl, rfl, rfl⟩ ?_
          exact Wp.rI rfl rfl H
        · have H := H.2 c
          refine Wp.go (x := (.aload_n 0, 1, 0, 0)) rfl 99 [some (.ref r0), some (.int x1), some (.int x2), some (.int x3), some (.int x4), some (.int x5)] [.ref r0] rfl ⟨rfl, rfl, rfl, rfl⟩ ?_
          refine Wp.bp (v := nI 6) rfl rfl (by decide) ?_
          refine Wp.kI (x := (.invokevirtual 175, 3, 117, 2)) (j := 117) (vs := [.ref r0, .int (nI 6)]) (rest := []) rfl (by show xtg 117 (K r0).1 = _; rw [hn_r0]; rfl) rfl ⟨Nat.le_of_ble_eq_true rfl, Nat.le_of_ble_eq_true rfl, Nat.le_of_ble_eq_true rfl⟩ rfl rfl rfl H (fun v7 I8 J9 H => ?_)
          refine Wp.go (x := (.goto 14, 3, 118, 0)) rfl 118 [some (.ref r0), some (.int x1), some (.int x2), some (.int x3), some (.int x4), some (.int x5)] [.int v7] rfl ⟨rfl, rfl, rfl, rfl⟩ ?_
          exact Wp.rI rfl rfl H
      · have H := H.2 c
        refine Wp.go (x := (.aload_n 0, 1, 0, 0)) rfl 75 [some (.ref r0), some (.int x1), some (.int x2), some (.int x3), some (.int x4), some (.int x5)] [.ref r0] rfl ⟨rfl, rfl, rfl, rfl⟩ ?_
        refine Wp.ic (v := nI 1) rfl rfl (by decide) ?_
        refine Wp.kI (x := (.invokevirtual 175, 3, 117, 2)) (j := 117) (vs := [.ref r0, .int (nI 1)]) (rest := []) rfl (by show xtg 117 (K r0).1 = _; rw [hn_r0]; rfl) rfl ⟨Nat.le_of_ble_eq_true rfl, Nat.le_of_ble_eq_true rfl, Nat.le_of_ble_eq_true rfl⟩ rfl rfl rfl H (fun v10 I11 J12 H => ?_)
        refine Wp.go (x := (.aload_n 0, 1, 0, 0)) rfl 80 [some (.ref r0), some (.int x1), some (.int x2), some (.int x3), some (.int x4), some (.int x5)] [.ref r0, .int v10] rfl ⟨rfl, rfl, rfl, rfl⟩ ?_
        refine Wp.go (x := (.iload_n 2, 1, 0, 0)) rfl 81 [some (.ref r0), some (.int x1), some (.int x2), some (.int x3), some (.int x4), some (.int x5)] [.int x2, .ref r0, .int v10] rfl ⟨rfl, rfl, rfl, rfl⟩ ?_
        refine Wp.kI (x := (.invokevirtual 178, 3, 115, 2)) (j := 115) (vs := [.ref r0, .int x2]) (rest := [.int v10]) rfl (by show xtg 115 (K r0).1 = _; rw [hn_r0]; rfl) rfl ⟨Nat.le_of_ble_eq_true rfl, Nat.le_of_ble_eq_true rfl, Nat.le_of_ble_eq_true rfl⟩ rfl rfl rfl H (fun v13 I14 J15 H => ?_)
        refine Wp.go (x := (.iadd, 1, 0, 0)) rfl 85 [some (.ref r0), some (.int x1), some (.int x2), some (.int x3), some (.int x4), some (.int x5)] [.int (v10 + v13)] rfl ⟨rfl, rfl, rfl, rfl⟩ ?_
        refine Wp.go (x := (.aload_n 0, 1, 0, 0)) rfl 86 [some (.ref r0), some (.int x1), some (.int x2), some (.int x3), some (.int x4), some (.int x5)] [.ref r0, .int (v10 + v13)] rfl ⟨rfl, rfl, rfl, rfl⟩ ?_
        refine Wp.go (x := (.iload_n 3, 1, 0, 0)) rfl 87 [some (.ref r0), some (.int x1), some (.int x2), some (.int x3), some (.int x4), some (.int x5)] [.int x3, .ref r0, .int (v10 + v13)] rfl ⟨rfl, rfl, rfl, rfl⟩ ?_
        refine Wp.kI (x := (.invokevirtual 181, 3, 116, 2)) (j := 116) (vs := [.ref r0, .int x3]) (rest := [.int (v10 + v13)]) rfl (by show xtg 116 (K r0).1 = _; rw [hn_r0]; rfl) rfl ⟨Nat.le_of_ble_eq_true rfl, Nat.le_of_ble_eq_true rfl, Nat.le_of_ble_eq_true rfl⟩ rfl rfl rfl H (fun v16 I17 J18 H => ?_)
        refine Wp.go (x := (.iadd, 1, 0, 0)) rfl 91 [some (.ref r0), some (.int x1), some (.int x2), some (.int x3), some (.int x4), some (.int x5)] [.int ((v10 + v13) + v16)] rfl ⟨rfl, rfl, rfl, rfl⟩ ?_
        exact Wp.rI rfl rfl H
    · have H := H.2 c
      refine Wp.go (x := (.aload_n 0, 1, 0, 0)) rfl 56 [some (.ref r0), some (.int x1), some (.int x2), some (.int x3), some (.int x4), some (.int x5)] [.ref r0] rfl ⟨rfl, rfl, rfl, rfl⟩ ?_
      refine Wp.gR rfl rfl hn_r0 rfl rfl hf19 ?_
      refine Wp.go (x := (.iload 4, 2, 0, 0)) rfl 61 [some (.ref r0), some (.int x1), some (.int x2), some (.int x3), some (.int x4), some (.int x5)] [.int x4, .ref f19] rfl ⟨rfl, rfl, rfl, rfl⟩ ?_
      obtain ⟨j20, e, b, H⟩ := H
      refine Wp.ald rfl rfl hn_f19 (Or.inl rfl) (hK hn_f19) ⟨j20, e, b, ?_⟩
      refine Wp.go (x := (.aload_n 0, 1, 0, 0)) rfl 63 [some (.ref r0), some (.int x1), some (.int x2), some (.int x3), some (.int x4), some (.int x5)] [.ref r0, .int (I f19 j20)] rfl ⟨rfl, rfl, rfl, rfl⟩ ?_
      refine Wp.ic (v := nI 0) rfl rfl (by decide) ?_
      refine Wp.kI (x := (.invokevirtual 175, 3, 117, 2)) (j := 117) (vs := [.ref r0, .int (nI 0)]) (rest := [.int (I f19 j20)]) rfl (by show xtg 117 (K r0).1 = _; rw [hn_r0]; rfl) rfl ⟨Nat.le_of_ble_eq_true rfl, Nat.le_of_ble_eq_true rfl, Nat.le_of_ble_eq_true rfl⟩ rfl rfl rfl H (fun v21 I22 J23 H => ?_)
      refine Wp.go (x := (.iadd, 1, 0, 0)) rfl 68 [some (.ref r0), some (.int x1), some (.int x2), some (.int x3), some (.int x4), some (.int x5)] [.int ((I f19 j20) + v21)] rfl ⟨rfl, rfl, rfl, rfl⟩ ?_
      exact Wp.rI rfl rfl H
  · have H := H.2 c
    refine Wp.go (x := (.iload_n 1, 1, 0, 0)) rfl 9 [some (.ref r0), some (.int x1), some (.int x2), some (.int x3), some (.int x4), some (.int x5)] [.int x1] rfl ⟨rfl, rfl, rfl, rfl⟩ ?_
    refine Wp.z_ne rfl rfl ⟨fun c => ?_, fun c => ?_⟩
    · have H := H.1 c
      refine Wp.sp (v := nI 512) rfl rfl (by decide) ?_
      refine Wp.ic (v := nI 3) rfl rfl (by decide) ?_
      refine Wp.go (x := (.iload_n 2, 1, 0, 0)) rfl 43 [some (.ref r0), some (.int x1), some (.int x2), some (.int x3), some (.int x4), some (.int x5)] [.int x2, .int (nI 3), .int (nI 512)] rfl ⟨rfl, rfl, rfl, rfl⟩ ?_
      refine Wp.bp (v := nI 19) rfl rfl (by decide) ?_
      refine Wp.kI (x := (.invokestatic 171, 3, 118, 2)) (j := 118) (vs := [.int x2, .int (nI 19)]) (rest := [.int (nI 3), .int (nI 512)]) rfl rfl rfl ⟨Nat.le_of_ble_eq_true rfl, Nat.le_of_ble_eq_true rfl, Nat.le_of_ble_eq_true rfl⟩ rfl rfl rfl H (fun v24 I25 J26 H => ?_)
      refine Wp.go (x := (.iadd, 1, 0, 0)) rfl 49 [some (.ref r0), some (.int x1), some (.int x2), some (.int x3), some (.int x4), some (.int x5)] [.int ((nI 3) + v24), .int (nI 512)] rfl ⟨rfl, rfl, rfl, rfl⟩ ?_
      refine Wp.go (x := (.imul, 1, 0, 0)) rfl 50 [some (.ref r0), some (.int x1), some (.int x2), some (.int x3), some (.int x4), some (.int x5)] [.int ((nI 512) * ((nI 3) + v24))] rfl ⟨rfl, rfl, rfl, rfl⟩ ?_
      exact Wp.rI rfl rfl H
    · have H := H.2 c
      refine Wp.sp (v := nI 512) rfl rfl (by decide) ?_
      refine Wp.ic (v := nI 1) rfl rfl (by decide) ?_
      refine Wp.go (x := (.iload 5, 2, 0, 0)) rfl 18 [some (.ref r0), some (.int x1), some (.int x2), some (.int x3), some (.int x4), some (.int x5)] [.int x5, .int (nI 1), .int (nI 512)] rfl ⟨rfl, rfl, rfl, rfl⟩ ?_
      refine Wp.ic (v := nI 1) rfl rfl (by decide) ?_
      refine Wp.go (x := (.iadd, 1, 0, 0)) rfl 20 [some (.ref r0), some (.int x1), some (.int x2), some (.int x3), some (.int x4), some (.int x5)] [.int (x5 + (nI 1)), .int (nI 1), .int (nI 512)] rfl ⟨rfl, rfl, rfl, rfl⟩ ?_
      refine Wp.bp (v := nI 15) rfl rfl (by decide) ?_
      refine Wp.kI (x := (.invokestatic 171, 3, 118, 2)) (j := 118) (vs := [.int (x5 + (nI 1)), .int (nI 15)]) (rest := [.int (nI 1), .int (nI 512)]) rfl rfl rfl ⟨Nat.le_of_ble_eq_true rfl, Nat.le_of_ble_eq_true rfl, Nat.le_of_ble_eq_true rfl⟩ rfl rfl rfl H (fun v27 I28 J29 H => ?_)
      refine Wp.go (x := (.iadd, 1, 0, 0)) rfl 26 [some (.ref r0), some (.int x1), some (.int x2), some (.int x3), some (.int x4), some (.int x5)] [.int ((nI 1) + v27), .int (nI 512)] rfl ⟨rfl, rfl, rfl, rfl⟩ ?_
      refine Wp.go (x := (.iload 5, 2, 0, 0)) rfl 28 [some (.ref r0), some (.int x1), some (.int x2), some (.int x3), some (.int x4), some (.int x5)] [.int x5, .int ((nI 1) + v27), .int (nI 512)] rfl ⟨rfl, rfl, rfl, rfl⟩ ?_
      refine Wp.bp (v := nI 15) rfl rfl (by decide) ?_
      refine Wp.kI (x := (.invokestatic 171, 3, 118, 2)) (j := 118) (vs := [.int x5, .int (nI 15)]) (rest := [.int ((nI 1) + v27), .int (nI 512)]) rfl rfl rfl ⟨Nat.le_of_ble_eq_true rfl, Nat.le_of_ble_eq_true rfl, Nat.le_of_ble_eq_true rfl⟩ rfl rfl rfl H (fun v30 I31 J32 H => ?_)
      refine Wp.go (x := (.isub, 1, 0, 0)) rfl 34 [some (.ref r0), some (.int x1), some (.int x2), some (.int x3), some (.int x4), some (.int x5)] [.int (((nI 1) + v27) - v30), .int (nI 512)] rfl ⟨rfl, rfl, rfl, rfl⟩ ?_
      refine Wp.go (x := (.imul, 1, 0, 0)) rfl 35 [some (.ref r0), some (.int x1), some (.int x2), some (.int x3), some (.int x4), some (.int x5)] [.int ((nI 512) * (((nI 1) + v27) - v30))] rfl ⟨rfl, rfl, rfl, rfl⟩ ?_
      refine Wp.go (x := (.goto 15, 3, 50, 0)) rfl 50 [some (.ref r0), some (.int x1), some (.int x2), some (.int x3), some (.int x4), some (.int x5)] [.int ((nI 512) * (((nI 1) + v27) - v30))] rfl ⟨rfl, rfl, rfl, rfl⟩ ?_
      exact Wp.rI rfl rfl H
set_option maxRecDepth 20000 in
theorem wX11_allCost_0 {d : Nat} {Q : Option Value × xS → Prop} {K : Nat → Nat × Nat} {P : List Nat × Nat × Nat} {I : Nat → Nat → Int32} {J : Nat → Nat → Int64} {F : Nat → Nat → Option Nat} {r0 : Nat} {n_r0 : Nat} (hn_r0 : K r0 = (10, n_r0)) (H : ((¬ (I r0 1) = (nI 1) → Wp d 120 21 [some (.ref r0), some (.long (lN 0)), none, some (.int (nI 0)), some (.int (nI 0))] [] (K, P, I, J, F) Q) ∧ ((I r0 1) = (nI 1) → Wp d 120 21 [some (.ref r0), some (.long (lN 512)), none, some (.int (nI 0)), some (.int (nI 0))] [] (K, P, I, J, F) Q))) : Wp d 120 0 [some (.ref r0), none, none, none, none] [] (K, P, I, J, F) Q := by
  refine Wp.go (x := (.aload_n 0, 1, 0, 0)) rfl 1 [some (.ref r0), none, none, none, none] [.ref r0] rfl ⟨rfl, rfl, rfl, rfl⟩ ?_
  refine Wp.gI rfl rfl hn_r0 rfl ⟨by decide, by decide⟩ ?_
  refine Wp.ic (v := nI 1) rfl rfl (by decide) ?_
  refine Wp.c_ne rfl rfl ⟨fun c => ?_, fun c => ?_⟩
  · have H := H.1 c
    refine Wp.lc (v := lN 0) rfl rfl (by first | rfl | decide) ?_
    refine Wp.go (x := (.lstore_n 1, 1, 0, 0)) rfl 16 [some (.ref r0), some (.long (lN 0)), none, none, none] [] rfl ⟨rfl, rfl, rfl, rfl⟩ ?_
    refine Wp.ic (v := nI 0) rfl rfl (by decide) ?_
    refine Wp.go (x := (.istore_n 3, 1, 0, 0)) rfl 18 [some (.ref r0), some (.long (lN 0)), none, some (.int (nI 0)), none] [] rfl ⟨rfl, rfl, rfl, rfl⟩ ?_
    refine Wp.ic (v := nI 0) rfl rfl (by decide) ?_
    refine Wp.go (x := (.istore 4, 2, 0, 0)) rfl 21 [some (.ref r0), some (.long (lN 0)), none, some (.int (nI 0)), some (.int (nI 0))] [] rfl ⟨rfl, rfl, rfl, rfl⟩ ?_
    exact H
  · have H := H.2 c
    refine Wp.ldcj (v := lN 512) rfl rfl (by first | rfl | decide) ?_
    refine Wp.go (x := (.goto 4, 3, 15, 0)) rfl 15 [some (.ref r0), none, none, none, none] [.long (lN 512)] rfl ⟨rfl, rfl, rfl, rfl⟩ ?_
    refine Wp.go (x := (.lstore_n 1, 1, 0, 0)) rfl 16 [some (.ref r0), some (.long (lN 512)), none, none, none] [] rfl ⟨rfl, rfl, rfl, rfl⟩ ?_
    refine Wp.ic (v := nI 0) rfl rfl (by decide) ?_
    refine Wp.go (x := (.istore_n 3, 1, 0, 0)) rfl 18 [some (.ref r0), some (.long (lN 512)), none, some (.int (nI 0)), none] [] rfl ⟨rfl, rfl, rfl, rfl⟩ ?_
    refine Wp.ic (v := nI 0) rfl rfl (by decide) ?_
    refine Wp.go (x := (.istore 4, 2, 0, 0)) rfl 21 [some (.ref r0), some (.long (lN 512)), none, some (.int (nI 0)), some (.int (nI 0))] [] rfl ⟨rfl, rfl, rfl, rfl⟩ ?_
    exact H
set_option maxRecDepth 20000 in
theorem wX11_allCost_21 {d : Nat} {Q : Option Value × xS → Prop} {K : Nat → Nat × Nat} {P : List Nat × Nat × Nat} {I : Nat → Nat → Int32} {J : Nat → Nat → Int64} {F : Nat → Nat → Option Nat} {r0 : Nat} {y1 : Int64} {x3 : Int32} {x4 : Int32} {n_r0 : Nat} {f1 : Nat} {n_f1 : Nat} {f3 : Nat} {n_f3 : Nat} {f5 : Nat} {n_f5 : Nat} {f7 : Nat} {f8 : Nat} {n_f8 : Nat} {n_f7 : Nat} (hK : ∀ {a k n : Nat}, K a = (k, n) → n < 2147483648) (hn_r0 : K r0 = (10, n_r0)) (hf1 : F r0 15 = some f1) (hn_f1 : K f1 = (100, n_f1)) (hf3 : F r0 13 = some f3) (hn_f3 : K f3 = (100, n_f3)) (hf5 : F r0 14 = some f5) (hn_f5 : K f5 = (100, n_f5)) (hf7 : F r0 2 = some f7) (hf8 : F r0 12 = some f8) (hn_f8 : K f8 = (100, n_f8)) (hn_f7 : K f7 = (100, n_f7)) (H : (((I r0 11) ≤ x4 → Q (some (.long y1), (K, P, I, J, F))) ∧ (¬ (I r0 11) ≤ x4 → (∃ j2 : Nat, x4 = nI j2 ∧ j2 < n_f1 ∧ (∃ j4 : Nat, x4 = nI j4 ∧ j4 < n_f3 ∧ (∃ j6 : Nat, x4 = nI j6 ∧ j6 < n_f5 ∧ (∃ j9 : Nat, x4 = nI j9 ∧ j9 < n_f8 ∧ (∃ j10 : Nat, (I f8 j9) = nI j10 ∧ j10 < n_f7 ∧ Wp d 119 0 [some (.ref r0), some (.int (I f1 j2)), some (.int (I f3 j4)), some (.int (I f5 j6)), some (.int (I f7 j10)), some (.int x3)] [] (K, P, I, J, F) (xrI K P F (fun v11 I12 J13 => (∃ j14 : Nat, x4 = nI j14 ∧ j14 < n_f1 ∧ ((¬ (I12 f1 j14) = 0 → Wp (d + 1) 120 21 [some (.ref r0), some (.long (y1 + v11.toInt64)), none, some (.int (nI 0)), some (.int (x4 + nI 1))] [] (K, P, I12, J13, F) Q) ∧ ((I12 f1 j14) = 0 → Wp (d + 1) 120 21 [some (.ref r0), some (.long (y1 + v11.toInt64)), none, some (.int (x3 + (nI 1))), some (.int (x4 + nI 1))] [] (K, P, I12, J13, F) Q))))))))))))) : Wp (d + 1) 120 21 [some (.ref r0), some (.long y1), none, some (.int x3), some (.int x4)] [] (K, P, I, J, F) Q := by
  refine Wp.go (x := (.iload 4, 2, 0, 0)) rfl 23 [some (.ref r0), some (.long y1), none, some (.int x3), some (.int x4)] [.int x4] rfl ⟨rfl, rfl, rfl, rfl⟩ ?_
  refine Wp.go (x := (.aload_n 0, 1, 0, 0)) rfl 24 [some (.ref r0), some (.long y1), none, some (.int x3), some (.int x4)] [.ref r0, .int x4] rfl ⟨rfl, rfl, rfl, rfl⟩ ?_
  refine Wp.gI rfl rfl hn_r0 rfl ⟨by decide, by decide⟩ ?_
  refine Wp.c_ge rfl rfl ⟨fun c => ?_, fun c => ?_⟩
  · have H := H.1 c
    refine Wp.go (x := (.lload_n 1, 1, 0, 0)) rfl 97 [some (.ref r0), some (.long y1), none, some (.int x3), some (.int x4)] [.long y1] rfl ⟨rfl, rfl, rfl, rfl⟩ ?_
    exact Wp.rJ rfl rfl H
  · have H := H.2 c
    refine Wp.go (x := (.lload_n 1, 1, 0, 0)) rfl 31 [some (.ref r0), some (.long y1), none, some (.int x3), some (.int x4)] [.long y1] rfl ⟨rfl, rfl, rfl, rfl⟩ ?_
    refine Wp.go (x := (.aload_n 0, 1, 0, 0)) rfl 32 [some (.ref r0), some (.long y1), none, some (.int x3), some (.int x4)] [.ref r0, .long y1] rfl ⟨rfl, rfl, rfl, rfl⟩ ?_
    refine Wp.go (x := (.aload_n 0, 1, 0, 0)) rfl 33 [some (.ref r0), some (.long y1), none, some (.int x3), some (.int x4)] [.ref r0, .ref r0, .long y1] rfl ⟨rfl, rfl, rfl, rfl⟩ ?_
    refine Wp.gR rfl rfl hn_r0 rfl rfl hf1 ?_
    refine Wp.go (x := (.iload 4, 2, 0, 0)) rfl 38 [some (.ref r0), some (.long y1), none, some (.int x3), some (.int x4)] [.int x4, .ref f1, .ref r0, .long y1] rfl ⟨rfl, rfl, rfl, rfl⟩ ?_
    obtain ⟨j2, e, b, H⟩ := H
    refine Wp.ald rfl rfl hn_f1 (Or.inl rfl) (hK hn_f1) ⟨j2, e, b, ?_⟩
    refine Wp.go (x := (.aload_n 0, 1, 0, 0)) rfl 40 [some (.ref r0), some (.long y1), none, some (.int x3), some (.int x4)] [.ref r0, .int (I f1 j2), .ref r0, .long y1] rfl ⟨rfl, rfl, rfl, rfl⟩ ?_
    refine Wp.gR rfl rfl hn_r0 rfl rfl hf3 ?_
    refine Wp.go (x := (.iload 4, 2, 0, 0)) rfl 45 [some (.ref r0), some (.long y1), none, some (.int x3), some (.int x4)] [.int x4, .ref f3, .int (I f1 j2), .ref r0, .long y1] rfl ⟨rfl, rfl, rfl, rfl⟩ ?_
    obtain ⟨j4, e, b, H⟩ := H
    refine Wp.ald rfl rfl hn_f3 (Or.inl rfl) (hK hn_f3) ⟨j4, e, b, ?_⟩
    refine Wp.go (x := (.aload_n 0, 1, 0, 0)) rfl 47 [some (.ref r0), some (.long y1), none, some (.int x3), some (.int x4)] [.ref r0, .int (I f3 j4), .int (I f1 j2), .ref r0, .long y1] rfl ⟨rfl, rfl, rfl, rfl⟩ ?_
    refine Wp.gR rfl rfl hn_r0 rfl rfl hf5 ?_
    refine Wp.go (x := (.iload 4, 2, 0, 0)) rfl 52 [some (.ref r0), some (.long y1), none, some (.int x3), some (.int x4)] [.int x4, .ref f5, .int (I f3 j4), .int (I f1 j2), .ref r0, .long y1] rfl ⟨rfl, rfl, rfl, rfl⟩ ?_
    obtain ⟨j6, e, b, H⟩ := H
    refine Wp.ald rfl rfl hn_f5 (Or.inl rfl) (hK hn_f5) ⟨j6, e, b, ?_⟩
    refine Wp.go (x := (.aload_n 0, 1, 0, 0)) rfl 54 [some (.ref r0), some (.long y1), none, some (.int x3), some (.int x4)] [.ref r0, .int (I f5 j6), .int (I f3 j4), .int (I f1 j2), .ref r0, .long y1] rfl ⟨rfl, rfl, rfl, rfl⟩ ?_
    refine Wp.gR rfl rfl hn_r0 rfl rfl hf7 ?_
    refine Wp.go (x := (.aload_n 0, 1, 0, 0)) rfl 58 [some (.ref r0), some (.long y1), none, some (.int x3), some (.int x4)] [.ref r0, .ref f7, .int (I f5 j6), .int (I f3 j4), .int (I f1 j2), .ref r0, .long y1] rfl ⟨rfl, rfl, rfl, rfl⟩ ?_
    refine Wp.gR rfl rfl hn_r0 rfl rfl hf8 ?_
    refine Wp.go (x := (.iload 4, 2, 0, 0)) rfl 63 [some (.ref r0), some (.long y1), none, some (.int x3), some (.int x4)] [.int x4, .ref f8, .ref f7, .int (I f5 j6), .int (I f3 j4), .int (I f1 j2), .ref r0, .long y1] rfl ⟨rfl, rfl, rfl, rfl⟩ ?_
    obtain ⟨j9, e, b, H⟩ := H
    refine Wp.ald rfl rfl hn_f8 (Or.inl rfl) (hK hn_f8) ⟨j9, e, b, ?_⟩
    obtain ⟨j10, e, b, H⟩ := H
    refine Wp.ald rfl rfl hn_f7 (Or.inl rfl) (hK hn_f7) ⟨j10, e, b, ?_⟩
    refine Wp.go (x := (.iload_n 3, 1, 0, 0)) rfl 66 [some (.ref r0), some (.long y1), none, some (.int x3), some (.int x4)] [.int x3, .int (I f7 j10), .int (I f5 j6), .int (I f3 j4), .int (I f1 j2), .ref r0, .long y1] rfl ⟨rfl, rfl, rfl, rfl⟩ ?_
    refine Wp.kI (x := (.invokevirtual 189, 3, 119, 6)) (j := 119) (vs := [.ref r0, .int (I f1 j2), .int (I f3 j4), .int (I f5 j6), .int (I f7 j10), .int x3]) (rest := [.long y1]) rfl (by show xtg 119 (K r0).1 = _; rw [hn_r0]; rfl) rfl ⟨Nat.le_of_ble_eq_true rfl, Nat.le_of_ble_eq_true rfl, Nat.le_of_ble_eq_true rfl⟩ rfl rfl rfl H (fun v11 I12 J13 H => ?_)
    refine Wp.go (x := (.i2l, 1, 0, 0)) rfl 70 [some (.ref r0), some (.long y1), none, some (.int x3), some (.int x4)] [.long v11.toInt64, .long y1] rfl ⟨rfl, rfl, rfl, rfl⟩ ?_
    refine Wp.go (x := (.ladd, 1, 0, 0)) rfl 71 [some (.ref r0), some (.long y1), none, some (.int x3), some (.int x4)] [.long (y1 + v11.toInt64)] rfl ⟨rfl, rfl, rfl, rfl⟩ ?_
    refine Wp.go (x := (.lstore_n 1, 1, 0, 0)) rfl 72 [some (.ref r0), some (.long (y1 + v11.toInt64)), none, some (.int x3), some (.int x4)] [] rfl ⟨rfl, rfl, rfl, rfl⟩ ?_
    refine Wp.go (x := (.aload_n 0, 1, 0, 0)) rfl 73 [some (.ref r0), some (.long (y1 + v11.toInt64)), none, some (.int x3), some (.int x4)] [.ref r0] rfl ⟨rfl, rfl, rfl, rfl⟩ ?_
    refine Wp.gR rfl rfl hn_r0 rfl rfl hf1 ?_
    refine Wp.go (x := (.iload 4, 2, 0, 0)) rfl 78 [some (.ref r0), some (.long (y1 + v11.toInt64)), none, some (.int x3), some (.int x4)] [.int x4, .ref f1] rfl ⟨rfl, rfl, rfl, rfl⟩ ?_
    obtain ⟨j14, e, b, H⟩ := H
    refine Wp.ald rfl rfl hn_f1 (Or.inl rfl) (hK hn_f1) ⟨j14, e, b, ?_⟩
    refine Wp.z_ne rfl rfl ⟨fun c => ?_, fun c => ?_⟩
    · have H := H.1 c
      refine Wp.ic (v := nI 0) rfl rfl (by decide) ?_
      refine Wp.go (x := (.istore_n 3, 1, 0, 0)) rfl 90 [some (.ref r0), some (.long (y1 + v11.toInt64)), none, some (.int (nI 0)), some (.int x4)] [] rfl ⟨rfl, rfl, rfl, rfl⟩ ?_
      refine Wp.ii (v := nI 1) rfl rfl (by decide) rfl (L' := [some (.ref r0), some (.long (y1 + v11.toInt64)), none, some (.int (nI 0)), some (.int (x4 + nI 1))]) rfl ?_
      refine Wp.go (x := (.goto (-72), 3, 21, 0)) rfl 21 [some (.ref r0), some (.long (y1 + v11.toInt64)), none, some (.int (nI 0)), some (.int (x4 + nI 1))] [] rfl ⟨rfl, rfl, rfl, rfl⟩ ?_
      exact H
    · have H := H.2 c
      refine Wp.go (x := (.iload_n 3, 1, 0, 0)) rfl 83 [some (.ref r0), some (.long (y1 + v11.toInt64)), none, some (.int x3), some (.int x4)] [.int x3] rfl ⟨rfl, rfl, rfl, rfl⟩ ?_
      refine Wp.ic (v := nI 1) rfl rfl (by decide) ?_
      refine Wp.go (x := (.iadd, 1, 0, 0)) rfl 85 [some (.ref r0), some (.long (y1 + v11.toInt64)), none, some (.int x3), some (.int x4)] [.int (x3 + (nI 1))] rfl ⟨rfl, rfl, rfl, rfl⟩ ?_
      refine Wp.go (x := (.goto 4, 3, 89, 0)) rfl 89 [some (.ref r0), some (.long (y1 + v11.toInt64)), none, some (.int x3), some (.int x4)] [.int (x3 + (nI 1))] rfl ⟨rfl, rfl, rfl, rfl⟩ ?_
      refine Wp.go (x := (.istore_n 3, 1, 0, 0)) rfl 90 [some (.ref r0), some (.long (y1 + v11.toInt64)), none, some (.int (x3 + (nI 1))), some (.int x4)] [] rfl ⟨rfl, rfl, rfl, rfl⟩ ?_
      refine Wp.ii (v := nI 1) rfl rfl (by decide) rfl (L' := [some (.ref r0), some (.long (y1 + v11.toInt64)), none, some (.int (x3 + (nI 1))), some (.int (x4 + nI 1))]) rfl ?_
      refine Wp.go (x := (.goto (-72), 3, 21, 0)) rfl 21 [some (.ref r0), some (.long (y1 + v11.toInt64)), none, some (.int (x3 + (nI 1))), some (.int (x4 + nI 1))] [] rfl ⟨rfl, rfl, rfl, rfl⟩ ?_
      exact H
set_option maxRecDepth 20000 in
theorem wX11_clearLatest_0 {d : Nat} {Q : Option Value × xS → Prop} {K : Nat → Nat × Nat} {P : List Nat × Nat × Nat} {I : Nat → Nat → Int32} {J : Nat → Nat → Int64} {F : Nat → Nat → Option Nat} {r0 : Nat}  (H : Wp d 121 2 [some (.ref r0), some (.int (nI 0))] [] (K, P, I, J, F) Q) : Wp d 121 0 [some (.ref r0), none] [] (K, P, I, J, F) Q := by
  refine Wp.ic (v := nI 0) rfl rfl (by decide) ?_
  refine Wp.go (x := (.istore_n 1, 1, 0, 0)) rfl 2 [some (.ref r0), some (.int (nI 0))] [] rfl ⟨rfl, rfl, rfl, rfl⟩ ?_
  exact H
set_option maxRecDepth 20000 in
theorem wX11_clearLatest_2 {d : Nat} {Q : Option Value × xS → Prop} {K : Nat → Nat × Nat} {P : List Nat × Nat × Nat} {I : Nat → Nat → Int32} {J : Nat → Nat → Int64} {F : Nat → Nat → Option Nat} {r0 : Nat} {x1 : Int32} {n_r0 : Nat} {f1 : Nat} {n_f1 : Nat} (hK : ∀ {a k n : Nat}, K a = (k, n) → n < 2147483648) (hn_r0 : K r0 = (10, n_r0)) (hf1 : F r0 21 = some f1) (hn_f1 : K f1 = (100, n_f1)) (H : (((nI 4) ≤ x1 → Q (none, (K, P, I, J, F))) ∧ (¬ (nI 4) ≤ x1 → (∃ j2 : Nat, x1 = nI j2 ∧ j2 < n_f1 ∧ Wp d 121 2 [some (.ref r0), some (.int (x1 + nI 1))] [] (K, P, (xup I f1 j2 (nI 1)), J, F) Q)))) : Wp d 121 2 [some (.ref r0), some (.int x1)] [] (K, P, I, J, F) Q := by
  refine Wp.go (x := (.iload_n 1, 1, 0, 0)) rfl 3 [some (.ref r0), some (.int x1)] [.int x1] rfl ⟨rfl, rfl, rfl, rfl⟩ ?_
  refine Wp.ic (v := nI 4) rfl rfl (by decide) ?_
  refine Wp.c_ge rfl rfl ⟨fun c => ?_, fun c => ?_⟩
  · have H := H.1 c
    exact Wp.rV rfl rfl H
  · have H := H.2 c
    refine Wp.go (x := (.aload_n 0, 1, 0, 0)) rfl 8 [some (.ref r0), some (.int x1)] [.ref r0] rfl ⟨rfl, rfl, rfl, rfl⟩ ?_
    refine Wp.gR rfl rfl hn_r0 rfl rfl hf1 ?_
    refine Wp.go (x := (.iload_n 1, 1, 0, 0)) rfl 12 [some (.ref r0), some (.int x1)] [.int x1, .ref f1] rfl ⟨rfl, rfl, rfl, rfl⟩ ?_
    refine Wp.ic (v := nI 1) rfl rfl (by decide) ?_
    obtain ⟨j2, e, b, H⟩ := H
    refine Wp.ast rfl rfl hn_f1 (hK hn_f1) ⟨j2, e, b, ?_⟩
    refine Wp.ii (v := nI 1) rfl rfl (by decide) rfl (L' := [some (.ref r0), some (.int (x1 + nI 1))]) rfl ?_
    refine Wp.go (x := (.goto (-15), 3, 2, 0)) rfl 2 [some (.ref r0), some (.int (x1 + nI 1))] [] rfl ⟨rfl, rfl, rfl, rfl⟩ ?_
    exact H
set_option maxRecDepth 20000 in
theorem wX11_ahead_0 {d : Nat} {Q : Option Value × xS → Prop} {K : Nat → Nat × Nat} {P : List Nat × Nat × Nat} {I : Nat → Nat → Int32} {J : Nat → Nat → Int64} {F : Nat → Nat → Option Nat} {r0 : Nat} {x1 : Int32} {x2 : Int32}  (H : Wp d 122 2 [some (.ref r0), some (.int x1), none, some (.int x2)] [] (K, P, I, J, F) Q) : Wp d 122 0 [some (.ref r0), some (.int x1), some (.int x2), none] [] (K, P, I, J, F) Q := by
  refine Wp.go (x := (.iload_n 2, 1, 0, 0)) rfl 1 [some (.ref r0), some (.int x1), some (.int x2), none] [.int x2] rfl ⟨rfl, rfl, rfl, rfl⟩ ?_
  refine Wp.go (x := (.istore_n 3, 1, 0, 0)) rfl 2 [some (.ref r0), some (.int x1), some (.int x2), some (.int x2)] [] rfl ⟨rfl, rfl, rfl, rfl⟩ ?_
  exact Wp.wk (L := [some (.ref r0), some (.int x1), none, some (.int x2)]) ⟨Or.inr rfl, Or.inr rfl, Or.inl rfl, Or.inr rfl, trivial⟩ H
set_option maxRecDepth 20000 in
theorem wX11_ahead_2 {d : Nat} {Q : Option Value × xS → Prop} {K : Nat → Nat × Nat} {P : List Nat × Nat × Nat} {I : Nat → Nat → Int32} {J : Nat → Nat → Int64} {F : Nat → Nat → Option Nat} {r0 : Nat} {x1 : Int32} {x3 : Int32} {n_r0 : Nat} {f1 : Nat} {n_f1 : Nat} (hK : ∀ {a k n : Nat}, K a = (k, n) → n < 2147483648) (hn_r0 : K r0 = (10, n_r0)) (hf1 : F r0 21 = some f1) (hn_f1 : K f1 = (100, n_f1)) (H : ((x3 ≤ 0 → (∃ j2 : Nat, (nI 0) = nI j2 ∧ j2 < n_f1 ∧ Q (none, (K, P, (xup I f1 j2 x1), J, F)))) ∧ (¬ x3 ≤ 0 → (∃ j3 : Nat, (x3 - (nI 1)) = nI j3 ∧ j3 < n_f1 ∧ (∃ j4 : Nat, x3 = nI j4 ∧ j4 < n_f1 ∧ Wp d 122 2 [some (.ref r0), some (.int x1), none, some (.int (x3 + (-1)))] [] (K, P, (xup I f1 j4 (I f1 j3)), J, F) Q))))) : Wp d 122 2 [some (.ref r0), some (.int x1), none, some (.int x3)] [] (K, P, I, J, F) Q := by
  refine Wp.go (x := (.iload_n 3, 1, 0, 0)) rfl 3 [some (.ref r0), some (.int x1), none, some (.int x3)] [.int x3] rfl ⟨rfl, rfl, rfl, rfl⟩ ?_
  refine Wp.z_le rfl rfl ⟨fun c => ?_, fun c => ?_⟩
  · have H := H.1 c
    refine Wp.go (x := (.aload_n 0, 1, 0, 0)) rfl 27 [some (.ref r0), some (.int x1), none, some (.int x3)] [.ref r0] rfl ⟨rfl, rfl, rfl, rfl⟩ ?_
    refine Wp.gR rfl rfl hn_r0 rfl rfl hf1 ?_
    refine Wp.ic (v := nI 0) rfl rfl (by decide) ?_
    refine Wp.go (x := (.iload_n 1, 1, 0, 0)) rfl 32 [some (.ref r0), some (.int x1), none, some (.int x3)] [.int x1, .int (nI 0), .ref f1] rfl ⟨rfl, rfl, rfl, rfl⟩ ?_
    obtain ⟨j2, e, b, H⟩ := H
    refine Wp.ast rfl rfl hn_f1 (hK hn_f1) ⟨j2, e, b, ?_⟩
    exact Wp.rV rfl rfl H
  · have H := H.2 c
    refine Wp.go (x := (.aload_n 0, 1, 0, 0)) rfl 7 [some (.ref r0), some (.int x1), none, some (.int x3)] [.ref r0] rfl ⟨rfl, rfl, rfl, rfl⟩ ?_
    refine Wp.gR rfl rfl hn_r0 rfl rfl hf1 ?_
    refine Wp.go (x := (.iload_n 3, 1, 0, 0)) rfl 11 [some (.ref r0), some (.int x1), none, some (.int x3)] [.int x3, .ref f1] rfl ⟨rfl, rfl, rfl, rfl⟩ ?_
    refine Wp.go (x := (.aload_n 0, 1, 0, 0)) rfl 12 [some (.ref r0), some (.int x1), none, some (.int x3)] [.ref r0, .int x3, .ref f1] rfl ⟨rfl, rfl, rfl, rfl⟩ ?_
    refine Wp.gR rfl rfl hn_r0 rfl rfl hf1 ?_
    refine Wp.go (x := (.iload_n 3, 1, 0, 0)) rfl 16 [some (.ref r0), some (.int x1), none, some (.int x3)] [.int x3, .ref f1, .int x3, .ref f1] rfl ⟨rfl, rfl, rfl, rfl⟩ ?_
    refine Wp.ic (v := nI 1) rfl rfl (by decide) ?_
    refine Wp.go (x := (.isub, 1, 0, 0)) rfl 18 [some (.ref r0), some (.int x1), none, some (.int x3)] [.int (x3 - (nI 1)), .ref f1, .int x3, .ref f1] rfl ⟨rfl, rfl, rfl, rfl⟩ ?_
    obtain ⟨j3, e, b, H⟩ := H
    refine Wp.ald rfl rfl hn_f1 (Or.inl rfl) (hK hn_f1) ⟨j3, e, b, ?_⟩
    obtain ⟨j4, e, b, H⟩ := H
    refine Wp.ast rfl rfl hn_f1 (hK hn_f1) ⟨j4, e, b, ?_⟩
    refine Wp.ii (v := (-1)) rfl rfl (by decide) rfl (L' := [some (.ref r0), some (.int x1), none, some (.int (x3 + (-1)))]) rfl ?_
    refine Wp.go (x := (.goto (-21), 3, 2, 0)) rfl 2 [some (.ref r0), some (.int x1), none, some (.int (x3 + (-1)))] [] rfl ⟨rfl, rfl, rfl, rfl⟩ ?_
    exact H
set_option maxRecDepth 20000 in
theorem wX11_longestOf_0 {d : Nat} {Q : Option Value × xS → Prop} {K : Nat → Nat × Nat} {P : List Nat × Nat × Nat} {I : Nat → Nat → Int32} {J : Nat → Nat → Int64} {F : Nat → Nat → Option Nat} {r0 : Nat} {x1 : Int32} {n_r0 : Nat} (hn_r0 : K r0 = (10, n_r0)) (H : (((I r0 3) ≤ x1 → Wp (d + 1) 123 17 [some (.ref r0), some (.int x1), none, none, none] [.int (nI 0)] (K, P, I, J, F) Q) ∧ (¬ (I r0 3) ≤ x1 → Wp d 108 0 [some (.ref r0), some (.int x1), none] [] (K, P, I, J, F) (xrI K P F (fun v1 I2 J3 => Wp (d + 1) 123 17 [some (.ref r0), some (.int x1), none, none, none] [.int v1] (K, P, I2, J3, F) Q))))) : Wp (d + 1) 123 0 [some (.ref r0), some (.int x1), none, none, none] [] (K, P, I, J, F) Q := by
  refine Wp.go (x := (.iload_n 1, 1, 0, 0)) rfl 1 [some (.ref r0), some (.int x1), none, none, none] [.int x1] rfl ⟨rfl, rfl, rfl, rfl⟩ ?_
  refine Wp.go (x := (.aload_n 0, 1, 0, 0)) rfl 2 [some (.ref r0), some (.int x1), none, none, none] [.ref r0, .int x1] rfl ⟨rfl, rfl, rfl, rfl⟩ ?_
  refine Wp.gI rfl rfl hn_r0 rfl ⟨by decide, by decide⟩ ?_
  refine Wp.c_ge rfl rfl ⟨fun c => ?_, fun c => ?_⟩
  · have H := H.1 c
    refine Wp.ic (v := nI 0) rfl rfl (by decide) ?_
    exact H
  · have H := H.2 c
    refine Wp.go (x := (.aload_n 0, 1, 0, 0)) rfl 9 [some (.ref r0), some (.int x1), none, none, none] [.ref r0] rfl ⟨rfl, rfl, rfl, rfl⟩ ?_
    refine Wp.go (x := (.iload_n 1, 1, 0, 0)) rfl 10 [some (.ref r0), some (.int x1), none, none, none] [.int x1, .ref r0] rfl ⟨rfl, rfl, rfl, rfl⟩ ?_
    refine Wp.kI (x := (.invokevirtual 193, 3, 108, 2)) (j := 108) (vs := [.ref r0, .int x1]) (rest := []) rfl (by show xtg 108 (K r0).1 = _; rw [hn_r0]; rfl) rfl ⟨Nat.le_of_ble_eq_true rfl, Nat.le_of_ble_eq_true rfl, Nat.le_of_ble_eq_true rfl⟩ rfl rfl rfl H (fun v1 I2 J3 H => ?_)
    refine Wp.go (x := (.goto 4, 3, 17, 0)) rfl 17 [some (.ref r0), some (.int x1), none, none, none] [.int v1] rfl ⟨rfl, rfl, rfl, rfl⟩ ?_
    exact H
set_option maxRecDepth 20000 in
theorem wX11_longestOf_17 {d : Nat} {Q : Option Value × xS → Prop} {K : Nat → Nat × Nat} {P : List Nat × Nat × Nat} {I : Nat → Nat → Int32} {J : Nat → Nat → Int64} {F : Nat → Nat → Option Nat} {r0 : Nat} {x1 : Int32} {s0 : Int32} {n_r0 : Nat} (hn_r0 : K r0 = (10, n_r0)) (H : ((¬ (((xup I r0 22 (nI 1))) r0 1) = (nI 2) → Q (some (.int s0), (K, P, (xup I r0 22 (nI 1)), J, F))) ∧ ((((xup I r0 22 (nI 1))) r0 1) = (nI 2) → (((((xup I r0 22 (nI 1))) r0 3) ≤ x1 → Q (some (.int s0), (K, P, (xup I r0 22 (nI 1)), J, F))) ∧ (¬ (((xup I r0 22 (nI 1))) r0 3) ≤ x1 → Wp d 123 41 [some (.ref r0), some (.int x1), some (.int s0), some (.int (nI 3)), none] [] (K, P, (xup I r0 22 (nI 1)), J, F) Q))))) : Wp d 123 17 [some (.ref r0), some (.int x1), none, none, none] [.int s0] (K, P, I, J, F) Q := by
  refine Wp.go (x := (.istore_n 2, 1, 0, 0)) rfl 18 [some (.ref r0), some (.int x1), some (.int s0), none, none] [] rfl ⟨rfl, rfl, rfl, rfl⟩ ?_
  refine Wp.go (x := (.aload_n 0, 1, 0, 0)) rfl 19 [some (.ref r0), some (.int x1), some (.int s0), none, none] [.ref r0] rfl ⟨rfl, rfl, rfl, rfl⟩ ?_
  refine Wp.ic (v := nI 1) rfl rfl (by decide) ?_
  refine Wp.pI rfl rfl hn_r0 rfl (Or.inl rfl) ?_
  refine Wp.go (x := (.aload_n 0, 1, 0, 0)) rfl 24 [some (.ref r0), some (.int x1), some (.int s0), none, none] [.ref r0] rfl ⟨rfl, rfl, rfl, rfl⟩ ?_
  refine Wp.gI rfl rfl hn_r0 rfl ⟨by decide, by decide⟩ ?_
  refine Wp.ic (v := nI 2) rfl rfl (by decide) ?_
  refine Wp.c_ne rfl rfl ⟨fun c => ?_, fun c => ?_⟩
  · have H := H.1 c
    refine Wp.go (x := (.iload_n 2, 1, 0, 0)) rfl 92 [some (.ref r0), some (.int x1), some (.int s0), none, none] [.int s0] rfl ⟨rfl, rfl, rfl, rfl⟩ ?_
    exact Wp.rI rfl rfl H
  · have H := H.2 c
    refine Wp.go (x := (.iload_n 1, 1, 0, 0)) rfl 32 [some (.ref r0), some (.int x1), some (.int s0), none, none] [.int x1] rfl ⟨rfl, rfl, rfl, rfl⟩ ?_
    refine Wp.go (x := (.aload_n 0, 1, 0, 0)) rfl 33 [some (.ref r0), some (.int x1), some (.int s0), none, none] [.ref r0, .int x1] rfl ⟨rfl, rfl, rfl, rfl⟩ ?_
    refine Wp.gI rfl rfl hn_r0 rfl ⟨by decide, by decide⟩ ?_
    refine Wp.c_ge rfl rfl ⟨fun c => ?_, fun c => ?_⟩
    · have H := H.1 c
      refine Wp.go (x := (.iload_n 2, 1, 0, 0)) rfl 92 [some (.ref r0), some (.int x1), some (.int s0), none, none] [.int s0] rfl ⟨rfl, rfl, rfl, rfl⟩ ?_
      exact Wp.rI rfl rfl H
    · have H := H.2 c
      refine Wp.ic (v := nI 3) rfl rfl (by decide) ?_
      refine Wp.go (x := (.istore_n 3, 1, 0, 0)) rfl 41 [some (.ref r0), some (.int x1), some (.int s0), some (.int (nI 3)), none] [] rfl ⟨rfl, rfl, rfl, rfl⟩ ?_
      exact H
