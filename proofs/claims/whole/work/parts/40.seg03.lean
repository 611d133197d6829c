set_option maxRecDepth 20000 in
theorem wX9_noteCopies_0 {d : Nat} {Q : Option Value × xS → Prop} {K : Nat → Nat × Nat} {P : List Nat × Nat × Nat} {I : Nat → Nat → Int32} {J : Nat → Nat → Int64} {F : Nat → Nat → Option Nat} {r0 : Nat} {x1 : Int32} {x2 : Int32} {x3 : Int32} {n_r0 : Nat} {f1 : Nat} {n_f1 : Nat} (hK : ∀ {a k n : Nat}, K a = (k, n) → n < 2147483648) (hn_r0 : K r0 = (8, n_r0)) (hf1 : F r0 4 = some f1) (hn_f1 : K f1 = (100, n_f1)) (H : (∃ j2 : Nat, x2 = nI j2 ∧ j2 < n_f1 ∧ Wp (d + 1) 68 18 [some (.ref r0), some (.int x1), some (.int x2), none, some (.int (if (I r0 1) < (I f1 j2) then (I r0 1) else (I f1 j2))), some (.int x3)] [] (K, P, I, J, F) Q)) : Wp (d + 1) 68 0 [some (.ref r0), some (.int x1), some (.int x2), some (.int x3), none, none] [] (K, P, I, J, F) Q := by
  refine Wp.go (x := (.aload_n 0, 1, 0, 0)) rfl 1 [some (.ref r0), some (.int x1), some (.int x2), some (.int x3), none, none] [.ref r0] rfl ⟨rfl, rfl, rfl, rfl⟩ ?_
  refine Wp.gR rfl rfl hn_r0 rfl rfl hf1 ?_
  refine Wp.go (x := (.iload_n 2, 1, 0, 0)) rfl 5 [some (.ref r0), some (.int x1), some (.int x2), some (.int x3), none, none] [.int x2, .ref f1] rfl ⟨rfl, rfl, rfl, rfl⟩ ?_
  obtain ⟨j2, e, b, H⟩ := H
  refine Wp.ald rfl rfl hn_f1 (Or.inl rfl) (hK hn_f1) ⟨j2, e, b, ?_⟩
  refine Wp.go (x := (.aload_n 0, 1, 0, 0)) rfl 7 [some (.ref r0), some (.int x1), some (.int x2), some (.int x3), none, none] [.ref r0, .int (I f1 j2)] rfl ⟨rfl, rfl, rfl, rfl⟩ ?_
  refine Wp.gI rfl rfl hn_r0 rfl ⟨by decide, by decide⟩ ?_
  refine Wp.min rfl rfl (by omega) (Nat.le_of_ble_eq_true rfl) ?_
  refine Wp.go (x := (.istore 4, 2, 0, 0)) rfl 15 [some (.ref r0), some (.int x1), some (.int x2), some (.int x3), some (.int (if (I r0 1) < (I f1 j2) then (I r0 1) else (I f1 j2))), none] [] rfl ⟨rfl, rfl, rfl, rfl⟩ ?_
  refine Wp.go (x := (.iload_n 3, 1, 0, 0)) rfl 16 [some (.ref r0), some (.int x1), some (.int x2), some (.int x3), some (.int (if (I r0 1) < (I f1 j2) then (I r0 1) else (I f1 j2))), none] [.int x3] rfl ⟨rfl, rfl, rfl, rfl⟩ ?_
  refine Wp.go (x := (.istore 5, 2, 0, 0)) rfl 18 [some (.ref r0), some (.int x1), some (.int x2), some (.int x3), some (.int (if (I r0 1) < (I f1 j2) then (I r0 1) else (I f1 j2))), some (.int x3)] [] rfl ⟨rfl, rfl, rfl, rfl⟩ ?_
  exact Wp.wk (L := [some (.ref r0), some (.int x1), some (.int x2), none, some (.int (if (I r0 1) < (I f1 j2) then (I r0 1) else (I f1 j2))), some (.int x3)]) ⟨Or.inr rfl, Or.inr rfl, Or.inr rfl, Or.inl rfl, Or.inr rfl, Or.inr rfl, trivial⟩ H
set_option maxRecDepth 20000 in
theorem wX9_noteCopies_18 {d : Nat} {Q : Option Value × xS → Prop} {K : Nat → Nat × Nat} {P : List Nat × Nat × Nat} {I : Nat → Nat → Int32} {J : Nat → Nat → Int64} {F : Nat → Nat → Option Nat} {r0 : Nat} {x1 : Int32} {x2 : Int32} {x4 : Int32} {x5 : Int32} {n_r0 : Nat} {f1 : Nat} {n_f1 : Nat} {f6 : Nat} {n_f6 : Nat} (hK : ∀ {a k n : Nat}, K a = (k, n) → n < 2147483648) (hn_r0 : K r0 = (8, n_r0)) (hf1 : F r0 5 = some f1) (hn_f1 : K f1 = (100, n_f1)) (hf6 : F r0 6 = some f6) (hn_f6 : K f6 = (100, n_f6)) (H : ((x4 < x5 → Q (none, (K, P, I, J, F))) ∧ (¬ x4 < x5 → Wp d 72 0 [some (.int x1), some (.int x5)] [] (K, P, I, J, F) (xrI K P F (fun v2 I3 J4 => (∃ j5 : Nat, v2 = nI j5 ∧ j5 < n_f1 ∧ (∃ j7 : Nat, ((x1 - x5) + (nI 1)) = nI j7 ∧ j7 < n_f6 ∧ Wp (d + 1) 68 18 [some (.ref r0), some (.int x1), some (.int x2), none, some (.int x4), some (.int (x5 + nI 1))] [] (K, P, (xup ((xup I3 f1 j5 x2)) f6 j7 x5), J4, F) Q))))))) : Wp (d + 1) 68 18 [some (.ref r0), some (.int x1), some (.int x2), none, some (.int x4), some (.int x5)] [] (K, P, I, J, F) Q := by
  refine Wp.go (x := (.iload 5, 2, 0, 0)) rfl 20 [some (.ref r0), some (.int x1), some (.int x2), none, some (.int x4), some (.int x5)] [.int x5] rfl ⟨rfl, rfl, rfl, rfl⟩ ?_
  refine Wp.go (x := (.iload 4, 2, 0, 0)) rfl 22 [some (.ref r0), some (.int x1), some (.int x2), none, some (.int x4), some (.int x5)] [.int x4, .int x5] rfl ⟨rfl, rfl, rfl, rfl⟩ ?_
  refine Wp.c_gt rfl rfl ⟨fun c => ?_, fun c => ?_⟩
  · have H := H.1 c
    exact Wp.rV rfl rfl H
  · have H := H.2 c
    refine Wp.go (x := (.aload_n 0, 1, 0, 0)) rfl 26 [some (.ref r0), some (.int x1), some (.int x2), none, some (.int x4), some (.int x5)] [.ref r0] rfl ⟨rfl, rfl, rfl, rfl⟩ ?_
    refine Wp.gR rfl rfl hn_r0 rfl rfl hf1 ?_
    refine Wp.go (x := (.iload_n 1, 1, 0, 0)) rfl 30 [some (.ref r0), some (.int x1), some (.int x2), none, some (.int x4), some (.int x5)] [.int x1, .ref f1] rfl ⟨rfl, rfl, rfl, rfl⟩ ?_
    refine Wp.go (x := (.iload 5, 2, 0, 0)) rfl 32 [some (.ref r0), some (.int x1), some (.int x2), none, some (.int x4), some (.int x5)] [.int x5, .int x1, .ref f1] rfl ⟨rfl, rfl, rfl, rfl⟩ ?_
    refine Wp.kI (x := (.invokestatic 45, 3, 72, 2)) (j := 72) (vs := [.int x1, .int x5]) (rest := [.ref f1]) rfl rfl rfl ⟨Nat.le_of_ble_eq_true rfl, Nat.le_of_ble_eq_true rfl, Nat.le_of_ble_eq_true rfl⟩ rfl rfl rfl H (fun v2 I3 J4 H => ?_)
    refine Wp.go (x := (.iload_n 2, 1, 0, 0)) rfl 36 [some (.ref r0), some (.int x1), some (.int x2), none, some (.int x4), some (.int x5)] [.int x2, .int v2, .ref f1] rfl ⟨rfl, rfl, rfl, rfl⟩ ?_
    obtain ⟨j5, e, b, H⟩ := H
    refine Wp.ast rfl rfl hn_f1 (hK hn_f1) ⟨j5, e, b, ?_⟩
    refine Wp.go (x := (.aload_n 0, 1, 0, 0)) rfl 38 [some (.ref r0), some (.int x1), some (.int x2), none, some (.int x4), some (.int x5)] [.ref r0] rfl ⟨rfl, rfl, rfl, rfl⟩ ?_
    refine Wp.gR rfl rfl hn_r0 rfl rfl hf6 ?_
    refine Wp.go (x := (.iload_n 1, 1, 0, 0)) rfl 42 [some (.ref r0), some (.int x1), some (.int x2), none, some (.int x4), some (.int x5)] [.int x1, .ref f6] rfl ⟨rfl, rfl, rfl, rfl⟩ ?_
    refine Wp.go (x := (.iload 5, 2, 0, 0)) rfl 44 [some (.ref r0), some (.int x1), some (.int x2), none, some (.int x4), some (.int x5)] [.int x5, .int x1, .ref f6] rfl ⟨rfl, rfl, rfl, rfl⟩ ?_
    refine Wp.go (x := (.isub, 1, 0, 0)) rfl 45 [some (.ref r0), some (.int x1), some (.int x2), none, some (.int x4), some (.int x5)] [.int (x1 - x5), .ref f6] rfl ⟨rfl, rfl, rfl, rfl⟩ ?_
    refine Wp.ic (v := nI 1) rfl rfl (by decide) ?_
    refine Wp.go (x := (.iadd, 1, 0, 0)) rfl 47 [some (.ref r0), some (.int x1), some (.int x2), none, some (.int x4), some (.int x5)] [.int ((x1 - x5) + (nI 1)), .ref f6] rfl ⟨rfl, rfl, rfl, rfl⟩ ?_
    refine Wp.go (x := (.iload 5, 2, 0, 0)) rfl 49 [some (.ref r0), some (.int x1), some (.int x2), none, some (.int x4), some (.int x5)] [.int x5, .int ((x1 - x5) + (nI 1)), .ref f6] rfl ⟨rfl, rfl, rfl, rfl⟩ ?_
    obtain ⟨j7, e, b, H⟩ := H
    refine Wp.ast rfl rfl hn_f6 (hK hn_f6) ⟨j7, e, b, ?_⟩
    refine Wp.ii (v := nI 1) rfl rfl (by decide) rfl (L' := [some (.ref r0), some (.int x1), some (.int x2), none, some (.int x4), some (.int (x5 + nI 1))]) rfl ?_
    refine Wp.go (x := (.goto (-35), 3, 18, 0)) rfl 18 [some (.ref r0), some (.int x1), some (.int x2), none, some (.int x4), some (.int (x5 + nI 1))] [] rfl ⟨rfl, rfl, rfl, rfl⟩ ?_
    exact H
set_option maxRecDepth 20000 in
theorem wX9_longestCopy_0 {d : Nat} {Q : Option Value × xS → Prop} {K : Nat → Nat × Nat} {P : List Nat × Nat × Nat} {I : Nat → Nat → Int32} {J : Nat → Nat → Int64} {F : Nat → Nat → Option Nat} {r0 : Nat} {x1 : Int32} {n_r0 : Nat} {f4 : Nat} {n_f4 : Nat} (hK : ∀ {a k n : Nat}, K a = (k, n) → n < 2147483648) (hn_r0 : K r0 = (8, n_r0)) (hf4 : F r0 6 = some f4) (hn_f4 : K f4 = (100, n_f4)) (H : Wp d 66 0 [some (.ref r0), some (.int x1)] [] (K, P, I, J, F) (xrI K P F (fun v1 I2 J3 => ((v1 = 0 → Q (some (.int (nI 0)), (K, P, I2, J3, F))) ∧ (¬ v1 = 0 → (∃ j5 : Nat, x1 = nI j5 ∧ j5 < n_f4 ∧ (((I2 f4 j5) < (I2 r0 0) → Q (some (.int (nI 0)), (K, P, I2, J3, F))) ∧ (¬ (I2 f4 j5) < (I2 r0 0) → (∃ j6 : Nat, x1 = nI j6 ∧ j6 < n_f4 ∧ Q (some (.int (I2 f4 j6)), (K, P, I2, J3, F))))))))))) : Wp (d + 1) 69 0 [some (.ref r0), some (.int x1)] [] (K, P, I, J, F) Q := by
  refine Wp.go (x := (.aload_n 0, 1, 0, 0)) rfl 1 [some (.ref r0), some (.int x1)] [.ref r0] rfl ⟨rfl, rfl, rfl, rfl⟩ ?_
  refine Wp.go (x := (.iload_n 1, 1, 0, 0)) rfl 2 [some (.ref r0), some (.int x1)] [.int x1, .ref r0] rfl ⟨rfl, rfl, rfl, rfl⟩ ?_
  refine Wp.kI (x := (.invokevirtual 48, 3, 66, 2)) (j := 66) (vs := [.ref r0, .int x1]) (rest := []) rfl (by show xtg 66 (K r0).1 = _; rw [hn_r0]; rfl) rfl ⟨Nat.le_of_ble_eq_true rfl, Nat.le_of_ble_eq_true rfl, Nat.le_of_ble_eq_true rfl⟩ rfl rfl rfl H (fun v1 I2 J3 H => ?_)
  refine Wp.z_eq rfl rfl ⟨fun c => ?_, fun c => ?_⟩
  · have H := H.1 c
    refine Wp.ic (v := nI 0) rfl rfl (by decide) ?_
    exact Wp.rI rfl rfl H
  · have H := H.2 c
    refine Wp.go (x := (.aload_n 0, 1, 0, 0)) rfl 9 [some (.ref r0), some (.int x1)] [.ref r0] rfl ⟨rfl, rfl, rfl, rfl⟩ ?_
    refine Wp.gR rfl rfl hn_r0 rfl rfl hf4 ?_
    refine Wp.go (x := (.iload_n 1, 1, 0, 0)) rfl 13 [some (.ref r0), some (.int x1)] [.int x1, .ref f4] rfl ⟨rfl, rfl, rfl, rfl⟩ ?_
    obtain ⟨j5, e, b, H⟩ := H
    refine Wp.ald rfl rfl hn_f4 (Or.inl rfl) (hK hn_f4) ⟨j5, e, b, ?_⟩
    refine Wp.go (x := (.aload_n 0, 1, 0, 0)) rfl 15 [some (.ref r0), some (.int x1)] [.ref r0, .int (I2 f4 j5)] rfl ⟨rfl, rfl, rfl, rfl⟩ ?_
    refine Wp.gI rfl rfl hn_r0 rfl ⟨by decide, by decide⟩ ?_
    refine Wp.c_lt rfl rfl ⟨fun c => ?_, fun c => ?_⟩
    · have H := H.1 c
      refine Wp.ic (v := nI 0) rfl rfl (by decide) ?_
      exact Wp.rI rfl rfl H
    · have H := H.2 c
      refine Wp.go (x := (.aload_n 0, 1, 0, 0)) rfl 22 [some (.ref r0), some (.int x1)] [.ref r0] rfl ⟨rfl, rfl, rfl, rfl⟩ ?_
      refine Wp.gR rfl rfl hn_r0 rfl rfl hf4 ?_
      refine Wp.go (x := (.iload_n 1, 1, 0, 0)) rfl 26 [some (.ref r0), some (.int x1)] [.int x1, .ref f4] rfl ⟨rfl, rfl, rfl, rfl⟩ ?_
      obtain ⟨j6, e, b, H⟩ := H
      refine Wp.ald rfl rfl hn_f4 (Or.inl rfl) (hK hn_f4) ⟨j6, e, b, ?_⟩
      refine Wp.go (x := (.goto 4, 3, 31, 0)) rfl 31 [some (.ref r0), some (.int x1)] [.int (I2 f4 j6)] rfl ⟨rfl, rfl, rfl, rfl⟩ ?_
      exact Wp.rI rfl rfl H
set_option maxRecDepth 20000 in
theorem wX9_copyDistance_0 {d : Nat} {Q : Option Value × xS → Prop} {K : Nat → Nat × Nat} {P : List Nat × Nat × Nat} {I : Nat → Nat → Int32} {J : Nat → Nat → Int64} {F : Nat → Nat → Option Nat} {r0 : Nat} {x1 : Int32} {x2 : Int32} {n_r0 : Nat} {f4 : Nat} {n_f4 : Nat} {f6 : Nat} {n_f6 : Nat} (hK : ∀ {a k n : Nat}, K a = (k, n) → n < 2147483648) (hn_r0 : K r0 = (8, n_r0)) (hf4 : F r0 6 = some f4) (hn_f4 : K f4 = (100, n_f4)) (hf6 : F r0 5 = some f6) (hn_f6 : K f6 = (100, n_f6)) (H : Wp d 66 0 [some (.ref r0), some (.int x1)] [] (K, P, I, J, F) (xrI K P F (fun v1 I2 J3 => ((v1 = 0 → Q (some (.int (nI 0)), (K, P, I2, J3, F))) ∧ (¬ v1 = 0 → ((x2 < (I2 r0 0) → Q (some (.int (nI 0)), (K, P, I2, J3, F))) ∧ (¬ x2 < (I2 r0 0) → (∃ j5 : Nat, x1 = nI j5 ∧ j5 < n_f4 ∧ ((x2 ≤ (I2 f4 j5) → Wp d 72 0 [some (.int ((x1 + x2) - (nI 1))), some (.int x2)] [] (K, P, I2, J3, F) (xrI K P F (fun v7 I8 J9 => (∃ j10 : Nat, v7 = nI j10 ∧ j10 < n_f6 ∧ Q (some (.int (I8 f6 j10)), (K, P, I8, J9, F)))))) ∧ (¬ x2 ≤ (I2 f4 j5) → Q (some (.int (nI 0)), (K, P, I2, J3, F)))))))))))) : Wp (d + 1) 70 0 [some (.ref r0), some (.int x1), some (.int x2)] [] (K, P, I, J, F) Q := by
  refine Wp.go (x := (.aload_n 0, 1, 0, 0)) rfl 1 [some (.ref r0), some (.int x1), some (.int x2)] [.ref r0] rfl ⟨rfl, rfl, rfl, rfl⟩ ?_
  refine Wp.go (x := (.iload_n 1, 1, 0, 0)) rfl 2 [some (.ref r0), some (.int x1), some (.int x2)] [.int x1, .ref r0] rfl ⟨rfl, rfl, rfl, rfl⟩ ?_
  refine Wp.kI (x := (.invokevirtual 48, 3, 66, 2)) (j := 66) (vs := [.ref r0, .int x1]) (rest := []) rfl (by show xtg 66 (K r0).1 = _; rw [hn_r0]; rfl) rfl ⟨Nat.le_of_ble_eq_true rfl, Nat.le_of_ble_eq_true rfl, Nat.le_of_ble_eq_true rfl⟩ rfl rfl rfl H (fun v1 I2 J3 H => ?_)
  refine Wp.z_eq rfl rfl ⟨fun c => ?_, fun c => ?_⟩
  · have H := H.1 c
    refine Wp.ic (v := nI 0) rfl rfl (by decide) ?_
    exact Wp.rI rfl rfl H
  · have H := H.2 c
    refine Wp.go (x := (.iload_n 2, 1, 0, 0)) rfl 9 [some (.ref r0), some (.int x1), some (.int x2)] [.int x2] rfl ⟨rfl, rfl, rfl, rfl⟩ ?_
    refine Wp.go (x := (.aload_n 0, 1, 0, 0)) rfl 10 [some (.ref r0), some (.int x1), some (.int x2)] [.ref r0, .int x2] rfl ⟨rfl, rfl, rfl, rfl⟩ ?_
    refine Wp.gI rfl rfl hn_r0 rfl ⟨by decide, by decide⟩ ?_
    refine Wp.c_lt rfl rfl ⟨fun c => ?_, fun c => ?_⟩
    · have H := H.1 c
      refine Wp.ic (v := nI 0) rfl rfl (by decide) ?_
      exact Wp.rI rfl rfl H
    · have H := H.2 c
      refine Wp.go (x := (.iload_n 2, 1, 0, 0)) rfl 17 [some (.ref r0), some (.int x1), some (.int x2)] [.int x2] rfl ⟨rfl, rfl, rfl, rfl⟩ ?_
      refine Wp.go (x := (.aload_n 0, 1, 0, 0)) rfl 18 [some (.ref r0), some (.int x1), some (.int x2)] [.ref r0, .int x2] rfl ⟨rfl, rfl, rfl, rfl⟩ ?_
      refine Wp.gR rfl rfl hn_r0 rfl rfl hf4 ?_
      refine Wp.go (x := (.iload_n 1, 1, 0, 0)) rfl 22 [some (.ref r0), some (.int x1), some (.int x2)] [.int x1, .ref f4, .int x2] rfl ⟨rfl, rfl, rfl, rfl⟩ ?_
      obtain ⟨j5, e, b, H⟩ := H
      refine Wp.ald rfl rfl hn_f4 (Or.inl rfl) (hK hn_f4) ⟨j5, e, b, ?_⟩
      refine Wp.c_le rfl rfl ⟨fun c => ?_, fun c => ?_⟩
      · have H := H.1 c
        refine Wp.go (x := (.aload_n 0, 1, 0, 0)) rfl 29 [some (.ref r0), some (.int x1), some (.int x2)] [.ref r0] rfl ⟨rfl, rfl, rfl, rfl⟩ ?_
        refine Wp.gR rfl rfl hn_r0 rfl rfl hf6 ?_
        refine Wp.go (x := (.iload_n 1, 1, 0, 0)) rfl 33 [some (.ref r0), some (.int x1), some (.int x2)] [.int x1, .ref f6] rfl ⟨rfl, rfl, rfl, rfl⟩ ?_
        refine Wp.go (x := (.iload_n 2, 1, 0, 0)) rfl 34 [some (.ref r0), some (.int x1), some (.int x2)] [.int x2, .int x1, .ref f6] rfl ⟨rfl, rfl, rfl, rfl⟩ ?_
        refine Wp.go (x := (.iadd, 1, 0, 0)) rfl 35 [some (.ref r0), some (.int x1), some (.int x2)] [.int (x1 + x2), .ref f6] rfl ⟨rfl, rfl, rfl, rfl⟩ ?_
        refine Wp.ic (v := nI 1) rfl rfl (by decide) ?_
        refine Wp.go (x := (.isub, 1, 0, 0)) rfl 37 [some (.ref r0), some (.int x1), some (.int x2)] [.int ((x1 + x2) - (nI 1)), .ref f6] rfl ⟨rfl, rfl, rfl, rfl⟩ ?_
        refine Wp.go (x := (.iload_n 2, 1, 0, 0)) rfl 38 [some (.ref r0), some (.int x1), some (.int x2)] [.int x2, .int ((x1 + x2) - (nI 1)), .ref f6] rfl ⟨rfl, rfl, rfl, rfl⟩ ?_
        refine Wp.kI (x := (.invokestatic 45, 3, 72, 2)) (j := 72) (vs := [.int ((x1 + x2) - (nI 1)), .int x2]) (rest := [.ref f6]) rfl rfl rfl ⟨Nat.le_of_ble_eq_true rfl, Nat.le_of_ble_eq_true rfl, Nat.le_of_ble_eq_true rfl⟩ rfl rfl rfl H (fun v7 I8 J9 H => ?_)
        obtain ⟨j10, e, b, H⟩ := H
        refine Wp.ald rfl rfl hn_f6 (Or.inl rfl) (hK hn_f6) ⟨j10, e, b, ?_⟩
        exact Wp.rI rfl rfl H
      · have H := H.2 c
        refine Wp.ic (v := nI 0) rfl rfl (by decide) ?_
        exact Wp.rI rfl rfl H
set_option maxRecDepth 20000 in
theorem wX9_sameBy_0 {d : Nat} {Q : Option Value × xS → Prop} {K : Nat → Nat × Nat} {P : List Nat × Nat × Nat} {I : Nat → Nat → Int32} {J : Nat → Nat → Int64} {F : Nat → Nat → Option Nat} {r0 : Nat} {x1 : Int32} {x2 : Int32} {n_r0 : Nat} (hn_r0 : K r0 = (8, n_r0)) (H : ((x2 < (nI 1) → Q (some (.int (nI 0)), (K, P, I, J, F))) ∧ (¬ x2 < (nI 1) → ((x2 ≤ x1 → Wp (d + 1) 71 29 [some (.ref r0), some (.int x1), some (.int x2), some (.int (if (I r0 1) < ((I r0 3) - x1) then (I r0 1) else ((I r0 3) - x1))), some (.int (nI 0))] [] (K, P, I, J, F) Q) ∧ (¬ x2 ≤ x1 → Q (some (.int (nI 0)), (K, P, I, J, F))))))) : Wp (d + 1) 71 0 [some (.ref r0), some (.int x1), some (.int x2), none, none] [] (K, P, I, J, F) Q := by
  refine Wp.go (x := (.iload_n 2, 1, 0, 0)) rfl 1 [some (.ref r0), some (.int x1), some (.int x2), none, none] [.int x2] rfl ⟨rfl, rfl, rfl, rfl⟩ ?_
  refine Wp.ic (v := nI 1) rfl rfl (by decide) ?_
  refine Wp.c_lt rfl rfl ⟨fun c => ?_, fun c => ?_⟩
  · have H := H.1 c
    refine Wp.ic (v := nI 0) rfl rfl (by decide) ?_
    exact Wp.rI rfl rfl H
  · have H := H.2 c
    refine Wp.go (x := (.iload_n 2, 1, 0, 0)) rfl 6 [some (.ref r0), some (.int x1), some (.int x2), none, none] [.int x2] rfl ⟨rfl, rfl, rfl, rfl⟩ ?_
    refine Wp.go (x := (.iload_n 1, 1, 0, 0)) rfl 7 [some (.ref r0), some (.int x1), some (.int x2), none, none] [.int x1, .int x2] rfl ⟨rfl, rfl, rfl, rfl⟩ ?_
    refine Wp.c_le rfl rfl ⟨fun c => ?_, fun c => ?_⟩
    · have H := H.1 c
      refine Wp.go (x := (.aload_n 0, 1, 0, 0)) rfl 13 [some (.ref r0), some (.int x1), some (.int x2), none, none] [.ref r0] rfl ⟨rfl, rfl, rfl, rfl⟩ ?_
      refine Wp.gI rfl rfl hn_r0 rfl ⟨by decide, by decide⟩ ?_
      refine Wp.go (x := (.iload_n 1, 1, 0, 0)) rfl 17 [some (.ref r0), some (.int x1), some (.int x2), none, none] [.int x1, .int (I r0 3)] rfl ⟨rfl, rfl, rfl, rfl⟩ ?_
      refine Wp.go (x := (.isub, 1, 0, 0)) rfl 18 [some (.ref r0), some (.int x1), some (.int x2), none, none] [.int ((I r0 3) - x1)] rfl ⟨rfl, rfl, rfl, rfl⟩ ?_
      refine Wp.go (x := (.aload_n 0, 1, 0, 0)) rfl 19 [some (.ref r0), some (.int x1), some (.int x2), none, none] [.ref r0, .int ((I r0 3) - x1)] rfl ⟨rfl, rfl, rfl, rfl⟩ ?_
      refine Wp.gI rfl rfl hn_r0 rfl ⟨by decide, by decide⟩ ?_
      refine Wp.min rfl rfl (by omega) (Nat.le_of_ble_eq_true rfl) ?_
      refine Wp.go (x := (.istore_n 3, 1, 0, 0)) rfl 26 [some (.ref r0), some (.int x1), some (.int x2), some (.int (if (I r0 1) < ((I r0 3) - x1) then (I r0 1) else ((I r0 3) - x1))), none] [] rfl ⟨rfl, rfl, rfl, rfl⟩ ?_
      refine Wp.ic (v := nI 0) rfl rfl (by decide) ?_
      refine Wp.go (x := (.istore 4, 2, 0, 0)) rfl 29 [some (.ref r0), some (.int x1), some (.int x2), some (.int (if (I r0 1) < ((I r0 3) - x1) then (I r0 1) else ((I r0 3) - x1))), some (.int (nI 0))] [] rfl ⟨rfl, rfl, rfl, rfl⟩ ?_
      exact H
    · have H := H.2 c
      refine Wp.ic (v := nI 0) rfl rfl (by decide) ?_
      exact Wp.rI rfl rfl H
set_option maxRecDepth 20000 in
theorem wX9_sameBy_29 {d : Nat} {Q : Option Value × xS → Prop} {K : Nat → Nat × Nat} {P : List Nat × Nat × Nat} {I : Nat → Nat → Int32} {J : Nat → Nat → Int64} {F : Nat → Nat → Option Nat} {r0 : Nat} {x1 : Int32} {x2 : Int32} {x3 : Int32} {x4 : Int32} {n_r0 : Nat} {f1 : Nat} {n_f1 : Nat} (hK : ∀ {a k n : Nat}, K a = (k, n) → n < 2147483648) (hn_r0 : K r0 = (8, n_r0)) (hf1 : F r0 2 = some f1) (hn_f1 : K f1 = (100, n_f1)) (H : ((x3 ≤ x4 → Q (some (.int x4), (K, P, I, J, F))) ∧ (¬ x3 ≤ x4 → (∃ j2 : Nat, (x1 + x4) = nI j2 ∧ j2 < n_f1 ∧ (∃ j3 : Nat, ((x1 + x4) - x2) = nI j3 ∧ j3 < n_f1 ∧ ((¬ (I f1 j2) = (I f1 j3) → Q (some (.int x4), (K, P, I, J, F))) ∧ ((I f1 j2) = (I f1 j3) → Wp d 71 29 [some (.ref r0), some (.int x1), some (.int x2), some (.int x3), some (.int (x4 + nI 1))] [] (K, P, I, J, F) Q))))))) : Wp d 71 29 [some (.ref r0), some (.int x1), some (.int x2), some (.int x3), some (.int x4)] [] (K, P, I, J, F) Q := by
  refine Wp.go (x := (.iload 4, 2, 0, 0)) rfl 31 [some (.ref r0), some (.int x1), some (.int x2), some (.int x3), some (.int x4)] [.int x4] rfl ⟨rfl, rfl, rfl, rfl⟩ ?_
  refine Wp.go (x := (.iload_n 3, 1, 0, 0)) rfl 32 [some (.ref r0), some (.int x1), some (.int x2), some (.int x3), some (.int x4)] [.int x3, .int x4] rfl ⟨rfl, rfl, rfl, rfl⟩ ?_
  refine Wp.c_ge rfl rfl ⟨fun c => ?_, fun c => ?_⟩
  · have H := H.1 c
    refine Wp.go (x := (.iload 4, 2, 0, 0)) rfl 66 [some (.ref r0), some (.int x1), some (.int x2), some (.int x3), some (.int x4)] [.int x4] rfl ⟨rfl, rfl, rfl, rfl⟩ ?_
    exact Wp.rI rfl rfl H
  · have H := H.2 c
    refine Wp.go (x := (.aload_n 0, 1, 0, 0)) rfl 36 [some (.ref r0), some (.int x1), some (.int x2), some (.int x3), some (.int x4)] [.ref r0] rfl ⟨rfl, rfl, rfl, rfl⟩ ?_
    refine Wp.gR rfl rfl hn_r0 rfl rfl hf1 ?_
    refine Wp.go (x := (.iload_n 1, 1, 0, 0)) rfl 40 [some (.ref r0), some (.int x1), some (.int x2), some (.int x3), some (.int x4)] [.int x1, .ref f1] rfl ⟨rfl, rfl, rfl, rfl⟩ ?_
    refine Wp.go (x := (.iload 4, 2, 0, 0)) rfl 42 [some (.ref r0), some (.int x1), some (.int x2), some (.int x3), some (.int x4)] [.int x4, .int x1, .ref f1] rfl ⟨rfl, rfl, rfl, rfl⟩ ?_
    refine Wp.go (x := (.iadd, 1, 0, 0)) rfl 43 [some (.ref r0), some (.int x1), some (.int x2), some (.int x3), some (.int x4)] [.int (x1 + x4), .ref f1] rfl ⟨rfl, rfl, rfl, rfl⟩ ?_
    obtain ⟨j2, e, b, H⟩ := H
    refine Wp.ald rfl rfl hn_f1 (Or.inl rfl) (hK hn_f1) ⟨j2, e, b, ?_⟩
    refine Wp.go (x := (.aload_n 0, 1, 0, 0)) rfl 45 [some (.ref r0), some (.int x1), some (.int x2), some (.int x3), some (.int x4)] [.ref r0, .int (I f1 j2)] rfl ⟨rfl, rfl, rfl, rfl⟩ ?_
    refine Wp.gR rfl rfl hn_r0 rfl rfl hf1 ?_
    refine Wp.go (x := (.iload_n 1, 1, 0, 0)) rfl 49 [some (.ref r0), some (.int x1), some (.int x2), some (.int x3), some (.int x4)] [.int x1, .ref f1, .int (I f1 j2)] rfl ⟨rfl, rfl, rfl, rfl⟩ ?_
    refine Wp.go (x := (.iload 4, 2, 0, 0)) rfl 51 [some (.ref r0), some (.int x1), some (.int x2), some (.int x3), some (.int x4)] [.int x4, .int x1, .ref f1, .int (I f1 j2)] rfl ⟨rfl, rfl, rfl, rfl⟩ ?_
    refine Wp.go (x := (.iadd, 1, 0, 0)) rfl 52 [some (.ref r0), some (.int x1), some (.int x2), some (.int x3), some (.int x4)] [.int (x1 + x4), .ref f1, .int (I f1 j2)] rfl ⟨rfl, rfl, rfl, rfl⟩ ?_
    refine Wp.go (x := (.iload_n 2, 1, 0, 0)) rfl 53 [some (.ref r0), some (.int x1), some (.int x2), some (.int x3), some (.int x4)] [.int x2, .int (x1 + x4), .ref f1, .int (I f1 j2)] rfl ⟨rfl, rfl, rfl, rfl⟩ ?_
    refine Wp.go (x := (.isub, 1, 0, 0)) rfl 54 [some (.ref r0), some (.int x1), some (.int x2), some (.int x3), some (.int x4)] [.int ((x1 + x4) - x2), .ref f1, .int (I f1 j2)] rfl ⟨rfl, rfl, rfl, rfl⟩ ?_
    obtain ⟨j3, e, b, H⟩ := H
    refine Wp.ald rfl rfl hn_f1 (Or.inl rfl) (hK hn_f1) ⟨j3, e, b, ?_⟩
    refine Wp.c_ne rfl rfl ⟨fun c => ?_, fun c => ?_⟩
    · have H := H.1 c
      refine Wp.go (x := (.iload 4, 2, 0, 0)) rfl 66 [some (.ref r0), some (.int x1), some (.int x2), some (.int x3), some (.int x4)] [.int x4] rfl ⟨rfl, rfl, rfl, rfl⟩ ?_
      exact Wp.rI rfl rfl H
    · have H := H.2 c
      refine Wp.ii (v := nI 1) rfl rfl (by decide) rfl (L' := [some (.ref r0), some (.int x1), some (.int x2), some (.int x3), some (.int (x4 + nI 1))]) rfl ?_
      refine Wp.go (x := (.goto (-32), 3, 29, 0)) rfl 29 [some (.ref r0), some (.int x1), some (.int x2), some (.int x3), some (.int (x4 + nI 1))] [] rfl ⟨rfl, rfl, rfl, rfl⟩ ?_
      exact H
set_option maxRecDepth 20000 in
theorem wX9_nearestIndex_0 {d : Nat} {Q : Option Value × xS → Prop} {K : Nat → Nat × Nat} {P : List Nat × Nat × Nat} {I : Nat → Nat → Int32} {J : Nat → Nat → Int64} {F : Nat → Nat → Option Nat} {x0 : Int32} {x1 : Int32}  (H : (¬ (nI 2) = 0 ∧ Q (some (.int ((((x0 * (x0 - (nI 1))) / (nI 2)) + x1) - (nI 1))), (K, P, I, J, F)))) : Wp d 72 0 [some (.int x0), some (.int x1)] [] (K, P, I, J, F) Q := by
  refine Wp.go (x := (.iload_n 0, 1, 0, 0)) rfl 1 [some (.int x0), some (.int x1)] [.int x0] rfl ⟨rfl, rfl, rfl, rfl⟩ ?_
  refine Wp.go (x := (.iload_n 0, 1, 0, 0)) rfl 2 [some (.int x0), some (.int x1)] [.int x0, .int x0] rfl ⟨rfl, rfl, rfl, rfl⟩ ?_
  refine Wp.ic (v := nI 1) rfl rfl (by decide) ?_
  refine Wp.go (x := (.isub, 1, 0, 0)) rfl 4 [some (.int x0), some (.int x1)] [.int (x0 - (nI 1)), .int x0] rfl ⟨rfl, rfl, rfl, rfl⟩ ?_
  refine Wp.go (x := (.imul, 1, 0, 0)) rfl 5 [some (.int x0), some (.int x1)] [.int (x0 * (x0 - (nI 1)))] rfl ⟨rfl, rfl, rfl, rfl⟩ ?_
  refine Wp.ic (v := nI 2) rfl rfl (by decide) ?_
  obtain ⟨z, H⟩ := H
  refine Wp.idiv rfl rfl z ?_
  refine Wp.go (x := (.iload_n 1, 1, 0, 0)) rfl 8 [some (.int x0), some (.int x1)] [.int x1, .int ((x0 * (x0 - (nI 1))) / (nI 2))] rfl ⟨rfl, rfl, rfl, rfl⟩ ?_
  refine Wp.go (x := (.iadd, 1, 0, 0)) rfl 9 [some (.int x0), some (.int x1)] [.int (((x0 * (x0 - (nI 1))) / (nI 2)) + x1)] rfl ⟨rfl, rfl, rfl, rfl⟩ ?_
  refine Wp.ic (v := nI 1) rfl rfl (by decide) ?_
  refine Wp.go (x := (.isub, 1, 0, 0)) rfl 11 [some (.int x0), some (.int x1)] [.int ((((x0 * (x0 - (nI 1))) / (nI 2)) + x1) - (nI 1))] rfl ⟨rfl, rfl, rfl, rfl⟩ ?_
  exact Wp.rI rfl rfl H
set_option maxRecDepth 20000 in
theorem wX10_octets_0 {d : Nat} {Q : Option Value × xS → Prop} {K : Nat → Nat × Nat} {P : List Nat × Nat × Nat} {I : Nat → Nat → Int32} {J : Nat → Nat → Int64} {F : Nat → Nat → Option Nat} {r0 : Nat} {x1 : Int32} {y2 : Int64} {n_r0 : Nat} {f1 : Nat} {n_f1 : Nat} (hn_r0 : K r0 = (9, n_r0)) (hf1 : F r0 1 = some f1) (hn_f1 : K f1 = (8, n_f1)) (H : ((x1 < (nI 1) → Q (some (.int ((-1))), (K, P, I, J, F))) ∧ (¬ x1 < (nI 1) → (((nI 8) < x1 → Q (some (.int ((-1))), (K, P, I, J, F))) ∧ (¬ (nI 8) < x1 → ((((I f1 3) + x1) ≤ (nI 300) → Wp d 74 31 [some (.ref r0), some (.int x1), some (.long y2), none, some (.int (nI 0))] [] (K, P, I, J, F) Q) ∧ (¬ ((I f1 3) + x1) ≤ (nI 300) → Q (some (.int ((-1))), (K, P, I, J, F))))))))) : Wp d 74 0 [some (.ref r0), some (.int x1), some (.long y2), none, none] [] (K, P, I, J, F) Q := by
  refine Wp.go (x := (.iload_n 1, 1, 0, 0)) rfl 1 [some (.ref r0), some (.int x1), some (.long y2), none, none] [.int x1] rfl ⟨rfl, rfl, rfl, rfl⟩ ?_
  refine Wp.ic (v := nI 1) rfl rfl (by decide) ?_
  refine Wp.c_lt rfl rfl ⟨fun c => ?_, fun c => ?_⟩
  · have H := H.1 c
    refine Wp.ic (v := (-1)) rfl rfl (by decide) ?_
    exact Wp.rI rfl rfl H
  · have H := H.2 c
    refine Wp.go (x := (.iload_n 1, 1, 0, 0)) rfl 6 [some (.ref r0), some (.int x1), some (.long y2), none, none] [.int x1] rfl ⟨rfl, rfl, rfl, rfl⟩ ?_
    refine Wp.bp (v := nI 8) rfl rfl (by decide) ?_
    refine Wp.c_gt rfl rfl ⟨fun c => ?_, fun c => ?_⟩
    · have H := H.1 c
      refine Wp.ic (v := (-1)) rfl rfl (by decide) ?_
      exact Wp.rI rfl rfl H
    · have H := H.2 c
      refine Wp.go (x := (.aload_n 0, 1, 0, 0)) rfl 12 [some (.ref r0), some (.int x1), some (.long y2), none, none] [.ref r0] rfl ⟨rfl, rfl, rfl, rfl⟩ ?_
      refine Wp.gR rfl rfl hn_r0 rfl rfl hf1 ?_
      refine Wp.gI rfl rfl hn_f1 rfl ⟨by decide, by decide⟩ ?_
      refine Wp.go (x := (.iload_n 1, 1, 0, 0)) rfl 19 [some (.ref r0), some (.int x1), some (.long y2), none, none] [.int x1, .int (I f1 3)] rfl ⟨rfl, rfl, rfl, rfl⟩ ?_
      refine Wp.go (x := (.iadd, 1, 0, 0)) rfl 20 [some (.ref r0), some (.int x1), some (.long y2), none, none] [.int ((I f1 3) + x1)] rfl ⟨rfl, rfl, rfl, rfl⟩ ?_
      refine Wp.sp (v := nI 300) rfl rfl (by decide) ?_
      refine Wp.c_le rfl rfl ⟨fun c => ?_, fun c => ?_⟩
      · have H := H.1 c
        refine Wp.ic (v := nI 0) rfl rfl (by decide) ?_
        refine Wp.go (x := (.istore 4, 2, 0, 0)) rfl 31 [some (.ref r0), some (.int x1), some (.long y2), none, some (.int (nI 0))] [] rfl ⟨rfl, rfl, rfl, rfl⟩ ?_
        exact H
      · have H := H.2 c
        refine Wp.ic (v := (-1)) rfl rfl (by decide) ?_
        exact Wp.rI rfl rfl H
set_option maxRecDepth 20000 in
theorem wX10_octets_31 {d : Nat} {Q : Option Value × xS → Prop} {K : Nat → Nat × Nat} {P : List Nat × Nat × Nat} {I : Nat → Nat → Int32} {J : Nat → Nat → Int64} {F : Nat → Nat → Option Nat} {r0 : Nat} {x1 : Int32} {y2 : Int64} {x4 : Int32} {n_r0 : Nat} {f1 : Nat} {n_f1 : Nat} (hn_r0 : K r0 = (9, n_r0)) (hf1 : F r0 1 = some f1) (hn_f1 : K f1 = (8, n_f1)) (H : ((x1 ≤ x4 → Q (some (.int (((xup I r0 9 (nI 0))) f1 3)), (K, P, (xup I r0 9 (nI 0)), J, F))) ∧ (¬ x1 ≤ x4 → Wp d 67 0 [some (.ref f1), some (.int ((((y2.toUInt64 >>> (((nI 8) * x4).toInt64.toUInt64 &&& Int64.toUInt64 63)).toInt64).toInt32) &&& (nI 255))), none, none, none] [] (K, P, I, J, F) (xrV K P F (fun I2 J3 => Wp (d + 1) 74 31 [some (.ref r0), some (.int x1), some (.long y2), none, some (.int (x4 + nI 1))] [] (K, P, I2, J3, F) Q))))) : Wp (d + 1) 74 31 [some (.ref r0), some (.int x1), some (.long y2), none, some (.int x4)] [] (K, P, I, J, F) Q := by
  refine Wp.go (x := (.iload 4, 2, 0, 0)) rfl 33 [some (.ref r0), some (.int x1), some (.long y2), none, some (.int x4)] [.int x4] rfl ⟨rfl, rfl, rfl, rfl⟩ ?_
  refine Wp.go (x := (.iload_n 1, 1, 0, 0)) rfl 34 [some (.ref r0), some (.int x1), some (.long y2), none, some (.int x4)] [.int x1, .int x4] rfl ⟨rfl, rfl, rfl, rfl⟩ ?_
  refine Wp.c_ge rfl rfl ⟨fun c => ?_, fun c => ?_⟩
  · have H := H.1 c
    refine Wp.go (x := (.aload_n 0, 1, 0, 0)) rfl 63 [some (.ref r0), some (.int x1), some (.long y2), none, some (.int x4)] [.ref r0] rfl ⟨rfl, rfl, rfl, rfl⟩ ?_
    refine Wp.ic (v := nI 0) rfl rfl (by decide) ?_
    refine Wp.pI rfl rfl hn_r0 rfl (Or.inr ⟨rfl, Or.inl rfl⟩) ?_
    refine Wp.go (x := (.aload_n 0, 1, 0, 0)) rfl 68 [some (.ref r0), some (.int x1), some (.long y2), none, some (.int x4)] [.ref r0] rfl ⟨rfl, rfl, rfl, rfl⟩ ?_
    refine Wp.gR rfl rfl hn_r0 rfl rfl hf1 ?_
    refine Wp.gI rfl rfl hn_f1 rfl ⟨by decide, by decide⟩ ?_
    exact Wp.rI rfl rfl H
  · have H := H.2 c
    refine Wp.go (x := (.aload_n 0, 1, 0, 0)) rfl 38 [some (.ref r0), some (.int x1), some (.long y2), none, some (.int x4)] [.ref r0] rfl ⟨rfl, rfl, rfl, rfl⟩ ?_
    refine Wp.gR rfl rfl hn_r0 rfl rfl hf1 ?_
    refine Wp.go (x := (.lload_n 2, 1, 0, 0)) rfl 42 [some (.ref r0), some (.int x1), some (.long y2), none, some (.int x4)] [.long y2, .ref f1] rfl ⟨rfl, rfl, rfl, rfl⟩ ?_
    refine Wp.bp (v := nI 8) rfl rfl (by decide) ?_
    refine Wp.go (x := (.iload 4, 2, 0, 0)) rfl 46 [some (.ref r0), some (.int x1), some (.long y2), none, some (.int x4)] [.int x4, .int (nI 8), .long y2, .ref f1] rfl ⟨rfl, rfl, rfl, rfl⟩ ?_
    refine Wp.go (x := (.imul, 1, 0, 0)) rfl 47 [some (.ref r0), some (.int x1), some (.long y2), none, some (.int x4)] [.int ((nI 8) * x4), .long y2, .ref f1] rfl ⟨rfl, rfl, rfl, rfl⟩ ?_
    refine Wp.go (x := (.lushr, 1, 0, 0)) rfl 48 [some (.ref r0), some (.int x1), some (.long y2), none, some (.int x4)] [.long ((y2.toUInt64 >>> (((nI 8) * x4).toInt64.toUInt64 &&& Int64.toUInt64 63)).toInt64), .ref f1] rfl ⟨rfl, rfl, rfl, rfl⟩ ?_
    refine Wp.go (x := (.l2i, 1, 0, 0)) rfl 49 [some (.ref r0), some (.int x1), some (.long y2), none, some (.int x4)] [.int (((y2.toUInt64 >>> (((nI 8) * x4).toInt64.toUInt64 &&& Int64.toUInt64 63)).toInt64).toInt32), .ref f1] rfl ⟨rfl, rfl, rfl, rfl⟩ ?_
    refine Wp.sp (v := nI 255) rfl rfl (by decide) ?_
    refine Wp.go (x := (.iand, 1, 0, 0)) rfl 53 [some (.ref r0), some (.int x1), some (.long y2), none, some (.int x4)] [.int ((((y2.toUInt64 >>> (((nI 8) * x4).toInt64.toUInt64 &&& Int64.toUInt64 63)).toInt64).toInt32) &&& (nI 255)), .ref f1] rfl ⟨rfl, rfl, rfl, rfl⟩ ?_
    refine Wp.kV (x := (.invokevirtual 90, 3, 67, 2)) (j := 67) (vs := [.ref f1, .int ((((y2.toUInt64 >>> (((nI 8) * x4).toInt64.toUInt64 &&& Int64.toUInt64 63)).toInt64).toInt32) &&& (nI 255))]) (rest := []) rfl (by show xtg 67 (K f1).1 = _; rw [hn_f1]; rfl) rfl ⟨Nat.le_of_ble_eq_true rfl, Nat.le_of_ble_eq_true rfl, Nat.le_of_ble_eq_true rfl⟩ rfl rfl rfl H (fun I2 J3 H => ?_)
    refine Wp.ii (v := nI 1) rfl rfl (by decide) rfl (L' := [some (.ref r0), some (.int x1), some (.long y2), none, some (.int (x4 + nI 1))]) rfl ?_
    refine Wp.go (x := (.goto (-28), 3, 31, 0)) rfl 31 [some (.ref r0), some (.int x1), some (.long y2), none, some (.int (x4 + nI 1))] [] rfl ⟨rfl, rfl, rfl, rfl⟩ ?_
    exact H
set_option maxRecDepth 20000 in
theorem wX10_cost_0 {d : Nat} {Q : Option Value × xS → Prop} {K : Nat → Nat × Nat} {P : List Nat × Nat × Nat} {I : Nat → Nat → Int32} {J : Nat → Nat → Int64} {F : Nat → Nat → Option Nat} {r0 : Nat} {x1 : Int32} {x2 : Int32} {x3 : Int32} {n_r0 : Nat} {f1 : Nat} {n_f1 : Nat} (hn_r0 : K r0 = (9, n_r0)) (hf1 : F r0 2 = some f1) (hn_f1 : K f1 = (2, n_f1)) (H : Wp d 9 0 [some (.ref f1), some (.int x1), some (.int x2)] [] (K, P, I, J, F) (xrI K P F (fun v2 I3 J4 => ((v2 = 0 → Q (some (.int ((-1))), (K, P, I3, J4, F))) ∧ (¬ v2 = 0 → ((x3 < (nI 1) → Q (some (.int ((-1))), (K, P, I3, J4, F))) ∧ (¬ x3 < (nI 1) → ((x3 ≤ (nI 10000) → Wp d 10 0 [some (.ref f1), some (.int x1), some (.int x2)] [] (K, P, I3, J4, F) (xrI K P F (fun v5 I6 J7 => Wp d 11 0 [some (.ref f1), some (.int x1), some (.int x2), some (.int x3)] [] (K, P, I6, J7, F) (xrV K P F (fun I8 J9 => Q (some (.int v5), (K, P, I8, J9, F))))))) ∧ (¬ x3 ≤ (nI 10000) → Q (some (.int ((-1))), (K, P, I3, J4, F))))))))))) : Wp (d + 1) 75 0 [some (.ref r0), some (.int x1), some (.int x2), some (.int x3), none] [] (K, P, I, J, F) Q := by
  refine Wp.go (x := (.aload_n 0, 1, 0, 0)) rfl 1 [some (.ref r0), some (.int x1), some (.int x2), some (.int x3), none] [.ref r0] rfl ⟨rfl, rfl, rfl, rfl⟩ ?_
  refine Wp.gR rfl rfl hn_r0 rfl rfl hf1 ?_
  refine Wp.go (x := (.iload_n 1, 1, 0, 0)) rfl 5 [some (.ref r0), some (.int x1), some (.int x2), some (.int x3), none] [.int x1, .ref f1] rfl ⟨rfl, rfl, rfl, rfl⟩ ?_
  refine Wp.go (x := (.iload_n 2, 1, 0, 0)) rfl 6 [some (.ref r0), some (.int x1), some (.int x2), some (.int x3), none] [.int x2, .int x1, .ref f1] rfl ⟨rfl, rfl, rfl, rfl⟩ ?_
  refine Wp.kI (x := (.invokevirtual 97, 3, 9, 3)) (j := 9) (vs := [.ref f1, .int x1, .int x2]) (rest := []) rfl (by show xtg 9 (K f1).1 = _; rw [hn_f1]; rfl) rfl ⟨Nat.le_of_ble_eq_true rfl, Nat.le_of_ble_eq_true rfl, Nat.le_of_ble_eq_true rfl⟩ rfl rfl rfl H (fun v2 I3 J4 H => ?_)
  refine Wp.z_eq rfl rfl ⟨fun c => ?_, fun c => ?_⟩
  · have H := H.1 c
    refine Wp.ic (v := (-1)) rfl rfl (by decide) ?_
    exact Wp.rI rfl rfl H
  · have H := H.2 c
    refine Wp.go (x := (.iload_n 3, 1, 0, 0)) rfl 13 [some (.ref r0), some (.int x1), some (.int x2), some (.int x3), none] [.int x3] rfl ⟨rfl, rfl, rfl, rfl⟩ ?_
    refine Wp.ic (v := nI 1) rfl rfl (by decide) ?_
    refine Wp.c_lt rfl rfl ⟨fun c => ?_, fun c => ?_⟩
    · have H := H.1 c
      refine Wp.ic (v := (-1)) rfl rfl (by decide) ?_
      exact Wp.rI rfl rfl H
    · have H := H.2 c
      refine Wp.go (x := (.iload_n 3, 1, 0, 0)) rfl 18 [some (.ref r0), some (.int x1), some (.int x2), some (.int x3), none] [.int x3] rfl ⟨rfl, rfl, rfl, rfl⟩ ?_
      refine Wp.sp (v := nI 10000) rfl rfl (by decide) ?_
      refine Wp.c_le rfl rfl ⟨fun c => ?_, fun c => ?_⟩
      · have H := H.1 c
        refine Wp.go (x := (.aload_n 0, 1, 0, 0)) rfl 27 [some (.ref r0), some (.int x1), some (.int x2), some (.int x3), none] [.ref r0] rfl ⟨rfl, rfl, rfl, rfl⟩ ?_
        refine Wp.gR rfl rfl hn_r0 rfl rfl hf1 ?_
        refine Wp.go (x := (.iload_n 1, 1, 0, 0)) rfl 31 [some (.ref r0), some (.int x1), some (.int x2), some (.int x3), none] [.int x1, .ref f1] rfl ⟨rfl, rfl, rfl, rfl⟩ ?_
        refine Wp.go (x := (.iload_n 2, 1, 0, 0)) rfl 32 [some (.ref r0), some (.int x1), some (.int x2), some (.int x3), none] [.int x2, .int x1, .ref f1] rfl ⟨rfl, rfl, rfl, rfl⟩ ?_
        refine Wp.kI (x := (.invokevirtual 101, 3, 10, 3)) (j := 10) (vs := [.ref f1, .int x1, .int x2]) (rest := []) rfl (by show xtg 10 (K f1).1 = _; rw [hn_f1]; rfl) rfl ⟨Nat.le_of_ble_eq_true rfl, Nat.le_of_ble_eq_true rfl, Nat.le_of_ble_eq_true rfl⟩ rfl rfl rfl H (fun v5 I6 J7 H => ?_)
        refine Wp.go (x := (.istore 4, 2, 0, 0)) rfl 37 [some (.ref r0), some (.int x1), some (.int x2), some (.int x3), some (.int v5)] [] rfl ⟨rfl, rfl, rfl, rfl⟩ ?_
        refine Wp.go (x := (.aload_n 0, 1, 0, 0)) rfl 38 [some (.ref r0), some (.int x1), some (.int x2), some (.int x3), some (.int v5)] [.ref r0] rfl ⟨rfl, rfl, rfl, rfl⟩ ?_
        refine Wp.gR rfl rfl hn_r0 rfl rfl hf1 ?_
        refine Wp.go (x := (.iload_n 1, 1, 0, 0)) rfl 42 [some (.ref r0), some (.int x1), some (.int x2), some (.int x3), some (.int v5)] [.int x1, .ref f1] rfl ⟨rfl, rfl, rfl, rfl⟩ ?_
        refine Wp.go (x := (.iload_n 2, 1, 0, 0)) rfl 43 [some (.ref r0), some (.int x1), some (.int x2), some (.int x3), some (.int v5)] [.int x2, .int x1, .ref f1] rfl ⟨rfl, rfl, rfl, rfl⟩ ?_
        refine Wp.go (x := (.iload_n 3, 1, 0, 0)) rfl 44 [some (.ref r0), some (.int x1), some (.int x2), some (.int x3), some (.int v5)] [.int x3, .int x2, .int x1, .ref f1] rfl ⟨rfl, rfl, rfl, rfl⟩ ?_
        refine Wp.kV (x := (.invokevirtual 104, 3, 11, 4)) (j := 11) (vs := [.ref f1, .int x1, .int x2, .int x3]) (rest := []) rfl (by show xtg 11 (K f1).1 = _; rw [hn_f1]; rfl) rfl ⟨Nat.le_of_ble_eq_true rfl, Nat.le_of_ble_eq_true rfl, Nat.le_of_ble_eq_true rfl⟩ rfl rfl rfl H (fun I8 J9 H => ?_)
        refine Wp.go (x := (.iload 4, 2, 0, 0)) rfl 49 [some (.ref r0), some (.int x1), some (.int x2), some (.int x3), some (.int v5)] [.int v5] rfl ⟨rfl, rfl, rfl, rfl⟩ ?_
        exact Wp.rI rfl rfl H
      · have H := H.2 c
        refine Wp.ic (v := (-1)) rfl rfl (by decide) ?_
        exact Wp.rI rfl rfl H
set_option maxRecDepth 20000 in
theorem wX10_price_0 {d : Nat} {Q : Option Value × xS → Prop} {K : Nat → Nat × Nat} {P : List Nat × Nat × Nat} {I : Nat → Nat → Int32} {J : Nat → Nat → Int64} {F : Nat → Nat → Option Nat} {r0 : Nat} {x1 : Int32} {x2 : Int32} {n_r0 : Nat} {f1 : Nat} {n_f1 : Nat} (hn_r0 : K r0 = (9, n_r0)) (hf1 : F r0 2 = some f1) (hn_f1 : K f1 = (2, n_f1)) (H : Wp d 9 0 [some (.ref f1), some (.int x1), some (.int x2)] [] (K, P, I, J, F) (xrI K P F (fun v2 I3 J4 => ((v2 = 0 → Q (some (.int ((-1))), (K, P, I3, J4, F))) ∧ (¬ v2 = 0 → Wp d 10 0 [some (.ref f1), some (.int x1), some (.int x2)] [] (K, P, I3, J4, F) (xrI K P F (fun v5 I6 J7 => Q (some (.int v5), (K, P, I6, J7, F))))))))) : Wp (d + 1) 76 0 [some (.ref r0), some (.int x1), some (.int x2)] [] (K, P, I, J, F) Q := by
  refine Wp.go (x := (.aload_n 0, 1, 0, 0)) rfl 1 [some (.ref r0), some (.int x1), some (.int x2)] [.ref r0] rfl ⟨rfl, rfl, rfl, rfl⟩ ?_
  refine Wp.gR rfl rfl hn_r0 rfl rfl hf1 ?_
  refine Wp.go (x := (.iload_n 1, 1, 0, 0)) rfl 5 [some (.ref r0), some (.int x1), some (.int x2)] [.int x1, .ref f1] rfl ⟨rfl, rfl, rfl, rfl⟩ ?_
  refine Wp.go (x := (.iload_n 2, 1, 0, 0)) rfl 6 [some (.ref r0), some (.int x1), some (.int x2)] [.int x2, .int x1, .ref f1] rfl ⟨rfl, rfl, rfl, rfl⟩ ?_
  refine Wp.kI (x := (.invokevirtual 97, 3, 9, 3)) (j := 9) (vs := [.ref f1, .int x1, .int x2]) (rest := []) rfl (by show xtg 9 (K f1).1 = _; rw [hn_f1]; rfl) rfl ⟨Nat.le_of_ble_eq_true rfl, Nat.le_of_ble_eq_true rfl, Nat.le_of_ble_eq_true rfl⟩ rfl rfl rfl H (fun v2 I3 J4 H => ?_)
  refine Wp.z_eq rfl rfl ⟨fun c => ?_, fun c => ?_⟩
  · have H := H.1 c
    refine Wp.ic (v := (-1)) rfl rfl (by decide) ?_
    exact Wp.rI rfl rfl H
  · have H := H.2 c
    refine Wp.go (x := (.aload_n 0, 1, 0, 0)) rfl 13 [some (.ref r0), some (.int x1), some (.int x2)] [.ref r0] rfl ⟨rfl, rfl, rfl, rfl⟩ ?_
    refine Wp.gR rfl rfl hn_r0 rfl rfl hf1 ?_
    refine Wp.go (x := (.iload_n 1, 1, 0, 0)) rfl 17 [some (.ref r0), some (.int x1), some (.int x2)] [.int x1, .ref f1] rfl ⟨rfl, rfl, rfl, rfl⟩ ?_
    refine Wp.go (x := (.iload_n 2, 1, 0, 0)) rfl 18 [some (.ref r0), some (.int x1), some (.int x2)] [.int x2, .int x1, .ref f1] rfl ⟨rfl, rfl, rfl, rfl⟩ ?_
    refine Wp.kI (x := (.invokevirtual 101, 3, 10, 3)) (j := 10) (vs := [.ref f1, .int x1, .int x2]) (rest := []) rfl (by show xtg 10 (K f1).1 = _; rw [hn_f1]; rfl) rfl ⟨Nat.le_of_ble_eq_true rfl, Nat.le_of_ble_eq_true rfl, Nat.le_of_ble_eq_true rfl⟩ rfl rfl rfl H (fun v5 I6 J7 H => ?_)
    refine Wp.go (x := (.goto 4, 3, 25, 0)) rfl 25 [some (.ref r0), some (.int x1), some (.int x2)] [.int v5] rfl ⟨rfl, rfl, rfl, rfl⟩ ?_
    exact Wp.rI rfl rfl H
set_option maxRecDepth 20000 in
theorem wX10_keep_0 {d : Nat} {Q : Option Value × xS → Prop} {K : Nat → Nat × Nat} {P : List Nat × Nat × Nat} {I : Nat → Nat → Int32} {J : Nat → Nat → Int64} {F : Nat → Nat → Option Nat} {r0 : Nat} {x1 : Int32} {n_r0 : Nat} (hn_r0 : K r0 = (9, n_r0)) (H : ((x1 < (nI 1) → Q (some (.int ((-1))), (K, P, I, J, F))) ∧ (¬ x1 < (nI 1) → (((nI 40) < x1 → Q (some (.int ((-1))), (K, P, I, J, F))) ∧ (¬ (nI 40) < x1 → (((I r0 0) = (nI 2) → Q (some (.int (I r0 10)), (K, P, (xup I r0 10 x1), J, F))) ∧ (¬ (I r0 0) = (nI 2) → Q (some (.int ((-1))), (K, P, I, J, F))))))))) : Wp d 77 0 [some (.ref r0), some (.int x1), none] [] (K, P, I, J, F) Q := by
  refine Wp.go (x := (.iload_n 1, 1, 0, 0)) rfl 1 [some (.ref r0), some (.int x1), none] [.int x1] rfl ⟨rfl, rfl, rfl, rfl⟩ ?_
  refine Wp.ic (v := nI 1) rfl rfl (by decide) ?_
  refine Wp.c_lt rfl rfl ⟨fun c => ?_, fun c => ?_⟩
  · have H := H.1 c
    refine Wp.ic (v := (-1)) rfl rfl (by decide) ?_
    exact Wp.rI rfl rfl H
  · have H := H.2 c
    refine Wp.go (x := (.iload_n 1, 1, 0, 0)) rfl 6 [some (.ref r0), some (.int x1), none] [.int x1] rfl ⟨rfl, rfl, rfl, rfl⟩ ?_
    refine Wp.bp (v := nI 40) rfl rfl (by decide) ?_
    refine Wp.c_gt rfl rfl ⟨fun c => ?_, fun c => ?_⟩
    · have H := H.1 c
      refine Wp.ic (v := (-1)) rfl rfl (by decide) ?_
      exact Wp.rI rfl rfl H
    · have H := H.2 c
      refine Wp.go (x := (.aload_n 0, 1, 0, 0)) rfl 12 [some (.ref r0), some (.int x1), none] [.ref r0] rfl ⟨rfl, rfl, rfl, rfl⟩ ?_
      refine Wp.gI rfl rfl hn_r0 rfl ⟨by decide, by decide⟩ ?_
      refine Wp.ic (v := nI 2) rfl rfl (by decide) ?_
      refine Wp.c_eq rfl rfl ⟨fun c => ?_, fun c => ?_⟩
      · have H := H.1 c
        refine Wp.go (x := (.aload_n 0, 1, 0, 0)) rfl 22 [some (.ref r0), some (.int x1), none] [.ref r0] rfl ⟨rfl, rfl, rfl, rfl⟩ ?_
        refine Wp.gI rfl rfl hn_r0 rfl ⟨by decide, by decide⟩ ?_
        refine Wp.go (x := (.istore_n 2, 1, 0, 0)) rfl 26 [some (.ref r0), some (.int x1), some (.int (I r0 10))] [] rfl ⟨rfl, rfl, rfl, rfl⟩ ?_
        refine Wp.go (x := (.aload_n 0, 1, 0, 0)) rfl 27 [some (.ref r0), some (.int x1), some (.int (I r0 10))] [.ref r0] rfl ⟨rfl, rfl, rfl, rfl⟩ ?_
        refine Wp.go (x := (.iload_n 1, 1, 0, 0)) rfl 28 [some (.ref r0), some (.int x1), some (.int (I r0 10))] [.int x1, .ref r0] rfl ⟨rfl, rfl, rfl, rfl⟩ ?_
        refine Wp.pI rfl rfl hn_r0 rfl (Or.inl rfl) ?_
        refine Wp.go (x := (.iload_n 2, 1, 0, 0)) rfl 32 [some (.ref r0), some (.int x1), some (.int (I r0 10))] [.int (I r0 10)] rfl ⟨rfl, rfl, rfl, rfl⟩ ?_
        exact Wp.rI rfl rfl H
      · have H := H.2 c
        refine Wp.ic (v := (-1)) rfl rfl (by decide) ?_
        exact Wp.rI rfl rfl H
set_option maxRecDepth 20000 in
theorem wX10_parse_0 {d : Nat} {Q : Option Value × xS → Prop} {K : Nat → Nat × Nat} {P : List Nat × Nat × Nat} {I : Nat → Nat → Int32} {J : Nat → Nat → Int64} {F : Nat → Nat → Option Nat} {r0 : Nat} {x1 : Int32} {n_r0 : Nat} {f1 : Nat} {f2 : Nat} {n_f1 : Nat} {f5 : Nat} {f6 : Nat} {n_f6 : Nat} {k_f6 : Nat} {c7 : Nat} {n_f2 : Nat} (hn_r0 : K r0 = (9, n_r0)) (hf1 : F r0 5 = some f1) (hf2 : F r0 7 = some f2) (hn_f1 : K f1 = (7, n_f1)) (hf5 : F r0 1 = some f5) (hf6 : F r0 4 = some f6) (hn_f6 : K f6 = (k_f6, n_f6)) (hc8 : xtg 2000 k_f6 = some c7) (hl9 : 2 ≤ xnl c7) (hn_f2 : K f2 = (5, n_f2)) (H : ((x1 < 0 → Q (some (.int ((-1))), (K, P, I, J, F))) ∧ (¬ x1 < 0 → ((x1 ≤ (nI 3) → ((¬ x1 = (nI 3) → Wp d 62 0 [some (.ref f1), some (.ref f2), some (.int x1), none, none, none, none, none, none] [] (K, P, I, J, F) (xrV K P F (fun I3 J4 => Wp d c7 0 (xent (xnl c7) [.ref f6, .ref f2]) [] (K, P, I3, J4, F) (xrJ K P F (fun v10 I11 J12 => Wp d 55 0 [some (.ref f2), some (.ref f5), some (.long v10), none, some (.int (nI 0)), none, none] [] (K, P, I11, J12, F) (xrV K P F (fun I13 J14 => Q (some (.int (((xup I13 r0 9 (nI 1))) f2 5)), (K, P, (xup I13 r0 9 (nI 1)), J14, F))))))))) ∧ (x1 = (nI 3) → Wp d 92 0 [some (.ref r0), some (.ref f2)] [] (K, P, I, J, F) (xrV K P F (fun I15 J16 => Q (some (.int (((xup I15 r0 9 (nI 1))) f2 5)), (K, P, (xup I15 r0 9 (nI 1)), J16, F))))))) ∧ (¬ x1 ≤ (nI 3) → Q (some (.int ((-1))), (K, P, I, J, F))))))) : Wp (d + 1) 78 0 [some (.ref r0), some (.int x1)] [] (K, P, I, J, F) Q := by
  refine Wp.go (x := (.iload_n 1, 1, 0, 0)) rfl 1 [some (.ref r0), some (.int x1)] [.int x1] rfl ⟨rfl, rfl, rfl, rfl⟩ ?_
  refine Wp.z_lt rfl rfl ⟨fun c => ?_, fun c => ?_⟩
  · have H := H.1 c
    refine Wp.ic (v := (-1)) rfl rfl (by decide) ?_
    exact Wp.rI rfl rfl H
  · have H := H.2 c
    refine Wp.go (x := (.iload_n 1, 1, 0, 0)) rfl 5 [some (.ref r0), some (.int x1)] [.int x1] rfl ⟨rfl, rfl, rfl, rfl⟩ ?_
    refine Wp.ic (v := nI 3) rfl rfl (by decide) ?_
    refine Wp.c_le rfl rfl ⟨fun c => ?_, fun c => ?_⟩
    · have H := H.1 c
      refine Wp.go (x := (.iload_n 1, 1, 0, 0)) rfl 12 [some (.ref r0), some (.int x1)] [.int x1] rfl ⟨rfl, rfl, rfl, rfl⟩ ?_
      refine Wp.ic (v := nI 3) rfl rfl (by decide) ?_
      refine Wp.c_ne rfl rfl ⟨fun c => ?_, fun c => ?_⟩
      · have H := H.1 c
        refine Wp.go (x := (.aload_n 0, 1, 0, 0)) rfl 28 [some (.ref r0), some (.int x1)] [.ref r0] rfl ⟨rfl, rfl, rfl, rfl⟩ ?_
        refine Wp.gR rfl rfl hn_r0 rfl rfl hf1 ?_
        refine Wp.go (x := (.aload_n 0, 1, 0, 0)) rfl 32 [some (.ref r0), some (.int x1)] [.ref r0, .ref f1] rfl ⟨rfl, rfl, rfl, rfl⟩ ?_
        refine Wp.gR rfl rfl hn_r0 rfl rfl hf2 ?_
        refine Wp.go (x := (.iload_n 1, 1, 0, 0)) rfl 36 [some (.ref r0), some (.int x1)] [.int x1, .ref f2, .ref f1] rfl ⟨rfl, rfl, rfl, rfl⟩ ?_
        refine Wp.kV (x := (.invokevirtual 112, 3, 62, 3)) (j := 62) (vs := [.ref f1, .ref f2, .int x1]) (rest := []) rfl (by show xtg 62 (K f1).1 = _; rw [hn_f1]; rfl) rfl ⟨Nat.le_of_ble_eq_true rfl, Nat.le_of_ble_eq_true rfl, Nat.le_of_ble_eq_true rfl⟩ rfl rfl rfl H (fun I3 J4 H => ?_)
        refine Wp.go (x := (.aload_n 0, 1, 0, 0)) rfl 40 [some (.ref r0), some (.int x1)] [.ref r0] rfl ⟨rfl, rfl, rfl, rfl⟩ ?_
        refine Wp.gR rfl rfl hn_r0 rfl rfl hf2 ?_
        refine Wp.go (x := (.aload_n 0, 1, 0, 0)) rfl 44 [some (.ref r0), some (.int x1)] [.ref r0, .ref f2] rfl ⟨rfl, rfl, rfl, rfl⟩ ?_
        refine Wp.gR rfl rfl hn_r0 rfl rfl hf5 ?_
        refine Wp.go (x := (.aload_n 0, 1, 0, 0)) rfl 48 [some (.ref r0), some (.int x1)] [.ref r0, .ref f5, .ref f2] rfl ⟨rfl, rfl, rfl, rfl⟩ ?_
        refine Wp.gR rfl rfl hn_r0 rfl rfl hf6 ?_
        refine Wp.go (x := (.aload_n 0, 1, 0, 0)) rfl 52 [some (.ref r0), some (.int x1)] [.ref r0, .ref f6, .ref f5, .ref f2] rfl ⟨rfl, rfl, rfl, rfl⟩ ?_
        refine Wp.gR rfl rfl hn_r0 rfl rfl hf2 ?_
        refine Wp.kJ (x := (.invokevirtual 116, 3, 2000, 2)) (j := c7) (vs := [.ref f6, .ref f2]) (rest := [.ref f5, .ref f2]) rfl (by show xtg 2000 (K f6).1 = _; rw [hn_f6]; exact hc8) rfl ⟨Nat.le_of_ble_eq_true rfl, Nat.le_of_ble_eq_true rfl, hl9⟩ rfl rfl rfl H (fun v10 I11 J12 H => ?_)
        refine Wp.ic (v := nI 0) rfl rfl (by decide) ?_
        refine Wp.kV (x := (.invokevirtual 122, 3, 55, 4)) (j := 55) (vs := [.ref f2, .ref f5, .long v10, .int (nI 0)]) (rest := []) rfl (by show xtg 55 (K f2).1 = _; rw [hn_f2]; rfl) rfl ⟨Nat.le_of_ble_eq_true rfl, Nat.le_of_ble_eq_true rfl, Nat.le_of_ble_eq_true rfl⟩ rfl rfl rfl H (fun I13 J14 H => ?_)
        refine Wp.go (x := (.aload_n 0, 1, 0, 0)) rfl 63 [some (.ref r0), some (.int x1)] [.ref r0] rfl ⟨rfl, rfl, rfl, rfl⟩ ?_
        refine Wp.ic (v := nI 1) rfl rfl (by decide) ?_
        refine Wp.pI rfl rfl hn_r0 rfl (Or.inr ⟨rfl, Or.inr rfl⟩) ?_
        refine Wp.go (x := (.aload_n 0, 1, 0, 0)) rfl 68 [some (.ref r0), some (.int x1)] [.ref r0] rfl ⟨rfl, rfl, rfl, rfl⟩ ?_
        refine Wp.gR rfl rfl hn_r0 rfl rfl hf2 ?_
        refine Wp.gI rfl rfl hn_f2 rfl ⟨by decide, by decide⟩ ?_
        exact Wp.rI rfl rfl H
      · have H := H.2 c
        refine Wp.go (x := (.aload_n 0, 1, 0, 0)) rfl 17 [some (.ref r0), some (.int x1)] [.ref r0] rfl ⟨rfl, rfl, rfl, rfl⟩ ?_
        refine Wp.go (x := (.aload_n 0, 1, 0, 0)) rfl 18 [some (.ref r0), some (.int x1)] [.ref r0, .ref r0] rfl ⟨rfl, rfl, rfl, rfl⟩ ?_
        refine Wp.gR rfl rfl hn_r0 rfl rfl hf2 ?_
        refine Wp.kV (x := (.invokevirtual 108, 3, 92, 2)) (j := 92) (vs := [.ref r0, .ref f2]) (rest := []) rfl (by show xtg 92 (K r0).1 = _; rw [hn_r0]; rfl) rfl ⟨Nat.le_of_ble_eq_true rfl, Nat.le_of_ble_eq_true rfl, Nat.le_of_ble_eq_true rfl⟩ rfl rfl rfl H (fun I15 J16 H => ?_)
        refine Wp.go (x := (.goto 38, 3, 62, 0)) rfl 62 [some (.ref r0), some (.int x1)] [] rfl ⟨rfl, rfl, rfl, rfl⟩ ?_
        refine Wp.go (x := (.aload_n 0, 1, 0, 0)) rfl 63 [some (.ref r0), some (.int x1)] [.ref r0] rfl ⟨rfl, rfl, rfl, rfl⟩ ?_
        refine Wp.ic (v := nI 1) rfl rfl (by decide) ?_
        refine Wp.pI rfl rfl hn_r0 rfl (Or.inr ⟨rfl, Or.inr rfl⟩) ?_
        refine Wp.go (x := (.aload_n 0, 1, 0, 0)) rfl 68 [some (.ref r0), some (.int x1)] [.ref r0] rfl ⟨rfl, rfl, rfl, rfl⟩ ?_
        refine Wp.gR rfl rfl hn_r0 rfl rfl hf2 ?_
        refine Wp.gI rfl rfl hn_f2 rfl ⟨by decide, by decide⟩ ?_
        exact Wp.rI rfl rfl H
    · have H := H.2 c
      refine Wp.ic (v := (-1)) rfl rfl (by decide) ?_
      exact Wp.rI rfl rfl H
set_option maxRecDepth 20000 in
theorem wX10_sum_0 {d : Nat} {Q : Option Value × xS → Prop} {K : Nat → Nat × Nat} {P : List Nat × Nat × Nat} {I : Nat → Nat → Int32} {J : Nat → Nat → Int64} {F : Nat → Nat → Option Nat} {r0 : Nat} {n_r0 : Nat} {f1 : Nat} {n_f1 : Nat} (hn_r0 : K r0 = (9, n_r0)) (hf1 : F r0 7 = some f1) (hn_f1 : K f1 = (5, n_f1)) (H : (((I r0 9) = 0 → Q (some (.long ((-1))), (K, P, I, J, F))) ∧ (¬ (I r0 9) = 0 → Q (some (.long (J f1 6)), (K, P, I, J, F))))) : Wp d 80 0 [some (.ref r0)] [] (K, P, I, J, F) Q := by
  refine Wp.go (x := (.aload_n 0, 1, 0, 0)) rfl 1 [some (.ref r0)] [.ref r0] rfl ⟨rfl, rfl, rfl, rfl⟩ ?_
  refine Wp.gI rfl rfl hn_r0 rfl ⟨by decide, by decide⟩ ?_
  refine Wp.z_eq rfl rfl ⟨fun c => ?_, fun c => ?_⟩
  · have H := H.1 c
    refine Wp.ldcj (v := (-1)) rfl rfl (by first | rfl | decide) ?_
    exact Wp.rJ rfl rfl H
  · have H := H.2 c
    refine Wp.go (x := (.aload_n 0, 1, 0, 0)) rfl 8 [some (.ref r0)] [.ref r0] rfl ⟨rfl, rfl, rfl, rfl⟩ ?_
    refine Wp.gR rfl rfl hn_r0 rfl rfl hf1 ?_
    refine Wp.gJ rfl rfl hn_f1 rfl rfl ?_
    refine Wp.go (x := (.goto 6, 3, 20, 0)) rfl 20 [some (.ref r0)] [.long (J f1 6)] rfl ⟨rfl, rfl, rfl, rfl⟩ ?_
    exact Wp.rJ rfl rfl H
set_option maxRecDepth 20000 in
theorem wX10_again_0 {d : Nat} {Q : Option Value × xS → Prop} {K : Nat → Nat × Nat} {P : List Nat × Nat × Nat} {I : Nat → Nat → Int32} {J : Nat → Nat → Int64} {F : Nat → Nat → Option Nat} {r0 : Nat} {n_r0 : Nat} {f1 : Nat} {f2 : Nat} {n_f1 : Nat} {k_f1 : Nat} {c3 : Nat} (hn_r0 : K r0 = (9, n_r0)) (hf1 : F r0 4 = some f1) (hf2 : F r0 7 = some f2) (hn_f1 : K f1 = (k_f1, n_f1)) (hc4 : xtg 2000 k_f1 = some c3) (hl5 : 2 ≤ xnl c3) (H : (((I r0 9) = 0 → Q (some (.long ((-1))), (K, P, I, J, F))) ∧ (¬ (I r0 9) = 0 → Wp d c3 0 (xent (xnl c3) [.ref f1, .ref f2]) [] (K, P, I, J, F) (xrJ K P F (fun v6 I7 J8 => Q (some (.long v6), (K, P, I7, J8, F))))))) : Wp (d + 1) 81 0 [some (.ref r0)] [] (K, P, I, J, F) Q := by
  refine Wp.go (x := (.aload_n 0, 1, 0, 0)) rfl 1 [some (.ref r0)] [.ref r0] rfl ⟨rfl, rfl, rfl, rfl⟩ ?_
  refine Wp.gI rfl rfl hn_r0 rfl ⟨by decide, by decide⟩ ?_
  refine Wp.z_eq rfl rfl ⟨fun c => ?_, fun c => ?_⟩
  · have H := H.1 c
    refine Wp.ldcj (v := (-1)) rfl rfl (by first | rfl | decide) ?_
    exact Wp.rJ rfl rfl H
  · have H := H.2 c
    refine Wp.go (x := (.aload_n 0, 1, 0, 0)) rfl 8 [some (.ref r0)] [.ref r0] rfl ⟨rfl, rfl, rfl, rfl⟩ ?_
    refine Wp.gR rfl rfl hn_r0 rfl rfl hf1 ?_
    refine Wp.go (x := (.aload_n 0, 1, 0, 0)) rfl 12 [some (.ref r0)] [.ref r0, .ref f1] rfl ⟨rfl, rfl, rfl, rfl⟩ ?_
    refine Wp.gR rfl rfl hn_r0 rfl rfl hf2 ?_
    refine Wp.kJ (x := (.invokevirtual 116, 3, 2000, 2)) (j := c3) (vs := [.ref f1, .ref f2]) (rest := []) rfl (by show xtg 2000 (K f1).1 = _; rw [hn_f1]; exact hc4) rfl ⟨Nat.le_of_ble_eq_true rfl, Nat.le_of_ble_eq_true rfl, hl5⟩ rfl rfl rfl H (fun v6 I7 J8 H => ?_)
    refine Wp.go (x := (.goto 6, 3, 24, 0)) rfl 24 [some (.ref r0)] [.long v6] rfl ⟨rfl, rfl, rfl, rfl⟩ ?_
    exact Wp.rJ rfl rfl H
set_option maxRecDepth 20000 in
theorem wX10_least_0 {d : Nat} {Q : Option Value × xS → Prop} {K : Nat → Nat × Nat} {P : List Nat × Nat × Nat} {I : Nat → Nat → Int32} {J : Nat → Nat → Int64} {F : Nat → Nat → Option Nat} {r0 : Nat} {n_r0 : Nat} {f1 : Nat} {n_f1 : Nat} (hn_r0 : K r0 = (9, n_r0)) (hf1 : F r0 7 = some f1) (hn_f1 : K f1 = (5, n_f1)) (H : (((I r0 9) = 0 → Q (some (.int (nI 0)), (K, P, I, J, F))) ∧ (¬ (I r0 9) = 0 → (((I f1 7) = 0 → Q (some (.int (nI 0)), (K, P, I, J, F))) ∧ (¬ (I f1 7) = 0 → Q (some (.int (nI 1)), (K, P, I, J, F))))))) : Wp d 82 0 [some (.ref r0)] [] (K, P, I, J, F) Q := by
  refine Wp.go (x := (.aload_n 0, 1, 0, 0)) rfl 1 [some (.ref r0)] [.ref r0] rfl ⟨rfl, rfl, rfl, rfl⟩ ?_
  refine Wp.gI rfl rfl hn_r0 rfl ⟨by decide, by decide⟩ ?_
  refine Wp.z_eq rfl rfl ⟨fun c => ?_, fun c => ?_⟩
  · have H := H.1 c
    refine Wp.ic (v := nI 0) rfl rfl (by decide) ?_
    exact Wp.rZ rfl rfl (Or.inl rfl) H
  · have H := H.2 c
    refine Wp.go (x := (.aload_n 0, 1, 0, 0)) rfl 8 [some (.ref r0)] [.ref r0] rfl ⟨rfl, rfl, rfl, rfl⟩ ?_
    refine Wp.gR rfl rfl hn_r0 rfl rfl hf1 ?_
    refine Wp.gI rfl rfl hn_f1 rfl ⟨by decide, by decide⟩ ?_
    refine Wp.z_eq rfl rfl ⟨fun c => ?_, fun c => ?_⟩
    · have H := H.1 c
      refine Wp.ic (v := nI 0) rfl rfl (by decide) ?_
      exact Wp.rZ rfl rfl (Or.inl rfl) H
    · have H := H.2 c
      refine Wp.ic (v := nI 1) rfl rfl (by decide) ?_
      refine Wp.go (x := (.goto 4, 3, 22, 0)) rfl 22 [some (.ref r0)] [.int (nI 1)] rfl ⟨rfl, rfl, rfl, rfl⟩ ?_
      exact Wp.rZ rfl rfl (Or.inr rfl) H
set_option maxRecDepth 20000 in
theorem wX10_told_0 {d : Nat} {Q : Option Value × xS → Prop} {K : Nat → Nat × Nat} {P : List Nat × Nat × Nat} {I : Nat → Nat → Int32} {J : Nat → Nat → Int64} {F : Nat → Nat → Option Nat} {r0 : Nat} {x1 : Int32} {n_r0 : Nat} {f1 : Nat} {n_f1 : Nat} {f5 : Nat} {n_f5 : Nat} {f6 : Nat} {n_f6 : Nat} (hK : ∀ {a k n : Nat}, K a = (k, n) → n < 2147483648) (hn_r0 : K r0 = (9, n_r0)) (hf1 : F r0 1 = some f1) (hn_f1 : K f1 = (8, n_f1)) (hf5 : F r0 7 = some f5) (hn_f5 : K f5 = (5, n_f5)) (hf6 : F f5 4 = some f6) (hn_f6 : K f6 = (100, n_f6)) (H : (((I r0 9) = 0 → Q (some (.int ((-1))), (K, P, I, J, F))) ∧ (¬ (I r0 9) = 0 → Wp d 66 0 [some (.ref f1), some (.int x1)] [] (K, P, I, J, F) (xrI K P F (fun v2 I3 J4 => ((v2 = 0 → Q (some (.int ((-1))), (K, P, I3, J4, F))) ∧ (¬ v2 = 0 → (∃ j7 : Nat, x1 = nI j7 ∧ j7 < n_f6 ∧ Q (some (.int (I3 f6 j7)), (K, P, I3, J4, F)))))))))) : Wp (d + 1) 83 0 [some (.ref r0), some (.int x1)] [] (K, P, I, J, F) Q := by
  refine Wp.go (x := (.aload_n 0, 1, 0, 0)) rfl 1 [some (.ref r0), some (.int x1)] [.ref r0] rfl ⟨rfl, rfl, rfl, rfl⟩ ?_
  refine Wp.gI rfl rfl hn_r0 rfl ⟨by decide, by decide⟩ ?_
  refine Wp.z_eq rfl rfl ⟨fun c => ?_, fun c => ?_⟩
  · have H := H.1 c
    refine Wp.ic (v := (-1)) rfl rfl (by decide) ?_
    exact Wp.rI rfl rfl H
  · have H := H.2 c
    refine Wp.go (x := (.aload_n 0, 1, 0, 0)) rfl 8 [some (.ref r0), some (.int x1)] [.ref r0] rfl ⟨rfl, rfl, rfl, rfl⟩ ?_
    refine Wp.gR rfl rfl hn_r0 rfl rfl hf1 ?_
    refine Wp.go (x := (.iload_n 1, 1, 0, 0)) rfl 12 [some (.ref r0), some (.int x1)] [.int x1, .ref f1] rfl ⟨rfl, rfl, rfl, rfl⟩ ?_
    refine Wp.kI (x := (.invokevirtual 155, 3, 66, 2)) (j := 66) (vs := [.ref f1, .int x1]) (rest := []) rfl (by show xtg 66 (K f1).1 = _; rw [hn_f1]; rfl) rfl ⟨Nat.le_of_ble_eq_true rfl, Nat.le_of_ble_eq_true rfl, Nat.le_of_ble_eq_true rfl⟩ rfl rfl rfl H (fun v2 I3 J4 H => ?_)
    refine Wp.z_eq rfl rfl ⟨fun c => ?_, fun c => ?_⟩
    · have H := H.1 c
      refine Wp.ic (v := (-1)) rfl rfl (by decide) ?_
      exact Wp.rI rfl rfl H
    · have H := H.2 c
      refine Wp.go (x := (.aload_n 0, 1, 0, 0)) rfl 19 [some (.ref r0), some (.int x1)] [.ref r0] rfl ⟨rfl, rfl, rfl, rfl⟩ ?_
      refine Wp.gR rfl rfl hn_r0 rfl rfl hf5 ?_
      refine Wp.gR rfl rfl hn_f5 rfl rfl hf6 ?_
      refine Wp.go (x := (.iload_n 1, 1, 0, 0)) rfl 26 [some (.ref r0), some (.int x1)] [.int x1, .ref f6] rfl ⟨rfl, rfl, rfl, rfl⟩ ?_
      obtain ⟨j7, e, b, H⟩ := H
      refine Wp.ald rfl rfl hn_f6 (Or.inl rfl) (hK hn_f6) ⟨j7, e, b, ?_⟩
      refine Wp.go (x := (.goto 4, 3, 31, 0)) rfl 31 [some (.ref r0), some (.int x1)] [.int (I3 f6 j7)] rfl ⟨rfl, rfl, rfl, rfl⟩ ?_
      exact Wp.rI rfl rfl H
set_option maxRecDepth 20000 in
theorem wX10_rounds_0 {d : Nat} {Q : Option Value × xS → Prop} {K : Nat → Nat × Nat} {P : List Nat × Nat × Nat} {I : Nat → Nat → Int32} {J : Nat → Nat → Int64} {F : Nat → Nat → Option Nat} {r0 : Nat} {x1 : Int32} {n_r0 : Nat} {f1 : Nat} {n_f1 : Nat} (hn_r0 : K r0 = (9, n_r0)) (hf1 : F r0 1 = some f1) (hn_f1 : K f1 = (8, n_f1)) (H : ((x1 < (nI 1) → Q (some (.long ((-1))), (K, P, I, J, F))) ∧ (¬ x1 < (nI 1) → (((nI 8) < x1 → Q (some (.long ((-1))), (K, P, I, J, F))) ∧ (¬ (nI 8) < x1 → (((I r0 0) = (nI 1) → Q (some (.long ((-1))), (K, P, I, J, F))) ∧ (¬ (I r0 0) = (nI 1) → ((¬ (I f1 3) = 0 → Wp d 84 38 [some (.ref r0), some (.int x1), some (.long (lN 0)), none, some (.int (nI 0)), none, none] [] (K, P, I, J, F) Q) ∧ ((I f1 3) = 0 → Q (some (.long ((-1))), (K, P, I, J, F))))))))))) : Wp d 84 0 [some (.ref r0), some (.int x1), none, none, none, none, none] [] (K, P, I, J, F) Q := by
  refine Wp.go (x := (.iload_n 1, 1, 0, 0)) rfl 1 [some (.ref r0), some (.int x1), none, none, none, none, none] [.int x1] rfl ⟨rfl, rfl, rfl, rfl⟩ ?_
  refine Wp.ic (v := nI 1) rfl rfl (by decide) ?_
  refine Wp.c_lt rfl rfl ⟨fun c => ?_, fun c => ?_⟩
  · have H := H.1 c
    refine Wp.ldcj (v := (-1)) rfl rfl (by first | rfl | decide) ?_
    exact Wp.rJ rfl rfl H
  · have H := H.2 c
    refine Wp.go (x := (.iload_n 1, 1, 0, 0)) rfl 6 [some (.ref r0), some (.int x1), none, none, none, none, none] [.int x1] rfl ⟨rfl, rfl, rfl, rfl⟩ ?_
    refine Wp.bp (v := nI 8) rfl rfl (by decide) ?_
    refine Wp.c_gt rfl rfl ⟨fun c => ?_, fun c => ?_⟩
    · have H := H.1 c
      refine Wp.ldcj (v := (-1)) rfl rfl (by first | rfl | decide) ?_
      exact Wp.rJ rfl rfl H
    · have H := H.2 c
      refine Wp.go (x := (.aload_n 0, 1, 0, 0)) rfl 12 [some (.ref r0), some (.int x1), none, none, none, none, none] [.ref r0] rfl ⟨rfl, rfl, rfl, rfl⟩ ?_
      refine Wp.gI rfl rfl hn_r0 rfl ⟨by decide, by decide⟩ ?_
      refine Wp.ic (v := nI 1) rfl rfl (by decide) ?_
      refine Wp.c_eq rfl rfl ⟨fun c => ?_, fun c => ?_⟩
      · have H := H.1 c
        refine Wp.ldcj (v := (-1)) rfl rfl (by first | rfl | decide) ?_
        exact Wp.rJ rfl rfl H
      · have H := H.2 c
        refine Wp.go (x := (.aload_n 0, 1, 0, 0)) rfl 20 [some (.ref r0), some (.int x1), none, none, none, none, none] [.ref r0] rfl ⟨rfl, rfl, rfl, rfl⟩ ?_
        refine Wp.gR rfl rfl hn_r0 rfl rfl hf1 ?_
        refine Wp.gI rfl rfl hn_f1 rfl ⟨by decide, by decide⟩ ?_
        refine Wp.z_ne rfl rfl ⟨fun c => ?_, fun c => ?_⟩
        · have H := H.1 c
          refine Wp.lc (v := lN 0) rfl rfl (by first | rfl | decide) ?_
          refine Wp.go (x := (.lstore_n 2, 1, 0, 0)) rfl 35 [some (.ref r0), some (.int x1), some (.long (lN 0)), none, none, none, none] [] rfl ⟨rfl, rfl, rfl, rfl⟩ ?_
          refine Wp.ic (v := nI 0) rfl rfl (by decide) ?_
          refine Wp.go (x := (.istore 4, 2, 0, 0)) rfl 38 [some (.ref r0), some (.int x1), some (.long (lN 0)), none, some (.int (nI 0)), none, none] [] rfl ⟨rfl, rfl, rfl, rfl⟩ ?_
          exact H
        · have H := H.2 c
          refine Wp.ldcj (v := (-1)) rfl rfl (by first | rfl | decide) ?_
          exact Wp.rJ rfl rfl H
set_option maxRecDepth 20000 in
theorem wX10_rounds_38 {d : Nat} {Q : Option Value × xS → Prop} {K : Nat → Nat × Nat} {P : List Nat × Nat × Nat} {I : Nat → Nat → Int32} {J : Nat → Nat → Int64} {F : Nat → Nat → Option Nat} {r0 : Nat} {x1 : Int32} {y2 : Int64} {x4 : Int32} {n_r0 : Nat} {f1 : Nat} {f2 : Nat} {n_f1 : Nat} {f5 : Nat} {f8 : Nat} {f11 : Nat} {n_f11 : Nat} {k_f11 : Nat} {c12 : Nat} {n_f2 : Nat} (hn_r0 : K r0 = (9, n_r0)) (hf1 : F r0 2 = some f1) (hf2 : F r0 3 = some f2) (hn_f1 : K f1 = (2, n_f1)) (hf5 : F r0 8 = some f5) (hf8 : F r0 1 = some f8) (hf11 : F r0 4 = some f11) (hn_f11 : K f11 = (k_f11, n_f11)) (hc13 : xtg 2000 k_f11 = some c12) (hl14 : 2 ≤ xnl c12) (hn_f2 : K f2 = (2, n_f2)) (H : ((x1 ≤ x4 → Wp d 12 0 [some (.ref f1), some (.ref f2)] [] (K, P, I, J, F) (xrV K P F (fun I3 J4 => Q (some (.long y2), (K, P, (xup I3 r0 9 (nI 1)), J4, F))))) ∧ (¬ x1 ≤ x4 → Wp d 92 0 [some (.ref r0), some (.ref f5)] [] (K, P, I, J, F) (xrV K P F (fun I6 J7 => Wp d 21 0 [some (.ref f1), some (.ref f5), some (.ref f8), none] [] (K, P, I6, J7, F) (xrV K P F (fun I9 J10 => Wp d c12 0 (xent (xnl c12) [.ref f11, .ref f5]) [] (K, P, I9, J10, F) (xrJ K P F (fun v15 I16 J17 => ((x4 = 0 → Wp d 12 0 [some (.ref f2), some (.ref f1)] [] (K, P, I16, J17, F) (xrV K P F (fun I18 J19 => Wp d 93 0 [some (.ref r0), none] [] (K, P, I18, J19, F) (xrV K P F (fun I20 J21 => Wp (d + 1) 84 38 [some (.ref r0), some (.int x1), some (.long v15), none, some (.int (x4 + nI 1)), none, none] [] (K, P, I20, J21, F) Q))))) ∧ (¬ x4 = 0 → ((0 ≤ (lg_cmp v15 y2) → Wp (d + 1) 84 38 [some (.ref r0), some (.int x1), some (.long y2), none, some (.int (x4 + nI 1)), none, none] [] (K, P, I16, J17, F) Q) ∧ (¬ 0 ≤ (lg_cmp v15 y2) → Wp d 12 0 [some (.ref f2), some (.ref f1)] [] (K, P, I16, J17, F) (xrV K P F (fun I22 J23 => Wp d 93 0 [some (.ref r0), none] [] (K, P, I22, J23, F) (xrV K P F (fun I24 J25 => Wp (d + 1) 84 38 [some (.ref r0), some (.int x1), some (.long v15), none, some (.int (x4 + nI 1)), none, none] [] (K, P, I24, J25, F) Q))))))))))))))))) : Wp (d + 1) 84 38 [some (.ref r0), some (.int x1), some (.long y2), none, some (.int x4), none, none] [] (K, P, I, J, F) Q := by
  refine Wp.go (x := (.iload 4, 2, 0, 0)) rfl 40 [some (.ref r0), some (.int x1), some (.long y2), none, some (.int x4), none, none] [.int x4] rfl ⟨rfl, rfl, rfl, rfl⟩ ?_
  refine Wp.go (x := (.iload_n 1, 1, 0, 0)) rfl 41 [some (.ref r0), some (.int x1), some (.long y2), none, some (.int x4), none, none] [.int x1, .int x4] rfl ⟨rfl, rfl, rfl, rfl⟩ ?_
  refine Wp.c_ge rfl rfl ⟨fun c => ?_, fun c => ?_⟩
  · have H := H.1 c
    refine Wp.go (x := (.aload_n 0, 1, 0, 0)) rfl 117 [some (.ref r0), some (.int x1), some (.long y2), none, some (.int x4), none, none] [.ref r0] rfl ⟨rfl, rfl, rfl, rfl⟩ ?_
    refine Wp.gR rfl rfl hn_r0 rfl rfl hf1 ?_
    refine Wp.go (x := (.aload_n 0, 1, 0, 0)) rfl 121 [some (.ref r0), some (.int x1), some (.long y2), none, some (.int x4), none, none] [.ref r0, .ref f1] rfl ⟨rfl, rfl, rfl, rfl⟩ ?_
    refine Wp.gR rfl rfl hn_r0 rfl rfl hf2 ?_
    refine Wp.kV (x := (.invokevirtual 164, 3, 12, 2)) (j := 12) (vs := [.ref f1, .ref f2]) (rest := []) rfl (by show xtg 12 (K f1).1 = _; rw [hn_f1]; rfl) rfl ⟨Nat.le_of_ble_eq_true rfl, Nat.le_of_ble_eq_true rfl, Nat.le_of_ble_eq_true rfl⟩ rfl rfl rfl H (fun I3 J4 H => ?_)
    refine Wp.go (x := (.aload_n 0, 1, 0, 0)) rfl 128 [some (.ref r0), some (.int x1), some (.long y2), none, some (.int x4), none, none] [.ref r0] rfl ⟨rfl, rfl, rfl, rfl⟩ ?_
    refine Wp.ic (v := nI 1) rfl rfl (by decide) ?_
    refine Wp.pI rfl rfl hn_r0 rfl (Or.inr ⟨rfl, Or.inr rfl⟩) ?_
    refine Wp.go (x := (.lload_n 2, 1, 0, 0)) rfl 133 [some (.ref r0), some (.int x1), some (.long y2), none, some (.int x4), none, none] [.long y2] rfl ⟨rfl, rfl, rfl, rfl⟩ ?_
    exact Wp.rJ rfl rfl H
  · have H := H.2 c
    refine Wp.go (x := (.aload_n 0, 1, 0, 0)) rfl 45 [some (.ref r0), some (.int x1), some (.long y2), none, some (.int x4), none, none] [.ref r0] rfl ⟨rfl, rfl, rfl, rfl⟩ ?_
    refine Wp.go (x := (.aload_n 0, 1, 0, 0)) rfl 46 [some (.ref r0), some (.int x1), some (.long y2), none, some (.int x4), none, none] [.ref r0, .ref r0] rfl ⟨rfl, rfl, rfl, rfl⟩ ?_
    refine Wp.gR rfl rfl hn_r0 rfl rfl hf5 ?_
    refine Wp.kV (x := (.invokevirtual 108, 3, 92, 2)) (j := 92) (vs := [.ref r0, .ref f5]) (rest := []) rfl (by show xtg 92 (K r0).1 = _; rw [hn_r0]; rfl) rfl ⟨Nat.le_of_ble_eq_true rfl, Nat.le_of_ble_eq_true rfl, Nat.le_of_ble_eq_true rfl⟩ rfl rfl rfl H (fun I6 J7 H => ?_)
    refine Wp.go (x := (.aload_n 0, 1, 0, 0)) rfl 53 [some (.ref r0), some (.int x1), some (.long y2), none, some (.int x4), none, none] [.ref r0] rfl ⟨rfl, rfl, rfl, rfl⟩ ?_
    refine Wp.gR rfl rfl hn_r0 rfl rfl hf1 ?_
    refine Wp.go (x := (.aload_n 0, 1, 0, 0)) rfl 57 [some (.ref r0), some (.int x1), some (.long y2), none, some (.int x4), none, none] [.ref r0, .ref f1] rfl ⟨rfl, rfl, rfl, rfl⟩ ?_
    refine Wp.gR rfl rfl hn_r0 rfl rfl hf5 ?_
    refine Wp.go (x := (.aload_n 0, 1, 0, 0)) rfl 61 [some (.ref r0), some (.int x1), some (.long y2), none, some (.int x4), none, none] [.ref r0, .ref f5, .ref f1] rfl ⟨rfl, rfl, rfl, rfl⟩ ?_
    refine Wp.gR rfl rfl hn_r0 rfl rfl hf8 ?_
    refine Wp.kV (x := (.invokevirtual 160, 3, 21, 3)) (j := 21) (vs := [.ref f1, .ref f5, .ref f8]) (rest := []) rfl (by show xtg 21 (K f1).1 = _; rw [hn_f1]; rfl) rfl ⟨Nat.le_of_ble_eq_true rfl, Nat.le_of_ble_eq_true rfl, Nat.le_of_ble_eq_true rfl⟩ rfl rfl rfl H (fun I9 J10 H => ?_)
    refine Wp.go (x := (.aload_n 0, 1, 0, 0)) rfl 68 [some (.ref r0), some (.int x1), some (.long y2), none, some (.int x4), none, none] [.ref r0] rfl ⟨rfl, rfl, rfl, rfl⟩ ?_
    refine Wp.gR rfl rfl hn_r0 rfl rfl hf11 ?_
    refine Wp.go (x := (.aload_n 0, 1, 0, 0)) rfl 72 [some (.ref r0), some (.int x1), some (.long y2), none, some (.int x4), none, none] [.ref r0, .ref f11] rfl ⟨rfl, rfl, rfl, rfl⟩ ?_
    refine Wp.gR rfl rfl hn_r0 rfl rfl hf5 ?_
    refine Wp.kJ (x := (.invokevirtual 116, 3, 2000, 2)) (j := c12) (vs := [.ref f11, .ref f5]) (rest := []) rfl (by show xtg 2000 (K f11).1 = _; rw [hn_f11]; exact hc13) rfl ⟨Nat.le_of_ble_eq_true rfl, Nat.le_of_ble_eq_true rfl, hl14⟩ rfl rfl rfl H (fun v15 I16 J17 H => ?_)
    refine Wp.go (x := (.lstore 5, 2, 0, 0)) rfl 80 [some (.ref r0), some (.int x1), some (.long y2), none, some (.int x4), some (.long v15), none] [] rfl ⟨rfl, rfl, rfl, rfl⟩ ?_
    refine Wp.go (x := (.iload 4, 2, 0, 0)) rfl 82 [some (.ref r0), some (.int x1), some (.long y2), none, some (.int x4), some (.long v15), none] [.int x4] rfl ⟨rfl, rfl, rfl, rfl⟩ ?_
    refine Wp.z_eq rfl rfl ⟨fun c => ?_, fun c => ?_⟩
    · have H := H.1 c
      refine Wp.go (x := (.lload 5, 2, 0, 0)) rfl 94 [some (.ref r0), some (.int x1), some (.long y2), none, some (.int x4), some (.long v15), none] [.long v15] rfl ⟨rfl, rfl, rfl, rfl⟩ ?_
      refine Wp.go (x := (.lstore_n 2, 1, 0, 0)) rfl 95 [some (.ref r0), some (.int x1), some (.long v15), none, some (.int x4), some (.long v15), none] [] rfl ⟨rfl, rfl, rfl, rfl⟩ ?_
      refine Wp.go (x := (.aload_n 0, 1, 0, 0)) rfl 96 [some (.ref r0), some (.int x1), some (.long v15), none, some (.int x4), some (.long v15), none] [.ref r0] rfl ⟨rfl, rfl, rfl, rfl⟩ ?_
      refine Wp.gR rfl rfl hn_r0 rfl rfl hf2 ?_
      refine Wp.go (x := (.aload_n 0, 1, 0, 0)) rfl 100 [some (.ref r0), some (.int x1), some (.long v15), none, some (.int x4), some (.long v15), none] [.ref r0, .ref f2] rfl ⟨rfl, rfl, rfl, rfl⟩ ?_
      refine Wp.gR rfl rfl hn_r0 rfl rfl hf1 ?_
      refine Wp.kV (x := (.invokevirtual 164, 3, 12, 2)) (j := 12) (vs := [.ref f2, .ref f1]) (rest := []) rfl (by show xtg 12 (K f2).1 = _; rw [hn_f2]; rfl) rfl ⟨Nat.le_of_ble_eq_true rfl, Nat.le_of_ble_eq_true rfl, Nat.le_of_ble_eq_true rfl⟩ rfl rfl rfl H (fun I18 J19 H => ?_)
      refine Wp.go (x := (.aload_n 0, 1, 0, 0)) rfl 107 [some (.ref r0), some (.int x1), some (.long v15), none, some (.int x4), some (.long v15), none] [.ref r0] rfl ⟨rfl, rfl, rfl, rfl⟩ ?_
      refine Wp.kV (x := (.invokevirtual 168, 3, 93, 1)) (j := 93) (vs := [.ref r0]) (rest := []) rfl (by show xtg 93 (K r0).1 = _; rw [hn_r0]; rfl) rfl ⟨Nat.le_of_ble_eq_true rfl, Nat.le_of_ble_eq_true rfl, Nat.le_of_ble_eq_true rfl⟩ rfl rfl rfl H (fun I20 J21 H => ?_)
      refine Wp.ii (v := nI 1) rfl rfl (by decide) rfl (L' := [some (.ref r0), some (.int x1), some (.long v15), none, some (.int (x4 + nI 1)), some (.long v15), none]) rfl ?_
      refine Wp.go (x := (.goto (-75), 3, 38, 0)) rfl 38 [some (.ref r0), some (.int x1), some (.long v15), none, some (.int (x4 + nI 1)), some (.long v15), none] [] rfl ⟨rfl, rfl, rfl, rfl⟩ ?_
      exact Wp.wk (L := [some (.ref r0), some (.int x1), some (.long v15), none, some (.int (x4 + nI 1)), none, none]) ⟨Or.inr rfl, Or.inr rfl, Or.inr rfl, Or.inr rfl, Or.inr rfl, Or.inl rfl, Or.inr rfl, trivial⟩ H
    · have H := H.2 c
      refine Wp.go (x := (.lload 5, 2, 0, 0)) rfl 87 [some (.ref r0), some (.int x1), some (.long y2), none, some (.int x4), some (.long v15), none] [.long v15] rfl ⟨rfl, rfl, rfl, rfl⟩ ?_
      refine Wp.go (x := (.lload_n 2, 1, 0, 0)) rfl 88 [some (.ref r0), some (.int x1), some (.long y2), none, some (.int x4), some (.long v15), none] [.long y2, .long v15] rfl ⟨rfl, rfl, rfl, rfl⟩ ?_
      refine Wp.go (x := (.lcmp, 1, 0, 0)) rfl 89 [some (.ref r0), some (.int x1), some (.long y2), none, some (.int x4), some (.long v15), none] [.int (lg_cmp v15 y2)] rfl ⟨rfl, rfl, rfl, rfl⟩ ?_
      refine Wp.z_ge rfl rfl ⟨fun c => ?_, fun c => ?_⟩
      · have H := H.1 c
        refine Wp.ii (v := nI 1) rfl rfl (by decide) rfl (L' := [some (.ref r0), some (.int x1), some (.long y2), none, some (.int (x4 + nI 1)), some (.long v15), none]) rfl ?_
        refine Wp.go (x := (.goto (-75), 3, 38, 0)) rfl 38 [some (.ref r0), some (.int x1), some (.long y2), none, some (.int (x4 + nI 1)), some (.long v15), none] [] rfl ⟨rfl, rfl, rfl, rfl⟩ ?_
        exact Wp.wk (L := [some (.ref r0), some (.int x1), some (.long y2), none, some (.int (x4 + nI 1)), none, none]) ⟨Or.inr rfl, Or.inr rfl, Or.inr rfl, Or.inr rfl, Or.inr rfl, Or.inl rfl, Or.inr rfl, trivial⟩ H
      · have H := H.2 c
        refine Wp.go (x := (.lload 5, 2, 0, 0)) rfl 94 [some (.ref r0), some (.int x1), some (.long y2), none, some (.int x4), some (.long v15), none] [.long v15] rfl ⟨rfl, rfl, rfl, rfl⟩ ?_
        refine Wp.go (x := (.lstore_n 2, 1, 0, 0)) rfl 95 [some (.ref r0), some (.int x1), some (.long v15), none, some (.int x4), some (.long v15), none] [] rfl ⟨rfl, rfl, rfl, rfl⟩ ?_
        refine Wp.go (x := (.aload_n 0, 1, 0, 0)) rfl 96 [some (.ref r0), some (.int x1), some (.long v15), none, some (.int x4), some (.long v15), none] [.ref r0] rfl ⟨rfl, rfl, rfl, rfl⟩ ?_
        refine Wp.gR rfl rfl hn_r0 rfl rfl hf2 ?_
        refine Wp.go (x := (.aload_n 0, 1, 0, 0)) rfl 100 [some (.ref r0), some (.int x1), some (.long v15), none, some (.int x4), some (.long v15), none] [.ref r0, .ref f2] rfl ⟨rfl, rfl, rfl, rfl⟩ ?_
        refine Wp.gR rfl rfl hn_r0 rfl rfl hf1 ?_
        refine Wp.kV (x := (.invokevirtual 164, 3, 12, 2)) (j := 12) (vs := [.ref f2, .ref f1]) (rest := []) rfl (by show xtg 12 (K f2).1 = _; rw [hn_f2]; rfl) rfl ⟨Nat.le_of_ble_eq_true rfl, Nat.le_of_ble_eq_true rfl, Nat.le_of_ble_eq_true rfl⟩ rfl rfl rfl H (fun I22 J23 H => ?_)
        refine Wp.go (x := (.aload_n 0, 1, 0, 0)) rfl 107 [some (.ref r0), some (.int x1), some (.long v15), none, some (.int x4), some (.long v15), none] [.ref r0] rfl ⟨rfl, rfl, rfl, rfl⟩ ?_
        refine Wp.kV (x := (.invokevirtual 168, 3, 93, 1)) (j := 93) (vs := [.ref r0]) (rest := []) rfl (by show xtg 93 (K r0).1 = _; rw [hn_r0]; rfl) rfl ⟨Nat.le_of_ble_eq_true rfl, Nat.le_of_ble_eq_true rfl, Nat.le_of_ble_eq_true rfl⟩ rfl rfl rfl H (fun I24 J25 H => ?_)
        refine Wp.ii (v := nI 1) rfl rfl (by decide) rfl (L' := [some (.ref r0), some (.int x1), some (.long v15), none, some (.int (x4 + nI 1)), some (.long v15), none]) rfl ?_
        refine Wp.go (x := (.goto (-75), 3, 38, 0)) rfl 38 [some (.ref r0), some (.int x1), some (.long v15), none, some (.int (x4 + nI 1)), some (.long v15), none] [] rfl ⟨rfl, rfl, rfl, rfl⟩ ?_
        exact Wp.wk (L := [some (.ref r0), some (.int x1), some (.long v15), none, some (.int (x4 + nI 1)), none, none]) ⟨Or.inr rfl, Or.inr rfl, Or.inr rfl, Or.inr rfl, Or.inr rfl, Or.inl rfl, Or.inr rfl, trivial⟩ H
set_option maxRecDepth 20000 in
theorem wX10_longest_0 {d : Nat} {Q : Option Value × xS → Prop} {K : Nat → Nat × Nat} {P : List Nat × Nat × Nat} {I : Nat → Nat → Int32} {J : Nat → Nat → Int64} {F : Nat → Nat → Option Nat} {r0 : Nat} {x1 : Int32} {n_r0 : Nat} {f1 : Nat} {n_f1 : Nat} (hn_r0 : K r0 = (9, n_r0)) (hf1 : F r0 1 = some f1) (hn_f1 : K f1 = (8, n_f1)) (H : Wp d 66 0 [some (.ref f1), some (.int x1)] [] (K, P, I, J, F) (xrI K P F (fun v2 I3 J4 => ((v2 = 0 → Q (some (.int ((-1))), (K, P, I3, J4, F))) ∧ (¬ v2 = 0 → Wp d 69 0 [some (.ref f1), some (.int x1)] [] (K, P, I3, J4, F) (xrI K P F (fun v5 I6 J7 => Q (some (.int v5), (K, P, I6, J7, F))))))))) : Wp (d + 1) 85 0 [some (.ref r0), some (.int x1)] [] (K, P, I, J, F) Q := by
  refine Wp.go (x := (.aload_n 0, 1, 0, 0)) rfl 1 [some (.ref r0), some (.int x1)] [.ref r0] rfl ⟨rfl, rfl, rfl, rfl⟩ ?_
  refine Wp.gR rfl rfl hn_r0 rfl rfl hf1 ?_
  refine Wp.go (x := (.iload_n 1, 1, 0, 0)) rfl 5 [some (.ref r0), some (.int x1)] [.int x1, .ref f1] rfl ⟨rfl, rfl, rfl, rfl⟩ ?_
  refine Wp.kI (x := (.invokevirtual 155, 3, 66, 2)) (j := 66) (vs := [.ref f1, .int x1]) (rest := []) rfl (by show xtg 66 (K f1).1 = _; rw [hn_f1]; rfl) rfl ⟨Nat.le_of_ble_eq_true rfl, Nat.le_of_ble_eq_true rfl, Nat.le_of_ble_eq_true rfl⟩ rfl rfl rfl H (fun v2 I3 J4 H => ?_)
  refine Wp.z_eq rfl rfl ⟨fun c => ?_, fun c => ?_⟩
  · have H := H.1 c
    refine Wp.ic (v := (-1)) rfl rfl (by decide) ?_
    exact Wp.rI rfl rfl H
  · have H := H.2 c
    refine Wp.go (x := (.aload_n 0, 1, 0, 0)) rfl 12 [some (.ref r0), some (.int x1)] [.ref r0] rfl ⟨rfl, rfl, rfl, rfl⟩ ?_
    refine Wp.gR rfl rfl hn_r0 rfl rfl hf1 ?_
    refine Wp.go (x := (.iload_n 1, 1, 0, 0)) rfl 16 [some (.ref r0), some (.int x1)] [.int x1, .ref f1] rfl ⟨rfl, rfl, rfl, rfl⟩ ?_
    refine Wp.kI (x := (.invokevirtual 171, 3, 69, 2)) (j := 69) (vs := [.ref f1, .int x1]) (rest := []) rfl (by show xtg 69 (K f1).1 = _; rw [hn_f1]; rfl) rfl ⟨Nat.le_of_ble_eq_true rfl, Nat.le_of_ble_eq_true rfl, Nat.le_of_ble_eq_true rfl⟩ rfl rfl rfl H (fun v5 I6 J7 H => ?_)
    refine Wp.go (x := (.goto 4, 3, 23, 0)) rfl 23 [some (.ref r0), some (.int x1)] [.int v5] rfl ⟨rfl, rfl, rfl, rfl⟩ ?_
    exact Wp.rI rfl rfl H
set_option maxRecDepth 20000 in
theorem wX10_distance_0 {d : Nat} {Q : Option Value × xS → Prop} {K : Nat → Nat × Nat} {P : List Nat × Nat × Nat} {I : Nat → Nat → Int32} {J : Nat → Nat → Int64} {F : Nat → Nat → Option Nat} {r0 : Nat} {x1 : Int32} {x2 : Int32} {n_r0 : Nat} {f1 : Nat} {n_f1 : Nat} (hn_r0 : K r0 = (9, n_r0)) (hf1 : F r0 1 = some f1) (hn_f1 : K f1 = (8, n_f1)) (H : Wp d 70 0 [some (.ref f1), some (.int x1), some (.int x2)] [] (K, P, I, J, F) (xrI K P F (fun v2 I3 J4 => ((v2 ≤ 0 → Q (some (.int ((-1))), (K, P, I3, J4, F))) ∧ (¬ v2 ≤ 0 → Q (some (.int v2), (K, P, I3, J4, F))))))) : Wp (d + 1) 86 0 [some (.ref r0), some (.int x1), some (.int x2), none] [] (K, P, I, J, F) Q := by
  refine Wp.go (x := (.aload_n 0, 1, 0, 0)) rfl 1 [some (.ref r0), some (.int x1), some (.int x2), none] [.ref r0] rfl ⟨rfl, rfl, rfl, rfl⟩ ?_
  refine Wp.gR rfl rfl hn_r0 rfl rfl hf1 ?_
  refine Wp.go (x := (.iload_n 1, 1, 0, 0)) rfl 5 [some (.ref r0), some (.int x1), some (.int x2), none] [.int x1, .ref f1] rfl ⟨rfl, rfl, rfl, rfl⟩ ?_
  refine Wp.go (x := (.iload_n 2, 1, 0, 0)) rfl 6 [some (.ref r0), some (.int x1), some (.int x2), none] [.int x2, .int x1, .ref f1] rfl ⟨rfl, rfl, rfl, rfl⟩ ?_
  refine Wp.kI (x := (.invokevirtual 175, 3, 70, 3)) (j := 70) (vs := [.ref f1, .int x1, .int x2]) (rest := []) rfl (by show xtg 70 (K f1).1 = _; rw [hn_f1]; rfl) rfl ⟨Nat.le_of_ble_eq_true rfl, Nat.le_of_ble_eq_true rfl, Nat.le_of_ble_eq_true rfl⟩ rfl rfl rfl H (fun v2 I3 J4 H => ?_)
  refine Wp.go (x := (.istore_n 3, 1, 0, 0)) rfl 10 [some (.ref r0), some (.int x1), some (.int x2), some (.int v2)] [] rfl ⟨rfl, rfl, rfl, rfl⟩ ?_
  refine Wp.go (x := (.iload_n 3, 1, 0, 0)) rfl 11 [some (.ref r0), some (.int x1), some (.int x2), some (.int v2)] [.int v2] rfl ⟨rfl, rfl, rfl, rfl⟩ ?_
  refine Wp.z_le rfl rfl ⟨fun c => ?_, fun c => ?_⟩
  · have H := H.1 c
    refine Wp.ic (v := (-1)) rfl rfl (by decide) ?_
    exact Wp.rI rfl rfl H
  · have H := H.2 c
    refine Wp.go (x := (.iload_n 3, 1, 0, 0)) rfl 15 [some (.ref r0), some (.int x1), some (.int x2), some (.int v2)] [.int v2] rfl ⟨rfl, rfl, rfl, rfl⟩ ?_
    refine Wp.go (x := (.goto 4, 3, 19, 0)) rfl 19 [some (.ref r0), some (.int x1), some (.int x2), some (.int v2)] [.int v2] rfl ⟨rfl, rfl, rfl, rfl⟩ ?_
    exact Wp.rI rfl rfl H
set_option maxRecDepth 20000 in
theorem wX10_cut_0 {d : Nat} {Q : Option Value × xS → Prop} {K : Nat → Nat × Nat} {P : List Nat × Nat × Nat} {I : Nat → Nat → Int32} {J : Nat → Nat → Int64} {F : Nat → Nat → Option Nat} {r0 : Nat} {x1 : Int32} {n_r0 : Nat} {f1 : Nat} {n_f1 : Nat} (hn_r0 : K r0 = (9, n_r0)) (hf1 : F r0 6 = some f1) (hn_f1 : K f1 = (1, n_f1)) (H : Wp d 2 0 [some (.ref f1), some (.int x1), none, none] [] (K, P, I, J, F) (xrI K P F (fun v2 I3 J4 => ((v2 = 0 → Q (some (.int ((-1))), (K, P, I3, J4, F))) ∧ (¬ v2 = 0 → Q (some (.int (I3 f1 2)), (K, P, I3, J4, F))))))) : Wp (d + 1) 87 0 [some (.ref r0), some (.int x1)] [] (K, P, I, J, F) Q := by
  refine Wp.go (x := (.aload_n 0, 1, 0, 0)) rfl 1 [some (.ref r0), some (.int x1)] [.ref r0] rfl ⟨rfl, rfl, rfl, rfl⟩ ?_
  refine Wp.gR rfl rfl hn_r0 rfl rfl hf1 ?_
  refine Wp.go (x := (.iload_n 1, 1, 0, 0)) rfl 5 [some (.ref r0), some (.int x1)] [.int x1, .ref f1] rfl ⟨rfl, rfl, rfl, rfl⟩ ?_
  refine Wp.kI (x := (.invokevirtual 178, 3, 2, 2)) (j := 2) (vs := [.ref f1, .int x1]) (rest := []) rfl (by show xtg 2 (K f1).1 = _; rw [hn_f1]; rfl) rfl ⟨Nat.le_of_ble_eq_true rfl, Nat.le_of_ble_eq_true rfl, Nat.le_of_ble_eq_true rfl⟩ rfl rfl rfl H (fun v2 I3 J4 H => ?_)
  refine Wp.z_eq rfl rfl ⟨fun c => ?_, fun c => ?_⟩
  · have H := H.1 c
    refine Wp.ic (v := (-1)) rfl rfl (by decide) ?_
    exact Wp.rI rfl rfl H
  · have H := H.2 c
    refine Wp.go (x := (.aload_n 0, 1, 0, 0)) rfl 12 [some (.ref r0), some (.int x1)] [.ref r0] rfl ⟨rfl, rfl, rfl, rfl⟩ ?_
    refine Wp.gR rfl rfl hn_r0 rfl rfl hf1 ?_
    refine Wp.gI rfl rfl hn_f1 rfl ⟨by decide, by decide⟩ ?_
    refine Wp.go (x := (.goto 4, 3, 22, 0)) rfl 22 [some (.ref r0), some (.int x1)] [.int (I3 f1 2)] rfl ⟨rfl, rfl, rfl, rfl⟩ ?_
    exact Wp.rI rfl rfl H
set_option maxRecDepth 20000 in
theorem wX10_split_0 {d : Nat} {Q : Option Value × xS → Prop} {K : Nat → Nat × Nat} {P : List Nat × Nat × Nat} {I : Nat → Nat → Int32} {J : Nat → Nat → Int64} {F : Nat → Nat → Option Nat} {r0 : Nat} {x1 : Int32} {n_r0 : Nat} {f1 : Nat} {n_f1 : Nat} {f2 : Nat} {n_f2 : Nat} (hn_r0 : K r0 = (9, n_r0)) (hf1 : F r0 1 = some f1) (hn_f1 : K f1 = (8, n_f1)) (hf2 : F r0 6 = some f2) (hn_f2 : K f2 = (1, n_f2)) (H : ((x1 < 0 → Q (some (.long ((-1))), (K, P, I, J, F))) ∧ (¬ x1 < 0 → (((nI 100000) < x1 → Q (some (.long ((-1))), (K, P, I, J, F))) ∧ (¬ (nI 100000) < x1 → ((¬ (I f1 3) = 0 → Wp d 3 0 [some (.ref f2), some (.int x1), none, none] [] (K, P, I, J, F) (xrJ K P F (fun v3 I4 J5 => Q (some (.long v3), (K, P, I4, J5, F))))) ∧ ((I f1 3) = 0 → Q (some (.long ((-1))), (K, P, I, J, F))))))))) : Wp (d + 1) 88 0 [some (.ref r0), some (.int x1)] [] (K, P, I, J, F) Q := by
  refine Wp.go (x := (.iload_n 1, 1, 0, 0)) rfl 1 [some (.ref r0), some (.int x1)] [.int x1] rfl ⟨rfl, rfl, rfl, rfl⟩ ?_
  refine Wp.z_lt rfl rfl ⟨fun c => ?_, fun c => ?_⟩
  · have H := H.1 c
    refine Wp.ldcj (v := (-1)) rfl rfl (by first | rfl | decide) ?_
    exact Wp.rJ rfl rfl H
  · have H := H.2 c
    refine Wp.go (x := (.iload_n 1, 1, 0, 0)) rfl 5 [some (.ref r0), some (.int x1)] [.int x1] rfl ⟨rfl, rfl, rfl, rfl⟩ ?_
    refine Wp.ldc (v := nI 100000) rfl rfl (by first | rfl | decide) ?_
    refine Wp.c_gt rfl rfl ⟨fun c => ?_, fun c => ?_⟩
    · have H := H.1 c
      refine Wp.ldcj (v := (-1)) rfl rfl (by first | rfl | decide) ?_
      exact Wp.rJ rfl rfl H
    · have H := H.2 c
      refine Wp.go (x := (.aload_n 0, 1, 0, 0)) rfl 11 [some (.ref r0), some (.int x1)] [.ref r0] rfl ⟨rfl, rfl, rfl, rfl⟩ ?_
      refine Wp.gR rfl rfl hn_r0 rfl rfl hf1 ?_
      refine Wp.gI rfl rfl hn_f1 rfl ⟨by decide, by decide⟩ ?_
      refine Wp.z_ne rfl rfl ⟨fun c => ?_, fun c => ?_⟩
      · have H := H.1 c
        refine Wp.go (x := (.aload_n 0, 1, 0, 0)) rfl 25 [some (.ref r0), some (.int x1)] [.ref r0] rfl ⟨rfl, rfl, rfl, rfl⟩ ?_
        refine Wp.gR rfl rfl hn_r0 rfl rfl hf2 ?_
        refine Wp.go (x := (.iload_n 1, 1, 0, 0)) rfl 29 [some (.ref r0), some (.int x1)] [.int x1, .ref f2] rfl ⟨rfl, rfl, rfl, rfl⟩ ?_
        refine Wp.kJ (x := (.invokevirtual 185, 3, 3, 2)) (j := 3) (vs := [.ref f2, .int x1]) (rest := []) rfl (by show xtg 3 (K f2).1 = _; rw [hn_f2]; rfl) rfl ⟨Nat.le_of_ble_eq_true rfl, Nat.le_of_ble_eq_true rfl, Nat.le_of_ble_eq_true rfl⟩ rfl rfl rfl H (fun v3 I4 J5 H => ?_)
        exact Wp.rJ rfl rfl H
      · have H := H.2 c
        refine Wp.ldcj (v := (-1)) rfl rfl (by first | rfl | decide) ?_
        exact Wp.rJ rfl rfl H
set_option maxRecDepth 20000 in
theorem wX10_taken_0 {d : Nat} {Q : Option Value × xS → Prop} {K : Nat → Nat × Nat} {P : List Nat × Nat × Nat} {I : Nat → Nat → Int32} {J : Nat → Nat → Int64} {F : Nat → Nat → Option Nat} {r0 : Nat} {x1 : Int32} {n_r0 : Nat} {f1 : Nat} {n_f1 : Nat} {f2 : Nat} {n_f2 : Nat} (hK : ∀ {a k n : Nat}, K a = (k, n) → n < 2147483648) (hn_r0 : K r0 = (9, n_r0)) (hf1 : F r0 6 = some f1) (hn_f1 : K f1 = (1, n_f1)) (hf2 : F f1 3 = some f2) (hn_f2 : K f2 = (100, n_f2)) (H : ((x1 < 0 → Q (some (.int ((-1))), (K, P, I, J, F))) ∧ (¬ x1 < 0 → (((I f1 4) ≤ x1 → Q (some (.int ((-1))), (K, P, I, J, F))) ∧ (¬ (I f1 4) ≤ x1 → (∃ j3 : Nat, x1 = nI j3 ∧ j3 < n_f2 ∧ Q (some (.int (I f2 j3)), (K, P, I, J, F)))))))) : Wp d 89 0 [some (.ref r0), some (.int x1)] [] (K, P, I, J, F) Q := by
  refine Wp.go (x := (.iload_n 1, 1, 0, 0)) rfl 1 [some (.ref r0), some (.int x1)] [.int x1] rfl ⟨rfl, rfl, rfl, rfl⟩ ?_
  refine Wp.z_lt rfl rfl ⟨fun c => ?_, fun c => ?_⟩
  · have H := H.1 c
    refine Wp.ic (v := (-1)) rfl rfl (by decide) ?_
    exact Wp.rI rfl rfl H
  · have H := H.2 c
    refine Wp.go (x := (.iload_n 1, 1, 0, 0)) rfl 5 [some (.ref r0), some (.int x1)] [.int x1] rfl ⟨rfl, rfl, rfl, rfl⟩ ?_
    refine Wp.go (x := (.aload_n 0, 1, 0, 0)) rfl 6 [some (.ref r0), some (.int x1)] [.ref r0, .int x1] rfl ⟨rfl, rfl, rfl, rfl⟩ ?_
    refine Wp.gR rfl rfl hn_r0 rfl rfl hf1 ?_
    refine Wp.gI rfl rfl hn_f1 rfl ⟨by decide, by decide⟩ ?_
    refine Wp.c_ge rfl rfl ⟨fun c => ?_, fun c => ?_⟩
    · have H := H.1 c
      refine Wp.ic (v := (-1)) rfl rfl (by decide) ?_
      exact Wp.rI rfl rfl H
    · have H := H.2 c
      refine Wp.go (x := (.aload_n 0, 1, 0, 0)) rfl 16 [some (.ref r0), some (.int x1)] [.ref r0] rfl ⟨rfl, rfl, rfl, rfl⟩ ?_
      refine Wp.gR rfl rfl hn_r0 rfl rfl hf1 ?_
      refine Wp.gR rfl rfl hn_f1 rfl rfl hf2 ?_
      refine Wp.go (x := (.iload_n 1, 1, 0, 0)) rfl 23 [some (.ref r0), some (.int x1)] [.int x1, .ref f2] rfl ⟨rfl, rfl, rfl, rfl⟩ ?_
      obtain ⟨j3, e, b, H⟩ := H
      refine Wp.ald rfl rfl hn_f2 (Or.inl rfl) (hK hn_f2) ⟨j3, e, b, ?_⟩
      refine Wp.go (x := (.goto 4, 3, 28, 0)) rfl 28 [some (.ref r0), some (.int x1)] [.int (I f2 j3)] rfl ⟨rfl, rfl, rfl, rfl⟩ ?_
      exact Wp.rI rfl rfl H
set_option maxRecDepth 20000 in
theorem wX10_clear_0 {d : Nat} {Q : Option Value × xS → Prop} {K : Nat → Nat × Nat} {P : List Nat × Nat × Nat} {I : Nat → Nat → Int32} {J : Nat → Nat → Int64} {F : Nat → Nat → Option Nat} {r0 : Nat} {n_r0 : Nat} {f1 : Nat} {n_f1 : Nat} {f2 : Nat} {n_f2 : Nat} {f5 : Nat} {n_f5 : Nat} (hn_r0 : K r0 = (9, n_r0)) (hf1 : F r0 1 = some f1) (hn_f1 : K f1 = (8, n_f1)) (hf2 : F r0 6 = some f2) (hn_f2 : K f2 = (1, n_f2)) (hf5 : F r0 2 = some f5) (hn_f5 : K f5 = (2, n_f5)) (H : Wp d 1 0 [some (.ref f2)] [] (K, P, (xup I f1 3 (nI 0)), J, F) (xrV K P F (fun I3 J4 => Wp d 8 0 [some (.ref f5), none] [] (K, P, I3, J4, F) (xrV K P F (fun I6 J7 => Q (none, (K, P, (xup ((xup ((xup I6 r0 9 (nI 0))) r0 10 (nI 8))) r0 11 (nI 0)), J7, F))))))) : Wp (d + 1) 91 0 [some (.ref r0)] [] (K, P, I, J, F) Q := by
  refine Wp.go (x := (.aload_n 0, 1, 0, 0)) rfl 1 [some (.ref r0)] [.ref r0] rfl ⟨rfl, rfl, rfl, rfl⟩ ?_
  refine Wp.gR rfl rfl hn_r0 rfl rfl hf1 ?_
  refine Wp.ic (v := nI 0) rfl rfl (by decide) ?_
  refine Wp.pI rfl rfl hn_f1 rfl (Or.inl rfl) ?_
  refine Wp.go (x := (.aload_n 0, 1, 0, 0)) rfl 9 [some (.ref r0)] [.ref r0] rfl ⟨rfl, rfl, rfl, rfl⟩ ?_
  refine Wp.gR rfl rfl hn_r0 rfl rfl hf2 ?_
  refine Wp.kV (x := (.invokevirtual 198, 3, 1, 1)) (j := 1) (vs := [.ref f2]) (rest := []) rfl (by show xtg 1 (K f2).1 = _; rw [hn_f2]; rfl) rfl ⟨Nat.le_of_ble_eq_true rfl, Nat.le_of_ble_eq_true rfl, Nat.le_of_ble_eq_true rfl⟩ rfl rfl rfl H (fun I3 J4 H => ?_)
  refine Wp.go (x := (.aload_n 0, 1, 0, 0)) rfl 16 [some (.ref r0)] [.ref r0] rfl ⟨rfl, rfl, rfl, rfl⟩ ?_
  refine Wp.gR rfl rfl hn_r0 rfl rfl hf5 ?_
  refine Wp.kV (x := (.invokevirtual 201, 3, 8, 1)) (j := 8) (vs := [.ref f5]) (rest := []) rfl (by show xtg 8 (K f5).1 = _; rw [hn_f5]; rfl) rfl ⟨Nat.le_of_ble_eq_true rfl, Nat.le_of_ble_eq_true rfl, Nat.le_of_ble_eq_true rfl⟩ rfl rfl rfl H (fun I6 J7 H => ?_)
  refine Wp.go (x := (.aload_n 0, 1, 0, 0)) rfl 23 [some (.ref r0)] [.ref r0] rfl ⟨rfl, rfl, rfl, rfl⟩ ?_
  refine Wp.ic (v := nI 0) rfl rfl (by decide) ?_
  refine Wp.pI rfl rfl hn_r0 rfl (Or.inr ⟨rfl, Or.inl rfl⟩) ?_
  refine Wp.go (x := (.aload_n 0, 1, 0, 0)) rfl 28 [some (.ref r0)] [.ref r0] rfl ⟨rfl, rfl, rfl, rfl⟩ ?_
  refine Wp.bp (v := nI 8) rfl rfl (by decide) ?_
  refine Wp.pI rfl rfl hn_r0 rfl (Or.inl rfl) ?_
  refine Wp.go (x := (.aload_n 0, 1, 0, 0)) rfl 34 [some (.ref r0)] [.ref r0] rfl ⟨rfl, rfl, rfl, rfl⟩ ?_
  refine Wp.ic (v := nI 0) rfl rfl (by decide) ?_
  refine Wp.pI rfl rfl hn_r0 rfl (Or.inl rfl) ?_
  exact Wp.rV rfl rfl H
set_option maxRecDepth 20000 in
theorem wX10_findBest_0 {d : Nat} {Q : Option Value × xS → Prop} {K : Nat → Nat × Nat} {P : List Nat × Nat × Nat} {I : Nat → Nat → Int32} {J : Nat → Nat → Int64} {F : Nat → Nat → Option Nat} {r0 : Nat} {r1 : Nat} {n_r0 : Nat} {f1 : Nat} {n_f1 : Nat} {k_f1 : Nat} {c2 : Nat} {f8 : Nat} {c9 : Nat} {n_r1 : Nat} (hn_r0 : K r0 = (9, n_r0)) (hf1 : F r0 4 = some f1) (hn_f1 : K f1 = (k_f1, n_f1)) (hc3 : xtg 2001 k_f1 = some c2) (hl4 : 3 ≤ xnl c2) (hf8 : F r0 1 = some f8) (hc10 : xtg 2000 k_f1 = some c9) (hl11 : 2 ≤ xnl c9) (hn_r1 : K r1 = (5, n_r1)) (H : Wp d c2 0 (xent (xnl c2) [.ref f1, .ref r1, .int (I r0 10)]) [] (K, P, I, J, F) (xrI K P F (fun v5 I6 J7 => Wp d c9 0 (xent (xnl c9) [.ref f1, .ref r1]) [] (K, P, (xup I6 r0 11 v5), J7, F) (xrJ K P F (fun v12 I13 J14 => ((¬ (I13 r0 11) = 0 → Wp d 55 0 [some (.ref r1), some (.ref f8), some (.long v12), none, some (.int (nI 0)), none, none] [] (K, P, I13, J14, F) (xrV K P F (fun I15 J16 => Q (none, (K, P, I15, J16, F))))) ∧ ((I13 r0 11) = 0 → Wp d 55 0 [some (.ref r1), some (.ref f8), some (.long v12), none, some (.int (nI 1)), none, none] [] (K, P, I13, J14, F) (xrV K P F (fun I17 J18 => Q (none, (K, P, I17, J18, F))))))))))) : Wp (d + 1) 92 0 [some (.ref r0), some (.ref r1)] [] (K, P, I, J, F) Q := by
  refine Wp.go (x := (.aload_n 0, 1, 0, 0)) rfl 1 [some (.ref r0), some (.ref r1)] [.ref r0] rfl ⟨rfl, rfl, rfl, rfl⟩ ?_
  refine Wp.go (x := (.aload_n 0, 1, 0, 0)) rfl 2 [some (.ref r0), some (.ref r1)] [.ref r0, .ref r0] rfl ⟨rfl, rfl, rfl, rfl⟩ ?_
  refine Wp.gR rfl rfl hn_r0 rfl rfl hf1 ?_
  refine Wp.go (x := (.aload_n 1, 1, 0, 0)) rfl 6 [some (.ref r0), some (.ref r1)] [.ref r1, .ref f1, .ref r0] rfl ⟨rfl, rfl, rfl, rfl⟩ ?_
  refine Wp.go (x := (.aload_n 0, 1, 0, 0)) rfl 7 [some (.ref r0), some (.ref r1)] [.ref r0, .ref r1, .ref f1, .ref r0] rfl ⟨rfl, rfl, rfl, rfl⟩ ?_
  refine Wp.gI rfl rfl hn_r0 rfl ⟨by decide, by decide⟩ ?_
  refine Wp.kI (x := (.invokevirtual 214, 3, 2001, 3)) (j := c2) (vs := [.ref f1, .ref r1, .int (I r0 10)]) (rest := [.ref r0]) rfl (by show xtg 2001 (K f1).1 = _; rw [hn_f1]; exact hc3) rfl ⟨Nat.le_of_ble_eq_true rfl, Nat.le_of_ble_eq_true rfl, hl4⟩ rfl rfl rfl H (fun v5 I6 J7 H => ?_)
  refine Wp.pI rfl rfl hn_r0 rfl (Or.inl rfl) ?_
  refine Wp.go (x := (.aload_n 1, 1, 0, 0)) rfl 17 [some (.ref r0), some (.ref r1)] [.ref r1] rfl ⟨rfl, rfl, rfl, rfl⟩ ?_
  refine Wp.go (x := (.aload_n 0, 1, 0, 0)) rfl 18 [some (.ref r0), some (.ref r1)] [.ref r0, .ref r1] rfl ⟨rfl, rfl, rfl, rfl⟩ ?_
  refine Wp.gR rfl rfl hn_r0 rfl rfl hf8 ?_
  refine Wp.go (x := (.aload_n 0, 1, 0, 0)) rfl 22 [some (.ref r0), some (.ref r1)] [.ref r0, .ref f8, .ref r1] rfl ⟨rfl, rfl, rfl, rfl⟩ ?_
  refine Wp.gR rfl rfl hn_r0 rfl rfl hf1 ?_
  refine Wp.go (x := (.aload_n 1, 1, 0, 0)) rfl 26 [some (.ref r0), some (.ref r1)] [.ref r1, .ref f1, .ref f8, .ref r1] rfl ⟨rfl, rfl, rfl, rfl⟩ ?_
  refine Wp.kJ (x := (.invokevirtual 116, 3, 2000, 2)) (j := c9) (vs := [.ref f1, .ref r1]) (rest := [.ref f8, .ref r1]) rfl (by show xtg 2000 (K f1).1 = _; rw [hn_f1]; exact hc10) rfl ⟨Nat.le_of_ble_eq_true rfl, Nat.le_of_ble_eq_true rfl, hl11⟩ rfl rfl rfl H (fun v12 I13 J14 H => ?_)
  refine Wp.go (x := (.aload_n 0, 1, 0, 0)) rfl 30 [some (.ref r0), some (.ref r1)] [.ref r0, .long v12, .ref f8, .ref r1] rfl ⟨rfl, rfl, rfl, rfl⟩ ?_
  refine Wp.gI rfl rfl hn_r0 rfl ⟨by decide, by decide⟩ ?_
  refine Wp.z_ne rfl rfl ⟨fun c => ?_, fun c => ?_⟩
  · have H := H.1 c
    refine Wp.ic (v := nI 0) rfl rfl (by decide) ?_
    refine Wp.kV (x := (.invokevirtual 122, 3, 55, 4)) (j := 55) (vs := [.ref r1, .ref f8, .long v12, .int (nI 0)]) (rest := []) rfl (by show xtg 55 (K r1).1 = _; rw [hn_r1]; rfl) rfl ⟨Nat.le_of_ble_eq_true rfl, Nat.le_of_ble_eq_true rfl, Nat.le_of_ble_eq_true rfl⟩ rfl rfl rfl H (fun I15 J16 H => ?_)
    exact Wp.rV rfl rfl H
  · have H := H.2 c
    refine Wp.ic (v := nI 1) rfl rfl (by decide) ?_
    refine Wp.go (x := (.goto 4, 3, 41, 0)) rfl 41 [some (.ref r0), some (.ref r1)] [.int (nI 1), .long v12, .ref f8, .ref r1] rfl ⟨rfl, rfl, rfl, rfl⟩ ?_
    refine Wp.kV (x := (.invokevirtual 122, 3, 55, 4)) (j := 55) (vs := [.ref r1, .ref f8, .long v12, .int (nI 1)]) (rest := []) rfl (by show xtg 55 (K r1).1 = _; rw [hn_r1]; rfl) rfl ⟨Nat.le_of_ble_eq_true rfl, Nat.le_of_ble_eq_true rfl, Nat.le_of_ble_eq_true rfl⟩ rfl rfl rfl H (fun I17 J18 H => ?_)
    exact Wp.rV rfl rfl H
set_option maxRecDepth 20000 in
theorem wX10_logOf_0 {d : Nat} {Q : Option Value × xS → Prop} {K : Nat → Nat × Nat} {P : List Nat × Nat × Nat} {I : Nat → Nat → Int32} {J : Nat → Nat → Int64} {F : Nat → Nat → Option Nat} {x0 : Int32}  (H : (((nI 1) ≤ x0 → Wp d 95 0 [some (.int x0), none] [] (K, P, I, J, F) (xrI K P F (fun v1 I2 J3 => Q (some (.int ((((nI 64) * v1) + (((nI 64) * x0) >>> (v1 &&& 31))) - (nI 64))), (K, P, I2, J3, F))))) ∧ (¬ (nI 1) ≤ x0 → Q (some (.int (nI 0)), (K, P, I, J, F))))) : Wp (d + 1) 94 0 [some (.int x0), none] [] (K, P, I, J, F) Q := by
  refine Wp.go (x := (.iload_n 0, 1, 0, 0)) rfl 1 [some (.int x0), none] [.int x0] rfl ⟨rfl, rfl, rfl, rfl⟩ ?_
  refine Wp.ic (v := nI 1) rfl rfl (by decide) ?_
  refine Wp.c_ge rfl rfl ⟨fun c => ?_, fun c => ?_⟩
  · have H := H.1 c
    refine Wp.go (x := (.iload_n 0, 1, 0, 0)) rfl 8 [some (.int x0), none] [.int x0] rfl ⟨rfl, rfl, rfl, rfl⟩ ?_
    refine Wp.kI (x := (.invokestatic 217, 3, 95, 1)) (j := 95) (vs := [.int x0]) (rest := []) rfl rfl rfl ⟨Nat.le_of_ble_eq_true rfl, Nat.le_of_ble_eq_true rfl, Nat.le_of_ble_eq_true rfl⟩ rfl rfl rfl H (fun v1 I2 J3 H => ?_)
    refine Wp.go (x := (.istore_n 1, 1, 0, 0)) rfl 12 [some (.int x0), some (.int v1)] [] rfl ⟨rfl, rfl, rfl, rfl⟩ ?_
    refine Wp.bp (v := nI 64) rfl rfl (by decide) ?_
    refine Wp.go (x := (.iload_n 1, 1, 0, 0)) rfl 15 [some (.int x0), some (.int v1)] [.int v1, .int (nI 64)] rfl ⟨rfl, rfl, rfl, rfl⟩ ?_
    refine Wp.go (x := (.imul, 1, 0, 0)) rfl 16 [some (.int x0), some (.int v1)] [.int ((nI 64) * v1)] rfl ⟨rfl, rfl, rfl, rfl⟩ ?_
    refine Wp.bp (v := nI 64) rfl rfl (by decide) ?_
    refine Wp.go (x := (.iload_n 0, 1, 0, 0)) rfl 19 [some (.int x0), some (.int v1)] [.int x0, .int (nI 64), .int ((nI 64) * v1)] rfl ⟨rfl, rfl, rfl, rfl⟩ ?_
    refine Wp.go (x := (.imul, 1, 0, 0)) rfl 20 [some (.int x0), some (.int v1)] [.int ((nI 64) * x0), .int ((nI 64) * v1)] rfl ⟨rfl, rfl, rfl, rfl⟩ ?_
    refine Wp.go (x := (.iload_n 1, 1, 0, 0)) rfl 21 [some (.int x0), some (.int v1)] [.int v1, .int ((nI 64) * x0), .int ((nI 64) * v1)] rfl ⟨rfl, rfl, rfl, rfl⟩ ?_
    refine Wp.go (x := (.ishr, 1, 0, 0)) rfl 22 [some (.int x0), some (.int v1)] [.int (((nI 64) * x0) >>> (v1 &&& 31)), .int ((nI 64) * v1)] rfl ⟨rfl, rfl, rfl, rfl⟩ ?_
    refine Wp.go (x := (.iadd, 1, 0, 0)) rfl 23 [some (.int x0), some (.int v1)] [.int (((nI 64) * v1) + (((nI 64) * x0) >>> (v1 &&& 31)))] rfl ⟨rfl, rfl, rfl, rfl⟩ ?_
    refine Wp.bp (v := nI 64) rfl rfl (by decide) ?_
    refine Wp.go (x := (.isub, 1, 0, 0)) rfl 26 [some (.int x0), some (.int v1)] [.int ((((nI 64) * v1) + (((nI 64) * x0) >>> (v1 &&& 31))) - (nI 64))] rfl ⟨rfl, rfl, rfl, rfl⟩ ?_
    exact Wp.rI rfl rfl H
  · have H := H.2 c
    refine Wp.ic (v := nI 0) rfl rfl (by decide) ?_
    exact Wp.rI rfl rfl H
set_option maxRecDepth 20000 in
theorem wX10_highestBit_0 {d : Nat} {Q : Option Value × xS → Prop} {K : Nat → Nat × Nat} {P : List Nat × Nat × Nat} {I : Nat → Nat → Int32} {J : Nat → Nat → Int64} {F : Nat → Nat → Option Nat} {x0 : Int32}  (H : Wp d 95 2 [some (.int x0), some (.int (nI 0))] [] (K, P, I, J, F) Q) : Wp d 95 0 [some (.int x0), none] [] (K, P, I, J, F) Q := by
  refine Wp.ic (v := nI 0) rfl rfl (by decide) ?_
  refine Wp.go (x := (.istore_n 1, 1, 0, 0)) rfl 2 [some (.int x0), some (.int (nI 0))] [] rfl ⟨rfl, rfl, rfl, rfl⟩ ?_
  exact H
set_option maxRecDepth 20000 in
theorem wX10_highestBit_2 {d : Nat} {Q : Option Value × xS → Prop} {K : Nat → Nat × Nat} {P : List Nat × Nat × Nat} {I : Nat → Nat → Int32} {J : Nat → Nat → Int64} {F : Nat → Nat → Option Nat} {x0 : Int32} {x1 : Int32}  (H : (((nI 30) ≤ x1 → Q (some (.int x1), (K, P, I, J, F))) ∧ (¬ (nI 30) ≤ x1 → (((x0 >>> ((x1 + (nI 1)) &&& 31)) ≤ 0 → Q (some (.int x1), (K, P, I, J, F))) ∧ (¬ (x0 >>> ((x1 + (nI 1)) &&& 31)) ≤ 0 → Wp d 95 2 [some (.int x0), some (.int (x1 + nI 1))] [] (K, P, I, J, F) Q))))) : Wp d 95 2 [some (.int x0), some (.int x1)] [] (K, P, I, J, F) Q := by
  refine Wp.go (x := (.iload_n 1, 1, 0, 0)) rfl 3 [some (.int x0), some (.int x1)] [.int x1] rfl ⟨rfl, rfl, rfl, rfl⟩ ?_
  refine Wp.bp (v := nI 30) rfl rfl (by decide) ?_
  refine Wp.c_ge rfl rfl ⟨fun c => ?_, fun c => ?_⟩
  · have H := H.1 c
    refine Wp.go (x := (.iload_n 1, 1, 0, 0)) rfl 23 [some (.int x0), some (.int x1)] [.int x1] rfl ⟨rfl, rfl, rfl, rfl⟩ ?_
    exact Wp.rI rfl rfl H
  · have H := H.2 c
    refine Wp.go (x := (.iload_n 0, 1, 0, 0)) rfl 9 [some (.int x0), some (.int x1)] [.int x0] rfl ⟨rfl, rfl, rfl, rfl⟩ ?_
    refine Wp.go (x := (.iload_n 1, 1, 0, 0)) rfl 10 [some (.int x0), some (.int x1)] [.int x1, .int x0] rfl ⟨rfl, rfl, rfl, rfl⟩ ?_
    refine Wp.ic (v := nI 1) rfl rfl (by decide) ?_
    refine Wp.go (x := (.iadd, 1, 0, 0)) rfl 12 [some (.int x0), some (.int x1)] [.int (x1 + (nI 1)), .int x0] rfl ⟨rfl, rfl, rfl, rfl⟩ ?_
    refine Wp.go (x := (.ishr, 1, 0, 0)) rfl 13 [some (.int x0), some (.int x1)] [.int (x0 >>> ((x1 + (nI 1)) &&& 31))] rfl ⟨rfl, rfl, rfl, rfl⟩ ?_
    refine Wp.z_le rfl rfl ⟨fun c => ?_, fun c => ?_⟩
    · have H := H.1 c
      refine Wp.go (x := (.iload_n 1, 1, 0, 0)) rfl 23 [some (.int x0), some (.int x1)] [.int x1] rfl ⟨rfl, rfl, rfl, rfl⟩ ?_
      exact Wp.rI rfl rfl H
    · have H := H.2 c
      refine Wp.ii (v := nI 1) rfl rfl (by decide) rfl (L' := [some (.int x0), some (.int (x1 + nI 1))]) rfl ?_
      refine Wp.go (x := (.goto (-17), 3, 2, 0)) rfl 2 [some (.int x0), some (.int (x1 + nI 1))] [] rfl ⟨rfl, rfl, rfl, rfl⟩ ?_
      exact H
set_option maxRecDepth 20000 in
theorem wX11_thrown_0 {d : Nat} {Q : Option Value × xS → Prop} {K : Nat → Nat × Nat} {P : List Nat × Nat × Nat} {I : Nat → Nat → Int32} {J : Nat → Nat → Int64} {F : Nat → Nat → Option Nat} {r0 : Nat} {n_r0 : Nat} (hn_r0 : K r0 = (10, n_r0)) (H : Q (some (.int (I r0 0)), (K, P, I, J, F))) : Wp d 97 0 [some (.ref r0)] [] (K, P, I, J, F) Q := by
  refine Wp.go (x := (.aload_n 0, 1, 0, 0)) rfl 1 [some (.ref r0)] [.ref r0] rfl ⟨rfl, rfl, rfl, rfl⟩ ?_
  refine Wp.gI rfl rfl hn_r0 rfl ⟨by decide, by decide⟩ ?_
  exact Wp.rI rfl rfl H
set_option maxRecDepth 20000 in
theorem wX11_start_0 {d : Nat} {Q : Option Value × xS → Prop} {K : Nat → Nat × Nat} {P : List Nat × Nat × Nat} {I : Nat → Nat → Int32} {J : Nat → Nat → Int64} {F : Nat → Nat → Option Nat} {r0 : Nat}  (H : Wp d 98 2 [some (.ref r0), some (.int (nI 0))] [] (K, P, I, J, F) Q) : Wp d 98 0 [some (.ref r0), none] [] (K, P, I, J, F) Q := by
  refine Wp.ic (v := nI 0) rfl rfl (by decide) ?_
  refine Wp.go (x := (.istore_n 1, 1, 0, 0)) rfl 2 [some (.ref r0), some (.int (nI 0))] [] rfl ⟨rfl, rfl, rfl, rfl⟩ ?_
  exact H
set_option maxRecDepth 20000 in
theorem wX11_start_2 {d : Nat} {Q : Option Value × xS → Prop} {K : Nat → Nat × Nat} {P : List Nat × Nat × Nat} {I : Nat → Nat → Int32} {J : Nat → Nat → Int64} {F : Nat → Nat → Option Nat} {r0 : Nat} {x1 : Int32} {n_r0 : Nat} {f1 : Nat} {n_f1 : Nat} (hK : ∀ {a k n : Nat}, K a = (k, n) → n < 2147483648) (hn_r0 : K r0 = (10, n_r0)) (hf1 : F r0 4 = some f1) (hn_f1 : K f1 = (100, n_f1)) (H : (((nI 1024) ≤ x1 → Q (none, (K, P, (xup I r0 5 (nI 8)), J, F))) ∧ (¬ (nI 1024) ≤ x1 → (((nI 256) ≤ x1 → (((nI 768) ≤ x1 → (∃ j2 : Nat, x1 = nI j2 ∧ j2 < n_f1 ∧ Wp d 98 2 [some (.ref r0), some (.int (x1 + nI 1))] [] (K, P, (xup I f1 j2 (nI 64)), J, F) Q)) ∧ (¬ (nI 768) ≤ x1 → (∃ j3 : Nat, x1 = nI j3 ∧ j3 < n_f1 ∧ Wp d 98 2 [some (.ref r0), some (.int (x1 + nI 1))] [] (K, P, (xup I f1 j3 (nI 320)), J, F) Q)))) ∧ (¬ (nI 256) ≤ x1 → (∃ j4 : Nat, x1 = nI j4 ∧ j4 < n_f1 ∧ Wp d 98 2 [some (.ref r0), some (.int (x1 + nI 1))] [] (K, P, (xup I f1 j4 (nI 512)), J, F) Q)))))) : Wp d 98 2 [some (.ref r0), some (.int x1)] [] (K, P, I, J, F) Q := by
  refine Wp.go (x := (.iload_n 1, 1, 0, 0)) rfl 3 [some (.ref r0), some (.int x1)] [.int x1] rfl ⟨rfl, rfl, rfl, rfl⟩ ?_
  refine Wp.sp (v := nI 1024) rfl rfl (by decide) ?_
  refine Wp.c_ge rfl rfl ⟨fun c => ?_, fun c => ?_⟩
  · have H := H.1 c
    refine Wp.go (x := (.aload_n 0, 1, 0, 0)) rfl 50 [some (.ref r0), some (.int x1)] [.ref r0] rfl ⟨rfl, rfl, rfl, rfl⟩ ?_
    refine Wp.bp (v := nI 8) rfl rfl (by decide) ?_
    refine Wp.pI rfl rfl hn_r0 rfl (Or.inl rfl) ?_
    exact Wp.rV rfl rfl H
  · have H := H.2 c
    refine Wp.go (x := (.aload_n 0, 1, 0, 0)) rfl 10 [some (.ref r0), some (.int x1)] [.ref r0] rfl ⟨rfl, rfl, rfl, rfl⟩ ?_
    refine Wp.gR rfl rfl hn_r0 rfl rfl hf1 ?_
    refine Wp.go (x := (.iload_n 1, 1, 0, 0)) rfl 14 [some (.ref r0), some (.int x1)] [.int x1, .ref f1] rfl ⟨rfl, rfl, rfl, rfl⟩ ?_
    refine Wp.go (x := (.iload_n 1, 1, 0, 0)) rfl 15 [some (.ref r0), some (.int x1)] [.int x1, .int x1, .ref f1] rfl ⟨rfl, rfl, rfl, rfl⟩ ?_
    refine Wp.sp (v := nI 256) rfl rfl (by decide) ?_
    refine Wp.c_ge rfl rfl ⟨fun c => ?_, fun c => ?_⟩
    · have H := H.1 c
      refine Wp.go (x := (.iload_n 1, 1, 0, 0)) rfl 28 [some (.ref r0), some (.int x1)] [.int x1, .int x1, .ref f1] rfl ⟨rfl, rfl, rfl, rfl⟩ ?_
      refine Wp.sp (v := nI 768) rfl rfl (by decide) ?_
      refine Wp.c_ge rfl rfl ⟨fun c => ?_, fun c => ?_⟩
      · have H := H.1 c
        refine Wp.bp (v := nI 64) rfl rfl (by decide) ?_
        obtain ⟨j2, e, b, H⟩ := H
        refine Wp.ast rfl rfl hn_f1 (hK hn_f1) ⟨j2, e, b, ?_⟩
        refine Wp.ii (v := nI 1) rfl rfl (by decide) rfl (L' := [some (.ref r0), some (.int (x1 + nI 1))]) rfl ?_
        refine Wp.go (x := (.goto (-44), 3, 2, 0)) rfl 2 [some (.ref r0), some (.int (x1 + nI 1))] [] rfl ⟨rfl, rfl, rfl, rfl⟩ ?_
        exact H
      · have H := H.2 c
        refine Wp.sp (v := nI 320) rfl rfl (by decide) ?_
        refine Wp.go (x := (.goto 5, 3, 42, 0)) rfl 42 [some (.ref r0), some (.int x1)] [.int (nI 320), .int x1, .ref f1] rfl ⟨rfl, rfl, rfl, rfl⟩ ?_
        obtain ⟨j3, e, b, H⟩ := H
        refine Wp.ast rfl rfl hn_f1 (hK hn_f1) ⟨j3, e, b, ?_⟩
        refine Wp.ii (v := nI 1) rfl rfl (by decide) rfl (L' := [some (.ref r0), some (.int (x1 + nI 1))]) rfl ?_
        refine Wp.go (x := (.goto (-44), 3, 2, 0)) rfl 2 [some (.ref r0), some (.int (x1 + nI 1))] [] rfl ⟨rfl, rfl, rfl, rfl⟩ ?_
        exact H
    · have H := H.2 c
      refine Wp.sp (v := nI 512) rfl rfl (by decide) ?_
      refine Wp.go (x := (.goto 18, 3, 42, 0)) rfl 42 [some (.ref r0), some (.int x1)] [.int (nI 512), .int x1, .ref f1] rfl ⟨rfl, rfl, rfl, rfl⟩ ?_
      obtain ⟨j4, e, b, H⟩ := H
      refine Wp.ast rfl rfl hn_f1 (hK hn_f1) ⟨j4, e, b, ?_⟩
      refine Wp.ii (v := nI 1) rfl rfl (by decide) rfl (L' := [some (.ref r0), some (.int (x1 + nI 1))]) rfl ?_
      refine Wp.go (x := (.goto (-44), 3, 2, 0)) rfl 2 [some (.ref r0), some (.int (x1 + nI 1))] [] rfl ⟨rfl, rfl, rfl, rfl⟩ ?_
      exact H
set_option maxRecDepth 20000 in
theorem wX11_shortest_0 {d : Nat} {Q : Option Value × xS → Prop} {K : Nat → Nat × Nat} {P : List Nat × Nat × Nat} {I : Nat → Nat → Int32} {J : Nat → Nat → Int64} {F : Nat → Nat → Option Nat} {r0 : Nat} {n_r0 : Nat} (hn_r0 : K r0 = (10, n_r0)) (H : ((¬ (I r0 1) = 0 → ((¬ (I r0 1) = (nI 1) → Q (some (.int (nI 2)), (K, P, I, J, F))) ∧ ((I r0 1) = (nI 1) → Q (some (.int (nI 4)), (K, P, I, J, F))))) ∧ ((I r0 1) = 0 → Q (some (.int (nI 3)), (K, P, I, J, F))))) : Wp d 99 0 [some (.ref r0)] [] (K, P, I, J, F) Q := by
  refine Wp.go (x := (.aload_n 0, 1, 0, 0)) rfl 1 [some (.ref r0)] [.ref r0] rfl ⟨rfl, rfl, rfl, rfl⟩ ?_
  refine Wp.gI rfl rfl hn_r0 rfl ⟨by decide, by decide⟩ ?_
  refine Wp.z_ne rfl rfl ⟨fun c => ?_, fun c => ?_⟩
  · have H := H.1 c
    refine Wp.go (x := (.aload_n 0, 1, 0, 0)) rfl 12 [some (.ref r0)] [.ref r0] rfl ⟨rfl, rfl, rfl, rfl⟩ ?_
    refine Wp.gI rfl rfl hn_r0 rfl ⟨by decide, by decide⟩ ?_
    refine Wp.ic (v := nI 1) rfl rfl (by decide) ?_
    refine Wp.c_ne rfl rfl ⟨fun c => ?_, fun c => ?_⟩
    · have H := H.1 c
      refine Wp.ic (v := nI 2) rfl rfl (by decide) ?_
      exact Wp.rI rfl rfl H
    · have H := H.2 c
      refine Wp.ic (v := nI 4) rfl rfl (by decide) ?_
      refine Wp.go (x := (.goto 4, 3, 24, 0)) rfl 24 [some (.ref r0)] [.int (nI 4)] rfl ⟨rfl, rfl, rfl, rfl⟩ ?_
      exact Wp.rI rfl rfl H
  · have H := H.2 c
    refine Wp.ic (v := nI 3) rfl rfl (by decide) ?_
    refine Wp.go (x := (.goto 16, 3, 24, 0)) rfl 24 [some (.ref r0)] [.int (nI 3)] rfl ⟨rfl, rfl, rfl, rfl⟩ ?_
    exact Wp.rI rfl rfl H
set_option maxRecDepth 20000 in
theorem wX11_greatest_0 {d : Nat} {Q : Option Value × xS → Prop} {K : Nat → Nat × Nat} {P : List Nat × Nat × Nat} {I : Nat → Nat → Int32} {J : Nat → Nat → Int64} {F : Nat → Nat → Option Nat} {r0 : Nat} {n_r0 : Nat} (hn_r0 : K r0 = (10, n_r0)) (H : ((¬ (I r0 1) = 0 → ((¬ (I r0 1) = (nI 1) → Q (some (.int (nI 273)), (K, P, I, J, F))) ∧ ((I r0 1) = (nI 1) → Q (some (.int (nI 300)), (K, P, I, J, F))))) ∧ ((I r0 1) = 0 → Q (some (.int (nI 258)), (K, P, I, J, F))))) : Wp d 100 0 [some (.ref r0)] [] (K, P, I, J, F) Q := by
  refine Wp.go (x := (.aload_n 0, 1, 0, 0)) rfl 1 [some (.ref r0)] [.ref r0] rfl ⟨rfl, rfl, rfl, rfl⟩ ?_
  refine Wp.gI rfl rfl hn_r0 rfl ⟨by decide, by decide⟩ ?_
  refine Wp.z_ne rfl rfl ⟨fun c => ?_, fun c => ?_⟩
  · have H := H.1 c
    refine Wp.go (x := (.aload_n 0, 1, 0, 0)) rfl 14 [some (.ref r0)] [.ref r0] rfl ⟨rfl, rfl, rfl, rfl⟩ ?_
    refine Wp.gI rfl rfl hn_r0 rfl ⟨by decide, by decide⟩ ?_
    refine Wp.ic (v := nI 1) rfl rfl (by decide) ?_
    refine Wp.c_ne rfl rfl ⟨fun c => ?_, fun c => ?_⟩
    · have H := H.1 c
      refine Wp.sp (v := nI 273) rfl rfl (by decide) ?_
      exact Wp.rI rfl rfl H
    · have H := H.2 c
      refine Wp.sp (v := nI 300) rfl rfl (by decide) ?_
      refine Wp.go (x := (.goto 6, 3, 30, 0)) rfl 30 [some (.ref r0)] [.int (nI 300)] rfl ⟨rfl, rfl, rfl, rfl⟩ ?_
      exact Wp.rI rfl rfl H
  · have H := H.2 c
    refine Wp.sp (v := nI 258) rfl rfl (by decide) ?_
    refine Wp.go (x := (.goto 20, 3, 30, 0)) rfl 30 [some (.ref r0)] [.int (nI 258)] rfl ⟨rfl, rfl, rfl, rfl⟩ ?_
    exact Wp.rI rfl rfl H
set_option maxRecDepth 20000 in
theorem wX11_symbols_0 {d : Nat} {Q : Option Value × xS → Prop} {K : Nat → Nat × Nat} {P : List Nat × Nat × Nat} {I : Nat → Nat → Int32} {J : Nat → Nat → Int64} {F : Nat → Nat → Option Nat} {x0 : Int32}  (H : ((¬ x0 = 0 → ((¬ x0 = (nI 1) → ((¬ x0 = (nI 2) → Q (some (.int (nI 7)), (K, P, I, J, F))) ∧ (x0 = (nI 2) → Q (some (.int (nI 20)), (K, P, I, J, F))))) ∧ (x0 = (nI 1) → Q (some (.int (nI 32)), (K, P, I, J, F))))) ∧ (x0 = 0 → Q (some (.int (nI 256)), (K, P, I, J, F))))) : Wp d 101 0 [some (.int x0)] [] (K, P, I, J, F) Q := by
  refine Wp.go (x := (.iload_n 0, 1, 0, 0)) rfl 1 [some (.int x0)] [.int x0] rfl ⟨rfl, rfl, rfl, rfl⟩ ?_
  refine Wp.z_ne rfl rfl ⟨fun c => ?_, fun c => ?_⟩
  · have H := H.1 c
    refine Wp.go (x := (.iload_n 0, 1, 0, 0)) rfl 11 [some (.int x0)] [.int x0] rfl ⟨rfl, rfl, rfl, rfl⟩ ?_
    refine Wp.ic (v := nI 1) rfl rfl (by decide) ?_
    refine Wp.c_ne rfl rfl ⟨fun c => ?_, fun c => ?_⟩
    · have H := H.1 c
      refine Wp.go (x := (.iload_n 0, 1, 0, 0)) rfl 21 [some (.int x0)] [.int x0] rfl ⟨rfl, rfl, rfl, rfl⟩ ?_
      refine Wp.ic (v := nI 2) rfl rfl (by decide) ?_
      refine Wp.c_ne rfl rfl ⟨fun c => ?_, fun c => ?_⟩
      · have H := H.1 c
        refine Wp.bp (v := nI 7) rfl rfl (by decide) ?_
        exact Wp.rI rfl rfl H
      · have H := H.2 c
        refine Wp.bp (v := nI 20) rfl rfl (by decide) ?_
        refine Wp.go (x := (.goto 5, 3, 32, 0)) rfl 32 [some (.int x0)] [.int (nI 20)] rfl ⟨rfl, rfl, rfl, rfl⟩ ?_
        exact Wp.rI rfl rfl H
    · have H := H.2 c
      refine Wp.bp (v := nI 32) rfl rfl (by decide) ?_
      refine Wp.go (x := (.goto 15, 3, 32, 0)) rfl 32 [some (.int x0)] [.int (nI 32)] rfl ⟨rfl, rfl, rfl, rfl⟩ ?_
      exact Wp.rI rfl rfl H
  · have H := H.2 c
    refine Wp.sp (v := nI 256) rfl rfl (by decide) ?_
    refine Wp.go (x := (.goto 25, 3, 32, 0)) rfl 32 [some (.int x0)] [.int (nI 256)] rfl ⟨rfl, rfl, rfl, rfl⟩ ?_
    exact Wp.rI rfl rfl H
set_option maxRecDepth 20000 in
theorem wX11_isCost_0 {d : Nat} {Q : Option Value × xS → Prop} {K : Nat → Nat × Nat} {P : List Nat × Nat × Nat} {I : Nat → Nat → Int32} {J : Nat → Nat → Int64} {F : Nat → Nat → Option Nat} {r0 : Nat} {x1 : Int32} {x2 : Int32} {n_r0 : Nat} (hn_r0 : K r0 = (10, n_r0)) (H : (((I r0 1) = (nI 1) → Q (some (.int (nI 0)), (K, P, I, J, F))) ∧ (¬ (I r0 1) = (nI 1) → ((x1 < 0 → Q (some (.int (nI 0)), (K, P, I, J, F))) ∧ (¬ x1 < 0 → ((¬ (I r0 1) = 0 → Wp d 102 25 [none, some (.int x1), some (.int x2)] [.int (nI 4), .int x1] (K, P, I, J, F) Q) ∧ ((I r0 1) = 0 → Wp d 102 25 [none, some (.int x1), some (.int x2)] [.int (nI 3), .int x1] (K, P, I, J, F) Q))))))) : Wp d 102 0 [some (.ref r0), some (.int x1), some (.int x2)] [] (K, P, I, J, F) Q := by
  refine Wp.go (x := (.aload_n 0, 1, 0, 0)) rfl 1 [some (.ref r0), some (.int x1), some (.int x2)] [.ref r0] rfl ⟨rfl, rfl, rfl, rfl⟩ ?_
  refine Wp.gI rfl rfl hn_r0 rfl ⟨by decide, by decide⟩ ?_
  refine Wp.ic (v := nI 1) rfl rfl (by decide) ?_
  refine Wp.c_eq rfl rfl ⟨fun c => ?_, fun c => ?_⟩
  · have H := H.1 c
    refine Wp.ic (v := nI 0) rfl rfl (by decide) ?_
    exact Wp.rZ rfl rfl (Or.inl rfl) H
  · have H := H.2 c
    refine Wp.go (x := (.iload_n 1, 1, 0, 0)) rfl 9 [some (.ref r0), some (.int x1), some (.int x2)] [.int x1] rfl ⟨rfl, rfl, rfl, rfl⟩ ?_
    refine Wp.z_lt rfl rfl ⟨fun c => ?_, fun c => ?_⟩
    · have H := H.1 c
      refine Wp.ic (v := nI 0) rfl rfl (by decide) ?_
      exact Wp.rZ rfl rfl (Or.inl rfl) H
    · have H := H.2 c
      refine Wp.go (x := (.iload_n 1, 1, 0, 0)) rfl 13 [some (.ref r0), some (.int x1), some (.int x2)] [.int x1] rfl ⟨rfl, rfl, rfl, rfl⟩ ?_
      refine Wp.go (x := (.aload_n 0, 1, 0, 0)) rfl 14 [some (.ref r0), some (.int x1), some (.int x2)] [.ref r0, .int x1] rfl ⟨rfl, rfl, rfl, rfl⟩ ?_
      refine Wp.gI rfl rfl hn_r0 rfl ⟨by decide, by decide⟩ ?_
      refine Wp.z_ne rfl rfl ⟨fun c => ?_, fun c => ?_⟩
      · have H := H.1 c
        refine Wp.ic (v := nI 4) rfl rfl (by decide) ?_
        exact Wp.wk (L := [none, some (.int x1), some (.int x2)]) ⟨Or.inl rfl, Or.inr rfl, Or.inr rfl, trivial⟩ H
      · have H := H.2 c
        refine Wp.ic (v := nI 3) rfl rfl (by decide) ?_
        refine Wp.go (x := (.goto 4, 3, 25, 0)) rfl 25 [some (.ref r0), some (.int x1), some (.int x2)] [.int (nI 3), .int x1] rfl ⟨rfl, rfl, rfl, rfl⟩ ?_
        exact Wp.wk (L := [none, some (.int x1), some (.int x2)]) ⟨Or.inl rfl, Or.inr rfl, Or.inr rfl, trivial⟩ H
