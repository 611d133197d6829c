set_option maxRecDepth 20000 in
theorem wX5_init_53 {d : Nat} {Q : Option Value × xS → Prop} {K : Nat → Nat × Nat} {P : List Nat × Nat × Nat} {I : Nat → Nat → Int32} {J : Nat → Nat → Int64} {F : Nat → Nat → Option Nat} {r0 : Nat} {x3 : Int32} {n_r0 : Nat} {f1 : Nat} {n_f1 : Nat} (hK : ∀ {a k n : Nat}, K a = (k, n) → n < 2147483648) (hn_r0 : K r0 = (4, n_r0)) (hf1 : F r0 6 = some f1) (hn_f1 : K f1 = (100, n_f1)) (H : (((nI 300) < x3 → Q (none, (K, P, I, J, F))) ∧ (¬ (nI 300) < x3 → Wp d 48 0 [some (.int x3), some (.int (nI 15))] [] (K, P, I, J, F) (xrI K P F (fun v2 I3 J4 => (∃ j5 : Nat, x3 = nI j5 ∧ j5 < n_f1 ∧ Wp (d + 1) 41 53 [some (.ref r0), none, none, some (.int (x3 + nI 1))] [] (K, P, (xup I3 f1 j5 ((nI 512) * (x3 + v2))), J4, F) Q)))))) : Wp (d + 1) 41 53 [some (.ref r0), none, none, some (.int x3)] [] (K, P, I, J, F) Q := by
  refine Wp.go (x := (.iload_n 3, 1, 0, 0)) rfl 54 [some (.ref r0), none, none, some (.int x3)] [.int x3] rfl ⟨rfl, rfl, rfl, rfl⟩ ?_
  refine Wp.sp (v := nI 300) rfl rfl (by decide) ?_
  refine Wp.c_gt rfl rfl ⟨fun c => ?_, fun c => ?_⟩
  · have H := H.1 c
    exact Wp.rV rfl rfl H
  · have H := H.2 c
    refine Wp.go (x := (.aload_n 0, 1, 0, 0)) rfl 61 [some (.ref r0), none, none, some (.int x3)] [.ref r0] rfl ⟨rfl, rfl, rfl, rfl⟩ ?_
    refine Wp.gR rfl rfl hn_r0 rfl rfl hf1 ?_
    refine Wp.go (x := (.iload_n 3, 1, 0, 0)) rfl 65 [some (.ref r0), none, none, some (.int x3)] [.int x3, .ref f1] rfl ⟨rfl, rfl, rfl, rfl⟩ ?_
    refine Wp.sp (v := nI 512) rfl rfl (by decide) ?_
    refine Wp.go (x := (.iload_n 3, 1, 0, 0)) rfl 69 [some (.ref r0), none, none, some (.int x3)] [.int x3, .int (nI 512), .int x3, .ref f1] rfl ⟨rfl, rfl, rfl, rfl⟩ ?_
    refine Wp.go (x := (.iload_n 3, 1, 0, 0)) rfl 70 [some (.ref r0), none, none, some (.int x3)] [.int x3, .int x3, .int (nI 512), .int x3, .ref f1] rfl ⟨rfl, rfl, rfl, rfl⟩ ?_
    refine Wp.bp (v := nI 15) rfl rfl (by decide) ?_
    refine Wp.kI (x := (.invokestatic 27, 3, 48, 2)) (j := 48) (vs := [.int x3, .int (nI 15)]) (rest := [.int x3, .int (nI 512), .int x3, .ref f1]) rfl rfl rfl ⟨Nat.le_of_ble_eq_true rfl, Nat.le_of_ble_eq_true rfl, Nat.le_of_ble_eq_true rfl⟩ rfl rfl rfl H (fun v2 I3 J4 H => ?_)
    refine Wp.go (x := (.iadd, 1, 0, 0)) rfl 76 [some (.ref r0), none, none, some (.int x3)] [.int (x3 + v2), .int (nI 512), .int x3, .ref f1] rfl ⟨rfl, rfl, rfl, rfl⟩ ?_
    refine Wp.go (x := (.imul, 1, 0, 0)) rfl 77 [some (.ref r0), none, none, some (.int x3)] [.int ((nI 512) * (x3 + v2)), .int x3, .ref f1] rfl ⟨rfl, rfl, rfl, rfl⟩ ?_
    obtain ⟨j5, e, b, H⟩ := H
    refine Wp.ast rfl rfl hn_f1 (hK hn_f1) ⟨j5, e, b, ?_⟩
    refine Wp.ii (v := nI 1) rfl rfl (by decide) rfl (L' := [some (.ref r0), none, none, some (.int (x3 + nI 1))]) rfl ?_
    refine Wp.go (x := (.goto (-28), 3, 53, 0)) rfl 53 [some (.ref r0), none, none, some (.int (x3 + nI 1))] [] rfl ⟨rfl, rfl, rfl, rfl⟩ ?_
    exact H
section LITS
variable {d : Nat} {Q : Option Value × xS → Prop} {K : Nat → Nat × Nat} {P : List Nat × Nat × Nat} {I : Nat → Nat → Int32} {J : Nat → Nat → Int64} {F : Nat → Nat → Option Nat}
theorem p_lits (hK : ∀ {a k n : Nat}, K a = (k, n) → n < 2147483648) {na : Nat} (h1 : K 20 = (4, na)) (h2 : F 20 6 = some 27) (h3 : K 27 = (100, 301)) (k : ∀ I', xag I I' [27] → LC I' → Q (none, (K, P, I', J, F))) : Wp (d + 1) 41 53 [some (.ref 20), none, none, some (.int (nI 0))] [] (K, P, I, J, F) Q := by
  have loop : ∀ w r I1, 301 - r = w → r ≤ 301 → xag I I1 [27] → (∀ j, j < r → I1 27 j = nI (lt1 j)) → Wp (d + 1) 41 53 [some (.ref 20), none, none, some (.int (nI r))] [] (K, P, I1, J, F) Q := by
    intro w
    induction w with
    | zero =>
      intro r I1 hw hr ha hc
      exact wX5_init_53 hK h1 h2 h3 (br1 (by first | (rw [nI_ltI (by omega) (by omega)]; omega) | (rw [nI_leI (by omega) (by omega)]; omega)) (k I1 ha (fun r' hr' => hc r' (by omega))))
    | succ w ih =>
      intro r I1 hw hr ha hc
      refine wX5_init_53 hK h1 h2 h3 (br2 (by first | (rw [nI_ltI (by omega) (by omega)]; omega) | (rw [nI_leI (by omega) (by omega)]; omega)) ?_)
      refine p_beyond (by omega) (by omega) ⟨_, _, _, rfl, r, rfl, by omega, ?_⟩
      rw [nI_add r (xmore r 15), pk_mul, nI_add r 1]
      refine ih (r + 1) _ (by omega) (by omega) (ha.up (by simp)) (fun j hj => ?_)
      rw [xup_at]
      by_cases e : j = r
      · rw [if_pos e, e]
        rfl
      · rw [if_neg e]
        exact hc j (by omega)
  exact loop 301 0 I rfl (by omega) xag.rfl (fun j h => by omega)
end LITS
set_option maxRecDepth 20000 in
theorem ci_X1_init_10_0 {L d n1 n2 : Nat} {pl : List Nat} {D : List (Nat × Nat)} {K : Nat → Nat × Nat} {F : Nat → Nat → Option Nat} {I : Nat → Nat → Int32} {J : Nat → Nat → Int64} {Q : Option Value × xS → Prop} (hL : L < 2147483648) (hK : KP 0 L 11 K) (hF : FD 0 11 D F) (hS : ST I) (r0 : ∀ q, I 10 q = 0) (k : ∀ K' F' I' J' m1 m2, m1 = n1 + 4 → m2 = n2 + 1231 → KP 0 L 15 K' → FD 0 15 ((10, 4) :: (10, 3) :: (10, 2) :: (10, 1) :: D) F' → (∀ x, x ∉ [10, 11, 12, 13, 14] → I' x = I x) → (∀ q, I' 10 q = if q = 0 then nI 3 else 0) → CV I' 11 V0 → Q (none, (K', (pl, m1, m2), I', J', F'))) : Wp (d + 3) 7 0 [some (.ref 10), some (.int (nI 0))] [] (K, (11 :: 12 :: 13 :: 14 :: pl, n1, n2), I, J, F) Q := by
  have fr0 : ∀ x, x ∉ [10] → I x = I x := fun _ _ => rfl
  refine Wp.go (x := (.aload_n 0, 1, 0, 0)) rfl 1 [some (.ref 10), some (.int (nI 0))] [.ref 10] rfl ⟨rfl, rfl, rfl, rfl⟩ ?_
  refine Wp.obj rfl rfl rfl (by omega) (Nat.le_of_ble_eq_true rfl) ?_
  refine Wp.go (x := (.aload_n 0, 1, 0, 0)) rfl 5 [some (.ref 10), some (.int (nI 0))] [.ref 10] rfl ⟨rfl, rfl, rfl, rfl⟩ ?_
  refine Wp.sp (v := nI 315) rfl rfl (by decide) ?_
  have hF1 := hF.mono (b' := 11) (by decide)
  refine Wp.mni (a := 11) rfl rfl hK rfl (by decide) (fun K2 I2 hK2 fa2 z2 => ?_)
  have r2 : ∀ q, I2 10 q = 0 := fun q => by rw [fa2 10 (by decide)]; exact r0 q
  have fr2 : ∀ x, x ∉ [10, 11] → I2 x = I x := fun x hx => by simp at hx; rw [fa2 x (by omega)]; try exact fr0 x (by simp; omega)
  have hF3 := hF1.mono (b' := 12) (by decide)
  refine Wp.cpR rfl rfl hK2 hF3 (by decide) rfl rfl rfl rfl (fun F4 hF4 => ?_)
  refine Wp.go (x := (.aload_n 0, 1, 0, 0)) rfl 14 [some (.ref 10), some (.int (nI 0))] [.ref 10] rfl ⟨rfl, rfl, rfl, rfl⟩ ?_
  refine Wp.sp (v := nI 315) rfl rfl (by decide) ?_
  have hF5 := hF4.mono (b' := 12) (by decide)
  refine Wp.mni (a := 12) rfl rfl hK2 rfl (by decide) (fun K6 I6 hK6 fa6 z6 => ?_)
  have r6 : ∀ q, I6 10 q = 0 := fun q => by rw [fa6 10 (by decide)]; exact r2 q
  have fr6 : ∀ x, x ∉ [10, 11, 12] → I6 x = I x := fun x hx => by simp at hx; rw [fa6 x (by omega)]; try exact fr2 x (by simp; omega)
  have hF7 := hF5.mono (b' := 13) (by decide)
  refine Wp.cpR rfl rfl hK6 hF7 (by decide) rfl rfl rfl rfl (fun F8 hF8 => ?_)
  refine Wp.go (x := (.aload_n 0, 1, 0, 0)) rfl 23 [some (.ref 10), some (.int (nI 0))] [.ref 10] rfl ⟨rfl, rfl, rfl, rfl⟩ ?_
  refine Wp.sp (v := nI 301) rfl rfl (by decide) ?_
  have hF9 := hF8.mono (b' := 13) (by decide)
  refine Wp.mni (a := 13) rfl rfl hK6 rfl (by decide) (fun K10 I10 hK10 fa10 z10 => ?_)
  have r10 : ∀ q, I10 10 q = 0 := fun q => by rw [fa10 10 (by decide)]; exact r6 q
  have fr10 : ∀ x, x ∉ [10, 11, 12, 13] → I10 x = I x := fun x hx => by simp at hx; rw [fa10 x (by omega)]; try exact fr6 x (by simp; omega)
  have hF11 := hF9.mono (b' := 14) (by decide)
  refine Wp.cpR rfl rfl hK10 hF11 (by decide) rfl rfl rfl rfl (fun F12 hF12 => ?_)
  refine Wp.go (x := (.aload_n 0, 1, 0, 0)) rfl 32 [some (.ref 10), some (.int (nI 0))] [.ref 10] rfl ⟨rfl, rfl, rfl, rfl⟩ ?_
  refine Wp.sp (v := nI 300) rfl rfl (by decide) ?_
  have hF13 := hF12.mono (b' := 14) (by decide)
  refine Wp.mni (a := 14) rfl rfl hK10 rfl (by decide) (fun K14 I14 hK14 fa14 z14 => ?_)
  have r14 : ∀ q, I14 10 q = 0 := fun q => by rw [fa14 10 (by decide)]; exact r10 q
  have fr14 : ∀ x, x ∉ [10, 11, 12, 13, 14] → I14 x = I x := fun x hx => by simp at hx; rw [fa14 x (by omega)]; try exact fr10 x (by simp; omega)
  have hF15 := hF13.mono (b' := 15) (by decide)
  refine Wp.cpR rfl rfl hK14 hF15 (by decide) rfl rfl rfl rfl (fun F16 hF16 => ?_)
  refine Wp.go (x := (.aload_n 0, 1, 0, 0)) rfl 41 [some (.ref 10), some (.int (nI 0))] [.ref 10] rfl ⟨rfl, rfl, rfl, rfl⟩ ?_
  refine Wp.go (x := (.iload_n 1, 1, 0, 0)) rfl 42 [some (.ref 10), some (.int (nI 0))] [.int (nI 0), .ref 10] rfl ⟨rfl, rfl, rfl, rfl⟩ ?_
  refine Wp.ic (v := nI 1) rfl rfl (by decide) ?_
  refine Wp.c_ne rfl rfl ⟨fun c => ?_, fun c => absurd c (by decide)⟩
  refine Wp.go (x := (.iload_n 1, 1, 0, 0)) rfl 51 [some (.ref 10), some (.int (nI 0))] [.int (nI 0), .ref 10] rfl ⟨rfl, rfl, rfl, rfl⟩ ?_
  refine Wp.z_ne rfl rfl ⟨fun c => absurd c (by decide), fun c => ?_⟩
  refine Wp.ic (v := nI 3) rfl rfl (by decide) ?_
  refine Wp.go (x := (.goto 4, 3, 59, 0)) rfl 59 [some (.ref 10), some (.int (nI 0))] [.int (nI 3), .ref 10] rfl ⟨rfl, rfl, rfl, rfl⟩ ?_
  refine Wp.mpI rfl rfl hK14 (by decide) rfl rfl (Or.inl rfl) (fun I17 fa17 z17 => ?_)
  have r17 : ∀ q, I17 10 q = if q = 0 then nI 3 else 0 := fun q => by
    rw [z17 q]
    by_cases e : q = 0
    · rw [if_pos e, if_pos e]
    · rw [if_neg e, if_neg e]
      exact r14 q
  have fr17 : ∀ x, x ∉ [10, 11, 12, 13, 14] → I17 x = I x := fun x hx => by simp at hx; rw [fa17 x (by omega)]; try exact fr14 x (by simp; omega)
  refine Wp.go (x := (.aload_n 0, 1, 0, 0)) rfl 63 [some (.ref 10), some (.int (nI 0))] [.ref 10] rfl ⟨rfl, rfl, rfl, rfl⟩ ?_
  refine Wp.call (x := (.invokevirtual 28, 3, 8, 1)) rfl 8 [.ref 10] [] (by show xtg 8 (K14 10).1 = _; rw [hK14.at (a := 10) (by decide) rfl]; rfl) rfl ⟨Nat.le_of_ble_eq_true rfl, Nat.le_of_ble_eq_true rfl, Nat.le_of_ble_eq_true rfl⟩ rfl rfl rfl ?_
  have hS18 : ST I17 := fun k' hk' => by rw [fr17 1 (by decide), fr17 2 (by decide), fr17 3 (by decide)]; exact hS k' hk'
  refine p_resetG (K := K14) (v := 11) (hK14.lt (by decide) hL) (hK14.at (a := 10) (by decide) rfl) (hF16.at (by simp) rfl) (hK14.at (by decide) rfl) (hK14.at (by decide) rfl) (hK14.at (by decide) rfl) (hK14.at (by decide) rfl) hS18 (fun I18 b18 y18 => ?_)
  have fa18 : ∀ x, x ≠ 11 → I18 x = I17 x := fun x hx => b18 x (by simp; omega)
  show Wp (d + 3) 7 66 [some (.ref 10), some (.int (nI 0))] [] _ Q
  have r18 : ∀ q, I18 10 q = if q = 0 then nI 3 else 0 := fun q => by rw [fa18 10 (by decide)]; exact r17 q
  have fr18 : ∀ x, x ∉ [10, 11, 12, 13, 14] → I18 x = I x := fun x hx => by simp at hx; rw [fa18 x (by omega)]; try exact fr17 x (by simp; omega)
  exact Wp.rV rfl rfl (k _ _ _ _ _ _ (by omega) (by omega) hK14 hF16 fr18 r18 y18)
set_option maxRecDepth 20000 in
theorem ci_X1_init_15_0 {L d n1 n2 : Nat} {pl : List Nat} {D : List (Nat × Nat)} {K : Nat → Nat × Nat} {F : Nat → Nat → Option Nat} {I : Nat → Nat → Int32} {J : Nat → Nat → Int64} {Q : Option Value × xS → Prop} (hL : L < 2147483648) (hK : KP 0 L 16 K) (hF : FD 0 16 D F) (hS : ST I) (r0 : ∀ q, I 15 q = 0) (k : ∀ K' F' I' J' m1 m2, m1 = n1 + 4 → m2 = n2 + 1231 → KP 0 L 20 K' → FD 0 20 ((15, 4) :: (15, 3) :: (15, 2) :: (15, 1) :: D) F' → (∀ x, x ∉ [15, 16, 17, 18, 19] → I' x = I x) → (∀ q, I' 15 q = if q = 0 then nI 3 else 0) → CV I' 16 V0 → Q (none, (K', (pl, m1, m2), I', J', F'))) : Wp (d + 3) 7 0 [some (.ref 15), some (.int (nI 0))] [] (K, (16 :: 17 :: 18 :: 19 :: pl, n1, n2), I, J, F) Q := by
  have fr0 : ∀ x, x ∉ [15] → I x = I x := fun _ _ => rfl
  refine Wp.go (x := (.aload_n 0, 1, 0, 0)) rfl 1 [some (.ref 15), some (.int (nI 0))] [.ref 15] rfl ⟨rfl, rfl, rfl, rfl⟩ ?_
  refine Wp.obj rfl rfl rfl (by omega) (Nat.le_of_ble_eq_true rfl) ?_
  refine Wp.go (x := (.aload_n 0, 1, 0, 0)) rfl 5 [some (.ref 15), some (.int (nI 0))] [.ref 15] rfl ⟨rfl, rfl, rfl, rfl⟩ ?_
  refine Wp.sp (v := nI 315) rfl rfl (by decide) ?_
  have hF1 := hF.mono (b' := 16) (by decide)
  refine Wp.mni (a := 16) rfl rfl hK rfl (by decide) (fun K2 I2 hK2 fa2 z2 => ?_)
  have r2 : ∀ q, I2 15 q = 0 := fun q => by rw [fa2 15 (by decide)]; exact r0 q
  have fr2 : ∀ x, x ∉ [15, 16] → I2 x = I x := fun x hx => by simp at hx; rw [fa2 x (by omega)]; try exact fr0 x (by simp; omega)
  have hF3 := hF1.mono (b' := 17) (by decide)
  refine Wp.cpR rfl rfl hK2 hF3 (by decide) rfl rfl rfl rfl (fun F4 hF4 => ?_)
  refine Wp.go (x := (.aload_n 0, 1, 0, 0)) rfl 14 [some (.ref 15), some (.int (nI 0))] [.ref 15] rfl ⟨rfl, rfl, rfl, rfl⟩ ?_
  refine Wp.sp (v := nI 315) rfl rfl (by decide) ?_
  have hF5 := hF4.mono (b' := 17) (by decide)
  refine Wp.mni (a := 17) rfl rfl hK2 rfl (by decide) (fun K6 I6 hK6 fa6 z6 => ?_)
  have r6 : ∀ q, I6 15 q = 0 := fun q => by rw [fa6 15 (by decide)]; exact r2 q
  have fr6 : ∀ x, x ∉ [15, 16, 17] → I6 x = I x := fun x hx => by simp at hx; rw [fa6 x (by omega)]; try exact fr2 x (by simp; omega)
  have hF7 := hF5.mono (b' := 18) (by decide)
  refine Wp.cpR rfl rfl hK6 hF7 (by decide) rfl rfl rfl rfl (fun F8 hF8 => ?_)
  refine Wp.go (x := (.aload_n 0, 1, 0, 0)) rfl 23 [some (.ref 15), some (.int (nI 0))] [.ref 15] rfl ⟨rfl, rfl, rfl, rfl⟩ ?_
  refine Wp.sp (v := nI 301) rfl rfl (by decide) ?_
  have hF9 := hF8.mono (b' := 18) (by decide)
  refine Wp.mni (a := 18) rfl rfl hK6 rfl (by decide) (fun K10 I10 hK10 fa10 z10 => ?_)
  have r10 : ∀ q, I10 15 q = 0 := fun q => by rw [fa10 15 (by decide)]; exact r6 q
  have fr10 : ∀ x, x ∉ [15, 16, 17, 18] → I10 x = I x := fun x hx => by simp at hx; rw [fa10 x (by omega)]; try exact fr6 x (by simp; omega)
  have hF11 := hF9.mono (b' := 19) (by decide)
  refine Wp.cpR rfl rfl hK10 hF11 (by decide) rfl rfl rfl rfl (fun F12 hF12 => ?_)
  refine Wp.go (x := (.aload_n 0, 1, 0, 0)) rfl 32 [some (.ref 15), some (.int (nI 0))] [.ref 15] rfl ⟨rfl, rfl, rfl, rfl⟩ ?_
  refine Wp.sp (v := nI 300) rfl rfl (by decide) ?_
  have hF13 := hF12.mono (b' := 19) (by decide)
  refine Wp.mni (a := 19) rfl rfl hK10 rfl (by decide) (fun K14 I14 hK14 fa14 z14 => ?_)
  have r14 : ∀ q, I14 15 q = 0 := fun q => by rw [fa14 15 (by decide)]; exact r10 q
  have fr14 : ∀ x, x ∉ [15, 16, 17, 18, 19] → I14 x = I x := fun x hx => by simp at hx; rw [fa14 x (by omega)]; try exact fr10 x (by simp; omega)
  have hF15 := hF13.mono (b' := 20) (by decide)
  refine Wp.cpR rfl rfl hK14 hF15 (by decide) rfl rfl rfl rfl (fun F16 hF16 => ?_)
  refine Wp.go (x := (.aload_n 0, 1, 0, 0)) rfl 41 [some (.ref 15), some (.int (nI 0))] [.ref 15] rfl ⟨rfl, rfl, rfl, rfl⟩ ?_
  refine Wp.go (x := (.iload_n 1, 1, 0, 0)) rfl 42 [some (.ref 15), some (.int (nI 0))] [.int (nI 0), .ref 15] rfl ⟨rfl, rfl, rfl, rfl⟩ ?_
  refine Wp.ic (v := nI 1) rfl rfl (by decide) ?_
  refine Wp.c_ne rfl rfl ⟨fun c => ?_, fun c => absurd c (by decide)⟩
  refine Wp.go (x := (.iload_n 1, 1, 0, 0)) rfl 51 [some (.ref 15), some (.int (nI 0))] [.int (nI 0), .ref 15] rfl ⟨rfl, rfl, rfl, rfl⟩ ?_
  refine Wp.z_ne rfl rfl ⟨fun c => absurd c (by decide), fun c => ?_⟩
  refine Wp.ic (v := nI 3) rfl rfl (by decide) ?_
  refine Wp.go (x := (.goto 4, 3, 59, 0)) rfl 59 [some (.ref 15), some (.int (nI 0))] [.int (nI 3), .ref 15] rfl ⟨rfl, rfl, rfl, rfl⟩ ?_
  refine Wp.mpI rfl rfl hK14 (by decide) rfl rfl (Or.inl rfl) (fun I17 fa17 z17 => ?_)
  have r17 : ∀ q, I17 15 q = if q = 0 then nI 3 else 0 := fun q => by
    rw [z17 q]
    by_cases e : q = 0
    · rw [if_pos e, if_pos e]
    · rw [if_neg e, if_neg e]
      exact r14 q
  have fr17 : ∀ x, x ∉ [15, 16, 17, 18, 19] → I17 x = I x := fun x hx => by simp at hx; rw [fa17 x (by omega)]; try exact fr14 x (by simp; omega)
  refine Wp.go (x := (.aload_n 0, 1, 0, 0)) rfl 63 [some (.ref 15), some (.int (nI 0))] [.ref 15] rfl ⟨rfl, rfl, rfl, rfl⟩ ?_
  refine Wp.call (x := (.invokevirtual 28, 3, 8, 1)) rfl 8 [.ref 15] [] (by show xtg 8 (K14 15).1 = _; rw [hK14.at (a := 15) (by decide) rfl]; rfl) rfl ⟨Nat.le_of_ble_eq_true rfl, Nat.le_of_ble_eq_true rfl, Nat.le_of_ble_eq_true rfl⟩ rfl rfl rfl ?_
  have hS18 : ST I17 := fun k' hk' => by rw [fr17 1 (by decide), fr17 2 (by decide), fr17 3 (by decide)]; exact hS k' hk'
  refine p_resetG (K := K14) (v := 16) (hK14.lt (by decide) hL) (hK14.at (a := 15) (by decide) rfl) (hF16.at (by simp) rfl) (hK14.at (by decide) rfl) (hK14.at (by decide) rfl) (hK14.at (by decide) rfl) (hK14.at (by decide) rfl) hS18 (fun I18 b18 y18 => ?_)
  have fa18 : ∀ x, x ≠ 16 → I18 x = I17 x := fun x hx => b18 x (by simp; omega)
  show Wp (d + 3) 7 66 [some (.ref 15), some (.int (nI 0))] [] _ Q
  have r18 : ∀ q, I18 15 q = if q = 0 then nI 3 else 0 := fun q => by rw [fa18 15 (by decide)]; exact r17 q
  have fr18 : ∀ x, x ∉ [15, 16, 17, 18, 19] → I18 x = I x := fun x hx => by simp at hx; rw [fa18 x (by omega)]; try exact fr17 x (by simp; omega)
  exact Wp.rV rfl rfl (k _ _ _ _ _ _ (by omega) (by omega) hK14 hF16 fr18 r18 y18)
set_option maxRecDepth 20000 in
theorem ci_X1_init_10_1 {L d n1 n2 : Nat} {pl : List Nat} {D : List (Nat × Nat)} {K : Nat → Nat × Nat} {F : Nat → Nat → Option Nat} {I : Nat → Nat → Int32} {J : Nat → Nat → Int64} {Q : Option Value × xS → Prop} (hL : L < 2147483648) (hK : KP 1 L 11 K) (hF : FD 1 11 D F) (hS : ST I) (r0 : ∀ q, I 10 q = 0) (k : ∀ K' F' I' J' m1 m2, m1 = n1 + 4 → m2 = n2 + 1231 → KP 1 L 15 K' → FD 1 15 ((10, 4) :: (10, 3) :: (10, 2) :: (10, 1) :: D) F' → (∀ x, x ∉ [10, 11, 12, 13, 14] → I' x = I x) → (∀ q, I' 10 q = if q = 0 then nI 0 else 0) → CV I' 11 V0 → Q (none, (K', (pl, m1, m2), I', J', F'))) : Wp (d + 3) 7 0 [some (.ref 10), some (.int (nI 1))] [] (K, (11 :: 12 :: 13 :: 14 :: pl, n1, n2), I, J, F) Q := by
  have fr0 : ∀ x, x ∉ [10] → I x = I x := fun _ _ => rfl
  refine Wp.go (x := (.aload_n 0, 1, 0, 0)) rfl 1 [some (.ref 10), some (.int (nI 1))] [.ref 10] rfl ⟨rfl, rfl, rfl, rfl⟩ ?_
  refine Wp.obj rfl rfl rfl (by omega) (Nat.le_of_ble_eq_true rfl) ?_
  refine Wp.go (x := (.aload_n 0, 1, 0, 0)) rfl 5 [some (.ref 10), some (.int (nI 1))] [.ref 10] rfl ⟨rfl, rfl, rfl, rfl⟩ ?_
  refine Wp.sp (v := nI 315) rfl rfl (by decide) ?_
  have hF1 := hF.mono (b' := 11) (by decide)
  refine Wp.mni (a := 11) rfl rfl hK rfl (by decide) (fun K2 I2 hK2 fa2 z2 => ?_)
  have r2 : ∀ q, I2 10 q = 0 := fun q => by rw [fa2 10 (by decide)]; exact r0 q
  have fr2 : ∀ x, x ∉ [10, 11] → I2 x = I x := fun x hx => by simp at hx; rw [fa2 x (by omega)]; try exact fr0 x (by simp; omega)
  have hF3 := hF1.mono (b' := 12) (by decide)
  refine Wp.cpR rfl rfl hK2 hF3 (by decide) rfl rfl rfl rfl (fun F4 hF4 => ?_)
  refine Wp.go (x := (.aload_n 0, 1, 0, 0)) rfl 14 [some (.ref 10), some (.int (nI 1))] [.ref 10] rfl ⟨rfl, rfl, rfl, rfl⟩ ?_
  refine Wp.sp (v := nI 315) rfl rfl (by decide) ?_
  have hF5 := hF4.mono (b' := 12) (by decide)
  refine Wp.mni (a := 12) rfl rfl hK2 rfl (by decide) (fun K6 I6 hK6 fa6 z6 => ?_)
  have r6 : ∀ q, I6 10 q = 0 := fun q => by rw [fa6 10 (by decide)]; exact r2 q
  have fr6 : ∀ x, x ∉ [10, 11, 12] → I6 x = I x := fun x hx => by simp at hx; rw [fa6 x (by omega)]; try exact fr2 x (by simp; omega)
  have hF7 := hF5.mono (b' := 13) (by decide)
  refine Wp.cpR rfl rfl hK6 hF7 (by decide) rfl rfl rfl rfl (fun F8 hF8 => ?_)
  refine Wp.go (x := (.aload_n 0, 1, 0, 0)) rfl 23 [some (.ref 10), some (.int (nI 1))] [.ref 10] rfl ⟨rfl, rfl, rfl, rfl⟩ ?_
  refine Wp.sp (v := nI 301) rfl rfl (by decide) ?_
  have hF9 := hF8.mono (b' := 13) (by decide)
  refine Wp.mni (a := 13) rfl rfl hK6 rfl (by decide) (fun K10 I10 hK10 fa10 z10 => ?_)
  have r10 : ∀ q, I10 10 q = 0 := fun q => by rw [fa10 10 (by decide)]; exact r6 q
  have fr10 : ∀ x, x ∉ [10, 11, 12, 13] → I10 x = I x := fun x hx => by simp at hx; rw [fa10 x (by omega)]; try exact fr6 x (by simp; omega)
  have hF11 := hF9.mono (b' := 14) (by decide)
  refine Wp.cpR rfl rfl hK10 hF11 (by decide) rfl rfl rfl rfl (fun F12 hF12 => ?_)
  refine Wp.go (x := (.aload_n 0, 1, 0, 0)) rfl 32 [some (.ref 10), some (.int (nI 1))] [.ref 10] rfl ⟨rfl, rfl, rfl, rfl⟩ ?_
  refine Wp.sp (v := nI 300) rfl rfl (by decide) ?_
  have hF13 := hF12.mono (b' := 14) (by decide)
  refine Wp.mni (a := 14) rfl rfl hK10 rfl (by decide) (fun K14 I14 hK14 fa14 z14 => ?_)
  have r14 : ∀ q, I14 10 q = 0 := fun q => by rw [fa14 10 (by decide)]; exact r10 q
  have fr14 : ∀ x, x ∉ [10, 11, 12, 13, 14] → I14 x = I x := fun x hx => by simp at hx; rw [fa14 x (by omega)]; try exact fr10 x (by simp; omega)
  have hF15 := hF13.mono (b' := 15) (by decide)
  refine Wp.cpR rfl rfl hK14 hF15 (by decide) rfl rfl rfl rfl (fun F16 hF16 => ?_)
  refine Wp.go (x := (.aload_n 0, 1, 0, 0)) rfl 41 [some (.ref 10), some (.int (nI 1))] [.ref 10] rfl ⟨rfl, rfl, rfl, rfl⟩ ?_
  refine Wp.go (x := (.iload_n 1, 1, 0, 0)) rfl 42 [some (.ref 10), some (.int (nI 1))] [.int (nI 1), .ref 10] rfl ⟨rfl, rfl, rfl, rfl⟩ ?_
  refine Wp.ic (v := nI 1) rfl rfl (by decide) ?_
  refine Wp.c_ne rfl rfl ⟨fun c => absurd c (by decide), fun c => ?_⟩
  refine Wp.ic (v := nI 0) rfl rfl (by decide) ?_
  refine Wp.go (x := (.goto 12, 3, 59, 0)) rfl 59 [some (.ref 10), some (.int (nI 1))] [.int (nI 0), .ref 10] rfl ⟨rfl, rfl, rfl, rfl⟩ ?_
  refine Wp.mpI rfl rfl hK14 (by decide) rfl rfl (Or.inl rfl) (fun I17 fa17 z17 => ?_)
  have r17 : ∀ q, I17 10 q = if q = 0 then nI 0 else 0 := fun q => by
    rw [z17 q]
    by_cases e : q = 0
    · rw [if_pos e, if_pos e]
    · rw [if_neg e, if_neg e]
      exact r14 q
  have fr17 : ∀ x, x ∉ [10, 11, 12, 13, 14] → I17 x = I x := fun x hx => by simp at hx; rw [fa17 x (by omega)]; try exact fr14 x (by simp; omega)
  refine Wp.go (x := (.aload_n 0, 1, 0, 0)) rfl 63 [some (.ref 10), some (.int (nI 1))] [.ref 10] rfl ⟨rfl, rfl, rfl, rfl⟩ ?_
  refine Wp.call (x := (.invokevirtual 28, 3, 8, 1)) rfl 8 [.ref 10] [] (by show xtg 8 (K14 10).1 = _; rw [hK14.at (a := 10) (by decide) rfl]; rfl) rfl ⟨Nat.le_of_ble_eq_true rfl, Nat.le_of_ble_eq_true rfl, Nat.le_of_ble_eq_true rfl⟩ rfl rfl rfl ?_
  have hS18 : ST I17 := fun k' hk' => by rw [fr17 1 (by decide), fr17 2 (by decide), fr17 3 (by decide)]; exact hS k' hk'
  refine p_resetG (K := K14) (v := 11) (hK14.lt (by decide) hL) (hK14.at (a := 10) (by decide) rfl) (hF16.at (by simp) rfl) (hK14.at (by decide) rfl) (hK14.at (by decide) rfl) (hK14.at (by decide) rfl) (hK14.at (by decide) rfl) hS18 (fun I18 b18 y18 => ?_)
  have fa18 : ∀ x, x ≠ 11 → I18 x = I17 x := fun x hx => b18 x (by simp; omega)
  show Wp (d + 3) 7 66 [some (.ref 10), some (.int (nI 1))] [] _ Q
  have r18 : ∀ q, I18 10 q = if q = 0 then nI 0 else 0 := fun q => by rw [fa18 10 (by decide)]; exact r17 q
  have fr18 : ∀ x, x ∉ [10, 11, 12, 13, 14] → I18 x = I x := fun x hx => by simp at hx; rw [fa18 x (by omega)]; try exact fr17 x (by simp; omega)
  exact Wp.rV rfl rfl (k _ _ _ _ _ _ (by omega) (by omega) hK14 hF16 fr18 r18 y18)
set_option maxRecDepth 20000 in
theorem ci_X1_init_15_1 {L d n1 n2 : Nat} {pl : List Nat} {D : List (Nat × Nat)} {K : Nat → Nat × Nat} {F : Nat → Nat → Option Nat} {I : Nat → Nat → Int32} {J : Nat → Nat → Int64} {Q : Option Value × xS → Prop} (hL : L < 2147483648) (hK : KP 1 L 16 K) (hF : FD 1 16 D F) (hS : ST I) (r0 : ∀ q, I 15 q = 0) (k : ∀ K' F' I' J' m1 m2, m1 = n1 + 4 → m2 = n2 + 1231 → KP 1 L 20 K' → FD 1 20 ((15, 4) :: (15, 3) :: (15, 2) :: (15, 1) :: D) F' → (∀ x, x ∉ [15, 16, 17, 18, 19] → I' x = I x) → (∀ q, I' 15 q = if q = 0 then nI 0 else 0) → CV I' 16 V0 → Q (none, (K', (pl, m1, m2), I', J', F'))) : Wp (d + 3) 7 0 [some (.ref 15), some (.int (nI 1))] [] (K, (16 :: 17 :: 18 :: 19 :: pl, n1, n2), I, J, F) Q := by
  have fr0 : ∀ x, x ∉ [15] → I x = I x := fun _ _ => rfl
  refine Wp.go (x := (.aload_n 0, 1, 0, 0)) rfl 1 [some (.ref 15), some (.int (nI 1))] [.ref 15] rfl ⟨rfl, rfl, rfl, rfl⟩ ?_
  refine Wp.obj rfl rfl rfl (by omega) (Nat.le_of_ble_eq_true rfl) ?_
  refine Wp.go (x := (.aload_n 0, 1, 0, 0)) rfl 5 [some (.ref 15), some (.int (nI 1))] [.ref 15] rfl ⟨rfl, rfl, rfl, rfl⟩ ?_
  refine Wp.sp (v := nI 315) rfl rfl (by decide) ?_
  have hF1 := hF.mono (b' := 16) (by decide)
  refine Wp.mni (a := 16) rfl rfl hK rfl (by decide) (fun K2 I2 hK2 fa2 z2 => ?_)
  have r2 : ∀ q, I2 15 q = 0 := fun q => by rw [fa2 15 (by decide)]; exact r0 q
  have fr2 : ∀ x, x ∉ [15, 16] → I2 x = I x := fun x hx => by simp at hx; rw [fa2 x (by omega)]; try exact fr0 x (by simp; omega)
  have hF3 := hF1.mono (b' := 17) (by decide)
  refine Wp.cpR rfl rfl hK2 hF3 (by decide) rfl rfl rfl rfl (fun F4 hF4 => ?_)
  refine Wp.go (x := (.aload_n 0, 1, 0, 0)) rfl 14 [some (.ref 15), some (.int (nI 1))] [.ref 15] rfl ⟨rfl, rfl, rfl, rfl⟩ ?_
  refine Wp.sp (v := nI 315) rfl rfl (by decide) ?_
  have hF5 := hF4.mono (b' := 17) (by decide)
  refine Wp.mni (a := 17) rfl rfl hK2 rfl (by decide) (fun K6 I6 hK6 fa6 z6 => ?_)
  have r6 : ∀ q, I6 15 q = 0 := fun q => by rw [fa6 15 (by decide)]; exact r2 q
  have fr6 : ∀ x, x ∉ [15, 16, 17] → I6 x = I x := fun x hx => by simp at hx; rw [fa6 x (by omega)]; try exact fr2 x (by simp; omega)
  have hF7 := hF5.mono (b' := 18) (by decide)
  refine Wp.cpR rfl rfl hK6 hF7 (by decide) rfl rfl rfl rfl (fun F8 hF8 => ?_)
  refine Wp.go (x := (.aload_n 0, 1, 0, 0)) rfl 23 [some (.ref 15), some (.int (nI 1))] [.ref 15] rfl ⟨rfl, rfl, rfl, rfl⟩ ?_
  refine Wp.sp (v := nI 301) rfl rfl (by decide) ?_
  have hF9 := hF8.mono (b' := 18) (by decide)
  refine Wp.mni (a := 18) rfl rfl hK6 rfl (by decide) (fun K10 I10 hK10 fa10 z10 => ?_)
  have r10 : ∀ q, I10 15 q = 0 := fun q => by rw [fa10 15 (by decide)]; exact r6 q
  have fr10 : ∀ x, x ∉ [15, 16, 17, 18] → I10 x = I x := fun x hx => by simp at hx; rw [fa10 x (by omega)]; try exact fr6 x (by simp; omega)
  have hF11 := hF9.mono (b' := 19) (by decide)
  refine Wp.cpR rfl rfl hK10 hF11 (by decide) rfl rfl rfl rfl (fun F12 hF12 => ?_)
  refine Wp.go (x := (.aload_n 0, 1, 0, 0)) rfl 32 [some (.ref 15), some (.int (nI 1))] [.ref 15] rfl ⟨rfl, rfl, rfl, rfl⟩ ?_
  refine Wp.sp (v := nI 300) rfl rfl (by decide) ?_
  have hF13 := hF12.mono (b' := 19) (by decide)
  refine Wp.mni (a := 19) rfl rfl hK10 rfl (by decide) (fun K14 I14 hK14 fa14 z14 => ?_)
  have r14 : ∀ q, I14 15 q = 0 := fun q => by rw [fa14 15 (by decide)]; exact r10 q
  have fr14 : ∀ x, x ∉ [15, 16, 17, 18, 19] → I14 x = I x := fun x hx => by simp at hx; rw [fa14 x (by omega)]; try exact fr10 x (by simp; omega)
  have hF15 := hF13.mono (b' := 20) (by decide)
  refine Wp.cpR rfl rfl hK14 hF15 (by decide) rfl rfl rfl rfl (fun F16 hF16 => ?_)
  refine Wp.go (x := (.aload_n 0, 1, 0, 0)) rfl 41 [some (.ref 15), some (.int (nI 1))] [.ref 15] rfl ⟨rfl, rfl, rfl, rfl⟩ ?_
  refine Wp.go (x := (.iload_n 1, 1, 0, 0)) rfl 42 [some (.ref 15), some (.int (nI 1))] [.int (nI 1), .ref 15] rfl ⟨rfl, rfl, rfl, rfl⟩ ?_
  refine Wp.ic (v := nI 1) rfl rfl (by decide) ?_
  refine Wp.c_ne rfl rfl ⟨fun c => absurd c (by decide), fun c => ?_⟩
  refine Wp.ic (v := nI 0) rfl rfl (by decide) ?_
  refine Wp.go (x := (.goto 12, 3, 59, 0)) rfl 59 [some (.ref 15), some (.int (nI 1))] [.int (nI 0), .ref 15] rfl ⟨rfl, rfl, rfl, rfl⟩ ?_
  refine Wp.mpI rfl rfl hK14 (by decide) rfl rfl (Or.inl rfl) (fun I17 fa17 z17 => ?_)
  have r17 : ∀ q, I17 15 q = if q = 0 then nI 0 else 0 := fun q => by
    rw [z17 q]
    by_cases e : q = 0
    · rw [if_pos e, if_pos e]
    · rw [if_neg e, if_neg e]
      exact r14 q
  have fr17 : ∀ x, x ∉ [15, 16, 17, 18, 19] → I17 x = I x := fun x hx => by simp at hx; rw [fa17 x (by omega)]; try exact fr14 x (by simp; omega)
  refine Wp.go (x := (.aload_n 0, 1, 0, 0)) rfl 63 [some (.ref 15), some (.int (nI 1))] [.ref 15] rfl ⟨rfl, rfl, rfl, rfl⟩ ?_
  refine Wp.call (x := (.invokevirtual 28, 3, 8, 1)) rfl 8 [.ref 15] [] (by show xtg 8 (K14 15).1 = _; rw [hK14.at (a := 15) (by decide) rfl]; rfl) rfl ⟨Nat.le_of_ble_eq_true rfl, Nat.le_of_ble_eq_true rfl, Nat.le_of_ble_eq_true rfl⟩ rfl rfl rfl ?_
  have hS18 : ST I17 := fun k' hk' => by rw [fr17 1 (by decide), fr17 2 (by decide), fr17 3 (by decide)]; exact hS k' hk'
  refine p_resetG (K := K14) (v := 16) (hK14.lt (by decide) hL) (hK14.at (a := 15) (by decide) rfl) (hF16.at (by simp) rfl) (hK14.at (by decide) rfl) (hK14.at (by decide) rfl) (hK14.at (by decide) rfl) (hK14.at (by decide) rfl) hS18 (fun I18 b18 y18 => ?_)
  have fa18 : ∀ x, x ≠ 16 → I18 x = I17 x := fun x hx => b18 x (by simp; omega)
  show Wp (d + 3) 7 66 [some (.ref 15), some (.int (nI 1))] [] _ Q
  have r18 : ∀ q, I18 15 q = if q = 0 then nI 0 else 0 := fun q => by rw [fa18 15 (by decide)]; exact r17 q
  have fr18 : ∀ x, x ∉ [15, 16, 17, 18, 19] → I18 x = I x := fun x hx => by simp at hx; rw [fa18 x (by omega)]; try exact fr17 x (by simp; omega)
  exact Wp.rV rfl rfl (k _ _ _ _ _ _ (by omega) (by omega) hK14 hF16 fr18 r18 y18)
set_option maxRecDepth 20000 in
theorem ci_X1_init_10_2 {L d n1 n2 : Nat} {pl : List Nat} {D : List (Nat × Nat)} {K : Nat → Nat × Nat} {F : Nat → Nat → Option Nat} {I : Nat → Nat → Int32} {J : Nat → Nat → Int64} {Q : Option Value × xS → Prop} (hL : L < 2147483648) (hK : KP 2 L 11 K) (hF : FD 2 11 D F) (hS : ST I) (r0 : ∀ q, I 10 q = 0) (k : ∀ K' F' I' J' m1 m2, m1 = n1 + 4 → m2 = n2 + 1231 → KP 2 L 15 K' → FD 2 15 ((10, 4) :: (10, 3) :: (10, 2) :: (10, 1) :: D) F' → (∀ x, x ∉ [10, 11, 12, 13, 14] → I' x = I x) → (∀ q, I' 10 q = if q = 0 then nI 4 else 0) → CV I' 11 V0 → Q (none, (K', (pl, m1, m2), I', J', F'))) : Wp (d + 3) 7 0 [some (.ref 10), some (.int (nI 2))] [] (K, (11 :: 12 :: 13 :: 14 :: pl, n1, n2), I, J, F) Q := by
  have fr0 : ∀ x, x ∉ [10] → I x = I x := fun _ _ => rfl
  refine Wp.go (x := (.aload_n 0, 1, 0, 0)) rfl 1 [some (.ref 10), some (.int (nI 2))] [.ref 10] rfl ⟨rfl, rfl, rfl, rfl⟩ ?_
  refine Wp.obj rfl rfl rfl (by omega) (Nat.le_of_ble_eq_true rfl) ?_
  refine Wp.go (x := (.aload_n 0, 1, 0, 0)) rfl 5 [some (.ref 10), some (.int (nI 2))] [.ref 10] rfl ⟨rfl, rfl, rfl, rfl⟩ ?_
  refine Wp.sp (v := nI 315) rfl rfl (by decide) ?_
  have hF1 := hF.mono (b' := 11) (by decide)
  refine Wp.mni (a := 11) rfl rfl hK rfl (by decide) (fun K2 I2 hK2 fa2 z2 => ?_)
  have r2 : ∀ q, I2 10 q = 0 := fun q => by rw [fa2 10 (by decide)]; exact r0 q
  have fr2 : ∀ x, x ∉ [10, 11] → I2 x = I x := fun x hx => by simp at hx; rw [fa2 x (by omega)]; try exact fr0 x (by simp; omega)
  have hF3 := hF1.mono (b' := 12) (by decide)
  refine Wp.cpR rfl rfl hK2 hF3 (by decide) rfl rfl rfl rfl (fun F4 hF4 => ?_)
  refine Wp.go (x := (.aload_n 0, 1, 0, 0)) rfl 14 [some (.ref 10), some (.int (nI 2))] [.ref 10] rfl ⟨rfl, rfl, rfl, rfl⟩ ?_
  refine Wp.sp (v := nI 315) rfl rfl (by decide) ?_
  have hF5 := hF4.mono (b' := 12) (by decide)
  refine Wp.mni (a := 12) rfl rfl hK2 rfl (by decide) (fun K6 I6 hK6 fa6 z6 => ?_)
  have r6 : ∀ q, I6 10 q = 0 := fun q => by rw [fa6 10 (by decide)]; exact r2 q
  have fr6 : ∀ x, x ∉ [10, 11, 12] → I6 x = I x := fun x hx => by simp at hx; rw [fa6 x (by omega)]; try exact fr2 x (by simp; omega)
  have hF7 := hF5.mono (b' := 13) (by decide)
  refine Wp.cpR rfl rfl hK6 hF7 (by decide) rfl rfl rfl rfl (fun F8 hF8 => ?_)
  refine Wp.go (x := (.aload_n 0, 1, 0, 0)) rfl 23 [some (.ref 10), some (.int (nI 2))] [.ref 10] rfl ⟨rfl, rfl, rfl, rfl⟩ ?_
  refine Wp.sp (v := nI 301) rfl rfl (by decide) ?_
  have hF9 := hF8.mono (b' := 13) (by decide)
  refine Wp.mni (a := 13) rfl rfl hK6 rfl (by decide) (fun K10 I10 hK10 fa10 z10 => ?_)
  have r10 : ∀ q, I10 10 q = 0 := fun q => by rw [fa10 10 (by decide)]; exact r6 q
  have fr10 : ∀ x, x ∉ [10, 11, 12, 13] → I10 x = I x := fun x hx => by simp at hx; rw [fa10 x (by omega)]; try exact fr6 x (by simp; omega)
  have hF11 := hF9.mono (b' := 14) (by decide)
  refine Wp.cpR rfl rfl hK10 hF11 (by decide) rfl rfl rfl rfl (fun F12 hF12 => ?_)
  refine Wp.go (x := (.aload_n 0, 1, 0, 0)) rfl 32 [some (.ref 10), some (.int (nI 2))] [.ref 10] rfl ⟨rfl, rfl, rfl, rfl⟩ ?_
  refine Wp.sp (v := nI 300) rfl rfl (by decide) ?_
  have hF13 := hF12.mono (b' := 14) (by decide)
  refine Wp.mni (a := 14) rfl rfl hK10 rfl (by decide) (fun K14 I14 hK14 fa14 z14 => ?_)
  have r14 : ∀ q, I14 10 q = 0 := fun q => by rw [fa14 10 (by decide)]; exact r10 q
  have fr14 : ∀ x, x ∉ [10, 11, 12, 13, 14] → I14 x = I x := fun x hx => by simp at hx; rw [fa14 x (by omega)]; try exact fr10 x (by simp; omega)
  have hF15 := hF13.mono (b' := 15) (by decide)
  refine Wp.cpR rfl rfl hK14 hF15 (by decide) rfl rfl rfl rfl (fun F16 hF16 => ?_)
  refine Wp.go (x := (.aload_n 0, 1, 0, 0)) rfl 41 [some (.ref 10), some (.int (nI 2))] [.ref 10] rfl ⟨rfl, rfl, rfl, rfl⟩ ?_
  refine Wp.go (x := (.iload_n 1, 1, 0, 0)) rfl 42 [some (.ref 10), some (.int (nI 2))] [.int (nI 2), .ref 10] rfl ⟨rfl, rfl, rfl, rfl⟩ ?_
  refine Wp.ic (v := nI 1) rfl rfl (by decide) ?_
  refine Wp.c_ne rfl rfl ⟨fun c => ?_, fun c => absurd c (by decide)⟩
  refine Wp.go (x := (.iload_n 1, 1, 0, 0)) rfl 51 [some (.ref 10), some (.int (nI 2))] [.int (nI 2), .ref 10] rfl ⟨rfl, rfl, rfl, rfl⟩ ?_
  refine Wp.z_ne rfl rfl ⟨fun c => ?_, fun c => absurd c (by decide)⟩
  refine Wp.ic (v := nI 4) rfl rfl (by decide) ?_
  refine Wp.mpI rfl rfl hK14 (by decide) rfl rfl (Or.inl rfl) (fun I17 fa17 z17 => ?_)
  have r17 : ∀ q, I17 10 q = if q = 0 then nI 4 else 0 := fun q => by
    rw [z17 q]
    by_cases e : q = 0
    · rw [if_pos e, if_pos e]
    · rw [if_neg e, if_neg e]
      exact r14 q
  have fr17 : ∀ x, x ∉ [10, 11, 12, 13, 14] → I17 x = I x := fun x hx => by simp at hx; rw [fa17 x (by omega)]; try exact fr14 x (by simp; omega)
  refine Wp.go (x := (.aload_n 0, 1, 0, 0)) rfl 63 [some (.ref 10), some (.int (nI 2))] [.ref 10] rfl ⟨rfl, rfl, rfl, rfl⟩ ?_
  refine Wp.call (x := (.invokevirtual 28, 3, 8, 1)) rfl 8 [.ref 10] [] (by show xtg 8 (K14 10).1 = _; rw [hK14.at (a := 10) (by decide) rfl]; rfl) rfl ⟨Nat.le_of_ble_eq_true rfl, Nat.le_of_ble_eq_true rfl, Nat.le_of_ble_eq_true rfl⟩ rfl rfl rfl ?_
  have hS18 : ST I17 := fun k' hk' => by rw [fr17 1 (by decide), fr17 2 (by decide), fr17 3 (by decide)]; exact hS k' hk'
  refine p_resetG (K := K14) (v := 11) (hK14.lt (by decide) hL) (hK14.at (a := 10) (by decide) rfl) (hF16.at (by simp) rfl) (hK14.at (by decide) rfl) (hK14.at (by decide) rfl) (hK14.at (by decide) rfl) (hK14.at (by decide) rfl) hS18 (fun I18 b18 y18 => ?_)
  have fa18 : ∀ x, x ≠ 11 → I18 x = I17 x := fun x hx => b18 x (by simp; omega)
  show Wp (d + 3) 7 66 [some (.ref 10), some (.int (nI 2))] [] _ Q
  have r18 : ∀ q, I18 10 q = if q = 0 then nI 4 else 0 := fun q => by rw [fa18 10 (by decide)]; exact r17 q
  have fr18 : ∀ x, x ∉ [10, 11, 12, 13, 14] → I18 x = I x := fun x hx => by simp at hx; rw [fa18 x (by omega)]; try exact fr17 x (by simp; omega)
  exact Wp.rV rfl rfl (k _ _ _ _ _ _ (by omega) (by omega) hK14 hF16 fr18 r18 y18)
set_option maxRecDepth 20000 in
theorem ci_X1_init_15_2 {L d n1 n2 : Nat} {pl : List Nat} {D : List (Nat × Nat)} {K : Nat → Nat × Nat} {F : Nat → Nat → Option Nat} {I : Nat → Nat → Int32} {J : Nat → Nat → Int64} {Q : Option Value × xS → Prop} (hL : L < 2147483648) (hK : KP 2 L 16 K) (hF : FD 2 16 D F) (hS : ST I) (r0 : ∀ q, I 15 q = 0) (k : ∀ K' F' I' J' m1 m2, m1 = n1 + 4 → m2 = n2 + 1231 → KP 2 L 20 K' → FD 2 20 ((15, 4) :: (15, 3) :: (15, 2) :: (15, 1) :: D) F' → (∀ x, x ∉ [15, 16, 17, 18, 19] → I' x = I x) → (∀ q, I' 15 q = if q = 0 then nI 4 else 0) → CV I' 16 V0 → Q (none, (K', (pl, m1, m2), I', J', F'))) : Wp (d + 3) 7 0 [some (.ref 15), some (.int (nI 2))] [] (K, (16 :: 17 :: 18 :: 19 :: pl, n1, n2), I, J, F) Q := by
  have fr0 : ∀ x, x ∉ [15] → I x = I x := fun _ _ => rfl
  refine Wp.go (x := (.aload_n 0, 1, 0, 0)) rfl 1 [some (.ref 15), some (.int (nI 2))] [.ref 15] rfl ⟨rfl, rfl, rfl, rfl⟩ ?_
  refine Wp.obj rfl rfl rfl (by omega) (Nat.le_of_ble_eq_true rfl) ?_
  refine Wp.go (x := (.aload_n 0, 1, 0, 0)) rfl 5 [some (.ref 15), some (.int (nI 2))] [.ref 15] rfl ⟨rfl, rfl, rfl, rfl⟩ ?_
  refine Wp.sp (v := nI 315) rfl rfl (by decide) ?_
  have hF1 := hF.mono (b' := 16) (by decide)
  refine Wp.mni (a := 16) rfl rfl hK rfl (by decide) (fun K2 I2 hK2 fa2 z2 => ?_)
  have r2 : ∀ q, I2 15 q = 0 := fun q => by rw [fa2 15 (by decide)]; exact r0 q
  have fr2 : ∀ x, x ∉ [15, 16] → I2 x = I x := fun x hx => by simp at hx; rw [fa2 x (by omega)]; try exact fr0 x (by simp; omega)
  have hF3 := hF1.mono (b' := 17) (by decide)
  refine Wp.cpR rfl rfl hK2 hF3 (by decide) rfl rfl rfl rfl (fun F4 hF4 => ?_)
  refine Wp.go (x := (.aload_n 0, 1, 0, 0)) rfl 14 [some (.ref 15), some (.int (nI 2))] [.ref 15] rfl ⟨rfl, rfl, rfl, rfl⟩ ?_
  refine Wp.sp (v := nI 315) rfl rfl (by decide) ?_
  have hF5 := hF4.mono (b' := 17) (by decide)
  refine Wp.mni (a := 17) rfl rfl hK2 rfl (by decide) (fun K6 I6 hK6 fa6 z6 => ?_)
  have r6 : ∀ q, I6 15 q = 0 := fun q => by rw [fa6 15 (by decide)]; exact r2 q
  have fr6 : ∀ x, x ∉ [15, 16, 17] → I6 x = I x := fun x hx => by simp at hx; rw [fa6 x (by omega)]; try exact fr2 x (by simp; omega)
  have hF7 := hF5.mono (b' := 18) (by decide)
  refine Wp.cpR rfl rfl hK6 hF7 (by decide) rfl rfl rfl rfl (fun F8 hF8 => ?_)
  refine Wp.go (x := (.aload_n 0, 1, 0, 0)) rfl 23 [some (.ref 15), some (.int (nI 2))] [.ref 15] rfl ⟨rfl, rfl, rfl, rfl⟩ ?_
  refine Wp.sp (v := nI 301) rfl rfl (by decide) ?_
  have hF9 := hF8.mono (b' := 18) (by decide)
  refine Wp.mni (a := 18) rfl rfl hK6 rfl (by decide) (fun K10 I10 hK10 fa10 z10 => ?_)
  have r10 : ∀ q, I10 15 q = 0 := fun q => by rw [fa10 15 (by decide)]; exact r6 q
  have fr10 : ∀ x, x ∉ [15, 16, 17, 18] → I10 x = I x := fun x hx => by simp at hx; rw [fa10 x (by omega)]; try exact fr6 x (by simp; omega)
  have hF11 := hF9.mono (b' := 19) (by decide)
  refine Wp.cpR rfl rfl hK10 hF11 (by decide) rfl rfl rfl rfl (fun F12 hF12 => ?_)
  refine Wp.go (x := (.aload_n 0, 1, 0, 0)) rfl 32 [some (.ref 15), some (.int (nI 2))] [.ref 15] rfl ⟨rfl, rfl, rfl, rfl⟩ ?_
  refine Wp.sp (v := nI 300) rfl rfl (by decide) ?_
  have hF13 := hF12.mono (b' := 19) (by decide)
  refine Wp.mni (a := 19) rfl rfl hK10 rfl (by decide) (fun K14 I14 hK14 fa14 z14 => ?_)
  have r14 : ∀ q, I14 15 q = 0 := fun q => by rw [fa14 15 (by decide)]; exact r10 q
  have fr14 : ∀ x, x ∉ [15, 16, 17, 18, 19] → I14 x = I x := fun x hx => by simp at hx; rw [fa14 x (by omega)]; try exact fr10 x (by simp; omega)
  have hF15 := hF13.mono (b' := 20) (by decide)
  refine Wp.cpR rfl rfl hK14 hF15 (by decide) rfl rfl rfl rfl (fun F16 hF16 => ?_)
  refine Wp.go (x := (.aload_n 0, 1, 0, 0)) rfl 41 [some (.ref 15), some (.int (nI 2))] [.ref 15] rfl ⟨rfl, rfl, rfl, rfl⟩ ?_
  refine Wp.go (x := (.iload_n 1, 1, 0, 0)) rfl 42 [some (.ref 15), some (.int (nI 2))] [.int (nI 2), .ref 15] rfl ⟨rfl, rfl, rfl, rfl⟩ ?_
  refine Wp.ic (v := nI 1) rfl rfl (by decide) ?_
  refine Wp.c_ne rfl rfl ⟨fun c => ?_, fun c => absurd c (by decide)⟩
  refine Wp.go (x := (.iload_n 1, 1, 0, 0)) rfl 51 [some (.ref 15), some (.int (nI 2))] [.int (nI 2), .ref 15] rfl ⟨rfl, rfl, rfl, rfl⟩ ?_
  refine Wp.z_ne rfl rfl ⟨fun c => ?_, fun c => absurd c (by decide)⟩
  refine Wp.ic (v := nI 4) rfl rfl (by decide) ?_
  refine Wp.mpI rfl rfl hK14 (by decide) rfl rfl (Or.inl rfl) (fun I17 fa17 z17 => ?_)
  have r17 : ∀ q, I17 15 q = if q = 0 then nI 4 else 0 := fun q => by
    rw [z17 q]
    by_cases e : q = 0
    · rw [if_pos e, if_pos e]
    · rw [if_neg e, if_neg e]
      exact r14 q
  have fr17 : ∀ x, x ∉ [15, 16, 17, 18, 19] → I17 x = I x := fun x hx => by simp at hx; rw [fa17 x (by omega)]; try exact fr14 x (by simp; omega)
  refine Wp.go (x := (.aload_n 0, 1, 0, 0)) rfl 63 [some (.ref 15), some (.int (nI 2))] [.ref 15] rfl ⟨rfl, rfl, rfl, rfl⟩ ?_
  refine Wp.call (x := (.invokevirtual 28, 3, 8, 1)) rfl 8 [.ref 15] [] (by show xtg 8 (K14 15).1 = _; rw [hK14.at (a := 15) (by decide) rfl]; rfl) rfl ⟨Nat.le_of_ble_eq_true rfl, Nat.le_of_ble_eq_true rfl, Nat.le_of_ble_eq_true rfl⟩ rfl rfl rfl ?_
  have hS18 : ST I17 := fun k' hk' => by rw [fr17 1 (by decide), fr17 2 (by decide), fr17 3 (by decide)]; exact hS k' hk'
  refine p_resetG (K := K14) (v := 16) (hK14.lt (by decide) hL) (hK14.at (a := 15) (by decide) rfl) (hF16.at (by simp) rfl) (hK14.at (by decide) rfl) (hK14.at (by decide) rfl) (hK14.at (by decide) rfl) (hK14.at (by decide) rfl) hS18 (fun I18 b18 y18 => ?_)
  have fa18 : ∀ x, x ≠ 16 → I18 x = I17 x := fun x hx => b18 x (by simp; omega)
  show Wp (d + 3) 7 66 [some (.ref 15), some (.int (nI 2))] [] _ Q
  have r18 : ∀ q, I18 15 q = if q = 0 then nI 4 else 0 := fun q => by rw [fa18 15 (by decide)]; exact r17 q
  have fr18 : ∀ x, x ∉ [15, 16, 17, 18, 19] → I18 x = I x := fun x hx => by simp at hx; rw [fa18 x (by omega)]; try exact fr17 x (by simp; omega)
  exact Wp.rV rfl rfl (k _ _ _ _ _ _ (by omega) (by omega) hK14 hF16 fr18 r18 y18)
set_option maxRecDepth 20000 in
theorem ci_X5_init_20_1 {L d n1 n2 : Nat} {pl : List Nat} {D : List (Nat × Nat)} {K : Nat → Nat × Nat} {F : Nat → Nat → Option Nat} {I : Nat → Nat → Int32} {J : Nat → Nat → Int64} {Q : Option Value × xS → Prop} (hL : L < 2147483648) (hK : KP 1 L 21 K) (hF : FD 1 21 D F) (r0 : ∀ q, I 20 q = 0) (k : ∀ K' F' I' J' m1 m2, m1 = n1 + 5 → m2 = n2 + 1505 → KP 1 L 28 K' → FD 1 28 ((20, 6) :: (20, 5) :: (20, 4) :: (20, 3) :: (20, 2) :: (20, 1) :: (20, 0) :: D) F' → (∀ x, x ∉ [20, 23, 24, 25, 26, 27] → I' x = I x) → (∀ q, I' 20 q = 0) → LC I' → Q (none, (K', (pl, m1, m2), I', J', F'))) : Wp (d + 2) 41 0 [some (.ref 20), some (.ref 5), some (.ref 10), none] [] (K, (23 :: 24 :: 25 :: 26 :: 27 :: pl, n1, n2), I, J, F) Q := by
  have fr0 : ∀ x, x ∉ [20] → I x = I x := fun _ _ => rfl
  refine Wp.go (x := (.aload_n 0, 1, 0, 0)) rfl 1 [some (.ref 20), some (.ref 5), some (.ref 10), none] [.ref 20] rfl ⟨rfl, rfl, rfl, rfl⟩ ?_
  refine Wp.go (x := (.aload_n 1, 1, 0, 0)) rfl 2 [some (.ref 20), some (.ref 5), some (.ref 10), none] [.ref 5, .ref 20] rfl ⟨rfl, rfl, rfl, rfl⟩ ?_
  refine Wp.go (x := (.aload_n 2, 1, 0, 0)) rfl 3 [some (.ref 20), some (.ref 5), some (.ref 10), none] [.ref 10, .ref 5, .ref 20] rfl ⟨rfl, rfl, rfl, rfl⟩ ?_
  refine Wp.call (x := (.invokespecial 3, 3, 25, 3)) rfl 25 [.ref 20, .ref 5, .ref 10] [] rfl rfl ⟨Nat.le_of_ble_eq_true rfl, Nat.le_of_ble_eq_true rfl, Nat.le_of_ble_eq_true rfl⟩ rfl rfl rfl ?_
  have hF2 := hF.mono (b' := 21) (by decide)
  refine ci_X2_init_20_1 hK hF2 r0 (fun K1 F1 I1 J1 m1 l1 em1 el1 hK1 hF1 fa1 z1 => ?_)
  show Wp (d + 2) 41 6 [some (.ref 20), some (.ref 5), some (.ref 10), none] [] _ Q
  have r1 := z1
  have fr1 : ∀ x, x ∉ [20] → I1 x = I x := fun x hx => by simp at hx; rw [fa1 x (by simp; omega)]; try exact fr0 x (by simp; omega)
  refine Wp.go (x := (.aload_n 0, 1, 0, 0)) rfl 7 [some (.ref 20), some (.ref 5), some (.ref 10), none] [.ref 20] rfl ⟨rfl, rfl, rfl, rfl⟩ ?_
  refine Wp.sp (v := nI 301) rfl rfl (by decide) ?_
  have hK3 := hK1.skip rfl
  have hK4 := hK3.skip rfl
  have hF5 := hF1.mono (b' := 23) (by decide)
  refine Wp.mni (a := 23) rfl rfl hK4 rfl (by decide) (fun K6 I6 hK6 fa6 z6 => ?_)
  have r6 : ∀ q, I6 20 q = 0 := fun q => by rw [fa6 20 (by decide)]; exact r1 q
  have fr6 : ∀ x, x ∉ [20, 23] → I6 x = I x := fun x hx => by simp at hx; rw [fa6 x (by omega)]; try exact fr1 x (by simp; omega)
  have hF7 := hF5.mono (b' := 24) (by decide)
  refine Wp.cpR rfl rfl hK6 hF7 (by decide) rfl rfl rfl rfl (fun F8 hF8 => ?_)
  refine Wp.go (x := (.aload_n 0, 1, 0, 0)) rfl 16 [some (.ref 20), some (.ref 5), some (.ref 10), none] [.ref 20] rfl ⟨rfl, rfl, rfl, rfl⟩ ?_
  refine Wp.sp (v := nI 301) rfl rfl (by decide) ?_
  have hF9 := hF8.mono (b' := 24) (by decide)
  refine Wp.mni (a := 24) rfl rfl hK6 rfl (by decide) (fun K10 I10 hK10 fa10 z10 => ?_)
  have r10 : ∀ q, I10 20 q = 0 := fun q => by rw [fa10 20 (by decide)]; exact r6 q
  have fr10 : ∀ x, x ∉ [20, 23, 24] → I10 x = I x := fun x hx => by simp at hx; rw [fa10 x (by omega)]; try exact fr6 x (by simp; omega)
  have hF11 := hF9.mono (b' := 25) (by decide)
  refine Wp.cpR rfl rfl hK10 hF11 (by decide) rfl rfl rfl rfl (fun F12 hF12 => ?_)
  refine Wp.go (x := (.aload_n 0, 1, 0, 0)) rfl 25 [some (.ref 20), some (.ref 5), some (.ref 10), none] [.ref 20] rfl ⟨rfl, rfl, rfl, rfl⟩ ?_
  refine Wp.sp (v := nI 301) rfl rfl (by decide) ?_
  have hF13 := hF12.mono (b' := 25) (by decide)
  refine Wp.mni (a := 25) rfl rfl hK10 rfl (by decide) (fun K14 I14 hK14 fa14 z14 => ?_)
  have r14 : ∀ q, I14 20 q = 0 := fun q => by rw [fa14 20 (by decide)]; exact r10 q
  have fr14 : ∀ x, x ∉ [20, 23, 24, 25] → I14 x = I x := fun x hx => by simp at hx; rw [fa14 x (by omega)]; try exact fr10 x (by simp; omega)
  have hF15 := hF13.mono (b' := 26) (by decide)
  refine Wp.cpR rfl rfl hK14 hF15 (by decide) rfl rfl rfl rfl (fun F16 hF16 => ?_)
  refine Wp.go (x := (.aload_n 0, 1, 0, 0)) rfl 34 [some (.ref 20), some (.ref 5), some (.ref 10), none] [.ref 20] rfl ⟨rfl, rfl, rfl, rfl⟩ ?_
  refine Wp.sp (v := nI 301) rfl rfl (by decide) ?_
  have hF17 := hF16.mono (b' := 26) (by decide)
  refine Wp.mni (a := 26) rfl rfl hK14 rfl (by decide) (fun K18 I18 hK18 fa18 z18 => ?_)
  have r18 : ∀ q, I18 20 q = 0 := fun q => by rw [fa18 20 (by decide)]; exact r14 q
  have fr18 : ∀ x, x ∉ [20, 23, 24, 25, 26] → I18 x = I x := fun x hx => by simp at hx; rw [fa18 x (by omega)]; try exact fr14 x (by simp; omega)
  have hF19 := hF17.mono (b' := 27) (by decide)
  refine Wp.cpR rfl rfl hK18 hF19 (by decide) rfl rfl rfl rfl (fun F20 hF20 => ?_)
  refine Wp.go (x := (.aload_n 0, 1, 0, 0)) rfl 43 [some (.ref 20), some (.ref 5), some (.ref 10), none] [.ref 20] rfl ⟨rfl, rfl, rfl, rfl⟩ ?_
  refine Wp.sp (v := nI 301) rfl rfl (by decide) ?_
  have hF21 := hF20.mono (b' := 27) (by decide)
  refine Wp.mni (a := 27) rfl rfl hK18 rfl (by decide) (fun K22 I22 hK22 fa22 z22 => ?_)
  have r22 : ∀ q, I22 20 q = 0 := fun q => by rw [fa22 20 (by decide)]; exact r18 q
  have fr22 : ∀ x, x ∉ [20, 23, 24, 25, 26, 27] → I22 x = I x := fun x hx => by simp at hx; rw [fa22 x (by omega)]; try exact fr18 x (by simp; omega)
  have hF23 := hF21.mono (b' := 28) (by decide)
  refine Wp.cpR rfl rfl hK22 hF23 (by decide) rfl rfl rfl rfl (fun F24 hF24 => ?_)
  refine Wp.ic (v := nI 0) rfl rfl (by decide) ?_
  refine Wp.go (x := (.istore_n 3, 1, 0, 0)) rfl 53 [some (.ref 20), some (.ref 5), some (.ref 10), some (.int (nI 0))] [] rfl ⟨rfl, rfl, rfl, rfl⟩ ?_
  refine Wp.wk (L := [some (.ref 20), none, none, some (.int (nI 0))]) ⟨Or.inr rfl, Or.inl rfl, Or.inl rfl, Or.inr rfl, trivial⟩ ?_
  refine p_lits (hK22.lt (by decide) hL) (hK22.at (by decide) rfl) (hF24.at (by simp) rfl) (hK22.at (by decide) rfl) (fun I25 b25 y25 => ?_)
  have fa25 : ∀ x, x ≠ 27 → I25 x = I22 x := fun x hx => b25 x (by simp; omega)
  have r25 : ∀ q, I25 20 q = 0 := fun q => by rw [fa25 20 (by decide)]; exact r22 q
  have fr25 : ∀ x, x ∉ [20, 23, 24, 25, 26, 27] → I25 x = I x := fun x hx => by simp at hx; rw [fa25 x (by omega)]; try exact fr22 x (by simp; omega)
  exact k _ _ _ _ _ _ (by omega) (by omega) hK22 hF24 fr25 r25 y25
