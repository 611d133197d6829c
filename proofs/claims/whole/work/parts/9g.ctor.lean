set_option maxRecDepth 20000 in
theorem ci_X9_init_5_0 {L d n1 n2 : Nat} {pl : List Nat} {D : List (Nat × Nat)} {K : Nat → Nat × Nat} {F : Nat → Nat → Option Nat} {I : Nat → Nat → Int32} {J : Nat → Nat → Int64} {Q : Option Value × xS → Prop} (hK : KP 0 L 6 K) (hF : FD 0 6 D F) (r0 : ∀ q, I 5 q = 0) (k : ∀ K' F' I' J' m1 m2, m1 = n1 + 4 → m2 = n2 + 45750 → KP 0 L 10 K' → FD 0 10 ((5, 6) :: (5, 5) :: (5, 4) :: (5, 2) :: D) F' → (∀ x, x ∉ [5, 6, 7, 8, 9] → I' x = I x) → (∀ q, I' 5 q = if q = 1 then nI 258 else if q = 0 then nI 3 else 0) → Q (none, (K', (pl, m1, m2), I', J', F'))) : Wp (d + 1) 65 0 [some (.ref 5), some (.int (nI 0))] [] (K, (6 :: 7 :: 8 :: 9 :: pl, n1, n2), I, J, F) Q := by
  have fr0 : ∀ x, x ∉ [5] → I x = I x := fun _ _ => rfl
  refine Wp.go (x := (.aload_n 0, 1, 0, 0)) rfl 1 [some (.ref 5), some (.int (nI 0))] [.ref 5] rfl ⟨rfl, rfl, rfl, rfl⟩ ?_
  refine Wp.obj rfl rfl rfl (by omega) (Nat.le_of_ble_eq_true rfl) ?_
  refine Wp.go (x := (.aload_n 0, 1, 0, 0)) rfl 5 [some (.ref 5), some (.int (nI 0))] [.ref 5] rfl ⟨rfl, rfl, rfl, rfl⟩ ?_
  refine Wp.sp (v := nI 300) rfl rfl (by decide) ?_
  have hF1 := hF.mono (b' := 6) (by decide)
  refine Wp.mni (a := 6) rfl rfl hK rfl (by decide) (fun K2 I2 hK2 fa2 z2 => ?_)
  have r2 : ∀ q, I2 5 q = 0 := fun q => by rw [fa2 5 (by decide)]; exact r0 q
  have fr2 : ∀ x, x ∉ [5, 6] → I2 x = I x := fun x hx => by simp at hx; rw [fa2 x (by omega)]; try exact fr0 x (by simp; omega)
  have hF3 := hF1.mono (b' := 7) (by decide)
  refine Wp.cpR rfl rfl hK2 hF3 (by decide) rfl rfl rfl rfl (fun F4 hF4 => ?_)
  refine Wp.go (x := (.aload_n 0, 1, 0, 0)) rfl 14 [some (.ref 5), some (.int (nI 0))] [.ref 5] rfl ⟨rfl, rfl, rfl, rfl⟩ ?_
  refine Wp.sp (v := nI 300) rfl rfl (by decide) ?_
  have hF5 := hF4.mono (b' := 7) (by decide)
  refine Wp.mni (a := 7) rfl rfl hK2 rfl (by decide) (fun K6 I6 hK6 fa6 z6 => ?_)
  have r6 : ∀ q, I6 5 q = 0 := fun q => by rw [fa6 5 (by decide)]; exact r2 q
  have fr6 : ∀ x, x ∉ [5, 6, 7] → I6 x = I x := fun x hx => by simp at hx; rw [fa6 x (by omega)]; try exact fr2 x (by simp; omega)
  have hF7 := hF5.mono (b' := 8) (by decide)
  refine Wp.cpR rfl rfl hK6 hF7 (by decide) rfl rfl rfl rfl (fun F8 hF8 => ?_)
  refine Wp.go (x := (.aload_n 0, 1, 0, 0)) rfl 23 [some (.ref 5), some (.int (nI 0))] [.ref 5] rfl ⟨rfl, rfl, rfl, rfl⟩ ?_
  refine Wp.ldc (v := nI 44850) rfl rfl (by first | rfl | decide) ?_
  have hF9 := hF8.mono (b' := 8) (by decide)
  refine Wp.mni (a := 8) rfl rfl hK6 rfl (by decide) (fun K10 I10 hK10 fa10 z10 => ?_)
  have r10 : ∀ q, I10 5 q = 0 := fun q => by rw [fa10 5 (by decide)]; exact r6 q
  have fr10 : ∀ x, x ∉ [5, 6, 7, 8] → I10 x = I x := fun x hx => by simp at hx; rw [fa10 x (by omega)]; try exact fr6 x (by simp; omega)
  have hF11 := hF9.mono (b' := 9) (by decide)
  refine Wp.cpR rfl rfl hK10 hF11 (by decide) rfl rfl rfl rfl (fun F12 hF12 => ?_)
  refine Wp.go (x := (.aload_n 0, 1, 0, 0)) rfl 31 [some (.ref 5), some (.int (nI 0))] [.ref 5] rfl ⟨rfl, rfl, rfl, rfl⟩ ?_
  refine Wp.sp (v := nI 300) rfl rfl (by decide) ?_
  have hF13 := hF12.mono (b' := 9) (by decide)
  refine Wp.mni (a := 9) rfl rfl hK10 rfl (by decide) (fun K14 I14 hK14 fa14 z14 => ?_)
  have r14 : ∀ q, I14 5 q = 0 := fun q => by rw [fa14 5 (by decide)]; exact r10 q
  have fr14 : ∀ x, x ∉ [5, 6, 7, 8, 9] → I14 x = I x := fun x hx => by simp at hx; rw [fa14 x (by omega)]; try exact fr10 x (by simp; omega)
  have hF15 := hF13.mono (b' := 10) (by decide)
  refine Wp.cpR rfl rfl hK14 hF15 (by decide) rfl rfl rfl rfl (fun F16 hF16 => ?_)
  refine Wp.go (x := (.aload_n 0, 1, 0, 0)) rfl 40 [some (.ref 5), some (.int (nI 0))] [.ref 5] rfl ⟨rfl, rfl, rfl, rfl⟩ ?_
  refine Wp.go (x := (.iload_n 1, 1, 0, 0)) rfl 41 [some (.ref 5), some (.int (nI 0))] [.int (nI 0), .ref 5] rfl ⟨rfl, rfl, rfl, rfl⟩ ?_
  refine Wp.z_ne rfl rfl ⟨fun c => absurd c (by decide), fun c => ?_⟩
  refine Wp.ic (v := nI 3) rfl rfl (by decide) ?_
  refine Wp.go (x := (.goto 13, 3, 58, 0)) rfl 58 [some (.ref 5), some (.int (nI 0))] [.int (nI 3), .ref 5] rfl ⟨rfl, rfl, rfl, rfl⟩ ?_
  refine Wp.mpI rfl rfl hK14 (by decide) rfl rfl (Or.inl rfl) (fun I17 fa17 z17 => ?_)
  have r17 : ∀ q, I17 5 q = if q = 0 then nI 3 else 0 := fun q => by
    rw [z17 q]
    by_cases e : q = 0
    · rw [if_pos e, if_pos e]
    · rw [if_neg e, if_neg e]
      exact r14 q
  have fr17 : ∀ x, x ∉ [5, 6, 7, 8, 9] → I17 x = I x := fun x hx => by simp at hx; rw [fa17 x (by omega)]; try exact fr14 x (by simp; omega)
  refine Wp.go (x := (.aload_n 0, 1, 0, 0)) rfl 62 [some (.ref 5), some (.int (nI 0))] [.ref 5] rfl ⟨rfl, rfl, rfl, rfl⟩ ?_
  refine Wp.go (x := (.iload_n 1, 1, 0, 0)) rfl 63 [some (.ref 5), some (.int (nI 0))] [.int (nI 0), .ref 5] rfl ⟨rfl, rfl, rfl, rfl⟩ ?_
  refine Wp.z_ne rfl rfl ⟨fun c => absurd c (by decide), fun c => ?_⟩
  refine Wp.sp (v := nI 258) rfl rfl (by decide) ?_
  refine Wp.go (x := (.goto 17, 3, 86, 0)) rfl 86 [some (.ref 5), some (.int (nI 0))] [.int (nI 258), .ref 5] rfl ⟨rfl, rfl, rfl, rfl⟩ ?_
  refine Wp.mpI rfl rfl hK14 (by decide) rfl rfl (Or.inl rfl) (fun I18 fa18 z18 => ?_)
  have r18 : ∀ q, I18 5 q = if q = 1 then nI 258 else if q = 0 then nI 3 else 0 := fun q => by
    rw [z18 q]
    by_cases e : q = 1
    · rw [if_pos e, if_pos e]
    · rw [if_neg e, if_neg e]
      exact r17 q
  have fr18 : ∀ x, x ∉ [5, 6, 7, 8, 9] → I18 x = I x := fun x hx => by simp at hx; rw [fa18 x (by omega)]; try exact fr17 x (by simp; omega)
  exact Wp.rV rfl rfl (k _ _ _ _ _ _ (by omega) (by omega) hK14 hF16 fr18 r18)
set_option maxRecDepth 20000 in
theorem ci_X2_init_20_0 {L d n1 n2 : Nat} {pl : List Nat} {D : List (Nat × Nat)} {K : Nat → Nat × Nat} {F : Nat → Nat → Option Nat} {I : Nat → Nat → Int32} {J : Nat → Nat → Int64} {Q : Option Value × xS → Prop} (hK : KP 0 L 21 K) (hF : FD 0 21 D F) (r0 : ∀ q, I 20 q = 0) (k : ∀ K' F' I' J' m1 m2, m1 = n1 + 0 → m2 = n2 + 0 → KP 0 L 21 K' → FD 0 21 ((20, 1) :: (20, 0) :: D) F' → (∀ x, x ∉ [20] → I' x = I x) → (∀ q, I' 20 q = 0) → Q (none, (K', (pl, m1, m2), I', J', F'))) : Wp (d + 1) 25 0 [some (.ref 20), some (.ref 5), some (.ref 10)] [] (K, (pl, n1, n2), I, J, F) Q := by
  have fr0 : ∀ x, x ∉ [20] → I x = I x := fun _ _ => rfl
  refine Wp.go (x := (.aload_n 0, 1, 0, 0)) rfl 1 [some (.ref 20), some (.ref 5), some (.ref 10)] [.ref 20] rfl ⟨rfl, rfl, rfl, rfl⟩ ?_
  refine Wp.obj rfl rfl rfl (by omega) (Nat.le_of_ble_eq_true rfl) ?_
  refine Wp.go (x := (.aload_n 0, 1, 0, 0)) rfl 5 [some (.ref 20), some (.ref 5), some (.ref 10)] [.ref 20] rfl ⟨rfl, rfl, rfl, rfl⟩ ?_
  refine Wp.go (x := (.aload_n 1, 1, 0, 0)) rfl 6 [some (.ref 20), some (.ref 5), some (.ref 10)] [.ref 5, .ref 20] rfl ⟨rfl, rfl, rfl, rfl⟩ ?_
  refine Wp.cpR rfl rfl hK hF (by decide) rfl rfl rfl rfl (fun F1 hF1 => ?_)
  refine Wp.go (x := (.aload_n 0, 1, 0, 0)) rfl 10 [some (.ref 20), some (.ref 5), some (.ref 10)] [.ref 20] rfl ⟨rfl, rfl, rfl, rfl⟩ ?_
  refine Wp.go (x := (.aload_n 2, 1, 0, 0)) rfl 11 [some (.ref 20), some (.ref 5), some (.ref 10)] [.ref 10, .ref 20] rfl ⟨rfl, rfl, rfl, rfl⟩ ?_
  refine Wp.cpR rfl rfl hK hF1 (by decide) rfl rfl rfl rfl (fun F2 hF2 => ?_)
  exact Wp.rV rfl rfl (k _ _ _ _ _ _ (by omega) (by omega) hK hF2 fr0 r0)
set_option maxRecDepth 20000 in
theorem ci_X8_init_33_0 {L d n1 n2 : Nat} {pl : List Nat} {D : List (Nat × Nat)} {K : Nat → Nat × Nat} {F : Nat → Nat → Option Nat} {I : Nat → Nat → Int32} {J : Nat → Nat → Int64} {Q : Option Value × xS → Prop} (hK : KP 0 L 34 K) (hF : FD 0 34 D F) (r0 : ∀ q, I 33 q = 0) (k : ∀ K' F' I' J' m1 m2, m1 = n1 + 0 → m2 = n2 + 0 → KP 0 L 34 K' → FD 0 34 ((33, 0) :: D) F' → (∀ x, x ∉ [33] → I' x = I x) → (∀ q, I' 33 q = if q = 1 then nI 0 else 0) → Q (none, (K', (pl, m1, m2), I', J', F'))) : Wp (d + 1) 61 0 [some (.ref 33), some (.ref 5), some (.int (nI 0))] [] (K, (pl, n1, n2), I, J, F) Q := by
  have fr0 : ∀ x, x ∉ [33] → I x = I x := fun _ _ => rfl
  refine Wp.go (x := (.aload_n 0, 1, 0, 0)) rfl 1 [some (.ref 33), some (.ref 5), some (.int (nI 0))] [.ref 33] rfl ⟨rfl, rfl, rfl, rfl⟩ ?_
  refine Wp.obj rfl rfl rfl (by omega) (Nat.le_of_ble_eq_true rfl) ?_
  refine Wp.go (x := (.aload_n 0, 1, 0, 0)) rfl 5 [some (.ref 33), some (.ref 5), some (.int (nI 0))] [.ref 33] rfl ⟨rfl, rfl, rfl, rfl⟩ ?_
  refine Wp.go (x := (.aload_n 1, 1, 0, 0)) rfl 6 [some (.ref 33), some (.ref 5), some (.int (nI 0))] [.ref 5, .ref 33] rfl ⟨rfl, rfl, rfl, rfl⟩ ?_
  refine Wp.cpR rfl rfl hK hF (by decide) rfl rfl rfl rfl (fun F1 hF1 => ?_)
  refine Wp.go (x := (.aload_n 0, 1, 0, 0)) rfl 10 [some (.ref 33), some (.ref 5), some (.int (nI 0))] [.ref 33] rfl ⟨rfl, rfl, rfl, rfl⟩ ?_
  refine Wp.go (x := (.iload_n 2, 1, 0, 0)) rfl 11 [some (.ref 33), some (.ref 5), some (.int (nI 0))] [.int (nI 0), .ref 33] rfl ⟨rfl, rfl, rfl, rfl⟩ ?_
  refine Wp.mpI rfl rfl hK (by decide) rfl rfl (Or.inr ⟨rfl, Or.inl rfl⟩) (fun I2 fa2 z2 => ?_)
  have r2 : ∀ q, I2 33 q = if q = 1 then nI 0 else 0 := fun q => by
    rw [z2 q]
    by_cases e : q = 1
    · rw [if_pos e, if_pos e]
    · rw [if_neg e, if_neg e]
      exact r0 q
  have fr2 : ∀ x, x ∉ [33] → I2 x = I x := fun x hx => by simp at hx; rw [fa2 x (by omega)]; try exact fr0 x (by simp; omega)
  exact Wp.rV rfl rfl (k _ _ _ _ _ _ (by omega) (by omega) hK hF1 fr2 r2)
set_option maxRecDepth 20000 in
theorem ci_X0_init_34_0 {L d n1 n2 : Nat} {pl : List Nat} {D : List (Nat × Nat)} {K : Nat → Nat × Nat} {F : Nat → Nat → Option Nat} {I : Nat → Nat → Int32} {J : Nat → Nat → Int64} {Q : Option Value × xS → Prop} (hK : KP 0 L 35 K) (hF : FD 0 35 D F) (r0 : ∀ q, I 34 q = 0) (k : ∀ K' F' I' J' m1 m2, m1 = n1 + 6 → m2 = n2 + 322 → KP 0 L 41 K' → FD 0 41 ((34, 0) :: (34, 8) :: (34, 7) :: (34, 6) :: (34, 5) :: (34, 3) :: (34, 1) :: D) F' → (∀ x, x ∉ [34, 35, 36, 38, 39, 40] → I' x = I x) → (∀ q, I' 34 q = 0) → Q (none, (K', (pl, m1, m2), I', J', F'))) : Wp (d + 1) 0 0 [some (.ref 34), some (.ref 5)] [] (K, (35 :: 36 :: 37 :: 38 :: 39 :: 40 :: pl, n1, n2), I, J, F) Q := by
  have fr0 : ∀ x, x ∉ [34] → I x = I x := fun _ _ => rfl
  refine Wp.go (x := (.aload_n 0, 1, 0, 0)) rfl 1 [some (.ref 34), some (.ref 5)] [.ref 34] rfl ⟨rfl, rfl, rfl, rfl⟩ ?_
  refine Wp.obj rfl rfl rfl (by omega) (Nat.le_of_ble_eq_true rfl) ?_
  refine Wp.go (x := (.aload_n 0, 1, 0, 0)) rfl 5 [some (.ref 34), some (.ref 5)] [.ref 34] rfl ⟨rfl, rfl, rfl, rfl⟩ ?_
  refine Wp.bp (v := nI 12) rfl rfl (by decide) ?_
  have hF1 := hF.mono (b' := 35) (by decide)
  refine Wp.mni (a := 35) rfl rfl hK rfl (by decide) (fun K2 I2 hK2 fa2 z2 => ?_)
  have r2 : ∀ q, I2 34 q = 0 := fun q => by rw [fa2 34 (by decide)]; exact r0 q
  have fr2 : ∀ x, x ∉ [34, 35] → I2 x = I x := fun x hx => by simp at hx; rw [fa2 x (by omega)]; try exact fr0 x (by simp; omega)
  have hF3 := hF1.mono (b' := 36) (by decide)
  refine Wp.cpR rfl rfl hK2 hF3 (by decide) rfl rfl rfl rfl (fun F4 hF4 => ?_)
  refine Wp.go (x := (.aload_n 0, 1, 0, 0)) rfl 13 [some (.ref 34), some (.ref 5)] [.ref 34] rfl ⟨rfl, rfl, rfl, rfl⟩ ?_
  refine Wp.bp (v := nI 12) rfl rfl (by decide) ?_
  have hF5 := hF4.mono (b' := 36) (by decide)
  refine Wp.mni (a := 36) rfl rfl hK2 rfl (by decide) (fun K6 I6 hK6 fa6 z6 => ?_)
  have r6 : ∀ q, I6 34 q = 0 := fun q => by rw [fa6 34 (by decide)]; exact r2 q
  have fr6 : ∀ x, x ∉ [34, 35, 36] → I6 x = I x := fun x hx => by simp at hx; rw [fa6 x (by omega)]; try exact fr2 x (by simp; omega)
  have hF7 := hF5.mono (b' := 37) (by decide)
  refine Wp.cpR rfl rfl hK6 hF7 (by decide) rfl rfl rfl rfl (fun F8 hF8 => ?_)
  refine Wp.go (x := (.aload_n 0, 1, 0, 0)) rfl 21 [some (.ref 34), some (.ref 5)] [.ref 34] rfl ⟨rfl, rfl, rfl, rfl⟩ ?_
  refine Wp.bp (v := nI 14) rfl rfl (by decide) ?_
  have hF9 := hF8.mono (b' := 37) (by decide)
  refine Wp.mnl (a := 37) rfl rfl hK6 rfl (by decide) (fun K10 J10 hK10 => ?_)
  have hF11 := hF9.mono (b' := 38) (by decide)
  refine Wp.cpR rfl rfl hK10 hF11 (by decide) rfl rfl rfl rfl (fun F12 hF12 => ?_)
  refine Wp.go (x := (.aload_n 0, 1, 0, 0)) rfl 29 [some (.ref 34), some (.ref 5)] [.ref 34] rfl ⟨rfl, rfl, rfl, rfl⟩ ?_
  refine Wp.bp (v := nI 14) rfl rfl (by decide) ?_
  have hF13 := hF12.mono (b' := 38) (by decide)
  refine Wp.mni (a := 38) rfl rfl hK10 rfl (by decide) (fun K14 I14 hK14 fa14 z14 => ?_)
  have r14 : ∀ q, I14 34 q = 0 := fun q => by rw [fa14 34 (by decide)]; exact r6 q
  have fr14 : ∀ x, x ∉ [34, 35, 36, 38] → I14 x = I x := fun x hx => by simp at hx; rw [fa14 x (by omega)]; try exact fr6 x (by simp; omega)
  have hF15 := hF13.mono (b' := 39) (by decide)
  refine Wp.cpR rfl rfl hK14 hF15 (by decide) rfl rfl rfl rfl (fun F16 hF16 => ?_)
  refine Wp.go (x := (.aload_n 0, 1, 0, 0)) rfl 37 [some (.ref 34), some (.ref 5)] [.ref 34] rfl ⟨rfl, rfl, rfl, rfl⟩ ?_
  refine Wp.bp (v := nI 14) rfl rfl (by decide) ?_
  have hF17 := hF16.mono (b' := 39) (by decide)
  refine Wp.mni (a := 39) rfl rfl hK14 rfl (by decide) (fun K18 I18 hK18 fa18 z18 => ?_)
  have r18 : ∀ q, I18 34 q = 0 := fun q => by rw [fa18 34 (by decide)]; exact r14 q
  have fr18 : ∀ x, x ∉ [34, 35, 36, 38, 39] → I18 x = I x := fun x hx => by simp at hx; rw [fa18 x (by omega)]; try exact fr14 x (by simp; omega)
  have hF19 := hF17.mono (b' := 40) (by decide)
  refine Wp.cpR rfl rfl hK18 hF19 (by decide) rfl rfl rfl rfl (fun F20 hF20 => ?_)
  refine Wp.go (x := (.aload_n 0, 1, 0, 0)) rfl 45 [some (.ref 34), some (.ref 5)] [.ref 34] rfl ⟨rfl, rfl, rfl, rfl⟩ ?_
  refine Wp.sp (v := nI 256) rfl rfl (by decide) ?_
  have hF21 := hF20.mono (b' := 40) (by decide)
  refine Wp.mni (a := 40) rfl rfl hK18 rfl (by decide) (fun K22 I22 hK22 fa22 z22 => ?_)
  have r22 : ∀ q, I22 34 q = 0 := fun q => by rw [fa22 34 (by decide)]; exact r18 q
  have fr22 : ∀ x, x ∉ [34, 35, 36, 38, 39, 40] → I22 x = I x := fun x hx => by simp at hx; rw [fa22 x (by omega)]; try exact fr18 x (by simp; omega)
  have hF23 := hF21.mono (b' := 41) (by decide)
  refine Wp.cpR rfl rfl hK22 hF23 (by decide) rfl rfl rfl rfl (fun F24 hF24 => ?_)
  refine Wp.go (x := (.aload_n 0, 1, 0, 0)) rfl 54 [some (.ref 34), some (.ref 5)] [.ref 34] rfl ⟨rfl, rfl, rfl, rfl⟩ ?_
  refine Wp.go (x := (.aload_n 1, 1, 0, 0)) rfl 55 [some (.ref 34), some (.ref 5)] [.ref 5, .ref 34] rfl ⟨rfl, rfl, rfl, rfl⟩ ?_
  refine Wp.cpR rfl rfl hK22 hF24 (by decide) rfl rfl rfl rfl (fun F25 hF25 => ?_)
  exact Wp.rV rfl rfl (k _ _ _ _ _ _ (by omega) (by omega) hK22 hF25 fr22 r22)
set_option maxRecDepth 20000 in
theorem ci_X6_init_41_0 {L d n1 n2 : Nat} {pl : List Nat} {D : List (Nat × Nat)} {K : Nat → Nat × Nat} {F : Nat → Nat → Option Nat} {I : Nat → Nat → Int32} {J : Nat → Nat → Int64} {Q : Option Value × xS → Prop} (hK : KP 0 L 42 K) (hF : FD 0 42 D F) (r0 : ∀ q, I 41 q = 0) (k : ∀ K' F' I' J' m1 m2, m1 = n1 + 5 → m2 = n2 + 1500 → KP 0 L 47 K' → FD 0 47 ((41, 4) :: (41, 3) :: (41, 2) :: (41, 1) :: (41, 0) :: D) F' → (∀ x, x ∉ [41, 42, 43, 44, 45, 46] → I' x = I x) → (∀ q, I' 41 q = 0) → Q (none, (K', (pl, m1, m2), I', J', F'))) : Wp (d + 1) 49 0 [some (.ref 41)] [] (K, (42 :: 43 :: 44 :: 45 :: 46 :: pl, n1, n2), I, J, F) Q := by
  have fr0 : ∀ x, x ∉ [41] → I x = I x := fun _ _ => rfl
  refine Wp.go (x := (.aload_n 0, 1, 0, 0)) rfl 1 [some (.ref 41)] [.ref 41] rfl ⟨rfl, rfl, rfl, rfl⟩ ?_
  refine Wp.obj rfl rfl rfl (by omega) (Nat.le_of_ble_eq_true rfl) ?_
  refine Wp.go (x := (.aload_n 0, 1, 0, 0)) rfl 5 [some (.ref 41)] [.ref 41] rfl ⟨rfl, rfl, rfl, rfl⟩ ?_
  refine Wp.sp (v := nI 300) rfl rfl (by decide) ?_
  have hF1 := hF.mono (b' := 42) (by decide)
  refine Wp.mni (a := 42) rfl rfl hK rfl (by decide) (fun K2 I2 hK2 fa2 z2 => ?_)
  have r2 : ∀ q, I2 41 q = 0 := fun q => by rw [fa2 41 (by decide)]; exact r0 q
  have fr2 : ∀ x, x ∉ [41, 42] → I2 x = I x := fun x hx => by simp at hx; rw [fa2 x (by omega)]; try exact fr0 x (by simp; omega)
  have hF3 := hF1.mono (b' := 43) (by decide)
  refine Wp.cpR rfl rfl hK2 hF3 (by decide) rfl rfl rfl rfl (fun F4 hF4 => ?_)
  refine Wp.go (x := (.aload_n 0, 1, 0, 0)) rfl 14 [some (.ref 41)] [.ref 41] rfl ⟨rfl, rfl, rfl, rfl⟩ ?_
  refine Wp.sp (v := nI 300) rfl rfl (by decide) ?_
  have hF5 := hF4.mono (b' := 43) (by decide)
  refine Wp.mni (a := 43) rfl rfl hK2 rfl (by decide) (fun K6 I6 hK6 fa6 z6 => ?_)
  have r6 : ∀ q, I6 41 q = 0 := fun q => by rw [fa6 41 (by decide)]; exact r2 q
  have fr6 : ∀ x, x ∉ [41, 42, 43] → I6 x = I x := fun x hx => by simp at hx; rw [fa6 x (by omega)]; try exact fr2 x (by simp; omega)
  have hF7 := hF5.mono (b' := 44) (by decide)
  refine Wp.cpR rfl rfl hK6 hF7 (by decide) rfl rfl rfl rfl (fun F8 hF8 => ?_)
  refine Wp.go (x := (.aload_n 0, 1, 0, 0)) rfl 23 [some (.ref 41)] [.ref 41] rfl ⟨rfl, rfl, rfl, rfl⟩ ?_
  refine Wp.sp (v := nI 300) rfl rfl (by decide) ?_
  have hF9 := hF8.mono (b' := 44) (by decide)
  refine Wp.mni (a := 44) rfl rfl hK6 rfl (by decide) (fun K10 I10 hK10 fa10 z10 => ?_)
  have r10 : ∀ q, I10 41 q = 0 := fun q => by rw [fa10 41 (by decide)]; exact r6 q
  have fr10 : ∀ x, x ∉ [41, 42, 43, 44] → I10 x = I x := fun x hx => by simp at hx; rw [fa10 x (by omega)]; try exact fr6 x (by simp; omega)
  have hF11 := hF9.mono (b' := 45) (by decide)
  refine Wp.cpR rfl rfl hK10 hF11 (by decide) rfl rfl rfl rfl (fun F12 hF12 => ?_)
  refine Wp.go (x := (.aload_n 0, 1, 0, 0)) rfl 32 [some (.ref 41)] [.ref 41] rfl ⟨rfl, rfl, rfl, rfl⟩ ?_
  refine Wp.sp (v := nI 300) rfl rfl (by decide) ?_
  have hF13 := hF12.mono (b' := 45) (by decide)
  refine Wp.mni (a := 45) rfl rfl hK10 rfl (by decide) (fun K14 I14 hK14 fa14 z14 => ?_)
  have r14 : ∀ q, I14 41 q = 0 := fun q => by rw [fa14 41 (by decide)]; exact r10 q
  have fr14 : ∀ x, x ∉ [41, 42, 43, 44, 45] → I14 x = I x := fun x hx => by simp at hx; rw [fa14 x (by omega)]; try exact fr10 x (by simp; omega)
  have hF15 := hF13.mono (b' := 46) (by decide)
  refine Wp.cpR rfl rfl hK14 hF15 (by decide) rfl rfl rfl rfl (fun F16 hF16 => ?_)
  refine Wp.go (x := (.aload_n 0, 1, 0, 0)) rfl 41 [some (.ref 41)] [.ref 41] rfl ⟨rfl, rfl, rfl, rfl⟩ ?_
  refine Wp.sp (v := nI 300) rfl rfl (by decide) ?_
  have hF17 := hF16.mono (b' := 46) (by decide)
  refine Wp.mni (a := 46) rfl rfl hK14 rfl (by decide) (fun K18 I18 hK18 fa18 z18 => ?_)
  have r18 : ∀ q, I18 41 q = 0 := fun q => by rw [fa18 41 (by decide)]; exact r14 q
  have fr18 : ∀ x, x ∉ [41, 42, 43, 44, 45, 46] → I18 x = I x := fun x hx => by simp at hx; rw [fa18 x (by omega)]; try exact fr14 x (by simp; omega)
  have hF19 := hF17.mono (b' := 47) (by decide)
  refine Wp.cpR rfl rfl hK18 hF19 (by decide) rfl rfl rfl rfl (fun F20 hF20 => ?_)
  exact Wp.rV rfl rfl (k _ _ _ _ _ _ (by omega) (by omega) hK18 hF20 fr18 r18)
set_option maxRecDepth 20000 in
theorem ci_X6_init_47_0 {L d n1 n2 : Nat} {pl : List Nat} {D : List (Nat × Nat)} {K : Nat → Nat × Nat} {F : Nat → Nat → Option Nat} {I : Nat → Nat → Int32} {J : Nat → Nat → Int64} {Q : Option Value × xS → Prop} (hK : KP 0 L 48 K) (hF : FD 0 48 D F) (r0 : ∀ q, I 47 q = 0) (k : ∀ K' F' I' J' m1 m2, m1 = n1 + 5 → m2 = n2 + 1500 → KP 0 L 53 K' → FD 0 53 ((47, 4) :: (47, 3) :: (47, 2) :: (47, 1) :: (47, 0) :: D) F' → (∀ x, x ∉ [47, 48, 49, 50, 51, 52] → I' x = I x) → (∀ q, I' 47 q = 0) → Q (none, (K', (pl, m1, m2), I', J', F'))) : Wp (d + 1) 49 0 [some (.ref 47)] [] (K, (48 :: 49 :: 50 :: 51 :: 52 :: pl, n1, n2), I, J, F) Q := by
  have fr0 : ∀ x, x ∉ [47] → I x = I x := fun _ _ => rfl
  refine Wp.go (x := (.aload_n 0, 1, 0, 0)) rfl 1 [some (.ref 47)] [.ref 47] rfl ⟨rfl, rfl, rfl, rfl⟩ ?_
  refine Wp.obj rfl rfl rfl (by omega) (Nat.le_of_ble_eq_true rfl) ?_
  refine Wp.go (x := (.aload_n 0, 1, 0, 0)) rfl 5 [some (.ref 47)] [.ref 47] rfl ⟨rfl, rfl, rfl, rfl⟩ ?_
  refine Wp.sp (v := nI 300) rfl rfl (by decide) ?_
  have hF1 := hF.mono (b' := 48) (by decide)
  refine Wp.mni (a := 48) rfl rfl hK rfl (by decide) (fun K2 I2 hK2 fa2 z2 => ?_)
  have r2 : ∀ q, I2 47 q = 0 := fun q => by rw [fa2 47 (by decide)]; exact r0 q
  have fr2 : ∀ x, x ∉ [47, 48] → I2 x = I x := fun x hx => by simp at hx; rw [fa2 x (by omega)]; try exact fr0 x (by simp; omega)
  have hF3 := hF1.mono (b' := 49) (by decide)
  refine Wp.cpR rfl rfl hK2 hF3 (by decide) rfl rfl rfl rfl (fun F4 hF4 => ?_)
  refine Wp.go (x := (.aload_n 0, 1, 0, 0)) rfl 14 [some (.ref 47)] [.ref 47] rfl ⟨rfl, rfl, rfl, rfl⟩ ?_
  refine Wp.sp (v := nI 300) rfl rfl (by decide) ?_
  have hF5 := hF4.mono (b' := 49) (by decide)
  refine Wp.mni (a := 49) rfl rfl hK2 rfl (by decide) (fun K6 I6 hK6 fa6 z6 => ?_)
  have r6 : ∀ q, I6 47 q = 0 := fun q => by rw [fa6 47 (by decide)]; exact r2 q
  have fr6 : ∀ x, x ∉ [47, 48, 49] → I6 x = I x := fun x hx => by simp at hx; rw [fa6 x (by omega)]; try exact fr2 x (by simp; omega)
  have hF7 := hF5.mono (b' := 50) (by decide)
  refine Wp.cpR rfl rfl hK6 hF7 (by decide) rfl rfl rfl rfl (fun F8 hF8 => ?_)
  refine Wp.go (x := (.aload_n 0, 1, 0, 0)) rfl 23 [some (.ref 47)] [.ref 47] rfl ⟨rfl, rfl, rfl, rfl⟩ ?_
  refine Wp.sp (v := nI 300) rfl rfl (by decide) ?_
  have hF9 := hF8.mono (b' := 50) (by decide)
  refine Wp.mni (a := 50) rfl rfl hK6 rfl (by decide) (fun K10 I10 hK10 fa10 z10 => ?_)
  have r10 : ∀ q, I10 47 q = 0 := fun q => by rw [fa10 47 (by decide)]; exact r6 q
  have fr10 : ∀ x, x ∉ [47, 48, 49, 50] → I10 x = I x := fun x hx => by simp at hx; rw [fa10 x (by omega)]; try exact fr6 x (by simp; omega)
  have hF11 := hF9.mono (b' := 51) (by decide)
  refine Wp.cpR rfl rfl hK10 hF11 (by decide) rfl rfl rfl rfl (fun F12 hF12 => ?_)
  refine Wp.go (x := (.aload_n 0, 1, 0, 0)) rfl 32 [some (.ref 47)] [.ref 47] rfl ⟨rfl, rfl, rfl, rfl⟩ ?_
  refine Wp.sp (v := nI 300) rfl rfl (by decide) ?_
  have hF13 := hF12.mono (b' := 51) (by decide)
  refine Wp.mni (a := 51) rfl rfl hK10 rfl (by decide) (fun K14 I14 hK14 fa14 z14 => ?_)
  have r14 : ∀ q, I14 47 q = 0 := fun q => by rw [fa14 47 (by decide)]; exact r10 q
  have fr14 : ∀ x, x ∉ [47, 48, 49, 50, 51] → I14 x = I x := fun x hx => by simp at hx; rw [fa14 x (by omega)]; try exact fr10 x (by simp; omega)
  have hF15 := hF13.mono (b' := 52) (by decide)
  refine Wp.cpR rfl rfl hK14 hF15 (by decide) rfl rfl rfl rfl (fun F16 hF16 => ?_)
  refine Wp.go (x := (.aload_n 0, 1, 0, 0)) rfl 41 [some (.ref 47)] [.ref 47] rfl ⟨rfl, rfl, rfl, rfl⟩ ?_
  refine Wp.sp (v := nI 300) rfl rfl (by decide) ?_
  have hF17 := hF16.mono (b' := 52) (by decide)
  refine Wp.mni (a := 52) rfl rfl hK14 rfl (by decide) (fun K18 I18 hK18 fa18 z18 => ?_)
  have r18 : ∀ q, I18 47 q = 0 := fun q => by rw [fa18 47 (by decide)]; exact r14 q
  have fr18 : ∀ x, x ∉ [47, 48, 49, 50, 51, 52] → I18 x = I x := fun x hx => by simp at hx; rw [fa18 x (by omega)]; try exact fr14 x (by simp; omega)
  have hF19 := hF17.mono (b' := 53) (by decide)
  refine Wp.cpR rfl rfl hK18 hF19 (by decide) rfl rfl rfl rfl (fun F20 hF20 => ?_)
  exact Wp.rV rfl rfl (k _ _ _ _ _ _ (by omega) (by omega) hK18 hF20 fr18 r18)
set_option maxRecDepth 20000 in
theorem ci_X9_init_5_1 {L d n1 n2 : Nat} {pl : List Nat} {D : List (Nat × Nat)} {K : Nat → Nat × Nat} {F : Nat → Nat → Option Nat} {I : Nat → Nat → Int32} {J : Nat → Nat → Int64} {Q : Option Value × xS → Prop} (hK : KP 1 L 6 K) (hF : FD 1 6 D F) (r0 : ∀ q, I 5 q = 0) (k : ∀ K' F' I' J' m1 m2, m1 = n1 + 4 → m2 = n2 + 45750 → KP 1 L 10 K' → FD 1 10 ((5, 6) :: (5, 5) :: (5, 4) :: (5, 2) :: D) F' → (∀ x, x ∉ [5, 6, 7, 8, 9] → I' x = I x) → (∀ q, I' 5 q = if q = 1 then nI 300 else if q = 0 then nI 4 else 0) → Q (none, (K', (pl, m1, m2), I', J', F'))) : Wp (d + 1) 65 0 [some (.ref 5), some (.int (nI 1))] [] (K, (6 :: 7 :: 8 :: 9 :: pl, n1, n2), I, J, F) Q := by
  have fr0 : ∀ x, x ∉ [5] → I x = I x := fun _ _ => rfl
  refine Wp.go (x := (.aload_n 0, 1, 0, 0)) rfl 1 [some (.ref 5), some (.int (nI 1))] [.ref 5] rfl ⟨rfl, rfl, rfl, rfl⟩ ?_
  refine Wp.obj rfl rfl rfl (by omega) (Nat.le_of_ble_eq_true rfl) ?_
  refine Wp.go (x := (.aload_n 0, 1, 0, 0)) rfl 5 [some (.ref 5), some (.int (nI 1))] [.ref 5] rfl ⟨rfl, rfl, rfl, rfl⟩ ?_
  refine Wp.sp (v := nI 300) rfl rfl (by decide) ?_
  have hF1 := hF.mono (b' := 6) (by decide)
  refine Wp.mni (a := 6) rfl rfl hK rfl (by decide) (fun K2 I2 hK2 fa2 z2 => ?_)
  have r2 : ∀ q, I2 5 q = 0 := fun q => by rw [fa2 5 (by decide)]; exact r0 q
  have fr2 : ∀ x, x ∉ [5, 6] → I2 x = I x := fun x hx => by simp at hx; rw [fa2 x (by omega)]; try exact fr0 x (by simp; omega)
  have hF3 := hF1.mono (b' := 7) (by decide)
  refine Wp.cpR rfl rfl hK2 hF3 (by decide) rfl rfl rfl rfl (fun F4 hF4 => ?_)
  refine Wp.go (x := (.aload_n 0, 1, 0, 0)) rfl 14 [some (.ref 5), some (.int (nI 1))] [.ref 5] rfl ⟨rfl, rfl, rfl, rfl⟩ ?_
  refine Wp.sp (v := nI 300) rfl rfl (by decide) ?_
  have hF5 := hF4.mono (b' := 7) (by decide)
  refine Wp.mni (a := 7) rfl rfl hK2 rfl (by decide) (fun K6 I6 hK6 fa6 z6 => ?_)
  have r6 : ∀ q, I6 5 q = 0 := fun q => by rw [fa6 5 (by decide)]; exact r2 q
  have fr6 : ∀ x, x ∉ [5, 6, 7] → I6 x = I x := fun x hx => by simp at hx; rw [fa6 x (by omega)]; try exact fr2 x (by simp; omega)
  have hF7 := hF5.mono (b' := 8) (by decide)
  refine Wp.cpR rfl rfl hK6 hF7 (by decide) rfl rfl rfl rfl (fun F8 hF8 => ?_)
  refine Wp.go (x := (.aload_n 0, 1, 0, 0)) rfl 23 [some (.ref 5), some (.int (nI 1))] [.ref 5] rfl ⟨rfl, rfl, rfl, rfl⟩ ?_
  refine Wp.ldc (v := nI 44850) rfl rfl (by first | rfl | decide) ?_
  have hF9 := hF8.mono (b' := 8) (by decide)
  refine Wp.mni (a := 8) rfl rfl hK6 rfl (by decide) (fun K10 I10 hK10 fa10 z10 => ?_)
  have r10 : ∀ q, I10 5 q = 0 := fun q => by rw [fa10 5 (by decide)]; exact r6 q
  have fr10 : ∀ x, x ∉ [5, 6, 7, 8] → I10 x = I x := fun x hx => by simp at hx; rw [fa10 x (by omega)]; try exact fr6 x (by simp; omega)
  have hF11 := hF9.mono (b' := 9) (by decide)
  refine Wp.cpR rfl rfl hK10 hF11 (by decide) rfl rfl rfl rfl (fun F12 hF12 => ?_)
  refine Wp.go (x := (.aload_n 0, 1, 0, 0)) rfl 31 [some (.ref 5), some (.int (nI 1))] [.ref 5] rfl ⟨rfl, rfl, rfl, rfl⟩ ?_
  refine Wp.sp (v := nI 300) rfl rfl (by decide) ?_
  have hF13 := hF12.mono (b' := 9) (by decide)
  refine Wp.mni (a := 9) rfl rfl hK10 rfl (by decide) (fun K14 I14 hK14 fa14 z14 => ?_)
  have r14 : ∀ q, I14 5 q = 0 := fun q => by rw [fa14 5 (by decide)]; exact r10 q
  have fr14 : ∀ x, x ∉ [5, 6, 7, 8, 9] → I14 x = I x := fun x hx => by simp at hx; rw [fa14 x (by omega)]; try exact fr10 x (by simp; omega)
  have hF15 := hF13.mono (b' := 10) (by decide)
  refine Wp.cpR rfl rfl hK14 hF15 (by decide) rfl rfl rfl rfl (fun F16 hF16 => ?_)
  refine Wp.go (x := (.aload_n 0, 1, 0, 0)) rfl 40 [some (.ref 5), some (.int (nI 1))] [.ref 5] rfl ⟨rfl, rfl, rfl, rfl⟩ ?_
  refine Wp.go (x := (.iload_n 1, 1, 0, 0)) rfl 41 [some (.ref 5), some (.int (nI 1))] [.int (nI 1), .ref 5] rfl ⟨rfl, rfl, rfl, rfl⟩ ?_
  refine Wp.z_ne rfl rfl ⟨fun c => ?_, fun c => absurd c (by decide)⟩
  refine Wp.go (x := (.iload_n 1, 1, 0, 0)) rfl 49 [some (.ref 5), some (.int (nI 1))] [.int (nI 1), .ref 5] rfl ⟨rfl, rfl, rfl, rfl⟩ ?_
  refine Wp.ic (v := nI 1) rfl rfl (by decide) ?_
  refine Wp.c_ne rfl rfl ⟨fun c => absurd c (by decide), fun c => ?_⟩
  refine Wp.ic (v := nI 4) rfl rfl (by decide) ?_
  refine Wp.go (x := (.goto 4, 3, 58, 0)) rfl 58 [some (.ref 5), some (.int (nI 1))] [.int (nI 4), .ref 5] rfl ⟨rfl, rfl, rfl, rfl⟩ ?_
  refine Wp.mpI rfl rfl hK14 (by decide) rfl rfl (Or.inl rfl) (fun I17 fa17 z17 => ?_)
  have r17 : ∀ q, I17 5 q = if q = 0 then nI 4 else 0 := fun q => by
    rw [z17 q]
    by_cases e : q = 0
    · rw [if_pos e, if_pos e]
    · rw [if_neg e, if_neg e]
      exact r14 q
  have fr17 : ∀ x, x ∉ [5, 6, 7, 8, 9] → I17 x = I x := fun x hx => by simp at hx; rw [fa17 x (by omega)]; try exact fr14 x (by simp; omega)
  refine Wp.go (x := (.aload_n 0, 1, 0, 0)) rfl 62 [some (.ref 5), some (.int (nI 1))] [.ref 5] rfl ⟨rfl, rfl, rfl, rfl⟩ ?_
  refine Wp.go (x := (.iload_n 1, 1, 0, 0)) rfl 63 [some (.ref 5), some (.int (nI 1))] [.int (nI 1), .ref 5] rfl ⟨rfl, rfl, rfl, rfl⟩ ?_
  refine Wp.z_ne rfl rfl ⟨fun c => ?_, fun c => absurd c (by decide)⟩
  refine Wp.go (x := (.iload_n 1, 1, 0, 0)) rfl 73 [some (.ref 5), some (.int (nI 1))] [.int (nI 1), .ref 5] rfl ⟨rfl, rfl, rfl, rfl⟩ ?_
  refine Wp.ic (v := nI 1) rfl rfl (by decide) ?_
  refine Wp.c_ne rfl rfl ⟨fun c => absurd c (by decide), fun c => ?_⟩
  refine Wp.sp (v := nI 300) rfl rfl (by decide) ?_
  refine Wp.go (x := (.goto 6, 3, 86, 0)) rfl 86 [some (.ref 5), some (.int (nI 1))] [.int (nI 300), .ref 5] rfl ⟨rfl, rfl, rfl, rfl⟩ ?_
  refine Wp.mpI rfl rfl hK14 (by decide) rfl rfl (Or.inl rfl) (fun I18 fa18 z18 => ?_)
  have r18 : ∀ q, I18 5 q = if q = 1 then nI 300 else if q = 0 then nI 4 else 0 := fun q => by
    rw [z18 q]
    by_cases e : q = 1
    · rw [if_pos e, if_pos e]
    · rw [if_neg e, if_neg e]
      exact r17 q
  have fr18 : ∀ x, x ∉ [5, 6, 7, 8, 9] → I18 x = I x := fun x hx => by simp at hx; rw [fa18 x (by omega)]; try exact fr17 x (by simp; omega)
  exact Wp.rV rfl rfl (k _ _ _ _ _ _ (by omega) (by omega) hK14 hF16 fr18 r18)
set_option maxRecDepth 20000 in
theorem ci_X2_init_20_1 {L d n1 n2 : Nat} {pl : List Nat} {D : List (Nat × Nat)} {K : Nat → Nat × Nat} {F : Nat → Nat → Option Nat} {I : Nat → Nat → Int32} {J : Nat → Nat → Int64} {Q : Option Value × xS → Prop} (hK : KP 1 L 21 K) (hF : FD 1 21 D F) (r0 : ∀ q, I 20 q = 0) (k : ∀ K' F' I' J' m1 m2, m1 = n1 + 0 → m2 = n2 + 0 → KP 1 L 21 K' → FD 1 21 ((20, 1) :: (20, 0) :: D) F' → (∀ x, x ∉ [20] → I' x = I x) → (∀ q, I' 20 q = 0) → Q (none, (K', (pl, m1, m2), I', J', F'))) : Wp (d + 1) 25 0 [some (.ref 20), some (.ref 5), some (.ref 10)] [] (K, (pl, n1, n2), I, J, F) Q := by
  have fr0 : ∀ x, x ∉ [20] → I x = I x := fun _ _ => rfl
  refine Wp.go (x := (.aload_n 0, 1, 0, 0)) rfl 1 [some (.ref 20), some (.ref 5), some (.ref 10)] [.ref 20] rfl ⟨rfl, rfl, rfl, rfl⟩ ?_
  refine Wp.obj rfl rfl rfl (by omega) (Nat.le_of_ble_eq_true rfl) ?_
  refine Wp.go (x := (.aload_n 0, 1, 0, 0)) rfl 5 [some (.ref 20), some (.ref 5), some (.ref 10)] [.ref 20] rfl ⟨rfl, rfl, rfl, rfl⟩ ?_
  refine Wp.go (x := (.aload_n 1, 1, 0, 0)) rfl 6 [some (.ref 20), some (.ref 5), some (.ref 10)] [.ref 5, .ref 20] rfl ⟨rfl, rfl, rfl, rfl⟩ ?_
  refine Wp.cpR rfl rfl hK hF (by decide) rfl rfl rfl rfl (fun F1 hF1 => ?_)
  refine Wp.go (x := (.aload_n 0, 1, 0, 0)) rfl 10 [some (.ref 20), some (.ref 5), some (.ref 10)] [.ref 20] rfl ⟨rfl, rfl, rfl, rfl⟩ ?_
  refine Wp.go (x := (.aload_n 2, 1, 0, 0)) rfl 11 [some (.ref 20), some (.ref 5), some (.ref 10)] [.ref 10, .ref 20] rfl ⟨rfl, rfl, rfl, rfl⟩ ?_
  refine Wp.cpR rfl rfl hK hF1 (by decide) rfl rfl rfl rfl (fun F2 hF2 => ?_)
  exact Wp.rV rfl rfl (k _ _ _ _ _ _ (by omega) (by omega) hK hF2 fr0 r0)
set_option maxRecDepth 20000 in
theorem ci_X8_init_33_1 {L d n1 n2 : Nat} {pl : List Nat} {D : List (Nat × Nat)} {K : Nat → Nat × Nat} {F : Nat → Nat → Option Nat} {I : Nat → Nat → Int32} {J : Nat → Nat → Int64} {Q : Option Value × xS → Prop} (hK : KP 1 L 34 K) (hF : FD 1 34 D F) (r0 : ∀ q, I 33 q = 0) (k : ∀ K' F' I' J' m1 m2, m1 = n1 + 0 → m2 = n2 + 0 → KP 1 L 34 K' → FD 1 34 ((33, 0) :: D) F' → (∀ x, x ∉ [33] → I' x = I x) → (∀ q, I' 33 q = if q = 1 then nI 0 else 0) → Q (none, (K', (pl, m1, m2), I', J', F'))) : Wp (d + 1) 61 0 [some (.ref 33), some (.ref 5), some (.int (nI 0))] [] (K, (pl, n1, n2), I, J, F) Q := by
  have fr0 : ∀ x, x ∉ [33] → I x = I x := fun _ _ => rfl
  refine Wp.go (x := (.aload_n 0, 1, 0, 0)) rfl 1 [some (.ref 33), some (.ref 5), some (.int (nI 0))] [.ref 33] rfl ⟨rfl, rfl, rfl, rfl⟩ ?_
  refine Wp.obj rfl rfl rfl (by omega) (Nat.le_of_ble_eq_true rfl) ?_
  refine Wp.go (x := (.aload_n 0, 1, 0, 0)) rfl 5 [some (.ref 33), some (.ref 5), some (.int (nI 0))] [.ref 33] rfl ⟨rfl, rfl, rfl, rfl⟩ ?_
  refine Wp.go (x := (.aload_n 1, 1, 0, 0)) rfl 6 [some (.ref 33), some (.ref 5), some (.int (nI 0))] [.ref 5, .ref 33] rfl ⟨rfl, rfl, rfl, rfl⟩ ?_
  refine Wp.cpR rfl rfl hK hF (by decide) rfl rfl rfl rfl (fun F1 hF1 => ?_)
  refine Wp.go (x := (.aload_n 0, 1, 0, 0)) rfl 10 [some (.ref 33), some (.ref 5), some (.int (nI 0))] [.ref 33] rfl ⟨rfl, rfl, rfl, rfl⟩ ?_
  refine Wp.go (x := (.iload_n 2, 1, 0, 0)) rfl 11 [some (.ref 33), some (.ref 5), some (.int (nI 0))] [.int (nI 0), .ref 33] rfl ⟨rfl, rfl, rfl, rfl⟩ ?_
  refine Wp.mpI rfl rfl hK (by decide) rfl rfl (Or.inr ⟨rfl, Or.inl rfl⟩) (fun I2 fa2 z2 => ?_)
  have r2 : ∀ q, I2 33 q = if q = 1 then nI 0 else 0 := fun q => by
    rw [z2 q]
    by_cases e : q = 1
    · rw [if_pos e, if_pos e]
    · rw [if_neg e, if_neg e]
      exact r0 q
  have fr2 : ∀ x, x ∉ [33] → I2 x = I x := fun x hx => by simp at hx; rw [fa2 x (by omega)]; try exact fr0 x (by simp; omega)
  exact Wp.rV rfl rfl (k _ _ _ _ _ _ (by omega) (by omega) hK hF1 fr2 r2)
set_option maxRecDepth 20000 in
theorem ci_X0_init_34_1 {L d n1 n2 : Nat} {pl : List Nat} {D : List (Nat × Nat)} {K : Nat → Nat × Nat} {F : Nat → Nat → Option Nat} {I : Nat → Nat → Int32} {J : Nat → Nat → Int64} {Q : Option Value × xS → Prop} (hK : KP 1 L 35 K) (hF : FD 1 35 D F) (r0 : ∀ q, I 34 q = 0) (k : ∀ K' F' I' J' m1 m2, m1 = n1 + 6 → m2 = n2 + 322 → KP 1 L 41 K' → FD 1 41 ((34, 0) :: (34, 8) :: (34, 7) :: (34, 6) :: (34, 5) :: (34, 3) :: (34, 1) :: D) F' → (∀ x, x ∉ [34, 35, 36, 38, 39, 40] → I' x = I x) → (∀ q, I' 34 q = 0) → Q (none, (K', (pl, m1, m2), I', J', F'))) : Wp (d + 1) 0 0 [some (.ref 34), some (.ref 5)] [] (K, (35 :: 36 :: 37 :: 38 :: 39 :: 40 :: pl, n1, n2), I, J, F) Q := by
  have fr0 : ∀ x, x ∉ [34] → I x = I x := fun _ _ => rfl
  refine Wp.go (x := (.aload_n 0, 1, 0, 0)) rfl 1 [some (.ref 34), some (.ref 5)] [.ref 34] rfl ⟨rfl, rfl, rfl, rfl⟩ ?_
  refine Wp.obj rfl rfl rfl (by omega) (Nat.le_of_ble_eq_true rfl) ?_
  refine Wp.go (x := (.aload_n 0, 1, 0, 0)) rfl 5 [some (.ref 34), some (.ref 5)] [.ref 34] rfl ⟨rfl, rfl, rfl, rfl⟩ ?_
  refine Wp.bp (v := nI 12) rfl rfl (by decide) ?_
  have hF1 := hF.mono (b' := 35) (by decide)
  refine Wp.mni (a := 35) rfl rfl hK rfl (by decide) (fun K2 I2 hK2 fa2 z2 => ?_)
  have r2 : ∀ q, I2 34 q = 0 := fun q => by rw [fa2 34 (by decide)]; exact r0 q
  have fr2 : ∀ x, x ∉ [34, 35] → I2 x = I x := fun x hx => by simp at hx; rw [fa2 x (by omega)]; try exact fr0 x (by simp; omega)
  have hF3 := hF1.mono (b' := 36) (by decide)
  refine Wp.cpR rfl rfl hK2 hF3 (by decide) rfl rfl rfl rfl (fun F4 hF4 => ?_)
  refine Wp.go (x := (.aload_n 0, 1, 0, 0)) rfl 13 [some (.ref 34), some (.ref 5)] [.ref 34] rfl ⟨rfl, rfl, rfl, rfl⟩ ?_
  refine Wp.bp (v := nI 12) rfl rfl (by decide) ?_
  have hF5 := hF4.mono (b' := 36) (by decide)
  refine Wp.mni (a := 36) rfl rfl hK2 rfl (by decide) (fun K6 I6 hK6 fa6 z6 => ?_)
  have r6 : ∀ q, I6 34 q = 0 := fun q => by rw [fa6 34 (by decide)]; exact r2 q
  have fr6 : ∀ x, x ∉ [34, 35, 36] → I6 x = I x := fun x hx => by simp at hx; rw [fa6 x (by omega)]; try exact fr2 x (by simp; omega)
  have hF7 := hF5.mono (b' := 37) (by decide)
  refine Wp.cpR rfl rfl hK6 hF7 (by decide) rfl rfl rfl rfl (fun F8 hF8 => ?_)
  refine Wp.go (x := (.aload_n 0, 1, 0, 0)) rfl 21 [some (.ref 34), some (.ref 5)] [.ref 34] rfl ⟨rfl, rfl, rfl, rfl⟩ ?_
  refine Wp.bp (v := nI 14) rfl rfl (by decide) ?_
  have hF9 := hF8.mono (b' := 37) (by decide)
  refine Wp.mnl (a := 37) rfl rfl hK6 rfl (by decide) (fun K10 J10 hK10 => ?_)
  have hF11 := hF9.mono (b' := 38) (by decide)
  refine Wp.cpR rfl rfl hK10 hF11 (by decide) rfl rfl rfl rfl (fun F12 hF12 => ?_)
  refine Wp.go (x := (.aload_n 0, 1, 0, 0)) rfl 29 [some (.ref 34), some (.ref 5)] [.ref 34] rfl ⟨rfl, rfl, rfl, rfl⟩ ?_
  refine Wp.bp (v := nI 14) rfl rfl (by decide) ?_
  have hF13 := hF12.mono (b' := 38) (by decide)
  refine Wp.mni (a := 38) rfl rfl hK10 rfl (by decide) (fun K14 I14 hK14 fa14 z14 => ?_)
  have r14 : ∀ q, I14 34 q = 0 := fun q => by rw [fa14 34 (by decide)]; exact r6 q
  have fr14 : ∀ x, x ∉ [34, 35, 36, 38] → I14 x = I x := fun x hx => by simp at hx; rw [fa14 x (by omega)]; try exact fr6 x (by simp; omega)
  have hF15 := hF13.mono (b' := 39) (by decide)
  refine Wp.cpR rfl rfl hK14 hF15 (by decide) rfl rfl rfl rfl (fun F16 hF16 => ?_)
  refine Wp.go (x := (.aload_n 0, 1, 0, 0)) rfl 37 [some (.ref 34), some (.ref 5)] [.ref 34] rfl ⟨rfl, rfl, rfl, rfl⟩ ?_
  refine Wp.bp (v := nI 14) rfl rfl (by decide) ?_
  have hF17 := hF16.mono (b' := 39) (by decide)
  refine Wp.mni (a := 39) rfl rfl hK14 rfl (by decide) (fun K18 I18 hK18 fa18 z18 => ?_)
  have r18 : ∀ q, I18 34 q = 0 := fun q => by rw [fa18 34 (by decide)]; exact r14 q
  have fr18 : ∀ x, x ∉ [34, 35, 36, 38, 39] → I18 x = I x := fun x hx => by simp at hx; rw [fa18 x (by omega)]; try exact fr14 x (by simp; omega)
  have hF19 := hF17.mono (b' := 40) (by decide)
  refine Wp.cpR rfl rfl hK18 hF19 (by decide) rfl rfl rfl rfl (fun F20 hF20 => ?_)
  refine Wp.go (x := (.aload_n 0, 1, 0, 0)) rfl 45 [some (.ref 34), some (.ref 5)] [.ref 34] rfl ⟨rfl, rfl, rfl, rfl⟩ ?_
  refine Wp.sp (v := nI 256) rfl rfl (by decide) ?_
  have hF21 := hF20.mono (b' := 40) (by decide)
  refine Wp.mni (a := 40) rfl rfl hK18 rfl (by decide) (fun K22 I22 hK22 fa22 z22 => ?_)
  have r22 : ∀ q, I22 34 q = 0 := fun q => by rw [fa22 34 (by decide)]; exact r18 q
  have fr22 : ∀ x, x ∉ [34, 35, 36, 38, 39, 40] → I22 x = I x := fun x hx => by simp at hx; rw [fa22 x (by omega)]; try exact fr18 x (by simp; omega)
  have hF23 := hF21.mono (b' := 41) (by decide)
  refine Wp.cpR rfl rfl hK22 hF23 (by decide) rfl rfl rfl rfl (fun F24 hF24 => ?_)
  refine Wp.go (x := (.aload_n 0, 1, 0, 0)) rfl 54 [some (.ref 34), some (.ref 5)] [.ref 34] rfl ⟨rfl, rfl, rfl, rfl⟩ ?_
  refine Wp.go (x := (.aload_n 1, 1, 0, 0)) rfl 55 [some (.ref 34), some (.ref 5)] [.ref 5, .ref 34] rfl ⟨rfl, rfl, rfl, rfl⟩ ?_
  refine Wp.cpR rfl rfl hK22 hF24 (by decide) rfl rfl rfl rfl (fun F25 hF25 => ?_)
  exact Wp.rV rfl rfl (k _ _ _ _ _ _ (by omega) (by omega) hK22 hF25 fr22 r22)
set_option maxRecDepth 20000 in
theorem ci_X6_init_41_1 {L d n1 n2 : Nat} {pl : List Nat} {D : List (Nat × Nat)} {K : Nat → Nat × Nat} {F : Nat → Nat → Option Nat} {I : Nat → Nat → Int32} {J : Nat → Nat → Int64} {Q : Option Value × xS → Prop} (hK : KP 1 L 42 K) (hF : FD 1 42 D F) (r0 : ∀ q, I 41 q = 0) (k : ∀ K' F' I' J' m1 m2, m1 = n1 + 5 → m2 = n2 + 1500 → KP 1 L 47 K' → FD 1 47 ((41, 4) :: (41, 3) :: (41, 2) :: (41, 1) :: (41, 0) :: D) F' → (∀ x, x ∉ [41, 42, 43, 44, 45, 46] → I' x = I x) → (∀ q, I' 41 q = 0) → Q (none, (K', (pl, m1, m2), I', J', F'))) : Wp (d + 1) 49 0 [some (.ref 41)] [] (K, (42 :: 43 :: 44 :: 45 :: 46 :: pl, n1, n2), I, J, F) Q := by
  have fr0 : ∀ x, x ∉ [41] → I x = I x := fun _ _ => rfl
  refine Wp.go (x := (.aload_n 0, 1, 0, 0)) rfl 1 [some (.ref 41)] [.ref 41] rfl ⟨rfl, rfl, rfl, rfl⟩ ?_
  refine Wp.obj rfl rfl rfl (by omega) (Nat.le_of_ble_eq_true rfl) ?_
  refine Wp.go (x := (.aload_n 0, 1, 0, 0)) rfl 5 [some (.ref 41)] [.ref 41] rfl ⟨rfl, rfl, rfl, rfl⟩ ?_
  refine Wp.sp (v := nI 300) rfl rfl (by decide) ?_
  have hF1 := hF.mono (b' := 42) (by decide)
  refine Wp.mni (a := 42) rfl rfl hK rfl (by decide) (fun K2 I2 hK2 fa2 z2 => ?_)
  have r2 : ∀ q, I2 41 q = 0 := fun q => by rw [fa2 41 (by decide)]; exact r0 q
  have fr2 : ∀ x, x ∉ [41, 42] → I2 x = I x := fun x hx => by simp at hx; rw [fa2 x (by omega)]; try exact fr0 x (by simp; omega)
  have hF3 := hF1.mono (b' := 43) (by decide)
  refine Wp.cpR rfl rfl hK2 hF3 (by decide) rfl rfl rfl rfl (fun F4 hF4 => ?_)
  refine Wp.go (x := (.aload_n 0, 1, 0, 0)) rfl 14 [some (.ref 41)] [.ref 41] rfl ⟨rfl, rfl, rfl, rfl⟩ ?_
  refine Wp.sp (v := nI 300) rfl rfl (by decide) ?_
  have hF5 := hF4.mono (b' := 43) (by decide)
  refine Wp.mni (a := 43) rfl rfl hK2 rfl (by decide) (fun K6 I6 hK6 fa6 z6 => ?_)
  have r6 : ∀ q, I6 41 q = 0 := fun q => by rw [fa6 41 (by decide)]; exact r2 q
  have fr6 : ∀ x, x ∉ [41, 42, 43] → I6 x = I x := fun x hx => by simp at hx; rw [fa6 x (by omega)]; try exact fr2 x (by simp; omega)
  have hF7 := hF5.mono (b' := 44) (by decide)
  refine Wp.cpR rfl rfl hK6 hF7 (by decide) rfl rfl rfl rfl (fun F8 hF8 => ?_)
  refine Wp.go (x := (.aload_n 0, 1, 0, 0)) rfl 23 [some (.ref 41)] [.ref 41] rfl ⟨rfl, rfl, rfl, rfl⟩ ?_
  refine Wp.sp (v := nI 300) rfl rfl (by decide) ?_
  have hF9 := hF8.mono (b' := 44) (by decide)
  refine Wp.mni (a := 44) rfl rfl hK6 rfl (by decide) (fun K10 I10 hK10 fa10 z10 => ?_)
  have r10 : ∀ q, I10 41 q = 0 := fun q => by rw [fa10 41 (by decide)]; exact r6 q
  have fr10 : ∀ x, x ∉ [41, 42, 43, 44] → I10 x = I x := fun x hx => by simp at hx; rw [fa10 x (by omega)]; try exact fr6 x (by simp; omega)
  have hF11 := hF9.mono (b' := 45) (by decide)
  refine Wp.cpR rfl rfl hK10 hF11 (by decide) rfl rfl rfl rfl (fun F12 hF12 => ?_)
  refine Wp.go (x := (.aload_n 0, 1, 0, 0)) rfl 32 [some (.ref 41)] [.ref 41] rfl ⟨rfl, rfl, rfl, rfl⟩ ?_
  refine Wp.sp (v := nI 300) rfl rfl (by decide) ?_
  have hF13 := hF12.mono (b' := 45) (by decide)
  refine Wp.mni (a := 45) rfl rfl hK10 rfl (by decide) (fun K14 I14 hK14 fa14 z14 => ?_)
  have r14 : ∀ q, I14 41 q = 0 := fun q => by rw [fa14 41 (by decide)]; exact r10 q
  have fr14 : ∀ x, x ∉ [41, 42, 43, 44, 45] → I14 x = I x := fun x hx => by simp at hx; rw [fa14 x (by omega)]; try exact fr10 x (by simp; omega)
  have hF15 := hF13.mono (b' := 46) (by decide)
  refine Wp.cpR rfl rfl hK14 hF15 (by decide) rfl rfl rfl rfl (fun F16 hF16 => ?_)
  refine Wp.go (x := (.aload_n 0, 1, 0, 0)) rfl 41 [some (.ref 41)] [.ref 41] rfl ⟨rfl, rfl, rfl, rfl⟩ ?_
  refine Wp.sp (v := nI 300) rfl rfl (by decide) ?_
  have hF17 := hF16.mono (b' := 46) (by decide)
  refine Wp.mni (a := 46) rfl rfl hK14 rfl (by decide) (fun K18 I18 hK18 fa18 z18 => ?_)
  have r18 : ∀ q, I18 41 q = 0 := fun q => by rw [fa18 41 (by decide)]; exact r14 q
  have fr18 : ∀ x, x ∉ [41, 42, 43, 44, 45, 46] → I18 x = I x := fun x hx => by simp at hx; rw [fa18 x (by omega)]; try exact fr14 x (by simp; omega)
  have hF19 := hF17.mono (b' := 47) (by decide)
  refine Wp.cpR rfl rfl hK18 hF19 (by decide) rfl rfl rfl rfl (fun F20 hF20 => ?_)
  exact Wp.rV rfl rfl (k _ _ _ _ _ _ (by omega) (by omega) hK18 hF20 fr18 r18)
set_option maxRecDepth 20000 in
theorem ci_X6_init_47_1 {L d n1 n2 : Nat} {pl : List Nat} {D : List (Nat × Nat)} {K : Nat → Nat × Nat} {F : Nat → Nat → Option Nat} {I : Nat → Nat → Int32} {J : Nat → Nat → Int64} {Q : Option Value × xS → Prop} (hK : KP 1 L 48 K) (hF : FD 1 48 D F) (r0 : ∀ q, I 47 q = 0) (k : ∀ K' F' I' J' m1 m2, m1 = n1 + 5 → m2 = n2 + 1500 → KP 1 L 53 K' → FD 1 53 ((47, 4) :: (47, 3) :: (47, 2) :: (47, 1) :: (47, 0) :: D) F' → (∀ x, x ∉ [47, 48, 49, 50, 51, 52] → I' x = I x) → (∀ q, I' 47 q = 0) → Q (none, (K', (pl, m1, m2), I', J', F'))) : Wp (d + 1) 49 0 [some (.ref 47)] [] (K, (48 :: 49 :: 50 :: 51 :: 52 :: pl, n1, n2), I, J, F) Q := by
  have fr0 : ∀ x, x ∉ [47] → I x = I x := fun _ _ => rfl
  refine Wp.go (x := (.aload_n 0, 1, 0, 0)) rfl 1 [some (.ref 47)] [.ref 47] rfl ⟨rfl, rfl, rfl, rfl⟩ ?_
  refine Wp.obj rfl rfl rfl (by omega) (Nat.le_of_ble_eq_true rfl) ?_
  refine Wp.go (x := (.aload_n 0, 1, 0, 0)) rfl 5 [some (.ref 47)] [.ref 47] rfl ⟨rfl, rfl, rfl, rfl⟩ ?_
  refine Wp.sp (v := nI 300) rfl rfl (by decide) ?_
  have hF1 := hF.mono (b' := 48) (by decide)
  refine Wp.mni (a := 48) rfl rfl hK rfl (by decide) (fun K2 I2 hK2 fa2 z2 => ?_)
  have r2 : ∀ q, I2 47 q = 0 := fun q => by rw [fa2 47 (by decide)]; exact r0 q
  have fr2 : ∀ x, x ∉ [47, 48] → I2 x = I x := fun x hx => by simp at hx; rw [fa2 x (by omega)]; try exact fr0 x (by simp; omega)
  have hF3 := hF1.mono (b' := 49) (by decide)
  refine Wp.cpR rfl rfl hK2 hF3 (by decide) rfl rfl rfl rfl (fun F4 hF4 => ?_)
  refine Wp.go (x := (.aload_n 0, 1, 0, 0)) rfl 14 [some (.ref 47)] [.ref 47] rfl ⟨rfl, rfl, rfl, rfl⟩ ?_
  refine Wp.sp (v := nI 300) rfl rfl (by decide) ?_
  have hF5 := hF4.mono (b' := 49) (by decide)
  refine Wp.mni (a := 49) rfl rfl hK2 rfl (by decide) (fun K6 I6 hK6 fa6 z6 => ?_)
  have r6 : ∀ q, I6 47 q = 0 := fun q => by rw [fa6 47 (by decide)]; exact r2 q
  have fr6 : ∀ x, x ∉ [47, 48, 49] → I6 x = I x := fun x hx => by simp at hx; rw [fa6 x (by omega)]; try exact fr2 x (by simp; omega)
  have hF7 := hF5.mono (b' := 50) (by decide)
  refine Wp.cpR rfl rfl hK6 hF7 (by decide) rfl rfl rfl rfl (fun F8 hF8 => ?_)
  refine Wp.go (x := (.aload_n 0, 1, 0, 0)) rfl 23 [some (.ref 47)] [.ref 47] rfl ⟨rfl, rfl, rfl, rfl⟩ ?_
  refine Wp.sp (v := nI 300) rfl rfl (by decide) ?_
  have hF9 := hF8.mono (b' := 50) (by decide)
  refine Wp.mni (a := 50) rfl rfl hK6 rfl (by decide) (fun K10 I10 hK10 fa10 z10 => ?_)
  have r10 : ∀ q, I10 47 q = 0 := fun q => by rw [fa10 47 (by decide)]; exact r6 q
  have fr10 : ∀ x, x ∉ [47, 48, 49, 50] → I10 x = I x := fun x hx => by simp at hx; rw [fa10 x (by omega)]; try exact fr6 x (by simp; omega)
  have hF11 := hF9.mono (b' := 51) (by decide)
  refine Wp.cpR rfl rfl hK10 hF11 (by decide) rfl rfl rfl rfl (fun F12 hF12 => ?_)
  refine Wp.go (x := (.aload_n 0, 1, 0, 0)) rfl 32 [some (.ref 47)] [.ref 47] rfl ⟨rfl, rfl, rfl, rfl⟩ ?_
  refine Wp.sp (v := nI 300) rfl rfl (by decide) ?_
  have hF13 := hF12.mono (b' := 51) (by decide)
  refine Wp.mni (a := 51) rfl rfl hK10 rfl (by decide) (fun K14 I14 hK14 fa14 z14 => ?_)
  have r14 : ∀ q, I14 47 q = 0 := fun q => by rw [fa14 47 (by decide)]; exact r10 q
  have fr14 : ∀ x, x ∉ [47, 48, 49, 50, 51] → I14 x = I x := fun x hx => by simp at hx; rw [fa14 x (by omega)]; try exact fr10 x (by simp; omega)
  have hF15 := hF13.mono (b' := 52) (by decide)
  refine Wp.cpR rfl rfl hK14 hF15 (by decide) rfl rfl rfl rfl (fun F16 hF16 => ?_)
  refine Wp.go (x := (.aload_n 0, 1, 0, 0)) rfl 41 [some (.ref 47)] [.ref 47] rfl ⟨rfl, rfl, rfl, rfl⟩ ?_
  refine Wp.sp (v := nI 300) rfl rfl (by decide) ?_
  have hF17 := hF16.mono (b' := 52) (by decide)
  refine Wp.mni (a := 52) rfl rfl hK14 rfl (by decide) (fun K18 I18 hK18 fa18 z18 => ?_)
  have r18 : ∀ q, I18 47 q = 0 := fun q => by rw [fa18 47 (by decide)]; exact r14 q
  have fr18 : ∀ x, x ∉ [47, 48, 49, 50, 51, 52] → I18 x = I x := fun x hx => by simp at hx; rw [fa18 x (by omega)]; try exact fr14 x (by simp; omega)
  have hF19 := hF17.mono (b' := 53) (by decide)
  refine Wp.cpR rfl rfl hK18 hF19 (by decide) rfl rfl rfl rfl (fun F20 hF20 => ?_)
  exact Wp.rV rfl rfl (k _ _ _ _ _ _ (by omega) (by omega) hK18 hF20 fr18 r18)
set_option maxRecDepth 20000 in
theorem ci_X9_init_5_2 {L d n1 n2 : Nat} {pl : List Nat} {D : List (Nat × Nat)} {K : Nat → Nat × Nat} {F : Nat → Nat → Option Nat} {I : Nat → Nat → Int32} {J : Nat → Nat → Int64} {Q : Option Value × xS → Prop} (hK : KP 2 L 6 K) (hF : FD 2 6 D F) (r0 : ∀ q, I 5 q = 0) (k : ∀ K' F' I' J' m1 m2, m1 = n1 + 4 → m2 = n2 + 45750 → KP 2 L 10 K' → FD 2 10 ((5, 6) :: (5, 5) :: (5, 4) :: (5, 2) :: D) F' → (∀ x, x ∉ [5, 6, 7, 8, 9] → I' x = I x) → (∀ q, I' 5 q = if q = 1 then nI 273 else if q = 0 then nI 2 else 0) → Q (none, (K', (pl, m1, m2), I', J', F'))) : Wp (d + 1) 65 0 [some (.ref 5), some (.int (nI 2))] [] (K, (6 :: 7 :: 8 :: 9 :: pl, n1, n2), I, J, F) Q := by
  have fr0 : ∀ x, x ∉ [5] → I x = I x := fun _ _ => rfl
  refine Wp.go (x := (.aload_n 0, 1, 0, 0)) rfl 1 [some (.ref 5), some (.int (nI 2))] [.ref 5] rfl ⟨rfl, rfl, rfl, rfl⟩ ?_
  refine Wp.obj rfl rfl rfl (by omega) (Nat.le_of_ble_eq_true rfl) ?_
  refine Wp.go (x := (.aload_n 0, 1, 0, 0)) rfl 5 [some (.ref 5), some (.int (nI 2))] [.ref 5] rfl ⟨rfl, rfl, rfl, rfl⟩ ?_
  refine Wp.sp (v := nI 300) rfl rfl (by decide) ?_
  have hF1 := hF.mono (b' := 6) (by decide)
  refine Wp.mni (a := 6) rfl rfl hK rfl (by decide) (fun K2 I2 hK2 fa2 z2 => ?_)
  have r2 : ∀ q, I2 5 q = 0 := fun q => by rw [fa2 5 (by decide)]; exact r0 q
  have fr2 : ∀ x, x ∉ [5, 6] → I2 x = I x := fun x hx => by simp at hx; rw [fa2 x (by omega)]; try exact fr0 x (by simp; omega)
  have hF3 := hF1.mono (b' := 7) (by decide)
  refine Wp.cpR rfl rfl hK2 hF3 (by decide) rfl rfl rfl rfl (fun F4 hF4 => ?_)
  refine Wp.go (x := (.aload_n 0, 1, 0, 0)) rfl 14 [some (.ref 5), some (.int (nI 2))] [.ref 5] rfl ⟨rfl, rfl, rfl, rfl⟩ ?_
  refine Wp.sp (v := nI 300) rfl rfl (by decide) ?_
  have hF5 := hF4.mono (b' := 7) (by decide)
  refine Wp.mni (a := 7) rfl rfl hK2 rfl (by decide) (fun K6 I6 hK6 fa6 z6 => ?_)
  have r6 : ∀ q, I6 5 q = 0 := fun q => by rw [fa6 5 (by decide)]; exact r2 q
  have fr6 : ∀ x, x ∉ [5, 6, 7] → I6 x = I x := fun x hx => by simp at hx; rw [fa6 x (by omega)]; try exact fr2 x (by simp; omega)
  have hF7 := hF5.mono (b' := 8) (by decide)
  refine Wp.cpR rfl rfl hK6 hF7 (by decide) rfl rfl rfl rfl (fun F8 hF8 => ?_)
  refine Wp.go (x := (.aload_n 0, 1, 0, 0)) rfl 23 [some (.ref 5), some (.int (nI 2))] [.ref 5] rfl ⟨rfl, rfl, rfl, rfl⟩ ?_
  refine Wp.ldc (v := nI 44850) rfl rfl (by first | rfl | decide) ?_
  have hF9 := hF8.mono (b' := 8) (by decide)
  refine Wp.mni (a := 8) rfl rfl hK6 rfl (by decide) (fun K10 I10 hK10 fa10 z10 => ?_)
  have r10 : ∀ q, I10 5 q = 0 := fun q => by rw [fa10 5 (by decide)]; exact r6 q
  have fr10 : ∀ x, x ∉ [5, 6, 7, 8] → I10 x = I x := fun x hx => by simp at hx; rw [fa10 x (by omega)]; try exact fr6 x (by simp; omega)
  have hF11 := hF9.mono (b' := 9) (by decide)
  refine Wp.cpR rfl rfl hK10 hF11 (by decide) rfl rfl rfl rfl (fun F12 hF12 => ?_)
  refine Wp.go (x := (.aload_n 0, 1, 0, 0)) rfl 31 [some (.ref 5), some (.int (nI 2))] [.ref 5] rfl ⟨rfl, rfl, rfl, rfl⟩ ?_
  refine Wp.sp (v := nI 300) rfl rfl (by decide) ?_
  have hF13 := hF12.mono (b' := 9) (by decide)
  refine Wp.mni (a := 9) rfl rfl hK10 rfl (by decide) (fun K14 I14 hK14 fa14 z14 => ?_)
  have r14 : ∀ q, I14 5 q = 0 := fun q => by rw [fa14 5 (by decide)]; exact r10 q
  have fr14 : ∀ x, x ∉ [5, 6, 7, 8, 9] → I14 x = I x := fun x hx => by simp at hx; rw [fa14 x (by omega)]; try exact fr10 x (by simp; omega)
  have hF15 := hF13.mono (b' := 10) (by decide)
  refine Wp.cpR rfl rfl hK14 hF15 (by decide) rfl rfl rfl rfl (fun F16 hF16 => ?_)
  refine Wp.go (x := (.aload_n 0, 1, 0, 0)) rfl 40 [some (.ref 5), some (.int (nI 2))] [.ref 5] rfl ⟨rfl, rfl, rfl, rfl⟩ ?_
  refine Wp.go (x := (.iload_n 1, 1, 0, 0)) rfl 41 [some (.ref 5), some (.int (nI 2))] [.int (nI 2), .ref 5] rfl ⟨rfl, rfl, rfl, rfl⟩ ?_
  refine Wp.z_ne rfl rfl ⟨fun c => ?_, fun c => absurd c (by decide)⟩
  refine Wp.go (x := (.iload_n 1, 1, 0, 0)) rfl 49 [some (.ref 5), some (.int (nI 2))] [.int (nI 2), .ref 5] rfl ⟨rfl, rfl, rfl, rfl⟩ ?_
  refine Wp.ic (v := nI 1) rfl rfl (by decide) ?_
  refine Wp.c_ne rfl rfl ⟨fun c => ?_, fun c => absurd c (by decide)⟩
  refine Wp.ic (v := nI 2) rfl rfl (by decide) ?_
  refine Wp.mpI rfl rfl hK14 (by decide) rfl rfl (Or.inl rfl) (fun I17 fa17 z17 => ?_)
  have r17 : ∀ q, I17 5 q = if q = 0 then nI 2 else 0 := fun q => by
    rw [z17 q]
    by_cases e : q = 0
    · rw [if_pos e, if_pos e]
    · rw [if_neg e, if_neg e]
      exact r14 q
  have fr17 : ∀ x, x ∉ [5, 6, 7, 8, 9] → I17 x = I x := fun x hx => by simp at hx; rw [fa17 x (by omega)]; try exact fr14 x (by simp; omega)
  refine Wp.go (x := (.aload_n 0, 1, 0, 0)) rfl 62 [some (.ref 5), some (.int (nI 2))] [.ref 5] rfl ⟨rfl, rfl, rfl, rfl⟩ ?_
  refine Wp.go (x := (.iload_n 1, 1, 0, 0)) rfl 63 [some (.ref 5), some (.int (nI 2))] [.int (nI 2), .ref 5] rfl ⟨rfl, rfl, rfl, rfl⟩ ?_
  refine Wp.z_ne rfl rfl ⟨fun c => ?_, fun c => absurd c (by decide)⟩
  refine Wp.go (x := (.iload_n 1, 1, 0, 0)) rfl 73 [some (.ref 5), some (.int (nI 2))] [.int (nI 2), .ref 5] rfl ⟨rfl, rfl, rfl, rfl⟩ ?_
  refine Wp.ic (v := nI 1) rfl rfl (by decide) ?_
  refine Wp.c_ne rfl rfl ⟨fun c => ?_, fun c => absurd c (by decide)⟩
  refine Wp.sp (v := nI 273) rfl rfl (by decide) ?_
  refine Wp.mpI rfl rfl hK14 (by decide) rfl rfl (Or.inl rfl) (fun I18 fa18 z18 => ?_)
  have r18 : ∀ q, I18 5 q = if q = 1 then nI 273 else if q = 0 then nI 2 else 0 := fun q => by
    rw [z18 q]
    by_cases e : q = 1
    · rw [if_pos e, if_pos e]
    · rw [if_neg e, if_neg e]
      exact r17 q
  have fr18 : ∀ x, x ∉ [5, 6, 7, 8, 9] → I18 x = I x := fun x hx => by simp at hx; rw [fa18 x (by omega)]; try exact fr17 x (by simp; omega)
  exact Wp.rV rfl rfl (k _ _ _ _ _ _ (by omega) (by omega) hK14 hF16 fr18 r18)
set_option maxRecDepth 20000 in
theorem ci_X2_init_20_2 {L d n1 n2 : Nat} {pl : List Nat} {D : List (Nat × Nat)} {K : Nat → Nat × Nat} {F : Nat → Nat → Option Nat} {I : Nat → Nat → Int32} {J : Nat → Nat → Int64} {Q : Option Value × xS → Prop} (hK : KP 2 L 21 K) (hF : FD 2 21 D F) (r0 : ∀ q, I 20 q = 0) (k : ∀ K' F' I' J' m1 m2, m1 = n1 + 0 → m2 = n2 + 0 → KP 2 L 21 K' → FD 2 21 ((20, 1) :: (20, 0) :: D) F' → (∀ x, x ∉ [20] → I' x = I x) → (∀ q, I' 20 q = 0) → Q (none, (K', (pl, m1, m2), I', J', F'))) : Wp (d + 1) 25 0 [some (.ref 20), some (.ref 5), some (.ref 10)] [] (K, (pl, n1, n2), I, J, F) Q := by
  have fr0 : ∀ x, x ∉ [20] → I x = I x := fun _ _ => rfl
  refine Wp.go (x := (.aload_n 0, 1, 0, 0)) rfl 1 [some (.ref 20), some (.ref 5), some (.ref 10)] [.ref 20] rfl ⟨rfl, rfl, rfl, rfl⟩ ?_
  refine Wp.obj rfl rfl rfl (by omega) (Nat.le_of_ble_eq_true rfl) ?_
  refine Wp.go (x := (.aload_n 0, 1, 0, 0)) rfl 5 [some (.ref 20), some (.ref 5), some (.ref 10)] [.ref 20] rfl ⟨rfl, rfl, rfl, rfl⟩ ?_
  refine Wp.go (x := (.aload_n 1, 1, 0, 0)) rfl 6 [some (.ref 20), some (.ref 5), some (.ref 10)] [.ref 5, .ref 20] rfl ⟨rfl, rfl, rfl, rfl⟩ ?_
  refine Wp.cpR rfl rfl hK hF (by decide) rfl rfl rfl rfl (fun F1 hF1 => ?_)
  refine Wp.go (x := (.aload_n 0, 1, 0, 0)) rfl 10 [some (.ref 20), some (.ref 5), some (.ref 10)] [.ref 20] rfl ⟨rfl, rfl, rfl, rfl⟩ ?_
  refine Wp.go (x := (.aload_n 2, 1, 0, 0)) rfl 11 [some (.ref 20), some (.ref 5), some (.ref 10)] [.ref 10, .ref 20] rfl ⟨rfl, rfl, rfl, rfl⟩ ?_
  refine Wp.cpR rfl rfl hK hF1 (by decide) rfl rfl rfl rfl (fun F2 hF2 => ?_)
  exact Wp.rV rfl rfl (k _ _ _ _ _ _ (by omega) (by omega) hK hF2 fr0 r0)
set_option maxRecDepth 20000 in
theorem ci_X8_init_33_2 {L d n1 n2 : Nat} {pl : List Nat} {D : List (Nat × Nat)} {K : Nat → Nat × Nat} {F : Nat → Nat → Option Nat} {I : Nat → Nat → Int32} {J : Nat → Nat → Int64} {Q : Option Value × xS → Prop} (hK : KP 2 L 34 K) (hF : FD 2 34 D F) (r0 : ∀ q, I 33 q = 0) (k : ∀ K' F' I' J' m1 m2, m1 = n1 + 0 → m2 = n2 + 0 → KP 2 L 34 K' → FD 2 34 ((33, 0) :: D) F' → (∀ x, x ∉ [33] → I' x = I x) → (∀ q, I' 33 q = if q = 1 then nI 1 else 0) → Q (none, (K', (pl, m1, m2), I', J', F'))) : Wp (d + 1) 61 0 [some (.ref 33), some (.ref 5), some (.int (nI 1))] [] (K, (pl, n1, n2), I, J, F) Q := by
  have fr0 : ∀ x, x ∉ [33] → I x = I x := fun _ _ => rfl
  refine Wp.go (x := (.aload_n 0, 1, 0, 0)) rfl 1 [some (.ref 33), some (.ref 5), some (.int (nI 1))] [.ref 33] rfl ⟨rfl, rfl, rfl, rfl⟩ ?_
  refine Wp.obj rfl rfl rfl (by omega) (Nat.le_of_ble_eq_true rfl) ?_
  refine Wp.go (x := (.aload_n 0, 1, 0, 0)) rfl 5 [some (.ref 33), some (.ref 5), some (.int (nI 1))] [.ref 33] rfl ⟨rfl, rfl, rfl, rfl⟩ ?_
  refine Wp.go (x := (.aload_n 1, 1, 0, 0)) rfl 6 [some (.ref 33), some (.ref 5), some (.int (nI 1))] [.ref 5, .ref 33] rfl ⟨rfl, rfl, rfl, rfl⟩ ?_
  refine Wp.cpR rfl rfl hK hF (by decide) rfl rfl rfl rfl (fun F1 hF1 => ?_)
  refine Wp.go (x := (.aload_n 0, 1, 0, 0)) rfl 10 [some (.ref 33), some (.ref 5), some (.int (nI 1))] [.ref 33] rfl ⟨rfl, rfl, rfl, rfl⟩ ?_
  refine Wp.go (x := (.iload_n 2, 1, 0, 0)) rfl 11 [some (.ref 33), some (.ref 5), some (.int (nI 1))] [.int (nI 1), .ref 33] rfl ⟨rfl, rfl, rfl, rfl⟩ ?_
  refine Wp.mpI rfl rfl hK (by decide) rfl rfl (Or.inr ⟨rfl, Or.inr rfl⟩) (fun I2 fa2 z2 => ?_)
  have r2 : ∀ q, I2 33 q = if q = 1 then nI 1 else 0 := fun q => by
    rw [z2 q]
    by_cases e : q = 1
    · rw [if_pos e, if_pos e]
    · rw [if_neg e, if_neg e]
      exact r0 q
  have fr2 : ∀ x, x ∉ [33] → I2 x = I x := fun x hx => by simp at hx; rw [fa2 x (by omega)]; try exact fr0 x (by simp; omega)
  exact Wp.rV rfl rfl (k _ _ _ _ _ _ (by omega) (by omega) hK hF1 fr2 r2)
set_option maxRecDepth 20000 in
theorem ci_X0_init_34_2 {L d n1 n2 : Nat} {pl : List Nat} {D : List (Nat × Nat)} {K : Nat → Nat × Nat} {F : Nat → Nat → Option Nat} {I : Nat → Nat → Int32} {J : Nat → Nat → Int64} {Q : Option Value × xS → Prop} (hK : KP 2 L 35 K) (hF : FD 2 35 D F) (r0 : ∀ q, I 34 q = 0) (k : ∀ K' F' I' J' m1 m2, m1 = n1 + 6 → m2 = n2 + 322 → KP 2 L 41 K' → FD 2 41 ((34, 0) :: (34, 8) :: (34, 7) :: (34, 6) :: (34, 5) :: (34, 3) :: (34, 1) :: D) F' → (∀ x, x ∉ [34, 35, 36, 38, 39, 40] → I' x = I x) → (∀ q, I' 34 q = 0) → Q (none, (K', (pl, m1, m2), I', J', F'))) : Wp (d + 1) 0 0 [some (.ref 34), some (.ref 5)] [] (K, (35 :: 36 :: 37 :: 38 :: 39 :: 40 :: pl, n1, n2), I, J, F) Q := by
  have fr0 : ∀ x, x ∉ [34] → I x = I x := fun _ _ => rfl
  refine Wp.go (x := (.aload_n 0, 1, 0, 0)) rfl 1 [some (.ref 34), some (.ref 5)] [.ref 34] rfl ⟨rfl, rfl, rfl, rfl⟩ ?_
  refine Wp.obj rfl rfl rfl (by omega) (Nat.le_of_ble_eq_true rfl) ?_
  refine Wp.go (x := (.aload_n 0, 1, 0, 0)) rfl 5 [some (.ref 34), some (.ref 5)] [.ref 34] rfl ⟨rfl, rfl, rfl, rfl⟩ ?_
  refine Wp.bp (v := nI 12) rfl rfl (by decide) ?_
  have hF1 := hF.mono (b' := 35) (by decide)
  refine Wp.mni (a := 35) rfl rfl hK rfl (by decide) (fun K2 I2 hK2 fa2 z2 => ?_)
  have r2 : ∀ q, I2 34 q = 0 := fun q => by rw [fa2 34 (by decide)]; exact r0 q
  have fr2 : ∀ x, x ∉ [34, 35] → I2 x = I x := fun x hx => by simp at hx; rw [fa2 x (by omega)]; try exact fr0 x (by simp; omega)
  have hF3 := hF1.mono (b' := 36) (by decide)
  refine Wp.cpR rfl rfl hK2 hF3 (by decide) rfl rfl rfl rfl (fun F4 hF4 => ?_)
  refine Wp.go (x := (.aload_n 0, 1, 0, 0)) rfl 13 [some (.ref 34), some (.ref 5)] [.ref 34] rfl ⟨rfl, rfl, rfl, rfl⟩ ?_
  refine Wp.bp (v := nI 12) rfl rfl (by decide) ?_
  have hF5 := hF4.mono (b' := 36) (by decide)
  refine Wp.mni (a := 36) rfl rfl hK2 rfl (by decide) (fun K6 I6 hK6 fa6 z6 => ?_)
  have r6 : ∀ q, I6 34 q = 0 := fun q => by rw [fa6 34 (by decide)]; exact r2 q
  have fr6 : ∀ x, x ∉ [34, 35, 36] → I6 x = I x := fun x hx => by simp at hx; rw [fa6 x (by omega)]; try exact fr2 x (by simp; omega)
  have hF7 := hF5.mono (b' := 37) (by decide)
  refine Wp.cpR rfl rfl hK6 hF7 (by decide) rfl rfl rfl rfl (fun F8 hF8 => ?_)
  refine Wp.go (x := (.aload_n 0, 1, 0, 0)) rfl 21 [some (.ref 34), some (.ref 5)] [.ref 34] rfl ⟨rfl, rfl, rfl, rfl⟩ ?_
  refine Wp.bp (v := nI 14) rfl rfl (by decide) ?_
  have hF9 := hF8.mono (b' := 37) (by decide)
  refine Wp.mnl (a := 37) rfl rfl hK6 rfl (by decide) (fun K10 J10 hK10 => ?_)
  have hF11 := hF9.mono (b' := 38) (by decide)
  refine Wp.cpR rfl rfl hK10 hF11 (by decide) rfl rfl rfl rfl (fun F12 hF12 => ?_)
  refine Wp.go (x := (.aload_n 0, 1, 0, 0)) rfl 29 [some (.ref 34), some (.ref 5)] [.ref 34] rfl ⟨rfl, rfl, rfl, rfl⟩ ?_
  refine Wp.bp (v := nI 14) rfl rfl (by decide) ?_
  have hF13 := hF12.mono (b' := 38) (by decide)
  refine Wp.mni (a := 38) rfl rfl hK10 rfl (by decide) (fun K14 I14 hK14 fa14 z14 => ?_)
  have r14 : ∀ q, I14 34 q = 0 := fun q => by rw [fa14 34 (by decide)]; exact r6 q
  have fr14 : ∀ x, x ∉ [34, 35, 36, 38] → I14 x = I x := fun x hx => by simp at hx; rw [fa14 x (by omega)]; try exact fr6 x (by simp; omega)
  have hF15 := hF13.mono (b' := 39) (by decide)
  refine Wp.cpR rfl rfl hK14 hF15 (by decide) rfl rfl rfl rfl (fun F16 hF16 => ?_)
  refine Wp.go (x := (.aload_n 0, 1, 0, 0)) rfl 37 [some (.ref 34), some (.ref 5)] [.ref 34] rfl ⟨rfl, rfl, rfl, rfl⟩ ?_
  refine Wp.bp (v := nI 14) rfl rfl (by decide) ?_
  have hF17 := hF16.mono (b' := 39) (by decide)
  refine Wp.mni (a := 39) rfl rfl hK14 rfl (by decide) (fun K18 I18 hK18 fa18 z18 => ?_)
  have r18 : ∀ q, I18 34 q = 0 := fun q => by rw [fa18 34 (by decide)]; exact r14 q
  have fr18 : ∀ x, x ∉ [34, 35, 36, 38, 39] → I18 x = I x := fun x hx => by simp at hx; rw [fa18 x (by omega)]; try exact fr14 x (by simp; omega)
  have hF19 := hF17.mono (b' := 40) (by decide)
  refine Wp.cpR rfl rfl hK18 hF19 (by decide) rfl rfl rfl rfl (fun F20 hF20 => ?_)
  refine Wp.go (x := (.aload_n 0, 1, 0, 0)) rfl 45 [some (.ref 34), some (.ref 5)] [.ref 34] rfl ⟨rfl, rfl, rfl, rfl⟩ ?_
  refine Wp.sp (v := nI 256) rfl rfl (by decide) ?_
  have hF21 := hF20.mono (b' := 40) (by decide)
  refine Wp.mni (a := 40) rfl rfl hK18 rfl (by decide) (fun K22 I22 hK22 fa22 z22 => ?_)
  have r22 : ∀ q, I22 34 q = 0 := fun q => by rw [fa22 34 (by decide)]; exact r18 q
  have fr22 : ∀ x, x ∉ [34, 35, 36, 38, 39, 40] → I22 x = I x := fun x hx => by simp at hx; rw [fa22 x (by omega)]; try exact fr18 x (by simp; omega)
  have hF23 := hF21.mono (b' := 41) (by decide)
  refine Wp.cpR rfl rfl hK22 hF23 (by decide) rfl rfl rfl rfl (fun F24 hF24 => ?_)
  refine Wp.go (x := (.aload_n 0, 1, 0, 0)) rfl 54 [some (.ref 34), some (.ref 5)] [.ref 34] rfl ⟨rfl, rfl, rfl, rfl⟩ ?_
  refine Wp.go (x := (.aload_n 1, 1, 0, 0)) rfl 55 [some (.ref 34), some (.ref 5)] [.ref 5, .ref 34] rfl ⟨rfl, rfl, rfl, rfl⟩ ?_
  refine Wp.cpR rfl rfl hK22 hF24 (by decide) rfl rfl rfl rfl (fun F25 hF25 => ?_)
  exact Wp.rV rfl rfl (k _ _ _ _ _ _ (by omega) (by omega) hK22 hF25 fr22 r22)
set_option maxRecDepth 20000 in
theorem ci_X6_init_41_2 {L d n1 n2 : Nat} {pl : List Nat} {D : List (Nat × Nat)} {K : Nat → Nat × Nat} {F : Nat → Nat → Option Nat} {I : Nat → Nat → Int32} {J : Nat → Nat → Int64} {Q : Option Value × xS → Prop} (hK : KP 2 L 42 K) (hF : FD 2 42 D F) (r0 : ∀ q, I 41 q = 0) (k : ∀ K' F' I' J' m1 m2, m1 = n1 + 5 → m2 = n2 + 1500 → KP 2 L 47 K' → FD 2 47 ((41, 4) :: (41, 3) :: (41, 2) :: (41, 1) :: (41, 0) :: D) F' → (∀ x, x ∉ [41, 42, 43, 44, 45, 46] → I' x = I x) → (∀ q, I' 41 q = 0) → Q (none, (K', (pl, m1, m2), I', J', F'))) : Wp (d + 1) 49 0 [some (.ref 41)] [] (K, (42 :: 43 :: 44 :: 45 :: 46 :: pl, n1, n2), I, J, F) Q := by
  have fr0 : ∀ x, x ∉ [41] → I x = I x := fun _ _ => rfl
  refine Wp.go (x := (.aload_n 0, 1, 0, 0)) rfl 1 [some (.ref 41)] [.ref 41] rfl ⟨rfl, rfl, rfl, rfl⟩ ?_
  refine Wp.obj rfl rfl rfl (by omega) (Nat.le_of_ble_eq_true rfl) ?_
  refine Wp.go (x := (.aload_n 0, 1, 0, 0)) rfl 5 [some (.ref 41)] [.ref 41] rfl ⟨rfl, rfl, rfl, rfl⟩ ?_
  refine Wp.sp (v := nI 300) rfl rfl (by decide) ?_
  have hF1 := hF.mono (b' := 42) (by decide)
  refine Wp.mni (a := 42) rfl rfl hK rfl (by decide) (fun K2 I2 hK2 fa2 z2 => ?_)
  have r2 : ∀ q, I2 41 q = 0 := fun q => by rw [fa2 41 (by decide)]; exact r0 q
  have fr2 : ∀ x, x ∉ [41, 42] → I2 x = I x := fun x hx => by simp at hx; rw [fa2 x (by omega)]; try exact fr0 x (by simp; omega)
  have hF3 := hF1.mono (b' := 43) (by decide)
  refine Wp.cpR rfl rfl hK2 hF3 (by decide) rfl rfl rfl rfl (fun F4 hF4 => ?_)
  refine Wp.go (x := (.aload_n 0, 1, 0, 0)) rfl 14 [some (.ref 41)] [.ref 41] rfl ⟨rfl, rfl, rfl, rfl⟩ ?_
  refine Wp.sp (v := nI 300) rfl rfl (by decide) ?_
  have hF5 := hF4.mono (b' := 43) (by decide)
  refine Wp.mni (a := 43) rfl rfl hK2 rfl (by decide) (fun K6 I6 hK6 fa6 z6 => ?_)
  have r6 : ∀ q, I6 41 q = 0 := fun q => by rw [fa6 41 (by decide)]; exact r2 q
  have fr6 : ∀ x, x ∉ [41, 42, 43] → I6 x = I x := fun x hx => by simp at hx; rw [fa6 x (by omega)]; try exact fr2 x (by simp; omega)
  have hF7 := hF5.mono (b' := 44) (by decide)
  refine Wp.cpR rfl rfl hK6 hF7 (by decide) rfl rfl rfl rfl (fun F8 hF8 => ?_)
  refine Wp.go (x := (.aload_n 0, 1, 0, 0)) rfl 23 [some (.ref 41)] [.ref 41] rfl ⟨rfl, rfl, rfl, rfl⟩ ?_
  refine Wp.sp (v := nI 300) rfl rfl (by decide) ?_
  have hF9 := hF8.mono (b' := 44) (by decide)
  refine Wp.mni (a := 44) rfl rfl hK6 rfl (by decide) (fun K10 I10 hK10 fa10 z10 => ?_)
  have r10 : ∀ q, I10 41 q = 0 := fun q => by rw [fa10 41 (by decide)]; exact r6 q
  have fr10 : ∀ x, x ∉ [41, 42, 43, 44] → I10 x = I x := fun x hx => by simp at hx; rw [fa10 x (by omega)]; try exact fr6 x (by simp; omega)
  have hF11 := hF9.mono (b' := 45) (by decide)
  refine Wp.cpR rfl rfl hK10 hF11 (by decide) rfl rfl rfl rfl (fun F12 hF12 => ?_)
  refine Wp.go (x := (.aload_n 0, 1, 0, 0)) rfl 32 [some (.ref 41)] [.ref 41] rfl ⟨rfl, rfl, rfl, rfl⟩ ?_
  refine Wp.sp (v := nI 300) rfl rfl (by decide) ?_
  have hF13 := hF12.mono (b' := 45) (by decide)
  refine Wp.mni (a := 45) rfl rfl hK10 rfl (by decide) (fun K14 I14 hK14 fa14 z14 => ?_)
  have r14 : ∀ q, I14 41 q = 0 := fun q => by rw [fa14 41 (by decide)]; exact r10 q
  have fr14 : ∀ x, x ∉ [41, 42, 43, 44, 45] → I14 x = I x := fun x hx => by simp at hx; rw [fa14 x (by omega)]; try exact fr10 x (by simp; omega)
  have hF15 := hF13.mono (b' := 46) (by decide)
  refine Wp.cpR rfl rfl hK14 hF15 (by decide) rfl rfl rfl rfl (fun F16 hF16 => ?_)
  refine Wp.go (x := (.aload_n 0, 1, 0, 0)) rfl 41 [some (.ref 41)] [.ref 41] rfl ⟨rfl, rfl, rfl, rfl⟩ ?_
  refine Wp.sp (v := nI 300) rfl rfl (by decide) ?_
  have hF17 := hF16.mono (b' := 46) (by decide)
  refine Wp.mni (a := 46) rfl rfl hK14 rfl (by decide) (fun K18 I18 hK18 fa18 z18 => ?_)
  have r18 : ∀ q, I18 41 q = 0 := fun q => by rw [fa18 41 (by decide)]; exact r14 q
  have fr18 : ∀ x, x ∉ [41, 42, 43, 44, 45, 46] → I18 x = I x := fun x hx => by simp at hx; rw [fa18 x (by omega)]; try exact fr14 x (by simp; omega)
  have hF19 := hF17.mono (b' := 47) (by decide)
  refine Wp.cpR rfl rfl hK18 hF19 (by decide) rfl rfl rfl rfl (fun F20 hF20 => ?_)
  exact Wp.rV rfl rfl (k _ _ _ _ _ _ (by omega) (by omega) hK18 hF20 fr18 r18)
set_option maxRecDepth 20000 in
theorem ci_X6_init_47_2 {L d n1 n2 : Nat} {pl : List Nat} {D : List (Nat × Nat)} {K : Nat → Nat × Nat} {F : Nat → Nat → Option Nat} {I : Nat → Nat → Int32} {J : Nat → Nat → Int64} {Q : Option Value × xS → Prop} (hK : KP 2 L 48 K) (hF : FD 2 48 D F) (r0 : ∀ q, I 47 q = 0) (k : ∀ K' F' I' J' m1 m2, m1 = n1 + 5 → m2 = n2 + 1500 → KP 2 L 53 K' → FD 2 53 ((47, 4) :: (47, 3) :: (47, 2) :: (47, 1) :: (47, 0) :: D) F' → (∀ x, x ∉ [47, 48, 49, 50, 51, 52] → I' x = I x) → (∀ q, I' 47 q = 0) → Q (none, (K', (pl, m1, m2), I', J', F'))) : Wp (d + 1) 49 0 [some (.ref 47)] [] (K, (48 :: 49 :: 50 :: 51 :: 52 :: pl, n1, n2), I, J, F) Q := by
  have fr0 : ∀ x, x ∉ [47] → I x = I x := fun _ _ => rfl
  refine Wp.go (x := (.aload_n 0, 1, 0, 0)) rfl 1 [some (.ref 47)] [.ref 47] rfl ⟨rfl, rfl, rfl, rfl⟩ ?_
  refine Wp.obj rfl rfl rfl (by omega) (Nat.le_of_ble_eq_true rfl) ?_
  refine Wp.go (x := (.aload_n 0, 1, 0, 0)) rfl 5 [some (.ref 47)] [.ref 47] rfl ⟨rfl, rfl, rfl, rfl⟩ ?_
  refine Wp.sp (v := nI 300) rfl rfl (by decide) ?_
  have hF1 := hF.mono (b' := 48) (by decide)
  refine Wp.mni (a := 48) rfl rfl hK rfl (by decide) (fun K2 I2 hK2 fa2 z2 => ?_)
  have r2 : ∀ q, I2 47 q = 0 := fun q => by rw [fa2 47 (by decide)]; exact r0 q
  have fr2 : ∀ x, x ∉ [47, 48] → I2 x = I x := fun x hx => by simp at hx; rw [fa2 x (by omega)]; try exact fr0 x (by simp; omega)
  have hF3 := hF1.mono (b' := 49) (by decide)
  refine Wp.cpR rfl rfl hK2 hF3 (by decide) rfl rfl rfl rfl (fun F4 hF4 => ?_)
  refine Wp.go (x := (.aload_n 0, 1, 0, 0)) rfl 14 [some (.ref 47)] [.ref 47] rfl ⟨rfl, rfl, rfl, rfl⟩ ?_
  refine Wp.sp (v := nI 300) rfl rfl (by decide) ?_
  have hF5 := hF4.mono (b' := 49) (by decide)
  refine Wp.mni (a := 49) rfl rfl hK2 rfl (by decide) (fun K6 I6 hK6 fa6 z6 => ?_)
  have r6 : ∀ q, I6 47 q = 0 := fun q => by rw [fa6 47 (by decide)]; exact r2 q
  have fr6 : ∀ x, x ∉ [47, 48, 49] → I6 x = I x := fun x hx => by simp at hx; rw [fa6 x (by omega)]; try exact fr2 x (by simp; omega)
  have hF7 := hF5.mono (b' := 50) (by decide)
  refine Wp.cpR rfl rfl hK6 hF7 (by decide) rfl rfl rfl rfl (fun F8 hF8 => ?_)
  refine Wp.go (x := (.aload_n 0, 1, 0, 0)) rfl 23 [some (.ref 47)] [.ref 47] rfl ⟨rfl, rfl, rfl, rfl⟩ ?_
  refine Wp.sp (v := nI 300) rfl rfl (by decide) ?_
  have hF9 := hF8.mono (b' := 50) (by decide)
  refine Wp.mni (a := 50) rfl rfl hK6 rfl (by decide) (fun K10 I10 hK10 fa10 z10 => ?_)
  have r10 : ∀ q, I10 47 q = 0 := fun q => by rw [fa10 47 (by decide)]; exact r6 q
  have fr10 : ∀ x, x ∉ [47, 48, 49, 50] → I10 x = I x := fun x hx => by simp at hx; rw [fa10 x (by omega)]; try exact fr6 x (by simp; omega)
  have hF11 := hF9.mono (b' := 51) (by decide)
  refine Wp.cpR rfl rfl hK10 hF11 (by decide) rfl rfl rfl rfl (fun F12 hF12 => ?_)
  refine Wp.go (x := (.aload_n 0, 1, 0, 0)) rfl 32 [some (.ref 47)] [.ref 47] rfl ⟨rfl, rfl, rfl, rfl⟩ ?_
  refine Wp.sp (v := nI 300) rfl rfl (by decide) ?_
  have hF13 := hF12.mono (b' := 51) (by decide)
  refine Wp.mni (a := 51) rfl rfl hK10 rfl (by decide) (fun K14 I14 hK14 fa14 z14 => ?_)
  have r14 : ∀ q, I14 47 q = 0 := fun q => by rw [fa14 47 (by decide)]; exact r10 q
  have fr14 : ∀ x, x ∉ [47, 48, 49, 50, 51] → I14 x = I x := fun x hx => by simp at hx; rw [fa14 x (by omega)]; try exact fr10 x (by simp; omega)
  have hF15 := hF13.mono (b' := 52) (by decide)
  refine Wp.cpR rfl rfl hK14 hF15 (by decide) rfl rfl rfl rfl (fun F16 hF16 => ?_)
  refine Wp.go (x := (.aload_n 0, 1, 0, 0)) rfl 41 [some (.ref 47)] [.ref 47] rfl ⟨rfl, rfl, rfl, rfl⟩ ?_
  refine Wp.sp (v := nI 300) rfl rfl (by decide) ?_
  have hF17 := hF16.mono (b' := 52) (by decide)
  refine Wp.mni (a := 52) rfl rfl hK14 rfl (by decide) (fun K18 I18 hK18 fa18 z18 => ?_)
  have r18 : ∀ q, I18 47 q = 0 := fun q => by rw [fa18 47 (by decide)]; exact r14 q
  have fr18 : ∀ x, x ∉ [47, 48, 49, 50, 51, 52] → I18 x = I x := fun x hx => by simp at hx; rw [fa18 x (by omega)]; try exact fr14 x (by simp; omega)
  have hF19 := hF17.mono (b' := 53) (by decide)
  refine Wp.cpR rfl rfl hK18 hF19 (by decide) rfl rfl rfl rfl (fun F20 hF20 => ?_)
  exact Wp.rV rfl rfl (k _ _ _ _ _ _ (by omega) (by omega) hK18 hF20 fr18 r18)
set_option maxRecDepth 20000 in
theorem ci_X7_init_20_0 {L d n1 n2 : Nat} {pl : List Nat} {D : List (Nat × Nat)} {K : Nat → Nat × Nat} {F : Nat → Nat → Option Nat} {I : Nat → Nat → Int32} {J : Nat → Nat → Int64} {Q : Option Value × xS → Prop} (hK : KP 0 L 21 K) (hF : FD 0 21 D F) (r0 : ∀ q, I 20 q = 0) (k : ∀ K' F' I' J' m1 m2, m1 = n1 + 2 → m2 = n2 + 602 → KP 0 L 23 K' → FD 0 23 ((20, 3) :: (20, 2) :: (20, 1) :: (20, 0) :: D) F' → (∀ x, x ∉ [20, 21, 22] → I' x = I x) → (∀ q, I' 20 q = 0) → Q (none, (K', (pl, m1, m2), I', J', F'))) : Wp (d + 2) 57 0 [some (.ref 20), some (.ref 5), some (.ref 10)] [] (K, (21 :: 22 :: pl, n1, n2), I, J, F) Q := by
  have fr0 : ∀ x, x ∉ [20] → I x = I x := fun _ _ => rfl
  refine Wp.go (x := (.aload_n 0, 1, 0, 0)) rfl 1 [some (.ref 20), some (.ref 5), some (.ref 10)] [.ref 20] rfl ⟨rfl, rfl, rfl, rfl⟩ ?_
  refine Wp.go (x := (.aload_n 1, 1, 0, 0)) rfl 2 [some (.ref 20), some (.ref 5), some (.ref 10)] [.ref 5, .ref 20] rfl ⟨rfl, rfl, rfl, rfl⟩ ?_
  refine Wp.go (x := (.aload_n 2, 1, 0, 0)) rfl 3 [some (.ref 20), some (.ref 5), some (.ref 10)] [.ref 10, .ref 5, .ref 20] rfl ⟨rfl, rfl, rfl, rfl⟩ ?_
  refine Wp.call (x := (.invokespecial 3, 3, 25, 3)) rfl 25 [.ref 20, .ref 5, .ref 10] [] rfl rfl ⟨Nat.le_of_ble_eq_true rfl, Nat.le_of_ble_eq_true rfl, Nat.le_of_ble_eq_true rfl⟩ rfl rfl rfl ?_
  have hF2 := hF.mono (b' := 21) (by decide)
  refine ci_X2_init_20_0 hK hF2 r0 (fun K1 F1 I1 J1 m1 l1 em1 el1 hK1 hF1 fa1 z1 => ?_)
  show Wp (d + 2) 57 6 [some (.ref 20), some (.ref 5), some (.ref 10)] [] _ Q
  have r1 := z1
  have fr1 : ∀ x, x ∉ [20] → I1 x = I x := fun x hx => by simp at hx; rw [fa1 x (by simp; omega)]; try exact fr0 x (by simp; omega)
  refine Wp.go (x := (.aload_n 0, 1, 0, 0)) rfl 7 [some (.ref 20), some (.ref 5), some (.ref 10)] [.ref 20] rfl ⟨rfl, rfl, rfl, rfl⟩ ?_
  refine Wp.sp (v := nI 301) rfl rfl (by decide) ?_
  have hF3 := hF1.mono (b' := 21) (by decide)
  refine Wp.mni (a := 21) rfl rfl hK1 rfl (by decide) (fun K4 I4 hK4 fa4 z4 => ?_)
  have r4 : ∀ q, I4 20 q = 0 := fun q => by rw [fa4 20 (by decide)]; exact r1 q
  have fr4 : ∀ x, x ∉ [20, 21] → I4 x = I x := fun x hx => by simp at hx; rw [fa4 x (by omega)]; try exact fr1 x (by simp; omega)
  have hF5 := hF3.mono (b' := 22) (by decide)
  refine Wp.cpR rfl rfl hK4 hF5 (by decide) rfl rfl rfl rfl (fun F6 hF6 => ?_)
  refine Wp.go (x := (.aload_n 0, 1, 0, 0)) rfl 16 [some (.ref 20), some (.ref 5), some (.ref 10)] [.ref 20] rfl ⟨rfl, rfl, rfl, rfl⟩ ?_
  refine Wp.sp (v := nI 301) rfl rfl (by decide) ?_
  have hF7 := hF6.mono (b' := 22) (by decide)
  refine Wp.mni (a := 22) rfl rfl hK4 rfl (by decide) (fun K8 I8 hK8 fa8 z8 => ?_)
  have r8 : ∀ q, I8 20 q = 0 := fun q => by rw [fa8 20 (by decide)]; exact r4 q
  have fr8 : ∀ x, x ∉ [20, 21, 22] → I8 x = I x := fun x hx => by simp at hx; rw [fa8 x (by omega)]; try exact fr4 x (by simp; omega)
  have hF9 := hF7.mono (b' := 23) (by decide)
  refine Wp.cpR rfl rfl hK8 hF9 (by decide) rfl rfl rfl rfl (fun F10 hF10 => ?_)
  exact Wp.rV rfl rfl (k _ _ _ _ _ _ (by omega) (by omega) hK8 hF10 fr8 r8)
set_option maxRecDepth 20000 in
theorem ci_X4_init_20_2 {L d n1 n2 : Nat} {pl : List Nat} {D : List (Nat × Nat)} {K : Nat → Nat × Nat} {F : Nat → Nat → Option Nat} {I : Nat → Nat → Int32} {J : Nat → Nat → Int64} {Q : Option Value × xS → Prop} (hK : KP 2 L 21 K) (hF : FD 2 21 D F) (r0 : ∀ q, I 20 q = 0) (k : ∀ K' F' I' J' m1 m2, m1 = n1 + 5 → m2 = n2 + 24982 → KP 2 L 33 K' → FD 2 33 ((20, 6) :: (20, 5) :: (20, 4) :: (20, 3) :: (20, 2) :: (20, 1) :: (20, 0) :: D) F' → (∀ x, x ∉ [20, 29, 30, 31] → I' x = I x) → (∀ q, I' 20 q = 0) → (∀ q, I' 29 q = 0) → Q (none, (K', (pl, m1, m2), I', J', F'))) : Wp (d + 2) 30 0 [some (.ref 20), some (.ref 5), some (.ref 10)] [] (K, (28 :: 29 :: 30 :: 31 :: 32 :: pl, n1, n2), I, J, F) Q := by
  have fr0 : ∀ x, x ∉ [20] → I x = I x := fun _ _ => rfl
  refine Wp.go (x := (.aload_n 0, 1, 0, 0)) rfl 1 [some (.ref 20), some (.ref 5), some (.ref 10)] [.ref 20] rfl ⟨rfl, rfl, rfl, rfl⟩ ?_
  refine Wp.go (x := (.aload_n 1, 1, 0, 0)) rfl 2 [some (.ref 20), some (.ref 5), some (.ref 10)] [.ref 5, .ref 20] rfl ⟨rfl, rfl, rfl, rfl⟩ ?_
  refine Wp.go (x := (.aload_n 2, 1, 0, 0)) rfl 3 [some (.ref 20), some (.ref 5), some (.ref 10)] [.ref 10, .ref 5, .ref 20] rfl ⟨rfl, rfl, rfl, rfl⟩ ?_
  refine Wp.call (x := (.invokespecial 3, 3, 25, 3)) rfl 25 [.ref 20, .ref 5, .ref 10] [] rfl rfl ⟨Nat.le_of_ble_eq_true rfl, Nat.le_of_ble_eq_true rfl, Nat.le_of_ble_eq_true rfl⟩ rfl rfl rfl ?_
  have hF2 := hF.mono (b' := 21) (by decide)
  refine ci_X2_init_20_2 hK hF2 r0 (fun K1 F1 I1 J1 m1 l1 em1 el1 hK1 hF1 fa1 z1 => ?_)
  show Wp (d + 2) 30 6 [some (.ref 20), some (.ref 5), some (.ref 10)] [] _ Q
  have r1 := z1
  have fr1 : ∀ x, x ∉ [20] → I1 x = I x := fun x hx => by simp at hx; rw [fa1 x (by simp; omega)]; try exact fr0 x (by simp; omega)
  refine Wp.go (x := (.aload_n 0, 1, 0, 0)) rfl 7 [some (.ref 20), some (.ref 5), some (.ref 10)] [.ref 20] rfl ⟨rfl, rfl, rfl, rfl⟩ ?_
  refine Wp.sp (v := nI 12040) rfl rfl (by decide) ?_
  have hK3 := hK1.skip rfl
  have hK4 := hK3.skip rfl
  have hK5 := hK4.skip rfl
  have hK6 := hK5.skip rfl
  have hK7 := hK6.skip rfl
  have hK8 := hK7.skip rfl
  have hK9 := hK8.skip rfl
  have hF10 := hF1.mono (b' := 28) (by decide)
  refine Wp.mnl (a := 28) rfl rfl hK9 rfl (by decide) (fun K11 J11 hK11 => ?_)
  have hF12 := hF10.mono (b' := 29) (by decide)
  refine Wp.cpR rfl rfl hK11 hF12 (by decide) rfl rfl rfl rfl (fun F13 hF13 => ?_)
  refine Wp.go (x := (.aload_n 0, 1, 0, 0)) rfl 16 [some (.ref 20), some (.ref 5), some (.ref 10)] [.ref 20] rfl ⟨rfl, rfl, rfl, rfl⟩ ?_
  refine Wp.sp (v := nI 12040) rfl rfl (by decide) ?_
  have hF14 := hF13.mono (b' := 29) (by decide)
  refine Wp.mni (a := 29) rfl rfl hK11 rfl (by decide) (fun K15 I15 hK15 fa15 z15 => ?_)
  have r15 : ∀ q, I15 20 q = 0 := fun q => by rw [fa15 20 (by decide)]; exact r1 q
  have fr15 : ∀ x, x ∉ [20, 29] → I15 x = I x := fun x hx => by simp at hx; rw [fa15 x (by omega)]; try exact fr1 x (by simp; omega)
  have hF16 := hF14.mono (b' := 30) (by decide)
  refine Wp.cpR rfl rfl hK15 hF16 (by decide) rfl rfl rfl rfl (fun F17 hF17 => ?_)
  refine Wp.go (x := (.aload_n 0, 1, 0, 0)) rfl 25 [some (.ref 20), some (.ref 5), some (.ref 10)] [.ref 20] rfl ⟨rfl, rfl, rfl, rfl⟩ ?_
  refine Wp.sp (v := nI 301) rfl rfl (by decide) ?_
  have hF18 := hF17.mono (b' := 30) (by decide)
  refine Wp.mni (a := 30) rfl rfl hK15 rfl (by decide) (fun K19 I19 hK19 fa19 z19 => ?_)
  have r19 : ∀ q, I19 20 q = 0 := fun q => by rw [fa19 20 (by decide)]; exact r15 q
  have fr19 : ∀ x, x ∉ [20, 29, 30] → I19 x = I x := fun x hx => by simp at hx; rw [fa19 x (by omega)]; try exact fr15 x (by simp; omega)
  have t19_29 : ∀ q, I19 29 q = 0 := fun q => by rw [fa19 29 (by decide)]; exact z15 q
  have hF20 := hF18.mono (b' := 31) (by decide)
  refine Wp.cpR rfl rfl hK19 hF20 (by decide) rfl rfl rfl rfl (fun F21 hF21 => ?_)
  refine Wp.go (x := (.aload_n 0, 1, 0, 0)) rfl 34 [some (.ref 20), some (.ref 5), some (.ref 10)] [.ref 20] rfl ⟨rfl, rfl, rfl, rfl⟩ ?_
  refine Wp.sp (v := nI 300) rfl rfl (by decide) ?_
  have hF22 := hF21.mono (b' := 31) (by decide)
  refine Wp.mnz (a := 31) rfl rfl hK19 rfl (by decide) (fun K23 I23 hK23 fa23 z23 => ?_)
  have r23 : ∀ q, I23 20 q = 0 := fun q => by rw [fa23 20 (by decide)]; exact r19 q
  have fr23 : ∀ x, x ∉ [20, 29, 30, 31] → I23 x = I x := fun x hx => by simp at hx; rw [fa23 x (by omega)]; try exact fr19 x (by simp; omega)
  have t23_29 : ∀ q, I23 29 q = 0 := fun q => by rw [fa23 29 (by decide)]; exact t19_29 q
  have hF24 := hF22.mono (b' := 32) (by decide)
  refine Wp.cpR rfl rfl hK23 hF24 (by decide) rfl rfl rfl rfl (fun F25 hF25 => ?_)
  refine Wp.go (x := (.aload_n 0, 1, 0, 0)) rfl 43 [some (.ref 20), some (.ref 5), some (.ref 10)] [.ref 20] rfl ⟨rfl, rfl, rfl, rfl⟩ ?_
  refine Wp.sp (v := nI 301) rfl rfl (by decide) ?_
  have hF26 := hF25.mono (b' := 32) (by decide)
  refine Wp.mnl (a := 32) rfl rfl hK23 rfl (by decide) (fun K27 J27 hK27 => ?_)
  have hF28 := hF26.mono (b' := 33) (by decide)
  refine Wp.cpR rfl rfl hK27 hF28 (by decide) rfl rfl rfl rfl (fun F29 hF29 => ?_)
  exact Wp.rV rfl rfl (k _ _ _ _ _ _ (by omega) (by omega) hK27 hF29 fr23 r23 t23_29)
