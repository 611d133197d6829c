set_option maxRecDepth 20000 in
theorem ci_X10_init_4_0 {L d n1 n2 : Nat} {pl : List Nat} {D : List (Nat × Nat)} {K : Nat → Nat × Nat} {F : Nat → Nat → Option Nat} {I : Nat → Nat → Int32} {J : Nat → Nat → Int64} {Q : Option Value × xS → Prop} (hL : L < 2147483648) {x : Int32} (hcl : (if nI 0 < (if nI 2 < x then nI 2 else x) then (if nI 2 < x then nI 2 else x) else nI 0) = nI 0) (hK : KP 0 L 5 K) (hF : FD 0 5 D F) (hS : ST I) (r0 : ∀ q, I 4 q = 0) (k : ∀ K' F' I' J' m1 m2, m1 = n1 + 38 → m2 = n2 + 52184 → KP 0 L 53 K' → FD 0 53 ((4, 8) :: (47, 4) :: (47, 3) :: (47, 2) :: (47, 1) :: (47, 0) :: (4, 7) :: (41, 4) :: (41, 3) :: (41, 2) :: (41, 1) :: (41, 0) :: (4, 6) :: (34, 0) :: (34, 8) :: (34, 7) :: (34, 6) :: (34, 5) :: (34, 3) :: (34, 1) :: (4, 5) :: (33, 0) :: (4, 4) :: (20, 3) :: (20, 2) :: (20, 1) :: (20, 0) :: (4, 3) :: (15, 4) :: (15, 3) :: (15, 2) :: (15, 1) :: (4, 2) :: (10, 4) :: (10, 3) :: (10, 2) :: (10, 1) :: (4, 1) :: (5, 6) :: (5, 5) :: (5, 4) :: (5, 2) :: D) F' → (∀ x, x ∉ [4, 5, 6, 7, 8, 9, 10, 11, 12, 13, 14, 15, 16, 17, 18, 19, 20, 21, 22, 33, 34, 35, 36, 38, 39, 40, 41, 42, 43, 44, 45, 46, 47, 48, 49, 50, 51, 52] → I' x = I x) → (∀ q, I' 4 q = if q = 10 then nI 8 else if q = 0 then nI 0 else 0) → (∀ q, I' 5 q = if q = 1 then nI 258 else if q = 0 then nI 3 else 0) → (∀ q, I' 10 q = if q = 0 then nI 3 else 0) → (CV I' 11 V0) → (∀ q, I' 33 q = if q = 1 then nI 0 else 0) → (∀ q, I' 34 q = 0) → Q (none, (K', (pl, m1, m2), I', J', F'))) : Wp (d + 4) 73 0 [some (.ref 4), some (.int x)] [] (K, (5 :: 6 :: 7 :: 8 :: 9 :: 10 :: 11 :: 12 :: 13 :: 14 :: 15 :: 16 :: 17 :: 18 :: 19 :: 20 :: 21 :: 22 :: 33 :: 34 :: 35 :: 36 :: 37 :: 38 :: 39 :: 40 :: 41 :: 42 :: 43 :: 44 :: 45 :: 46 :: 47 :: 48 :: 49 :: 50 :: 51 :: 52 :: pl, n1, n2), I, J, F) Q := by
  have fr0 : ∀ x, x ∉ [4] → I x = I x := fun _ _ => rfl
  refine Wp.go (x := (.aload_n 0, 1, 0, 0)) rfl 1 [some (.ref 4), some (.int x)] [.ref 4] rfl ⟨rfl, rfl, rfl, rfl⟩ ?_
  refine Wp.obj rfl rfl rfl (by omega) (Nat.le_of_ble_eq_true rfl) ?_
  refine Wp.go (x := (.aload_n 0, 1, 0, 0)) rfl 5 [some (.ref 4), some (.int x)] [.ref 4] rfl ⟨rfl, rfl, rfl, rfl⟩ ?_
  refine Wp.ic (v := nI 0) rfl rfl (by decide) ?_
  refine Wp.go (x := (.iload_n 1, 1, 0, 0)) rfl 7 [some (.ref 4), some (.int x)] [.int x, .int (nI 0), .ref 4] rfl ⟨rfl, rfl, rfl, rfl⟩ ?_
  refine Wp.ic (v := nI 2) rfl rfl (by decide) ?_
  refine Wp.min rfl rfl (by omega) (Nat.le_of_ble_eq_true rfl) ?_
  refine Wp.max rfl rfl (by omega) (Nat.le_of_ble_eq_true rfl) ?_
  rw [hcl]
  refine Wp.mpI rfl rfl hK (by decide) rfl rfl (Or.inl rfl) (fun I1 fa1 z1 => ?_)
  have r1 : ∀ q, I1 4 q = if q = 0 then nI 0 else 0 := fun q => by
    rw [z1 q]
    by_cases e : q = 0
    · rw [if_pos e, if_pos e]
    · rw [if_neg e, if_neg e]
      exact r0 q
  have fr1 : ∀ x, x ∉ [4] → I1 x = I x := fun x hx => by simp at hx; rw [fa1 x (by omega)]; try exact fr0 x (by simp; omega)
  refine Wp.go (x := (.aload_n 0, 1, 0, 0)) rfl 18 [some (.ref 4), some (.int x)] [.ref 4] rfl ⟨rfl, rfl, rfl, rfl⟩ ?_
  have hF2 := hF.mono (b' := 5) (by decide)
  refine Wp.mnw (a := 5) rfl rfl hK hF2 rfl (by decide) rfl rfl (fun K3 F3 I3 J3 hK3 hF3 fa3 z3 => ?_)
  have r3 : ∀ q, I3 4 q = if q = 0 then nI 0 else 0 := fun q => by rw [fa3 4 (by decide)]; exact r1 q
  have fr3 : ∀ x, x ∉ [4, 5] → I3 x = I x := fun x hx => by simp at hx; rw [fa3 x (by omega)]; try exact fr1 x (by simp; omega)
  refine Wp.go (x := (.dup, 1, 0, 0)) rfl 22 [some (.ref 4), some (.int x)] [.ref 5, .ref 5, .ref 4] rfl ⟨rfl, rfl, rfl, rfl⟩ ?_
  refine Wp.go (x := (.aload_n 0, 1, 0, 0)) rfl 23 [some (.ref 4), some (.int x)] [.ref 4, .ref 5, .ref 5, .ref 4] rfl ⟨rfl, rfl, rfl, rfl⟩ ?_
  refine Wp.gI rfl rfl (hK3.at (a := 4) (by decide) rfl) rfl ⟨by decide, by decide⟩ ?_
  rw [show I3 4 0 = nI 0 from r3 0]
  refine Wp.call (x := (.invokespecial 24, 3, 65, 2)) rfl 65 [.ref 5, .int (nI 0)] [.ref 5, .ref 4] rfl rfl ⟨Nat.le_of_ble_eq_true rfl, Nat.le_of_ble_eq_true rfl, Nat.le_of_ble_eq_true rfl⟩ rfl rfl rfl ?_
  have hF5 := hF3.mono (b' := 6) (by decide)
  refine ci_X9_init_5_0 hK3 hF5 z3 (fun K4 F4 I4 J4 m4 l4 em4 el4 hK4 hF4 fa4 z4 => ?_)
  show Wp (d + 4) 73 29 [some (.ref 4), some (.int x)] [.ref 5, .ref 4] _ Q
  have r4 : ∀ q, I4 4 q = if q = 0 then nI 0 else 0 := fun q => by rw [fa4 4 (by decide)]; exact r3 q
  have fr4 : ∀ x, x ∉ [4, 5, 6, 7, 8, 9] → I4 x = I x := fun x hx => by simp at hx; rw [fa4 x (by simp; omega)]; try exact fr3 x (by simp; omega)
  refine Wp.cpR rfl rfl hK4 hF4 (by decide) rfl rfl rfl rfl (fun F6 hF6 => ?_)
  refine Wp.go (x := (.aload_n 0, 1, 0, 0)) rfl 33 [some (.ref 4), some (.int x)] [.ref 4] rfl ⟨rfl, rfl, rfl, rfl⟩ ?_
  have hF7 := hF6.mono (b' := 10) (by decide)
  refine Wp.mnw (a := 10) rfl rfl hK4 hF7 rfl (by decide) rfl rfl (fun K8 F8 I8 J8 hK8 hF8 fa8 z8 => ?_)
  have r8 : ∀ q, I8 4 q = if q = 0 then nI 0 else 0 := fun q => by rw [fa8 4 (by decide)]; exact r4 q
  have fr8 : ∀ x, x ∉ [4, 5, 6, 7, 8, 9, 10] → I8 x = I x := fun x hx => by simp at hx; rw [fa8 x (by omega)]; try exact fr4 x (by simp; omega)
  have t8_5 : ∀ q, I8 5 q = if q = 1 then nI 258 else if q = 0 then nI 3 else 0 := fun q => by rw [fa8 5 (by decide)]; exact z4 q
  refine Wp.go (x := (.dup, 1, 0, 0)) rfl 37 [some (.ref 4), some (.int x)] [.ref 10, .ref 10, .ref 4] rfl ⟨rfl, rfl, rfl, rfl⟩ ?_
  refine Wp.go (x := (.aload_n 0, 1, 0, 0)) rfl 38 [some (.ref 4), some (.int x)] [.ref 4, .ref 10, .ref 10, .ref 4] rfl ⟨rfl, rfl, rfl, rfl⟩ ?_
  refine Wp.gI rfl rfl (hK8.at (a := 4) (by decide) rfl) rfl ⟨by decide, by decide⟩ ?_
  rw [show I8 4 0 = nI 0 from r8 0]
  refine Wp.call (x := (.invokespecial 33, 3, 7, 2)) rfl 7 [.ref 10, .int (nI 0)] [.ref 10, .ref 4] rfl rfl ⟨Nat.le_of_ble_eq_true rfl, Nat.le_of_ble_eq_true rfl, Nat.le_of_ble_eq_true rfl⟩ rfl rfl rfl ?_
  have hF10 := hF8.mono (b' := 11) (by decide)
  have hS9 : ST I8 := fun k' hk' => by rw [fr8 1 (by decide), fr8 2 (by decide), fr8 3 (by decide)]; exact hS k' hk'
  refine ci_X1_init_10_0 hL hK8 hF10 hS9 z8 (fun K9 F9 I9 J9 m9 l9 em9 el9 hK9 hF9 fa9 z9 y9 => ?_)
  show Wp (d + 4) 73 44 [some (.ref 4), some (.int x)] [.ref 10, .ref 4] _ Q
  have r9 : ∀ q, I9 4 q = if q = 0 then nI 0 else 0 := fun q => by rw [fa9 4 (by decide)]; exact r8 q
  have fr9 : ∀ x, x ∉ [4, 5, 6, 7, 8, 9, 10, 11, 12, 13, 14] → I9 x = I x := fun x hx => by simp at hx; rw [fa9 x (by simp; omega)]; try exact fr8 x (by simp; omega)
  have t9_5 : ∀ q, I9 5 q = if q = 1 then nI 258 else if q = 0 then nI 3 else 0 := fun q => by rw [fa9 5 (by decide)]; exact t8_5 q
  refine Wp.cpR rfl rfl hK9 hF9 (by decide) rfl rfl rfl rfl (fun F11 hF11 => ?_)
  refine Wp.go (x := (.aload_n 0, 1, 0, 0)) rfl 48 [some (.ref 4), some (.int x)] [.ref 4] rfl ⟨rfl, rfl, rfl, rfl⟩ ?_
  have hF12 := hF11.mono (b' := 15) (by decide)
  refine Wp.mnw (a := 15) rfl rfl hK9 hF12 rfl (by decide) rfl rfl (fun K13 F13 I13 J13 hK13 hF13 fa13 z13 => ?_)
  have r13 : ∀ q, I13 4 q = if q = 0 then nI 0 else 0 := fun q => by rw [fa13 4 (by decide)]; exact r9 q
  have fr13 : ∀ x, x ∉ [4, 5, 6, 7, 8, 9, 10, 11, 12, 13, 14, 15] → I13 x = I x := fun x hx => by simp at hx; rw [fa13 x (by omega)]; try exact fr9 x (by simp; omega)
  have t13_5 : ∀ q, I13 5 q = if q = 1 then nI 258 else if q = 0 then nI 3 else 0 := fun q => by rw [fa13 5 (by decide)]; exact t9_5 q
  have t13_10 : ∀ q, I13 10 q = if q = 0 then nI 3 else 0 := fun q => by rw [fa13 10 (by decide)]; exact z9 q
  have t13_1011 : CV I13 11 V0 := fun k' s' z1 z2 => by rw [fa13 11 (by decide)]; exact y9 k' s' z1 z2
  refine Wp.go (x := (.dup, 1, 0, 0)) rfl 52 [some (.ref 4), some (.int x)] [.ref 15, .ref 15, .ref 4] rfl ⟨rfl, rfl, rfl, rfl⟩ ?_
  refine Wp.go (x := (.aload_n 0, 1, 0, 0)) rfl 53 [some (.ref 4), some (.int x)] [.ref 4, .ref 15, .ref 15, .ref 4] rfl ⟨rfl, rfl, rfl, rfl⟩ ?_
  refine Wp.gI rfl rfl (hK13.at (a := 4) (by decide) rfl) rfl ⟨by decide, by decide⟩ ?_
  rw [show I13 4 0 = nI 0 from r13 0]
  refine Wp.call (x := (.invokespecial 33, 3, 7, 2)) rfl 7 [.ref 15, .int (nI 0)] [.ref 15, .ref 4] rfl rfl ⟨Nat.le_of_ble_eq_true rfl, Nat.le_of_ble_eq_true rfl, Nat.le_of_ble_eq_true rfl⟩ rfl rfl rfl ?_
  have hF15 := hF13.mono (b' := 16) (by decide)
  have hS14 : ST I13 := fun k' hk' => by rw [fr13 1 (by decide), fr13 2 (by decide), fr13 3 (by decide)]; exact hS k' hk'
  refine ci_X1_init_15_0 hL hK13 hF15 hS14 z13 (fun K14 F14 I14 J14 m14 l14 em14 el14 hK14 hF14 fa14 z14 y14 => ?_)
  show Wp (d + 4) 73 59 [some (.ref 4), some (.int x)] [.ref 15, .ref 4] _ Q
  have r14 : ∀ q, I14 4 q = if q = 0 then nI 0 else 0 := fun q => by rw [fa14 4 (by decide)]; exact r13 q
  have fr14 : ∀ x, x ∉ [4, 5, 6, 7, 8, 9, 10, 11, 12, 13, 14, 15, 16, 17, 18, 19] → I14 x = I x := fun x hx => by simp at hx; rw [fa14 x (by simp; omega)]; try exact fr13 x (by simp; omega)
  have t14_5 : ∀ q, I14 5 q = if q = 1 then nI 258 else if q = 0 then nI 3 else 0 := fun q => by rw [fa14 5 (by decide)]; exact t13_5 q
  have t14_10 : ∀ q, I14 10 q = if q = 0 then nI 3 else 0 := fun q => by rw [fa14 10 (by decide)]; exact t13_10 q
  have t14_1011 : CV I14 11 V0 := fun k' s' z1 z2 => by rw [fa14 11 (by decide)]; exact t13_1011 k' s' z1 z2
  refine Wp.cpR rfl rfl hK14 hF14 (by decide) rfl rfl rfl rfl (fun F16 hF16 => ?_)
  refine Wp.go (x := (.aload_n 0, 1, 0, 0)) rfl 63 [some (.ref 4), some (.int x)] [.ref 4] rfl ⟨rfl, rfl, rfl, rfl⟩ ?_
  refine Wp.gI rfl rfl (hK14.at (a := 4) (by decide) rfl) rfl ⟨by decide, by decide⟩ ?_
  rw [show I14 4 0 = nI 0 from r14 0]
  refine Wp.z_ne rfl rfl ⟨fun c => absurd c (by decide), fun c => ?_⟩
  refine Wp.go (x := (.aload_n 0, 1, 0, 0)) rfl 70 [some (.ref 4), some (.int x)] [.ref 4] rfl ⟨rfl, rfl, rfl, rfl⟩ ?_
  have hF17 := hF16.mono (b' := 20) (by decide)
  refine Wp.mnw (a := 20) rfl rfl hK14 hF17 rfl (by decide) rfl rfl (fun K18 F18 I18 J18 hK18 hF18 fa18 z18 => ?_)
  have r18 : ∀ q, I18 4 q = if q = 0 then nI 0 else 0 := fun q => by rw [fa18 4 (by decide)]; exact r14 q
  have fr18 : ∀ x, x ∉ [4, 5, 6, 7, 8, 9, 10, 11, 12, 13, 14, 15, 16, 17, 18, 19, 20] → I18 x = I x := fun x hx => by simp at hx; rw [fa18 x (by omega)]; try exact fr14 x (by simp; omega)
  have t18_5 : ∀ q, I18 5 q = if q = 1 then nI 258 else if q = 0 then nI 3 else 0 := fun q => by rw [fa18 5 (by decide)]; exact t14_5 q
  have t18_10 : ∀ q, I18 10 q = if q = 0 then nI 3 else 0 := fun q => by rw [fa18 10 (by decide)]; exact t14_10 q
  have t18_1011 : CV I18 11 V0 := fun k' s' z1 z2 => by rw [fa18 11 (by decide)]; exact t14_1011 k' s' z1 z2
  refine Wp.go (x := (.dup, 1, 0, 0)) rfl 74 [some (.ref 4), some (.int x)] [.ref 20, .ref 20, .ref 4] rfl ⟨rfl, rfl, rfl, rfl⟩ ?_
  refine Wp.go (x := (.aload_n 0, 1, 0, 0)) rfl 75 [some (.ref 4), some (.int x)] [.ref 4, .ref 20, .ref 20, .ref 4] rfl ⟨rfl, rfl, rfl, rfl⟩ ?_
  refine Wp.gR rfl rfl (hK18.at (a := 4) (by decide) rfl) rfl rfl (hF18.at (a := 4) (k := 1) (x := some 5) (by simp) rfl) ?_
  refine Wp.go (x := (.aload_n 0, 1, 0, 0)) rfl 79 [some (.ref 4), some (.int x)] [.ref 4, .ref 5, .ref 20, .ref 20, .ref 4] rfl ⟨rfl, rfl, rfl, rfl⟩ ?_
  refine Wp.gR rfl rfl (hK18.at (a := 4) (by decide) rfl) rfl rfl (hF18.at (a := 4) (k := 2) (x := some 10) (by simp) rfl) ?_
  refine Wp.call (x := (.invokespecial 43, 3, 57, 3)) rfl 57 [.ref 20, .ref 5, .ref 10] [.ref 20, .ref 4] rfl rfl ⟨Nat.le_of_ble_eq_true rfl, Nat.le_of_ble_eq_true rfl, Nat.le_of_ble_eq_true rfl⟩ rfl rfl rfl ?_
  have hF20 := hF18.mono (b' := 21) (by decide)
  refine ci_X7_init_20_0 hK18 hF20 z18 (fun K19 F19 I19 J19 m19 l19 em19 el19 hK19 hF19 fa19 z19 => ?_)
  show Wp (d + 4) 73 85 [some (.ref 4), some (.int x)] [.ref 20, .ref 4] _ Q
  have r19 : ∀ q, I19 4 q = if q = 0 then nI 0 else 0 := fun q => by rw [fa19 4 (by decide)]; exact r18 q
  have fr19 : ∀ x, x ∉ [4, 5, 6, 7, 8, 9, 10, 11, 12, 13, 14, 15, 16, 17, 18, 19, 20, 21, 22] → I19 x = I x := fun x hx => by simp at hx; rw [fa19 x (by simp; omega)]; try exact fr18 x (by simp; omega)
  have t19_5 : ∀ q, I19 5 q = if q = 1 then nI 258 else if q = 0 then nI 3 else 0 := fun q => by rw [fa19 5 (by decide)]; exact t18_5 q
  have t19_10 : ∀ q, I19 10 q = if q = 0 then nI 3 else 0 := fun q => by rw [fa19 10 (by decide)]; exact t18_10 q
  have t19_1011 : CV I19 11 V0 := fun k' s' z1 z2 => by rw [fa19 11 (by decide)]; exact t18_1011 k' s' z1 z2
  refine Wp.cpR rfl rfl hK19 hF19 (by decide) rfl rfl rfl rfl (fun F21 hF21 => ?_)
  refine Wp.go (x := (.goto 52, 3, 140, 0)) rfl 140 [some (.ref 4), some (.int x)] [] rfl ⟨rfl, rfl, rfl, rfl⟩ ?_
  refine Wp.go (x := (.aload_n 0, 1, 0, 0)) rfl 141 [some (.ref 4), some (.int x)] [.ref 4] rfl ⟨rfl, rfl, rfl, rfl⟩ ?_
  have hK22 := hK19.skip rfl
  have hK23 := hK22.skip rfl
  have hK24 := hK23.skip rfl
  have hK25 := hK24.skip rfl
  have hK26 := hK25.skip rfl
  have hK27 := hK26.skip rfl
  have hK28 := hK27.skip rfl
  have hK29 := hK28.skip rfl
  have hK30 := hK29.skip rfl
  have hK31 := hK30.skip rfl
  have hF32 := hF21.mono (b' := 33) (by decide)
  refine Wp.mnw (a := 33) rfl rfl hK31 hF32 rfl (by decide) rfl rfl (fun K33 F33 I33 J33 hK33 hF33 fa33 z33 => ?_)
  have r33 : ∀ q, I33 4 q = if q = 0 then nI 0 else 0 := fun q => by rw [fa33 4 (by decide)]; exact r19 q
  have fr33 : ∀ x, x ∉ [4, 5, 6, 7, 8, 9, 10, 11, 12, 13, 14, 15, 16, 17, 18, 19, 20, 21, 22, 33] → I33 x = I x := fun x hx => by simp at hx; rw [fa33 x (by omega)]; try exact fr19 x (by simp; omega)
  have t33_5 : ∀ q, I33 5 q = if q = 1 then nI 258 else if q = 0 then nI 3 else 0 := fun q => by rw [fa33 5 (by decide)]; exact t19_5 q
  have t33_10 : ∀ q, I33 10 q = if q = 0 then nI 3 else 0 := fun q => by rw [fa33 10 (by decide)]; exact t19_10 q
  have t33_1011 : CV I33 11 V0 := fun k' s' z1 z2 => by rw [fa33 11 (by decide)]; exact t19_1011 k' s' z1 z2
  refine Wp.go (x := (.dup, 1, 0, 0)) rfl 145 [some (.ref 4), some (.int x)] [.ref 33, .ref 33, .ref 4] rfl ⟨rfl, rfl, rfl, rfl⟩ ?_
  refine Wp.go (x := (.aload_n 0, 1, 0, 0)) rfl 146 [some (.ref 4), some (.int x)] [.ref 4, .ref 33, .ref 33, .ref 4] rfl ⟨rfl, rfl, rfl, rfl⟩ ?_
  refine Wp.gR rfl rfl (hK33.at (a := 4) (by decide) rfl) rfl rfl (hF33.at (a := 4) (k := 1) (x := some 5) (by simp) rfl) ?_
  refine Wp.go (x := (.aload_n 0, 1, 0, 0)) rfl 150 [some (.ref 4), some (.int x)] [.ref 4, .ref 5, .ref 33, .ref 33, .ref 4] rfl ⟨rfl, rfl, rfl, rfl⟩ ?_
  refine Wp.gI rfl rfl (hK33.at (a := 4) (by decide) rfl) rfl ⟨by decide, by decide⟩ ?_
  rw [show I33 4 0 = nI 0 from r33 0]
  refine Wp.ic (v := nI 2) rfl rfl (by decide) ?_
  refine Wp.c_ne rfl rfl ⟨fun c => ?_, fun c => absurd c (by decide)⟩
  refine Wp.ic (v := nI 0) rfl rfl (by decide) ?_
  refine Wp.call (x := (.invokespecial 58, 3, 61, 3)) rfl 61 [.ref 33, .ref 5, .int (nI 0)] [.ref 33, .ref 4] rfl rfl ⟨Nat.le_of_ble_eq_true rfl, Nat.le_of_ble_eq_true rfl, Nat.le_of_ble_eq_true rfl⟩ rfl rfl rfl ?_
  have hF35 := hF33.mono (b' := 34) (by decide)
  refine ci_X8_init_33_0 hK33 hF35 z33 (fun K34 F34 I34 J34 m34 l34 em34 el34 hK34 hF34 fa34 z34 => ?_)
  show Wp (d + 4) 73 165 [some (.ref 4), some (.int x)] [.ref 33, .ref 4] _ Q
  have r34 : ∀ q, I34 4 q = if q = 0 then nI 0 else 0 := fun q => by rw [fa34 4 (by decide)]; exact r33 q
  have fr34 : ∀ x, x ∉ [4, 5, 6, 7, 8, 9, 10, 11, 12, 13, 14, 15, 16, 17, 18, 19, 20, 21, 22, 33] → I34 x = I x := fun x hx => by simp at hx; rw [fa34 x (by simp; omega)]; try exact fr33 x (by simp; omega)
  have t34_5 : ∀ q, I34 5 q = if q = 1 then nI 258 else if q = 0 then nI 3 else 0 := fun q => by rw [fa34 5 (by decide)]; exact t33_5 q
  have t34_10 : ∀ q, I34 10 q = if q = 0 then nI 3 else 0 := fun q => by rw [fa34 10 (by decide)]; exact t33_10 q
  have t34_1011 : CV I34 11 V0 := fun k' s' z1 z2 => by rw [fa34 11 (by decide)]; exact t33_1011 k' s' z1 z2
  refine Wp.cpR rfl rfl hK34 hF34 (by decide) rfl rfl rfl rfl (fun F36 hF36 => ?_)
  refine Wp.go (x := (.aload_n 0, 1, 0, 0)) rfl 169 [some (.ref 4), some (.int x)] [.ref 4] rfl ⟨rfl, rfl, rfl, rfl⟩ ?_
  have hF37 := hF36.mono (b' := 34) (by decide)
  refine Wp.mnw (a := 34) rfl rfl hK34 hF37 rfl (by decide) rfl rfl (fun K38 F38 I38 J38 hK38 hF38 fa38 z38 => ?_)
  have r38 : ∀ q, I38 4 q = if q = 0 then nI 0 else 0 := fun q => by rw [fa38 4 (by decide)]; exact r34 q
  have fr38 : ∀ x, x ∉ [4, 5, 6, 7, 8, 9, 10, 11, 12, 13, 14, 15, 16, 17, 18, 19, 20, 21, 22, 33, 34] → I38 x = I x := fun x hx => by simp at hx; rw [fa38 x (by omega)]; try exact fr34 x (by simp; omega)
  have t38_5 : ∀ q, I38 5 q = if q = 1 then nI 258 else if q = 0 then nI 3 else 0 := fun q => by rw [fa38 5 (by decide)]; exact t34_5 q
  have t38_10 : ∀ q, I38 10 q = if q = 0 then nI 3 else 0 := fun q => by rw [fa38 10 (by decide)]; exact t34_10 q
  have t38_1011 : CV I38 11 V0 := fun k' s' z1 z2 => by rw [fa38 11 (by decide)]; exact t34_1011 k' s' z1 z2
  have t38_33 : ∀ q, I38 33 q = if q = 1 then nI 0 else 0 := fun q => by rw [fa38 33 (by decide)]; exact z34 q
  refine Wp.go (x := (.dup, 1, 0, 0)) rfl 173 [some (.ref 4), some (.int x)] [.ref 34, .ref 34, .ref 4] rfl ⟨rfl, rfl, rfl, rfl⟩ ?_
  refine Wp.go (x := (.aload_n 0, 1, 0, 0)) rfl 174 [some (.ref 4), some (.int x)] [.ref 4, .ref 34, .ref 34, .ref 4] rfl ⟨rfl, rfl, rfl, rfl⟩ ?_
  refine Wp.gR rfl rfl (hK38.at (a := 4) (by decide) rfl) rfl rfl (hF38.at (a := 4) (k := 1) (x := some 5) (by simp) rfl) ?_
  refine Wp.call (x := (.invokespecial 67, 3, 0, 2)) rfl 0 [.ref 34, .ref 5] [.ref 34, .ref 4] rfl rfl ⟨Nat.le_of_ble_eq_true rfl, Nat.le_of_ble_eq_true rfl, Nat.le_of_ble_eq_true rfl⟩ rfl rfl rfl ?_
  have hF40 := hF38.mono (b' := 35) (by decide)
  refine ci_X0_init_34_0 hK38 hF40 z38 (fun K39 F39 I39 J39 m39 l39 em39 el39 hK39 hF39 fa39 z39 => ?_)
  show Wp (d + 4) 73 180 [some (.ref 4), some (.int x)] [.ref 34, .ref 4] _ Q
  have r39 : ∀ q, I39 4 q = if q = 0 then nI 0 else 0 := fun q => by rw [fa39 4 (by decide)]; exact r38 q
  have fr39 : ∀ x, x ∉ [4, 5, 6, 7, 8, 9, 10, 11, 12, 13, 14, 15, 16, 17, 18, 19, 20, 21, 22, 33, 34, 35, 36, 38, 39, 40] → I39 x = I x := fun x hx => by simp at hx; rw [fa39 x (by simp; omega)]; try exact fr38 x (by simp; omega)
  have t39_5 : ∀ q, I39 5 q = if q = 1 then nI 258 else if q = 0 then nI 3 else 0 := fun q => by rw [fa39 5 (by decide)]; exact t38_5 q
  have t39_10 : ∀ q, I39 10 q = if q = 0 then nI 3 else 0 := fun q => by rw [fa39 10 (by decide)]; exact t38_10 q
  have t39_1011 : CV I39 11 V0 := fun k' s' z1 z2 => by rw [fa39 11 (by decide)]; exact t38_1011 k' s' z1 z2
  have t39_33 : ∀ q, I39 33 q = if q = 1 then nI 0 else 0 := fun q => by rw [fa39 33 (by decide)]; exact t38_33 q
  refine Wp.cpR rfl rfl hK39 hF39 (by decide) rfl rfl rfl rfl (fun F41 hF41 => ?_)
  refine Wp.go (x := (.aload_n 0, 1, 0, 0)) rfl 184 [some (.ref 4), some (.int x)] [.ref 4] rfl ⟨rfl, rfl, rfl, rfl⟩ ?_
  have hF42 := hF41.mono (b' := 41) (by decide)
  refine Wp.mnw (a := 41) rfl rfl hK39 hF42 rfl (by decide) rfl rfl (fun K43 F43 I43 J43 hK43 hF43 fa43 z43 => ?_)
  have r43 : ∀ q, I43 4 q = if q = 0 then nI 0 else 0 := fun q => by rw [fa43 4 (by decide)]; exact r39 q
  have fr43 : ∀ x, x ∉ [4, 5, 6, 7, 8, 9, 10, 11, 12, 13, 14, 15, 16, 17, 18, 19, 20, 21, 22, 33, 34, 35, 36, 38, 39, 40, 41] → I43 x = I x := fun x hx => by simp at hx; rw [fa43 x (by omega)]; try exact fr39 x (by simp; omega)
  have t43_5 : ∀ q, I43 5 q = if q = 1 then nI 258 else if q = 0 then nI 3 else 0 := fun q => by rw [fa43 5 (by decide)]; exact t39_5 q
  have t43_10 : ∀ q, I43 10 q = if q = 0 then nI 3 else 0 := fun q => by rw [fa43 10 (by decide)]; exact t39_10 q
  have t43_1011 : CV I43 11 V0 := fun k' s' z1 z2 => by rw [fa43 11 (by decide)]; exact t39_1011 k' s' z1 z2
  have t43_33 : ∀ q, I43 33 q = if q = 1 then nI 0 else 0 := fun q => by rw [fa43 33 (by decide)]; exact t39_33 q
  have t43_34 : ∀ q, I43 34 q = 0 := fun q => by rw [fa43 34 (by decide)]; exact z39 q
  refine Wp.go (x := (.dup, 1, 0, 0)) rfl 188 [some (.ref 4), some (.int x)] [.ref 41, .ref 41, .ref 4] rfl ⟨rfl, rfl, rfl, rfl⟩ ?_
  refine Wp.call (x := (.invokespecial 76, 3, 49, 1)) rfl 49 [.ref 41] [.ref 41, .ref 4] rfl rfl ⟨Nat.le_of_ble_eq_true rfl, Nat.le_of_ble_eq_true rfl, Nat.le_of_ble_eq_true rfl⟩ rfl rfl rfl ?_
  have hF45 := hF43.mono (b' := 42) (by decide)
  refine ci_X6_init_41_0 hK43 hF45 z43 (fun K44 F44 I44 J44 m44 l44 em44 el44 hK44 hF44 fa44 z44 => ?_)
  show Wp (d + 4) 73 191 [some (.ref 4), some (.int x)] [.ref 41, .ref 4] _ Q
  have r44 : ∀ q, I44 4 q = if q = 0 then nI 0 else 0 := fun q => by rw [fa44 4 (by decide)]; exact r43 q
  have fr44 : ∀ x, x ∉ [4, 5, 6, 7, 8, 9, 10, 11, 12, 13, 14, 15, 16, 17, 18, 19, 20, 21, 22, 33, 34, 35, 36, 38, 39, 40, 41, 42, 43, 44, 45, 46] → I44 x = I x := fun x hx => by simp at hx; rw [fa44 x (by simp; omega)]; try exact fr43 x (by simp; omega)
  have t44_5 : ∀ q, I44 5 q = if q = 1 then nI 258 else if q = 0 then nI 3 else 0 := fun q => by rw [fa44 5 (by decide)]; exact t43_5 q
  have t44_10 : ∀ q, I44 10 q = if q = 0 then nI 3 else 0 := fun q => by rw [fa44 10 (by decide)]; exact t43_10 q
  have t44_1011 : CV I44 11 V0 := fun k' s' z1 z2 => by rw [fa44 11 (by decide)]; exact t43_1011 k' s' z1 z2
  have t44_33 : ∀ q, I44 33 q = if q = 1 then nI 0 else 0 := fun q => by rw [fa44 33 (by decide)]; exact t43_33 q
  have t44_34 : ∀ q, I44 34 q = 0 := fun q => by rw [fa44 34 (by decide)]; exact t43_34 q
  refine Wp.cpR rfl rfl hK44 hF44 (by decide) rfl rfl rfl rfl (fun F46 hF46 => ?_)
  refine Wp.go (x := (.aload_n 0, 1, 0, 0)) rfl 195 [some (.ref 4), some (.int x)] [.ref 4] rfl ⟨rfl, rfl, rfl, rfl⟩ ?_
  have hF47 := hF46.mono (b' := 47) (by decide)
  refine Wp.mnw (a := 47) rfl rfl hK44 hF47 rfl (by decide) rfl rfl (fun K48 F48 I48 J48 hK48 hF48 fa48 z48 => ?_)
  have r48 : ∀ q, I48 4 q = if q = 0 then nI 0 else 0 := fun q => by rw [fa48 4 (by decide)]; exact r44 q
  have fr48 : ∀ x, x ∉ [4, 5, 6, 7, 8, 9, 10, 11, 12, 13, 14, 15, 16, 17, 18, 19, 20, 21, 22, 33, 34, 35, 36, 38, 39, 40, 41, 42, 43, 44, 45, 46, 47] → I48 x = I x := fun x hx => by simp at hx; rw [fa48 x (by omega)]; try exact fr44 x (by simp; omega)
  have t48_5 : ∀ q, I48 5 q = if q = 1 then nI 258 else if q = 0 then nI 3 else 0 := fun q => by rw [fa48 5 (by decide)]; exact t44_5 q
  have t48_10 : ∀ q, I48 10 q = if q = 0 then nI 3 else 0 := fun q => by rw [fa48 10 (by decide)]; exact t44_10 q
  have t48_1011 : CV I48 11 V0 := fun k' s' z1 z2 => by rw [fa48 11 (by decide)]; exact t44_1011 k' s' z1 z2
  have t48_33 : ∀ q, I48 33 q = if q = 1 then nI 0 else 0 := fun q => by rw [fa48 33 (by decide)]; exact t44_33 q
  have t48_34 : ∀ q, I48 34 q = 0 := fun q => by rw [fa48 34 (by decide)]; exact t44_34 q
  refine Wp.go (x := (.dup, 1, 0, 0)) rfl 199 [some (.ref 4), some (.int x)] [.ref 47, .ref 47, .ref 4] rfl ⟨rfl, rfl, rfl, rfl⟩ ?_
  refine Wp.call (x := (.invokespecial 76, 3, 49, 1)) rfl 49 [.ref 47] [.ref 47, .ref 4] rfl rfl ⟨Nat.le_of_ble_eq_true rfl, Nat.le_of_ble_eq_true rfl, Nat.le_of_ble_eq_true rfl⟩ rfl rfl rfl ?_
  have hF50 := hF48.mono (b' := 48) (by decide)
  refine ci_X6_init_47_0 hK48 hF50 z48 (fun K49 F49 I49 J49 m49 l49 em49 el49 hK49 hF49 fa49 z49 => ?_)
  show Wp (d + 4) 73 202 [some (.ref 4), some (.int x)] [.ref 47, .ref 4] _ Q
  have r49 : ∀ q, I49 4 q = if q = 0 then nI 0 else 0 := fun q => by rw [fa49 4 (by decide)]; exact r48 q
  have fr49 : ∀ x, x ∉ [4, 5, 6, 7, 8, 9, 10, 11, 12, 13, 14, 15, 16, 17, 18, 19, 20, 21, 22, 33, 34, 35, 36, 38, 39, 40, 41, 42, 43, 44, 45, 46, 47, 48, 49, 50, 51, 52] → I49 x = I x := fun x hx => by simp at hx; rw [fa49 x (by simp; omega)]; try exact fr48 x (by simp; omega)
  have t49_5 : ∀ q, I49 5 q = if q = 1 then nI 258 else if q = 0 then nI 3 else 0 := fun q => by rw [fa49 5 (by decide)]; exact t48_5 q
  have t49_10 : ∀ q, I49 10 q = if q = 0 then nI 3 else 0 := fun q => by rw [fa49 10 (by decide)]; exact t48_10 q
  have t49_1011 : CV I49 11 V0 := fun k' s' z1 z2 => by rw [fa49 11 (by decide)]; exact t48_1011 k' s' z1 z2
  have t49_33 : ∀ q, I49 33 q = if q = 1 then nI 0 else 0 := fun q => by rw [fa49 33 (by decide)]; exact t48_33 q
  have t49_34 : ∀ q, I49 34 q = 0 := fun q => by rw [fa49 34 (by decide)]; exact t48_34 q
  refine Wp.cpR rfl rfl hK49 hF49 (by decide) rfl rfl rfl rfl (fun F51 hF51 => ?_)
  refine Wp.go (x := (.aload_n 0, 1, 0, 0)) rfl 206 [some (.ref 4), some (.int x)] [.ref 4] rfl ⟨rfl, rfl, rfl, rfl⟩ ?_
  refine Wp.bp (v := nI 8) rfl rfl (by decide) ?_
  refine Wp.mpI rfl rfl hK49 (by decide) rfl rfl (Or.inl rfl) (fun I52 fa52 z52 => ?_)
  have r52 : ∀ q, I52 4 q = if q = 10 then nI 8 else if q = 0 then nI 0 else 0 := fun q => by
    rw [z52 q]
    by_cases e : q = 10
    · rw [if_pos e, if_pos e]
    · rw [if_neg e, if_neg e]
      exact r49 q
  have fr52 : ∀ x, x ∉ [4, 5, 6, 7, 8, 9, 10, 11, 12, 13, 14, 15, 16, 17, 18, 19, 20, 21, 22, 33, 34, 35, 36, 38, 39, 40, 41, 42, 43, 44, 45, 46, 47, 48, 49, 50, 51, 52] → I52 x = I x := fun x hx => by simp at hx; rw [fa52 x (by omega)]; try exact fr49 x (by simp; omega)
  have t52_5 : ∀ q, I52 5 q = if q = 1 then nI 258 else if q = 0 then nI 3 else 0 := fun q => by rw [fa52 5 (by decide)]; exact t49_5 q
  have t52_10 : ∀ q, I52 10 q = if q = 0 then nI 3 else 0 := fun q => by rw [fa52 10 (by decide)]; exact t49_10 q
  have t52_1011 : CV I52 11 V0 := fun k' s' z1 z2 => by rw [fa52 11 (by decide)]; exact t49_1011 k' s' z1 z2
  have t52_33 : ∀ q, I52 33 q = if q = 1 then nI 0 else 0 := fun q => by rw [fa52 33 (by decide)]; exact t49_33 q
  have t52_34 : ∀ q, I52 34 q = 0 := fun q => by rw [fa52 34 (by decide)]; exact t49_34 q
  exact Wp.rV rfl rfl (k _ _ _ _ _ _ (by omega) (by omega) hK49 hF51 fr52 r52 t52_5 t52_10 t52_1011 t52_33 t52_34)
set_option maxRecDepth 20000 in
theorem ci_X10_init_4_1 {L d n1 n2 : Nat} {pl : List Nat} {D : List (Nat × Nat)} {K : Nat → Nat × Nat} {F : Nat → Nat → Option Nat} {I : Nat → Nat → Int32} {J : Nat → Nat → Int64} {Q : Option Value × xS → Prop} (hL : L < 2147483648) {x : Int32} (hcl : (if nI 0 < (if nI 2 < x then nI 2 else x) then (if nI 2 < x then nI 2 else x) else nI 0) = nI 1) (hK : KP 1 L 5 K) (hF : FD 1 5 D F) (hS : ST I) (r0 : ∀ q, I 4 q = 0) (k : ∀ K' F' I' J' m1 m2, m1 = n1 + 41 → m2 = n2 + 53090 → KP 1 L 53 K' → FD 1 53 ((4, 8) :: (47, 4) :: (47, 3) :: (47, 2) :: (47, 1) :: (47, 0) :: (4, 7) :: (41, 4) :: (41, 3) :: (41, 2) :: (41, 1) :: (41, 0) :: (4, 6) :: (34, 0) :: (34, 8) :: (34, 7) :: (34, 6) :: (34, 5) :: (34, 3) :: (34, 1) :: (4, 5) :: (33, 0) :: (4, 4) :: (20, 6) :: (20, 5) :: (20, 4) :: (20, 3) :: (20, 2) :: (20, 1) :: (20, 0) :: (4, 3) :: (15, 4) :: (15, 3) :: (15, 2) :: (15, 1) :: (4, 2) :: (10, 4) :: (10, 3) :: (10, 2) :: (10, 1) :: (4, 1) :: (5, 6) :: (5, 5) :: (5, 4) :: (5, 2) :: D) F' → (∀ x, x ∉ [4, 5, 6, 7, 8, 9, 10, 11, 12, 13, 14, 15, 16, 17, 18, 19, 20, 23, 24, 25, 26, 27, 33, 34, 35, 36, 38, 39, 40, 41, 42, 43, 44, 45, 46, 47, 48, 49, 50, 51, 52] → I' x = I x) → (∀ q, I' 4 q = if q = 10 then nI 8 else if q = 0 then nI 1 else 0) → (∀ q, I' 5 q = if q = 1 then nI 300 else if q = 0 then nI 4 else 0) → (∀ q, I' 10 q = if q = 0 then nI 0 else 0) → (CV I' 11 V0) → (LC I') → (∀ q, I' 33 q = if q = 1 then nI 0 else 0) → (∀ q, I' 34 q = 0) → Q (none, (K', (pl, m1, m2), I', J', F'))) : Wp (d + 4) 73 0 [some (.ref 4), some (.int x)] [] (K, (5 :: 6 :: 7 :: 8 :: 9 :: 10 :: 11 :: 12 :: 13 :: 14 :: 15 :: 16 :: 17 :: 18 :: 19 :: 20 :: 23 :: 24 :: 25 :: 26 :: 27 :: 33 :: 34 :: 35 :: 36 :: 37 :: 38 :: 39 :: 40 :: 41 :: 42 :: 43 :: 44 :: 45 :: 46 :: 47 :: 48 :: 49 :: 50 :: 51 :: 52 :: pl, n1, n2), I, J, F) Q := by
  have fr0 : ∀ x, x ∉ [4] → I x = I x := fun _ _ => rfl
  refine Wp.go (x := (.aload_n 0, 1, 0, 0)) rfl 1 [some (.ref 4), some (.int x)] [.ref 4] rfl ⟨rfl, rfl, rfl, rfl⟩ ?_
  refine Wp.obj rfl rfl rfl (by omega) (Nat.le_of_ble_eq_true rfl) ?_
  refine Wp.go (x := (.aload_n 0, 1, 0, 0)) rfl 5 [some (.ref 4), some (.int x)] [.ref 4] rfl ⟨rfl, rfl, rfl, rfl⟩ ?_
  refine Wp.ic (v := nI 0) rfl rfl (by decide) ?_
  refine Wp.go (x := (.iload_n 1, 1, 0, 0)) rfl 7 [some (.ref 4), some (.int x)] [.int x, .int (nI 0), .ref 4] rfl ⟨rfl, rfl, rfl, rfl⟩ ?_
  refine Wp.ic (v := nI 2) rfl rfl (by decide) ?_
  refine Wp.min rfl rfl (by omega) (Nat.le_of_ble_eq_true rfl) ?_
  refine Wp.max rfl rfl (by omega) (Nat.le_of_ble_eq_true rfl) ?_
  rw [hcl]
  refine Wp.mpI rfl rfl hK (by decide) rfl rfl (Or.inl rfl) (fun I1 fa1 z1 => ?_)
  have r1 : ∀ q, I1 4 q = if q = 0 then nI 1 else 0 := fun q => by
    rw [z1 q]
    by_cases e : q = 0
    · rw [if_pos e, if_pos e]
    · rw [if_neg e, if_neg e]
      exact r0 q
  have fr1 : ∀ x, x ∉ [4] → I1 x = I x := fun x hx => by simp at hx; rw [fa1 x (by omega)]; try exact fr0 x (by simp; omega)
  refine Wp.go (x := (.aload_n 0, 1, 0, 0)) rfl 18 [some (.ref 4), some (.int x)] [.ref 4] rfl ⟨rfl, rfl, rfl, rfl⟩ ?_
  have hF2 := hF.mono (b' := 5) (by decide)
  refine Wp.mnw (a := 5) rfl rfl hK hF2 rfl (by decide) rfl rfl (fun K3 F3 I3 J3 hK3 hF3 fa3 z3 => ?_)
  have r3 : ∀ q, I3 4 q = if q = 0 then nI 1 else 0 := fun q => by rw [fa3 4 (by decide)]; exact r1 q
  have fr3 : ∀ x, x ∉ [4, 5] → I3 x = I x := fun x hx => by simp at hx; rw [fa3 x (by omega)]; try exact fr1 x (by simp; omega)
  refine Wp.go (x := (.dup, 1, 0, 0)) rfl 22 [some (.ref 4), some (.int x)] [.ref 5, .ref 5, .ref 4] rfl ⟨rfl, rfl, rfl, rfl⟩ ?_
  refine Wp.go (x := (.aload_n 0, 1, 0, 0)) rfl 23 [some (.ref 4), some (.int x)] [.ref 4, .ref 5, .ref 5, .ref 4] rfl ⟨rfl, rfl, rfl, rfl⟩ ?_
  refine Wp.gI rfl rfl (hK3.at (a := 4) (by decide) rfl) rfl ⟨by decide, by decide⟩ ?_
  rw [show I3 4 0 = nI 1 from r3 0]
  refine Wp.call (x := (.invokespecial 24, 3, 65, 2)) rfl 65 [.ref 5, .int (nI 1)] [.ref 5, .ref 4] rfl rfl ⟨Nat.le_of_ble_eq_true rfl, Nat.le_of_ble_eq_true rfl, Nat.le_of_ble_eq_true rfl⟩ rfl rfl rfl ?_
  have hF5 := hF3.mono (b' := 6) (by decide)
  refine ci_X9_init_5_1 hK3 hF5 z3 (fun K4 F4 I4 J4 m4 l4 em4 el4 hK4 hF4 fa4 z4 => ?_)
  show Wp (d + 4) 73 29 [some (.ref 4), some (.int x)] [.ref 5, .ref 4] _ Q
  have r4 : ∀ q, I4 4 q = if q = 0 then nI 1 else 0 := fun q => by rw [fa4 4 (by decide)]; exact r3 q
  have fr4 : ∀ x, x ∉ [4, 5, 6, 7, 8, 9] → I4 x = I x := fun x hx => by simp at hx; rw [fa4 x (by simp; omega)]; try exact fr3 x (by simp; omega)
  refine Wp.cpR rfl rfl hK4 hF4 (by decide) rfl rfl rfl rfl (fun F6 hF6 => ?_)
  refine Wp.go (x := (.aload_n 0, 1, 0, 0)) rfl 33 [some (.ref 4), some (.int x)] [.ref 4] rfl ⟨rfl, rfl, rfl, rfl⟩ ?_
  have hF7 := hF6.mono (b' := 10) (by decide)
  refine Wp.mnw (a := 10) rfl rfl hK4 hF7 rfl (by decide) rfl rfl (fun K8 F8 I8 J8 hK8 hF8 fa8 z8 => ?_)
  have r8 : ∀ q, I8 4 q = if q = 0 then nI 1 else 0 := fun q => by rw [fa8 4 (by decide)]; exact r4 q
  have fr8 : ∀ x, x ∉ [4, 5, 6, 7, 8, 9, 10] → I8 x = I x := fun x hx => by simp at hx; rw [fa8 x (by omega)]; try exact fr4 x (by simp; omega)
  have t8_5 : ∀ q, I8 5 q = if q = 1 then nI 300 else if q = 0 then nI 4 else 0 := fun q => by rw [fa8 5 (by decide)]; exact z4 q
  refine Wp.go (x := (.dup, 1, 0, 0)) rfl 37 [some (.ref 4), some (.int x)] [.ref 10, .ref 10, .ref 4] rfl ⟨rfl, rfl, rfl, rfl⟩ ?_
  refine Wp.go (x := (.aload_n 0, 1, 0, 0)) rfl 38 [some (.ref 4), some (.int x)] [.ref 4, .ref 10, .ref 10, .ref 4] rfl ⟨rfl, rfl, rfl, rfl⟩ ?_
  refine Wp.gI rfl rfl (hK8.at (a := 4) (by decide) rfl) rfl ⟨by decide, by decide⟩ ?_
  rw [show I8 4 0 = nI 1 from r8 0]
  refine Wp.call (x := (.invokespecial 33, 3, 7, 2)) rfl 7 [.ref 10, .int (nI 1)] [.ref 10, .ref 4] rfl rfl ⟨Nat.le_of_ble_eq_true rfl, Nat.le_of_ble_eq_true rfl, Nat.le_of_ble_eq_true rfl⟩ rfl rfl rfl ?_
  have hF10 := hF8.mono (b' := 11) (by decide)
  have hS9 : ST I8 := fun k' hk' => by rw [fr8 1 (by decide), fr8 2 (by decide), fr8 3 (by decide)]; exact hS k' hk'
  refine ci_X1_init_10_1 hL hK8 hF10 hS9 z8 (fun K9 F9 I9 J9 m9 l9 em9 el9 hK9 hF9 fa9 z9 y9 => ?_)
  show Wp (d + 4) 73 44 [some (.ref 4), some (.int x)] [.ref 10, .ref 4] _ Q
  have r9 : ∀ q, I9 4 q = if q = 0 then nI 1 else 0 := fun q => by rw [fa9 4 (by decide)]; exact r8 q
  have fr9 : ∀ x, x ∉ [4, 5, 6, 7, 8, 9, 10, 11, 12, 13, 14] → I9 x = I x := fun x hx => by simp at hx; rw [fa9 x (by simp; omega)]; try exact fr8 x (by simp; omega)
  have t9_5 : ∀ q, I9 5 q = if q = 1 then nI 300 else if q = 0 then nI 4 else 0 := fun q => by rw [fa9 5 (by decide)]; exact t8_5 q
  refine Wp.cpR rfl rfl hK9 hF9 (by decide) rfl rfl rfl rfl (fun F11 hF11 => ?_)
  refine Wp.go (x := (.aload_n 0, 1, 0, 0)) rfl 48 [some (.ref 4), some (.int x)] [.ref 4] rfl ⟨rfl, rfl, rfl, rfl⟩ ?_
  have hF12 := hF11.mono (b' := 15) (by decide)
  refine Wp.mnw (a := 15) rfl rfl hK9 hF12 rfl (by decide) rfl rfl (fun K13 F13 I13 J13 hK13 hF13 fa13 z13 => ?_)
  have r13 : ∀ q, I13 4 q = if q = 0 then nI 1 else 0 := fun q => by rw [fa13 4 (by decide)]; exact r9 q
  have fr13 : ∀ x, x ∉ [4, 5, 6, 7, 8, 9, 10, 11, 12, 13, 14, 15] → I13 x = I x := fun x hx => by simp at hx; rw [fa13 x (by omega)]; try exact fr9 x (by simp; omega)
  have t13_5 : ∀ q, I13 5 q = if q = 1 then nI 300 else if q = 0 then nI 4 else 0 := fun q => by rw [fa13 5 (by decide)]; exact t9_5 q
  have t13_10 : ∀ q, I13 10 q = if q = 0 then nI 0 else 0 := fun q => by rw [fa13 10 (by decide)]; exact z9 q
  have t13_1011 : CV I13 11 V0 := fun k' s' z1 z2 => by rw [fa13 11 (by decide)]; exact y9 k' s' z1 z2
  refine Wp.go (x := (.dup, 1, 0, 0)) rfl 52 [some (.ref 4), some (.int x)] [.ref 15, .ref 15, .ref 4] rfl ⟨rfl, rfl, rfl, rfl⟩ ?_
  refine Wp.go (x := (.aload_n 0, 1, 0, 0)) rfl 53 [some (.ref 4), some (.int x)] [.ref 4, .ref 15, .ref 15, .ref 4] rfl ⟨rfl, rfl, rfl, rfl⟩ ?_
  refine Wp.gI rfl rfl (hK13.at (a := 4) (by decide) rfl) rfl ⟨by decide, by decide⟩ ?_
  rw [show I13 4 0 = nI 1 from r13 0]
  refine Wp.call (x := (.invokespecial 33, 3, 7, 2)) rfl 7 [.ref 15, .int (nI 1)] [.ref 15, .ref 4] rfl rfl ⟨Nat.le_of_ble_eq_true rfl, Nat.le_of_ble_eq_true rfl, Nat.le_of_ble_eq_true rfl⟩ rfl rfl rfl ?_
  have hF15 := hF13.mono (b' := 16) (by decide)
  have hS14 : ST I13 := fun k' hk' => by rw [fr13 1 (by decide), fr13 2 (by decide), fr13 3 (by decide)]; exact hS k' hk'
  refine ci_X1_init_15_1 hL hK13 hF15 hS14 z13 (fun K14 F14 I14 J14 m14 l14 em14 el14 hK14 hF14 fa14 z14 y14 => ?_)
  show Wp (d + 4) 73 59 [some (.ref 4), some (.int x)] [.ref 15, .ref 4] _ Q
  have r14 : ∀ q, I14 4 q = if q = 0 then nI 1 else 0 := fun q => by rw [fa14 4 (by decide)]; exact r13 q
  have fr14 : ∀ x, x ∉ [4, 5, 6, 7, 8, 9, 10, 11, 12, 13, 14, 15, 16, 17, 18, 19] → I14 x = I x := fun x hx => by simp at hx; rw [fa14 x (by simp; omega)]; try exact fr13 x (by simp; omega)
  have t14_5 : ∀ q, I14 5 q = if q = 1 then nI 300 else if q = 0 then nI 4 else 0 := fun q => by rw [fa14 5 (by decide)]; exact t13_5 q
  have t14_10 : ∀ q, I14 10 q = if q = 0 then nI 0 else 0 := fun q => by rw [fa14 10 (by decide)]; exact t13_10 q
  have t14_1011 : CV I14 11 V0 := fun k' s' z1 z2 => by rw [fa14 11 (by decide)]; exact t13_1011 k' s' z1 z2
  refine Wp.cpR rfl rfl hK14 hF14 (by decide) rfl rfl rfl rfl (fun F16 hF16 => ?_)
  refine Wp.go (x := (.aload_n 0, 1, 0, 0)) rfl 63 [some (.ref 4), some (.int x)] [.ref 4] rfl ⟨rfl, rfl, rfl, rfl⟩ ?_
  refine Wp.gI rfl rfl (hK14.at (a := 4) (by decide) rfl) rfl ⟨by decide, by decide⟩ ?_
  rw [show I14 4 0 = nI 1 from r14 0]
  refine Wp.z_ne rfl rfl ⟨fun c => ?_, fun c => absurd c (by decide)⟩
  refine Wp.go (x := (.aload_n 0, 1, 0, 0)) rfl 92 [some (.ref 4), some (.int x)] [.ref 4] rfl ⟨rfl, rfl, rfl, rfl⟩ ?_
  refine Wp.gI rfl rfl (hK14.at (a := 4) (by decide) rfl) rfl ⟨by decide, by decide⟩ ?_
  rw [show I14 4 0 = nI 1 from r14 0]
  refine Wp.ic (v := nI 1) rfl rfl (by decide) ?_
  refine Wp.c_ne rfl rfl ⟨fun c => absurd c (by decide), fun c => ?_⟩
  refine Wp.go (x := (.aload_n 0, 1, 0, 0)) rfl 100 [some (.ref 4), some (.int x)] [.ref 4] rfl ⟨rfl, rfl, rfl, rfl⟩ ?_
  have hF17 := hF16.mono (b' := 20) (by decide)
  refine Wp.mnw (a := 20) rfl rfl hK14 hF17 rfl (by decide) rfl rfl (fun K18 F18 I18 J18 hK18 hF18 fa18 z18 => ?_)
  have r18 : ∀ q, I18 4 q = if q = 0 then nI 1 else 0 := fun q => by rw [fa18 4 (by decide)]; exact r14 q
  have fr18 : ∀ x, x ∉ [4, 5, 6, 7, 8, 9, 10, 11, 12, 13, 14, 15, 16, 17, 18, 19, 20] → I18 x = I x := fun x hx => by simp at hx; rw [fa18 x (by omega)]; try exact fr14 x (by simp; omega)
  have t18_5 : ∀ q, I18 5 q = if q = 1 then nI 300 else if q = 0 then nI 4 else 0 := fun q => by rw [fa18 5 (by decide)]; exact t14_5 q
  have t18_10 : ∀ q, I18 10 q = if q = 0 then nI 0 else 0 := fun q => by rw [fa18 10 (by decide)]; exact t14_10 q
  have t18_1011 : CV I18 11 V0 := fun k' s' z1 z2 => by rw [fa18 11 (by decide)]; exact t14_1011 k' s' z1 z2
  refine Wp.go (x := (.dup, 1, 0, 0)) rfl 104 [some (.ref 4), some (.int x)] [.ref 20, .ref 20, .ref 4] rfl ⟨rfl, rfl, rfl, rfl⟩ ?_
  refine Wp.go (x := (.aload_n 0, 1, 0, 0)) rfl 105 [some (.ref 4), some (.int x)] [.ref 4, .ref 20, .ref 20, .ref 4] rfl ⟨rfl, rfl, rfl, rfl⟩ ?_
  refine Wp.gR rfl rfl (hK18.at (a := 4) (by decide) rfl) rfl rfl (hF18.at (a := 4) (k := 1) (x := some 5) (by simp) rfl) ?_
  refine Wp.go (x := (.aload_n 0, 1, 0, 0)) rfl 109 [some (.ref 4), some (.int x)] [.ref 4, .ref 5, .ref 20, .ref 20, .ref 4] rfl ⟨rfl, rfl, rfl, rfl⟩ ?_
  refine Wp.gR rfl rfl (hK18.at (a := 4) (by decide) rfl) rfl rfl (hF18.at (a := 4) (k := 2) (x := some 10) (by simp) rfl) ?_
  refine Wp.call (x := (.invokespecial 52, 3, 41, 3)) rfl 41 [.ref 20, .ref 5, .ref 10] [.ref 20, .ref 4] rfl rfl ⟨Nat.le_of_ble_eq_true rfl, Nat.le_of_ble_eq_true rfl, Nat.le_of_ble_eq_true rfl⟩ rfl rfl rfl ?_
  have hF20 := hF18.mono (b' := 21) (by decide)
  refine ci_X5_init_20_1 hL hK18 hF20 z18 (fun K19 F19 I19 J19 m19 l19 em19 el19 hK19 hF19 fa19 z19 y19 => ?_)
  show Wp (d + 4) 73 115 [some (.ref 4), some (.int x)] [.ref 20, .ref 4] _ Q
  have r19 : ∀ q, I19 4 q = if q = 0 then nI 1 else 0 := fun q => by rw [fa19 4 (by decide)]; exact r18 q
  have fr19 : ∀ x, x ∉ [4, 5, 6, 7, 8, 9, 10, 11, 12, 13, 14, 15, 16, 17, 18, 19, 20, 23, 24, 25, 26, 27] → I19 x = I x := fun x hx => by simp at hx; rw [fa19 x (by simp; omega)]; try exact fr18 x (by simp; omega)
  have t19_5 : ∀ q, I19 5 q = if q = 1 then nI 300 else if q = 0 then nI 4 else 0 := fun q => by rw [fa19 5 (by decide)]; exact t18_5 q
  have t19_10 : ∀ q, I19 10 q = if q = 0 then nI 0 else 0 := fun q => by rw [fa19 10 (by decide)]; exact t18_10 q
  have t19_1011 : CV I19 11 V0 := fun k' s' z1 z2 => by rw [fa19 11 (by decide)]; exact t18_1011 k' s' z1 z2
  refine Wp.cpR rfl rfl hK19 hF19 (by decide) rfl rfl rfl rfl (fun F21 hF21 => ?_)
  refine Wp.go (x := (.goto 22, 3, 140, 0)) rfl 140 [some (.ref 4), some (.int x)] [] rfl ⟨rfl, rfl, rfl, rfl⟩ ?_
  refine Wp.go (x := (.aload_n 0, 1, 0, 0)) rfl 141 [some (.ref 4), some (.int x)] [.ref 4] rfl ⟨rfl, rfl, rfl, rfl⟩ ?_
  have hK22 := hK19.skip rfl
  have hK23 := hK22.skip rfl
  have hK24 := hK23.skip rfl
  have hK25 := hK24.skip rfl
  have hK26 := hK25.skip rfl
  have hF27 := hF21.mono (b' := 33) (by decide)
  refine Wp.mnw (a := 33) rfl rfl hK26 hF27 rfl (by decide) rfl rfl (fun K28 F28 I28 J28 hK28 hF28 fa28 z28 => ?_)
  have r28 : ∀ q, I28 4 q = if q = 0 then nI 1 else 0 := fun q => by rw [fa28 4 (by decide)]; exact r19 q
  have fr28 : ∀ x, x ∉ [4, 5, 6, 7, 8, 9, 10, 11, 12, 13, 14, 15, 16, 17, 18, 19, 20, 23, 24, 25, 26, 27, 33] → I28 x = I x := fun x hx => by simp at hx; rw [fa28 x (by omega)]; try exact fr19 x (by simp; omega)
  have t28_5 : ∀ q, I28 5 q = if q = 1 then nI 300 else if q = 0 then nI 4 else 0 := fun q => by rw [fa28 5 (by decide)]; exact t19_5 q
  have t28_10 : ∀ q, I28 10 q = if q = 0 then nI 0 else 0 := fun q => by rw [fa28 10 (by decide)]; exact t19_10 q
  have t28_1011 : CV I28 11 V0 := fun k' s' z1 z2 => by rw [fa28 11 (by decide)]; exact t19_1011 k' s' z1 z2
  have t28_1027 : LC I28 := fun r hr => by rw [fa28 27 (by decide)]; exact y19 r hr
  refine Wp.go (x := (.dup, 1, 0, 0)) rfl 145 [some (.ref 4), some (.int x)] [.ref 33, .ref 33, .ref 4] rfl ⟨rfl, rfl, rfl, rfl⟩ ?_
  refine Wp.go (x := (.aload_n 0, 1, 0, 0)) rfl 146 [some (.ref 4), some (.int x)] [.ref 4, .ref 33, .ref 33, .ref 4] rfl ⟨rfl, rfl, rfl, rfl⟩ ?_
  refine Wp.gR rfl rfl (hK28.at (a := 4) (by decide) rfl) rfl rfl (hF28.at (a := 4) (k := 1) (x := some 5) (by simp) rfl) ?_
  refine Wp.go (x := (.aload_n 0, 1, 0, 0)) rfl 150 [some (.ref 4), some (.int x)] [.ref 4, .ref 5, .ref 33, .ref 33, .ref 4] rfl ⟨rfl, rfl, rfl, rfl⟩ ?_
  refine Wp.gI rfl rfl (hK28.at (a := 4) (by decide) rfl) rfl ⟨by decide, by decide⟩ ?_
  rw [show I28 4 0 = nI 1 from r28 0]
  refine Wp.ic (v := nI 2) rfl rfl (by decide) ?_
  refine Wp.c_ne rfl rfl ⟨fun c => ?_, fun c => absurd c (by decide)⟩
  refine Wp.ic (v := nI 0) rfl rfl (by decide) ?_
  refine Wp.call (x := (.invokespecial 58, 3, 61, 3)) rfl 61 [.ref 33, .ref 5, .int (nI 0)] [.ref 33, .ref 4] rfl rfl ⟨Nat.le_of_ble_eq_true rfl, Nat.le_of_ble_eq_true rfl, Nat.le_of_ble_eq_true rfl⟩ rfl rfl rfl ?_
  have hF30 := hF28.mono (b' := 34) (by decide)
  refine ci_X8_init_33_1 hK28 hF30 z28 (fun K29 F29 I29 J29 m29 l29 em29 el29 hK29 hF29 fa29 z29 => ?_)
  show Wp (d + 4) 73 165 [some (.ref 4), some (.int x)] [.ref 33, .ref 4] _ Q
  have r29 : ∀ q, I29 4 q = if q = 0 then nI 1 else 0 := fun q => by rw [fa29 4 (by decide)]; exact r28 q
  have fr29 : ∀ x, x ∉ [4, 5, 6, 7, 8, 9, 10, 11, 12, 13, 14, 15, 16, 17, 18, 19, 20, 23, 24, 25, 26, 27, 33] → I29 x = I x := fun x hx => by simp at hx; rw [fa29 x (by simp; omega)]; try exact fr28 x (by simp; omega)
  have t29_5 : ∀ q, I29 5 q = if q = 1 then nI 300 else if q = 0 then nI 4 else 0 := fun q => by rw [fa29 5 (by decide)]; exact t28_5 q
  have t29_10 : ∀ q, I29 10 q = if q = 0 then nI 0 else 0 := fun q => by rw [fa29 10 (by decide)]; exact t28_10 q
  have t29_1011 : CV I29 11 V0 := fun k' s' z1 z2 => by rw [fa29 11 (by decide)]; exact t28_1011 k' s' z1 z2
  have t29_1027 : LC I29 := fun r hr => by rw [fa29 27 (by decide)]; exact t28_1027 r hr
  refine Wp.cpR rfl rfl hK29 hF29 (by decide) rfl rfl rfl rfl (fun F31 hF31 => ?_)
  refine Wp.go (x := (.aload_n 0, 1, 0, 0)) rfl 169 [some (.ref 4), some (.int x)] [.ref 4] rfl ⟨rfl, rfl, rfl, rfl⟩ ?_
  have hF32 := hF31.mono (b' := 34) (by decide)
  refine Wp.mnw (a := 34) rfl rfl hK29 hF32 rfl (by decide) rfl rfl (fun K33 F33 I33 J33 hK33 hF33 fa33 z33 => ?_)
  have r33 : ∀ q, I33 4 q = if q = 0 then nI 1 else 0 := fun q => by rw [fa33 4 (by decide)]; exact r29 q
  have fr33 : ∀ x, x ∉ [4, 5, 6, 7, 8, 9, 10, 11, 12, 13, 14, 15, 16, 17, 18, 19, 20, 23, 24, 25, 26, 27, 33, 34] → I33 x = I x := fun x hx => by simp at hx; rw [fa33 x (by omega)]; try exact fr29 x (by simp; omega)
  have t33_5 : ∀ q, I33 5 q = if q = 1 then nI 300 else if q = 0 then nI 4 else 0 := fun q => by rw [fa33 5 (by decide)]; exact t29_5 q
  have t33_10 : ∀ q, I33 10 q = if q = 0 then nI 0 else 0 := fun q => by rw [fa33 10 (by decide)]; exact t29_10 q
  have t33_1011 : CV I33 11 V0 := fun k' s' z1 z2 => by rw [fa33 11 (by decide)]; exact t29_1011 k' s' z1 z2
  have t33_1027 : LC I33 := fun r hr => by rw [fa33 27 (by decide)]; exact t29_1027 r hr
  have t33_33 : ∀ q, I33 33 q = if q = 1 then nI 0 else 0 := fun q => by rw [fa33 33 (by decide)]; exact z29 q
  refine Wp.go (x := (.dup, 1, 0, 0)) rfl 173 [some (.ref 4), some (.int x)] [.ref 34, .ref 34, .ref 4] rfl ⟨rfl, rfl, rfl, rfl⟩ ?_
  refine Wp.go (x := (.aload_n 0, 1, 0, 0)) rfl 174 [some (.ref 4), some (.int x)] [.ref 4, .ref 34, .ref 34, .ref 4] rfl ⟨rfl, rfl, rfl, rfl⟩ ?_
  refine Wp.gR rfl rfl (hK33.at (a := 4) (by decide) rfl) rfl rfl (hF33.at (a := 4) (k := 1) (x := some 5) (by simp) rfl) ?_
  refine Wp.call (x := (.invokespecial 67, 3, 0, 2)) rfl 0 [.ref 34, .ref 5] [.ref 34, .ref 4] rfl rfl ⟨Nat.le_of_ble_eq_true rfl, Nat.le_of_ble_eq_true rfl, Nat.le_of_ble_eq_true rfl⟩ rfl rfl rfl ?_
  have hF35 := hF33.mono (b' := 35) (by decide)
  refine ci_X0_init_34_1 hK33 hF35 z33 (fun K34 F34 I34 J34 m34 l34 em34 el34 hK34 hF34 fa34 z34 => ?_)
  show Wp (d + 4) 73 180 [some (.ref 4), some (.int x)] [.ref 34, .ref 4] _ Q
  have r34 : ∀ q, I34 4 q = if q = 0 then nI 1 else 0 := fun q => by rw [fa34 4 (by decide)]; exact r33 q
  have fr34 : ∀ x, x ∉ [4, 5, 6, 7, 8, 9, 10, 11, 12, 13, 14, 15, 16, 17, 18, 19, 20, 23, 24, 25, 26, 27, 33, 34, 35, 36, 38, 39, 40] → I34 x = I x := fun x hx => by simp at hx; rw [fa34 x (by simp; omega)]; try exact fr33 x (by simp; omega)
  have t34_5 : ∀ q, I34 5 q = if q = 1 then nI 300 else if q = 0 then nI 4 else 0 := fun q => by rw [fa34 5 (by decide)]; exact t33_5 q
  have t34_10 : ∀ q, I34 10 q = if q = 0 then nI 0 else 0 := fun q => by rw [fa34 10 (by decide)]; exact t33_10 q
  have t34_1011 : CV I34 11 V0 := fun k' s' z1 z2 => by rw [fa34 11 (by decide)]; exact t33_1011 k' s' z1 z2
  have t34_1027 : LC I34 := fun r hr => by rw [fa34 27 (by decide)]; exact t33_1027 r hr
  have t34_33 : ∀ q, I34 33 q = if q = 1 then nI 0 else 0 := fun q => by rw [fa34 33 (by decide)]; exact t33_33 q
  refine Wp.cpR rfl rfl hK34 hF34 (by decide) rfl rfl rfl rfl (fun F36 hF36 => ?_)
  refine Wp.go (x := (.aload_n 0, 1, 0, 0)) rfl 184 [some (.ref 4), some (.int x)] [.ref 4] rfl ⟨rfl, rfl, rfl, rfl⟩ ?_
  have hF37 := hF36.mono (b' := 41) (by decide)
  refine Wp.mnw (a := 41) rfl rfl hK34 hF37 rfl (by decide) rfl rfl (fun K38 F38 I38 J38 hK38 hF38 fa38 z38 => ?_)
  have r38 : ∀ q, I38 4 q = if q = 0 then nI 1 else 0 := fun q => by rw [fa38 4 (by decide)]; exact r34 q
  have fr38 : ∀ x, x ∉ [4, 5, 6, 7, 8, 9, 10, 11, 12, 13, 14, 15, 16, 17, 18, 19, 20, 23, 24, 25, 26, 27, 33, 34, 35, 36, 38, 39, 40, 41] → I38 x = I x := fun x hx => by simp at hx; rw [fa38 x (by omega)]; try exact fr34 x (by simp; omega)
  have t38_5 : ∀ q, I38 5 q = if q = 1 then nI 300 else if q = 0 then nI 4 else 0 := fun q => by rw [fa38 5 (by decide)]; exact t34_5 q
  have t38_10 : ∀ q, I38 10 q = if q = 0 then nI 0 else 0 := fun q => by rw [fa38 10 (by decide)]; exact t34_10 q
  have t38_1011 : CV I38 11 V0 := fun k' s' z1 z2 => by rw [fa38 11 (by decide)]; exact t34_1011 k' s' z1 z2
  have t38_1027 : LC I38 := fun r hr => by rw [fa38 27 (by decide)]; exact t34_1027 r hr
  have t38_33 : ∀ q, I38 33 q = if q = 1 then nI 0 else 0 := fun q => by rw [fa38 33 (by decide)]; exact t34_33 q
  have t38_34 : ∀ q, I38 34 q = 0 := fun q => by rw [fa38 34 (by decide)]; exact z34 q
  refine Wp.go (x := (.dup, 1, 0, 0)) rfl 188 [some (.ref 4), some (.int x)] [.ref 41, .ref 41, .ref 4] rfl ⟨rfl, rfl, rfl, rfl⟩ ?_
  refine Wp.call (x := (.invokespecial 76, 3, 49, 1)) rfl 49 [.ref 41] [.ref 41, .ref 4] rfl rfl ⟨Nat.le_of_ble_eq_true rfl, Nat.le_of_ble_eq_true rfl, Nat.le_of_ble_eq_true rfl⟩ rfl rfl rfl ?_
  have hF40 := hF38.mono (b' := 42) (by decide)
  refine ci_X6_init_41_1 hK38 hF40 z38 (fun K39 F39 I39 J39 m39 l39 em39 el39 hK39 hF39 fa39 z39 => ?_)
  show Wp (d + 4) 73 191 [some (.ref 4), some (.int x)] [.ref 41, .ref 4] _ Q
  have r39 : ∀ q, I39 4 q = if q = 0 then nI 1 else 0 := fun q => by rw [fa39 4 (by decide)]; exact r38 q
  have fr39 : ∀ x, x ∉ [4, 5, 6, 7, 8, 9, 10, 11, 12, 13, 14, 15, 16, 17, 18, 19, 20, 23, 24, 25, 26, 27, 33, 34, 35, 36, 38, 39, 40, 41, 42, 43, 44, 45, 46] → I39 x = I x := fun x hx => by simp at hx; rw [fa39 x (by simp; omega)]; try exact fr38 x (by simp; omega)
  have t39_5 : ∀ q, I39 5 q = if q = 1 then nI 300 else if q = 0 then nI 4 else 0 := fun q => by rw [fa39 5 (by decide)]; exact t38_5 q
  have t39_10 : ∀ q, I39 10 q = if q = 0 then nI 0 else 0 := fun q => by rw [fa39 10 (by decide)]; exact t38_10 q
  have t39_1011 : CV I39 11 V0 := fun k' s' z1 z2 => by rw [fa39 11 (by decide)]; exact t38_1011 k' s' z1 z2
  have t39_1027 : LC I39 := fun r hr => by rw [fa39 27 (by decide)]; exact t38_1027 r hr
  have t39_33 : ∀ q, I39 33 q = if q = 1 then nI 0 else 0 := fun q => by rw [fa39 33 (by decide)]; exact t38_33 q
  have t39_34 : ∀ q, I39 34 q = 0 := fun q => by rw [fa39 34 (by decide)]; exact t38_34 q
  refine Wp.cpR rfl rfl hK39 hF39 (by decide) rfl rfl rfl rfl (fun F41 hF41 => ?_)
  refine Wp.go (x := (.aload_n 0, 1, 0, 0)) rfl 195 [some (.ref 4), some (.int x)] [.ref 4] rfl ⟨rfl, rfl, rfl, rfl⟩ ?_
  have hF42 := hF41.mono (b' := 47) (by decide)
  refine Wp.mnw (a := 47) rfl rfl hK39 hF42 rfl (by decide) rfl rfl (fun K43 F43 I43 J43 hK43 hF43 fa43 z43 => ?_)
  have r43 : ∀ q, I43 4 q = if q = 0 then nI 1 else 0 := fun q => by rw [fa43 4 (by decide)]; exact r39 q
  have fr43 : ∀ x, x ∉ [4, 5, 6, 7, 8, 9, 10, 11, 12, 13, 14, 15, 16, 17, 18, 19, 20, 23, 24, 25, 26, 27, 33, 34, 35, 36, 38, 39, 40, 41, 42, 43, 44, 45, 46, 47] → I43 x = I x := fun x hx => by simp at hx; rw [fa43 x (by omega)]; try exact fr39 x (by simp; omega)
  have t43_5 : ∀ q, I43 5 q = if q = 1 then nI 300 else if q = 0 then nI 4 else 0 := fun q => by rw [fa43 5 (by decide)]; exact t39_5 q
  have t43_10 : ∀ q, I43 10 q = if q = 0 then nI 0 else 0 := fun q => by rw [fa43 10 (by decide)]; exact t39_10 q
  have t43_1011 : CV I43 11 V0 := fun k' s' z1 z2 => by rw [fa43 11 (by decide)]; exact t39_1011 k' s' z1 z2
  have t43_1027 : LC I43 := fun r hr => by rw [fa43 27 (by decide)]; exact t39_1027 r hr
  have t43_33 : ∀ q, I43 33 q = if q = 1 then nI 0 else 0 := fun q => by rw [fa43 33 (by decide)]; exact t39_33 q
  have t43_34 : ∀ q, I43 34 q = 0 := fun q => by rw [fa43 34 (by decide)]; exact t39_34 q
  refine Wp.go (x := (.dup, 1, 0, 0)) rfl 199 [some (.ref 4), some (.int x)] [.ref 47, .ref 47, .ref 4] rfl ⟨rfl, rfl, rfl, rfl⟩ ?_
  refine Wp.call (x := (.invokespecial 76, 3, 49, 1)) rfl 49 [.ref 47] [.ref 47, .ref 4] rfl rfl ⟨Nat.le_of_ble_eq_true rfl, Nat.le_of_ble_eq_true rfl, Nat.le_of_ble_eq_true rfl⟩ rfl rfl rfl ?_
  have hF45 := hF43.mono (b' := 48) (by decide)
  refine ci_X6_init_47_1 hK43 hF45 z43 (fun K44 F44 I44 J44 m44 l44 em44 el44 hK44 hF44 fa44 z44 => ?_)
  show Wp (d + 4) 73 202 [some (.ref 4), some (.int x)] [.ref 47, .ref 4] _ Q
  have r44 : ∀ q, I44 4 q = if q = 0 then nI 1 else 0 := fun q => by rw [fa44 4 (by decide)]; exact r43 q
  have fr44 : ∀ x, x ∉ [4, 5, 6, 7, 8, 9, 10, 11, 12, 13, 14, 15, 16, 17, 18, 19, 20, 23, 24, 25, 26, 27, 33, 34, 35, 36, 38, 39, 40, 41, 42, 43, 44, 45, 46, 47, 48, 49, 50, 51, 52] → I44 x = I x := fun x hx => by simp at hx; rw [fa44 x (by simp; omega)]; try exact fr43 x (by simp; omega)
  have t44_5 : ∀ q, I44 5 q = if q = 1 then nI 300 else if q = 0 then nI 4 else 0 := fun q => by rw [fa44 5 (by decide)]; exact t43_5 q
  have t44_10 : ∀ q, I44 10 q = if q = 0 then nI 0 else 0 := fun q => by rw [fa44 10 (by decide)]; exact t43_10 q
  have t44_1011 : CV I44 11 V0 := fun k' s' z1 z2 => by rw [fa44 11 (by decide)]; exact t43_1011 k' s' z1 z2
  have t44_1027 : LC I44 := fun r hr => by rw [fa44 27 (by decide)]; exact t43_1027 r hr
  have t44_33 : ∀ q, I44 33 q = if q = 1 then nI 0 else 0 := fun q => by rw [fa44 33 (by decide)]; exact t43_33 q
  have t44_34 : ∀ q, I44 34 q = 0 := fun q => by rw [fa44 34 (by decide)]; exact t43_34 q
  refine Wp.cpR rfl rfl hK44 hF44 (by decide) rfl rfl rfl rfl (fun F46 hF46 => ?_)
  refine Wp.go (x := (.aload_n 0, 1, 0, 0)) rfl 206 [some (.ref 4), some (.int x)] [.ref 4] rfl ⟨rfl, rfl, rfl, rfl⟩ ?_
  refine Wp.bp (v := nI 8) rfl rfl (by decide) ?_
  refine Wp.mpI rfl rfl hK44 (by decide) rfl rfl (Or.inl rfl) (fun I47 fa47 z47 => ?_)
  have r47 : ∀ q, I47 4 q = if q = 10 then nI 8 else if q = 0 then nI 1 else 0 := fun q => by
    rw [z47 q]
    by_cases e : q = 10
    · rw [if_pos e, if_pos e]
    · rw [if_neg e, if_neg e]
      exact r44 q
  have fr47 : ∀ x, x ∉ [4, 5, 6, 7, 8, 9, 10, 11, 12, 13, 14, 15, 16, 17, 18, 19, 20, 23, 24, 25, 26, 27, 33, 34, 35, 36, 38, 39, 40, 41, 42, 43, 44, 45, 46, 47, 48, 49, 50, 51, 52] → I47 x = I x := fun x hx => by simp at hx; rw [fa47 x (by omega)]; try exact fr44 x (by simp; omega)
  have t47_5 : ∀ q, I47 5 q = if q = 1 then nI 300 else if q = 0 then nI 4 else 0 := fun q => by rw [fa47 5 (by decide)]; exact t44_5 q
  have t47_10 : ∀ q, I47 10 q = if q = 0 then nI 0 else 0 := fun q => by rw [fa47 10 (by decide)]; exact t44_10 q
  have t47_1011 : CV I47 11 V0 := fun k' s' z1 z2 => by rw [fa47 11 (by decide)]; exact t44_1011 k' s' z1 z2
  have t47_1027 : LC I47 := fun r hr => by rw [fa47 27 (by decide)]; exact t44_1027 r hr
  have t47_33 : ∀ q, I47 33 q = if q = 1 then nI 0 else 0 := fun q => by rw [fa47 33 (by decide)]; exact t44_33 q
  have t47_34 : ∀ q, I47 34 q = 0 := fun q => by rw [fa47 34 (by decide)]; exact t44_34 q
  exact Wp.rV rfl rfl (k _ _ _ _ _ _ (by omega) (by omega) hK44 hF46 fr47 r47 t47_5 t47_10 t47_1011 t47_1027 t47_33 t47_34)
set_option maxRecDepth 20000 in
theorem ci_X10_init_4_2 {L d n1 n2 : Nat} {pl : List Nat} {D : List (Nat × Nat)} {K : Nat → Nat × Nat} {F : Nat → Nat → Option Nat} {I : Nat → Nat → Int32} {J : Nat → Nat → Int64} {Q : Option Value × xS → Prop} (hL : L < 2147483648) {x : Int32} (hcl : (if nI 0 < (if nI 2 < x then nI 2 else x) then (if nI 2 < x then nI 2 else x) else nI 0) = nI 2) (hK : KP 2 L 5 K) (hF : FD 2 5 D F) (hS : ST I) (r0 : ∀ q, I 4 q = 0) (k : ∀ K' F' I' J' m1 m2, m1 = n1 + 41 → m2 = n2 + 76572 → KP 2 L 53 K' → FD 2 53 ((4, 8) :: (47, 4) :: (47, 3) :: (47, 2) :: (47, 1) :: (47, 0) :: (4, 7) :: (41, 4) :: (41, 3) :: (41, 2) :: (41, 1) :: (41, 0) :: (4, 6) :: (34, 0) :: (34, 8) :: (34, 7) :: (34, 6) :: (34, 5) :: (34, 3) :: (34, 1) :: (4, 5) :: (33, 0) :: (4, 4) :: (20, 6) :: (20, 5) :: (20, 4) :: (20, 3) :: (20, 2) :: (20, 1) :: (20, 0) :: (4, 3) :: (15, 4) :: (15, 3) :: (15, 2) :: (15, 1) :: (4, 2) :: (10, 4) :: (10, 3) :: (10, 2) :: (10, 1) :: (4, 1) :: (5, 6) :: (5, 5) :: (5, 4) :: (5, 2) :: D) F' → (∀ x, x ∉ [4, 5, 6, 7, 8, 9, 10, 11, 12, 13, 14, 15, 16, 17, 18, 19, 20, 29, 30, 31, 33, 34, 35, 36, 38, 39, 40, 41, 42, 43, 44, 45, 46, 47, 48, 49, 50, 51, 52] → I' x = I x) → (∀ q, I' 4 q = if q = 10 then nI 8 else if q = 0 then nI 2 else 0) → (∀ q, I' 5 q = if q = 1 then nI 273 else if q = 0 then nI 2 else 0) → (∀ q, I' 10 q = if q = 0 then nI 4 else 0) → (CV I' 11 V0) → (∀ q, I' 29 q = 0) → (∀ q, I' 33 q = if q = 1 then nI 1 else 0) → (∀ q, I' 34 q = 0) → Q (none, (K', (pl, m1, m2), I', J', F'))) : Wp (d + 4) 73 0 [some (.ref 4), some (.int x)] [] (K, (5 :: 6 :: 7 :: 8 :: 9 :: 10 :: 11 :: 12 :: 13 :: 14 :: 15 :: 16 :: 17 :: 18 :: 19 :: 20 :: 28 :: 29 :: 30 :: 31 :: 32 :: 33 :: 34 :: 35 :: 36 :: 37 :: 38 :: 39 :: 40 :: 41 :: 42 :: 43 :: 44 :: 45 :: 46 :: 47 :: 48 :: 49 :: 50 :: 51 :: 52 :: pl, n1, n2), I, J, F) Q := by
  have fr0 : ∀ x, x ∉ [4] → I x = I x := fun _ _ => rfl
  refine Wp.go (x := (.aload_n 0, 1, 0, 0)) rfl 1 [some (.ref 4), some (.int x)] [.ref 4] rfl ⟨rfl, rfl, rfl, rfl⟩ ?_
  refine Wp.obj rfl rfl rfl (by omega) (Nat.le_of_ble_eq_true rfl) ?_
  refine Wp.go (x := (.aload_n 0, 1, 0, 0)) rfl 5 [some (.ref 4), some (.int x)] [.ref 4] rfl ⟨rfl, rfl, rfl, rfl⟩ ?_
  refine Wp.ic (v := nI 0) rfl rfl (by decide) ?_
  refine Wp.go (x := (.iload_n 1, 1, 0, 0)) rfl 7 [some (.ref 4), some (.int x)] [.int x, .int (nI 0), .ref 4] rfl ⟨rfl, rfl, rfl, rfl⟩ ?_
  refine Wp.ic (v := nI 2) rfl rfl (by decide) ?_
  refine Wp.min rfl rfl (by omega) (Nat.le_of_ble_eq_true rfl) ?_
  refine Wp.max rfl rfl (by omega) (Nat.le_of_ble_eq_true rfl) ?_
  rw [hcl]
  refine Wp.mpI rfl rfl hK (by decide) rfl rfl (Or.inl rfl) (fun I1 fa1 z1 => ?_)
  have r1 : ∀ q, I1 4 q = if q = 0 then nI 2 else 0 := fun q => by
    rw [z1 q]
    by_cases e : q = 0
    · rw [if_pos e, if_pos e]
    · rw [if_neg e, if_neg e]
      exact r0 q
  have fr1 : ∀ x, x ∉ [4] → I1 x = I x := fun x hx => by simp at hx; rw [fa1 x (by omega)]; try exact fr0 x (by simp; omega)
  refine Wp.go (x := (.aload_n 0, 1, 0, 0)) rfl 18 [some (.ref 4), some (.int x)] [.ref 4] rfl ⟨rfl, rfl, rfl, rfl⟩ ?_
  have hF2 := hF.mono (b' := 5) (by decide)
  refine Wp.mnw (a := 5) rfl rfl hK hF2 rfl (by decide) rfl rfl (fun K3 F3 I3 J3 hK3 hF3 fa3 z3 => ?_)
  have r3 : ∀ q, I3 4 q = if q = 0 then nI 2 else 0 := fun q => by rw [fa3 4 (by decide)]; exact r1 q
  have fr3 : ∀ x, x ∉ [4, 5] → I3 x = I x := fun x hx => by simp at hx; rw [fa3 x (by omega)]; try exact fr1 x (by simp; omega)
  refine Wp.go (x := (.dup, 1, 0, 0)) rfl 22 [some (.ref 4), some (.int x)] [.ref 5, .ref 5, .ref 4] rfl ⟨rfl, rfl, rfl, rfl⟩ ?_
  refine Wp.go (x := (.aload_n 0, 1, 0, 0)) rfl 23 [some (.ref 4), some (.int x)] [.ref 4, .ref 5, .ref 5, .ref 4] rfl ⟨rfl, rfl, rfl, rfl⟩ ?_
  refine Wp.gI rfl rfl (hK3.at (a := 4) (by decide) rfl) rfl ⟨by decide, by decide⟩ ?_
  rw [show I3 4 0 = nI 2 from r3 0]
  refine Wp.call (x := (.invokespecial 24, 3, 65, 2)) rfl 65 [.ref 5, .int (nI 2)] [.ref 5, .ref 4] rfl rfl ⟨Nat.le_of_ble_eq_true rfl, Nat.le_of_ble_eq_true rfl, Nat.le_of_ble_eq_true rfl⟩ rfl rfl rfl ?_
  have hF5 := hF3.mono (b' := 6) (by decide)
  refine ci_X9_init_5_2 hK3 hF5 z3 (fun K4 F4 I4 J4 m4 l4 em4 el4 hK4 hF4 fa4 z4 => ?_)
  show Wp (d + 4) 73 29 [some (.ref 4), some (.int x)] [.ref 5, .ref 4] _ Q
  have r4 : ∀ q, I4 4 q = if q = 0 then nI 2 else 0 := fun q => by rw [fa4 4 (by decide)]; exact r3 q
  have fr4 : ∀ x, x ∉ [4, 5, 6, 7, 8, 9] → I4 x = I x := fun x hx => by simp at hx; rw [fa4 x (by simp; omega)]; try exact fr3 x (by simp; omega)
  refine Wp.cpR rfl rfl hK4 hF4 (by decide) rfl rfl rfl rfl (fun F6 hF6 => ?_)
  refine Wp.go (x := (.aload_n 0, 1, 0, 0)) rfl 33 [some (.ref 4), some (.int x)] [.ref 4] rfl ⟨rfl, rfl, rfl, rfl⟩ ?_
  have hF7 := hF6.mono (b' := 10) (by decide)
  refine Wp.mnw (a := 10) rfl rfl hK4 hF7 rfl (by decide) rfl rfl (fun K8 F8 I8 J8 hK8 hF8 fa8 z8 => ?_)
  have r8 : ∀ q, I8 4 q = if q = 0 then nI 2 else 0 := fun q => by rw [fa8 4 (by decide)]; exact r4 q
  have fr8 : ∀ x, x ∉ [4, 5, 6, 7, 8, 9, 10] → I8 x = I x := fun x hx => by simp at hx; rw [fa8 x (by omega)]; try exact fr4 x (by simp; omega)
  have t8_5 : ∀ q, I8 5 q = if q = 1 then nI 273 else if q = 0 then nI 2 else 0 := fun q => by rw [fa8 5 (by decide)]; exact z4 q
  refine Wp.go (x := (.dup, 1, 0, 0)) rfl 37 [some (.ref 4), some (.int x)] [.ref 10, .ref 10, .ref 4] rfl ⟨rfl, rfl, rfl, rfl⟩ ?_
  refine Wp.go (x := (.aload_n 0, 1, 0, 0)) rfl 38 [some (.ref 4), some (.int x)] [.ref 4, .ref 10, .ref 10, .ref 4] rfl ⟨rfl, rfl, rfl, rfl⟩ ?_
  refine Wp.gI rfl rfl (hK8.at (a := 4) (by decide) rfl) rfl ⟨by decide, by decide⟩ ?_
  rw [show I8 4 0 = nI 2 from r8 0]
  refine Wp.call (x := (.invokespecial 33, 3, 7, 2)) rfl 7 [.ref 10, .int (nI 2)] [.ref 10, .ref 4] rfl rfl ⟨Nat.le_of_ble_eq_true rfl, Nat.le_of_ble_eq_true rfl, Nat.le_of_ble_eq_true rfl⟩ rfl rfl rfl ?_
  have hF10 := hF8.mono (b' := 11) (by decide)
  have hS9 : ST I8 := fun k' hk' => by rw [fr8 1 (by decide), fr8 2 (by decide), fr8 3 (by decide)]; exact hS k' hk'
  refine ci_X1_init_10_2 hL hK8 hF10 hS9 z8 (fun K9 F9 I9 J9 m9 l9 em9 el9 hK9 hF9 fa9 z9 y9 => ?_)
  show Wp (d + 4) 73 44 [some (.ref 4), some (.int x)] [.ref 10, .ref 4] _ Q
  have r9 : ∀ q, I9 4 q = if q = 0 then nI 2 else 0 := fun q => by rw [fa9 4 (by decide)]; exact r8 q
  have fr9 : ∀ x, x ∉ [4, 5, 6, 7, 8, 9, 10, 11, 12, 13, 14] → I9 x = I x := fun x hx => by simp at hx; rw [fa9 x (by simp; omega)]; try exact fr8 x (by simp; omega)
  have t9_5 : ∀ q, I9 5 q = if q = 1 then nI 273 else if q = 0 then nI 2 else 0 := fun q => by rw [fa9 5 (by decide)]; exact t8_5 q
  refine Wp.cpR rfl rfl hK9 hF9 (by decide) rfl rfl rfl rfl (fun F11 hF11 => ?_)
  refine Wp.go (x := (.aload_n 0, 1, 0, 0)) rfl 48 [some (.ref 4), some (.int x)] [.ref 4] rfl ⟨rfl, rfl, rfl, rfl⟩ ?_
  have hF12 := hF11.mono (b' := 15) (by decide)
  refine Wp.mnw (a := 15) rfl rfl hK9 hF12 rfl (by decide) rfl rfl (fun K13 F13 I13 J13 hK13 hF13 fa13 z13 => ?_)
  have r13 : ∀ q, I13 4 q = if q = 0 then nI 2 else 0 := fun q => by rw [fa13 4 (by decide)]; exact r9 q
  have fr13 : ∀ x, x ∉ [4, 5, 6, 7, 8, 9, 10, 11, 12, 13, 14, 15] → I13 x = I x := fun x hx => by simp at hx; rw [fa13 x (by omega)]; try exact fr9 x (by simp; omega)
  have t13_5 : ∀ q, I13 5 q = if q = 1 then nI 273 else if q = 0 then nI 2 else 0 := fun q => by rw [fa13 5 (by decide)]; exact t9_5 q
  have t13_10 : ∀ q, I13 10 q = if q = 0 then nI 4 else 0 := fun q => by rw [fa13 10 (by decide)]; exact z9 q
  have t13_1011 : CV I13 11 V0 := fun k' s' z1 z2 => by rw [fa13 11 (by decide)]; exact y9 k' s' z1 z2
  refine Wp.go (x := (.dup, 1, 0, 0)) rfl 52 [some (.ref 4), some (.int x)] [.ref 15, .ref 15, .ref 4] rfl ⟨rfl, rfl, rfl, rfl⟩ ?_
  refine Wp.go (x := (.aload_n 0, 1, 0, 0)) rfl 53 [some (.ref 4), some (.int x)] [.ref 4, .ref 15, .ref 15, .ref 4] rfl ⟨rfl, rfl, rfl, rfl⟩ ?_
  refine Wp.gI rfl rfl (hK13.at (a := 4) (by decide) rfl) rfl ⟨by decide, by decide⟩ ?_
  rw [show I13 4 0 = nI 2 from r13 0]
  refine Wp.call (x := (.invokespecial 33, 3, 7, 2)) rfl 7 [.ref 15, .int (nI 2)] [.ref 15, .ref 4] rfl rfl ⟨Nat.le_of_ble_eq_true rfl, Nat.le_of_ble_eq_true rfl, Nat.le_of_ble_eq_true rfl⟩ rfl rfl rfl ?_
  have hF15 := hF13.mono (b' := 16) (by decide)
  have hS14 : ST I13 := fun k' hk' => by rw [fr13 1 (by decide), fr13 2 (by decide), fr13 3 (by decide)]; exact hS k' hk'
  refine ci_X1_init_15_2 hL hK13 hF15 hS14 z13 (fun K14 F14 I14 J14 m14 l14 em14 el14 hK14 hF14 fa14 z14 y14 => ?_)
  show Wp (d + 4) 73 59 [some (.ref 4), some (.int x)] [.ref 15, .ref 4] _ Q
  have r14 : ∀ q, I14 4 q = if q = 0 then nI 2 else 0 := fun q => by rw [fa14 4 (by decide)]; exact r13 q
  have fr14 : ∀ x, x ∉ [4, 5, 6, 7, 8, 9, 10, 11, 12, 13, 14, 15, 16, 17, 18, 19] → I14 x = I x := fun x hx => by simp at hx; rw [fa14 x (by simp; omega)]; try exact fr13 x (by simp; omega)
  have t14_5 : ∀ q, I14 5 q = if q = 1 then nI 273 else if q = 0 then nI 2 else 0 := fun q => by rw [fa14 5 (by decide)]; exact t13_5 q
  have t14_10 : ∀ q, I14 10 q = if q = 0 then nI 4 else 0 := fun q => by rw [fa14 10 (by decide)]; exact t13_10 q
  have t14_1011 : CV I14 11 V0 := fun k' s' z1 z2 => by rw [fa14 11 (by decide)]; exact t13_1011 k' s' z1 z2
  refine Wp.cpR rfl rfl hK14 hF14 (by decide) rfl rfl rfl rfl (fun F16 hF16 => ?_)
  refine Wp.go (x := (.aload_n 0, 1, 0, 0)) rfl 63 [some (.ref 4), some (.int x)] [.ref 4] rfl ⟨rfl, rfl, rfl, rfl⟩ ?_
  refine Wp.gI rfl rfl (hK14.at (a := 4) (by decide) rfl) rfl ⟨by decide, by decide⟩ ?_
  rw [show I14 4 0 = nI 2 from r14 0]
  refine Wp.z_ne rfl rfl ⟨fun c => ?_, fun c => absurd c (by decide)⟩
  refine Wp.go (x := (.aload_n 0, 1, 0, 0)) rfl 92 [some (.ref 4), some (.int x)] [.ref 4] rfl ⟨rfl, rfl, rfl, rfl⟩ ?_
  refine Wp.gI rfl rfl (hK14.at (a := 4) (by decide) rfl) rfl ⟨by decide, by decide⟩ ?_
  rw [show I14 4 0 = nI 2 from r14 0]
  refine Wp.ic (v := nI 1) rfl rfl (by decide) ?_
  refine Wp.c_ne rfl rfl ⟨fun c => ?_, fun c => absurd c (by decide)⟩
  refine Wp.go (x := (.aload_n 0, 1, 0, 0)) rfl 122 [some (.ref 4), some (.int x)] [.ref 4] rfl ⟨rfl, rfl, rfl, rfl⟩ ?_
  have hF17 := hF16.mono (b' := 20) (by decide)
  refine Wp.mnw (a := 20) rfl rfl hK14 hF17 rfl (by decide) rfl rfl (fun K18 F18 I18 J18 hK18 hF18 fa18 z18 => ?_)
  have r18 : ∀ q, I18 4 q = if q = 0 then nI 2 else 0 := fun q => by rw [fa18 4 (by decide)]; exact r14 q
  have fr18 : ∀ x, x ∉ [4, 5, 6, 7, 8, 9, 10, 11, 12, 13, 14, 15, 16, 17, 18, 19, 20] → I18 x = I x := fun x hx => by simp at hx; rw [fa18 x (by omega)]; try exact fr14 x (by simp; omega)
  have t18_5 : ∀ q, I18 5 q = if q = 1 then nI 273 else if q = 0 then nI 2 else 0 := fun q => by rw [fa18 5 (by decide)]; exact t14_5 q
  have t18_10 : ∀ q, I18 10 q = if q = 0 then nI 4 else 0 := fun q => by rw [fa18 10 (by decide)]; exact t14_10 q
  have t18_1011 : CV I18 11 V0 := fun k' s' z1 z2 => by rw [fa18 11 (by decide)]; exact t14_1011 k' s' z1 z2
  refine Wp.go (x := (.dup, 1, 0, 0)) rfl 126 [some (.ref 4), some (.int x)] [.ref 20, .ref 20, .ref 4] rfl ⟨rfl, rfl, rfl, rfl⟩ ?_
  refine Wp.go (x := (.aload_n 0, 1, 0, 0)) rfl 127 [some (.ref 4), some (.int x)] [.ref 4, .ref 20, .ref 20, .ref 4] rfl ⟨rfl, rfl, rfl, rfl⟩ ?_
  refine Wp.gR rfl rfl (hK18.at (a := 4) (by decide) rfl) rfl rfl (hF18.at (a := 4) (k := 1) (x := some 5) (by simp) rfl) ?_
  refine Wp.go (x := (.aload_n 0, 1, 0, 0)) rfl 131 [some (.ref 4), some (.int x)] [.ref 4, .ref 5, .ref 20, .ref 20, .ref 4] rfl ⟨rfl, rfl, rfl, rfl⟩ ?_
  refine Wp.gR rfl rfl (hK18.at (a := 4) (by decide) rfl) rfl rfl (hF18.at (a := 4) (k := 2) (x := some 10) (by simp) rfl) ?_
  refine Wp.call (x := (.invokespecial 55, 3, 30, 3)) rfl 30 [.ref 20, .ref 5, .ref 10] [.ref 20, .ref 4] rfl rfl ⟨Nat.le_of_ble_eq_true rfl, Nat.le_of_ble_eq_true rfl, Nat.le_of_ble_eq_true rfl⟩ rfl rfl rfl ?_
  have hF20 := hF18.mono (b' := 21) (by decide)
  refine ci_X4_init_20_2 hK18 hF20 z18 (fun K19 F19 I19 J19 m19 l19 em19 el19 hK19 hF19 fa19 z19 y19 => ?_)
  show Wp (d + 4) 73 137 [some (.ref 4), some (.int x)] [.ref 20, .ref 4] _ Q
  have r19 : ∀ q, I19 4 q = if q = 0 then nI 2 else 0 := fun q => by rw [fa19 4 (by decide)]; exact r18 q
  have fr19 : ∀ x, x ∉ [4, 5, 6, 7, 8, 9, 10, 11, 12, 13, 14, 15, 16, 17, 18, 19, 20, 29, 30, 31] → I19 x = I x := fun x hx => by simp at hx; rw [fa19 x (by simp; omega)]; try exact fr18 x (by simp; omega)
  have t19_5 : ∀ q, I19 5 q = if q = 1 then nI 273 else if q = 0 then nI 2 else 0 := fun q => by rw [fa19 5 (by decide)]; exact t18_5 q
  have t19_10 : ∀ q, I19 10 q = if q = 0 then nI 4 else 0 := fun q => by rw [fa19 10 (by decide)]; exact t18_10 q
  have t19_1011 : CV I19 11 V0 := fun k' s' z1 z2 => by rw [fa19 11 (by decide)]; exact t18_1011 k' s' z1 z2
  refine Wp.cpR rfl rfl hK19 hF19 (by decide) rfl rfl rfl rfl (fun F21 hF21 => ?_)
  refine Wp.go (x := (.aload_n 0, 1, 0, 0)) rfl 141 [some (.ref 4), some (.int x)] [.ref 4] rfl ⟨rfl, rfl, rfl, rfl⟩ ?_
  have hF22 := hF21.mono (b' := 33) (by decide)
  refine Wp.mnw (a := 33) rfl rfl hK19 hF22 rfl (by decide) rfl rfl (fun K23 F23 I23 J23 hK23 hF23 fa23 z23 => ?_)
  have r23 : ∀ q, I23 4 q = if q = 0 then nI 2 else 0 := fun q => by rw [fa23 4 (by decide)]; exact r19 q
  have fr23 : ∀ x, x ∉ [4, 5, 6, 7, 8, 9, 10, 11, 12, 13, 14, 15, 16, 17, 18, 19, 20, 29, 30, 31, 33] → I23 x = I x := fun x hx => by simp at hx; rw [fa23 x (by omega)]; try exact fr19 x (by simp; omega)
  have t23_5 : ∀ q, I23 5 q = if q = 1 then nI 273 else if q = 0 then nI 2 else 0 := fun q => by rw [fa23 5 (by decide)]; exact t19_5 q
  have t23_10 : ∀ q, I23 10 q = if q = 0 then nI 4 else 0 := fun q => by rw [fa23 10 (by decide)]; exact t19_10 q
  have t23_1011 : CV I23 11 V0 := fun k' s' z1 z2 => by rw [fa23 11 (by decide)]; exact t19_1011 k' s' z1 z2
  have t23_29 : ∀ q, I23 29 q = 0 := fun q => by rw [fa23 29 (by decide)]; exact y19 q
  refine Wp.go (x := (.dup, 1, 0, 0)) rfl 145 [some (.ref 4), some (.int x)] [.ref 33, .ref 33, .ref 4] rfl ⟨rfl, rfl, rfl, rfl⟩ ?_
  refine Wp.go (x := (.aload_n 0, 1, 0, 0)) rfl 146 [some (.ref 4), some (.int x)] [.ref 4, .ref 33, .ref 33, .ref 4] rfl ⟨rfl, rfl, rfl, rfl⟩ ?_
  refine Wp.gR rfl rfl (hK23.at (a := 4) (by decide) rfl) rfl rfl (hF23.at (a := 4) (k := 1) (x := some 5) (by simp) rfl) ?_
  refine Wp.go (x := (.aload_n 0, 1, 0, 0)) rfl 150 [some (.ref 4), some (.int x)] [.ref 4, .ref 5, .ref 33, .ref 33, .ref 4] rfl ⟨rfl, rfl, rfl, rfl⟩ ?_
  refine Wp.gI rfl rfl (hK23.at (a := 4) (by decide) rfl) rfl ⟨by decide, by decide⟩ ?_
  rw [show I23 4 0 = nI 2 from r23 0]
  refine Wp.ic (v := nI 2) rfl rfl (by decide) ?_
  refine Wp.c_ne rfl rfl ⟨fun c => absurd c (by decide), fun c => ?_⟩
  refine Wp.ic (v := nI 1) rfl rfl (by decide) ?_
  refine Wp.go (x := (.goto 4, 3, 162, 0)) rfl 162 [some (.ref 4), some (.int x)] [.int (nI 1), .ref 5, .ref 33, .ref 33, .ref 4] rfl ⟨rfl, rfl, rfl, rfl⟩ ?_
  refine Wp.call (x := (.invokespecial 58, 3, 61, 3)) rfl 61 [.ref 33, .ref 5, .int (nI 1)] [.ref 33, .ref 4] rfl rfl ⟨Nat.le_of_ble_eq_true rfl, Nat.le_of_ble_eq_true rfl, Nat.le_of_ble_eq_true rfl⟩ rfl rfl rfl ?_
  have hF25 := hF23.mono (b' := 34) (by decide)
  refine ci_X8_init_33_2 hK23 hF25 z23 (fun K24 F24 I24 J24 m24 l24 em24 el24 hK24 hF24 fa24 z24 => ?_)
  show Wp (d + 4) 73 165 [some (.ref 4), some (.int x)] [.ref 33, .ref 4] _ Q
  have r24 : ∀ q, I24 4 q = if q = 0 then nI 2 else 0 := fun q => by rw [fa24 4 (by decide)]; exact r23 q
  have fr24 : ∀ x, x ∉ [4, 5, 6, 7, 8, 9, 10, 11, 12, 13, 14, 15, 16, 17, 18, 19, 20, 29, 30, 31, 33] → I24 x = I x := fun x hx => by simp at hx; rw [fa24 x (by simp; omega)]; try exact fr23 x (by simp; omega)
  have t24_5 : ∀ q, I24 5 q = if q = 1 then nI 273 else if q = 0 then nI 2 else 0 := fun q => by rw [fa24 5 (by decide)]; exact t23_5 q
  have t24_10 : ∀ q, I24 10 q = if q = 0 then nI 4 else 0 := fun q => by rw [fa24 10 (by decide)]; exact t23_10 q
  have t24_1011 : CV I24 11 V0 := fun k' s' z1 z2 => by rw [fa24 11 (by decide)]; exact t23_1011 k' s' z1 z2
  have t24_29 : ∀ q, I24 29 q = 0 := fun q => by rw [fa24 29 (by decide)]; exact t23_29 q
  refine Wp.cpR rfl rfl hK24 hF24 (by decide) rfl rfl rfl rfl (fun F26 hF26 => ?_)
  refine Wp.go (x := (.aload_n 0, 1, 0, 0)) rfl 169 [some (.ref 4), some (.int x)] [.ref 4] rfl ⟨rfl, rfl, rfl, rfl⟩ ?_
  have hF27 := hF26.mono (b' := 34) (by decide)
  refine Wp.mnw (a := 34) rfl rfl hK24 hF27 rfl (by decide) rfl rfl (fun K28 F28 I28 J28 hK28 hF28 fa28 z28 => ?_)
  have r28 : ∀ q, I28 4 q = if q = 0 then nI 2 else 0 := fun q => by rw [fa28 4 (by decide)]; exact r24 q
  have fr28 : ∀ x, x ∉ [4, 5, 6, 7, 8, 9, 10, 11, 12, 13, 14, 15, 16, 17, 18, 19, 20, 29, 30, 31, 33, 34] → I28 x = I x := fun x hx => by simp at hx; rw [fa28 x (by omega)]; try exact fr24 x (by simp; omega)
  have t28_5 : ∀ q, I28 5 q = if q = 1 then nI 273 else if q = 0 then nI 2 else 0 := fun q => by rw [fa28 5 (by decide)]; exact t24_5 q
  have t28_10 : ∀ q, I28 10 q = if q = 0 then nI 4 else 0 := fun q => by rw [fa28 10 (by decide)]; exact t24_10 q
  have t28_1011 : CV I28 11 V0 := fun k' s' z1 z2 => by rw [fa28 11 (by decide)]; exact t24_1011 k' s' z1 z2
  have t28_29 : ∀ q, I28 29 q = 0 := fun q => by rw [fa28 29 (by decide)]; exact t24_29 q
  have t28_33 : ∀ q, I28 33 q = if q = 1 then nI 1 else 0 := fun q => by rw [fa28 33 (by decide)]; exact z24 q
  refine Wp.go (x := (.dup, 1, 0, 0)) rfl 173 [some (.ref 4), some (.int x)] [.ref 34, .ref 34, .ref 4] rfl ⟨rfl, rfl, rfl, rfl⟩ ?_
  refine Wp.go (x := (.aload_n 0, 1, 0, 0)) rfl 174 [some (.ref 4), some (.int x)] [.ref 4, .ref 34, .ref 34, .ref 4] rfl ⟨rfl, rfl, rfl, rfl⟩ ?_
  refine Wp.gR rfl rfl (hK28.at (a := 4) (by decide) rfl) rfl rfl (hF28.at (a := 4) (k := 1) (x := some 5) (by simp) rfl) ?_
  refine Wp.call (x := (.invokespecial 67, 3, 0, 2)) rfl 0 [.ref 34, .ref 5] [.ref 34, .ref 4] rfl rfl ⟨Nat.le_of_ble_eq_true rfl, Nat.le_of_ble_eq_true rfl, Nat.le_of_ble_eq_true rfl⟩ rfl rfl rfl ?_
  have hF30 := hF28.mono (b' := 35) (by decide)
  refine ci_X0_init_34_2 hK28 hF30 z28 (fun K29 F29 I29 J29 m29 l29 em29 el29 hK29 hF29 fa29 z29 => ?_)
  show Wp (d + 4) 73 180 [some (.ref 4), some (.int x)] [.ref 34, .ref 4] _ Q
  have r29 : ∀ q, I29 4 q = if q = 0 then nI 2 else 0 := fun q => by rw [fa29 4 (by decide)]; exact r28 q
  have fr29 : ∀ x, x ∉ [4, 5, 6, 7, 8, 9, 10, 11, 12, 13, 14, 15, 16, 17, 18, 19, 20, 29, 30, 31, 33, 34, 35, 36, 38, 39, 40] → I29 x = I x := fun x hx => by simp at hx; rw [fa29 x (by simp; omega)]; try exact fr28 x (by simp; omega)
  have t29_5 : ∀ q, I29 5 q = if q = 1 then nI 273 else if q = 0 then nI 2 else 0 := fun q => by rw [fa29 5 (by decide)]; exact t28_5 q
  have t29_10 : ∀ q, I29 10 q = if q = 0 then nI 4 else 0 := fun q => by rw [fa29 10 (by decide)]; exact t28_10 q
  have t29_1011 : CV I29 11 V0 := fun k' s' z1 z2 => by rw [fa29 11 (by decide)]; exact t28_1011 k' s' z1 z2
  have t29_29 : ∀ q, I29 29 q = 0 := fun q => by rw [fa29 29 (by decide)]; exact t28_29 q
  have t29_33 : ∀ q, I29 33 q = if q = 1 then nI 1 else 0 := fun q => by rw [fa29 33 (by decide)]; exact t28_33 q
  refine Wp.cpR rfl rfl hK29 hF29 (by decide) rfl rfl rfl rfl (fun F31 hF31 => ?_)
  refine Wp.go (x := (.aload_n 0, 1, 0, 0)) rfl 184 [some (.ref 4), some (.int x)] [.ref 4] rfl ⟨rfl, rfl, rfl, rfl⟩ ?_
  have hF32 := hF31.mono (b' := 41) (by decide)
  refine Wp.mnw (a := 41) rfl rfl hK29 hF32 rfl (by decide) rfl rfl (fun K33 F33 I33 J33 hK33 hF33 fa33 z33 => ?_)
  have r33 : ∀ q, I33 4 q = if q = 0 then nI 2 else 0 := fun q => by rw [fa33 4 (by decide)]; exact r29 q
  have fr33 : ∀ x, x ∉ [4, 5, 6, 7, 8, 9, 10, 11, 12, 13, 14, 15, 16, 17, 18, 19, 20, 29, 30, 31, 33, 34, 35, 36, 38, 39, 40, 41] → I33 x = I x := fun x hx => by simp at hx; rw [fa33 x (by omega)]; try exact fr29 x (by simp; omega)
  have t33_5 : ∀ q, I33 5 q = if q = 1 then nI 273 else if q = 0 then nI 2 else 0 := fun q => by rw [fa33 5 (by decide)]; exact t29_5 q
  have t33_10 : ∀ q, I33 10 q = if q = 0 then nI 4 else 0 := fun q => by rw [fa33 10 (by decide)]; exact t29_10 q
  have t33_1011 : CV I33 11 V0 := fun k' s' z1 z2 => by rw [fa33 11 (by decide)]; exact t29_1011 k' s' z1 z2
  have t33_29 : ∀ q, I33 29 q = 0 := fun q => by rw [fa33 29 (by decide)]; exact t29_29 q
  have t33_33 : ∀ q, I33 33 q = if q = 1 then nI 1 else 0 := fun q => by rw [fa33 33 (by decide)]; exact t29_33 q
  have t33_34 : ∀ q, I33 34 q = 0 := fun q => by rw [fa33 34 (by decide)]; exact z29 q
  refine Wp.go (x := (.dup, 1, 0, 0)) rfl 188 [some (.ref 4), some (.int x)] [.ref 41, .ref 41, .ref 4] rfl ⟨rfl, rfl, rfl, rfl⟩ ?_
  refine Wp.call (x := (.invokespecial 76, 3, 49, 1)) rfl 49 [.ref 41] [.ref 41, .ref 4] rfl rfl ⟨Nat.le_of_ble_eq_true rfl, Nat.le_of_ble_eq_true rfl, Nat.le_of_ble_eq_true rfl⟩ rfl rfl rfl ?_
  have hF35 := hF33.mono (b' := 42) (by decide)
  refine ci_X6_init_41_2 hK33 hF35 z33 (fun K34 F34 I34 J34 m34 l34 em34 el34 hK34 hF34 fa34 z34 => ?_)
  show Wp (d + 4) 73 191 [some (.ref 4), some (.int x)] [.ref 41, .ref 4] _ Q
  have r34 : ∀ q, I34 4 q = if q = 0 then nI 2 else 0 := fun q => by rw [fa34 4 (by decide)]; exact r33 q
  have fr34 : ∀ x, x ∉ [4, 5, 6, 7, 8, 9, 10, 11, 12, 13, 14, 15, 16, 17, 18, 19, 20, 29, 30, 31, 33, 34, 35, 36, 38, 39, 40, 41, 42, 43, 44, 45, 46] → I34 x = I x := fun x hx => by simp at hx; rw [fa34 x (by simp; omega)]; try exact fr33 x (by simp; omega)
  have t34_5 : ∀ q, I34 5 q = if q = 1 then nI 273 else if q = 0 then nI 2 else 0 := fun q => by rw [fa34 5 (by decide)]; exact t33_5 q
  have t34_10 : ∀ q, I34 10 q = if q = 0 then nI 4 else 0 := fun q => by rw [fa34 10 (by decide)]; exact t33_10 q
  have t34_1011 : CV I34 11 V0 := fun k' s' z1 z2 => by rw [fa34 11 (by decide)]; exact t33_1011 k' s' z1 z2
  have t34_29 : ∀ q, I34 29 q = 0 := fun q => by rw [fa34 29 (by decide)]; exact t33_29 q
  have t34_33 : ∀ q, I34 33 q = if q = 1 then nI 1 else 0 := fun q => by rw [fa34 33 (by decide)]; exact t33_33 q
  have t34_34 : ∀ q, I34 34 q = 0 := fun q => by rw [fa34 34 (by decide)]; exact t33_34 q
  refine Wp.cpR rfl rfl hK34 hF34 (by decide) rfl rfl rfl rfl (fun F36 hF36 => ?_)
  refine Wp.go (x := (.aload_n 0, 1, 0, 0)) rfl 195 [some (.ref 4), some (.int x)] [.ref 4] rfl ⟨rfl, rfl, rfl, rfl⟩ ?_
  have hF37 := hF36.mono (b' := 47) (by decide)
  refine Wp.mnw (a := 47) rfl rfl hK34 hF37 rfl (by decide) rfl rfl (fun K38 F38 I38 J38 hK38 hF38 fa38 z38 => ?_)
  have r38 : ∀ q, I38 4 q = if q = 0 then nI 2 else 0 := fun q => by rw [fa38 4 (by decide)]; exact r34 q
  have fr38 : ∀ x, x ∉ [4, 5, 6, 7, 8, 9, 10, 11, 12, 13, 14, 15, 16, 17, 18, 19, 20, 29, 30, 31, 33, 34, 35, 36, 38, 39, 40, 41, 42, 43, 44, 45, 46, 47] → I38 x = I x := fun x hx => by simp at hx; rw [fa38 x (by omega)]; try exact fr34 x (by simp; omega)
  have t38_5 : ∀ q, I38 5 q = if q = 1 then nI 273 else if q = 0 then nI 2 else 0 := fun q => by rw [fa38 5 (by decide)]; exact t34_5 q
  have t38_10 : ∀ q, I38 10 q = if q = 0 then nI 4 else 0 := fun q => by rw [fa38 10 (by decide)]; exact t34_10 q
  have t38_1011 : CV I38 11 V0 := fun k' s' z1 z2 => by rw [fa38 11 (by decide)]; exact t34_1011 k' s' z1 z2
  have t38_29 : ∀ q, I38 29 q = 0 := fun q => by rw [fa38 29 (by decide)]; exact t34_29 q
  have t38_33 : ∀ q, I38 33 q = if q = 1 then nI 1 else 0 := fun q => by rw [fa38 33 (by decide)]; exact t34_33 q
  have t38_34 : ∀ q, I38 34 q = 0 := fun q => by rw [fa38 34 (by decide)]; exact t34_34 q
  refine Wp.go (x := (.dup, 1, 0, 0)) rfl 199 [some (.ref 4), some (.int x)] [.ref 47, .ref 47, .ref 4] rfl ⟨rfl, rfl, rfl, rfl⟩ ?_
  refine Wp.call (x := (.invokespecial 76, 3, 49, 1)) rfl 49 [.ref 47] [.ref 47, .ref 4] rfl rfl ⟨Nat.le_of_ble_eq_true rfl, Nat.le_of_ble_eq_true rfl, Nat.le_of_ble_eq_true rfl⟩ rfl rfl rfl ?_
  have hF40 := hF38.mono (b' := 48) (by decide)
  refine ci_X6_init_47_2 hK38 hF40 z38 (fun K39 F39 I39 J39 m39 l39 em39 el39 hK39 hF39 fa39 z39 => ?_)
  show Wp (d + 4) 73 202 [some (.ref 4), some (.int x)] [.ref 47, .ref 4] _ Q
  have r39 : ∀ q, I39 4 q = if q = 0 then nI 2 else 0 := fun q => by rw [fa39 4 (by decide)]; exact r38 q
  have fr39 : ∀ x, x ∉ [4, 5, 6, 7, 8, 9, 10, 11, 12, 13, 14, 15, 16, 17, 18, 19, 20, 29, 30, 31, 33, 34, 35, 36, 38, 39, 40, 41, 42, 43, 44, 45, 46, 47, 48, 49, 50, 51, 52] → I39 x = I x := fun x hx => by simp at hx; rw [fa39 x (by simp; omega)]; try exact fr38 x (by simp; omega)
  have t39_5 : ∀ q, I39 5 q = if q = 1 then nI 273 else if q = 0 then nI 2 else 0 := fun q => by rw [fa39 5 (by decide)]; exact t38_5 q
  have t39_10 : ∀ q, I39 10 q = if q = 0 then nI 4 else 0 := fun q => by rw [fa39 10 (by decide)]; exact t38_10 q
  have t39_1011 : CV I39 11 V0 := fun k' s' z1 z2 => by rw [fa39 11 (by decide)]; exact t38_1011 k' s' z1 z2
  have t39_29 : ∀ q, I39 29 q = 0 := fun q => by rw [fa39 29 (by decide)]; exact t38_29 q
  have t39_33 : ∀ q, I39 33 q = if q = 1 then nI 1 else 0 := fun q => by rw [fa39 33 (by decide)]; exact t38_33 q
  have t39_34 : ∀ q, I39 34 q = 0 := fun q => by rw [fa39 34 (by decide)]; exact t38_34 q
  refine Wp.cpR rfl rfl hK39 hF39 (by decide) rfl rfl rfl rfl (fun F41 hF41 => ?_)
  refine Wp.go (x := (.aload_n 0, 1, 0, 0)) rfl 206 [some (.ref 4), some (.int x)] [.ref 4] rfl ⟨rfl, rfl, rfl, rfl⟩ ?_
  refine Wp.bp (v := nI 8) rfl rfl (by decide) ?_
  refine Wp.mpI rfl rfl hK39 (by decide) rfl rfl (Or.inl rfl) (fun I42 fa42 z42 => ?_)
  have r42 : ∀ q, I42 4 q = if q = 10 then nI 8 else if q = 0 then nI 2 else 0 := fun q => by
    rw [z42 q]
    by_cases e : q = 10
    · rw [if_pos e, if_pos e]
    · rw [if_neg e, if_neg e]
      exact r39 q
  have fr42 : ∀ x, x ∉ [4, 5, 6, 7, 8, 9, 10, 11, 12, 13, 14, 15, 16, 17, 18, 19, 20, 29, 30, 31, 33, 34, 35, 36, 38, 39, 40, 41, 42, 43, 44, 45, 46, 47, 48, 49, 50, 51, 52] → I42 x = I x := fun x hx => by simp at hx; rw [fa42 x (by omega)]; try exact fr39 x (by simp; omega)
  have t42_5 : ∀ q, I42 5 q = if q = 1 then nI 273 else if q = 0 then nI 2 else 0 := fun q => by rw [fa42 5 (by decide)]; exact t39_5 q
  have t42_10 : ∀ q, I42 10 q = if q = 0 then nI 4 else 0 := fun q => by rw [fa42 10 (by decide)]; exact t39_10 q
  have t42_1011 : CV I42 11 V0 := fun k' s' z1 z2 => by rw [fa42 11 (by decide)]; exact t39_1011 k' s' z1 z2
  have t42_29 : ∀ q, I42 29 q = 0 := fun q => by rw [fa42 29 (by decide)]; exact t39_29 q
  have t42_33 : ∀ q, I42 33 q = if q = 1 then nI 1 else 0 := fun q => by rw [fa42 33 (by decide)]; exact t39_33 q
  have t42_34 : ∀ q, I42 34 q = 0 := fun q => by rw [fa42 34 (by decide)]; exact t39_34 q
  exact Wp.rV rfl rfl (k _ _ _ _ _ _ (by omega) (by omega) hK39 hF41 fr42 r42 t42_5 t42_10 t42_1011 t42_29 t42_33 t42_34)
