set_option maxRecDepth 20000 in
theorem ci_X11_init_59_0neg {L d n1 n2 : Nat} {pl : List Nat} {D : List (Nat × Nat)} {K : Nat → Nat × Nat} {F : Nat → Nat → Option Nat} {I : Nat → Nat → Int32} {J : Nat → Nat → Int64} {Q : Option Value × xS → Prop} (hL : L < 2147483648) {x : Int32} (hx : x < 0) (hK : KP 0 L 60 K) (hF : FD 0 60 D F) (r0 : ∀ q, I 59 q = 0) (k : ∀ K' F' I' J' m1 m2, m1 = n1 + 35 → m2 = n2 + 377439 → KP 0 L 107 K' → FD 0 107 ((59, 46) :: (59, 45) :: (59, 44) :: (59, 43) :: (59, 42) :: (59, 41) :: (59, 40) :: (59, 39) :: (59, 38) :: (59, 37) :: (59, 36) :: (59, 35) :: (59, 34) :: (59, 33) :: (59, 32) :: (59, 31) :: (59, 30) :: (59, 29) :: (59, 28) :: (59, 27) :: (59, 26) :: (59, 25) :: (59, 24) :: (59, 23) :: (59, 21) :: (59, 20) :: (59, 19) :: (59, 15) :: (59, 14) :: (59, 13) :: (59, 12) :: (59, 8) :: (59, 6) :: (59, 4) :: (59, 2) :: D) F' → (∀ x, x ∉ [59, 62, 64, 66, 68, 72, 73, 74, 75, 79, 80, 81, 83, 84, 85, 86, 87, 88, 89, 90, 91, 92, 93, 94, 95, 96, 97, 98, 99, 100, 101, 102, 103, 104, 105] → I' x = I x) → (∀ q, I' 59 q = if q = 5 then nI 8 else if q = 1 then nI 0 else if q = 5 then nI 8 else 0) → (∀ k s, k < 4 → s < SY k → I' 64 (256 * k + s) = nI (V0 k s)) → Q (none, (K', (pl, m1, m2), I', J', F'))) : Wp (d + 1) 96 0 [some (.ref 59), some (.int (x))] [] (K, (62 :: 64 :: 66 :: 68 :: 72 :: 73 :: 74 :: 75 :: 79 :: 80 :: 81 :: 83 :: 84 :: 85 :: 86 :: 87 :: 88 :: 89 :: 90 :: 91 :: 92 :: 93 :: 94 :: 95 :: 96 :: 97 :: 98 :: 99 :: 100 :: 101 :: 102 :: 103 :: 104 :: 105 :: 106 :: pl, n1, n2), I, J, F) Q := by
  have fr0 : ∀ x, x ∉ [59] → I x = I x := fun _ _ => rfl
  refine Wp.go (x := (.aload_n 0, 1, 0, 0)) rfl 1 [some (.ref 59), some (.int x)] [.ref 59] rfl ⟨rfl, rfl, rfl, rfl⟩ ?_
  refine Wp.obj rfl rfl rfl (by omega) (Nat.le_of_ble_eq_true rfl) ?_
  refine Wp.go (x := (.aload_n 0, 1, 0, 0)) rfl 5 [some (.ref 59), some (.int x)] [.ref 59] rfl ⟨rfl, rfl, rfl, rfl⟩ ?_
  refine Wp.sp (v := nI 301) rfl rfl (by decide) ?_
  have hK1 := hK.skip rfl
  have hK2 := hK1.skip rfl
  have hF3 := hF.mono (b' := 62) (by decide)
  refine Wp.mni (a := 62) rfl rfl hK2 rfl (by decide) (fun K4 I4 hK4 fa4 z4 => ?_)
  have r4 : ∀ q, I4 59 q = 0 := fun q => by rw [fa4 59 (by decide)]; exact r0 q
  have fr4 : ∀ x, x ∉ [59, 62] → I4 x = I x := fun x hx => by simp at hx; rw [fa4 x (by omega)]; try exact fr0 x (by simp; omega)
  have hF5 := hF3.mono (b' := 63) (by decide)
  refine Wp.cpR rfl rfl hK4 hF5 (by decide) rfl rfl rfl rfl (fun F6 hF6 => ?_)
  refine Wp.go (x := (.aload_n 0, 1, 0, 0)) rfl 14 [some (.ref 59), some (.int x)] [.ref 59] rfl ⟨rfl, rfl, rfl, rfl⟩ ?_
  refine Wp.sp (v := nI 1024) rfl rfl (by decide) ?_
  have hK7 := hK4.skip rfl
  have hF8 := hF6.mono (b' := 64) (by decide)
  refine Wp.mni (a := 64) rfl rfl hK7 rfl (by decide) (fun K9 I9 hK9 fa9 z9 => ?_)
  have r9 : ∀ q, I9 59 q = 0 := fun q => by rw [fa9 59 (by decide)]; exact r4 q
  have fr9 : ∀ x, x ∉ [59, 62, 64] → I9 x = I x := fun x hx => by simp at hx; rw [fa9 x (by omega)]; try exact fr4 x (by simp; omega)
  have hF10 := hF8.mono (b' := 65) (by decide)
  refine Wp.cpR rfl rfl hK9 hF10 (by decide) rfl rfl rfl rfl (fun F11 hF11 => ?_)
  refine Wp.go (x := (.aload_n 0, 1, 0, 0)) rfl 23 [some (.ref 59), some (.int x)] [.ref 59] rfl ⟨rfl, rfl, rfl, rfl⟩ ?_
  refine Wp.bp (v := nI 8) rfl rfl (by decide) ?_
  refine Wp.mpI rfl rfl hK9 (by decide) rfl rfl (Or.inl rfl) (fun I12 fa12 z12 => ?_)
  have r12 : ∀ q, I12 59 q = if q = 5 then nI 8 else 0 := fun q => by
    rw [z12 q]
    by_cases e : q = 5
    · rw [if_pos e, if_pos e]
    · rw [if_neg e, if_neg e]
      exact r9 q
  have fr12 : ∀ x, x ∉ [59, 62, 64] → I12 x = I x := fun x hx => by simp at hx; rw [fa12 x (by omega)]; try exact fr9 x (by simp; omega)
  refine Wp.go (x := (.aload_n 0, 1, 0, 0)) rfl 29 [some (.ref 59), some (.int x)] [.ref 59] rfl ⟨rfl, rfl, rfl, rfl⟩ ?_
  refine Wp.bp (v := nI 12) rfl rfl (by decide) ?_
  have hK13 := hK9.skip rfl
  have hF14 := hF11.mono (b' := 66) (by decide)
  refine Wp.mni (a := 66) rfl rfl hK13 rfl (by decide) (fun K15 I15 hK15 fa15 z15 => ?_)
  have r15 : ∀ q, I15 59 q = if q = 5 then nI 8 else 0 := fun q => by rw [fa15 59 (by decide)]; exact r12 q
  have fr15 : ∀ x, x ∉ [59, 62, 64, 66] → I15 x = I x := fun x hx => by simp at hx; rw [fa15 x (by omega)]; try exact fr12 x (by simp; omega)
  have hF16 := hF14.mono (b' := 67) (by decide)
  refine Wp.cpR rfl rfl hK15 hF16 (by decide) rfl rfl rfl rfl (fun F17 hF17 => ?_)
  refine Wp.go (x := (.aload_n 0, 1, 0, 0)) rfl 37 [some (.ref 59), some (.int x)] [.ref 59] rfl ⟨rfl, rfl, rfl, rfl⟩ ?_
  refine Wp.bp (v := nI 12) rfl rfl (by decide) ?_
  have hK18 := hK15.skip rfl
  have hF19 := hF17.mono (b' := 68) (by decide)
  refine Wp.mni (a := 68) rfl rfl hK18 rfl (by decide) (fun K20 I20 hK20 fa20 z20 => ?_)
  have r20 : ∀ q, I20 59 q = if q = 5 then nI 8 else 0 := fun q => by rw [fa20 59 (by decide)]; exact r15 q
  have fr20 : ∀ x, x ∉ [59, 62, 64, 66, 68] → I20 x = I x := fun x hx => by simp at hx; rw [fa20 x (by omega)]; try exact fr15 x (by simp; omega)
  have hF21 := hF19.mono (b' := 69) (by decide)
  refine Wp.cpR rfl rfl hK20 hF21 (by decide) rfl rfl rfl rfl (fun F22 hF22 => ?_)
  refine Wp.go (x := (.aload_n 0, 1, 0, 0)) rfl 45 [some (.ref 59), some (.int x)] [.ref 59] rfl ⟨rfl, rfl, rfl, rfl⟩ ?_
  refine Wp.sp (v := nI 301) rfl rfl (by decide) ?_
  have hK23 := hK20.skip rfl
  have hK24 := hK23.skip rfl
  have hK25 := hK24.skip rfl
  have hF26 := hF22.mono (b' := 72) (by decide)
  refine Wp.mni (a := 72) rfl rfl hK25 rfl (by decide) (fun K27 I27 hK27 fa27 z27 => ?_)
  have r27 : ∀ q, I27 59 q = if q = 5 then nI 8 else 0 := fun q => by rw [fa27 59 (by decide)]; exact r20 q
  have fr27 : ∀ x, x ∉ [59, 62, 64, 66, 68, 72] → I27 x = I x := fun x hx => by simp at hx; rw [fa27 x (by omega)]; try exact fr20 x (by simp; omega)
  have hF28 := hF26.mono (b' := 73) (by decide)
  refine Wp.cpR rfl rfl hK27 hF28 (by decide) rfl rfl rfl rfl (fun F29 hF29 => ?_)
  refine Wp.go (x := (.aload_n 0, 1, 0, 0)) rfl 54 [some (.ref 59), some (.int x)] [.ref 59] rfl ⟨rfl, rfl, rfl, rfl⟩ ?_
  refine Wp.sp (v := nI 301) rfl rfl (by decide) ?_
  have hF30 := hF29.mono (b' := 73) (by decide)
  refine Wp.mni (a := 73) rfl rfl hK27 rfl (by decide) (fun K31 I31 hK31 fa31 z31 => ?_)
  have r31 : ∀ q, I31 59 q = if q = 5 then nI 8 else 0 := fun q => by rw [fa31 59 (by decide)]; exact r27 q
  have fr31 : ∀ x, x ∉ [59, 62, 64, 66, 68, 72, 73] → I31 x = I x := fun x hx => by simp at hx; rw [fa31 x (by omega)]; try exact fr27 x (by simp; omega)
  have hF32 := hF30.mono (b' := 74) (by decide)
  refine Wp.cpR rfl rfl hK31 hF32 (by decide) rfl rfl rfl rfl (fun F33 hF33 => ?_)
  refine Wp.go (x := (.aload_n 0, 1, 0, 0)) rfl 63 [some (.ref 59), some (.int x)] [.ref 59] rfl ⟨rfl, rfl, rfl, rfl⟩ ?_
  refine Wp.sp (v := nI 301) rfl rfl (by decide) ?_
  have hF34 := hF33.mono (b' := 74) (by decide)
  refine Wp.mni (a := 74) rfl rfl hK31 rfl (by decide) (fun K35 I35 hK35 fa35 z35 => ?_)
  have r35 : ∀ q, I35 59 q = if q = 5 then nI 8 else 0 := fun q => by rw [fa35 59 (by decide)]; exact r31 q
  have fr35 : ∀ x, x ∉ [59, 62, 64, 66, 68, 72, 73, 74] → I35 x = I x := fun x hx => by simp at hx; rw [fa35 x (by omega)]; try exact fr31 x (by simp; omega)
  have hF36 := hF34.mono (b' := 75) (by decide)
  refine Wp.cpR rfl rfl hK35 hF36 (by decide) rfl rfl rfl rfl (fun F37 hF37 => ?_)
  refine Wp.go (x := (.aload_n 0, 1, 0, 0)) rfl 72 [some (.ref 59), some (.int x)] [.ref 59] rfl ⟨rfl, rfl, rfl, rfl⟩ ?_
  refine Wp.sp (v := nI 301) rfl rfl (by decide) ?_
  have hF38 := hF37.mono (b' := 75) (by decide)
  refine Wp.mni (a := 75) rfl rfl hK35 rfl (by decide) (fun K39 I39 hK39 fa39 z39 => ?_)
  have r39 : ∀ q, I39 59 q = if q = 5 then nI 8 else 0 := fun q => by rw [fa39 59 (by decide)]; exact r35 q
  have fr39 : ∀ x, x ∉ [59, 62, 64, 66, 68, 72, 73, 74, 75] → I39 x = I x := fun x hx => by simp at hx; rw [fa39 x (by omega)]; try exact fr35 x (by simp; omega)
  have hF40 := hF38.mono (b' := 76) (by decide)
  refine Wp.cpR rfl rfl hK39 hF40 (by decide) rfl rfl rfl rfl (fun F41 hF41 => ?_)
  refine Wp.go (x := (.aload_n 0, 1, 0, 0)) rfl 81 [some (.ref 59), some (.int x)] [.ref 59] rfl ⟨rfl, rfl, rfl, rfl⟩ ?_
  refine Wp.ldc (v := nI 90601) rfl rfl (by first | rfl | decide) ?_
  have hK42 := hK39.skip rfl
  have hK43 := hK42.skip rfl
  have hK44 := hK43.skip rfl
  have hF45 := hF41.mono (b' := 79) (by decide)
  refine Wp.mni (a := 79) rfl rfl hK44 rfl (by decide) (fun K46 I46 hK46 fa46 z46 => ?_)
  have r46 : ∀ q, I46 59 q = if q = 5 then nI 8 else 0 := fun q => by rw [fa46 59 (by decide)]; exact r39 q
  have fr46 : ∀ x, x ∉ [59, 62, 64, 66, 68, 72, 73, 74, 75, 79] → I46 x = I x := fun x hx => by simp at hx; rw [fa46 x (by omega)]; try exact fr39 x (by simp; omega)
  have hF47 := hF45.mono (b' := 80) (by decide)
  refine Wp.cpR rfl rfl hK46 hF47 (by decide) rfl rfl rfl rfl (fun F48 hF48 => ?_)
  refine Wp.go (x := (.aload_n 0, 1, 0, 0)) rfl 89 [some (.ref 59), some (.int x)] [.ref 59] rfl ⟨rfl, rfl, rfl, rfl⟩ ?_
  refine Wp.ldc (v := nI 90601) rfl rfl (by first | rfl | decide) ?_
  have hF49 := hF48.mono (b' := 80) (by decide)
  refine Wp.mni (a := 80) rfl rfl hK46 rfl (by decide) (fun K50 I50 hK50 fa50 z50 => ?_)
  have r50 : ∀ q, I50 59 q = if q = 5 then nI 8 else 0 := fun q => by rw [fa50 59 (by decide)]; exact r46 q
  have fr50 : ∀ x, x ∉ [59, 62, 64, 66, 68, 72, 73, 74, 75, 79, 80] → I50 x = I x := fun x hx => by simp at hx; rw [fa50 x (by omega)]; try exact fr46 x (by simp; omega)
  have hF51 := hF49.mono (b' := 81) (by decide)
  refine Wp.cpR rfl rfl hK50 hF51 (by decide) rfl rfl rfl rfl (fun F52 hF52 => ?_)
  refine Wp.go (x := (.aload_n 0, 1, 0, 0)) rfl 97 [some (.ref 59), some (.int x)] [.ref 59] rfl ⟨rfl, rfl, rfl, rfl⟩ ?_
  refine Wp.ic (v := nI 4) rfl rfl (by decide) ?_
  have hF53 := hF52.mono (b' := 81) (by decide)
  refine Wp.mni (a := 81) rfl rfl hK50 rfl (by decide) (fun K54 I54 hK54 fa54 z54 => ?_)
  have r54 : ∀ q, I54 59 q = if q = 5 then nI 8 else 0 := fun q => by rw [fa54 59 (by decide)]; exact r50 q
  have fr54 : ∀ x, x ∉ [59, 62, 64, 66, 68, 72, 73, 74, 75, 79, 80, 81] → I54 x = I x := fun x hx => by simp at hx; rw [fa54 x (by omega)]; try exact fr50 x (by simp; omega)
  have hF55 := hF53.mono (b' := 82) (by decide)
  refine Wp.cpR rfl rfl hK54 hF55 (by decide) rfl rfl rfl rfl (fun F56 hF56 => ?_)
  refine Wp.go (x := (.aload_n 0, 1, 0, 0)) rfl 104 [some (.ref 59), some (.int x)] [.ref 59] rfl ⟨rfl, rfl, rfl, rfl⟩ ?_
  refine Wp.ldc (v := nI 90601) rfl rfl (by first | rfl | decide) ?_
  have hK57 := hK54.skip rfl
  have hF58 := hF56.mono (b' := 83) (by decide)
  refine Wp.mni (a := 83) rfl rfl hK57 rfl (by decide) (fun K59 I59 hK59 fa59 z59 => ?_)
  have r59 : ∀ q, I59 59 q = if q = 5 then nI 8 else 0 := fun q => by rw [fa59 59 (by decide)]; exact r54 q
  have fr59 : ∀ x, x ∉ [59, 62, 64, 66, 68, 72, 73, 74, 75, 79, 80, 81, 83] → I59 x = I x := fun x hx => by simp at hx; rw [fa59 x (by omega)]; try exact fr54 x (by simp; omega)
  have hF60 := hF58.mono (b' := 84) (by decide)
  refine Wp.cpR rfl rfl hK59 hF60 (by decide) rfl rfl rfl rfl (fun F61 hF61 => ?_)
  refine Wp.go (x := (.aload_n 0, 1, 0, 0)) rfl 112 [some (.ref 59), some (.int x)] [.ref 59] rfl ⟨rfl, rfl, rfl, rfl⟩ ?_
  refine Wp.sp (v := nI 301) rfl rfl (by decide) ?_
  have hF62 := hF61.mono (b' := 84) (by decide)
  refine Wp.mni (a := 84) rfl rfl hK59 rfl (by decide) (fun K63 I63 hK63 fa63 z63 => ?_)
  have r63 : ∀ q, I63 59 q = if q = 5 then nI 8 else 0 := fun q => by rw [fa63 59 (by decide)]; exact r59 q
  have fr63 : ∀ x, x ∉ [59, 62, 64, 66, 68, 72, 73, 74, 75, 79, 80, 81, 83, 84] → I63 x = I x := fun x hx => by simp at hx; rw [fa63 x (by omega)]; try exact fr59 x (by simp; omega)
  have hF64 := hF62.mono (b' := 85) (by decide)
  refine Wp.cpR rfl rfl hK63 hF64 (by decide) rfl rfl rfl rfl (fun F65 hF65 => ?_)
  refine Wp.go (x := (.aload_n 0, 1, 0, 0)) rfl 121 [some (.ref 59), some (.int x)] [.ref 59] rfl ⟨rfl, rfl, rfl, rfl⟩ ?_
  refine Wp.sp (v := nI 301) rfl rfl (by decide) ?_
  have hF66 := hF65.mono (b' := 85) (by decide)
  refine Wp.mni (a := 85) rfl rfl hK63 rfl (by decide) (fun K67 I67 hK67 fa67 z67 => ?_)
  have r67 : ∀ q, I67 59 q = if q = 5 then nI 8 else 0 := fun q => by rw [fa67 59 (by decide)]; exact r63 q
  have fr67 : ∀ x, x ∉ [59, 62, 64, 66, 68, 72, 73, 74, 75, 79, 80, 81, 83, 84, 85] → I67 x = I x := fun x hx => by simp at hx; rw [fa67 x (by omega)]; try exact fr63 x (by simp; omega)
  have hF68 := hF66.mono (b' := 86) (by decide)
  refine Wp.cpR rfl rfl hK67 hF68 (by decide) rfl rfl rfl rfl (fun F69 hF69 => ?_)
  refine Wp.go (x := (.aload_n 0, 1, 0, 0)) rfl 130 [some (.ref 59), some (.int x)] [.ref 59] rfl ⟨rfl, rfl, rfl, rfl⟩ ?_
  refine Wp.sp (v := nI 301) rfl rfl (by decide) ?_
  have hF70 := hF69.mono (b' := 86) (by decide)
  refine Wp.mni (a := 86) rfl rfl hK67 rfl (by decide) (fun K71 I71 hK71 fa71 z71 => ?_)
  have r71 : ∀ q, I71 59 q = if q = 5 then nI 8 else 0 := fun q => by rw [fa71 59 (by decide)]; exact r67 q
  have fr71 : ∀ x, x ∉ [59, 62, 64, 66, 68, 72, 73, 74, 75, 79, 80, 81, 83, 84, 85, 86] → I71 x = I x := fun x hx => by simp at hx; rw [fa71 x (by omega)]; try exact fr67 x (by simp; omega)
  have hF72 := hF70.mono (b' := 87) (by decide)
  refine Wp.cpR rfl rfl hK71 hF72 (by decide) rfl rfl rfl rfl (fun F73 hF73 => ?_)
  refine Wp.go (x := (.aload_n 0, 1, 0, 0)) rfl 139 [some (.ref 59), some (.int x)] [.ref 59] rfl ⟨rfl, rfl, rfl, rfl⟩ ?_
  refine Wp.sp (v := nI 301) rfl rfl (by decide) ?_
  have hF74 := hF73.mono (b' := 87) (by decide)
  refine Wp.mnz (a := 87) rfl rfl hK71 rfl (by decide) (fun K75 I75 hK75 fa75 z75 => ?_)
  have r75 : ∀ q, I75 59 q = if q = 5 then nI 8 else 0 := fun q => by rw [fa75 59 (by decide)]; exact r71 q
  have fr75 : ∀ x, x ∉ [59, 62, 64, 66, 68, 72, 73, 74, 75, 79, 80, 81, 83, 84, 85, 86, 87] → I75 x = I x := fun x hx => by simp at hx; rw [fa75 x (by omega)]; try exact fr71 x (by simp; omega)
  have hF76 := hF74.mono (b' := 88) (by decide)
  refine Wp.cpR rfl rfl hK75 hF76 (by decide) rfl rfl rfl rfl (fun F77 hF77 => ?_)
  refine Wp.go (x := (.aload_n 0, 1, 0, 0)) rfl 148 [some (.ref 59), some (.int x)] [.ref 59] rfl ⟨rfl, rfl, rfl, rfl⟩ ?_
  refine Wp.sp (v := nI 301) rfl rfl (by decide) ?_
  have hF78 := hF77.mono (b' := 88) (by decide)
  refine Wp.mni (a := 88) rfl rfl hK75 rfl (by decide) (fun K79 I79 hK79 fa79 z79 => ?_)
  have r79 : ∀ q, I79 59 q = if q = 5 then nI 8 else 0 := fun q => by rw [fa79 59 (by decide)]; exact r75 q
  have fr79 : ∀ x, x ∉ [59, 62, 64, 66, 68, 72, 73, 74, 75, 79, 80, 81, 83, 84, 85, 86, 87, 88] → I79 x = I x := fun x hx => by simp at hx; rw [fa79 x (by omega)]; try exact fr75 x (by simp; omega)
  have hF80 := hF78.mono (b' := 89) (by decide)
  refine Wp.cpR rfl rfl hK79 hF80 (by decide) rfl rfl rfl rfl (fun F81 hF81 => ?_)
  refine Wp.go (x := (.aload_n 0, 1, 0, 0)) rfl 157 [some (.ref 59), some (.int x)] [.ref 59] rfl ⟨rfl, rfl, rfl, rfl⟩ ?_
  refine Wp.sp (v := nI 301) rfl rfl (by decide) ?_
  have hF82 := hF81.mono (b' := 89) (by decide)
  refine Wp.mni (a := 89) rfl rfl hK79 rfl (by decide) (fun K83 I83 hK83 fa83 z83 => ?_)
  have r83 : ∀ q, I83 59 q = if q = 5 then nI 8 else 0 := fun q => by rw [fa83 59 (by decide)]; exact r79 q
  have fr83 : ∀ x, x ∉ [59, 62, 64, 66, 68, 72, 73, 74, 75, 79, 80, 81, 83, 84, 85, 86, 87, 88, 89] → I83 x = I x := fun x hx => by simp at hx; rw [fa83 x (by omega)]; try exact fr79 x (by simp; omega)
  have hF84 := hF82.mono (b' := 90) (by decide)
  refine Wp.cpR rfl rfl hK83 hF84 (by decide) rfl rfl rfl rfl (fun F85 hF85 => ?_)
  refine Wp.go (x := (.aload_n 0, 1, 0, 0)) rfl 166 [some (.ref 59), some (.int x)] [.ref 59] rfl ⟨rfl, rfl, rfl, rfl⟩ ?_
  refine Wp.sp (v := nI 301) rfl rfl (by decide) ?_
  have hF86 := hF85.mono (b' := 90) (by decide)
  refine Wp.mni (a := 90) rfl rfl hK83 rfl (by decide) (fun K87 I87 hK87 fa87 z87 => ?_)
  have r87 : ∀ q, I87 59 q = if q = 5 then nI 8 else 0 := fun q => by rw [fa87 59 (by decide)]; exact r83 q
  have fr87 : ∀ x, x ∉ [59, 62, 64, 66, 68, 72, 73, 74, 75, 79, 80, 81, 83, 84, 85, 86, 87, 88, 89, 90] → I87 x = I x := fun x hx => by simp at hx; rw [fa87 x (by omega)]; try exact fr83 x (by simp; omega)
  have hF88 := hF86.mono (b' := 91) (by decide)
  refine Wp.cpR rfl rfl hK87 hF88 (by decide) rfl rfl rfl rfl (fun F89 hF89 => ?_)
  refine Wp.go (x := (.aload_n 0, 1, 0, 0)) rfl 175 [some (.ref 59), some (.int x)] [.ref 59] rfl ⟨rfl, rfl, rfl, rfl⟩ ?_
  refine Wp.sp (v := nI 301) rfl rfl (by decide) ?_
  have hF90 := hF89.mono (b' := 91) (by decide)
  refine Wp.mni (a := 91) rfl rfl hK87 rfl (by decide) (fun K91 I91 hK91 fa91 z91 => ?_)
  have r91 : ∀ q, I91 59 q = if q = 5 then nI 8 else 0 := fun q => by rw [fa91 59 (by decide)]; exact r87 q
  have fr91 : ∀ x, x ∉ [59, 62, 64, 66, 68, 72, 73, 74, 75, 79, 80, 81, 83, 84, 85, 86, 87, 88, 89, 90, 91] → I91 x = I x := fun x hx => by simp at hx; rw [fa91 x (by omega)]; try exact fr87 x (by simp; omega)
  have hF92 := hF90.mono (b' := 92) (by decide)
  refine Wp.cpR rfl rfl hK91 hF92 (by decide) rfl rfl rfl rfl (fun F93 hF93 => ?_)
  refine Wp.go (x := (.aload_n 0, 1, 0, 0)) rfl 184 [some (.ref 59), some (.int x)] [.ref 59] rfl ⟨rfl, rfl, rfl, rfl⟩ ?_
  refine Wp.sp (v := nI 301) rfl rfl (by decide) ?_
  have hF94 := hF93.mono (b' := 92) (by decide)
  refine Wp.mni (a := 92) rfl rfl hK91 rfl (by decide) (fun K95 I95 hK95 fa95 z95 => ?_)
  have r95 : ∀ q, I95 59 q = if q = 5 then nI 8 else 0 := fun q => by rw [fa95 59 (by decide)]; exact r91 q
  have fr95 : ∀ x, x ∉ [59, 62, 64, 66, 68, 72, 73, 74, 75, 79, 80, 81, 83, 84, 85, 86, 87, 88, 89, 90, 91, 92] → I95 x = I x := fun x hx => by simp at hx; rw [fa95 x (by omega)]; try exact fr91 x (by simp; omega)
  have hF96 := hF94.mono (b' := 93) (by decide)
  refine Wp.cpR rfl rfl hK95 hF96 (by decide) rfl rfl rfl rfl (fun F97 hF97 => ?_)
  refine Wp.go (x := (.aload_n 0, 1, 0, 0)) rfl 193 [some (.ref 59), some (.int x)] [.ref 59] rfl ⟨rfl, rfl, rfl, rfl⟩ ?_
  refine Wp.sp (v := nI 301) rfl rfl (by decide) ?_
  have hF98 := hF97.mono (b' := 93) (by decide)
  refine Wp.mnz (a := 93) rfl rfl hK95 rfl (by decide) (fun K99 I99 hK99 fa99 z99 => ?_)
  have r99 : ∀ q, I99 59 q = if q = 5 then nI 8 else 0 := fun q => by rw [fa99 59 (by decide)]; exact r95 q
  have fr99 : ∀ x, x ∉ [59, 62, 64, 66, 68, 72, 73, 74, 75, 79, 80, 81, 83, 84, 85, 86, 87, 88, 89, 90, 91, 92, 93] → I99 x = I x := fun x hx => by simp at hx; rw [fa99 x (by omega)]; try exact fr95 x (by simp; omega)
  have hF100 := hF98.mono (b' := 94) (by decide)
  refine Wp.cpR rfl rfl hK99 hF100 (by decide) rfl rfl rfl rfl (fun F101 hF101 => ?_)
  refine Wp.go (x := (.aload_n 0, 1, 0, 0)) rfl 202 [some (.ref 59), some (.int x)] [.ref 59] rfl ⟨rfl, rfl, rfl, rfl⟩ ?_
  refine Wp.sp (v := nI 12040) rfl rfl (by decide) ?_
  have hF102 := hF101.mono (b' := 94) (by decide)
  refine Wp.mni (a := 94) rfl rfl hK99 rfl (by decide) (fun K103 I103 hK103 fa103 z103 => ?_)
  have r103 : ∀ q, I103 59 q = if q = 5 then nI 8 else 0 := fun q => by rw [fa103 59 (by decide)]; exact r99 q
  have fr103 : ∀ x, x ∉ [59, 62, 64, 66, 68, 72, 73, 74, 75, 79, 80, 81, 83, 84, 85, 86, 87, 88, 89, 90, 91, 92, 93, 94] → I103 x = I x := fun x hx => by simp at hx; rw [fa103 x (by omega)]; try exact fr99 x (by simp; omega)
  have hF104 := hF102.mono (b' := 95) (by decide)
  refine Wp.cpR rfl rfl hK103 hF104 (by decide) rfl rfl rfl rfl (fun F105 hF105 => ?_)
  refine Wp.go (x := (.aload_n 0, 1, 0, 0)) rfl 211 [some (.ref 59), some (.int x)] [.ref 59] rfl ⟨rfl, rfl, rfl, rfl⟩ ?_
  refine Wp.ldc (v := nI 48160) rfl rfl (by first | rfl | decide) ?_
  have hF106 := hF105.mono (b' := 95) (by decide)
  refine Wp.mni (a := 95) rfl rfl hK103 rfl (by decide) (fun K107 I107 hK107 fa107 z107 => ?_)
  have r107 : ∀ q, I107 59 q = if q = 5 then nI 8 else 0 := fun q => by rw [fa107 59 (by decide)]; exact r103 q
  have fr107 : ∀ x, x ∉ [59, 62, 64, 66, 68, 72, 73, 74, 75, 79, 80, 81, 83, 84, 85, 86, 87, 88, 89, 90, 91, 92, 93, 94, 95] → I107 x = I x := fun x hx => by simp at hx; rw [fa107 x (by omega)]; try exact fr103 x (by simp; omega)
  have hF108 := hF106.mono (b' := 96) (by decide)
  refine Wp.cpR rfl rfl hK107 hF108 (by decide) rfl rfl rfl rfl (fun F109 hF109 => ?_)
  refine Wp.go (x := (.aload_n 0, 1, 0, 0)) rfl 219 [some (.ref 59), some (.int x)] [.ref 59] rfl ⟨rfl, rfl, rfl, rfl⟩ ?_
  refine Wp.sp (v := nI 12040) rfl rfl (by decide) ?_
  have hF110 := hF109.mono (b' := 96) (by decide)
  refine Wp.mni (a := 96) rfl rfl hK107 rfl (by decide) (fun K111 I111 hK111 fa111 z111 => ?_)
  have r111 : ∀ q, I111 59 q = if q = 5 then nI 8 else 0 := fun q => by rw [fa111 59 (by decide)]; exact r107 q
  have fr111 : ∀ x, x ∉ [59, 62, 64, 66, 68, 72, 73, 74, 75, 79, 80, 81, 83, 84, 85, 86, 87, 88, 89, 90, 91, 92, 93, 94, 95, 96] → I111 x = I x := fun x hx => by simp at hx; rw [fa111 x (by omega)]; try exact fr107 x (by simp; omega)
  have hF112 := hF110.mono (b' := 97) (by decide)
  refine Wp.cpR rfl rfl hK111 hF112 (by decide) rfl rfl rfl rfl (fun F113 hF113 => ?_)
  refine Wp.go (x := (.aload_n 0, 1, 0, 0)) rfl 228 [some (.ref 59), some (.int x)] [.ref 59] rfl ⟨rfl, rfl, rfl, rfl⟩ ?_
  refine Wp.sp (v := nI 12040) rfl rfl (by decide) ?_
  have hF114 := hF113.mono (b' := 97) (by decide)
  refine Wp.mni (a := 97) rfl rfl hK111 rfl (by decide) (fun K115 I115 hK115 fa115 z115 => ?_)
  have r115 : ∀ q, I115 59 q = if q = 5 then nI 8 else 0 := fun q => by rw [fa115 59 (by decide)]; exact r111 q
  have fr115 : ∀ x, x ∉ [59, 62, 64, 66, 68, 72, 73, 74, 75, 79, 80, 81, 83, 84, 85, 86, 87, 88, 89, 90, 91, 92, 93, 94, 95, 96, 97] → I115 x = I x := fun x hx => by simp at hx; rw [fa115 x (by omega)]; try exact fr111 x (by simp; omega)
  have hF116 := hF114.mono (b' := 98) (by decide)
  refine Wp.cpR rfl rfl hK115 hF116 (by decide) rfl rfl rfl rfl (fun F117 hF117 => ?_)
  refine Wp.go (x := (.aload_n 0, 1, 0, 0)) rfl 237 [some (.ref 59), some (.int x)] [.ref 59] rfl ⟨rfl, rfl, rfl, rfl⟩ ?_
  refine Wp.sp (v := nI 12040) rfl rfl (by decide) ?_
  have hF118 := hF117.mono (b' := 98) (by decide)
  refine Wp.mni (a := 98) rfl rfl hK115 rfl (by decide) (fun K119 I119 hK119 fa119 z119 => ?_)
  have r119 : ∀ q, I119 59 q = if q = 5 then nI 8 else 0 := fun q => by rw [fa119 59 (by decide)]; exact r115 q
  have fr119 : ∀ x, x ∉ [59, 62, 64, 66, 68, 72, 73, 74, 75, 79, 80, 81, 83, 84, 85, 86, 87, 88, 89, 90, 91, 92, 93, 94, 95, 96, 97, 98] → I119 x = I x := fun x hx => by simp at hx; rw [fa119 x (by omega)]; try exact fr115 x (by simp; omega)
  have hF120 := hF118.mono (b' := 99) (by decide)
  refine Wp.cpR rfl rfl hK119 hF120 (by decide) rfl rfl rfl rfl (fun F121 hF121 => ?_)
  refine Wp.go (x := (.aload_n 0, 1, 0, 0)) rfl 246 [some (.ref 59), some (.int x)] [.ref 59] rfl ⟨rfl, rfl, rfl, rfl⟩ ?_
  refine Wp.sp (v := nI 1024) rfl rfl (by decide) ?_
  have hF122 := hF121.mono (b' := 99) (by decide)
  refine Wp.mni (a := 99) rfl rfl hK119 rfl (by decide) (fun K123 I123 hK123 fa123 z123 => ?_)
  have r123 : ∀ q, I123 59 q = if q = 5 then nI 8 else 0 := fun q => by rw [fa123 59 (by decide)]; exact r119 q
  have fr123 : ∀ x, x ∉ [59, 62, 64, 66, 68, 72, 73, 74, 75, 79, 80, 81, 83, 84, 85, 86, 87, 88, 89, 90, 91, 92, 93, 94, 95, 96, 97, 98, 99] → I123 x = I x := fun x hx => by simp at hx; rw [fa123 x (by omega)]; try exact fr119 x (by simp; omega)
  have hF124 := hF122.mono (b' := 100) (by decide)
  refine Wp.cpR rfl rfl hK123 hF124 (by decide) rfl rfl rfl rfl (fun F125 hF125 => ?_)
  refine Wp.go (x := (.aload_n 0, 1, 0, 0)) rfl 255 [some (.ref 59), some (.int x)] [.ref 59] rfl ⟨rfl, rfl, rfl, rfl⟩ ?_
  refine Wp.sp (v := nI 1024) rfl rfl (by decide) ?_
  have hF126 := hF125.mono (b' := 100) (by decide)
  refine Wp.mni (a := 100) rfl rfl hK123 rfl (by decide) (fun K127 I127 hK127 fa127 z127 => ?_)
  have r127 : ∀ q, I127 59 q = if q = 5 then nI 8 else 0 := fun q => by rw [fa127 59 (by decide)]; exact r123 q
  have fr127 : ∀ x, x ∉ [59, 62, 64, 66, 68, 72, 73, 74, 75, 79, 80, 81, 83, 84, 85, 86, 87, 88, 89, 90, 91, 92, 93, 94, 95, 96, 97, 98, 99, 100] → I127 x = I x := fun x hx => by simp at hx; rw [fa127 x (by omega)]; try exact fr123 x (by simp; omega)
  have hF128 := hF126.mono (b' := 101) (by decide)
  refine Wp.cpR rfl rfl hK127 hF128 (by decide) rfl rfl rfl rfl (fun F129 hF129 => ?_)
  refine Wp.go (x := (.aload_n 0, 1, 0, 0)) rfl 264 [some (.ref 59), some (.int x)] [.ref 59] rfl ⟨rfl, rfl, rfl, rfl⟩ ?_
  refine Wp.sp (v := nI 301) rfl rfl (by decide) ?_
  have hF130 := hF129.mono (b' := 101) (by decide)
  refine Wp.mni (a := 101) rfl rfl hK127 rfl (by decide) (fun K131 I131 hK131 fa131 z131 => ?_)
  have r131 : ∀ q, I131 59 q = if q = 5 then nI 8 else 0 := fun q => by rw [fa131 59 (by decide)]; exact r127 q
  have fr131 : ∀ x, x ∉ [59, 62, 64, 66, 68, 72, 73, 74, 75, 79, 80, 81, 83, 84, 85, 86, 87, 88, 89, 90, 91, 92, 93, 94, 95, 96, 97, 98, 99, 100, 101] → I131 x = I x := fun x hx => by simp at hx; rw [fa131 x (by omega)]; try exact fr127 x (by simp; omega)
  have hF132 := hF130.mono (b' := 102) (by decide)
  refine Wp.cpR rfl rfl hK131 hF132 (by decide) rfl rfl rfl rfl (fun F133 hF133 => ?_)
  refine Wp.go (x := (.aload_n 0, 1, 0, 0)) rfl 273 [some (.ref 59), some (.int x)] [.ref 59] rfl ⟨rfl, rfl, rfl, rfl⟩ ?_
  refine Wp.sp (v := nI 301) rfl rfl (by decide) ?_
  have hF134 := hF133.mono (b' := 102) (by decide)
  refine Wp.mni (a := 102) rfl rfl hK131 rfl (by decide) (fun K135 I135 hK135 fa135 z135 => ?_)
  have r135 : ∀ q, I135 59 q = if q = 5 then nI 8 else 0 := fun q => by rw [fa135 59 (by decide)]; exact r131 q
  have fr135 : ∀ x, x ∉ [59, 62, 64, 66, 68, 72, 73, 74, 75, 79, 80, 81, 83, 84, 85, 86, 87, 88, 89, 90, 91, 92, 93, 94, 95, 96, 97, 98, 99, 100, 101, 102] → I135 x = I x := fun x hx => by simp at hx; rw [fa135 x (by omega)]; try exact fr131 x (by simp; omega)
  have hF136 := hF134.mono (b' := 103) (by decide)
  refine Wp.cpR rfl rfl hK135 hF136 (by decide) rfl rfl rfl rfl (fun F137 hF137 => ?_)
  refine Wp.go (x := (.aload_n 0, 1, 0, 0)) rfl 282 [some (.ref 59), some (.int x)] [.ref 59] rfl ⟨rfl, rfl, rfl, rfl⟩ ?_
  refine Wp.sp (v := nI 301) rfl rfl (by decide) ?_
  have hF138 := hF137.mono (b' := 103) (by decide)
  refine Wp.mni (a := 103) rfl rfl hK135 rfl (by decide) (fun K139 I139 hK139 fa139 z139 => ?_)
  have r139 : ∀ q, I139 59 q = if q = 5 then nI 8 else 0 := fun q => by rw [fa139 59 (by decide)]; exact r135 q
  have fr139 : ∀ x, x ∉ [59, 62, 64, 66, 68, 72, 73, 74, 75, 79, 80, 81, 83, 84, 85, 86, 87, 88, 89, 90, 91, 92, 93, 94, 95, 96, 97, 98, 99, 100, 101, 102, 103] → I139 x = I x := fun x hx => by simp at hx; rw [fa139 x (by omega)]; try exact fr135 x (by simp; omega)
  have hF140 := hF138.mono (b' := 104) (by decide)
  refine Wp.cpR rfl rfl hK139 hF140 (by decide) rfl rfl rfl rfl (fun F141 hF141 => ?_)
  refine Wp.go (x := (.aload_n 0, 1, 0, 0)) rfl 291 [some (.ref 59), some (.int x)] [.ref 59] rfl ⟨rfl, rfl, rfl, rfl⟩ ?_
  refine Wp.sp (v := nI 301) rfl rfl (by decide) ?_
  have hF142 := hF141.mono (b' := 104) (by decide)
  refine Wp.mni (a := 104) rfl rfl hK139 rfl (by decide) (fun K143 I143 hK143 fa143 z143 => ?_)
  have r143 : ∀ q, I143 59 q = if q = 5 then nI 8 else 0 := fun q => by rw [fa143 59 (by decide)]; exact r139 q
  have fr143 : ∀ x, x ∉ [59, 62, 64, 66, 68, 72, 73, 74, 75, 79, 80, 81, 83, 84, 85, 86, 87, 88, 89, 90, 91, 92, 93, 94, 95, 96, 97, 98, 99, 100, 101, 102, 103, 104] → I143 x = I x := fun x hx => by simp at hx; rw [fa143 x (by omega)]; try exact fr139 x (by simp; omega)
  have hF144 := hF142.mono (b' := 105) (by decide)
  refine Wp.cpR rfl rfl hK143 hF144 (by decide) rfl rfl rfl rfl (fun F145 hF145 => ?_)
  refine Wp.go (x := (.aload_n 0, 1, 0, 0)) rfl 300 [some (.ref 59), some (.int x)] [.ref 59] rfl ⟨rfl, rfl, rfl, rfl⟩ ?_
  refine Wp.sp (v := nI 301) rfl rfl (by decide) ?_
  have hF146 := hF145.mono (b' := 105) (by decide)
  refine Wp.mni (a := 105) rfl rfl hK143 rfl (by decide) (fun K147 I147 hK147 fa147 z147 => ?_)
  have r147 : ∀ q, I147 59 q = if q = 5 then nI 8 else 0 := fun q => by rw [fa147 59 (by decide)]; exact r143 q
  have fr147 : ∀ x, x ∉ [59, 62, 64, 66, 68, 72, 73, 74, 75, 79, 80, 81, 83, 84, 85, 86, 87, 88, 89, 90, 91, 92, 93, 94, 95, 96, 97, 98, 99, 100, 101, 102, 103, 104, 105] → I147 x = I x := fun x hx => by simp at hx; rw [fa147 x (by omega)]; try exact fr143 x (by simp; omega)
  have hF148 := hF146.mono (b' := 106) (by decide)
  refine Wp.cpR rfl rfl hK147 hF148 (by decide) rfl rfl rfl rfl (fun F149 hF149 => ?_)
  refine Wp.go (x := (.aload_n 0, 1, 0, 0)) rfl 309 [some (.ref 59), some (.int x)] [.ref 59] rfl ⟨rfl, rfl, rfl, rfl⟩ ?_
  refine Wp.sp (v := nI 196) rfl rfl (by decide) ?_
  have hF150 := hF149.mono (b' := 106) (by decide)
  refine Wp.mnl (a := 106) rfl rfl hK147 rfl (by decide) (fun K151 J151 hK151 => ?_)
  have hF152 := hF150.mono (b' := 107) (by decide)
  refine Wp.cpR rfl rfl hK151 hF152 (by decide) rfl rfl rfl rfl (fun F153 hF153 => ?_)
  refine Wp.go (x := (.aload_n 0, 1, 0, 0)) rfl 318 [some (.ref 59), some (.int (x))] [.ref 59] rfl ⟨rfl, rfl, rfl, rfl⟩ ?_
  refine Wp.go (x := (.iload_n 1, 1, 0, 0)) rfl 319 [some (.ref 59), some (.int (x))] [.int (x), .ref 59] rfl ⟨rfl, rfl, rfl, rfl⟩ ?_
  refine Wp.z_ge rfl rfl ⟨fun c => absurd (Int32.lt_of_lt_of_le hx c) Int32.lt_irrefl, fun c => ?_⟩
  refine Wp.ic (v := nI 0) rfl rfl (by decide) ?_
  refine Wp.go (x := (.goto 13, 3, 336, 0)) rfl 336 [some (.ref 59), some (.int (x))] [.int (nI 0), .ref 59] rfl ⟨rfl, rfl, rfl, rfl⟩ ?_
  refine Wp.mpI rfl rfl hK151 (by decide) rfl rfl (Or.inl rfl) (fun I154 fa154 z154 => ?_)
  have r154 : ∀ q, I154 59 q = if q = 1 then nI 0 else if q = 5 then nI 8 else 0 := fun q => by
    rw [z154 q]
    by_cases e : q = 1
    · rw [if_pos e, if_pos e]
    · rw [if_neg e, if_neg e]
      exact r147 q
  have fr154 : ∀ x, x ∉ [59, 62, 64, 66, 68, 72, 73, 74, 75, 79, 80, 81, 83, 84, 85, 86, 87, 88, 89, 90, 91, 92, 93, 94, 95, 96, 97, 98, 99, 100, 101, 102, 103, 104, 105] → I154 x = I x := fun x hx => by simp at hx; rw [fa154 x (by omega)]; try exact fr147 x (by simp; omega)
  refine Wp.go (x := (.aload_n 0, 1, 0, 0)) rfl 340 [some (.ref 59), some (.int (x))] [.ref 59] rfl ⟨rfl, rfl, rfl, rfl⟩ ?_
  refine Wp.call (x := (.invokevirtual 126, 3, 98, 1)) rfl 98 [.ref 59] [] (by show xtg 98 (K151 59).1 = _; rw [hK151.at (a := 59) (by decide) rfl]; rfl) rfl ⟨Nat.le_of_ble_eq_true rfl, Nat.le_of_ble_eq_true rfl, Nat.le_of_ble_eq_true rfl⟩ rfl rfl rfl ?_
  refine p_startG (K := K151) (hK151.lt (by decide) hL) (hK151.at (by decide) rfl) (hF153.at (by simp) rfl) (hK151.at (by decide) rfl) (fun I155 b155 g155 v155 y155 => ?_)
  show Wp (d + 1) 96 343 [some (.ref 59), some (.int (x))] [] _ Q
  have fr155 : ∀ x, x ∉ [59, 62, 64, 66, 68, 72, 73, 74, 75, 79, 80, 81, 83, 84, 85, 86, 87, 88, 89, 90, 91, 92, 93, 94, 95, 96, 97, 98, 99, 100, 101, 102, 103, 104, 105] → I155 x = I x := fun x hx => by simp at hx; rw [b155 x (by simp; omega)]; exact fr154 x (by simp; omega)
  have r155 : ∀ q, I155 59 q = if q = 5 then nI 8 else if q = 1 then nI 0 else if q = 5 then nI 8 else 0 := fun q => by
    by_cases e : q = 5
    · rw [if_pos e, e]; exact v155
    · rw [if_neg e, g155 q e]; exact r154 q
  exact Wp.rV rfl rfl (k _ _ _ _ _ _ (by omega) (by omega) hK151 hF153 fr155 r155 y155)
set_option maxRecDepth 20000 in
theorem ci_X11_init_59_0eq {L d n1 n2 : Nat} {pl : List Nat} {D : List (Nat × Nat)} {K : Nat → Nat × Nat} {F : Nat → Nat → Option Nat} {I : Nat → Nat → Int32} {J : Nat → Nat → Int64} {Q : Option Value × xS → Prop} (hL : L < 2147483648) (hK : KP 0 L 60 K) (hF : FD 0 60 D F) (r0 : ∀ q, I 59 q = 0) (k : ∀ K' F' I' J' m1 m2, m1 = n1 + 35 → m2 = n2 + 377439 → KP 0 L 107 K' → FD 0 107 ((59, 46) :: (59, 45) :: (59, 44) :: (59, 43) :: (59, 42) :: (59, 41) :: (59, 40) :: (59, 39) :: (59, 38) :: (59, 37) :: (59, 36) :: (59, 35) :: (59, 34) :: (59, 33) :: (59, 32) :: (59, 31) :: (59, 30) :: (59, 29) :: (59, 28) :: (59, 27) :: (59, 26) :: (59, 25) :: (59, 24) :: (59, 23) :: (59, 21) :: (59, 20) :: (59, 19) :: (59, 15) :: (59, 14) :: (59, 13) :: (59, 12) :: (59, 8) :: (59, 6) :: (59, 4) :: (59, 2) :: D) F' → (∀ x, x ∉ [59, 62, 64, 66, 68, 72, 73, 74, 75, 79, 80, 81, 83, 84, 85, 86, 87, 88, 89, 90, 91, 92, 93, 94, 95, 96, 97, 98, 99, 100, 101, 102, 103, 104, 105] → I' x = I x) → (∀ q, I' 59 q = if q = 5 then nI 8 else if q = 1 then nI 0 else if q = 5 then nI 8 else 0) → (∀ k s, k < 4 → s < SY k → I' 64 (256 * k + s) = nI (V0 k s)) → Q (none, (K', (pl, m1, m2), I', J', F'))) : Wp (d + 1) 96 0 [some (.ref 59), some (.int (nI 0))] [] (K, (62 :: 64 :: 66 :: 68 :: 72 :: 73 :: 74 :: 75 :: 79 :: 80 :: 81 :: 83 :: 84 :: 85 :: 86 :: 87 :: 88 :: 89 :: 90 :: 91 :: 92 :: 93 :: 94 :: 95 :: 96 :: 97 :: 98 :: 99 :: 100 :: 101 :: 102 :: 103 :: 104 :: 105 :: 106 :: pl, n1, n2), I, J, F) Q := by
  have fr0 : ∀ x, x ∉ [59] → I x = I x := fun _ _ => rfl
  refine Wp.go (x := (.aload_n 0, 1, 0, 0)) rfl 1 [some (.ref 59), some (.int (nI 0))] [.ref 59] rfl ⟨rfl, rfl, rfl, rfl⟩ ?_
  refine Wp.obj rfl rfl rfl (by omega) (Nat.le_of_ble_eq_true rfl) ?_
  refine Wp.go (x := (.aload_n 0, 1, 0, 0)) rfl 5 [some (.ref 59), some (.int (nI 0))] [.ref 59] rfl ⟨rfl, rfl, rfl, rfl⟩ ?_
  refine Wp.sp (v := nI 301) rfl rfl (by decide) ?_
  have hK1 := hK.skip rfl
  have hK2 := hK1.skip rfl
  have hF3 := hF.mono (b' := 62) (by decide)
  refine Wp.mni (a := 62) rfl rfl hK2 rfl (by decide) (fun K4 I4 hK4 fa4 z4 => ?_)
  have r4 : ∀ q, I4 59 q = 0 := fun q => by rw [fa4 59 (by decide)]; exact r0 q
  have fr4 : ∀ x, x ∉ [59, 62] → I4 x = I x := fun x hx => by simp at hx; rw [fa4 x (by omega)]; try exact fr0 x (by simp; omega)
  have hF5 := hF3.mono (b' := 63) (by decide)
  refine Wp.cpR rfl rfl hK4 hF5 (by decide) rfl rfl rfl rfl (fun F6 hF6 => ?_)
  refine Wp.go (x := (.aload_n 0, 1, 0, 0)) rfl 14 [some (.ref 59), some (.int (nI 0))] [.ref 59] rfl ⟨rfl, rfl, rfl, rfl⟩ ?_
  refine Wp.sp (v := nI 1024) rfl rfl (by decide) ?_
  have hK7 := hK4.skip rfl
  have hF8 := hF6.mono (b' := 64) (by decide)
  refine Wp.mni (a := 64) rfl rfl hK7 rfl (by decide) (fun K9 I9 hK9 fa9 z9 => ?_)
  have r9 : ∀ q, I9 59 q = 0 := fun q => by rw [fa9 59 (by decide)]; exact r4 q
  have fr9 : ∀ x, x ∉ [59, 62, 64] → I9 x = I x := fun x hx => by simp at hx; rw [fa9 x (by omega)]; try exact fr4 x (by simp; omega)
  have hF10 := hF8.mono (b' := 65) (by decide)
  refine Wp.cpR rfl rfl hK9 hF10 (by decide) rfl rfl rfl rfl (fun F11 hF11 => ?_)
  refine Wp.go (x := (.aload_n 0, 1, 0, 0)) rfl 23 [some (.ref 59), some (.int (nI 0))] [.ref 59] rfl ⟨rfl, rfl, rfl, rfl⟩ ?_
  refine Wp.bp (v := nI 8) rfl rfl (by decide) ?_
  refine Wp.mpI rfl rfl hK9 (by decide) rfl rfl (Or.inl rfl) (fun I12 fa12 z12 => ?_)
  have r12 : ∀ q, I12 59 q = if q = 5 then nI 8 else 0 := fun q => by
    rw [z12 q]
    by_cases e : q = 5
    · rw [if_pos e, if_pos e]
    · rw [if_neg e, if_neg e]
      exact r9 q
  have fr12 : ∀ x, x ∉ [59, 62, 64] → I12 x = I x := fun x hx => by simp at hx; rw [fa12 x (by omega)]; try exact fr9 x (by simp; omega)
  refine Wp.go (x := (.aload_n 0, 1, 0, 0)) rfl 29 [some (.ref 59), some (.int (nI 0))] [.ref 59] rfl ⟨rfl, rfl, rfl, rfl⟩ ?_
  refine Wp.bp (v := nI 12) rfl rfl (by decide) ?_
  have hK13 := hK9.skip rfl
  have hF14 := hF11.mono (b' := 66) (by decide)
  refine Wp.mni (a := 66) rfl rfl hK13 rfl (by decide) (fun K15 I15 hK15 fa15 z15 => ?_)
  have r15 : ∀ q, I15 59 q = if q = 5 then nI 8 else 0 := fun q => by rw [fa15 59 (by decide)]; exact r12 q
  have fr15 : ∀ x, x ∉ [59, 62, 64, 66] → I15 x = I x := fun x hx => by simp at hx; rw [fa15 x (by omega)]; try exact fr12 x (by simp; omega)
  have hF16 := hF14.mono (b' := 67) (by decide)
  refine Wp.cpR rfl rfl hK15 hF16 (by decide) rfl rfl rfl rfl (fun F17 hF17 => ?_)
  refine Wp.go (x := (.aload_n 0, 1, 0, 0)) rfl 37 [some (.ref 59), some (.int (nI 0))] [.ref 59] rfl ⟨rfl, rfl, rfl, rfl⟩ ?_
  refine Wp.bp (v := nI 12) rfl rfl (by decide) ?_
  have hK18 := hK15.skip rfl
  have hF19 := hF17.mono (b' := 68) (by decide)
  refine Wp.mni (a := 68) rfl rfl hK18 rfl (by decide) (fun K20 I20 hK20 fa20 z20 => ?_)
  have r20 : ∀ q, I20 59 q = if q = 5 then nI 8 else 0 := fun q => by rw [fa20 59 (by decide)]; exact r15 q
  have fr20 : ∀ x, x ∉ [59, 62, 64, 66, 68] → I20 x = I x := fun x hx => by simp at hx; rw [fa20 x (by omega)]; try exact fr15 x (by simp; omega)
  have hF21 := hF19.mono (b' := 69) (by decide)
  refine Wp.cpR rfl rfl hK20 hF21 (by decide) rfl rfl rfl rfl (fun F22 hF22 => ?_)
  refine Wp.go (x := (.aload_n 0, 1, 0, 0)) rfl 45 [some (.ref 59), some (.int (nI 0))] [.ref 59] rfl ⟨rfl, rfl, rfl, rfl⟩ ?_
  refine Wp.sp (v := nI 301) rfl rfl (by decide) ?_
  have hK23 := hK20.skip rfl
  have hK24 := hK23.skip rfl
  have hK25 := hK24.skip rfl
  have hF26 := hF22.mono (b' := 72) (by decide)
  refine Wp.mni (a := 72) rfl rfl hK25 rfl (by decide) (fun K27 I27 hK27 fa27 z27 => ?_)
  have r27 : ∀ q, I27 59 q = if q = 5 then nI 8 else 0 := fun q => by rw [fa27 59 (by decide)]; exact r20 q
  have fr27 : ∀ x, x ∉ [59, 62, 64, 66, 68, 72] → I27 x = I x := fun x hx => by simp at hx; rw [fa27 x (by omega)]; try exact fr20 x (by simp; omega)
  have hF28 := hF26.mono (b' := 73) (by decide)
  refine Wp.cpR rfl rfl hK27 hF28 (by decide) rfl rfl rfl rfl (fun F29 hF29 => ?_)
  refine Wp.go (x := (.aload_n 0, 1, 0, 0)) rfl 54 [some (.ref 59), some (.int (nI 0))] [.ref 59] rfl ⟨rfl, rfl, rfl, rfl⟩ ?_
  refine Wp.sp (v := nI 301) rfl rfl (by decide) ?_
  have hF30 := hF29.mono (b' := 73) (by decide)
  refine Wp.mni (a := 73) rfl rfl hK27 rfl (by decide) (fun K31 I31 hK31 fa31 z31 => ?_)
  have r31 : ∀ q, I31 59 q = if q = 5 then nI 8 else 0 := fun q => by rw [fa31 59 (by decide)]; exact r27 q
  have fr31 : ∀ x, x ∉ [59, 62, 64, 66, 68, 72, 73] → I31 x = I x := fun x hx => by simp at hx; rw [fa31 x (by omega)]; try exact fr27 x (by simp; omega)
  have hF32 := hF30.mono (b' := 74) (by decide)
  refine Wp.cpR rfl rfl hK31 hF32 (by decide) rfl rfl rfl rfl (fun F33 hF33 => ?_)
  refine Wp.go (x := (.aload_n 0, 1, 0, 0)) rfl 63 [some (.ref 59), some (.int (nI 0))] [.ref 59] rfl ⟨rfl, rfl, rfl, rfl⟩ ?_
  refine Wp.sp (v := nI 301) rfl rfl (by decide) ?_
  have hF34 := hF33.mono (b' := 74) (by decide)
  refine Wp.mni (a := 74) rfl rfl hK31 rfl (by decide) (fun K35 I35 hK35 fa35 z35 => ?_)
  have r35 : ∀ q, I35 59 q = if q = 5 then nI 8 else 0 := fun q => by rw [fa35 59 (by decide)]; exact r31 q
  have fr35 : ∀ x, x ∉ [59, 62, 64, 66, 68, 72, 73, 74] → I35 x = I x := fun x hx => by simp at hx; rw [fa35 x (by omega)]; try exact fr31 x (by simp; omega)
  have hF36 := hF34.mono (b' := 75) (by decide)
  refine Wp.cpR rfl rfl hK35 hF36 (by decide) rfl rfl rfl rfl (fun F37 hF37 => ?_)
  refine Wp.go (x := (.aload_n 0, 1, 0, 0)) rfl 72 [some (.ref 59), some (.int (nI 0))] [.ref 59] rfl ⟨rfl, rfl, rfl, rfl⟩ ?_
  refine Wp.sp (v := nI 301) rfl rfl (by decide) ?_
  have hF38 := hF37.mono (b' := 75) (by decide)
  refine Wp.mni (a := 75) rfl rfl hK35 rfl (by decide) (fun K39 I39 hK39 fa39 z39 => ?_)
  have r39 : ∀ q, I39 59 q = if q = 5 then nI 8 else 0 := fun q => by rw [fa39 59 (by decide)]; exact r35 q
  have fr39 : ∀ x, x ∉ [59, 62, 64, 66, 68, 72, 73, 74, 75] → I39 x = I x := fun x hx => by simp at hx; rw [fa39 x (by omega)]; try exact fr35 x (by simp; omega)
  have hF40 := hF38.mono (b' := 76) (by decide)
  refine Wp.cpR rfl rfl hK39 hF40 (by decide) rfl rfl rfl rfl (fun F41 hF41 => ?_)
  refine Wp.go (x := (.aload_n 0, 1, 0, 0)) rfl 81 [some (.ref 59), some (.int (nI 0))] [.ref 59] rfl ⟨rfl, rfl, rfl, rfl⟩ ?_
  refine Wp.ldc (v := nI 90601) rfl rfl (by first | rfl | decide) ?_
  have hK42 := hK39.skip rfl
  have hK43 := hK42.skip rfl
  have hK44 := hK43.skip rfl
  have hF45 := hF41.mono (b' := 79) (by decide)
  refine Wp.mni (a := 79) rfl rfl hK44 rfl (by decide) (fun K46 I46 hK46 fa46 z46 => ?_)
  have r46 : ∀ q, I46 59 q = if q = 5 then nI 8 else 0 := fun q => by rw [fa46 59 (by decide)]; exact r39 q
  have fr46 : ∀ x, x ∉ [59, 62, 64, 66, 68, 72, 73, 74, 75, 79] → I46 x = I x := fun x hx => by simp at hx; rw [fa46 x (by omega)]; try exact fr39 x (by simp; omega)
  have hF47 := hF45.mono (b' := 80) (by decide)
  refine Wp.cpR rfl rfl hK46 hF47 (by decide) rfl rfl rfl rfl (fun F48 hF48 => ?_)
  refine Wp.go (x := (.aload_n 0, 1, 0, 0)) rfl 89 [some (.ref 59), some (.int (nI 0))] [.ref 59] rfl ⟨rfl, rfl, rfl, rfl⟩ ?_
  refine Wp.ldc (v := nI 90601) rfl rfl (by first | rfl | decide) ?_
  have hF49 := hF48.mono (b' := 80) (by decide)
  refine Wp.mni (a := 80) rfl rfl hK46 rfl (by decide) (fun K50 I50 hK50 fa50 z50 => ?_)
  have r50 : ∀ q, I50 59 q = if q = 5 then nI 8 else 0 := fun q => by rw [fa50 59 (by decide)]; exact r46 q
  have fr50 : ∀ x, x ∉ [59, 62, 64, 66, 68, 72, 73, 74, 75, 79, 80] → I50 x = I x := fun x hx => by simp at hx; rw [fa50 x (by omega)]; try exact fr46 x (by simp; omega)
  have hF51 := hF49.mono (b' := 81) (by decide)
  refine Wp.cpR rfl rfl hK50 hF51 (by decide) rfl rfl rfl rfl (fun F52 hF52 => ?_)
  refine Wp.go (x := (.aload_n 0, 1, 0, 0)) rfl 97 [some (.ref 59), some (.int (nI 0))] [.ref 59] rfl ⟨rfl, rfl, rfl, rfl⟩ ?_
  refine Wp.ic (v := nI 4) rfl rfl (by decide) ?_
  have hF53 := hF52.mono (b' := 81) (by decide)
  refine Wp.mni (a := 81) rfl rfl hK50 rfl (by decide) (fun K54 I54 hK54 fa54 z54 => ?_)
  have r54 : ∀ q, I54 59 q = if q = 5 then nI 8 else 0 := fun q => by rw [fa54 59 (by decide)]; exact r50 q
  have fr54 : ∀ x, x ∉ [59, 62, 64, 66, 68, 72, 73, 74, 75, 79, 80, 81] → I54 x = I x := fun x hx => by simp at hx; rw [fa54 x (by omega)]; try exact fr50 x (by simp; omega)
  have hF55 := hF53.mono (b' := 82) (by decide)
  refine Wp.cpR rfl rfl hK54 hF55 (by decide) rfl rfl rfl rfl (fun F56 hF56 => ?_)
  refine Wp.go (x := (.aload_n 0, 1, 0, 0)) rfl 104 [some (.ref 59), some (.int (nI 0))] [.ref 59] rfl ⟨rfl, rfl, rfl, rfl⟩ ?_
  refine Wp.ldc (v := nI 90601) rfl rfl (by first | rfl | decide) ?_
  have hK57 := hK54.skip rfl
  have hF58 := hF56.mono (b' := 83) (by decide)
  refine Wp.mni (a := 83) rfl rfl hK57 rfl (by decide) (fun K59 I59 hK59 fa59 z59 => ?_)
  have r59 : ∀ q, I59 59 q = if q = 5 then nI 8 else 0 := fun q => by rw [fa59 59 (by decide)]; exact r54 q
  have fr59 : ∀ x, x ∉ [59, 62, 64, 66, 68, 72, 73, 74, 75, 79, 80, 81, 83] → I59 x = I x := fun x hx => by simp at hx; rw [fa59 x (by omega)]; try exact fr54 x (by simp; omega)
  have hF60 := hF58.mono (b' := 84) (by decide)
  refine Wp.cpR rfl rfl hK59 hF60 (by decide) rfl rfl rfl rfl (fun F61 hF61 => ?_)
  refine Wp.go (x := (.aload_n 0, 1, 0, 0)) rfl 112 [some (.ref 59), some (.int (nI 0))] [.ref 59] rfl ⟨rfl, rfl, rfl, rfl⟩ ?_
  refine Wp.sp (v := nI 301) rfl rfl (by decide) ?_
  have hF62 := hF61.mono (b' := 84) (by decide)
  refine Wp.mni (a := 84) rfl rfl hK59 rfl (by decide) (fun K63 I63 hK63 fa63 z63 => ?_)
  have r63 : ∀ q, I63 59 q = if q = 5 then nI 8 else 0 := fun q => by rw [fa63 59 (by decide)]; exact r59 q
  have fr63 : ∀ x, x ∉ [59, 62, 64, 66, 68, 72, 73, 74, 75, 79, 80, 81, 83, 84] → I63 x = I x := fun x hx => by simp at hx; rw [fa63 x (by omega)]; try exact fr59 x (by simp; omega)
  have hF64 := hF62.mono (b' := 85) (by decide)
  refine Wp.cpR rfl rfl hK63 hF64 (by decide) rfl rfl rfl rfl (fun F65 hF65 => ?_)
  refine Wp.go (x := (.aload_n 0, 1, 0, 0)) rfl 121 [some (.ref 59), some (.int (nI 0))] [.ref 59] rfl ⟨rfl, rfl, rfl, rfl⟩ ?_
  refine Wp.sp (v := nI 301) rfl rfl (by decide) ?_
  have hF66 := hF65.mono (b' := 85) (by decide)
  refine Wp.mni (a := 85) rfl rfl hK63 rfl (by decide) (fun K67 I67 hK67 fa67 z67 => ?_)
  have r67 : ∀ q, I67 59 q = if q = 5 then nI 8 else 0 := fun q => by rw [fa67 59 (by decide)]; exact r63 q
  have fr67 : ∀ x, x ∉ [59, 62, 64, 66, 68, 72, 73, 74, 75, 79, 80, 81, 83, 84, 85] → I67 x = I x := fun x hx => by simp at hx; rw [fa67 x (by omega)]; try exact fr63 x (by simp; omega)
  have hF68 := hF66.mono (b' := 86) (by decide)
  refine Wp.cpR rfl rfl hK67 hF68 (by decide) rfl rfl rfl rfl (fun F69 hF69 => ?_)
  refine Wp.go (x := (.aload_n 0, 1, 0, 0)) rfl 130 [some (.ref 59), some (.int (nI 0))] [.ref 59] rfl ⟨rfl, rfl, rfl, rfl⟩ ?_
  refine Wp.sp (v := nI 301) rfl rfl (by decide) ?_
  have hF70 := hF69.mono (b' := 86) (by decide)
  refine Wp.mni (a := 86) rfl rfl hK67 rfl (by decide) (fun K71 I71 hK71 fa71 z71 => ?_)
  have r71 : ∀ q, I71 59 q = if q = 5 then nI 8 else 0 := fun q => by rw [fa71 59 (by decide)]; exact r67 q
  have fr71 : ∀ x, x ∉ [59, 62, 64, 66, 68, 72, 73, 74, 75, 79, 80, 81, 83, 84, 85, 86] → I71 x = I x := fun x hx => by simp at hx; rw [fa71 x (by omega)]; try exact fr67 x (by simp; omega)
  have hF72 := hF70.mono (b' := 87) (by decide)
  refine Wp.cpR rfl rfl hK71 hF72 (by decide) rfl rfl rfl rfl (fun F73 hF73 => ?_)
  refine Wp.go (x := (.aload_n 0, 1, 0, 0)) rfl 139 [some (.ref 59), some (.int (nI 0))] [.ref 59] rfl ⟨rfl, rfl, rfl, rfl⟩ ?_
  refine Wp.sp (v := nI 301) rfl rfl (by decide) ?_
  have hF74 := hF73.mono (b' := 87) (by decide)
  refine Wp.mnz (a := 87) rfl rfl hK71 rfl (by decide) (fun K75 I75 hK75 fa75 z75 => ?_)
  have r75 : ∀ q, I75 59 q = if q = 5 then nI 8 else 0 := fun q => by rw [fa75 59 (by decide)]; exact r71 q
  have fr75 : ∀ x, x ∉ [59, 62, 64, 66, 68, 72, 73, 74, 75, 79, 80, 81, 83, 84, 85, 86, 87] → I75 x = I x := fun x hx => by simp at hx; rw [fa75 x (by omega)]; try exact fr71 x (by simp; omega)
  have hF76 := hF74.mono (b' := 88) (by decide)
  refine Wp.cpR rfl rfl hK75 hF76 (by decide) rfl rfl rfl rfl (fun F77 hF77 => ?_)
  refine Wp.go (x := (.aload_n 0, 1, 0, 0)) rfl 148 [some (.ref 59), some (.int (nI 0))] [.ref 59] rfl ⟨rfl, rfl, rfl, rfl⟩ ?_
  refine Wp.sp (v := nI 301) rfl rfl (by decide) ?_
  have hF78 := hF77.mono (b' := 88) (by decide)
  refine Wp.mni (a := 88) rfl rfl hK75 rfl (by decide) (fun K79 I79 hK79 fa79 z79 => ?_)
  have r79 : ∀ q, I79 59 q = if q = 5 then nI 8 else 0 := fun q => by rw [fa79 59 (by decide)]; exact r75 q
  have fr79 : ∀ x, x ∉ [59, 62, 64, 66, 68, 72, 73, 74, 75, 79, 80, 81, 83, 84, 85, 86, 87, 88] → I79 x = I x := fun x hx => by simp at hx; rw [fa79 x (by omega)]; try exact fr75 x (by simp; omega)
  have hF80 := hF78.mono (b' := 89) (by decide)
  refine Wp.cpR rfl rfl hK79 hF80 (by decide) rfl rfl rfl rfl (fun F81 hF81 => ?_)
  refine Wp.go (x := (.aload_n 0, 1, 0, 0)) rfl 157 [some (.ref 59), some (.int (nI 0))] [.ref 59] rfl ⟨rfl, rfl, rfl, rfl⟩ ?_
  refine Wp.sp (v := nI 301) rfl rfl (by decide) ?_
  have hF82 := hF81.mono (b' := 89) (by decide)
  refine Wp.mni (a := 89) rfl rfl hK79 rfl (by decide) (fun K83 I83 hK83 fa83 z83 => ?_)
  have r83 : ∀ q, I83 59 q = if q = 5 then nI 8 else 0 := fun q => by rw [fa83 59 (by decide)]; exact r79 q
  have fr83 : ∀ x, x ∉ [59, 62, 64, 66, 68, 72, 73, 74, 75, 79, 80, 81, 83, 84, 85, 86, 87, 88, 89] → I83 x = I x := fun x hx => by simp at hx; rw [fa83 x (by omega)]; try exact fr79 x (by simp; omega)
  have hF84 := hF82.mono (b' := 90) (by decide)
  refine Wp.cpR rfl rfl hK83 hF84 (by decide) rfl rfl rfl rfl (fun F85 hF85 => ?_)
  refine Wp.go (x := (.aload_n 0, 1, 0, 0)) rfl 166 [some (.ref 59), some (.int (nI 0))] [.ref 59] rfl ⟨rfl, rfl, rfl, rfl⟩ ?_
  refine Wp.sp (v := nI 301) rfl rfl (by decide) ?_
  have hF86 := hF85.mono (b' := 90) (by decide)
  refine Wp.mni (a := 90) rfl rfl hK83 rfl (by decide) (fun K87 I87 hK87 fa87 z87 => ?_)
  have r87 : ∀ q, I87 59 q = if q = 5 then nI 8 else 0 := fun q => by rw [fa87 59 (by decide)]; exact r83 q
  have fr87 : ∀ x, x ∉ [59, 62, 64, 66, 68, 72, 73, 74, 75, 79, 80, 81, 83, 84, 85, 86, 87, 88, 89, 90] → I87 x = I x := fun x hx => by simp at hx; rw [fa87 x (by omega)]; try exact fr83 x (by simp; omega)
  have hF88 := hF86.mono (b' := 91) (by decide)
  refine Wp.cpR rfl rfl hK87 hF88 (by decide) rfl rfl rfl rfl (fun F89 hF89 => ?_)
  refine Wp.go (x := (.aload_n 0, 1, 0, 0)) rfl 175 [some (.ref 59), some (.int (nI 0))] [.ref 59] rfl ⟨rfl, rfl, rfl, rfl⟩ ?_
  refine Wp.sp (v := nI 301) rfl rfl (by decide) ?_
  have hF90 := hF89.mono (b' := 91) (by decide)
  refine Wp.mni (a := 91) rfl rfl hK87 rfl (by decide) (fun K91 I91 hK91 fa91 z91 => ?_)
  have r91 : ∀ q, I91 59 q = if q = 5 then nI 8 else 0 := fun q => by rw [fa91 59 (by decide)]; exact r87 q
  have fr91 : ∀ x, x ∉ [59, 62, 64, 66, 68, 72, 73, 74, 75, 79, 80, 81, 83, 84, 85, 86, 87, 88, 89, 90, 91] → I91 x = I x := fun x hx => by simp at hx; rw [fa91 x (by omega)]; try exact fr87 x (by simp; omega)
  have hF92 := hF90.mono (b' := 92) (by decide)
  refine Wp.cpR rfl rfl hK91 hF92 (by decide) rfl rfl rfl rfl (fun F93 hF93 => ?_)
  refine Wp.go (x := (.aload_n 0, 1, 0, 0)) rfl 184 [some (.ref 59), some (.int (nI 0))] [.ref 59] rfl ⟨rfl, rfl, rfl, rfl⟩ ?_
  refine Wp.sp (v := nI 301) rfl rfl (by decide) ?_
  have hF94 := hF93.mono (b' := 92) (by decide)
  refine Wp.mni (a := 92) rfl rfl hK91 rfl (by decide) (fun K95 I95 hK95 fa95 z95 => ?_)
  have r95 : ∀ q, I95 59 q = if q = 5 then nI 8 else 0 := fun q => by rw [fa95 59 (by decide)]; exact r91 q
  have fr95 : ∀ x, x ∉ [59, 62, 64, 66, 68, 72, 73, 74, 75, 79, 80, 81, 83, 84, 85, 86, 87, 88, 89, 90, 91, 92] → I95 x = I x := fun x hx => by simp at hx; rw [fa95 x (by omega)]; try exact fr91 x (by simp; omega)
  have hF96 := hF94.mono (b' := 93) (by decide)
  refine Wp.cpR rfl rfl hK95 hF96 (by decide) rfl rfl rfl rfl (fun F97 hF97 => ?_)
  refine Wp.go (x := (.aload_n 0, 1, 0, 0)) rfl 193 [some (.ref 59), some (.int (nI 0))] [.ref 59] rfl ⟨rfl, rfl, rfl, rfl⟩ ?_
  refine Wp.sp (v := nI 301) rfl rfl (by decide) ?_
  have hF98 := hF97.mono (b' := 93) (by decide)
  refine Wp.mnz (a := 93) rfl rfl hK95 rfl (by decide) (fun K99 I99 hK99 fa99 z99 => ?_)
  have r99 : ∀ q, I99 59 q = if q = 5 then nI 8 else 0 := fun q => by rw [fa99 59 (by decide)]; exact r95 q
  have fr99 : ∀ x, x ∉ [59, 62, 64, 66, 68, 72, 73, 74, 75, 79, 80, 81, 83, 84, 85, 86, 87, 88, 89, 90, 91, 92, 93] → I99 x = I x := fun x hx => by simp at hx; rw [fa99 x (by omega)]; try exact fr95 x (by simp; omega)
  have hF100 := hF98.mono (b' := 94) (by decide)
  refine Wp.cpR rfl rfl hK99 hF100 (by decide) rfl rfl rfl rfl (fun F101 hF101 => ?_)
  refine Wp.go (x := (.aload_n 0, 1, 0, 0)) rfl 202 [some (.ref 59), some (.int (nI 0))] [.ref 59] rfl ⟨rfl, rfl, rfl, rfl⟩ ?_
  refine Wp.sp (v := nI 12040) rfl rfl (by decide) ?_
  have hF102 := hF101.mono (b' := 94) (by decide)
  refine Wp.mni (a := 94) rfl rfl hK99 rfl (by decide) (fun K103 I103 hK103 fa103 z103 => ?_)
  have r103 : ∀ q, I103 59 q = if q = 5 then nI 8 else 0 := fun q => by rw [fa103 59 (by decide)]; exact r99 q
  have fr103 : ∀ x, x ∉ [59, 62, 64, 66, 68, 72, 73, 74, 75, 79, 80, 81, 83, 84, 85, 86, 87, 88, 89, 90, 91, 92, 93, 94] → I103 x = I x := fun x hx => by simp at hx; rw [fa103 x (by omega)]; try exact fr99 x (by simp; omega)
  have hF104 := hF102.mono (b' := 95) (by decide)
  refine Wp.cpR rfl rfl hK103 hF104 (by decide) rfl rfl rfl rfl (fun F105 hF105 => ?_)
  refine Wp.go (x := (.aload_n 0, 1, 0, 0)) rfl 211 [some (.ref 59), some (.int (nI 0))] [.ref 59] rfl ⟨rfl, rfl, rfl, rfl⟩ ?_
  refine Wp.ldc (v := nI 48160) rfl rfl (by first | rfl | decide) ?_
  have hF106 := hF105.mono (b' := 95) (by decide)
  refine Wp.mni (a := 95) rfl rfl hK103 rfl (by decide) (fun K107 I107 hK107 fa107 z107 => ?_)
  have r107 : ∀ q, I107 59 q = if q = 5 then nI 8 else 0 := fun q => by rw [fa107 59 (by decide)]; exact r103 q
  have fr107 : ∀ x, x ∉ [59, 62, 64, 66, 68, 72, 73, 74, 75, 79, 80, 81, 83, 84, 85, 86, 87, 88, 89, 90, 91, 92, 93, 94, 95] → I107 x = I x := fun x hx => by simp at hx; rw [fa107 x (by omega)]; try exact fr103 x (by simp; omega)
  have hF108 := hF106.mono (b' := 96) (by decide)
  refine Wp.cpR rfl rfl hK107 hF108 (by decide) rfl rfl rfl rfl (fun F109 hF109 => ?_)
  refine Wp.go (x := (.aload_n 0, 1, 0, 0)) rfl 219 [some (.ref 59), some (.int (nI 0))] [.ref 59] rfl ⟨rfl, rfl, rfl, rfl⟩ ?_
  refine Wp.sp (v := nI 12040) rfl rfl (by decide) ?_
  have hF110 := hF109.mono (b' := 96) (by decide)
  refine Wp.mni (a := 96) rfl rfl hK107 rfl (by decide) (fun K111 I111 hK111 fa111 z111 => ?_)
  have r111 : ∀ q, I111 59 q = if q = 5 then nI 8 else 0 := fun q => by rw [fa111 59 (by decide)]; exact r107 q
  have fr111 : ∀ x, x ∉ [59, 62, 64, 66, 68, 72, 73, 74, 75, 79, 80, 81, 83, 84, 85, 86, 87, 88, 89, 90, 91, 92, 93, 94, 95, 96] → I111 x = I x := fun x hx => by simp at hx; rw [fa111 x (by omega)]; try exact fr107 x (by simp; omega)
  have hF112 := hF110.mono (b' := 97) (by decide)
  refine Wp.cpR rfl rfl hK111 hF112 (by decide) rfl rfl rfl rfl (fun F113 hF113 => ?_)
  refine Wp.go (x := (.aload_n 0, 1, 0, 0)) rfl 228 [some (.ref 59), some (.int (nI 0))] [.ref 59] rfl ⟨rfl, rfl, rfl, rfl⟩ ?_
  refine Wp.sp (v := nI 12040) rfl rfl (by decide) ?_
  have hF114 := hF113.mono (b' := 97) (by decide)
  refine Wp.mni (a := 97) rfl rfl hK111 rfl (by decide) (fun K115 I115 hK115 fa115 z115 => ?_)
  have r115 : ∀ q, I115 59 q = if q = 5 then nI 8 else 0 := fun q => by rw [fa115 59 (by decide)]; exact r111 q
  have fr115 : ∀ x, x ∉ [59, 62, 64, 66, 68, 72, 73, 74, 75, 79, 80, 81, 83, 84, 85, 86, 87, 88, 89, 90, 91, 92, 93, 94, 95, 96, 97] → I115 x = I x := fun x hx => by simp at hx; rw [fa115 x (by omega)]; try exact fr111 x (by simp; omega)
  have hF116 := hF114.mono (b' := 98) (by decide)
  refine Wp.cpR rfl rfl hK115 hF116 (by decide) rfl rfl rfl rfl (fun F117 hF117 => ?_)
  refine Wp.go (x := (.aload_n 0, 1, 0, 0)) rfl 237 [some (.ref 59), some (.int (nI 0))] [.ref 59] rfl ⟨rfl, rfl, rfl, rfl⟩ ?_
  refine Wp.sp (v := nI 12040) rfl rfl (by decide) ?_
  have hF118 := hF117.mono (b' := 98) (by decide)
  refine Wp.mni (a := 98) rfl rfl hK115 rfl (by decide) (fun K119 I119 hK119 fa119 z119 => ?_)
  have r119 : ∀ q, I119 59 q = if q = 5 then nI 8 else 0 := fun q => by rw [fa119 59 (by decide)]; exact r115 q
  have fr119 : ∀ x, x ∉ [59, 62, 64, 66, 68, 72, 73, 74, 75, 79, 80, 81, 83, 84, 85, 86, 87, 88, 89, 90, 91, 92, 93, 94, 95, 96, 97, 98] → I119 x = I x := fun x hx => by simp at hx; rw [fa119 x (by omega)]; try exact fr115 x (by simp; omega)
  have hF120 := hF118.mono (b' := 99) (by decide)
  refine Wp.cpR rfl rfl hK119 hF120 (by decide) rfl rfl rfl rfl (fun F121 hF121 => ?_)
  refine Wp.go (x := (.aload_n 0, 1, 0, 0)) rfl 246 [some (.ref 59), some (.int (nI 0))] [.ref 59] rfl ⟨rfl, rfl, rfl, rfl⟩ ?_
  refine Wp.sp (v := nI 1024) rfl rfl (by decide) ?_
  have hF122 := hF121.mono (b' := 99) (by decide)
  refine Wp.mni (a := 99) rfl rfl hK119 rfl (by decide) (fun K123 I123 hK123 fa123 z123 => ?_)
  have r123 : ∀ q, I123 59 q = if q = 5 then nI 8 else 0 := fun q => by rw [fa123 59 (by decide)]; exact r119 q
  have fr123 : ∀ x, x ∉ [59, 62, 64, 66, 68, 72, 73, 74, 75, 79, 80, 81, 83, 84, 85, 86, 87, 88, 89, 90, 91, 92, 93, 94, 95, 96, 97, 98, 99] → I123 x = I x := fun x hx => by simp at hx; rw [fa123 x (by omega)]; try exact fr119 x (by simp; omega)
  have hF124 := hF122.mono (b' := 100) (by decide)
  refine Wp.cpR rfl rfl hK123 hF124 (by decide) rfl rfl rfl rfl (fun F125 hF125 => ?_)
  refine Wp.go (x := (.aload_n 0, 1, 0, 0)) rfl 255 [some (.ref 59), some (.int (nI 0))] [.ref 59] rfl ⟨rfl, rfl, rfl, rfl⟩ ?_
  refine Wp.sp (v := nI 1024) rfl rfl (by decide) ?_
  have hF126 := hF125.mono (b' := 100) (by decide)
  refine Wp.mni (a := 100) rfl rfl hK123 rfl (by decide) (fun K127 I127 hK127 fa127 z127 => ?_)
  have r127 : ∀ q, I127 59 q = if q = 5 then nI 8 else 0 := fun q => by rw [fa127 59 (by decide)]; exact r123 q
  have fr127 : ∀ x, x ∉ [59, 62, 64, 66, 68, 72, 73, 74, 75, 79, 80, 81, 83, 84, 85, 86, 87, 88, 89, 90, 91, 92, 93, 94, 95, 96, 97, 98, 99, 100] → I127 x = I x := fun x hx => by simp at hx; rw [fa127 x (by omega)]; try exact fr123 x (by simp; omega)
  have hF128 := hF126.mono (b' := 101) (by decide)
  refine Wp.cpR rfl rfl hK127 hF128 (by decide) rfl rfl rfl rfl (fun F129 hF129 => ?_)
  refine Wp.go (x := (.aload_n 0, 1, 0, 0)) rfl 264 [some (.ref 59), some (.int (nI 0))] [.ref 59] rfl ⟨rfl, rfl, rfl, rfl⟩ ?_
  refine Wp.sp (v := nI 301) rfl rfl (by decide) ?_
  have hF130 := hF129.mono (b' := 101) (by decide)
  refine Wp.mni (a := 101) rfl rfl hK127 rfl (by decide) (fun K131 I131 hK131 fa131 z131 => ?_)
  have r131 : ∀ q, I131 59 q = if q = 5 then nI 8 else 0 := fun q => by rw [fa131 59 (by decide)]; exact r127 q
  have fr131 : ∀ x, x ∉ [59, 62, 64, 66, 68, 72, 73, 74, 75, 79, 80, 81, 83, 84, 85, 86, 87, 88, 89, 90, 91, 92, 93, 94, 95, 96, 97, 98, 99, 100, 101] → I131 x = I x := fun x hx => by simp at hx; rw [fa131 x (by omega)]; try exact fr127 x (by simp; omega)
  have hF132 := hF130.mono (b' := 102) (by decide)
  refine Wp.cpR rfl rfl hK131 hF132 (by decide) rfl rfl rfl rfl (fun F133 hF133 => ?_)
  refine Wp.go (x := (.aload_n 0, 1, 0, 0)) rfl 273 [some (.ref 59), some (.int (nI 0))] [.ref 59] rfl ⟨rfl, rfl, rfl, rfl⟩ ?_
  refine Wp.sp (v := nI 301) rfl rfl (by decide) ?_
  have hF134 := hF133.mono (b' := 102) (by decide)
  refine Wp.mni (a := 102) rfl rfl hK131 rfl (by decide) (fun K135 I135 hK135 fa135 z135 => ?_)
  have r135 : ∀ q, I135 59 q = if q = 5 then nI 8 else 0 := fun q => by rw [fa135 59 (by decide)]; exact r131 q
  have fr135 : ∀ x, x ∉ [59, 62, 64, 66, 68, 72, 73, 74, 75, 79, 80, 81, 83, 84, 85, 86, 87, 88, 89, 90, 91, 92, 93, 94, 95, 96, 97, 98, 99, 100, 101, 102] → I135 x = I x := fun x hx => by simp at hx; rw [fa135 x (by omega)]; try exact fr131 x (by simp; omega)
  have hF136 := hF134.mono (b' := 103) (by decide)
  refine Wp.cpR rfl rfl hK135 hF136 (by decide) rfl rfl rfl rfl (fun F137 hF137 => ?_)
  refine Wp.go (x := (.aload_n 0, 1, 0, 0)) rfl 282 [some (.ref 59), some (.int (nI 0))] [.ref 59] rfl ⟨rfl, rfl, rfl, rfl⟩ ?_
  refine Wp.sp (v := nI 301) rfl rfl (by decide) ?_
  have hF138 := hF137.mono (b' := 103) (by decide)
  refine Wp.mni (a := 103) rfl rfl hK135 rfl (by decide) (fun K139 I139 hK139 fa139 z139 => ?_)
  have r139 : ∀ q, I139 59 q = if q = 5 then nI 8 else 0 := fun q => by rw [fa139 59 (by decide)]; exact r135 q
  have fr139 : ∀ x, x ∉ [59, 62, 64, 66, 68, 72, 73, 74, 75, 79, 80, 81, 83, 84, 85, 86, 87, 88, 89, 90, 91, 92, 93, 94, 95, 96, 97, 98, 99, 100, 101, 102, 103] → I139 x = I x := fun x hx => by simp at hx; rw [fa139 x (by omega)]; try exact fr135 x (by simp; omega)
  have hF140 := hF138.mono (b' := 104) (by decide)
  refine Wp.cpR rfl rfl hK139 hF140 (by decide) rfl rfl rfl rfl (fun F141 hF141 => ?_)
  refine Wp.go (x := (.aload_n 0, 1, 0, 0)) rfl 291 [some (.ref 59), some (.int (nI 0))] [.ref 59] rfl ⟨rfl, rfl, rfl, rfl⟩ ?_
  refine Wp.sp (v := nI 301) rfl rfl (by decide) ?_
  have hF142 := hF141.mono (b' := 104) (by decide)
  refine Wp.mni (a := 104) rfl rfl hK139 rfl (by decide) (fun K143 I143 hK143 fa143 z143 => ?_)
  have r143 : ∀ q, I143 59 q = if q = 5 then nI 8 else 0 := fun q => by rw [fa143 59 (by decide)]; exact r139 q
  have fr143 : ∀ x, x ∉ [59, 62, 64, 66, 68, 72, 73, 74, 75, 79, 80, 81, 83, 84, 85, 86, 87, 88, 89, 90, 91, 92, 93, 94, 95, 96, 97, 98, 99, 100, 101, 102, 103, 104] → I143 x = I x := fun x hx => by simp at hx; rw [fa143 x (by omega)]; try exact fr139 x (by simp; omega)
  have hF144 := hF142.mono (b' := 105) (by decide)
  refine Wp.cpR rfl rfl hK143 hF144 (by decide) rfl rfl rfl rfl (fun F145 hF145 => ?_)
  refine Wp.go (x := (.aload_n 0, 1, 0, 0)) rfl 300 [some (.ref 59), some (.int (nI 0))] [.ref 59] rfl ⟨rfl, rfl, rfl, rfl⟩ ?_
  refine Wp.sp (v := nI 301) rfl rfl (by decide) ?_
  have hF146 := hF145.mono (b' := 105) (by decide)
  refine Wp.mni (a := 105) rfl rfl hK143 rfl (by decide) (fun K147 I147 hK147 fa147 z147 => ?_)
  have r147 : ∀ q, I147 59 q = if q = 5 then nI 8 else 0 := fun q => by rw [fa147 59 (by decide)]; exact r143 q
  have fr147 : ∀ x, x ∉ [59, 62, 64, 66, 68, 72, 73, 74, 75, 79, 80, 81, 83, 84, 85, 86, 87, 88, 89, 90, 91, 92, 93, 94, 95, 96, 97, 98, 99, 100, 101, 102, 103, 104, 105] → I147 x = I x := fun x hx => by simp at hx; rw [fa147 x (by omega)]; try exact fr143 x (by simp; omega)
  have hF148 := hF146.mono (b' := 106) (by decide)
  refine Wp.cpR rfl rfl hK147 hF148 (by decide) rfl rfl rfl rfl (fun F149 hF149 => ?_)
  refine Wp.go (x := (.aload_n 0, 1, 0, 0)) rfl 309 [some (.ref 59), some (.int (nI 0))] [.ref 59] rfl ⟨rfl, rfl, rfl, rfl⟩ ?_
  refine Wp.sp (v := nI 196) rfl rfl (by decide) ?_
  have hF150 := hF149.mono (b' := 106) (by decide)
  refine Wp.mnl (a := 106) rfl rfl hK147 rfl (by decide) (fun K151 J151 hK151 => ?_)
  have hF152 := hF150.mono (b' := 107) (by decide)
  refine Wp.cpR rfl rfl hK151 hF152 (by decide) rfl rfl rfl rfl (fun F153 hF153 => ?_)
  refine Wp.go (x := (.aload_n 0, 1, 0, 0)) rfl 318 [some (.ref 59), some (.int (nI 0))] [.ref 59] rfl ⟨rfl, rfl, rfl, rfl⟩ ?_
  refine Wp.go (x := (.iload_n 1, 1, 0, 0)) rfl 319 [some (.ref 59), some (.int (nI 0))] [.int (nI 0), .ref 59] rfl ⟨rfl, rfl, rfl, rfl⟩ ?_
  refine Wp.z_ge rfl rfl ⟨fun c => ?_, fun c => absurd (by decide) c⟩
  refine Wp.go (x := (.iload_n 1, 1, 0, 0)) rfl 327 [some (.ref 59), some (.int (nI 0))] [.int (nI 0), .ref 59] rfl ⟨rfl, rfl, rfl, rfl⟩ ?_
  refine Wp.ic (v := nI 2) rfl rfl (by decide) ?_
  refine Wp.c_le rfl rfl ⟨fun c => ?_, fun c => absurd (by decide) c⟩
  refine Wp.go (x := (.iload_n 1, 1, 0, 0)) rfl 336 [some (.ref 59), some (.int (nI 0))] [.int (nI 0), .ref 59] rfl ⟨rfl, rfl, rfl, rfl⟩ ?_
  refine Wp.mpI rfl rfl hK151 (by decide) rfl rfl (Or.inl rfl) (fun I154 fa154 z154 => ?_)
  have r154 : ∀ q, I154 59 q = if q = 1 then nI 0 else if q = 5 then nI 8 else 0 := fun q => by
    rw [z154 q]
    by_cases e : q = 1
    · rw [if_pos e, if_pos e]
    · rw [if_neg e, if_neg e]
      exact r147 q
  have fr154 : ∀ x, x ∉ [59, 62, 64, 66, 68, 72, 73, 74, 75, 79, 80, 81, 83, 84, 85, 86, 87, 88, 89, 90, 91, 92, 93, 94, 95, 96, 97, 98, 99, 100, 101, 102, 103, 104, 105] → I154 x = I x := fun x hx => by simp at hx; rw [fa154 x (by omega)]; try exact fr147 x (by simp; omega)
  refine Wp.go (x := (.aload_n 0, 1, 0, 0)) rfl 340 [some (.ref 59), some (.int (nI 0))] [.ref 59] rfl ⟨rfl, rfl, rfl, rfl⟩ ?_
  refine Wp.call (x := (.invokevirtual 126, 3, 98, 1)) rfl 98 [.ref 59] [] (by show xtg 98 (K151 59).1 = _; rw [hK151.at (a := 59) (by decide) rfl]; rfl) rfl ⟨Nat.le_of_ble_eq_true rfl, Nat.le_of_ble_eq_true rfl, Nat.le_of_ble_eq_true rfl⟩ rfl rfl rfl ?_
  refine p_startG (K := K151) (hK151.lt (by decide) hL) (hK151.at (by decide) rfl) (hF153.at (by simp) rfl) (hK151.at (by decide) rfl) (fun I155 b155 g155 v155 y155 => ?_)
  show Wp (d + 1) 96 343 [some (.ref 59), some (.int (nI 0))] [] _ Q
  have fr155 : ∀ x, x ∉ [59, 62, 64, 66, 68, 72, 73, 74, 75, 79, 80, 81, 83, 84, 85, 86, 87, 88, 89, 90, 91, 92, 93, 94, 95, 96, 97, 98, 99, 100, 101, 102, 103, 104, 105] → I155 x = I x := fun x hx => by simp at hx; rw [b155 x (by simp; omega)]; exact fr154 x (by simp; omega)
  have r155 : ∀ q, I155 59 q = if q = 5 then nI 8 else if q = 1 then nI 0 else if q = 5 then nI 8 else 0 := fun q => by
    by_cases e : q = 5
    · rw [if_pos e, e]; exact v155
    · rw [if_neg e, g155 q e]; exact r154 q
  exact Wp.rV rfl rfl (k _ _ _ _ _ _ (by omega) (by omega) hK151 hF153 fr155 r155 y155)
set_option maxRecDepth 20000 in
theorem ci_X11_init_59_1eq {L d n1 n2 : Nat} {pl : List Nat} {D : List (Nat × Nat)} {K : Nat → Nat × Nat} {F : Nat → Nat → Option Nat} {I : Nat → Nat → Int32} {J : Nat → Nat → Int64} {Q : Option Value × xS → Prop} (hL : L < 2147483648) (hK : KP 1 L 60 K) (hF : FD 1 60 D F) (r0 : ∀ q, I 59 q = 0) (k : ∀ K' F' I' J' m1 m2, m1 = n1 + 35 → m2 = n2 + 377439 → KP 1 L 107 K' → FD 1 107 ((59, 46) :: (59, 45) :: (59, 44) :: (59, 43) :: (59, 42) :: (59, 41) :: (59, 40) :: (59, 39) :: (59, 38) :: (59, 37) :: (59, 36) :: (59, 35) :: (59, 34) :: (59, 33) :: (59, 32) :: (59, 31) :: (59, 30) :: (59, 29) :: (59, 28) :: (59, 27) :: (59, 26) :: (59, 25) :: (59, 24) :: (59, 23) :: (59, 21) :: (59, 20) :: (59, 19) :: (59, 15) :: (59, 14) :: (59, 13) :: (59, 12) :: (59, 8) :: (59, 6) :: (59, 4) :: (59, 2) :: D) F' → (∀ x, x ∉ [59, 62, 64, 66, 68, 72, 73, 74, 75, 79, 80, 81, 83, 84, 85, 86, 87, 88, 89, 90, 91, 92, 93, 94, 95, 96, 97, 98, 99, 100, 101, 102, 103, 104, 105] → I' x = I x) → (∀ q, I' 59 q = if q = 5 then nI 8 else if q = 1 then nI 1 else if q = 5 then nI 8 else 0) → (∀ k s, k < 4 → s < SY k → I' 64 (256 * k + s) = nI (V0 k s)) → Q (none, (K', (pl, m1, m2), I', J', F'))) : Wp (d + 1) 96 0 [some (.ref 59), some (.int (nI 1))] [] (K, (62 :: 64 :: 66 :: 68 :: 72 :: 73 :: 74 :: 75 :: 79 :: 80 :: 81 :: 83 :: 84 :: 85 :: 86 :: 87 :: 88 :: 89 :: 90 :: 91 :: 92 :: 93 :: 94 :: 95 :: 96 :: 97 :: 98 :: 99 :: 100 :: 101 :: 102 :: 103 :: 104 :: 105 :: 106 :: pl, n1, n2), I, J, F) Q := by
  have fr0 : ∀ x, x ∉ [59] → I x = I x := fun _ _ => rfl
  refine Wp.go (x := (.aload_n 0, 1, 0, 0)) rfl 1 [some (.ref 59), some (.int (nI 1))] [.ref 59] rfl ⟨rfl, rfl, rfl, rfl⟩ ?_
  refine Wp.obj rfl rfl rfl (by omega) (Nat.le_of_ble_eq_true rfl) ?_
  refine Wp.go (x := (.aload_n 0, 1, 0, 0)) rfl 5 [some (.ref 59), some (.int (nI 1))] [.ref 59] rfl ⟨rfl, rfl, rfl, rfl⟩ ?_
  refine Wp.sp (v := nI 301) rfl rfl (by decide) ?_
  have hK1 := hK.skip rfl
  have hK2 := hK1.skip rfl
  have hF3 := hF.mono (b' := 62) (by decide)
  refine Wp.mni (a := 62) rfl rfl hK2 rfl (by decide) (fun K4 I4 hK4 fa4 z4 => ?_)
  have r4 : ∀ q, I4 59 q = 0 := fun q => by rw [fa4 59 (by decide)]; exact r0 q
  have fr4 : ∀ x, x ∉ [59, 62] → I4 x = I x := fun x hx => by simp at hx; rw [fa4 x (by omega)]; try exact fr0 x (by simp; omega)
  have hF5 := hF3.mono (b' := 63) (by decide)
  refine Wp.cpR rfl rfl hK4 hF5 (by decide) rfl rfl rfl rfl (fun F6 hF6 => ?_)
  refine Wp.go (x := (.aload_n 0, 1, 0, 0)) rfl 14 [some (.ref 59), some (.int (nI 1))] [.ref 59] rfl ⟨rfl, rfl, rfl, rfl⟩ ?_
  refine Wp.sp (v := nI 1024) rfl rfl (by decide) ?_
  have hK7 := hK4.skip rfl
  have hF8 := hF6.mono (b' := 64) (by decide)
  refine Wp.mni (a := 64) rfl rfl hK7 rfl (by decide) (fun K9 I9 hK9 fa9 z9 => ?_)
  have r9 : ∀ q, I9 59 q = 0 := fun q => by rw [fa9 59 (by decide)]; exact r4 q
  have fr9 : ∀ x, x ∉ [59, 62, 64] → I9 x = I x := fun x hx => by simp at hx; rw [fa9 x (by omega)]; try exact fr4 x (by simp; omega)
  have hF10 := hF8.mono (b' := 65) (by decide)
  refine Wp.cpR rfl rfl hK9 hF10 (by decide) rfl rfl rfl rfl (fun F11 hF11 => ?_)
  refine Wp.go (x := (.aload_n 0, 1, 0, 0)) rfl 23 [some (.ref 59), some (.int (nI 1))] [.ref 59] rfl ⟨rfl, rfl, rfl, rfl⟩ ?_
  refine Wp.bp (v := nI 8) rfl rfl (by decide) ?_
  refine Wp.mpI rfl rfl hK9 (by decide) rfl rfl (Or.inl rfl) (fun I12 fa12 z12 => ?_)
  have r12 : ∀ q, I12 59 q = if q = 5 then nI 8 else 0 := fun q => by
    rw [z12 q]
    by_cases e : q = 5
    · rw [if_pos e, if_pos e]
    · rw [if_neg e, if_neg e]
      exact r9 q
  have fr12 : ∀ x, x ∉ [59, 62, 64] → I12 x = I x := fun x hx => by simp at hx; rw [fa12 x (by omega)]; try exact fr9 x (by simp; omega)
  refine Wp.go (x := (.aload_n 0, 1, 0, 0)) rfl 29 [some (.ref 59), some (.int (nI 1))] [.ref 59] rfl ⟨rfl, rfl, rfl, rfl⟩ ?_
  refine Wp.bp (v := nI 12) rfl rfl (by decide) ?_
  have hK13 := hK9.skip rfl
  have hF14 := hF11.mono (b' := 66) (by decide)
  refine Wp.mni (a := 66) rfl rfl hK13 rfl (by decide) (fun K15 I15 hK15 fa15 z15 => ?_)
  have r15 : ∀ q, I15 59 q = if q = 5 then nI 8 else 0 := fun q => by rw [fa15 59 (by decide)]; exact r12 q
  have fr15 : ∀ x, x ∉ [59, 62, 64, 66] → I15 x = I x := fun x hx => by simp at hx; rw [fa15 x (by omega)]; try exact fr12 x (by simp; omega)
  have hF16 := hF14.mono (b' := 67) (by decide)
  refine Wp.cpR rfl rfl hK15 hF16 (by decide) rfl rfl rfl rfl (fun F17 hF17 => ?_)
  refine Wp.go (x := (.aload_n 0, 1, 0, 0)) rfl 37 [some (.ref 59), some (.int (nI 1))] [.ref 59] rfl ⟨rfl, rfl, rfl, rfl⟩ ?_
  refine Wp.bp (v := nI 12) rfl rfl (by decide) ?_
  have hK18 := hK15.skip rfl
  have hF19 := hF17.mono (b' := 68) (by decide)
  refine Wp.mni (a := 68) rfl rfl hK18 rfl (by decide) (fun K20 I20 hK20 fa20 z20 => ?_)
  have r20 : ∀ q, I20 59 q = if q = 5 then nI 8 else 0 := fun q => by rw [fa20 59 (by decide)]; exact r15 q
  have fr20 : ∀ x, x ∉ [59, 62, 64, 66, 68] → I20 x = I x := fun x hx => by simp at hx; rw [fa20 x (by omega)]; try exact fr15 x (by simp; omega)
  have hF21 := hF19.mono (b' := 69) (by decide)
  refine Wp.cpR rfl rfl hK20 hF21 (by decide) rfl rfl rfl rfl (fun F22 hF22 => ?_)
  refine Wp.go (x := (.aload_n 0, 1, 0, 0)) rfl 45 [some (.ref 59), some (.int (nI 1))] [.ref 59] rfl ⟨rfl, rfl, rfl, rfl⟩ ?_
  refine Wp.sp (v := nI 301) rfl rfl (by decide) ?_
  have hK23 := hK20.skip rfl
  have hK24 := hK23.skip rfl
  have hK25 := hK24.skip rfl
  have hF26 := hF22.mono (b' := 72) (by decide)
  refine Wp.mni (a := 72) rfl rfl hK25 rfl (by decide) (fun K27 I27 hK27 fa27 z27 => ?_)
  have r27 : ∀ q, I27 59 q = if q = 5 then nI 8 else 0 := fun q => by rw [fa27 59 (by decide)]; exact r20 q
  have fr27 : ∀ x, x ∉ [59, 62, 64, 66, 68, 72] → I27 x = I x := fun x hx => by simp at hx; rw [fa27 x (by omega)]; try exact fr20 x (by simp; omega)
  have hF28 := hF26.mono (b' := 73) (by decide)
  refine Wp.cpR rfl rfl hK27 hF28 (by decide) rfl rfl rfl rfl (fun F29 hF29 => ?_)
  refine Wp.go (x := (.aload_n 0, 1, 0, 0)) rfl 54 [some (.ref 59), some (.int (nI 1))] [.ref 59] rfl ⟨rfl, rfl, rfl, rfl⟩ ?_
  refine Wp.sp (v := nI 301) rfl rfl (by decide) ?_
  have hF30 := hF29.mono (b' := 73) (by decide)
  refine Wp.mni (a := 73) rfl rfl hK27 rfl (by decide) (fun K31 I31 hK31 fa31 z31 => ?_)
  have r31 : ∀ q, I31 59 q = if q = 5 then nI 8 else 0 := fun q => by rw [fa31 59 (by decide)]; exact r27 q
  have fr31 : ∀ x, x ∉ [59, 62, 64, 66, 68, 72, 73] → I31 x = I x := fun x hx => by simp at hx; rw [fa31 x (by omega)]; try exact fr27 x (by simp; omega)
  have hF32 := hF30.mono (b' := 74) (by decide)
  refine Wp.cpR rfl rfl hK31 hF32 (by decide) rfl rfl rfl rfl (fun F33 hF33 => ?_)
  refine Wp.go (x := (.aload_n 0, 1, 0, 0)) rfl 63 [some (.ref 59), some (.int (nI 1))] [.ref 59] rfl ⟨rfl, rfl, rfl, rfl⟩ ?_
  refine Wp.sp (v := nI 301) rfl rfl (by decide) ?_
  have hF34 := hF33.mono (b' := 74) (by decide)
  refine Wp.mni (a := 74) rfl rfl hK31 rfl (by decide) (fun K35 I35 hK35 fa35 z35 => ?_)
  have r35 : ∀ q, I35 59 q = if q = 5 then nI 8 else 0 := fun q => by rw [fa35 59 (by decide)]; exact r31 q
  have fr35 : ∀ x, x ∉ [59, 62, 64, 66, 68, 72, 73, 74] → I35 x = I x := fun x hx => by simp at hx; rw [fa35 x (by omega)]; try exact fr31 x (by simp; omega)
  have hF36 := hF34.mono (b' := 75) (by decide)
  refine Wp.cpR rfl rfl hK35 hF36 (by decide) rfl rfl rfl rfl (fun F37 hF37 => ?_)
  refine Wp.go (x := (.aload_n 0, 1, 0, 0)) rfl 72 [some (.ref 59), some (.int (nI 1))] [.ref 59] rfl ⟨rfl, rfl, rfl, rfl⟩ ?_
  refine Wp.sp (v := nI 301) rfl rfl (by decide) ?_
  have hF38 := hF37.mono (b' := 75) (by decide)
  refine Wp.mni (a := 75) rfl rfl hK35 rfl (by decide) (fun K39 I39 hK39 fa39 z39 => ?_)
  have r39 : ∀ q, I39 59 q = if q = 5 then nI 8 else 0 := fun q => by rw [fa39 59 (by decide)]; exact r35 q
  have fr39 : ∀ x, x ∉ [59, 62, 64, 66, 68, 72, 73, 74, 75] → I39 x = I x := fun x hx => by simp at hx; rw [fa39 x (by omega)]; try exact fr35 x (by simp; omega)
  have hF40 := hF38.mono (b' := 76) (by decide)
  refine Wp.cpR rfl rfl hK39 hF40 (by decide) rfl rfl rfl rfl (fun F41 hF41 => ?_)
  refine Wp.go (x := (.aload_n 0, 1, 0, 0)) rfl 81 [some (.ref 59), some (.int (nI 1))] [.ref 59] rfl ⟨rfl, rfl, rfl, rfl⟩ ?_
  refine Wp.ldc (v := nI 90601) rfl rfl (by first | rfl | decide) ?_
  have hK42 := hK39.skip rfl
  have hK43 := hK42.skip rfl
  have hK44 := hK43.skip rfl
  have hF45 := hF41.mono (b' := 79) (by decide)
  refine Wp.mni (a := 79) rfl rfl hK44 rfl (by decide) (fun K46 I46 hK46 fa46 z46 => ?_)
  have r46 : ∀ q, I46 59 q = if q = 5 then nI 8 else 0 := fun q => by rw [fa46 59 (by decide)]; exact r39 q
  have fr46 : ∀ x, x ∉ [59, 62, 64, 66, 68, 72, 73, 74, 75, 79] → I46 x = I x := fun x hx => by simp at hx; rw [fa46 x (by omega)]; try exact fr39 x (by simp; omega)
  have hF47 := hF45.mono (b' := 80) (by decide)
  refine Wp.cpR rfl rfl hK46 hF47 (by decide) rfl rfl rfl rfl (fun F48 hF48 => ?_)
  refine Wp.go (x := (.aload_n 0, 1, 0, 0)) rfl 89 [some (.ref 59), some (.int (nI 1))] [.ref 59] rfl ⟨rfl, rfl, rfl, rfl⟩ ?_
  refine Wp.ldc (v := nI 90601) rfl rfl (by first | rfl | decide) ?_
  have hF49 := hF48.mono (b' := 80) (by decide)
  refine Wp.mni (a := 80) rfl rfl hK46 rfl (by decide) (fun K50 I50 hK50 fa50 z50 => ?_)
  have r50 : ∀ q, I50 59 q = if q = 5 then nI 8 else 0 := fun q => by rw [fa50 59 (by decide)]; exact r46 q
  have fr50 : ∀ x, x ∉ [59, 62, 64, 66, 68, 72, 73, 74, 75, 79, 80] → I50 x = I x := fun x hx => by simp at hx; rw [fa50 x (by omega)]; try exact fr46 x (by simp; omega)
  have hF51 := hF49.mono (b' := 81) (by decide)
  refine Wp.cpR rfl rfl hK50 hF51 (by decide) rfl rfl rfl rfl (fun F52 hF52 => ?_)
  refine Wp.go (x := (.aload_n 0, 1, 0, 0)) rfl 97 [some (.ref 59), some (.int (nI 1))] [.ref 59] rfl ⟨rfl, rfl, rfl, rfl⟩ ?_
  refine Wp.ic (v := nI 4) rfl rfl (by decide) ?_
  have hF53 := hF52.mono (b' := 81) (by decide)
  refine Wp.mni (a := 81) rfl rfl hK50 rfl (by decide) (fun K54 I54 hK54 fa54 z54 => ?_)
  have r54 : ∀ q, I54 59 q = if q = 5 then nI 8 else 0 := fun q => by rw [fa54 59 (by decide)]; exact r50 q
  have fr54 : ∀ x, x ∉ [59, 62, 64, 66, 68, 72, 73, 74, 75, 79, 80, 81] → I54 x = I x := fun x hx => by simp at hx; rw [fa54 x (by omega)]; try exact fr50 x (by simp; omega)
  have hF55 := hF53.mono (b' := 82) (by decide)
  refine Wp.cpR rfl rfl hK54 hF55 (by decide) rfl rfl rfl rfl (fun F56 hF56 => ?_)
  refine Wp.go (x := (.aload_n 0, 1, 0, 0)) rfl 104 [some (.ref 59), some (.int (nI 1))] [.ref 59] rfl ⟨rfl, rfl, rfl, rfl⟩ ?_
  refine Wp.ldc (v := nI 90601) rfl rfl (by first | rfl | decide) ?_
  have hK57 := hK54.skip rfl
  have hF58 := hF56.mono (b' := 83) (by decide)
  refine Wp.mni (a := 83) rfl rfl hK57 rfl (by decide) (fun K59 I59 hK59 fa59 z59 => ?_)
  have r59 : ∀ q, I59 59 q = if q = 5 then nI 8 else 0 := fun q => by rw [fa59 59 (by decide)]; exact r54 q
  have fr59 : ∀ x, x ∉ [59, 62, 64, 66, 68, 72, 73, 74, 75, 79, 80, 81, 83] → I59 x = I x := fun x hx => by simp at hx; rw [fa59 x (by omega)]; try exact fr54 x (by simp; omega)
  have hF60 := hF58.mono (b' := 84) (by decide)
  refine Wp.cpR rfl rfl hK59 hF60 (by decide) rfl rfl rfl rfl (fun F61 hF61 => ?_)
  refine Wp.go (x := (.aload_n 0, 1, 0, 0)) rfl 112 [some (.ref 59), some (.int (nI 1))] [.ref 59] rfl ⟨rfl, rfl, rfl, rfl⟩ ?_
  refine Wp.sp (v := nI 301) rfl rfl (by decide) ?_
  have hF62 := hF61.mono (b' := 84) (by decide)
  refine Wp.mni (a := 84) rfl rfl hK59 rfl (by decide) (fun K63 I63 hK63 fa63 z63 => ?_)
  have r63 : ∀ q, I63 59 q = if q = 5 then nI 8 else 0 := fun q => by rw [fa63 59 (by decide)]; exact r59 q
  have fr63 : ∀ x, x ∉ [59, 62, 64, 66, 68, 72, 73, 74, 75, 79, 80, 81, 83, 84] → I63 x = I x := fun x hx => by simp at hx; rw [fa63 x (by omega)]; try exact fr59 x (by simp; omega)
  have hF64 := hF62.mono (b' := 85) (by decide)
  refine Wp.cpR rfl rfl hK63 hF64 (by decide) rfl rfl rfl rfl (fun F65 hF65 => ?_)
  refine Wp.go (x := (.aload_n 0, 1, 0, 0)) rfl 121 [some (.ref 59), some (.int (nI 1))] [.ref 59] rfl ⟨rfl, rfl, rfl, rfl⟩ ?_
  refine Wp.sp (v := nI 301) rfl rfl (by decide) ?_
  have hF66 := hF65.mono (b' := 85) (by decide)
  refine Wp.mni (a := 85) rfl rfl hK63 rfl (by decide) (fun K67 I67 hK67 fa67 z67 => ?_)
  have r67 : ∀ q, I67 59 q = if q = 5 then nI 8 else 0 := fun q => by rw [fa67 59 (by decide)]; exact r63 q
  have fr67 : ∀ x, x ∉ [59, 62, 64, 66, 68, 72, 73, 74, 75, 79, 80, 81, 83, 84, 85] → I67 x = I x := fun x hx => by simp at hx; rw [fa67 x (by omega)]; try exact fr63 x (by simp; omega)
  have hF68 := hF66.mono (b' := 86) (by decide)
  refine Wp.cpR rfl rfl hK67 hF68 (by decide) rfl rfl rfl rfl (fun F69 hF69 => ?_)
  refine Wp.go (x := (.aload_n 0, 1, 0, 0)) rfl 130 [some (.ref 59), some (.int (nI 1))] [.ref 59] rfl ⟨rfl, rfl, rfl, rfl⟩ ?_
  refine Wp.sp (v := nI 301) rfl rfl (by decide) ?_
  have hF70 := hF69.mono (b' := 86) (by decide)
  refine Wp.mni (a := 86) rfl rfl hK67 rfl (by decide) (fun K71 I71 hK71 fa71 z71 => ?_)
  have r71 : ∀ q, I71 59 q = if q = 5 then nI 8 else 0 := fun q => by rw [fa71 59 (by decide)]; exact r67 q
  have fr71 : ∀ x, x ∉ [59, 62, 64, 66, 68, 72, 73, 74, 75, 79, 80, 81, 83, 84, 85, 86] → I71 x = I x := fun x hx => by simp at hx; rw [fa71 x (by omega)]; try exact fr67 x (by simp; omega)
  have hF72 := hF70.mono (b' := 87) (by decide)
  refine Wp.cpR rfl rfl hK71 hF72 (by decide) rfl rfl rfl rfl (fun F73 hF73 => ?_)
  refine Wp.go (x := (.aload_n 0, 1, 0, 0)) rfl 139 [some (.ref 59), some (.int (nI 1))] [.ref 59] rfl ⟨rfl, rfl, rfl, rfl⟩ ?_
  refine Wp.sp (v := nI 301) rfl rfl (by decide) ?_
  have hF74 := hF73.mono (b' := 87) (by decide)
  refine Wp.mnz (a := 87) rfl rfl hK71 rfl (by decide) (fun K75 I75 hK75 fa75 z75 => ?_)
  have r75 : ∀ q, I75 59 q = if q = 5 then nI 8 else 0 := fun q => by rw [fa75 59 (by decide)]; exact r71 q
  have fr75 : ∀ x, x ∉ [59, 62, 64, 66, 68, 72, 73, 74, 75, 79, 80, 81, 83, 84, 85, 86, 87] → I75 x = I x := fun x hx => by simp at hx; rw [fa75 x (by omega)]; try exact fr71 x (by simp; omega)
  have hF76 := hF74.mono (b' := 88) (by decide)
  refine Wp.cpR rfl rfl hK75 hF76 (by decide) rfl rfl rfl rfl (fun F77 hF77 => ?_)
  refine Wp.go (x := (.aload_n 0, 1, 0, 0)) rfl 148 [some (.ref 59), some (.int (nI 1))] [.ref 59] rfl ⟨rfl, rfl, rfl, rfl⟩ ?_
  refine Wp.sp (v := nI 301) rfl rfl (by decide) ?_
  have hF78 := hF77.mono (b' := 88) (by decide)
  refine Wp.mni (a := 88) rfl rfl hK75 rfl (by decide) (fun K79 I79 hK79 fa79 z79 => ?_)
  have r79 : ∀ q, I79 59 q = if q = 5 then nI 8 else 0 := fun q => by rw [fa79 59 (by decide)]; exact r75 q
  have fr79 : ∀ x, x ∉ [59, 62, 64, 66, 68, 72, 73, 74, 75, 79, 80, 81, 83, 84, 85, 86, 87, 88] → I79 x = I x := fun x hx => by simp at hx; rw [fa79 x (by omega)]; try exact fr75 x (by simp; omega)
  have hF80 := hF78.mono (b' := 89) (by decide)
  refine Wp.cpR rfl rfl hK79 hF80 (by decide) rfl rfl rfl rfl (fun F81 hF81 => ?_)
  refine Wp.go (x := (.aload_n 0, 1, 0, 0)) rfl 157 [some (.ref 59), some (.int (nI 1))] [.ref 59] rfl ⟨rfl, rfl, rfl, rfl⟩ ?_
  refine Wp.sp (v := nI 301) rfl rfl (by decide) ?_
  have hF82 := hF81.mono (b' := 89) (by decide)
  refine Wp.mni (a := 89) rfl rfl hK79 rfl (by decide) (fun K83 I83 hK83 fa83 z83 => ?_)
  have r83 : ∀ q, I83 59 q = if q = 5 then nI 8 else 0 := fun q => by rw [fa83 59 (by decide)]; exact r79 q
  have fr83 : ∀ x, x ∉ [59, 62, 64, 66, 68, 72, 73, 74, 75, 79, 80, 81, 83, 84, 85, 86, 87, 88, 89] → I83 x = I x := fun x hx => by simp at hx; rw [fa83 x (by omega)]; try exact fr79 x (by simp; omega)
  have hF84 := hF82.mono (b' := 90) (by decide)
  refine Wp.cpR rfl rfl hK83 hF84 (by decide) rfl rfl rfl rfl (fun F85 hF85 => ?_)
  refine Wp.go (x := (.aload_n 0, 1, 0, 0)) rfl 166 [some (.ref 59), some (.int (nI 1))] [.ref 59] rfl ⟨rfl, rfl, rfl, rfl⟩ ?_
  refine Wp.sp (v := nI 301) rfl rfl (by decide) ?_
  have hF86 := hF85.mono (b' := 90) (by decide)
  refine Wp.mni (a := 90) rfl rfl hK83 rfl (by decide) (fun K87 I87 hK87 fa87 z87 => ?_)
  have r87 : ∀ q, I87 59 q = if q = 5 then nI 8 else 0 := fun q => by rw [fa87 59 (by decide)]; exact r83 q
  have fr87 : ∀ x, x ∉ [59, 62, 64, 66, 68, 72, 73, 74, 75, 79, 80, 81, 83, 84, 85, 86, 87, 88, 89, 90] → I87 x = I x := fun x hx => by simp at hx; rw [fa87 x (by omega)]; try exact fr83 x (by simp; omega)
  have hF88 := hF86.mono (b' := 91) (by decide)
  refine Wp.cpR rfl rfl hK87 hF88 (by decide) rfl rfl rfl rfl (fun F89 hF89 => ?_)
  refine Wp.go (x := (.aload_n 0, 1, 0, 0)) rfl 175 [some (.ref 59), some (.int (nI 1))] [.ref 59] rfl ⟨rfl, rfl, rfl, rfl⟩ ?_
  refine Wp.sp (v := nI 301) rfl rfl (by decide) ?_
  have hF90 := hF89.mono (b' := 91) (by decide)
  refine Wp.mni (a := 91) rfl rfl hK87 rfl (by decide) (fun K91 I91 hK91 fa91 z91 => ?_)
  have r91 : ∀ q, I91 59 q = if q = 5 then nI 8 else 0 := fun q => by rw [fa91 59 (by decide)]; exact r87 q
  have fr91 : ∀ x, x ∉ [59, 62, 64, 66, 68, 72, 73, 74, 75, 79, 80, 81, 83, 84, 85, 86, 87, 88, 89, 90, 91] → I91 x = I x := fun x hx => by simp at hx; rw [fa91 x (by omega)]; try exact fr87 x (by simp; omega)
  have hF92 := hF90.mono (b' := 92) (by decide)
  refine Wp.cpR rfl rfl hK91 hF92 (by decide) rfl rfl rfl rfl (fun F93 hF93 => ?_)
  refine Wp.go (x := (.aload_n 0, 1, 0, 0)) rfl 184 [some (.ref 59), some (.int (nI 1))] [.ref 59] rfl ⟨rfl, rfl, rfl, rfl⟩ ?_
  refine Wp.sp (v := nI 301) rfl rfl (by decide) ?_
  have hF94 := hF93.mono (b' := 92) (by decide)
  refine Wp.mni (a := 92) rfl rfl hK91 rfl (by decide) (fun K95 I95 hK95 fa95 z95 => ?_)
  have r95 : ∀ q, I95 59 q = if q = 5 then nI 8 else 0 := fun q => by rw [fa95 59 (by decide)]; exact r91 q
  have fr95 : ∀ x, x ∉ [59, 62, 64, 66, 68, 72, 73, 74, 75, 79, 80, 81, 83, 84, 85, 86, 87, 88, 89, 90, 91, 92] → I95 x = I x := fun x hx => by simp at hx; rw [fa95 x (by omega)]; try exact fr91 x (by simp; omega)
  have hF96 := hF94.mono (b' := 93) (by decide)
  refine Wp.cpR rfl rfl hK95 hF96 (by decide) rfl rfl rfl rfl (fun F97 hF97 => ?_)
  refine Wp.go (x := (.aload_n 0, 1, 0, 0)) rfl 193 [some (.ref 59), some (.int (nI 1))] [.ref 59] rfl ⟨rfl, rfl, rfl, rfl⟩ ?_
  refine Wp.sp (v := nI 301) rfl rfl (by decide) ?_
  have hF98 := hF97.mono (b' := 93) (by decide)
  refine Wp.mnz (a := 93) rfl rfl hK95 rfl (by decide) (fun K99 I99 hK99 fa99 z99 => ?_)
  have r99 : ∀ q, I99 59 q = if q = 5 then nI 8 else 0 := fun q => by rw [fa99 59 (by decide)]; exact r95 q
  have fr99 : ∀ x, x ∉ [59, 62, 64, 66, 68, 72, 73, 74, 75, 79, 80, 81, 83, 84, 85, 86, 87, 88, 89, 90, 91, 92, 93] → I99 x = I x := fun x hx => by simp at hx; rw [fa99 x (by omega)]; try exact fr95 x (by simp; omega)
  have hF100 := hF98.mono (b' := 94) (by decide)
  refine Wp.cpR rfl rfl hK99 hF100 (by decide) rfl rfl rfl rfl (fun F101 hF101 => ?_)
  refine Wp.go (x := (.aload_n 0, 1, 0, 0)) rfl 202 [some (.ref 59), some (.int (nI 1))] [.ref 59] rfl ⟨rfl, rfl, rfl, rfl⟩ ?_
  refine Wp.sp (v := nI 12040) rfl rfl (by decide) ?_
  have hF102 := hF101.mono (b' := 94) (by decide)
  refine Wp.mni (a := 94) rfl rfl hK99 rfl (by decide) (fun K103 I103 hK103 fa103 z103 => ?_)
  have r103 : ∀ q, I103 59 q = if q = 5 then nI 8 else 0 := fun q => by rw [fa103 59 (by decide)]; exact r99 q
  have fr103 : ∀ x, x ∉ [59, 62, 64, 66, 68, 72, 73, 74, 75, 79, 80, 81, 83, 84, 85, 86, 87, 88, 89, 90, 91, 92, 93, 94] → I103 x = I x := fun x hx => by simp at hx; rw [fa103 x (by omega)]; try exact fr99 x (by simp; omega)
  have hF104 := hF102.mono (b' := 95) (by decide)
  refine Wp.cpR rfl rfl hK103 hF104 (by decide) rfl rfl rfl rfl (fun F105 hF105 => ?_)
  refine Wp.go (x := (.aload_n 0, 1, 0, 0)) rfl 211 [some (.ref 59), some (.int (nI 1))] [.ref 59] rfl ⟨rfl, rfl, rfl, rfl⟩ ?_
  refine Wp.ldc (v := nI 48160) rfl rfl (by first | rfl | decide) ?_
  have hF106 := hF105.mono (b' := 95) (by decide)
  refine Wp.mni (a := 95) rfl rfl hK103 rfl (by decide) (fun K107 I107 hK107 fa107 z107 => ?_)
  have r107 : ∀ q, I107 59 q = if q = 5 then nI 8 else 0 := fun q => by rw [fa107 59 (by decide)]; exact r103 q
  have fr107 : ∀ x, x ∉ [59, 62, 64, 66, 68, 72, 73, 74, 75, 79, 80, 81, 83, 84, 85, 86, 87, 88, 89, 90, 91, 92, 93, 94, 95] → I107 x = I x := fun x hx => by simp at hx; rw [fa107 x (by omega)]; try exact fr103 x (by simp; omega)
  have hF108 := hF106.mono (b' := 96) (by decide)
  refine Wp.cpR rfl rfl hK107 hF108 (by decide) rfl rfl rfl rfl (fun F109 hF109 => ?_)
  refine Wp.go (x := (.aload_n 0, 1, 0, 0)) rfl 219 [some (.ref 59), some (.int (nI 1))] [.ref 59] rfl ⟨rfl, rfl, rfl, rfl⟩ ?_
  refine Wp.sp (v := nI 12040) rfl rfl (by decide) ?_
  have hF110 := hF109.mono (b' := 96) (by decide)
  refine Wp.mni (a := 96) rfl rfl hK107 rfl (by decide) (fun K111 I111 hK111 fa111 z111 => ?_)
  have r111 : ∀ q, I111 59 q = if q = 5 then nI 8 else 0 := fun q => by rw [fa111 59 (by decide)]; exact r107 q
  have fr111 : ∀ x, x ∉ [59, 62, 64, 66, 68, 72, 73, 74, 75, 79, 80, 81, 83, 84, 85, 86, 87, 88, 89, 90, 91, 92, 93, 94, 95, 96] → I111 x = I x := fun x hx => by simp at hx; rw [fa111 x (by omega)]; try exact fr107 x (by simp; omega)
  have hF112 := hF110.mono (b' := 97) (by decide)
  refine Wp.cpR rfl rfl hK111 hF112 (by decide) rfl rfl rfl rfl (fun F113 hF113 => ?_)
  refine Wp.go (x := (.aload_n 0, 1, 0, 0)) rfl 228 [some (.ref 59), some (.int (nI 1))] [.ref 59] rfl ⟨rfl, rfl, rfl, rfl⟩ ?_
  refine Wp.sp (v := nI 12040) rfl rfl (by decide) ?_
  have hF114 := hF113.mono (b' := 97) (by decide)
  refine Wp.mni (a := 97) rfl rfl hK111 rfl (by decide) (fun K115 I115 hK115 fa115 z115 => ?_)
  have r115 : ∀ q, I115 59 q = if q = 5 then nI 8 else 0 := fun q => by rw [fa115 59 (by decide)]; exact r111 q
  have fr115 : ∀ x, x ∉ [59, 62, 64, 66, 68, 72, 73, 74, 75, 79, 80, 81, 83, 84, 85, 86, 87, 88, 89, 90, 91, 92, 93, 94, 95, 96, 97] → I115 x = I x := fun x hx => by simp at hx; rw [fa115 x (by omega)]; try exact fr111 x (by simp; omega)
  have hF116 := hF114.mono (b' := 98) (by decide)
  refine Wp.cpR rfl rfl hK115 hF116 (by decide) rfl rfl rfl rfl (fun F117 hF117 => ?_)
  refine Wp.go (x := (.aload_n 0, 1, 0, 0)) rfl 237 [some (.ref 59), some (.int (nI 1))] [.ref 59] rfl ⟨rfl, rfl, rfl, rfl⟩ ?_
  refine Wp.sp (v := nI 12040) rfl rfl (by decide) ?_
  have hF118 := hF117.mono (b' := 98) (by decide)
  refine Wp.mni (a := 98) rfl rfl hK115 rfl (by decide) (fun K119 I119 hK119 fa119 z119 => ?_)
  have r119 : ∀ q, I119 59 q = if q = 5 then nI 8 else 0 := fun q => by rw [fa119 59 (by decide)]; exact r115 q
  have fr119 : ∀ x, x ∉ [59, 62, 64, 66, 68, 72, 73, 74, 75, 79, 80, 81, 83, 84, 85, 86, 87, 88, 89, 90, 91, 92, 93, 94, 95, 96, 97, 98] → I119 x = I x := fun x hx => by simp at hx; rw [fa119 x (by omega)]; try exact fr115 x (by simp; omega)
  have hF120 := hF118.mono (b' := 99) (by decide)
  refine Wp.cpR rfl rfl hK119 hF120 (by decide) rfl rfl rfl rfl (fun F121 hF121 => ?_)
  refine Wp.go (x := (.aload_n 0, 1, 0, 0)) rfl 246 [some (.ref 59), some (.int (nI 1))] [.ref 59] rfl ⟨rfl, rfl, rfl, rfl⟩ ?_
  refine Wp.sp (v := nI 1024) rfl rfl (by decide) ?_
  have hF122 := hF121.mono (b' := 99) (by decide)
  refine Wp.mni (a := 99) rfl rfl hK119 rfl (by decide) (fun K123 I123 hK123 fa123 z123 => ?_)
  have r123 : ∀ q, I123 59 q = if q = 5 then nI 8 else 0 := fun q => by rw [fa123 59 (by decide)]; exact r119 q
  have fr123 : ∀ x, x ∉ [59, 62, 64, 66, 68, 72, 73, 74, 75, 79, 80, 81, 83, 84, 85, 86, 87, 88, 89, 90, 91, 92, 93, 94, 95, 96, 97, 98, 99] → I123 x = I x := fun x hx => by simp at hx; rw [fa123 x (by omega)]; try exact fr119 x (by simp; omega)
  have hF124 := hF122.mono (b' := 100) (by decide)
  refine Wp.cpR rfl rfl hK123 hF124 (by decide) rfl rfl rfl rfl (fun F125 hF125 => ?_)
  refine Wp.go (x := (.aload_n 0, 1, 0, 0)) rfl 255 [some (.ref 59), some (.int (nI 1))] [.ref 59] rfl ⟨rfl, rfl, rfl, rfl⟩ ?_
  refine Wp.sp (v := nI 1024) rfl rfl (by decide) ?_
  have hF126 := hF125.mono (b' := 100) (by decide)
  refine Wp.mni (a := 100) rfl rfl hK123 rfl (by decide) (fun K127 I127 hK127 fa127 z127 => ?_)
  have r127 : ∀ q, I127 59 q = if q = 5 then nI 8 else 0 := fun q => by rw [fa127 59 (by decide)]; exact r123 q
  have fr127 : ∀ x, x ∉ [59, 62, 64, 66, 68, 72, 73, 74, 75, 79, 80, 81, 83, 84, 85, 86, 87, 88, 89, 90, 91, 92, 93, 94, 95, 96, 97, 98, 99, 100] → I127 x = I x := fun x hx => by simp at hx; rw [fa127 x (by omega)]; try exact fr123 x (by simp; omega)
  have hF128 := hF126.mono (b' := 101) (by decide)
  refine Wp.cpR rfl rfl hK127 hF128 (by decide) rfl rfl rfl rfl (fun F129 hF129 => ?_)
  refine Wp.go (x := (.aload_n 0, 1, 0, 0)) rfl 264 [some (.ref 59), some (.int (nI 1))] [.ref 59] rfl ⟨rfl, rfl, rfl, rfl⟩ ?_
  refine Wp.sp (v := nI 301) rfl rfl (by decide) ?_
  have hF130 := hF129.mono (b' := 101) (by decide)
  refine Wp.mni (a := 101) rfl rfl hK127 rfl (by decide) (fun K131 I131 hK131 fa131 z131 => ?_)
  have r131 : ∀ q, I131 59 q = if q = 5 then nI 8 else 0 := fun q => by rw [fa131 59 (by decide)]; exact r127 q
  have fr131 : ∀ x, x ∉ [59, 62, 64, 66, 68, 72, 73, 74, 75, 79, 80, 81, 83, 84, 85, 86, 87, 88, 89, 90, 91, 92, 93, 94, 95, 96, 97, 98, 99, 100, 101] → I131 x = I x := fun x hx => by simp at hx; rw [fa131 x (by omega)]; try exact fr127 x (by simp; omega)
  have hF132 := hF130.mono (b' := 102) (by decide)
  refine Wp.cpR rfl rfl hK131 hF132 (by decide) rfl rfl rfl rfl (fun F133 hF133 => ?_)
  refine Wp.go (x := (.aload_n 0, 1, 0, 0)) rfl 273 [some (.ref 59), some (.int (nI 1))] [.ref 59] rfl ⟨rfl, rfl, rfl, rfl⟩ ?_
  refine Wp.sp (v := nI 301) rfl rfl (by decide) ?_
  have hF134 := hF133.mono (b' := 102) (by decide)
  refine Wp.mni (a := 102) rfl rfl hK131 rfl (by decide) (fun K135 I135 hK135 fa135 z135 => ?_)
  have r135 : ∀ q, I135 59 q = if q = 5 then nI 8 else 0 := fun q => by rw [fa135 59 (by decide)]; exact r131 q
  have fr135 : ∀ x, x ∉ [59, 62, 64, 66, 68, 72, 73, 74, 75, 79, 80, 81, 83, 84, 85, 86, 87, 88, 89, 90, 91, 92, 93, 94, 95, 96, 97, 98, 99, 100, 101, 102] → I135 x = I x := fun x hx => by simp at hx; rw [fa135 x (by omega)]; try exact fr131 x (by simp; omega)
  have hF136 := hF134.mono (b' := 103) (by decide)
  refine Wp.cpR rfl rfl hK135 hF136 (by decide) rfl rfl rfl rfl (fun F137 hF137 => ?_)
  refine Wp.go (x := (.aload_n 0, 1, 0, 0)) rfl 282 [some (.ref 59), some (.int (nI 1))] [.ref 59] rfl ⟨rfl, rfl, rfl, rfl⟩ ?_
  refine Wp.sp (v := nI 301) rfl rfl (by decide) ?_
  have hF138 := hF137.mono (b' := 103) (by decide)
  refine Wp.mni (a := 103) rfl rfl hK135 rfl (by decide) (fun K139 I139 hK139 fa139 z139 => ?_)
  have r139 : ∀ q, I139 59 q = if q = 5 then nI 8 else 0 := fun q => by rw [fa139 59 (by decide)]; exact r135 q
  have fr139 : ∀ x, x ∉ [59, 62, 64, 66, 68, 72, 73, 74, 75, 79, 80, 81, 83, 84, 85, 86, 87, 88, 89, 90, 91, 92, 93, 94, 95, 96, 97, 98, 99, 100, 101, 102, 103] → I139 x = I x := fun x hx => by simp at hx; rw [fa139 x (by omega)]; try exact fr135 x (by simp; omega)
  have hF140 := hF138.mono (b' := 104) (by decide)
  refine Wp.cpR rfl rfl hK139 hF140 (by decide) rfl rfl rfl rfl (fun F141 hF141 => ?_)
  refine Wp.go (x := (.aload_n 0, 1, 0, 0)) rfl 291 [some (.ref 59), some (.int (nI 1))] [.ref 59] rfl ⟨rfl, rfl, rfl, rfl⟩ ?_
  refine Wp.sp (v := nI 301) rfl rfl (by decide) ?_
  have hF142 := hF141.mono (b' := 104) (by decide)
  refine Wp.mni (a := 104) rfl rfl hK139 rfl (by decide) (fun K143 I143 hK143 fa143 z143 => ?_)
  have r143 : ∀ q, I143 59 q = if q = 5 then nI 8 else 0 := fun q => by rw [fa143 59 (by decide)]; exact r139 q
  have fr143 : ∀ x, x ∉ [59, 62, 64, 66, 68, 72, 73, 74, 75, 79, 80, 81, 83, 84, 85, 86, 87, 88, 89, 90, 91, 92, 93, 94, 95, 96, 97, 98, 99, 100, 101, 102, 103, 104] → I143 x = I x := fun x hx => by simp at hx; rw [fa143 x (by omega)]; try exact fr139 x (by simp; omega)
  have hF144 := hF142.mono (b' := 105) (by decide)
  refine Wp.cpR rfl rfl hK143 hF144 (by decide) rfl rfl rfl rfl (fun F145 hF145 => ?_)
  refine Wp.go (x := (.aload_n 0, 1, 0, 0)) rfl 300 [some (.ref 59), some (.int (nI 1))] [.ref 59] rfl ⟨rfl, rfl, rfl, rfl⟩ ?_
  refine Wp.sp (v := nI 301) rfl rfl (by decide) ?_
  have hF146 := hF145.mono (b' := 105) (by decide)
  refine Wp.mni (a := 105) rfl rfl hK143 rfl (by decide) (fun K147 I147 hK147 fa147 z147 => ?_)
  have r147 : ∀ q, I147 59 q = if q = 5 then nI 8 else 0 := fun q => by rw [fa147 59 (by decide)]; exact r143 q
  have fr147 : ∀ x, x ∉ [59, 62, 64, 66, 68, 72, 73, 74, 75, 79, 80, 81, 83, 84, 85, 86, 87, 88, 89, 90, 91, 92, 93, 94, 95, 96, 97, 98, 99, 100, 101, 102, 103, 104, 105] → I147 x = I x := fun x hx => by simp at hx; rw [fa147 x (by omega)]; try exact fr143 x (by simp; omega)
  have hF148 := hF146.mono (b' := 106) (by decide)
  refine Wp.cpR rfl rfl hK147 hF148 (by decide) rfl rfl rfl rfl (fun F149 hF149 => ?_)
  refine Wp.go (x := (.aload_n 0, 1, 0, 0)) rfl 309 [some (.ref 59), some (.int (nI 1))] [.ref 59] rfl ⟨rfl, rfl, rfl, rfl⟩ ?_
  refine Wp.sp (v := nI 196) rfl rfl (by decide) ?_
  have hF150 := hF149.mono (b' := 106) (by decide)
  refine Wp.mnl (a := 106) rfl rfl hK147 rfl (by decide) (fun K151 J151 hK151 => ?_)
  have hF152 := hF150.mono (b' := 107) (by decide)
  refine Wp.cpR rfl rfl hK151 hF152 (by decide) rfl rfl rfl rfl (fun F153 hF153 => ?_)
  refine Wp.go (x := (.aload_n 0, 1, 0, 0)) rfl 318 [some (.ref 59), some (.int (nI 1))] [.ref 59] rfl ⟨rfl, rfl, rfl, rfl⟩ ?_
  refine Wp.go (x := (.iload_n 1, 1, 0, 0)) rfl 319 [some (.ref 59), some (.int (nI 1))] [.int (nI 1), .ref 59] rfl ⟨rfl, rfl, rfl, rfl⟩ ?_
  refine Wp.z_ge rfl rfl ⟨fun c => ?_, fun c => absurd (by decide) c⟩
  refine Wp.go (x := (.iload_n 1, 1, 0, 0)) rfl 327 [some (.ref 59), some (.int (nI 1))] [.int (nI 1), .ref 59] rfl ⟨rfl, rfl, rfl, rfl⟩ ?_
  refine Wp.ic (v := nI 2) rfl rfl (by decide) ?_
  refine Wp.c_le rfl rfl ⟨fun c => ?_, fun c => absurd (by decide) c⟩
  refine Wp.go (x := (.iload_n 1, 1, 0, 0)) rfl 336 [some (.ref 59), some (.int (nI 1))] [.int (nI 1), .ref 59] rfl ⟨rfl, rfl, rfl, rfl⟩ ?_
  refine Wp.mpI rfl rfl hK151 (by decide) rfl rfl (Or.inl rfl) (fun I154 fa154 z154 => ?_)
  have r154 : ∀ q, I154 59 q = if q = 1 then nI 1 else if q = 5 then nI 8 else 0 := fun q => by
    rw [z154 q]
    by_cases e : q = 1
    · rw [if_pos e, if_pos e]
    · rw [if_neg e, if_neg e]
      exact r147 q
  have fr154 : ∀ x, x ∉ [59, 62, 64, 66, 68, 72, 73, 74, 75, 79, 80, 81, 83, 84, 85, 86, 87, 88, 89, 90, 91, 92, 93, 94, 95, 96, 97, 98, 99, 100, 101, 102, 103, 104, 105] → I154 x = I x := fun x hx => by simp at hx; rw [fa154 x (by omega)]; try exact fr147 x (by simp; omega)
  refine Wp.go (x := (.aload_n 0, 1, 0, 0)) rfl 340 [some (.ref 59), some (.int (nI 1))] [.ref 59] rfl ⟨rfl, rfl, rfl, rfl⟩ ?_
  refine Wp.call (x := (.invokevirtual 126, 3, 98, 1)) rfl 98 [.ref 59] [] (by show xtg 98 (K151 59).1 = _; rw [hK151.at (a := 59) (by decide) rfl]; rfl) rfl ⟨Nat.le_of_ble_eq_true rfl, Nat.le_of_ble_eq_true rfl, Nat.le_of_ble_eq_true rfl⟩ rfl rfl rfl ?_
  refine p_startG (K := K151) (hK151.lt (by decide) hL) (hK151.at (by decide) rfl) (hF153.at (by simp) rfl) (hK151.at (by decide) rfl) (fun I155 b155 g155 v155 y155 => ?_)
  show Wp (d + 1) 96 343 [some (.ref 59), some (.int (nI 1))] [] _ Q
  have fr155 : ∀ x, x ∉ [59, 62, 64, 66, 68, 72, 73, 74, 75, 79, 80, 81, 83, 84, 85, 86, 87, 88, 89, 90, 91, 92, 93, 94, 95, 96, 97, 98, 99, 100, 101, 102, 103, 104, 105] → I155 x = I x := fun x hx => by simp at hx; rw [b155 x (by simp; omega)]; exact fr154 x (by simp; omega)
  have r155 : ∀ q, I155 59 q = if q = 5 then nI 8 else if q = 1 then nI 1 else if q = 5 then nI 8 else 0 := fun q => by
    by_cases e : q = 5
    · rw [if_pos e, e]; exact v155
    · rw [if_neg e, g155 q e]; exact r154 q
  exact Wp.rV rfl rfl (k _ _ _ _ _ _ (by omega) (by omega) hK151 hF153 fr155 r155 y155)
set_option maxRecDepth 20000 in
theorem ci_X11_init_59_2eq {L d n1 n2 : Nat} {pl : List Nat} {D : List (Nat × Nat)} {K : Nat → Nat × Nat} {F : Nat → Nat → Option Nat} {I : Nat → Nat → Int32} {J : Nat → Nat → Int64} {Q : Option Value × xS → Prop} (hL : L < 2147483648) (hK : KP 2 L 60 K) (hF : FD 2 60 D F) (r0 : ∀ q, I 59 q = 0) (k : ∀ K' F' I' J' m1 m2, m1 = n1 + 35 → m2 = n2 + 377439 → KP 2 L 107 K' → FD 2 107 ((59, 46) :: (59, 45) :: (59, 44) :: (59, 43) :: (59, 42) :: (59, 41) :: (59, 40) :: (59, 39) :: (59, 38) :: (59, 37) :: (59, 36) :: (59, 35) :: (59, 34) :: (59, 33) :: (59, 32) :: (59, 31) :: (59, 30) :: (59, 29) :: (59, 28) :: (59, 27) :: (59, 26) :: (59, 25) :: (59, 24) :: (59, 23) :: (59, 21) :: (59, 20) :: (59, 19) :: (59, 15) :: (59, 14) :: (59, 13) :: (59, 12) :: (59, 8) :: (59, 6) :: (59, 4) :: (59, 2) :: D) F' → (∀ x, x ∉ [59, 62, 64, 66, 68, 72, 73, 74, 75, 79, 80, 81, 83, 84, 85, 86, 87, 88, 89, 90, 91, 92, 93, 94, 95, 96, 97, 98, 99, 100, 101, 102, 103, 104, 105] → I' x = I x) → (∀ q, I' 59 q = if q = 5 then nI 8 else if q = 1 then nI 2 else if q = 5 then nI 8 else 0) → (∀ k s, k < 4 → s < SY k → I' 64 (256 * k + s) = nI (V0 k s)) → Q (none, (K', (pl, m1, m2), I', J', F'))) : Wp (d + 1) 96 0 [some (.ref 59), some (.int (nI 2))] [] (K, (62 :: 64 :: 66 :: 68 :: 72 :: 73 :: 74 :: 75 :: 79 :: 80 :: 81 :: 83 :: 84 :: 85 :: 86 :: 87 :: 88 :: 89 :: 90 :: 91 :: 92 :: 93 :: 94 :: 95 :: 96 :: 97 :: 98 :: 99 :: 100 :: 101 :: 102 :: 103 :: 104 :: 105 :: 106 :: pl, n1, n2), I, J, F) Q := by
  have fr0 : ∀ x, x ∉ [59] → I x = I x := fun _ _ => rfl
  refine Wp.go (x := (.aload_n 0, 1, 0, 0)) rfl 1 [some (.ref 59), some (.int (nI 2))] [.ref 59] rfl ⟨rfl, rfl, rfl, rfl⟩ ?_
  refine Wp.obj rfl rfl rfl (by omega) (Nat.le_of_ble_eq_true rfl) ?_
  refine Wp.go (x := (.aload_n 0, 1, 0, 0)) rfl 5 [some (.ref 59), some (.int (nI 2))] [.ref 59] rfl ⟨rfl, rfl, rfl, rfl⟩ ?_
  refine Wp.sp (v := nI 301) rfl rfl (by decide) ?_
  have hK1 := hK.skip rfl
  have hK2 := hK1.skip rfl
  have hF3 := hF.mono (b' := 62) (by decide)
  refine Wp.mni (a := 62) rfl rfl hK2 rfl (by decide) (fun K4 I4 hK4 fa4 z4 => ?_)
  have r4 : ∀ q, I4 59 q = 0 := fun q => by rw [fa4 59 (by decide)]; exact r0 q
  have fr4 : ∀ x, x ∉ [59, 62] → I4 x = I x := fun x hx => by simp at hx; rw [fa4 x (by omega)]; try exact fr0 x (by simp; omega)
  have hF5 := hF3.mono (b' := 63) (by decide)
  refine Wp.cpR rfl rfl hK4 hF5 (by decide) rfl rfl rfl rfl (fun F6 hF6 => ?_)
  refine Wp.go (x := (.aload_n 0, 1, 0, 0)) rfl 14 [some (.ref 59), some (.int (nI 2))] [.ref 59] rfl ⟨rfl, rfl, rfl, rfl⟩ ?_
  refine Wp.sp (v := nI 1024) rfl rfl (by decide) ?_
  have hK7 := hK4.skip rfl
  have hF8 := hF6.mono (b' := 64) (by decide)
  refine Wp.mni (a := 64) rfl rfl hK7 rfl (by decide) (fun K9 I9 hK9 fa9 z9 => ?_)
  have r9 : ∀ q, I9 59 q = 0 := fun q => by rw [fa9 59 (by decide)]; exact r4 q
  have fr9 : ∀ x, x ∉ [59, 62, 64] → I9 x = I x := fun x hx => by simp at hx; rw [fa9 x (by omega)]; try exact fr4 x (by simp; omega)
  have hF10 := hF8.mono (b' := 65) (by decide)
  refine Wp.cpR rfl rfl hK9 hF10 (by decide) rfl rfl rfl rfl (fun F11 hF11 => ?_)
  refine Wp.go (x := (.aload_n 0, 1, 0, 0)) rfl 23 [some (.ref 59), some (.int (nI 2))] [.ref 59] rfl ⟨rfl, rfl, rfl, rfl⟩ ?_
  refine Wp.bp (v := nI 8) rfl rfl (by decide) ?_
  refine Wp.mpI rfl rfl hK9 (by decide) rfl rfl (Or.inl rfl) (fun I12 fa12 z12 => ?_)
  have r12 : ∀ q, I12 59 q = if q = 5 then nI 8 else 0 := fun q => by
    rw [z12 q]
    by_cases e : q = 5
    · rw [if_pos e, if_pos e]
    · rw [if_neg e, if_neg e]
      exact r9 q
  have fr12 : ∀ x, x ∉ [59, 62, 64] → I12 x = I x := fun x hx => by simp at hx; rw [fa12 x (by omega)]; try exact fr9 x (by simp; omega)
  refine Wp.go (x := (.aload_n 0, 1, 0, 0)) rfl 29 [some (.ref 59), some (.int (nI 2))] [.ref 59] rfl ⟨rfl, rfl, rfl, rfl⟩ ?_
  refine Wp.bp (v := nI 12) rfl rfl (by decide) ?_
  have hK13 := hK9.skip rfl
  have hF14 := hF11.mono (b' := 66) (by decide)
  refine Wp.mni (a := 66) rfl rfl hK13 rfl (by decide) (fun K15 I15 hK15 fa15 z15 => ?_)
  have r15 : ∀ q, I15 59 q = if q = 5 then nI 8 else 0 := fun q => by rw [fa15 59 (by decide)]; exact r12 q
  have fr15 : ∀ x, x ∉ [59, 62, 64, 66] → I15 x = I x := fun x hx => by simp at hx; rw [fa15 x (by omega)]; try exact fr12 x (by simp; omega)
  have hF16 := hF14.mono (b' := 67) (by decide)
  refine Wp.cpR rfl rfl hK15 hF16 (by decide) rfl rfl rfl rfl (fun F17 hF17 => ?_)
  refine Wp.go (x := (.aload_n 0, 1, 0, 0)) rfl 37 [some (.ref 59), some (.int (nI 2))] [.ref 59] rfl ⟨rfl, rfl, rfl, rfl⟩ ?_
  refine Wp.bp (v := nI 12) rfl rfl (by decide) ?_
  have hK18 := hK15.skip rfl
  have hF19 := hF17.mono (b' := 68) (by decide)
  refine Wp.mni (a := 68) rfl rfl hK18 rfl (by decide) (fun K20 I20 hK20 fa20 z20 => ?_)
  have r20 : ∀ q, I20 59 q = if q = 5 then nI 8 else 0 := fun q => by rw [fa20 59 (by decide)]; exact r15 q
  have fr20 : ∀ x, x ∉ [59, 62, 64, 66, 68] → I20 x = I x := fun x hx => by simp at hx; rw [fa20 x (by omega)]; try exact fr15 x (by simp; omega)
  have hF21 := hF19.mono (b' := 69) (by decide)
  refine Wp.cpR rfl rfl hK20 hF21 (by decide) rfl rfl rfl rfl (fun F22 hF22 => ?_)
  refine Wp.go (x := (.aload_n 0, 1, 0, 0)) rfl 45 [some (.ref 59), some (.int (nI 2))] [.ref 59] rfl ⟨rfl, rfl, rfl, rfl⟩ ?_
  refine Wp.sp (v := nI 301) rfl rfl (by decide) ?_
  have hK23 := hK20.skip rfl
  have hK24 := hK23.skip rfl
  have hK25 := hK24.skip rfl
  have hF26 := hF22.mono (b' := 72) (by decide)
  refine Wp.mni (a := 72) rfl rfl hK25 rfl (by decide) (fun K27 I27 hK27 fa27 z27 => ?_)
  have r27 : ∀ q, I27 59 q = if q = 5 then nI 8 else 0 := fun q => by rw [fa27 59 (by decide)]; exact r20 q
  have fr27 : ∀ x, x ∉ [59, 62, 64, 66, 68, 72] → I27 x = I x := fun x hx => by simp at hx; rw [fa27 x (by omega)]; try exact fr20 x (by simp; omega)
  have hF28 := hF26.mono (b' := 73) (by decide)
  refine Wp.cpR rfl rfl hK27 hF28 (by decide) rfl rfl rfl rfl (fun F29 hF29 => ?_)
  refine Wp.go (x := (.aload_n 0, 1, 0, 0)) rfl 54 [some (.ref 59), some (.int (nI 2))] [.ref 59] rfl ⟨rfl, rfl, rfl, rfl⟩ ?_
  refine Wp.sp (v := nI 301) rfl rfl (by decide) ?_
  have hF30 := hF29.mono (b' := 73) (by decide)
  refine Wp.mni (a := 73) rfl rfl hK27 rfl (by decide) (fun K31 I31 hK31 fa31 z31 => ?_)
  have r31 : ∀ q, I31 59 q = if q = 5 then nI 8 else 0 := fun q => by rw [fa31 59 (by decide)]; exact r27 q
  have fr31 : ∀ x, x ∉ [59, 62, 64, 66, 68, 72, 73] → I31 x = I x := fun x hx => by simp at hx; rw [fa31 x (by omega)]; try exact fr27 x (by simp; omega)
  have hF32 := hF30.mono (b' := 74) (by decide)
  refine Wp.cpR rfl rfl hK31 hF32 (by decide) rfl rfl rfl rfl (fun F33 hF33 => ?_)
  refine Wp.go (x := (.aload_n 0, 1, 0, 0)) rfl 63 [some (.ref 59), some (.int (nI 2))] [.ref 59] rfl ⟨rfl, rfl, rfl, rfl⟩ ?_
  refine Wp.sp (v := nI 301) rfl rfl (by decide) ?_
  have hF34 := hF33.mono (b' := 74) (by decide)
  refine Wp.mni (a := 74) rfl rfl hK31 rfl (by decide) (fun K35 I35 hK35 fa35 z35 => ?_)
  have r35 : ∀ q, I35 59 q = if q = 5 then nI 8 else 0 := fun q => by rw [fa35 59 (by decide)]; exact r31 q
  have fr35 : ∀ x, x ∉ [59, 62, 64, 66, 68, 72, 73, 74] → I35 x = I x := fun x hx => by simp at hx; rw [fa35 x (by omega)]; try exact fr31 x (by simp; omega)
  have hF36 := hF34.mono (b' := 75) (by decide)
  refine Wp.cpR rfl rfl hK35 hF36 (by decide) rfl rfl rfl rfl (fun F37 hF37 => ?_)
  refine Wp.go (x := (.aload_n 0, 1, 0, 0)) rfl 72 [some (.ref 59), some (.int (nI 2))] [.ref 59] rfl ⟨rfl, rfl, rfl, rfl⟩ ?_
  refine Wp.sp (v := nI 301) rfl rfl (by decide) ?_
  have hF38 := hF37.mono (b' := 75) (by decide)
  refine Wp.mni (a := 75) rfl rfl hK35 rfl (by decide) (fun K39 I39 hK39 fa39 z39 => ?_)
  have r39 : ∀ q, I39 59 q = if q = 5 then nI 8 else 0 := fun q => by rw [fa39 59 (by decide)]; exact r35 q
  have fr39 : ∀ x, x ∉ [59, 62, 64, 66, 68, 72, 73, 74, 75] → I39 x = I x := fun x hx => by simp at hx; rw [fa39 x (by omega)]; try exact fr35 x (by simp; omega)
  have hF40 := hF38.mono (b' := 76) (by decide)
  refine Wp.cpR rfl rfl hK39 hF40 (by decide) rfl rfl rfl rfl (fun F41 hF41 => ?_)
  refine Wp.go (x := (.aload_n 0, 1, 0, 0)) rfl 81 [some (.ref 59), some (.int (nI 2))] [.ref 59] rfl ⟨rfl, rfl, rfl, rfl⟩ ?_
  refine Wp.ldc (v := nI 90601) rfl rfl (by first | rfl | decide) ?_
  have hK42 := hK39.skip rfl
  have hK43 := hK42.skip rfl
  have hK44 := hK43.skip rfl
  have hF45 := hF41.mono (b' := 79) (by decide)
  refine Wp.mni (a := 79) rfl rfl hK44 rfl (by decide) (fun K46 I46 hK46 fa46 z46 => ?_)
  have r46 : ∀ q, I46 59 q = if q = 5 then nI 8 else 0 := fun q => by rw [fa46 59 (by decide)]; exact r39 q
  have fr46 : ∀ x, x ∉ [59, 62, 64, 66, 68, 72, 73, 74, 75, 79] → I46 x = I x := fun x hx => by simp at hx; rw [fa46 x (by omega)]; try exact fr39 x (by simp; omega)
  have hF47 := hF45.mono (b' := 80) (by decide)
  refine Wp.cpR rfl rfl hK46 hF47 (by decide) rfl rfl rfl rfl (fun F48 hF48 => ?_)
  refine Wp.go (x := (.aload_n 0, 1, 0, 0)) rfl 89 [some (.ref 59), some (.int (nI 2))] [.ref 59] rfl ⟨rfl, rfl, rfl, rfl⟩ ?_
  refine Wp.ldc (v := nI 90601) rfl rfl (by first | rfl | decide) ?_
  have hF49 := hF48.mono (b' := 80) (by decide)
  refine Wp.mni (a := 80) rfl rfl hK46 rfl (by decide) (fun K50 I50 hK50 fa50 z50 => ?_)
  have r50 : ∀ q, I50 59 q = if q = 5 then nI 8 else 0 := fun q => by rw [fa50 59 (by decide)]; exact r46 q
  have fr50 : ∀ x, x ∉ [59, 62, 64, 66, 68, 72, 73, 74, 75, 79, 80] → I50 x = I x := fun x hx => by simp at hx; rw [fa50 x (by omega)]; try exact fr46 x (by simp; omega)
  have hF51 := hF49.mono (b' := 81) (by decide)
  refine Wp.cpR rfl rfl hK50 hF51 (by decide) rfl rfl rfl rfl (fun F52 hF52 => ?_)
  refine Wp.go (x := (.aload_n 0, 1, 0, 0)) rfl 97 [some (.ref 59), some (.int (nI 2))] [.ref 59] rfl ⟨rfl, rfl, rfl, rfl⟩ ?_
  refine Wp.ic (v := nI 4) rfl rfl (by decide) ?_
  have hF53 := hF52.mono (b' := 81) (by decide)
  refine Wp.mni (a := 81) rfl rfl hK50 rfl (by decide) (fun K54 I54 hK54 fa54 z54 => ?_)
  have r54 : ∀ q, I54 59 q = if q = 5 then nI 8 else 0 := fun q => by rw [fa54 59 (by decide)]; exact r50 q
  have fr54 : ∀ x, x ∉ [59, 62, 64, 66, 68, 72, 73, 74, 75, 79, 80, 81] → I54 x = I x := fun x hx => by simp at hx; rw [fa54 x (by omega)]; try exact fr50 x (by simp; omega)
  have hF55 := hF53.mono (b' := 82) (by decide)
  refine Wp.cpR rfl rfl hK54 hF55 (by decide) rfl rfl rfl rfl (fun F56 hF56 => ?_)
  refine Wp.go (x := (.aload_n 0, 1, 0, 0)) rfl 104 [some (.ref 59), some (.int (nI 2))] [.ref 59] rfl ⟨rfl, rfl, rfl, rfl⟩ ?_
  refine Wp.ldc (v := nI 90601) rfl rfl (by first | rfl | decide) ?_
  have hK57 := hK54.skip rfl
  have hF58 := hF56.mono (b' := 83) (by decide)
  refine Wp.mni (a := 83) rfl rfl hK57 rfl (by decide) (fun K59 I59 hK59 fa59 z59 => ?_)
  have r59 : ∀ q, I59 59 q = if q = 5 then nI 8 else 0 := fun q => by rw [fa59 59 (by decide)]; exact r54 q
  have fr59 : ∀ x, x ∉ [59, 62, 64, 66, 68, 72, 73, 74, 75, 79, 80, 81, 83] → I59 x = I x := fun x hx => by simp at hx; rw [fa59 x (by omega)]; try exact fr54 x (by simp; omega)
  have hF60 := hF58.mono (b' := 84) (by decide)
  refine Wp.cpR rfl rfl hK59 hF60 (by decide) rfl rfl rfl rfl (fun F61 hF61 => ?_)
  refine Wp.go (x := (.aload_n 0, 1, 0, 0)) rfl 112 [some (.ref 59), some (.int (nI 2))] [.ref 59] rfl ⟨rfl, rfl, rfl, rfl⟩ ?_
  refine Wp.sp (v := nI 301) rfl rfl (by decide) ?_
  have hF62 := hF61.mono (b' := 84) (by decide)
  refine Wp.mni (a := 84) rfl rfl hK59 rfl (by decide) (fun K63 I63 hK63 fa63 z63 => ?_)
  have r63 : ∀ q, I63 59 q = if q = 5 then nI 8 else 0 := fun q => by rw [fa63 59 (by decide)]; exact r59 q
  have fr63 : ∀ x, x ∉ [59, 62, 64, 66, 68, 72, 73, 74, 75, 79, 80, 81, 83, 84] → I63 x = I x := fun x hx => by simp at hx; rw [fa63 x (by omega)]; try exact fr59 x (by simp; omega)
  have hF64 := hF62.mono (b' := 85) (by decide)
  refine Wp.cpR rfl rfl hK63 hF64 (by decide) rfl rfl rfl rfl (fun F65 hF65 => ?_)
  refine Wp.go (x := (.aload_n 0, 1, 0, 0)) rfl 121 [some (.ref 59), some (.int (nI 2))] [.ref 59] rfl ⟨rfl, rfl, rfl, rfl⟩ ?_
  refine Wp.sp (v := nI 301) rfl rfl (by decide) ?_
  have hF66 := hF65.mono (b' := 85) (by decide)
  refine Wp.mni (a := 85) rfl rfl hK63 rfl (by decide) (fun K67 I67 hK67 fa67 z67 => ?_)
  have r67 : ∀ q, I67 59 q = if q = 5 then nI 8 else 0 := fun q => by rw [fa67 59 (by decide)]; exact r63 q
  have fr67 : ∀ x, x ∉ [59, 62, 64, 66, 68, 72, 73, 74, 75, 79, 80, 81, 83, 84, 85] → I67 x = I x := fun x hx => by simp at hx; rw [fa67 x (by omega)]; try exact fr63 x (by simp; omega)
  have hF68 := hF66.mono (b' := 86) (by decide)
  refine Wp.cpR rfl rfl hK67 hF68 (by decide) rfl rfl rfl rfl (fun F69 hF69 => ?_)
  refine Wp.go (x := (.aload_n 0, 1, 0, 0)) rfl 130 [some (.ref 59), some (.int (nI 2))] [.ref 59] rfl ⟨rfl, rfl, rfl, rfl⟩ ?_
  refine Wp.sp (v := nI 301) rfl rfl (by decide) ?_
  have hF70 := hF69.mono (b' := 86) (by decide)
  refine Wp.mni (a := 86) rfl rfl hK67 rfl (by decide) (fun K71 I71 hK71 fa71 z71 => ?_)
  have r71 : ∀ q, I71 59 q = if q = 5 then nI 8 else 0 := fun q => by rw [fa71 59 (by decide)]; exact r67 q
  have fr71 : ∀ x, x ∉ [59, 62, 64, 66, 68, 72, 73, 74, 75, 79, 80, 81, 83, 84, 85, 86] → I71 x = I x := fun x hx => by simp at hx; rw [fa71 x (by omega)]; try exact fr67 x (by simp; omega)
  have hF72 := hF70.mono (b' := 87) (by decide)
  refine Wp.cpR rfl rfl hK71 hF72 (by decide) rfl rfl rfl rfl (fun F73 hF73 => ?_)
  refine Wp.go (x := (.aload_n 0, 1, 0, 0)) rfl 139 [some (.ref 59), some (.int (nI 2))] [.ref 59] rfl ⟨rfl, rfl, rfl, rfl⟩ ?_
  refine Wp.sp (v := nI 301) rfl rfl (by decide) ?_
  have hF74 := hF73.mono (b' := 87) (by decide)
  refine Wp.mnz (a := 87) rfl rfl hK71 rfl (by decide) (fun K75 I75 hK75 fa75 z75 => ?_)
  have r75 : ∀ q, I75 59 q = if q = 5 then nI 8 else 0 := fun q => by rw [fa75 59 (by decide)]; exact r71 q
  have fr75 : ∀ x, x ∉ [59, 62, 64, 66, 68, 72, 73, 74, 75, 79, 80, 81, 83, 84, 85, 86, 87] → I75 x = I x := fun x hx => by simp at hx; rw [fa75 x (by omega)]; try exact fr71 x (by simp; omega)
  have hF76 := hF74.mono (b' := 88) (by decide)
  refine Wp.cpR rfl rfl hK75 hF76 (by decide) rfl rfl rfl rfl (fun F77 hF77 => ?_)
  refine Wp.go (x := (.aload_n 0, 1, 0, 0)) rfl 148 [some (.ref 59), some (.int (nI 2))] [.ref 59] rfl ⟨rfl, rfl, rfl, rfl⟩ ?_
  refine Wp.sp (v := nI 301) rfl rfl (by decide) ?_
  have hF78 := hF77.mono (b' := 88) (by decide)
  refine Wp.mni (a := 88) rfl rfl hK75 rfl (by decide) (fun K79 I79 hK79 fa79 z79 => ?_)
  have r79 : ∀ q, I79 59 q = if q = 5 then nI 8 else 0 := fun q => by rw [fa79 59 (by decide)]; exact r75 q
  have fr79 : ∀ x, x ∉ [59, 62, 64, 66, 68, 72, 73, 74, 75, 79, 80, 81, 83, 84, 85, 86, 87, 88] → I79 x = I x := fun x hx => by simp at hx; rw [fa79 x (by omega)]; try exact fr75 x (by simp; omega)
  have hF80 := hF78.mono (b' := 89) (by decide)
  refine Wp.cpR rfl rfl hK79 hF80 (by decide) rfl rfl rfl rfl (fun F81 hF81 => ?_)
  refine Wp.go (x := (.aload_n 0, 1, 0, 0)) rfl 157 [some (.ref 59), some (.int (nI 2))] [.ref 59] rfl ⟨rfl, rfl, rfl, rfl⟩ ?_
  refine Wp.sp (v := nI 301) rfl rfl (by decide) ?_
  have hF82 := hF81.mono (b' := 89) (by decide)
  refine Wp.mni (a := 89) rfl rfl hK79 rfl (by decide) (fun K83 I83 hK83 fa83 z83 => ?_)
  have r83 : ∀ q, I83 59 q = if q = 5 then nI 8 else 0 := fun q => by rw [fa83 59 (by decide)]; exact r79 q
  have fr83 : ∀ x, x ∉ [59, 62, 64, 66, 68, 72, 73, 74, 75, 79, 80, 81, 83, 84, 85, 86, 87, 88, 89] → I83 x = I x := fun x hx => by simp at hx; rw [fa83 x (by omega)]; try exact fr79 x (by simp; omega)
  have hF84 := hF82.mono (b' := 90) (by decide)
  refine Wp.cpR rfl rfl hK83 hF84 (by decide) rfl rfl rfl rfl (fun F85 hF85 => ?_)
  refine Wp.go (x := (.aload_n 0, 1, 0, 0)) rfl 166 [some (.ref 59), some (.int (nI 2))] [.ref 59] rfl ⟨rfl, rfl, rfl, rfl⟩ ?_
  refine Wp.sp (v := nI 301) rfl rfl (by decide) ?_
  have hF86 := hF85.mono (b' := 90) (by decide)
  refine Wp.mni (a := 90) rfl rfl hK83 rfl (by decide) (fun K87 I87 hK87 fa87 z87 => ?_)
  have r87 : ∀ q, I87 59 q = if q = 5 then nI 8 else 0 := fun q => by rw [fa87 59 (by decide)]; exact r83 q
  have fr87 : ∀ x, x ∉ [59, 62, 64, 66, 68, 72, 73, 74, 75, 79, 80, 81, 83, 84, 85, 86, 87, 88, 89, 90] → I87 x = I x := fun x hx => by simp at hx; rw [fa87 x (by omega)]; try exact fr83 x (by simp; omega)
  have hF88 := hF86.mono (b' := 91) (by decide)
  refine Wp.cpR rfl rfl hK87 hF88 (by decide) rfl rfl rfl rfl (fun F89 hF89 => ?_)
  refine Wp.go (x := (.aload_n 0, 1, 0, 0)) rfl 175 [some (.ref 59), some (.int (nI 2))] [.ref 59] rfl ⟨rfl, rfl, rfl, rfl⟩ ?_
  refine Wp.sp (v := nI 301) rfl rfl (by decide) ?_
  have hF90 := hF89.mono (b' := 91) (by decide)
  refine Wp.mni (a := 91) rfl rfl hK87 rfl (by decide) (fun K91 I91 hK91 fa91 z91 => ?_)
  have r91 : ∀ q, I91 59 q = if q = 5 then nI 8 else 0 := fun q => by rw [fa91 59 (by decide)]; exact r87 q
  have fr91 : ∀ x, x ∉ [59, 62, 64, 66, 68, 72, 73, 74, 75, 79, 80, 81, 83, 84, 85, 86, 87, 88, 89, 90, 91] → I91 x = I x := fun x hx => by simp at hx; rw [fa91 x (by omega)]; try exact fr87 x (by simp; omega)
  have hF92 := hF90.mono (b' := 92) (by decide)
  refine Wp.cpR rfl rfl hK91 hF92 (by decide) rfl rfl rfl rfl (fun F93 hF93 => ?_)
  refine Wp.go (x := (.aload_n 0, 1, 0, 0)) rfl 184 [some (.ref 59), some (.int (nI 2))] [.ref 59] rfl ⟨rfl, rfl, rfl, rfl⟩ ?_
  refine Wp.sp (v := nI 301) rfl rfl (by decide) ?_
  have hF94 := hF93.mono (b' := 92) (by decide)
  refine Wp.mni (a := 92) rfl rfl hK91 rfl (by decide) (fun K95 I95 hK95 fa95 z95 => ?_)
  have r95 : ∀ q, I95 59 q = if q = 5 then nI 8 else 0 := fun q => by rw [fa95 59 (by decide)]; exact r91 q
  have fr95 : ∀ x, x ∉ [59, 62, 64, 66, 68, 72, 73, 74, 75, 79, 80, 81, 83, 84, 85, 86, 87, 88, 89, 90, 91, 92] → I95 x = I x := fun x hx => by simp at hx; rw [fa95 x (by omega)]; try exact fr91 x (by simp; omega)
  have hF96 := hF94.mono (b' := 93) (by decide)
  refine Wp.cpR rfl rfl hK95 hF96 (by decide) rfl rfl rfl rfl (fun F97 hF97 => ?_)
  refine Wp.go (x := (.aload_n 0, 1, 0, 0)) rfl 193 [some (.ref 59), some (.int (nI 2))] [.ref 59] rfl ⟨rfl, rfl, rfl, rfl⟩ ?_
  refine Wp.sp (v := nI 301) rfl rfl (by decide) ?_
  have hF98 := hF97.mono (b' := 93) (by decide)
  refine Wp.mnz (a := 93) rfl rfl hK95 rfl (by decide) (fun K99 I99 hK99 fa99 z99 => ?_)
  have r99 : ∀ q, I99 59 q = if q = 5 then nI 8 else 0 := fun q => by rw [fa99 59 (by decide)]; exact r95 q
  have fr99 : ∀ x, x ∉ [59, 62, 64, 66, 68, 72, 73, 74, 75, 79, 80, 81, 83, 84, 85, 86, 87, 88, 89, 90, 91, 92, 93] → I99 x = I x := fun x hx => by simp at hx; rw [fa99 x (by omega)]; try exact fr95 x (by simp; omega)
  have hF100 := hF98.mono (b' := 94) (by decide)
  refine Wp.cpR rfl rfl hK99 hF100 (by decide) rfl rfl rfl rfl (fun F101 hF101 => ?_)
  refine Wp.go (x := (.aload_n 0, 1, 0, 0)) rfl 202 [some (.ref 59), some (.int (nI 2))] [.ref 59] rfl ⟨rfl, rfl, rfl, rfl⟩ ?_
  refine Wp.sp (v := nI 12040) rfl rfl (by decide) ?_
  have hF102 := hF101.mono (b' := 94) (by decide)
  refine Wp.mni (a := 94) rfl rfl hK99 rfl (by decide) (fun K103 I103 hK103 fa103 z103 => ?_)
  have r103 : ∀ q, I103 59 q = if q = 5 then nI 8 else 0 := fun q => by rw [fa103 59 (by decide)]; exact r99 q
  have fr103 : ∀ x, x ∉ [59, 62, 64, 66, 68, 72, 73, 74, 75, 79, 80, 81, 83, 84, 85, 86, 87, 88, 89, 90, 91, 92, 93, 94] → I103 x = I x := fun x hx => by simp at hx; rw [fa103 x (by omega)]; try exact fr99 x (by simp; omega)
  have hF104 := hF102.mono (b' := 95) (by decide)
  refine Wp.cpR rfl rfl hK103 hF104 (by decide) rfl rfl rfl rfl (fun F105 hF105 => ?_)
  refine Wp.go (x := (.aload_n 0, 1, 0, 0)) rfl 211 [some (.ref 59), some (.int (nI 2))] [.ref 59] rfl ⟨rfl, rfl, rfl, rfl⟩ ?_
  refine Wp.ldc (v := nI 48160) rfl rfl (by first | rfl | decide) ?_
  have hF106 := hF105.mono (b' := 95) (by decide)
  refine Wp.mni (a := 95) rfl rfl hK103 rfl (by decide) (fun K107 I107 hK107 fa107 z107 => ?_)
  have r107 : ∀ q, I107 59 q = if q = 5 then nI 8 else 0 := fun q => by rw [fa107 59 (by decide)]; exact r103 q
  have fr107 : ∀ x, x ∉ [59, 62, 64, 66, 68, 72, 73, 74, 75, 79, 80, 81, 83, 84, 85, 86, 87, 88, 89, 90, 91, 92, 93, 94, 95] → I107 x = I x := fun x hx => by simp at hx; rw [fa107 x (by omega)]; try exact fr103 x (by simp; omega)
  have hF108 := hF106.mono (b' := 96) (by decide)
  refine Wp.cpR rfl rfl hK107 hF108 (by decide) rfl rfl rfl rfl (fun F109 hF109 => ?_)
  refine Wp.go (x := (.aload_n 0, 1, 0, 0)) rfl 219 [some (.ref 59), some (.int (nI 2))] [.ref 59] rfl ⟨rfl, rfl, rfl, rfl⟩ ?_
  refine Wp.sp (v := nI 12040) rfl rfl (by decide) ?_
  have hF110 := hF109.mono (b' := 96) (by decide)
  refine Wp.mni (a := 96) rfl rfl hK107 rfl (by decide) (fun K111 I111 hK111 fa111 z111 => ?_)
  have r111 : ∀ q, I111 59 q = if q = 5 then nI 8 else 0 := fun q => by rw [fa111 59 (by decide)]; exact r107 q
  have fr111 : ∀ x, x ∉ [59, 62, 64, 66, 68, 72, 73, 74, 75, 79, 80, 81, 83, 84, 85, 86, 87, 88, 89, 90, 91, 92, 93, 94, 95, 96] → I111 x = I x := fun x hx => by simp at hx; rw [fa111 x (by omega)]; try exact fr107 x (by simp; omega)
  have hF112 := hF110.mono (b' := 97) (by decide)
  refine Wp.cpR rfl rfl hK111 hF112 (by decide) rfl rfl rfl rfl (fun F113 hF113 => ?_)
  refine Wp.go (x := (.aload_n 0, 1, 0, 0)) rfl 228 [some (.ref 59), some (.int (nI 2))] [.ref 59] rfl ⟨rfl, rfl, rfl, rfl⟩ ?_
  refine Wp.sp (v := nI 12040) rfl rfl (by decide) ?_
  have hF114 := hF113.mono (b' := 97) (by decide)
  refine Wp.mni (a := 97) rfl rfl hK111 rfl (by decide) (fun K115 I115 hK115 fa115 z115 => ?_)
  have r115 : ∀ q, I115 59 q = if q = 5 then nI 8 else 0 := fun q => by rw [fa115 59 (by decide)]; exact r111 q
  have fr115 : ∀ x, x ∉ [59, 62, 64, 66, 68, 72, 73, 74, 75, 79, 80, 81, 83, 84, 85, 86, 87, 88, 89, 90, 91, 92, 93, 94, 95, 96, 97] → I115 x = I x := fun x hx => by simp at hx; rw [fa115 x (by omega)]; try exact fr111 x (by simp; omega)
  have hF116 := hF114.mono (b' := 98) (by decide)
  refine Wp.cpR rfl rfl hK115 hF116 (by decide) rfl rfl rfl rfl (fun F117 hF117 => ?_)
  refine Wp.go (x := (.aload_n 0, 1, 0, 0)) rfl 237 [some (.ref 59), some (.int (nI 2))] [.ref 59] rfl ⟨rfl, rfl, rfl, rfl⟩ ?_
  refine Wp.sp (v := nI 12040) rfl rfl (by decide) ?_
  have hF118 := hF117.mono (b' := 98) (by decide)
  refine Wp.mni (a := 98) rfl rfl hK115 rfl (by decide) (fun K119 I119 hK119 fa119 z119 => ?_)
  have r119 : ∀ q, I119 59 q = if q = 5 then nI 8 else 0 := fun q => by rw [fa119 59 (by decide)]; exact r115 q
  have fr119 : ∀ x, x ∉ [59, 62, 64, 66, 68, 72, 73, 74, 75, 79, 80, 81, 83, 84, 85, 86, 87, 88, 89, 90, 91, 92, 93, 94, 95, 96, 97, 98] → I119 x = I x := fun x hx => by simp at hx; rw [fa119 x (by omega)]; try exact fr115 x (by simp; omega)
  have hF120 := hF118.mono (b' := 99) (by decide)
  refine Wp.cpR rfl rfl hK119 hF120 (by decide) rfl rfl rfl rfl (fun F121 hF121 => ?_)
  refine Wp.go (x := (.aload_n 0, 1, 0, 0)) rfl 246 [some (.ref 59), some (.int (nI 2))] [.ref 59] rfl ⟨rfl, rfl, rfl, rfl⟩ ?_
  refine Wp.sp (v := nI 1024) rfl rfl (by decide) ?_
  have hF122 := hF121.mono (b' := 99) (by decide)
  refine Wp.mni (a := 99) rfl rfl hK119 rfl (by decide) (fun K123 I123 hK123 fa123 z123 => ?_)
  have r123 : ∀ q, I123 59 q = if q = 5 then nI 8 else 0 := fun q => by rw [fa123 59 (by decide)]; exact r119 q
  have fr123 : ∀ x, x ∉ [59, 62, 64, 66, 68, 72, 73, 74, 75, 79, 80, 81, 83, 84, 85, 86, 87, 88, 89, 90, 91, 92, 93, 94, 95, 96, 97, 98, 99] → I123 x = I x := fun x hx => by simp at hx; rw [fa123 x (by omega)]; try exact fr119 x (by simp; omega)
  have hF124 := hF122.mono (b' := 100) (by decide)
  refine Wp.cpR rfl rfl hK123 hF124 (by decide) rfl rfl rfl rfl (fun F125 hF125 => ?_)
  refine Wp.go (x := (.aload_n 0, 1, 0, 0)) rfl 255 [some (.ref 59), some (.int (nI 2))] [.ref 59] rfl ⟨rfl, rfl, rfl, rfl⟩ ?_
  refine Wp.sp (v := nI 1024) rfl rfl (by decide) ?_
  have hF126 := hF125.mono (b' := 100) (by decide)
  refine Wp.mni (a := 100) rfl rfl hK123 rfl (by decide) (fun K127 I127 hK127 fa127 z127 => ?_)
  have r127 : ∀ q, I127 59 q = if q = 5 then nI 8 else 0 := fun q => by rw [fa127 59 (by decide)]; exact r123 q
  have fr127 : ∀ x, x ∉ [59, 62, 64, 66, 68, 72, 73, 74, 75, 79, 80, 81, 83, 84, 85, 86, 87, 88, 89, 90, 91, 92, 93, 94, 95, 96, 97, 98, 99, 100] → I127 x = I x := fun x hx => by simp at hx; rw [fa127 x (by omega)]; try exact fr123 x (by simp; omega)
  have hF128 := hF126.mono (b' := 101) (by decide)
  refine Wp.cpR rfl rfl hK127 hF128 (by decide) rfl rfl rfl rfl (fun F129 hF129 => ?_)
  refine Wp.go (x := (.aload_n 0, 1, 0, 0)) rfl 264 [some (.ref 59), some (.int (nI 2))] [.ref 59] rfl ⟨rfl, rfl, rfl, rfl⟩ ?_
  refine Wp.sp (v := nI 301) rfl rfl (by decide) ?_
  have hF130 := hF129.mono (b' := 101) (by decide)
  refine Wp.mni (a := 101) rfl rfl hK127 rfl (by decide) (fun K131 I131 hK131 fa131 z131 => ?_)
  have r131 : ∀ q, I131 59 q = if q = 5 then nI 8 else 0 := fun q => by rw [fa131 59 (by decide)]; exact r127 q
  have fr131 : ∀ x, x ∉ [59, 62, 64, 66, 68, 72, 73, 74, 75, 79, 80, 81, 83, 84, 85, 86, 87, 88, 89, 90, 91, 92, 93, 94, 95, 96, 97, 98, 99, 100, 101] → I131 x = I x := fun x hx => by simp at hx; rw [fa131 x (by omega)]; try exact fr127 x (by simp; omega)
  have hF132 := hF130.mono (b' := 102) (by decide)
  refine Wp.cpR rfl rfl hK131 hF132 (by decide) rfl rfl rfl rfl (fun F133 hF133 => ?_)
  refine Wp.go (x := (.aload_n 0, 1, 0, 0)) rfl 273 [some (.ref 59), some (.int (nI 2))] [.ref 59] rfl ⟨rfl, rfl, rfl, rfl⟩ ?_
  refine Wp.sp (v := nI 301) rfl rfl (by decide) ?_
  have hF134 := hF133.mono (b' := 102) (by decide)
  refine Wp.mni (a := 102) rfl rfl hK131 rfl (by decide) (fun K135 I135 hK135 fa135 z135 => ?_)
  have r135 : ∀ q, I135 59 q = if q = 5 then nI 8 else 0 := fun q => by rw [fa135 59 (by decide)]; exact r131 q
  have fr135 : ∀ x, x ∉ [59, 62, 64, 66, 68, 72, 73, 74, 75, 79, 80, 81, 83, 84, 85, 86, 87, 88, 89, 90, 91, 92, 93, 94, 95, 96, 97, 98, 99, 100, 101, 102] → I135 x = I x := fun x hx => by simp at hx; rw [fa135 x (by omega)]; try exact fr131 x (by simp; omega)
  have hF136 := hF134.mono (b' := 103) (by decide)
  refine Wp.cpR rfl rfl hK135 hF136 (by decide) rfl rfl rfl rfl (fun F137 hF137 => ?_)
  refine Wp.go (x := (.aload_n 0, 1, 0, 0)) rfl 282 [some (.ref 59), some (.int (nI 2))] [.ref 59] rfl ⟨rfl, rfl, rfl, rfl⟩ ?_
  refine Wp.sp (v := nI 301) rfl rfl (by decide) ?_
  have hF138 := hF137.mono (b' := 103) (by decide)
  refine Wp.mni (a := 103) rfl rfl hK135 rfl (by decide) (fun K139 I139 hK139 fa139 z139 => ?_)
  have r139 : ∀ q, I139 59 q = if q = 5 then nI 8 else 0 := fun q => by rw [fa139 59 (by decide)]; exact r135 q
  have fr139 : ∀ x, x ∉ [59, 62, 64, 66, 68, 72, 73, 74, 75, 79, 80, 81, 83, 84, 85, 86, 87, 88, 89, 90, 91, 92, 93, 94, 95, 96, 97, 98, 99, 100, 101, 102, 103] → I139 x = I x := fun x hx => by simp at hx; rw [fa139 x (by omega)]; try exact fr135 x (by simp; omega)
  have hF140 := hF138.mono (b' := 104) (by decide)
  refine Wp.cpR rfl rfl hK139 hF140 (by decide) rfl rfl rfl rfl (fun F141 hF141 => ?_)
  refine Wp.go (x := (.aload_n 0, 1, 0, 0)) rfl 291 [some (.ref 59), some (.int (nI 2))] [.ref 59] rfl ⟨rfl, rfl, rfl, rfl⟩ ?_
  refine Wp.sp (v := nI 301) rfl rfl (by decide) ?_
  have hF142 := hF141.mono (b' := 104) (by decide)
  refine Wp.mni (a := 104) rfl rfl hK139 rfl (by decide) (fun K143 I143 hK143 fa143 z143 => ?_)
  have r143 : ∀ q, I143 59 q = if q = 5 then nI 8 else 0 := fun q => by rw [fa143 59 (by decide)]; exact r139 q
  have fr143 : ∀ x, x ∉ [59, 62, 64, 66, 68, 72, 73, 74, 75, 79, 80, 81, 83, 84, 85, 86, 87, 88, 89, 90, 91, 92, 93, 94, 95, 96, 97, 98, 99, 100, 101, 102, 103, 104] → I143 x = I x := fun x hx => by simp at hx; rw [fa143 x (by omega)]; try exact fr139 x (by simp; omega)
  have hF144 := hF142.mono (b' := 105) (by decide)
  refine Wp.cpR rfl rfl hK143 hF144 (by decide) rfl rfl rfl rfl (fun F145 hF145 => ?_)
  refine Wp.go (x := (.aload_n 0, 1, 0, 0)) rfl 300 [some (.ref 59), some (.int (nI 2))] [.ref 59] rfl ⟨rfl, rfl, rfl, rfl⟩ ?_
  refine Wp.sp (v := nI 301) rfl rfl (by decide) ?_
  have hF146 := hF145.mono (b' := 105) (by decide)
  refine Wp.mni (a := 105) rfl rfl hK143 rfl (by decide) (fun K147 I147 hK147 fa147 z147 => ?_)
  have r147 : ∀ q, I147 59 q = if q = 5 then nI 8 else 0 := fun q => by rw [fa147 59 (by decide)]; exact r143 q
  have fr147 : ∀ x, x ∉ [59, 62, 64, 66, 68, 72, 73, 74, 75, 79, 80, 81, 83, 84, 85, 86, 87, 88, 89, 90, 91, 92, 93, 94, 95, 96, 97, 98, 99, 100, 101, 102, 103, 104, 105] → I147 x = I x := fun x hx => by simp at hx; rw [fa147 x (by omega)]; try exact fr143 x (by simp; omega)
  have hF148 := hF146.mono (b' := 106) (by decide)
  refine Wp.cpR rfl rfl hK147 hF148 (by decide) rfl rfl rfl rfl (fun F149 hF149 => ?_)
  refine Wp.go (x := (.aload_n 0, 1, 0, 0)) rfl 309 [some (.ref 59), some (.int (nI 2))] [.ref 59] rfl ⟨rfl, rfl, rfl, rfl⟩ ?_
  refine Wp.sp (v := nI 196) rfl rfl (by decide) ?_
  have hF150 := hF149.mono (b' := 106) (by decide)
  refine Wp.mnl (a := 106) rfl rfl hK147 rfl (by decide) (fun K151 J151 hK151 => ?_)
  have hF152 := hF150.mono (b' := 107) (by decide)
  refine Wp.cpR rfl rfl hK151 hF152 (by decide) rfl rfl rfl rfl (fun F153 hF153 => ?_)
  refine Wp.go (x := (.aload_n 0, 1, 0, 0)) rfl 318 [some (.ref 59), some (.int (nI 2))] [.ref 59] rfl ⟨rfl, rfl, rfl, rfl⟩ ?_
  refine Wp.go (x := (.iload_n 1, 1, 0, 0)) rfl 319 [some (.ref 59), some (.int (nI 2))] [.int (nI 2), .ref 59] rfl ⟨rfl, rfl, rfl, rfl⟩ ?_
  refine Wp.z_ge rfl rfl ⟨fun c => ?_, fun c => absurd (by decide) c⟩
  refine Wp.go (x := (.iload_n 1, 1, 0, 0)) rfl 327 [some (.ref 59), some (.int (nI 2))] [.int (nI 2), .ref 59] rfl ⟨rfl, rfl, rfl, rfl⟩ ?_
  refine Wp.ic (v := nI 2) rfl rfl (by decide) ?_
  refine Wp.c_le rfl rfl ⟨fun c => ?_, fun c => absurd (by decide) c⟩
  refine Wp.go (x := (.iload_n 1, 1, 0, 0)) rfl 336 [some (.ref 59), some (.int (nI 2))] [.int (nI 2), .ref 59] rfl ⟨rfl, rfl, rfl, rfl⟩ ?_
  refine Wp.mpI rfl rfl hK151 (by decide) rfl rfl (Or.inl rfl) (fun I154 fa154 z154 => ?_)
  have r154 : ∀ q, I154 59 q = if q = 1 then nI 2 else if q = 5 then nI 8 else 0 := fun q => by
    rw [z154 q]
    by_cases e : q = 1
    · rw [if_pos e, if_pos e]
    · rw [if_neg e, if_neg e]
      exact r147 q
  have fr154 : ∀ x, x ∉ [59, 62, 64, 66, 68, 72, 73, 74, 75, 79, 80, 81, 83, 84, 85, 86, 87, 88, 89, 90, 91, 92, 93, 94, 95, 96, 97, 98, 99, 100, 101, 102, 103, 104, 105] → I154 x = I x := fun x hx => by simp at hx; rw [fa154 x (by omega)]; try exact fr147 x (by simp; omega)
  refine Wp.go (x := (.aload_n 0, 1, 0, 0)) rfl 340 [some (.ref 59), some (.int (nI 2))] [.ref 59] rfl ⟨rfl, rfl, rfl, rfl⟩ ?_
  refine Wp.call (x := (.invokevirtual 126, 3, 98, 1)) rfl 98 [.ref 59] [] (by show xtg 98 (K151 59).1 = _; rw [hK151.at (a := 59) (by decide) rfl]; rfl) rfl ⟨Nat.le_of_ble_eq_true rfl, Nat.le_of_ble_eq_true rfl, Nat.le_of_ble_eq_true rfl⟩ rfl rfl rfl ?_
  refine p_startG (K := K151) (hK151.lt (by decide) hL) (hK151.at (by decide) rfl) (hF153.at (by simp) rfl) (hK151.at (by decide) rfl) (fun I155 b155 g155 v155 y155 => ?_)
  show Wp (d + 1) 96 343 [some (.ref 59), some (.int (nI 2))] [] _ Q
  have fr155 : ∀ x, x ∉ [59, 62, 64, 66, 68, 72, 73, 74, 75, 79, 80, 81, 83, 84, 85, 86, 87, 88, 89, 90, 91, 92, 93, 94, 95, 96, 97, 98, 99, 100, 101, 102, 103, 104, 105] → I155 x = I x := fun x hx => by simp at hx; rw [b155 x (by simp; omega)]; exact fr154 x (by simp; omega)
  have r155 : ∀ q, I155 59 q = if q = 5 then nI 8 else if q = 1 then nI 2 else if q = 5 then nI 8 else 0 := fun q => by
    by_cases e : q = 5
    · rw [if_pos e, e]; exact v155
    · rw [if_neg e, g155 q e]; exact r154 q
  exact Wp.rV rfl rfl (k _ _ _ _ _ _ (by omega) (by omega) hK151 hF153 fr155 r155 y155)
set_option maxRecDepth 20000 in
theorem ci_X11_init_59_2big {L d n1 n2 : Nat} {pl : List Nat} {D : List (Nat × Nat)} {K : Nat → Nat × Nat} {F : Nat → Nat → Option Nat} {I : Nat → Nat → Int32} {J : Nat → Nat → Int64} {Q : Option Value × xS → Prop} (hL : L < 2147483648) {x : Int32} (hx : nI 2 < x) (hK : KP 2 L 60 K) (hF : FD 2 60 D F) (r0 : ∀ q, I 59 q = 0) (k : ∀ K' F' I' J' m1 m2, m1 = n1 + 35 → m2 = n2 + 377439 → KP 2 L 107 K' → FD 2 107 ((59, 46) :: (59, 45) :: (59, 44) :: (59, 43) :: (59, 42) :: (59, 41) :: (59, 40) :: (59, 39) :: (59, 38) :: (59, 37) :: (59, 36) :: (59, 35) :: (59, 34) :: (59, 33) :: (59, 32) :: (59, 31) :: (59, 30) :: (59, 29) :: (59, 28) :: (59, 27) :: (59, 26) :: (59, 25) :: (59, 24) :: (59, 23) :: (59, 21) :: (59, 20) :: (59, 19) :: (59, 15) :: (59, 14) :: (59, 13) :: (59, 12) :: (59, 8) :: (59, 6) :: (59, 4) :: (59, 2) :: D) F' → (∀ x, x ∉ [59, 62, 64, 66, 68, 72, 73, 74, 75, 79, 80, 81, 83, 84, 85, 86, 87, 88, 89, 90, 91, 92, 93, 94, 95, 96, 97, 98, 99, 100, 101, 102, 103, 104, 105] → I' x = I x) → (∀ q, I' 59 q = if q = 5 then nI 8 else if q = 1 then nI 2 else if q = 5 then nI 8 else 0) → (∀ k s, k < 4 → s < SY k → I' 64 (256 * k + s) = nI (V0 k s)) → Q (none, (K', (pl, m1, m2), I', J', F'))) : Wp (d + 1) 96 0 [some (.ref 59), some (.int (x))] [] (K, (62 :: 64 :: 66 :: 68 :: 72 :: 73 :: 74 :: 75 :: 79 :: 80 :: 81 :: 83 :: 84 :: 85 :: 86 :: 87 :: 88 :: 89 :: 90 :: 91 :: 92 :: 93 :: 94 :: 95 :: 96 :: 97 :: 98 :: 99 :: 100 :: 101 :: 102 :: 103 :: 104 :: 105 :: 106 :: pl, n1, n2), I, J, F) Q := by
  have fr0 : ∀ x, x ∉ [59] → I x = I x := fun _ _ => rfl
  refine Wp.go (x := (.aload_n 0, 1, 0, 0)) rfl 1 [some (.ref 59), some (.int x)] [.ref 59] rfl ⟨rfl, rfl, rfl, rfl⟩ ?_
  refine Wp.obj rfl rfl rfl (by omega) (Nat.le_of_ble_eq_true rfl) ?_
  refine Wp.go (x := (.aload_n 0, 1, 0, 0)) rfl 5 [some (.ref 59), some (.int x)] [.ref 59] rfl ⟨rfl, rfl, rfl, rfl⟩ ?_
  refine Wp.sp (v := nI 301) rfl rfl (by decide) ?_
  have hK1 := hK.skip rfl
  have hK2 := hK1.skip rfl
  have hF3 := hF.mono (b' := 62) (by decide)
  refine Wp.mni (a := 62) rfl rfl hK2 rfl (by decide) (fun K4 I4 hK4 fa4 z4 => ?_)
  have r4 : ∀ q, I4 59 q = 0 := fun q => by rw [fa4 59 (by decide)]; exact r0 q
  have fr4 : ∀ x, x ∉ [59, 62] → I4 x = I x := fun x hx => by simp at hx; rw [fa4 x (by omega)]; try exact fr0 x (by simp; omega)
  have hF5 := hF3.mono (b' := 63) (by decide)
  refine Wp.cpR rfl rfl hK4 hF5 (by decide) rfl rfl rfl rfl (fun F6 hF6 => ?_)
  refine Wp.go (x := (.aload_n 0, 1, 0, 0)) rfl 14 [some (.ref 59), some (.int x)] [.ref 59] rfl ⟨rfl, rfl, rfl, rfl⟩ ?_
  refine Wp.sp (v := nI 1024) rfl rfl (by decide) ?_
  have hK7 := hK4.skip rfl
  have hF8 := hF6.mono (b' := 64) (by decide)
  refine Wp.mni (a := 64) rfl rfl hK7 rfl (by decide) (fun K9 I9 hK9 fa9 z9 => ?_)
  have r9 : ∀ q, I9 59 q = 0 := fun q => by rw [fa9 59 (by decide)]; exact r4 q
  have fr9 : ∀ x, x ∉ [59, 62, 64] → I9 x = I x := fun x hx => by simp at hx; rw [fa9 x (by omega)]; try exact fr4 x (by simp; omega)
  have hF10 := hF8.mono (b' := 65) (by decide)
  refine Wp.cpR rfl rfl hK9 hF10 (by decide) rfl rfl rfl rfl (fun F11 hF11 => ?_)
  refine Wp.go (x := (.aload_n 0, 1, 0, 0)) rfl 23 [some (.ref 59), some (.int x)] [.ref 59] rfl ⟨rfl, rfl, rfl, rfl⟩ ?_
  refine Wp.bp (v := nI 8) rfl rfl (by decide) ?_
  refine Wp.mpI rfl rfl hK9 (by decide) rfl rfl (Or.inl rfl) (fun I12 fa12 z12 => ?_)
  have r12 : ∀ q, I12 59 q = if q = 5 then nI 8 else 0 := fun q => by
    rw [z12 q]
    by_cases e : q = 5
    · rw [if_pos e, if_pos e]
    · rw [if_neg e, if_neg e]
      exact r9 q
  have fr12 : ∀ x, x ∉ [59, 62, 64] → I12 x = I x := fun x hx => by simp at hx; rw [fa12 x (by omega)]; try exact fr9 x (by simp; omega)
  refine Wp.go (x := (.aload_n 0, 1, 0, 0)) rfl 29 [some (.ref 59), some (.int x)] [.ref 59] rfl ⟨rfl, rfl, rfl, rfl⟩ ?_
  refine Wp.bp (v := nI 12) rfl rfl (by decide) ?_
  have hK13 := hK9.skip rfl
  have hF14 := hF11.mono (b' := 66) (by decide)
  refine Wp.mni (a := 66) rfl rfl hK13 rfl (by decide) (fun K15 I15 hK15 fa15 z15 => ?_)
  have r15 : ∀ q, I15 59 q = if q = 5 then nI 8 else 0 := fun q => by rw [fa15 59 (by decide)]; exact r12 q
  have fr15 : ∀ x, x ∉ [59, 62, 64, 66] → I15 x = I x := fun x hx => by simp at hx; rw [fa15 x (by omega)]; try exact fr12 x (by simp; omega)
  have hF16 := hF14.mono (b' := 67) (by decide)
  refine Wp.cpR rfl rfl hK15 hF16 (by decide) rfl rfl rfl rfl (fun F17 hF17 => ?_)
  refine Wp.go (x := (.aload_n 0, 1, 0, 0)) rfl 37 [some (.ref 59), some (.int x)] [.ref 59] rfl ⟨rfl, rfl, rfl, rfl⟩ ?_
  refine Wp.bp (v := nI 12) rfl rfl (by decide) ?_
  have hK18 := hK15.skip rfl
  have hF19 := hF17.mono (b' := 68) (by decide)
  refine Wp.mni (a := 68) rfl rfl hK18 rfl (by decide) (fun K20 I20 hK20 fa20 z20 => ?_)
  have r20 : ∀ q, I20 59 q = if q = 5 then nI 8 else 0 := fun q => by rw [fa20 59 (by decide)]; exact r15 q
  have fr20 : ∀ x, x ∉ [59, 62, 64, 66, 68] → I20 x = I x := fun x hx => by simp at hx; rw [fa20 x (by omega)]; try exact fr15 x (by simp; omega)
  have hF21 := hF19.mono (b' := 69) (by decide)
  refine Wp.cpR rfl rfl hK20 hF21 (by decide) rfl rfl rfl rfl (fun F22 hF22 => ?_)
  refine Wp.go (x := (.aload_n 0, 1, 0, 0)) rfl 45 [some (.ref 59), some (.int x)] [.ref 59] rfl ⟨rfl, rfl, rfl, rfl⟩ ?_
  refine Wp.sp (v := nI 301) rfl rfl (by decide) ?_
  have hK23 := hK20.skip rfl
  have hK24 := hK23.skip rfl
  have hK25 := hK24.skip rfl
  have hF26 := hF22.mono (b' := 72) (by decide)
  refine Wp.mni (a := 72) rfl rfl hK25 rfl (by decide) (fun K27 I27 hK27 fa27 z27 => ?_)
  have r27 : ∀ q, I27 59 q = if q = 5 then nI 8 else 0 := fun q => by rw [fa27 59 (by decide)]; exact r20 q
  have fr27 : ∀ x, x ∉ [59, 62, 64, 66, 68, 72] → I27 x = I x := fun x hx => by simp at hx; rw [fa27 x (by omega)]; try exact fr20 x (by simp; omega)
  have hF28 := hF26.mono (b' := 73) (by decide)
  refine Wp.cpR rfl rfl hK27 hF28 (by decide) rfl rfl rfl rfl (fun F29 hF29 => ?_)
  refine Wp.go (x := (.aload_n 0, 1, 0, 0)) rfl 54 [some (.ref 59), some (.int x)] [.ref 59] rfl ⟨rfl, rfl, rfl, rfl⟩ ?_
  refine Wp.sp (v := nI 301) rfl rfl (by decide) ?_
  have hF30 := hF29.mono (b' := 73) (by decide)
  refine Wp.mni (a := 73) rfl rfl hK27 rfl (by decide) (fun K31 I31 hK31 fa31 z31 => ?_)
  have r31 : ∀ q, I31 59 q = if q = 5 then nI 8 else 0 := fun q => by rw [fa31 59 (by decide)]; exact r27 q
  have fr31 : ∀ x, x ∉ [59, 62, 64, 66, 68, 72, 73] → I31 x = I x := fun x hx => by simp at hx; rw [fa31 x (by omega)]; try exact fr27 x (by simp; omega)
  have hF32 := hF30.mono (b' := 74) (by decide)
  refine Wp.cpR rfl rfl hK31 hF32 (by decide) rfl rfl rfl rfl (fun F33 hF33 => ?_)
  refine Wp.go (x := (.aload_n 0, 1, 0, 0)) rfl 63 [some (.ref 59), some (.int x)] [.ref 59] rfl ⟨rfl, rfl, rfl, rfl⟩ ?_
  refine Wp.sp (v := nI 301) rfl rfl (by decide) ?_
  have hF34 := hF33.mono (b' := 74) (by decide)
  refine Wp.mni (a := 74) rfl rfl hK31 rfl (by decide) (fun K35 I35 hK35 fa35 z35 => ?_)
  have r35 : ∀ q, I35 59 q = if q = 5 then nI 8 else 0 := fun q => by rw [fa35 59 (by decide)]; exact r31 q
  have fr35 : ∀ x, x ∉ [59, 62, 64, 66, 68, 72, 73, 74] → I35 x = I x := fun x hx => by simp at hx; rw [fa35 x (by omega)]; try exact fr31 x (by simp; omega)
  have hF36 := hF34.mono (b' := 75) (by decide)
  refine Wp.cpR rfl rfl hK35 hF36 (by decide) rfl rfl rfl rfl (fun F37 hF37 => ?_)
  refine Wp.go (x := (.aload_n 0, 1, 0, 0)) rfl 72 [some (.ref 59), some (.int x)] [.ref 59] rfl ⟨rfl, rfl, rfl, rfl⟩ ?_
  refine Wp.sp (v := nI 301) rfl rfl (by decide) ?_
  have hF38 := hF37.mono (b' := 75) (by decide)
  refine Wp.mni (a := 75) rfl rfl hK35 rfl (by decide) (fun K39 I39 hK39 fa39 z39 => ?_)
  have r39 : ∀ q, I39 59 q = if q = 5 then nI 8 else 0 := fun q => by rw [fa39 59 (by decide)]; exact r35 q
  have fr39 : ∀ x, x ∉ [59, 62, 64, 66, 68, 72, 73, 74, 75] → I39 x = I x := fun x hx => by simp at hx; rw [fa39 x (by omega)]; try exact fr35 x (by simp; omega)
  have hF40 := hF38.mono (b' := 76) (by decide)
  refine Wp.cpR rfl rfl hK39 hF40 (by decide) rfl rfl rfl rfl (fun F41 hF41 => ?_)
  refine Wp.go (x := (.aload_n 0, 1, 0, 0)) rfl 81 [some (.ref 59), some (.int x)] [.ref 59] rfl ⟨rfl, rfl, rfl, rfl⟩ ?_
  refine Wp.ldc (v := nI 90601) rfl rfl (by first | rfl | decide) ?_
  have hK42 := hK39.skip rfl
  have hK43 := hK42.skip rfl
  have hK44 := hK43.skip rfl
  have hF45 := hF41.mono (b' := 79) (by decide)
  refine Wp.mni (a := 79) rfl rfl hK44 rfl (by decide) (fun K46 I46 hK46 fa46 z46 => ?_)
  have r46 : ∀ q, I46 59 q = if q = 5 then nI 8 else 0 := fun q => by rw [fa46 59 (by decide)]; exact r39 q
  have fr46 : ∀ x, x ∉ [59, 62, 64, 66, 68, 72, 73, 74, 75, 79] → I46 x = I x := fun x hx => by simp at hx; rw [fa46 x (by omega)]; try exact fr39 x (by simp; omega)
  have hF47 := hF45.mono (b' := 80) (by decide)
  refine Wp.cpR rfl rfl hK46 hF47 (by decide) rfl rfl rfl rfl (fun F48 hF48 => ?_)
  refine Wp.go (x := (.aload_n 0, 1, 0, 0)) rfl 89 [some (.ref 59), some (.int x)] [.ref 59] rfl ⟨rfl, rfl, rfl, rfl⟩ ?_
  refine Wp.ldc (v := nI 90601) rfl rfl (by first | rfl | decide) ?_
  have hF49 := hF48.mono (b' := 80) (by decide)
  refine Wp.mni (a := 80) rfl rfl hK46 rfl (by decide) (fun K50 I50 hK50 fa50 z50 => ?_)
  have r50 : ∀ q, I50 59 q = if q = 5 then nI 8 else 0 := fun q => by rw [fa50 59 (by decide)]; exact r46 q
  have fr50 : ∀ x, x ∉ [59, 62, 64, 66, 68, 72, 73, 74, 75, 79, 80] → I50 x = I x := fun x hx => by simp at hx; rw [fa50 x (by omega)]; try exact fr46 x (by simp; omega)
  have hF51 := hF49.mono (b' := 81) (by decide)
  refine Wp.cpR rfl rfl hK50 hF51 (by decide) rfl rfl rfl rfl (fun F52 hF52 => ?_)
  refine Wp.go (x := (.aload_n 0, 1, 0, 0)) rfl 97 [some (.ref 59), some (.int x)] [.ref 59] rfl ⟨rfl, rfl, rfl, rfl⟩ ?_
  refine Wp.ic (v := nI 4) rfl rfl (by decide) ?_
  have hF53 := hF52.mono (b' := 81) (by decide)
  refine Wp.mni (a := 81) rfl rfl hK50 rfl (by decide) (fun K54 I54 hK54 fa54 z54 => ?_)
  have r54 : ∀ q, I54 59 q = if q = 5 then nI 8 else 0 := fun q => by rw [fa54 59 (by decide)]; exact r50 q
  have fr54 : ∀ x, x ∉ [59, 62, 64, 66, 68, 72, 73, 74, 75, 79, 80, 81] → I54 x = I x := fun x hx => by simp at hx; rw [fa54 x (by omega)]; try exact fr50 x (by simp; omega)
  have hF55 := hF53.mono (b' := 82) (by decide)
  refine Wp.cpR rfl rfl hK54 hF55 (by decide) rfl rfl rfl rfl (fun F56 hF56 => ?_)
  refine Wp.go (x := (.aload_n 0, 1, 0, 0)) rfl 104 [some (.ref 59), some (.int x)] [.ref 59] rfl ⟨rfl, rfl, rfl, rfl⟩ ?_
  refine Wp.ldc (v := nI 90601) rfl rfl (by first | rfl | decide) ?_
  have hK57 := hK54.skip rfl
  have hF58 := hF56.mono (b' := 83) (by decide)
  refine Wp.mni (a := 83) rfl rfl hK57 rfl (by decide) (fun K59 I59 hK59 fa59 z59 => ?_)
  have r59 : ∀ q, I59 59 q = if q = 5 then nI 8 else 0 := fun q => by rw [fa59 59 (by decide)]; exact r54 q
  have fr59 : ∀ x, x ∉ [59, 62, 64, 66, 68, 72, 73, 74, 75, 79, 80, 81, 83] → I59 x = I x := fun x hx => by simp at hx; rw [fa59 x (by omega)]; try exact fr54 x (by simp; omega)
  have hF60 := hF58.mono (b' := 84) (by decide)
  refine Wp.cpR rfl rfl hK59 hF60 (by decide) rfl rfl rfl rfl (fun F61 hF61 => ?_)
  refine Wp.go (x := (.aload_n 0, 1, 0, 0)) rfl 112 [some (.ref 59), some (.int x)] [.ref 59] rfl ⟨rfl, rfl, rfl, rfl⟩ ?_
  refine Wp.sp (v := nI 301) rfl rfl (by decide) ?_
  have hF62 := hF61.mono (b' := 84) (by decide)
  refine Wp.mni (a := 84) rfl rfl hK59 rfl (by decide) (fun K63 I63 hK63 fa63 z63 => ?_)
  have r63 : ∀ q, I63 59 q = if q = 5 then nI 8 else 0 := fun q => by rw [fa63 59 (by decide)]; exact r59 q
  have fr63 : ∀ x, x ∉ [59, 62, 64, 66, 68, 72, 73, 74, 75, 79, 80, 81, 83, 84] → I63 x = I x := fun x hx => by simp at hx; rw [fa63 x (by omega)]; try exact fr59 x (by simp; omega)
  have hF64 := hF62.mono (b' := 85) (by decide)
  refine Wp.cpR rfl rfl hK63 hF64 (by decide) rfl rfl rfl rfl (fun F65 hF65 => ?_)
  refine Wp.go (x := (.aload_n 0, 1, 0, 0)) rfl 121 [some (.ref 59), some (.int x)] [.ref 59] rfl ⟨rfl, rfl, rfl, rfl⟩ ?_
  refine Wp.sp (v := nI 301) rfl rfl (by decide) ?_
  have hF66 := hF65.mono (b' := 85) (by decide)
  refine Wp.mni (a := 85) rfl rfl hK63 rfl (by decide) (fun K67 I67 hK67 fa67 z67 => ?_)
  have r67 : ∀ q, I67 59 q = if q = 5 then nI 8 else 0 := fun q => by rw [fa67 59 (by decide)]; exact r63 q
  have fr67 : ∀ x, x ∉ [59, 62, 64, 66, 68, 72, 73, 74, 75, 79, 80, 81, 83, 84, 85] → I67 x = I x := fun x hx => by simp at hx; rw [fa67 x (by omega)]; try exact fr63 x (by simp; omega)
  have hF68 := hF66.mono (b' := 86) (by decide)
  refine Wp.cpR rfl rfl hK67 hF68 (by decide) rfl rfl rfl rfl (fun F69 hF69 => ?_)
  refine Wp.go (x := (.aload_n 0, 1, 0, 0)) rfl 130 [some (.ref 59), some (.int x)] [.ref 59] rfl ⟨rfl, rfl, rfl, rfl⟩ ?_
  refine Wp.sp (v := nI 301) rfl rfl (by decide) ?_
  have hF70 := hF69.mono (b' := 86) (by decide)
  refine Wp.mni (a := 86) rfl rfl hK67 rfl (by decide) (fun K71 I71 hK71 fa71 z71 => ?_)
  have r71 : ∀ q, I71 59 q = if q = 5 then nI 8 else 0 := fun q => by rw [fa71 59 (by decide)]; exact r67 q
  have fr71 : ∀ x, x ∉ [59, 62, 64, 66, 68, 72, 73, 74, 75, 79, 80, 81, 83, 84, 85, 86] → I71 x = I x := fun x hx => by simp at hx; rw [fa71 x (by omega)]; try exact fr67 x (by simp; omega)
  have hF72 := hF70.mono (b' := 87) (by decide)
  refine Wp.cpR rfl rfl hK71 hF72 (by decide) rfl rfl rfl rfl (fun F73 hF73 => ?_)
  refine Wp.go (x := (.aload_n 0, 1, 0, 0)) rfl 139 [some (.ref 59), some (.int x)] [.ref 59] rfl ⟨rfl, rfl, rfl, rfl⟩ ?_
  refine Wp.sp (v := nI 301) rfl rfl (by decide) ?_
  have hF74 := hF73.mono (b' := 87) (by decide)
  refine Wp.mnz (a := 87) rfl rfl hK71 rfl (by decide) (fun K75 I75 hK75 fa75 z75 => ?_)
  have r75 : ∀ q, I75 59 q = if q = 5 then nI 8 else 0 := fun q => by rw [fa75 59 (by decide)]; exact r71 q
  have fr75 : ∀ x, x ∉ [59, 62, 64, 66, 68, 72, 73, 74, 75, 79, 80, 81, 83, 84, 85, 86, 87] → I75 x = I x := fun x hx => by simp at hx; rw [fa75 x (by omega)]; try exact fr71 x (by simp; omega)
  have hF76 := hF74.mono (b' := 88) (by decide)
  refine Wp.cpR rfl rfl hK75 hF76 (by decide) rfl rfl rfl rfl (fun F77 hF77 => ?_)
  refine Wp.go (x := (.aload_n 0, 1, 0, 0)) rfl 148 [some (.ref 59), some (.int x)] [.ref 59] rfl ⟨rfl, rfl, rfl, rfl⟩ ?_
  refine Wp.sp (v := nI 301) rfl rfl (by decide) ?_
  have hF78 := hF77.mono (b' := 88) (by decide)
  refine Wp.mni (a := 88) rfl rfl hK75 rfl (by decide) (fun K79 I79 hK79 fa79 z79 => ?_)
  have r79 : ∀ q, I79 59 q = if q = 5 then nI 8 else 0 := fun q => by rw [fa79 59 (by decide)]; exact r75 q
  have fr79 : ∀ x, x ∉ [59, 62, 64, 66, 68, 72, 73, 74, 75, 79, 80, 81, 83, 84, 85, 86, 87, 88] → I79 x = I x := fun x hx => by simp at hx; rw [fa79 x (by omega)]; try exact fr75 x (by simp; omega)
  have hF80 := hF78.mono (b' := 89) (by decide)
  refine Wp.cpR rfl rfl hK79 hF80 (by decide) rfl rfl rfl rfl (fun F81 hF81 => ?_)
  refine Wp.go (x := (.aload_n 0, 1, 0, 0)) rfl 157 [some (.ref 59), some (.int x)] [.ref 59] rfl ⟨rfl, rfl, rfl, rfl⟩ ?_
  refine Wp.sp (v := nI 301) rfl rfl (by decide) ?_
  have hF82 := hF81.mono (b' := 89) (by decide)
  refine Wp.mni (a := 89) rfl rfl hK79 rfl (by decide) (fun K83 I83 hK83 fa83 z83 => ?_)
  have r83 : ∀ q, I83 59 q = if q = 5 then nI 8 else 0 := fun q => by rw [fa83 59 (by decide)]; exact r79 q
  have fr83 : ∀ x, x ∉ [59, 62, 64, 66, 68, 72, 73, 74, 75, 79, 80, 81, 83, 84, 85, 86, 87, 88, 89] → I83 x = I x := fun x hx => by simp at hx; rw [fa83 x (by omega)]; try exact fr79 x (by simp; omega)
  have hF84 := hF82.mono (b' := 90) (by decide)
  refine Wp.cpR rfl rfl hK83 hF84 (by decide) rfl rfl rfl rfl (fun F85 hF85 => ?_)
  refine Wp.go (x := (.aload_n 0, 1, 0, 0)) rfl 166 [some (.ref 59), some (.int x)] [.ref 59] rfl ⟨rfl, rfl, rfl, rfl⟩ ?_
  refine Wp.sp (v := nI 301) rfl rfl (by decide) ?_
  have hF86 := hF85.mono (b' := 90) (by decide)
  refine Wp.mni (a := 90) rfl rfl hK83 rfl (by decide) (fun K87 I87 hK87 fa87 z87 => ?_)
  have r87 : ∀ q, I87 59 q = if q = 5 then nI 8 else 0 := fun q => by rw [fa87 59 (by decide)]; exact r83 q
  have fr87 : ∀ x, x ∉ [59, 62, 64, 66, 68, 72, 73, 74, 75, 79, 80, 81, 83, 84, 85, 86, 87, 88, 89, 90] → I87 x = I x := fun x hx => by simp at hx; rw [fa87 x (by omega)]; try exact fr83 x (by simp; omega)
  have hF88 := hF86.mono (b' := 91) (by decide)
  refine Wp.cpR rfl rfl hK87 hF88 (by decide) rfl rfl rfl rfl (fun F89 hF89 => ?_)
  refine Wp.go (x := (.aload_n 0, 1, 0, 0)) rfl 175 [some (.ref 59), some (.int x)] [.ref 59] rfl ⟨rfl, rfl, rfl, rfl⟩ ?_
  refine Wp.sp (v := nI 301) rfl rfl (by decide) ?_
  have hF90 := hF89.mono (b' := 91) (by decide)
  refine Wp.mni (a := 91) rfl rfl hK87 rfl (by decide) (fun K91 I91 hK91 fa91 z91 => ?_)
  have r91 : ∀ q, I91 59 q = if q = 5 then nI 8 else 0 := fun q => by rw [fa91 59 (by decide)]; exact r87 q
  have fr91 : ∀ x, x ∉ [59, 62, 64, 66, 68, 72, 73, 74, 75, 79, 80, 81, 83, 84, 85, 86, 87, 88, 89, 90, 91] → I91 x = I x := fun x hx => by simp at hx; rw [fa91 x (by omega)]; try exact fr87 x (by simp; omega)
  have hF92 := hF90.mono (b' := 92) (by decide)
  refine Wp.cpR rfl rfl hK91 hF92 (by decide) rfl rfl rfl rfl (fun F93 hF93 => ?_)
  refine Wp.go (x := (.aload_n 0, 1, 0, 0)) rfl 184 [some (.ref 59), some (.int x)] [.ref 59] rfl ⟨rfl, rfl, rfl, rfl⟩ ?_
  refine Wp.sp (v := nI 301) rfl rfl (by decide) ?_
  have hF94 := hF93.mono (b' := 92) (by decide)
  refine Wp.mni (a := 92) rfl rfl hK91 rfl (by decide) (fun K95 I95 hK95 fa95 z95 => ?_)
  have r95 : ∀ q, I95 59 q = if q = 5 then nI 8 else 0 := fun q => by rw [fa95 59 (by decide)]; exact r91 q
  have fr95 : ∀ x, x ∉ [59, 62, 64, 66, 68, 72, 73, 74, 75, 79, 80, 81, 83, 84, 85, 86, 87, 88, 89, 90, 91, 92] → I95 x = I x := fun x hx => by simp at hx; rw [fa95 x (by omega)]; try exact fr91 x (by simp; omega)
  have hF96 := hF94.mono (b' := 93) (by decide)
  refine Wp.cpR rfl rfl hK95 hF96 (by decide) rfl rfl rfl rfl (fun F97 hF97 => ?_)
  refine Wp.go (x := (.aload_n 0, 1, 0, 0)) rfl 193 [some (.ref 59), some (.int x)] [.ref 59] rfl ⟨rfl, rfl, rfl, rfl⟩ ?_
  refine Wp.sp (v := nI 301) rfl rfl (by decide) ?_
  have hF98 := hF97.mono (b' := 93) (by decide)
  refine Wp.mnz (a := 93) rfl rfl hK95 rfl (by decide) (fun K99 I99 hK99 fa99 z99 => ?_)
  have r99 : ∀ q, I99 59 q = if q = 5 then nI 8 else 0 := fun q => by rw [fa99 59 (by decide)]; exact r95 q
  have fr99 : ∀ x, x ∉ [59, 62, 64, 66, 68, 72, 73, 74, 75, 79, 80, 81, 83, 84, 85, 86, 87, 88, 89, 90, 91, 92, 93] → I99 x = I x := fun x hx => by simp at hx; rw [fa99 x (by omega)]; try exact fr95 x (by simp; omega)
  have hF100 := hF98.mono (b' := 94) (by decide)
  refine Wp.cpR rfl rfl hK99 hF100 (by decide) rfl rfl rfl rfl (fun F101 hF101 => ?_)
  refine Wp.go (x := (.aload_n 0, 1, 0, 0)) rfl 202 [some (.ref 59), some (.int x)] [.ref 59] rfl ⟨rfl, rfl, rfl, rfl⟩ ?_
  refine Wp.sp (v := nI 12040) rfl rfl (by decide) ?_
  have hF102 := hF101.mono (b' := 94) (by decide)
  refine Wp.mni (a := 94) rfl rfl hK99 rfl (by decide) (fun K103 I103 hK103 fa103 z103 => ?_)
  have r103 : ∀ q, I103 59 q = if q = 5 then nI 8 else 0 := fun q => by rw [fa103 59 (by decide)]; exact r99 q
  have fr103 : ∀ x, x ∉ [59, 62, 64, 66, 68, 72, 73, 74, 75, 79, 80, 81, 83, 84, 85, 86, 87, 88, 89, 90, 91, 92, 93, 94] → I103 x = I x := fun x hx => by simp at hx; rw [fa103 x (by omega)]; try exact fr99 x (by simp; omega)
  have hF104 := hF102.mono (b' := 95) (by decide)
  refine Wp.cpR rfl rfl hK103 hF104 (by decide) rfl rfl rfl rfl (fun F105 hF105 => ?_)
  refine Wp.go (x := (.aload_n 0, 1, 0, 0)) rfl 211 [some (.ref 59), some (.int x)] [.ref 59] rfl ⟨rfl, rfl, rfl, rfl⟩ ?_
  refine Wp.ldc (v := nI 48160) rfl rfl (by first | rfl | decide) ?_
  have hF106 := hF105.mono (b' := 95) (by decide)
  refine Wp.mni (a := 95) rfl rfl hK103 rfl (by decide) (fun K107 I107 hK107 fa107 z107 => ?_)
  have r107 : ∀ q, I107 59 q = if q = 5 then nI 8 else 0 := fun q => by rw [fa107 59 (by decide)]; exact r103 q
  have fr107 : ∀ x, x ∉ [59, 62, 64, 66, 68, 72, 73, 74, 75, 79, 80, 81, 83, 84, 85, 86, 87, 88, 89, 90, 91, 92, 93, 94, 95] → I107 x = I x := fun x hx => by simp at hx; rw [fa107 x (by omega)]; try exact fr103 x (by simp; omega)
  have hF108 := hF106.mono (b' := 96) (by decide)
  refine Wp.cpR rfl rfl hK107 hF108 (by decide) rfl rfl rfl rfl (fun F109 hF109 => ?_)
  refine Wp.go (x := (.aload_n 0, 1, 0, 0)) rfl 219 [some (.ref 59), some (.int x)] [.ref 59] rfl ⟨rfl, rfl, rfl, rfl⟩ ?_
  refine Wp.sp (v := nI 12040) rfl rfl (by decide) ?_
  have hF110 := hF109.mono (b' := 96) (by decide)
  refine Wp.mni (a := 96) rfl rfl hK107 rfl (by decide) (fun K111 I111 hK111 fa111 z111 => ?_)
  have r111 : ∀ q, I111 59 q = if q = 5 then nI 8 else 0 := fun q => by rw [fa111 59 (by decide)]; exact r107 q
  have fr111 : ∀ x, x ∉ [59, 62, 64, 66, 68, 72, 73, 74, 75, 79, 80, 81, 83, 84, 85, 86, 87, 88, 89, 90, 91, 92, 93, 94, 95, 96] → I111 x = I x := fun x hx => by simp at hx; rw [fa111 x (by omega)]; try exact fr107 x (by simp; omega)
  have hF112 := hF110.mono (b' := 97) (by decide)
  refine Wp.cpR rfl rfl hK111 hF112 (by decide) rfl rfl rfl rfl (fun F113 hF113 => ?_)
  refine Wp.go (x := (.aload_n 0, 1, 0, 0)) rfl 228 [some (.ref 59), some (.int x)] [.ref 59] rfl ⟨rfl, rfl, rfl, rfl⟩ ?_
  refine Wp.sp (v := nI 12040) rfl rfl (by decide) ?_
  have hF114 := hF113.mono (b' := 97) (by decide)
  refine Wp.mni (a := 97) rfl rfl hK111 rfl (by decide) (fun K115 I115 hK115 fa115 z115 => ?_)
  have r115 : ∀ q, I115 59 q = if q = 5 then nI 8 else 0 := fun q => by rw [fa115 59 (by decide)]; exact r111 q
  have fr115 : ∀ x, x ∉ [59, 62, 64, 66, 68, 72, 73, 74, 75, 79, 80, 81, 83, 84, 85, 86, 87, 88, 89, 90, 91, 92, 93, 94, 95, 96, 97] → I115 x = I x := fun x hx => by simp at hx; rw [fa115 x (by omega)]; try exact fr111 x (by simp; omega)
  have hF116 := hF114.mono (b' := 98) (by decide)
  refine Wp.cpR rfl rfl hK115 hF116 (by decide) rfl rfl rfl rfl (fun F117 hF117 => ?_)
  refine Wp.go (x := (.aload_n 0, 1, 0, 0)) rfl 237 [some (.ref 59), some (.int x)] [.ref 59] rfl ⟨rfl, rfl, rfl, rfl⟩ ?_
  refine Wp.sp (v := nI 12040) rfl rfl (by decide) ?_
  have hF118 := hF117.mono (b' := 98) (by decide)
  refine Wp.mni (a := 98) rfl rfl hK115 rfl (by decide) (fun K119 I119 hK119 fa119 z119 => ?_)
  have r119 : ∀ q, I119 59 q = if q = 5 then nI 8 else 0 := fun q => by rw [fa119 59 (by decide)]; exact r115 q
  have fr119 : ∀ x, x ∉ [59, 62, 64, 66, 68, 72, 73, 74, 75, 79, 80, 81, 83, 84, 85, 86, 87, 88, 89, 90, 91, 92, 93, 94, 95, 96, 97, 98] → I119 x = I x := fun x hx => by simp at hx; rw [fa119 x (by omega)]; try exact fr115 x (by simp; omega)
  have hF120 := hF118.mono (b' := 99) (by decide)
  refine Wp.cpR rfl rfl hK119 hF120 (by decide) rfl rfl rfl rfl (fun F121 hF121 => ?_)
  refine Wp.go (x := (.aload_n 0, 1, 0, 0)) rfl 246 [some (.ref 59), some (.int x)] [.ref 59] rfl ⟨rfl, rfl, rfl, rfl⟩ ?_
  refine Wp.sp (v := nI 1024) rfl rfl (by decide) ?_
  have hF122 := hF121.mono (b' := 99) (by decide)
  refine Wp.mni (a := 99) rfl rfl hK119 rfl (by decide) (fun K123 I123 hK123 fa123 z123 => ?_)
  have r123 : ∀ q, I123 59 q = if q = 5 then nI 8 else 0 := fun q => by rw [fa123 59 (by decide)]; exact r119 q
  have fr123 : ∀ x, x ∉ [59, 62, 64, 66, 68, 72, 73, 74, 75, 79, 80, 81, 83, 84, 85, 86, 87, 88, 89, 90, 91, 92, 93, 94, 95, 96, 97, 98, 99] → I123 x = I x := fun x hx => by simp at hx; rw [fa123 x (by omega)]; try exact fr119 x (by simp; omega)
  have hF124 := hF122.mono (b' := 100) (by decide)
  refine Wp.cpR rfl rfl hK123 hF124 (by decide) rfl rfl rfl rfl (fun F125 hF125 => ?_)
  refine Wp.go (x := (.aload_n 0, 1, 0, 0)) rfl 255 [some (.ref 59), some (.int x)] [.ref 59] rfl ⟨rfl, rfl, rfl, rfl⟩ ?_
  refine Wp.sp (v := nI 1024) rfl rfl (by decide) ?_
  have hF126 := hF125.mono (b' := 100) (by decide)
  refine Wp.mni (a := 100) rfl rfl hK123 rfl (by decide) (fun K127 I127 hK127 fa127 z127 => ?_)
  have r127 : ∀ q, I127 59 q = if q = 5 then nI 8 else 0 := fun q => by rw [fa127 59 (by decide)]; exact r123 q
  have fr127 : ∀ x, x ∉ [59, 62, 64, 66, 68, 72, 73, 74, 75, 79, 80, 81, 83, 84, 85, 86, 87, 88, 89, 90, 91, 92, 93, 94, 95, 96, 97, 98, 99, 100] → I127 x = I x := fun x hx => by simp at hx; rw [fa127 x (by omega)]; try exact fr123 x (by simp; omega)
  have hF128 := hF126.mono (b' := 101) (by decide)
  refine Wp.cpR rfl rfl hK127 hF128 (by decide) rfl rfl rfl rfl (fun F129 hF129 => ?_)
  refine Wp.go (x := (.aload_n 0, 1, 0, 0)) rfl 264 [some (.ref 59), some (.int x)] [.ref 59] rfl ⟨rfl, rfl, rfl, rfl⟩ ?_
  refine Wp.sp (v := nI 301) rfl rfl (by decide) ?_
  have hF130 := hF129.mono (b' := 101) (by decide)
  refine Wp.mni (a := 101) rfl rfl hK127 rfl (by decide) (fun K131 I131 hK131 fa131 z131 => ?_)
  have r131 : ∀ q, I131 59 q = if q = 5 then nI 8 else 0 := fun q => by rw [fa131 59 (by decide)]; exact r127 q
  have fr131 : ∀ x, x ∉ [59, 62, 64, 66, 68, 72, 73, 74, 75, 79, 80, 81, 83, 84, 85, 86, 87, 88, 89, 90, 91, 92, 93, 94, 95, 96, 97, 98, 99, 100, 101] → I131 x = I x := fun x hx => by simp at hx; rw [fa131 x (by omega)]; try exact fr127 x (by simp; omega)
  have hF132 := hF130.mono (b' := 102) (by decide)
  refine Wp.cpR rfl rfl hK131 hF132 (by decide) rfl rfl rfl rfl (fun F133 hF133 => ?_)
  refine Wp.go (x := (.aload_n 0, 1, 0, 0)) rfl 273 [some (.ref 59), some (.int x)] [.ref 59] rfl ⟨rfl, rfl, rfl, rfl⟩ ?_
  refine Wp.sp (v := nI 301) rfl rfl (by decide) ?_
  have hF134 := hF133.mono (b' := 102) (by decide)
  refine Wp.mni (a := 102) rfl rfl hK131 rfl (by decide) (fun K135 I135 hK135 fa135 z135 => ?_)
  have r135 : ∀ q, I135 59 q = if q = 5 then nI 8 else 0 := fun q => by rw [fa135 59 (by decide)]; exact r131 q
  have fr135 : ∀ x, x ∉ [59, 62, 64, 66, 68, 72, 73, 74, 75, 79, 80, 81, 83, 84, 85, 86, 87, 88, 89, 90, 91, 92, 93, 94, 95, 96, 97, 98, 99, 100, 101, 102] → I135 x = I x := fun x hx => by simp at hx; rw [fa135 x (by omega)]; try exact fr131 x (by simp; omega)
  have hF136 := hF134.mono (b' := 103) (by decide)
  refine Wp.cpR rfl rfl hK135 hF136 (by decide) rfl rfl rfl rfl (fun F137 hF137 => ?_)
  refine Wp.go (x := (.aload_n 0, 1, 0, 0)) rfl 282 [some (.ref 59), some (.int x)] [.ref 59] rfl ⟨rfl, rfl, rfl, rfl⟩ ?_
  refine Wp.sp (v := nI 301) rfl rfl (by decide) ?_
  have hF138 := hF137.mono (b' := 103) (by decide)
  refine Wp.mni (a := 103) rfl rfl hK135 rfl (by decide) (fun K139 I139 hK139 fa139 z139 => ?_)
  have r139 : ∀ q, I139 59 q = if q = 5 then nI 8 else 0 := fun q => by rw [fa139 59 (by decide)]; exact r135 q
  have fr139 : ∀ x, x ∉ [59, 62, 64, 66, 68, 72, 73, 74, 75, 79, 80, 81, 83, 84, 85, 86, 87, 88, 89, 90, 91, 92, 93, 94, 95, 96, 97, 98, 99, 100, 101, 102, 103] → I139 x = I x := fun x hx => by simp at hx; rw [fa139 x (by omega)]; try exact fr135 x (by simp; omega)
  have hF140 := hF138.mono (b' := 104) (by decide)
  refine Wp.cpR rfl rfl hK139 hF140 (by decide) rfl rfl rfl rfl (fun F141 hF141 => ?_)
  refine Wp.go (x := (.aload_n 0, 1, 0, 0)) rfl 291 [some (.ref 59), some (.int x)] [.ref 59] rfl ⟨rfl, rfl, rfl, rfl⟩ ?_
  refine Wp.sp (v := nI 301) rfl rfl (by decide) ?_
  have hF142 := hF141.mono (b' := 104) (by decide)
  refine Wp.mni (a := 104) rfl rfl hK139 rfl (by decide) (fun K143 I143 hK143 fa143 z143 => ?_)
  have r143 : ∀ q, I143 59 q = if q = 5 then nI 8 else 0 := fun q => by rw [fa143 59 (by decide)]; exact r139 q
  have fr143 : ∀ x, x ∉ [59, 62, 64, 66, 68, 72, 73, 74, 75, 79, 80, 81, 83, 84, 85, 86, 87, 88, 89, 90, 91, 92, 93, 94, 95, 96, 97, 98, 99, 100, 101, 102, 103, 104] → I143 x = I x := fun x hx => by simp at hx; rw [fa143 x (by omega)]; try exact fr139 x (by simp; omega)
  have hF144 := hF142.mono (b' := 105) (by decide)
  refine Wp.cpR rfl rfl hK143 hF144 (by decide) rfl rfl rfl rfl (fun F145 hF145 => ?_)
  refine Wp.go (x := (.aload_n 0, 1, 0, 0)) rfl 300 [some (.ref 59), some (.int x)] [.ref 59] rfl ⟨rfl, rfl, rfl, rfl⟩ ?_
  refine Wp.sp (v := nI 301) rfl rfl (by decide) ?_
  have hF146 := hF145.mono (b' := 105) (by decide)
  refine Wp.mni (a := 105) rfl rfl hK143 rfl (by decide) (fun K147 I147 hK147 fa147 z147 => ?_)
  have r147 : ∀ q, I147 59 q = if q = 5 then nI 8 else 0 := fun q => by rw [fa147 59 (by decide)]; exact r143 q
  have fr147 : ∀ x, x ∉ [59, 62, 64, 66, 68, 72, 73, 74, 75, 79, 80, 81, 83, 84, 85, 86, 87, 88, 89, 90, 91, 92, 93, 94, 95, 96, 97, 98, 99, 100, 101, 102, 103, 104, 105] → I147 x = I x := fun x hx => by simp at hx; rw [fa147 x (by omega)]; try exact fr143 x (by simp; omega)
  have hF148 := hF146.mono (b' := 106) (by decide)
  refine Wp.cpR rfl rfl hK147 hF148 (by decide) rfl rfl rfl rfl (fun F149 hF149 => ?_)
  refine Wp.go (x := (.aload_n 0, 1, 0, 0)) rfl 309 [some (.ref 59), some (.int x)] [.ref 59] rfl ⟨rfl, rfl, rfl, rfl⟩ ?_
  refine Wp.sp (v := nI 196) rfl rfl (by decide) ?_
  have hF150 := hF149.mono (b' := 106) (by decide)
  refine Wp.mnl (a := 106) rfl rfl hK147 rfl (by decide) (fun K151 J151 hK151 => ?_)
  have hF152 := hF150.mono (b' := 107) (by decide)
  refine Wp.cpR rfl rfl hK151 hF152 (by decide) rfl rfl rfl rfl (fun F153 hF153 => ?_)
  refine Wp.go (x := (.aload_n 0, 1, 0, 0)) rfl 318 [some (.ref 59), some (.int (x))] [.ref 59] rfl ⟨rfl, rfl, rfl, rfl⟩ ?_
  refine Wp.go (x := (.iload_n 1, 1, 0, 0)) rfl 319 [some (.ref 59), some (.int (x))] [.int (x), .ref 59] rfl ⟨rfl, rfl, rfl, rfl⟩ ?_
  refine Wp.z_ge rfl rfl ⟨fun c => ?_, fun c => absurd (Int32.le_of_lt (Int32.lt_trans (by decide) hx)) c⟩
  refine Wp.go (x := (.iload_n 1, 1, 0, 0)) rfl 327 [some (.ref 59), some (.int (x))] [.int (x), .ref 59] rfl ⟨rfl, rfl, rfl, rfl⟩ ?_
  refine Wp.ic (v := nI 2) rfl rfl (by decide) ?_
  refine Wp.c_le rfl rfl ⟨fun c => absurd (Int32.lt_of_lt_of_le hx c) Int32.lt_irrefl, fun c => ?_⟩
  refine Wp.ic (v := nI 2) rfl rfl (by decide) ?_
  refine Wp.go (x := (.goto 4, 3, 336, 0)) rfl 336 [some (.ref 59), some (.int (x))] [.int (nI 2), .ref 59] rfl ⟨rfl, rfl, rfl, rfl⟩ ?_
  refine Wp.mpI rfl rfl hK151 (by decide) rfl rfl (Or.inl rfl) (fun I154 fa154 z154 => ?_)
  have r154 : ∀ q, I154 59 q = if q = 1 then nI 2 else if q = 5 then nI 8 else 0 := fun q => by
    rw [z154 q]
    by_cases e : q = 1
    · rw [if_pos e, if_pos e]
    · rw [if_neg e, if_neg e]
      exact r147 q
  have fr154 : ∀ x, x ∉ [59, 62, 64, 66, 68, 72, 73, 74, 75, 79, 80, 81, 83, 84, 85, 86, 87, 88, 89, 90, 91, 92, 93, 94, 95, 96, 97, 98, 99, 100, 101, 102, 103, 104, 105] → I154 x = I x := fun x hx => by simp at hx; rw [fa154 x (by omega)]; try exact fr147 x (by simp; omega)
  refine Wp.go (x := (.aload_n 0, 1, 0, 0)) rfl 340 [some (.ref 59), some (.int (x))] [.ref 59] rfl ⟨rfl, rfl, rfl, rfl⟩ ?_
  refine Wp.call (x := (.invokevirtual 126, 3, 98, 1)) rfl 98 [.ref 59] [] (by show xtg 98 (K151 59).1 = _; rw [hK151.at (a := 59) (by decide) rfl]; rfl) rfl ⟨Nat.le_of_ble_eq_true rfl, Nat.le_of_ble_eq_true rfl, Nat.le_of_ble_eq_true rfl⟩ rfl rfl rfl ?_
  refine p_startG (K := K151) (hK151.lt (by decide) hL) (hK151.at (by decide) rfl) (hF153.at (by simp) rfl) (hK151.at (by decide) rfl) (fun I155 b155 g155 v155 y155 => ?_)
  show Wp (d + 1) 96 343 [some (.ref 59), some (.int (x))] [] _ Q
  have fr155 : ∀ x, x ∉ [59, 62, 64, 66, 68, 72, 73, 74, 75, 79, 80, 81, 83, 84, 85, 86, 87, 88, 89, 90, 91, 92, 93, 94, 95, 96, 97, 98, 99, 100, 101, 102, 103, 104, 105] → I155 x = I x := fun x hx => by simp at hx; rw [b155 x (by simp; omega)]; exact fr154 x (by simp; omega)
  have r155 : ∀ q, I155 59 q = if q = 5 then nI 8 else if q = 1 then nI 2 else if q = 5 then nI 8 else 0 := fun q => by
    by_cases e : q = 5
    · rw [if_pos e, e]; exact v155
    · rw [if_neg e, g155 q e]; exact r154 q
  exact Wp.rV rfl rfl (k _ _ _ _ _ _ (by omega) (by omega) hK151 hF153 fr155 r155 y155)
