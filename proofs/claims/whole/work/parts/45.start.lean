/-! THE LAW'S START, in the light machine's words -/
def xsym (j : Nat) : Int32 := ([256, 32, 20, 7] : List Int32).getD j 0
def xbas (j : Nat) : Int32 := ([0, 256, 288, 308] : List Int32).getD j 0
def xatf (j : Nat) : Int32 := ([512, 320, 320, 64] : List Int32).getD j 0
/-- the arrays that are there before: the script, and the three tables of the costs -/
def xe0 (L : Nat) (xs : Nat → Int32) (a : Nat) : Option (Nat × (Nat → Int32)) := match a with
  | 0 => some (L, xs)
  | 1 => some (4, xsym)
  | 2 => some (4, xbas)
  | 3 => some (4, xatf)
  | _ => none
def xh0 (plan : List Nat) (L : Nat) (xs : Nat → Int32) : xS := (fun a => match xe0 L xs a with
    | some q => (103, q.1)
    | none => (0, 0), (plan, 0, 0), fun a => match xe0 L xs a with
    | some q => q.2
    | none => fun _ => 0, fun _ _ => 0, fun _ _ => none)
theorem xidx : ∀ {l : List Nat} {j a : Nat}, l.Nodup → l[j]? = some a → l.idxOf a = j
  | [], j, a, _, h => by simp at h
  | b :: l, 0, a, _, h => by
    have : b = a := by simpa using h
    subst this
    simp
  | b :: l, j + 1, a, hn, h => by
    have h2 : l[j]? = some a := by simpa using h
    have hne : b ≠ a := fun e => (List.nodup_cons.mp hn).1 (by rw [e]; exact List.mem_of_getElem? h2)
    have ih := xidx (List.nodup_cons.mp hn).2 h2
    rw [List.idxOf_cons, ih]
    have : (b == a) = false := by simpa using hne
    rw [this]
    rfl
theorem xhgv {args : Array Value} {s : State} (h : (Jvm.Cond.and given_1 narrow_1).before args s = true) {w : Jvm.Cond} (hw : w ∈ flatC (Jvm.Cond.and given_1 narrow_1)) : w.before args s = true := flat_of_before _ h w hw
set_option maxRecDepth 100000 in
theorem xstat (n : String) (v0 v1 v2 v3 : Int32) {args : Array Value} {s : State} {A : Nat → Prop} (hA : ∀ a : Nat, a < s.heap.size → ¬ A a) (h1 : (Jvm.Cond.arrayOf (.static "BestParses$Costs" n "[I") .int).before args s = true) (h2 : (Jvm.Cond.eq (.length (.static "BestParses$Costs" n "[I")) (.int 4)).before args s = true)
    (e0 : (Jvm.Cond.eq (.elem (.static "BestParses$Costs" n "[I") (.int 0)) (.int v0)).before args s = true) (e1 : (Jvm.Cond.eq (.elem (.static "BestParses$Costs" n "[I") (.int 1)) (.int v1)).before args s = true) (e2 : (Jvm.Cond.eq (.elem (.static "BestParses$Costs" n "[I") (.int 2)) (.int v2)).before args s = true) (e3 : (Jvm.Cond.eq (.elem (.static "BestParses$Costs" n "[I") (.int 3)) (.int v3)).before args s = true)
    (hl : (Jvm.Cond.laysStatic "BestParses$Costs" n "[I").before args s = true) (hi : (Jvm.Cond.initialized "BestParses$Costs").before args s = true) : ∃ t : Nat, va_T .int t 4 (fun j => .int (([v0, v1, v2, v3] : List Int32).getD j 0)) A s s.heap ∧ va_Z "BestParses$Costs" n "[I" (.ref t) A s s.heap := by
  obtain ⟨t, ht, hT⟩ := va_Tof (tm := .static "BestParses$Costs" n "[I") (ty := .int) (N := 4) (f := fun j => .int (([v0, v1, v2, v3] : List Int32).getD j 0)) (A := A) (by decide) h1 (va_eqt h2) (fun j hj => by
    match j, hj with
    | 0, _ => exact va_eqt e0
    | 1, _ => exact va_eqt e1
    | 2, _ => exact va_eqt e2
    | 3, _ => exact va_eqt e3
    | j + 4, hj => omega) hA
  exact ⟨t, hT, va_Zof hl hi ht hA⟩
set_option maxHeartbeats 4000000 in
set_option maxRecDepth 100000 in
theorem xstart {p : Program} {s : State} {m : MethodId} {meth : Method} {c : Code} {b L : Nat} {xs : Nat → Int32} (plan : List Nat) (hpl : plan.Nodup) (hp4 : ∀ a ∈ plan, 4 ≤ a) (C0 : p.tables.exec = Jvm.exec ∧ c.code = code ∧ meth.sig.returnType = ret ∧ c.maxLocals = 7 ∧ s.vm.findClass "BestParsesLaw" = some m.cls ∧ (∀ w ∈ lw_tbl, w.before #[Value.ref b] s = true) ∧ va_X b L xs s s.heap ∧ b < s.heap.size ∧ meth.locks = false ∧ (Jvm.Cond.and given_1 narrow_1).before #[Value.ref b] s = true) :
    ∃ (D : va_G) (dA : Nat → ClassId) (ad : Nat → Nat), ad 0 = b ∧ CallFix p m c code 7 s #[Value.ref b] xG "BestParsesLaw" ∧ xEnv D dA ad s.heap.size (xe0 L xs) s ∧ xHO D dA ad s.heap.size (xe0 L xs) (xh0 plan L xs) s.heap := by
  obtain ⟨hx, hb, hr, hml, hown, hts, hX, hbl, hlocks, hgv⟩ := C0
  have htsG : ∀ w ∈ xG, w.before #[Value.ref b] s = true := fun w hw => hts w (List.mem_filter.mp hw).1
  have hA : ∀ a : Nat, a < s.heap.size → ¬ s.heap.size ≤ a := fun a ha => by omega
  have hcl : ∀ i : Nat, ∃ (cc : ClassId) (iS : Nat → Nat), ∀ q, xCl[i]? = some q → u_Kn s q.1 q.2.1 q.2.2 cc iS := by
    intro i
    cases hq : xCl[i]? with
    | none => exact ⟨0, fun _ => 0, fun q h => by cases h⟩
    | some q =>
      obtain ⟨hin, ⟨hins, -⟩, -⟩ := xknow i q hq
      obtain ⟨cc, iS, hk⟩ := u_known (C := q.1) (T := q.2.1) (N := q.2.2) (n := q.2.2) htsG hin (htsG _ hins)
      exact ⟨cc, iS, fun q' h' => by cases h'; exact hk⟩
  obtain ⟨cI, kI, pI, a1, a2, a3⟩ := Cond.arrayClass_spec (htsG (.arrayClass .int) (xG_of 89 (by decide +kernel) (by decide +kernel)))
  obtain ⟨cJ, kJ, pJ, b1, b2, b3⟩ := Cond.arrayClass_spec (htsG (.arrayClass .long) (xG_of 533 (by decide +kernel) (by decide +kernel)))
  obtain ⟨cZ, kZ, pZ, z1, z2, z3⟩ := Cond.arrayClass_spec (htsG (.arrayClass .boolean) (xG_of 534 (by decide +kernel) (by decide +kernel)))
  have hin : (Jvm.Cond.initialized "BestParses$Costs").before #[Value.ref b] s = true := htsG _ xkdX1.2
  obtain ⟨t1, hT1, hZ1⟩ := xstat "SYMBOLS" 256 32 20 7 (A := fun q => s.heap.size ≤ q) hA (xhgv hgv (by decide +kernel)) (xhgv hgv (by decide +kernel)) (xhgv hgv (by decide +kernel)) (xhgv hgv (by decide +kernel)) (xhgv hgv (by decide +kernel)) (xhgv hgv (by decide +kernel)) (hts _ (List.mem_append_right _ (List.mem_of_getElem? (i := 103) (by decide +kernel)))) hin
  obtain ⟨t2, hT2, hZ2⟩ := xstat "BASES" 0 256 288 308 (A := fun q => s.heap.size ≤ q) hA (xhgv hgv (by decide +kernel)) (xhgv hgv (by decide +kernel)) (xhgv hgv (by decide +kernel)) (xhgv hgv (by decide +kernel)) (xhgv hgv (by decide +kernel)) (xhgv hgv (by decide +kernel)) (hts _ (List.mem_append_right _ (List.mem_of_getElem? (i := 101) (by decide +kernel)))) hin
  obtain ⟨t3, hT3, hZ3⟩ := xstat "AT_FIRST" 512 320 320 64 (A := fun q => s.heap.size ≤ q) hA (xhgv hgv (by decide +kernel)) (xhgv hgv (by decide +kernel)) (xhgv hgv (by decide +kernel)) (xhgv hgv (by decide +kernel)) (xhgv hgv (by decide +kernel)) (xhgv hgv (by decide +kernel)) (hts _ (List.mem_append_right _ (List.mem_of_getElem? (i := 105) (by decide +kernel)))) hin
  refine ⟨(fun i => Classical.choose (hcl i), fun i => Classical.choose (Classical.choose_spec (hcl i))), fun k => if k = 100 then cI else if k = 101 then cJ else cZ, fun a => match a with
    | 0 => b
    | 1 => t1
    | 2 => t2
    | 3 => t3
    | a + 4 => s.heap.size + plan.idxOf (a + 4), rfl, ⟨hx, hb, hml, hown, htsG⟩, ⟨⟨⟨fun i q hq => Classical.choose_spec (Classical.choose_spec (hcl i)) q hq, fun k q hk => ?_⟩, fun a n f hf => ?_, fun k C n d hd => ?_⟩, fun w hw => ?_, Nat.le_refl _⟩, fun a ha => ?_, fun a d ha => ?_, fun a ha => ?_, fun j a hj => ?_⟩
  · match k, hk with
    | 0, hk => cases hk; exact ⟨fun n z => ⟨fun k h => (by cases h), kI, a2, pI, a3⟩, a1⟩
    | 1, hk => cases hk; exact ⟨fun n z => ⟨fun k h => (by cases h), kJ, b2, pJ, b3⟩, b1⟩
    | 2, hk => cases hk; exact ⟨fun n z => ⟨fun k h => (by cases h), kZ, z2, pZ, z3⟩, z1⟩
    | k + 3, hk => simp at hk
  · match a, hf with
    | 0, hf =>
      cases hf
      obtain ⟨scr, g1, g2, g3, g4, g5⟩ := hX
      exact ⟨scr, g1, g2, g3, Nat.le_of_eq g4.symm, by rw [g4]; first | done | rfl, g5, hA b hbl⟩
    | 1, hf => cases hf; exact hT1
    | 2, hf => cases hf; exact hT2
    | 3, hf => cases hf; exact hT3
    | a + 4, hf => cases hf
  · match k, hd with
    | 0, hd => cases hd
    | 1, hd => cases hd; exact hZ1
    | 2, hd => cases hd; exact hZ2
    | 3, hd => cases hd; exact hZ3
    | k + 4, hd => cases hd
  · exact va_Nw.of (xnw_on w hw) (hts w (List.mem_append_right _ (xnw_in w hw)))
  · match a, ha with
    | 0, ha => exact absurd rfl ha.2
    | 1, ha => exact absurd rfl ha.2
    | 2, ha => exact absurd rfl ha.2
    | 3, ha => exact absurd rfl ha.2
    | a + 4, ha => exact absurd rfl ha.1
  · match a, ha with
    | 0, ha => exact absurd rfl ha.2
    | 1, ha => exact absurd rfl ha.2
    | 2, ha => exact absurd rfl ha.2
    | 3, ha => exact absurd rfl ha.2
    | a + 4, ha => exact absurd rfl ha.1
  · match a, ha with
    | 0, ha => exact ⟨L, xs, rfl, rfl, rfl⟩
    | 1, ha => exact ⟨4, xsym, rfl, rfl, rfl⟩
    | 2, ha => exact ⟨4, xbas, rfl, rfl, rfl⟩
    | 3, ha => exact ⟨4, xatf, rfl, rfl, rfl⟩
    | a + 4, ha => cases ha
  · have hj : plan[j]? = some a := hj
    obtain ⟨hlt, he⟩ := List.getElem?_eq_some_iff.mp hj
    have h4 := hp4 a (List.mem_of_getElem? hj)
    obtain ⟨a', rfl⟩ : ∃ k, a = k + 4 := ⟨a - 4, by omega⟩
    show s.heap.size + plan.idxOf (a' + 4) = s.heap.size + j
    rw [xidx hpl hj]
