/-! THE CLASS'S trier: it answers, or it throws -/
def xTrm : Room := { frames := 7, locals := 100, cells := 1, slots := 6 }
def xTQ (D : va_G) (dA : Nat → ClassId) (ad : Nat → Nat) (base : Nat) (xe : Nat → Option (Nat × (Nat → Int32))) (bad : Prop) (r : Int32) (h : xS) : Array Value → State → Outcome → State → Prop := fun a st o t => ¬ bad ∧ xQc D dA ad base xe (some (.int r)) h a st o t
def xTX (D : va_G) (dA : Nat → ClassId) (ad : Nat → Nat) (base : Nat) (xe : Nat → Option (Nat × (Nat → Int32))) (bad : Prop) (h : xS) : String → State → State → Prop := fun E st t => bad ∧ E = xAI ∧ xHO D dA ad base xe h t.heap ∧ va_F (fun q => base ≤ q) st t
theorem xhas_ev {h : xS} {t : Nat} {i : Int32} (hk : (h.1 t).1 = 8) : ∃ n, ex n 1 66 0 (xent (xnl 66) [.ref t, .int i]) [] h = some (some (.int (if i < 0 ∨ h.2.2.1 t 3 ≤ i then 0 else 1)), h) := by
  obtain ⟨K, P, I, J, F⟩ := h
  dsimp only at hk
  have hw : Wp 1 66 0 [some (.ref t), some (.int i)] [] (K, P, I, J, F) (fun r => r = (some (.int (if i < 0 ∨ I t 3 ≤ i then 0 else 1)), (K, P, I, J, F))) := by
    refine wX9_has_0 (n_r0 := (K t).2) (Prod.ext hk rfl) ⟨fun c => ?_, fun c => ⟨fun c2 => ?_, fun c2 => ?_⟩⟩
    · rw [if_pos (Or.inl c)]; rfl
    · rw [if_pos (Or.inr c2)]; rfl
    · rw [if_neg (by rintro (z | z); exact c z; exact c2 z)]; rfl
  obtain ⟨r, ⟨n, hn⟩, hr⟩ := hw
  rw [hr] at hn
  exact ⟨n, hn⟩
set_option maxHeartbeats 4000000 in
theorem xTr_met {l : Launch} {D : va_G} {dA : Nat → ClassId} {ad : Nat → Nat} {base : Nat} {xe : Nat → Option (Nat × (Nat → Int32))} (hst : l.stackTraces = false) {x t w : Nat} {i : Int32} {h : xS} (hF1 : h.2.2.2.2 x 1 = some t) (hF2 : h.2.2.2.2 t 2 = some w) (hkx : (h.1 x).1 = 9) (hkt : (h.1 t).1 = 8) (hkw : (h.1 w).1 = 100) (hp : h.2.1.1 = []) (hi : ¬ (i < 0 ∨ h.2.2.1 t 3 ≤ i) → i.toNatClampNeg < (h.1 w).2) :
    vx_Met l yTr (Cond.code yTr cTr 2 (some .int) :: xG) xTrm (xTP D dA ad base xe [.ref x, .int i] h) (xTQ D dA ad base xe (i < 0 ∨ h.2.2.1 t 3 ≤ i) (h.2.2.1 w i.toNatClampNeg) h) (xTX D dA ad base xe (i < 0 ∨ h.2.2.1 t 3 ≤ i) h) 1 6 (fun q => base ≤ q) := by
  have v1 : xv h x 1 = .ref t := by unfold xv; rw [hkx, hF1]; rfl
  have v2 : xv h t 2 = .ref w := by unfold xv; rw [hkt, hF2]; rfl
  refine vx_ofW (cc := cTr) (maxL := 2) (ret := some .int) (by decide) rfl ?_
  intro p e s m args below meth c s₁ B hml htab hv
  obtain ⟨⟨rfl, hH, hEnv⟩, hTS⟩ := hv
  have hts0 := atoms_spec (ws := Cond.code yTr cTr 2 (some .int) :: xG) B.pre
  have hts : ∀ w ∈ xG, w.before _ s = true := fun w hw => hts0 w (List.mem_cons_of_mem _ hw)
  have hlocks := B.notSynchronized
  have hr := B.returns
  have S : CallFix p m c cTr 2 s (([.ref x, .int i] : List Value).map (xsh ad)).toArray xG "BestParses" := ⟨B.exec, B.bytes, hml, findClass_of_methodNamed B.named, hts⟩
  rw [lg_entry_eq]
  have hl := xent_ok ad [.ref x, .int i] 2 (Nat.le_refl 2)
  refine xlo_ok (ins := .aload_n 0) (L := xent 2 [.ref x, .int i]) (L' := xent 2 [.ref x, .int i]) (st := []) (st' := [.ref x]) (ad := ad) S.1 S.2.1 (by decide +kernel) hl rfl (fun ls1 hl1 => ?_)
  refine xhp_ok (ins := .getfield 27) (r1 := 9) (r2 := 1) (st' := [.ref t]) (h1 := h) S hEnv.1 hH va_S.rf (ini := false) (fun z => by cases z) (by decide +kernel) (sRX10_getfield_27 false 1).2.1 (by show (if xsub 9 (h.1 x).1 = true then some (xv h x 1 :: [], h) else none) = _; rw [hkx, v1]; rfl) (fun H1 locs1 hH1 hS1 => ?_)
  refine xlo_ok (ins := .iload_n 1) (L' := xent 2 [.ref x, .int i]) (st' := [.int i, .ref t]) S.1 S.2.1 (by decide +kernel) hl1 rfl (fun ls2 hl2 => ?_)
  have hsz2 : ls2.size = 2 := hl2.1
  obtain ⟨n, hex⟩ := xhas_ev (i := i) hkt
  have hmt : xmt 66 = some (yX9_has, cX9_has, some .boolean, false) := rfl
  have hj : (66 : Nat) ≠ xlaw := by decide
  have w1 : Jvm.Cond.instanceMethod yX9_has ∈ xG := xG_of 780 (by decide +kernel) (by decide +kernel)
  have w2 : Jvm.Cond.initialized yX9_has.cls ∈ xG := xG_of 3 (by decide +kernel) (by decide +kernel)
  have w4 : Jvm.Cond.methodLink "BestParses" 155 yX9_has ∈ xG := xG_of 959 (by decide +kernel) (by decide +kernel)
  have w5 : Jvm.Cond.selects "BestParses$Text" yX9_has yX9_has ∈ xG := xG_of 781 (by decide +kernel) (by decide +kernel)
  have w6 : yX9_has.cls ≠ "java/lang/invoke/MethodHandle" ∧ yX9_has.cls ≠ "java/lang/invoke/VarHandle" ∧ (parseMethodDescriptor yX9_has.desc).map (fun d => d.parameters.length) = some 1 := ⟨by decide +kernel, by decide +kernel, by decide +kernel⟩
  have hd5 : decode cTr 5 = .ok (.invokevirtual 155, 3) := by decide +kernel
  have hM := xmet6 (xrun6 (l := l) (D := D) (dA := dA) (ad := ad) (base := base) (xe := xe) xval n) xval (by decide) hex (Nat.le_refl 2) hmt hj
  rw [Nat.sub_self, Nat.sub_self] at hM
  have hcd := (xval 66 _ hmt).2.1 hj
  have hrecv : ∃ cellB : Cell, H1[ad t]? = some cellB ∧ cellB.vm.isStatics = false ∧ s.vm.findClass "BestParses$Text" = some cellB.cls := by
    have hq : xCl[8 - 1]? = some (RX9, TX9, 7) := rfl
    obtain ⟨⟨-, -, -, co⟩, -, -⟩ := hH1.1 t ⟨by rw [hkt]; decide, by rw [hkt]; decide⟩
    obtain ⟨cell, q1, q2, q3, q4⟩ := co (RX9, TX9, 7) (by rw [hkt]; decide) (by rw [hkt]; exact hq)
    rw [hkt] at q2
    exact ⟨cell, q1, by rw [q3]; rfl, by rw [q2]; exact (hEnv.1.1.1 _ _ hq).2.1⟩
  have hPc : ∀ (U : State), U.heap = H1 → s.WarmedH U.vm → xPc D dA ad base xe [.ref t, .int i] h (([.ref t, .int i] : List Value).map (xsh ad)).toArray U := fun U hU hW => ⟨rfl, by rw [hU]; exact hH1, hEnv.moved (by rw [hU]; exact hS1) hW⟩
  have hrun := va_runV (g := F0 m 5 ls2 [.int i, .ref (ad t)]) (rest := []) (H := H1) (locs := locs1) (cells := 0) (slots := 0) (below := below) (meth := meth) (R := xTrm) (e := e) S hM ⟨callB_of 1 hts (xgood hcd) rfl rfl rfl (hts _ w2) (hts _ w4) w6 ⟨by decide, by decide⟩, hts _ w1, hts _ w5⟩ (b := ad t) (As := [.int i]) ⟨xPc_blind, hrecv, hPc⟩ rfl rfl hsz2 rfl (Nat.zero_le _) hd5 ⟨by decide, by decide⟩
  refine xcall_ok hrun hS1 fun H2 locs2 hH2 hS2 => ?_
  have hl' := hl2
  by_cases hbad : i < 0 ∨ h.2.2.1 t 3 ≤ i
  · rw [if_pos hbad]
    obtain ⟨t1, t2, t3, sa, t4⟩ := hTS
    refine xbr_ok (ins := .ifCond .ne 13) (r1 := 21) (pc' := 11) (st := [.int 0]) (st' := []) (ad := ad) S.1 S.2.1 (by decide +kernel) (Or.inr rfl) (show ((8 : Nat) : Int) + 13 = ((21 : Nat) : Int) by decide) rfl ?_
    exact vx_throwS (own := "BestParses") (cls := xAI) (text := "no such octet") (names := xnm3) (ik := 204) (is := 206) (ic := 208) (sa := sa) (A := fun q => base ≤ q) S.1 S.2.1 hst S.2.2.2.1 (by decide) (by decide)
      (hts _ (xG_of 1064 (by decide +kernel) (by decide +kernel))) (hts _ (xG_of 10 (by decide +kernel) (by decide +kernel))) t4 (xat_ok hts t1) xot_ok t2 t3 hS2 (hsz2.trans hml.symm)
      (by decide +kernel) (by decide +kernel) (by decide +kernel) (by decide +kernel) (by decide +kernel) (fun z hz => absurd (htab z hz) id) (by decide) (show 0 + (13 * (3 + 1) + 43) ≤ 100 by decide) (by decide) (by decide) hlocks
      (fun U _ z1 z2 => ⟨hbad, rfl, hH2.grow hp z1 z2, Nat.le_trans hS2.1 z1, fun q h1 h2 => by rw [z2 q (Nat.lt_of_lt_of_le h1 hS2.1)]; exact hS2.2.1 q h1 h2⟩) hS2.2.2 (by decide) (by decide)
  · rw [if_neg hbad]
    refine xbr_ok (ins := .ifCond .ne 13) (r1 := 21) (pc' := 21) (st := [.int 1]) (st' := []) (ad := ad) S.1 S.2.1 (by decide +kernel) (Or.inr rfl) (show ((8 : Nat) : Int) + 13 = ((21 : Nat) : Int) by decide) rfl ?_
    refine xlo_ok (ins := .aload_n 0) (L' := xent 2 [.ref x, .int i]) (st := []) (st' := [.ref x]) (ad := ad) S.1 S.2.1 (by decide +kernel) hl2 rfl (fun ls3 hl3 => ?_)
    refine xhp_ok (ins := .getfield 27) (r1 := 9) (r2 := 1) (st' := [.ref t]) (h1 := h) S hEnv.1 hH2 hS2 (ini := false) (fun z => by cases z) (by decide +kernel) (sRX10_getfield_27 false 22).2.1 (by show (if xsub 9 (h.1 x).1 = true then some (xv h x 1 :: [], h) else none) = _; rw [hkx, v1]; rfl) (fun H3 locs3 hH3 hS3 => ?_)
    refine xhp_ok (ins := .getfield 211) (r1 := 8) (r2 := 2) (st' := [.ref w]) (h1 := h) S hEnv.1 hH3 hS3 (ini := false) (fun z => by cases z) (by decide +kernel) (sRX10_getfield_211 false 25).2.1 (by show (if xsub 8 (h.1 t).1 = true then some (xv h t 2 :: [], h) else none) = _; rw [hkt, v2]; rfl) (fun H4 locs4 hH4 hS4 => ?_)
    refine xlo_ok (ins := .iload_n 1) (L' := xent 2 [.ref x, .int i]) (st' := [.int i, .ref w]) S.1 S.2.1 (by decide +kernel) hl3 rfl (fun ls5 hl5 => ?_)
    refine xhp_ok (ins := .iaload) (r1 := 0) (r2 := 0) (st' := [.int (h.2.2.1 w i.toNatClampNeg)]) (h1 := h) S hEnv.1 hH4 hS4 (ini := false) (fun z => by cases z) (by decide +kernel) trivial (if_pos ⟨Or.inl hkw, by rintro (z | z); exact hbad (Or.inl z); exact absurd (hi hbad) (Nat.not_lt.mpr z)⟩) (fun H6 locs6 hH6 hS6 => ?_)
    refine vx_ret (W.widen (k := 1) (n := 6) (by decide) (by decide) ?_)
    exact W.iret S.1 S.2.1 hr (fun U hU _ => ⟨hbad, rfl, by rw [hU]; exact hH6, hS6.F hU⟩) hS6.2.2 (by decide +kernel) hlocks
