/-! THE LAW'S OWN trier: 0 and the octet, or 1 -/
def xLrm : Room := { frames := 8, locals := 130, cells := 1, slots := 6 }
def xhh : List (Nat × Nat × Nat × Nat) := [(0, 9, 12, 13)]
section XTL
variable {p : Program} {l : Launch} {e : Env} {R : Room} {s : State} {m : MethodId} {args : Array Value} {below : List Frame} {meth : Method} {c : Code} {H : Heap} {locs : List Loc} {cells slots : Nat} {Q : State → Prop}
variable {cc : ByteArray} {pc nL mc ms : Nat} {ls : Array Slot} {ad : Nat → Nat} {D : va_G} {dA : Nat → ClassId} {base : Nat} {xe : Nat → Option (Nat × (Nat → Int32))} {own : String}
theorem xcallX_ok {st0 rest : List Value} {a : Array Value} {bad : Prop} {r : Int32} {h1 : xS} (hr : vx_Run p l e R s m args below meth c H locs cells slots mc ms (F0 m pc ls st0) rest (xTQ D dA ad base xe bad r h1 a) (xTX D dA ad base xe bad h1) (fun q => base ≤ q)) (hS : va_S (fun q => base ≤ q) s.heap H locs)
    (kx : bad → ∀ (H1 : Heap) (locs1 : List Loc) (q : Nat) (ce : Cell), xHO D dA ad base xe h1 H1 → va_S (fun q => base ≤ q) s.heap H1 locs1 → H1[q]? = some ce → ce.vm = .none → s.vm.findClass xAI = some ce.cls → vx_W p l e R s m args below meth c H1 locs1 (cells + mc) (slots + ms) Q (F0 m pc ls rest) q)
    (kk : ¬ bad → ∀ (H1 : Heap) (locs1 : List Loc), xHO D dA ad base xe h1 H1 → va_S (fun q => base ≤ q) s.heap H1 locs1 → W p l e R s m args below meth c H1 locs1 (cells + mc) (slots + ms) Q (F0 m (pc + 3) ls (.int r :: rest))) : W p l e R s m args below meth c H locs cells slots Q (F0 m pc ls st0) := by
  intro T hT X
  have keep : ∀ (st₀ t T' : State) (L : List Loc), st₀.heap = H → T'.heap = t.heap → (∀ q ∈ L, base ≤ q.base) → va_F (fun q => base ≤ q) st₀ t → va_S (fun q => base ≤ q) s.heap T'.heap (locs ++ L) := by
    intro st₀ t T' L h0 e1 hL hF
    obtain ⟨hz, hk⟩ := hF
    rw [h0] at hz hk
    exact ⟨Nat.le_trans hS.1 (by rw [e1]; exact hz), fun q h1 h2 => by rw [e1, hk q (Nat.lt_of_lt_of_le h1 hS.1) h2]; exact hS.2.1 q h1 h2, fun q hq => by
      rcases List.mem_append.mp hq with h | h
      · exact hS.2.2 q h
      · exact hL q h⟩
  rcases hr T hT X with ⟨v, st₀, t, T', L, h0, X', hL, e1, e2, ⟨hb, hv, hH1, hF⟩, st⟩ | ⟨q, st₀, t, T', L, E, ce, h0, X', hL, e1, e2, ⟨hb, hE, hH1, hF⟩, hce, hcv, hcl, st⟩
  · cases hv
    obtain ⟨t2, a1, b1⟩ := kk hb T'.heap (locs ++ L) (by rw [e1]; exact hH1) (keep st₀ t T' L h0 e1 hL hF) T' rfl X'
    exact ⟨t2, st t2 a1, b1⟩
  · subst hE
    obtain ⟨t2, a1, b1⟩ := kx hb T'.heap (locs ++ L) q ce (by rw [e1]; exact hH1) (keep st₀ t T' L h0 e1 hL hF) (by rw [e1]; exact hce) hcv hcl T' rfl X'
    exact ⟨t2, st.trans a1, b1⟩
theorem xLH.drop {ad' : Nat → Nat} {L : xL} (h : xLH ad ls L) : xLH ad' ls (List.replicate L.length none) := by
  refine ⟨by rw [List.length_replicate]; exact h.1, h.2.1, fun q hq => ?_⟩
  obtain ⟨i, w⟩ := q
  obtain ⟨v, hv, -⟩ := xas_mem.mp hq
  unfold xld at hv
  split at hv
  · rename_i o ho
    rw [List.getElem?_replicate] at ho
    split at ho
    · cases ho; cases hv
    · cases ho
  · cases hv
end XTL
set_option maxHeartbeats 4000000 in
theorem xTl_met {l : Launch} {D : va_G} {dA : Nat → ClassId} {ad : Nat → Nat} {base : Nat} {xe : Nat → Option (Nat × (Nat → Int32))} (hst : l.stackTraces = false) {x t w o : Nat} {i : Int32} {h : xS} (hF1 : h.2.2.2.2 x 1 = some t) (hF2 : h.2.2.2.2 t 2 = some w) (hkx : (h.1 x).1 = 9) (hkt : (h.1 t).1 = 8) (hkw : (h.1 w).1 = 100) (hko : h.1 o = (101, 1)) (hp : h.2.1.1 = []) (hi : ¬ (i < 0 ∨ h.2.2.1 t 3 ≤ i) → i.toNatClampNeg < (h.1 w).2) {k : Int32} {h1 : xS} (h01 : ((i < 0 ∨ h.2.2.1 t 3 ≤ i) ∧ k = 1 ∧ h1 = h) ∨ (¬ (i < 0 ∨ h.2.2.1 t 3 ≤ i) ∧ k = 0 ∧ h1 = (h.1, h.2.1, h.2.2.1, xup h.2.2.2.1 o 0 (h.2.2.1 w i.toNatClampNeg).toInt64, h.2.2.2.2))) :
    Met l yTl (Cond.codeWith yTl method_3_code 4 (some .int) xhh :: xG) xLrm (xTP D dA ad base xe [.ref x, .int i, .ref o] h) (xQc D dA ad base xe (some (.int k)) h1) 1 6 (fun q => base ≤ q) := by
  refine va_MetW (cc := method_3_code) (maxL := 4) (ret := some .int) (hh := xhh) (by decide) rfl ?_
  intro p e s m args below meth c s₁ B hml hv
  obtain ⟨⟨rfl, hH, hEnv⟩, hTS⟩ := hv
  have hts0 := atoms_spec (ws := Cond.codeWith yTl method_3_code 4 (some .int) xhh :: xG) B.pre
  have htab : c.exceptionTable.toList = [⟨0, 9, 12, 13⟩] := vx_table (x := yTl) B (hts0 _ List.mem_cons_self)
  have hts : ∀ w ∈ xG, w.before _ s = true := fun w hw => hts0 w (List.mem_cons_of_mem _ hw)
  have hlocks := B.notSynchronized
  have hr := B.returns
  have S : CallFix p m c method_3_code 4 s (([.ref x, .int i, .ref o] : List Value).map (xsh ad)).toArray xG "BestParsesLaw" := ⟨B.exec, B.bytes, hml, findClass_of_methodNamed B.named, hts⟩
  rw [lg_entry_eq]
  have hl := xent_ok ad [.ref x, .int i, .ref o] 4 (by show (3 : Nat) ≤ 4; decide)
  refine xlo_ok (ins := .aload_n 2) (L := xent 4 [.ref x, .int i, .ref o]) (L' := xent 4 [.ref x, .int i, .ref o]) (st := []) (st' := [.ref o]) (ad := ad) S.1 S.2.1 (by decide +kernel) hl rfl (fun ls1 hl1 => ?_)
  refine xop_ok (ins := .iconst 0) (r1 := 0) (st' := [.int 0, .ref o]) S.1 S.2.1 S.2.2.2.1 hts (by decide +kernel) trivial rfl ?_
  refine xlo_ok (ins := .aload_n 0) (L' := xent 4 [.ref x, .int i, .ref o]) (st' := [.ref x, .int 0, .ref o]) S.1 S.2.1 (by decide +kernel) hl1 rfl (fun ls2 hl2 => ?_)
  refine xlo_ok (ins := .iload_n 1) (L' := xent 4 [.ref x, .int i, .ref o]) (st' := [.int i, .ref x, .int 0, .ref o]) S.1 S.2.1 (by decide +kernel) hl2 rfl (fun ls3 hl3 => ?_)
  have hsz : ls3.size = 4 := hl3.1
  have w1 : Jvm.Cond.instanceMethod yTr ∈ xG := xG_of 1061 (by decide +kernel) (by decide +kernel)
  have w2 : Jvm.Cond.initialized yTr.cls ∈ xG := xG_of 1 (by decide +kernel) (by decide +kernel)
  have w4 : Jvm.Cond.methodLink "BestParsesLaw" 7 yTr ∈ xG := xG_of 1060 (by decide +kernel) (by decide +kernel)
  have w5 : Jvm.Cond.selects "BestParses" yTr yTr ∈ xG := xG_of 1062 (by decide +kernel) (by decide +kernel)
  have hcd : Jvm.Cond.code yTr cTr 2 (some .int) ∈ xG := xG_of 1063 (by decide +kernel) (by decide +kernel)
  have w6 : yTr.cls ≠ "java/lang/invoke/MethodHandle" ∧ yTr.cls ≠ "java/lang/invoke/VarHandle" ∧ (parseMethodDescriptor yTr.desc).map (fun d => d.parameters.length) = some 1 := ⟨by decide +kernel, by decide +kernel, by decide +kernel⟩
  have hd4 : decode method_3_code 4 = .ok (.invokevirtual 7, 3) := by decide +kernel
  have hrecv : ∃ cellB : Cell, s.heap[ad x]? = some cellB ∧ cellB.vm.isStatics = false ∧ s.vm.findClass "BestParses" = some cellB.cls := by
    have hq : xCl[9 - 1]? = some (RX10, TX10, 12) := rfl
    obtain ⟨⟨-, -, -, co⟩, -, -⟩ := hH.1 x ⟨by rw [hkx]; decide, by rw [hkx]; decide⟩
    obtain ⟨cell, q1, q2, q3, q4⟩ := co (RX10, TX10, 12) (by rw [hkx]; decide) (by rw [hkx]; exact hq)
    rw [hkx] at q2
    exact ⟨cell, q1, by rw [q3]; rfl, by rw [q2]; exact (hEnv.1.1.1 _ _ hq).2.1⟩
  have hM := xTr_met (l := l) (D := D) (dA := dA) (ad := ad) (base := base) (xe := xe) hst hF1 hF2 hkx hkt hkw hp hi
  have hPc : ∀ (U : State), U.heap = s.heap → s.WarmedH U.vm → xTP D dA ad base xe [.ref x, .int i] h (([.ref x, .int i] : List Value).map (xsh ad)).toArray U := fun U hU hW => ⟨⟨rfl, by rw [hU]; exact hH, hEnv.moved (locs := []) (by rw [hU]; exact va_S.rf) hW⟩, hTS.moved (locs := []) (by rw [hU]; exact va_S.rf) hW⟩
  have hrun := vx_runV (g := F0 m 4 ls3 [.int i, .ref (ad x), .int 0, .ref (ad o)]) (rest := [.int 0, .ref (ad o)]) (H := s.heap) (locs := []) (cells := 0) (slots := 0) (below := below) (meth := meth) (R := xLrm) (e := e) S hM ⟨callB_of 1 hts (xgood hcd) rfl rfl rfl (hts _ w2) (hts _ w4) w6 ⟨by decide, by decide⟩, hts _ w1, hts _ w5⟩ (b := ad x) (As := [.int i]) ⟨xTP_blind, hrecv, hPc⟩ rfl rfl hsz rfl (show 2 * 0 + (1 + (1 + 0)) ≤ 8 by decide) hd4 ⟨by decide, by decide⟩
  refine xcallX_ok hrun va_S.rf (fun hb H1 locs1 q ce hH1 hS1 hce hcv hcl => ?_) (fun hb H1 locs1 hH1 hS1 => ?_)
  · obtain ⟨-, hk1, hh1⟩ := h01.resolve_right (fun z => z.1 hb)
    rw [hk1, hh1]
    refine xv_catch (own := "BestParsesLaw") (name := xAI) (E := xAI) S.2.2.2.1 ⟨0, 9, 12, 13⟩ htab (by decide) (by decide) (hts _ (xG_of 1059 (by decide +kernel) (by decide +kernel))) (va_Nw.use rfl (hTS.1 _ List.mem_cons_self)) hce hcv hcl ?_
    refine xlo_ok (ins := .astore_n 3) (ad := fun _ => q) (L := List.replicate 4 none) (L' := [none, none, none, some (.ref 0)]) (st := [.ref 0]) (st' := []) S.1 S.2.1 (by decide +kernel) hl3.drop rfl (fun ls4 hl4 => ?_)
    refine xop_ok (ins := .iconst 1) (r1 := 0) (st' := [.int 1]) S.1 S.2.1 S.2.2.2.1 hts (by decide +kernel) trivial rfl ?_
    exact W.iret S.1 S.2.1 hr (fun U hU _ => ⟨rfl, by rw [hU]; exact hH1, hS1.F hU⟩) hS1.2.2 (by decide +kernel) hlocks
  · obtain ⟨-, hk1, hh1⟩ := h01.resolve_left (fun z => hb z.1)
    rw [hk1, hh1]
    refine xop_ok (ins := .i2l) (r1 := 0) (st := [.int (h.2.2.1 w i.toNatClampNeg), .int 0, .ref o]) (st' := [.long (h.2.2.1 w i.toNatClampNeg).toInt64, .int 0, .ref o]) (ad := ad) S.1 S.2.1 S.2.2.2.1 hts (by decide +kernel) trivial rfl ?_
    refine xhp_ok (ins := .lastore) (r1 := 0) (r2 := 0) (st' := []) (h1 := (h.1, h.2.1, h.2.2.1, xup h.2.2.2.1 o 0 (h.2.2.1 w i.toNatClampNeg).toInt64, h.2.2.2.2)) S hEnv.1 hH1 hS1 (ini := false) (fun z => by cases z) (by decide +kernel) trivial (if_pos ⟨by rw [hko], by rw [hko]; decide⟩) (fun H2 locs2 hH2 hS2 => ?_)
    refine xbr_ok (ins := .goto 6) (r1 := 15) (pc' := 15) (st' := []) S.1 S.2.1 (by decide +kernel) (Or.inr rfl) (show ((9 : Nat) : Int) + 6 = ((15 : Nat) : Int) by decide) rfl ?_
    refine xop_ok (ins := .iconst 0) (r1 := 0) (st' := [.int 0]) S.1 S.2.1 S.2.2.2.1 hts (by decide +kernel) trivial rfl ?_
    exact W.iret S.1 S.2.1 hr (fun U hU _ => ⟨rfl, by rw [hU]; exact hH2, hS2.F hU⟩) hS2.2.2 (by decide +kernel) hlocks
