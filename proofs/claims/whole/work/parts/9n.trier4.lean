/-! THE LAW'S TRIER as one step -/
def xXs (base : Nat) (R : Room) (s : State) : Prop := (9 ≤ R.frames ∧ 153 ≤ R.locals) ∧ xTS base s
theorem xTl_good {i : Nat} (h : Jvm.Cond.methodLink "BestParsesLaw" i yTl ∈ xG) : GoodIn xG (va_wsS "BestParsesLaw" i yTl (Cond.codeWith yTl method_3_code 4 (some .int) xhh :: xG)) := by
  intro w hw
  have h1 : w ∈ xG := by
    unfold va_wsS at hw
    rcases List.mem_append.mp hw with hw | hw
    · rcases List.mem_cons.mp hw with rfl | hw
      · exact h
      · rcases List.mem_cons.mp hw with rfl | hw
        · exact xG_of 1057 (by decide +kernel) (by decide +kernel)
        · rcases List.mem_cons.mp hw with rfl | hw
          · exact xG_of 0 (by decide +kernel) (by decide +kernel)
          · cases hw
    · rcases List.mem_cons.mp hw with rfl | hw
      · exact xG_of 1058 (by decide +kernel) (by decide +kernel)
      · exact hw
  exact ⟨h1, good_of_word (List.mem_filter.mp h1).2⟩
set_option maxHeartbeats 4000000 in
theorem xHT_ok {l : Launch} {D : va_G} {dA : Nat → ClassId} {ad : Nat → Nat} {base : Nat} {xe : Nat → Option (Nat × (Nat → Int32))} (hst : l.stackTraces = false) : xHTX (xXs base) l D dA ad base xe := by
  intro p e R s m args below meth c H locs cells slots Q cc nL ls pc i st st' h h1 hXs S hsz hEnv hH hS hd hlk hx hfr hlo hsum hcs hss kk
  obtain ⟨⟨hf9, hl9⟩, hTS⟩ := hXs
  have key : ∀ (o : Nat) (iv : Int32) (x : Nat) (r : List Value) (t w : Nat) (k : Int32) (h2 : xS), h.2.2.2.2 x 1 = some t → h.2.2.2.2 t 2 = some w → (h.1 x).1 = 9 ∧ (h.1 t).1 = 8 ∧ (h.1 w).1 = 100 ∧ h.1 o = (101, 1) ∧ h.2.1.1 = [] → (¬ (iv < 0 ∨ h.2.2.1 t 3 ≤ iv) → iv.toNatClampNeg < (h.1 w).2) →
      (((iv < 0 ∨ h.2.2.1 t 3 ≤ iv) ∧ k = 1 ∧ h2 = h) ∨ (¬ (iv < 0 ∨ h.2.2.1 t 3 ≤ iv) ∧ k = 0 ∧ h2 = (h.1, h.2.1, h.2.2.1, xup h.2.2.2.1 o 0 (h.2.2.1 w iv.toNatClampNeg).toInt64, h.2.2.2.2))) →
      st = .ref o :: .int iv :: .ref x :: r → st' = .int k :: r → h1 = (h2.1, (h2.2.1.1, h.2.1.2.1 + xcT, h.2.1.2.2 + xsT), h2.2.2) → W p l e R s m args below meth c H locs cells slots Q (F0 m pc ls (st.map (xsh ad))) := by
    intro o iv x r t w k h2 hF1 hF2 hk hi h01 est est' eh1
    subst est; subst est'; subst eh1
    have hM := xTl_met (l := l) (D := D) (dA := dA) (ad := ad) (base := base) (xe := xe) hst hF1 hF2 hk.1 hk.2.1 hk.2.2.1 hk.2.2.2.1 hk.2.2.2.2 hi h01
    have hPc : ∀ (U : State), U.heap = H → s.WarmedH U.vm → xTP D dA ad base xe [.ref x, .int iv, .ref o] h (([.ref x, .int iv, .ref o] : List Value).map (xsh ad)).toArray U := fun U hU hW => ⟨⟨rfl, by rw [hU]; exact hH, hEnv.moved (locs := locs) (by rw [hU]; exact hS) hW⟩, hTS.moved (locs := locs) (by rw [hU]; exact hS) hW⟩
    have h8 : xsum r ≤ 8 := by
      have : xsum (.int k :: r) = 1 + xsum r := rfl
      omega
    have hrun := vx_runSW (g := F0 m pc ls (.ref (ad o) :: .int iv :: .ref (ad x) :: r.map (xsh ad))) (rest := r.map (xsh ad)) (H := H) (locs := locs) (cells := cells) (slots := slots) (below := below) (meth := meth) (R := R) (e := e) (As := [.ref (ad x), .int iv, .ref (ad o)]) (hh := xhh) (bytes := method_3_code) (maxL := 4) (ret := some .int) S hM
      (vx_cwSW 3 S.2.2.2.2 (xTl_good hlk) rfl rfl rfl ⟨by decide +kernel, by decide +kernel, by decide +kernel⟩ ⟨hf9, hl9⟩) ⟨xTP_blind, hPc⟩ rfl rfl hsz rfl (lv_room (by rw [xcat_sh]; exact h8)) hd ⟨by unfold xcT at hcs; omega, by unfold xsT at hss; omega⟩
    refine xcall_ok hrun hS fun H1 locs1 hH1 hS1 => ?_
    exact W.widen (k := cells + xcT) (n := slots + xsT) (by unfold xcT; omega) (by unfold xsT; omega) (kk H1 locs1 hH1 hS1)
  unfold xtr at hx
  split at hx
  · rename_i o iv x r
    split at hx
    · rename_i t ht
      split at hx
      · rename_i w hw
        split at hx
        · rename_i hk
          split at hx
          · rename_i hb
            cases hx
            exact key o iv x r t w 1 h ht hw hk (fun z => absurd hb z) (Or.inl ⟨hb, rfl, rfl⟩) rfl rfl rfl
          · rename_i hb
            split at hx
            · rename_i hlt
              cases hx
              exact key o iv x r t w 0 _ ht hw hk (fun _ => hlt) (Or.inr ⟨hb, rfl, rfl⟩) rfl rfl rfl
            · cases hx
        · cases hx
      · cases hx
    · cases hx
  · cases hx
theorem xXs_ok {p : Program} {s : State} {m : MethodId} {meth : Method} {c : Code} {b L : Nat} {xs : Nat → Int32} (C0 : p.tables.exec = Jvm.exec ∧ c.code = code ∧ meth.sig.returnType = ret ∧ c.maxLocals = 7 ∧ s.vm.findClass "BestParsesLaw" = some m.cls ∧ (∀ w ∈ lw_tbl, w.before #[Value.ref b] s = true) ∧ va_X b L xs s s.heap ∧ b < s.heap.size ∧ meth.locks = false ∧ (Jvm.Cond.and given_1 narrow_1).before #[Value.ref b] s = true) : xXs s.heap.size room_1 s := by
  obtain ⟨-, -, -, -, -, hts, -, -, -, hg⟩ := C0
  have hs := flat_of_before _ hg
  have tb : ∀ w ∈ tables_1, w.before #[Value.ref b] s = true := fun w hw => hts w (List.mem_append_right _ hw)
  have hA : ∀ a : Nat, a < s.heap.size → ¬ s.heap.size ≤ a := fun a ha => Nat.not_le.mpr ha
  have e1 : (Cond.exactly (Term.string "BestParses" 206) "java/lang/String").before #[Value.ref b] s = true := hs _ (by decide +kernel)
  refine ⟨by decide, fun w hw => va_Nw.of (xnv_on w hw) (tb w (xnv_in w hw)), ?_, ?_, ?_⟩
  · exact vx_Zqof (tb _ (List.mem_of_getElem? (i := 141) (by decide +kernel))) (tb _ (List.mem_of_getElem? (i := 6) (by decide +kernel))) (hs _ (by decide +kernel)) hA
  · exact vx_Zqof (tb _ (List.mem_of_getElem? (i := 143) (by decide +kernel))) (tb _ (List.mem_of_getElem? (i := 6) (by decide +kernel))) (hs _ (by decide +kernel)) hA
  · cases hv : (Term.string "BestParses" 206).eval #[Value.ref b] s none [] s with
    | none => simp [Cond.before, Cond.holds, Cond.value, hv] at e1
    | some v =>
      cases v with
      | ref a => exact ⟨a, vk_R.of (tb _ (List.mem_of_getElem? (i := 1065) (by decide +kernel))) hv⟩
      | null => cases hc : s.vm.findClass "java/lang/String" <;> simp [Cond.before, Cond.holds, Cond.value, hv, hc] at e1
      | _ => simp [Cond.before, Cond.holds, Cond.value, hv] at e1
