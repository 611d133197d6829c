/-! CELLS THAT ARE MADE -/
theorem xHO.push {D : va_G} {dA : Nat → ClassId} {ad : Nat → Nat} {base : Nat} {xe : Nat → Option (Nat × (Nat → Int32))} {h h1 : xS} {H H1 : Heap} (o : xHO D dA ad base xe h H) {a : Nat} {pl : List Nat} {kn : Nat × Nat} (hp : h.2.1.1 = a :: pl) (hdead : (h.1 a).1 = 0) (eK : h1.1 = va_up h.1 a kn) (hkn : kn.1 ≠ 0 ∧ kn.1 ≠ 103) (eP : h1.2.1.1 = pl) (eO : ∀ b, b ≠ a → h1.2.2.1 b = h.2.2.1 b ∧ h1.2.2.2.1 b = h.2.2.2.1 b ∧ h1.2.2.2.2 b = h.2.2.2.2 b)
    (hbase : base ≤ H.size) (z : H1.size = H.size + 1) (oq : ∀ q : Nat, q < H.size → H1[q]? = H[q]?) (hc : xcell D dA ad h1 a H1) : xHO D dA ad base xe h1 H1 := by
  obtain ⟨o1, o2, o3, o4⟩ := o
  have hada : ad a = H.size := by have := o4 0 a (by rw [hp]; rfl); omega
  have hKa : h1.1 a = kn := by rw [eK, va_up_self]
  have hKb : ∀ b, b ≠ a → h1.1 b = h.1 b := fun b hb => by rw [eK, va_up_ne _ _ hb]
  have old : ∀ b, b ≠ a → xown h1 b → xown h b := fun b hb hx => by unfold xown at hx ⊢; rw [← hKb b hb]; exact hx
  refine ⟨fun b hb => ?_, fun b d hb hd hbd => ?_, fun b hb => ?_, fun j b hj => ?_⟩
  · by_cases hba : b = a
    · subst hba
      exact ⟨hc, by rw [hada]; exact hbase, by rw [hada, z]; omega⟩
    · obtain ⟨c1, c2, c3⟩ := o1 b (old b hba hb)
      obtain ⟨e1, e2, e3⟩ := eO b hba
      exact ⟨c1.congr (hKb b hba) e1 e2 e3 (oq _ c3), c2, by rw [z]; omega⟩
  · by_cases hba : b = a
    · by_cases hda : d = a
      · rw [hba, hda]
      · have := (o1 d (old d hda hd)).2.2
        rw [hba, hada] at hbd
        omega
    · by_cases hda : d = a
      · have := (o1 b (old b hba hb)).2.2
        rw [hda, hada] at hbd
        omega
      · exact o2 b d (old b hba hb) (old d hda hd) hbd
  · by_cases hba : b = a
    · subst hba
      rw [hKa] at hb
      exact absurd hb hkn.2
    · rw [hKb b hba] at hb ⊢
      obtain ⟨n, f, f1, f2, f3⟩ := o3 b hb
      exact ⟨n, f, f1, f2, by rw [(eO b hba).1]; exact f3⟩
  · rw [eP] at hj
    have := o4 (j + 1) b (by rw [hp]; exact hj)
    rw [z]
    omega
def xaw (own : String) (ins : Instr) (r1 : Nat) : Prop := match ins with
  | .newarray t => Jvm.Cond.arrayClass (newarray.typeOf t) ∈ xG
  | .new i => ∀ q, xCl[r1 - 1]? = some q → Jvm.Cond.classLink own i q.1 ∈ xG
  | _ => True
section XAL
variable {p : Program} {l : Launch} {e : Env} {R : Room} {s : State} {m : MethodId} {args : Array Value} {below : List Frame} {meth : Method} {c : Code} {H : Heap} {locs : List Loc} {cells slots : Nat} {Q : State → Prop}
variable {cc : ByteArray} {pc nL : Nat} {ls : Array Slot} {ad : Nat → Nat} {D : va_G} {dA : Nat → ClassId} {base : Nat} {xe : Nat → Option (Nat × (Nat → Int32))} {sd : Nat → Option (String × String × String)} {own : String}
theorem xS_push {A : Nat → Prop} {H0 H H1 : Heap} {locs : List Loc} (hS : va_S A H0 H locs) (z : H1.size = H.size + 1) (oq : ∀ q : Nat, q < H.size → H1[q]? = H[q]?) : va_S A H0 H1 locs :=
  ⟨by have := hS.1; omega, fun q h1 h2 => (oq q (Nat.lt_of_lt_of_le h1 hS.1)).trans (hS.2.1 q h1 h2), hS.2.2⟩
theorem xdef_ok {f : FieldType} {n : Nat} (h : xok f n = true) : defaultValue f = if n = 1 then .long 0 else if n = 3 then .null else .int 0 := by
  unfold xok at h
  split at h <;> first | rfl | cases h
set_option maxHeartbeats 4000000 in
theorem xal_ok (S : CallFix p m c cc nL s args xG own) (hKK : xKK D dA ad base xe sd s) {h h1 : xS} (hH : xHO D dA ad base xe h H) (hS0 : va_S (fun q => base ≤ q) s.heap H locs) (hbase : base ≤ s.heap.size) {ins : Instr} {r1 ds : Nat} (hd : decode cc pc = .ok (ins, xlen ins)) (hw : xaw own ins r1) {st st' : List Value} (hx : xal ins r1 st h = some (st', h1, ds)) (hcells : cells + 1 ≤ R.cells) (hslots : slots + ds ≤ R.slots)
    (kk : ∀ H1, xHO D dA ad base xe h1 H1 → va_S (fun q => base ≤ q) s.heap H1 locs → W p l e R s m args below meth c H1 locs (cells + 1) (slots + ds) Q (F0 m (pc + xlen ins) ls (st'.map (xsh ad)))) : W p l e R s m args below meth c H locs cells slots Q (F0 m pc ls (st.map (xsh ad))) := by
  obtain ⟨hK, -, -⟩ := hKK
  obtain ⟨hexec, hb, -, hown, hts⟩ := S
  have hbH : base ≤ H.size := Nat.le_trans hbase hS0.1
  unfold xal at hx
  split at hx
  · rename_i t
    split at hx
    · rename_i n r a pl hpl
      have hada : ad a = H.size := by have := hH.2.2.2 0 a (by rw [hpl]; rfl); omega
      split at hx
      · rename_i hc
        obtain ⟨hdead, hn, hle⟩ := hc
        split at hx
        · cases hx
          refine va_newaK hexec hb (hts _ hw) rfl hd rfl hn rfl (by show n.toNatClampNeg * 4 ≤ _; omega) hcells hslots rfl fun H1 cA e1 z oq _ hNm => ?_
          have hcA : cA = dA 100 := Option.some.inj (hNm.symm.trans (hK.2 0 _ rfl).2)
          subst hcA
          have := kk H1 (hH.push hpl hdead rfl ⟨(fun z => by cases z), (fun z => by cases z)⟩ rfl (fun b hb => ⟨va_up_ne _ _ hb, rfl, rfl⟩) hbH z oq ⟨fun _ => ?_, fun hz => ?_, fun hz => ?_, fun q h0 hq => ?_⟩) (xS_push hS0 z oq)
          · rw [← hada]; exact this
          · rw [hada, e1]; simp only [va_up_self]; rfl
          · simp only [va_up_self] at hz; omega
          · simp only [va_up_self] at hz; omega
          · simp only [va_up_self] at hq; simp [xCl] at hq
        · cases hx
          refine va_newaK hexec hb (hts _ hw) rfl hd rfl hn rfl (by show n.toNatClampNeg * 8 ≤ _; omega) hcells hslots rfl fun H1 cA e1 z oq _ hNm => ?_
          have hcA : cA = dA 101 := Option.some.inj (hNm.symm.trans (hK.2 1 _ rfl).2)
          subst hcA
          have := kk H1 (hH.push hpl hdead rfl ⟨(fun z => by cases z), (fun z => by cases z)⟩ rfl (fun b hb => ⟨rfl, va_up_ne _ _ hb, rfl⟩) hbH z oq ⟨fun hz => ?_, fun _ => ?_, fun hz => ?_, fun q h0 hq => ?_⟩) (xS_push hS0 z oq)
          · rw [← hada]; exact this
          · simp only [va_up_self] at hz; omega
          · rw [hada, e1]; simp only [va_up_self]; rfl
          · simp only [va_up_self] at hz; omega
          · simp only [va_up_self] at hq; simp [xCl] at hq
        · cases hx
          refine va_newaK hexec hb (hts _ hw) rfl hd rfl hn rfl (by show n.toNatClampNeg * 1 ≤ _; omega) hcells hslots rfl fun H1 cA e1 z oq _ hNm => ?_
          have hcA : cA = dA 102 := Option.some.inj (hNm.symm.trans (hK.2 2 _ rfl).2)
          subst hcA
          have := kk H1 (hH.push hpl hdead rfl ⟨(fun z => by cases z), (fun z => by cases z)⟩ rfl (fun b hb => ⟨va_up_ne _ _ hb, rfl, rfl⟩) hbH z oq ⟨fun hz => ?_, fun hz => ?_, fun _ => ?_, fun q h0 hq => ?_⟩) (xS_push hS0 z oq)
          · rw [← hada]; exact this
          · simp only [va_up_self] at hz; omega
          · simp only [va_up_self] at hz; omega
          · rw [hada, e1]; simp only [va_up_self]; rfl
          · simp only [va_up_self] at hq; simp [xCl] at hq
        · cases hx
      · cases hx
    · cases hx
  · split at hx
    · rename_i a pl hpl
      have hada : ad a = H.size := by have := hH.2.2.2 0 a (by rw [hpl]; rfl); omega
      split at hx
      · rename_i hc
        obtain ⟨hdead, hr0, hr1⟩ := hc
        split at hx
        · rename_i q hq
          cases hx
          obtain ⟨hin, ⟨hins, hini⟩, hnm, ty, hty, hok⟩ := xknow _ q hq
          have hKn := hK.1 _ q hq
          refine W.newcK hexec hb hown (hts _ (hw q hq)) (hts _ hins) (hts _ hini) rfl hd hcells hslots hKn.2.1 rfl fun H1 kC hkC e1 z oq => ?_
          have := kk H1 (hH.push hpl hdead rfl ⟨hr0, by show r1 ≠ 103; omega⟩ rfl (fun b hb => ⟨va_up_ne _ _ hb, va_up_ne _ _ hb, va_up_ne _ _ hb⟩) hbH z oq ⟨fun hz => ?_, fun hz => ?_, fun hz => ?_, fun q2 h0 hq2 => ?_⟩) (xS_push hS0 z oq)
          · rw [← hada]; exact this
          · simp only [va_up_self] at hz; omega
          · simp only [va_up_self] at hz; omega
          · simp only [va_up_self] at hz; omega
          · simp only [va_up_self] at hq2 ⊢
            cases hq.symm.trans hq2
            rw [hada]
            refine (u_born ty hts hin hKn hkC e1 hty).to (fun k hk => ?_)
            rw [xdef_ok (hok k hk)]
            unfold xv
            simp only [va_up_self]
            rw [show r1 - 1 + 1 = r1 by omega]
            split
            · rfl
            · split <;> rfl
        · cases hx
      · cases hx
    · cases hx
  · cases hx
end XAL
