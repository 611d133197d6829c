/-! CALLS THAT ARE ONE STEP -/
section XB
variable {p : Program} {l : Launch} {e : Env} {R : Room} {s : State} {m : MethodId} {args : Array Value} {below : List Frame} {meth : Method} {c : Code} {H : Heap} {locs : List Loc} {cells slots : Nat} {Q : State → Prop}
variable {cc : ByteArray} {pc nL : Nat} {ls : Array Slot} {ad : Nat → Nat} {D : va_G} {dA : Nat → ClassId} {base : Nat} {xe : Nat → Option (Nat × (Nat → Int32))} {own : String}
theorem xcopy_ok (S : CallFix p m c cc nL s args xG own) (hsz : ls.size = nL) (hK : va_K D xCl (xtys dA) s) {h : xS} (hH : xHO D dA ad base xe h H) (hS : va_S (fun q => base ≤ q) s.heap H locs) {index : Nat} (hlink : (Jvm.Cond.methodLink own index arraycopyName).before args s = true) (hnat : (Jvm.Cond.native arraycopyName).before args s = true) (hstat : (Jvm.Cond.static arraycopyName).before args s = true) (hini : (Jvm.Cond.initialized "java/lang/System").before args s = true)
    {a a0 : Nat} {rest : List Value} (hne : a ≠ a0) (hk : (h.1 a).1 = 100) (hk0 : (h.1 a0).1 = 100)
    {sp dp n : Int32} (h1 : ¬ sp < 0) (h2 : ¬ dp < 0) (h3 : ¬ n < 0) (h4 : sp.toNatClampNeg + n.toNatClampNeg ≤ (h.1 a0).2) (h5 : dp.toNatClampNeg + n.toNatClampNeg ≤ (h.1 a).2)
    (hframes : 1 ≤ R.frames) (hlocals : (rest.map fun v => v.category).sum + (nativeFrameWords "java/lang/System" "arraycopy" 5 + 11) ≤ R.locals) (hdg : decode cc pc = .ok (.invokestatic index, 3))
    (kk : ∀ (H1 : Heap) (locs1 : List Loc), xHO D dA ad base xe (h.1, h.2.1, va_up h.2.2.1 a (va_cpy (h.2.2.1 a0) (h.2.2.1 a) sp.toNatClampNeg dp.toNatClampNeg n.toNatClampNeg), h.2.2.2) H1 → va_S (fun q => base ≤ q) s.heap H1 locs1 → W p l e R s m args below meth c H1 locs1 cells slots Q (F0 m (pc + 3) ls rest)) : W p l e R s m args below meth c H locs cells slots Q (F0 m pc ls (.int n :: .int dp :: .ref (ad a) :: .int sp :: .ref (ad a0) :: rest)) := by
  obtain ⟨hexec, hb, hml, hown, hts⟩ := S
  have nn : ∀ z : Int32, ¬ z < 0 → z.toInt = (z.toNatClampNeg : Int) := by
    intro z hz
    have hz0 : (0 : Int) ≤ z.toInt := by
      have := Int32.not_lt.mp hz
      simpa using Int32.le_iff_toInt_le.mp this
    show z.toInt = ((z.toInt.toNat : Nat) : Int)
    omega
  have hoa : xown h a := ⟨by omega, by omega⟩
  obtain ⟨⟨c1, -⟩, hba, hla⟩ := hH.1 a hoa
  obtain ⟨⟨c0, -⟩, -, -⟩ := hH.1 a0 ⟨by omega, by omega⟩
  intro T hT X
  have hc0 : H[ad a0]? = some (vp_cell (dA 100) ((h.1 a0).2, .inl (h.2.2.1 a0))) := c0 hk0
  have hc1 : H[ad a]? = some (vp_cell (dA 100) ((h.1 a).2, .inl (h.2.2.1 a))) := c1 hk
  obtain ⟨-, k0, hk0', cm0, hkk0⟩ := (hK.2 0 _ rfl).1 (h.1 a0).2 (fun j => .int (h.2.2.1 a0 j))
  obtain ⟨-, k1, hk1', cm1, hkk1⟩ := (hK.2 0 _ rfl).1 (h.1 a).2 (fun j => .int (h.2.2.1 a j))
  obtain ⟨vm', X', step⟩ := X.arraycopy hexec hown hlink hnat hstat hini (src := ad a0) (dst := ad a) (cs := vp_cell (dA 100) ((h.1 a0).2, .inl (h.2.2.1 a0))) (cd := vp_cell (dA 100) ((h.1 a).2, .inl (h.2.2.1 a))) (srcPos := sp) (destPos := dp) (n := n) (by rw [hT]; exact hc0) (by rw [hT]; exact hc1)
    (fun _ h => by cases h) (fun _ h => by cases h) (fun h => by cases h) (fun h => by cases h) hk0' hk1' hkk0 hkk1 (show (refKind FieldType.int != refKind FieldType.int || !refKind FieldType.int && FieldType.int != FieldType.int) = false by decide) h1 h2 h3
    (by rw [nn sp h1, nn n h3]; show ¬ _ > ((arrV (dA 100) (h.1 a0).2 (fun j => .int (h.2.2.1 a0 j))).slots.size : Int); rw [arrV_size]; omega)
    (by rw [nn dp h2, nn n h3]; show ¬ _ > ((arrV (dA 100) (h.1 a).2 (fun j => .int (h.2.2.1 a j))).slots.size : Int); rw [arrV_size]; omega)
    (fun vm₁ _ i hi => by
      have e : (vp_cell (dA 100) ((h.1 a0).2, .inl (h.2.2.1 a0))).slots.getD (sp.toNatClampNeg + i) .null = .int (h.2.2.1 a0 (sp.toNatClampNeg + i)) := by
        show (arrV (dA 100) (h.1 a0).2 (fun j => .int (h.2.2.1 a0 j))).slots.getD _ _ = _
        rw [Array.getD_eq_getD_getElem?, arrV_read _ _ (by omega)]
        rfl
      refine ⟨?_, ?_⟩
      · rw [e]
        rfl
      · rw [e]
        exact trivial)
    (g := F0 m pc ls (.int n :: .int dp :: .ref (ad a) :: .int sp :: .ref (ad a0) :: rest)) rfl (by rw [hml]; exact hsz) (rest := rest) rfl (by rw [hb]; exact hdg) hframes (by show 2 * 0 + _ + _ ≤ _; omega)
  have e1 : copied (vp_cell (dA 100) ((h.1 a0).2, .inl (h.2.2.1 a0))) (vp_cell (dA 100) ((h.1 a).2, .inl (h.2.2.1 a))) sp dp n = vp_cell (dA 100) ((h.1 a).2, .inl (va_cpy (h.2.2.1 a0) (h.2.2.1 a) sp.toNatClampNeg dp.toNatClampNeg n.toNatClampNeg)) := va_copied (fun z => .int z) (dA 100) (dA 100) (h.2.2.1 a0) (h.2.2.1 a) h4
  rw [e1] at X' step
  have hheap : ((T.setVm vm').setCell (ad a) (vp_cell (dA 100) ((h.1 a).2, .inl (va_cpy (h.2.2.1 a0) (h.2.2.1 a) sp.toNatClampNeg dp.toNatClampNeg n.toNatClampNeg)))).heap = H.setIfInBounds (ad a) (vp_cell (dA 100) ((h.1 a).2, .inl (va_cpy (h.2.2.1 a0) (h.2.2.1 a) sp.toNatClampNeg dp.toNatClampNeg n.toNatClampNeg))) := by rw [← hT]; rfl
  have oq : ∀ q : Nat, q ≠ ad a → (H.setIfInBounds (ad a) (vp_cell (dA 100) ((h.1 a).2, .inl (va_cpy (h.2.2.1 a0) (h.2.2.1 a) sp.toNatClampNeg dp.toNatClampNeg n.toNatClampNeg))))[q]? = H[q]? := fun q hq => by simp [Array.getElem?_setIfInBounds, Ne.symm hq]
  obtain ⟨t, a1, b1⟩ := kk _ _ (hH.put (h1 := (h.1, h.2.1, va_up h.2.2.1 a (va_cpy (h.2.2.1 a0) (h.2.2.1 a) sp.toNatClampNeg dp.toNatClampNeg n.toNatClampNeg), h.2.2.2)) hoa rfl rfl (fun b hb => ⟨va_up_ne _ _ hb, rfl, rfl⟩) (by simp) oq ⟨fun _ => (by
      show (H.setIfInBounds (ad a) _)[ad a]? = _
      rw [Array.getElem?_setIfInBounds, if_pos rfl, if_pos hla]
      simp only [va_up_self]
      rfl), (fun hz => by have : (h.1 a).1 = 101 := hz; omega), (fun hz => by have : (h.1 a).1 = 102 := hz; omega), (fun q h0 hq => by
      have hq : xCl[(h.1 a).1 - 1]? = some q := hq
      rw [hk] at hq; simp [xCl] at hq)⟩) ⟨by simp; exact hS.1, fun q g1 g2 => by
      rw [oq q (fun e => g2 (by rw [e]; exact hba))]
      exact hS.2.1 q g1 g2, fun q hq => by
      rcases List.mem_append.mp hq with h | h
      · exact hS.2.2 q h
      · obtain ⟨z, -, hz⟩ := List.mem_map.mp h
        rw [← hz]
        exact hba⟩ _ hheap X'
  exact ⟨t, step t a1, b1⟩
def xbw (own : String) (ins : Instr) (r1 : Nat) : Prop := match ins with
  | .invokestatic i => (r1 = 1000 → Jvm.Cond.methodLink own i Lib.Math.max.name ∈ xG ∧ Jvm.Cond.static Lib.Math.max.name ∈ xG ∧ Jvm.Cond.initialized "java/lang/Math" ∈ xG ∧ Jvm.Cond.code Lib.Math.max.name Lib.Math.max.code 2 (some .int) ∈ xG) ∧
      (r1 = 1001 → Jvm.Cond.methodLink own i Lib.Math.min.name ∈ xG ∧ Jvm.Cond.static Lib.Math.min.name ∈ xG ∧ Jvm.Cond.initialized "java/lang/Math" ∈ xG ∧ Jvm.Cond.code Lib.Math.min.name Lib.Math.min.code 2 (some .int) ∈ xG) ∧
      (r1 = 1002 → Jvm.Cond.methodLink own i arraycopyName ∈ xG ∧ Jvm.Cond.native arraycopyName ∈ xG ∧ Jvm.Cond.static arraycopyName ∈ xG ∧ Jvm.Cond.initialized "java/lang/System" ∈ xG)
  | .invokespecial i => r1 = 1003 → Jvm.Cond.methodLink own i Lib.objectInit ∈ xG ∧ Jvm.Cond.instanceMethod Lib.objectInit ∈ xG ∧ Jvm.Cond.code Lib.objectInit ⟨#[0xb1]⟩ 1 none ∈ xG
  | _ => True
set_option maxHeartbeats 4000000 in
theorem xbj_ok (S : CallFix p m c cc nL s args xG own) (hsz : ls.size = nL) (hEnv : xEnv D dA ad base xe s) {h h1 : xS} (hH : xHO D dA ad base xe h H) (hS : va_S (fun q => base ≤ q) s.heap H locs) {ins : Instr} {r1 : Nat} (hd : decode cc pc = .ok (ins, xlen ins)) (hw : xbw own ins r1) {st st' : List Value} (hx : xbj ins r1 st h = some (st', h1)) (hsum : xsum st' ≤ 9) (hframes : 1 ≤ R.frames) (hlocals : 39 ≤ R.locals) (hc : cells ≤ R.cells) (hs : slots ≤ R.slots)
    (kk : ∀ (H1 : Heap) (locs1 : List Loc), xHO D dA ad base xe h1 H1 → va_S (fun q => base ≤ q) s.heap H1 locs1 → W p l e R s m args below meth c H1 locs1 cells slots Q (F0 m (pc + 3) ls (st'.map (xsh ad)))) : W p l e R s m args below meth c H locs cells slots Q (F0 m pc ls (st.map (xsh ad))) := by
  have hcat : ∀ r : List Value, ((r.map (xsh ad)).map fun v => v.category).sum = xsum r := by
    intro r
    unfold xsum
    rw [List.map_map]
    congr 1
    apply List.map_congr_left
    intro v _
    exact xsh_cat ad v
  have S0 := S
  obtain ⟨hexec, hb, hml, hown, hts⟩ := S
  unfold xbj at hx
  split at hx
  · rename_i i
    obtain ⟨w1, w2, w3⟩ := hw
    split at hx
    · cases hx
    · unfold xbi at hx
      split at hx
      · rename_i hr
        obtain ⟨v1, v2, v3, v4⟩ := w1 hr
        split at hx
        · rename_i y x r
          cases hx
          refine va_mmax hexec hb (by rw [hml, hsz]) hown (hts _ v1) (hts _ v2) (hts _ v3) (hts _ v4) hframes ?_ hc hs hd (kk _ _ hH hS)
          rw [hcat]
          have : xsum (.int (if x < y then y else x) :: r) = 1 + xsum r := rfl
          omega
        · cases hx
      · split at hx
        · rename_i hr
          obtain ⟨v1, v2, v3, v4⟩ := w2 hr
          split at hx
          · rename_i y x r
            cases hx
            refine va_mmin hexec hb (by rw [hml, hsz]) hown (hts _ v1) (hts _ v2) (hts _ v3) (hts _ v4) hframes ?_ hc hs hd (kk _ _ hH hS)
            rw [hcat]
            have : xsum (.int (if y < x then y else x) :: r) = 1 + xsum r := rfl
            omega
          · cases hx
        · split at hx
          · rename_i hr
            obtain ⟨v1, v2, v3, v4⟩ := w3 hr
            split at hx
            · rename_i n dp a sp a0 r
              split at hx
              · rename_i hcd
                obtain ⟨⟨g1, g2, g3⟩, g4, g5, g6, g7, g8⟩ := hcd
                cases hx
                refine xcopy_ok S0 hsz hEnv.1.1 hH hS (hts _ v1) (hts _ v2) (hts _ v3) (hts _ v4) g1 g2 g3 g4 g5 g6 g7 g8 hframes ?_ hd kk
                rw [hcat]
                have : nativeFrameWords "java/lang/System" "arraycopy" 5 + 11 ≤ 30 := by decide
                omega
              · cases hx
            · cases hx
          · cases hx
  · rename_i i
    split at hx
    · rename_i hr
      subst hr
      obtain ⟨v1, v2, v3⟩ := hw rfl
      unfold xbi at hx
      rw [if_neg (by decide), if_neg (by decide), if_neg (by decide), if_pos rfl] at hx
      split at hx
      · rename_i a r
        cases hx
        refine W.objInit hexec hb hown (hts _ v1) (hts _ v2) (hts _ v3) rfl (by rw [hml]; exact hsz) rfl hd hframes ?_ (kk _ _ hH hS)
        show 2 * 0 + _ + 12 ≤ _
        rw [hcat]
        omega
      · cases hx
    · cases hx
  · cases hx
end XB
