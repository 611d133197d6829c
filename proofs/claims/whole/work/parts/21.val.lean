/-! THE ROWS SAY WHAT THE WORDS SAY: what is the same for all methods -/
/-- instructions that ask for words -/
def xoth (e : Nat × xI) : Bool := match e.2.1 with
  | .ldc _ | .ldc_w _ | .ldc2_w _ | .getfield _ | .putfield _ | .getstatic _ | .new _ | .newarray _ | .invokestatic _ | .invokespecial _ | .invokevirtual _ => true
  | _ => false
def xchk (e : Nat × xI) : Bool := match e.2.1 with
  | .goto off => e.2.2.1 == 3 && decide ((e.1 : Int) + off = (e.2.2.2.1 : Int))
  | .if_icmp _ off => e.2.2.1 == 3 && decide ((e.1 : Int) + off = (e.2.2.2.1 : Int))
  | .ifCond _ off => e.2.2.1 == 3 && decide ((e.1 : Int) + off = (e.2.2.2.1 : Int))
  | .tableswitch _ _ _ _ => true
  | i => e.2.2.1 == xlen i
def xdec (cc : ByteArray) (e : Nat × xI) : Bool := decide (decode cc e.1 = .ok (e.2.1, e.2.2.1)) && xchk e
def xwc (own : String) (ini : Bool) (e : Nat × xI) : Prop := xcon xG own e.2.1 e.2.2.2.1 ∧ xhw xsd own ini e.2.1 e.2.2.2.1 e.2.2.2.2 ∧ xaw own e.2.1 e.2.2.2.1 ∧ xbw own e.2.1 e.2.2.2.1 ∧ xcw own e.2.1 e.2.2.2.1 e.2.2.2.2 ∧ xtw own e.2.1 e.2.2.2.1
theorem xwc_plain {own : String} {ini : Bool} {e : Nat × xI} (h : xoth e = false) : xwc own ini e := by
  obtain ⟨pc, ins, len, r1, r2⟩ := e
  cases ins <;> first | exact ⟨trivial, trivial, trivial, trivial, trivial, trivial⟩ | cases h
theorem xE_of {own : String} {ini : Bool} {cc : ByteArray} {e : Nat × xI} (h : xdec cc e = true) (hw : xwc own ini e) : xE own ini cc e := by
  obtain ⟨pc, ins, len, r1, r2⟩ := e
  unfold xdec at h
  rw [Bool.and_eq_true, decide_eq_true_eq] at h
  obtain ⟨h1, h2⟩ := h
  obtain ⟨w1, w2, w3, w4, w5, w6⟩ := hw
  have key : ((∃ a b d o, ins = .tableswitch a b d o) ∨ len = xlen ins) ∧ xbrk ins r1 pc := by
    unfold xchk at h2
    split at h2
    · rename_i off hi
      rw [Bool.and_eq_true, beq_iff_eq, decide_eq_true_eq] at h2
      dsimp only at hi h2
      subst hi
      exact ⟨Or.inr h2.1, h2.2⟩
    · rename_i cd off hi
      rw [Bool.and_eq_true, beq_iff_eq, decide_eq_true_eq] at h2
      dsimp only at hi h2
      subst hi
      exact ⟨Or.inr h2.1, h2.2⟩
    · rename_i cd off hi
      rw [Bool.and_eq_true, beq_iff_eq, decide_eq_true_eq] at h2
      dsimp only at hi h2
      subst hi
      exact ⟨Or.inr h2.1, h2.2⟩
    · rename_i a b d o hi
      exact ⟨Or.inl ⟨a, b, d, o, hi⟩, by dsimp only at hi; subst hi; trivial⟩
    · rename_i n1 n2 n3 n4
      rw [beq_iff_eq] at h2
      refine ⟨Or.inr h2, ?_⟩
      unfold xbrk
      split
      · exact absurd rfl (n1 _)
      · exact absurd rfl (n2 _ _)
      · exact absurd rfl (n3 _ _)
      · trivial
  exact ⟨h1, key.1, w1, key.2, w2, w3, w4, w5, w6⟩
theorem xE_all {own : String} {ini : Bool} {cc : ByteArray} {k o : List (Nat × xI)} (hd : k.all (xdec cc) = true) (ho : k.filter xoth = o) (hw : ∀ e ∈ o, xwc own ini e) : ∀ e ∈ k, xE own ini cc e := by
  intro e he
  refine xE_of (List.all_eq_true.mp hd e he) ?_
  cases hx : xoth e with
  | false => exact xwc_plain hx
  | true => exact hw e (by rw [← ho]; exact List.mem_filter.mpr ⟨he, hx⟩)
theorem xG_s {w : Jvm.Cond} (i : Nat) (h : (k2_sels lw_privs)[i]? = some w) (hg : goodWord w = true) : w ∈ xG := List.mem_filter.mpr ⟨List.mem_append_left _ (List.mem_of_getElem? h), hg⟩
/-- one class's field, a sub-class's too -/
theorem xgf1 {own : String} {idx k j : Nat} (hk : k ≠ 11) (h : xGF own idx k j) : ∀ k', xsub k k' = true → xGF own idx k' j := by
  intro k' hs
  unfold xsub at hs
  have : k = k' := by
    simp only [Bool.or_eq_true, beq_iff_eq, Bool.and_eq_true] at hs
    rcases hs with ⟨hs, -⟩ | ⟨hs, -⟩
    · exact hs
    · exact absurd hs hk
  subst this
  exact h
theorem xgp1 {own : String} {ini : Bool} {idx k j : Nat} (hk : k ≠ 11) (h : xGF own idx k j ∧ xPF own ini k j) : ∀ k', xsub k k' = true → xGF own idx k' j ∧ xPF own ini k' j := by
  intro k' hs
  unfold xsub at hs
  have : k = k' := by
    simp only [Bool.or_eq_true, beq_iff_eq, Bool.and_eq_true] at hs
    rcases hs with ⟨hs, -⟩ | ⟨hs, -⟩
    · exact hs
    · exact absurd hs hk
  subst this
  exact h
theorem xpf1 {own : String} {ini : Bool} {k j : Nat} {q : vw_C} (hq : xCl[k - 1]? = some q) (h : (q.2.1 j).2.2.2 = false ∨ ((q.2.1 j).2.2.2 = true ∧ ini = true ∧ (q.2.1 j).1 = own)) : xPF own ini k j := by
  intro q' hq'
  cases hq.symm.trans hq'
  exact h
theorem xsub11 {k : Nat} (h : xsub 11 k = true) : k = 3 ∨ k = 4 ∨ k = 6 := by
  unfold xsub at h
  simp only [Bool.or_eq_true, beq_iff_eq, Bool.and_eq_true] at h
  rcases h with ⟨-, h⟩ | ⟨-, (h | h) | h⟩
  · cases h
  · exact Or.inl h
  · exact Or.inr (Or.inl h)
  · exact Or.inr (Or.inr h)
theorem xws {own : String} {ini : Bool} {pc i r1 r2 : Nat} (h1 : r1 < 1000) (h : xcw own (.invokestatic i) r1 r2) : xwc own ini (pc, .invokestatic i, 3, r1, r2) := ⟨trivial, trivial, trivial, ⟨fun z => absurd (show r1 = 1000 from z) (by omega), fun z => absurd (show r1 = 1001 from z) (by omega), fun z => absurd (show r1 = 1002 from z) (by omega)⟩, h, fun z => absurd (show r1 = 1004 from z) (by omega)⟩
theorem xwi {own : String} {ini : Bool} {pc i r1 r2 : Nat} (h1 : r1 < 1000) (h : xcw own (.invokespecial i) r1 r2) : xwc own ini (pc, .invokespecial i, 3, r1, r2) := ⟨trivial, trivial, trivial, fun z => absurd (show r1 = 1003 from z) (by omega), h, trivial⟩
theorem xwv {own : String} {ini : Bool} {pc i r1 r2 : Nat} (h : xcw own (.invokevirtual i) r1 r2) : xwc own ini (pc, .invokevirtual i, 3, r1, r2) := ⟨trivial, trivial, trivial, trivial, h, trivial⟩
theorem xwb {own : String} {ini : Bool} {pc i r1 r2 : Nat} (h1 : ¬ r1 < 1000) (h2 : r1 ≠ 1004) (h : xbw own (.invokestatic i) r1) : xwc own ini (pc, .invokestatic i, 3, r1, r2) := ⟨trivial, trivial, trivial, h, fun z => absurd z h1, fun z => absurd z h2⟩
theorem xwo {own : String} {ini : Bool} {pc i r2 : Nat} (h : xbw own (.invokespecial i) 1003) : xwc own ini (pc, .invokespecial i, 3, 1003, r2) := ⟨trivial, trivial, trivial, h, fun z => absurd (show 1003 < 1000 from z) (by omega), trivial⟩
theorem xwt {own : String} {ini : Bool} {pc i r2 : Nat} (h : xtw own (.invokestatic i) 1004) : xwc own ini (pc, .invokestatic i, 3, 1004, r2) := ⟨trivial, trivial, trivial, ⟨fun z => absurd (show 1004 = 1000 from z) (by omega), fun z => absurd (show 1004 = 1001 from z) (by omega), fun z => absurd (show 1004 = 1002 from z) (by omega)⟩, fun z => absurd (show 1004 < 1000 from z) (by omega), h⟩
theorem xtg_d {r : Nat} (h : r < 1000) {k j : Nat} (hx : xtg r k = some j) : k = xmk r ∧ j = r := by
  unfold xtg at hx
  rw [if_pos h] at hx
  split at hx
  · rename_i e
    cases hx
    exact ⟨e.symm, rfl⟩
  · cases hx
theorem xwf {own : String} {ini : Bool} {pc i r1 r2 : Nat} (h : ∀ k, xsub r1 k = true → xGF own i k r2) : xwc own ini (pc, .getfield i, 3, r1, r2) := ⟨trivial, h, trivial, trivial, trivial, trivial⟩
theorem xwp {own : String} {ini : Bool} {pc i r1 r2 : Nat} (h : ∀ k, xsub r1 k = true → xGF own i k r2 ∧ xPF own ini k r2) : xwc own ini (pc, .putfield i, 3, r1, r2) := ⟨trivial, h, trivial, trivial, trivial, trivial⟩
theorem xwk {own : String} {ini : Bool} {pc i r1 r2 : Nat} (h : Jvm.Cond.constant own i (Int32.ofNat r1) ∈ xG) : xwc own ini (pc, .ldc i, 2, r1, r2) := ⟨h, trivial, trivial, trivial, trivial, trivial⟩
theorem xwkw {own : String} {ini : Bool} {pc i r1 r2 : Nat} (h : Jvm.Cond.constant own i (Int32.ofNat r1) ∈ xG) : xwc own ini (pc, .ldc_w i, 3, r1, r2) := ⟨h, trivial, trivial, trivial, trivial, trivial⟩
theorem xwkj {own : String} {ini : Bool} {pc i r1 r2 : Nat} (h : Jvm.Cond.constantLong own i (Int64.ofNat r1) ∈ xG) : xwc own ini (pc, .ldc2_w i, 3, r1, r2) := ⟨h, trivial, trivial, trivial, trivial, trivial⟩
theorem xwg {own : String} {ini : Bool} {pc i r1 r2 : Nat} (h : xST own i r1 xsd) : xwc own ini (pc, .getstatic i, 3, r1, r2) := ⟨trivial, h, trivial, trivial, trivial, trivial⟩
theorem xwn {own : String} {ini : Bool} {pc i r1 r2 : Nat} (h : ∀ q, xCl[r1 - 1]? = some q → Jvm.Cond.classLink own i q.1 ∈ xG) : xwc own ini (pc, .new i, 3, r1, r2) := ⟨trivial, trivial, h, trivial, trivial, trivial⟩
theorem xwa {own : String} {ini : Bool} {pc r1 r2 : Nat} {t : ArrayType} (h : Jvm.Cond.arrayClass (newarray.typeOf t) ∈ xG) : xwc own ini (pc, .newarray t, 2, r1, r2) := ⟨trivial, trivial, h, trivial, trivial, trivial⟩
