/-! THE LIGHT MACHINE'S STEPS ARE THE MACHINE'S: stack, locals, branches -/
def xsh (ad : Nat → Nat) (v : Value) : Value := match v with
  | .ref k => .ref (ad k)
  | v => v
theorem xsh_cat (ad : Nat → Nat) (v : Value) : (xsh ad v).category = v.category := by cases v <;> rfl
def xas (ad : Nat → Nat) (L : xL) : List (Nat × Value) := (List.range L.length).filterMap (fun i => (xld L i).map (fun v => (i, xsh ad v)))
theorem xld_lt {L : xL} {i : Nat} {v : Value} (h : xld L i = some v) : i < L.length := by
  unfold xld at h
  split at h
  · rename_i o ho
    exact (List.getElem?_eq_some_iff.mp ho).1
  · cases h
theorem xas_mem {ad : Nat → Nat} {L : xL} {i : Nat} {w : Value} : (i, w) ∈ xas ad L ↔ ∃ v, xld L i = some v ∧ w = xsh ad v := by
  unfold xas
  constructor
  · intro h
    obtain ⟨j, -, hj⟩ := List.mem_filterMap.mp h
    cases hv : xld L j with
    | none => rw [hv] at hj; cases hj
    | some v =>
      rw [hv] at hj
      cases hj
      exact ⟨v, hv, rfl⟩
  · rintro ⟨v, hv, rfl⟩
    exact List.mem_filterMap.mpr ⟨i, List.mem_range.mpr (xld_lt hv), by rw [hv]; rfl⟩
def xLH (ad : Nat → Nat) (ls : Array Slot) (L : xL) : Prop := lv_has ls L.length (xas ad L)
theorem xLH.at {ad : Nat → Nat} {ls : Array Slot} {L : xL} (h : xLH ad ls L) {i : Nat} {v : Value} (hv : xld L i = some v) : ls[i]? = some (.val (xsh ad v)) := h.2.2 (i, xsh ad v) (xas_mem.mpr ⟨v, hv, rfl⟩)
theorem xclr_len (L : xL) (i : Nat) : (xclr L i).length = L.length := by
  unfold xclr
  split
  · rfl
  · split
    · split
      · simp
      · rfl
    · rfl
theorem xld_set_ne {L : xL} {i j : Nat} {o : Option Value} (h : i ≠ j) : xld (L.set i o) j = xld L j := by
  unfold xld
  rw [List.getElem?_set_ne h]
theorem xld_set_self {L : xL} {i : Nat} {o : Option Value} (h : i < L.length) : xld (L.set i o) i = o := by
  unfold xld
  rw [List.getElem?_set_self h]
theorem xclr_ld {L : xL} {i j : Nat} {v : Value} (h : xld (xclr L i) j = some v) : xld L j = some v ∧ ¬ (j + 1 = i ∧ v.category = 2) := by
  unfold xclr at h
  split at h
  · exact ⟨h, fun z => by omega⟩
  · rename_i k
    split at h
    · rename_i u hu
      split at h
      · by_cases hjk : k = j
        · subst hjk
          rw [xld_set_self (xld_lt hu)] at h
          cases h
        · rw [xld_set_ne hjk] at h
          exact ⟨h, fun z => hjk (by omega)⟩
      · rename_i hc
        refine ⟨h, fun z => ?_⟩
        obtain ⟨z1, z2⟩ := z
        have : j = k := by omega
        subst this
        rw [hu] at h
        cases h
        exact hc z2
    · rename_i hn
      refine ⟨h, fun z => ?_⟩
      have : j = k := by omega
      subst this
      rw [hn] at h
      cases h
theorem xLH.st1 {ad : Nat → Nat} {ls : Array Slot} {L L' : xL} {i : Nat} {v : Value} (hs : xst1 L i v = some L') (h : lv_has ls L.length ((i, xsh ad v) :: (xas ad L).filter (fun q => !(q.1 == i) && !(q.1 + 1 == i && q.2.category == 2)))) : xLH ad ls L' := by
  unfold xst1 at hs
  split at hs
  · rename_i hi
    cases hs
    unfold xLH
    have hlen : ((xclr L i).set i (some v)).length = L.length := by simp [xclr_len]
    rw [hlen]
    refine ⟨h.1, h.2.1, fun q hq => ?_⟩
    obtain ⟨j, w⟩ := q
    obtain ⟨u, hu, rfl⟩ := xas_mem.mp hq
    by_cases hij : i = j
    · subst hij
      rw [xld_set_self (by rw [xclr_len]; exact hi)] at hu
      cases hu
      exact h.2.2 _ List.mem_cons_self
    · rw [xld_set_ne hij] at hu
      obtain ⟨h1, h2⟩ := xclr_ld hu
      refine h.2.2 (j, xsh ad u) (List.mem_cons_of_mem _ (List.mem_filter.mpr ⟨xas_mem.mpr ⟨u, h1, rfl⟩, ?_⟩))
      simp only [Bool.and_eq_true, Bool.not_eq_true', beq_eq_false_iff_ne, ne_eq, Bool.and_eq_false_iff]
      refine ⟨fun z => hij z.symm, ?_⟩
      by_cases hj : j + 1 = i
      · right
        rw [xsh_cat]
        exact fun z => h2 ⟨hj, z⟩
      · left
        exact hj
  · cases hs
theorem xLH.st2 {ad : Nat → Nat} {ls : Array Slot} {L L' : xL} {i : Nat} {v : Value} (hs : xst2 L i v = some L') (h : lv_has ls L.length ((i, xsh ad v) :: (xas ad L).filter (fun q => !(q.1 == i) && (!(q.1 == i + 1) && !(q.1 + 1 == i && q.2.category == 2))))) : xLH ad ls L' := by
  unfold xst2 at hs
  split at hs
  · rename_i hi
    cases hs
    unfold xLH
    have hlen : (((xclr L i).set i (some v)).set (i + 1) none).length = L.length := by simp [xclr_len]
    rw [hlen]
    refine ⟨h.1, h.2.1, fun q hq => ?_⟩
    obtain ⟨j, w⟩ := q
    obtain ⟨u, hu, rfl⟩ := xas_mem.mp hq
    by_cases hij1 : i + 1 = j
    · subst hij1
      rw [xld_set_self (by rw [List.length_set, xclr_len]; exact hi)] at hu
      cases hu
    rw [xld_set_ne hij1] at hu
    by_cases hij : i = j
    · subst hij
      rw [xld_set_self (by rw [xclr_len]; omega)] at hu
      cases hu
      exact h.2.2 _ List.mem_cons_self
    · rw [xld_set_ne hij] at hu
      obtain ⟨h1, h2⟩ := xclr_ld hu
      refine h.2.2 (j, xsh ad u) (List.mem_cons_of_mem _ (List.mem_filter.mpr ⟨xas_mem.mpr ⟨u, h1, rfl⟩, ?_⟩))
      simp only [Bool.and_eq_true, Bool.not_eq_true', beq_eq_false_iff_ne, ne_eq, Bool.and_eq_false_iff]
      refine ⟨fun z => hij z.symm, fun z => hij1 z.symm, ?_⟩
      by_cases hj : j + 1 = i
      · right
        rw [xsh_cat]
        exact fun z => h2 ⟨hj, z⟩
      · left
        exact hj
  · cases hs
theorem xst1_lt {L L' : xL} {i : Nat} {v : Value} (hs : xst1 L i v = some L') : i < L.length := by
  unfold xst1 at hs
  split at hs
  · assumption
  · cases hs
theorem xst2_lt {L L' : xL} {i : Nat} {v : Value} (hs : xst2 L i v = some L') : i + 1 < L.length := by
  unfold xst2 at hs
  split at hs
  · assumption
  · cases hs
section XA
variable {p : Program} {l : Launch} {e : Env} {R : Room} {s : State} {m : MethodId} {args : Array Value} {below : List Frame} {meth : Method} {c : Code} {H : Heap} {locs : List Loc} {cells slots : Nat} {Q : State → Prop}
variable {cc : ByteArray} {pc : Nat} {ls : Array Slot} {ad : Nat → Nat}
/-- what a constant's instruction asks of the words -/
def xcon (Ts : List Jvm.Cond) (own : String) (ins : Instr) (r1 : Nat) : Prop := match ins with
  | .ldc i => Jvm.Cond.constant own i (Int32.ofNat r1) ∈ Ts
  | .ldc_w i => Jvm.Cond.constant own i (Int32.ofNat r1) ∈ Ts
  | .ldc2_w i => Jvm.Cond.constantLong own i (Int64.ofNat r1) ∈ Ts
  | _ => True
set_option maxHeartbeats 4000000 in
theorem xop_ok (hexec : p.tables.exec = Jvm.exec) (hb : c.code = cc) {Ts : List Jvm.Cond} {own : String} (hown : s.vm.findClass own = some m.cls) (hts : ∀ w ∈ Ts, w.before args s = true) {ins : Instr} {r1 : Nat} (hd : decode cc pc = .ok (ins, xlen ins)) (hc : xcon Ts own ins r1)
    {st st' : List Value} (h : xop ins r1 st = some st') (k : W p l e R s m args below meth c H locs cells slots Q (F0 m (pc + xlen ins) ls (st'.map (xsh ad)))) : W p l e R s m args below meth c H locs cells slots Q (F0 m pc ls (st.map (xsh ad))) := by
  unfold xop at h
  split at h
  · cases h; exact lv_iconst hexec hb hd rfl k
  · cases h; exact lv_bipush hexec hb hd rfl k
  · cases h; exact lv_sipush hexec hb hd rfl k
  · cases h; exact lv_lconst hexec hb hd rfl k
  · cases h; exact lv_ldc hexec hb hown (hts _ hc) hd k
  · cases h; exact lv_ldcw hexec hb hown (hts _ hc) hd k
  · cases h; exact lv_ldc2 hexec hb hown (hts _ hc) hd k
  · unfold xii at h; split at h <;> cases h; exact lv_iadd hexec hb hd k
  · unfold xii at h; split at h <;> cases h; exact lv_isub hexec hb hd k
  · unfold xii at h; split at h <;> cases h; exact lv_imul hexec hb hd k
  · unfold xii at h; split at h <;> cases h; exact lv_iand hexec hb hd k
  · unfold xii at h; split at h <;> cases h; exact lv_ior hexec hb hd k
  · unfold xii at h; split at h <;> cases h; exact lv_ixor hexec hb hd k
  · unfold xii at h; split at h <;> cases h; exact lv_ishl hexec hb hd k
  · unfold xii at h; split at h <;> cases h; exact lv_ishr hexec hb hd k
  · split at h
    · split at h
      · cases h
      · rename_i hne
        cases h; exact lv_idiv hexec hb hd hne k
    · cases h
  · split at h <;> cases h; exact lv_ineg hexec hb hd k
  · split at h <;> cases h; exact lv_i2l hexec hb hd rfl k
  · split at h <;> cases h; exact lv_l2i hexec hb hd rfl k
  · unfold xjj at h; split at h <;> cases h; exact lv_ladd hexec hb hd k
  · unfold xjj at h; split at h <;> cases h; exact lv_lsub hexec hb hd k
  · unfold xjj at h; split at h <;> cases h; exact lv_lmul hexec hb hd k
  · unfold xjj at h; split at h <;> cases h; exact lv_land hexec hb hd k
  · unfold xjj at h; split at h <;> cases h; exact lv_lor hexec hb hd k
  · unfold xjj at h; split at h <;> cases h; exact lv_lxor hexec hb hd k
  · unfold xji at h; split at h <;> cases h; exact lv_lshl hexec hb hd rfl k
  · unfold xji at h; split at h <;> cases h; exact lv_lshr hexec hb hd rfl k
  · unfold xji at h; split at h <;> cases h; exact lv_lushr hexec hb hd rfl k
  · split at h <;> cases h; exact W.lcmp hexec hb hd k
  · split at h
    · split at h
      · rename_i v r hv
        cases h; exact lv_dup (va := xsh ad v) hexec hb hd (by rw [xsh_cat]; exact hv) k
      · cases h
    · cases h
  · split at h
    · split at h
      · rename_i v w r hv
        cases h; exact lv_dup2_11 (va := xsh ad v) (vb := xsh ad w) hexec hb hd (by rw [xsh_cat]; exact hv.1) (by rw [xsh_cat]; exact hv.2) k
      · cases h
    · cases h
  · cases h
set_option maxHeartbeats 4000000 in
theorem xlo_ok (hexec : p.tables.exec = Jvm.exec) (hb : c.code = cc) {ins : Instr} (hd : decode cc pc = .ok (ins, xlen ins))
    {L L' : xL} {st st' : List Value} (hl : xLH ad ls L) (h : xlo ins L st = some (L', st')) (k : ∀ ls', xLH ad ls' L' → W p l e R s m args below meth c H locs cells slots Q (F0 m (pc + xlen ins) ls' (st'.map (xsh ad)))) : W p l e R s m args below meth c H locs cells slots Q (F0 m pc ls (st.map (xsh ad))) := by
  unfold xlo at h
  split at h
  · split at h
    · rename_i hx
      cases h; exact lv_iload_n hexec hb hd rfl (hl.at hx) (k ls hl)
    · cases h
  · split at h
    · rename_i hx
      cases h; exact lv_iload hexec hb hd (hl.at hx) (k ls hl)
    · cases h
  · split at h
    · rename_i hx
      cases h; exact lv_lload_n hexec hb hd rfl (hl.at hx) (k ls hl)
    · cases h
  · split at h
    · rename_i hx
      cases h; exact lv_lload hexec hb hd (hl.at hx) (k ls hl)
    · cases h
  · split at h
    · rename_i hx
      cases h; exact lv_aload_n hexec hb hd rfl (hl.at hx) (k ls hl)
    · cases h
  · split at h
    · rename_i hx
      cases h; exact lv_aload hexec hb hd (hl.at hx) (k ls hl)
    · cases h
  · split at h
    · obtain ⟨L2, hs, he⟩ := Option.map_eq_some_iff.mp h
      cases he
      exact lv_istore_n hexec hb hd rfl hl (xst1_lt hs) rfl (fun ls' h' => k ls' (xLH.st1 hs h'))
    · cases h
  · split at h
    · obtain ⟨L2, hs, he⟩ := Option.map_eq_some_iff.mp h
      cases he
      exact lv_istore hexec hb hd hl (xst1_lt hs) rfl (fun ls' h' => k ls' (xLH.st1 hs h'))
    · cases h
  · split at h
    · obtain ⟨L2, hs, he⟩ := Option.map_eq_some_iff.mp h
      cases he
      exact lv_astore_n hexec hb hd rfl hl (xst1_lt hs) rfl (fun ls' h' => k ls' (xLH.st1 hs h'))
    · cases h
  · split at h
    · obtain ⟨L2, hs, he⟩ := Option.map_eq_some_iff.mp h
      cases he
      exact lv_astore hexec hb hd hl (xst1_lt hs) rfl (fun ls' h' => k ls' (xLH.st1 hs h'))
    · cases h
  · split at h
    · obtain ⟨L2, hs, he⟩ := Option.map_eq_some_iff.mp h
      cases he
      exact lv_lstore_n hexec hb hd rfl hl (xst2_lt hs) rfl (fun ls' h' => k ls' (xLH.st2 hs h'))
    · cases h
  · split at h
    · obtain ⟨L2, hs, he⟩ := Option.map_eq_some_iff.mp h
      cases he
      exact lv_lstore hexec hb hd hl (xst2_lt hs) rfl (fun ls' h' => k ls' (xLH.st2 hs h'))
    · cases h
  · split at h
    · rename_i x hx
      obtain ⟨L2, hs, he⟩ := Option.map_eq_some_iff.mp h
      cases he
      obtain ⟨kk, hkk⟩ := List.getElem?_of_mem (xas_mem.mpr ⟨_, hx, rfl⟩ : (_, xsh ad (.int x)) ∈ xas ad L)
      exact lv_iinc hexec hb hd hl hkk rfl (xst1_lt hs) rfl (fun ls' h' => k ls' (xLH.st1 hs h'))
    · cases h
  · cases h
/-- where a branch goes, and how long it is -/
def xbrk (ins : Instr) (r1 pc : Nat) : Prop := match ins with
  | .goto off => (pc : Int) + off = (r1 : Int)
  | .if_icmp _ off => (pc : Int) + off = (r1 : Int)
  | .ifCond _ off => (pc : Int) + off = (r1 : Int)
  | _ => True
set_option maxHeartbeats 4000000 in
theorem xbr_ok (hexec : p.tables.exec = Jvm.exec) (hb : c.code = cc) {ins : Instr} {len r1 : Nat} (hd : decode cc pc = .ok (ins, len)) (hlen : (∃ a b d o, ins = .tableswitch a b d o) ∨ len = xlen ins) (hk : xbrk ins r1 pc)
    {st st' : List Value} {pc' : Nat} (h : xbr ins r1 pc st = some (pc', st')) (k : W p l e R s m args below meth c H locs cells slots Q (F0 m pc' ls (st'.map (xsh ad)))) : W p l e R s m args below meth c H locs cells slots Q (F0 m pc ls (st.map (xsh ad))) := by
  unfold xbr at h
  split at h
  · obtain ⟨_, _, _, _, hq⟩ | rfl := hlen
    · cases hq
    · cases h; exact lv_goto hexec hb hd hk k
  · rename_i cd off
    obtain ⟨_, _, _, _, hq⟩ | rfl := hlen
    · cases hq
    split at h
    · cases h
      cases cd
      · refine lv_icmp_eq hexec hb hd hk (fun hz => ?_) (fun hz => ?_) <;> simpa [xcmp, hz] using k
      · refine lv_icmp_ne hexec hb hd hk (fun hz => ?_) (fun hz => ?_) <;> simpa [xcmp, hz] using k
      · refine lv_icmp_lt hexec hb hd hk (fun hz => by simpa only [xcmp, decide_eq_true_eq, if_pos hz] using k) (fun hz => by simpa only [xcmp, decide_eq_true_eq, if_neg hz] using k)
      · refine lv_icmp_ge hexec hb hd hk (fun hz => by simpa only [xcmp, decide_eq_true_eq, if_pos hz] using k) (fun hz => by simpa only [xcmp, decide_eq_true_eq, if_neg hz] using k)
      · refine lv_icmp_gt hexec hb hd hk (fun hz => by simpa only [xcmp, decide_eq_true_eq, if_pos hz] using k) (fun hz => by simpa only [xcmp, decide_eq_true_eq, if_neg hz] using k)
      · refine lv_icmp_le hexec hb hd hk (fun hz => by simpa only [xcmp, decide_eq_true_eq, if_pos hz] using k) (fun hz => by simpa only [xcmp, decide_eq_true_eq, if_neg hz] using k)
    · cases h
  · rename_i cd off
    obtain ⟨_, _, _, _, hq⟩ | rfl := hlen
    · cases hq
    split at h
    · cases h
      cases cd
      · refine lv_if_eq hexec hb hd hk (fun hz => ?_) (fun hz => ?_) <;> simpa [xcmp, hz] using k
      · refine lv_if_ne hexec hb hd hk (fun hz => ?_) (fun hz => ?_) <;> simpa [xcmp, hz] using k
      · refine lv_if_lt hexec hb hd hk (fun hz => by simpa only [xcmp, decide_eq_true_eq, if_pos hz] using k) (fun hz => by simpa only [xcmp, decide_eq_true_eq, if_neg hz] using k)
      · refine lv_if_ge hexec hb hd hk (fun hz => by simpa only [xcmp, decide_eq_true_eq, if_pos hz] using k) (fun hz => by simpa only [xcmp, decide_eq_true_eq, if_neg hz] using k)
      · refine lv_if_gt hexec hb hd hk (fun hz => by simpa only [xcmp, decide_eq_true_eq, if_pos hz] using k) (fun hz => by simpa only [xcmp, decide_eq_true_eq, if_neg hz] using k)
      · refine lv_if_le hexec hb hd hk (fun hz => by simpa only [xcmp, decide_eq_true_eq, if_pos hz] using k) (fun hz => by simpa only [xcmp, decide_eq_true_eq, if_neg hz] using k)
    · cases h
  · rename_i dflt lo hi offs
    split at h
    · rename_i x r
      obtain ⟨o, ho, h2⟩ := Option.bind_eq_some_iff.mp h
      split at h2
      · rename_i t ht
        cases h2
        by_cases hr : x.toInt < lo ∨ hi < x.toInt
        · rw [if_pos hr] at ho
          cases ho
          exact lv_tableOut hexec hb hd hr ht k
        · rw [if_neg hr] at ho
          rw [not_or] at hr
          exact lv_tableIn hexec hb hd hr.1 hr.2 ho ht k
      · cases h2
    · cases h
  · cases h
end XA
