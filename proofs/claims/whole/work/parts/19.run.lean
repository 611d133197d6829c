/-! A RUN OF THE LIGHT MACHINE IS A RUN OF THE MACHINE -/
abbrev xnm (c : String) : Prop := c ≠ "java/lang/invoke/MethodHandle" ∧ c ≠ "java/lang/invoke/VarHandle"
def xcw (own : String) (ins : Instr) (r1 r2 : Nat) : Prop := match ins with
  | .invokestatic i => r1 < 1000 → r1 ≠ xlaw ∧ ∃ y cc ret ini, xmt r1 = some (y, cc, ret, ini) ∧ Jvm.Cond.static y ∈ xG ∧ Jvm.Cond.initialized y.cls ∈ xG ∧ (y.cls ≠ "java/lang/invoke/MethodHandle" ∧ y.cls ≠ "java/lang/invoke/VarHandle" ∧ (parseMethodDescriptor y.desc).map (fun d => d.parameters.length) = some r2) ∧ (Jvm.Cond.methodLink own i y ∈ xG ∨ ∃ host, Jvm.Cond.methodLinkNest own i y host ∈ xnw)
  | .invokespecial i => r1 < 1000 → r1 ≠ xlaw ∧ 1 ≤ r2 ∧ ∃ y cc ini, xmt r1 = some (y, cc, none, ini) ∧ y.name = "<init>" ∧ Jvm.Cond.instanceMethod y ∈ xG ∧ Jvm.Cond.initialized y.cls ∈ xG ∧ (y.cls ≠ "java/lang/invoke/MethodHandle" ∧ y.cls ≠ "java/lang/invoke/VarHandle" ∧ (parseMethodDescriptor y.desc).map (fun d => d.parameters.length) = some (r2 - 1)) ∧ (Jvm.Cond.methodLink own i y ∈ xG ∨ ∃ host, Jvm.Cond.methodLinkNest own i y host ∈ xnw)
  | .invokevirtual i => 1 ≤ r2 ∧ ∀ k j, xtg r1 k = some j → j ≠ xlaw ∧ ∃ y cc ret ini q, xmt j = some (y, cc, ret, ini) ∧ k ≠ 0 ∧ k < 100 ∧ xCl[k - 1]? = some q ∧ Jvm.Cond.instanceMethod y ∈ xG ∧ Jvm.Cond.initialized y.cls ∈ xG ∧
      ((Jvm.Cond.methodLink own i y ∈ xG ∧ Jvm.Cond.selects q.1 y y ∈ xG ∧ y.cls ≠ "java/lang/invoke/MethodHandle" ∧ y.cls ≠ "java/lang/invoke/VarHandle" ∧ (parseMethodDescriptor y.desc).map (fun d => d.parameters.length) = some (r2 - 1)) ∨
       ∃ (x : MethodName) (owner : String), Jvm.Cond.methodLink own i x ∈ xG ∧ Jvm.Cond.sameMethod x.cls owner x.name x.desc ∈ xG ∧ Jvm.Cond.selects q.1 x y ∈ xG ∧ (owner ≠ "java/lang/invoke/MethodHandle" ∧ owner ≠ "java/lang/invoke/VarHandle" ∧ (parseMethodDescriptor x.desc).map (fun d => d.parameters.length) = some (r2 - 1)) ∧
         (Jvm.Cond.declares ⟨owner, x.name, x.desc⟩ ∈ xnw ∨ (Jvm.Cond.instanceMethod ⟨owner, x.name, x.desc⟩ ∈ xG ∧ ∃ b m r, Jvm.Cond.code ⟨owner, x.name, x.desc⟩ b m r ∈ xG)))
  | _ => True
def xtw (own : String) (ins : Instr) (r1 : Nat) : Prop := match ins with
  | .invokestatic i => r1 = 1004 → own = "BestParsesLaw" ∧ Jvm.Cond.methodLink own i ⟨"BestParsesLaw", "trier", "(LBestParses;I[J)I"⟩ ∈ xG
  | _ => True
def xE (own : String) (ini : Bool) (cc : ByteArray) (e : Nat × xI) : Prop := decode cc e.1 = .ok (e.2.1, e.2.2.1) ∧ ((∃ a b d o, e.2.1 = .tableswitch a b d o) ∨ e.2.2.1 = xlen e.2.1) ∧ xcon xG own e.2.1 e.2.2.2.1 ∧ xbrk e.2.1 e.2.2.2.1 e.1 ∧ xhw xsd own ini e.2.1 e.2.2.2.1 e.2.2.2.2 ∧ xaw own e.2.1 e.2.2.2.1 ∧ xbw own e.2.1 e.2.2.2.1 ∧ xcw own e.2.1 e.2.2.2.1 e.2.2.2.2 ∧ xtw own e.2.1 e.2.2.2.1
def xMok (i : Nat) (t : xMT) : Prop := plainName t.1.cls = true ∧ (i ≠ xlaw → Jvm.Cond.code t.1 t.2.1 (xnl i) t.2.2.1 ∈ xG) ∧ xnl i ≤ 20 ∧ (xrt i = 0 → t.2.2.1 = none) ∧ (xrt i = 1 → t.2.2.1 = some .int) ∧ (xrt i = 2 → t.2.2.1 = some .long) ∧ (xrt i = 3 → t.2.2.1 = some .boolean) ∧ (t.2.2.2 = true → t.1.name = "<init>") ∧ ∀ e ∈ xcode i, xE t.1.cls t.2.2.2 t.2.1 e
def xVal : Prop := ∀ i t, xmt i = some t → xMok i t
/-- the law's trier, as a step -/
def xHT (l : Launch) (D : va_G) (dA : Nat → ClassId) (ad : Nat → Nat) (base : Nat) (xe : Nat → Option (Nat × (Nat → Int32))) : Prop :=
  ∀ (p : Program) (e : Env) (R : Room) (s : State) (m : MethodId) (args : Array Value) (below : List Frame) (meth : Method) (c : Code) (H : Heap) (locs : List Loc) (cells slots : Nat) (Q : State → Prop) (cc : ByteArray) (nL : Nat) (ls : Array Slot) (pc i : Nat) (st st' : List Value) (h h1 : xS),
    CallFix p m c cc nL s args xG "BestParsesLaw" → ls.size = nL → xEnv D dA ad base xe s → xHO D dA ad base xe h H → va_S (fun q => base ≤ q) s.heap H locs → decode cc pc = .ok (.invokestatic i, 3) → Jvm.Cond.methodLink "BestParsesLaw" i ⟨"BestParsesLaw", "trier", "(LBestParses;I[J)I"⟩ ∈ xG → xtr st h = some (st', h1) → 6 ≤ R.frames → 39 * 6 ≤ R.locals → xsum st' ≤ 9 → cells + xcT ≤ R.cells → slots + xsT ≤ R.slots →
    (∀ (H1 : Heap) (locs1 : List Loc), xHO D dA ad base xe h1 H1 → va_S (fun q => base ≤ q) s.heap H1 locs1 → W p l e R s m args below meth c H1 locs1 (cells + xcT) (slots + xsT) Q (F0 m (pc + 3) ls (st'.map (xsh ad)))) → W p l e R s m args below meth c H locs cells slots Q (F0 m pc ls (st.map (xsh ad)))
theorem xst1_len {L L' : xL} {i : Nat} {v : Value} (hs : xst1 L i v = some L') : L'.length = L.length := by
  unfold xst1 at hs
  split at hs
  · cases hs; simp [xclr_len]
  · cases hs
theorem xst2_len {L L' : xL} {i : Nat} {v : Value} (hs : xst2 L i v = some L') : L'.length = L.length := by
  unfold xst2 at hs
  split at hs
  · cases hs; simp [xclr_len]
  · cases hs
theorem xlo_len {ins : Instr} {L L' : xL} {st st' : List Value} (h : xlo ins L st = some (L', st')) : L'.length = L.length := by
  unfold xlo at h
  split at h
  all_goals first
    | (split at h <;> first | (obtain ⟨L2, hs, he⟩ := Option.map_eq_some_iff.mp h; cases he; first | exact xst1_len hs | exact xst2_len hs) | (cases h; rfl) | cases h)
    | cases h
/-- what a run of the light machine says of a frame -/
def xOK (l : Launch) (D : va_G) (dA : Nat → ClassId) (ad : Nat → Nat) (base : Nat) (xe : Nat → Option (Nat × (Nat → Int32))) (n : Nat) : Prop :=
  ∀ (d i pc : Nat) (L : xL) (st : List Value) (h : xS) (r : Option Value) (h1 : xS), ex n d i pc L st h = some (r, h1) → ∀ (t : xMT), xmt i = some t →
    ∀ (p : Program) (e : Env) (R : Room) (s : State) (m : MethodId) (args : Array Value) (below : List Frame) (meth : Method) (c : Code) (H : Heap) (locs : List Loc) (cells slots : Nat) (Q : State → Prop) (ls : Array Slot),
    CallFix p m c t.2.1 (xnl i) s args xG t.1.cls → (t.2.2.2 = true → meth.name = "<init>") → d ≤ R.frames → 39 * d ≤ R.locals → xEnv D dA ad base xe s → xHO D dA ad base xe h H → va_S (fun q => base ≤ q) s.heap H locs → xLH ad ls L → L.length = xnl i →
    cells + (h1.2.1.2.1 - h.2.1.2.1) ≤ R.cells → slots + (h1.2.1.2.2 - h.2.1.2.2) ≤ R.slots →
    (∀ (H1 : Heap) (locs1 : List Loc) (pc1 : Nat) (ls1 : Array Slot), xHO D dA ad base xe h1 H1 → va_S (fun q => base ≤ q) s.heap H1 locs1 → decode t.2.1 pc1 = .ok (xri r, 1) → xrok i r → W p l e R s m args below meth c H1 locs1 (cells + (h1.2.1.2.1 - h.2.1.2.1)) (slots + (h1.2.1.2.2 - h.2.1.2.2)) Q (F0 m pc1 ls1 (r.toList.map (xsh ad)))) →
    W p l e R s m args below meth c H locs cells slots Q (F0 m pc ls (st.map (xsh ad)))
set_option maxHeartbeats 4000000 in
/-- a called method's contract -/
theorem xmet {l : Launch} {D : va_G} {dA : Nat → ClassId} {ad : Nat → Nat} {base : Nat} {xe : Nat → Option (Nat × (Nat → Int32))} {n : Nat} (ih : xOK l D dA ad base xe n) (hV : xVal) {d j : Nat} {vs : List Value} {h h1 : xS} {r : Option Value} (hx : ex n d j 0 (xent (xnl j) vs) [] h = some (r, h1)) (hlen : (xargs vs).length ≤ xnl j) {t : xMT} (ht : xmt j = some t) (hj : j ≠ xlaw) :
    Met l t.1 (Jvm.Cond.code t.1 t.2.1 (xnl j) t.2.2.1 :: xG) (xrm d (h1.2.1.2.1 - h.2.1.2.1) (h1.2.1.2.2 - h.2.1.2.2)) (xPc D dA ad base xe vs h) (xQc D dA ad base xe r h1) (h1.2.1.2.1 - h.2.1.2.1) (h1.2.1.2.2 - h.2.1.2.2) (fun q => base ≤ q) := by
  obtain ⟨v1, v2, v3, v4, v5, v6, v7, v8, v9⟩ := hV j t ht
  refine Met.ofW (cc := t.2.1) (maxL := xnl j) (ret := t.2.2.1) v1 rfl ?_
  intro p e s m args below meth c s₁ B hml hv
  obtain ⟨rfl, hH, hEnv⟩ := hv
  have hts := atoms_spec (ws := Jvm.Cond.code t.1 t.2.1 (xnl j) t.2.2.1 :: xG) B.pre
  have hlocks := B.notSynchronized
  have hr := B.returns
  rw [lg_entry_eq]
  refine ih d j 0 _ [] h r h1 hx t ht p e _ s m _ below meth c s.heap [] 0 0 _ _ ⟨B.exec, B.bytes, hml, findClass_of_methodNamed B.named, fun w hw => hts w (List.mem_cons_of_mem _ hw)⟩ (fun hi => (name_of_methodNamed B.named B.method).1.trans (v8 hi)) (Nat.le_refl _) (Nat.le_refl _) hEnv hH va_S.rf (xent_ok ad vs (xnl j) hlen) (xent_len _ _ hlen) (by rw [Nat.zero_add]; exact Nat.le_refl _) (by rw [Nat.zero_add]; exact Nat.le_refl _) ?_
  intro H1 locs1 pc1 ls1 hH1 hS1 hdg hrk
  rw [Nat.zero_add, Nat.zero_add]
  cases r with
  | none =>
    exact W.vret B.exec B.bytes (hr.trans (v4 hrk)) (fun t ht _ => ⟨rfl, by rw [ht]; exact hH1, hS1.F ht⟩) hS1.2.2 hdg hlocks
  | some v =>
    cases v with
    | int x =>
      rcases hrk with hrk | ⟨hrk, hx01⟩
      · exact W.iret B.exec B.bytes (hr.trans (v5 hrk)) (fun t ht _ => ⟨rfl, by rw [ht]; exact hH1, hS1.F ht⟩) hS1.2.2 hdg hlocks
      · exact W.zret (ty := .boolean) B.exec B.bytes (hr.trans (v7 hrk)) (by rcases hx01 with rfl | rfl <;> decide) (fun t ht _ => ⟨rfl, by rw [ht]; exact hH1, hS1.F ht⟩) hS1.2.2 hdg hlocks
    | long x => exact W.lret B.exec B.bytes (hr.trans (v6 hrk)) (fun t ht _ => ⟨rfl, by rw [ht]; exact hH1, hS1.F ht⟩) hS1.2.2 hdg hlocks
    | float x => exact absurd hrk id
    | double x => exact absurd hrk id
    | null => exact absurd hrk id
    | ref x => exact absurd hrk id
    | retAddr x => exact absurd hrk id
