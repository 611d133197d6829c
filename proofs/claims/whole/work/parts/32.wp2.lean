/-! constants, locals' increments, returns, statics -/
section WP2
variable {d i pc pc' : Nat} {L L' : xL} {st : List Value} {Q : Option Value × xS → Prop} {h : xS}
theorem Wp.ic {n : Int} {v : Int32} (hx : xat pc (xcode i) = some (.iconst n, 1, 0, 0)) (hp : pc + 1 = pc') (hv : Int32.ofInt n = v) (k : Wp d i pc' L (.int v :: st) h Q) : Wp d i pc L st h Q := by
  subst hp hv
  exact Wp.go hx _ L _ rfl ⟨rfl, rfl, rfl, rfl⟩ k
theorem Wp.bp {n : Int} {v : Int32} (hx : xat pc (xcode i) = some (.bipush n, 2, 0, 0)) (hp : pc + 2 = pc') (hv : (Int8.ofInt n).toInt32 = v) (k : Wp d i pc' L (.int v :: st) h Q) : Wp d i pc L st h Q := by
  subst hp hv
  exact Wp.go hx _ L _ rfl ⟨rfl, rfl, rfl, rfl⟩ k
theorem Wp.sp {n : Int} {v : Int32} (hx : xat pc (xcode i) = some (.sipush n, 3, 0, 0)) (hp : pc + 3 = pc') (hv : (Int16.ofInt n).toInt32 = v) (k : Wp d i pc' L (.int v :: st) h Q) : Wp d i pc L st h Q := by
  subst hp hv
  exact Wp.go hx _ L _ rfl ⟨rfl, rfl, rfl, rfl⟩ k
theorem Wp.lc {n : Fin 2} {v : Int64} (hx : xat pc (xcode i) = some (.lconst n, 1, 0, 0)) (hp : pc + 1 = pc') (hv : Int64.ofNat (n : Nat) = v) (k : Wp d i pc' L (.long v :: st) h Q) : Wp d i pc L st h Q := by
  subst hp hv
  exact Wp.go hx _ L _ rfl ⟨rfl, rfl, rfl, rfl⟩ k
theorem Wp.ldc {m r1 : Nat} {v : Int32} (hx : xat pc (xcode i) = some (.ldc m, 2, r1, 0)) (hp : pc + 2 = pc') (hv : Int32.ofNat r1 = v) (k : Wp d i pc' L (.int v :: st) h Q) : Wp d i pc L st h Q := by
  subst hp hv
  exact Wp.go hx _ L _ rfl ⟨rfl, rfl, rfl, rfl⟩ k
theorem Wp.ldcw {m r1 : Nat} {v : Int32} (hx : xat pc (xcode i) = some (.ldc_w m, 3, r1, 0)) (hp : pc + 3 = pc') (hv : Int32.ofNat r1 = v) (k : Wp d i pc' L (.int v :: st) h Q) : Wp d i pc L st h Q := by
  subst hp hv
  exact Wp.go hx _ L _ rfl ⟨rfl, rfl, rfl, rfl⟩ k
theorem Wp.ldcj {m r1 : Nat} {v : Int64} (hx : xat pc (xcode i) = some (.ldc2_w m, 3, r1, 0)) (hp : pc + 3 = pc') (hv : Int64.ofNat r1 = v) (k : Wp d i pc' L (.long v :: st) h Q) : Wp d i pc L st h Q := by
  subst hp hv
  exact Wp.go hx _ L _ rfl ⟨rfl, rfl, rfl, rfl⟩ k
theorem Wp.ii {j : Nat} {n : Int} {x v : Int32} (hx : xat pc (xcode i) = some (.iinc j n, 3, 0, 0)) (hp : pc + 3 = pc') (hv : Int32.ofInt n = v) (hl : xld L j = some (.int x)) (hs : xst1 L j (.int (x + v)) = some L') (k : Wp d i pc' L' st h Q) : Wp d i pc L st h Q := by
  subst hp hv
  refine Wp.go hx _ L' st ?_ ⟨rfl, rfl, rfl, rfl⟩ k
  show (match (match xld L j with | some (.int x) => (xst1 L j (.int (x + Int32.ofInt n))).map (fun L' => (L', st)) | _ => none) with | some q => some (pc + 3, q.1, q.2, h) | none => _) = _
  rw [hl]
  dsimp only
  rw [hs]
  rfl
theorem Wp.gst {m r1 : Nat} (hx : xat pc (xcode i) = some (.getstatic m, 3, r1, 0)) (hp : pc + 3 = pc') (k : Wp d i pc' L (.ref r1 :: st) h Q) : Wp d i pc L st h Q := by
  subst hp
  exact Wp.go hx _ L _ rfl ⟨rfl, rfl, rfl, rfl⟩ k
theorem Wp.rI {v : Int32} (hx : xat pc (xcode i) = some (.ireturn, 1, 0, 0)) (hr : xrt i = 1) (k : Q (some (.int v), h)) : Wp d i pc L [.int v] h Q := by
  refine Wp.ret hx (r := (some (.int v), h)) ?_ k
  show (if xrt i = 1 ∨ (xrt i = 3 ∧ (v = 0 ∨ v = 1)) then some (some (Value.int v), h) else none) = _
  rw [if_pos (Or.inl hr)]
theorem Wp.rZ {v : Int32} (hx : xat pc (xcode i) = some (.ireturn, 1, 0, 0)) (hr : xrt i = 3) (hv : v = 0 ∨ v = 1) (k : Q (some (.int v), h)) : Wp d i pc L [.int v] h Q := by
  refine Wp.ret hx (r := (some (.int v), h)) ?_ k
  show (if xrt i = 1 ∨ (xrt i = 3 ∧ (v = 0 ∨ v = 1)) then some (some (Value.int v), h) else none) = _
  rw [if_pos (Or.inr ⟨hr, hv⟩)]
theorem Wp.rJ {v : Int64} (hx : xat pc (xcode i) = some (.lreturn, 1, 0, 0)) (hr : xrt i = 2) (k : Q (some (.long v), h)) : Wp d i pc L [.long v] h Q := by
  refine Wp.ret hx (r := (some (.long v), h)) ?_ k
  show (if xrt i = 2 then some (some (Value.long v), h) else none) = _
  rw [if_pos hr]
theorem Wp.rV (hx : xat pc (xcode i) = some (.return_, 1, 0, 0)) (hr : xrt i = 0) (k : Q (none, h)) : Wp d i pc L [] h Q := by
  refine Wp.ret hx (r := (none, h)) ?_ k
  show (if xrt i = 0 then some (none, h) else none) = _
  rw [if_pos hr]
end WP2
section WP3
variable {d i pc pc' : Nat} {L : xL} {st : List Value} {Q : Option Value × xS → Prop} {K : Nat → Nat × Nat} {P : List Nat × Nat × Nat} {I : Nat → Nat → Int32} {J : Nat → Nat → Int64} {F : Nat → Nat → Option Nat}
/-- what a callee that makes nothing leaves behind: an int, a long, nothing -/
def xrI (K : Nat → Nat × Nat) (P : List Nat × Nat × Nat) (F : Nat → Nat → Option Nat) (R : Int32 → (Nat → Nat → Int32) → (Nat → Nat → Int64) → Prop) : Option Value × xS → Prop := fun q => ∃ v I1 J1, q = (some (.int v), (K, P, I1, J1, F)) ∧ R v I1 J1
def xrJ (K : Nat → Nat × Nat) (P : List Nat × Nat × Nat) (F : Nat → Nat → Option Nat) (R : Int64 → (Nat → Nat → Int32) → (Nat → Nat → Int64) → Prop) : Option Value × xS → Prop := fun q => ∃ v I1 J1, q = (some (.long v), (K, P, I1, J1, F)) ∧ R v I1 J1
def xrV (K : Nat → Nat × Nat) (P : List Nat × Nat × Nat) (F : Nat → Nat → Option Nat) (R : (Nat → Nat → Int32) → (Nat → Nat → Int64) → Prop) : Option Value × xS → Prop := fun q => ∃ I1 J1, q = (none, (K, P, I1, J1, F)) ∧ R I1 J1
theorem Wp.kI {x : xI} {j : Nat} {vs rest : List Value} {R : Int32 → (Nat → Nat → Int32) → (Nat → Nat → Int64) → Prop} (hx : xat pc (xcode i) = some x) (hj : xwho x.1 x.2.2.1 x.2.2.2 st (K, P, I, J, F) = some j) (hp : xret i x.1 st (K, P, I, J, F) = none) (hc : x.2.2.2 ≤ st.length ∧ xsum (st.drop x.2.2.2) ≤ 8 ∧ (xargs (st.take x.2.2.2).reverse).length ≤ xnl j) (hvs : (st.take x.2.2.2).reverse = vs) (hrest : st.drop x.2.2.2 = rest) (hpc : pc + 3 = pc')
    (H : Wp d j 0 (xent (xnl j) vs) [] (K, P, I, J, F) (xrI K P F R)) (k : ∀ v I1 J1, R v I1 J1 → Wp (d + 1) i pc' L (.int v :: rest) (K, P, I1, J1, F) Q) : Wp (d + 1) i pc L st (K, P, I, J, F) Q := by
  refine Wp.call hx j vs rest hj hp hc hvs hrest hpc (H.mono fun q hq => ?_)
  obtain ⟨v, I1, J1, rfl, hr⟩ := hq
  exact k v I1 J1 hr
theorem Wp.kJ {x : xI} {j : Nat} {vs rest : List Value} {R : Int64 → (Nat → Nat → Int32) → (Nat → Nat → Int64) → Prop} (hx : xat pc (xcode i) = some x) (hj : xwho x.1 x.2.2.1 x.2.2.2 st (K, P, I, J, F) = some j) (hp : xret i x.1 st (K, P, I, J, F) = none) (hc : x.2.2.2 ≤ st.length ∧ xsum (st.drop x.2.2.2) ≤ 8 ∧ (xargs (st.take x.2.2.2).reverse).length ≤ xnl j) (hvs : (st.take x.2.2.2).reverse = vs) (hrest : st.drop x.2.2.2 = rest) (hpc : pc + 3 = pc')
    (H : Wp d j 0 (xent (xnl j) vs) [] (K, P, I, J, F) (xrJ K P F R)) (k : ∀ v I1 J1, R v I1 J1 → Wp (d + 1) i pc' L (.long v :: rest) (K, P, I1, J1, F) Q) : Wp (d + 1) i pc L st (K, P, I, J, F) Q := by
  refine Wp.call hx j vs rest hj hp hc hvs hrest hpc (H.mono fun q hq => ?_)
  obtain ⟨v, I1, J1, rfl, hr⟩ := hq
  exact k v I1 J1 hr
theorem Wp.kV {x : xI} {j : Nat} {vs rest : List Value} {R : (Nat → Nat → Int32) → (Nat → Nat → Int64) → Prop} (hx : xat pc (xcode i) = some x) (hj : xwho x.1 x.2.2.1 x.2.2.2 st (K, P, I, J, F) = some j) (hp : xret i x.1 st (K, P, I, J, F) = none) (hc : x.2.2.2 ≤ st.length ∧ xsum (st.drop x.2.2.2) ≤ 8 ∧ (xargs (st.take x.2.2.2).reverse).length ≤ xnl j) (hvs : (st.take x.2.2.2).reverse = vs) (hrest : st.drop x.2.2.2 = rest) (hpc : pc + 3 = pc')
    (H : Wp d j 0 (xent (xnl j) vs) [] (K, P, I, J, F) (xrV K P F R)) (k : ∀ I1 J1, R I1 J1 → Wp (d + 1) i pc' L rest (K, P, I1, J1, F) Q) : Wp (d + 1) i pc L st (K, P, I, J, F) Q := by
  refine Wp.call hx j vs rest hj hp hc hvs hrest hpc (H.mono fun q hq => ?_)
  obtain ⟨I1, J1, rfl, hr⟩ := hq
  exact k I1 J1 hr
end WP3
