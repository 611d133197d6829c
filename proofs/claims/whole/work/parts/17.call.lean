/-! CALLS: entry, contract, return -/
theorem xargs_len (ad : Nat → Nat) (vs : List Value) : (lg_sl (vs.map (xsh ad))).length = (xargs vs).length := by
  induction vs with
  | nil => rfl
  | cons v t ih =>
    have e : lg_sl ((v :: t).map (xsh ad)) = (if v.category = 2 then [Slot.val (xsh ad v), Slot.second] else [Slot.val (xsh ad v)]) ++ lg_sl (t.map (xsh ad)) := by
      simp [lg_sl, xsh_cat]
    rw [e, List.length_append, ih, show xargs (v :: t) = (if v.category = 2 then some v :: none :: xargs t else some v :: xargs t) from rfl]
    split <;> simp only [List.length_cons, List.length_nil] <;> omega
theorem xargs_at (ad : Nat → Nat) : ∀ (vs : List Value) (i k : Nat) (v : Value), xld (xargs vs) i = some v → (k + i, xsh ad v) ∈ lv_args k (vs.map (xsh ad))
  | [], i, k, v, h => by simp [xargs, xld] at h
  | u :: t, i, k, v, h => by
    simp only [List.map_cons, lv_args, xsh_cat]
    unfold xargs at h
    split at h
    · rename_i hc
      rw [if_pos hc]
      match i, h with
      | 0, h =>
        have h2 : u = v := by simpa [xld] using h
        subst h2
        exact List.mem_cons_self
      | 1, h => simp [xld] at h
      | i + 2, h =>
        have := xargs_at ad t i (k + 2) v (by simpa [xld] using h)
        rw [show k + (i + 2) = k + 2 + i by omega]
        exact List.mem_cons_of_mem _ this
    · rename_i hc
      rw [if_neg hc]
      match i, h with
      | 0, h =>
        have h2 : u = v := by simpa [xld] using h
        subst h2
        exact List.mem_cons_self
      | i + 1, h =>
        have := xargs_at ad t i (k + 1) v (by simpa [xld] using h)
        rw [show k + (i + 1) = k + 1 + i by omega]
        exact List.mem_cons_of_mem _ this
theorem xent_len (n : Nat) (vs : List Value) (h : (xargs vs).length ≤ n) : (xent n vs).length = n := by
  unfold xent
  rw [List.length_append, List.length_replicate]
  omega
theorem xent_ok (ad : Nat → Nat) (vs : List Value) (n : Nat) (h : (xargs vs).length ≤ n) : xLH ad ((lg_sl (vs.map (xsh ad)) ++ List.replicate (n - (lg_sl (vs.map (xsh ad))).length) Slot.unset).toArray) (xent n vs) := by
  obtain ⟨h1, h2, h3⟩ := lv_entry (vs.map (xsh ad)) (n := n) (by rw [xargs_len]; exact h)
  refine ⟨by rw [xent_len n vs h]; exact h1, h2, fun q hq => ?_⟩
  obtain ⟨i, w⟩ := q
  obtain ⟨v, hv, rfl⟩ := xas_mem.mp hq
  refine h3 _ ?_
  have hv2 : xld (xargs vs) i = some v := by
    unfold xent xld at hv
    unfold xld
    by_cases hi : i < (xargs vs).length
    · rw [List.getElem?_append_left hi] at hv
      exact hv
    · rw [List.getElem?_append_right (by omega)] at hv
      split at hv
      · rename_i o ho
        have := List.mem_of_getElem? ho
        rw [(List.mem_replicate.mp this).2] at hv
        cases hv
      · cases hv
  have := xargs_at ad vs i 0 v hv2
  rw [Nat.zero_add] at this
  exact this
/-- what a frame knows -/
def xEnv (D : va_G) (dA : Nat → ClassId) (ad : Nat → Nat) (base : Nat) (xe : Nat → Option (Nat × (Nat → Int32))) (U : State) : Prop := xKK D dA ad base xe xsd U ∧ (∀ w ∈ xnw, va_Nw w U) ∧ base ≤ U.heap.size
theorem xEnv.moved {D : va_G} {dA : Nat → ClassId} {ad : Nat → Nat} {base : Nat} {xe : Nat → Option (Nat × (Nat → Int32))} {s U : State} {locs : List Loc} (h : xEnv D dA ad base xe s) (hS : va_S (fun q => base ≤ q) s.heap U.heap locs) (hW : s.WarmedH U.vm) : xEnv D dA ad base xe U := by
  obtain ⟨⟨h1, h2, h3⟩, h4, h5⟩ := h
  have hk : ∀ a : Nat, a < s.heap.size → ¬ base ≤ a → U.heap[a]? = s.heap[a]? := fun a ha hb => hS.2.1 a ha hb
  exact ⟨⟨va_K.moved hW.alike h1, fun a n f hf => va_T.moved hW.alike ((h2 a n f hf).kept hk), fun k C n d hd => va_Z.moved hW.alike ((h3 k C n d hd).kept hk)⟩, fun w hw => xnw_warm hW w hw (h4 w hw), Nat.le_trans h5 hS.1⟩
def xPc (D : va_G) (dA : Nat → ClassId) (ad : Nat → Nat) (base : Nat) (xe : Nat → Option (Nat × (Nat → Int32))) (vs : List Value) (h : xS) : Array Value → State → Prop := fun v U => v = (vs.map (xsh ad)).toArray ∧ xHO D dA ad base xe h U.heap ∧ xEnv D dA ad base xe U
def xQc (D : va_G) (dA : Nat → ClassId) (ad : Nat → Nat) (base : Nat) (xe : Nat → Option (Nat × (Nat → Int32))) (r : Option Value) (h1 : xS) : Array Value → State → Outcome → State → Prop := fun _ st o t => o = .returned (r.map (xsh ad)) ∧ xHO D dA ad base xe h1 t.heap ∧ va_F (fun q => base ≤ q) st t
theorem xPc_blind {D : va_G} {dA : Nat → ClassId} {ad : Nat → Nat} {base : Nat} {xe : Nat → Option (Nat × (Nat → Int32))} {vs : List Value} {h : xS} : FrameBlind (xPc D dA ad base xe vs h) := by
  intro a U g mk q
  obtain ⟨q1, q2, ⟨⟨h1, h2, h3⟩, h4, h5⟩⟩ := q
  exact ⟨q1, q2, ⟨⟨va_K.moved (u := U) (U := U.calling g mk a) (Vm.Alike.refl U.vm) h1, fun a' n f hf => va_T.moved (u := U) (U := U.calling g mk a) (Vm.Alike.refl U.vm) (h2 a' n f hf), fun k C n d hd => va_Z.moved (u := U) (U := U.calling g mk a) (Vm.Alike.refl U.vm) (h3 k C n d hd)⟩, fun w hw => va_Nw.same (u := U) (U := U.calling g mk a) (xnw_on w hw) rfl (h4 w hw), h5⟩⟩
def xrm (d mc ms : Nat) : Room := { frames := d, cells := mc, slots := ms, locals := 39 * d }
def xri (r : Option Value) : Instr := match r with
  | none => .return_
  | some (.long _) => .lreturn
  | some _ => .ireturn
def xrok (i : Nat) (r : Option Value) : Prop := match r with
  | none => xrt i = 0
  | some (.int v) => xrt i = 1 ∨ (xrt i = 3 ∧ (v = 0 ∨ v = 1))
  | some (.long _) => xrt i = 2
  | _ => False
theorem xret_inv {i : Nat} {ins : Instr} {st : List Value} {h h1 : xS} {r : Option Value} (hx : xret i ins st h = some (r, h1)) : h1 = h ∧ ins = xri r ∧ st = r.toList ∧ xrok i r := by
  unfold xret at hx
  split at hx
  · split at hx
    · split at hx
      · rename_i hc
        cases hx
        exact ⟨rfl, rfl, rfl, hc⟩
      · cases hx
    · cases hx
  · split at hx
    · split at hx
      · rename_i hc
        cases hx
        exact ⟨rfl, rfl, rfl, hc⟩
      · cases hx
    · cases hx
  · split at hx
    · split at hx
      · rename_i hc
        cases hx
        exact ⟨rfl, rfl, rfl, hc⟩
      · cases hx
    · cases hx
  · cases hx
def xgm (w : Jvm.Cond) : Prop := w ∈ xG
theorem xgood {w0 : Jvm.Cond} (h : w0 ∈ xG) : GoodIn xG (w0 :: xG) := by
  intro w hw
  have h1 : w ∈ xG := by
    rcases List.mem_cons.mp hw with rfl | hw
    · exact h
    · exact hw
  exact ⟨h1, good_of_word (List.mem_filter.mp h1).2⟩
section XR
variable {p : Program} {l : Launch} {e : Env} {R : Room} {s : State} {m : MethodId} {args : Array Value} {below : List Frame} {meth : Method} {c : Code} {H : Heap} {locs : List Loc} {cells slots : Nat} {Q : State → Prop}
variable {cc : ByteArray} {pc nL mc ms : Nat} {ls : Array Slot} {ad : Nat → Nat} {D : va_G} {dA : Nat → ClassId} {base : Nat} {xe : Nat → Option (Nat × (Nat → Int32))} {own : String}
/-- behind a call -/
theorem xcall_ok {st0 rest : List Value} {a : Array Value} {r : Option Value} {h1 : xS} (hr : va_Run p l e R s m args below meth c H locs cells slots mc ms (F0 m pc ls st0) rest (xQc D dA ad base xe r h1 a) (fun q => base ≤ q)) (hS : va_S (fun q => base ≤ q) s.heap H locs)
    (kk : ∀ H1 locs1, xHO D dA ad base xe h1 H1 → va_S (fun q => base ≤ q) s.heap H1 locs1 → W p l e R s m args below meth c H1 locs1 (cells + mc) (slots + ms) Q (F0 m (pc + 3) ls ((r.map (xsh ad)).toList ++ rest))) : W p l e R s m args below meth c H locs cells slots Q (F0 m pc ls st0) := by
  intro T hT X
  obtain ⟨v, st₀, t, T', L, h0, X', hL, e1, e2, ⟨hv, hH1, hz, hk⟩, st⟩ := hr T hT X
  cases hv
  rw [h0] at hz hk
  obtain ⟨t2, a1, b1⟩ := kk T'.heap (locs ++ L) (by rw [e1]; exact hH1)
    ⟨Nat.le_trans hS.1 (by rw [e1]; exact hz), fun q h1 h2 => by rw [e1, hk q (Nat.lt_of_lt_of_le h1 hS.1) h2]; exact hS.2.1 q h1 h2, fun q hq => by
      rcases List.mem_append.mp hq with h | h
      · exact hS.2.2 q h
      · exact hL q h⟩ T' rfl X'
  exact ⟨t2, st t2 a1, b1⟩
end XR
