/-! A RUN OF THE LIGHT MACHINE: fuel n, depth d, method i -/
def xargs : List Value → xL
  | [] => []
  | v :: vs => if v.category = 2 then some v :: none :: xargs vs else some v :: xargs vs
def xent (n : Nat) (vs : List Value) : xL := xargs vs ++ List.replicate (n - (xargs vs).length) none
/-- calls that are one step: Math.max, Math.min, System.arraycopy over ints, Object's constructor -/
def xbi (r1 : Nat) (st : List Value) (h : xS) : Option (List Value × xS) :=
  if r1 = 1000 then match st with
    | .int y :: .int x :: r => some (.int (if x < y then y else x) :: r, h)
    | _ => none
  else if r1 = 1001 then match st with
    | .int y :: .int x :: r => some (.int (if y < x then y else x) :: r, h)
    | _ => none
  else if r1 = 1002 then match st with
    | .int n :: .int dp :: .ref a :: .int sp :: .ref a0 :: r => if (a ≠ a0 ∧ (h.1 a).1 = 100 ∧ (h.1 a0).1 = 100) ∧ ¬ sp < 0 ∧ ¬ dp < 0 ∧ ¬ n < 0 ∧ sp.toNatClampNeg + n.toNatClampNeg ≤ (h.1 a0).2 ∧ dp.toNatClampNeg + n.toNatClampNeg ≤ (h.1 a).2 then some (r, (h.1, h.2.1, va_up h.2.2.1 a (va_cpy (h.2.2.1 a0) (h.2.2.1 a) sp.toNatClampNeg dp.toNatClampNeg n.toNatClampNeg), h.2.2.2)) else none
    | _ => none
  else if r1 = 1003 then match st with
    | .ref _ :: r => some (r, h)
    | _ => none
  else none
/-- what an exception of trier takes at most: cells, slots -/
def xcT : Nat := 64
def xsT : Nat := 2048
/-- the law's own trier, a call that is one step: 0 and the octet, or 1 -/
def xtr (st : List Value) (h : xS) : Option (List Value × xS) := match st with
  | .ref o :: .int i :: .ref x :: r => match h.2.2.2.2 x 1 with
    | some t => match h.2.2.2.2 t 2 with
      | some w => if (h.1 x).1 = 9 ∧ (h.1 t).1 = 8 ∧ (h.1 w).1 = 100 ∧ h.1 o = (101, 1) ∧ h.2.1.1 = [] then
          if i < 0 ∨ h.2.2.1 t 3 ≤ i then some (.int 1 :: r, (h.1, (h.2.1.1, h.2.1.2.1 + xcT, h.2.1.2.2 + xsT), h.2.2))
          else if i.toNatClampNeg < (h.1 w).2 then some (.int 0 :: r, (h.1, (h.2.1.1, h.2.1.2.1 + xcT, h.2.1.2.2 + xsT), h.2.2.1, xup h.2.2.2.1 o 0 (h.2.2.1 w i.toNatClampNeg).toInt64, h.2.2.2.2)) else none
        else none
      | none => none
    | none => none
  | _ => none
def xbj (ins : Instr) (r1 : Nat) (st : List Value) (h : xS) : Option (List Value × xS) := match ins with
  | .invokestatic _ => if r1 = 1003 then none else xbi r1 st h
  | .invokespecial _ => if r1 = 1003 then xbi r1 st h else none
  | _ => none
def xbt (ins : Instr) (r1 : Nat) (st : List Value) (h : xS) : Option (List Value × xS) := match ins with
  | .invokestatic _ => if r1 = 1004 then xtr st h else none
  | _ => none
def xret (i : Nat) (ins : Instr) (st : List Value) (h : xS) : Option (Option Value × xS) := match ins with
  | .ireturn => match st with
    | [.int v] => if xrt i = 1 ∨ (xrt i = 3 ∧ (v = 0 ∨ v = 1)) then some (some (.int v), h) else none
    | _ => none
  | .lreturn => match st with
    | [.long v] => if xrt i = 2 then some (some (.long v), h) else none
    | _ => none
  | .return_ => match st with
    | [] => if xrt i = 0 then some (none, h) else none
    | _ => none
  | _ => none
def xwho (ins : Instr) (r1 r2 : Nat) (st : List Value) (h : xS) : Option Nat := match ins with
  | .invokestatic _ => if r1 < 1000 then some r1 else none
  | .invokespecial _ => match st[r2 - 1]? with
    | some (.ref _) => if r1 < 1000 then some r1 else none
    | _ => none
  | .invokevirtual _ => match st[r2 - 1]? with
    | some (.ref a) => xtg r1 (h.1 a).1
    | _ => none
  | _ => none
def xsum (st : List Value) : Nat := (st.map fun v => v.category).sum
def xstep (ins : Instr) (r1 r2 pc : Nat) (L : xL) (st : List Value) (h : xS) : Option xF := match xop ins r1 st with
  | some st' => some (pc + xlen ins, L, st', h)
  | none => match xlo ins L st with
    | some q => some (pc + xlen ins, q.1, q.2, h)
    | none => match xbr ins r1 pc st with
      | some q => some (q.1, L, q.2, h)
      | none => match xhp ins r1 r2 st h with
        | some q => some (pc + xlen ins, L, q.1, q.2)
        | none => match xal ins r1 st h with
          | some q => some (pc + xlen ins, L, q.1, q.2.1)
          | none => none
def ex : Nat → Nat → Nat → Nat → xL → List Value → xS → Option (Option Value × xS)
  | 0, _, _, _, _, _, _ => none
  | n + 1, d, i, pc, L, st, h => match xat pc (xcode i) with
    | none => none
    | some x => match xret i x.1 st h with
      | some r => some r
      | none => match xwho x.1 x.2.2.1 x.2.2.2 st h with
        | some j => match d with
          | 0 => none
          | d' + 1 => if x.2.2.2 ≤ st.length ∧ xsum (st.drop x.2.2.2) ≤ 8 ∧ (xargs (st.take x.2.2.2).reverse).length ≤ xnl j then
              match ex n d' j 0 (xent (xnl j) (st.take x.2.2.2).reverse) [] h with
              | some q => ex n (d' + 1) i (pc + 3) L (q.1.toList ++ st.drop x.2.2.2) q.2
              | none => none
            else none
        | none => match xbj x.1 x.2.2.1 st h with
          | some q => if 1 ≤ d ∧ xsum q.1 ≤ 9 then ex n d i (pc + 3) L q.1 q.2 else none
          | none => match xbt x.1 x.2.2.1 st h with
            | some q => if 6 ≤ d ∧ xsum q.1 ≤ 9 then ex n d i (pc + 3) L q.1 q.2 else none
            | none => match xstep x.1 x.2.2.1 x.2.2.2 pc L st h with
              | some f => ex n d i f.1 f.2.1 f.2.2.1 f.2.2.2
              | none => none
/-- one step of a run, read backwards -/
theorem ex_inv {n d i pc : Nat} {L : xL} {st : List Value} {h : xS} {r : Option Value × xS} (H : ex (n + 1) d i pc L st h = some r) :
    ∃ x : xI, (pc, x) ∈ xcode i ∧ (xret i x.1 st h = some r ∨
      (∃ j d' q, d = d' + 1 ∧ xwho x.1 x.2.2.1 x.2.2.2 st h = some j ∧ x.2.2.2 ≤ st.length ∧ xsum (st.drop x.2.2.2) ≤ 8 ∧ (xargs (st.take x.2.2.2).reverse).length ≤ xnl j ∧ ex n d' j 0 (xent (xnl j) (st.take x.2.2.2).reverse) [] h = some q ∧ ex n d i (pc + 3) L (q.1.toList ++ st.drop x.2.2.2) q.2 = some r) ∨
      (∃ q, xbj x.1 x.2.2.1 st h = some q ∧ 1 ≤ d ∧ xsum q.1 ≤ 9 ∧ ex n d i (pc + 3) L q.1 q.2 = some r) ∨
      (∃ q, xbt x.1 x.2.2.1 st h = some q ∧ 6 ≤ d ∧ xsum q.1 ≤ 9 ∧ ex n d i (pc + 3) L q.1 q.2 = some r) ∨
      (∃ f, xstep x.1 x.2.2.1 x.2.2.2 pc L st h = some f ∧ ex n d i f.1 f.2.1 f.2.2.1 f.2.2.2 = some r)) := by
  unfold ex at H
  split at H
  · cases H
  · rename_i x hx
    refine ⟨x, xat_mem hx, ?_⟩
    split at H
    · rename_i r0 hr
      cases H
      exact Or.inl hr
    · split at H
      · rename_i j hj
        split at H
        · cases H
        · split at H
          · rename_i hc
            split at H
            · rename_i q hq
              exact Or.inr (Or.inl ⟨j, _, q, rfl, hj, hc.1, hc.2.1, hc.2.2, hq, H⟩)
            · cases H
          · cases H
      · split at H
        · rename_i q hq
          split at H
          · rename_i hc
            exact Or.inr (Or.inr (Or.inl ⟨q, hq, hc.1, hc.2, H⟩))
          · cases H
        · split at H
          · rename_i q hq
            split at H
            · rename_i hc
              exact Or.inr (Or.inr (Or.inr (Or.inl ⟨q, hq, hc.1, hc.2, H⟩)))
            · cases H
          · split at H
            · rename_i f hf
              exact Or.inr (Or.inr (Or.inr (Or.inr ⟨f, hf, H⟩)))
            · cases H
/-- the cells and slots that a run has taken only grow -/
def xle (h h1 : xS) : Prop := h.2.1.2.1 ≤ h1.2.1.2.1 ∧ h.2.1.2.2 ≤ h1.2.1.2.2
theorem xle.rfl {h : xS} : xle h h := ⟨Nat.le_refl _, Nat.le_refl _⟩
theorem xle.trans {a b c : xS} (h : xle a b) (h2 : xle b c) : xle a c := ⟨Nat.le_trans h.1 h2.1, Nat.le_trans h.2 h2.2⟩
theorem xpf_pl {h h1 : xS} {a k : Nat} {v : Value} (hx : xpf h a k v = some h1) : h1.2.1 = h.2.1 := by
  unfold xpf at hx
  split at hx
  · split at hx <;> cases hx; rfl
  · split at hx <;> cases hx; rfl
  · split at hx <;> cases hx; rfl
  · cases hx
theorem xhp_pl {ins : Instr} {r1 r2 : Nat} {st st' : List Value} {h h1 : xS} (hx : xhp ins r1 r2 st h = some (st', h1)) : h1.2.1 = h.2.1 := by
  unfold xhp at hx
  split at hx
  · split at hx
    · split at hx <;> cases hx; rfl
    · cases hx
  · split at hx
    · split at hx
      · obtain ⟨h2, hp, he⟩ := Option.map_eq_some_iff.mp hx
        cases he
        exact xpf_pl hp
      · cases hx
    · cases hx
  · cases hx; rfl
  all_goals first | (split at hx <;> first | (split at hx <;> cases hx; rfl) | cases hx) | cases hx
theorem xbi_pl {r1 : Nat} {st st' : List Value} {h h1 : xS} (hx : xbi r1 st h = some (st', h1)) : h1.2.1 = h.2.1 := by
  unfold xbi at hx
  repeat' split at hx
  all_goals first | cases hx; rfl | cases hx
theorem xal_pl {ins : Instr} {r1 ds : Nat} {st st' : List Value} {h h1 : xS} (hx : xal ins r1 st h = some (st', h1, ds)) : h1.2.1.2.1 = h.2.1.2.1 + 1 ∧ h1.2.1.2.2 = h.2.1.2.2 + ds := by
  unfold xal at hx
  repeat' split at hx
  all_goals first | cases hx; exact ⟨rfl, rfl⟩ | cases hx
theorem xtr_pl {st st' : List Value} {h h1 : xS} (hx : xtr st h = some (st', h1)) : h1.2.1.2.1 = h.2.1.2.1 + xcT ∧ h1.2.1.2.2 = h.2.1.2.2 + xsT := by
  unfold xtr at hx
  repeat' split at hx
  all_goals first | cases hx; exact ⟨rfl, rfl⟩ | cases hx
theorem xstep_le {ins : Instr} {r1 r2 pc : Nat} {L : xL} {st : List Value} {h : xS} {f : xF} (hx : xstep ins r1 r2 pc L st h = some f) : xle h f.2.2.2 := by
  unfold xstep at hx
  split at hx
  · cases hx; exact xle.rfl
  · split at hx
    · cases hx; exact xle.rfl
    · split at hx
      · cases hx; exact xle.rfl
      · split at hx
        · rename_i q hq
          cases hx
          have := xhp_pl (st' := q.1) (h1 := q.2) hq
          unfold xle
          rw [this]
          exact xle.rfl
        · split at hx
          · rename_i q hq
            cases hx
            have := xal_pl (st' := q.1) (h1 := q.2.1) (ds := q.2.2) hq
            unfold xle
            rw [this.1, this.2]
            exact ⟨by omega, by omega⟩
          · cases hx
theorem ex_le : ∀ {n d i pc : Nat} {L : xL} {st : List Value} {h : xS} {r : Option Value × xS}, ex n d i pc L st h = some r → xle h r.2
  | 0, _, _, _, _, _, _, _, H => by simp [ex] at H
  | n + 1, d, i, pc, L, st, h, r, H => by
    obtain ⟨x, -, hr | ⟨j, d', q, -, -, -, -, -, h1, h2⟩ | ⟨q, hq, -, -, h2⟩ | ⟨q, hq, -, -, h2⟩ | ⟨f, hf, h2⟩⟩ := ex_inv H
    · have : r.2 = h := by
        unfold xret at hr
        repeat' split at hr
        all_goals first | cases hr; rfl | cases hr
      rw [this]
      exact xle.rfl
    · exact (ex_le h1).trans (ex_le h2)
    · have hp : q.2.2.1 = h.2.1 := by
        unfold xbj at hq
        split at hq
        · split at hq
          · cases hq
          · exact xbi_pl (st' := q.1) (h1 := q.2) hq
        · split at hq
          · exact xbi_pl (st' := q.1) (h1 := q.2) hq
          · cases hq
        · cases hq
      have := ex_le h2
      unfold xle at this ⊢
      rw [hp] at this
      exact this
    · have hp : q.2.2.1.2.1 = h.2.1.2.1 + xcT ∧ q.2.2.1.2.2 = h.2.1.2.2 + xsT := by
        unfold xbt at hq
        split at hq
        · split at hq
          · exact xtr_pl (st' := q.1) (h1 := q.2) hq
          · cases hq
        · cases hq
      have := ex_le h2
      unfold xle at this ⊢
      omega
    · exact (xstep_le hf).trans (ex_le h2)
