/-! RUNS WITHOUT FUEL: more fuel, more depth, more locals change nothing -/
def xwk1 : xL → xL → Prop
  | [], [] => True
  | a :: l, b :: l' => (a = none ∨ a = b) ∧ xwk1 l l'
  | _, _ => False
theorem xwk1.refl : ∀ L : xL, xwk1 L L
  | [] => trivial
  | _ :: l => ⟨Or.inr rfl, xwk1.refl l⟩
theorem xwk1.len : ∀ {L L' : xL}, xwk1 L L' → L'.length = L.length
  | [], [], _ => rfl
  | _ :: l, _ :: l', h => by rw [List.length_cons, List.length_cons, xwk1.len h.2]
  | [], _ :: _, h => absurd h id
  | _ :: _, [], h => absurd h id
theorem xwk1.ld : ∀ {L L' : xL} {i : Nat} {v : Value}, xwk1 L L' → xld L i = some v → xld L' i = some v
  | [], [], i, v, _, h => h
  | a :: l, b :: l', 0, v, hw, h => by
    have h2 : a = some v := by simpa [xld] using h
    rcases hw.1 with z | z
    · rw [z] at h2; cases h2
    · rw [← z, h2]; rfl
  | a :: l, b :: l', i + 1, v, hw, h => by
    have := xwk1.ld (i := i) hw.2 (by simpa [xld] using h)
    simpa [xld] using this
  | [], _ :: _, _, _, h, _ => absurd h id
  | _ :: _, [], _, _, h, _ => absurd h id
theorem xwk1.set : ∀ {L L' : xL} (i : Nat) {o o' : Option Value}, xwk1 L L' → (o = none ∨ o = o') → xwk1 (L.set i o) (L'.set i o')
  | [], [], _, _, _, _, _ => trivial
  | _ :: _, _ :: _, 0, _, _, h, ho => ⟨ho, h.2⟩
  | _ :: _, _ :: _, i + 1, _, _, h, ho => ⟨h.1, xwk1.set i h.2 ho⟩
  | [], _ :: _, _, _, _, h, _ => absurd h id
  | _ :: _, [], _, _, _, h, _ => absurd h id
/-- a place whose content isn't known any more -/
theorem xwk1.drop : ∀ {L L' : xL} (i : Nat), xwk1 L L' → xwk1 (L.set i none) L'
  | [], [], _, _ => trivial
  | _ :: _, _ :: _, 0, h => ⟨Or.inl rfl, h.2⟩
  | _ :: _, _ :: _, i + 1, h => ⟨h.1, xwk1.drop i h.2⟩
  | [], _ :: _, _, h => absurd h id
  | _ :: _, [], _, h => absurd h id
theorem xset2 : ∀ (L : xL) (i : Nat) (a b : Option Value), (L.set i a).set i b = L.set i b
  | [], _, _, _ => rfl
  | _ :: _, 0, _, _ => rfl
  | x :: l, i + 1, a, b => by rw [List.set_cons_succ, List.set_cons_succ, List.set_cons_succ, xset2 l i a b]
theorem xwk1.clr {L L' : xL} (i : Nat) (h : xwk1 L L') : xwk1 (xclr L i) (xclr L' i) ∨ ∃ j, i = j + 1 ∧ xld L j = none ∧ xwk1 (xclr L i) ((xclr L' i).set j none) ∧ xwk1 (xclr L i) (xclr L' i) := by
  left
  unfold xclr
  split
  · exact h
  · rename_i j
    cases hL : xld L j with
    | some v =>
      rw [h.ld hL]
      dsimp only
      split
      · exact xwk1.set j h (Or.inl rfl)
      · exact h
    | none =>
      dsimp only
      split
      · rename_i v hv
        split
        · -- L' knows a long there, L nothing: clearing it keeps the order
          have key : ∀ {A B : xL} (j : Nat), xwk1 A B → xld A j = none → xwk1 A (B.set j none) := by
            intro A B j
            induction A generalizing B j with
            | nil => intro hAB _; cases B with
              | nil => trivial
              | cons _ _ => exact absurd hAB id
            | cons a l ih =>
              intro hAB hn
              cases B with
              | nil => exact absurd hAB id
              | cons b l' =>
                cases j with
                | zero =>
                  have : a = none := by simpa [xld] using hn
                  exact ⟨Or.inl this, hAB.2⟩
                | succ j => exact ⟨hAB.1, ih j hAB.2 (by simpa [xld] using hn)⟩
          exact key j h hL
        · exact h
      · exact h
theorem xwk1.st1 {L L' M : xL} {i : Nat} {v : Value} (h : xwk1 L L') (hs : xst1 L i v = some M) : ∃ M', xst1 L' i v = some M' ∧ xwk1 M M' := by
  have hi := xst1_lt hs
  unfold xst1 at hs ⊢
  rw [if_pos hi] at hs
  cases hs
  rw [if_pos (by rw [h.len]; exact hi)]
  rcases h.clr i with hc | ⟨_, _, _, _, hc⟩
  · exact ⟨_, rfl, xwk1.set i hc (Or.inr rfl)⟩
  · exact ⟨_, rfl, xwk1.set i hc (Or.inr rfl)⟩
theorem xwk1.st2 {L L' M : xL} {i : Nat} {v : Value} (h : xwk1 L L') (hs : xst2 L i v = some M) : ∃ M', xst2 L' i v = some M' ∧ xwk1 M M' := by
  have hi := xst2_lt hs
  unfold xst2 at hs ⊢
  rw [if_pos hi] at hs
  cases hs
  rw [if_pos (by rw [h.len]; exact hi)]
  rcases h.clr i with hc | ⟨_, _, _, _, hc⟩
  · exact ⟨_, rfl, xwk1.set _ (xwk1.set i hc (Or.inr rfl)) (Or.inl rfl)⟩
  · exact ⟨_, rfl, xwk1.set _ (xwk1.set i hc (Or.inr rfl)) (Or.inl rfl)⟩
theorem xlo_wk {ins : Instr} {L L' : xL} {st : List Value} {q : xL × List Value} (h : xwk1 L L') (hx : xlo ins L st = some q) : ∃ M', xlo ins L' st = some (M', q.2) ∧ xwk1 q.1 M' := by
  unfold xlo at hx ⊢
  cases ins <;> first | (cases hx; done) | skip
  all_goals dsimp only at hx ⊢
  all_goals first
    | (split at hx
       · rename_i hv
         rw [h.ld hv]
         first
           | (cases hx; exact ⟨_, rfl, h⟩)
           | (obtain ⟨M, hs, he⟩ := Option.map_eq_some_iff.mp hx
              obtain ⟨M', hs', hw⟩ := h.st1 hs
              cases he
              exact ⟨M', by dsimp only; rw [hs']; rfl, hw⟩)
       · cases hx)
    | (split at hx
       · obtain ⟨M, hs, he⟩ := Option.map_eq_some_iff.mp hx
         cases he
         first
           | (obtain ⟨M', hs', hw⟩ := h.st1 hs
              exact ⟨M', by rw [hs']; rfl, hw⟩)
           | (obtain ⟨M', hs', hw⟩ := h.st2 hs
              exact ⟨M', by rw [hs']; rfl, hw⟩)
       · cases hx)
theorem xlo_no {ins : Instr} {L L' : xL} {st : List Value} {q : xL × List Value} (h : xlo ins L' st = some q) (r1 pc r2 : Nat) (hp : xS) : xbr ins r1 pc st = none ∧ xhp ins r1 r2 st hp = none ∧ xal ins r1 st hp = none := by
  cases ins <;> first | (cases h; done) | exact ⟨rfl, rfl, rfl⟩
theorem xstep_wk {ins : Instr} {r1 r2 pc : Nat} {L L' : xL} {st : List Value} {h : xS} {f : xF} (hw : xwk1 L L') (hx : xstep ins r1 r2 pc L st h = some f) : ∃ M', xstep ins r1 r2 pc L' st h = some (f.1, M', f.2.2.1, f.2.2.2) ∧ xwk1 f.2.1 M' := by
  unfold xstep at hx ⊢
  cases ho : xop ins r1 st with
  | some st' =>
    rw [ho] at hx
    cases hx
    exact ⟨L', rfl, hw⟩
  | none =>
    rw [ho] at hx
    dsimp only at hx ⊢
    cases hq : xlo ins L st with
    | some q =>
      rw [hq] at hx
      obtain ⟨M', h1, h2⟩ := xlo_wk hw hq
      rw [h1]
      cases hx
      exact ⟨M', rfl, h2⟩
    | none =>
      rw [hq] at hx
      dsimp only at hx
      cases hl : xlo ins L' st with
      | some q =>
        obtain ⟨z1, z2, z3⟩ := xlo_no (L := L) hl r1 pc r2 h
        rw [z1, z2, z3] at hx
        cases hx
      | none =>
        dsimp only
        cases h1 : xbr ins r1 pc st with
        | some q =>
          rw [h1] at hx
          cases hx
          exact ⟨L', rfl, hw⟩
        | none =>
          rw [h1] at hx
          dsimp only at hx ⊢
          cases h2 : xhp ins r1 r2 st h with
          | some q =>
            rw [h2] at hx
            cases hx
            exact ⟨L', rfl, hw⟩
          | none =>
            rw [h2] at hx
            dsimp only at hx ⊢
            cases h3 : xal ins r1 st h with
            | some q =>
              rw [h3] at hx
              cases hx
              exact ⟨L', rfl, hw⟩
            | none =>
              rw [h3] at hx
              cases hx
theorem ex_up : ∀ {n d i pc : Nat} {L L' : xL} {st : List Value} {h : xS} {r : Option Value × xS} (m e : Nat), ex n d i pc L st h = some r → xwk1 L L' → n ≤ m → d ≤ e → ex m e i pc L' st h = some r
  | 0, _, _, _, _, _, _, _, _, _, _, H, _, _, _ => by simp [ex] at H
  | n + 1, d, i, pc, L, L', st, h, r, m, e, H, hw, hm, he => by
    obtain ⟨m, rfl⟩ : ∃ k, m = k + 1 := ⟨m - 1, by omega⟩
    unfold ex at H ⊢
    cases hx : xat pc (xcode i) with
    | none => rw [hx] at H; cases H
    | some x =>
      rw [hx] at H
      dsimp only at H ⊢
      cases hr : xret i x.1 st h with
      | some r0 => rw [hr] at H; exact H
      | none =>
        rw [hr] at H
        dsimp only at H ⊢
        cases hj : xwho x.1 x.2.2.1 x.2.2.2 st h with
        | some j =>
          rw [hj] at H
          dsimp only at H ⊢
          cases d with
          | zero => cases H
          | succ d' =>
            obtain ⟨e, rfl⟩ : ∃ k, e = k + 1 := ⟨e - 1, by omega⟩
            dsimp only at H ⊢
            by_cases hc : x.2.2.2 ≤ st.length ∧ xsum (st.drop x.2.2.2) ≤ 8 ∧ (xargs (st.take x.2.2.2).reverse).length ≤ xnl j
            · rw [if_pos hc] at H ⊢
              cases hq : ex n d' j 0 (xent (xnl j) (st.take x.2.2.2).reverse) [] h with
              | some q =>
                rw [hq] at H
                rw [ex_up m e hq (xwk1.refl _) (by omega) (by omega)]
                exact ex_up m (e + 1) H hw (by omega) he
              | none => rw [hq] at H; cases H
            · rw [if_neg hc] at H; cases H
        | none =>
          rw [hj] at H
          dsimp only at H ⊢
          cases hq : xbj x.1 x.2.2.1 st h with
          | some q =>
            rw [hq] at H
            dsimp only at H ⊢
            by_cases hc : 1 ≤ d ∧ xsum q.1 ≤ 9
            · rw [if_pos hc] at H
              rw [if_pos ⟨by omega, hc.2⟩]
              exact ex_up m e H hw (by omega) he
            · rw [if_neg hc] at H; cases H
          | none =>
            rw [hq] at H
            dsimp only at H ⊢
            cases hq2 : xbt x.1 x.2.2.1 st h with
            | some q =>
              rw [hq2] at H
              dsimp only at H ⊢
              by_cases hc : 6 ≤ d ∧ xsum q.1 ≤ 9
              · rw [if_pos hc] at H
                rw [if_pos ⟨by omega, hc.2⟩]
                exact ex_up m e H hw (by omega) he
              · rw [if_neg hc] at H; cases H
            | none =>
              rw [hq2] at H
              dsimp only at H ⊢
              cases hf : xstep x.1 x.2.2.1 x.2.2.2 pc L st h with
              | some f =>
                rw [hf] at H
                obtain ⟨M', h1, h2⟩ := xstep_wk hw hf
                rw [h1]
                exact ex_up m e H h2 (by omega) he
              | none => rw [hf] at H; cases H
/-- some fuel is enough -/
def Ev (d i pc : Nat) (L : xL) (st : List Value) (h : xS) (r : Option Value × xS) : Prop := ∃ n, ex n d i pc L st h = some r
theorem Ev.wk {d i pc : Nat} {L L' : xL} {st : List Value} {h : xS} {r : Option Value × xS} (H : Ev d i pc L st h r) (hw : xwk1 L L') : Ev d i pc L' st h r := by
  obtain ⟨n, hn⟩ := H
  exact ⟨n, ex_up n d hn hw (Nat.le_refl _) (Nat.le_refl _)⟩
theorem Ev.dp {d e i pc : Nat} {L : xL} {st : List Value} {h : xS} {r : Option Value × xS} (H : Ev d i pc L st h r) (hd : d ≤ e) : Ev e i pc L st h r := by
  obtain ⟨n, hn⟩ := H
  exact ⟨n, ex_up n e hn (xwk1.refl _) (Nat.le_refl _) hd⟩
theorem Ev.ret {d i pc : Nat} {L : xL} {st : List Value} {h : xS} {r : Option Value × xS} {x : xI} (hx : xat pc (xcode i) = some x) (hr : xret i x.1 st h = some r) : Ev d i pc L st h r := ⟨1, by unfold ex; rw [hx]; dsimp only; rw [hr]⟩
theorem Ev.step {d i pc : Nat} {L : xL} {st : List Value} {h : xS} {r : Option Value × xS} {x : xI} (hx : xat pc (xcode i) = some x) (f : xF) (hf : xstep x.1 x.2.2.1 x.2.2.2 pc L st h = some f) (hp : xret i x.1 st h = none ∧ xwho x.1 x.2.2.1 x.2.2.2 st h = none ∧ xbj x.1 x.2.2.1 st h = none ∧ xbt x.1 x.2.2.1 st h = none) (k : Ev d i f.1 f.2.1 f.2.2.1 f.2.2.2 r) : Ev d i pc L st h r := by
  obtain ⟨n, hn⟩ := k
  obtain ⟨p1, p2, p3, p4⟩ := hp
  refine ⟨n + 1, ?_⟩
  unfold ex
  rw [hx]
  dsimp only
  rw [p1]
  dsimp only
  rw [p2]
  dsimp only
  rw [p3]
  dsimp only
  rw [p4]
  dsimp only
  rw [hf]
  exact hn
theorem Ev.bi {d i pc : Nat} {L : xL} {st : List Value} {h : xS} {r : Option Value × xS} {x : xI} (hx : xat pc (xcode i) = some x) (q : List Value × xS) (hq : xbj x.1 x.2.2.1 st h = some q) (hp : xret i x.1 st h = none ∧ xwho x.1 x.2.2.1 x.2.2.2 st h = none) (hd : 1 ≤ d) (hs : xsum q.1 ≤ 9) (k : Ev d i (pc + 3) L q.1 q.2 r) : Ev d i pc L st h r := by
  obtain ⟨n, hn⟩ := k
  obtain ⟨p1, p2⟩ := hp
  refine ⟨n + 1, ?_⟩
  unfold ex
  rw [hx]
  dsimp only
  rw [p1]
  dsimp only
  rw [p2]
  dsimp only
  rw [hq]
  dsimp only
  rw [if_pos ⟨hd, hs⟩]
  exact hn
theorem Ev.tr {d i pc : Nat} {L : xL} {st : List Value} {h : xS} {r : Option Value × xS} {x : xI} (hx : xat pc (xcode i) = some x) (q : List Value × xS) (hq : xbt x.1 x.2.2.1 st h = some q) (hp : xret i x.1 st h = none ∧ xwho x.1 x.2.2.1 x.2.2.2 st h = none ∧ xbj x.1 x.2.2.1 st h = none) (hd : 6 ≤ d) (hs : xsum q.1 ≤ 9) (k : Ev d i (pc + 3) L q.1 q.2 r) : Ev d i pc L st h r := by
  obtain ⟨n, hn⟩ := k
  obtain ⟨p1, p2, p3⟩ := hp
  refine ⟨n + 1, ?_⟩
  unfold ex
  rw [hx]
  dsimp only
  rw [p1]
  dsimp only
  rw [p2]
  dsimp only
  rw [p3]
  dsimp only
  rw [hq]
  dsimp only
  rw [if_pos ⟨hd, hs⟩]
  exact hn
theorem Ev.call {d i pc : Nat} {L : xL} {st : List Value} {h : xS} {r : Option Value × xS} {x : xI} (hx : xat pc (xcode i) = some x) (j : Nat) (hj : xwho x.1 x.2.2.1 x.2.2.2 st h = some j) (hp : xret i x.1 st h = none) (hc : x.2.2.2 ≤ st.length ∧ xsum (st.drop x.2.2.2) ≤ 8 ∧ (xargs (st.take x.2.2.2).reverse).length ≤ xnl j) {q : Option Value × xS} (hq : Ev d j 0 (xent (xnl j) (st.take x.2.2.2).reverse) [] h q) (k : Ev (d + 1) i (pc + 3) L (q.1.toList ++ st.drop x.2.2.2) q.2 r) : Ev (d + 1) i pc L st h r := by
  obtain ⟨n, hn⟩ := k
  obtain ⟨n', hn'⟩ := hq
  refine ⟨(n + n') + 1, ?_⟩
  unfold ex
  rw [hx]
  dsimp only
  rw [hp]
  dsimp only
  rw [hj]
  dsimp only
  rw [if_pos hc, ex_up (n + n') d hn' (xwk1.refl _) (by omega) (Nat.le_refl _)]
  exact ex_up (n + n') (d + 1) hn (xwk1.refl _) (by omega) (Nat.le_refl _)
