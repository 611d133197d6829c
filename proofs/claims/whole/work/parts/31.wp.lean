/-! WHAT MUST HOLD BEFORE, so that a run ends with Q: a row an instruction -/
def Wp (d i pc : Nat) (L : xL) (st : List Value) (h : xS) (Q : Option Value × xS → Prop) : Prop := ∃ r, Ev d i pc L st h r ∧ Q r
theorem Wp.mono {d i pc : Nat} {L : xL} {st : List Value} {h : xS} {Q Q' : Option Value × xS → Prop} (H : Wp d i pc L st h Q) (k : ∀ r, Q r → Q' r) : Wp d i pc L st h Q' := by
  obtain ⟨r, h1, h2⟩ := H
  exact ⟨r, h1, k r h2⟩
theorem Wp.wk {d i pc : Nat} {L L' : xL} {st : List Value} {h : xS} {Q : Option Value × xS → Prop} (hw : xwk1 L L') (H : Wp d i pc L st h Q) : Wp d i pc L' st h Q := by
  obtain ⟨r, h1, h2⟩ := H
  exact ⟨r, h1.wk hw, h2⟩
theorem Wp.dp {d e i pc : Nat} {L : xL} {st : List Value} {h : xS} {Q : Option Value × xS → Prop} (hd : d ≤ e) (H : Wp d i pc L st h Q) : Wp e i pc L st h Q := by
  obtain ⟨r, h1, h2⟩ := H
  exact ⟨r, h1.dp hd, h2⟩
section WP
variable {d i pc : Nat} {L : xL} {st : List Value} {Q : Option Value × xS → Prop} {K : Nat → Nat × Nat} {P : List Nat × Nat × Nat} {I : Nat → Nat → Int32} {J : Nat → Nat → Int64} {F : Nat → Nat → Option Nat}
theorem Wp.ret {h : xS} {x : xI} (hx : xat pc (xcode i) = some x) {r : Option Value × xS} (hr : xret i x.1 st h = some r) (k : Q r) : Wp d i pc L st h Q := ⟨r, Ev.ret hx hr, k⟩
theorem Wp.go {h : xS} {x : xI} (hx : xat pc (xcode i) = some x) (pc' : Nat) (L' : xL) (st' : List Value) (hf : xstep x.1 x.2.2.1 x.2.2.2 pc L st h = some (pc', L', st', h)) (hp : xret i x.1 st h = none ∧ xwho x.1 x.2.2.1 x.2.2.2 st h = none ∧ xbj x.1 x.2.2.1 st h = none ∧ xbt x.1 x.2.2.1 st h = none) (k : Wp d i pc' L' st' h Q) : Wp d i pc L st h Q := by
  obtain ⟨r, h1, h2⟩ := k
  exact ⟨r, Ev.step hx _ hf hp h1, h2⟩
/-- any step that isn't a call: the new store too -/
theorem Wp.sh {h h' : xS} {x : xI} (hx : xat pc (xcode i) = some x) {pc' : Nat} {st' : List Value} (hf : xstep x.1 x.2.2.1 x.2.2.2 pc L st h = some (pc', L, st', h')) (hp : xret i x.1 st h = none ∧ xwho x.1 x.2.2.1 x.2.2.2 st h = none ∧ xbj x.1 x.2.2.1 st h = none ∧ xbt x.1 x.2.2.1 st h = none) (k : Wp d i pc' L st' h' Q) : Wp d i pc L st h Q := by
  obtain ⟨r, h1, h2⟩ := k
  exact ⟨r, Ev.step hx _ hf hp h1, h2⟩
theorem Wp.icmp {h : xS} {c : Jvm.ClassFile.Cond} {off : Int} {r1 r2 : Nat} {x y : Int32} (hx : xat pc (xcode i) = some (.if_icmp c off, 3, r1, r2)) (k : (xcmp c x y = true → Wp d i r1 L st h Q) ∧ (¬ xcmp c x y = true → Wp d i (pc + 3) L st h Q)) : Wp d i pc L (.int y :: .int x :: st) h Q := by
  by_cases hc : xcmp c x y = true
  · obtain ⟨r, h1, h2⟩ := k.1 hc
    exact ⟨r, Ev.step hx (r1, L, st, h) (by show some (if xcmp c x y = true then r1 else pc + 3, L, st, h) = _; rw [if_pos hc]) ⟨rfl, rfl, rfl, rfl⟩ h1, h2⟩
  · obtain ⟨r, h1, h2⟩ := k.2 hc
    exact ⟨r, Ev.step hx (pc + 3, L, st, h) (by show some (if xcmp c x y = true then r1 else pc + 3, L, st, h) = _; rw [if_neg hc]) ⟨rfl, rfl, rfl, rfl⟩ h1, h2⟩
theorem Wp.ifz {h : xS} {c : Jvm.ClassFile.Cond} {off : Int} {r1 r2 : Nat} {x : Int32} (hx : xat pc (xcode i) = some (.ifCond c off, 3, r1, r2)) (k : (xcmp c x 0 = true → Wp d i r1 L st h Q) ∧ (¬ xcmp c x 0 = true → Wp d i (pc + 3) L st h Q)) : Wp d i pc L (.int x :: st) h Q := by
  by_cases hc : xcmp c x 0 = true
  · obtain ⟨r, h1, h2⟩ := k.1 hc
    exact ⟨r, Ev.step hx (r1, L, st, h) (by show some (if xcmp c x 0 = true then r1 else pc + 3, L, st, h) = _; rw [if_pos hc]) ⟨rfl, rfl, rfl, rfl⟩ h1, h2⟩
  · obtain ⟨r, h1, h2⟩ := k.2 hc
    exact ⟨r, Ev.step hx (pc + 3, L, st, h) (by show some (if xcmp c x 0 = true then r1 else pc + 3, L, st, h) = _; rw [if_neg hc]) ⟨rfl, rfl, rfl, rfl⟩ h1, h2⟩
theorem Wp.c_lt {h : xS} {off : Int} {r1 r2 pc' : Nat} {x y : Int32} (hx : xat pc (xcode i) = some (.if_icmp .lt off, 3, r1, r2)) (hp : pc + 3 = pc') (k : (x < y → Wp d i r1 L st h Q) ∧ (¬ x < y → Wp d i pc' L st h Q)) : Wp d i pc L (.int y :: .int x :: st) h Q := by
  subst hp; exact Wp.icmp hx (by simpa only [xcmp, decide_eq_true_eq] using k)
theorem Wp.c_ge {h : xS} {off : Int} {r1 r2 pc' : Nat} {x y : Int32} (hx : xat pc (xcode i) = some (.if_icmp .ge off, 3, r1, r2)) (hp : pc + 3 = pc') (k : (y ≤ x → Wp d i r1 L st h Q) ∧ (¬ y ≤ x → Wp d i pc' L st h Q)) : Wp d i pc L (.int y :: .int x :: st) h Q := by
  subst hp; exact Wp.icmp hx (by simpa only [xcmp, decide_eq_true_eq] using k)
theorem Wp.c_gt {h : xS} {off : Int} {r1 r2 pc' : Nat} {x y : Int32} (hx : xat pc (xcode i) = some (.if_icmp .gt off, 3, r1, r2)) (hp : pc + 3 = pc') (k : (y < x → Wp d i r1 L st h Q) ∧ (¬ y < x → Wp d i pc' L st h Q)) : Wp d i pc L (.int y :: .int x :: st) h Q := by
  subst hp; exact Wp.icmp hx (by simpa only [xcmp, decide_eq_true_eq] using k)
theorem Wp.c_le {h : xS} {off : Int} {r1 r2 pc' : Nat} {x y : Int32} (hx : xat pc (xcode i) = some (.if_icmp .le off, 3, r1, r2)) (hp : pc + 3 = pc') (k : (x ≤ y → Wp d i r1 L st h Q) ∧ (¬ x ≤ y → Wp d i pc' L st h Q)) : Wp d i pc L (.int y :: .int x :: st) h Q := by
  subst hp; exact Wp.icmp hx (by simpa only [xcmp, decide_eq_true_eq] using k)
theorem Wp.c_eq {h : xS} {off : Int} {r1 r2 pc' : Nat} {x y : Int32} (hx : xat pc (xcode i) = some (.if_icmp .eq off, 3, r1, r2)) (hp : pc + 3 = pc') (k : (x = y → Wp d i r1 L st h Q) ∧ (¬ x = y → Wp d i pc' L st h Q)) : Wp d i pc L (.int y :: .int x :: st) h Q := by
  subst hp; exact Wp.icmp hx (by simpa only [xcmp, decide_eq_true_eq] using k)
theorem Wp.c_ne {h : xS} {off : Int} {r1 r2 pc' : Nat} {x y : Int32} (hx : xat pc (xcode i) = some (.if_icmp .ne off, 3, r1, r2)) (hp : pc + 3 = pc') (k : (¬ x = y → Wp d i r1 L st h Q) ∧ (x = y → Wp d i pc' L st h Q)) : Wp d i pc L (.int y :: .int x :: st) h Q := by
  subst hp; exact Wp.icmp hx ⟨fun z => k.1 (by simpa only [xcmp, decide_eq_true_eq] using z), fun z => k.2 (by simpa only [xcmp, decide_eq_true_eq, Decidable.not_not] using z)⟩
theorem Wp.z_lt {h : xS} {off : Int} {r1 r2 pc' : Nat} {x : Int32} (hx : xat pc (xcode i) = some (.ifCond .lt off, 3, r1, r2)) (hp : pc + 3 = pc') (k : (x < 0 → Wp d i r1 L st h Q) ∧ (¬ x < 0 → Wp d i pc' L st h Q)) : Wp d i pc L (.int x :: st) h Q := by
  subst hp; exact Wp.ifz hx (by simpa only [xcmp, decide_eq_true_eq] using k)
theorem Wp.z_ge {h : xS} {off : Int} {r1 r2 pc' : Nat} {x : Int32} (hx : xat pc (xcode i) = some (.ifCond .ge off, 3, r1, r2)) (hp : pc + 3 = pc') (k : (0 ≤ x → Wp d i r1 L st h Q) ∧ (¬ 0 ≤ x → Wp d i pc' L st h Q)) : Wp d i pc L (.int x :: st) h Q := by
  subst hp; exact Wp.ifz hx (by simpa only [xcmp, decide_eq_true_eq] using k)
theorem Wp.z_gt {h : xS} {off : Int} {r1 r2 pc' : Nat} {x : Int32} (hx : xat pc (xcode i) = some (.ifCond .gt off, 3, r1, r2)) (hp : pc + 3 = pc') (k : (0 < x → Wp d i r1 L st h Q) ∧ (¬ 0 < x → Wp d i pc' L st h Q)) : Wp d i pc L (.int x :: st) h Q := by
  subst hp; exact Wp.ifz hx (by simpa only [xcmp, decide_eq_true_eq] using k)
theorem Wp.z_le {h : xS} {off : Int} {r1 r2 pc' : Nat} {x : Int32} (hx : xat pc (xcode i) = some (.ifCond .le off, 3, r1, r2)) (hp : pc + 3 = pc') (k : (x ≤ 0 → Wp d i r1 L st h Q) ∧ (¬ x ≤ 0 → Wp d i pc' L st h Q)) : Wp d i pc L (.int x :: st) h Q := by
  subst hp; exact Wp.ifz hx (by simpa only [xcmp, decide_eq_true_eq] using k)
theorem Wp.z_eq {h : xS} {off : Int} {r1 r2 pc' : Nat} {x : Int32} (hx : xat pc (xcode i) = some (.ifCond .eq off, 3, r1, r2)) (hp : pc + 3 = pc') (k : (x = 0 → Wp d i r1 L st h Q) ∧ (¬ x = 0 → Wp d i pc' L st h Q)) : Wp d i pc L (.int x :: st) h Q := by
  subst hp; exact Wp.ifz hx (by simpa only [xcmp, decide_eq_true_eq] using k)
theorem Wp.z_ne {h : xS} {off : Int} {r1 r2 pc' : Nat} {x : Int32} (hx : xat pc (xcode i) = some (.ifCond .ne off, 3, r1, r2)) (hp : pc + 3 = pc') (k : (¬ x = 0 → Wp d i r1 L st h Q) ∧ (x = 0 → Wp d i pc' L st h Q)) : Wp d i pc L (.int x :: st) h Q := by
  subst hp; exact Wp.ifz hx ⟨fun z => k.1 (by simpa only [xcmp, decide_eq_true_eq] using z), fun z => k.2 (by simpa only [xcmp, decide_eq_true_eq, Decidable.not_not] using z)⟩
/-- a field that is read: an int or boolean, a long, a reference -/
theorem Wp.gI {idx r1 r2 a kd n pc' : Nat} (hx : xat pc (xcode i) = some (.getfield idx, 3, r1, r2)) (hp : pc + 3 = pc') (hk : K a = (kd, n)) (hs : xsub r1 kd = true) (hf : xft kd r2 ≠ 1 ∧ xft kd r2 ≠ 3) (k : Wp d i pc' L (.int (I a r2) :: st) (K, P, I, J, F) Q) : Wp d i pc L (.ref a :: st) (K, P, I, J, F) Q := by
  subst hp
  refine Wp.sh hx (st' := .int (I a r2) :: st) (h' := (K, P, I, J, F)) ?_ ⟨rfl, rfl, rfl, rfl⟩ k
  show (match (if xsub r1 (K a).1 = true then some (xv (K, P, I, J, F) a r2 :: st, (K, P, I, J, F)) else none) with | some q => some (pc + 3, L, q.1, q.2) | none => _) = _
  rw [hk, if_pos hs]
  unfold xv
  dsimp only
  have e1 : ¬ xft (K a).1 r2 = 1 := by rw [hk]; exact hf.1
  have e3 : ¬ xft (K a).1 r2 = 3 := by rw [hk]; exact hf.2
  rw [if_neg e1, if_neg e3]
theorem Wp.gJ {idx r1 r2 a kd n pc' : Nat} (hx : xat pc (xcode i) = some (.getfield idx, 3, r1, r2)) (hp : pc + 3 = pc') (hk : K a = (kd, n)) (hs : xsub r1 kd = true) (hf : xft kd r2 = 1) (k : Wp d i pc' L (.long (J a r2) :: st) (K, P, I, J, F) Q) : Wp d i pc L (.ref a :: st) (K, P, I, J, F) Q := by
  subst hp
  refine Wp.sh hx (st' := .long (J a r2) :: st) (h' := (K, P, I, J, F)) ?_ ⟨rfl, rfl, rfl, rfl⟩ k
  show (match (if xsub r1 (K a).1 = true then some (xv (K, P, I, J, F) a r2 :: st, (K, P, I, J, F)) else none) with | some q => some (pc + 3, L, q.1, q.2) | none => _) = _
  rw [hk, if_pos hs]
  unfold xv
  dsimp only
  have e1 : xft (K a).1 r2 = 1 := by rw [hk]; exact hf
  rw [if_pos e1]
theorem Wp.gR {idx r1 r2 a kd n b pc' : Nat} (hx : xat pc (xcode i) = some (.getfield idx, 3, r1, r2)) (hp : pc + 3 = pc') (hk : K a = (kd, n)) (hs : xsub r1 kd = true) (hf : xft kd r2 = 3) (hb : F a r2 = some b) (k : Wp d i pc' L (.ref b :: st) (K, P, I, J, F) Q) : Wp d i pc L (.ref a :: st) (K, P, I, J, F) Q := by
  subst hp
  refine Wp.sh hx (st' := .ref b :: st) (h' := (K, P, I, J, F)) ?_ ⟨rfl, rfl, rfl, rfl⟩ k
  show (match (if xsub r1 (K a).1 = true then some (xv (K, P, I, J, F) a r2 :: st, (K, P, I, J, F)) else none) with | some q => some (pc + 3, L, q.1, q.2) | none => _) = _
  rw [hk, if_pos hs]
  unfold xv
  dsimp only
  have e3 : xft (K a).1 r2 = 3 := by rw [hk]; exact hf
  have e1 : ¬ xft (K a).1 r2 = 1 := by rw [e3]; decide
  rw [if_neg e1, if_pos e3, hb]
  rfl
theorem Wp.pI {idx r1 r2 a kd n pc' : Nat} {x : Int32} (hx : xat pc (xcode i) = some (.putfield idx, 3, r1, r2)) (hp : pc + 3 = pc') (hk : K a = (kd, n)) (hs : xsub r1 kd = true) (hf : xft kd r2 = 0 ∨ (xft kd r2 = 2 ∧ (x = 0 ∨ x = 1))) (k : Wp d i pc' L st (K, P, xup I a r2 x, J, F) Q) : Wp d i pc L (.int x :: .ref a :: st) (K, P, I, J, F) Q := by
  subst hp
  refine Wp.sh hx (st' := st) (h' := (K, P, xup I a r2 x, J, F)) ?_ ⟨rfl, rfl, rfl, rfl⟩ k
  show (match (if xsub r1 (K a).1 = true then (xpf (K, P, I, J, F) a r2 (.int x)).map (fun h' => (st, h')) else none) with | some q => some (pc + 3, L, q.1, q.2) | none => _) = _
  rw [hk, if_pos hs]
  unfold xpf
  dsimp only
  have e1 : xft (K a).1 r2 = 0 ∨ (xft (K a).1 r2 = 2 ∧ (x = 0 ∨ x = 1)) := by rw [hk]; exact hf
  rw [if_pos e1]
  rfl
theorem Wp.pJ {idx r1 r2 a kd n pc' : Nat} {x : Int64} (hx : xat pc (xcode i) = some (.putfield idx, 3, r1, r2)) (hp : pc + 3 = pc') (hk : K a = (kd, n)) (hs : xsub r1 kd = true) (hf : xft kd r2 = 1) (k : Wp d i pc' L st (K, P, I, xup J a r2 x, F) Q) : Wp d i pc L (.long x :: .ref a :: st) (K, P, I, J, F) Q := by
  subst hp
  refine Wp.sh hx (st' := st) (h' := (K, P, I, xup J a r2 x, F)) ?_ ⟨rfl, rfl, rfl, rfl⟩ k
  show (match (if xsub r1 (K a).1 = true then (xpf (K, P, I, J, F) a r2 (.long x)).map (fun h' => (st, h')) else none) with | some q => some (pc + 3, L, q.1, q.2) | none => _) = _
  rw [hk, if_pos hs]
  unfold xpf
  dsimp only
  have e1 : xft (K a).1 r2 = 1 := by rw [hk]; exact hf
  rw [if_pos e1]
  rfl
theorem Wp.pR {idx r1 r2 a kd n b pc' : Nat} (hx : xat pc (xcode i) = some (.putfield idx, 3, r1, r2)) (hp : pc + 3 = pc') (hk : K a = (kd, n)) (hs : xsub r1 kd = true) (hf : xft kd r2 = 3) (k : Wp d i pc' L st (K, P, I, J, xup F a r2 (some b)) Q) : Wp d i pc L (.ref b :: .ref a :: st) (K, P, I, J, F) Q := by
  subst hp
  refine Wp.sh hx (st' := st) (h' := (K, P, I, J, xup F a r2 (some b))) ?_ ⟨rfl, rfl, rfl, rfl⟩ k
  show (match (if xsub r1 (K a).1 = true then (xpf (K, P, I, J, F) a r2 (.ref b)).map (fun h' => (st, h')) else none) with | some q => some (pc + 3, L, q.1, q.2) | none => _) = _
  rw [hk, if_pos hs]
  unfold xpf
  dsimp only
  have e1 : xft (K a).1 r2 = 3 := by rw [hk]; exact hf
  rw [if_pos e1]
  rfl
theorem xin_n {x : Int32} {k n : Nat} (e : x = nI k) (h : k < n) (hn : n < 2147483648) : ¬ (x < 0 ∨ n ≤ x.toNatClampNeg) ∧ x.toNatClampNeg = k := by
  subst e
  have hk : k < 2 ^ 31 := by omega
  refine ⟨nI_in h (by omega), nI_clamp hk⟩
/-- an int array that is read at place k -/
theorem Wp.ald {a n pc' : Nat} {x : Int32} (hx : xat pc (xcode i) = some (.iaload, 1, 0, 0)) (hp : pc + 1 = pc') {kd : Nat} (hk : K a = (kd, n)) (hkd : kd = 100 ∨ kd = 103) (hn : n < 2147483648) (k : ∃ j : Nat, x = nI j ∧ j < n ∧ Wp d i pc' L (.int (I a j) :: st) (K, P, I, J, F) Q) : Wp d i pc L (.int x :: .ref a :: st) (K, P, I, J, F) Q := by
  subst hp
  obtain ⟨j, e, hj, k⟩ := k
  obtain ⟨h1, h2⟩ := xin_n e hj hn
  refine Wp.sh hx (st' := .int (I a j) :: st) (h' := (K, P, I, J, F)) ?_ ⟨rfl, rfl, rfl, rfl⟩ k
  show (match (if ((K a).1 = 100 ∨ (K a).1 = 103) ∧ ¬ (x < 0 ∨ (K a).2 ≤ x.toNatClampNeg) then some (.int (I a x.toNatClampNeg) :: st, (K, P, I, J, F)) else none) with | some q => some (pc + 1, L, q.1, q.2) | none => _) = _
  rw [hk, if_pos ⟨hkd, h1⟩, h2]
theorem Wp.bld {a n pc' : Nat} {x : Int32} (hx : xat pc (xcode i) = some (.baload, 1, 0, 0)) (hp : pc + 1 = pc') (hk : K a = (102, n)) (hn : n < 2147483648) (k : ∃ j : Nat, x = nI j ∧ j < n ∧ Wp d i pc' L (.int (I a j) :: st) (K, P, I, J, F) Q) : Wp d i pc L (.int x :: .ref a :: st) (K, P, I, J, F) Q := by
  subst hp
  obtain ⟨j, e, hj, k⟩ := k
  obtain ⟨h1, h2⟩ := xin_n e hj hn
  refine Wp.sh hx (st' := .int (I a j) :: st) (h' := (K, P, I, J, F)) ?_ ⟨rfl, rfl, rfl, rfl⟩ k
  show (match (if (K a).1 = 102 ∧ ¬ (x < 0 ∨ (K a).2 ≤ x.toNatClampNeg) then some (.int (I a x.toNatClampNeg) :: st, (K, P, I, J, F)) else none) with | some q => some (pc + 1, L, q.1, q.2) | none => _) = _
  rw [hk, if_pos ⟨rfl, h1⟩, h2]
theorem Wp.lld {a n pc' : Nat} {x : Int32} (hx : xat pc (xcode i) = some (.laload, 1, 0, 0)) (hp : pc + 1 = pc') (hk : K a = (101, n)) (hn : n < 2147483648) (k : ∃ j : Nat, x = nI j ∧ j < n ∧ Wp d i pc' L (.long (J a j) :: st) (K, P, I, J, F) Q) : Wp d i pc L (.int x :: .ref a :: st) (K, P, I, J, F) Q := by
  subst hp
  obtain ⟨j, e, hj, k⟩ := k
  obtain ⟨h1, h2⟩ := xin_n e hj hn
  refine Wp.sh hx (st' := .long (J a j) :: st) (h' := (K, P, I, J, F)) ?_ ⟨rfl, rfl, rfl, rfl⟩ k
  show (match (if (K a).1 = 101 ∧ ¬ (x < 0 ∨ (K a).2 ≤ x.toNatClampNeg) then some (.long (J a x.toNatClampNeg) :: st, (K, P, I, J, F)) else none) with | some q => some (pc + 1, L, q.1, q.2) | none => _) = _
  rw [hk, if_pos ⟨rfl, h1⟩, h2]
theorem Wp.ast {a n pc' : Nat} {x v : Int32} (hx : xat pc (xcode i) = some (.iastore, 1, 0, 0)) (hp : pc + 1 = pc') (hk : K a = (100, n)) (hn : n < 2147483648) (k : ∃ j : Nat, x = nI j ∧ j < n ∧ Wp d i pc' L st (K, P, xup I a j v, J, F) Q) : Wp d i pc L (.int v :: .int x :: .ref a :: st) (K, P, I, J, F) Q := by
  subst hp
  obtain ⟨j, e, hj, k⟩ := k
  obtain ⟨h1, h2⟩ := xin_n e hj hn
  refine Wp.sh hx (st' := st) (h' := (K, P, xup I a j v, J, F)) ?_ ⟨rfl, rfl, rfl, rfl⟩ k
  show (match (if (K a).1 = 100 ∧ ¬ (x < 0 ∨ (K a).2 ≤ x.toNatClampNeg) then some (st, (K, P, xup I a x.toNatClampNeg v, J, F)) else none) with | some q => some (pc + 1, L, q.1, q.2) | none => _) = _
  rw [hk, if_pos ⟨rfl, h1⟩, h2]
theorem Wp.bst {a n pc' : Nat} {x v : Int32} (hx : xat pc (xcode i) = some (.bastore, 1, 0, 0)) (hp : pc + 1 = pc') (hk : K a = (102, n)) (hn : n < 2147483648) (hv : v = 0 ∨ v = 1) (k : ∃ j : Nat, x = nI j ∧ j < n ∧ Wp d i pc' L st (K, P, xup I a j v, J, F) Q) : Wp d i pc L (.int v :: .int x :: .ref a :: st) (K, P, I, J, F) Q := by
  subst hp
  obtain ⟨j, e, hj, k⟩ := k
  obtain ⟨h1, h2⟩ := xin_n e hj hn
  refine Wp.sh hx (st' := st) (h' := (K, P, xup I a j v, J, F)) ?_ ⟨rfl, rfl, rfl, rfl⟩ k
  show (match (if ((K a).1 = 102 ∧ (v = 0 ∨ v = 1)) ∧ ¬ (x < 0 ∨ (K a).2 ≤ x.toNatClampNeg) then some (st, (K, P, xup I a x.toNatClampNeg v, J, F)) else none) with | some q => some (pc + 1, L, q.1, q.2) | none => _) = _
  rw [hk, if_pos ⟨⟨rfl, hv⟩, h1⟩, h2]
theorem Wp.lst {a n pc' : Nat} {x : Int32} {v : Int64} (hx : xat pc (xcode i) = some (.lastore, 1, 0, 0)) (hp : pc + 1 = pc') (hk : K a = (101, n)) (hn : n < 2147483648) (k : ∃ j : Nat, x = nI j ∧ j < n ∧ Wp d i pc' L st (K, P, I, xup J a j v, F) Q) : Wp d i pc L (.long v :: .int x :: .ref a :: st) (K, P, I, J, F) Q := by
  subst hp
  obtain ⟨j, e, hj, k⟩ := k
  obtain ⟨h1, h2⟩ := xin_n e hj hn
  refine Wp.sh hx (st' := st) (h' := (K, P, I, xup J a j v, F)) ?_ ⟨rfl, rfl, rfl, rfl⟩ k
  show (match (if (K a).1 = 101 ∧ ¬ (x < 0 ∨ (K a).2 ≤ x.toNatClampNeg) then some (st, (K, P, I, xup J a x.toNatClampNeg v, F)) else none) with | some q => some (pc + 1, L, q.1, q.2) | none => _) = _
  rw [hk, if_pos ⟨rfl, h1⟩, h2]
theorem Wp.alen {a n kd pc' : Nat} (hx : xat pc (xcode i) = some (.arraylength, 1, 0, 0)) (hp : pc + 1 = pc') (hk : K a = (kd, n)) (hkd : kd = 100 ∨ kd = 103 ∨ kd = 101) (k : Wp d i pc' L (.int (nI n) :: st) (K, P, I, J, F) Q) : Wp d i pc L (.ref a :: st) (K, P, I, J, F) Q := by
  subst hp
  refine Wp.sh hx (st' := .int (nI n) :: st) (h' := (K, P, I, J, F)) ?_ ⟨rfl, rfl, rfl, rfl⟩ k
  show (match (if (K a).1 = 100 ∨ (K a).1 = 103 ∨ (K a).1 = 101 then some (.int (Int32.ofNat (K a).2) :: st, (K, P, I, J, F)) else none) with | some q => some (pc + 1, L, q.1, q.2) | none => _) = _
  rw [hk, if_pos hkd]
  rfl
theorem Wp.idiv {h : xS} {pc' : Nat} {x y : Int32} (hx : xat pc (xcode i) = some (.idiv, 1, 0, 0)) (hp : pc + 1 = pc') (hy : ¬ y = 0) (k : Wp d i pc' L (.int (x / y) :: st) h Q) : Wp d i pc L (.int y :: .int x :: st) h Q := by
  subst hp
  refine Wp.sh hx (st' := .int (x / y) :: st) (h' := h) ?_ ⟨rfl, rfl, rfl, rfl⟩ k
  show (match (if y = 0 then none else some (Value.int (x / y) :: st)) with | some st' => some (pc + 1, L, st', h) | none => _) = _
  rw [if_neg hy]
theorem Wp.max {h : xS} {idx r2 pc' : Nat} {x y : Int32} (hx : xat pc (xcode i) = some (.invokestatic idx, 3, 1000, r2)) (hp : pc + 3 = pc') (hd : 1 ≤ d) (hs : xsum (.int 0 :: st) ≤ 9) (k : Wp d i pc' L (.int (if x < y then y else x) :: st) h Q) : Wp d i pc L (.int y :: .int x :: st) h Q := by
  subst hp
  obtain ⟨r, h1, h2⟩ := k
  exact ⟨r, Ev.bi hx (.int (if x < y then y else x) :: st, h) rfl ⟨rfl, rfl⟩ hd hs h1, h2⟩
theorem Wp.min {h : xS} {idx r2 pc' : Nat} {x y : Int32} (hx : xat pc (xcode i) = some (.invokestatic idx, 3, 1001, r2)) (hp : pc + 3 = pc') (hd : 1 ≤ d) (hs : xsum (.int 0 :: st) ≤ 9) (k : Wp d i pc' L (.int (if y < x then y else x) :: st) h Q) : Wp d i pc L (.int y :: .int x :: st) h Q := by
  subst hp
  obtain ⟨r, h1, h2⟩ := k
  exact ⟨r, Ev.bi hx (.int (if y < x then y else x) :: st, h) rfl ⟨rfl, rfl⟩ hd hs h1, h2⟩
/-- calls: what the callee ends with is what goes on -/
theorem Wp.call {h : xS} {x : xI} (hx : xat pc (xcode i) = some x) (j : Nat) (vs rest : List Value) (hj : xwho x.1 x.2.2.1 x.2.2.2 st h = some j) (hp : xret i x.1 st h = none) (hc : x.2.2.2 ≤ st.length ∧ xsum (st.drop x.2.2.2) ≤ 8 ∧ (xargs (st.take x.2.2.2).reverse).length ≤ xnl j) (hvs : (st.take x.2.2.2).reverse = vs) (hrest : st.drop x.2.2.2 = rest) {pc' : Nat} (hpc : pc + 3 = pc') (k : Wp d j 0 (xent (xnl j) vs) [] h (fun q => Wp (d + 1) i pc' L (q.1.toList ++ rest) q.2 Q)) : Wp (d + 1) i pc L st h Q := by
  subst hpc hvs hrest
  obtain ⟨q, h1, r, h2, h3⟩ := k
  exact ⟨r, Ev.call hx j hj hp hc h1 h2, h3⟩
end WP
