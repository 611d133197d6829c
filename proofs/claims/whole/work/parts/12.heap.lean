/-! THE LIGHT MACHINE'S HEAP -/
def xv (h : xS) (a k : Nat) : Value := if xft (h.1 a).1 k = 1 then .long (h.2.2.2.1 a k) else if xft (h.1 a).1 k = 3 then va_rf (h.2.2.2.2 a k) else .int (h.2.2.1 a k)
def xpf (h : xS) (a k : Nat) (v : Value) : Option xS := match v with
  | .int x => if xft (h.1 a).1 k = 0 ∨ (xft (h.1 a).1 k = 2 ∧ (x = 0 ∨ x = 1)) then some (h.1, h.2.1, xup h.2.2.1 a k x, h.2.2.2) else none
  | .long x => if xft (h.1 a).1 k = 1 then some (h.1, h.2.1, h.2.2.1, xup h.2.2.2.1 a k x, h.2.2.2.2) else none
  | .ref b => if xft (h.1 a).1 k = 3 then some (h.1, h.2.1, h.2.2.1, h.2.2.2.1, xup h.2.2.2.2 a k (some b)) else none
  | _ => none
/-- fields and arrays: r1 is the class's kind (or the cell of a static array), r2 the field -/
def xhp (ins : Instr) (r1 r2 : Nat) (st : List Value) (h : xS) : Option (List Value × xS) := match ins with
  | .getfield _ => match st with
    | .ref a :: r => if xsub r1 (h.1 a).1 = true then some (xv h a r2 :: r, h) else none
    | _ => none
  | .putfield _ => match st with
    | v :: .ref a :: r => if xsub r1 (h.1 a).1 = true then (xpf h a r2 v).map (fun h' => (r, h')) else none
    | _ => none
  | .getstatic _ => some (.ref r1 :: st, h)
  | .iaload => match st with
    | .int i :: .ref a :: r => if ((h.1 a).1 = 100 ∨ (h.1 a).1 = 103) ∧ ¬ (i < 0 ∨ (h.1 a).2 ≤ i.toNatClampNeg) then some (.int (h.2.2.1 a i.toNatClampNeg) :: r, h) else none
    | _ => none
  | .baload => match st with
    | .int i :: .ref a :: r => if (h.1 a).1 = 102 ∧ ¬ (i < 0 ∨ (h.1 a).2 ≤ i.toNatClampNeg) then some (.int (h.2.2.1 a i.toNatClampNeg) :: r, h) else none
    | _ => none
  | .laload => match st with
    | .int i :: .ref a :: r => if (h.1 a).1 = 101 ∧ ¬ (i < 0 ∨ (h.1 a).2 ≤ i.toNatClampNeg) then some (.long (h.2.2.2.1 a i.toNatClampNeg) :: r, h) else none
    | _ => none
  | .iastore => match st with
    | .int x :: .int i :: .ref a :: r => if (h.1 a).1 = 100 ∧ ¬ (i < 0 ∨ (h.1 a).2 ≤ i.toNatClampNeg) then some (r, (h.1, h.2.1, xup h.2.2.1 a i.toNatClampNeg x, h.2.2.2)) else none
    | _ => none
  | .bastore => match st with
    | .int x :: .int i :: .ref a :: r => if ((h.1 a).1 = 102 ∧ (x = 0 ∨ x = 1)) ∧ ¬ (i < 0 ∨ (h.1 a).2 ≤ i.toNatClampNeg) then some (r, (h.1, h.2.1, xup h.2.2.1 a i.toNatClampNeg x, h.2.2.2)) else none
    | _ => none
  | .lastore => match st with
    | .long x :: .int i :: .ref a :: r => if (h.1 a).1 = 101 ∧ ¬ (i < 0 ∨ (h.1 a).2 ≤ i.toNatClampNeg) then some (r, (h.1, h.2.1, h.2.2.1, xup h.2.2.2.1 a i.toNatClampNeg x, h.2.2.2.2)) else none
    | _ => none
  | .arraylength => match st with
    | .ref a :: r => if (h.1 a).1 = 100 ∨ (h.1 a).1 = 103 ∨ (h.1 a).1 = 101 then some (.int (Int32.ofNat (h.1 a).2) :: r, h) else none
    | _ => none
  | _ => none
/-- cells that are made: the next of the plan -/
def xal (ins : Instr) (r1 : Nat) (st : List Value) (h : xS) : Option (List Value × xS × Nat) := match ins with
  | .newarray t => match st, h.2.1.1 with
    | .int n :: r, a :: pl => if (h.1 a).1 = 0 ∧ ¬ n < 0 ∧ n.toNatClampNeg ≤ 1000000 then match t with
        | .int => some (.ref a :: r, (va_up h.1 a (100, n.toNatClampNeg), (pl, h.2.1.2.1 + 1, h.2.1.2.2 + n.toNatClampNeg), va_up h.2.2.1 a (fun _ => 0), h.2.2.2), n.toNatClampNeg)
        | .long => some (.ref a :: r, (va_up h.1 a (101, n.toNatClampNeg), (pl, h.2.1.2.1 + 1, h.2.1.2.2 + n.toNatClampNeg), h.2.2.1, va_up h.2.2.2.1 a (fun _ => 0), h.2.2.2.2), n.toNatClampNeg)
        | .boolean => some (.ref a :: r, (va_up h.1 a (102, n.toNatClampNeg), (pl, h.2.1.2.1 + 1, h.2.1.2.2 + n.toNatClampNeg), va_up h.2.2.1 a (fun _ => 0), h.2.2.2), n.toNatClampNeg)
        | _ => none
      else none
    | _, _ => none
  | .new _ => match h.2.1.1 with
    | a :: pl => if (h.1 a).1 = 0 ∧ r1 ≠ 0 ∧ r1 < 100 then match xCl[r1 - 1]? with
        | some q => some (.ref a :: st, (va_up h.1 a (r1, q.2.2), (pl, h.2.1.2.1 + 1, h.2.1.2.2 + q.2.2), va_up h.2.2.1 a (fun _ => 0), va_up h.2.2.2.1 a (fun _ => 0), va_up h.2.2.2.2 a (fun _ => none)), q.2.2)
        | none => none
      else none
    | _ => none
  | _ => none
def xown (h : xS) (a : Nat) : Prop := (h.1 a).1 ≠ 0 ∧ (h.1 a).1 ≠ 103
def xcell (D : va_G) (dA : Nat → ClassId) (ad : Nat → Nat) (h : xS) (a : Nat) (H : Heap) : Prop :=
  ((h.1 a).1 = 100 → H[ad a]? = some (arrV (dA 100) (h.1 a).2 (fun j => .int (h.2.2.1 a j)))) ∧
  ((h.1 a).1 = 101 → H[ad a]? = some (arrV (dA 101) (h.1 a).2 (fun j => .long (h.2.2.2.1 a j)))) ∧
  ((h.1 a).1 = 102 → H[ad a]? = some (arrV (dA 102) (h.1 a).2 (fun j => .int (h.2.2.1 a j)))) ∧
  ∀ q, (h.1 a).1 ≠ 0 → xCl[(h.1 a).1 - 1]? = some q → t_OB (ad a) (D.1 ((h.1 a).1 - 1)) q.2.2 (D.2 ((h.1 a).1 - 1)) H (fun k => xsh ad (xv h a k))
def xHO (D : va_G) (dA : Nat → ClassId) (ad : Nat → Nat) (base : Nat) (xe : Nat → Option (Nat × (Nat → Int32))) (h : xS) (H : Heap) : Prop :=
  (∀ a, xown h a → xcell D dA ad h a H ∧ base ≤ ad a ∧ ad a < H.size) ∧
  (∀ a b, xown h a → xown h b → ad a = ad b → a = b) ∧
  (∀ a, (h.1 a).1 = 103 → ∃ n f, xe a = some (n, f) ∧ h.1 a = (103, n) ∧ h.2.2.1 a = f) ∧
  ∀ (j a : Nat), h.2.1.1[j]? = some a → ad a = H.size + j
theorem xcell.congr {D : va_G} {dA : Nat → ClassId} {ad : Nat → Nat} {h h1 : xS} {a : Nat} {H H1 : Heap} (c : xcell D dA ad h a H) (eK : h1.1 a = h.1 a) (eI : h1.2.2.1 a = h.2.2.1 a) (eJ : h1.2.2.2.1 a = h.2.2.2.1 a) (eR : h1.2.2.2.2 a = h.2.2.2.2 a) (eH : H1[ad a]? = H[ad a]?) : xcell D dA ad h1 a H1 := by
  unfold xcell at c ⊢
  have ev : (fun k => xsh ad (xv h1 a k)) = fun k => xsh ad (xv h a k) := by
    funext k
    unfold xv
    rw [eK, eI, eJ, eR]
  rw [eK, eI, eJ, eH, ev]
  exact ⟨c.1, c.2.1, c.2.2.1, fun q h0 hq => (c.2.2.2 q h0 hq).kept eH⟩
/-- one cell changes -/
theorem xHO.put {D : va_G} {dA : Nat → ClassId} {ad : Nat → Nat} {base : Nat} {xe : Nat → Option (Nat × (Nat → Int32))} {h h1 : xS} {H H1 : Heap} (o : xHO D dA ad base xe h H) {a : Nat} (ha : xown h a) (eK : h1.1 = h.1) (eP : h1.2.1 = h.2.1) (eO : ∀ b, b ≠ a → h1.2.2.1 b = h.2.2.1 b ∧ h1.2.2.2.1 b = h.2.2.2.1 b ∧ h1.2.2.2.2 b = h.2.2.2.2 b)
    (z : H1.size = H.size) (oq : ∀ q : Nat, q ≠ ad a → H1[q]? = H[q]?) (hc : xcell D dA ad h1 a H1) : xHO D dA ad base xe h1 H1 := by
  obtain ⟨o1, o2, o3, o4⟩ := o
  refine ⟨fun b hb => ?_, fun b d hb hd => ?_, fun b hb => ?_, fun j b hj => ?_⟩
  · have hb' : xown h b := by unfold xown at hb ⊢; rw [← eK]; exact hb
    obtain ⟨c1, c2, c3⟩ := o1 b hb'
    refine ⟨?_, c2, by rw [z]; exact c3⟩
    by_cases hba : b = a
    · subst hba; exact hc
    · obtain ⟨e1, e2, e3⟩ := eO b hba
      exact c1.congr (by rw [eK]) e1 e2 e3 (oq _ (fun hz => hba (o2 b a hb' ha hz)))
  · unfold xown at hb hd
    rw [eK] at hb hd
    exact o2 b d hb hd
  · rw [eK] at hb ⊢
    obtain ⟨n, f, f1, f2, f3⟩ := o3 b hb
    refine ⟨n, f, f1, f2, ?_⟩
    rw [(eO b (fun hz => ha.2 (by rw [← hz]; exact hb))).1]
    exact f3
  · rw [eP] at hj
    rw [z]
    exact o4 j b hj
theorem xup_ne {α : Type} (f : Nat → Nat → α) {a b : Nat} (k : Nat) (v : α) (h : b ≠ a) : xup f a k v b = f b := va_up_ne _ _ h
theorem xup_at {α : Type} (f : Nat → Nat → α) (a k : Nat) (v : α) (j : Nat) : xup f a k v a j = if j = k then v else f a j := by unfold xup; rw [va_up_self]; rfl
/-- what a field's instruction asks of the words -/
def xGF (own : String) (idx k j : Nat) : Prop := ∃ q : vw_C, k ≠ 0 ∧ k < 100 ∧ xCl[k - 1]? = some q ∧ j < q.2.2 ∧ ∃ ref : String, Jvm.Cond.fieldLink own idx ref (q.2.1 j).2.1 (q.2.1 j).2.2.1 ∈ xG ∧ (ref = (q.2.1 j).1 ∨ Jvm.Cond.sameField ref (q.2.1 j).1 (q.2.1 j).2.1 (q.2.1 j).2.2.1 ∈ xG)
def xPF (own : String) (ini : Bool) (k j : Nat) : Prop := ∀ q : vw_C, xCl[k - 1]? = some q → (q.2.1 j).2.2.2 = false ∨ ((q.2.1 j).2.2.2 = true ∧ ini = true ∧ (q.2.1 j).1 = own)
/-- a static array: its field, and the cell that it is -/
def xST (own : String) (idx k : Nat) (D : Nat → Option (String × String × String)) : Prop := ∃ C n d, D k = some (C, n, d) ∧ Jvm.Cond.fieldLink own idx C n d ∈ xG
def xhw (sd : Nat → Option (String × String × String)) (own : String) (ini : Bool) (ins : Instr) (r1 r2 : Nat) : Prop := match ins with
  | .getfield i => ∀ k, xsub r1 k = true → xGF own i k r2
  | .putfield i => ∀ k, xsub r1 k = true → xGF own i k r2 ∧ xPF own ini k r2
  | .getstatic i => xST own i r1 sd
  | _ => True
abbrev xtys (dA : Nat → ClassId) : List (ClassId × FieldType) := [(dA 100, .int), (dA 101, .long), (dA 102, .boolean)]
/-- what stays true of the tables and of what the run doesn't own -/
def xKK (D : va_G) (dA : Nat → ClassId) (ad : Nat → Nat) (base : Nat) (xe : Nat → Option (Nat × (Nat → Int32))) (sd : Nat → Option (String × String × String)) (s : State) : Prop :=
  va_K D xCl (xtys dA) s ∧ (∀ a n f, xe a = some (n, f) → va_T .int (ad a) n (fun j => .int (f j)) (fun q => base ≤ q) s s.heap) ∧ ∀ k C n d, sd k = some (C, n, d) → va_Z C n d (.ref (ad k)) (fun q => base ≤ q) s s.heap
section XH
variable {p : Program} {l : Launch} {e : Env} {R : Room} {s : State} {m : MethodId} {args : Array Value} {below : List Frame} {meth : Method} {c : Code} {H : Heap} {locs : List Loc} {cells slots : Nat} {Q : State → Prop}
variable {cc : ByteArray} {pc nL : Nat} {ls : Array Slot} {ad : Nat → Nat} {D : va_G} {dA : Nat → ClassId} {base : Nat} {xe : Nat → Option (Nat × (Nat → Int32))} {sd : Nat → Option (String × String × String)} {own : String}
theorem xsh_rf (ad : Nat → Nat) (o : Option Nat) : xsh ad (va_rf o) = va_rf (o.map ad) := by cases o <;> rfl
theorem xgf_ok (S : CallFix p m c cc nL s args xG own) (hK : va_K D xCl (xtys dA) s) {h : xS} (hH : xHO D dA ad base xe h H) {a k idx : Nat} (hw : xGF own idx (h.1 a).1 k) (hd : decode cc pc = .ok (.getfield idx, 3)) {rest : List Value}
    (kk : W p l e R s m args below meth c H locs cells slots Q (F0 m (pc + 3) ls (xsh ad (xv h a k) :: rest))) : W p l e R s m args below meth c H locs cells slots Q (F0 m pc ls (.ref (ad a) :: rest)) := by
  obtain ⟨hexec, hb, -, hown, hts⟩ := S
  obtain ⟨q, hk0, hk1, hq, hj, ref, hl, hs⟩ := hw
  obtain ⟨hin, -, -, -, -, -⟩ := xknow _ q hq
  obtain ⟨⟨-, -, -, co⟩, -, -⟩ := hH.1 a ⟨hk0, by omega⟩
  obtain ⟨cell, q1, q2, q3, q4⟩ := co q hk0 hq
  obtain ⟨hS, hfc, kC, hkC, hkind⟩ := hK.1 _ q hq
  obtain ⟨cf, kf, fi, f, hi, hsl⟩ := hS k hj
  have hsame : ∀ x, s.fieldFound? (q.2.1 k).1 (q.2.1 k).2.1 (q.2.1 k).2.2.1 = some x → s.fieldFound? ref (q.2.1 k).2.1 (q.2.1 k).2.2.1 = some x := by
    rcases hs with hs | hs
    · subst hs; exact fun x hx => hx
    · exact u_same (hts _ hs)
  refine W.getf hexec hb hown (hts _ hl) (hsame _ hi) (u_facts hfc hkC (u_lays hts hin hj) hi).1 q1 (by rw [q3]; exact fun h => by cases h) (v := xsh ad (xv h a k)) ?_ rfl rfl hd kk
  rw [hsl, q4 k hj]
theorem xok_fit {f : FieldType} {n : Nat} (h : xok f n = true) {v : Value} (hv : (n = 0 ∧ ∃ x, v = .int x) ∨ (n = 2 ∧ ∃ x : Int32, v = .int x ∧ (x = 0 ∨ x = 1)) ∨ (n = 1 ∧ ∃ x, v = .long x) ∨ (n = 3 ∧ ∃ x, v = .ref x)) : narrow f v = v ∧ fits f v = true := by
  rcases hv with ⟨rfl, x, rfl⟩ | ⟨rfl, x, rfl, hx⟩ | ⟨rfl, x, rfl⟩ | ⟨rfl, x, rfl⟩
  · cases f <;> simp [xok] at h
    exact ⟨rfl, rfl⟩
  · cases f <;> simp [xok] at h
    rcases hx with rfl | rfl <;> exact ⟨by decide, by decide⟩
  · cases f <;> simp [xok] at h
    exact ⟨rfl, rfl⟩
  · cases f <;> simp [xok] at h
    · exact ⟨rfl, rfl⟩
    · exact ⟨rfl, rfl⟩
theorem xpf_ok (S : CallFix p m c cc nL s args xG own) (hK : va_K D xCl (xtys dA) s) {h h1 : xS} (hH : xHO D dA ad base xe h H) (hS0 : va_S (fun q => base ≤ q) s.heap H locs) {a k idx : Nat} {ini : Bool} (hw : xGF own idx (h.1 a).1 k ∧ xPF own ini (h.1 a).1 k) (hini : ini = true → meth.name = "<init>") (hd : decode cc pc = .ok (.putfield idx, 3)) {v : Value} {rest : List Value} (hx : xpf h a k v = some h1)
    (kk : ∀ H1 locs1, xHO D dA ad base xe h1 H1 → va_S (fun q => base ≤ q) s.heap H1 locs1 → W p l e R s m args below meth c H1 locs1 cells slots Q (F0 m (pc + 3) ls rest)) : W p l e R s m args below meth c H locs cells slots Q (F0 m pc ls (xsh ad v :: .ref (ad a) :: rest)) := by
  obtain ⟨hexec, hb, -, hown, hts⟩ := S
  obtain ⟨⟨q, hk0, hk1, hq, hj, ref, hl, hs⟩, hfin⟩ := hw
  obtain ⟨hin, -, hnm, ty, hty, hok⟩ := xknow _ q hq
  have hoa : xown h a := ⟨hk0, by omega⟩
  obtain ⟨⟨c1, c2, c3, co⟩, hba, -⟩ := hH.1 a hoa
  obtain ⟨cell, q1, q2, q3, q4⟩ := co q hk0 hq
  have hap := va_apart (own := own) hts hin ty hty hnm hK hq
  obtain ⟨hS, hfc, kC, hkC, hkind⟩ := hK.1 _ q hq
  obtain ⟨cf, kf, fi, f, hi, hsl⟩ := hS k hj
  have hsame : ∀ x, s.fieldFound? (q.2.1 k).1 (q.2.1 k).2.1 (q.2.1 k).2.2.1 = some x → s.fieldFound? ref (q.2.1 k).2.1 (q.2.1 k).2.2.1 = some x := by
    rcases hs with hs | hs
    · subst hs; exact fun x hx => hx
    · exact u_same (hts _ hs)
  have hokk := hok k hj
  rw [show (h.1 a).1 - 1 + 1 = (h.1 a).1 by omega] at hokk
  -- the value fits, the new picture is the old one with the value at k
  have key : (narrow (ty k) (xsh ad v) = xsh ad v ∧ fits (ty k) (xsh ad v) = true) ∧ h1.1 = h.1 ∧ h1.2.1 = h.2.1 ∧ (∀ b, b ≠ a → h1.2.2.1 b = h.2.2.1 b ∧ h1.2.2.2.1 b = h.2.2.2.1 b ∧ h1.2.2.2.2 b = h.2.2.2.2 b) ∧ ∀ j, updV (fun k => xsh ad (xv h a k)) k (xsh ad v) j = xsh ad (xv h1 a j) := by
    unfold xpf at hx
    split at hx
    · rename_i x
      split at hx
      · rename_i hc
        cases hx
        refine ⟨xok_fit hokk ?_, rfl, rfl, fun b hb => ⟨xup_ne _ _ _ hb, rfl, rfl⟩, fun j => ?_⟩
        · rcases hc with hc | ⟨hc, hc2⟩
          · exact Or.inl ⟨hc, x, rfl⟩
          · exact Or.inr (Or.inl ⟨hc, x, rfl, hc2⟩)
        · unfold updV xv
          by_cases hjk : j = k
          · subst hjk
            have h1 : xft (h.1 a).1 j ≠ 1 := by rcases hc with hc | ⟨hc, -⟩ <;> omega
            have h3 : xft (h.1 a).1 j ≠ 3 := by rcases hc with hc | ⟨hc, -⟩ <;> omega
            simp [h1, h3, xup_at]
          · simp [hjk, xup_at]
      · cases hx
    · rename_i x
      split at hx
      · rename_i hc
        cases hx
        refine ⟨xok_fit hokk (Or.inr (Or.inr (Or.inl ⟨hc, x, rfl⟩))), rfl, rfl, fun b hb => ⟨rfl, xup_ne _ _ _ hb, rfl⟩, fun j => ?_⟩
        unfold updV xv
        by_cases hjk : j = k
        · subst hjk
          simp [hc, xup_at]
        · simp [hjk, xup_at]
      · cases hx
    · rename_i x
      split at hx
      · rename_i hc
        cases hx
        refine ⟨xok_fit hokk (Or.inr (Or.inr (Or.inr ⟨hc, ad x, rfl⟩))), rfl, rfl, fun b hb => ⟨rfl, rfl, xup_ne _ _ _ hb⟩, fun j => ?_⟩
        unfold updV xv
        by_cases hjk : j = k
        · subst hjk
          simp [hc, xup_at]
          rfl
        · simp [hjk, xup_at]
      · cases hx
    · cases hx
  obtain ⟨⟨hn, hf⟩, eK, eP, eO, eV⟩ := key
  have fin : ∀ H1 : Heap, H1[ad a]? = some (cell.setSlot (D.2 ((h.1 a).1 - 1) k) (xsh ad v)) → H1.size = H.size → (∀ z : Nat, z ≠ ad a → H1[z]? = H[z]?) → W p l e R s m args below meth c H1 (locs ++ [⟨ad a, D.2 ((h.1 a).1 - 1) k⟩]) cells slots Q (F0 m (pc + 3) ls rest) := by
    intro H1 e1 e2 e3
    refine kk H1 _ (hH.put hoa eK eP eO e2 e3 ?_) (hS0.put e2 e3 hba)
    refine ⟨fun hz => ?_, fun hz => ?_, fun hz => ?_, fun r hr0 hr => ?_⟩
    · rw [eK] at hz; omega
    · rw [eK] at hz; omega
    · rw [eK] at hz; omega
    · rw [eK] at hr hr0 ⊢
      cases hq.symm.trans hr
      exact t_OB.to (V := updV (fun k => xsh ad (xv h a k)) k (xsh ad v)) ⟨_, e1, q2, q3, t_set q4 hap hj _⟩ (fun j _ => eV j)
  have hst := (u_facts hfc hkC (u_lays hts hin hj) hi).1
  have hlay := hts _ (hin _ (u_in_lay hj))
  unfold u_lay at hlay
  rcases hfin q hq with hfa | ⟨hfa, hi1, hdecl⟩
  · rw [if_neg (by rw [hfa]; decide)] at hlay
    have h6 := u_store hfc hkC hkind hlay hi (hty k hj) hn hf
    refine W.putK hexec hb (f := f) ⟨hown, hts _ hl, ⟨_, _, _, hsame _ hi⟩, hst⟩ (by rw [q2]; exact h6) q1 q3 (by rw [hsl]; exact k2_hasslot (q4 k hj)) rfl rfl hd fun H' e1 e2 e3 => ?_
    rw [hsl] at e1 ⊢
    exact fin H' e1 e2 e3
  · rw [if_pos hfa] at hlay
    have hcf : m.cls = cf := by
      obtain ⟨_, _, c', _, _, _, -, -, hf', -, -, -, hown2, -⟩ := Cond.laysFinal_spec hlay
      have e1 : c' = cf := by have := hi.symm.trans hf'; simp at this; exact this.1.symm
      rw [hdecl] at hown2
      rw [← e1]; exact Option.some.inj (hown.symm.trans hown2)
    have h6 := u_fits hfc hkC hkind (Or.inr hlay) hi (hty k hj) hn hf
    refine W.putFinK hexec hb hown (hts _ hl) (hsame _ hi) hst hcf (hini hi1) (by rw [q2]; exact h6) q1 q3 (by rw [hsl]; exact k2_hasslot (q4 k hj)) rfl rfl hd fun H' e1 e2 e3 => ?_
    rw [hsl] at e1 ⊢
    exact fin H' e1 e2 e3
end XH
