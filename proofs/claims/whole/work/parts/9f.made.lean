/-! CELLS THAT ARE MADE: all below b stand, of the references those in D -/
def KP (f L b : Nat) (K : Nat → Nat × Nat) : Prop := ∀ a, K a = if a < b then xK f L a else (0, 0)
def FD (f b : Nat) (D : List (Nat × Nat)) (F : Nat → Nat → Option Nat) : Prop := (∀ q, q ∈ D → q.1 < b) ∧ ∀ a k, F a k = if (a, k) ∈ D then xFr f 41 47 a k else none
section MADE
variable {f L b : Nat} {D : List (Nat × Nat)} {K : Nat → Nat × Nat} {F : Nat → Nat → Option Nat}
theorem KP.at (h : KP f L b K) {a : Nat} {q : Nat × Nat} (ha : a < b) (hq : xK f L a = q) : K a = q := by rw [h a, if_pos ha]; exact hq
theorem KP.no (h : KP f L b K) : K b = (0, 0) := by rw [h b, if_neg (by omega)]
theorem KP.up (h : KP f L b K) {q : Nat × Nat} (hq : xK f L b = q) : KP f L (b + 1) (va_up K b q) := fun a => by
  by_cases e : a = b
  · rw [e, va_up_self, if_pos (by omega), hq]
  · rw [va_up_ne _ _ e, h a]
    by_cases z : a < b
    · rw [if_pos z, if_pos (by omega)]
    · rw [if_neg z, if_neg (by omega)]
theorem KP.skip (h : KP f L b K) (hq : xK f L b = (0, 0)) : KP f L (b + 1) K := fun a => by
  rw [h a]
  by_cases e : a = b
  · rw [e, if_neg (by omega), if_pos (by omega), hq]
  · by_cases z : a < b
    · rw [if_pos z, if_pos (by omega)]
    · rw [if_neg z, if_neg (by omega)]
theorem KP.lt (h : KP f L b K) (hf : f < 3) (hL : L < 2147483648) : ∀ {a k n : Nat}, K a = (k, n) → n < 2147483648 := by
  intro a k n hk
  rw [h a] at hk
  by_cases z : a < b
  · rw [if_pos z] at hk
    exact xK_lt hf hL hk
  · rw [if_neg z] at hk
    cases hk
    decide
theorem FD.at (h : FD f b D F) {a k : Nat} {x : Option Nat} (hm : (a, k) ∈ D) (hx : xFr f 41 47 a k = x) : F a k = x := by rw [h.2 a k, if_pos hm]; exact hx
theorem FD.up (h : FD f b D F) {a k c : Nat} (ha : a < b) (hx : xFr f 41 47 a k = some c) : FD f b ((a, k) :: D) (xup F a k (some c)) := by
  refine ⟨fun q hq => ?_, fun x y => ?_⟩
  · rcases List.mem_cons.mp hq with z | z
    · rw [z]; exact ha
    · exact h.1 q z
  · rw [xup_q]
    by_cases e : x = a ∧ y = k
    · rw [if_pos e, e.1, e.2, if_pos (List.mem_cons_self ..), hx]
    · rw [if_neg e, h.2 x y]
      by_cases z : (x, y) ∈ D
      · rw [if_pos z, if_pos (List.mem_cons_of_mem _ z)]
      · rw [if_neg z, if_neg (fun w => by
          rcases List.mem_cons.mp w with w | w
          · exact e ⟨congrArg Prod.fst w, congrArg Prod.snd w⟩
          · exact z w)]
theorem FD.made (h : FD f b D F) : FD f (b + 1) D (va_up F b (fun _ => none)) := by
  refine ⟨fun q hq => Nat.lt_succ_of_lt (h.1 q hq), fun x y => ?_⟩
  by_cases e : x = b
  · rw [e, va_up_self, if_neg (fun z => Nat.lt_irrefl b (h.1 _ z))]
  · rw [va_up_ne _ _ e]
    exact h.2 x y
theorem FD.mono (h : FD f b D F) {b' : Nat} (hb : b ≤ b') : FD f b' D F := ⟨fun q hq => Nat.lt_of_lt_of_le (h.1 q hq) hb, h.2⟩
variable {d i pc pc' a n1 n2 : Nat} {pl : List Nat} {L' : xL} {st : List Value} {Q : Option Value × xS → Prop} {I : Nat → Nat → Int32} {J : Nat → Nat → Int64}
theorem Wp.cnw {idx r1 r2 nn : Nat} {q : vw_C} (hx : xat pc (xcode i) = some (.new idx, 3, r1, r2)) (hp : pc + 3 = pc') (hK : KP f L a K) (hF : FD f a D F) (hk : xK f L a = (r1, nn)) (hr : r1 ≠ 0 ∧ r1 < 100) (hq : xCl[r1 - 1]? = some q) (hn : q.2.2 = nn) (k : ∀ K' F', KP f L (a + 1) K' → FD f (a + 1) D F' → Wp d i pc' L' (.ref a :: st) (K', (pl, n1 + 1, n2 + nn), va_up I a (fun _ => 0), va_up J a (fun _ => 0), F') Q) : Wp d i pc L' st (K, (a :: pl, n1, n2), I, J, F) Q := by
  subst hp hn
  have hal : xal (.new idx) r1 st (K, (a :: pl, n1, n2), I, J, F) = some (.ref a :: st, (va_up K a (r1, q.2.2), (pl, n1 + 1, n2 + q.2.2), va_up I a (fun _ => 0), va_up J a (fun _ => 0), va_up F a (fun _ => none)), q.2.2) := by
    show (if (K a).1 = 0 ∧ r1 ≠ 0 ∧ r1 < 100 then match xCl[r1 - 1]? with
        | some q => some (Value.ref a :: st, (va_up K a (r1, q.2.2), (pl, n1 + 1, n2 + q.2.2), va_up I a (fun _ => 0), va_up J a (fun _ => 0), va_up F a (fun _ => none)), q.2.2)
        | none => none
      else none) = _
    rw [if_pos ⟨by rw [hK.no], hr⟩, hq]
  refine Wp.sh hx (pc' := pc + 3) (st' := .ref a :: st) (h' := (va_up K a (r1, q.2.2), (pl, n1 + 1, n2 + q.2.2), va_up I a (fun _ => 0), va_up J a (fun _ => 0), va_up F a (fun _ => none))) ?_ ⟨rfl, rfl, rfl, rfl⟩ (k _ _ (hK.up hk) hF.made)
  show (match xal (.new idx) r1 st (K, (a :: pl, n1, n2), I, J, F) with | some q => some (pc + xlen (.new idx), L', q.1, q.2.1) | none => none) = _
  rw [hal]
  rfl
theorem nI_cl {m : Nat} (hm : m ≤ 1000000) : ¬ nI m < 0 ∧ (nI m).toNatClampNeg = m := ⟨nI_pos (by omega), (xin_n (x := nI m) (k := m) (n := m + 1) rfl (by omega) (by omega)).2⟩
theorem Wp.cni {m : Nat} (hx : xat pc (xcode i) = some (.newarray .int, 2, 0, 0)) (hp : pc + 2 = pc') (hK : KP f L a K) (hk : xK f L a = (100, m)) (hm : m ≤ 1000000) (k : ∀ K', KP f L (a + 1) K' → Wp d i pc' L' (.ref a :: st) (K', (pl, n1 + 1, n2 + m), va_up I a (fun _ => 0), J, F) Q) : Wp d i pc L' (.int (nI m) :: st) (K, (a :: pl, n1, n2), I, J, F) Q := by
  subst hp
  have hc := nI_cl hm
  have hal : xal (.newarray .int) 0 (.int (nI m) :: st) (K, (a :: pl, n1, n2), I, J, F) = some (.ref a :: st, (va_up K a (100, m), (pl, n1 + 1, n2 + m), va_up I a (fun _ => 0), J, F), m) := by
    show (if (K a).1 = 0 ∧ ¬ nI m < 0 ∧ (nI m).toNatClampNeg ≤ 1000000 then some (Value.ref a :: st, (va_up K a (100, (nI m).toNatClampNeg), (pl, n1 + 1, n2 + (nI m).toNatClampNeg), va_up I a (fun _ => 0), J, F), (nI m).toNatClampNeg) else none) = _
    rw [hc.2, if_pos ⟨by rw [hK.no], hc.1, hm⟩]
  refine Wp.sh hx (pc' := pc + 2) (st' := .ref a :: st) (h' := (va_up K a (100, m), (pl, n1 + 1, n2 + m), va_up I a (fun _ => 0), J, F)) ?_ ⟨rfl, rfl, rfl, rfl⟩ (k _ (hK.up hk))
  show (match xal (.newarray .int) 0 (.int (nI m) :: st) (K, (a :: pl, n1, n2), I, J, F) with | some q => some (pc + xlen (.newarray .int), L', q.1, q.2.1) | none => none) = _
  rw [hal]
  rfl
theorem Wp.cnl {m : Nat} (hx : xat pc (xcode i) = some (.newarray .long, 2, 0, 0)) (hp : pc + 2 = pc') (hK : KP f L a K) (hk : xK f L a = (101, m)) (hm : m ≤ 1000000) (k : ∀ K', KP f L (a + 1) K' → Wp d i pc' L' (.ref a :: st) (K', (pl, n1 + 1, n2 + m), I, va_up J a (fun _ => 0), F) Q) : Wp d i pc L' (.int (nI m) :: st) (K, (a :: pl, n1, n2), I, J, F) Q := by
  subst hp
  have hc := nI_cl hm
  have hal : xal (.newarray .long) 0 (.int (nI m) :: st) (K, (a :: pl, n1, n2), I, J, F) = some (.ref a :: st, (va_up K a (101, m), (pl, n1 + 1, n2 + m), I, va_up J a (fun _ => 0), F), m) := by
    show (if (K a).1 = 0 ∧ ¬ nI m < 0 ∧ (nI m).toNatClampNeg ≤ 1000000 then some (Value.ref a :: st, (va_up K a (101, (nI m).toNatClampNeg), (pl, n1 + 1, n2 + (nI m).toNatClampNeg), I, va_up J a (fun _ => 0), F), (nI m).toNatClampNeg) else none) = _
    rw [hc.2, if_pos ⟨by rw [hK.no], hc.1, hm⟩]
  refine Wp.sh hx (pc' := pc + 2) (st' := .ref a :: st) (h' := (va_up K a (101, m), (pl, n1 + 1, n2 + m), I, va_up J a (fun _ => 0), F)) ?_ ⟨rfl, rfl, rfl, rfl⟩ (k _ (hK.up hk))
  show (match xal (.newarray .long) 0 (.int (nI m) :: st) (K, (a :: pl, n1, n2), I, J, F) with | some q => some (pc + xlen (.newarray .long), L', q.1, q.2.1) | none => none) = _
  rw [hal]
  rfl
theorem Wp.cnz {m : Nat} (hx : xat pc (xcode i) = some (.newarray .boolean, 2, 0, 0)) (hp : pc + 2 = pc') (hK : KP f L a K) (hk : xK f L a = (102, m)) (hm : m ≤ 1000000) (k : ∀ K', KP f L (a + 1) K' → Wp d i pc' L' (.ref a :: st) (K', (pl, n1 + 1, n2 + m), va_up I a (fun _ => 0), J, F) Q) : Wp d i pc L' (.int (nI m) :: st) (K, (a :: pl, n1, n2), I, J, F) Q := by
  subst hp
  have hc := nI_cl hm
  have hal : xal (.newarray .boolean) 0 (.int (nI m) :: st) (K, (a :: pl, n1, n2), I, J, F) = some (.ref a :: st, (va_up K a (102, m), (pl, n1 + 1, n2 + m), va_up I a (fun _ => 0), J, F), m) := by
    show (if (K a).1 = 0 ∧ ¬ nI m < 0 ∧ (nI m).toNatClampNeg ≤ 1000000 then some (Value.ref a :: st, (va_up K a (102, (nI m).toNatClampNeg), (pl, n1 + 1, n2 + (nI m).toNatClampNeg), va_up I a (fun _ => 0), J, F), (nI m).toNatClampNeg) else none) = _
    rw [hc.2, if_pos ⟨by rw [hK.no], hc.1, hm⟩]
  refine Wp.sh hx (pc' := pc + 2) (st' := .ref a :: st) (h' := (va_up K a (102, m), (pl, n1 + 1, n2 + m), va_up I a (fun _ => 0), J, F)) ?_ ⟨rfl, rfl, rfl, rfl⟩ (k _ (hK.up hk))
  show (match xal (.newarray .boolean) 0 (.int (nI m) :: st) (K, (a :: pl, n1, n2), I, J, F) with | some q => some (pc + xlen (.newarray .boolean), L', q.1, q.2.1) | none => none) = _
  rw [hal]
  rfl
theorem Wp.cpR {idx r1 r2 kd n c : Nat} {P : List Nat × Nat × Nat} (hx : xat pc (xcode i) = some (.putfield idx, 3, r1, r2)) (hp : pc + 3 = pc') (hK : KP f L b K) (hF : FD f b D F) (ha : a < b) (hk : xK f L a = (kd, n)) (hs : xsub r1 kd = true) (hft : xft kd r2 = 3) (hr : xFr f 41 47 a r2 = some c) (k : ∀ F', FD f b ((a, r2) :: D) F' → Wp d i pc' L' st (K, P, I, J, F') Q) : Wp d i pc L' (.ref c :: .ref a :: st) (K, P, I, J, F) Q := Wp.pR hx hp (hK.at ha hk) hs hft (k _ (hF.up ha hr))
end MADE
section MADE2
variable {f L b d i pc pc' a n1 n2 : Nat} {D : List (Nat × Nat)} {K : Nat → Nat × Nat} {F : Nat → Nat → Option Nat} {pl : List Nat} {L' : xL} {st : List Value} {Q : Option Value × xS → Prop} {I : Nat → Nat → Int32} {J : Nat → Nat → Int64}
theorem Wp.mnw {idx r1 r2 nn : Nat} {q : vw_C} (hx : xat pc (xcode i) = some (.new idx, 3, r1, r2)) (hp : pc + 3 = pc') (hK : KP f L a K) (hF : FD f a D F) (hk : xK f L a = (r1, nn)) (hr : r1 ≠ 0 ∧ r1 < 100) (hq : xCl[r1 - 1]? = some q) (hn : q.2.2 = nn) (k : ∀ K' F' I' J', KP f L (a + 1) K' → FD f (a + 1) D F' → (∀ x, x ≠ a → I' x = I x) → (∀ j, I' a j = 0) → Wp d i pc' L' (.ref a :: st) (K', (pl, n1 + 1, n2 + nn), I', J', F') Q) : Wp d i pc L' st (K, (a :: pl, n1, n2), I, J, F) Q := Wp.cnw hx hp hK hF hk hr hq hn (fun K' F' h1 h2 => k K' F' _ _ h1 h2 (fun _ hx => va_up_ne _ _ hx) (fun j => by rw [va_up_self]))
theorem Wp.mni {m : Nat} (hx : xat pc (xcode i) = some (.newarray .int, 2, 0, 0)) (hp : pc + 2 = pc') (hK : KP f L a K) (hk : xK f L a = (100, m)) (hm : m ≤ 1000000) (k : ∀ K' I', KP f L (a + 1) K' → (∀ x, x ≠ a → I' x = I x) → (∀ j, I' a j = 0) → Wp d i pc' L' (.ref a :: st) (K', (pl, n1 + 1, n2 + m), I', J, F) Q) : Wp d i pc L' (.int (nI m) :: st) (K, (a :: pl, n1, n2), I, J, F) Q := Wp.cni hx hp hK hk hm (fun K' h1 => k K' _ h1 (fun _ hx => va_up_ne _ _ hx) (fun j => by rw [va_up_self]))
theorem Wp.mnz {m : Nat} (hx : xat pc (xcode i) = some (.newarray .boolean, 2, 0, 0)) (hp : pc + 2 = pc') (hK : KP f L a K) (hk : xK f L a = (102, m)) (hm : m ≤ 1000000) (k : ∀ K' I', KP f L (a + 1) K' → (∀ x, x ≠ a → I' x = I x) → (∀ j, I' a j = 0) → Wp d i pc' L' (.ref a :: st) (K', (pl, n1 + 1, n2 + m), I', J, F) Q) : Wp d i pc L' (.int (nI m) :: st) (K, (a :: pl, n1, n2), I, J, F) Q := Wp.cnz hx hp hK hk hm (fun K' h1 => k K' _ h1 (fun _ hx => va_up_ne _ _ hx) (fun j => by rw [va_up_self]))
theorem Wp.mnl {m : Nat} (hx : xat pc (xcode i) = some (.newarray .long, 2, 0, 0)) (hp : pc + 2 = pc') (hK : KP f L a K) (hk : xK f L a = (101, m)) (hm : m ≤ 1000000) (k : ∀ K' J', KP f L (a + 1) K' → Wp d i pc' L' (.ref a :: st) (K', (pl, n1 + 1, n2 + m), I, J', F) Q) : Wp d i pc L' (.int (nI m) :: st) (K, (a :: pl, n1, n2), I, J, F) Q := Wp.cnl hx hp hK hk hm (fun K' h1 => k K' _ h1)
theorem Wp.mpI {idx r1 r2 kd n : Nat} {x : Int32} {P : List Nat × Nat × Nat} (hx : xat pc (xcode i) = some (.putfield idx, 3, r1, r2)) (hp : pc + 3 = pc') (hK : KP f L b K) (ha : a < b) (hk : xK f L a = (kd, n)) (hs : xsub r1 kd = true) (hf : xft kd r2 = 0 ∨ (xft kd r2 = 2 ∧ (x = 0 ∨ x = 1))) (k : ∀ I', (∀ y, y ≠ a → I' y = I y) → (∀ j, I' a j = if j = r2 then x else I a j) → Wp d i pc' L' st (K, P, I', J, F) Q) : Wp d i pc L' (.int x :: .ref a :: st) (K, P, I, J, F) Q := Wp.pI hx hp (hK.at ha hk) hs hf (k _ (fun _ hy => xup_ne _ _ _ hy) (fun j => xup_at _ _ _ _ _))
end MADE2
