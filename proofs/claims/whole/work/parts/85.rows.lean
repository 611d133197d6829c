/-! MORE ROWS: switches, calls that change references, the law's trier, cells that are made -/
theorem tsw_out {x : Int32} {m : Nat} {hi : Int} (hm : hi = (m : Int) ∧ m < 2147483648) (h : ∀ k, k ≤ m → ¬ x = nI k) : x.toInt < 0 ∨ hi < x.toInt := by
  by_cases z : x.toInt < 0
  · exact Or.inl z
  · right
    have h1 := Int32.toInt_lt x
    have hk : (nI x.toInt.toNat).toInt = x.toInt := by
      rw [nI_toInt (by omega)]
      omega
    have hx : x = nI x.toInt.toNat := Int32.toInt_inj.mp hk.symm
    by_cases z2 : x.toInt.toNat ≤ m
    · exact absurd hx (h _ z2)
    · omega
section WP4
variable {d i pc pc' : Nat} {L : xL} {st : List Value} {Q : Option Value × xS → Prop} {K : Nat → Nat × Nat} {P : List Nat × Nat × Nat} {I : Nat → Nat → Int32} {J : Nat → Nat → Int64} {F : Nat → Nat → Option Nat}
theorem tsw_d {dflt hi : Int} {offs : Array Int} {r1 t : Nat} {x : Int32} (_h0 : True) (h : x.toInt < 0 ∨ hi < x.toInt) (ht : (pc : Int) + dflt = Int.ofNat t) : xbr (.tableswitch dflt 0 hi offs) r1 pc (.int x :: st) = some (t, st) := by
  show ((if x.toInt < 0 ∨ hi < x.toInt then some dflt else offs[(x.toInt - 0).toNat]?).bind (fun o => match (pc : Int) + o with
      | .ofNat t => some (t, st)
      | _ => none)) = _
  rw [if_pos h, Option.bind_some, ht]
theorem Wp.tsw {h : xS} {dflt lo hi : Int} {offs : Array Int} {ln r1 r2 t : Nat} {x : Int32} (hx : xat pc (xcode i) = some (.tableswitch dflt lo hi offs, ln, r1, r2)) (ht : xbr (.tableswitch dflt lo hi offs) r1 pc (.int x :: st) = some (t, st)) (k : Wp d i t L st h Q) : Wp d i pc L (.int x :: st) h Q := by
  refine Wp.sh hx (st' := st) (h' := h) (pc' := t) ?_ ⟨rfl, rfl, rfl, rfl⟩ k
  show (match xbr (.tableswitch dflt lo hi offs) r1 pc (.int x :: st) with | some q => some (q.1, L, q.2, h) | none => _) = _
  rw [ht]
def xrVF (K : Nat → Nat × Nat) (P : List Nat × Nat × Nat) (R : (Nat → Nat → Int32) → (Nat → Nat → Int64) → (Nat → Nat → Option Nat) → Prop) : Option Value × xS → Prop := fun q => ∃ I1 J1 F1, q = (none, (K, P, I1, J1, F1)) ∧ R I1 J1 F1
def xrJF (K : Nat → Nat × Nat) (P : List Nat × Nat × Nat) (R : Int64 → (Nat → Nat → Int32) → (Nat → Nat → Int64) → (Nat → Nat → Option Nat) → Prop) : Option Value × xS → Prop := fun q => ∃ v I1 J1 F1, q = (some (.long v), (K, P, I1, J1, F1)) ∧ R v I1 J1 F1
theorem Wp.kVF {x : xI} {j : Nat} {vs rest : List Value} {R : (Nat → Nat → Int32) → (Nat → Nat → Int64) → (Nat → Nat → Option Nat) → Prop} (hx : xat pc (xcode i) = some x) (hj : xwho x.1 x.2.2.1 x.2.2.2 st (K, P, I, J, F) = some j) (hp : xret i x.1 st (K, P, I, J, F) = none) (hc : x.2.2.2 ≤ st.length ∧ xsum (st.drop x.2.2.2) ≤ 8 ∧ (xargs (st.take x.2.2.2).reverse).length ≤ xnl j) (hvs : (st.take x.2.2.2).reverse = vs) (hrest : st.drop x.2.2.2 = rest) (hpc : pc + 3 = pc')
    (H : Wp d j 0 (xent (xnl j) vs) [] (K, P, I, J, F) (xrVF K P R)) (k : ∀ I1 J1 F1, R I1 J1 F1 → Wp (d + 1) i pc' L rest (K, P, I1, J1, F1) Q) : Wp (d + 1) i pc L st (K, P, I, J, F) Q := by
  refine Wp.call hx j vs rest hj hp hc hvs hrest hpc (H.mono fun q hq => ?_)
  obtain ⟨I1, J1, F1, rfl, hr⟩ := hq
  exact k I1 J1 F1 hr
theorem Wp.kJF {x : xI} {j : Nat} {vs rest : List Value} {R : Int64 → (Nat → Nat → Int32) → (Nat → Nat → Int64) → (Nat → Nat → Option Nat) → Prop} (hx : xat pc (xcode i) = some x) (hj : xwho x.1 x.2.2.1 x.2.2.2 st (K, P, I, J, F) = some j) (hp : xret i x.1 st (K, P, I, J, F) = none) (hc : x.2.2.2 ≤ st.length ∧ xsum (st.drop x.2.2.2) ≤ 8 ∧ (xargs (st.take x.2.2.2).reverse).length ≤ xnl j) (hvs : (st.take x.2.2.2).reverse = vs) (hrest : st.drop x.2.2.2 = rest) (hpc : pc + 3 = pc')
    (H : Wp d j 0 (xent (xnl j) vs) [] (K, P, I, J, F) (xrJF K P R)) (k : ∀ v I1 J1 F1, R v I1 J1 F1 → Wp (d + 1) i pc' L (.long v :: rest) (K, P, I1, J1, F1) Q) : Wp (d + 1) i pc L st (K, P, I, J, F) Q := by
  refine Wp.call hx j vs rest hj hp hc hvs hrest hpc (H.mono fun q hq => ?_)
  obtain ⟨v, I1, J1, F1, rfl, hr⟩ := hq
  exact k v I1 J1 F1 hr
/-- the law's trier -/
theorem Wp.tri {idx r2 o x t w nx nt nw : Nat} {iv : Int32} (hx : xat pc (xcode i) = some (.invokestatic idx, 3, 1004, r2)) (hp : pc + 3 = pc') (hkx : K x = (9, nx)) (hfx : F x 1 = some t) (hkt : K t = (8, nt)) (hft : F t 2 = some w) (hkw : K w = (100, nw)) (hko : K o = (101, 1)) (hP : P.1 = []) (hd : 6 ≤ d) (hs : xsum (.int 0 :: st) ≤ 9)
    (k : ((iv < 0 ∨ I t 3 ≤ iv) → Wp d i pc' L (.int (nI 1) :: st) (K, (P.1, P.2.1 + xcT, P.2.2 + xsT), I, J, F) Q) ∧ (¬ (iv < 0 ∨ I t 3 ≤ iv) → ∃ j : Nat, iv = nI j ∧ j < nw ∧ Wp d i pc' L (.int (nI 0) :: st) (K, (P.1, P.2.1 + xcT, P.2.2 + xsT), I, xup J o 0 (I w j).toInt64, F) Q)) (hnw : nw < 2147483648) : Wp d i pc L (.ref o :: .int iv :: .ref x :: st) (K, P, I, J, F) Q := by
  subst hp
  have hq0 : xbt (.invokestatic idx) 1004 (.ref o :: .int iv :: .ref x :: st) (K, P, I, J, F) = xtr (.ref o :: .int iv :: .ref x :: st) (K, P, I, J, F) := rfl
  have hq1 : xtr (.ref o :: .int iv :: .ref x :: st) (K, P, I, J, F) = if iv < 0 ∨ I t 3 ≤ iv then some (.int 1 :: st, (K, (P.1, P.2.1 + xcT, P.2.2 + xsT), I, J, F)) else if iv.toNatClampNeg < nw then some (.int 0 :: st, (K, (P.1, P.2.1 + xcT, P.2.2 + xsT), I, xup J o 0 (I w iv.toNatClampNeg).toInt64, F)) else none := by
    show (match F x 1 with
      | some t => match F t 2 with
        | some w => if (K x).1 = 9 ∧ (K t).1 = 8 ∧ (K w).1 = 100 ∧ K o = (101, 1) ∧ P.1 = [] then
            if iv < 0 ∨ I t 3 ≤ iv then some (Value.int 1 :: st, (K, (P.1, P.2.1 + xcT, P.2.2 + xsT), I, J, F))
            else if iv.toNatClampNeg < (K w).2 then some (.int 0 :: st, (K, (P.1, P.2.1 + xcT, P.2.2 + xsT), I, xup J o 0 (I w iv.toNatClampNeg).toInt64, F)) else none
          else none
        | none => none
      | none => none) = _
    rw [hfx]
    dsimp only
    rw [hft]
    dsimp only
    rw [if_pos ⟨by rw [hkx], by rw [hkt], by rw [hkw], hko, hP⟩, hkw]
  by_cases c : iv < 0 ∨ I t 3 ≤ iv
  · obtain ⟨r, h1, h2⟩ := k.1 c
    rw [if_pos c] at hq1
    exact ⟨r, Ev.tr hx _ (hq0.trans hq1) ⟨rfl, rfl, rfl⟩ hd hs h1, h2⟩
  · obtain ⟨j, e, hj, r, h1, h2⟩ := k.2 c
    have hi := xin_n e hj hnw
    rw [if_neg c, hi.2, if_pos hj] at hq1
    exact ⟨r, Ev.tr hx _ (hq0.trans hq1) ⟨rfl, rfl, rfl⟩ hd hs h1, h2⟩
/-- what an array takes over -/
theorem Wp.acp {idx r2 a a0 na n0 m : Nat} (hx : xat pc (xcode i) = some (.invokestatic idx, 3, 1002, r2)) (hp : pc + 3 = pc') (hne : a ≠ a0) (hka : K a = (100, na)) (hk0 : K a0 = (100, n0)) (hm : m < 2147483647) (hma : m ≤ na) (hm0 : m ≤ n0) (hd : 1 ≤ d) (hs : xsum st ≤ 9) (k : Wp d i pc' L st (K, P, va_up I a (va_cpy (I a0) (I a) 0 0 m), J, F) Q) : Wp d i pc L (.int (nI m) :: .int (nI 0) :: .ref a :: .int (nI 0) :: .ref a0 :: st) (K, P, I, J, F) Q := by
  subst hp
  obtain ⟨r, h1, h2⟩ := k
  have hmN : (nI m).toNatClampNeg = m := by
    have := xin_n (x := nI m) (k := m) (n := m + 1) rfl (by omega) (by omega)
    exact this.2
  have hm0' : ¬ nI m < 0 := by
    intro z
    have h5 : (nI m).toInt < (0 : Int32).toInt := Int32.lt_iff_toInt_lt.mp z
    rw [nI_toInt (by omega)] at h5
    have : (0 : Int32).toInt = 0 := rfl
    omega
  have hq : xbj (.invokestatic idx) 1002 (.int (nI m) :: .int (nI 0) :: .ref a :: .int (nI 0) :: .ref a0 :: st) (K, P, I, J, F) = some (st, (K, P, va_up I a (va_cpy (I a0) (I a) 0 0 m), J, F)) := by
    show (if (a ≠ a0 ∧ (K a).1 = 100 ∧ (K a0).1 = 100) ∧ ¬ nI 0 < 0 ∧ ¬ nI 0 < 0 ∧ ¬ nI m < 0 ∧ (nI 0).toNatClampNeg + (nI m).toNatClampNeg ≤ (K a0).2 ∧ (nI 0).toNatClampNeg + (nI m).toNatClampNeg ≤ (K a).2 then some (st, (K, P, va_up I a (va_cpy (I a0) (I a) (nI 0).toNatClampNeg (nI 0).toNatClampNeg (nI m).toNatClampNeg), J, F)) else none) = _
    rw [hmN, hka, hk0, show (nI 0).toNatClampNeg = 0 from rfl, if_pos ⟨⟨hne, rfl, rfl⟩, by decide, by decide, hm0', by show 0 + m ≤ n0; omega, by show 0 + m ≤ na; omega⟩]
  exact ⟨r, Ev.bi hx _ hq ⟨rfl, rfl⟩ hd hs h1, h2⟩
theorem Wp.obj {idx r2 a : Nat} {h : xS} (hx : xat pc (xcode i) = some (.invokespecial idx, 3, 1003, r2)) (hp : pc + 3 = pc') (hw : xwho (.invokespecial idx) 1003 r2 (.ref a :: st) h = none) (hd : 1 ≤ d) (hs : xsum st ≤ 9) (k : Wp d i pc' L st h Q) : Wp d i pc L (.ref a :: st) h Q := by
  subst hp
  obtain ⟨r, h1, h2⟩ := k
  exact ⟨r, Ev.bi hx (st, h) rfl ⟨rfl, hw⟩ hd hs h1, h2⟩
end WP4
theorem va_cpy0 {f g : Nat → Int32} {m : Nat} (j : Nat) : va_cpy f g 0 0 m j = if j < m then f j else g j := by
  unfold va_cpy
  by_cases h : j < m
  · rw [if_pos h, if_pos ⟨Nat.zero_le _, by omega⟩, Nat.zero_add, Nat.sub_zero]
  · rw [if_neg h, if_neg (fun z => h (by omega))]
section CPY
variable {d f L c s : Nat} {Q : Option Value × xS → Prop} {P : List Nat × Nat × Nat} {I : Nat → Nat → Int32} {J : Nat → Nat → Int64}
/-- one takes over the other's costs -/
theorem p_copyFrom (hf : f < 3) (hL : L < 2147483648) {a b : Nat} (hab : (a = 10 ∧ b = 15) ∨ (a = 15 ∧ b = 10)) (k : ∀ I', xag I I' [a + 1] → (∀ j, j < 315 → I' (a + 1) j = I (b + 1) j) → Q (none, (xK f L, P, I', J, xFr f c s))) : Wp (d + 1) 12 0 [some (.ref a), some (.ref b)] [] (xK f L, P, I, J, xFr f c s) Q := by
  have key : ∀ (hKa : xK f L a = (2, 5)) (hKb : xK f L b = (2, 5)) (hFa : xFr f c s a 1 = some (a + 1)) (hFb : xFr f c s b 1 = some (b + 1)) (hA : xK f L (a + 1) = (100, 315)) (hB : xK f L (b + 1) = (100, 315)) (hne : a + 1 ≠ b + 1), Wp (d + 1) 12 0 [some (.ref a), some (.ref b)] [] (xK f L, P, I, J, xFr f c s) Q := by
    intro hKa hKb hFa hFb hA hB hne
    refine Wp.go (x := (.aload_n 1, 1, 0, 0)) rfl 1 [some (.ref a), some (.ref b)] [.ref b] rfl ⟨rfl, rfl, rfl, rfl⟩ ?_
    refine Wp.gR rfl rfl hKb rfl rfl hFb ?_
    refine Wp.ic (v := nI 0) rfl rfl (by decide) ?_
    refine Wp.go (x := (.aload_n 0, 1, 0, 0)) rfl 6 [some (.ref a), some (.ref b)] [.ref a, .int (nI 0), .ref (b + 1)] rfl ⟨rfl, rfl, rfl, rfl⟩ ?_
    refine Wp.gR rfl rfl hKa rfl rfl hFa ?_
    refine Wp.ic (v := nI 0) rfl rfl (by decide) ?_
    refine Wp.sp (v := nI 315) rfl rfl (by decide) ?_
    refine Wp.acp rfl rfl hne hA hB (by decide) (Nat.le_refl _) (Nat.le_refl _) (by omega) (by decide) ?_
    refine Wp.rV rfl rfl (k _ (fun x hx => va_up_ne _ _ (fun e => hx (by rw [e]; simp))) (fun j hj => ?_))
    rw [va_up_self, va_cpy0, if_pos hj]
  rcases (by omega : f = 0 ∨ f = 1 ∨ f = 2) with rfl | rfl | rfl <;> rcases hab with ⟨rfl, rfl⟩ | ⟨rfl, rfl⟩ <;> exact key rfl rfl rfl rfl rfl rfl (by decide)
/-- the two parses change places -/
theorem p_takeSpare (hf : f < 3) (k : Q (none, (xK f L, P, I, J, xFr f s c))) : Wp d 93 0 [some (.ref 4), none] [] (xK f L, P, I, J, xFr f c s) Q := by
  have hsw : xup (xup (xFr f c s) 4 7 (some s)) 4 8 (some c) = xFr f s c := by
    funext a j
    by_cases ha : a = 4
    · subst ha
      rw [xup_at, xup_at]
      match j with
      | 0 => rfl
      | 1 => rfl
      | 2 => rfl
      | 3 => rfl
      | 4 => rfl
      | 5 => rfl
      | 6 => rfl
      | 7 => rfl
      | 8 => rfl
      | j + 9 => rfl
    · rw [xup_ne _ _ _ ha, xup_ne _ _ _ ha]
      match a, ha with
      | 0, _ => rfl
      | 1, _ => rfl
      | 2, _ => rfl
      | 3, _ => rfl
      | 4, h => exact absurd rfl h
      | a + 5, _ => rfl
  have key : ∀ (hK : xK f L 4 = (9, 12)) (h7 : xFr f c s 4 7 = some c) (h8 : xFr f c s 4 8 = some s), Wp d 93 0 [some (.ref 4), none] [] (xK f L, P, I, J, xFr f c s) Q := by
    intro hK h7 h8
    refine Wp.go (x := (.aload_n 0, 1, 0, 0)) rfl 1 [some (.ref 4), none] [.ref 4] rfl ⟨rfl, rfl, rfl, rfl⟩ ?_
    refine Wp.gR rfl rfl hK rfl rfl h7 ?_
    refine Wp.go (x := (.astore_n 1, 1, 0, 0)) rfl 5 [some (.ref 4), some (.ref c)] [] rfl ⟨rfl, rfl, rfl, rfl⟩ ?_
    refine Wp.go (x := (.aload_n 0, 1, 0, 0)) rfl 6 [some (.ref 4), some (.ref c)] [.ref 4] rfl ⟨rfl, rfl, rfl, rfl⟩ ?_
    refine Wp.go (x := (.aload_n 0, 1, 0, 0)) rfl 7 [some (.ref 4), some (.ref c)] [.ref 4, .ref 4] rfl ⟨rfl, rfl, rfl, rfl⟩ ?_
    refine Wp.gR rfl rfl hK rfl rfl h8 ?_
    refine Wp.pR rfl rfl hK rfl rfl ?_
    refine Wp.go (x := (.aload_n 0, 1, 0, 0)) rfl 14 [some (.ref 4), some (.ref c)] [.ref 4] rfl ⟨rfl, rfl, rfl, rfl⟩ ?_
    refine Wp.go (x := (.aload_n 1, 1, 0, 0)) rfl 15 [some (.ref 4), some (.ref c)] [.ref c, .ref 4] rfl ⟨rfl, rfl, rfl, rfl⟩ ?_
    refine Wp.pR rfl rfl hK rfl rfl ?_
    rw [hsw]
    exact Wp.rV rfl rfl k
  rcases (by omega : f = 0 ∨ f = 1 ∨ f = 2) with rfl | rfl | rfl <;> exact key rfl rfl rfl
end CPY
