/-! GREEDY AND LAZY: the reference's -/
def ML (I : Nat → Nat → Int32) (la : Nat → Nat) : Prop := ∀ k, k < 4 → I 81 k = nI (la k)
theorem ML.ag {I I1 : Nat → Nat → Int32} {S : List Nat} {la : Nat → Nat} (h : ML I la) (ha : xag I I1 S) (h1 : 81 ∉ S) : ML I1 la := by
  unfold ML
  rw [ha 81 h1]
  exact h
theorem LO.ag {I I1 : Nat → Nat → Int32} {S : List Nat} {n f : Nat} {t : Nat → Nat} (h : LO I n t f) (ha : xag I I1 S) (h1 : 79 ∉ S ∧ 80 ∉ S) : LO I1 n t f := by
  unfold LO LOs LOn
  rw [ha 79 h1.1, ha 80 h1.2]
  exact h
/-- the reference's text and form when only some fields of it changed -/
theorem MT.ag2 {I I1 : Nat → Nat → Int32} {S : List Nat} {n : Nat} {t : Nat → Nat} (h : MT I n t) (ha : xag I I1 S) (h1 : I1 59 3 = I 59 3) (h2 : 62 ∉ S) : MT I1 n t := by
  unfold MT
  rw [h1, ha 62 h2]
  exact h
theorem MV.ag2 {I I1 : Nat → Nat → Int32} {S : List Nat} {f : Nat} {V : Nat → Nat → Nat} (h : MV I f V) (ha : xag I I1 S) (h1 : I1 59 1 = I 59 1) (h2 : 64 ∉ S) : MV I1 f V := by
  unfold MV
  rw [h1, ha 64 h2]
  exact h
theorem MA.ag2 {I I1 : Nat → Nat → Int32} {S : List Nat} {m : Nat} {R : Nat → xSt} (h : MA I m R) (ha : xag I I1 S) (h0 : I1 59 11 = I 59 11) (h1 : 72 ∉ S ∧ 73 ∉ S ∧ 74 ∉ S ∧ 75 ∉ S) : MA I1 m R := by
  unfold MA at h ⊢
  rw [h0, ha 72 h1.1, ha 73 h1.2.1, ha 74 h1.2.2.1, ha 75 h1.2.2.2]
  exact h
section GRM
variable {d f L c s m n : Nat} {t : Nat → Nat} {V : Nat → Nat → Nat} {la : Nat → Nat} {R : Nat → xSt} {Q : Option Value × xS → Prop} {P : List Nat × Nat × Nat} {I : Nat → Nat → Int32} {J : Nat → Nat → Int64}
theorem p_clearLatestM (hf : f < 3) (hL : L < 2147483648) (k : ∀ I', xag I I' [81] → ML I' (fun _ => 1) → Q (none, (xK f L, P, I', J, xFr f c s))) : Wp d 121 0 [some (.ref 59), none] [] (xK f L, P, I, J, xFr f c s) Q := by
  have loop : ∀ q j I1, 4 - j = q → j ≤ 4 → xag I I1 [81] → (∀ i, i < j → I1 81 i = nI 1) → Wp d 121 2 [some (.ref 59), some (.int (nI j))] [] (xK f L, P, I1, J, xFr f c s) Q := by
    intro q
    induction q with
    | zero =>
      intro j I1 hq hj ha h1
      exact wX11_clearLatest_2 (xK_lt hf hL) rfl rfl rfl (br1 (by first | (rw [nI_ltI (by omega) (by omega)]; omega) | (rw [nI_leI (by omega) (by omega)]; omega) | (rw [nI_eq (by omega) (by omega)]; omega) | (rw [nI_e0 (by omega)]; omega) | (rw [nI_le0 (by omega)]; omega)) (k I1 ha (fun i hi => h1 i (by omega))))
    | succ q ih =>
      intro j I1 hq hj ha h1
      refine wX11_clearLatest_2 (xK_lt hf hL) rfl rfl rfl (br2 (by first | (rw [nI_ltI (by omega) (by omega)]; omega) | (rw [nI_leI (by omega) (by omega)]; omega) | (rw [nI_eq (by omega) (by omega)]; omega) | (rw [nI_e0 (by omega)]; omega) | (rw [nI_le0 (by omega)]; omega)) ⟨j, rfl, by omega, ?_⟩)
      rw [nI_add]
      refine ih (j + 1) _ (by omega) (by omega) (ha.up (by simp)) (fun i hi => ?_)
      rw [xup_at]
      by_cases e : i = j
      · rw [if_pos e]
      · rw [if_neg e]
        exact h1 i (by omega)
  exact wX11_clearLatest_0  (loop 4 0 I rfl (by omega) xag.rfl (fun i hi => by omega))
theorem p_aheadM (hf : f < 3) (hL : L < 2147483648) (h0 : ML I la) {b p : Nat} (hp : p < 4) (k : ∀ I', xag I I' [81] → ML I' (ah la b p) → Q (none, (xK f L, P, I', J, xFr f c s))) : Wp d 122 0 [some (.ref 59), some (.int (nI b)), some (.int (nI p)), none] [] (xK f L, P, I, J, xFr f c s) Q := by
  have loop : ∀ j I1, j ≤ p → xag I I1 [81] → (∀ i, i < 4 → I1 81 i = nI (if j < i ∧ i ≤ p then la (i - 1) else la i)) → Wp d 122 2 [some (.ref 59), some (.int (nI b)), none, some (.int (nI j))] [] (xK f L, P, I1, J, xFr f c s) Q := by
    intro j
    induction j with
    | zero =>
      intro I1 hj ha h1
      refine wX11_ahead_2 (xK_lt hf hL) rfl rfl rfl (br1 (by decide) ⟨0, rfl, by decide, k _ (ha.up (by simp)) (fun i hi => ?_)⟩)
      rw [xup_at]
      unfold ah
      by_cases e : i = 0
      · rw [if_pos e, if_pos e]
      · rw [if_neg e, if_neg e, h1 i hi]
        by_cases e2 : i ≤ p
        · rw [if_pos e2, if_pos ⟨by omega, e2⟩]
        · rw [if_neg e2, if_neg (fun z => e2 z.2)]
    | succ j ih =>
      intro I1 hj ha h1
      refine wX11_ahead_2 (xK_lt hf hL) rfl rfl rfl (br2 (by first | (rw [nI_ltI (by omega) (by omega)]; omega) | (rw [nI_leI (by omega) (by omega)]; omega) | (rw [nI_eq (by omega) (by omega)]; omega) | (rw [nI_e0 (by omega)]; omega) | (rw [nI_le0 (by omega)]; omega)) ⟨j, by rw [pk_sub (by omega)]; rfl, by omega, j + 1, rfl, by omega, ?_⟩)
      rw [xm1, pk_sub (by omega), Nat.add_sub_cancel]
      refine ih _ (by omega) (ha.up (by simp)) (fun i hi => ?_)
      rw [xup_at]
      by_cases e : i = j + 1
      · rw [if_pos e, h1 j (by omega), if_neg (by omega), if_pos (by omega), e, Nat.add_sub_cancel]
      · rw [if_neg e, h1 i hi]
        by_cases e2 : j + 1 < i ∧ i ≤ p
        · rw [if_pos e2, if_pos (by omega)]
        · rw [if_neg e2, if_neg (by omega)]
  refine wX11_ahead_0  (loop p I (Nat.le_refl _) xag.rfl (fun i hi => ?_))
  rw [if_neg (by omega)]
  exact h0 i hi
theorem p_longestCopyM (hf : f < 3) (hL : L < 2147483648) (hI : I 59 1 = nI f) (h0 : LO I n t f) (hn : n ≤ 300) {i : Nat} (hi : i < n) (k : Q (some (.int (nI (lc t n f i))), (xK f L, P, I, J, xFr f c s))) : Wp (d + 1) 108 0 [some (.ref 59), some (.int (nI i)), none] [] (xK f L, P, I, J, xFr f c s) Q := by
  have hx := xlt_pos f
  have hx2 := xlt_le f
  have hg := xgt_le f
  have hr := lr_le t n (xgt f) i
  have loop : ∀ l, l ≤ xgt f → lr t n (xgt f) i ≤ l → xlt f ≤ l + 1 → Wp (d + 1) 108 5 [some (.ref 59), some (.int (nI i)), some (.int (nI l))] [] (xK f L, P, I, J, xFr f c s) Q := by
    intro l
    induction l with
    | zero => intro h1 h2 h3; omega
    | succ l ih =>
      intro h1 h2 h3
      refine wX11_longestCopy_5 (xK_lt hf hL) rfl rfl rfl (p_shortestM hf hI ⟨_, _, _, rfl, ?_⟩)
      all_goals try dsimp only
      try dsimp only
      refine brc (nI_ltI (by omega) (by omega)) (fun h => ?_) (fun h => ?_)
      · refine p_shortestM hf hI ⟨_, _, _, rfl, ?_⟩
        all_goals try dsimp only
        try dsimp only
        refine br2 (by first | (rw [nI_ltI (by omega) (by omega)]; omega) | (rw [nI_leI (by omega) (by omega)]; omega) | (rw [nI_eq (by omega) (by omega)]; omega) | (rw [nI_e0 (by omega)]; omega) | (rw [nI_le0 (by omega)]; omega)) ?_
        unfold lc at k
        rw [if_neg (by omega)] at k
        exact k
      · refine ⟨301 * i + (l + 1), by rw [pk_mul, nI_add], by omega, ?_⟩
        rw [h0.2 i (l + 1) hi hi (by omega) (by omega)]
        have hnd : nd t n (xgt f) i (l + 1) ≤ i := ndk_le _ _ _
        refine brd (nI_e0 (by omega)) (fun h4 => ?_) (fun h4 => ?_)
        · have h5 : ¬ lr t n (xgt f) i < l + 1 := fun z => h4 ((nd_0 (by omega)).mpr z)
          refine p_shortestM hf hI ⟨_, _, _, rfl, ?_⟩
          all_goals try dsimp only
          try dsimp only
          refine br1 (by first | (rw [nI_ltI (by omega) (by omega)]; omega) | (rw [nI_leI (by omega) (by omega)]; omega) | (rw [nI_eq (by omega) (by omega)]; omega) | (rw [nI_e0 (by omega)]; omega) | (rw [nI_le0 (by omega)]; omega)) ?_
          unfold lc at k
          rw [if_pos (by omega), show lr t n (xgt f) i = l + 1 by omega] at k
          exact k
        · have h5 := (nd_0 (by omega)).mp h4
          rw [xm1, pk_sub (by omega), Nat.add_sub_cancel]
          exact ih (by omega) (by omega) (by omega)
  refine wX11_longestCopy_0 rfl (p_greatestM hf hI ⟨_, _, _, rfl, ?_⟩)
  all_goals try dsimp only
  have hgx : xlt f ≤ xgt f := by
    unfold xlt xgt
    split
    · decide
    · split <;> decide
  exact loop _ (Nat.le_refl _) hr.1 (by omega)
theorem p_longestAgainM (hf : f < 3) (hL : L < 2147483648) (hI : I 59 1 = nI f) (h0 : LO I n t f) (hn : n ≤ 300) {i b : Nat} (hi : i < n) (hb : 1 ≤ b) (hb2 : b ≤ 300) (k : Q (some (.int (nI (if sb t n f i b < 2 then 0 else sb t n f i b))), (xK f L, P, I, J, xFr f c s))) : Wp (d + 1) 109 0 [some (.ref 59), some (.int (nI i)), some (.int (nI b)), none] [] (xK f L, P, I, J, xFr f c s) Q := by
  have hg := xgt_le f
  have hg2 : 2 ≤ xgt f := by
    unfold xgt
    split
    · decide
    · split <;> decide
  have rest : ∀ v, v ≤ 300 → (if xgt f < v then xgt f else v) = sb t n f i b → Wp (d + 1) 109 21 [some (.ref 59), none, none, none] [.int (nI v)] (xK f L, P, I, J, xFr f c s) Q := by
    intro v hv hs
    rw [← hs] at k
    refine wX11_longestAgain_21 rfl (p_greatestM hf hI ⟨_, _, _, rfl, ?_⟩)
    all_goals try dsimp only
    try dsimp only
    refine brc (nI_leI (by omega) (by omega)) (fun h => ?_) (fun h => ?_)
    · rw [if_neg (show ¬ xgt f < v by omega)] at k
      refine brc (nI_leI (by omega) (by omega)) (fun h2 => ?_) (fun h2 => ?_)
      · rw [if_neg (by omega)] at k
        exact k
      · rw [if_pos (by omega)] at k
        exact k
    · rw [if_pos (show xgt f < v by omega)] at k
      refine p_greatestM hf hI ⟨_, _, _, rfl, ?_⟩
      all_goals try dsimp only
      try dsimp only
      rw [if_neg (by omega)] at k
      exact br1 (by first | (rw [nI_ltI (by omega) (by omega)]; omega) | (rw [nI_leI (by omega) (by omega)]; omega) | (rw [nI_eq (by omega) (by omega)]; omega) | (rw [nI_e0 (by omega)]; omega) | (rw [nI_le0 (by omega)]; omega)) k
  refine wX11_longestAgain_0 (xK_lt hf hL) rfl rfl rfl (brc (nI_leI (by omega) (by omega)) (fun h => ⟨301 * i + b, by rw [pk_mul, nI_add], by omega, ?_⟩) (fun h => rest 0 (by omega) ?_))
  · rw [h0.1 i b hi hb h (by omega)]
    have hrn := rn_le t b (n - i) i
    refine rest _ (by omega) ?_
    unfold sb gl
    rw [if_neg (c := b < 1 ∨ i < b) (by omega)]
  · unfold sb
    rw [if_pos (c := b < 1 ∨ i < b) (by omega), if_neg (c := xgt f < 0) (by omega)]
/-- longestOf at a place of the text -/
theorem p_longestOfM (hf : f < 3) (hL : L < 2147483648) (hI : I 59 1 = nI f) (hT : MT I n t) (h0 : LO I n t f) (hl : ML I la) (hB : LB la) {i : Nat} (hi : i < n) (k : ∀ I', xag I I' [59] → (∀ q, q ≠ 22 → I' 59 q = I 59 q) → (lc t n f i ≠ 0 → I' 59 22 = nI (if ak t n f la i (lc t n f i) = 4 then 1 else 2 + ak t n f la i (lc t n f i))) → Q (some (.int (nI (lc t n f i))), (xK f L, P, I', J, xFr f c s))) : Wp (d + 2) 123 0 [some (.ref 59), some (.int (nI i)), none, none, none] [] (xK f L, P, I, J, xFr f c s) Q := by
  have hn := hT.2.1
  have hg := xgt_le f
  have hlc : lc t n f i ≤ 300 := by
    by_cases e : lc t n f i = 0
    · omega
    · have := lc_ok e
      omega
  refine wX11_longestOf_0 rfl (br2 (by rw [hT.1]; first | (rw [nI_ltI (by omega) (by omega)]; omega) | (rw [nI_leI (by omega) (by omega)]; omega) | (rw [nI_eq (by omega) (by omega)]; omega) | (rw [nI_e0 (by omega)]; omega) | (rw [nI_le0 (by omega)]; omega)) (p_longestCopyM hf hL hI h0 hn hi ⟨_, _, _, rfl, ?_⟩))
  all_goals try dsimp only
  try dsimp only
  have a0 : xag I (xup I 59 22 (nI 1)) [59] := xag.rfl.up (by simp)
  refine wX11_longestOf_17 rfl ?_
  rw [xup_at, if_neg (by decide), xup_at, if_neg (by decide), hI, hT.1]
  refine brd (nI_eq (by omega) (by omega)) (fun h => ?_) (fun h => ?_)
  · refine k _ a0 (fun q hq => by rw [xup_at, if_neg hq]) (fun _ => ?_)
    rw [xup_at, if_pos rfl]
    unfold ak
    rw [if_neg h, if_pos rfl]
  · refine br2 (by first | (rw [nI_ltI (by omega) (by omega)]; omega) | (rw [nI_leI (by omega) (by omega)]; omega) | (rw [nI_eq (by omega) (by omega)]; omega) | (rw [nI_e0 (by omega)]; omega) | (rw [nI_le0 (by omega)]; omega)) ?_
    subst h
    have loop : ∀ r I1, r ≤ 4 → xag I I1 [59] → (∀ q, q ≠ 22 → I1 59 q = I 59 q) → (lc t n 2 i ≠ 0 → I1 59 22 = nI (if lk (lc t n 2 i) (fun j => sb t n 2 i (la j)) (4 - r) = 4 then 1 else 2 + lk (lc t n 2 i) (fun j => sb t n 2 i (la j)) (4 - r))) → Wp (d + 2) 123 41 [some (.ref 59), some (.int (nI i)), some (.int (nI (lc t n 2 i))), some (.int (nI r - nI 1)), none] [] (xK 2 L, P, I1, J, xFr 2 c s) Q := by
      intro r
      induction r with
      | zero =>
        intro I1 hr ha h1 h2
        refine wX11_longestOf_41 (xK_lt hf hL) rfl rfl rfl (br1 (by decide) (k I1 ha h1 (fun z => ?_)))
        rw [h2 z]
        unfold ak
        rw [if_pos rfl]
      | succ r ih =>
        intro I1 hr ha h1 h2
        have hbr := hB r (by omega)
        have hl1 : ML I1 la := hl.ag ha (by decide)
        have h01 : LO I1 n t 2 := h0.ag ha (by decide)
        have hI1 : I1 59 1 = nI 2 := by rw [h1 1 (by decide)]; exact hI
        have hsb := sb_le t n 2 i (la r)
        rw [pk_sub (by omega), Nat.add_sub_cancel]
        refine wX11_longestOf_41 (xK_lt hf hL) rfl rfl rfl (br2 (nI_pos (by omega)) ⟨r, rfl, by omega, ?_⟩)
        rw [hl1 r (by omega)]
        have hlr : lr t n (xgt 2) i ≤ 300 := by have := lr_le t n (xgt 2) i; omega
        have hlc2 : lc t n 2 i = if 2 ≤ lr t n (xgt 2) i then lr t n (xgt 2) i else 0 := rfl
        have lkr : lk (lc t n 2 i) (fun j => sb t n 2 i (la j)) (4 - r) = if lc t n 2 i ≤ sb t n 2 i (la r) then r else lk (lc t n 2 i) (fun j => sb t n 2 i (la j)) (4 - (r + 1)) := by
          rw [show 4 - r = (4 - (r + 1)) + 1 by omega, lk, show 4 - (4 - (r + 1) + 1) = r by omega]
        refine p_longestAgainM hf hL hI1 h01 hn hi hbr.1 (by omega) ⟨_, _, _, rfl, ?_⟩
        all_goals try dsimp only
        try dsimp only
        have keep : (lc t n 2 i ≠ 0 → ¬ lc t n 2 i ≤ sb t n 2 i (la r)) → Wp (d + 1 + 1) 123 41 [some (.ref 59), some (.int (nI i)), some (.int (nI (lc t n 2 i))), some (.int (nI r + -1)), none] [] (xK 2 L, P, I1, J, xFr 2 c s) Q := by
          intro hno
          rw [xm1]
          refine ih I1 (by omega) ha h1 (fun z => ?_)
          rw [lkr, if_neg (hno z)]
          exact h2 z
        by_cases e2 : sb t n 2 i (la r) < 2
        · rw [if_pos e2]
          refine br1 (by decide) (keep (fun z hle => ?_))
          rw [hlc2] at z hle
          by_cases e3 : 2 ≤ lr t n (xgt 2) i
          · rw [if_pos e3] at hle
            omega
          · rw [if_neg e3] at z
            exact z rfl
        · rw [if_neg e2]
          have hlceq : lc t n 2 i = lr t n (xgt 2) i := by
            rw [hlc2, if_pos (by omega)]
          refine br2 (by first | (rw [nI_ltI (by omega) (by omega)]; omega) | (rw [nI_leI (by omega) (by omega)]; omega) | (rw [nI_eq (by omega) (by omega)]; omega) | (rw [nI_e0 (by omega)]; omega) | (rw [nI_le0 (by omega)]; omega)) (br2 (by first | (rw [nI_ltI (by omega) (by omega)]; omega) | (rw [nI_leI (by omega) (by omega)]; omega) | (rw [nI_eq (by omega) (by omega)]; omega) | (rw [nI_e0 (by omega)]; omega) | (rw [nI_le0 (by omega)]; omega)) (brd (nI_eq (by omega) (by omega)) (fun h => keep (fun _ => by omega)) (fun h => ?_)))
          rw [h, xm1]
          refine ih _ (by omega) (ha.up (by simp)) (fun q hq => by rw [xup_at, if_neg hq]; exact h1 q hq) (fun z => ?_)
          have e5 : lk (lc t n 2 i) (fun j => sb t n 2 i (la j)) (4 - r) = r := by rw [lkr, if_pos (by omega)]
          rw [xup_at, if_pos rfl, nI_add, e5, if_neg (by omega)]
    have := loop 4 _ (Nat.le_refl _) a0 (fun q hq => by rw [xup_at, if_neg hq]) (fun z => by
      rw [xup_at, if_pos rfl, show 4 - 4 = 0 by decide, lk, if_pos rfl])
    rw [pk_sub (by decide)] at this
    exact this
end GRM
