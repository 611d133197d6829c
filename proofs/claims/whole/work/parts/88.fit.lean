/-! COSTS FITTED TO WHAT A PARSE USES -/
def inc (U : Nat → Nat → Nat) (a b : Nat) : Nat → Nat → Nat := fun k s => if k = a ∧ s = b then U k s + 1 else U k s
theorem inc_comm {U : Nat → Nat → Nat} {a b c e : Nat} (h : a ≠ c) : inc (inc U a b) c e = inc (inc U c e) a b := by
  funext k s
  unfold inc
  by_cases x : k = a ∧ s = b
  · by_cases y : k = c ∧ s = e
    · omega
    · simp only [if_pos x, if_neg y]
  · by_cases y : k = c ∧ s = e
    · simp only [if_neg x, if_pos y]
    · simp only [if_neg x, if_neg y]
theorem inc_ne {U : Nat → Nat → Nat} {a b k s : Nat} (h : k ≠ a) : inc U a b k s = U k s := by
  unfold inc
  rw [if_neg (fun z => h z.1)]
theorem inc_le {U : Nat → Nat → Nat} {a b k s : Nat} : inc U a b k s ≤ U k s + 1 := by
  unfold inc
  split <;> omega
section CNT
variable (f : Nat) (t : Nat → Nat)
def cs1 (U : Nat → Nat → Nat) (q : xSt) : Nat → Nat → Nat := inc U 3 q.1
def cs2 (U : Nat → Nat → Nat) (q : xSt) : Nat → Nat → Nat := if q.1 = 0 then inc U 0 (t q.2.1) else if q.1 = 6 then U else inc U 1 (xls (q.2.2.1 - xlt f))
def cs3 (U : Nat → Nat → Nat) (q : xSt) : Nat → Nat → Nat := if q.1 = 1 then inc U 2 (xds (q.2.2.2 - 1)) else U
def cst (U : Nat → Nat → Nat) (q : xSt) : Nat → Nat → Nat := cs3 (cs2 f t (cs1 U q) q) q
def us (R : Nat → xSt) : Nat → Nat → Nat → Nat
  | 0 => fun _ _ => 0
  | i + 1 => cst f t (us R i) (R i)
end CNT
theorem cst_ref {f : Nat} {t : Nat → Nat} {U : Nat → Nat → Nat} {q : xSt} : cs1 (cs3 (cs2 f t U q) q) q = cst f t U q := by
  unfold cst cs1 cs3 cs2
  by_cases e1 : q.1 = 1
  · rw [if_pos e1, if_pos e1, if_neg (by omega), if_neg (by omega), if_neg (by omega), if_neg (by omega), inc_comm (by decide), inc_comm (a := 1) (c := 3) (by decide)]
  · rw [if_neg e1, if_neg e1]
    by_cases e0 : q.1 = 0
    · rw [if_pos e0, if_pos e0, inc_comm (by decide)]
    · rw [if_neg e0, if_neg e0]
      by_cases e6 : q.1 = 6
      · rw [if_pos e6, if_pos e6]
      · rw [if_neg e6, if_neg e6, inc_comm (by decide)]
theorem cst_le {f : Nat} {t : Nat → Nat} {U : Nat → Nat → Nat} {q : xSt} (k s : Nat) : cst f t U q k s ≤ U k s + 1 := by
  have h1 : ∀ k s, cs1 U q k s ≤ U k s + (if k = 3 then 1 else 0) := fun k s => by
    unfold cs1
    by_cases e : k = 3
    · rw [if_pos e]; exact inc_le
    · rw [if_neg e, inc_ne e]; omega
  have h2 : ∀ U' k s, cs2 f t U' q k s ≤ U' k s + (if k = 0 ∨ k = 1 then 1 else 0) := fun U' k s => by
    unfold cs2
    by_cases e : k = 0 ∨ k = 1
    · rw [if_pos e]
      split
      · exact inc_le
      · split
        · omega
        · exact inc_le
    · rw [if_neg e]
      split
      · rw [inc_ne (by omega)]; omega
      · split
        · omega
        · rw [inc_ne (by omega)]; omega
  have h3 : ∀ U' k s, cs3 U' q k s ≤ U' k s + (if k = 2 then 1 else 0) := fun U' k s => by
    unfold cs3
    by_cases e : k = 2
    · rw [if_pos e]
      split
      · exact inc_le
      · omega
    · rw [if_neg e]
      split
      · rw [inc_ne e]; omega
      · omega
  have a1 := h1 k s
  have a2 := h2 (cs1 U q) k s
  have a3 := h3 (cs2 f t (cs1 U q) q) k s
  unfold cst
  by_cases e3 : k = 3
  · rw [if_pos e3] at a1
    rw [if_neg (by omega)] at a2
    rw [if_neg (by omega)] at a3
    omega
  · rw [if_neg e3] at a1
    by_cases e2 : k = 2
    · rw [if_neg (by omega)] at a2
      rw [if_pos e2] at a3
      omega
    · rw [if_neg e2] at a3
      split at a2 <;> omega
theorem us_le {f : Nat} {t : Nat → Nat} {R : Nat → xSt} (k s : Nat) : ∀ i, us f t R i k s ≤ i
  | 0 => Nat.le_refl _
  | i + 1 => by
    have h1 := us_le (f := f) (t := t) (R := R) k s i
    have h2 := cst_le (f := f) (t := t) (U := us f t R i) (q := R i) k s
    rw [us]
    omega
def tsm (g : Nat → Nat) : Nat → Nat
  | 0 => 0
  | s + 1 => tsm g s + g s
theorem tsm_le {g : Nat → Nat} {B : Nat} (h : ∀ s, g s ≤ B) : ∀ m, tsm g m ≤ m * B
  | 0 => by rw [Nat.zero_mul]; exact Nat.le_refl _
  | m + 1 => by
    have h1 := tsm_le h m
    have h2 := h m
    rw [tsm, Nat.succ_mul]
    omega
/-- the new cost of a symbol -/
def fc (U : Nat → Nat → Nat) (k s : Nat) : Nat := if xlog (tsm (U k) (SY k) + SY k) - xlog (U k s + 1) < 1 then 1 else xlog (tsm (U k) (SY k) + SY k) - xlog (U k s + 1)
def fV (f : Nat) (U : Nat → Nat → Nat) (V : Nat → Nat → Nat) : Nat → Nat → Nat := fun k s => if k < xcl f then fc U k s else V k s
theorem xlog_le {v : Nat} (h : 1 ≤ v) (h2 : v < 2 ^ 24) : xlog v ≤ 1600 := by
  have h1 := xlog_lt h
  have h3 : Nat.log2 v < 24 := (Nat.log2_lt (by omega)).mpr h2
  unfold xlog
  omega
theorem fc_le {U : Nat → Nat → Nat} (hU : ∀ k s, U k s ≤ 300) (k s : Nat) (hk : k < 4) : 1 ≤ fc U k s ∧ fc U k s ≤ 10000 := by
  have h1 := tsm_le (hU k) (SY k)
  have h2 := (SY_BS k hk).2
  have h3 : SY k * 300 ≤ 256 * 300 := Nat.mul_le_mul_right 300 h2
  have h4 : 1 ≤ SY k := by unfold SY; split <;> (try split) <;> (try split) <;> omega
  have h5 := xlog_le (v := tsm (U k) (SY k) + SY k) (by omega) (by omega)
  unfold fc
  split <;> omega
theorem fV_VB {f : Nat} {U V : Nat → Nat → Nat} (hU : ∀ k s, U k s ≤ 300) (h : VB V) : VB (fV f U V) := fun k s hk hs => by
  unfold fV
  split
  · exact fc_le hU k s hk
  · exact h k s hk hs
theorem nsub {a b : Nat} (ha : a < 2 ^ 24) (hb : b < 2 ^ 24) : (nI 1 < nI a - nI b ↔ 1 < a - b) ∧ (nI 1 ≤ nI a - nI b ↔ 1 ≤ a - b) ∧ (1 ≤ a - b → nI a - nI b = nI (a - b)) := by
  by_cases h : b ≤ a
  · rw [pk_sub h]
    exact ⟨(nI_ltI (by omega) (by omega)), (nI_leI (by omega) (by omega)), fun _ => rfl⟩
  · have h1 : (nI a - nI b).toInt = (a : Int) - b := i32_toInt_ofNat_sub (by omega) (by omega)
    refine ⟨?_, ?_, fun z => by omega⟩
    · rw [Int32.lt_iff_toInt_lt, h1, nI_toInt (by decide)]
      omega
    · rw [Int32.le_iff_toInt_le, h1, nI_toInt (by decide)]
      omega
theorem BS_inj {k k' s s' : Nat} (hk : k < 4) (hk' : k' < 4) (hs : s < SY k) (hs' : s' < SY k') (h : BS k + s = BS k' + s') : k = k' ∧ s = s' := by
  rcases (by omega : k = 0 ∨ k = 1 ∨ k = 2 ∨ k = 3) with rfl | rfl | rfl | rfl <;> rcases (by omega : k' = 0 ∨ k' = 1 ∨ k' = 2 ∨ k' = 3) with rfl | rfl | rfl | rfl <;> simp [BS, SY] at h hs hs' ⊢ <;> omega
/-- the class's counts -/
def CN (I : Nat → Nat → Int32) (f : Nat) (U : Nat → Nat → Nat) : Prop := ∀ k s, k < xcl f → s < SY k → I 12 (BS k + s) = nI (U k s)
/-- and the reference's -/
def MN (I : Nat → Nat → Int32) (U : Nat → Nat → Nat) : Prop := ∀ k s, k < 4 → s < SY k → I 99 (256 * k + s) = nI (U k s)
theorem MN_inc {I : Nat → Nat → Int32} {U : Nat → Nat → Nat} (h : MN I U) {a b : Nat} (ha : a < 4) (hb : b < SY a) : MN (xup I 99 (256 * a + b) (nI (U a b + 1))) (inc U a b) := fun k s hk hs => by
  have h1 := (SY_BS k hk).2
  have h2 := (SY_BS a ha).2
  rw [xup_at]
  unfold inc
  by_cases e : k = a ∧ s = b
  · rw [if_pos e, e.1, e.2, if_pos rfl]
  · rw [if_neg e, if_neg (fun z => e ⟨by omega, by omega⟩)]
    exact h k s hk hs
section FIT
variable {d f L c s n p m : Nat} {t : Nat → Nat} {V U : Nat → Nat → Nat} {Q : Option Value × xS → Prop} {P : List Nat × Nat × Nat} {I : Nat → Nat → Int32} {J : Nat → Nat → Int64} {R : Nat → xSt}
theorem p_countOne (hf : f < 3) (hL : L < 2147483648) (hC : CC I f V) (hN : CN I f U) {a b : Nat} (ha : a < 4) (hb : b < SY a) (k : ∀ I', xag I I' [12] → CN I' f (inc U a b) → Q (none, (xK f L, P, I', J, xFr f c s))) : Wp (d + 1) 23 0 [some (.ref 10), some (.int (nI a)), some (.int (nI b))] [] (xK f L, P, I, J, xFr f c s) Q := by
  have hx4 := xcl_le f
  have hsy := SY_BS a ha
  refine wX1_countOne_0 (xK_lt hf hL) rfl rfl rfl rfl (p_hasC hf hL hC (fun k' s' g1 g2 g3 g4 => ⟨_, _, _, rfl, ?_⟩) (fun h => ⟨_, _, _, rfl, ?_⟩))
  all_goals try dsimp only
  · have e1 : k' = a := by
      have h1 := (nI_eq (a := a) (b := k') (by omega) (by omega)).mp g3
      omega
    subst e1
    refine br2 (by decide) ⟨k', rfl, by omega, BS k' + b, by rw [(hC.1 k' (by omega)).2.1, nI_add], by omega, BS k' + b, by rw [(hC.1 k' (by omega)).2.1, nI_add], by omega, k _ (xag.rfl.up (by simp)) (fun k2 s2 z1 z2 => ?_)⟩
    rw [xup_at, hN k' b g1 hb, nI_add]
    unfold inc
    by_cases e : k2 = k' ∧ s2 = b
    · rw [if_pos e, e.1, e.2, if_pos rfl]
    · rw [if_neg e, if_neg (fun z => e (BS_inj (by omega) ha z2 hb z))]
      exact hN k2 s2 z1 z2
  · refine br1 rfl (k I xag.rfl (fun k2 s2 z1 z2 => ?_))
    have : k2 ≠ a := fun e => by
      subst e
      exact h k2 b z1 hb rfl rfl
    rw [inc_ne this]
    exact hN k2 s2 z1 z2
theorem p_countSymbols (hf : f < 3) (hL : L < 2147483648) (hp : p = 41 ∨ p = 47) (hC : CC I f V) (hT : CT I n t f) (h0 : PA I p m R) (hv : VS t f n m R) (k : ∀ I', xag I I' [12] → CN I' f (us f t R m) → Q (none, (xK f L, P, I', J, xFr f c s))) : Wp (d + 3) 22 0 [some (.ref 10), some (.ref p), some (.ref 5), none, none] [] (xK f L, P, I, J, xFr f c s) Q := by
  have hn := hT.2.2.2.1
  have hm := h0.2.1
  have hp12 : p ∉ [12] ∧ p + 1 ∉ [12] ∧ p + 2 ∉ [12] ∧ p + 3 ∉ [12] ∧ p + 4 ∉ [12] := by rcases hp with rfl | rfl <;> decide
  have loop : ∀ w i I1, m - i = w → i ≤ m → xag I I1 [12] → CN I1 f (us f t R i) → Wp (d + 3) 22 10 [some (.ref 10), some (.ref p), some (.ref 5), some (.int (nI i)), none] [] (xK f L, P, I1, J, xFr f c s) Q := by
    intro w
    induction w with
    | zero =>
      intro i I1 hw hi ha hN
      have e : i = m := by omega
      subst e
      have h1 := h0.ag ha hp12
      exact wX1_countSymbols_10 (xK_lt hf hL) (pcK hp) (pcF3 hp) (pcA4 hp) rfl (pcF1 hp) (pcA2 hp) rfl rfl (pcF0 hp) (pcA1 hp) rfl (br1 (by rw [h1.1]; first | (rw [nI_ltI (by omega) (by omega)]; omega) | (rw [nI_leI (by omega) (by omega)]; omega) | (rw [nI_eq (by omega) (by omega)]; omega) | (rw [nI_e0 (by omega)]; omega) | (rw [nI_le0 (by omega)]; omega)) (k I1 ha hN))
    | succ w ih =>
      intro i I1 hw hi ha hN
      have him : i < m := by omega
      have h1 := h0.ag ha hp12
      have hrow := h1.2.2 i him
      have hok := (hv.1 i him).1
      have hos := okS_lt hok
      have hle := hv.le him
      -- behind the first two
      have third : ∀ I2, xag I I2 [12] → CN I2 f (cs2 f t (cs1 (us f t R i) (R i)) (R i)) → Wp (d + 3) 22 83 [some (.ref 10), some (.ref p), some (.ref 5), some (.int (nI i)), some (.int (nI (R i).1))] [] (xK f L, P, I2, J, xFr f c s) Q := by
        intro I2 ha2 hN2
        have h2 := h0.ag ha2 hp12
        have hrow2 := h2.2.2 i him
        refine wX1_countSymbols_83 (xK_lt hf hL) (pcK hp) (pcF2 hp) (pcA3 hp) rfl (brd (nI_eq (by omega) (by omega)) (fun h => ?_) (fun h => ⟨i, rfl, by omega, ?_⟩))
        · rw [nI_add]
          refine ih (i + 1) I2 (by omega) (by omega) ha2 ?_
          rw [us]
          unfold cst cs3
          rw [if_neg h]
          exact hN2
        · have hd : 1 ≤ (R i).2.2.2 ∧ (R i).2.2.2 ≤ (R i).2.1 := by
            rcases hok with z | z | z
            · omega
            · exact ⟨z.2.2.2.2.1, z.2.2.2.2.2.1⟩
            · omega
          rw [hrow2.2.2.2, pk_sub hd.1]
          have hxd := (xds_lt ((R i).2.2.2 - 1) (by omega)).1
          refine p_distanceSlot (by omega) ⟨_, _, _, rfl, ?_⟩
          all_goals try dsimp only
          refine p_countOne hf hL (hC.ag ha2 (by decide)) hN2 (by decide) (by show xds _ < 20; exact hxd) (fun I3 ha3 hN3 => ⟨_, _, rfl, ?_⟩)
          all_goals try dsimp only
          try dsimp only
          rw [nI_add]
          refine ih (i + 1) I3 (by omega) (by omega) (ha2.tr ha3 (by simp)) ?_
          rw [us]
          unfold cst cs3
          rw [if_pos h]
          exact hN3
      refine wX1_countSymbols_10 (xK_lt hf hL) (pcK hp) (pcF3 hp) (pcA4 hp) rfl (pcF1 hp) (pcA2 hp) rfl rfl (pcF0 hp) (pcA1 hp) rfl (br2 (by rw [h1.1]; first | (rw [nI_ltI (by omega) (by omega)]; omega) | (rw [nI_leI (by omega) (by omega)]; omega) | (rw [nI_eq (by omega) (by omega)]; omega) | (rw [nI_e0 (by omega)]; omega) | (rw [nI_le0 (by omega)]; omega)) ⟨i, rfl, by omega, ?_⟩)
      rw [hrow.1]
      refine p_countOne hf hL (hC.ag ha (by decide)) hN (by decide) (by show (R i).1 < 7; omega) (fun I2 ha2 hN2 => ⟨_, _, rfl, ?_⟩)
      all_goals try dsimp only
      try dsimp only
      have ha2' : xag I I2 [12] := ha.tr ha2 (by simp)
      have h2 := h0.ag ha2' hp12
      have hrow2 := h2.2.2 i him
      refine brd (nI_e0 (by omega)) (fun h => ?_) (fun h => ⟨i, rfl, by omega, (R i).2.1, hrow2.2.1, by omega, ?_⟩)
      · refine brc (nI_eq (by omega) (by omega)) (fun h6 => ?_) (fun h6 => ⟨i, rfl, by omega, ?_⟩)
        · refine third I2 ha2' ?_
          unfold cs2
          rw [if_neg h, if_pos h6]
          exact hN2
        · have hl : xlt f ≤ (R i).2.2.1 ∧ (R i).2.2.1 ≤ 300 := by
            rcases hok with z | z | z
            · omega
            · exact ⟨z.2.2.1, z.2.2.2.1⟩
            · omega
          rw [hrow2.2.2.1, show I2 5 0 = nI (xlt f) by rw [ha2' 5 (by decide)]; exact hT.1, pk_sub hl.1]
          have hxl := (xls_lt ((R i).2.2.1 - xlt f) (by omega)).1
          refine p_lengthSlot (by omega) ⟨_, _, _, rfl, ?_⟩
          all_goals try dsimp only
          refine p_countOne hf hL (hC.ag ha2' (by decide)) hN2 (by decide) (by show xls _ < 32; exact hxl) (fun I3 ha3 hN3 => ⟨_, _, rfl, ?_⟩)
          all_goals try dsimp only
          try dsimp only
          refine third I3 (ha2'.tr ha3 (by simp)) ?_
          unfold cs2
          rw [if_neg h, if_neg h6]
          exact hN3
      · have hti := hT.2.2.2.2.1 (R i).2.1 (by
          rcases hok with z | z | z <;> omega)
        rw [show I2 6 (R i).2.1 = nI (t (R i).2.1) by rw [ha2' 6 (by decide)]; exact hti.1]
        refine p_countOne hf hL (hC.ag ha2' (by decide)) hN2 (by decide) (by show t _ < 256; exact hti.2) (fun I3 ha3 hN3 => ⟨_, _, rfl, ?_⟩)
        all_goals try dsimp only
        try dsimp only
        refine third I3 (ha2'.tr ha3 (by simp)) ?_
        unfold cs2
        rw [if_pos h]
        exact hN3
  refine wX1_countSymbols_0 rfl rfl (p_fillI (len := 315) (xK_lt hf hL) rfl (fun I1 a1 a2 => ⟨_, _, rfl, ?_⟩))
  all_goals try dsimp only
  refine loop m 0 I1 rfl (Nat.zero_le _) a1 (fun k' s' z1 z2 => ?_)
  have hx4 := xcl_le f
  have := SY_BS k' (by omega)
  exact a2 _ (by omega)
theorem p_fitClass (hf : f < 3) (hL : L < 2147483648) (hS : ST I) (hU : ∀ k s, U k s ≤ 300) {a : Nat} (ha : a < xcl f) (hN : CN I f U) (k : ∀ I', xag I I' [11] → (∀ j, (j < BS a ∨ BS a + SY a ≤ j) → I' 11 j = I 11 j) → (∀ s', s' < SY a → I' 11 (BS a + s') = nI (fc U a s')) → Q (none, (xK f L, P, I', J, xFr f c s))) : Wp (d + 2) 24 0 [some (.ref 10), some (.int (nI a)), none, none, none, none] [] (xK f L, P, I, J, xFr f c s) Q := by
  have hx4 := xcl_le f
  have ha4 : a < 4 := by omega
  have hsy := SY_BS a ha4
  have hsp : 1 ≤ SY a := by unfold SY; split <;> (try split) <;> (try split) <;> omega
  have hst := hS a ha4
  have htm : ∀ m, m ≤ SY a → tsm (U a) m ≤ 76800 := fun m hm => by
    have h1 := tsm_le (hU a) m
    have : m * 300 ≤ 256 * 300 := Nat.mul_le_mul_right 300 (by omega)
    omega
  have loop2 : ∀ w i I1, SY a - i = w → i ≤ SY a → xag I I1 [11] → (∀ j, (j < BS a ∨ BS a + SY a ≤ j) → I1 11 j = I 11 j) → (∀ s', s' < i → I1 11 (BS a + s') = nI (fc U a s')) → Wp (d + 2) 24 62 [some (.ref 10), none, some (.int (nI (BS a + SY a))), none, some (.int (nI (xlog (tsm (U a) (SY a) + SY a)))), some (.int (nI (BS a + i)))] [] (xK f L, P, I1, J, xFr f c s) Q := by
    intro w
    induction w with
    | zero =>
      intro i I1 hw hi h1 h2 h3
      have e : i = SY a := by omega
      subst e
      exact wX1_fitClass_62 (xK_lt hf hL) rfl rfl rfl rfl rfl (br1 (by first | (rw [nI_ltI (by omega) (by omega)]; omega) | (rw [nI_leI (by omega) (by omega)]; omega) | (rw [nI_eq (by omega) (by omega)]; omega) | (rw [nI_e0 (by omega)]; omega) | (rw [nI_le0 (by omega)]; omega)) (k I1 h1 h2 h3))
    | succ w ih =>
      intro i I1 hw hi h1 h2 h3
      refine wX1_fitClass_62 (xK_lt hf hL) rfl rfl rfl rfl rfl (br2 (by first | (rw [nI_ltI (by omega) (by omega)]; omega) | (rw [nI_leI (by omega) (by omega)]; omega) | (rw [nI_eq (by omega) (by omega)]; omega) | (rw [nI_e0 (by omega)]; omega) | (rw [nI_le0 (by omega)]; omega)) ⟨BS a + i, rfl, by omega, ?_⟩)
      have hUi := hU a i
      rw [show I1 12 (BS a + i) = nI (U a i) by rw [h1 12 (by decide)]; exact hN a i ha (by omega), nI_add]
      refine p_logOf (by omega) (by omega) ⟨_, _, _, rfl, BS a + i, rfl, by omega, ?_⟩
      all_goals try dsimp only
      have hx1 := xlog_le (v := tsm (U a) (SY a) + SY a) (by omega) (by have := htm (SY a) (Nat.le_refl _); omega)
      have hx2 := xlog_le (v := U a i + 1) (by omega) (by omega)
      have hns := nsub (a := xlog (tsm (U a) (SY a) + SY a)) (b := xlog (U a i + 1)) (by omega) (by omega)
      have hval : (if nI 1 < nI (xlog (tsm (U a) (SY a) + SY a)) - nI (xlog (U a i + 1)) then nI (xlog (tsm (U a) (SY a) + SY a)) - nI (xlog (U a i + 1)) else nI 1) = nI (fc U a i) := by
        unfold fc
        by_cases z : 1 < xlog (tsm (U a) (SY a) + SY a) - xlog (U a i + 1)
        · rw [if_pos (hns.1.mpr z), if_neg (by omega), hns.2.2 (by omega)]
        · rw [if_neg (fun w => z (hns.1.mp w))]
          by_cases z2 : xlog (tsm (U a) (SY a) + SY a) - xlog (U a i + 1) < 1
          · rw [if_pos z2]
          · rw [if_neg z2, show xlog (tsm (U a) (SY a) + SY a) - xlog (U a i + 1) = 1 by omega]
      rw [hval, nI_add]
      refine ih (i + 1) _ (by omega) (by omega) (h1.up (by simp)) (fun j hj => ?_) (fun s' hs' => ?_)
      · rw [xup_at, if_neg (by omega)]
        exact h2 j hj
      · rw [xup_at]
        by_cases z : s' = i
        · rw [if_pos (by omega), z]
        · rw [if_neg (by omega)]
          exact h3 s' (by omega)
  have loop1 : ∀ w i, SY a - i = w → i ≤ SY a → Wp (d + 2) 24 21 [some (.ref 10), some (.int (nI a)), some (.int (nI (BS a + SY a))), some (.int (nI (tsm (U a) i))), some (.int (nI (BS a + i))), none] [] (xK f L, P, I, J, xFr f c s) Q := by
    intro w
    induction w with
    | zero =>
      intro i hw hi
      have e : i = SY a := by omega
      subst e
      refine wX1_fitClass_21 (xK_lt hf hL) rfl rfl rfl rfl rfl (br1 (by first | (rw [nI_ltI (by omega) (by omega)]; omega) | (rw [nI_leI (by omega) (by omega)]; omega) | (rw [nI_eq (by omega) (by omega)]; omega) | (rw [nI_e0 (by omega)]; omega) | (rw [nI_le0 (by omega)]; omega)) ⟨a, rfl, by omega, ?_⟩)
      have := htm (SY a) (Nat.le_refl _)
      rw [hst.1, nI_add]
      refine p_logOf (by omega) (by omega) ⟨_, _, _, rfl, a, rfl, by omega, ?_⟩
      all_goals try dsimp only
      rw [hst.2.1]
      exact loop2 (SY a) 0 I rfl (Nat.zero_le _) xag.rfl (fun _ _ => rfl) (fun s' z => by omega)
    | succ w ih =>
      intro i hw hi
      refine wX1_fitClass_21 (xK_lt hf hL) rfl rfl rfl rfl rfl (br2 (by first | (rw [nI_ltI (by omega) (by omega)]; omega) | (rw [nI_leI (by omega) (by omega)]; omega) | (rw [nI_eq (by omega) (by omega)]; omega) | (rw [nI_e0 (by omega)]; omega) | (rw [nI_le0 (by omega)]; omega)) ⟨BS a + i, rfl, by omega, ?_⟩)
      rw [hN a i ha (by omega), nI_add, nI_add]
      exact ih (i + 1) (by omega) (by omega)
  refine wX1_fitClass_0 (xK_lt hf hL) rfl rfl ⟨a, rfl, by omega, a, rfl, by omega, a, rfl, by omega, ?_⟩
  rw [hst.1, hst.2.1, nI_add]
  exact loop1 (SY a) 0 rfl (Nat.zero_le _)
theorem p_fitTo (hf : f < 3) (hL : L < 2147483648) (hp : p = 41 ∨ p = 47) (hC : CC I f V) (hT : CT I n t f) (h0 : PA I p m R) (hv : VS t f n m R) (k : ∀ I', xag I I' [11, 12] → CC I' f (fV f (us f t R m) V) → Q (none, (xK f L, P, I', J, xFr f c s))) : Wp (d + 4) 21 0 [some (.ref 10), some (.ref p), some (.ref 5), none] [] (xK f L, P, I, J, xFr f c s) Q := by
  have hx4 := xcl_le f
  have hU : ∀ k s, us f t R m k s ≤ 300 := fun k s => by
    have := us_le (f := f) (t := t) (R := R) k s m
    have := h0.2.1
    omega
  have loop : ∀ w a I1, xcl f - a = w → a ≤ xcl f → xag I I1 [11, 12] → CN I1 f (us f t R m) → CV I1 11 (fun k s => if k < a then fc (us f t R m) k s else V k s) → Wp (d + 4) 21 8 [some (.ref 10), none, none, some (.int (nI a))] [] (xK f L, P, I1, J, xFr f c s) Q := by
    intro w
    induction w with
    | zero =>
      intro a I1 hw ha h1 h2 h3
      have e : a = xcl f := by omega
      subst e
      have h10 : I1 10 0 = nI (xcl f) := by rw [h1 10 (by decide)]; exact hC.2.1
      refine wX1_fitTo_8 rfl (br1 (by rw [h10]; first | (rw [nI_ltI (by omega) (by omega)]; omega) | (rw [nI_leI (by omega) (by omega)]; omega) | (rw [nI_eq (by omega) (by omega)]; omega) | (rw [nI_e0 (by omega)]; omega) | (rw [nI_le0 (by omega)]; omega)) (k I1 h1 ⟨?_, h10, h3, fV_VB hU hC.2.2.2⟩))
      intro k' hk'
      rw [h1 1 (by decide), h1 2 (by decide), h1 3 (by decide)]
      exact hC.1 k' hk'
    | succ w ih =>
      intro a I1 hw ha h1 h2 h3
      have h10 : I1 10 0 = nI (xcl f) := by rw [h1 10 (by decide)]; exact hC.2.1
      have hS1 : ST I1 := fun k' hk' => by
        rw [h1 1 (by decide), h1 2 (by decide), h1 3 (by decide)]
        exact hC.1 k' hk'
      refine wX1_fitTo_8 rfl (br2 (by rw [h10]; first | (rw [nI_ltI (by omega) (by omega)]; omega) | (rw [nI_leI (by omega) (by omega)]; omega) | (rw [nI_eq (by omega) (by omega)]; omega) | (rw [nI_e0 (by omega)]; omega) | (rw [nI_le0 (by omega)]; omega)) (p_fitClass hf hL hS1 hU (by omega) h2 (fun I2 b1 b2 b3 => ⟨_, _, rfl, ?_⟩)))
      all_goals try dsimp only
      try dsimp only
      rw [nI_add]
      refine ih (a + 1) I2 (by omega) (by omega) (h1.tr b1 (by simp)) (fun k' s' z1 z2 => by rw [b1 12 (by decide)]; exact h2 k' s' z1 z2) (fun k' s' z1 z2 => ?_)
      have hsy := SY_BS k' z1
      by_cases e : k' = a
      · subst e
        dsimp only
        rw [if_pos (by omega)]
        exact b3 s' z2
      · have hne : BS k' + s' < BS a ∨ BS a + SY a ≤ BS k' + s' := by
          by_cases z : BS k' + s' < BS a
          · exact Or.inl z
          · by_cases z3 : BS a + SY a ≤ BS k' + s'
            · exact Or.inr z3
            · exact absurd (BS_inj (s' := BS k' + s' - BS a) z1 (by omega : a < 4) z2 (by omega) (by omega)).1 e
        rw [b2 _ hne, h3 k' s' z1 z2]
        dsimp only
        by_cases z : k' < a
        · rw [if_pos z, if_pos (by omega)]
        · rw [if_neg z, if_neg (by omega)]
  refine wX1_fitTo_0 rfl (p_countSymbols hf hL hp hC hT h0 hv (fun I1 a1 a2 => ⟨_, _, rfl, ?_⟩))
  all_goals try dsimp only
  refine loop _ 0 I1 rfl (Nat.zero_le _) (a1.wd (by simp)) a2 (fun k' s' z1 z2 => ?_)
  rw [a1 11 (by decide)]
  dsimp only
  rw [if_neg (Nat.not_lt_zero _)]
  exact hC.2.2.1 k' s' z1 z2
end FIT
