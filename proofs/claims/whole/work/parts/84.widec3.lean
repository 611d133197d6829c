/-! FORM 2: the class's whole search -/
theorem xandI {a b : Nat} (ha : a < 2 ^ 32) (hb : b < 2 ^ 32) : nI a &&& nI b = nI (a &&& b) := by
  apply Int32.toBitVec_inj.mp
  show BitVec.ofNat 32 a &&& BitVec.ofNat 32 b = BitVec.ofNat 32 (a &&& b)
  apply BitVec.eq_of_toNat_eq
  rw [BitVec.toNat_and, BitVec.toNat_ofNat, BitVec.toNat_ofNat, BitVec.toNat_ofNat, Nat.mod_eq_of_lt ha, Nat.mod_eq_of_lt hb, Nat.mod_eq_of_lt (Nat.lt_of_le_of_lt Nat.and_le_left ha)]
theorem xmaskI {a k : Nat} (ha : a < 2 ^ 32) (hk : k < 32) : nI a &&& nI (2 ^ k - 1) = nI (a % 2 ^ k) := by
  have : 2 ^ k < 2 ^ 32 := Nat.pow_lt_pow_right (by decide) hk
  rw [xandI ha (by omega), Nat.and_two_pow_sub_one_eq_mod]
theorem pkb_kd {e : xEn} (hr : e.2.1 < 64) (hl : e.2.2.1 < 512) (hk : e.2.2.2 < 8) : nI (pkb e) &&& nI 7 = nI e.2.2.2 := by
  have := xmaskI (a := pkb e) (k := 3) (by unfold pkb; omega) (by decide)
  rw [show pkb e % 2 ^ 3 = e.2.2.2 by unfold pkb; omega] at this
  exact this
theorem pkb_r {e : xEn} (hr : e.2.1 < 64) (hl : e.2.2.1 < 512) (hk : e.2.2.2 < 8) : nI (pkb e) >>> (nI 12 &&& 31) = nI e.2.1 := by
  rw [xshr (by unfold pkb; omega) (by decide), show pkb e / 2 ^ 12 = e.2.1 by unfold pkb; omega]
theorem pkb_l {e : xEn} (hr : e.2.1 < 64) (hl : e.2.2.1 < 512) (hk : e.2.2.2 < 8) : (nI (pkb e) >>> (nI 3 &&& 31)) &&& nI 511 = nI e.2.2.1 := by
  rw [xshr (by unfold pkb; omega) (by decide)]
  have := xmaskI (a := pkb e / 2 ^ 3) (k := 9) (by unfold pkb; omega) (by decide)
  rw [show pkb e / 2 ^ 3 % 2 ^ 9 = e.2.2.1 by unfold pkb; omega] at this
  exact this
theorem mx1 {l : Nat} (h : 1 ≤ l) (h2 : l < 2 ^ 31) : (if nI 1 < nI l then nI l else nI 1) = nI l := by
  by_cases e : l = 1
  · subst e
    rfl
  · rw [if_pos (by first | (rw [nI_ltI (by omega) (by omega)]; omega) | (rw [nI_leI (by omega) (by omega)]; omega) | (rw [nI_eq (by omega) (by omega)]; omega) | (rw [nI_e0 (by omega)]; omega) | (rw [nI_le0 (by omega)]; omega))]
theorem CW.ent {I : Nat → Nat → Int32} {J : Nat → Nat → Int64} {n a b : Nat} {W : xW} (h : CW I J W n) (ha : a ≤ n) (hb : b < (W a).1) (h0 : a = n → b = 0) : J 28 (40 * a + b) = lN ((W a).2.1 b).1 ∧ I 29 (40 * a + b) = nI (pkb ((W a).2.1 b)) := by
  by_cases e : a = n
  · obtain ⟨w1, h1, h2, h3⟩ := h.2
    have hb0 := h0 e
    subst hb0
    subst e
    have h4 := h2.1
    rw [if_neg (by omega)] at h4
    have := h3.2.1 0 (by omega)
    rw [h2.2 (by omega)] at this
    exact this
  · exact (h.1 a (by omega)).2.1 b hb
section WDC3
variable {d L c s n K p : Nat} {t : Nat → Nat} {V : Nat → Nat → Nat} {Q : Option Value × xS → Prop} {P : List Nat × Nat × Nat} {I : Nat → Nat → Int32} {J : Nat → Nat → Int64} {W : xW}
theorem p_tell2 (hL : L < 2147483648) (hp : p = 41 ∨ p = 47) (hK2 : K ≤ 40) (hn : n ≤ 300) (hI : IV V t n K W n) (h53 : I 5 3 = nI n) (hW : n ≠ 0 → CW I J W n) (k : ∀ I' m, xag I I' [p, p + 1, p + 2, p + 3, p + 4] → TM2 W n m → PA I' p m (fun i => T2 W n (m - 1 - i)) → Q (none, (xK 2 L, P, I', J, xFr 2 c s))) : Wp (d + 2) 40 0 [some (.ref 20), some (.ref p), none, none, none, none, none, none] [] (xK 2 L, P, I, J, xFr 2 c s) Q := by
  have hf : 2 < 3 := by decide
  have h5 : 5 ∉ [p, p + 1, p + 2, p + 3, p + 4] ∧ 29 ∉ [p, p + 1, p + 2, p + 3, p + 4] := by
    rcases hp with rfl | rfl <;> decide
  have loop : ∀ w j I1, (tp2 W n j).1 = w → (∀ j', j' < j → (tp2 W n j').1 ≠ 0) → xag I I1 [p, p + 1, p + 2, p + 3, p + 4] → PA I1 p j (T2 W n) → Wp (d + 2) 40 17 [some (.ref 20), some (.ref p), some (.int (nI (tp2 W n j).1)), some (.int (nI (40 * (tp2 W n j).1 + (tp2 W n j).2))), none, none, none, none] [] (xK 2 L, P, I1, J, xFr 2 c s) Q := by
    intro w
    induction w using Nat.strongRecOn with
    | _ w ih =>
      intro j I1 hw hj ha h1
      have hok := tp2_ok hI j hj
      by_cases e0 : (tp2 W n j).1 = 0
      · rw [e0]
        refine wX4_tellSteps_17 (f3 := 29) (f5 := 28) (xK_lt hf hL) (pcK hp) rfl rfl rfl rfl rfl (br1 (by decide) (p_turnRound hf hL hp h1 (fun I2 b1 b2 => ⟨_, _, rfl, ?_⟩)))
        all_goals try dsimp only
        exact k I2 j (ha.tr b1 (by simp)) ⟨e0, hj⟩ b2
      · have hpv := tp2_pv hI hj e0
        have hen : en2 W n j = (W (tp2 W n j).1).2.1 (tp2 W n j).2 := rfl
        have htp : tp2 W n (j + 1) = ((tp2 W n j).1 - (en2 W n j).2.2.1, (en2 W n j).2.1) := rfl
        have hT : T2 W n j = ((en2 W n j).2.2.2, (tp2 W n j).1 - (en2 W n j).2.2.1, (en2 W n j).2.2.1, if (en2 W n j).2.2.2 = 0 then 0 else el (en2 W n j).1 0) := rfl
        have hcw := (hW (by omega)).ent (a := (tp2 W n j).1) (b := (tp2 W n j).2) (by omega) hok.2 (fun z => by
          have : j = 0 := by omega
          subst this
          rfl)
        rw [← hen] at hcw
        have hrK := (hI.1 ((tp2 W n j).1 - (en2 W n j).2.2.1) (by omega)).1
        have h29 : I1 29 (40 * (tp2 W n j).1 + (tp2 W n j).2) = nI (pkb (en2 W n j)) := by rw [ha 29 h5.2]; exact hcw.2
        have hmK := (hI.1 (tp2 W n j).1 (by omega)).1
        have hok2 := hok.2
        have hkey : (en2 W n j).1 < 2 ^ 60 := by
          have := hpv.2.2.2.2.2.2.2.2
          omega
        have hkd := (okS_lt hpv.2.2.2.2.2.2.1).1
        have hkd : (en2 W n j).2.2.2 < 8 := by
          have : (rwe (en2 W n j) (tp2 W n j).1).1 = (en2 W n j).2.2.2 := rfl
          omega
        have hl1 := hpv.1
        have hl2 := hpv.2.1
        have hl3 := hpv.2.2.2.1
        have hr1 := hpv.2.2.2.2.1
        have hB := hpv.2.2.2.2.2.2.2.1
        generalize en2 W n j = e at *
        obtain ⟨key, r, l, kd⟩ := e
        generalize haa : (tp2 W n j).1 = a at *
        generalize hbb : (tp2 W n j).2 = b at *
        dsimp only at *
        have step : ∀ bk, bk = (if kd = 0 then 0 else el key 0) → Wp (d + 2) 40 73 [some (.ref 20), some (.ref p), some (.int (nI a)), none, some (.int (nI (pkb (key, r, l, kd)))), some (.int (nI kd)), some (.int (nI l)), none] [.int (nI bk)] (xK 2 L, P, I1, J, xFr 2 c s) Q := by
          intro bk hbk
          refine wX4_tellSteps_73 (pcK hp) ?_
          rw [pk_sub (by omega)]
          refine p_add hf hL hp h1 (by omega) (fun I2 b1 b2 => ⟨_, _, rfl, ?_⟩)
          all_goals try dsimp only
          try dsimp only
          rw [pkb_r (e := (key, r, l, kd)) (by show r < 64; omega) (by show l < 512; omega) (by show kd < 8; omega), pk_mul, nI_add, Nat.mul_comm]
          have := ih (a - l) (by omega) (j + 1) I2 (by rw [htp]) (fun j' hj' => by
            by_cases z : j' = j
            · rw [z]; omega
            · exact hj j' (by omega)) (ha.tr b1 (by simp)) (b2.cg (fun i hi => by
            by_cases z : i = j
            · rw [z, va_up_self, hT, hbk]
            · rw [va_up_ne _ _ z]))
          rw [htp] at this
          exact this
        have hst := step _ rfl
        refine wX4_tellSteps_17 (f3 := 29) (f5 := 28) (xK_lt hf hL) (pcK hp) rfl rfl rfl rfl rfl (br2 (by first | (rw [nI_ltI (by omega) (by omega)]; omega) | (rw [nI_leI (by omega) (by omega)]; omega) | (rw [nI_eq (by omega) (by omega)]; omega) | (rw [nI_e0 (by omega)]; omega) | (rw [nI_le0 (by omega)]; omega)) ⟨40 * a + b, rfl, by omega, ?_⟩)
        rw [h29, pkb_kd (e := (key, r, l, kd)) (by show r < 64; omega) (by show l < 512; omega) (by show kd < 8; omega), pkb_l (e := (key, r, l, kd)) (by show r < 64; omega) (by show l < 512; omega) (by show kd < 8; omega)]
        dsimp only
        rw [mx1 hl1 (by omega)]
        refine brd (nI_e0 (by omega)) (fun h => ⟨40 * a + b, rfl, by omega, ?_⟩) (fun h => ?_)
        · rw [hcw.1]
          try dsimp only
          rw [xmask (by omega), ← lp_el]
          refine p_at hB (by decide) ⟨_, _, _, rfl, ?_⟩
          all_goals try dsimp only
          rw [if_neg h] at hst
          exact hst
        · rw [if_pos h] at hst
          exact hst
  refine wX4_tellSteps_0 (pcK hp) rfl rfl rfl (p_begin hp (R := T2 W n) (fun I1 b1 b2 => ⟨_, _, rfl, ?_⟩))
  all_goals try dsimp only
  try dsimp only
  have ha : xag I I1 [p, p + 1, p + 2, p + 3, p + 4] := xag.rfl.tr b1 (by simp)
  rw [ha 5 h5.1, h53, pk_mul, Nat.mul_comm]
  exact loop n 0 I1 rfl (fun j' h => by omega) ha b2
theorem p_begin2 (hL : L < 2147483648) (hK1 : 1 ≤ K) (hK2 : K ≤ 40) (hC : CC I 2 V) (hT : CT I n t 2) (h29 : I 29 0 = nI 0) (k : ∀ I' J', xag I I' [13, 14, 20, 30, 31] → (∀ a, a ≠ 28 → a ≠ 32 → J' a = J a) → (n ≠ 0 → CX I' J' V t n K W0) → Q (none, (xK 2 L, P, I', J', xFr 2 c s))) : Wp (d + 4) 32 0 [some (.ref 20), some (.int (nI K)), none] [] (xK 2 L, P, I, J, xFr 2 c s) Q := by
  have hf : 2 < 3 := by decide
  have hn := hT.2.2.2.1
  have loop : ∀ w i I1, n - i = w → i ≤ n → xag I I1 [13, 14, 20, 30, 31] → PR I1 2 n V → I1 20 7 = nI K → (∀ j, j < i → I1 30 j = nI 0 ∧ I1 31 j = nI 0) → Wp (d + 4) 32 27 [some (.ref 20), none, some (.int (nI i))] [] (xK 2 L, P, I1, J, xFr 2 c s) Q := by
    intro w
    induction w with
    | zero =>
      intro i I1 hw hi ha hP h7 h1
      have e : i = n := by omega
      subst e
      have h53 : I1 5 3 = nI i := by rw [ha 5 (by decide)]; exact hT.2.2.1
      refine wX4_begin_27 (f2 := 30) (f5 := 32) (f8 := 28) (f11 := 31) (xK_lt hf hL) rfl rfl rfl rfl rfl rfl rfl rfl rfl rfl (br1 (by rw [h53]; first | (rw [nI_ltI (by omega) (by omega)]; omega) | (rw [nI_leI (by omega) (by omega)]; omega) | (rw [nI_eq (by omega) (by omega)]; omega) | (rw [nI_e0 (by omega)]; omega) | (rw [nI_le0 (by omega)]; omega)) ⟨i, h53, by omega, 0, rfl, by omega, ?_⟩)
      refine p_fillJ (len := 301) (xK_lt hf hL) rfl (fun J1 g1 g2 => ⟨_, _, rfl, 0, rfl, by decide, ?_⟩)
      all_goals try dsimp only
      have ha2 : xag I (xup (xup I1 30 i (nI 0)) 30 0 (nI 1)) [13, 14, 20, 30, 31] := (ha.up (by simp)).up (by simp)
      refine k _ _ ha2 (fun a z1 z2 => by rw [xup_ne _ _ _ z1]; exact g1 a z2) (fun hn0 => ?_)
      have h30 : ∀ j, j ≤ i → xup (xup I1 30 i (nI 0)) 30 0 (nI 1) 30 j = nI (if j = 0 then 1 else 0) := fun j hj => by
        rw [xup_at]
        by_cases z : j = 0
        · rw [if_pos z, if_pos z]
        · rw [if_neg z, if_neg z, xup_at]
          by_cases z2 : j = i
          · rw [if_pos z2]
          · rw [if_neg z2]
            exact (h1 j (by omega)).1
      have h32 : ∀ j, j ≤ i → xup J1 28 0 (lN 134480385) 32 j = lN (2 ^ 62) := fun j hj => by
        rw [xup_ne _ _ _ (by decide)]
        exact g2 j (by omega)
      refine ⟨hC.ag ha2 (by decide), hT.ag ha2 (by decide) (by decide) (by decide) (by decide) (by decide), ?_, ?_, ⟨fun j hj => ?_, (0, fun _ => (0, 0, 0, 0), false), ?_, ?_, ?_⟩, ?_⟩
      · unfold PR
        rw [xup_ne _ _ _ (by decide), xup_ne _ _ _ (by decide), xup_ne _ _ _ (by decide), xup_ne _ _ _ (by decide)]
        exact hP
      · rw [xup_ne _ _ _ (by decide), xup_ne _ _ _ (by decide)]
        exact h7
      · refine ⟨?_, fun s' hs' => ?_, fun _ => ?_, ?_⟩
        · rw [h30 j (by omega)]
          unfold W0
          by_cases z : j = 0
          · rw [if_pos z, if_pos z]
          · rw [if_neg z, if_neg z]
        · by_cases z : j = 0
          · subst z
            have : s' < 1 := hs'
            have e0 : s' = 0 := by omega
            subst e0
            refine ⟨?_, ?_⟩
            · rw [xup_at, if_pos rfl]
              rfl
            · rw [xup_ne _ _ _ (by decide), xup_ne _ _ _ (by decide), ha 29 (by decide)]
              exact h29
          · unfold W0 at hs'
            rw [if_neg z] at hs'
            exact absurd hs' (Nat.not_lt_zero _)
        · rw [xup_ne _ _ _ (by decide), xup_ne _ _ _ (by decide), (h1 j hj).2]
          unfold W0
          by_cases z : j = 0
          · rw [if_pos z]; rfl
          · rw [if_neg z]; rfl
        · rw [h32 j (by omega)]
          unfold bnd W0
          by_cases z : j = 0
          · rw [if_pos z, if_neg (by
              rintro (⟨z1, z2⟩ | ⟨z1, z2⟩)
              · omega
              · cases z2)]
          · rw [if_neg z, if_neg (by
              rintro (⟨z1, z2⟩ | ⟨z1, z2⟩)
              · omega
              · cases z2)]
      · exact ⟨Nat.zero_le _, fun a b _ z => absurd z (Nat.not_lt_zero _), fun a b _ z => absurd z (Nat.not_lt_zero _), fun z => by cases z⟩
      · unfold W0
        rw [if_neg hn0]
        exact ⟨rfl, fun z => absurd z (Nat.not_lt_zero _)⟩
      · refine ⟨?_, fun s' hs' => absurd hs' (Nat.not_lt_zero _), fun z => absurd z (Nat.lt_irrefl _), ?_⟩
        · rw [h30 i (Nat.le_refl _), if_neg hn0]
        · rw [h32 i (Nat.le_refl _)]
          unfold bnd
          rw [if_neg (by
            rintro (⟨z1, z2⟩ | ⟨z1, z2⟩)
            · exact z2 rfl
            · cases z2)]
      · rw [xup_ne _ _ _ (by decide), xup_ne _ _ _ (by decide), ha 29 (by decide)]
        exact h29
    | succ w ih =>
      intro i I1 hw hi ha hP h7 h1
      have h53 : I1 5 3 = nI n := by rw [ha 5 (by decide)]; exact hT.2.2.1
      refine wX4_begin_27 (f2 := 30) (f5 := 32) (f8 := 28) (f11 := 31) (xK_lt hf hL) rfl rfl rfl rfl rfl rfl rfl rfl rfl rfl (br2 (by rw [h53]; first | (rw [nI_ltI (by omega) (by omega)]; omega) | (rw [nI_leI (by omega) (by omega)]; omega) | (rw [nI_eq (by omega) (by omega)]; omega) | (rw [nI_e0 (by omega)]; omega) | (rw [nI_le0 (by omega)]; omega)) ⟨i, rfl, by omega, i, rfl, by omega, ?_⟩)
      rw [nI_add]
      refine ih (i + 1) _ (by omega) (by omega) ((ha.up (by simp)).up (by simp)) ?_ (by rw [xup_ne _ _ _ (by decide), xup_ne _ _ _ (by decide)]; exact h7) (fun j hj => ?_)
      · unfold PR
        rw [xup_ne _ _ _ (by decide), xup_ne _ _ _ (by decide), xup_ne _ _ _ (by decide), xup_ne _ _ _ (by decide)]
        exact hP
      · refine ⟨?_, ?_⟩
        · rw [xup_ne _ _ _ (by decide), xup_at]
          by_cases z : j = i
          · rw [if_pos z]
          · rw [if_neg z]
            exact (h1 j (by omega)).1
        · rw [xup_at]
          by_cases z : j = i
          · rw [if_pos z]
          · rw [if_neg z, xup_ne _ _ _ (by decide)]
            exact (h1 j (by omega)).2
  refine wX4_begin_0 rfl rfl rfl rfl (p_prepare hf (by decide) hL hC hT (fun I1 a1 hP => ⟨_, _, rfl, ?_⟩))
  all_goals try dsimp only
  try dsimp only
  have hm : (if nI 1 < (if nI 40 < nI K then nI 40 else nI K) then (if nI 40 < nI K then nI 40 else nI K) else nI 1) = nI K := by
    rw [if_neg (show ¬ nI 40 < nI K from (by first | (rw [nI_ltI (by omega) (by omega)]; omega) | (rw [nI_leI (by omega) (by omega)]; omega) | (rw [nI_eq (by omega) (by omega)]; omega) | (rw [nI_e0 (by omega)]; omega) | (rw [nI_le0 (by omega)]; omega)))]
    exact mx1 hK1 (by omega)
  rw [hm]
  refine loop n 0 _ rfl (Nat.zero_le _) (xag.up (xag.rfl.tr a1 (by simp)) (by simp)) ?_ (by rw [xup_at, if_pos rfl]) (fun j h => by omega)
  unfold PR
  rw [xup_ne _ _ _ (by decide), xup_ne _ _ _ (by decide)]
  exact hP
theorem p_findBest2 (hL : L < 2147483648) (hp : p = 41 ∨ p = 47) (hK1 : 1 ≤ K) (hK2 : K ≤ 40) (hC : CC I 2 V) (hT : CT I n t 2) (h29 : I 29 0 = nI 0) (k : ∀ I' J' m, xag I I' [13, 14, 20, 29, 30, 31, p, p + 1, p + 2, p + 3, p + 4] → I' 29 0 = nI 0 → (∀ a, a ≠ 20 → a ≠ 28 → a ≠ 32 → J' a = J a) → TM2 (wr V t n K n) n m → PA I' p m (fun i => T2 (wr V t n K n) n (m - 1 - i)) → Q (some (.int (nI (dcn (wr V t n K n) n))), (xK 2 L, P, I', J', xFr 2 c s))) : Wp (d + 5) 31 0 [some (.ref 20), some (.ref p), some (.int (nI K)), none, none, none] [] (xK 2 L, P, I, J, xFr 2 c s) Q := by
  have hf : 2 < 3 := by decide
  have hn := hT.2.2.2.1
  have ht : ∀ j, j < n → t j < 256 := fun j hj => (hT.2.2.2.2.1 j hj).2
  have hB := hC.2.2.2
  have h29p : 29 ∉ [p, p + 1, p + 2, p + 3, p + 4] ∧ 5 ∉ [p, p + 1, p + 2, p + 3, p + 4] := by
    rcases hp with rfl | rfl <;> decide
  have fin : ∀ I1 J1, xag I I1 [13, 14, 20, 29, 30, 31] → (∀ a, a ≠ 20 → a ≠ 28 → a ≠ 32 → J1 a = J a) → (n ≠ 0 → CX I1 J1 V t n K (wr V t n K n)) → I1 29 0 = nI 0 → Wp (d + 5) 31 10 [some (.ref 20), some (.ref p), none, some (.int (nI (dcn (wr V t n K n) n))), some (.int (nI n)), none] [] (xK 2 L, P, I1, J1, xFr 2 c s) Q := by
    intro I1 J1 ha hj hX h290
    have h53 : I1 5 3 = nI n := by rw [ha 5 (by decide)]; exact hT.2.2.1
    refine wX4_findBest_10 rfl rfl rfl (br1 (by rw [h53]; first | (rw [nI_ltI (by omega) (by omega)]; omega) | (rw [nI_leI (by omega) (by omega)]; omega) | (rw [nI_eq (by omega) (by omega)]; omega) | (rw [nI_e0 (by omega)]; omega) | (rw [nI_le0 (by omega)]; omega)) ?_)
    refine p_tell2 hL hp hK2 hn (wr_IV hK1 hB hn ht n (Nat.le_refl _)) h53 (fun z => (hX z).2.2.2.2.1) (fun I2 m b1 b2 b3 => ⟨_, _, rfl, ?_⟩)
    all_goals try dsimp only
    refine k I2 J1 m (fun a haa => ?_) (by rw [b1 29 h29p.1]; exact h290) hj b2 b3
    simp at haa
    rw [b1 a (by simp; omega)]
    exact ha a (by simp; omega)
  have outer : ∀ w i I1 J1, n - i = w → i ≤ n → n ≠ 0 → xag I I1 [13, 14, 20, 29, 30, 31] → (∀ a, a ≠ 20 → a ≠ 28 → a ≠ 32 → J1 a = J a) → CX I1 J1 V t n K (wr V t n K i) → Wp (d + 5) 31 10 [some (.ref 20), some (.ref p), none, some (.int (nI (dcn (wr V t n K i) i))), some (.int (nI i)), none] [] (xK 2 L, P, I1, J1, xFr 2 c s) Q := by
    intro w
    induction w with
    | zero =>
      intro i I1 J1 hw hi hn0 ha hj hX
      have e : i = n := by omega
      subst e
      exact fin I1 J1 ha hj (fun _ => hX) hX.2.2.2.2.2
    | succ w ih =>
      intro i I1 J1 hw hi hn0 ha hj hX
      have hin : i < n := by omega
      have hIV := wr_IV (V := V) (t := t) hK1 hB hn ht i (by omega)
      have hm := (hIV.1 i (by omega)).1
      have inner : ∀ v r I2 J2, ((wr V t n K i) i).1 - r = v → r ≤ ((wr V t n K i) i).1 → xag I I2 [13, 14, 20, 29, 30, 31] → (∀ a, a ≠ 20 → a ≠ 28 → a ≠ 32 → J2 a = J a) → CX I2 J2 V t n K (plc V t n K i (wr V t n K i) r) → (∀ r0, r0 < r → SC V t n K i (((wr V t n K i) i).2.1 r0).1 (plc V t n K i (wr V t n K i) r)) → Wp (d + 5) 31 25 [some (.ref 20), some (.ref p), none, some (.int (nI (dcn (wr V t n K i) i))), some (.int (nI i)), some (.int (nI r))] [] (xK 2 L, P, I2, J2, xFr 2 c s) Q := by
        intro v
        induction v with
        | zero =>
          intro r I2 J2 hv hr ha2 hj2 hX2 hS
          have e : r = ((wr V t n K i) i).1 := by omega
          have hR := hX2.2.2.2.2.1.1 i hin
          rw [plc_low (wr V t n K i) (Nat.le_refl i) r] at hR
          have hdc : dcn (wr V t n K (i + 1)) (i + 1) = dcn (wr V t n K i) i + (if ((wr V t n K i) i).2.2 = true then 1 else 0) := by
            have hl : ∀ j, j ≤ i → wr V t n K (i + 1) j = wr V t n K i j := fun j hjj => wr_low 1 i j hjj
            rw [dcn, dcn_cg (fun j hjj => hl j (by omega)), hl i (Nat.le_refl _)]
          have hdl := dcn_le (wr V t n K i) i
          have hX3 : CX I2 J2 V t n K (wr V t n K (i + 1)) := by
            rw [wr, ← e]
            exact hX2
          have go := ih (i + 1) I2 J2 (by omega) (by omega) hn0 ha2 hj2 hX3
          rw [hdc] at go
          refine wX4_findBest_25 (f1 := 30) (f3 := 31) (xK_lt hf hL) rfl rfl rfl rfl rfl ⟨i, rfl, by omega, br1 (by rw [hR.1]; first | (rw [nI_ltI (by omega) (by omega)]; omega) | (rw [nI_leI (by omega) (by omega)]; omega) | (rw [nI_eq (by omega) (by omega)]; omega) | (rw [nI_e0 (by omega)]; omega) | (rw [nI_le0 (by omega)]; omega)) ⟨i, rfl, by omega, ?_⟩⟩
          rw [hR.2.2.1 hin, nI_add, nI_add]
          by_cases z : ((wr V t n K i) i).2.2 = true
          · rw [if_pos z] at go ⊢
            exact br2 (by decide) go
          · rw [if_neg z] at go ⊢
            exact br1 rfl go
        | succ v ih2 =>
          intro r I2 J2 hv hr ha2 hj2 hX2 hS
          have hR := hX2.2.2.2.2.1.1 i hin
          have hlow := plc_low (V := V) (t := t) (n := n) (K := K) (wr V t n K i) (Nat.le_refl i) r
          rw [hlow] at hR
          have hpl := plc_IV hK1 hB hn ht hin hIV r (by omega)
          refine wX4_findBest_25 (f1 := 30) (f3 := 31) (xK_lt hf hL) rfl rfl rfl rfl rfl ⟨i, rfl, by omega, br2 (by rw [hR.1]; first | (rw [nI_ltI (by omega) (by omega)]; omega) | (rw [nI_leI (by omega) (by omega)]; omega) | (rw [nI_eq (by omega) (by omega)]; omega) | (rw [nI_e0 (by omega)]; omega) | (rw [nI_le0 (by omega)]; omega)) ?_⟩
          refine p_goFrom hL hK1 hK2 hpl.1 hX2 hin (by rw [hlow]; omega) (fun r0 hr0 => by rw [hlow]; exact hS r0 hr0) (fun I3 J3 c1 c2 c3 c4 => ⟨_, _, rfl, ?_⟩)
          all_goals try dsimp only
          try dsimp only
          rw [hlow] at c4
          rw [nI_add]
          refine ih2 (r + 1) I3 J3 (by omega) (by omega) (fun a haa => ?_) (fun a z1 z2 z3 => by rw [c3 a z1 z2 z3]; exact hj2 a z1 z2 z3) c4 (fun r0 hr0 => ?_)
          · simp at haa
            rw [c1 a (by simp; omega)]
            exact ha2 a (by simp; omega)
          · rw [plc]
            by_cases z : r0 = r
            · rw [z]
              exact exs_SC0 hK1 hB hn ht hpl.1 (hpl.2 r (by omega))
            · exact exs_SC hK1 hB hn ht hpl.1 (hpl.2 r (by omega)) (hS r0 (by omega))
      have h53 : I1 5 3 = nI n := by rw [ha 5 (by decide)]; exact hT.2.2.1
      refine wX4_findBest_10 rfl rfl rfl (br2 (by rw [h53]; first | (rw [nI_ltI (by omega) (by omega)]; omega) | (rw [nI_leI (by omega) (by omega)]; omega) | (rw [nI_eq (by omega) (by omega)]; omega) | (rw [nI_e0 (by omega)]; omega) | (rw [nI_le0 (by omega)]; omega)) ?_)
      exact inner _ 0 I1 J1 rfl (Nat.zero_le _) ha hj hX (fun r0 h => by omega)
  refine wX4_findBest_0 rfl (p_begin2 hL hK1 hK2 hC hT h29 (fun I1 J1 b1 b2 b3 => ⟨_, _, rfl, ?_⟩))
  all_goals try dsimp only
  try dsimp only
  have ha : xag I I1 [13, 14, 20, 29, 30, 31] := xag.rfl.tr b1 (by simp)
  by_cases e : n = 0
  · have h290 : I1 29 0 = nI 0 := by rw [b1 29 (by decide)]; exact h29
    have := fin I1 J1 ha (fun a z1 z2 z3 => b2 a z2 z3) (fun z => absurd e z) h290
    subst e
    exact this
  · exact outer n 0 I1 J1 rfl (Nat.zero_le _) e ha (fun a z1 z2 z3 => b2 a z2 z3) (b3 e)
end WDC3
