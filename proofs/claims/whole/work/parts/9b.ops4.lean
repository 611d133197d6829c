/-! THE OPERATIONS that only tell -/
def sl (w : Nat) (q : xSt) : Nat := if w = 0 then q.2.1 else if w = 1 then q.2.2.1 else if w = 2 then q.2.2.2 else q.1
def StOk (ps m : Nat) (x y : Int32) (i w : Nat) : Prop := ps = 1 ∧ x = nI i ∧ i < m ∧ y = nI w ∧ w ≤ 3
def IxOk (n : Nat) (x : Int32) (p : Nat) : Prop := x = nI p ∧ p < n
theorem noIx {n : Nat} {x : Int32} (hn : n < 2 ^ 31) (h : ∀ p, ¬ IxOk n x p) : x < 0 ∨ nI n ≤ x := by
  rcases nI_ix x (n := n) hn with ⟨j, hj, hx⟩ | hx
  · exact absurd ⟨hx, hj⟩ (h j)
  · exact hx
section OPT
variable {d f L c s n m kp dr ps sm le cn tn : Nat} {t C T : Nat → Nat} {V : Nat → Nat → Nat} {R : Nat → xSt} {Q : Option Value × xS → Prop} {P : List Nat × Nat × Nat} {I : Nat → Nat → Int32} {J : Nat → Nat → Int64}
theorem p_stepC1 (hf : f < 3) (hL : L < 2147483648) (hp : c = 41 ∨ c = 47) (hps : I 4 9 = nI ps) (h0 : ps = 1 → PA I c m R) {x y : Int32} {i w : Nat} (ho : StOk ps m x y i w) (k : Q (some (.int (nI (sl w (R i)))), (xK f L, P, I, J, xFr f c s))) : Wp (d + 1) 79 0 [some (.ref 4), some (.int x), some (.int y)] [] (xK f L, P, I, J, xFr f c s) Q := by
  obtain ⟨h1, hx, hi, hy, hw⟩ := ho
  subst h1 hx hy
  have hP := h0 rfl
  have hm := hP.2.1
  have hrow := hP.2.2 i hi
  refine wX10_step_0 (xK_lt hf hL) rfl rfl (pcK hp) (pcF0 hp) (pcA1 hp) (pcF1 hp) (pcA2 hp) (pcF2 hp) (pcA3 hp) (pcF3 hp) (pcA4 hp) (br2 (by rw [hps]; decide) ?_)
  refine p_hasStep hp hP (fun j hj hx => ⟨_, _, _, rfl, ?_⟩) (fun z => absurd rfl (z i hi))
  all_goals try dsimp only
  refine bn1 (by decide) ?_
  rcases (by omega : w = 0 ∨ w = 1 ∨ w = 2 ∨ w = 3) with rfl | rfl | rfl | rfl
  · refine br1 rfl ⟨i, rfl, by omega, ?_⟩
    rw [hrow.2.1]
    exact k
  · refine br2 (by decide) (br1 rfl ⟨i, rfl, by omega, ?_⟩)
    rw [hrow.2.2.1]
    exact k
  · refine br2 (by decide) (br2 (by decide) (br1 rfl ⟨i, rfl, by omega, ?_⟩))
    rw [hrow.2.2.2]
    exact k
  · refine br2 (by decide) (br2 (by decide) (br2 (by decide) (br1 rfl ⟨i, rfl, by omega, ?_⟩)))
    rw [hrow.1]
    exact k
theorem p_stepC0 (hf : f < 3) (hL : L < 2147483648) (hp : c = 41 ∨ c = 47) (hps : I 4 9 = nI ps) (hps2 : ps < 2) (h0 : ps = 1 → PA I c m R) {x y : Int32} (ho : ∀ i w, ¬ StOk ps m x y i w) (k : Q (some (.int (-1)), (xK f L, P, I, J, xFr f c s))) : Wp (d + 1) 79 0 [some (.ref 4), some (.int x), some (.int y)] [] (xK f L, P, I, J, xFr f c s) Q := by
  refine wX10_step_0 (xK_lt hf hL) rfl rfl (pcK hp) (pcF0 hp) (pcA1 hp) (pcF1 hp) (pcA2 hp) (pcF2 hp) (pcA3 hp) (pcF3 hp) (pcA4 hp) ⟨fun _ => k, fun h1 => ?_⟩
  rw [hps] at h1
  have e : ps = 1 := by
    by_cases z : ps = 0
    · rw [z] at h1
      exact absurd rfl h1
    · omega
  refine p_hasStep hp (h0 e) (fun j hj hx => ⟨_, _, _, rfl, ?_⟩) (fun z => ⟨_, _, _, rfl, bn2 rfl k⟩)
  all_goals try dsimp only
  refine bn1 (by decide) ⟨fun z => absurd ⟨e, hx, hj, z, by omega⟩ (ho j 0), fun _ => ⟨fun z => absurd ⟨e, hx, hj, z, by omega⟩ (ho j 1), fun _ => ⟨fun z => absurd ⟨e, hx, hj, z, by omega⟩ (ho j 2), fun _ => ⟨fun z => absurd ⟨e, hx, hj, z, by omega⟩ (ho j 3), fun _ => k⟩⟩⟩⟩
theorem p_stepM1 (hf : f < 3) (hL : L < 2147483648) (hps : I 59 10 = nI ps) (h0 : ps = 1 → MA I m R) {x y : Int32} {i w : Nat} (ho : StOk ps m x y i w) (k : Q (some (.int (nI (sl w (R i)))), (xK f L, P, xup I 59 0 (nI 0), J, xFr f c s))) : Wp d 146 0 [some (.ref 59), some (.int x), some (.int y)] [] (xK f L, P, I, J, xFr f c s) Q := by
  obtain ⟨h1, hx, hi, hy, hw⟩ := ho
  subst h1 hx hy
  have hP := h0 rfl
  have hm := hP.2.1
  have hrow := hP.2.2 i hi
  have e10 : xup I 59 0 (nI 0) 59 10 = nI 1 := by rw [xup_at, if_neg (by decide)]; exact hps
  have e11 : xup I 59 0 (nI 0) 59 11 = nI m := by rw [xup_at, if_neg (by decide)]; exact hP.1
  refine wX11_step_0 (xK_lt hf hL) rfl rfl rfl rfl rfl rfl rfl rfl rfl (br2 (by rw [e10]; decide) (br2 (nI_pos (by omega)) (br2 (by rw [e11]; first | (rw [nI_ltI (by omega) (by omega)]; omega) | (rw [nI_leI (by omega) (by omega)]; omega) | (rw [nI_eq (by omega) (by omega)]; omega) | (rw [nI_e0 (by omega)]; omega) | (rw [nI_le0 (by omega)]; omega)) (br2 (nI_pos (by omega)) (br1 (by first | (rw [nI_ltI (by omega) (by omega)]; omega) | (rw [nI_leI (by omega) (by omega)]; omega) | (rw [nI_eq (by omega) (by omega)]; omega) | (rw [nI_e0 (by omega)]; omega) | (rw [nI_le0 (by omega)]; omega)) ?_)))))
  rcases (by omega : w = 0 ∨ w = 1 ∨ w = 2 ∨ w = 3) with rfl | rfl | rfl | rfl
  · refine bn2 rfl ⟨i, rfl, by omega, ?_⟩
    rw [xup_ne _ _ _ (by decide), hrow.2.1]
    exact k
  · refine bn1 (by decide) (bn2 rfl ⟨i, rfl, by omega, ?_⟩)
    rw [xup_ne _ _ _ (by decide), hrow.2.2.1]
    exact k
  · refine bn1 (by decide) (bn1 (by decide) (bn2 rfl ⟨i, rfl, by omega, ?_⟩))
    rw [xup_ne _ _ _ (by decide), hrow.2.2.2]
    exact k
  · refine bn1 (by decide) (bn1 (by decide) (bn1 (by decide) ⟨i, rfl, by omega, ?_⟩))
    rw [xup_ne _ _ _ (by decide), hrow.1]
    exact k
theorem p_stepM0 (hf : f < 3) (hL : L < 2147483648) (hps : I 59 10 = nI ps) (hps2 : ps < 2) (h0 : ps = 1 → MA I m R) {x y : Int32} (ho : ∀ i w, ¬ StOk ps m x y i w) (k : Q (some (.int (-1)), (xK f L, P, xup I 59 0 (nI 0), J, xFr f c s))) : Wp d 146 0 [some (.ref 59), some (.int x), some (.int y)] [] (xK f L, P, I, J, xFr f c s) Q := by
  have e10 : xup I 59 0 (nI 0) 59 10 = nI ps := by rw [xup_at, if_neg (by decide)]; exact hps
  refine wX11_step_0 (xK_lt hf hL) rfl rfl rfl rfl rfl rfl rfl rfl rfl ⟨fun _ => k, fun h1 => ⟨fun _ => k, fun h2 => ⟨fun _ => k, fun h3 => ⟨fun _ => k, fun h4 => ?_⟩⟩⟩⟩
  rw [e10] at h1
  have e : ps = 1 := by
    by_cases z : ps = 0
    · rw [z] at h1
      exact absurd rfl h1
    · omega
  have hP := h0 e
  have hm := hP.2.1
  have e11 : xup I 59 0 (nI 0) 59 11 = nI m := by rw [xup_at, if_neg (by decide)]; exact hP.1
  rw [e11] at h3
  obtain ⟨i, hi, hx⟩ := nI_yes (by omega) h2 h3
  refine br2 (fun z => ?_) k
  rcases nI_ix y (n := 4) (by decide) with ⟨w, hw, hy⟩ | hy | hy
  · exact ho i w ⟨e, hx, hi, hy, by omega⟩
  · exact h4 hy
  · exact absurd (Int32.le_trans hy z) (by decide)
/-! sum, again, least -/
theorem p_sumC (hf : f < 3) (hp : c = 41 ∨ c = 47) (hps : I 4 9 = nI ps) (hps2 : ps < 2) (h0 : ps = 1 → J c 6 = lN sm) (k : Q (some (.long (if ps = 1 then lN sm else -1)), (xK f L, P, I, J, xFr f c s))) : Wp d 80 0 [some (.ref 4)] [] (xK f L, P, I, J, xFr f c s) Q := by
  rcases (by omega : ps = 0 ∨ ps = 1) with rfl | rfl
  · exact wX10_sum_0 rfl rfl (pcK hp) (br1 (by rw [hps]; rfl) k)
  · refine wX10_sum_0 rfl rfl (pcK hp) (br2 (by rw [hps]; decide) ?_)
    rw [h0 rfl]
    exact k
theorem p_sumM (hf : f < 3) (hps : I 59 10 = nI ps) (hps2 : ps < 2) (h0 : ps = 1 → J 59 16 = lN sm) (k : Q (some (.long (if ps = 1 then lN sm else -1)), (xK f L, P, xup I 59 0 (nI 0), J, xFr f c s))) : Wp d 147 0 [some (.ref 59)] [] (xK f L, P, I, J, xFr f c s) Q := by
  have e10 : xup I 59 0 (nI 0) 59 10 = nI ps := by rw [xup_at, if_neg (by decide)]; exact hps
  rcases (by omega : ps = 0 ∨ ps = 1) with rfl | rfl
  · exact wX11_sum_0 rfl (br1 (by rw [e10]; rfl) k)
  · refine wX11_sum_0 rfl (br2 (by rw [e10]; decide) ?_)
    rw [h0 rfl]
    exact k
theorem p_againC (hf : f < 3) (hL : L < 2147483648) (hp : c = 41 ∨ c = 47) (hC : CI I f n t V) (hps : I 4 9 = nI ps) (hps2 : ps < 2) (h0 : ps = 1 → PA I c m R ∧ VS t f n m R) (k : Q (some (.long (if ps = 1 then lN (allc V f t R m) else -1)), (xK f L, P, I, J, xFr f c s))) : Wp (d + 5) 81 0 [some (.ref 4)] [] (xK f L, P, I, J, xFr f c s) Q := by
  rcases (by omega : ps = 0 ∨ ps = 1) with rfl | rfl
  · exact wX10_again_0 rfl rfl rfl xk20 (xt20 hf) (xl20 hf) (br1 (by rw [hps]; rfl) k)
  · refine wX10_again_0 rfl rfl rfl xk20 (xt20 hf) (xl20 hf) (br2 (by rw [hps]; decide) ?_)
    exact p_costC hf hL hp hC (h0 rfl).1 (h0 rfl).2 (xt20 hf) ⟨_, _, _, rfl, k⟩
theorem p_againM (hf : f < 3) (hL : L < 2147483648) (hM : MV I f V) (hT : MT I n t) (hps : I 59 10 = nI ps) (hps2 : ps < 2) (h0 : ps = 1 → MA I m R ∧ VS t f n m R) (k : Q (some (.long (if ps = 1 then lN (allc V f t R m) else -1)), (xK f L, P, xup I 59 0 (nI 0), J, xFr f c s))) : Wp (d + 5) 148 0 [some (.ref 59)] [] (xK f L, P, I, J, xFr f c s) Q := by
  have e10 : xup I 59 0 (nI 0) 59 10 = nI ps := by rw [xup_at, if_neg (by decide)]; exact hps
  rcases (by omega : ps = 0 ∨ ps = 1) with rfl | rfl
  · exact wX11_again_0 rfl (br1 (by rw [e10]; rfl) k)
  · refine wX11_again_0 rfl (br2 (by rw [e10]; decide) ?_)
    have hA := (h0 rfl).1
    exact p_allCostM hf hL (xup0_MV hM) ⟨by rw [xup_at, if_neg (by decide)]; exact hT.1, hT.2.1, by rw [xup_ne _ _ _ (by decide)]; exact hT.2.2⟩ ⟨by rw [xup_at, if_neg (by decide)]; exact hA.1, hA.2.1, by rw [xup_ne _ _ _ (by decide), xup_ne _ _ _ (by decide), xup_ne _ _ _ (by decide), xup_ne _ _ _ (by decide)]; exact hA.2.2⟩ (h0 rfl).2 ⟨_, _, _, rfl, k⟩
theorem p_leastC (hf : f < 3) (hp : c = 41 ∨ c = 47) (hps : I 4 9 = nI ps) (hps2 : ps < 2) (hle : le < 2) (h0 : ps = 1 → I c 7 = nI le) (k : Q (some (.int (nI (if ps = 1 then le else 0))), (xK f L, P, I, J, xFr f c s))) : Wp d 82 0 [some (.ref 4)] [] (xK f L, P, I, J, xFr f c s) Q := by
  rcases (by omega : ps = 0 ∨ ps = 1) with rfl | rfl
  · exact wX10_least_0 rfl rfl (pcK hp) (br1 (by rw [hps]; rfl) k)
  · refine wX10_least_0 rfl rfl (pcK hp) (br2 (by rw [hps]; decide) ?_)
    rw [h0 rfl]
    rcases (by omega : le = 0 ∨ le = 1) with rfl | rfl
    · exact br1 rfl k
    · exact br2 (by decide) k
theorem p_leastM (hf : f < 3) (hps : I 59 10 = nI ps) (hps2 : ps < 2) (hle : le < 2) (h0 : ps = 1 → I 59 17 = nI le) (k : Q (some (.int (nI (if ps = 1 then le else 0))), (xK f L, P, xup I 59 0 (nI 0), J, xFr f c s))) : Wp d 149 0 [some (.ref 59)] [] (xK f L, P, I, J, xFr f c s) Q := by
  have e10 : xup I 59 0 (nI 0) 59 10 = nI ps := by rw [xup_at, if_neg (by decide)]; exact hps
  rcases (by omega : ps = 0 ∨ ps = 1) with rfl | rfl
  · exact wX11_least_0 rfl (br1 (by rw [e10]; rfl) k)
  · refine wX11_least_0 rfl (br2 (by rw [e10]; decide) ?_)
    rw [show xup I 59 0 (nI 0) 59 17 = nI le by rw [xup_at, if_neg (by decide)]; exact h0 rfl]
    rcases (by omega : le = 0 ∨ le = 1) with rfl | rfl
    · exact br1 rfl k
    · exact br2 (by decide) k
/-! told -/
theorem p_toldC1 (hf : f < 3) (hL : L < 2147483648) (hp : c = 41 ∨ c = 47) (hT : CT I n t f) (hps : I 4 9 = nI 1) (h0 : TO I c n t) {x : Int32} {i : Nat} (ho : IxOk n x i) (k : Q (some (.int (nI (t i))), (xK f L, P, I, J, xFr f c s))) : Wp (d + 1) 83 0 [some (.ref 4), some (.int x)] [] (xK f L, P, I, J, xFr f c s) Q := by
  obtain ⟨hx, hi⟩ := ho
  subst hx
  have hn := hT.2.2.2.1
  refine wX10_told_0 (xK_lt hf hL) rfl rfl rfl rfl (pcK hp) (pcF4 hp) (pcA5 hp) (br2 (by rw [hps]; decide) (p_has hT (fun p hpn hx => ⟨_, _, _, rfl, br2 (by decide) ⟨i, rfl, by omega, ?_⟩⟩) (fun z => absurd rfl (z i hi))))
  all_goals try dsimp only
  rw [h0 i hi]
  exact k
theorem p_toldC0 (hf : f < 3) (hL : L < 2147483648) (hp : c = 41 ∨ c = 47) (hT : CT I n t f) (hps : I 4 9 = nI ps) (hps2 : ps < 2) {x : Int32} (ho : ps = 0 ∨ ∀ i, ¬ IxOk n x i) (k : Q (some (.int (-1)), (xK f L, P, I, J, xFr f c s))) : Wp (d + 1) 83 0 [some (.ref 4), some (.int x)] [] (xK f L, P, I, J, xFr f c s) Q := by
  refine wX10_told_0 (xK_lt hf hL) rfl rfl rfl rfl (pcK hp) (pcF4 hp) (pcA5 hp) ⟨fun _ => k, fun h1 => ?_⟩
  rcases ho with z | z
  · rw [hps, z] at h1
    exact absurd rfl h1
  · exact p_has hT (fun p hpn hx => absurd ⟨hx, hpn⟩ (z p)) (fun z => ⟨_, _, _, rfl, br1 rfl k⟩)
/-! longest, distance -/
theorem p_longestC1 (hf : f < 3) (hL : L < 2147483648) (hT : CT I n t f) {x : Int32} {i : Nat} (ho : IxOk n x i) (k : Q (some (.int (nI (lc t n f i))), (xK f L, P, I, J, xFr f c s))) : Wp (d + 2) 85 0 [some (.ref 4), some (.int x)] [] (xK f L, P, I, J, xFr f c s) Q := by
  obtain ⟨hx, hi⟩ := ho
  subst hx
  have hn := hT.2.2.2.1
  refine wX10_longest_0 rfl rfl rfl (p_has hT (fun p hpn hx => ⟨_, _, _, rfl, br2 (by decide) (p_longestCopy hf hL hT (fun q hq hxq => ⟨_, _, _, rfl, ?_⟩) (fun z => absurd rfl (z i hi)))⟩) (fun z => absurd rfl (z i hi)))
  all_goals try dsimp only
  have e : i = q := (nI_eq (by omega) (by omega)).mp hxq
  subst e
  exact k
theorem p_longestC0 (hf : f < 3) (hT : CT I n t f) {x : Int32} (ho : ∀ i, ¬ IxOk n x i) (k : Q (some (.int (-1)), (xK f L, P, I, J, xFr f c s))) : Wp (d + 2) 85 0 [some (.ref 4), some (.int x)] [] (xK f L, P, I, J, xFr f c s) Q :=
  wX10_longest_0 rfl rfl rfl (p_has hT (fun p hpn hx => absurd ⟨hx, hpn⟩ (ho p)) (fun z => ⟨_, _, _, rfl, br1 rfl k⟩))
theorem xup0_MT {v : Int32} (h : MT I n t) : MT (xup I 59 0 v) n t := ⟨by rw [xup_at, if_neg (by decide)]; exact h.1, h.2.1, by rw [xup_ne _ _ _ (by decide)]; exact h.2.2⟩
theorem p_longestM1 (hf : f < 3) (hL : L < 2147483648) (hM : MV I f V) (hT : MT I n t) {x : Int32} {i : Nat} (ho : IxOk n x i) (k : ∀ I', xag (xup I 59 0 (nI 0)) I' [79, 80] → Q (some (.int (nI (lc t n f i))), (xK f L, P, I', J, xFr f c s))) : Wp (d + 2) 151 0 [some (.ref 59), some (.int x)] [] (xK f L, P, I, J, xFr f c s) Q := by
  obtain ⟨hx, hi⟩ := ho
  subst hx
  have hn := hT.2.1
  have hT0 := xup0_MT (v := nI 0) hT
  have hM0 := xup0_MV (v := nI 0) hM
  refine wX11_longest_0 rfl (br2 (nI_pos (by omega)) (br1 (by rw [hT0.1]; first | (rw [nI_ltI (by omega) (by omega)]; omega) | (rw [nI_leI (by omega) (by omega)]; omega) | (rw [nI_eq (by omega) (by omega)]; omega) | (rw [nI_e0 (by omega)]; omega) | (rw [nI_le0 (by omega)]; omega)) ?_))
  refine p_layOut hf hL hT0 hM0.1 (fun I1 a1 a2 => ⟨_, _, rfl, ?_⟩)
  all_goals try dsimp only
  exact p_longestCopyM hf hL (hM0.ag a1 (by decide)).1 a2 hn hi ⟨_, _, _, rfl, k I1 a1⟩
theorem p_longestM0 (hf : f < 3) (hT : MT I n t) {x : Int32} (ho : ∀ i, ¬ IxOk n x i) (k : Q (some (.int (-1)), (xK f L, P, xup I 59 0 (nI 0), J, xFr f c s))) : Wp (d + 2) 151 0 [some (.ref 59), some (.int x)] [] (xK f L, P, I, J, xFr f c s) Q := by
  have hn := hT.2.1
  have hT0 := xup0_MT (v := nI 0) hT
  refine wX11_longest_0 rfl ⟨fun _ => k, fun h1 => ?_⟩
  rw [hT0.1]
  rcases noIx (by omega) ho with z | z
  · exact absurd z h1
  · exact br2 (fun w => Int32.lt_irrefl (Int32.lt_of_lt_of_le w z)) k
def DiOk (f n : Nat) (t : Nat → Nat) (x y : Int32) (p l : Nat) : Prop := x = nI p ∧ p < n ∧ y = nI l ∧ xlt f ≤ l ∧ l ≤ lr t n (xgt f) p
theorem p_distanceC1 (hf : f < 3) (hL : L < 2147483648) (hT : CT I n t f) {x y : Int32} {p l : Nat} (ho : DiOk f n t x y p l) (k : Q (some (.int (nI (nd t n (xgt f) p l))), (xK f L, P, I, J, xFr f c s))) : Wp (d + 2) 86 0 [some (.ref 4), some (.int x), some (.int y), none] [] (xK f L, P, I, J, xFr f c s) Q := by
  obtain ⟨hx, hp, hy, h1, h2⟩ := ho
  subst hx hy
  have hn := hT.2.2.2.1
  have hx1 := xlt_pos f
  have hok := nd_ok (t := t) (n := n) (G := xgt f) (i := p) (l := l) (by omega) h2
  refine wX10_distance_0 rfl rfl rfl (p_copyDistanceN hf hL hT hp h1 h2 ⟨_, _, _, rfl, ?_⟩)
  all_goals try dsimp only
  exact br2 (by first | (rw [nI_ltI (by omega) (by omega)]; omega) | (rw [nI_leI (by omega) (by omega)]; omega) | (rw [nI_eq (by omega) (by omega)]; omega) | (rw [nI_e0 (by omega)]; omega) | (rw [nI_le0 (by omega)]; omega)) k
theorem p_distanceC0 (hf : f < 3) (hL : L < 2147483648) (hT : CT I n t f) {x y : Int32} (ho : ∀ p l, ¬ DiOk f n t x y p l) (k : Q (some (.int (-1)), (xK f L, P, I, J, xFr f c s))) : Wp (d + 2) 86 0 [some (.ref 4), some (.int x), some (.int y), none] [] (xK f L, P, I, J, xFr f c s) Q := by
  refine wX10_distance_0 rfl rfl rfl (p_copyDistance hf hL hT (fun p l z1 z2 z3 z4 z5 => absurd ⟨z4, z1, z5, z2, z3⟩ (ho p l)) (fun z => ⟨_, _, _, rfl, ?_⟩))
  all_goals try dsimp only
  exact br1 (by decide) k
theorem p_distanceM1 (hf : f < 3) (hL : L < 2147483648) (hM : MV I f V) (hT : MT I n t) {x y : Int32} {p l : Nat} (ho : DiOk f n t x y p l) (k : ∀ I', xag (xup I 59 0 (nI 0)) I' [79, 80] → Q (some (.int (nI (nd t n (xgt f) p l))), (xK f L, P, I', J, xFr f c s))) : Wp (d + 2) 152 0 [some (.ref 59), some (.int x), some (.int y), none] [] (xK f L, P, I, J, xFr f c s) Q := by
  obtain ⟨hx, hp, hy, h1, h2⟩ := ho
  subst hx hy
  have hn := hT.2.1
  have hx1 := xlt_pos f
  have hx2 := xgt_le f
  have hl := lr_le t n (xgt f) p
  have hok := nd_ok (t := t) (n := n) (G := xgt f) (i := p) (l := l) (by omega) h2
  have hT0 := xup0_MT (v := nI 0) hT
  have hM0 := xup0_MV (v := nI 0) hM
  refine wX11_distance_0 (xK_lt hf hL) rfl rfl rfl (br2 (nI_pos (by omega)) (br2 (by rw [hT0.1]; first | (rw [nI_ltI (by omega) (by omega)]; omega) | (rw [nI_leI (by omega) (by omega)]; omega) | (rw [nI_eq (by omega) (by omega)]; omega) | (rw [nI_e0 (by omega)]; omega) | (rw [nI_le0 (by omega)]; omega)) ?_))
  refine p_shortestM hf hM0.1 ⟨_, _, _, rfl, ?_⟩
  all_goals try dsimp only
  refine br2 (by first | (rw [nI_ltI (by omega) (by omega)]; omega) | (rw [nI_leI (by omega) (by omega)]; omega) | (rw [nI_eq (by omega) (by omega)]; omega) | (rw [nI_e0 (by omega)]; omega) | (rw [nI_le0 (by omega)]; omega)) (p_greatestM hf hM0.1 ⟨_, _, _, rfl, ?_⟩)
  all_goals try dsimp only
  refine br1 (by first | (rw [nI_ltI (by omega) (by omega)]; omega) | (rw [nI_leI (by omega) (by omega)]; omega) | (rw [nI_eq (by omega) (by omega)]; omega) | (rw [nI_e0 (by omega)]; omega) | (rw [nI_le0 (by omega)]; omega)) (p_layOut hf hL hT0 hM0.1 (fun I1 a1 a2 => ⟨_, _, rfl, 301 * p + l, by rw [pk_mul, nI_add], by omega, ?_⟩))
  all_goals try dsimp only
  rw [a2.2 p l hp hp (by omega) (by omega)]
  exact bn1 (by first | (rw [nI_ltI (by omega) (by omega)]; omega) | (rw [nI_leI (by omega) (by omega)]; omega) | (rw [nI_eq (by omega) (by omega)]; omega) | (rw [nI_e0 (by omega)]; omega) | (rw [nI_le0 (by omega)]; omega)) (k I1 a1)
theorem p_distanceM0 (hf : f < 3) (hL : L < 2147483648) (hM : MV I f V) (hT : MT I n t) {x y : Int32} (ho : ∀ p l, ¬ DiOk f n t x y p l) (k : ∀ I', xag (xup I 59 0 (nI 0)) I' [79, 80] → Q (some (.int (-1)), (xK f L, P, I', J, xFr f c s))) : Wp (d + 2) 152 0 [some (.ref 59), some (.int x), some (.int y), none] [] (xK f L, P, I, J, xFr f c s) Q := by
  have hn := hT.2.1
  have hx1 := xlt_pos f
  have hx2 := xgt_le f
  have hx3 := xlt_le f
  have hT0 := xup0_MT (v := nI 0) hT
  have hM0 := xup0_MV (v := nI 0) hM
  have k0 := k _ xag.rfl
  refine wX11_distance_0 (xK_lt hf hL) rfl rfl rfl ⟨fun _ => k0, fun h1 => ⟨fun _ => k0, fun h2 => ?_⟩⟩
  rw [hT0.1] at h2
  obtain ⟨p, hp, hx⟩ := nI_yes (by omega) h1 h2
  subst hx
  refine p_shortestM hf hM0.1 ⟨_, _, _, rfl, ?_⟩
  all_goals try dsimp only
  refine ⟨fun _ => k0, fun h3 => p_greatestM hf hM0.1 ⟨_, _, _, rfl, ⟨fun h4 => ?_, fun _ => k0⟩⟩⟩
  all_goals try dsimp only
  rcases nI_ix y (n := xgt f + 1) (by omega) with ⟨l, hl, hy⟩ | hy | hy
  · subst hy
    rw [nI_ltI (by omega) (by omega)] at h3
    have h5 : lr t n (xgt f) p < l := by
      have : ¬ l ≤ lr t n (xgt f) p := fun z => ho p l ⟨rfl, hp, rfl, by omega, z⟩
      omega
    refine p_layOut hf hL hT0 hM0.1 (fun I1 a1 a2 => ⟨_, _, rfl, 301 * p + l, by rw [pk_mul, nI_add], by omega, ?_⟩)
    all_goals try dsimp only
    rw [a2.2 p l hp hp (by omega) (by omega), (nd_0 (by omega)).mpr h5]
    exact bn2 rfl (k I1 a1)
  · exact absurd (Int32.lt_of_lt_of_le hy (nI_pos' (by omega))) h3
  · have h6 := Int32.le_trans hy h4
    rw [nI_leI (by omega) (by omega)] at h6
    omega
/-! taken, many -/
theorem p_takenC1 (hf : f < 3) (hL : L < 2147483648) (htn : I 34 4 = nI tn) (ht2 : tn ≤ 12) (h0 : ∀ i, i < tn → I 36 i = nI (T i)) {x : Int32} {i : Nat} (ho : IxOk tn x i) (k : Q (some (.int (nI (T i))), (xK f L, P, I, J, xFr f c s))) : Wp d 89 0 [some (.ref 4), some (.int x)] [] (xK f L, P, I, J, xFr f c s) Q := by
  obtain ⟨hx, hi⟩ := ho
  subst hx
  refine wX10_taken_0 (xK_lt hf hL) rfl rfl rfl rfl rfl (br2 (nI_pos (by omega)) (br2 (by rw [htn]; first | (rw [nI_ltI (by omega) (by omega)]; omega) | (rw [nI_leI (by omega) (by omega)]; omega) | (rw [nI_eq (by omega) (by omega)]; omega) | (rw [nI_e0 (by omega)]; omega) | (rw [nI_le0 (by omega)]; omega)) ⟨i, rfl, by omega, ?_⟩))
  rw [h0 i hi]
  exact k
theorem p_takenC0 (hf : f < 3) (hL : L < 2147483648) (htn : I 34 4 = nI tn) (ht2 : tn ≤ 12) {x : Int32} (ho : ∀ i, ¬ IxOk tn x i) (k : Q (some (.int (-1)), (xK f L, P, I, J, xFr f c s))) : Wp d 89 0 [some (.ref 4), some (.int x)] [] (xK f L, P, I, J, xFr f c s) Q := by
  refine wX10_taken_0 (xK_lt hf hL) rfl rfl rfl rfl rfl ⟨fun _ => k, fun h1 => ?_⟩
  rw [htn]
  rcases noIx (by omega) ho with z | z
  · exact absurd z h1
  · exact br1 z k
theorem p_takenM1 (hf : f < 3) (hL : L < 2147483648) (htn : I 59 9 = nI tn) (ht2 : tn ≤ 12) (h0 : ∀ i, i < tn → I 68 i = nI (T i)) {x : Int32} {i : Nat} (ho : IxOk tn x i) (k : Q (some (.int (nI (T i))), (xK f L, P, xup I 59 0 (nI 0), J, xFr f c s))) : Wp d 160 0 [some (.ref 59), some (.int x)] [] (xK f L, P, I, J, xFr f c s) Q := by
  obtain ⟨hx, hi⟩ := ho
  subst hx
  have e9 : xup I 59 0 (nI 0) 59 9 = nI tn := by rw [xup_at, if_neg (by decide)]; exact htn
  refine wX11_taken_0 (xK_lt hf hL) rfl rfl rfl (br2 (nI_pos (by omega)) (br1 (by rw [e9]; first | (rw [nI_ltI (by omega) (by omega)]; omega) | (rw [nI_leI (by omega) (by omega)]; omega) | (rw [nI_eq (by omega) (by omega)]; omega) | (rw [nI_e0 (by omega)]; omega) | (rw [nI_le0 (by omega)]; omega)) ⟨i, rfl, by omega, ?_⟩))
  rw [xup_ne _ _ _ (by decide), h0 i hi]
  exact k
theorem p_takenM0 (hf : f < 3) (hL : L < 2147483648) (htn : I 59 9 = nI tn) (ht2 : tn ≤ 12) {x : Int32} (ho : ∀ i, ¬ IxOk tn x i) (k : Q (some (.int (-1)), (xK f L, P, xup I 59 0 (nI 0), J, xFr f c s))) : Wp d 160 0 [some (.ref 59), some (.int x)] [] (xK f L, P, I, J, xFr f c s) Q := by
  have e9 : xup I 59 0 (nI 0) 59 9 = nI tn := by rw [xup_at, if_neg (by decide)]; exact htn
  refine wX11_taken_0 (xK_lt hf hL) rfl rfl rfl ⟨fun _ => k, fun h1 => ?_⟩
  rw [e9]
  rcases noIx (by omega) ho with z | z
  · exact absurd z h1
  · exact br2 (fun w => Int32.lt_irrefl (Int32.lt_of_lt_of_le w z)) k
def mny (f n ps m cn tn dr kp : Nat) (x : Int32) : Int32 := if x = nI 0 then nI n else if x = nI 1 then nI (if ps = 1 then m else 0) else if x = nI 2 then nI cn else if x = nI 3 then nI tn else if x = nI 4 then nI dr else if x = nI 5 then nI kp else if x = nI 6 then nI f else -1
theorem p_manyC (hf : f < 3) (hp : c = 41 ∨ c = 47) (h1 : I 5 3 = nI n) (h2 : I 4 9 = nI ps) (hps2 : ps < 2) (h3 : ps = 1 → I c 5 = nI m) (h4 : I 34 2 = nI cn) (h5 : I 34 4 = nI tn) (h6 : I 4 11 = nI dr) (h7 : I 4 10 = nI kp) (h8 : I 4 0 = nI f) {x : Int32} (k : Q (some (.int (mny f n ps m cn tn dr kp x)), (xK f L, P, I, J, xFr f c s))) : Wp d 90 0 [some (.ref 4), some (.int x)] [] (xK f L, P, I, J, xFr f c s) Q := by
  unfold mny at k
  refine wX10_many_0 rfl rfl rfl rfl (pcK hp) rfl rfl ⟨fun e => ?_, fun e => ?_⟩
  · rw [if_pos e] at k; rw [h1]; exact k
  rw [if_neg e] at k
  refine ⟨fun e => ?_, fun e => ?_⟩
  · rw [if_pos e] at k
    rw [h2]
    rcases (by omega : ps = 0 ∨ ps = 1) with rfl | rfl
    · exact br1 rfl k
    · rw [h3 rfl]
      exact br2 (by decide) k
  rw [if_neg e] at k
  refine ⟨fun e => ?_, fun e => ?_⟩
  · rw [if_pos e] at k; rw [h4]; exact k
  rw [if_neg e] at k
  refine ⟨fun e => ?_, fun e => ?_⟩
  · rw [if_pos e] at k; rw [h5]; exact k
  rw [if_neg e] at k
  refine ⟨fun e => ?_, fun e => ?_⟩
  · rw [if_pos e] at k; rw [h6]; exact k
  rw [if_neg e] at k
  refine ⟨fun e => ?_, fun e => ?_⟩
  · rw [if_pos e] at k; rw [h7]; exact k
  rw [if_neg e] at k
  refine ⟨fun e => ?_, fun e => ?_⟩
  · rw [if_pos e] at k; rw [h8]; exact k
  rw [if_neg e] at k
  exact k
theorem p_manyM (hf : f < 3) (h1 : I 59 3 = nI n) (h2 : I 59 10 = nI ps) (hps2 : ps < 2) (h3 : ps = 1 → I 59 11 = nI m) (h4 : I 59 7 = nI cn) (h5 : I 59 9 = nI tn) (h6 : I 59 18 = nI dr) (h7 : I 59 5 = nI kp) (h8 : I 59 1 = nI f) {x : Int32} (k : Q (some (.int (mny f n ps m cn tn dr kp x)), (xK f L, P, xup I 59 0 (nI 0), J, xFr f c s))) : Wp d 161 0 [some (.ref 59), some (.int x)] [] (xK f L, P, I, J, xFr f c s) Q := by
  have h0 : ∀ q, q ≠ 0 → xup I 59 0 (nI 0) 59 q = I 59 q := fun q hq => by rw [xup_at, if_neg hq]
  unfold mny at k
  refine wX11_many_0 rfl ⟨fun e => ?_, fun e => ?_⟩
  · rw [if_pos e] at k; rw [h0 3 (by decide), h1]; exact k
  rw [if_neg e] at k
  refine ⟨fun e => ?_, fun e => ?_⟩
  · rw [if_pos e] at k
    rw [h0 10 (by decide), h2, h0 11 (by decide)]
    rcases (by omega : ps = 0 ∨ ps = 1) with rfl | rfl
    · exact br1 rfl k
    · rw [h3 rfl]
      exact br2 (by decide) k
  rw [if_neg e] at k
  refine ⟨fun e => ?_, fun e => ?_⟩
  · rw [if_pos e] at k; rw [h0 7 (by decide), h4]; exact k
  rw [if_neg e] at k
  refine ⟨fun e => ?_, fun e => ?_⟩
  · rw [if_pos e] at k; rw [h0 9 (by decide), h5]; exact k
  rw [if_neg e] at k
  refine ⟨fun e => ?_, fun e => ?_⟩
  · rw [if_pos e] at k; rw [h0 18 (by decide), h6]; exact k
  rw [if_neg e] at k
  refine ⟨fun e => ?_, fun e => ?_⟩
  · rw [if_pos e] at k; rw [h0 5 (by decide), h7]; exact k
  rw [if_neg e] at k
  refine ⟨fun e => ?_, fun e => ?_⟩
  · rw [if_pos e] at k; rw [h0 1 (by decide), h8]; exact k
  rw [if_neg e] at k
  exact k
end OPT
