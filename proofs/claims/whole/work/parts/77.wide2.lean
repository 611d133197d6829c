/-! FORM 2: keys, and the whole search as numbers -/
def ky (s : Nat) (la : Nat → Nat) : Nat := s * 2 ^ 36 + lp la
def el (k j : Nat) : Nat := lat k / 2 ^ (9 * (3 - j)) % 512
theorem ky_lat {s : Nat} {la : Nat → Nat} (h : LB la) : lat (ky s la) = lp la := by
  have := lp_lt h
  unfold lat ky
  omega
theorem ky_sum {s : Nat} {la : Nat → Nat} (h : LB la) : ky s la / 2 ^ 36 = s := by
  have := lp_lt h
  unfold ky
  omega
theorem ky_el {s : Nat} {la : Nat → Nat} (h : LB la) {j : Nat} (hj : j < 4) : el (ky s la) j = la j := by
  unfold el
  rw [ky_lat h, lp_at h hj]
theorem lp_cg {la la' : Nat → Nat} (h : ∀ j, j < 4 → la j = la' j) : lp la = lp la' := by
  unfold lp
  rw [h 0 (by decide), h 1 (by decide), h 2 (by decide), h 3 (by decide)]
theorem lp_el (k : Nat) : lp (el k) = lat k := by
  have hk : lat k < 2 ^ 36 := Nat.mod_lt _ (by decide)
  have e0 : el k 0 = lat k / 2 ^ 27 % 512 := rfl
  have e1 : el k 1 = lat k / 2 ^ 18 % 512 := rfl
  have e2 : el k 2 = lat k / 2 ^ 9 % 512 := rfl
  have e3 : el k 3 = lat k / 2 ^ 0 % 512 := rfl
  unfold lp
  rw [e0, e1, e2, e3]
  omega
theorem LB.cg {la la' : Nat → Nat} (h : LB la) (he : ∀ j, j < 4 → la' j = la j) : LB la' := fun j hj => by rw [he j hj]; exact h j hj
theorem ky_LB {s : Nat} {la : Nat → Nat} (h : LB la) : LB (el (ky s la)) := h.cg (fun _ hj => ky_el h hj)
theorem ky_eta (k : Nat) : k = ky (k / 2 ^ 36) (el k) := by
  unfold ky
  rw [lp_el]
  unfold lat
  omega
def cc (V : Nat → Nat → Nat) (l b : Nat) : Nat := kc V 2 1 + lco V 2 l + dco V b
def ca (V : Nat → Nat → Nat) (j l : Nat) : Nat := kc V 2 (2 + j) + lco V 2 l
abbrev xW : Type := Nat → xWs
section WRUN
variable (V : Nat → Nat → Nat) (t : Nat → Nat) (n K : Nat)
def opw (W : xW) (to : Nat) (e : xEn) : xW := va_up W to (op K (W to) e)
def eCp (i r k l : Nat) : xEn := (ky (k / 2 ^ 36 + cc V l (nd t n 273 i l)) (ah (el k) (nd t n 273 i l) 3), r, l, 1)
def eAg (r k j l : Nat) : xEn := (ky (k / 2 ^ 36 + ca V j l) (ah (el k) (el k j) j), r, l, 2 + j)
def eSh (r k : Nat) : xEn := (ky (k / 2 ^ 36 + kc V 2 6) (el k), r, 1, 6)
def eLi (i r k : Nat) : xEn := (ky (k / 2 ^ 36 + (V 0 (t i) + kc V 2 0)) (el k), r, 1, 0)
def cpn (i r k : Nat) : Nat → xW → xW
  | 0, W => W
  | l + 1, W => if l + 1 < 2 then W else cpn i r k l (opw K W (i + (l + 1)) (eCp V t n i r k (l + 1)))
def agn (i r k j : Nat) : Nat → xW → xW
  | 0, W => W
  | l + 1, W => if l + 1 < 2 then W else agn i r k j l (opw K W (i + (l + 1)) (eAg V r k j (l + 1)))
def ags (i r k : Nat) : Nat → xW → xW
  | 0, W => W
  | j + 1, W => agn V K i r k j (sb t n 2 i (el k j)) (ags i r k j W)
def shw (i r k : Nat) (W : xW) : xW := if el k 0 ≤ i ∧ t i = t (i - el k 0) then opw K W (i + 1) (eSh V r k) else W
def exs (i r k : Nat) (W : xW) : xW := opw K (shw V t K i r k (ags V t n K i r k 4 (cpn V t n K i r k (lc t n 2 i) W))) (i + 1) (eLi V t i r k)
def plc (i : Nat) (W : xW) : Nat → xW
  | 0 => W
  | r + 1 => exs V t n K i r ((W i).2.1 r).1 (plc i W r)
def W0 : xW := fun j => if j = 0 then (1, fun _ => (134480385, 0, 0, 0), false) else (0, fun _ => (0, 0, 0, 0), false)
def wr : Nat → xW
  | 0 => W0
  | i + 1 => plc V t n K i (wr i) ((wr i) i).1
/-- the step that led to a state of place j -/
def rwe (e : xEn) (j : Nat) : xSt := (e.2.2.2, j - e.2.2.1, e.2.2.1, if e.2.2.2 = 0 then 0 else el e.1 0)
def PV (W : xW) (p j : Nat) (e : xEn) : Prop := 1 ≤ e.2.2.1 ∧ e.2.2.1 ≤ j ∧ j - e.2.2.1 ≤ p ∧ e.2.2.1 ≤ 273 ∧ e.2.1 < (W (j - e.2.2.1)).1 ∧ e.1 / 2 ^ 36 = ((W (j - e.2.2.1)).2.1 e.2.1).1 / 2 ^ 36 + scq V 2 t (rwe e j) ∧ okS t 2 (rwe e j) ∧ LB (el e.1) ∧ e.1 / 2 ^ 36 ≤ 31024 * j
def IV (W : xW) (p : Nat) : Prop := (∀ j, j ≤ n → WF K (W j)) ∧ W 0 = W0 0 ∧ (∀ j s, j ≠ 0 → j ≤ n → s < (W j).1 → PV V t W p j ((W j).2.1 s)) ∧ ∀ j, j ≤ p → 1 ≤ (W j).1
end WRUN
section WINV
variable {V : Nat → Nat → Nat} {t : Nat → Nat} {n K p : Nat} {W : xW}
theorem opw_ne {to : Nat} {e : xEn} {j : Nat} (h : j ≠ to) : opw K W to e j = W j := va_up_ne _ _ h
theorem opw_at {to : Nat} {e : xEn} : opw K W to e to = op K (W to) e := va_up_self _ _ _
theorem opw_IV (hK : 1 ≤ K) (h : IV V t n K W p) {to : Nat} {e : xEn} (h1 : p < to) (_h2 : to ≤ n) (hp : PV V t W p to e) : IV V t n K (opw K W to e) p := by
  have hlow : ∀ j, j ≤ p → opw K W to e j = W j := fun j hj => opw_ne (by omega)
  have hpv : ∀ j e', PV V t W p j e' → PV V t (opw K W to e) p j e' := fun j e' hq => by
    unfold PV at hq ⊢
    rw [hlow _ hq.2.2.1]
    exact hq
  refine ⟨fun j hj => ?_, ?_, fun j s h3 h4 h5 => ?_, fun j hj => ?_⟩
  · by_cases e1 : j = to
    · subst e1
      rw [opw_at]
      exact op_WF (h.1 j hj)
    · rw [opw_ne e1]
      exact h.1 j hj
  · rw [hlow 0 (by omega)]
    exact h.2.1
  · by_cases e1 : j = to
    · subst e1
      rw [opw_at] at h5 ⊢
      exact op_all (X := PV V t (opw K W j e) p j) (fun s hs => hpv j _ (h.2.2.1 j s h3 h4 hs)) (hpv j _ hp) s h5
    · rw [opw_ne e1] at h5 ⊢
      exact hpv j _ (h.2.2.1 j s h3 h4 h5)
  · rw [hlow j hj]
    exact h.2.2.2 j hj
/-- the state from which the steps go -/
def CU (n p r k : Nat) (W : xW) : Prop := p < n ∧ r < (W p).1 ∧ ((W p).2.1 r).1 = k ∧ LB (el k) ∧ k / 2 ^ 36 ≤ 31024 * p
theorem CU.op {r k to : Nat} {e : xEn} (h : CU n p r k W) (h1 : p < to) : CU n p r k (opw K W to e) := by
  unfold CU
  rw [opw_ne (by omega)]
  exact h
theorem IV.cu (h : IV V t n K W p) (hp : p < n) {r : Nat} (hr : r < (W p).1) : CU n p r ((W p).2.1 r).1 W := by
  refine ⟨hp, hr, rfl, ?_⟩
  by_cases e : p = 0
  · subst e
    rw [h.2.1]
    refine ⟨?_, by show 134480385 / 2 ^ 36 ≤ _; decide⟩
    show LB (el 134480385)
    intro j hj
    rcases (by omega : j = 0 ∨ j = 1 ∨ j = 2 ∨ j = 3) with rfl | rfl | rfl | rfl <;> decide
  · have := h.2.2.1 p r e (by omega) hr
    exact ⟨this.2.2.2.2.2.2.2.1, this.2.2.2.2.2.2.2.2⟩
theorem pv_mk (hB : VB V) (hn : n ≤ 300) (ht : ∀ j, j < n → t j < 256) {r k : Nat} (hc : CU n p r k W) {cst l kd : Nat} {la : Nat → Nat} (hla : LB la) (hl : 1 ≤ l) (hl2 : l ≤ 273) (hpl : p + l ≤ n) (ho : okS t 2 (kd, p, l, if kd = 0 then 0 else la 0)) (hcst : cst = scq V 2 t (kd, p, l, if kd = 0 then 0 else la 0)) : PV V t W p (p + l) (ky (k / 2 ^ 36 + cst) la, r, l, kd) := by
  have hrow : rwe (ky (k / 2 ^ 36 + cst) la, r, l, kd) (p + l) = (kd, p, l, if kd = 0 then 0 else la 0) := by
    unfold rwe
    show (kd, p + l - l, l, if kd = 0 then 0 else el (ky (k / 2 ^ 36 + cst) la) 0) = _
    rw [Nat.add_sub_cancel, ky_el hla (by decide)]
  unfold PV
  rw [hrow]
  show 1 ≤ l ∧ l ≤ p + l ∧ p + l - l ≤ p ∧ l ≤ 273 ∧ r < (W (p + l - l)).1 ∧ ky (k / 2 ^ 36 + cst) la / 2 ^ 36 = ((W (p + l - l)).2.1 r).1 / 2 ^ 36 + _ ∧ _ ∧ LB (el (ky (k / 2 ^ 36 + cst) la)) ∧ ky (k / 2 ^ 36 + cst) la / 2 ^ 36 ≤ _
  have hos := okS_lt ho
  have hcl : cst ≤ 31024 := by
    rw [hcst]
    exact sco_le hB 2 hos.1 (by show l < 301; omega) (by have := hos.2.2.1; have : (if kd = 0 then 0 else la 0) ≤ p := this; have := hc.1; show (if kd = 0 then 0 else la 0) < 301; omega) (ht p hc.1)
  rw [Nat.add_sub_cancel, ky_sum hla, hc.2.2.1]
  refine ⟨hl, by omega, Nat.le_refl _, hl2, hc.2.1, by rw [hcst], ho, ky_LB hla, ?_⟩
  have h1 := hc.2.2.2.2
  have : 31024 * (p + l) = 31024 * p + 31024 * l := Nat.mul_add _ _ _
  omega
theorem lc2 {i l : Nat} (h1 : 2 ≤ l) (h2 : l ≤ lc t n 2 i) : l ≤ 273 ∧ i + l ≤ n ∧ 1 ≤ nd t n 273 i l ∧ nd t n 273 i l ≤ i ∧ cp t (nd t n 273 i l) i l := by
  have hc := lc_ok (t := t) (n := n) (f := 2) (i := i) (by omega)
  rw [show xgt 2 = 273 from rfl] at hc
  have hd := nd_ok (t := t) (n := n) (G := 273) (i := i) (l := l) (by omega) (by omega)
  exact ⟨by omega, by omega, hd.1, hd.2.1, hd.2.2⟩
theorem pv_cp (hB : VB V) (hn : n ≤ 300) (ht : ∀ j, j < n → t j < 256) {r k l : Nat} (hc : CU n p r k W) (h1 : 2 ≤ l) (h2 : l ≤ lc t n 2 p) : PV V t W p (p + l) (eCp V t n p r k l) := by
  have hd := lc2 h1 h2
  have hp := hc.1
  refine pv_mk hB hn ht hc (LB_ah hc.2.2.2.1 hd.2.2.1 (by omega) (by decide)) (by omega) hd.1 hd.2.1 (Or.inr (Or.inl ⟨Nat.le_refl 1, by show 1 ≤ 5; decide, h1, by show l ≤ 300; omega, hd.2.2.1, hd.2.2.2.1, hd.2.2.2.2⟩)) ?_
  rfl
theorem pv_ag (hB : VB V) (hn : n ≤ 300) (ht : ∀ j, j < n → t j < 256) {r k l j : Nat} (hc : CU n p r k W) (hj : j < 4) (h1 : 2 ≤ l) (h2 : l ≤ sb t n 2 p (el k j)) : PV V t W p (p + l) (eAg V r k j l) := by
  have hd := sb_ok h2 (by omega)
  rw [show xgt 2 = 273 from rfl] at hd
  have hl := hc.2.2.2.1 j hj
  have hp := hc.1
  have e0 : (if 2 + j = 0 then 0 else ah (el k) (el k j) j 0) = el k j := by
    rw [if_neg (by omega)]
    rfl
  refine pv_mk hB hn ht hc (LB_ah hc.2.2.2.1 hl.1 hl.2 hj) (by omega) (by omega) (by omega) ?_ ?_
  · rw [e0]
    exact Or.inr (Or.inl ⟨by show 1 ≤ 2 + j; omega, by show 2 + j ≤ 5; omega, h1, by show l ≤ 300; omega, hd.1, hd.2.1, hd.2.2.1⟩)
  · rw [e0]
    unfold scq sco
    show ca V j l = if 2 + j = 0 then _ else if 2 + j = 1 then _ else if 2 + j = 6 then _ else kc V 2 (2 + j) + lco V 2 l
    rw [if_neg (by omega), if_neg (by omega), if_neg (by omega)]
    rfl
theorem pv_sh (hB : VB V) (hn : n ≤ 300) (ht : ∀ j, j < n → t j < 256) {r k : Nat} (hc : CU n p r k W) (h1 : el k 0 ≤ p) (h2 : t p = t (p - el k 0)) : PV V t W p (p + 1) (eSh V r k) := by
  have hl := hc.2.2.2.1 0 (by decide)
  have hp := hc.1
  refine pv_mk hB hn ht hc hc.2.2.2.1 (by omega) (by omega) (by omega) (Or.inr (Or.inr ⟨rfl, rfl, hl.1, h1, fun q hq => ?_⟩)) rfl
  have : q = 0 := by omega
  subst this
  show t (p + 0) = t (p + 0 - el k 0)
  exact h2
theorem pv_li (hB : VB V) (hn : n ≤ 300) (ht : ∀ j, j < n → t j < 256) {r k : Nat} (hc : CU n p r k W) : PV V t W p (p + 1) (eLi V t p r k) := by
  have hp := hc.1
  exact pv_mk hB hn ht hc hc.2.2.2.1 (by omega) (by omega) (by omega) (Or.inl ⟨rfl, rfl, rfl⟩) rfl
/-- a run of states that come keeps what each of them keeps -/
theorem cpn_keep {X : xW → Prop} {r k : Nat} (hs : ∀ W l, 2 ≤ l → l ≤ lc t n 2 p → X W → X (opw K W (p + l) (eCp V t n p r k l))) : ∀ l W, l ≤ lc t n 2 p → X W → X (cpn V t n K p r k l W)
  | 0, W, _, h => h
  | l + 1, W, hl, h => by
    rw [cpn]
    by_cases e : l + 1 < 2
    · rw [if_pos e]; exact h
    · rw [if_neg e]
      exact cpn_keep hs l _ (by omega) (hs W (l + 1) (by omega) hl h)
theorem agn_keep {X : xW → Prop} {r k j B : Nat} (hs : ∀ W l, 2 ≤ l → l ≤ B → X W → X (opw K W (p + l) (eAg V r k j l))) : ∀ l W, l ≤ B → X W → X (agn V K p r k j l W)
  | 0, W, _, h => h
  | l + 1, W, hl, h => by
    rw [agn]
    by_cases e : l + 1 < 2
    · rw [if_pos e]; exact h
    · rw [if_neg e]
      exact agn_keep hs l _ (by omega) (hs W (l + 1) (by omega) hl h)
theorem exs_keep {X : xW → Prop} {r k : Nat} (h1 : ∀ W l, 2 ≤ l → l ≤ lc t n 2 p → X W → X (opw K W (p + l) (eCp V t n p r k l))) (h2 : ∀ W j l, j < 4 → 2 ≤ l → l ≤ sb t n 2 p (el k j) → X W → X (opw K W (p + l) (eAg V r k j l))) (h3 : ∀ W, el k 0 ≤ p → t p = t (p - el k 0) → X W → X (opw K W (p + 1) (eSh V r k))) (h4 : ∀ W, X W → X (opw K W (p + 1) (eLi V t p r k))) (h : X W) : X (exs V t n K p r k W) := by
  unfold exs
  refine h4 _ ?_
  have ha : ∀ j, j ≤ 4 → X (ags V t n K p r k j (cpn V t n K p r k (lc t n 2 p) W)) := by
    intro j
    induction j with
    | zero => exact fun _ => cpn_keep h1 _ _ (Nat.le_refl _) h
    | succ j ih =>
      intro hj
      rw [ags]
      exact agn_keep (B := sb t n 2 p (el k j)) (fun W l g1 g2 => h2 W j l (by omega) g1 g2) _ _ (Nat.le_refl _) (ih (by omega))
  unfold shw
  by_cases e : el k 0 ≤ p ∧ t p = t (p - el k 0)
  · rw [if_pos e]
    exact h3 _ e.1 e.2 (ha 4 (Nat.le_refl _))
  · rw [if_neg e]
    exact ha 4 (Nat.le_refl _)
/-- an operation to a place behind p -/
theorem exs_op {X : xW → Prop} {r k : Nat} (hs : ∀ W to e, p < to → X W → X (opw K W to e)) (h : X W) : X (exs V t n K p r k W) :=
  exs_keep (fun W l g1 _ => hs W _ _ (by omega)) (fun W j l _ g1 _ => hs W _ _ (by omega)) (fun W _ _ => hs W _ _ (by omega)) (fun W => hs W _ _ (by omega)) h
theorem exs_IV (hK : 1 ≤ K) (hB : VB V) (hn : n ≤ 300) (ht : ∀ j, j < n → t j < 256) {r k : Nat} (h : IV V t n K W p) (hc : CU n p r k W) : IV V t n K (exs V t n K p r k W) p ∧ CU n p r k (exs V t n K p r k W) := by
  have hp := hc.1
  refine exs_keep (X := fun W => IV V t n K W p ∧ CU n p r k W) (fun W l g1 g2 hx => ?_) (fun W j l hj g1 g2 hx => ?_) (fun W g1 g2 hx => ?_) (fun W hx => ?_) ⟨h, hc⟩
  · exact ⟨opw_IV hK hx.1 (by omega) (lc2 g1 g2).2.1 (pv_cp hB hn ht hx.2 g1 g2), hx.2.op (by omega)⟩
  · have hd := sb_ok g2 (by omega)
    exact ⟨opw_IV hK hx.1 (by omega) (by omega) (pv_ag hB hn ht hx.2 hj g1 g2), hx.2.op (by omega)⟩
  · exact ⟨opw_IV hK hx.1 (by omega) (by omega) (pv_sh hB hn ht hx.2 g1 g2), hx.2.op (by omega)⟩
  · exact ⟨opw_IV hK hx.1 (by omega) (by omega) (pv_li hB hn ht hx.2), hx.2.op (by omega)⟩
theorem exs_low {r k j : Nat} (hj : j ≤ p) : exs V t n K p r k W j = W j := exs_op (X := fun W' => W' j = W j) (fun W' to e hto hx => by rw [opw_ne (by omega)]; exact hx) rfl
theorem plc_low (W : xW) {j : Nat} (hj : j ≤ p) : ∀ r, plc V t n K p W r j = W j
  | 0 => rfl
  | r + 1 => by rw [plc, exs_low hj, plc_low W hj r]
theorem plc_IV (hK : 1 ≤ K) (hB : VB V) (hn : n ≤ 300) (ht : ∀ j, j < n → t j < 256) (hp : p < n) (h : IV V t n K W p) : ∀ r, r ≤ (W p).1 → IV V t n K (plc V t n K p W r) p ∧ ∀ r', r' < (W p).1 → CU n p r' ((W p).2.1 r').1 (plc V t n K p W r)
  | 0, _ => ⟨h, fun r' hr' => h.cu hp hr'⟩
  | r + 1, hr => by
    have h1 := plc_IV hK hB hn ht hp h r (by omega)
    rw [plc]
    refine ⟨(exs_IV hK hB hn ht h1.1 (h1.2 r (by omega))).1, fun r' hr' => ?_⟩
    have := h1.2 r' hr'
    unfold CU at this ⊢
    rw [exs_low (Nat.le_refl _)]
    exact this
theorem exs_pos (hK : 1 ≤ K) (hB : VB V) (hn : n ≤ 300) (ht : ∀ j, j < n → t j < 256) {r k : Nat} (h : IV V t n K W p) (hc : CU n p r k W) : 1 ≤ (exs V t n K p r k W (p + 1)).1 := by
  unfold exs
  rw [opw_at]
  have hp := hc.1
  have h1 : IV V t n K (shw V t K p r k (ags V t n K p r k 4 (cpn V t n K p r k (lc t n 2 p) W))) p := by
    have h2 : ∀ j, j ≤ 4 → IV V t n K (ags V t n K p r k j (cpn V t n K p r k (lc t n 2 p) W)) p ∧ CU n p r k (ags V t n K p r k j (cpn V t n K p r k (lc t n 2 p) W)) := by
      intro j
      induction j with
      | zero =>
        intro _
        exact cpn_keep (X := fun W => IV V t n K W p ∧ CU n p r k W) (fun W l g1 g2 hx => ⟨opw_IV hK hx.1 (by omega) (lc2 g1 g2).2.1 (pv_cp hB hn ht hx.2 g1 g2), hx.2.op (by omega)⟩) _ _ (Nat.le_refl _) ⟨h, hc⟩
      | succ j ih =>
        intro hj
        rw [ags]
        exact agn_keep (X := fun W => IV V t n K W p ∧ CU n p r k W) (B := sb t n 2 p (el k j)) (fun W l g1 g2 hx => ⟨opw_IV hK hx.1 (by omega) (by have hd := sb_ok g2 (by omega); omega) (pv_ag hB hn ht hx.2 (by omega) g1 g2), hx.2.op (by omega)⟩) _ _ (Nat.le_refl _) (ih (by omega))
    have h3 := h2 4 (Nat.le_refl _)
    unfold shw
    by_cases e : el k 0 ≤ p ∧ t p = t (p - el k 0)
    · rw [if_pos e]
      exact opw_IV hK h3.1 (by omega) (by omega) (pv_sh hB hn ht h3.2 e.1 e.2)
    · rw [if_neg e]
      exact h3.1
  exact (op_pos hK (h1.1 (p + 1) (by omega))).1
theorem wr_IV (hK : 1 ≤ K) (hB : VB V) (hn : n ≤ 300) (ht : ∀ j, j < n → t j < 256) : ∀ p, p ≤ n → IV V t n K (wr V t n K p) p
  | 0, _ => by
    refine ⟨fun j _ => ?_, rfl, fun j s h1 h2 h3 => ?_, fun j hj => ?_⟩
    · show WF K (W0 j)
      unfold W0
      by_cases e : j = 0
      · rw [if_pos e]
        exact ⟨hK, fun i j h1 h2 => by have : j < 1 := h2; omega, fun i j h1 h2 => by have : j < 1 := h2; omega, fun z => by cases z⟩
      · rw [if_neg e]
        exact ⟨Nat.zero_le _, fun i j h1 h2 => by have : j < 0 := h2; omega, fun i j h1 h2 => by have : j < 0 := h2; omega, fun z => by cases z⟩
    · have e : wr V t n K 0 j = (0, fun _ => (0, 0, 0, 0), false) := if_neg h1
      rw [e] at h3
      have : s < 0 := h3
      omega
    · have : j = 0 := by omega
      subst this
      exact Nat.le_refl 1
  | p + 1, hp => by
    have h1 := wr_IV hK hB hn ht p (by omega)
    have h2 := plc_IV hK hB hn ht (by omega) h1 ((wr V t n K p) p).1 (Nat.le_refl _)
    rw [wr]
    refine ⟨h2.1.1, h2.1.2.1, fun j s g1 g2 g3 => ?_, fun j hj => ?_⟩
    · have := h2.1.2.2.1 j s g1 g2 g3
      unfold PV at this ⊢
      exact ⟨this.1, this.2.1, by omega, this.2.2.2⟩
    · by_cases e : j = p + 1
      · subst e
        have h3 := h1.2.2.2 p (Nat.le_refl _)
        generalize hm : ((wr V t n K p) p).1 = m at *
        cases m with
        | zero => omega
        | succ m =>
          rw [plc]
          have h4 := plc_IV hK hB hn ht (by omega) h1 m (by omega)
          exact exs_pos hK hB hn ht h4.1 (h4.2 m (by omega))
      · exact h2.1.2.2.2 j (by omega)
/-! back from the end -/
def tp2 (W : xW) (n : Nat) : Nat → Nat × Nat
  | 0 => (n, 0)
  | j + 1 => ((tp2 W n j).1 - ((W (tp2 W n j).1).2.1 (tp2 W n j).2).2.2.1, ((W (tp2 W n j).1).2.1 (tp2 W n j).2).2.1)
def en2 (W : xW) (n j : Nat) : xEn := (W (tp2 W n j).1).2.1 (tp2 W n j).2
def T2 (W : xW) (n j : Nat) : xSt := rwe (en2 W n j) (tp2 W n j).1
def TM2 (W : xW) (n m : Nat) : Prop := (tp2 W n m).1 = 0 ∧ ∀ j, j < m → (tp2 W n j).1 ≠ 0
theorem TM2.uniq {m m' : Nat} (h : TM2 W n m) (h' : TM2 W n m') : m = m' := by
  rcases Nat.lt_trichotomy m m' with z | z | z
  · exact absurd h.1 (h'.2 m z)
  · exact z
  · exact absurd h'.1 (h.2 m' z)
theorem tp2_ok (h : IV V t n K W n) : ∀ j, (∀ j', j' < j → (tp2 W n j').1 ≠ 0) → (tp2 W n j).1 + j ≤ n ∧ (tp2 W n j).2 < (W (tp2 W n j).1).1
  | 0, _ => ⟨Nat.le_refl _, h.2.2.2 n (Nat.le_refl _)⟩
  | j + 1, hj => by
    have h1 := tp2_ok h j (fun j' hj' => hj j' (by omega))
    have h2 := h.2.2.1 (tp2 W n j).1 (tp2 W n j).2 (hj j (by omega)) (by omega) h1.2
    have h3 := h2.1
    have h4 := h2.2.1
    rw [tp2]
    exact ⟨by show (tp2 W n j).1 - ((W (tp2 W n j).1).2.1 (tp2 W n j).2).2.2.1 + (j + 1) ≤ n; omega, h2.2.2.2.2.1⟩
theorem tp2_pv (h : IV V t n K W n) {j : Nat} (hj : ∀ j', j' < j → (tp2 W n j').1 ≠ 0) (h0 : (tp2 W n j).1 ≠ 0) : PV V t W n (tp2 W n j).1 (en2 W n j) := by
  have h1 := tp2_ok h j hj
  exact h.2.2.1 (tp2 W n j).1 (tp2 W n j).2 h0 (by omega) h1.2
theorem wide_ok (hK : 1 ≤ K) (hB : VB V) (hn : n ≤ 300) (ht : ∀ j, j < n → t j < 256) {m : Nat} (hm : TM2 (wr V t n K n) n m) : VS t 2 n m (fun i => T2 (wr V t n K n) n (m - 1 - i)) ∧ allc V 2 t (fun i => T2 (wr V t n K n) n (m - 1 - i)) m = ((wr V t n K n n).2.1 0).1 / 2 ^ 36 := by
  have h := wr_IV hK hB hn ht n (Nat.le_refl _)
  generalize wr V t n K n = W at *
  refine ⟨tr_VS (tp := fun j => (tp2 W n j).1) rfl hm.1 (fun j hj => ?_) (fun j hj => ?_), ?_⟩
  · have hp := tp2_pv h (fun j' z => hm.2 j' (by omega)) (hm.2 j hj)
    exact ⟨hp.2.2.2.2.2.2.1, rfl⟩
  · have hp := tp2_pv h (fun j' z => hm.2 j' (by omega)) (hm.2 j hj)
    have h2 := hp.2.1
    show (tp2 W n j).1 = (tp2 W n j).1 - (en2 W n j).2.2.1 + (en2 W n j).2.2.1
    omega
  · unfold allc
    rw [if_neg (by decide), tr_cost (g := fun j => (en2 W n j).1 / 2 ^ 36) ?_ ?_ m (Nat.le_refl _), Nat.sub_self]
    · rfl
    · have h1 := tp2_ok h m hm.2
      have h2 := hm.1
      show (en2 W n m).1 / 2 ^ 36 = 0
      unfold en2
      rw [h2, h.2.1]
      show 134480385 / 2 ^ 36 = 0
      decide
    · intro j hj
      have hp := tp2_pv h (fun j' z => hm.2 j' (by omega)) (hm.2 j hj)
      exact hp.2.2.2.2.2.1
/-- at so many places one fell out -/
def dcn (W : xW) : Nat → Nat
  | 0 => 0
  | i + 1 => dcn W i + if (W i).2.2 = true then 1 else 0
theorem dcn_le (W : xW) : ∀ i, dcn W i ≤ i
  | 0 => Nat.le_refl _
  | i + 1 => by
    have := dcn_le W i
    rw [dcn]
    split <;> omega
theorem dcn_cg {W W' : xW} : ∀ {i : Nat}, (∀ j, j < i → W' j = W j) → dcn W' i = dcn W i
  | 0, _ => rfl
  | i + 1, h => by rw [dcn, dcn, dcn_cg (fun j hj => h j (by omega)), h i (by omega)]
theorem wr_low : ∀ q p j, j ≤ p → wr V t n K (p + q) j = wr V t n K p j
  | 0, _, _, _ => rfl
  | q + 1, p, j, hj => by
    show wr V t n K (p + q + 1) j = _
    rw [wr, plc_low _ (by omega), wr_low q p j hj]
/-! copies that were led before -/
def SC (V : Nat → Nat → Nat) (t : Nat → Nat) (n K p k : Nat) (W : xW) : Prop := ∀ l, 2 ≤ l → l ≤ lc t n 2 p → Sn K (W (p + l)) (eCp V t n p 0 k l).1
theorem SC.op (hK : 1 ≤ K) {k to : Nat} {e : xEn} (hw : ∀ j, j ≤ n → WF K (W j)) (h : SC V t n K p k W) : SC V t n K p k (opw K W to e) := by
  intro l h1 h2
  by_cases e1 : p + l = to
  · rw [← e1, opw_at]
    exact Sn_op hK (hw _ (lc2 h1 h2).2.1) (h l h1 h2)
  · rw [opw_ne e1]
    exact h l h1 h2
theorem cpn_SC (hK : 1 ≤ K) {r k : Nat} : ∀ l W, (∀ j, j ≤ n → WF K (W j)) → l ≤ lc t n 2 p → (∀ l', l < l' → l' ≤ lc t n 2 p → 2 ≤ l' → Sn K (W (p + l')) (eCp V t n p 0 k l').1) → SC V t n K p k (cpn V t n K p r k l W)
  | 0, W, _, _, h => fun l' h1 h2 => h l' (by omega) h2 h1
  | l + 1, W, hw, hl, h => by
    rw [cpn]
    by_cases e : l + 1 < 2
    · rw [if_pos e]
      exact fun l' h1 h2 => h l' (by omega) h2 h1
    · rw [if_neg e]
      refine cpn_SC hK l _ (fun j hj => ?_) (by omega) (fun l' h1 h2 h3 => ?_)
      · by_cases e1 : j = p + (l + 1)
        · subst e1
          rw [opw_at]
          exact op_WF (hw _ hj)
        · rw [opw_ne e1]
          exact hw j hj
      · by_cases e1 : l' = l + 1
        · subst e1
          rw [opw_at]
          exact op_Sn (e := eCp V t n p r k (l + 1)) hK (hw _ (lc2 h3 h2).2.1)
        · rw [opw_ne (by omega)]
          exact h l' (by omega) h2 h3
/-- copies that were led before lead to nothing -/
theorem cpn_no {r k k0 : Nat} (hw : ∀ j, j ≤ n → WF K (W j)) (h : SC V t n K p k0 W) (hk : k0 / 2 ^ 36 ≤ k / 2 ^ 36) (he : ∀ j, j < 3 → el k j = el k0 j) (hl0 : LB (el k0)) (hl : LB (el k)) (hp : p < 300) : ∀ l, l ≤ lc t n 2 p → cpn V t n K p r k l W = W
  | 0, _ => rfl
  | l + 1, hl' => by
    rw [cpn]
    by_cases e : l + 1 < 2
    · rw [if_pos e]
    · rw [if_neg e]
      have hd := lc2 (t := t) (n := n) (i := p) (l := l + 1) (by omega) hl'
      have hah : ∀ j, j < 4 → ah (el k) (nd t n 273 p (l + 1)) 3 j = ah (el k0) (nd t n 273 p (l + 1)) 3 j := by
        intro j hj
        unfold ah
        by_cases e1 : j = 0
        · rw [if_pos e1, if_pos e1]
        · rw [if_neg e1, if_neg e1, if_pos (by omega), if_pos (by omega), he (j - 1) (by omega)]
      have hB1 := LB_ah (k := 3) hl hd.2.2.1 (by omega) (by decide)
      have hB0 := LB_ah (k := 3) hl0 hd.2.2.1 (by omega) (by decide)
      have hs : Sn K (W (p + (l + 1))) (eCp V t n p r k (l + 1)).1 := by
        refine (h (l + 1) (by omega) hl').le ?_ ?_
        · show ky (k0 / 2 ^ 36 + _) (ah (el k0) _ 3) ≤ ky (k / 2 ^ 36 + _) (ah (el k) _ 3)
          unfold ky
          rw [lp_cg hah]
          omega
        · show lat (ky (k / 2 ^ 36 + _) (ah (el k) _ 3)) = lat (ky (k0 / 2 ^ 36 + _) (ah (el k0) _ 3))
          rw [ky_lat hB1, ky_lat hB0, lp_cg hah]
      have hno : opw K W (p + (l + 1)) (eCp V t n p r k (l + 1)) = W := by
        unfold opw
        rw [Sn_no (hw _ hd.2.1) hs]
        funext j
        by_cases e1 : j = p + (l + 1)
        · rw [e1, va_up_self]
        · rw [va_up_ne _ _ e1]
      rw [hno]
      exact cpn_no hw h hk he hl0 hl hp l (by omega)
theorem exs_SC (hK : 1 ≤ K) (hB : VB V) (hn : n ≤ 300) (ht : ∀ j, j < n → t j < 256) {r k k0 : Nat} (h : IV V t n K W p) (hc : CU n p r k W) (hs : SC V t n K p k0 W) : SC V t n K p k0 (exs V t n K p r k W) := by
  have hp := hc.1
  refine (exs_keep (X := fun W => (IV V t n K W p ∧ CU n p r k W) ∧ SC V t n K p k0 W) (fun W l g1 g2 hx => ?_) (fun W j l hj g1 g2 hx => ?_) (fun W g1 g2 hx => ?_) (fun W hx => ?_) ⟨⟨h, hc⟩, hs⟩).2
  · exact ⟨⟨opw_IV hK hx.1.1 (by omega) (lc2 g1 g2).2.1 (pv_cp hB hn ht hx.1.2 g1 g2), hx.1.2.op (by omega)⟩, hx.2.op hK hx.1.1.1⟩
  · have hd := sb_ok g2 (by omega)
    exact ⟨⟨opw_IV hK hx.1.1 (by omega) (by omega) (pv_ag hB hn ht hx.1.2 hj g1 g2), hx.1.2.op (by omega)⟩, hx.2.op hK hx.1.1.1⟩
  · exact ⟨⟨opw_IV hK hx.1.1 (by omega) (by omega) (pv_sh hB hn ht hx.1.2 g1 g2), hx.1.2.op (by omega)⟩, hx.2.op hK hx.1.1.1⟩
  · exact ⟨⟨opw_IV hK hx.1.1 (by omega) (by omega) (pv_li hB hn ht hx.1.2), hx.1.2.op (by omega)⟩, hx.2.op hK hx.1.1.1⟩
/-- behind its own expansion a state's copies were led -/
theorem exs_SC0 (hK : 1 ≤ K) (hB : VB V) (hn : n ≤ 300) (ht : ∀ j, j < n → t j < 256) {r k : Nat} (h : IV V t n K W p) (hc : CU n p r k W) : SC V t n K p k (exs V t n K p r k W) := by
  have hp := hc.1
  have h1 : (IV V t n K (cpn V t n K p r k (lc t n 2 p) W) p ∧ CU n p r k (cpn V t n K p r k (lc t n 2 p) W)) := cpn_keep (X := fun W => IV V t n K W p ∧ CU n p r k W) (fun W l g1 g2 hx => ⟨opw_IV hK hx.1 (by omega) (lc2 g1 g2).2.1 (pv_cp hB hn ht hx.2 g1 g2), hx.2.op (by omega)⟩) _ _ (Nat.le_refl _) ⟨h, hc⟩
  have h2 := cpn_SC (V := V) (t := t) (p := p) (r := r) (k := k) hK (lc t n 2 p) W h.1 (Nat.le_refl _) (fun l' g1 g2 => by omega)
  have ha : ∀ j, j ≤ 4 → (IV V t n K (ags V t n K p r k j (cpn V t n K p r k (lc t n 2 p) W)) p ∧ CU n p r k (ags V t n K p r k j (cpn V t n K p r k (lc t n 2 p) W))) ∧ SC V t n K p k (ags V t n K p r k j (cpn V t n K p r k (lc t n 2 p) W)) := by
    intro j
    induction j with
    | zero => exact fun _ => ⟨h1, h2⟩
    | succ j ih =>
      intro hj
      rw [ags]
      exact agn_keep (X := fun W => (IV V t n K W p ∧ CU n p r k W) ∧ SC V t n K p k W) (B := sb t n 2 p (el k j)) (fun W l g1 g2 hx => ⟨⟨opw_IV hK hx.1.1 (by omega) (by have hd := sb_ok g2 (by omega); omega) (pv_ag hB hn ht hx.1.2 (by omega) g1 g2), hx.1.2.op (by omega)⟩, hx.2.op hK hx.1.1.1⟩) _ _ (Nat.le_refl _) (ih (by omega))
  have h3 := ha 4 (Nat.le_refl _)
  unfold exs
  unfold shw
  by_cases e : el k 0 ≤ p ∧ t p = t (p - el k 0)
  · rw [if_pos e]
    have h4 := opw_IV hK h3.1.1 (to := p + 1) (by omega) (by omega) (pv_sh hB hn ht h3.1.2 e.1 e.2)
    exact (h3.2.op hK h3.1.1.1).op hK h4.1
  · rw [if_neg e]
    exact h3.2.op hK h3.1.1.1
end WINV
