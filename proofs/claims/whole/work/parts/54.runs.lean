/-! RUNS OF LIKE OCTETS, NEAREST DISTANCES: as numbers, and the reference's layOut -/
/-- how many octets from i on, m at most, are as those b before -/
def rn (t : Nat → Nat) (b : Nat) : Nat → Nat → Nat
  | _, 0 => 0
  | i, m + 1 => if t i = t (i - b) then rn t b (i + 1) m + 1 else 0
theorem rn_le (t : Nat → Nat) (b : Nat) : ∀ m i, rn t b i m ≤ m
  | 0, _ => Nat.le_refl _
  | m + 1, i => by
    unfold rn
    split
    · have := rn_le t b m (i + 1); omega
    · omega
/-- the least of 1 .. k whose g is l or more, 0 when there is none -/
def ndk (g : Nat → Nat) (l : Nat) : Nat → Nat
  | 0 => 0
  | k + 1 => if ndk g l k = 0 then (if l ≤ g (k + 1) then k + 1 else 0) else ndk g l k
def mxk (g : Nat → Nat) : Nat → Nat
  | 0 => 0
  | k + 1 => if mxk g k < g (k + 1) then g (k + 1) else mxk g k
theorem ndk_0 (g : Nat → Nat) {l : Nat} (hl : 1 ≤ l) : ∀ k, ndk g l k = 0 ↔ mxk g k < l
  | 0 => by simp [ndk, mxk]; omega
  | k + 1 => by
    have ih := ndk_0 g hl k
    unfold ndk mxk
    by_cases h0 : ndk g l k = 0
    · rw [if_pos h0]
      have h1 := ih.mp h0
      by_cases h2 : l ≤ g (k + 1)
      · rw [if_pos h2]
        split <;> omega
      · rw [if_neg h2]
        split <;> omega
    · rw [if_neg h0]
      have h1 : ¬ mxk g k < l := fun h => h0 (ih.mpr h)
      constructor
      · intro h; exact absurd h h0
      · intro h
        split at h <;> omega
theorem ndk_le (g : Nat → Nat) (l : Nat) : ∀ k, ndk g l k ≤ k
  | 0 => Nat.le_refl _
  | k + 1 => by
    have := ndk_le g l k
    unfold ndk
    split
    · split <;> omega
    · omega
theorem ndk_old (g : Nat → Nat) {l k : Nat} (hl : 1 ≤ l) (h : l ≤ mxk g k) : ndk g l (k + 1) = ndk g l k := by
  have h0 : ¬ ndk g l k = 0 := fun z => by have := (ndk_0 g hl k).mp z; omega
  rw [ndk, if_neg h0]
theorem ndk_new (g : Nat → Nat) {l k : Nat} (hl : 1 ≤ l) (h : mxk g k < l) (h2 : l ≤ g (k + 1)) : ndk g l (k + 1) = k + 1 := by
  have h0 : ndk g l k = 0 := (ndk_0 g hl k).mpr h
  rw [ndk, if_pos h0, if_pos h2]
theorem mxk_le {g : Nat → Nat} {B : Nat} (h : ∀ b, g b ≤ B) : ∀ k, mxk g k ≤ B
  | 0 => Nat.zero_le _
  | k + 1 => by
    have := mxk_le h k
    have := h (k + 1)
    unfold mxk
    split <;> omega
/-- the greatest lengths by form, the least ones -/
def xgt (f : Nat) : Nat := if f = 0 then 258 else if f = 1 then 300 else 273
def xlt (f : Nat) : Nat := if f = 0 then 3 else if f = 1 then 4 else 2
/-- how long a copy at i by b is at most, of n octets -/
def gl (t : Nat → Nat) (n G i b : Nat) : Nat := if G < rn t b i (n - i) then G else rn t b i (n - i)
/-- the nearest distance of l octets at i -/
def nd (t : Nat → Nat) (n G i l : Nat) : Nat := ndk (gl t n G i) l i
def xag (I0 I1 : Nat → Nat → Int32) (S : List Nat) : Prop := ∀ a, a ∉ S → I1 a = I0 a
theorem xag.rfl {I0 : Nat → Nat → Int32} {S : List Nat} : xag I0 I0 S := fun _ _ => Eq.refl _
theorem xag.up {I0 I1 : Nat → Nat → Int32} {S : List Nat} (h : xag I0 I1 S) {a k : Nat} {v : Int32} (ha : a ∈ S) : xag I0 (xup I1 a k v) S := fun b hb => by
  rw [xup_ne _ _ _ (fun e => hb (by rw [e]; exact ha))]
  exact h b hb
/-- the reference's text -/
def MT (I : Nat → Nat → Int32) (n : Nat) (t : Nat → Nat) : Prop := I 59 3 = nI n ∧ n ≤ 300 ∧ ∀ j, j < n → I 62 j = nI (t j) ∧ t j < 256
theorem MT.ag {I I1 : Nat → Nat → Int32} {S : List Nat} {n : Nat} {t : Nat → Nat} (h : MT I n t) (ha : xag I I1 S) (h1 : 59 ∉ S) (h2 : 62 ∉ S) : MT I1 n t := by
  obtain ⟨a, b, c⟩ := h
  exact ⟨by rw [ha 59 h1]; exact a, b, fun j hj => by rw [ha 62 h2]; exact c j hj⟩
def LOs (I : Nat → Nat → Int32) (n : Nat) (t : Nat → Nat) (B : Nat) : Prop := ∀ i b, i < n → 1 ≤ b → b ≤ i → b < B → I 79 (301 * i + b) = nI (rn t b i (n - i))
def LOn (I : Nat → Nat → Int32) (n : Nat) (t : Nat → Nat) (G B : Nat) : Prop := ∀ i l, i < B → i < n → 1 ≤ l → l ≤ 300 → I 80 (301 * i + l) = nI (nd t n G i l)
theorem xm1 (x : Int32) : x + (-1) = x - nI 1 := by
  rw [Int32.sub_eq_add_neg]
  congr 1
theorem xkl {k b : Nat} (hk : k < 2 ^ 29) (hb : b < 2 ^ 29) : nI k - nI 1 < nI b ↔ k ≤ b := by
  rw [Int32.lt_iff_toInt_lt, pk_sub_toInt (by omega) (by decide), nI_toInt (by omega)]
  omega
section LAY
variable {d f L c s : Nat} {Q : Option Value × xS → Prop} {P : List Nat × Nat × Nat} {I : Nat → Nat → Int32} {J : Nat → Nat → Int64}
theorem p_greatestM (hf : f < 3) (hI : I 59 1 = nI f) (k : Q (some (.int (nI (xgt f))), (xK f L, P, I, J, xFr f c s))) : Wp d 100 0 [some (.ref 59)] [] (xK f L, P, I, J, xFr f c s) Q := by
  refine wX11_greatest_0 (n_r0 := 47) rfl ⟨fun h0 => ⟨fun h1 => ?_, fun h1 => ?_⟩, fun h0 => ?_⟩
  · rw [hI, nI_e0 (by omega)] at h0
    rw [hI, nI_eq (by omega) (by decide)] at h1
    unfold xgt at k
    rw [if_neg h0, if_neg h1] at k
    exact k
  · rw [hI, nI_eq (by omega) (by decide)] at h1
    subst h1
    exact k
  · rw [hI, nI_e0 (by omega)] at h0
    subst h0
    exact k
theorem p_shortestM (hf : f < 3) (hI : I 59 1 = nI f) (k : Q (some (.int (nI (xlt f))), (xK f L, P, I, J, xFr f c s))) : Wp d 99 0 [some (.ref 59)] [] (xK f L, P, I, J, xFr f c s) Q := by
  refine wX11_shortest_0 (n_r0 := 47) rfl ⟨fun h0 => ⟨fun h1 => ?_, fun h1 => ?_⟩, fun h0 => ?_⟩
  · rw [hI, nI_e0 (by omega)] at h0
    rw [hI, nI_eq (by omega) (by decide)] at h1
    unfold xlt at k
    rw [if_neg h0, if_neg h1] at k
    exact k
  · rw [hI, nI_eq (by omega) (by decide)] at h1
    subst h1
    exact k
  · rw [hI, nI_e0 (by omega)] at h0
    subst h0
    exact k
/-- the first loops of layOut: same -/
theorem p_layOut_a {n : Nat} {t : Nat → Nat} (hf : f < 3) (hL : L < 2147483648) (h0 : MT I n t) (k : ∀ I', xag I I' [79, 80] → LOs I' n t 301 → Wp d 107 75 [some (.ref 59), some (.int (nI 0)), none, none, none, none] [] (xK f L, P, I', J, xFr f c s) Q) : Wp d 107 0 [some (.ref 59), none, none, none, none, none] [] (xK f L, P, I, J, xFr f c s) Q := by
  have hn := h0.2.1
  have inner : ∀ (b : Nat), 1 ≤ b → b ≤ 300 → (∀ I', xag I I' [79, 80] → LOs I' n t (b + 1) → Wp d 107 2 [some (.ref 59), some (.int (nI (b + 1))), none, none, none, none] [] (xK f L, P, I', J, xFr f c s) Q) →
      ∀ (j : Nat) (I1 : Nat → Nat → Int32), j ≤ n → xag I I1 [79, 80] → LOs I1 n t b → (∀ i, j ≤ i → i < n → b ≤ i → I1 79 (301 * i + b) = nI (rn t b i (n - i))) → Wp d 107 18 [some (.ref 59), some (.int (nI b)), some (.int (nI (rn t b j (n - j)))), some (.int (nI j - nI 1)), none, none] [] (xK f L, P, I1, J, xFr f c s) Q := by
    intro b hb1 hb2 kb j
    induction j with
    | zero =>
      intro I1 hj hag hs hi
      refine wX11_layOut_18 (xK_lt hf hL) (n_r0 := 47) rfl (f1 := 62) rfl (n_f1 := 301) rfl (f4 := 79) rfl (n_f4 := 90601) rfl ⟨fun _ => ?_, fun c1 => ?_⟩
      · rw [nI_add]
        refine kb I1 hag (fun i b' h1 h2 h3 h4 => ?_)
        by_cases e : b' = b
        · subst e; exact hi i (Nat.zero_le _) h1 h3
        · exact hs i b' h1 h2 h3 (by omega)
      · rw [xkl (by omega) (by omega)] at c1
        omega
    | succ j ih =>
      intro I1 hj hag hs hi
      refine wX11_layOut_18 (xK_lt hf hL) (n_r0 := 47) rfl (f1 := 62) rfl (n_f1 := 301) rfl (f4 := 79) rfl (n_f4 := 90601) rfl ⟨fun c1 => ?_, fun c1 => ?_⟩
      · rw [xkl (by omega) (by omega)] at c1
        rw [nI_add]
        refine kb I1 hag (fun i b' h1 h2 h3 h4 => ?_)
        by_cases e : b' = b
        · subst e; exact hi i (by omega) h1 h3
        · exact hs i b' h1 h2 h3 (by omega)
      · rw [xkl (by omega) (by omega)] at c1
        have hm := h0.ag hag (by decide) (by decide)
        have e1 : nI (j + 1) - nI 1 = nI j := pk_sub (by omega)
        refine ⟨j, e1, by omega, j - b, by rw [e1]; exact pk_sub (by omega), by omega, ?_⟩
        have hr : rn t b j (n - j) = if t j = t (j - b) then rn t b (j + 1) (n - (j + 1)) + 1 else 0 := by
          rw [show n - j = (n - (j + 1)) + 1 by omega]
          rfl
        have hT1 := hm.2.2 j (by omega)
        have hT2 := hm.2.2 (j - b) (by omega)
        have hix : nI 301 * (nI (j + 1) - nI 1) + nI b = nI (301 * j + b) := by rw [e1, pk_mul, nI_add]
        have nxt : ∀ v : Nat, v = rn t b j (n - j) → Wp d 107 18 [some (.ref 59), some (.int (nI b)), some (.int (nI v)), some (.int (nI (j + 1) - nI 1 + (-1))), none, none] [] (xK f L, P, xup I1 79 (301 * j + b) (nI v), J, xFr f c s) Q := by
          intro v hv
          rw [hv, e1, xm1]
          refine ih _ (by omega) (hag.up (by decide)) (fun i b' h1 h2 h3 h4 => ?_) (fun i h1 h2 h3 => ?_)
          · rw [xup_at, if_neg (by omega)]
            exact hs i b' h1 h2 h3 h4
          · rw [xup_at]
            by_cases e : i = j
            · subst e
              rw [if_pos rfl]
            · rw [if_neg (by omega)]
              exact hi i (by omega) h2 h3
        refine ⟨fun c2 => ⟨301 * j + b, hix, by omega, ?_⟩, fun c2 => ⟨301 * j + b, hix, by omega, ?_⟩⟩
        · refine nxt 0 ?_
          rw [hr, if_neg]
          intro e
          exact c2 (by rw [hT1.1, hT2.1, e])
        · rw [nI_add]
          refine nxt (rn t b (j + 1) (n - (j + 1)) + 1) ?_
          rw [hr, if_pos]
          rw [hT1.1, hT2.1, nI_eq (by omega) (by omega)] at c2
          exact c2
  have outer : ∀ (m b : Nat) (I1 : Nat → Nat → Int32), 301 - b = m → 1 ≤ b → b ≤ 301 → xag I I1 [79, 80] → LOs I1 n t b → Wp d 107 2 [some (.ref 59), some (.int (nI b)), none, none, none, none] [] (xK f L, P, I1, J, xFr f c s) Q := by
    intro m
    induction m with
    | zero =>
      intro b I1 hm hb1 hb2 hag hs
      have : b = 301 := by omega
      subst this
      refine wX11_layOut_2 (n_r0 := 47) rfl ⟨fun _ => k I1 hag hs, fun c1 => ?_⟩
      exact absurd (show nI 300 < nI 301 by decide) c1
    | succ m ih =>
      intro b I1 hm hb1 hb2 hag hs
      refine wX11_layOut_2 (n_r0 := 47) rfl ⟨fun c1 => ?_, fun c1 => ?_⟩
      · rw [nI_ltI (by decide) (by omega)] at c1
        omega
      · have hm2 := h0.ag hag (by decide) (by decide)
        rw [hm2.1]
        have h2 := inner b hb1 (by omega) (fun I' ha hs' => ih (b + 1) I' (by omega) (by omega) (by omega) ha hs') n I1 (Nat.le_refl _) hag hs (fun i h1 h2 => by omega)
        rw [Nat.sub_self] at h2
        exact h2
  refine wX11_layOut_0 ?_
  exact outer 300 1 I rfl (by decide) (by decide) xag.rfl (fun i b h1 h2 h3 h4 => by omega)
end LAY
