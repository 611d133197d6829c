/-! THE CLASS's TEXT GROWS -/
section APP
variable {d f L c s n : Nat} {t : Nat → Nat} {Q : Option Value × xS → Prop} {P : List Nat × Nat × Nat} {I : Nat → Nat → Int32} {J : Nat → Nat → Int64}
theorem p_noteCopies {Inv : Nat → (Nat → Nat → Int32) → Prop} (hf : f < 3) (hL : L < 2147483648) {a b e sh G : Nat} (ha : a < 300) (hb : b ≤ a) (he : e + b ≤ a + 1) (hb1 : 1 ≤ b) (hsh : 1 ≤ sh) (hsh2 : sh ≤ 400) (h7 : I 7 b = nI e) (hG : I 5 1 = nI G) (hG2 : G ≤ 300) (h0 : Inv sh I)
    (hs : ∀ l I', sh ≤ l → l ≤ e → l ≤ G → Inv l I' → Inv (l + 1) (xup (xup I' 8 (nix a l) (nI b)) 9 (a + 1 - l) (nI l))) (k : ∀ l I', sh ≤ l → (l ≤ sh ∨ (l ≤ e + 1 ∧ l ≤ G + 1)) → (e < l ∨ G < l) → Inv l I' → Q (none, (xK f L, P, I', J, xFr f c s))) : Wp (d + 1) 68 0 [some (.ref 5), some (.int (nI a)), some (.int (nI b)), some (.int (nI sh)), none, none] [] (xK f L, P, I, J, xFr f c s) Q := by
  refine wX9_noteCopies_0 (xK_lt hf hL) (n_r0 := 7) rfl (f1 := 7) rfl (n_f1 := 300) rfl ⟨b, rfl, by omega, ?_⟩
  have hm : (if I 5 1 < I 7 b then I 5 1 else I 7 b) = nI (if G < e then G else e) := by
    rw [h7, hG]
    by_cases h : G < e
    · rw [if_pos h, if_pos ((nI_ltI (by omega) (by omega)).mpr h)]
    · rw [if_neg h, if_neg (fun z => h ((nI_ltI (by omega) (by omega)).mp z))]
  rw [hm]
  generalize hM : (if G < e then G else e) = M
  have hM1 : M ≤ G ∧ M ≤ e ∧ (M = G ∨ M = e) := by
    rw [← hM]
    split <;> omega
  have loop : ∀ q l I', M + 1 - l = q → sh ≤ l → (l ≤ sh ∨ l ≤ M + 1) → Inv l I' → Wp (d + 1) 68 18 [some (.ref 5), some (.int (nI a)), some (.int (nI b)), none, some (.int (nI M)), some (.int (nI l))] [] (xK f L, P, I', J, xFr f c s) Q := by
    intro q
    induction q with
    | zero =>
      intro l I' hq h1 h2 hi
      refine wX9_noteCopies_18 (xK_lt hf hL) (n_r0 := 7) rfl (f1 := 8) rfl (n_f1 := 44850) rfl (f6 := 9) rfl (n_f6 := 300) rfl ⟨fun _ => k l I' h1 (by omega) (by omega) hi, fun c1 => ?_⟩
      rw [nI_ltI (by omega) (by omega)] at c1
      omega
    | succ q ih =>
      intro l I' hq h1 h2 hi
      refine wX9_noteCopies_18 (xK_lt hf hL) (n_r0 := 7) rfl (f1 := 8) rfl (n_f1 := 44850) rfl (f6 := 9) rfl (n_f6 := 300) rfl ⟨fun c1 => ?_, fun c1 => ?_⟩
      · rw [nI_ltI (by omega) (by omega)] at c1
        omega
      · refine p_nearestIndex (by omega) (by omega) (by omega) (by omega) ⟨_, _, _, rfl, nix a l, rfl, nix_lt (by omega) (by omega) ha, a + 1 - l, ?_, by omega, ?_⟩
        · rw [pk_sub (by omega), nI_add, show a - l + 1 = a + 1 - l by omega]
        · rw [nI_add]
          exact ih (l + 1) _ (by omega) (by omega) (by omega) (hs l I' h1 (by omega) (by omega) hi)
  exact loop _ sh I rfl (Nat.le_refl _) (Or.inl (Nat.le_refl _)) h0
/-- the text with one octet more -/
abbrev tadd (t : Nat → Nat) (n o : Nat) : Nat → Nat := va_up t n o
theorem tadd_lt {t : Nat → Nat} {n o j : Nat} (h : j < n) : tadd t n o j = t j := va_up_ne _ _ (by omega)
theorem tadd_at (t : Nat → Nat) (n o : Nat) : tadd t n o n = o := va_up_self _ _ _
/-- what the longest run from a place becomes -/
theorem lr_add {t : Nat → Nat} {n G o p : Nat} (hp : p ≤ n) : lr (tadd t n o) (n + 1) G p = if n + 1 - p ≤ G ∧ n + 1 - p ≤ mxk (fun b => er (tadd t n o) b (n + 1)) n then n + 1 - p else if p < n then lr t n G p else 0 := by
  have hC : n + 1 - p ≤ mxk (fun b => er (tadd t n o) b (n + 1)) n ↔ ∃ b, 1 ≤ b ∧ b ≤ p ∧ cp (tadd t n o) b p (n + 1 - p) := by
    rw [mxk_iff _ (by omega)]
    constructor
    · intro ⟨b, h1, h2, h3⟩
      have h3 : n + 1 - p ≤ er (tadd t n o) b (n + 1) := h3
      rw [show n + 1 = p + (n + 1 - p) by omega] at h3
      rw [show p + (n + 1 - p) - p = n + 1 - p by omega] at h3
      have := (er_iff (tadd t n o) b (n + 1 - p) p (by omega)).mp h3
      exact ⟨b, h1, this.1, this.2⟩
    · intro ⟨b, h1, h2, h3⟩
      refine ⟨b, h1, by omega, ?_⟩
      show n + 1 - p ≤ er (tadd t n o) b (n + 1)
      have := (er_iff (tadd t n o) b (n + 1 - p) p (by omega)).mpr ⟨h2, h3⟩
      rw [show p + (n + 1 - p) = n + 1 by omega] at this
      exact this
  refine eq_of_le (fun l hl => ?_)
  rw [lr_iff _ _ _ _ hl]
  by_cases hc : n + 1 - p ≤ G ∧ n + 1 - p ≤ mxk (fun b => er (tadd t n o) b (n + 1)) n
  · rw [if_pos hc]
    constructor
    · intro h; exact h.2.1
    · intro h
      obtain ⟨b, h1, h2, h3⟩ := hC.mp hc.2
      exact ⟨by omega, h, b, h1, h2, fun q hq => h3 q (by omega)⟩
  · rw [if_neg hc]
    have hne : (l ≤ G ∧ l ≤ n + 1 - p ∧ ∃ b, 1 ≤ b ∧ b ≤ p ∧ cp (tadd t n o) b p l) → l ≤ n - p := by
      intro ⟨h1, h2, h3⟩
      by_cases e : l = n + 1 - p
      · exfalso
        subst e
        exact hc ⟨h1, hC.mpr h3⟩
      · omega
    constructor
    · intro h
      have h4 := hne h
      rw [if_pos (by omega), lr_iff _ _ _ _ hl]
      obtain ⟨h1, h2, b, h5, h6, h7⟩ := h
      exact ⟨h1, h4, b, h5, h6, (cp_congr (n := n) (fun j hj => tadd_lt hj) (by omega)).mp h7⟩
    · intro h
      by_cases hpn : p < n
      · rw [if_pos hpn, lr_iff _ _ _ _ hl] at h
        obtain ⟨h1, h2, b, h5, h6, h7⟩ := h
        exact ⟨h1, by omega, b, h5, h6, (cp_congr (n := n) (fun j hj => tadd_lt hj) (by omega)).mpr h7⟩
      · rw [if_neg hpn] at h
        omega
/-- between two distances of append: bb have been looked at -/
def AP (I0 I : Nat → Nat → Int32) (n : Nat) (t : Nat → Nat) (f o bb M : Nat) : Prop :=
  xag I0 I [5, 6, 7, 8, 9] ∧ I 5 0 = nI (xlt f) ∧ I 5 1 = nI (xgt f) ∧ I 5 3 = nI (n + 1) ∧ (∀ k, k ≠ 3 → I 5 k = I0 5 k) ∧ (∀ j, j ≤ n → I 6 j = nI (tadd t n o j)) ∧
  (∀ b, 1 ≤ b → b ≤ n → I 7 b = nI (if b ≤ bb then er (tadd t n o) b (n + 1) else er t b n)) ∧
  (∀ a l, a < n → 1 ≤ l → l ≤ xgt f → l ≤ mxk (fun b => er t b (a + 1)) a → I 8 (nix a l) = nI (ndk (fun b => er t b (a + 1)) l a)) ∧
  (∀ l, 1 ≤ l → l ≤ xgt f → l ≤ M → I 8 (nix n l) = nI (ndk (fun b => er (tadd t n o) b (n + 1)) l bb)) ∧
  ∀ p, p ≤ n → I 9 p = nI (if n + 1 - p ≤ xgt f ∧ n + 1 - p ≤ M then n + 1 - p else if p < n then lr t n (xgt f) p else 0)
set_option maxHeartbeats 4000000 in
theorem p_append (hf : f < 3) (hL : L < 2147483648) (h0 : CT I n t f) (hn : n < 300) {o : Nat} (ho : o < 256) (k : ∀ I', xag I I' [5, 6, 7, 8, 9] → (∀ q, q ≠ 3 → I' 5 q = I 5 q) → CT I' (n + 1) (tadd t n o) f → Q (none, (xK f L, P, I', J, xFr f c s))) : Wp (d + 2) 67 0 [some (.ref 5), some (.int (nI o)), none, none, none] [] (xK f L, P, I, J, xFr f c s) Q := by
  have hg := xgt_le f
  have hE : ∀ b, er (tadd t n o) b (n + 1) = if b ≤ n ∧ o = tadd t n o (n - b) then er t b n + 1 else 0 := by
    intro b
    rw [er, tadd_at, er_congr (t := t) b (fun j hj => tadd_lt hj)]
  -- what stands when a distance's runs are noted
  have done : ∀ I1, AP I I1 n t f o n (mxk (fun b => er (tadd t n o) b (n + 1)) n) → Q (none, (xK f L, P, I1, J, xFr f c s)) := by
    intro I1 ⟨a1, a2, a3, a4, a5, a6, a7, a8, a9, a10⟩
    refine k I1 a1 a5 ⟨a2, a3, a4, by omega, fun j hj => ⟨a6 j (by omega), ?_⟩, fun b h1 h2 => ?_, fun a l h1 h2 h3 h4 => ?_, fun p hp => ?_⟩
    · by_cases e : j = n
      · subst e; rw [tadd_at]; exact ho
      · rw [tadd_lt (by omega)]
        exact (h0.2.2.2.2.1 j (by omega)).2
    · rw [a7 b h1 (by omega), if_pos (by omega)]
    · by_cases e : a = n
      · subst e
        exact a9 l h2 h3 h4
      · have hcg : ∀ b, er (tadd t n o) b (a + 1) = er t b (a + 1) := fun b => er_congr b (fun j hj => tadd_lt (by omega))
        have hfn : (fun b => er (tadd t n o) b (a + 1)) = fun b => er t b (a + 1) := funext hcg
        rw [hfn] at h4 ⊢
        exact a8 a l (by omega) h2 h3 h4
    · rw [a10 p (by omega), lr_add (by omega)]
  have loop : ∀ q bb I1, n - bb = q → bb ≤ n → AP I I1 n t f o bb (mxk (fun b => er (tadd t n o) b (n + 1)) bb) → Wp (d + 2) 67 52 [some (.ref 5), some (.int (nI o)), some (.int (nI n)), some (.int (nI (mxk (fun b => er (tadd t n o) b (n + 1)) bb))), some (.int (nI (bb + 1)))] [] (xK f L, P, I1, J, xFr f c s) Q := by
    intro q
    induction q with
    | zero =>
      intro bb I1 hq hb ha
      have : bb = n := by omega
      subst this
      refine wX9_append_52 (xK_lt hf hL) (n_r0 := 7) rfl (f1 := 7) rfl (f2 := 6) rfl (n_f2 := 300) rfl (n_f1 := 300) rfl ⟨fun _ => done I1 ha, fun c1 => ?_⟩
      exact absurd (nI_lt (by omega) (by omega)) c1
    | succ q ih =>
      intro bb I1 hq hb ha
      obtain ⟨a1, a2, a3, a4, a5, a6, a7, a8, a9, a10⟩ := id ha
      have hMb : ∀ k, k ≤ n → mxk (fun b => er (tadd t n o) b (n + 1)) k ≤ n := by
        intro k hk
        by_cases e : mxk (fun b => er (tadd t n o) b (n + 1)) k = 0
        · omega
        · obtain ⟨b, h1, h2, h3⟩ := (mxk_iff (fun b => er (tadd t n o) b (n + 1)) (l := mxk (fun b => er (tadd t n o) b (n + 1)) k) (by omega) k).mp (Nat.le_refl _)
          have h3 : mxk (fun b => er (tadd t n o) b (n + 1)) k ≤ er (tadd t n o) b (n + 1) := h3
          have h4 := er_le (tadd t n o) b (n + 1)
          omega
      have hM0 := hMb bb hb
      have hM1 := hMb (bb + 1) (by omega)
      have hes : mxk (fun b => er (tadd t n o) b (n + 1)) (bb + 1) = if mxk (fun b => er (tadd t n o) b (n + 1)) bb < er (tadd t n o) (bb + 1) (n + 1) then er (tadd t n o) (bb + 1) (n + 1) else mxk (fun b => er (tadd t n o) b (n + 1)) bb := rfl
      have hel := er_le (tadd t n o) (bb + 1) (n + 1)
      -- the new run of this distance is stored
      have store : ∀ v : Nat, v = er (tadd t n o) (bb + 1) (n + 1) → Wp (d + 2) 67 90 [some (.ref 5), some (.int (nI o)), some (.int (nI n)), some (.int (nI (mxk (fun b => er (tadd t n o) b (n + 1)) bb))), some (.int (nI (bb + 1)))] [.int (nI v), .int (nI (bb + 1)), .ref 7] (xK f L, P, I1, J, xFr f c s) Q := by
        intro v hv
        refine wX9_append_90 (xK_lt hf hL) rfl rfl rfl rfl ⟨bb + 1, rfl, by omega, bb + 1, rfl, by omega, ?_⟩
        rw [xup_at, if_pos rfl]
        have hag1 : xag I (xup I1 7 (bb + 1) (nI v)) [5, 6, 7, 8, 9] := a1.up (by decide)
        have h7' : ∀ b, 1 ≤ b → b ≤ n → xup I1 7 (bb + 1) (nI v) 7 b = nI (if b ≤ bb + 1 then er (tadd t n o) b (n + 1) else er t b n) := by
          intro b h1 h2
          rw [xup_at]
          by_cases e : b = bb + 1
          · subst e
            rw [if_pos rfl, if_pos (Nat.le_refl _), hv]
          · rw [if_neg e, a7 b h1 h2]
            by_cases e2 : b ≤ bb
            · rw [if_pos e2, if_pos (by omega)]
            · rw [if_neg e2, if_neg (by omega)]
        refine ⟨fun c1 => ?_, fun c1 => ?_⟩
        · rw [nI_leI (by omega) (by omega)] at c1
          rw [if_neg (by omega)] at hes
          have hap1 : AP I (xup I1 7 (bb + 1) (nI v)) n t f o (bb + 1) (mxk (fun b => er (tadd t n o) b (n + 1)) (bb + 1)) := by
            rw [hes]
            refine ⟨hag1, by rw [xup_ne _ _ _ (by decide)]; exact a2, by rw [xup_ne _ _ _ (by decide)]; exact a3, by rw [xup_ne _ _ _ (by decide)]; exact a4, fun k hk => by rw [xup_ne _ _ _ (by decide)]; exact a5 k hk, fun j hj => by rw [xup_ne _ _ _ (by decide)]; exact a6 j hj, h7', fun a l h1 h2 h3 h4 => by rw [xup_ne _ _ _ (by decide)]; exact a8 a l h1 h2 h3 h4, fun l h1 h2 h3 => ?_, fun p hp => by rw [xup_ne _ _ _ (by decide)]; exact a10 p hp⟩
            rw [xup_ne _ _ _ (by decide), a9 l h1 h2 h3, ndk_old _ h1 h3]
          have := ih (bb + 1) _ (by omega) (by omega) hap1
          rw [nI_add]
          rw [hes] at this
          exact this
        · rw [nI_leI (by omega) (by omega)] at c1
          rw [if_pos (by omega)] at hes
          rw [nI_add]
          refine p_noteCopies (Inv := fun l I' => AP I I' n t f o (bb + 1) (l - 1)) hf hL (a := n) (b := bb + 1) (e := v) (G := xgt f) hn (by omega) (by omega) (by omega) (by omega) (by omega) (by rw [xup_at, if_pos rfl]) (by rw [xup_ne _ _ _ (by decide)]; exact a3) hg ?_ (fun l I' g1 g2 g3 hi => ?_) (fun l I' g1 g2 g3 hi => ?_)
          · show AP I _ n t f o (bb + 1) (_ + 1 - 1)
            rw [Nat.add_sub_cancel]
            refine ⟨hag1, by rw [xup_ne _ _ _ (by decide)]; exact a2, by rw [xup_ne _ _ _ (by decide)]; exact a3, by rw [xup_ne _ _ _ (by decide)]; exact a4, fun k hk => by rw [xup_ne _ _ _ (by decide)]; exact a5 k hk, fun j hj => by rw [xup_ne _ _ _ (by decide)]; exact a6 j hj, h7', fun a l h1 h2 h3 h4 => by rw [xup_ne _ _ _ (by decide)]; exact a8 a l h1 h2 h3 h4, fun l h1 h2 h3 => ?_, fun p hp => by rw [xup_ne _ _ _ (by decide)]; exact a10 p hp⟩
            rw [xup_ne _ _ _ (by decide), a9 l h1 h2 h3, ndk_old _ h1 h3]
          · obtain ⟨b1, b2, b3, b4, b5, b6, b7, b8, b9, b10⟩ := hi
            show AP I _ n t f o (bb + 1) (l + 1 - 1)
            rw [Nat.add_sub_cancel]
            refine ⟨(b1.up (by decide)).up (by decide), by rw [xup_ne _ _ _ (by decide), xup_ne _ _ _ (by decide)]; exact b2, by rw [xup_ne _ _ _ (by decide), xup_ne _ _ _ (by decide)]; exact b3, by rw [xup_ne _ _ _ (by decide), xup_ne _ _ _ (by decide)]; exact b4, fun k hk => by rw [xup_ne _ _ _ (by decide), xup_ne _ _ _ (by decide)]; exact b5 k hk, fun j hj => by rw [xup_ne _ _ _ (by decide), xup_ne _ _ _ (by decide)]; exact b6 j hj, fun b h1 h2 => by rw [xup_ne _ _ _ (by decide), xup_ne _ _ _ (by decide)]; exact b7 b h1 h2, fun a l' h1 h2 h3 h4 => ?_, fun l' h1 h2 h3 => ?_, fun p hp => ?_⟩
            · have hla : l' ≤ a := by
                obtain ⟨b, e1, e2, e3⟩ := (mxk_iff (fun b => er t b (a + 1)) h2 a).mp h4
                have e3 : l' ≤ er t b (a + 1) := e3
                have := er_le t b (a + 1)
                omega
              rw [xup_ne _ _ _ (by decide), xup_at, if_neg (fun e => nix_ne (a := n) (l := l) (a' := a) (l' := l') (by omega) (by omega) h2 hla h1 e.symm)]
              exact b8 a l' h1 h2 h3 h4
            · rw [xup_ne _ _ _ (by decide), xup_at]
              by_cases e : l' = l
              · subst e
                rw [if_pos rfl, ndk_new _ h1 (by omega) (by show l' ≤ er (tadd t n o) (bb + 1) (n + 1); omega)]
              · rw [if_neg (nix_ne2 h1 (by omega) e)]
                exact b9 l' h1 h2 (by omega)
            · rw [xup_at]
              by_cases e : p = n + 1 - l
              · rw [if_pos e, if_pos (by omega)]
                congr 1
                omega
              · rw [if_neg e, xup_ne _ _ _ (by decide), b10 p hp]
                by_cases e2 : n + 1 - p ≤ xgt f ∧ n + 1 - p ≤ l - 1
                · rw [if_pos e2, if_pos (by omega)]
                · rw [if_neg e2, if_neg (c := n + 1 - p ≤ xgt f ∧ n + 1 - p ≤ l) (by omega)]
          · obtain ⟨b1, b2, b3, b4, b5, b6, b7, b8, b9, b10⟩ := id hi
            have hv7 : I' 7 (bb + 1) = nI v := by rw [b7 (bb + 1) (by omega) (by omega), if_pos (Nat.le_refl _), hv]
            refine ⟨_, _, rfl, bb + 1, rfl, by omega, ?_⟩
            have hap1 : AP I I' n t f o (bb + 1) (mxk (fun b => er (tadd t n o) b (n + 1)) (bb + 1)) := by
              rw [hes, ← hv]
              by_cases e : v + 1 = l
              · have : v = l - 1 := by omega
                rw [this]
                exact hi
              · refine ⟨b1, b2, b3, b4, b5, b6, b7, b8, fun l' h1 h2 h3 => b9 l' h1 h2 (by omega), fun p hp => ?_⟩
                rw [b10 p hp]
                by_cases e2 : n + 1 - p ≤ xgt f ∧ n + 1 - p ≤ l - 1
                · rw [if_pos e2, if_pos (by omega)]
                · rw [if_neg e2, if_neg (c := n + 1 - p ≤ xgt f ∧ n + 1 - p ≤ v) (by omega)]
            have := ih (bb + 1) _ (by omega) (by omega) hap1
            rw [hes, ← hv] at this
            rw [hv7, nI_add]
            exact this
      refine wX9_append_52 (xK_lt hf hL) rfl rfl rfl rfl rfl ⟨fun c1 => ?_, fun c1 => ⟨n - (bb + 1), by rw [pk_sub (by omega)], by omega, ?_⟩⟩
      · rw [nI_ltI (by omega) (by omega)] at c1
        omega
      · rw [a6 (n - (bb + 1)) (by omega)]
        have hE1 := hE (bb + 1)
        have ht256 : tadd t n o (n - (bb + 1)) < 256 := by
          rw [tadd_lt (by omega)]
          exact (h0.2.2.2.2.1 _ (by omega)).2
        refine ⟨fun c2 => ?_, fun c2 => ⟨bb + 1, rfl, by omega, ?_⟩⟩
        · refine store 0 ?_
          rw [hE1, if_neg]
          intro ⟨_, e⟩
          exact c2 (by rw [← e])
        · rw [nI_eq (by omega) (by omega)] at c2
          rw [a7 (bb + 1) (by omega) (by omega), if_neg (by omega), nI_add]
          refine store _ ?_
          rw [hE1, if_pos ⟨by omega, c2.symm⟩]
  have hs := h0.2.2.1
  refine wX9_append_0 (xK_lt hf hL) rfl rfl rfl rfl rfl rfl rfl ⟨fun c1 => ?_, fun c1 => ?_⟩
  · refine ⟨n, hs, by omega, n, hs, by omega, n, hs, by omega, ?_⟩
    have hsz : xup (xup (xup I 6 n (nI o)) 9 n (nI 0)) 7 n (nI 0) 5 3 = nI n := by
      rw [xup_ne _ _ _ (by decide), xup_ne _ _ _ (by decide), xup_ne _ _ _ (by decide)]
      exact hs
    rw [hsz, nI_add, hs]
    refine loop n 0 _ rfl (Nat.zero_le _) ⟨(((xag.rfl.up (by decide)).up (by decide)).up (by decide)).up (by decide), ?_, ?_, ?_, fun k hk => ?_, fun j hj => ?_, fun b h1 h2 => ?_, fun a l h1 h2 h3 h4 => ?_, fun l h1 h2 h3 => ?_, fun p hp => ?_⟩
    · rw [xup_at, if_neg (by decide), xup_ne _ _ _ (by decide), xup_ne _ _ _ (by decide), xup_ne _ _ _ (by decide)]
      exact h0.1
    · rw [xup_at, if_neg (by decide), xup_ne _ _ _ (by decide), xup_ne _ _ _ (by decide), xup_ne _ _ _ (by decide)]
      exact h0.2.1
    · rw [xup_at, if_pos rfl]
    · rw [xup_at, if_neg hk, xup_ne _ _ _ (by decide), xup_ne _ _ _ (by decide), xup_ne _ _ _ (by decide)]
    · rw [xup_ne _ _ _ (by decide), xup_ne _ _ _ (by decide), xup_ne _ _ _ (by decide), xup_at]
      by_cases e : j = n
      · rw [if_pos e, e, tadd_at]
      · rw [if_neg e, tadd_lt (by omega)]
        exact (h0.2.2.2.2.1 j (by omega)).1
    · rw [if_neg (by omega), xup_ne _ _ _ (by decide), xup_at]
      by_cases e : b = n
      · rw [if_pos e, e]
        have := er_le t n n
        congr 1
        omega
      · rw [if_neg e, xup_ne _ _ _ (by decide), xup_ne _ _ _ (by decide)]
        exact h0.2.2.2.2.2.1 b h1 (by omega)
    · rw [xup_ne _ _ _ (by decide), xup_ne _ _ _ (by decide), xup_ne _ _ _ (by decide), xup_ne _ _ _ (by decide)]
      exact h0.2.2.2.2.2.2.1 a l h1 h2 h3 h4
    · have : mxk (fun b => er (tadd t n o) b (n + 1)) 0 = 0 := rfl
      omega
    · have hm0 : mxk (fun b => er (tadd t n o) b (n + 1)) 0 = 0 := rfl
      rw [hm0, if_neg (by omega), xup_ne _ _ _ (by decide), xup_ne _ _ _ (by decide), xup_at]
      by_cases e : p = n
      · rw [if_pos e, if_neg (by omega)]
      · rw [if_neg e, if_pos (by omega), xup_ne _ _ _ (by decide)]
        exact h0.2.2.2.2.2.2.2 p (by omega)
  · rw [hs] at c1
    exact absurd (nI_lt (by omega) (by decide)) c1
end APP
