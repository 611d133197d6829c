/-! the reference's layOut, second half: nearest -/
section LAYB
variable {d f L c s : Nat} {Q : Option Value × xS → Prop} {P : List Nat × Nat × Nat} {I : Nat → Nat → Int32} {J : Nat → Nat → Int64}
theorem gl_le (t : Nat → Nat) (n G i b : Nat) : gl t n G i b ≤ G := by
  unfold gl
  split <;> omega
theorem gl_le2 (t : Nat → Nat) (n G i b : Nat) : gl t n G i b ≤ n - i := by
  have := rn_le t b (n - i) i
  unfold gl
  split <;> omega
theorem xgt_le (f : Nat) : xgt f ≤ 300 := by
  unfold xgt
  split
  · decide
  · split <;> decide
theorem p_layOut_b {n : Nat} {t : Nat → Nat} (hf : f < 3) (hL : L < 2147483648) (h0 : MT I n t) (hI : I 59 1 = nI f) (hs0 : LOs I n t 301) (k : ∀ I', xag I I' [80] → LOn I' n t (xgt f) n → Q (none, (xK f L, P, I', J, xFr f c s))) : Wp (d + 1) 107 75 [some (.ref 59), some (.int (nI 0)), none, none, none, none] [] (xK f L, P, I, J, xFr f c s) Q := by
  have hn := h0.2.1
  have hG := xgt_le f
  have outer : ∀ (m i : Nat) (I1 : Nat → Nat → Int32), n - i = m → i ≤ n → xag I I1 [80] → LOn I1 n t (xgt f) i → Wp (d + 1) 107 75 [some (.ref 59), some (.int (nI i)), none, none, none, none] [] (xK f L, P, I1, J, xFr f c s) Q := by
    intro m
    induction m with
    | zero =>
      intro i I1 hm hi hag hN
      have : i = n := by omega
      subst this
      refine wX11_layOut_75 (n_r0 := 47) rfl ⟨fun _ => k I1 hag hN, fun c1 => ?_⟩
      rw [hag 59 (by decide), h0.1] at c1
      exact absurd (nI_le (Nat.le_refl _) (by omega)) c1
    | succ m ih =>
      intro i I1 hm hi hag hN
      refine wX11_layOut_75 (n_r0 := 47) rfl ⟨fun c1 => ?_, fun c1 => ?_⟩
      · rw [hag 59 (by decide), h0.1, nI_leI (by omega) (by omega)] at c1
        omega
      have hin : i < n := by omega
      -- zeros behind
      have zer : ∀ (q l : Nat) (I2 : Nat → Nat → Int32), 301 - l = q → 1 ≤ l → l ≤ 301 → xag I I2 [80] → LOn I2 n t (xgt f) i → (∀ l', 1 ≤ l' → l' < l → I2 80 (301 * i + l') = nI (nd t n (xgt f) i l')) → (∀ l', l ≤ l' → nd t n (xgt f) i l' = 0) →
          Wp (d + 1) 107 181 [some (.ref 59), some (.int (nI i)), none, some (.int (nI l)), none, none] [] (xK f L, P, I2, J, xFr f c s) Q := by
        intro q
        induction q with
        | zero =>
          intro l I2 hq h1 h2 ha hN2 hd hz
          have : l = 301 := by omega
          subst this
          refine wX11_layOut_181 (xK_lt hf hL) (n_r0 := 47) rfl (f1 := 80) rfl (n_f1 := 90601) rfl ⟨fun _ => ?_, fun c2 => absurd (show nI 300 < nI 301 by decide) c2⟩
          rw [nI_add]
          refine ih (i + 1) I2 (by omega) (by omega) ha (fun i' l' g1 g2 g3 g4 => ?_)
          by_cases e : i' = i
          · subst e; exact hd l' g3 (by omega)
          · exact hN2 i' l' (by omega) g2 g3 g4
        | succ q ihq =>
          intro l I2 hq h1 h2 ha hN2 hd hz
          refine wX11_layOut_181 (xK_lt hf hL) (n_r0 := 47) rfl (f1 := 80) rfl (n_f1 := 90601) rfl ⟨fun c2 => ?_, fun c2 => ⟨301 * i + l, by rw [pk_mul, nI_add], by omega, ?_⟩⟩
          · rw [nI_ltI (by decide) (by omega)] at c2
            omega
          · rw [nI_add]
            refine ihq (l + 1) _ (by omega) (by omega) (by omega) (ha.up (by decide)) (fun i' l' g1 g2 g3 g4 => ?_) (fun l' g1 g2 => ?_) (fun l' g1 => hz l' (by omega))
            · rw [xup_at, if_neg (by omega)]
              exact hN2 i' l' g1 g2 g3 g4
            · rw [xup_at]
              by_cases e : l' = l
              · subst e
                rw [if_pos rfl, hz l' (Nat.le_refl _)]
              · rw [if_neg (by omega)]
                exact hd l' g1 (by omega)
      -- the distances, one after the other
      have mid : ∀ (q b : Nat) (I2 : Nat → Nat → Int32), i - b = q → b ≤ i → xag I I2 [80] → LOn I2 n t (xgt f) i → (∀ l', 1 ≤ l' → l' ≤ mxk (gl t n (xgt f) i) b → I2 80 (301 * i + l') = nI (ndk (gl t n (xgt f) i) l' b)) →
          Wp (d + 1) 107 87 [some (.ref 59), some (.int (nI i)), some (.int (nI (mxk (gl t n (xgt f) i) b))), some (.int (nI (b + 1))), none, none] [] (xK f L, P, I2, J, xFr f c s) Q := by
        intro q
        induction q with
        | zero =>
          intro b I2 hq hb ha hN2 hd
          have : b = i := by omega
          subst this
          have hm300 := mxk_le (g := gl t n (xgt f) b) (gl_le t n (xgt f) b) b
          refine wX11_layOut_87 (xK_lt hf hL) (n_r0 := 47) rfl (f1 := 79) rfl (n_f1 := 90601) rfl ⟨fun _ => ?_, fun c2 => ?_⟩
          · rw [nI_add]
            refine zer (301 - (mxk (gl t n (xgt f) b) b + 1)) _ I2 rfl (by omega) (by omega) ha hN2 (fun l' g1 g2 => hd l' g1 (by omega)) (fun l' g1 => ?_)
            exact (ndk_0 _ (by omega) b).mpr (by omega)
          · exact absurd (nI_lt (by omega) (by omega)) c2
        | succ q ihq =>
          intro b I2 hq hb ha hN2 hd
          have hm300 := mxk_le (g := gl t n (xgt f) i) (gl_le t n (xgt f) i) b
          have hgb := gl_le t n (xgt f) i (b + 1)
          have hs2 : I2 79 (301 * i + (b + 1)) = nI (rn t (b + 1) i (n - i)) := by
            rw [ha 79 (by decide)]
            exact hs0 i (b + 1) hin (by omega) (by omega) (by omega)
          have hrn := rn_le t (b + 1) (n - i) i
          -- lengths, one after the other
          have inn : ∀ (w l : Nat) (I3 : Nat → Nat → Int32), gl t n (xgt f) i (b + 1) + 1 - l = w → mxk (gl t n (xgt f) i) b + 1 ≤ l → xag I I3 [80] → LOn I3 n t (xgt f) i → (∀ l', 1 ≤ l' → l' < l → I3 80 (301 * i + l') = nI (ndk (gl t n (xgt f) i) l' (b + 1))) → (l ≤ gl t n (xgt f) i (b + 1) + 1 ∨ l = mxk (gl t n (xgt f) i) b + 1) →
              Wp (d + 1) 107 131 [some (.ref 59), some (.int (nI i)), some (.int (nI (mxk (gl t n (xgt f) i) b))), some (.int (nI (b + 1))), some (.int (nI (gl t n (xgt f) i (b + 1)))), some (.int (nI l))] [] (xK f L, P, I3, J, xFr f c s) Q := by
            intro w
            induction w with
            | zero =>
              intro l I3 hw h1 h3 hN3 hd3 hl
              have e : mxk (gl t n (xgt f) i) (b + 1) = if mxk (gl t n (xgt f) i) b < gl t n (xgt f) i (b + 1) then gl t n (xgt f) i (b + 1) else mxk (gl t n (xgt f) i) b := rfl
              refine wX11_layOut_131 (xK_lt hf hL) (n_r0 := 47) rfl (f1 := 80) rfl (n_f1 := 90601) rfl ⟨fun _ => ⟨fun c3 => ?_, fun c3 => ?_⟩, fun c3 => ?_⟩
              · rw [nI_leI (by omega) (by omega)] at c3
                rw [if_neg (by omega)] at e
                rw [nI_add, ← e]
                exact ihq (b + 1) I3 (by omega) (by omega) h3 hN3 (fun l' g1 g2 => hd3 l' g1 (by omega))
              · rw [nI_leI (by omega) (by omega)] at c3
                rw [if_pos (by omega)] at e
                rw [nI_add, ← e]
                exact ihq (b + 1) I3 (by omega) (by omega) h3 hN3 (fun l' g1 g2 => hd3 l' g1 (by omega))
              · exact absurd (nI_lt (by omega) (by omega)) c3
            | succ w ihw =>
              intro l I3 hw h1 h3 hN3 hd3 hl
              refine wX11_layOut_131 (xK_lt hf hL) (n_r0 := 47) rfl (f1 := 80) rfl (n_f1 := 90601) rfl ⟨fun c3 => ?_, fun c3 => ⟨301 * i + l, by rw [pk_mul, nI_add], by omega, ?_⟩⟩
              · rw [nI_ltI (by omega) (by omega)] at c3
                omega
              · rw [nI_add]
                refine ihw (l + 1) _ (by omega) (by omega) (h3.up (by decide)) (fun i' l' g1 g2 g3 g4 => ?_) (fun l' g1 g2 => ?_) (Or.inl (by omega))
                · rw [xup_at, if_neg (by omega)]
                  exact hN3 i' l' g1 g2 g3 g4
                · rw [xup_at]
                  by_cases e : l' = l
                  · subst e
                    rw [if_pos rfl, ndk_new _ g1 (by omega) (by omega)]
                  · rw [if_neg (by omega)]
                    exact hd3 l' g1 (by omega)
          have start : ∀ v : Nat, v = gl t n (xgt f) i (b + 1) → Wp (d + 1) 107 131 [some (.ref 59), some (.int (nI i)), some (.int (nI (mxk (gl t n (xgt f) i) b))), some (.int (nI (b + 1))), some (.int (nI v)), some (.int (nI (mxk (gl t n (xgt f) i) b) + nI 1))] [] (xK f L, P, I2, J, xFr f c s) Q := by
            intro v hv
            rw [hv, nI_add]
            refine inn _ _ I2 rfl (Nat.le_refl _) ha hN2 (fun l' g1 g2 => ?_) (Or.inr rfl)
            rw [ndk_old _ g1 (by omega)]
            exact hd l' g1 (by omega)
          refine wX11_layOut_87 (xK_lt hf hL) (n_r0 := 47) rfl (f1 := 79) rfl (n_f1 := 90601) rfl ⟨fun c2 => ?_, fun c2 => ⟨301 * i + (b + 1), by rw [pk_mul, nI_add], by omega, ?_⟩⟩
          · rw [nI_ltI (by omega) (by omega)] at c2
            omega
          · have hI2 : I2 59 1 = nI f := by rw [ha 59 (by decide)]; exact hI
            refine p_greatestM hf hI2 ⟨_, _, _, rfl, fun c3 => ?_, fun c3 => ?_⟩
            · rw [hs2, nI_leI (by omega) (by omega)] at c3
              rw [hs2]
              refine start _ ?_
              unfold gl
              rw [if_neg (by omega)]
            · rw [hs2, nI_leI (by omega) (by omega)] at c3
              refine p_greatestM hf hI2 ⟨_, _, _, rfl, ?_⟩
              refine start _ ?_
              unfold gl
              rw [if_pos (by omega)]
      have := mid i 0 I1 (by omega) (Nat.zero_le _) hag hN (fun l' g1 g2 => by
        have : mxk (gl t n (xgt f) i) 0 = 0 := rfl
        omega)
      exact this
  exact outer n 0 I rfl (Nat.zero_le _) xag.rfl (fun i l g1 => by omega)
/-- what layOut leaves behind -/
def LO (I : Nat → Nat → Int32) (n : Nat) (t : Nat → Nat) (f : Nat) : Prop := LOs I n t 301 ∧ LOn I n t (xgt f) n
theorem p_layOut {n : Nat} {t : Nat → Nat} (hf : f < 3) (hL : L < 2147483648) (h0 : MT I n t) (hI : I 59 1 = nI f) (k : ∀ I', xag I I' [79, 80] → LO I' n t f → Q (none, (xK f L, P, I', J, xFr f c s))) : Wp (d + 1) 107 0 [some (.ref 59), none, none, none, none, none] [] (xK f L, P, I, J, xFr f c s) Q := by
  refine p_layOut_a hf hL h0 (fun I1 h1 h2 => ?_)
  refine p_layOut_b hf hL (h0.ag h1 (by decide) (by decide)) (by rw [h1 59 (by decide)]; exact hI) h2 (fun I2 h3 h4 => ?_)
  refine k I2 (fun a ha => ?_) ⟨fun i b g1 g2 g3 g4 => ?_, h4⟩
  · rw [h3 a (fun z => ha (by rw [List.mem_singleton.mp z]; decide)), h1 a ha]
  · rw [h3 79 (by decide)]
    exact h2 i b g1 g2 g3 g4
end LAYB
