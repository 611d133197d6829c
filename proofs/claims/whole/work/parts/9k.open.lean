set_option maxRecDepth 20000 in
theorem wY_cell_0 {d : Nat} {Q : Option Value × xS → Prop} {K : Nat → Nat × Nat} {P : List Nat × Nat × Nat} {I : Nat → Nat → Int32} {J : Nat → Nat → Int64} {F : Nat → Nat → Option Nat} {r0 : Nat} {x1 : Int32} {n_r0 : Nat} (hK : ∀ {a k n : Nat}, K a = (k, n) → n < 2147483648) (hn_r0 : K r0 = (103, n_r0)) (H : (((nI n_r0) ≤ x1 → Q (some (.int (nI 0)), (K, P, I, J, F))) ∧ (¬ (nI n_r0) ≤ x1 → (∃ j1 : Nat, x1 = nI j1 ∧ j1 < n_r0 ∧ Q (some (.int (I r0 j1)), (K, P, I, J, F)))))) : Wp d 168 0 [some (.ref r0), some (.int x1)] [] (K, P, I, J, F) Q := by
  refine Wp.go (x := (.iload_n 1, 1, 0, 0)) rfl 1 [some (.ref r0), some (.int x1)] [.int x1] rfl ⟨rfl, rfl, rfl, rfl⟩ ?_
  refine Wp.go (x := (.aload_n 0, 1, 0, 0)) rfl 2 [some (.ref r0), some (.int x1)] [.ref r0, .int x1] rfl ⟨rfl, rfl, rfl, rfl⟩ ?_
  refine Wp.alen rfl rfl hn_r0 (Or.inr (Or.inl rfl)) ?_
  refine Wp.c_ge rfl rfl ⟨fun c => ?_, fun c => ?_⟩
  · have H := H.1 c
    refine Wp.ic (v := nI 0) rfl rfl (by decide) ?_
    exact Wp.rI rfl rfl H
  · have H := H.2 c
    refine Wp.go (x := (.aload_n 0, 1, 0, 0)) rfl 7 [some (.ref r0), some (.int x1)] [.ref r0] rfl ⟨rfl, rfl, rfl, rfl⟩ ?_
    refine Wp.go (x := (.iload_n 1, 1, 0, 0)) rfl 8 [some (.ref r0), some (.int x1)] [.int x1, .ref r0] rfl ⟨rfl, rfl, rfl, rfl⟩ ?_
    obtain ⟨j1, e, b, H⟩ := H
    refine Wp.ald rfl rfl hn_r0 (Or.inr rfl) (hK hn_r0) ⟨j1, e, b, ?_⟩
    refine Wp.go (x := (.goto 4, 3, 13, 0)) rfl 13 [some (.ref r0), some (.int x1)] [.int (I r0 j1)] rfl ⟨rfl, rfl, rfl, rfl⟩ ?_
    exact Wp.rI rfl rfl H
theorem cl_neg {x : Int32} (hx : x < 0) : (if nI 0 < (if nI 2 < x then nI 2 else x) then (if nI 2 < x then nI 2 else x) else nI 0) = nI 0 := by
  rw [if_neg (show ¬ nI 2 < x from fun z => Int32.lt_irrefl (Int32.lt_trans hx (Int32.lt_trans (by decide) z))), if_neg (show ¬ nI 0 < x from fun z => Int32.lt_irrefl (Int32.lt_trans hx z))]
theorem cl_big {x : Int32} (hx : nI 2 < x) : (if nI 0 < (if nI 2 < x then nI 2 else x) then (if nI 2 < x then nI 2 else x) else nI 0) = nI 2 := by
  rw [if_pos hx]
  decide
theorem p_cellX {d L : Nat} {Q : Option Value × xS → Prop} {K : Nat → Nat × Nat} {P : List Nat × Nat × Nat} {I : Nat → Nat → Int32} {J : Nat → Nat → Int64} {F : Nat → Nat → Option Nat} {x : Int32} (hK : ∀ {a k n : Nat}, K a = (k, n) → n < 2147483648) (h0 : K 0 = (103, L)) (hx : (if 0 < L then I 0 0 else nI 0) = x) (k : Q (some (.int x), (K, P, I, J, F))) : Wp d 168 0 [some (.ref 0), some (.int (nI 0))] [] (K, P, I, J, F) Q := by
  have hL := hK h0
  by_cases e : 0 < L
  · rw [if_pos e] at hx
    refine wY_cell_0 hK h0 (br2 (by rw [nI_leI (by omega) (by omega)]; omega) ⟨0, rfl, e, ?_⟩)
    rw [hx]
    exact k
  · rw [if_neg e] at hx
    refine wY_cell_0 hK h0 (br1 (by rw [nI_leI (by omega) (by omega)]; omega) ?_)
    rw [hx]
    exact k
theorem xK_out {f L a : Nat} (h : 108 ≤ a) : xK f L a = (0, 0) := by
  unfold xK
  rw [List.getD_eq_getElem?_getD, List.getElem?_eq_none (by show 108 ≤ a; exact h)]
  rfl
theorem KP_full {f L : Nat} {K : Nat → Nat × Nat} (h : KP f L 108 K) : K = xK f L := by
  funext a
  rw [h a]
  by_cases e : a < 108
  · rw [if_pos e]
  · rw [if_neg e, xK_out (by omega)]
def fpr (a : Nat) : Nat → List (Option Nat) → List (Nat × Nat)
  | _, [] => []
  | k, none :: r => fpr a (k + 1) r
  | k, some _ :: r => (a, k) :: fpr a (k + 1) r
def fps : Nat → List (List (Option Nat)) → List (Nat × Nat)
  | _, [] => []
  | a, r :: rs => fpr a 0 r ++ fps (a + 1) rs
theorem fpr_in {a : Nat} : ∀ {r : List (Option Nat)} {k j c : Nat}, r[j]? = some (some c) → (a, k + j) ∈ fpr a k r
  | [], k, j, c, h => by simp at h
  | none :: r, k, 0, c, h => by simp at h
  | some x :: r, k, 0, c, h => List.mem_cons_self ..
  | none :: r, k, j + 1, c, h => by
    have := fpr_in (a := a) (r := r) (k := k + 1) (j := j) (c := c) (by simpa using h)
    rw [show k + (j + 1) = k + 1 + j by omega]
    exact this
  | some x :: r, k, j + 1, c, h => by
    have := fpr_in (a := a) (r := r) (k := k + 1) (j := j) (c := c) (by simpa using h)
    rw [show k + (j + 1) = k + 1 + j by omega]
    exact List.mem_cons_of_mem _ this
theorem fps_in : ∀ {rs : List (List (Option Nat))} {a i : Nat} {r : List (Option Nat)} {j c : Nat}, rs[i]? = some r → r[j]? = some (some c) → (a + i, j) ∈ fps a rs
  | [], a, i, r, j, c, h, _ => by simp at h
  | r0 :: rs, a, 0, r, j, c, h, h2 => by
    have e : r0 = r := by simpa using h
    subst e
    have := fpr_in (a := a) (k := 0) h2
    rw [Nat.zero_add] at this
    exact List.mem_append_left _ this
  | r0 :: rs, a, i + 1, r, j, c, h, h2 => by
    have := fps_in (rs := rs) (a := a + 1) (i := i) (by simpa using h) h2
    rw [show a + (i + 1) = a + 1 + i by omega]
    exact List.mem_append_right _ this
theorem FD_fullG {f b : Nat} {D : List (Nat × Nat)} {F : Nat → Nat → Option Nat} (h : FD f b D F) (hD : ∀ q, q ∈ fps 0 (xFL f 41 47) → q ∈ D) : F = xFr f 41 47 := by
  funext a k
  rw [h.2 a k]
  by_cases e : (a, k) ∈ D
  · rw [if_pos e]
  · rw [if_neg e]
    unfold xFr
    rw [List.getD_eq_getElem?_getD, List.getD_eq_getElem?_getD]
    cases hq : (xFL f 41 47)[a]? with
    | none => rfl
    | some r =>
      show none = (r[k]?).getD none
      cases hr : r[k]? with
      | none => rfl
      | some o =>
        cases o with
        | none => rfl
        | some c =>
          have := fps_in (a := 0) hq hr
          rw [Nat.zero_add] at this
          exact absurd (hD _ this) e
theorem FD_full0 {b : Nat} {D : List (Nat × Nat)} {F : Nat → Nat → Option Nat} (h : FD 0 b D F) (hD : ∀ q, q ∈ fps 0 (xFL 0 41 47) → q ∈ D) : F = xFr 0 41 47 := FD_fullG h hD
theorem FD_full1 {b : Nat} {D : List (Nat × Nat)} {F : Nat → Nat → Option Nat} (h : FD 1 b D F) (hD : ∀ q, q ∈ fps 0 (xFL 1 41 47) → q ∈ D) : F = xFr 1 41 47 := FD_fullG h hD
theorem FD_full2 {b : Nat} {D : List (Nat × Nat)} {F : Nat → Nat → Option Nat} (h : FD 2 b D F) (hD : ∀ q, q ∈ fps 0 (xFL 2 41 47) → q ∈ D) : F = xFr 2 41 47 := FD_fullG h hD
theorem XI0 {f : Nat} {I : Nat → Nat → Int32} {J : Nat → Nat → Int64} (hf : f < 3) (h5 : I 5 0 = nI (xlt f) ∧ I 5 1 = nI (xgt f) ∧ I 5 3 = nI 0) (hS : ST I) (h10 : I 10 0 = nI (xcl f)) (h11 : CV I 11 V0) (h33 : I 33 1 = nI (if f = 2 then 1 else 0)) (h4 : I 4 0 = nI f ∧ I 4 9 = nI 0 ∧ I 4 10 = nI 8 ∧ I 4 11 = nI 0) (hLC : f = 1 → LC I) (h29 : f = 2 → I 29 0 = nI 0) (h34 : I 34 2 = nI 0 ∧ I 34 4 = nI 0) (h59 : I 59 1 = nI f ∧ I 59 3 = nI 0 ∧ I 59 5 = nI 8 ∧ I 59 7 = nI 0 ∧ I 59 9 = nI 0 ∧ I 59 10 = nI 0 ∧ I 59 18 = nI 0) (h64 : ∀ k s, k < 4 → s < SY k → I 64 (256 * k + s) = nI (V0 k s)) : XI f 41 I J := by
  have no : ∀ {P : Nat → Prop}, ∀ j, j < 0 → P j := fun j hj => absurd hj (Nat.not_lt_zero _)
  refine ⟨0, fun _ => 0, V0, 8, 0, 0, 0, fun _ => (0, 0, 0, 0), 0, 0, 0, fun _ => 0, 0, fun _ => 0, ⟨⟨⟨h5.1, h5.2.1, h5.2.2, Nat.zero_le _, no, fun b _ h => absurd h (Nat.not_lt_zero _), fun a l h => absurd h (Nat.not_lt_zero _), no⟩, ⟨hS, h10, h11, V0_VB⟩, h33, h4.1, hLC, h29⟩, ⟨h4.2.1, h4.2.2.1, h4.2.2.2⟩, fun z => by omega, ⟨h34.1, no⟩, h34.2, no⟩, ⟨⟨h59.1, h64, V0_VB⟩, ⟨h59.2.1, Nat.zero_le _, no⟩, ⟨h59.2.2.1, h59.2.2.2.2.2.1, h59.2.2.2.2.2.2⟩, fun z => by omega, ⟨h59.2.2.2.1, no⟩, h59.2.2.2.2.1, no⟩, by omega, by omega, ⟨by omega, no, fun i j _ hj => absurd hj (Nat.not_lt_zero _)⟩, by omega, fun z => by omega, by omega⟩
set_option maxRecDepth 20000 in
theorem law_open_0neg {L d w : Nat} {K : Nat → Nat × Nat} {F : Nat → Nat → Option Nat} {I : Nat → Nat → Int32} {J : Nat → Nat → Int64} {Q : Option Value × xS → Prop} (hL0 : L < 1073741824) {x : Int32} (hx : x < 0) (hK : KP 0 L 4 K) (hF : FD 0 4 [] F) (hS : ST I) (hxv : (if 0 < L then I 0 0 else nI 0) = x) (hw : L < 1 + 4 * w + 4) (kq : ∀ (P' : List Nat × Nat × Nat) I' J' F', P'.2.1 ≤ 100 + xcT * w → P'.2.2 ≤ 500000 + xsT * w → Q (some (.int (nI 1)), (xK 0 L, P', I', J', F'))) : Wp (d + 8) 169 0 [some (.ref 0), none, none, none, none, none, none] [] (K, (4 :: 5 :: 6 :: 7 :: 8 :: 9 :: 10 :: 11 :: 12 :: 13 :: 14 :: 15 :: 16 :: 17 :: 18 :: 19 :: 20 :: 21 :: 22 :: 33 :: 34 :: 35 :: 36 :: 37 :: 38 :: 39 :: 40 :: 41 :: 42 :: 43 :: 44 :: 45 :: 46 :: 47 :: 48 :: 49 :: 50 :: 51 :: 52 :: 59 :: 62 :: 64 :: 66 :: 68 :: 72 :: 73 :: 74 :: 75 :: 79 :: 80 :: 81 :: 83 :: 84 :: 85 :: 86 :: 87 :: 88 :: 89 :: 90 :: 91 :: 92 :: 93 :: 94 :: 95 :: 96 :: 97 :: 98 :: 99 :: 100 :: 101 :: 102 :: 103 :: 104 :: 105 :: 106 :: 107 :: [], 0, 0), I, J, F) Q := by
  have hL : L < 2147483648 := by omega
  refine Wp.mnw (a := 4) rfl rfl hK hF rfl (by decide) rfl rfl (fun K1 F1 I1 J1 hK1 hF1 fa1 z1 => ?_)
  refine Wp.go (x := (.dup, 1, 0, 0)) rfl 4 [some (.ref 0), none, none, none, none, none, none] [.ref 4, .ref 4] rfl ⟨rfl, rfl, rfl, rfl⟩ ?_
  refine Wp.go (x := (.aload_n 0, 1, 0, 0)) rfl 5 [some (.ref 0), none, none, none, none, none, none] [.ref 0, .ref 4, .ref 4] rfl ⟨rfl, rfl, rfl, rfl⟩ ?_
  refine Wp.ic (v := nI 0) rfl rfl (by decide) ?_
  refine Wp.call (x := (.invokestatic 15, 3, 168, 2)) rfl 168 [.ref 0, .int (nI 0)] [.ref 4, .ref 4] rfl rfl ⟨Nat.le_of_ble_eq_true rfl, Nat.le_of_ble_eq_true rfl, Nat.le_of_ble_eq_true rfl⟩ rfl rfl rfl ?_
  refine p_cellX (x := x) (hK1.lt (by decide) hL) (hK1.at (by decide) rfl) (by rw [fa1 0 (by decide)]; exact hxv) ?_
  show Wp (d + 8) 169 9 [some (.ref 0), none, none, none, none, none, none] [.int (x), .ref 4, .ref 4] _ Q
  refine Wp.call (x := (.invokespecial 21, 3, 73, 2)) rfl 73 [.ref 4, .int (x)] [.ref 4] rfl rfl ⟨Nat.le_of_ble_eq_true rfl, Nat.le_of_ble_eq_true rfl, Nat.le_of_ble_eq_true rfl⟩ rfl rfl rfl ?_
  have hS1 : ST I1 := fun k' hk' => by rw [fa1 1 (by decide), fa1 2 (by decide), fa1 3 (by decide)]; exact hS k' hk'
  refine ci_X10_init_4_0 hL (cl_neg hx) hK1 hF1 hS1 z1 (fun K2 F2 I2 J2 m2 l2 em2 el2 hK2 hF2 fa2 z2 t5 t10 tcv t33 t34 => ?_)
  show Wp (d + 8) 169 12 [some (.ref 0), none, none, none, none, none, none] [.ref 4] _ Q
  refine Wp.go (x := (.astore_n 1, 1, 0, 0)) rfl 13 [some (.ref 0), some (.ref 4), none, none, none, none, none] [] rfl ⟨rfl, rfl, rfl, rfl⟩ ?_
  have hK2_53 := hK2.skip rfl
  have hK2_54 := hK2_53.skip rfl
  have hK2_55 := hK2_54.skip rfl
  have hK2_56 := hK2_55.skip rfl
  have hK2_57 := hK2_56.skip rfl
  have hK2_58 := hK2_57.skip rfl
  have hF2' := hF2.mono (b' := 59) (by decide)
  refine Wp.mnw (a := 59) rfl rfl hK2_58 hF2' rfl (by decide) rfl rfl (fun K3 F3 I3 J3 hK3 hF3 fa3 z3 => ?_)
  refine Wp.go (x := (.dup, 1, 0, 0)) rfl 17 [some (.ref 0), some (.ref 4), none, none, none, none, none] [.ref 59, .ref 59] rfl ⟨rfl, rfl, rfl, rfl⟩ ?_
  refine Wp.go (x := (.aload_n 0, 1, 0, 0)) rfl 18 [some (.ref 0), some (.ref 4), none, none, none, none, none] [.ref 0, .ref 59, .ref 59] rfl ⟨rfl, rfl, rfl, rfl⟩ ?_
  refine Wp.ic (v := nI 0) rfl rfl (by decide) ?_
  refine Wp.call (x := (.invokestatic 15, 3, 168, 2)) rfl 168 [.ref 0, .int (nI 0)] [.ref 59, .ref 59] rfl rfl ⟨Nat.le_of_ble_eq_true rfl, Nat.le_of_ble_eq_true rfl, Nat.le_of_ble_eq_true rfl⟩ rfl rfl rfl ?_
  refine p_cellX (x := x) (hK3.lt (by decide) hL) (hK3.at (by decide) rfl) (by rw [fa3 0 (by decide), fa2 0 (by decide), fa1 0 (by decide)]; exact hxv) ?_
  show Wp (d + 8) 169 22 [some (.ref 0), some (.ref 4), none, none, none, none, none] [.int (x), .ref 59, .ref 59] _ Q
  refine Wp.call (x := (.invokespecial 26, 3, 96, 2)) rfl 96 [.ref 59, .int (x)] [.ref 59] rfl rfl ⟨Nat.le_of_ble_eq_true rfl, Nat.le_of_ble_eq_true rfl, Nat.le_of_ble_eq_true rfl⟩ rfl rfl rfl ?_
  refine ci_X11_init_59_0neg hL hx hK3 hF3 z3 (fun K4 F4 I4 J4 m4 l4 em4 el4 hK4 hF4 fa4 z4 y4 => ?_)
  show Wp (d + 8) 169 25 [some (.ref 0), some (.ref 4), none, none, none, none, none] [.ref 59] _ Q
  refine Wp.go (x := (.astore_n 2, 1, 0, 0)) rfl 26 [some (.ref 0), some (.ref 4), some (.ref 59), none, none, none, none] [] rfl ⟨rfl, rfl, rfl, rfl⟩ ?_
  refine Wp.ic (v := nI 1) rfl rfl (by decide) ?_
  refine Wp.mnl (a := 107) rfl rfl hK4 rfl (by decide) (fun K5 J5 hK5 => ?_)
  refine Wp.go (x := (.astore_n 3, 1, 0, 0)) rfl 30 [some (.ref 0), some (.ref 4), some (.ref 59), some (.ref 107), none, none, none] [] rfl ⟨rfl, rfl, rfl, rfl⟩ ?_
  refine Wp.ic (v := nI 1) rfl rfl (by decide) ?_
  refine Wp.go (x := (.istore 4, 2, 0, 0)) rfl 33 [some (.ref 0), some (.ref 4), some (.ref 59), some (.ref 107), some (.int (nI 1)), none, none] [] rfl ⟨rfl, rfl, rfl, rfl⟩ ?_
  have eK : K5 = xK 0 L := KP_full hK5
  have eF : F4 = xFr 0 41 47 := FD_full0 hF4 (by decide +kernel)
  rw [eK, eF]
  have far : ∀ a, a < 53 → I4 a = I2 a := fun a ha => by rw [fa4 a (by simp; omega), fa3 a (by omega)]
  have far0 : ∀ a, a < 4 → I4 a = I a := fun a ha => by rw [far a (by omega), fa2 a (by simp; omega), fa1 a (by omega)]
  refine law_loop (by decide) hL0 w 1 41 47 ([], m4 + 1, l4 + 1) I4 J5 (by decide) (by omega) hw (Or.inl ⟨rfl, rfl⟩) rfl (XI0 (by decide) ⟨(by rw [far 5 (by decide)]; exact t5 0), (by rw [far 5 (by decide)]; exact t5 1), (by rw [far 5 (by decide)]; exact t5 3)⟩ (fun k' hk' => by rw [far0 1 (by decide), far0 2 (by decide), far0 3 (by decide)]; exact hS k' hk') (by rw [far 10 (by decide)]; exact t10 0) (fun k' s' z1 z2 => by rw [far 11 (by decide)]; exact tcv k' s' z1 z2) (by rw [far 33 (by decide)]; exact t33 1) ⟨(by rw [far 4 (by decide)]; exact z2 0), (by rw [far 4 (by decide)]; exact z2 9), (by rw [far 4 (by decide)]; exact z2 10), (by rw [far 4 (by decide)]; exact z2 11)⟩ (fun z => by cases z) (fun z => by cases z) ⟨(by rw [far 34 (by decide)]; exact t34 2), (by rw [far 34 (by decide)]; exact t34 4)⟩ ⟨z4 1, z4 3, z4 5, z4 7, z4 9, z4 10, z4 18⟩ y4) (fun P' I' J' F' h1 h2 => kq P' I' J' F' (by dsimp only at h1; omega) (by dsimp only at h2; omega))
set_option maxRecDepth 20000 in
theorem law_open_0eq {L d w : Nat} {K : Nat → Nat × Nat} {F : Nat → Nat → Option Nat} {I : Nat → Nat → Int32} {J : Nat → Nat → Int64} {Q : Option Value × xS → Prop} (hL0 : L < 1073741824) (hK : KP 0 L 4 K) (hF : FD 0 4 [] F) (hS : ST I) (hxv : (if 0 < L then I 0 0 else nI 0) = nI 0) (hw : L < 1 + 4 * w + 4) (kq : ∀ (P' : List Nat × Nat × Nat) I' J' F', P'.2.1 ≤ 100 + xcT * w → P'.2.2 ≤ 500000 + xsT * w → Q (some (.int (nI 1)), (xK 0 L, P', I', J', F'))) : Wp (d + 8) 169 0 [some (.ref 0), none, none, none, none, none, none] [] (K, (4 :: 5 :: 6 :: 7 :: 8 :: 9 :: 10 :: 11 :: 12 :: 13 :: 14 :: 15 :: 16 :: 17 :: 18 :: 19 :: 20 :: 21 :: 22 :: 33 :: 34 :: 35 :: 36 :: 37 :: 38 :: 39 :: 40 :: 41 :: 42 :: 43 :: 44 :: 45 :: 46 :: 47 :: 48 :: 49 :: 50 :: 51 :: 52 :: 59 :: 62 :: 64 :: 66 :: 68 :: 72 :: 73 :: 74 :: 75 :: 79 :: 80 :: 81 :: 83 :: 84 :: 85 :: 86 :: 87 :: 88 :: 89 :: 90 :: 91 :: 92 :: 93 :: 94 :: 95 :: 96 :: 97 :: 98 :: 99 :: 100 :: 101 :: 102 :: 103 :: 104 :: 105 :: 106 :: 107 :: [], 0, 0), I, J, F) Q := by
  have hL : L < 2147483648 := by omega
  refine Wp.mnw (a := 4) rfl rfl hK hF rfl (by decide) rfl rfl (fun K1 F1 I1 J1 hK1 hF1 fa1 z1 => ?_)
  refine Wp.go (x := (.dup, 1, 0, 0)) rfl 4 [some (.ref 0), none, none, none, none, none, none] [.ref 4, .ref 4] rfl ⟨rfl, rfl, rfl, rfl⟩ ?_
  refine Wp.go (x := (.aload_n 0, 1, 0, 0)) rfl 5 [some (.ref 0), none, none, none, none, none, none] [.ref 0, .ref 4, .ref 4] rfl ⟨rfl, rfl, rfl, rfl⟩ ?_
  refine Wp.ic (v := nI 0) rfl rfl (by decide) ?_
  refine Wp.call (x := (.invokestatic 15, 3, 168, 2)) rfl 168 [.ref 0, .int (nI 0)] [.ref 4, .ref 4] rfl rfl ⟨Nat.le_of_ble_eq_true rfl, Nat.le_of_ble_eq_true rfl, Nat.le_of_ble_eq_true rfl⟩ rfl rfl rfl ?_
  refine p_cellX (x := nI 0) (hK1.lt (by decide) hL) (hK1.at (by decide) rfl) (by rw [fa1 0 (by decide)]; exact hxv) ?_
  show Wp (d + 8) 169 9 [some (.ref 0), none, none, none, none, none, none] [.int (nI 0), .ref 4, .ref 4] _ Q
  refine Wp.call (x := (.invokespecial 21, 3, 73, 2)) rfl 73 [.ref 4, .int (nI 0)] [.ref 4] rfl rfl ⟨Nat.le_of_ble_eq_true rfl, Nat.le_of_ble_eq_true rfl, Nat.le_of_ble_eq_true rfl⟩ rfl rfl rfl ?_
  have hS1 : ST I1 := fun k' hk' => by rw [fa1 1 (by decide), fa1 2 (by decide), fa1 3 (by decide)]; exact hS k' hk'
  refine ci_X10_init_4_0 hL (by decide) hK1 hF1 hS1 z1 (fun K2 F2 I2 J2 m2 l2 em2 el2 hK2 hF2 fa2 z2 t5 t10 tcv t33 t34 => ?_)
  show Wp (d + 8) 169 12 [some (.ref 0), none, none, none, none, none, none] [.ref 4] _ Q
  refine Wp.go (x := (.astore_n 1, 1, 0, 0)) rfl 13 [some (.ref 0), some (.ref 4), none, none, none, none, none] [] rfl ⟨rfl, rfl, rfl, rfl⟩ ?_
  have hK2_53 := hK2.skip rfl
  have hK2_54 := hK2_53.skip rfl
  have hK2_55 := hK2_54.skip rfl
  have hK2_56 := hK2_55.skip rfl
  have hK2_57 := hK2_56.skip rfl
  have hK2_58 := hK2_57.skip rfl
  have hF2' := hF2.mono (b' := 59) (by decide)
  refine Wp.mnw (a := 59) rfl rfl hK2_58 hF2' rfl (by decide) rfl rfl (fun K3 F3 I3 J3 hK3 hF3 fa3 z3 => ?_)
  refine Wp.go (x := (.dup, 1, 0, 0)) rfl 17 [some (.ref 0), some (.ref 4), none, none, none, none, none] [.ref 59, .ref 59] rfl ⟨rfl, rfl, rfl, rfl⟩ ?_
  refine Wp.go (x := (.aload_n 0, 1, 0, 0)) rfl 18 [some (.ref 0), some (.ref 4), none, none, none, none, none] [.ref 0, .ref 59, .ref 59] rfl ⟨rfl, rfl, rfl, rfl⟩ ?_
  refine Wp.ic (v := nI 0) rfl rfl (by decide) ?_
  refine Wp.call (x := (.invokestatic 15, 3, 168, 2)) rfl 168 [.ref 0, .int (nI 0)] [.ref 59, .ref 59] rfl rfl ⟨Nat.le_of_ble_eq_true rfl, Nat.le_of_ble_eq_true rfl, Nat.le_of_ble_eq_true rfl⟩ rfl rfl rfl ?_
  refine p_cellX (x := nI 0) (hK3.lt (by decide) hL) (hK3.at (by decide) rfl) (by rw [fa3 0 (by decide), fa2 0 (by decide), fa1 0 (by decide)]; exact hxv) ?_
  show Wp (d + 8) 169 22 [some (.ref 0), some (.ref 4), none, none, none, none, none] [.int (nI 0), .ref 59, .ref 59] _ Q
  refine Wp.call (x := (.invokespecial 26, 3, 96, 2)) rfl 96 [.ref 59, .int (nI 0)] [.ref 59] rfl rfl ⟨Nat.le_of_ble_eq_true rfl, Nat.le_of_ble_eq_true rfl, Nat.le_of_ble_eq_true rfl⟩ rfl rfl rfl ?_
  refine ci_X11_init_59_0eq hL hK3 hF3 z3 (fun K4 F4 I4 J4 m4 l4 em4 el4 hK4 hF4 fa4 z4 y4 => ?_)
  show Wp (d + 8) 169 25 [some (.ref 0), some (.ref 4), none, none, none, none, none] [.ref 59] _ Q
  refine Wp.go (x := (.astore_n 2, 1, 0, 0)) rfl 26 [some (.ref 0), some (.ref 4), some (.ref 59), none, none, none, none] [] rfl ⟨rfl, rfl, rfl, rfl⟩ ?_
  refine Wp.ic (v := nI 1) rfl rfl (by decide) ?_
  refine Wp.mnl (a := 107) rfl rfl hK4 rfl (by decide) (fun K5 J5 hK5 => ?_)
  refine Wp.go (x := (.astore_n 3, 1, 0, 0)) rfl 30 [some (.ref 0), some (.ref 4), some (.ref 59), some (.ref 107), none, none, none] [] rfl ⟨rfl, rfl, rfl, rfl⟩ ?_
  refine Wp.ic (v := nI 1) rfl rfl (by decide) ?_
  refine Wp.go (x := (.istore 4, 2, 0, 0)) rfl 33 [some (.ref 0), some (.ref 4), some (.ref 59), some (.ref 107), some (.int (nI 1)), none, none] [] rfl ⟨rfl, rfl, rfl, rfl⟩ ?_
  have eK : K5 = xK 0 L := KP_full hK5
  have eF : F4 = xFr 0 41 47 := FD_full0 hF4 (by decide +kernel)
  rw [eK, eF]
  have far : ∀ a, a < 53 → I4 a = I2 a := fun a ha => by rw [fa4 a (by simp; omega), fa3 a (by omega)]
  have far0 : ∀ a, a < 4 → I4 a = I a := fun a ha => by rw [far a (by omega), fa2 a (by simp; omega), fa1 a (by omega)]
  refine law_loop (by decide) hL0 w 1 41 47 ([], m4 + 1, l4 + 1) I4 J5 (by decide) (by omega) hw (Or.inl ⟨rfl, rfl⟩) rfl (XI0 (by decide) ⟨(by rw [far 5 (by decide)]; exact t5 0), (by rw [far 5 (by decide)]; exact t5 1), (by rw [far 5 (by decide)]; exact t5 3)⟩ (fun k' hk' => by rw [far0 1 (by decide), far0 2 (by decide), far0 3 (by decide)]; exact hS k' hk') (by rw [far 10 (by decide)]; exact t10 0) (fun k' s' z1 z2 => by rw [far 11 (by decide)]; exact tcv k' s' z1 z2) (by rw [far 33 (by decide)]; exact t33 1) ⟨(by rw [far 4 (by decide)]; exact z2 0), (by rw [far 4 (by decide)]; exact z2 9), (by rw [far 4 (by decide)]; exact z2 10), (by rw [far 4 (by decide)]; exact z2 11)⟩ (fun z => by cases z) (fun z => by cases z) ⟨(by rw [far 34 (by decide)]; exact t34 2), (by rw [far 34 (by decide)]; exact t34 4)⟩ ⟨z4 1, z4 3, z4 5, z4 7, z4 9, z4 10, z4 18⟩ y4) (fun P' I' J' F' h1 h2 => kq P' I' J' F' (by dsimp only at h1; omega) (by dsimp only at h2; omega))
set_option maxRecDepth 20000 in
theorem law_open_1eq {L d w : Nat} {K : Nat → Nat × Nat} {F : Nat → Nat → Option Nat} {I : Nat → Nat → Int32} {J : Nat → Nat → Int64} {Q : Option Value × xS → Prop} (hL0 : L < 1073741824) (hK : KP 1 L 4 K) (hF : FD 1 4 [] F) (hS : ST I) (hxv : (if 0 < L then I 0 0 else nI 0) = nI 1) (hw : L < 1 + 4 * w + 4) (kq : ∀ (P' : List Nat × Nat × Nat) I' J' F', P'.2.1 ≤ 100 + xcT * w → P'.2.2 ≤ 500000 + xsT * w → Q (some (.int (nI 1)), (xK 1 L, P', I', J', F'))) : Wp (d + 8) 169 0 [some (.ref 0), none, none, none, none, none, none] [] (K, (4 :: 5 :: 6 :: 7 :: 8 :: 9 :: 10 :: 11 :: 12 :: 13 :: 14 :: 15 :: 16 :: 17 :: 18 :: 19 :: 20 :: 23 :: 24 :: 25 :: 26 :: 27 :: 33 :: 34 :: 35 :: 36 :: 37 :: 38 :: 39 :: 40 :: 41 :: 42 :: 43 :: 44 :: 45 :: 46 :: 47 :: 48 :: 49 :: 50 :: 51 :: 52 :: 59 :: 62 :: 64 :: 66 :: 68 :: 72 :: 73 :: 74 :: 75 :: 79 :: 80 :: 81 :: 83 :: 84 :: 85 :: 86 :: 87 :: 88 :: 89 :: 90 :: 91 :: 92 :: 93 :: 94 :: 95 :: 96 :: 97 :: 98 :: 99 :: 100 :: 101 :: 102 :: 103 :: 104 :: 105 :: 106 :: 107 :: [], 0, 0), I, J, F) Q := by
  have hL : L < 2147483648 := by omega
  refine Wp.mnw (a := 4) rfl rfl hK hF rfl (by decide) rfl rfl (fun K1 F1 I1 J1 hK1 hF1 fa1 z1 => ?_)
  refine Wp.go (x := (.dup, 1, 0, 0)) rfl 4 [some (.ref 0), none, none, none, none, none, none] [.ref 4, .ref 4] rfl ⟨rfl, rfl, rfl, rfl⟩ ?_
  refine Wp.go (x := (.aload_n 0, 1, 0, 0)) rfl 5 [some (.ref 0), none, none, none, none, none, none] [.ref 0, .ref 4, .ref 4] rfl ⟨rfl, rfl, rfl, rfl⟩ ?_
  refine Wp.ic (v := nI 0) rfl rfl (by decide) ?_
  refine Wp.call (x := (.invokestatic 15, 3, 168, 2)) rfl 168 [.ref 0, .int (nI 0)] [.ref 4, .ref 4] rfl rfl ⟨Nat.le_of_ble_eq_true rfl, Nat.le_of_ble_eq_true rfl, Nat.le_of_ble_eq_true rfl⟩ rfl rfl rfl ?_
  refine p_cellX (x := nI 1) (hK1.lt (by decide) hL) (hK1.at (by decide) rfl) (by rw [fa1 0 (by decide)]; exact hxv) ?_
  show Wp (d + 8) 169 9 [some (.ref 0), none, none, none, none, none, none] [.int (nI 1), .ref 4, .ref 4] _ Q
  refine Wp.call (x := (.invokespecial 21, 3, 73, 2)) rfl 73 [.ref 4, .int (nI 1)] [.ref 4] rfl rfl ⟨Nat.le_of_ble_eq_true rfl, Nat.le_of_ble_eq_true rfl, Nat.le_of_ble_eq_true rfl⟩ rfl rfl rfl ?_
  have hS1 : ST I1 := fun k' hk' => by rw [fa1 1 (by decide), fa1 2 (by decide), fa1 3 (by decide)]; exact hS k' hk'
  refine ci_X10_init_4_1 hL (by decide) hK1 hF1 hS1 z1 (fun K2 F2 I2 J2 m2 l2 em2 el2 hK2 hF2 fa2 z2 t5 t10 tcv tlc t33 t34 => ?_)
  show Wp (d + 8) 169 12 [some (.ref 0), none, none, none, none, none, none] [.ref 4] _ Q
  refine Wp.go (x := (.astore_n 1, 1, 0, 0)) rfl 13 [some (.ref 0), some (.ref 4), none, none, none, none, none] [] rfl ⟨rfl, rfl, rfl, rfl⟩ ?_
  have hK2_53 := hK2.skip rfl
  have hK2_54 := hK2_53.skip rfl
  have hK2_55 := hK2_54.skip rfl
  have hK2_56 := hK2_55.skip rfl
  have hK2_57 := hK2_56.skip rfl
  have hK2_58 := hK2_57.skip rfl
  have hF2' := hF2.mono (b' := 59) (by decide)
  refine Wp.mnw (a := 59) rfl rfl hK2_58 hF2' rfl (by decide) rfl rfl (fun K3 F3 I3 J3 hK3 hF3 fa3 z3 => ?_)
  refine Wp.go (x := (.dup, 1, 0, 0)) rfl 17 [some (.ref 0), some (.ref 4), none, none, none, none, none] [.ref 59, .ref 59] rfl ⟨rfl, rfl, rfl, rfl⟩ ?_
  refine Wp.go (x := (.aload_n 0, 1, 0, 0)) rfl 18 [some (.ref 0), some (.ref 4), none, none, none, none, none] [.ref 0, .ref 59, .ref 59] rfl ⟨rfl, rfl, rfl, rfl⟩ ?_
  refine Wp.ic (v := nI 0) rfl rfl (by decide) ?_
  refine Wp.call (x := (.invokestatic 15, 3, 168, 2)) rfl 168 [.ref 0, .int (nI 0)] [.ref 59, .ref 59] rfl rfl ⟨Nat.le_of_ble_eq_true rfl, Nat.le_of_ble_eq_true rfl, Nat.le_of_ble_eq_true rfl⟩ rfl rfl rfl ?_
  refine p_cellX (x := nI 1) (hK3.lt (by decide) hL) (hK3.at (by decide) rfl) (by rw [fa3 0 (by decide), fa2 0 (by decide), fa1 0 (by decide)]; exact hxv) ?_
  show Wp (d + 8) 169 22 [some (.ref 0), some (.ref 4), none, none, none, none, none] [.int (nI 1), .ref 59, .ref 59] _ Q
  refine Wp.call (x := (.invokespecial 26, 3, 96, 2)) rfl 96 [.ref 59, .int (nI 1)] [.ref 59] rfl rfl ⟨Nat.le_of_ble_eq_true rfl, Nat.le_of_ble_eq_true rfl, Nat.le_of_ble_eq_true rfl⟩ rfl rfl rfl ?_
  refine ci_X11_init_59_1eq hL hK3 hF3 z3 (fun K4 F4 I4 J4 m4 l4 em4 el4 hK4 hF4 fa4 z4 y4 => ?_)
  show Wp (d + 8) 169 25 [some (.ref 0), some (.ref 4), none, none, none, none, none] [.ref 59] _ Q
  refine Wp.go (x := (.astore_n 2, 1, 0, 0)) rfl 26 [some (.ref 0), some (.ref 4), some (.ref 59), none, none, none, none] [] rfl ⟨rfl, rfl, rfl, rfl⟩ ?_
  refine Wp.ic (v := nI 1) rfl rfl (by decide) ?_
  refine Wp.mnl (a := 107) rfl rfl hK4 rfl (by decide) (fun K5 J5 hK5 => ?_)
  refine Wp.go (x := (.astore_n 3, 1, 0, 0)) rfl 30 [some (.ref 0), some (.ref 4), some (.ref 59), some (.ref 107), none, none, none] [] rfl ⟨rfl, rfl, rfl, rfl⟩ ?_
  refine Wp.ic (v := nI 1) rfl rfl (by decide) ?_
  refine Wp.go (x := (.istore 4, 2, 0, 0)) rfl 33 [some (.ref 0), some (.ref 4), some (.ref 59), some (.ref 107), some (.int (nI 1)), none, none] [] rfl ⟨rfl, rfl, rfl, rfl⟩ ?_
  have eK : K5 = xK 1 L := KP_full hK5
  have eF : F4 = xFr 1 41 47 := FD_full1 hF4 (by decide +kernel)
  rw [eK, eF]
  have far : ∀ a, a < 53 → I4 a = I2 a := fun a ha => by rw [fa4 a (by simp; omega), fa3 a (by omega)]
  have far0 : ∀ a, a < 4 → I4 a = I a := fun a ha => by rw [far a (by omega), fa2 a (by simp; omega), fa1 a (by omega)]
  refine law_loop (by decide) hL0 w 1 41 47 ([], m4 + 1, l4 + 1) I4 J5 (by decide) (by omega) hw (Or.inl ⟨rfl, rfl⟩) rfl (XI0 (by decide) ⟨(by rw [far 5 (by decide)]; exact t5 0), (by rw [far 5 (by decide)]; exact t5 1), (by rw [far 5 (by decide)]; exact t5 3)⟩ (fun k' hk' => by rw [far0 1 (by decide), far0 2 (by decide), far0 3 (by decide)]; exact hS k' hk') (by rw [far 10 (by decide)]; exact t10 0) (fun k' s' z1 z2 => by rw [far 11 (by decide)]; exact tcv k' s' z1 z2) (by rw [far 33 (by decide)]; exact t33 1) ⟨(by rw [far 4 (by decide)]; exact z2 0), (by rw [far 4 (by decide)]; exact z2 9), (by rw [far 4 (by decide)]; exact z2 10), (by rw [far 4 (by decide)]; exact z2 11)⟩ (fun _ r hr => by rw [far 27 (by decide)]; exact tlc r hr) (fun z => by cases z) ⟨(by rw [far 34 (by decide)]; exact t34 2), (by rw [far 34 (by decide)]; exact t34 4)⟩ ⟨z4 1, z4 3, z4 5, z4 7, z4 9, z4 10, z4 18⟩ y4) (fun P' I' J' F' h1 h2 => kq P' I' J' F' (by dsimp only at h1; omega) (by dsimp only at h2; omega))
set_option maxRecDepth 20000 in
theorem law_open_2eq {L d w : Nat} {K : Nat → Nat × Nat} {F : Nat → Nat → Option Nat} {I : Nat → Nat → Int32} {J : Nat → Nat → Int64} {Q : Option Value × xS → Prop} (hL0 : L < 1073741824) (hK : KP 2 L 4 K) (hF : FD 2 4 [] F) (hS : ST I) (hxv : (if 0 < L then I 0 0 else nI 0) = nI 2) (hw : L < 1 + 4 * w + 4) (kq : ∀ (P' : List Nat × Nat × Nat) I' J' F', P'.2.1 ≤ 100 + xcT * w → P'.2.2 ≤ 500000 + xsT * w → Q (some (.int (nI 1)), (xK 2 L, P', I', J', F'))) : Wp (d + 8) 169 0 [some (.ref 0), none, none, none, none, none, none] [] (K, (4 :: 5 :: 6 :: 7 :: 8 :: 9 :: 10 :: 11 :: 12 :: 13 :: 14 :: 15 :: 16 :: 17 :: 18 :: 19 :: 20 :: 28 :: 29 :: 30 :: 31 :: 32 :: 33 :: 34 :: 35 :: 36 :: 37 :: 38 :: 39 :: 40 :: 41 :: 42 :: 43 :: 44 :: 45 :: 46 :: 47 :: 48 :: 49 :: 50 :: 51 :: 52 :: 59 :: 62 :: 64 :: 66 :: 68 :: 72 :: 73 :: 74 :: 75 :: 79 :: 80 :: 81 :: 83 :: 84 :: 85 :: 86 :: 87 :: 88 :: 89 :: 90 :: 91 :: 92 :: 93 :: 94 :: 95 :: 96 :: 97 :: 98 :: 99 :: 100 :: 101 :: 102 :: 103 :: 104 :: 105 :: 106 :: 107 :: [], 0, 0), I, J, F) Q := by
  have hL : L < 2147483648 := by omega
  refine Wp.mnw (a := 4) rfl rfl hK hF rfl (by decide) rfl rfl (fun K1 F1 I1 J1 hK1 hF1 fa1 z1 => ?_)
  refine Wp.go (x := (.dup, 1, 0, 0)) rfl 4 [some (.ref 0), none, none, none, none, none, none] [.ref 4, .ref 4] rfl ⟨rfl, rfl, rfl, rfl⟩ ?_
  refine Wp.go (x := (.aload_n 0, 1, 0, 0)) rfl 5 [some (.ref 0), none, none, none, none, none, none] [.ref 0, .ref 4, .ref 4] rfl ⟨rfl, rfl, rfl, rfl⟩ ?_
  refine Wp.ic (v := nI 0) rfl rfl (by decide) ?_
  refine Wp.call (x := (.invokestatic 15, 3, 168, 2)) rfl 168 [.ref 0, .int (nI 0)] [.ref 4, .ref 4] rfl rfl ⟨Nat.le_of_ble_eq_true rfl, Nat.le_of_ble_eq_true rfl, Nat.le_of_ble_eq_true rfl⟩ rfl rfl rfl ?_
  refine p_cellX (x := nI 2) (hK1.lt (by decide) hL) (hK1.at (by decide) rfl) (by rw [fa1 0 (by decide)]; exact hxv) ?_
  show Wp (d + 8) 169 9 [some (.ref 0), none, none, none, none, none, none] [.int (nI 2), .ref 4, .ref 4] _ Q
  refine Wp.call (x := (.invokespecial 21, 3, 73, 2)) rfl 73 [.ref 4, .int (nI 2)] [.ref 4] rfl rfl ⟨Nat.le_of_ble_eq_true rfl, Nat.le_of_ble_eq_true rfl, Nat.le_of_ble_eq_true rfl⟩ rfl rfl rfl ?_
  have hS1 : ST I1 := fun k' hk' => by rw [fa1 1 (by decide), fa1 2 (by decide), fa1 3 (by decide)]; exact hS k' hk'
  refine ci_X10_init_4_2 hL (by decide) hK1 hF1 hS1 z1 (fun K2 F2 I2 J2 m2 l2 em2 el2 hK2 hF2 fa2 z2 t5 t10 tcv t29 t33 t34 => ?_)
  show Wp (d + 8) 169 12 [some (.ref 0), none, none, none, none, none, none] [.ref 4] _ Q
  refine Wp.go (x := (.astore_n 1, 1, 0, 0)) rfl 13 [some (.ref 0), some (.ref 4), none, none, none, none, none] [] rfl ⟨rfl, rfl, rfl, rfl⟩ ?_
  have hK2_53 := hK2.skip rfl
  have hK2_54 := hK2_53.skip rfl
  have hK2_55 := hK2_54.skip rfl
  have hK2_56 := hK2_55.skip rfl
  have hK2_57 := hK2_56.skip rfl
  have hK2_58 := hK2_57.skip rfl
  have hF2' := hF2.mono (b' := 59) (by decide)
  refine Wp.mnw (a := 59) rfl rfl hK2_58 hF2' rfl (by decide) rfl rfl (fun K3 F3 I3 J3 hK3 hF3 fa3 z3 => ?_)
  refine Wp.go (x := (.dup, 1, 0, 0)) rfl 17 [some (.ref 0), some (.ref 4), none, none, none, none, none] [.ref 59, .ref 59] rfl ⟨rfl, rfl, rfl, rfl⟩ ?_
  refine Wp.go (x := (.aload_n 0, 1, 0, 0)) rfl 18 [some (.ref 0), some (.ref 4), none, none, none, none, none] [.ref 0, .ref 59, .ref 59] rfl ⟨rfl, rfl, rfl, rfl⟩ ?_
  refine Wp.ic (v := nI 0) rfl rfl (by decide) ?_
  refine Wp.call (x := (.invokestatic 15, 3, 168, 2)) rfl 168 [.ref 0, .int (nI 0)] [.ref 59, .ref 59] rfl rfl ⟨Nat.le_of_ble_eq_true rfl, Nat.le_of_ble_eq_true rfl, Nat.le_of_ble_eq_true rfl⟩ rfl rfl rfl ?_
  refine p_cellX (x := nI 2) (hK3.lt (by decide) hL) (hK3.at (by decide) rfl) (by rw [fa3 0 (by decide), fa2 0 (by decide), fa1 0 (by decide)]; exact hxv) ?_
  show Wp (d + 8) 169 22 [some (.ref 0), some (.ref 4), none, none, none, none, none] [.int (nI 2), .ref 59, .ref 59] _ Q
  refine Wp.call (x := (.invokespecial 26, 3, 96, 2)) rfl 96 [.ref 59, .int (nI 2)] [.ref 59] rfl rfl ⟨Nat.le_of_ble_eq_true rfl, Nat.le_of_ble_eq_true rfl, Nat.le_of_ble_eq_true rfl⟩ rfl rfl rfl ?_
  refine ci_X11_init_59_2eq hL hK3 hF3 z3 (fun K4 F4 I4 J4 m4 l4 em4 el4 hK4 hF4 fa4 z4 y4 => ?_)
  show Wp (d + 8) 169 25 [some (.ref 0), some (.ref 4), none, none, none, none, none] [.ref 59] _ Q
  refine Wp.go (x := (.astore_n 2, 1, 0, 0)) rfl 26 [some (.ref 0), some (.ref 4), some (.ref 59), none, none, none, none] [] rfl ⟨rfl, rfl, rfl, rfl⟩ ?_
  refine Wp.ic (v := nI 1) rfl rfl (by decide) ?_
  refine Wp.mnl (a := 107) rfl rfl hK4 rfl (by decide) (fun K5 J5 hK5 => ?_)
  refine Wp.go (x := (.astore_n 3, 1, 0, 0)) rfl 30 [some (.ref 0), some (.ref 4), some (.ref 59), some (.ref 107), none, none, none] [] rfl ⟨rfl, rfl, rfl, rfl⟩ ?_
  refine Wp.ic (v := nI 1) rfl rfl (by decide) ?_
  refine Wp.go (x := (.istore 4, 2, 0, 0)) rfl 33 [some (.ref 0), some (.ref 4), some (.ref 59), some (.ref 107), some (.int (nI 1)), none, none] [] rfl ⟨rfl, rfl, rfl, rfl⟩ ?_
  have eK : K5 = xK 2 L := KP_full hK5
  have eF : F4 = xFr 2 41 47 := FD_full2 hF4 (by decide +kernel)
  rw [eK, eF]
  have far : ∀ a, a < 53 → I4 a = I2 a := fun a ha => by rw [fa4 a (by simp; omega), fa3 a (by omega)]
  have far0 : ∀ a, a < 4 → I4 a = I a := fun a ha => by rw [far a (by omega), fa2 a (by simp; omega), fa1 a (by omega)]
  refine law_loop (by decide) hL0 w 1 41 47 ([], m4 + 1, l4 + 1) I4 J5 (by decide) (by omega) hw (Or.inl ⟨rfl, rfl⟩) rfl (XI0 (by decide) ⟨(by rw [far 5 (by decide)]; exact t5 0), (by rw [far 5 (by decide)]; exact t5 1), (by rw [far 5 (by decide)]; exact t5 3)⟩ (fun k' hk' => by rw [far0 1 (by decide), far0 2 (by decide), far0 3 (by decide)]; exact hS k' hk') (by rw [far 10 (by decide)]; exact t10 0) (fun k' s' z1 z2 => by rw [far 11 (by decide)]; exact tcv k' s' z1 z2) (by rw [far 33 (by decide)]; exact t33 1) ⟨(by rw [far 4 (by decide)]; exact z2 0), (by rw [far 4 (by decide)]; exact z2 9), (by rw [far 4 (by decide)]; exact z2 10), (by rw [far 4 (by decide)]; exact z2 11)⟩ (fun z => by cases z) (fun _ => by rw [far 29 (by decide)]; exact t29 0) ⟨(by rw [far 34 (by decide)]; exact t34 2), (by rw [far 34 (by decide)]; exact t34 4)⟩ ⟨z4 1, z4 3, z4 5, z4 7, z4 9, z4 10, z4 18⟩ y4) (fun P' I' J' F' h1 h2 => kq P' I' J' F' (by dsimp only at h1; omega) (by dsimp only at h2; omega))
set_option maxRecDepth 20000 in
theorem law_open_2big {L d w : Nat} {K : Nat → Nat × Nat} {F : Nat → Nat → Option Nat} {I : Nat → Nat → Int32} {J : Nat → Nat → Int64} {Q : Option Value × xS → Prop} (hL0 : L < 1073741824) {x : Int32} (hx : nI 2 < x) (hK : KP 2 L 4 K) (hF : FD 2 4 [] F) (hS : ST I) (hxv : (if 0 < L then I 0 0 else nI 0) = x) (hw : L < 1 + 4 * w + 4) (kq : ∀ (P' : List Nat × Nat × Nat) I' J' F', P'.2.1 ≤ 100 + xcT * w → P'.2.2 ≤ 500000 + xsT * w → Q (some (.int (nI 1)), (xK 2 L, P', I', J', F'))) : Wp (d + 8) 169 0 [some (.ref 0), none, none, none, none, none, none] [] (K, (4 :: 5 :: 6 :: 7 :: 8 :: 9 :: 10 :: 11 :: 12 :: 13 :: 14 :: 15 :: 16 :: 17 :: 18 :: 19 :: 20 :: 28 :: 29 :: 30 :: 31 :: 32 :: 33 :: 34 :: 35 :: 36 :: 37 :: 38 :: 39 :: 40 :: 41 :: 42 :: 43 :: 44 :: 45 :: 46 :: 47 :: 48 :: 49 :: 50 :: 51 :: 52 :: 59 :: 62 :: 64 :: 66 :: 68 :: 72 :: 73 :: 74 :: 75 :: 79 :: 80 :: 81 :: 83 :: 84 :: 85 :: 86 :: 87 :: 88 :: 89 :: 90 :: 91 :: 92 :: 93 :: 94 :: 95 :: 96 :: 97 :: 98 :: 99 :: 100 :: 101 :: 102 :: 103 :: 104 :: 105 :: 106 :: 107 :: [], 0, 0), I, J, F) Q := by
  have hL : L < 2147483648 := by omega
  refine Wp.mnw (a := 4) rfl rfl hK hF rfl (by decide) rfl rfl (fun K1 F1 I1 J1 hK1 hF1 fa1 z1 => ?_)
  refine Wp.go (x := (.dup, 1, 0, 0)) rfl 4 [some (.ref 0), none, none, none, none, none, none] [.ref 4, .ref 4] rfl ⟨rfl, rfl, rfl, rfl⟩ ?_
  refine Wp.go (x := (.aload_n 0, 1, 0, 0)) rfl 5 [some (.ref 0), none, none, none, none, none, none] [.ref 0, .ref 4, .ref 4] rfl ⟨rfl, rfl, rfl, rfl⟩ ?_
  refine Wp.ic (v := nI 0) rfl rfl (by decide) ?_
  refine Wp.call (x := (.invokestatic 15, 3, 168, 2)) rfl 168 [.ref 0, .int (nI 0)] [.ref 4, .ref 4] rfl rfl ⟨Nat.le_of_ble_eq_true rfl, Nat.le_of_ble_eq_true rfl, Nat.le_of_ble_eq_true rfl⟩ rfl rfl rfl ?_
  refine p_cellX (x := x) (hK1.lt (by decide) hL) (hK1.at (by decide) rfl) (by rw [fa1 0 (by decide)]; exact hxv) ?_
  show Wp (d + 8) 169 9 [some (.ref 0), none, none, none, none, none, none] [.int (x), .ref 4, .ref 4] _ Q
  refine Wp.call (x := (.invokespecial 21, 3, 73, 2)) rfl 73 [.ref 4, .int (x)] [.ref 4] rfl rfl ⟨Nat.le_of_ble_eq_true rfl, Nat.le_of_ble_eq_true rfl, Nat.le_of_ble_eq_true rfl⟩ rfl rfl rfl ?_
  have hS1 : ST I1 := fun k' hk' => by rw [fa1 1 (by decide), fa1 2 (by decide), fa1 3 (by decide)]; exact hS k' hk'
  refine ci_X10_init_4_2 hL (cl_big hx) hK1 hF1 hS1 z1 (fun K2 F2 I2 J2 m2 l2 em2 el2 hK2 hF2 fa2 z2 t5 t10 tcv t29 t33 t34 => ?_)
  show Wp (d + 8) 169 12 [some (.ref 0), none, none, none, none, none, none] [.ref 4] _ Q
  refine Wp.go (x := (.astore_n 1, 1, 0, 0)) rfl 13 [some (.ref 0), some (.ref 4), none, none, none, none, none] [] rfl ⟨rfl, rfl, rfl, rfl⟩ ?_
  have hK2_53 := hK2.skip rfl
  have hK2_54 := hK2_53.skip rfl
  have hK2_55 := hK2_54.skip rfl
  have hK2_56 := hK2_55.skip rfl
  have hK2_57 := hK2_56.skip rfl
  have hK2_58 := hK2_57.skip rfl
  have hF2' := hF2.mono (b' := 59) (by decide)
  refine Wp.mnw (a := 59) rfl rfl hK2_58 hF2' rfl (by decide) rfl rfl (fun K3 F3 I3 J3 hK3 hF3 fa3 z3 => ?_)
  refine Wp.go (x := (.dup, 1, 0, 0)) rfl 17 [some (.ref 0), some (.ref 4), none, none, none, none, none] [.ref 59, .ref 59] rfl ⟨rfl, rfl, rfl, rfl⟩ ?_
  refine Wp.go (x := (.aload_n 0, 1, 0, 0)) rfl 18 [some (.ref 0), some (.ref 4), none, none, none, none, none] [.ref 0, .ref 59, .ref 59] rfl ⟨rfl, rfl, rfl, rfl⟩ ?_
  refine Wp.ic (v := nI 0) rfl rfl (by decide) ?_
  refine Wp.call (x := (.invokestatic 15, 3, 168, 2)) rfl 168 [.ref 0, .int (nI 0)] [.ref 59, .ref 59] rfl rfl ⟨Nat.le_of_ble_eq_true rfl, Nat.le_of_ble_eq_true rfl, Nat.le_of_ble_eq_true rfl⟩ rfl rfl rfl ?_
  refine p_cellX (x := x) (hK3.lt (by decide) hL) (hK3.at (by decide) rfl) (by rw [fa3 0 (by decide), fa2 0 (by decide), fa1 0 (by decide)]; exact hxv) ?_
  show Wp (d + 8) 169 22 [some (.ref 0), some (.ref 4), none, none, none, none, none] [.int (x), .ref 59, .ref 59] _ Q
  refine Wp.call (x := (.invokespecial 26, 3, 96, 2)) rfl 96 [.ref 59, .int (x)] [.ref 59] rfl rfl ⟨Nat.le_of_ble_eq_true rfl, Nat.le_of_ble_eq_true rfl, Nat.le_of_ble_eq_true rfl⟩ rfl rfl rfl ?_
  refine ci_X11_init_59_2big hL hx hK3 hF3 z3 (fun K4 F4 I4 J4 m4 l4 em4 el4 hK4 hF4 fa4 z4 y4 => ?_)
  show Wp (d + 8) 169 25 [some (.ref 0), some (.ref 4), none, none, none, none, none] [.ref 59] _ Q
  refine Wp.go (x := (.astore_n 2, 1, 0, 0)) rfl 26 [some (.ref 0), some (.ref 4), some (.ref 59), none, none, none, none] [] rfl ⟨rfl, rfl, rfl, rfl⟩ ?_
  refine Wp.ic (v := nI 1) rfl rfl (by decide) ?_
  refine Wp.mnl (a := 107) rfl rfl hK4 rfl (by decide) (fun K5 J5 hK5 => ?_)
  refine Wp.go (x := (.astore_n 3, 1, 0, 0)) rfl 30 [some (.ref 0), some (.ref 4), some (.ref 59), some (.ref 107), none, none, none] [] rfl ⟨rfl, rfl, rfl, rfl⟩ ?_
  refine Wp.ic (v := nI 1) rfl rfl (by decide) ?_
  refine Wp.go (x := (.istore 4, 2, 0, 0)) rfl 33 [some (.ref 0), some (.ref 4), some (.ref 59), some (.ref 107), some (.int (nI 1)), none, none] [] rfl ⟨rfl, rfl, rfl, rfl⟩ ?_
  have eK : K5 = xK 2 L := KP_full hK5
  have eF : F4 = xFr 2 41 47 := FD_full2 hF4 (by decide +kernel)
  rw [eK, eF]
  have far : ∀ a, a < 53 → I4 a = I2 a := fun a ha => by rw [fa4 a (by simp; omega), fa3 a (by omega)]
  have far0 : ∀ a, a < 4 → I4 a = I a := fun a ha => by rw [far a (by omega), fa2 a (by simp; omega), fa1 a (by omega)]
  refine law_loop (by decide) hL0 w 1 41 47 ([], m4 + 1, l4 + 1) I4 J5 (by decide) (by omega) hw (Or.inl ⟨rfl, rfl⟩) rfl (XI0 (by decide) ⟨(by rw [far 5 (by decide)]; exact t5 0), (by rw [far 5 (by decide)]; exact t5 1), (by rw [far 5 (by decide)]; exact t5 3)⟩ (fun k' hk' => by rw [far0 1 (by decide), far0 2 (by decide), far0 3 (by decide)]; exact hS k' hk') (by rw [far 10 (by decide)]; exact t10 0) (fun k' s' z1 z2 => by rw [far 11 (by decide)]; exact tcv k' s' z1 z2) (by rw [far 33 (by decide)]; exact t33 1) ⟨(by rw [far 4 (by decide)]; exact z2 0), (by rw [far 4 (by decide)]; exact z2 9), (by rw [far 4 (by decide)]; exact z2 10), (by rw [far 4 (by decide)]; exact z2 11)⟩ (fun z => by cases z) (fun _ => by rw [far 29 (by decide)]; exact t29 0) ⟨(by rw [far 34 (by decide)]; exact t34 2), (by rw [far 34 (by decide)]; exact t34 4)⟩ ⟨z4 1, z4 3, z4 5, z4 7, z4 9, z4 10, z4 18⟩ y4) (fun P' I' J' F' h1 h2 => kq P' I' J' F' (by dsimp only at h1; omega) (by dsimp only at h2; omega))
