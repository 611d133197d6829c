/-! THE LAW ON EVERY SCRIPT, in the light machine -/
def xpl (f : Nat) : List Nat := if f = 0 then [4, 5, 6, 7, 8, 9, 10, 11, 12, 13, 14, 15, 16, 17, 18, 19, 20, 21, 22, 33, 34, 35, 36, 37, 38, 39, 40, 41, 42, 43, 44, 45, 46, 47, 48, 49, 50, 51, 52, 59, 62, 64, 66, 68, 72, 73, 74, 75, 79, 80, 81, 83, 84, 85, 86, 87, 88, 89, 90, 91, 92, 93, 94, 95, 96, 97, 98, 99, 100, 101, 102, 103, 104, 105, 106, 107] else if f = 1 then [4, 5, 6, 7, 8, 9, 10, 11, 12, 13, 14, 15, 16, 17, 18, 19, 20, 23, 24, 25, 26, 27, 33, 34, 35, 36, 37, 38, 39, 40, 41, 42, 43, 44, 45, 46, 47, 48, 49, 50, 51, 52, 59, 62, 64, 66, 68, 72, 73, 74, 75, 79, 80, 81, 83, 84, 85, 86, 87, 88, 89, 90, 91, 92, 93, 94, 95, 96, 97, 98, 99, 100, 101, 102, 103, 104, 105, 106, 107] else [4, 5, 6, 7, 8, 9, 10, 11, 12, 13, 14, 15, 16, 17, 18, 19, 20, 28, 29, 30, 31, 32, 33, 34, 35, 36, 37, 38, 39, 40, 41, 42, 43, 44, 45, 46, 47, 48, 49, 50, 51, 52, 59, 62, 64, 66, 68, 72, 73, 74, 75, 79, 80, 81, 83, 84, 85, 86, 87, 88, 89, 90, 91, 92, 93, 94, 95, 96, 97, 98, 99, 100, 101, 102, 103, 104, 105, 106, 107]
theorem xpl_ok : ∀ f, f < 3 → (xpl f).Nodup ∧ ∀ a, a ∈ xpl f → 4 ≤ a := by decide +kernel
section ALL
variable {L : Nat} {xs : Nat → Int32}
theorem xh0_K {f : Nat} : KP f L 4 (fun a => match xe0 L xs a with
    | some q => (103, q.1)
    | none => (0, 0)) := fun a => by
  match a with
  | 0 => rfl
  | 1 => rfl
  | 2 => rfl
  | 3 => rfl
  | a + 4 =>
    rw [if_neg (by omega)]
    rfl
theorem xh0_F {f : Nat} : FD f 4 [] (fun _ _ => none) := ⟨fun q h => absurd h List.not_mem_nil, fun a k => by rw [if_neg List.not_mem_nil]⟩
theorem xh0_S : ST (fun a => match xe0 L xs a with
    | some q => q.2
    | none => fun _ => 0) := fun k hk => by
  match k, hk with
  | 0, _ => exact ⟨rfl, rfl, rfl⟩
  | 1, _ => exact ⟨rfl, rfl, rfl⟩
  | 2, _ => exact ⟨rfl, rfl, rfl⟩
  | 3, _ => exact ⟨rfl, rfl, rfl⟩
  | k + 4, h => omega
def xend (r : Option Value × xS) : Prop := r.1 = some (.int 1) ∧ r.2.2.1.2.1 ≤ 601024 ∧ r.2.2.1.2.2 ≤ 7293000
theorem xend_ok {f : Nat} (P' : List Nat × Nat × Nat) (I' : Nat → Nat → Int32) (J' : Nat → Nat → Int64) (F' : Nat → Nat → Option Nat) (h1 : P'.2.1 ≤ 100 + xcT * 512) (h2 : P'.2.2 ≤ 500000 + xsT * 512) : xend (some (.int (nI 1)), (xK f L, P', I', J', F')) := ⟨rfl, Nat.le_trans h1 (by decide), Nat.le_trans h2 (by decide)⟩
theorem law_all (hL : L ≤ 2049) : ∃ f, f < 3 ∧ Wp 17 169 0 [some (.ref 0), none, none, none, none, none, none] [] (xh0 (xpl f) L xs) xend := by
  have h0 : L < 1073741824 := by omega
  have hw : L < 1 + 4 * 512 + 4 := by omega
  obtain ⟨x, hx⟩ : ∃ x, x = (if 0 < L then xs 0 else nI 0) := ⟨_, rfl⟩
  rcases nI_ix x (n := 3) (by decide) with ⟨j, hj, hxj⟩ | hn | hb
  · rcases (by omega : j = 0 ∨ j = 1 ∨ j = 2) with rfl | rfl | rfl
    · exact ⟨0, by decide, law_open_0eq (d := 9) (w := 512) h0 xh0_K xh0_F xh0_S (hx.symm.trans hxj) hw xend_ok⟩
    · exact ⟨1, by decide, law_open_1eq (d := 9) (w := 512) h0 xh0_K xh0_F xh0_S (hx.symm.trans hxj) hw xend_ok⟩
    · exact ⟨2, by decide, law_open_2eq (d := 9) (w := 512) h0 xh0_K xh0_F xh0_S (hx.symm.trans hxj) hw xend_ok⟩
  · exact ⟨0, by decide, law_open_0neg (d := 9) (w := 512) h0 hn xh0_K xh0_F xh0_S hx.symm hw xend_ok⟩
  · exact ⟨2, by decide, law_open_2big (d := 9) (w := 512) h0 (Int32.lt_of_lt_of_le (by decide) hb) xh0_K xh0_F xh0_S hx.symm hw xend_ok⟩
end ALL
