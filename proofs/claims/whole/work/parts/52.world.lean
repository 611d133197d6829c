/-! THE CELLS of a run behind the constructors: f is the form, c and s the current and the spare parse -/
def xKR (f : Nat) : List (Nat × Nat) := [(103, 4), (103, 4), (103, 4), (9, 12), (8, 7), (100, 300), (100, 300), (100, 44850), (100, 300), (2, 5), (100, 315), (100, 315), (100, 301), (100, 300), (2, 5), (100, 315), (100, 315), (100, 301), (100, 300), (if f = 0 then (6, 4) else if f = 1 then (4, 7) else (3, 12)), (if f = 0 then (100, 301) else (0, 0)), (if f = 0 then (100, 301) else (0, 0)), (if f = 1 then (100, 301) else (0, 0)), (if f = 1 then (100, 301) else (0, 0)), (if f = 1 then (100, 301) else (0, 0)), (if f = 1 then (100, 301) else (0, 0)), (if f = 1 then (100, 301) else (0, 0)), (if f = 0 then (0, 0) else if f = 1 then (0, 0) else (101, 12040)), (if f = 0 then (0, 0) else if f = 1 then (0, 0) else (100, 12040)), (if f = 0 then (0, 0) else if f = 1 then (0, 0) else (100, 301)), (if f = 0 then (0, 0) else if f = 1 then (0, 0) else (102, 300)), (if f = 0 then (0, 0) else if f = 1 then (0, 0) else (101, 301)), (7, 2), (1, 9), (100, 12), (100, 12), (101, 14), (100, 14), (100, 14), (100, 256), (5, 8), (100, 300), (100, 300), (100, 300), (100, 300), (100, 300), (5, 8), (100, 300), (100, 300), (100, 300), (100, 300), (100, 300), (0, 0), (0, 0), (0, 0), (0, 0), (0, 0), (0, 0), (10, 47), (0, 0), (0, 0), (100, 301), (0, 0), (100, 1024), (0, 0), (100, 12), (0, 0), (100, 12), (0, 0), (0, 0), (0, 0), (100, 301), (100, 301), (100, 301), (100, 301), (0, 0), (0, 0), (0, 0), (100, 90601), (100, 90601), (100, 4), (0, 0), (100, 90601), (100, 301), (100, 301), (100, 301), (102, 301), (100, 301), (100, 301), (100, 301), (100, 301), (100, 301), (102, 301), (100, 12040), (100, 48160), (100, 12040), (100, 12040), (100, 12040), (100, 1024), (100, 1024), (100, 301), (100, 301), (100, 301), (100, 301), (100, 301), (101, 196), (101, 1)]
def xKL (f L : Nat) : List (Nat × Nat) := (103, L) :: xKR f
def xK (f L a : Nat) : Nat × Nat := (xKL f L).getD a (0, 0)
def xFL (f c s : Nat) : List (List (Option Nat)) := [[], [], [], [], [none, some 5, some 10, some 15, some 20, some 33, some 34, some c, some s], [none, none, some 6, none, some 7, some 8, some 9], [], [], [], [], [none, some 11, some 12, some 13, some 14], [], [], [], [], [none, some 16, some 17, some 18, some 19], [], [], [], [], (some 5 :: some 10 :: some (if f = 0 then 21 else if f = 1 then 23 else 28) :: some (if f = 0 then 22 else if f = 1 then 24 else 29) :: (if f = 0 then [] else [some (if f = 1 then 25 else 30), some (if f = 1 then 26 else 31), some (if f = 1 then 27 else 32)])), [], [], [], [], [], [], [], [], [], [], [], [], [some 5], [some 5, some 35, none, some 36, none, some 37, some 38, some 39, some 40], [], [], [], [], [], [], [some 42, some 43, some 44, some 45, some 46], [], [], [], [], [], [some 48, some 49, some 50, some 51, some 52], [], [], [], [], [], [], [], [], [], [], [], [none, none, some 62, none, some 64, none, some 66, none, some 68, none, none, none, some 72, some 73, some 74, some 75, none, none, none, some 79, some 80, some 81, none, some 83, some 84, some 85, some 86, some 87, some 88, some 89, some 90, some 91, some 92, some 93, some 94, some 95, some 96, some 97, some 98, some 99, some 100, some 101, some 102, some 103, some 104, some 105, some 106]]
def xFr (f c s a k : Nat) : Option Nat := ((xFL f c s).getD a []).getD k none
theorem xKR_lt : ∀ f, f < 3 → ∀ q ∈ xKR f, q.2 < 2147483648 := by decide +kernel
theorem xK_lt {f L : Nat} (hf : f < 3) (hL : L < 2147483648) : ∀ {a k n : Nat}, xK f L a = (k, n) → n < 2147483648 := by
  intro a k n h
  unfold xK xKL at h
  rw [List.getD_eq_getElem?_getD] at h
  cases a with
  | zero =>
    have h2 : (103, L) = (k, n) := h
    cases h2
    exact hL
  | succ a =>
    rw [List.getElem?_cons_succ] at h
    cases hq : (xKR f)[a]? with
    | none => rw [hq] at h; cases h; decide
    | some q =>
      rw [hq] at h
      have h2 : q = (k, n) := h
      have := xKR_lt f hf q (List.mem_of_getElem? hq)
      rw [h2] at this
      exact this
