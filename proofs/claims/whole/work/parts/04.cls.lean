/-! the classes of the light machine: kind k (1, 2 ..) is the class k - 1 of xCl; 11 says: one of the three forms -/
def xG : List Jvm.Cond := lw_tbl.filter goodWord
def xCl : List vw_C := [(RX0, TX0, 9), (RX1, TX1, 5), (RX4, TX4, 12), (RX5, TX5, 7), (RX6, TX6, 8), (RX7, TX7, 4), (RX8, TX8, 2), (RX9, TX9, 7), (RX10, TX10, 12), (RX11, TX11, 47)]
def xtyL : List (Nat → FieldType) := [tyX0, tyX1, tyX4, tyX5, tyX6, tyX7, tyX8, tyX9, tyX10, tyX11]
def xftL : List (List Nat) := [[], [3, 3, 0, 3, 0, 3, 3, 3, 3], [0, 3, 3, 3, 3], [3, 3, 3, 3, 3, 3, 3, 0, 0, 0, 1, 1], [3, 3, 3, 3, 3, 3, 3], [3, 3, 3, 3, 3, 0, 1, 2], [3, 3, 3, 3], [3, 2], [0, 0, 3, 0, 3, 3, 3], [0, 3, 3, 3, 3, 3, 3, 3, 3, 2, 0, 0], [0, 0, 3, 0, 3, 0, 3, 0, 3, 0, 2, 0, 3, 3, 3, 3, 1, 2, 0, 3, 3, 3, 0, 3, 3, 3, 3, 3, 3, 3, 3, 3, 3, 3, 3, 3, 3, 3, 3, 3, 3, 3, 3, 3, 3, 3, 3]]
def xft (k j : Nat) : Nat := (xftL.getD k []).getD j 9
def xsub (r k : Nat) : Bool := (r == k && !(r == 11)) || (r == 11 && (k == 3 || k == 4 || k == 6))
theorem xG_of {w : Jvm.Cond} (i : Nat) (h : tables_1[i]? = some w) (hg : goodWord w = true) : w ∈ xG := List.mem_filter.mpr ⟨List.mem_append_right _ (List.mem_of_getElem? h), hg⟩
theorem xG_sel {q : MethodName × Nat} (h : q ∈ lw_privs) : Jvm.Cond.selects q.1.cls q.1 q.1 ∈ k2_sels lw_privs := by
  first | exact List.mem_map.mpr ⟨q, h, rfl⟩ | (unfold k2_sels; exact List.mem_map.mpr ⟨q, h, rfl⟩)
def xok (f : FieldType) (n : Nat) : Bool := match f, n with
  | .int, 0 => true
  | .long, 1 => true
  | .boolean, 2 => true
  | .object _, 3 => true
  | .array _, 3 => true
  | _, _ => false
theorem xinX0 : ∀ w ∈ u_ws RX0 TX0 9, w ∈ xG := by
  intro w h
  obtain ⟨k, hk, rfl⟩ := List.mem_map.mp h
  have hk := List.mem_range.mp hk
  have h2 : ∀ k, k < 9 → tables_1[(([566, 568, 570, 572, 574, 576, 578, 580, 582] : List Nat).getD k 0)]? = some (u_lay RX0 TX0 k) ∧ goodWord (u_lay RX0 TX0 k) = true := by decide +kernel
  exact xG_of _ (h2 k hk).1 (h2 k hk).2
theorem xkdX0 : Jvm.Cond.instantiable RX0 9 ∈ xG ∧ Jvm.Cond.initialized RX0 ∈ xG := ⟨xG_of 549 (by decide +kernel) (by decide +kernel), xG_of 25 (by decide +kernel) (by decide +kernel)⟩
theorem xtkX0 : ∀ k, k < 9 → xok (tyX0 k) (xft 1 k) = true := by decide +kernel
theorem xinX1 : ∀ w ∈ u_ws RX1 TX1 5, w ∈ xG := by
  intro w h
  obtain ⟨k, hk, rfl⟩ := List.mem_map.mp h
  have hk := List.mem_range.mp hk
  have h2 : ∀ k, k < 5 → tables_1[(([424, 426, 428, 430, 432] : List Nat).getD k 0)]? = some (u_lay RX1 TX1 k) ∧ goodWord (u_lay RX1 TX1 k) = true := by decide +kernel
  exact xG_of _ (h2 k hk).1 (h2 k hk).2
theorem xkdX1 : Jvm.Cond.instantiable RX1 5 ∈ xG ∧ Jvm.Cond.initialized RX1 ∈ xG := ⟨xG_of 91 (by decide +kernel) (by decide +kernel), xG_of 4 (by decide +kernel) (by decide +kernel)⟩
theorem xtkX1 : ∀ k, k < 5 → xok (tyX1 k) (xft 2 k) = true := by decide +kernel
theorem xinX4 : ∀ w ∈ u_ws RX4 TX4 12, w ∈ xG := by
  intro w h
  obtain ⟨k, hk, rfl⟩ := List.mem_map.mp h
  have hk := List.mem_range.mp hk
  have h2 : ∀ k, k < 12 → tables_1[(([530, 531, 510, 512, 514, 516, 518, 520, 522, 524, 526, 528] : List Nat).getD k 0)]? = some (u_lay RX4 TX4 k) ∧ goodWord (u_lay RX4 TX4 k) = true := by decide +kernel
  exact xG_of _ (h2 k hk).1 (h2 k hk).2
theorem xkdX4 : Jvm.Cond.instantiable RX4 12 ∈ xG ∧ Jvm.Cond.initialized RX4 ∈ xG := ⟨xG_of 495 (by decide +kernel) (by decide +kernel), xG_of 23 (by decide +kernel) (by decide +kernel)⟩
theorem xtkX4 : ∀ k, k < 12 → xok (tyX4 k) (xft 3 k) = true := by decide +kernel
theorem xinX5 : ∀ w ∈ u_ws RX5 TX5 7, w ∈ xG := by
  intro w h
  obtain ⟨k, hk, rfl⟩ := List.mem_map.mp h
  have hk := List.mem_range.mp hk
  have h2 : ∀ k, k < 7 → tables_1[(([491, 492, 481, 483, 485, 487, 489] : List Nat).getD k 0)]? = some (u_lay RX5 TX5 k) ∧ goodWord (u_lay RX5 TX5 k) = true := by decide +kernel
  exact xG_of _ (h2 k hk).1 (h2 k hk).2
theorem xkdX5 : Jvm.Cond.instantiable RX5 7 ∈ xG ∧ Jvm.Cond.initialized RX5 ∈ xG := ⟨xG_of 468 (by decide +kernel) (by decide +kernel), xG_of 22 (by decide +kernel) (by decide +kernel)⟩
theorem xtkX5 : ∀ k, k < 7 → xok (tyX5 k) (xft 4 k) = true := by decide +kernel
theorem xinX6 : ∀ w ∈ u_ws RX6 TX6 8, w ∈ xG := by
  intro w h
  obtain ⟨k, hk, rfl⟩ := List.mem_map.mp h
  have hk := List.mem_range.mp hk
  have h2 : ∀ k, k < 8 → tables_1[(([616, 618, 620, 622, 624, 626, 628, 630] : List Nat).getD k 0)]? = some (u_lay RX6 TX6 k) ∧ goodWord (u_lay RX6 TX6 k) = true := by decide +kernel
  exact xG_of _ (h2 k hk).1 (h2 k hk).2
theorem xkdX6 : Jvm.Cond.instantiable RX6 8 ∈ xG ∧ Jvm.Cond.initialized RX6 ∈ xG := ⟨xG_of 586 (by decide +kernel) (by decide +kernel), xG_of 26 (by decide +kernel) (by decide +kernel)⟩
theorem xtkX6 : ∀ k, k < 8 → xok (tyX6 k) (xft 5 k) = true := by decide +kernel
theorem xinX7 : ∀ w ∈ u_ws RX7 TX7 4, w ∈ xG := by
  intro w h
  obtain ⟨k, hk, rfl⟩ := List.mem_map.mp h
  have hk := List.mem_range.mp hk
  have h2 : ∀ k, k < 4 → tables_1[(([462, 464, 458, 460] : List Nat).getD k 0)]? = some (u_lay RX7 TX7 k) ∧ goodWord (u_lay RX7 TX7 k) = true := by decide +kernel
  exact xG_of _ (h2 k hk).1 (h2 k hk).2
theorem xkdX7 : Jvm.Cond.instantiable RX7 4 ∈ xG ∧ Jvm.Cond.initialized RX7 ∈ xG := ⟨xG_of 436 (by decide +kernel) (by decide +kernel), xG_of 21 (by decide +kernel) (by decide +kernel)⟩
theorem xtkX7 : ∀ k, k < 4 → xok (tyX7 k) (xft 6 k) = true := by decide +kernel
theorem xinX8 : ∀ w ∈ u_ws RX8 TX8 2, w ∈ xG := by
  intro w h
  obtain ⟨k, hk, rfl⟩ := List.mem_map.mp h
  have hk := List.mem_range.mp hk
  have h2 : ∀ k, k < 2 → tables_1[(([543, 545] : List Nat).getD k 0)]? = some (u_lay RX8 TX8 k) ∧ goodWord (u_lay RX8 TX8 k) = true := by decide +kernel
  exact xG_of _ (h2 k hk).1 (h2 k hk).2
theorem xkdX8 : Jvm.Cond.instantiable RX8 2 ∈ xG ∧ Jvm.Cond.initialized RX8 ∈ xG := ⟨xG_of 536 (by decide +kernel) (by decide +kernel), xG_of 24 (by decide +kernel) (by decide +kernel)⟩
theorem xtkX8 : ∀ k, k < 2 → xok (tyX8 k) (xft 7 k) = true := by decide +kernel
theorem xinX9 : ∀ w ∈ u_ws RX9 TX9 7, w ∈ xG := by
  intro w h
  obtain ⟨k, hk, rfl⟩ := List.mem_map.mp h
  have hk := List.mem_range.mp hk
  have h2 : ∀ k, k < 7 → tables_1[(([74, 76, 78, 80, 82, 84, 86] : List Nat).getD k 0)]? = some (u_lay RX9 TX9 k) ∧ goodWord (u_lay RX9 TX9 k) = true := by decide +kernel
  exact xG_of _ (h2 k hk).1 (h2 k hk).2
theorem xkdX9 : Jvm.Cond.instantiable RX9 7 ∈ xG ∧ Jvm.Cond.initialized RX9 ∈ xG := ⟨xG_of 44 (by decide +kernel) (by decide +kernel), xG_of 3 (by decide +kernel) (by decide +kernel)⟩
theorem xtkX9 : ∀ k, k < 7 → xok (tyX9 k) (xft 8 k) = true := by decide +kernel
theorem xinX10 : ∀ w ∈ u_ws RX10 TX10 12, w ∈ xG := by
  intro w h
  obtain ⟨k, hk, rfl⟩ := List.mem_map.mp h
  have hk := List.mem_range.mp hk
  have h2 : ∀ k, k < 12 → tables_1[(([645, 647, 649, 651, 653, 655, 657, 659, 661, 663, 665, 667] : List Nat).getD k 0)]? = some (u_lay RX10 TX10 k) ∧ goodWord (u_lay RX10 TX10 k) = true := by decide +kernel
  exact xG_of _ (h2 k hk).1 (h2 k hk).2
theorem xkdX10 : Jvm.Cond.instantiable RX10 12 ∈ xG ∧ Jvm.Cond.initialized RX10 ∈ xG := ⟨xG_of 30 (by decide +kernel) (by decide +kernel), xG_of 1 (by decide +kernel) (by decide +kernel)⟩
theorem xtkX10 : ∀ k, k < 12 → xok (tyX10 k) (xft 9 k) = true := by decide +kernel
theorem xinX11 : ∀ w ∈ u_ws RX11 TX11 47, w ∈ xG := by
  intro w h
  obtain ⟨k, hk, rfl⟩ := List.mem_map.mp h
  have hk := List.mem_range.mp hk
  have h2 : ∀ k, k < 47 → tables_1[(([1128, 1130, 1132, 1134, 1136, 1138, 1140, 1142, 1144, 1146, 1148, 1150, 1152, 1154, 1156, 1158, 1160, 1162, 1164, 1166, 1168, 1170, 1172, 1174, 1176, 1178, 1180, 1182, 1184, 1186, 1188, 1190, 1192, 1194, 1196, 1198, 1200, 1202, 1204, 1206, 1208, 1210, 1212, 1214, 1216, 1218, 1220] : List Nat).getD k 0)]? = some (u_lay RX11 TX11 k) ∧ goodWord (u_lay RX11 TX11 k) = true := by decide +kernel
  exact xG_of _ (h2 k hk).1 (h2 k hk).2
theorem xkdX11 : Jvm.Cond.instantiable RX11 47 ∈ xG ∧ Jvm.Cond.initialized RX11 ∈ xG := ⟨xG_of 1070 (by decide +kernel) (by decide +kernel), xG_of 27 (by decide +kernel) (by decide +kernel)⟩
theorem xtkX11 : ∀ k, k < 47 → xok (tyX11 k) (xft 10 k) = true := by decide +kernel
/-- what is known of a class of the light machine -/
def xKnow (i : Nat) (q : vw_C) : Prop := (∀ w ∈ u_ws q.1 q.2.1 q.2.2, w ∈ xG) ∧ (Jvm.Cond.instantiable q.1 q.2.2 ∈ xG ∧ Jvm.Cond.initialized q.1 ∈ xG) ∧ (∀ a, a < q.2.2 → ∀ b, b < q.2.2 → a ≠ b → (q.2.1 a).2.1 ≠ (q.2.1 b).2.1) ∧ ∃ ty : Nat → FieldType, (∀ k, k < q.2.2 → parseFieldDescriptor (q.2.1 k).2.2.1 = some (ty k)) ∧ ∀ k, k < q.2.2 → xok (ty k) (xft (i + 1) k) = true
theorem xknow : ∀ (i : Nat) (q : vw_C), xCl[i]? = some q → xKnow i q := by
  intro i q h
  match i, h with
  | 0, h => cases h; exact ⟨xinX0, xkdX0, nmX0, tyX0, tyX0_ok, xtkX0⟩
  | 1, h => cases h; exact ⟨xinX1, xkdX1, nmX1, tyX1, tyX1_ok, xtkX1⟩
  | 2, h => cases h; exact ⟨xinX4, xkdX4, nmX4, tyX4, tyX4_ok, xtkX4⟩
  | 3, h => cases h; exact ⟨xinX5, xkdX5, nmX5, tyX5, tyX5_ok, xtkX5⟩
  | 4, h => cases h; exact ⟨xinX6, xkdX6, nmX6, tyX6, tyX6_ok, xtkX6⟩
  | 5, h => cases h; exact ⟨xinX7, xkdX7, nmX7, tyX7, tyX7_ok, xtkX7⟩
  | 6, h => cases h; exact ⟨xinX8, xkdX8, nmX8, tyX8, tyX8_ok, xtkX8⟩
  | 7, h => cases h; exact ⟨xinX9, xkdX9, nmX9, tyX9, tyX9_ok, xtkX9⟩
  | 8, h => cases h; exact ⟨xinX10, xkdX10, nmX10, tyX10, tyX10_ok, xtkX10⟩
  | 9, h => cases h; exact ⟨xinX11, xkdX11, nmX11, tyX11, tyX11_ok, xtkX11⟩
  | i + 10, h => simp [xCl] at h
