/-! THE LAW'S TRIER as one step: words, and what is known of a state -/
def xnm3 : List String := ["java/lang/IndexOutOfBoundsException", "java/lang/RuntimeException", "java/lang/Exception"]
def xAI : String := "java/lang/ArrayIndexOutOfBoundsException"
def yTr : MethodName := { cls := "BestParses", name := "trier", desc := "(I)I" }
def cTr : ByteArray := prog_1_method_20_code
def yTl : MethodName := { cls := "BestParsesLaw", name := "trier", desc := "(LBestParses;I[J)I" }
/-- words of the throw that are no words of a contract -/
def xnv : List Jvm.Cond := [(Jvm.Cond.castable "java/lang/ArrayIndexOutOfBoundsException" "java/lang/ArrayIndexOutOfBoundsException"), (Jvm.Cond.declares ({ cls := "java/lang/IndexOutOfBoundsException", name := "<init>", desc := "(Ljava/lang/String;)V" } : Jvm.MethodName)), (Jvm.Cond.declares ({ cls := "java/lang/RuntimeException", name := "<init>", desc := "(Ljava/lang/String;)V" } : Jvm.MethodName)), (Jvm.Cond.declares ({ cls := "java/lang/Exception", name := "<init>", desc := "(Ljava/lang/String;)V" } : Jvm.MethodName)), (Jvm.Cond.declares ({ cls := "java/lang/Throwable", name := "<init>", desc := "(Ljava/lang/String;)V" } : Jvm.MethodName))]
theorem xnv_in : ∀ w ∈ xnv, w ∈ tables_1 := List.forall_mem_cons.mpr ⟨List.mem_of_getElem? (i := 114) (by decide +kernel), List.forall_mem_cons.mpr ⟨List.mem_of_getElem? (i := 116) (by decide +kernel), List.forall_mem_cons.mpr ⟨List.mem_of_getElem? (i := 118) (by decide +kernel), List.forall_mem_cons.mpr ⟨List.mem_of_getElem? (i := 120) (by decide +kernel), List.forall_mem_cons.mpr ⟨List.mem_of_getElem? (i := 122) (by decide +kernel), fun _ h => absurd h List.not_mem_nil⟩⟩⟩⟩⟩
theorem xnv_on : ∀ w ∈ xnv, w.onTables = true := List.forall_mem_cons.mpr ⟨rfl, List.forall_mem_cons.mpr ⟨rfl, List.forall_mem_cons.mpr ⟨rfl, List.forall_mem_cons.mpr ⟨rfl, List.forall_mem_cons.mpr ⟨rfl, fun _ h => absurd h List.not_mem_nil⟩⟩⟩⟩⟩
theorem xnv_warm {s U : State} (hW : s.WarmedH U.vm) : ∀ w ∈ xnv, va_Nw w s → va_Nw w U := List.forall_mem_cons.mpr ⟨fun z => va_Nw.warmC hW z, List.forall_mem_cons.mpr ⟨fun z => va_Nw.warmD hW z, List.forall_mem_cons.mpr ⟨fun z => va_Nw.warmD hW z, List.forall_mem_cons.mpr ⟨fun z => va_Nw.warmD hW z, List.forall_mem_cons.mpr ⟨fun z => va_Nw.warmD hW z, fun _ h => absurd h List.not_mem_nil⟩⟩⟩⟩⟩
theorem xat_c : (vx_atS "BestParses" 208 xAI xnm3).all (fun w => (decide (w ∈ tables_1) && goodWord w) || decide (w ∈ xnv)) = true := by decide +kernel
theorem xat_ok {args : Array Value} {s : State} (hG : ∀ w ∈ xG, w.before args s = true) (hN : ∀ w ∈ xnv, va_Nw w s) : ∀ w ∈ vx_atS "BestParses" 208 xAI xnm3, w.before args s = true := by
  intro w hw
  have h := List.all_eq_true.mp xat_c w hw
  rw [Bool.or_eq_true, Bool.and_eq_true, decide_eq_true_eq, decide_eq_true_eq] at h
  rcases h with ⟨h1, h2⟩ | h
  · exact hG w (List.mem_filter.mpr ⟨List.mem_append_right _ h1, h2⟩)
  · exact va_Nw.use (xnv_on w h) (hN w h)
theorem xot_c : (Cond.classLink "BestParses" 204 xAI :: Cond.initialized xAI :: vx_atS "BestParses" 208 xAI xnm3).all vx_ot = true := by decide +kernel
theorem xot_ok : ∀ w ∈ Cond.classLink "BestParses" 204 xAI :: Cond.initialized xAI :: vx_atS "BestParses" 208 xAI xnm3, vx_ot w = true := List.all_eq_true.mp xot_c
def xTS (base : Nat) (U : State) : Prop := (∀ w ∈ xnv, va_Nw w U) ∧ vx_Zq Bundle.tN "UNASSIGNED_STACK" Bundle.steD (fun q => base ≤ q) U U.heap ∧ vx_Zq Bundle.tN "SUPPRESSED_SENTINEL" Bundle.listD (fun q => base ≤ q) U U.heap ∧ ∃ sa, vk_R "BestParses" 206 "no such octet" sa U
theorem xTS.moved {base : Nat} {s U : State} {locs : List Loc} (h : xTS base s) (hS : va_S (fun q => base ≤ q) s.heap U.heap locs) (hW : s.WarmedH U.vm) : xTS base U := by
  obtain ⟨h1, h2, h3, sa, h4⟩ := h
  exact ⟨fun w hw => xnv_warm hW w hw (h1 w hw), vx_Zq.moved hW.alike (h2.kept hS.2.1), vx_Zq.moved hW.alike (h3.kept hS.2.1), sa, vk_R.warm hW h4⟩
def xTP (D : va_G) (dA : Nat → ClassId) (ad : Nat → Nat) (base : Nat) (xe : Nat → Option (Nat × (Nat → Int32))) (vs : List Value) (h : xS) : Array Value → State → Prop := fun v U => xPc D dA ad base xe vs h v U ∧ xTS base U
theorem xTP_blind {D : va_G} {dA : Nat → ClassId} {ad : Nat → Nat} {base : Nat} {xe : Nat → Option (Nat × (Nat → Int32))} {vs : List Value} {h : xS} : FrameBlind (xTP D dA ad base xe vs h) := by
  intro a U g mk q
  exact ⟨xPc_blind a U g mk q.1, xTS.moved (s := U) (U := U.calling g mk a) (locs := []) q.2 va_S.rf (State.WarmedH.refl U)⟩
theorem xHO.grow {D : va_G} {dA : Nat → ClassId} {ad : Nat → Nat} {base : Nat} {xe : Nat → Option (Nat × (Nat → Int32))} {h : xS} {H H1 : Heap} (o : xHO D dA ad base xe h H) (hp : h.2.1.1 = []) (z : H.size ≤ H1.size) (oq : ∀ q : Nat, q < H.size → H1[q]? = H[q]?) : xHO D dA ad base xe h H1 := by
  obtain ⟨o1, o2, o3, o4⟩ := o
  refine ⟨fun a ha => ?_, o2, o3, fun j a hj => ?_⟩
  · obtain ⟨c1, c2, c3⟩ := o1 a ha
    exact ⟨c1.congr rfl rfl rfl rfl (oq _ c3), c2, Nat.lt_of_lt_of_le c3 z⟩
  · rw [hp] at hj
    cases hj
/-- the same cells, other counts -/
theorem xHO.counts {D : va_G} {dA : Nat → ClassId} {ad : Nat → Nat} {base : Nat} {xe : Nat → Option (Nat × (Nat → Int32))} {h : xS} {H : Heap} (o : xHO D dA ad base xe h H) (u v : Nat) : xHO D dA ad base xe (h.1, (h.2.1.1, u, v), h.2.2) H := o
theorem sRX10_getfield_211 (ini : Bool) (pc : Nat) : xwc RX10 ini (pc, .getfield 211, 3, 8, 2) := xwf (xgf1 (by decide) ⟨(RX9, TX9, 7), by decide, by decide, rfl, by decide, "BestParses$Text", (xG_of 62 (by decide +kernel) (by decide +kernel)), (Or.inl rfl)⟩)
