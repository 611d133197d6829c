def xOK6 (l : Launch) (D : va_G) (dA : Nat → ClassId) (ad : Nat → Nat) (base : Nat) (xe : Nat → Option (Nat × (Nat → Int32))) (n : Nat) : Prop :=
  ∀ (d i pc : Nat) (L : xL) (st : List Value) (h : xS) (r : Option Value) (h1 : xS), ex n d i pc L st h = some (r, h1) → ∀ (t : xMT), xmt i = some t →
    ∀ (p : Program) (e : Env) (R : Room) (s : State) (m : MethodId) (args : Array Value) (below : List Frame) (meth : Method) (c : Code) (H : Heap) (locs : List Loc) (cells slots : Nat) (Q : State → Prop) (ls : Array Slot),
    CallFix p m c t.2.1 (xnl i) s args xG t.1.cls → (t.2.2.2 = true → meth.name = "<init>") → d ≤ R.frames → 39 * d ≤ R.locals → R.frames < 6 → xEnv D dA ad base xe s → xHO D dA ad base xe h H → va_S (fun q => base ≤ q) s.heap H locs → xLH ad ls L → L.length = xnl i →
    cells + (h1.2.1.2.1 - h.2.1.2.1) ≤ R.cells → slots + (h1.2.1.2.2 - h.2.1.2.2) ≤ R.slots →
    (∀ (H1 : Heap) (locs1 : List Loc) (pc1 : Nat) (ls1 : Array Slot), xHO D dA ad base xe h1 H1 → va_S (fun q => base ≤ q) s.heap H1 locs1 → decode t.2.1 pc1 = .ok (xri r, 1) → xrok i r → W p l e R s m args below meth c H1 locs1 (cells + (h1.2.1.2.1 - h.2.1.2.1)) (slots + (h1.2.1.2.2 - h.2.1.2.2)) Q (F0 m pc1 ls1 (r.toList.map (xsh ad)))) →
    W p l e R s m args below meth c H locs cells slots Q (F0 m pc ls (st.map (xsh ad)))
set_option maxHeartbeats 4000000 in
/-- a called method's contract -/
theorem xmet6 {l : Launch} {D : va_G} {dA : Nat → ClassId} {ad : Nat → Nat} {base : Nat} {xe : Nat → Option (Nat × (Nat → Int32))} {n : Nat} (ih : xOK6 l D dA ad base xe n) (hV : xVal) {d j : Nat} (hd6 : d < 6) {vs : List Value} {h h1 : xS} {r : Option Value} (hx : ex n d j 0 (xent (xnl j) vs) [] h = some (r, h1)) (hlen : (xargs vs).length ≤ xnl j) {t : xMT} (ht : xmt j = some t) (hj : j ≠ xlaw) :
    Met l t.1 (Jvm.Cond.code t.1 t.2.1 (xnl j) t.2.2.1 :: xG) (xrm d (h1.2.1.2.1 - h.2.1.2.1) (h1.2.1.2.2 - h.2.1.2.2)) (xPc D dA ad base xe vs h) (xQc D dA ad base xe r h1) (h1.2.1.2.1 - h.2.1.2.1) (h1.2.1.2.2 - h.2.1.2.2) (fun q => base ≤ q) := by
  obtain ⟨v1, v2, v3, v4, v5, v6, v7, v8, v9⟩ := hV j t ht
  refine Met.ofW (cc := t.2.1) (maxL := xnl j) (ret := t.2.2.1) v1 rfl ?_
  intro p e s m args below meth c s₁ B hml hv
  obtain ⟨rfl, hH, hEnv⟩ := hv
  have hts := atoms_spec (ws := Jvm.Cond.code t.1 t.2.1 (xnl j) t.2.2.1 :: xG) B.pre
  have hlocks := B.notSynchronized
  have hr := B.returns
  rw [lg_entry_eq]
  refine ih d j 0 _ [] h r h1 hx t ht p e _ s m _ below meth c s.heap [] 0 0 _ _ ⟨B.exec, B.bytes, hml, findClass_of_methodNamed B.named, fun w hw => hts w (List.mem_cons_of_mem _ hw)⟩ (fun hi => (name_of_methodNamed B.named B.method).1.trans (v8 hi)) (Nat.le_refl _) (Nat.le_refl _) hd6 hEnv hH va_S.rf (xent_ok ad vs (xnl j) hlen) (xent_len _ _ hlen) (by rw [Nat.zero_add]; exact Nat.le_refl _) (by rw [Nat.zero_add]; exact Nat.le_refl _) ?_
  intro H1 locs1 pc1 ls1 hH1 hS1 hdg hrk
  rw [Nat.zero_add, Nat.zero_add]
  cases r with
  | none =>
    exact W.vret B.exec B.bytes (hr.trans (v4 hrk)) (fun t ht _ => ⟨rfl, by rw [ht]; exact hH1, hS1.F ht⟩) hS1.2.2 hdg hlocks
  | some v =>
    cases v with
    | int x =>
      rcases hrk with hrk | ⟨hrk, hx01⟩
      · exact W.iret B.exec B.bytes (hr.trans (v5 hrk)) (fun t ht _ => ⟨rfl, by rw [ht]; exact hH1, hS1.F ht⟩) hS1.2.2 hdg hlocks
      · exact W.zret (ty := .boolean) B.exec B.bytes (hr.trans (v7 hrk)) (by rcases hx01 with rfl | rfl <;> decide) (fun t ht _ => ⟨rfl, by rw [ht]; exact hH1, hS1.F ht⟩) hS1.2.2 hdg hlocks
    | long x => exact W.lret B.exec B.bytes (hr.trans (v6 hrk)) (fun t ht _ => ⟨rfl, by rw [ht]; exact hH1, hS1.F ht⟩) hS1.2.2 hdg hlocks
    | float x => exact absurd hrk id
    | double x => exact absurd hrk id
    | null => exact absurd hrk id
    | ref x => exact absurd hrk id
    | retAddr x => exact absurd hrk id
set_option maxHeartbeats 8000000 in
theorem xrun6 {l : Launch} {D : va_G} {dA : Nat → ClassId} {ad : Nat → Nat} {base : Nat} {xe : Nat → Option (Nat × (Nat → Int32))} (hV : xVal) : ∀ n, xOK6 l D dA ad base xe n
  | 0 => by
    intro d i pc L st h r h1 hx
    simp [ex] at hx
  | n + 1 => by
    have ih : xOK6 l D dA ad base xe n := xrun6 hV n
    intro d i pc L st h r h1 hx t ht p e R s m args below meth c H locs cells slots Q ls S hini hdR hlR hR6 hEnv hH hS hl hlen hc hs hret
    have hsz : ls.size = xnl i := hl.1.trans hlen
    have hmono := ex_le hx
    obtain ⟨x, hmem, hcases⟩ := ex_inv hx
    obtain ⟨ins, len, r1, r2⟩ := x
    have hVt := hV i t ht
    obtain ⟨e1, e2, e3, e4, e5, e6, e7, e8, e9⟩ := hVt.2.2.2.2.2.2.2.2 (pc, ins, len, r1, r2) hmem
    dsimp only at e1 e2 e3 e4 e5 e6 e7 e8 e9 hcases
    have hts := S.2.2.2.2
    have go : ∀ (pc' : Nat) (L' : xL) (st' : List Value) (h2 : xS) (H1 : Heap) (locs1 : List Loc) (ls1 : Array Slot) (cells1 slots1 : Nat), ex n d i pc' L' st' h2 = some (r, h1) → xHO D dA ad base xe h2 H1 → va_S (fun q => base ≤ q) s.heap H1 locs1 → xLH ad ls1 L' → L'.length = xnl i → cells1 + (h1.2.1.2.1 - h2.2.1.2.1) = cells + (h1.2.1.2.1 - h.2.1.2.1) → slots1 + (h1.2.1.2.2 - h2.2.1.2.2) = slots + (h1.2.1.2.2 - h.2.1.2.2) → W p l e R s m args below meth c H1 locs1 cells1 slots1 Q (F0 m pc' ls1 (st'.map (xsh ad))) := by
      intro pc' L' st' h2 H1 locs1 ls1 cells1 slots1 hx' hH1 hS1 hl1 hlen1 ec es
      refine ih d i pc' L' st' h2 r h1 hx' t ht p e R s m args below meth c H1 locs1 cells1 slots1 Q ls1 S hini hdR hlR hR6 hEnv hH1 hS1 hl1 hlen1 (by omega) (by omega) ?_
      intro H2 locs2 pc1 ls2 k1 k2 k3 k4
      rw [ec, es]
      exact hret H2 locs2 pc1 ls2 k1 k2 k3 k4
    rcases hcases with hr | ⟨j, d', q, hd, hw, g1, g2, g3, hc1, hc2⟩ | ⟨q, hq, g1, g2, hn⟩ | ⟨q, hq, g1, g2, hn⟩ | ⟨f, hf, hn⟩
    · obtain ⟨rfl, rfl, rfl, hrk⟩ := xret_inv hr
      have hl1 : len = 1 := by
        rcases e2 with ⟨_, _, _, _, hq⟩ | e2
        · exfalso
          unfold xri at hq
          split at hq <;> cases hq
        · rw [e2]
          unfold xri
          split <;> rfl
      subst hl1
      have := hret H locs pc ls hH hS e1 hrk
      rw [Nat.sub_self, Nat.sub_self] at this
      exact this
    · obtain ⟨rv, h2⟩ := q
      subst hd
      have m1 := ex_le hc1
      have m2 := ex_le hc2
      dsimp only at m1 m2 hc1 hc2
      have k1 : ∀ (rest' : List Value), rest' = (st.drop r2).map (xsh ad) → ∀ st0 a, va_Run p l e R s m args below meth c H locs cells slots (h2.2.1.2.1 - h.2.1.2.1) (h2.2.1.2.2 - h.2.1.2.2) (F0 m pc ls st0) rest' (xQc D dA ad base xe rv h2 a) (fun q => base ≤ q) → W p l e R s m args below meth c H locs cells slots Q (F0 m pc ls st0) := by
        intro rest' hrest st0 a hrun
        subst hrest
        refine xcall_ok hrun hS fun H1 locs1 hH1 hS1 => ?_
        rw [xrv]
        unfold xle at m1 m2
        exact go (pc + 3) L _ h2 H1 locs1 ls _ _ hc2 hH1 hS1 hl hlen (by omega) (by omega)
      have hPc : ∀ (U : State), U.heap = H → s.WarmedH U.vm → xPc D dA ad base xe (st.take r2).reverse h (((st.take r2).reverse).map (xsh ad)).toArray U := fun U hU hW => ⟨rfl, by rw [hU]; exact hH, hEnv.moved (by rw [hU]; exact hS) hW⟩
      have hroom : 2 * (F0 m pc ls (st.map (xsh ad))).monitorRoom + (((st.drop r2).map (xsh ad)).map fun v => v.category).sum ≤ 8 := lv_room (by rw [xcat_sh]; exact g2)
      have hcs : cells + (h2.2.1.2.1 - h.2.1.2.1) ≤ R.cells ∧ slots + (h2.2.1.2.2 - h.2.1.2.2) ≤ R.slots := by
        unfold xle at m1 m2
        constructor <;> omega
      unfold xwho at hw
      split at hw
      · rename_i idx
        split at hw
        · rename_i hlt
          cases hw
          obtain ⟨hj, y, cc', ret, ini, hmt, w1, w2, w3, w4⟩ := e8 hlt
          have hM := xmet6 ih hV (by omega) hc1 g3 hmt hj
          have hcd := (hV _ _ hmt).2.1 hj
          have hnl := (hV _ _ hmt).2.2.1
          have hR : (xrm d' (h2.2.1.2.1 - h.2.1.2.1) (h2.2.1.2.2 - h.2.1.2.2)).frames + 1 ≤ R.frames ∧ 8 + (xnl r1 + 11) + (xrm d' (h2.2.1.2.1 - h.2.1.2.1) (h2.2.1.2.2 - h.2.1.2.2)).locals ≤ R.locals := by
            refine ⟨hdR, ?_⟩
            show 8 + (xnl r1 + 11) + 39 * d' ≤ R.locals
            omega
          have hln : (((st.take r2).reverse).map (xsh ad)).length = r2 := by simp; omega
          have hd3 : decode t.2.1 pc = .ok (.invokestatic idx, 3) := by
            rcases e2 with ⟨_, _, _, _, hq⟩ | e2
            · cases hq
            · rw [e2] at e1; exact e1
          rcases w4 with w4 | ⟨host, w4⟩
          · exact k1 _ rfl _ _ (va_runS S hM ⟨callB_of r2 hts (xgood hcd) rfl rfl rfl (hts _ w2) (hts _ w4) w3 hR, hts _ w1⟩ ⟨xPc_blind, hPc⟩ rfl hln hsz (xstk ad st r2) hroom hd3 hcs)
          · exact k1 _ rfl _ _ (va_runSN S hM ⟨va_cnB r2 hts (xgood hcd) rfl rfl rfl (hEnv.2.1 _ w4) (hts _ w2) w3 hR, hts _ w1, trivial⟩ ⟨xPc_blind, hPc⟩ rfl hln hsz (xstk ad st r2) hroom hd3 hcs)
        · cases hw
      · rename_i idx
        split at hw
        · rename_i b hb
          split at hw
          · rename_i hlt
            cases hw
            obtain ⟨hj, hr2, y, cc', ini, hmt, w0, w1, w2, w3, w4⟩ := e8 hlt
            have hM := xmet6 ih hV (by omega) hc1 g3 hmt hj
            have hcd := (hV _ _ hmt).2.1 hj
            have hnl := (hV _ _ hmt).2.2.1
            have hR : (xrm d' (h2.2.1.2.1 - h.2.1.2.1) (h2.2.1.2.2 - h.2.1.2.2)).frames + 1 ≤ R.frames ∧ 8 + (xnl r1 + 11) + (xrm d' (h2.2.1.2.1 - h.2.1.2.1) (h2.2.1.2.2 - h.2.1.2.2)).locals ≤ R.locals := by
              refine ⟨hdR, ?_⟩
              show 8 + (xnl r1 + 11) + 39 * d' ≤ R.locals
              omega
            have hln : (((st.take (r2 - 1)).reverse).map (xsh ad)).length = r2 - 1 := by simp; omega
            have hvs := xtake hr2 hb
            have hstk := xstk ad st r2
            rw [hvs] at hPc hstk
            rw [hvs] at hM
            have hstk2 : st.map (xsh ad) = (((st.take (r2 - 1)).reverse).map (xsh ad)).reverse ++ .ref (ad b) :: (st.drop r2).map (xsh ad) := by
              rw [hstk]
              simp [xsh]
            have hd3 : decode t.2.1 pc = .ok (.invokespecial idx, 3) := by
              rcases e2 with ⟨_, _, _, _, hq⟩ | e2
              · cases hq
              · rw [e2] at e1; exact e1
            rcases w4 with w4 | ⟨host, w4⟩
            · exact k1 _ rfl _ _ (va_runI S hM ⟨callB_of (r2 - 1) hts (xgood hcd) rfl rfl rfl (hts _ w2) (hts _ w4) w3 hR, w0, hts _ w1⟩ ⟨xPc_blind, hPc⟩ rfl hln hsz hstk2 hroom hd3 hcs)
            · exact k1 _ rfl _ _ (va_runIN S hM ⟨va_cnB (r2 - 1) hts (xgood hcd) rfl rfl rfl (hEnv.2.1 _ w4) (hts _ w2) w3 hR, w0, hts _ w1⟩ ⟨xPc_blind, hPc⟩ rfl hln hsz hstk2 hroom hd3 hcs)
          · cases hw
        · cases hw
      · rename_i idx
        split at hw
        · rename_i b hb
          obtain ⟨hr2, e8⟩ := e8
          obtain ⟨hj, y, cc', ret, ini, q, hmt, hk0, hk1, hq, w1, w2, w3⟩ := e8 _ _ hw
          have hM := xmet6 ih hV (by omega) hc1 g3 hmt hj
          have hcd := (hV _ _ hmt).2.1 hj
          have hnl := (hV _ _ hmt).2.2.1
          have hR : (xrm d' (h2.2.1.2.1 - h.2.1.2.1) (h2.2.1.2.2 - h.2.1.2.2)).frames + 1 ≤ R.frames ∧ 8 + (xnl j + 11) + (xrm d' (h2.2.1.2.1 - h.2.1.2.1) (h2.2.1.2.2 - h.2.1.2.2)).locals ≤ R.locals := by
            refine ⟨hdR, ?_⟩
            show 8 + (xnl j + 11) + 39 * d' ≤ R.locals
            omega
          have hln : (((st.take (r2 - 1)).reverse).map (xsh ad)).length = r2 - 1 := by simp; omega
          have hvs := xtake hr2 hb
          have hstk := xstk ad st r2
          rw [hvs] at hPc hstk
          rw [hvs] at hM
          have hstk2 : st.map (xsh ad) = (((st.take (r2 - 1)).reverse).map (xsh ad)).reverse ++ .ref (ad b) :: (st.drop r2).map (xsh ad) := by
            rw [hstk]
            simp [xsh]
          have hd3 : decode t.2.1 pc = .ok (.invokevirtual idx, 3) := by
            rcases e2 with ⟨_, _, _, _, hq⟩ | e2
            · cases hq
            · rw [e2] at e1; exact e1
          have hrecv : ∃ cellB : Cell, H[ad b]? = some cellB ∧ cellB.vm.isStatics = false ∧ s.vm.findClass q.1 = some cellB.cls := by
            obtain ⟨⟨-, -, -, co⟩, -, -⟩ := hH.1 b ⟨hk0, by omega⟩
            obtain ⟨cell, q1, q2, q3, q4⟩ := co q hk0 hq
            exact ⟨cell, q1, by rw [q3]; rfl, by rw [q2]; exact (hEnv.1.1.1 _ q hq).2.1⟩
          rcases w3 with ⟨w4, w5, w6⟩ | ⟨x, owner, w4, w5, w6, w7, w8⟩
          · exact k1 _ rfl _ _ (va_runV S hM ⟨callB_of (r2 - 1) hts (xgood hcd) rfl rfl rfl (hts _ w2) (hts _ w4) w6 hR, hts _ w1, hts _ w5⟩ ⟨xPc_blind, hrecv, hPc⟩ rfl hln hsz hstk2 hroom hd3 hcs)
          · have hdecl : va_Decl s ⟨owner, x.name, x.desc⟩ := by
              rcases w8 with w8 | ⟨w8, b0, m0, r0, w9⟩
              · exact va_Decl.abs (hEnv.2.1 _ w8)
              · exact va_Decl.of (hts _ w8) (hts _ w9)
            have hpar : ∀ sig, parseMethodDescriptor x.desc = some sig → r2 - 1 = sig.parameters.length := by
              intro sig hsg
              have h2 := w7.2.2
              rw [hsg] at h2
              exact (Option.some.inj h2).symm
            exact k1 _ rfl _ _ (va_runU S hM ⟨⟨rfl, rfl, hR.1, hR.2, pay_in hts (xgood hcd), List.mem_cons_self⟩, hts _ hcd, hts _ w2, ⟨w7.1, w7.2.1⟩, hpar, hts _ w4, hts _ w5, hdecl, hts _ w6, hts _ w1⟩ ⟨xPc_blind, hrecv, hPc⟩ rfl hln hsz hstk2 hroom hd3 hcs)
        · cases hw
      · cases hw
    · obtain ⟨st', h2⟩ := q
      dsimp only at hn g2
      have m2 := ex_le hn
      have hpl : h2.2.1 = h.2.1 := by
        unfold xbj at hq
        split at hq
        · split at hq
          · cases hq
          · exact xbi_pl hq
        · split at hq
          · exact xbi_pl hq
          · cases hq
        · cases hq
      have hd3 : decode t.2.1 pc = .ok (ins, xlen ins) := by
        rcases e2 with ⟨_, _, _, _, rfl⟩ | e2
        · simp [xbj] at hq
        · rw [e2] at e1; exact e1
      refine xbj_ok S hsz hEnv hH hS hd3 e7 hq g2 (by omega) (by omega) (by omega) (by omega) fun H1 locs1 hH1 hS1 => ?_
      exact go (pc + 3) L st' h2 H1 locs1 ls cells slots hn hH1 hS1 hl hlen (by rw [hpl]) (by rw [hpl])
    · exfalso
      omega
    · have m2 := ex_le hn
      dsimp only at m2
      unfold xle at m2
      unfold xstep at hf
      split at hf
      · rename_i st' ho
        cases hf
        have hd3 : decode t.2.1 pc = .ok (ins, xlen ins) := by
          rcases e2 with ⟨_, _, _, _, rfl⟩ | e2
          · simp [xop] at ho
          · rw [e2] at e1; exact e1
        exact xop_ok S.1 S.2.1 S.2.2.2.1 hts hd3 e3 ho (go _ _ _ _ _ _ _ _ _ hn hH hS hl hlen rfl rfl)
      · split at hf
        · rename_i q ho
          obtain ⟨L', st'⟩ := q
          cases hf
          have hd3 : decode t.2.1 pc = .ok (ins, xlen ins) := by
            rcases e2 with ⟨_, _, _, _, rfl⟩ | e2
            · simp [xlo] at ho
            · rw [e2] at e1; exact e1
          exact xlo_ok S.1 S.2.1 hd3 hl ho (fun ls' hl' => go _ _ _ _ _ _ _ _ _ hn hH hS hl' ((xlo_len ho).trans hlen) rfl rfl)
        · split at hf
          · rename_i q ho
            obtain ⟨pc', st'⟩ := q
            cases hf
            exact xbr_ok S.1 S.2.1 e1 e2 e4 ho (go _ _ _ _ _ _ _ _ _ hn hH hS hl hlen rfl rfl)
          · split at hf
            · rename_i q ho
              obtain ⟨st', h2⟩ := q
              cases hf
              have hd3 : decode t.2.1 pc = .ok (ins, xlen ins) := by
                rcases e2 with ⟨_, _, _, _, rfl⟩ | e2
                · simp [xhp] at ho
                · rw [e2] at e1; exact e1
              have hpl := xhp_pl ho
              exact xhp_ok S hEnv.1 hH hS hini hd3 e5 ho (fun H1 locs1 hH1 hS1 => go _ _ _ _ _ _ _ _ _ hn hH1 hS1 hl hlen (by rw [hpl]) (by rw [hpl]))
            · split at hf
              · rename_i q ho
                obtain ⟨st', h2, ds⟩ := q
                cases hf
                have hd3 : decode t.2.1 pc = .ok (ins, xlen ins) := by
                  rcases e2 with ⟨_, _, _, _, rfl⟩ | e2
                  · simp [xal] at ho
                  · rw [e2] at e1; exact e1
                have hpl := xal_pl ho
                dsimp only at m2 hn
                exact xal_ok S hEnv.1 hH hS hEnv.2.2 hd3 e6 ho (by omega) (by omega) (fun H1 hH1 hS1 => go _ _ _ _ _ _ _ _ _ hn hH1 hS1 hl hlen (by omega) (by omega))
              · cases hf
