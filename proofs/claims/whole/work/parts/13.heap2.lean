/-! THE LIGHT MACHINE'S HEAP, instruction by instruction -/
section XH2
variable {p : Program} {l : Launch} {e : Env} {R : Room} {s : State} {m : MethodId} {args : Array Value} {below : List Frame} {meth : Method} {c : Code} {H : Heap} {locs : List Loc} {cells slots : Nat} {Q : State → Prop}
variable {cc : ByteArray} {pc nL : Nat} {ls : Array Slot} {ad : Nat → Nat} {D : va_G} {dA : Nat → ClassId} {base : Nat} {xe : Nat → Option (Nat × (Nat → Int32))} {sd : Nat → Option (String × String × String)} {own : String}
theorem xarr_I {cA : ClassId} {n k : Nat} {x : Int32} (I : Nat → Nat → Int32) (a : Nat) : (arrV cA n (fun j => .int (I a j))).setSlot k (.int x) = arrV cA n (fun j => .int (xup I a k x a j)) := by
  rw [arrV_store]
  congr 1
  funext j
  rw [xup_at]
  unfold updV
  split <;> rfl
theorem xarr_J {cA : ClassId} {n k : Nat} {x : Int64} (J : Nat → Nat → Int64) (a : Nat) : (arrV cA n (fun j => .long (J a j))).setSlot k (.long x) = arrV cA n (fun j => .long (xup J a k x a j)) := by
  rw [arrV_store]
  congr 1
  funext j
  rw [xup_at]
  unfold updV
  split <;> rfl
set_option maxHeartbeats 4000000 in
theorem xhp_ok (S : CallFix p m c cc nL s args xG own) (hKK : xKK D dA ad base xe sd s) {h h1 : xS} (hH : xHO D dA ad base xe h H) (hS0 : va_S (fun q => base ≤ q) s.heap H locs) {ini : Bool} (hini : ini = true → meth.name = "<init>") {ins : Instr} {r1 r2 : Nat} (hd : decode cc pc = .ok (ins, xlen ins)) (hw : xhw sd own ini ins r1 r2) {st st' : List Value} (hx : xhp ins r1 r2 st h = some (st', h1))
    (kk : ∀ H1 locs1, xHO D dA ad base xe h1 H1 → va_S (fun q => base ≤ q) s.heap H1 locs1 → W p l e R s m args below meth c H1 locs1 cells slots Q (F0 m (pc + xlen ins) ls (st'.map (xsh ad)))) : W p l e R s m args below meth c H locs cells slots Q (F0 m pc ls (st.map (xsh ad))) := by
  obtain ⟨hK, hE, hZ⟩ := hKK
  have S0 := S
  obtain ⟨hexec, hb, -, hown, hts⟩ := S
  unfold xhp at hx
  split at hx
  · split at hx
    · split at hx
      · rename_i hs
        cases hx
        exact xgf_ok S0 hK hH (hw _ hs) hd (kk _ _ hH hS0)
      · cases hx
    · cases hx
  · split at hx
    · split at hx
      · rename_i hs
        obtain ⟨h2, hp, he⟩ := Option.map_eq_some_iff.mp hx
        cases he
        exact xpf_ok S0 hK hH hS0 (hw _ hs) hini hd hp kk
      · cases hx
    · cases hx
  · cases hx
    obtain ⟨C, n, d, h1, h2⟩ := hw
    exact va_gets hexec hb (hZ _ _ _ _ h1) hS0 hown (hts _ h2) (fun x hx => hx) hd (kk _ _ hH hS0)
  · split at hx
    · rename_i i a r
      split at hx
      · rename_i hc
        obtain ⟨hc, hin⟩ := hc
        cases hx
        have hlt : i.toNatClampNeg < (h.1 a).2 := Nat.not_le.mp fun q => hin (Or.inr q)
        rcases hc with hc | hc
        · obtain ⟨⟨c1, -⟩, -, -⟩ := hH.1 a ⟨by omega, by omega⟩
          exact W.iald (v := .int (h.2.2.1 a i.toNatClampNeg)) hexec hb (c1 hc) ((hK.2 0 _ rfl).1 _ (fun j => .int (h.2.2.1 a j))) (fun q => by cases q) (by rw [arrV_size]; exact hin) (by rw [arrV_read _ _ hlt]) rfl rfl hd (kk _ _ hH hS0)
        · obtain ⟨n, f, f1, f2, f3⟩ := hH.2.2.1 a hc
          rw [f2] at hin
          exact va_ti hexec hb (hE a n f f1) hS0 hin rfl hd (by have := kk _ _ hH hS0; rw [f3] at this; exact this)
      · cases hx
    · cases hx
  · split at hx
    · rename_i i a r
      split at hx
      · rename_i hc
        obtain ⟨hc, hin⟩ := hc
        cases hx
        have hlt : i.toNatClampNeg < (h.1 a).2 := Nat.not_le.mp fun q => hin (Or.inr q)
        obtain ⟨⟨-, -, c1, -⟩, -, -⟩ := hH.1 a ⟨by omega, by omega⟩
        exact W.zald (v := .int (h.2.2.1 a i.toNatClampNeg)) hexec hb (c1 hc) ((hK.2 2 _ rfl).1 _ (fun j => .int (h.2.2.1 a j))) (fun q => by cases q) (by rw [arrV_size]; exact hin) (by rw [arrV_read _ _ hlt]) rfl rfl hd (kk _ _ hH hS0)
      · cases hx
    · cases hx
  · split at hx
    · rename_i i a r
      split at hx
      · rename_i hc
        obtain ⟨hc, hin⟩ := hc
        cases hx
        have hlt : i.toNatClampNeg < (h.1 a).2 := Nat.not_le.mp fun q => hin (Or.inr q)
        obtain ⟨⟨-, c1, -⟩, -, -⟩ := hH.1 a ⟨by omega, by omega⟩
        exact W.lald (v := .long (h.2.2.2.1 a i.toNatClampNeg)) hexec hb (c1 hc) ((hK.2 1 _ rfl).1 _ (fun j => .long (h.2.2.2.1 a j))) (fun q => by cases q) (by rw [arrV_size]; exact hin) (by rw [arrV_read _ _ hlt]) rfl rfl hd (kk _ _ hH hS0)
      · cases hx
    · cases hx
  · split at hx
    · rename_i x i a r
      split at hx
      · rename_i hc
        obtain ⟨hc, hin⟩ := hc
        cases hx
        have hoa : xown h a := ⟨by omega, by omega⟩
        obtain ⟨⟨c1, -⟩, hba, -⟩ := hH.1 a hoa
        refine W.iast hexec hb (c1 hc) ((hK.2 0 _ rfl).1 _ (fun j => .int (h.2.2.1 a j))) (fun q => by cases q) (by rw [arrV_size]; exact hin) rfl rfl hd fun H1 e1 z oq => ?_
        refine kk H1 _ (hH.put hoa rfl rfl (fun b hb => ⟨xup_ne _ _ _ hb, rfl, rfl⟩) z oq ⟨fun _ => ?_, fun hz => ?_, fun hz => ?_, fun q h0 hq => ?_⟩) (hS0.put z oq hba)
        · rw [e1, xarr_I]
        · exact absurd (hc.symm.trans hz) (by decide)
        · exact absurd (hc.symm.trans hz) (by decide)
        · rw [hc] at hq; simp [xCl] at hq
      · cases hx
    · cases hx
  · split at hx
    · rename_i x i a r
      split at hx
      · rename_i hc
        obtain ⟨⟨hc, hx01⟩, hin⟩ := hc
        cases hx
        have hoa : xown h a := ⟨by omega, by omega⟩
        obtain ⟨⟨-, -, c1, -⟩, hba, -⟩ := hH.1 a hoa
        refine W.zast hexec hb (c1 hc) ((hK.2 2 _ rfl).1 _ (fun j => .int (h.2.2.1 a j))) (fun q => by cases q) (by rw [arrV_size]; exact hin) rfl rfl hd fun H1 e1 z oq => ?_
        have hnar : narrow .boolean (.int x) = .int x := by rcases hx01 with rfl | rfl <;> decide
        rw [hnar] at e1
        refine kk H1 _ (hH.put hoa rfl rfl (fun b hb => ⟨xup_ne _ _ _ hb, rfl, rfl⟩) z oq ⟨fun hz => ?_, fun hz => ?_, fun _ => ?_, fun q h0 hq => ?_⟩) (hS0.put z oq hba)
        · exact absurd (hc.symm.trans hz) (by decide)
        · exact absurd (hc.symm.trans hz) (by decide)
        · rw [e1, xarr_I]
        · rw [hc] at hq; simp [xCl] at hq
      · cases hx
    · cases hx
  · split at hx
    · rename_i x i a r
      split at hx
      · rename_i hc
        obtain ⟨hc, hin⟩ := hc
        cases hx
        have hoa : xown h a := ⟨by omega, by omega⟩
        obtain ⟨⟨-, c1, -⟩, hba, -⟩ := hH.1 a hoa
        refine W.last hexec hb (c1 hc) ((hK.2 1 _ rfl).1 _ (fun j => .long (h.2.2.2.1 a j))) (fun q => by cases q) (by rw [arrV_size]; exact hin) rfl rfl hd fun H1 e1 z oq => ?_
        refine kk H1 _ (hH.put hoa rfl rfl (fun b hb => ⟨rfl, xup_ne _ _ _ hb, rfl⟩) z oq ⟨fun hz => ?_, fun _ => ?_, fun hz => ?_, fun q h0 hq => ?_⟩) (hS0.put z oq hba)
        · exact absurd (hc.symm.trans hz) (by decide)
        · rw [e1, xarr_J]
        · exact absurd (hc.symm.trans hz) (by decide)
        · rw [hc] at hq; simp [xCl] at hq
      · cases hx
    · cases hx
  · split at hx
    · rename_i a r
      split at hx
      · rename_i hc
        cases hx
        rcases hc with hc | hc | hc
        · obtain ⟨⟨c1, -⟩, -, -⟩ := hH.1 a ⟨by omega, by omega⟩
          exact W.alen (n := Int32.ofNat (h.1 a).2) hexec hb (c1 hc) ((hK.2 0 _ rfl).1 _ (fun j => .int (h.2.2.1 a j))) (by rw [arrV_size] <;> rfl) rfl rfl hd (kk _ _ hH hS0)
        · obtain ⟨n, f, f1, f2, f3⟩ := hH.2.2.1 a hc
          exact va_tlen hexec hb (hE a n f f1) hS0 rfl hd (by have := kk _ _ hH hS0; rw [f2] at this; exact this)
        · obtain ⟨⟨-, c1, -⟩, -, -⟩ := hH.1 a ⟨by omega, by omega⟩
          exact W.alen (n := Int32.ofNat (h.1 a).2) hexec hb (c1 hc) ((hK.2 1 _ rfl).1 _ (fun j => .long (h.2.2.2.1 a j))) (by rw [arrV_size] <;> rfl) rfl rfl hd (kk _ _ hH hS0)
      · cases hx
    · cases hx
  · cases hx
end XH2
