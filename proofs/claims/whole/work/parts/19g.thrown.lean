def am_Qt (below : List Frame) (s : State) (locs : List Loc) (cells slots : Nat) (H : Heap) (x : Nat) (t : State) : Prop := ∃ (adr : Nat) (ce : Cell), t.status = .running ∧ Ended t below (.threw adr) ∧ s.WarmedH t.vm ∧ s.sameButNew ({ t with vm := s.vm } : State) locs (cells + 1) (slots + 6) ∧ t.heap[adr]? = some ce ∧ s.vm.findClass (am_ex x) = some ce.cls ∧ ce.vm = .none ∧ H.size ≤ t.heap.size ∧ (∀ q, q < H.size → t.heap[q]? = H[q]?) ∧ H.size ≤ adr
section
variable {p : Program} {l : Launch} {e : Env} {R : Room} {s : State} {m : MethodId} {args : Array Value} {below : List Frame} {meth : Method} {c : Code} {cells slots : Nat} {Q : State → Prop} {A : Nat → Prop}
set_option maxHeartbeats 1000000 in
theorem am_throwW {mi pc n ic x : Nat} {H : Heap} {ls : Array Slot} {locs : List Loc} (hlt : l.stackTraces = false) (hx : p.tables.exec = Jvm.exec) (hb : c.code = am_bytes mi) (hown : s.vm.findClass (am_own mi) = some m.cls) (hts : ∀ w ∈ am_WG, w.before args s = true) (hXt : am_Xt A s) (hS : va_S A s.heap H locs)
    (hsite : am_thB mi pc n ic x = true) (htab : c.exceptionTable.toList = []) (hcells : cells + 1 ≤ R.cells) (hslots : slots + 6 ≤ R.slots) (hframes : 6 ≤ R.frames) (hloc : 88 ≤ R.locals) (hsize : ls.size = c.maxLocals) (hlocks : meth.locks = false)
    (kk : ∀ t, am_Qt below s locs cells slots H x t → Q t) : W p l e R s m args below meth c H locs cells slots Q (F0 m pc ls []) := by
  unfold am_thB at hsite
  simp only [Bool.and_eq_true, decide_eq_true_eq] at hsite
  obtain ⟨⟨⟨⟨⟨⟨⟨d1, d2⟩, d3⟩, d4⟩, w1⟩, w2⟩, w3⟩, w4⟩ := hsite
  rw [List.all_eq_true] at w4
  intro T hT X
  have htr : e.platform.stackTraces = false := by rw [X.admits.platform]; exact hlt
  have X' := am_rebase X (by omega) (by omega)
  have hheap : (T.setFrames (.invoking m args :: below)).heap = H := hT
  have hWm : s.WarmedH (T.setFrames (.invoking m args :: below)).vm := X.warmed
  have hts' : ∀ w ∈ am_WG, w.before args (T.setFrames (.invoking m args :: below)) = true := fun w hw => word_at hWm (am_good (ws := am_WG) (fun _ z => z) w hw).2 (hts w hw)
  have hXt' : am_Xt A (T.setFrames (.invoking m args :: below)) := am_Xt_moved hXt hWm (fun q h1 h2 => by rw [hheap]; exact hS.2.1 q h1 h2)
  have hown' : (T.setFrames (.invoking m args :: below)).vm.findClass (am_own mi) = some m.cls := by rw [hWm.alike.findClass]; exact hown
  have gw : ∀ w, w ∈ lw_tbl → goodWord w = true → w.before args (T.setFrames (.invoking m args :: below)) = true := fun w h1 h2 => hts' w (List.mem_filter.mpr ⟨h1, h2⟩)
  have hwords : ∀ w ∈ Bundle.ownAtoms0 (am_own mi) ic (am_ex x) am_sup, w.before args (T.setFrames (.invoking m args :: below)) = true := fun w hw => am_thW_use hts' hXt' (w4 w hw)
  have hins : (Cond.instantiable (am_ex x) 6).before args (T.setFrames (.invoking m args :: below)) = true := hwords _ (by simp [Bundle.ownAtoms0])
  have hfit : ∀ q ∈ am_sup, Bundle.fit q = true := by decide +kernel
  obtain ⟨cX, kX0, hcX, hkX0, -⟩ := Cond.instantiable_spec hins
  have hdb : ∀ q i len, decode (am_bytes mi) q = .ok (i, len) → decode c.code q = .ok (i, len) := fun q i len hq => by rw [hb]; exact hq
  have K : W p l e { R with cells := R.cells - cells, slots := R.slots - slots } (T.setFrames (.invoking m args :: below)) m args below meth c H [] 0 0 (fun U => ∃ (adr : Nat) (ce : Cell), U.status = .running ∧ Ended U below (.threw adr) ∧ (T.setFrames (.invoking m args :: below)).WarmedH U.vm ∧ (T.setFrames (.invoking m args :: below)).sameButNew ({ U with vm := (T.setFrames (.invoking m args :: below)).vm } : State) [] 1 6 ∧ U.heap[adr]? = some ce ∧ (T.setFrames (.invoking m args :: below)).vm.findClass (am_ex x) = some ce.cls ∧ ce.vm = .none ∧ H.size ≤ adr) (F0 m pc ls []) := by
    refine W.newcK (g := F0 m pc ls []) (n := 6) (C := am_ex x) hx hb hown' (gw _ w1 rfl) hins (gw _ w2 rfl) rfl d1 (by show 0 + 1 ≤ R.cells - cells; omega) (by show 0 + 6 ≤ R.slots - slots; omega) hcX rfl (fun H' kC hkC hcell hsz hold => ?_)
    refine lv_dup (va := .ref H.size) (rest := []) (pc := pc + 3) hx hb d2 rfl ?_
    intro T2 hT2 X2
    obtain ⟨U, u1, u2, u3, u4, u5, ce, u6, u7⟩ := X2.ctorThrow0 hx htr (own := am_own mi) (cls := am_ex x) (names := am_sup) (ic := ic) hown' w3 hfit hwords (fun _ h => by cases h) (a := H.size) hcX hkC (by rw [hT2]; exact hcell) (by rw [hheap]; exact Nat.le_refl _)
      (g := F0 m (pc + 4) ls [.ref H.size, .ref H.size]) rfl hsize rfl rfl (rest := []) rfl (hdb _ _ _ d3) (hdb _ _ _ d4) (fun q hq => by rw [htab] at hq; cases hq) (by show 2 + 3 < R.frames; omega) (by
        have e1 : (F0 m (pc + 4) ls [.ref H.size, .ref H.size]).monitorRoom = 0 := rfl
        show 2 * (F0 m (pc + 4) ls [.ref H.size, .ref H.size]).monitorRoom + (1 + 0) + (13 * (2 + 1) + 41) ≤ R.locals
        rw [e1]; omega) hlocks
    exact ⟨U, u1, H.size, ce, u2, u3, u4, u5, u6, u7.cls, u7.vm, Nat.le_refl _⟩
  obtain ⟨U, st, adr, ce, v1, v2, v3, v4, v5, v6, v7, v8⟩ := K T hT X'
  refine ⟨U, st, kk U ⟨adr, ce, v1, v2, State.WarmedH.trans (t := T.setFrames (.invoking m args :: below)) hWm v3, ?_, v5, by rw [← hWm.alike.findClass]; exact v6, v7, ?_, ?_, v8⟩⟩
  · obtain ⟨b1, b2, b3, b4, b5, b6⟩ := v4
    have hs2 : (T.setVm s.vm).sameButNew ({ U with vm := s.vm } : State) [] 1 6 := by
      refine ⟨?_, b2, b3, b4, b5, b6⟩
      have := congrArg (fun z : State => z.setVm s.vm) b1
      refine this.trans ?_
      show _ = ({ (T.setVm s.vm).setFrames U.frames with heap := U.heap, slotsUsed := U.slotsUsed } : State)
      show ({ ((T.setFrames (.invoking m args :: below)).setFrames U.frames).setVm s.vm with heap := U.heap, slotsUsed := U.slotsUsed } : State) = _
      rw [State.setFrames_setFrames]
      rfl
    have := X.same.trans hs2
    rw [List.append_nil] at this
    exact this
  · have := v4.2.1
    rw [hheap] at this
    exact this
  · intro q hq
    obtain ⟨-, -, -, -, -, b6⟩ := v4
    have hq' : q < (T.setFrames (.invoking m args :: below)).heap.size := by rw [hheap]; exact hq
    obtain ⟨c', y1, y2, y3, y4⟩ := b6 q _ (Array.getElem?_eq_getElem hq')
    have e1 : U.heap[q]? = some c' := y1
    have e2 : c'.slots = ((T.setFrames (.invoking m args :: below)).heap[q]).slots := by
      apply Array.ext_getElem?
      intro i
      exact y4 i (fun h => by cases h)
    rw [e1, y2, e2, ← hheap, Array.getElem?_eq_getElem hq']
end
