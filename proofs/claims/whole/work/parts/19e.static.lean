def am_exs : List String := ["java/lang/IllegalArgumentException", "java/lang/IllegalStateException", "java/lang/UnsupportedOperationException", "java/lang/IndexOutOfBoundsException", "java/util/NoSuchElementException", "java/lang/ArithmeticException"]
def am_ex (x : Nat) : String := am_exs.getD x ""
def am_sup : List String := ["java/lang/RuntimeException", "java/lang/Exception"]
def am_LS (C n d : String) (A : Nat → Prop) (U : State) (H : Heap) : Prop := ∃ (c : ClassId) (k : Class) (i : Nat) (f : Field) (a : Nat) (cell : Cell) (v : Value), U.vm.findClass C = some c ∧ U.fieldFound? C n d = some (c, k, i, f) ∧ f.isStatic = true ∧ k.statics = some a ∧ H[a]? = some cell ∧ cell.vm.isStatics = true ∧ cell.cls = c ∧ f.slot < cell.slots.size ∧ k.staticTypes[f.slot]? = some f.type ∧ cell.slots[f.slot]? = some v ∧ (v = .null ∨ ∃ t, v = .ref t) ∧ ¬ A a
theorem am_LS_of {args : Array Value} {s : State} {C n d : String} {A : Nat → Prop} (hl : (Cond.laysStatic C n d).before args s = true) (h : (Cond.isRef (.static C n d)).before args s = true) (hA : ∀ a : Nat, a < s.heap.size → ¬ A a) : am_LS C n d A s s.heap := by
  obtain ⟨c, k, i, f, a, cell, hc, hi, hst, ha, hcell, hs, hcls, hlt, hty⟩ := Cond.laysStatic_spec hl
  cases hv : (Term.static C n d).eval args s none [] s with
  | none => simp [Cond.before, Cond.holds, Cond.value, hv] at h
  | some w =>
    obtain ⟨hst', a', cell', ha', hcell', -, hslot⟩ := Term.static_spec hi hv
    cases ha.symm.trans ha'
    cases hcell.symm.trans hcell'
    refine ⟨c, k, i, f, a, cell, w, hc, hi, hst, ha, hcell, hs, hcls, hlt, hty, hslot, ?_, hA a (Array.getElem?_eq_some_iff.mp hcell).1⟩
    simp only [Cond.before, Cond.holds, Cond.value, hv] at h
    cases w <;> simp_all
theorem am_LS_kept {C n d : String} {A : Nat → Prop} {U : State} {H H1 : Heap} (h : am_LS C n d A U H) (hq : ∀ a : Nat, a < H.size → ¬ A a → H1[a]? = H[a]?) : am_LS C n d A U H1 := by
  obtain ⟨c, k, i, f, a, cell, v, h1, h2, h3, h4, h5, h6, h7, h8, h9, h10, h11, h12⟩ := h
  exact ⟨c, k, i, f, a, cell, v, h1, h2, h3, h4, by rw [hq a (Array.getElem?_eq_some_iff.mp h5).1 h12]; exact h5, h6, h7, h8, h9, h10, h11, h12⟩
theorem am_LS_moved {C n d : String} {A : Nat → Prop} {u U : State} {H : Heap} (hvm : u.vm.Alike U.vm) (h : am_LS C n d A u H) : am_LS C n d A U H := by
  obtain ⟨c, k, i, f, a, cell, v, h1, h2, h3, h4, h5, h6, h7, h8, h9, h10, h11, h12⟩ := h
  obtain ⟨k', hi', he⟩ := State.fieldFound?_setVm hvm h2
  exact ⟨c, k', i, f, a, cell, v, by rw [hvm.findClass]; exact h1, hi', h3, by rw [he]; exact h4, h5, h6, h7, h8, by rw [he]; exact h9, h10, h11, h12⟩
theorem am_LS_lays {C n d : String} {A : Nat → Prop} {U : State} {args : Array Value} (h : am_LS C n d A U U.heap) : (Cond.laysStatic C n d).before args U = true := by
  obtain ⟨c, k, i, f, a, cell, v, h1, h2, h3, h4, h5, h6, h7, h8, h9, h10, h11, h12⟩ := h
  simp [Cond.before, Cond.holds, Cond.value, h1, h2, h3, h4, h5, h6, h7, h8, h9]
theorem am_LS_ref {C n d : String} {A : Nat → Prop} {U : State} {args : Array Value} (h : am_LS C n d A U U.heap) : (Cond.isRef (.static C n d)).before args U = true := by
  obtain ⟨c, k, i, f, a, cell, v, h1, h2, h3, h4, h5, h6, h7, h8, h9, h10, h11, h12⟩ := h
  have e : (Term.static C n d).eval args U none [] U = some v := by
    simp [Term.eval, State.fieldNamed?, h2, h3, h4, h5, h6, h10]
  rcases h11 with rfl | ⟨t, rfl⟩
  · simp [Cond.before, Cond.holds, Cond.value, e]
  · simp [Cond.before, Cond.holds, Cond.value, e]
def am_dc (w : Cond) : Bool := match w with
  | .declares _ => true
  | .castable _ _ => true
  | _ => false
def am_Xt (A : Nat → Prop) (s : State) : Prop := am_LS Bundle.tN "UNASSIGNED_STACK" Bundle.steD A s s.heap ∧ am_LS Bundle.tN "SUPPRESSED_SENTINEL" Bundle.listD A s s.heap ∧ ∀ w ∈ lw_tbl, am_dc w = true → va_Nw w s
theorem am_Xt_moved {A : Nat → Prop} {s U : State} (h : am_Xt A s) (hW : s.WarmedH U.vm) (hq : ∀ q, q < s.heap.size → ¬ A q → U.heap[q]? = s.heap[q]?) : am_Xt A U := by
  obtain ⟨h1, h2, h3⟩ := h
  refine ⟨am_LS_kept (am_LS_moved hW.alike h1) hq, am_LS_kept (am_LS_moved hW.alike h2) hq, fun w hw hd => ?_⟩
  have := h3 w hw hd
  cases w with
  | declares x => exact va_Nw.warmD hW this
  | castable a b => exact va_Nw.warmC hW this
  | _ => cases hd
def am_thW (w : Cond) : Bool := (decide (w ∈ lw_tbl) && (goodWord w || am_dc w)) || (decide (w = .isRef (.static Bundle.tN "UNASSIGNED_STACK" Bundle.steD)) || decide (w = .isRef (.static Bundle.tN "SUPPRESSED_SENTINEL" Bundle.listD))) || (decide (w = .laysStatic Bundle.tN "UNASSIGNED_STACK" Bundle.steD) || decide (w = .laysStatic Bundle.tN "SUPPRESSED_SENTINEL" Bundle.listD))
theorem am_thW_use {A : Nat → Prop} {s : State} {args : Array Value} (hts : ∀ w ∈ am_WG, w.before args s = true) (hX : am_Xt A s) {w : Cond} (h : am_thW w = true) : w.before args s = true := by
  unfold am_thW at h
  simp only [Bool.or_eq_true, Bool.and_eq_true, decide_eq_true_eq] at h
  rcases h with (⟨h1, h2 | h2⟩ | h | h) | h | h
  · exact hts w (List.mem_filter.mpr ⟨h1, h2⟩)
  · refine va_Nw.use ?_ (hX.2.2 w h1 h2)
    cases w <;> first | rfl | cases h2
  · rw [h]; exact am_LS_ref hX.1
  · rw [h]; exact am_LS_ref hX.2.1
  · rw [h]; exact am_LS_lays hX.1
  · rw [h]; exact am_LS_lays hX.2.1
def am_thB (mi pc n ic x : Nat) : Bool := decide (decode (am_bytes mi) pc = .ok (.new n, 3)) && decide (decode (am_bytes mi) (pc + 3) = .ok (.dup, 1)) && decide (decode (am_bytes mi) (pc + 4) = .ok (.invokespecial ic, 3)) && decide (decode (am_bytes mi) (pc + 7) = .ok (.athrow, 1)) && decide (Cond.classLink (am_own mi) n (am_ex x) ∈ lw_tbl) && decide (Cond.initialized (am_ex x) ∈ lw_tbl) && Bundle.fit (am_ex x) && (Bundle.ownAtoms0 (am_own mi) ic (am_ex x) am_sup).all am_thW
