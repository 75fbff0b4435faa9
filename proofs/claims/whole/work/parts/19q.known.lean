set_option maxRecDepth 100000 in
theorem am_known {s : State} {args : Array Value} (hts : ∀ w ∈ lw_tbl, w.before args s = true) : ∃ (D : va_G) (cA : Nat → ClassId), va_K D am_cl (am_tys cA) s := by
  have htW : ∀ w ∈ am_WG, w.before args s = true := fun w hw => hts w (List.mem_filter.mp hw).1
  obtain ⟨c0, i0, h0⟩ := u_known htW (am_clok (ci := 0) (C := "RebuildDesk$Graph") (T := am_T0) (N := 5) rfl).1 (hts (.instantiable "RebuildDesk$Graph" 5) (by decide +kernel))
  obtain ⟨c1, i1, h1⟩ := u_known htW (am_clok (ci := 1) (C := "RebuildDesk$Lines") (T := am_T1) (N := 4) rfl).1 (hts (.instantiable "RebuildDesk$Lines" 4) (by decide +kernel))
  obtain ⟨c2, i2, h2⟩ := u_known htW (am_clok (ci := 2) (C := "RebuildDesk$Macros") (T := am_T2) (N := 6) rfl).1 (hts (.instantiable "RebuildDesk$Macros" 6) (by decide +kernel))
  obtain ⟨c3, i3, h3⟩ := u_known htW (am_clok (ci := 3) (C := "RebuildDesk$Report") (T := am_T3) (N := 3) rfl).1 (hts (.instantiable "RebuildDesk$Report" 3) (by decide +kernel))
  obtain ⟨c4, i4, h4⟩ := u_known htW (am_clok (ci := 4) (C := "RebuildDesk$RuleLines") (T := am_T4) (N := 3) rfl).1 (hts (.instantiable "RebuildDesk$RuleLines" 3) (by decide +kernel))
  obtain ⟨c5, i5, h5⟩ := u_known htW (am_clok (ci := 5) (C := "RebuildDesk$Rules") (T := am_T5) (N := 5) rfl).1 (hts (.instantiable "RebuildDesk$Rules" 5) (by decide +kernel))
  obtain ⟨c6, i6, h6⟩ := u_known htW (am_clok (ci := 6) (C := "RebuildDesk$Stamps") (T := am_T6) (N := 1) rfl).1 (hts (.instantiable "RebuildDesk$Stamps" 1) (by decide +kernel))
  obtain ⟨c7, i7, h7⟩ := u_known htW (am_clok (ci := 7) (C := "RebuildDesk$Text") (T := am_T7) (N := 2) rfl).1 (hts (.instantiable "RebuildDesk$Text" 2) (by decide +kernel))
  obtain ⟨c8, i8, h8⟩ := u_known htW (am_clok (ci := 8) (C := "RebuildDesk") (T := am_T8) (N := 9) rfl).1 (hts (.instantiable "RebuildDesk" 9) (by decide +kernel))
  obtain ⟨c9, i9, h9⟩ := u_known htW (am_clok (ci := 9) (C := "RebuildDeskModel") (T := am_T9) (N := 33) rfl).1 (hts (.instantiable "RebuildDeskModel" 33) (by decide +kernel))
  obtain ⟨a0, ka0, ca0, p0, r0, t0⟩ := Cond.arrayClass_spec (hts (.arrayClass .int) (by decide +kernel))
  obtain ⟨a1, ka1, ca1, p1, r1, t1⟩ := Cond.arrayClass_spec (hts (.arrayClass .char) (by decide +kernel))
  obtain ⟨a2, ka2, ca2, p2, r2, t2⟩ := Cond.arrayClass_spec (hts (.arrayClass .long) (by decide +kernel))
  obtain ⟨a3, ka3, ca3, p3, r3, t3⟩ := Cond.arrayClass_spec (hts (.arrayClass .boolean) (by decide +kernel))
  obtain ⟨comp, a4, k4, z1, z2, z3, z4, z5⟩ := Cond.arrayOver_spec (hts (.arrayOver (.object am_LK)) (by decide +kernel))
  refine ⟨(fun c => match c with | 0 => c0 | 1 => c1 | 2 => c2 | 3 => c3 | 4 => c4 | 5 => c5 | 6 => c6 | 7 => c7 | 8 => c8 | _ => c9, fun c => match c with | 0 => i0 | 1 => i1 | 2 => i2 | 3 => i3 | 4 => i4 | 5 => i5 | 6 => i6 | 7 => i7 | 8 => i8 | _ => i9), fun k => match k with | 0 => a0 | 1 => a1 | 2 => a2 | 3 => a3 | _ => a4, fun c q hq => ?_, fun k q hk => ?_⟩
  · rcases (show c = 0 ∨ c = 1 ∨ c = 2 ∨ c = 3 ∨ c = 4 ∨ c = 5 ∨ c = 6 ∨ c = 7 ∨ c = 8 ∨ c = 9 ∨ 10 ≤ c by omega) with rfl | rfl | rfl | rfl | rfl | rfl | rfl | rfl | rfl | rfl | h
    · cases Option.some.inj hq
      exact h0
    · cases Option.some.inj hq
      exact h1
    · cases Option.some.inj hq
      exact h2
    · cases Option.some.inj hq
      exact h3
    · cases Option.some.inj hq
      exact h4
    · cases Option.some.inj hq
      exact h5
    · cases Option.some.inj hq
      exact h6
    · cases Option.some.inj hq
      exact h7
    · cases Option.some.inj hq
      exact h8
    · cases Option.some.inj hq
      exact h9
    · rw [List.getElem?_eq_none (show am_cl.length ≤ c from h)] at hq
      cases hq
  · rcases (show k = 0 ∨ k = 1 ∨ k = 2 ∨ k = 3 ∨ k = 4 ∨ 5 ≤ k by omega) with rfl | rfl | rfl | rfl | rfl | h
    · cases Option.some.inj hk
      exact ⟨fun n z => ⟨fun k h => (by cases h), ka0, r0, ca0, t0⟩, p0⟩
    · cases Option.some.inj hk
      exact ⟨fun n z => ⟨fun k h => (by cases h), ka1, r1, ca1, t1⟩, p1⟩
    · cases Option.some.inj hk
      exact ⟨fun n z => ⟨fun k h => (by cases h), ka2, r2, ca2, t2⟩, p2⟩
    · cases Option.some.inj hk
      exact ⟨fun n z => ⟨fun k h => (by cases h), ka3, r3, ca3, t3⟩, p3⟩
    · cases Option.some.inj hk
      exact ⟨fun n z => ⟨fun k h => (by cases h), k4, z3, comp, z4⟩, k4, comp, z3, z4, z1, z5⟩
    · rw [List.getElem?_eq_none (show (am_tys _).length ≤ k from h)] at hk
      cases hk
set_option maxRecDepth 100000 in
theorem am_starts {s : State} {args : Array Value} (hts : ∀ w ∈ lw_tbl, w.before args s = true) (hgv : (Jvm.Cond.and given_1 narrow_1).before args s = true) : am_Xt (fun q => s.heap.size ≤ q) s ∧ am_Nk s ∧ am_Ns s ∧ va_AO am_LK s := by
  have hfl := flat_of_before _ hgv
  have hA : ∀ a : Nat, a < s.heap.size → ¬ (fun q => s.heap.size ≤ q) a := fun a h1 h2 => Nat.lt_irrefl _ (Nat.lt_of_lt_of_le h1 h2)
  refine ⟨⟨am_LS_of (hts _ (by decide +kernel)) (hfl _ (by decide +kernel)) hA, am_LS_of (hts _ (by decide +kernel)) (hfl _ (by decide +kernel)) hA, fun w hw hd => ?_⟩, fun q hq => ?_, fun o k y h hm => va_Nw.of rfl (hts _ hm), hts (.arrayOver (.object am_LK)) (by decide +kernel)⟩
  · unfold am_dc at hd
    split at hd
    · exact va_Nw.of rfl (hts _ hw)
    · exact va_Nw.of rfl (hts _ hw)
    · cases hd
  · simp only [am_nks, List.mem_cons, List.not_mem_nil, or_false] at hq
    rcases hq with rfl | rfl | rfl | rfl | rfl | rfl | rfl | rfl | rfl
    all_goals exact va_Nc.of (args := args) (hfl _ (by decide +kernel))
set_option maxRecDepth 100000 in
theorem am_enums {s : State} {args : Array Value} (hts : ∀ w ∈ lw_tbl, w.before args s = true) (hgv : (Jvm.Cond.and given_1 narrow_1).before args s = true) : ∃ en : Nat → Nat, va_En am_LK am_LKd am_ens [] en (fun q => s.heap.size ≤ q) s s.heap := by
  have hfl := flat_of_before _ hgv
  have six : ∀ i, i < am_ens.length → i = 0 ∨ i = 1 ∨ i = 2 ∨ i = 3 ∨ i = 4 ∨ i = 5 := fun i hi => by
    have : i < 6 := hi
    omega
  refine va_Enof (args := args) (fun i hi => ?_) (hts (.initialized am_LK) (by decide +kernel)) (fun i hi => ?_) (fun q hq => by cases hq) (fun i j hi hj hne => ?_) (fun a h1 h2 => Nat.lt_irrefl _ (Nat.lt_of_lt_of_le h1 h2))
  · rcases six i hi with rfl | rfl | rfl | rfl | rfl | rfl <;> exact hts _ (by decide +kernel)
  · rcases six i hi with rfl | rfl | rfl | rfl | rfl | rfl <;> exact hfl _ (by decide +kernel)
  · rcases six i hi with rfl | rfl | rfl | rfl | rfl | rfl <;> rcases six j hj with rfl | rfl | rfl | rfl | rfl | rfl
    all_goals first | exact absurd rfl hne | exact Or.inl (hfl _ (by decide +kernel)) | exact Or.inr (hfl _ (by decide +kernel))
