def am_nks : List (String × String) := [(am_ex 1, am_ex 0), (am_ex 2, am_ex 0), (am_ex 2, am_ex 1), (am_ex 1, am_ex 3), (am_ex 4, am_ex 3), (am_ex 4, am_ex 1), (am_ex 5, am_ex 3), (am_ex 5, am_ex 1), (am_ex 5, am_ex 4)]
def am_Nk (s : State) : Prop := ∀ q ∈ am_nks, va_Nc q.1 q.2 s
theorem am_Nk_moved {s U : State} (h : am_Nk s) (hW : s.WarmedH U.vm) : am_Nk U := fun q hq => va_Nc.moved hW.alike (h q hq)
def am_B5 (xs : Nat → Int32) (Ln : Nat) (D : va_G) (cA : Nat → ClassId) (ad : Nat → Nat) (A : Nat → Prop) (g : am_G) (U : State) : Prop := am_B4 xs Ln D cA ad A g U ∧ am_Nk U
def am_cw3 (a : Nat) (hh : List (Nat × Nat × Nat × Nat)) : List Cond := Cond.codeWith (am_y a) (am_bytes a) (am_maxL a) (am_rt a) hh :: am_WG
def am_hh91 : List (Nat × Nat × Nat × Nat) := [(0, 8, 11, 13), (0, 8, 14, 15), (0, 8, 17, 17)]
def am_hh90 : List (Nat × Nat × Nat × Nat) := [(0, 9, 12, 23), (0, 9, 15, 15), (0, 9, 18, 25), (0, 9, 21, 27)]
theorem am_castx : (List.range 6).all (fun x => decide (Cond.castable (am_ex x) (am_ex x) ∈ lw_tbl)) = true := by decide +kernel
def am_clB2 (q : Nat × Nat) : Bool := decide (Cond.classLink "RebuildDeskLaw" q.1 (am_ex q.2) ∈ lw_tbl)
theorem am_clx : [(13, 0), (15, 1), (17, 2), (23, 3), (25, 4), (27, 5)].all am_clB2 = true := by decide +kernel
theorem am_cl_in {ct x : Nat} (h : (ct, x) ∈ [(13, 0), (15, 1), (17, 2), (23, 3), (25, 4), (27, 5)]) : Cond.classLink "RebuildDeskLaw" ct (am_ex x) ∈ am_WG := by
  have := List.all_eq_true.mp am_clx _ h
  exact List.mem_filter.mpr ⟨of_decide_eq_true this, rfl⟩
theorem am_own9 : am_own 90 = "RebuildDeskLaw" ∧ am_own 91 = "RebuildDeskLaw" := by decide +kernel
theorem am_find_ex {A : Nat → Prop} {s : State} (hXt : am_Xt A s) {x : Nat} (hx : x < 6) : ∃ cX, s.vm.findClass (am_ex x) = some cX ∧ s.vm.assignable cX cX = true := by
  have h1 := of_decide_eq_true (List.all_eq_true.mp am_castx x (List.mem_range.mpr hx))
  obtain ⟨c, t, h2, h3, h4⟩ := Cond.castable_spec (va_Nw.use (A := #[]) rfl (hXt.2.2 _ h1 rfl))
  cases h2.symm.trans h3
  exact ⟨c, h2, h4⟩
theorem am_cls_f {s : State} {args : Array Value} {own : String} {y : ExceptionTableEntry} {pc x z ct : Nat} {cX : ClassId} (hts : ∀ w ∈ am_WG, w.before args s = true) (hN : am_Nk s) (h1 : y.startPc ≤ pc) (h2 : pc < y.endPc) (hct : y.catchType = ct) (h0 : ct ≠ 0) (hown : own = "RebuildDeskLaw") (hw : (ct, z) ∈ [(13, 0), (15, 1), (17, 2), (23, 3), (25, 4), (27, 5)]) (hcX : s.vm.findClass (am_ex x) = some cX) (hq : (am_ex x, am_ex z) ∈ am_nks) : am_cls s args own cX pc false y := by
  obtain ⟨c, t, a1, a2, a3⟩ := hN _ hq
  cases hcX.symm.trans a1
  subst hct
  subst hown
  exact ⟨by simp [covers, h1, h2], h0, am_ex z, t, hts _ (am_cl_in hw), a2, a3⟩
theorem am_cls_t {s : State} {args : Array Value} {own : String} {y : ExceptionTableEntry} {pc x ct : Nat} {cX : ClassId} (hts : ∀ w ∈ am_WG, w.before args s = true) (h1 : y.startPc ≤ pc) (h2 : pc < y.endPc) (hct : y.catchType = ct) (h0 : ct ≠ 0) (hown : own = "RebuildDeskLaw") (hw : (ct, x) ∈ [(13, 0), (15, 1), (17, 2), (23, 3), (25, 4), (27, 5)]) (hcX : s.vm.findClass (am_ex x) = some cX) (has : s.vm.assignable cX cX = true) : am_cls s args own cX pc true y := by
  subst hct
  subst hown
  exact ⟨by simp [covers, h1, h2], h0, am_ex x, cX, hts _ (am_cl_in hw), hcX, has⟩
theorem am_put_away {p : Program} {l : Launch} {e : Env} {R : Room} {s : State} {m : MethodId} {args : Array Value} {below : List Frame} {meth : Method} {c : Code} {cells slots : Nat} {Q : State → Prop} {xs : Nat → Int32} {Ln : Nat} {D : va_G} {cA : Nat → ClassId} {ad : Nat → Nat} {A : Nat → Prop} {mi pc i adr : Nat} {j : Fin 4} {L : am_L} {g : am_G} {t : Nat}
    (hW : am_Wk p R s m args c xs Ln D cA ad A mi) (hdec : decode (am_bytes mi) pc = .ok (.astore_n j, 1)) (hj : (j : Nat) = i) (hi : i < am_maxL mi) (hL : ∀ q ∈ L, q.1 + 2 ≤ i + 1) {H : Heap} {ls : Array Slot} {locs : List Loc} (hR : am_Rel xs Ln s D cA ad A mi L g H ls locs) (hone : ∀ q ∈ L, q.2.category = 1)
    (kk : am_PW p l e R s m args below meth c cells slots Q xs Ln D cA ad A (mi, pc + 1, L, [], g, t)) : W p l e R s m args below meth c H locs cells slots Q (F0 m pc ls [.ref adr]) := by
  obtain ⟨hx, hb, hml, hown, hts, hXX, hF, hLo⟩ := hW
  obtain ⟨hl, hP, hD, hS, hG⟩ := hR
  refine lv_astore_n hx hb hdec hj hl hi rfl (fun ls' hl' => ?_)
  refine kk H ls' locs ⟨am_lsub hl' (fun q hq => ?_), hP, hD, hS, hG⟩
  obtain ⟨q0, h0, rfl⟩ := List.mem_map.mp hq
  refine List.mem_cons_of_mem _ (List.mem_filter.mpr ⟨hq, ?_⟩)
  have h1 := hL q0 h0
  have h2 := hone q0 h0
  simp only [am_cat, h2]
  have h3 : ¬ q0.1 = i := by omega
  simp [h3]
section
variable {l : Launch} {xs : Nat → Int32} {Ln : Nat} {D : va_G} {cA : Nat → ClassId} {ad : Nat → Nat} {A : Nat → Prop}
set_option maxHeartbeats 1000000 in
theorem am_met91 {g g2 : am_G} {t t2 k : Nat} {v : Value} (hlt : l.stackTraces = false) (hG : am_Gx xs Ln g) (hev : am_eval k (91, 0, [(0, .ref 8), (1, .ref 53)], [], g, t) = some (.inl (some v), g2, t2)) :
    Met l (am_y 91) (am_cw3 91 am_hh91) (am_rm4 91) (va_Pc (([.ref 8, .ref 53] : List Value).map (am_cv ad)) (am_B5 xs Ln D cA ad A g)) (am_Qm xs Ln D cA ad A g2 (some v)) 1 6 A := by
  have hkd : am_kd 91 = 3 := by decide +kernel
  have hkd4 : am_kd 12 = 4 := by decide +kernel
  obtain ⟨k0, h0⟩ := am_ev_nx (s1 := (91, 1, [(0, .ref 8), (1, .ref 53)], [.ref 53], g, t)) hev rfl
  obtain ⟨k1, h1⟩ := am_ev_nx (s1 := (91, 2, [(0, .ref 8), (1, .ref 53)], [.int 0, .ref 53], g, t)) h0 rfl
  obtain ⟨k2, h2⟩ := am_ev_nx (s1 := (91, 3, [(0, .ref 8), (1, .ref 53)], [.ref 8, .int 0, .ref 53], g, t)) h1 rfl
  obtain ⟨k9, r1, s1, hcal, hcont, hrest⟩ := am_ev_ca (e0 := (12, 0, am_args 0 [.ref 8], [], g, t)) (rs := (91, 3, [(0, .ref 8), (1, .ref 53)], [.int 0, .ref 53], g, t)) h2 rfl
  have hdecT : ∀ q i len, decode (am_bytes 91) q = .ok (i, len) → decode (am_bytes 91) q = .ok (i, len) := fun _ _ _ h => h
  refine va_MetW (hh := am_hh91) (by decide +kernel) rfl (fun p e s m args0 below meth c s₁ B hml hPc => ?_)
  obtain ⟨rfl, ⟨⟨hX, hP, hD⟩, hXt⟩, hNk⟩ := hPc
  have hts0 := atoms_spec (ws := am_cw3 91 am_hh91) B.pre
  have hts : ∀ w ∈ am_WG, w.before (([.ref 8, .ref 53] : List Value).map (am_cv ad)).toArray s = true := fun w hw => hts0 w (List.mem_cons_of_mem _ hw)
  have hown := findClass_of_methodNamed B.named
  have hWk : am_Wk p (am_rm4 91) s m (([.ref 8, .ref 53] : List Value).map (am_cv ad)).toArray c xs Ln D cA ad A 91 := ⟨B.exec, B.bytes, hml, hown, hts, hX, Nat.le_refl _, Nat.le_refl _⟩
  have hret := B.returns
  have hlocks := B.notSynchronized
  have hcs0 : (0 : Nat) ≤ (am_rm4 91).cells ∧ (0 : Nat) ≤ (am_rm4 91).slots := ⟨Nat.zero_le _, Nat.zero_le _⟩
  have hcs1 : (1 : Nat) ≤ (am_rm4 91).cells ∧ (6 : Nat) ≤ (am_rm4 91).slots := ⟨Nat.le_refl _, Nat.le_refl _⟩
  show W p l e (am_rm4 91) s m _ below meth c s.heap [] 0 0 _ _
  rw [lg_entry_eq]
  have main : am_PW p l e (am_rm4 91) s m (([.ref 8, .ref 53] : List Value).map (am_cv ad)).toArray below meth c 0 0 (MQ below (am_Qm xs Ln D cA ad A g2 (some v)) (([.ref 8, .ref 53] : List Value).map (am_cv ad)).toArray s 1 6 A) xs Ln D cA ad A (91, 3, [(0, .ref 8), (1, .ref 53)], [.ref 8, .int 0, .ref 53], g, t) := by
    intro H ls locs hR
    obtain ⟨len, hdec, hok⟩ := am_code_dec (mi := 91) (pc := 3) rfl
    obtain ⟨o1, g1, t1⟩ := r1
    rcases o1 with vo | x
    · cases vo with
      | none =>
        cases Option.some.inj hcont
        obtain ⟨k10, h10⟩ := am_ev_nx hrest rfl
        exact (am_ev_no h10 rfl).elim
      | some v1 =>
        cases Option.some.inj hcont
        cases v1 with
        | int z =>
          obtain ⟨k10, h10⟩ := am_ev_nx hrest rfl
          obtain ⟨hck, k11, h11⟩ := am_ev_ck h10 rfl
          obtain ⟨k12, h12⟩ := am_ev_nx h11 rfl
          obtain ⟨k13, h13⟩ := am_ev_nx h12 rfl
          have hfin := am_ev_en h13 rfl
          simp only [Prod.mk.injEq, Sum.inl.injEq, Option.some.injEq] at hfin
          obtain ⟨rfl, rfl, rfl⟩ := hfin
          refine am_call4 (as := []) (r0 := [.int 0, .ref 53]) (k := 8) (vo := some (.int z)) (g1 := g1) hWk hcs0 hkd hdec hok rfl rfl (by decide) hR (am_met4 (as := .ref 8 :: []) hkd4 (by show 1 ≤ am_maxL 12; decide +kernel) hG hcal) (fun H1 locs1 hR1 => ?_)
          refine am_PW_wide (Nat.zero_le 1) (Nat.zero_le 6) ?_ H1 ls locs1 hR1 (st := (91, 6, [(0, .ref 8), (1, .ref 53)], .int z :: [.int 0, .ref 53], g1, t1))
          refine am_PW_st hWk hcs1 rfl rfl ?_
          refine am_PW_st hWk hcs1 rfl rfl ⟨hck, ?_⟩
          refine am_PW_st hWk hcs1 rfl rfl ?_
          exact am_PW_tail (z := 0) hWk hcs1 hret hlocks rfl rfl rfl
        | _ => exact (am_ev_no hrest rfl).elim
    · have htab : c.exceptionTable.toList.map (fun h => (h.startPc, h.endPc, h.handlerPc, h.catchType)) = am_hh91 := by
        obtain ⟨m', meth', c', q1, q2, q3, -, -, q6, -⟩ := Cond.codeWith_spec (hts0 _ List.mem_cons_self)
        cases B.named.symm.trans q1
        cases B.method.symm.trans q2
        have hc0 : meth.code = some c := (Stand.of_body B).code
        cases hc0.symm.trans q3
        exact q6
      obtain ⟨-, hl1, -, hl3, hl4, hl5, -, TT, NN, hcl⟩ := am_ok4 hkd hok
      have hrec := va_recv hX.1 hR.2.1 (q := (am_own 12, TT, NN)) (by rw [← am_nth_get]; exact hcl) (am_ob_get (k := 8) rfl).2
      have thrown : ∀ (x : Nat) (pre rest : List ExceptionTableEntry) (xe : ExceptionTableEntry) (z : Nat) (j : Fin 4), x < 6 → am_eval k9 (12, 0, am_args 0 [.ref 8], [], g, t) = some (.inr x, g1, t1) → c.exceptionTable.toList = pre ++ xe :: rest → (∀ cX, s.vm.findClass (am_ex x) = some cX → ∀ y ∈ pre, am_cls s (([.ref 8, .ref 53] : List Value).map (am_cv ad)).toArray (am_own 91) cX 3 false y) → (∀ cX, s.vm.findClass (am_ex x) = some cX → s.vm.assignable cX cX = true → am_cls s (([.ref 8, .ref 53] : List Value).map (am_cv ad)).toArray (am_own 91) cX 3 true xe) →
          decode (am_bytes 91) xe.handlerPc = .ok (.astore_n j, 1) → (j : Nat) = 2 → v = .int (Int32.ofNat z) → g2 = g1 → am_isPl 91 (xe.handlerPc + 1) = true → am_step (91, xe.handlerPc + 1, [(0, .ref 8), (1, .ref 53)], [], g1, t1) = some (.inl (91, xe.handlerPc + 1 + 1, [(0, .ref 8), (1, .ref 53)], [.int (Int32.ofNat z)], g1, t1)) → am_step (91, xe.handlerPc + 1 + 1, [(0, .ref 8), (1, .ref 53)], [.int (Int32.ofNat z)], g1, t1) = some (.inr (.inr (.inr (.inl (.inl (some (.int (Int32.ofNat z))), g1, t1 + 1))))) →
          W p l e (am_rm4 91) s m (([.ref 8, .ref 53] : List Value).map (am_cv ad)).toArray below meth c H locs 0 0 (MQ below (am_Qm xs Ln D cA ad A g2 (some v)) (([.ref 8, .ref 53] : List Value).map (am_cv ad)).toArray s 1 6 A) (F0 m 3 ls (([.ref 8, .int 0, .ref 53] : List Value).map (am_cv ad))) := by
        intro x pre rest xe z j hx6 hcal2 e1 e2 e3 e4 e5 e6 e7 e8 e9 e10
        subst e6
        subst e7
        obtain ⟨cX, hcX, has⟩ := am_find_ex hXt hx6
        have hdec3 : decode (am_bytes 91) 3 = .ok (.invokevirtual 7, 3) := by rw [hdec, (am_ok4 hkd hok).1]
        exact am_callT (C := "") (as := []) (r0 := [.int 0, .ref 53]) (k := 8) (x := x) (g1 := g2) (d := 0) hWk hXt hcs1 hdec3 (hts _ (am_word_in hl1)) (am_okM_4 hkd4).1 hkd4 hl3 hl4 hl5 rfl rfl (by decide) hrec hR (am_metT (as := .ref 8 :: []) hlt hkd4 (by show 1 ≤ am_maxL 12; decide +kernel) hG hcal2) e1 cX hcX (e2 cX hcX) (e3 cX hcX has)
          (fun H1 locs1 adr hR1 => am_put_away hWk e4 e5 (by decide +kernel) (by simp) hR1 (by simp [Value.category]) (am_PW_tail (z := z) hWk hcs1 hret hlocks e8 e9 e10))
      have hlen : c.exceptionTable.toList.length = 3 := by
        have := congrArg List.length htab
        rw [List.length_map] at this
        exact this
      obtain ⟨y0, y1, y2, ht⟩ : ∃ y0 y1 y2, c.exceptionTable.toList = [y0, y1, y2] := by
        match hq : c.exceptionTable.toList, hlen with
        | [y0, y1, y2], _ => exact ⟨y0, y1, y2, rfl⟩
      rw [ht] at htab
      simp only [am_hh91, List.map_cons, List.map_nil, List.cons.injEq, Prod.mk.injEq, and_true] at htab
      obtain ⟨⟨s0, e0, p0, c0⟩, ⟨s1, e1, p1, c1⟩, ⟨s2, e2, p2, c2⟩⟩ := htab
      have hx : x = 0 ∨ x = 1 ∨ x = 2 := by
        dsimp only [am_cont] at hcont
        by_cases z0 : x = 0 ∨ x = 1 ∨ x = 2
        · exact z0
        · exfalso
          have : am_catch am_hands 91 3 x = none := by
            have hb : ∀ y, x ≠ y → Nat.beq y x = false := fun y hy => by
              cases hbb : Nat.beq y x with
              | false => rfl
              | true => exact absurd (Nat.eq_of_beq_eq_true hbb).symm hy
            show (bif Nat.beq 0 x then some 12 else bif Nat.beq 1 x then some 15 else bif Nat.beq 2 x then some 18 else none) = none
            rw [hb 0 (by omega), hb 1 (by omega), hb 2 (by omega)]
            rfl
          rw [this] at hcont
          cases hcont
      rcases hx with rfl | rfl | rfl
      · cases Option.some.inj hcont
        obtain ⟨k10, h10⟩ := am_ev_nx hrest rfl
        have hfin := am_ev_en h10 rfl
        simp only [Prod.mk.injEq, Sum.inl.injEq, Option.some.injEq] at hfin
        obtain ⟨rfl, rfl, rfl⟩ := hfin
        refine thrown 0 [] [y1, y2] y0 1 2 (by omega) hcal ht ?_ ?_ ?_ rfl rfl rfl ?_ ?_ ?_
        · exact fun cX hcX y hy => by cases hy
        · exact fun cX hcX has => am_cls_t hts (by rw [s0]; omega) (by rw [e0]; omega) c0 (by decide) (am_own9.2) (by decide) hcX has
        · rw [p0]; decide +kernel
        · rw [p0]; rfl
        · rw [p0]; rfl
        · rw [p0]; rfl
      · cases Option.some.inj hcont
        obtain ⟨k10, h10⟩ := am_ev_nx hrest rfl
        have hfin := am_ev_en h10 rfl
        simp only [Prod.mk.injEq, Sum.inl.injEq, Option.some.injEq] at hfin
        obtain ⟨rfl, rfl, rfl⟩ := hfin
        refine thrown 1 [y0] [y2] y1 2 2 (by omega) hcal ht ?_ ?_ ?_ rfl rfl rfl ?_ ?_ ?_
        · intro cX hcX y hy
          simp only [List.mem_cons, List.not_mem_nil, or_false] at hy
          rcases hy with rfl
          · exact am_cls_f (z := 0) hts hNk (by rw [s0]; omega) (by rw [e0]; omega) c0 (by decide) (am_own9.2) (by decide) hcX (by simp [am_nks])
        · exact fun cX hcX has => am_cls_t hts (by rw [s1]; omega) (by rw [e1]; omega) c1 (by decide) (am_own9.2) (by decide) hcX has
        · rw [p1]; decide +kernel
        · rw [p1]; rfl
        · rw [p1]; rfl
        · rw [p1]; rfl
      · cases Option.some.inj hcont
        obtain ⟨k10, h10⟩ := am_ev_nx hrest rfl
        have hfin := am_ev_en h10 rfl
        simp only [Prod.mk.injEq, Sum.inl.injEq, Option.some.injEq] at hfin
        obtain ⟨rfl, rfl, rfl⟩ := hfin
        refine thrown 2 [y0, y1] [] y2 3 2 (by omega) hcal ht ?_ ?_ ?_ rfl rfl rfl ?_ ?_ ?_
        · intro cX hcX y hy
          simp only [List.mem_cons, List.not_mem_nil, or_false] at hy
          rcases hy with rfl | rfl
          · exact am_cls_f (z := 0) hts hNk (by rw [s0]; omega) (by rw [e0]; omega) c0 (by decide) (am_own9.2) (by decide) hcX (by simp [am_nks])
          · exact am_cls_f (z := 1) hts hNk (by rw [s1]; omega) (by rw [e1]; omega) c1 (by decide) (am_own9.2) (by decide) hcX (by simp [am_nks])
        · exact fun cX hcX has => am_cls_t hts (by rw [s2]; omega) (by rw [e2]; omega) c2 (by decide) (am_own9.2) (by decide) hcX has
        · rw [p2]; decide +kernel
        · rw [p2]; rfl
        · rw [p2]; rfl
        · rw [p2]; rfl
  refine am_PW_st hWk hcs0 rfl rfl ?_ s.heap _ [] ⟨?_, hP, hD, ⟨Nat.le_refl _, fun _ _ _ => rfl, fun _ h => by cases h⟩, hG⟩ (pc := 0) (L := [(0, .ref 8), (1, .ref 53)]) (S := []) (t := t)
  · refine am_PW_st hWk hcs0 rfl rfl ?_
    refine am_PW_st hWk hcs0 rfl rfl ?_
    exact main
  · show lv_has _ _ (am_lc ad (am_args 0 ([.ref 8, .ref 53] : List Value)))
    rw [am_args_eq]
    exact lv_entry _ (by rw [am_sl_len]; show 2 ≤ am_maxL 91; decide +kernel)
set_option maxHeartbeats 1000000 in
theorem am_met90 {q : Int32} {g g2 : am_G} {t t2 k : Nat} {v : Value} (hlt : l.stackTraces = false) (hG : am_Gx xs Ln g) (hev : am_eval k (90, 0, [(0, .ref 8), (1, .int q), (2, .ref 53)], [], g, t) = some (.inl (some v), g2, t2)) :
    Met l (am_y 90) (am_cw3 90 am_hh90) (am_rm4 90) (va_Pc (([.ref 8, .int q, .ref 53] : List Value).map (am_cv ad)) (am_B5 xs Ln D cA ad A g)) (am_Qm xs Ln D cA ad A g2 (some v)) 1 6 A := by
  have hkd : am_kd 90 = 3 := by decide +kernel
  have hkd4 : am_kd 10 = 4 := by decide +kernel
  obtain ⟨k0, h0⟩ := am_ev_nx (s1 := (90, 1, [(0, .ref 8), (1, .int q), (2, .ref 53)], [.ref 53], g, t)) hev rfl
  obtain ⟨k1, h1⟩ := am_ev_nx (s1 := (90, 2, [(0, .ref 8), (1, .int q), (2, .ref 53)], [.int 0, .ref 53], g, t)) h0 rfl
  obtain ⟨k2, h2⟩ := am_ev_nx (s1 := (90, 3, [(0, .ref 8), (1, .int q), (2, .ref 53)], [.ref 8, .int 0, .ref 53], g, t)) h1 rfl
  obtain ⟨k3, h3⟩ := am_ev_nx (s1 := (90, 4, [(0, .ref 8), (1, .int q), (2, .ref 53)], [.int q, .ref 8, .int 0, .ref 53], g, t)) h2 rfl
  obtain ⟨k9, r1, s1, hcal, hcont, hrest⟩ := am_ev_ca (e0 := (10, 0, am_args 0 [.ref 8, .int q], [], g, t)) (rs := (90, 4, [(0, .ref 8), (1, .int q), (2, .ref 53)], [.int 0, .ref 53], g, t)) h3 rfl
  have hdecT : ∀ q i len, decode (am_bytes 90) q = .ok (i, len) → decode (am_bytes 90) q = .ok (i, len) := fun _ _ _ h => h
  refine va_MetW (hh := am_hh90) (by decide +kernel) rfl (fun p e s m args0 below meth c s₁ B hml hPc => ?_)
  obtain ⟨rfl, ⟨⟨hX, hP, hD⟩, hXt⟩, hNk⟩ := hPc
  have hts0 := atoms_spec (ws := am_cw3 90 am_hh90) B.pre
  have hts : ∀ w ∈ am_WG, w.before (([.ref 8, .int q, .ref 53] : List Value).map (am_cv ad)).toArray s = true := fun w hw => hts0 w (List.mem_cons_of_mem _ hw)
  have hown := findClass_of_methodNamed B.named
  have hWk : am_Wk p (am_rm4 90) s m (([.ref 8, .int q, .ref 53] : List Value).map (am_cv ad)).toArray c xs Ln D cA ad A 90 := ⟨B.exec, B.bytes, hml, hown, hts, hX, Nat.le_refl _, Nat.le_refl _⟩
  have hret := B.returns
  have hlocks := B.notSynchronized
  have hcs0 : (0 : Nat) ≤ (am_rm4 90).cells ∧ (0 : Nat) ≤ (am_rm4 90).slots := ⟨Nat.zero_le _, Nat.zero_le _⟩
  have hcs1 : (1 : Nat) ≤ (am_rm4 90).cells ∧ (6 : Nat) ≤ (am_rm4 90).slots := ⟨Nat.le_refl _, Nat.le_refl _⟩
  show W p l e (am_rm4 90) s m _ below meth c s.heap [] 0 0 _ _
  rw [lg_entry_eq]
  have main : am_PW p l e (am_rm4 90) s m (([.ref 8, .int q, .ref 53] : List Value).map (am_cv ad)).toArray below meth c 0 0 (MQ below (am_Qm xs Ln D cA ad A g2 (some v)) (([.ref 8, .int q, .ref 53] : List Value).map (am_cv ad)).toArray s 1 6 A) xs Ln D cA ad A (90, 4, [(0, .ref 8), (1, .int q), (2, .ref 53)], [.int q, .ref 8, .int 0, .ref 53], g, t) := by
    intro H ls locs hR
    obtain ⟨len, hdec, hok⟩ := am_code_dec (mi := 90) (pc := 4) rfl
    obtain ⟨o1, g1, t1⟩ := r1
    rcases o1 with vo | x
    · cases vo with
      | none =>
        cases Option.some.inj hcont
        obtain ⟨k10, h10⟩ := am_ev_nx hrest rfl
        exact (am_ev_no h10 rfl).elim
      | some v1 =>
        cases Option.some.inj hcont
        cases v1 with
        | int z =>
          obtain ⟨k10, h10⟩ := am_ev_nx hrest rfl
          obtain ⟨hck, k11, h11⟩ := am_ev_ck h10 rfl
          obtain ⟨k12, h12⟩ := am_ev_nx h11 rfl
          obtain ⟨k13, h13⟩ := am_ev_nx h12 rfl
          have hfin := am_ev_en h13 rfl
          simp only [Prod.mk.injEq, Sum.inl.injEq, Option.some.injEq] at hfin
          obtain ⟨rfl, rfl, rfl⟩ := hfin
          refine am_call4 (as := [.int q]) (r0 := [.int 0, .ref 53]) (k := 8) (vo := some (.int z)) (g1 := g1) hWk hcs0 hkd hdec hok rfl rfl (by decide) hR (am_met4 (as := .ref 8 :: [.int q]) hkd4 (by show 2 ≤ am_maxL 10; decide +kernel) hG hcal) (fun H1 locs1 hR1 => ?_)
          refine am_PW_wide (Nat.zero_le 1) (Nat.zero_le 6) ?_ H1 ls locs1 hR1 (st := (90, 7, [(0, .ref 8), (1, .int q), (2, .ref 53)], .int z :: [.int 0, .ref 53], g1, t1))
          refine am_PW_st hWk hcs1 rfl rfl ?_
          refine am_PW_st hWk hcs1 rfl rfl ⟨hck, ?_⟩
          refine am_PW_st hWk hcs1 rfl rfl ?_
          exact am_PW_tail (z := 0) hWk hcs1 hret hlocks rfl rfl rfl
        | _ => exact (am_ev_no hrest rfl).elim
    · have htab : c.exceptionTable.toList.map (fun h => (h.startPc, h.endPc, h.handlerPc, h.catchType)) = am_hh90 := by
        obtain ⟨m', meth', c', q1, q2, q3, -, -, q6, -⟩ := Cond.codeWith_spec (hts0 _ List.mem_cons_self)
        cases B.named.symm.trans q1
        cases B.method.symm.trans q2
        have hc0 : meth.code = some c := (Stand.of_body B).code
        cases hc0.symm.trans q3
        exact q6
      obtain ⟨-, hl1, -, hl3, hl4, hl5, -, TT, NN, hcl⟩ := am_ok4 hkd hok
      have hrec := va_recv hX.1 hR.2.1 (q := (am_own 10, TT, NN)) (by rw [← am_nth_get]; exact hcl) (am_ob_get (k := 8) rfl).2
      have thrown : ∀ (x : Nat) (pre rest : List ExceptionTableEntry) (xe : ExceptionTableEntry) (z : Nat) (j : Fin 4), x < 6 → am_eval k9 (10, 0, am_args 0 [.ref 8, .int q], [], g, t) = some (.inr x, g1, t1) → c.exceptionTable.toList = pre ++ xe :: rest → (∀ cX, s.vm.findClass (am_ex x) = some cX → ∀ y ∈ pre, am_cls s (([.ref 8, .int q, .ref 53] : List Value).map (am_cv ad)).toArray (am_own 90) cX 4 false y) → (∀ cX, s.vm.findClass (am_ex x) = some cX → s.vm.assignable cX cX = true → am_cls s (([.ref 8, .int q, .ref 53] : List Value).map (am_cv ad)).toArray (am_own 90) cX 4 true xe) →
          decode (am_bytes 90) xe.handlerPc = .ok (.astore_n j, 1) → (j : Nat) = 3 → v = .int (Int32.ofNat z) → g2 = g1 → am_isPl 90 (xe.handlerPc + 1) = true → am_step (90, xe.handlerPc + 1, [(0, .ref 8), (1, .int q), (2, .ref 53)], [], g1, t1) = some (.inl (90, xe.handlerPc + 1 + 1, [(0, .ref 8), (1, .int q), (2, .ref 53)], [.int (Int32.ofNat z)], g1, t1)) → am_step (90, xe.handlerPc + 1 + 1, [(0, .ref 8), (1, .int q), (2, .ref 53)], [.int (Int32.ofNat z)], g1, t1) = some (.inr (.inr (.inr (.inl (.inl (some (.int (Int32.ofNat z))), g1, t1 + 1))))) →
          W p l e (am_rm4 90) s m (([.ref 8, .int q, .ref 53] : List Value).map (am_cv ad)).toArray below meth c H locs 0 0 (MQ below (am_Qm xs Ln D cA ad A g2 (some v)) (([.ref 8, .int q, .ref 53] : List Value).map (am_cv ad)).toArray s 1 6 A) (F0 m 4 ls (([.int q, .ref 8, .int 0, .ref 53] : List Value).map (am_cv ad))) := by
        intro x pre rest xe z j hx6 hcal2 e1 e2 e3 e4 e5 e6 e7 e8 e9 e10
        subst e6
        subst e7
        obtain ⟨cX, hcX, has⟩ := am_find_ex hXt hx6
        have hdec3 : decode (am_bytes 90) 4 = .ok (.invokevirtual 19, 3) := by rw [hdec, (am_ok4 hkd hok).1]
        exact am_callT (C := "") (as := [.int q]) (r0 := [.int 0, .ref 53]) (k := 8) (x := x) (g1 := g2) (d := 1) hWk hXt hcs1 hdec3 (hts _ (am_word_in hl1)) (am_okM_4 hkd4).1 hkd4 hl3 hl4 hl5 rfl rfl (by decide) hrec hR (am_metT (as := .ref 8 :: [.int q]) hlt hkd4 (by show 2 ≤ am_maxL 10; decide +kernel) hG hcal2) e1 cX hcX (e2 cX hcX) (e3 cX hcX has)
          (fun H1 locs1 adr hR1 => am_put_away hWk e4 e5 (by decide +kernel) (by simp) hR1 (by simp [Value.category]) (am_PW_tail (z := z) hWk hcs1 hret hlocks e8 e9 e10))
      have hlen : c.exceptionTable.toList.length = 4 := by
        have := congrArg List.length htab
        rw [List.length_map] at this
        exact this
      obtain ⟨y0, y1, y2, y3, ht⟩ : ∃ y0 y1 y2 y3, c.exceptionTable.toList = [y0, y1, y2, y3] := by
        match hq : c.exceptionTable.toList, hlen with
        | [y0, y1, y2, y3], _ => exact ⟨y0, y1, y2, y3, rfl⟩
      rw [ht] at htab
      simp only [am_hh90, List.map_cons, List.map_nil, List.cons.injEq, Prod.mk.injEq, and_true] at htab
      obtain ⟨⟨s0, e0, p0, c0⟩, ⟨s1, e1, p1, c1⟩, ⟨s2, e2, p2, c2⟩, ⟨s3, e3, p3, c3⟩⟩ := htab
      have hx : x = 3 ∨ x = 1 ∨ x = 4 ∨ x = 5 := by
        dsimp only [am_cont] at hcont
        by_cases z0 : x = 3 ∨ x = 1 ∨ x = 4 ∨ x = 5
        · exact z0
        · exfalso
          have : am_catch am_hands 90 4 x = none := by
            have hb : ∀ y, x ≠ y → Nat.beq y x = false := fun y hy => by
              cases hbb : Nat.beq y x with
              | false => rfl
              | true => exact absurd (Nat.eq_of_beq_eq_true hbb).symm hy
            show (bif Nat.beq 3 x then some 13 else bif Nat.beq 1 x then some 16 else bif Nat.beq 4 x then some 19 else bif Nat.beq 5 x then some 22 else none) = none
            rw [hb 3 (by omega), hb 1 (by omega), hb 4 (by omega), hb 5 (by omega)]
            rfl
          rw [this] at hcont
          cases hcont
      rcases hx with rfl | rfl | rfl | rfl
      · cases Option.some.inj hcont
        obtain ⟨k10, h10⟩ := am_ev_nx hrest rfl
        have hfin := am_ev_en h10 rfl
        simp only [Prod.mk.injEq, Sum.inl.injEq, Option.some.injEq] at hfin
        obtain ⟨rfl, rfl, rfl⟩ := hfin
        refine thrown 3 [] [y1, y2, y3] y0 1 3 (by omega) hcal ht ?_ ?_ ?_ rfl rfl rfl ?_ ?_ ?_
        · exact fun cX hcX y hy => by cases hy
        · exact fun cX hcX has => am_cls_t hts (by rw [s0]; omega) (by rw [e0]; omega) c0 (by decide) (am_own9.1) (by decide) hcX has
        · rw [p0]; decide +kernel
        · rw [p0]; rfl
        · rw [p0]; rfl
        · rw [p0]; rfl
      · cases Option.some.inj hcont
        obtain ⟨k10, h10⟩ := am_ev_nx hrest rfl
        have hfin := am_ev_en h10 rfl
        simp only [Prod.mk.injEq, Sum.inl.injEq, Option.some.injEq] at hfin
        obtain ⟨rfl, rfl, rfl⟩ := hfin
        refine thrown 1 [y0] [y2, y3] y1 2 3 (by omega) hcal ht ?_ ?_ ?_ rfl rfl rfl ?_ ?_ ?_
        · intro cX hcX y hy
          simp only [List.mem_cons, List.not_mem_nil, or_false] at hy
          rcases hy with rfl
          · exact am_cls_f (z := 3) hts hNk (by rw [s0]; omega) (by rw [e0]; omega) c0 (by decide) (am_own9.1) (by decide) hcX (by simp [am_nks])
        · exact fun cX hcX has => am_cls_t hts (by rw [s1]; omega) (by rw [e1]; omega) c1 (by decide) (am_own9.1) (by decide) hcX has
        · rw [p1]; decide +kernel
        · rw [p1]; rfl
        · rw [p1]; rfl
        · rw [p1]; rfl
      · cases Option.some.inj hcont
        obtain ⟨k10, h10⟩ := am_ev_nx hrest rfl
        have hfin := am_ev_en h10 rfl
        simp only [Prod.mk.injEq, Sum.inl.injEq, Option.some.injEq] at hfin
        obtain ⟨rfl, rfl, rfl⟩ := hfin
        refine thrown 4 [y0, y1] [y3] y2 3 3 (by omega) hcal ht ?_ ?_ ?_ rfl rfl rfl ?_ ?_ ?_
        · intro cX hcX y hy
          simp only [List.mem_cons, List.not_mem_nil, or_false] at hy
          rcases hy with rfl | rfl
          · exact am_cls_f (z := 3) hts hNk (by rw [s0]; omega) (by rw [e0]; omega) c0 (by decide) (am_own9.1) (by decide) hcX (by simp [am_nks])
          · exact am_cls_f (z := 1) hts hNk (by rw [s1]; omega) (by rw [e1]; omega) c1 (by decide) (am_own9.1) (by decide) hcX (by simp [am_nks])
        · exact fun cX hcX has => am_cls_t hts (by rw [s2]; omega) (by rw [e2]; omega) c2 (by decide) (am_own9.1) (by decide) hcX has
        · rw [p2]; decide +kernel
        · rw [p2]; rfl
        · rw [p2]; rfl
        · rw [p2]; rfl
      · cases Option.some.inj hcont
        obtain ⟨k10, h10⟩ := am_ev_nx hrest rfl
        have hfin := am_ev_en h10 rfl
        simp only [Prod.mk.injEq, Sum.inl.injEq, Option.some.injEq] at hfin
        obtain ⟨rfl, rfl, rfl⟩ := hfin
        refine thrown 5 [y0, y1, y2] [] y3 4 3 (by omega) hcal ht ?_ ?_ ?_ rfl rfl rfl ?_ ?_ ?_
        · intro cX hcX y hy
          simp only [List.mem_cons, List.not_mem_nil, or_false] at hy
          rcases hy with rfl | rfl | rfl
          · exact am_cls_f (z := 3) hts hNk (by rw [s0]; omega) (by rw [e0]; omega) c0 (by decide) (am_own9.1) (by decide) hcX (by simp [am_nks])
          · exact am_cls_f (z := 1) hts hNk (by rw [s1]; omega) (by rw [e1]; omega) c1 (by decide) (am_own9.1) (by decide) hcX (by simp [am_nks])
          · exact am_cls_f (z := 4) hts hNk (by rw [s2]; omega) (by rw [e2]; omega) c2 (by decide) (am_own9.1) (by decide) hcX (by simp [am_nks])
        · exact fun cX hcX has => am_cls_t hts (by rw [s3]; omega) (by rw [e3]; omega) c3 (by decide) (am_own9.1) (by decide) hcX has
        · rw [p3]; decide +kernel
        · rw [p3]; rfl
        · rw [p3]; rfl
        · rw [p3]; rfl
  refine am_PW_st hWk hcs0 rfl rfl ?_ s.heap _ [] ⟨?_, hP, hD, ⟨Nat.le_refl _, fun _ _ _ => rfl, fun _ h => by cases h⟩, hG⟩ (pc := 0) (L := [(0, .ref 8), (1, .int q), (2, .ref 53)]) (S := []) (t := t)
  · refine am_PW_st hWk hcs0 rfl rfl ?_
    refine am_PW_st hWk hcs0 rfl rfl ?_
    refine am_PW_st hWk hcs0 rfl rfl ?_
    exact main
  · show lv_has _ _ (am_lc ad (am_args 0 ([.ref 8, .int q, .ref 53] : List Value)))
    rw [am_args_eq]
    exact lv_entry _ (by rw [am_sl_len]; show 3 ≤ am_maxL 90; decide +kernel)
end
