def am_wk (mi : Nat) : Bool := am_low mi || Nat.beq (am_kd mi) 4
theorem am_wk_ne {mi : Nat} (h : am_wk mi = true) : am_kd mi ≠ 3 ∧ am_kd mi ≠ 0 := by
  unfold am_wk am_low at h
  simp only [Bool.or_eq_true] at h
  have h2 : am_kd mi = 1 ∨ am_kd mi = 2 ∨ am_kd mi = 4 := by
    rcases h with (h | h) | h
    · exact Or.inl (Nat.eq_of_beq_eq_true h)
    · exact Or.inr (Or.inl (Nat.eq_of_beq_eq_true h))
    · exact Or.inr (Or.inr (Nat.eq_of_beq_eq_true h))
  omega
theorem am_good_cw {a : Nat} (m1 : am_word (am_wC a) (.code (am_y a) (am_bytes a) (am_maxL a) (am_rt a)) = true) : GoodIn am_WG (am_cw a) := am_good (fun w hw => (List.mem_cons.mp hw).elim (fun z => by rw [z]; exact am_word_in m1) (fun z => z))
theorem am_np {i : Instr} {nxt : Nat} {v : Value} {a b d mi pc : Nat} {L : am_L} {S : List Value} {g : am_G} {t : Nat} {act : am_A} (hp : ¬ am_plain i b = true) (h : am_do i nxt v a b d mi pc L S g t = some act) :
    (∃ r, act = .inr (.inr (.inr (.inl r)))) ∨ (∃ bb r, act = .inr (.inr (.inr (.inr (.inl (bb, r)))))) ∨
    (∃ n ml as k r0 fs, i = .invokevirtual n ∧ v = .ref ml ∧ am_pop d S [] = some (as, .ref k :: r0) ∧ am_ob k = some (.inr (b, fs)) ∧ am_wt r0 ≤ 8 ∧ am_wt (.ref k :: as) ≤ ml ∧ act = .inr (.inr (.inr (.inr (.inr (.inl ((a, 0, am_args 0 (.ref k :: as), [], g, t), (mi, pc, L, r0, g, t)))))))) ∨
    (∃ n ml as r0, i = .invokestatic n ∧ Nat.beq b 1 = false ∧ Nat.beq b 2 = false ∧ v = .ref ml ∧ am_pop d S [] = some (as, r0) ∧ am_wt r0 ≤ 8 ∧ am_wt as ≤ ml ∧ act = .inr (.inr (.inr (.inr (.inr (.inl ((a, 0, am_args 0 as, [], g, t), (mi, pc, L, r0, g, t)))))))) := by
  cases i with
  | invokevirtual n =>
    obtain ⟨ml, as, k, r, fs, rfl, h1, h2, h3⟩ := am_iv_inv h
    obtain ⟨h4, h5, h6⟩ := am_call_inv h3
    exact Or.inr (Or.inr (Or.inl ⟨n, ml, as, k, r, fs, rfl, rfl, h1, h2, h4, h5, h6⟩))
  | invokestatic n =>
    have hp : ¬ (Nat.beq b 1 || Nat.beq b 2) = true := hp
    rw [Bool.not_eq_true, Bool.or_eq_false_iff] at hp
    change (bif Nat.beq b 1 then am_mx mi nxt L S g t (fun x y => if x < y then y else x) else bif Nat.beq b 2 then am_mx mi nxt L S g t (fun x y => if y < x then y else x) else am_is mi pc L S g t v a d) = some act at h
    rw [hp.1, hp.2] at h
    obtain ⟨ml, as, r, rfl, h1, h3⟩ := am_is_inv h
    obtain ⟨h4, h5, h6⟩ := am_call_inv h3
    exact Or.inr (Or.inr (Or.inr ⟨n, ml, as, r, rfl, hp.1, hp.2, rfl, h1, h4, h5, h6⟩))
  | ireturn =>
    change am_irt S g t d = some act at h
    unfold am_irt at h
    split at h
    · split at h
      · exact Or.inl ⟨_, (Option.some.inj h).symm⟩
      · exact Or.inr (Or.inl ⟨_, _, (Option.some.inj h).symm⟩)
      · exact Or.inr (Or.inl ⟨_, _, (Option.some.inj h).symm⟩)
      · exact Or.inl ⟨_, (Option.some.inj h).symm⟩
    · cases h
  | areturn =>
    change am_art S g t = some act at h
    unfold am_art at h
    split at h
    · exact Or.inr (Or.inl ⟨_, _, (Option.some.inj h).symm⟩)
    · cases h
  | return_ =>
    change am_vrt S g t = some act at h
    unfold am_vrt at h
    split at h
    · exact Or.inl ⟨_, (Option.some.inj h).symm⟩
    · cases h
  | new n =>
    change am_thr S g t a = some act at h
    unfold am_thr at h
    split at h
    · exact Or.inl ⟨_, (Option.some.inj h).symm⟩
    · cases h
  | _ => exact absurd rfl hp
section
variable {l : Launch} {xs : Nat → Int32} {Ln : Nat} {D : va_G} {cA : Nat → ClassId} {ad : Nat → Nat} {A : Nat → Prop}
theorem am_met {a : Nat} {as : List Value} {g g1 : am_G} {t t1 : Nat} {vo : Option Value} (hlow : am_low a = true) (hw : am_wt as ≤ am_maxL a) (hG : am_Gx xs Ln g)
    (walk : ∀ (p : Program) (e : Env) (R : Room) (s : State) (m : MethodId) (args : Array Value) (below : List Frame) (meth : Method) (c : Code) (cells slots : Nat) (Q : State → Prop), am_Wk p R s m args c xs Ln D cA ad A a → cells ≤ R.cells ∧ slots ≤ R.slots →
      (∀ (st' : am_S) (act : am_A), st'.1 = a → am_step st' = some act → am_fin act (.inl vo, g1, t1) → am_PW p l e R s m args below meth c cells slots Q xs Ln D cA ad A st') → am_PW p l e R s m args below meth c cells slots Q xs Ln D cA ad A (a, 0, am_args 0 as, [], g, t)) :
    Met l (am_y a) (am_cw a) (am_rm a) (va_Pc (as.map (am_cv ad)) (am_B xs Ln D cA ad A g)) (am_Qm xs Ln D cA ad A g1 vo) 0 0 A := by
  have hM := am_okM_of hlow
  unfold am_okM at hM
  simp only [Bool.and_eq_true, decide_eq_true_eq] at hM
  obtain ⟨⟨⟨⟨⟨h1, h2⟩, h3⟩, h4⟩, h5⟩, h6⟩ := hM
  refine Met.ofW h3 rfl (fun p e s m args below meth c s₁ B hml hPc => ?_)
  obtain ⟨rfl, hX, hP, hD⟩ := hPc
  have hts := atoms_spec (ws := am_cw a) B.pre
  have hown := findClass_of_methodNamed B.named
  have hWk : am_Wk p (headSpec (am_cw a) (am_rm a)).room s m (as.map (am_cv ad)).toArray c xs Ln D cA ad A a := ⟨B.exec, B.bytes, hml, hown, fun w hw => hts w (List.mem_cons_of_mem _ hw), hX, Nat.le_refl _, Nat.le_refl _⟩
  rw [lg_entry_eq]
  refine walk p e _ s m _ below meth c 0 0 _ hWk ⟨Nat.zero_le _, Nat.zero_le _⟩ (fun st' act e1 e2 e3 => ?_) s.heap _ [] ⟨?_, hP, hD, ⟨Nat.le_refl _, fun _ _ _ => rfl, fun _ h => by cases h⟩, hG⟩
  · obtain ⟨mi', pc', L', S', g', t'⟩ := st'
    cases e1
    exact am_fin_sound hWk B.returns B.notSynchronized e2 e3
  · show lv_has _ _ (am_lc ad (am_args 0 as))
    rw [am_args_eq]
    exact lv_entry _ (by rw [am_sl_len]; exact hw)
theorem am_blind {av : List Value} {g : am_G} : FrameBlind (va_Pc av (am_B xs Ln D cA ad A g)) := fun a U gg mk q => ⟨q.1, am_X_moved (s := U) (U := U.calling gg mk a) q.2.1 (State.WarmedH.refl U) (Nat.le_refl _) (fun _ _ _ => rfl), q.2.2⟩
theorem am_pre_any {s : State} {H : Heap} {locs : List Loc} {g : am_G} {av : List Value} (hX : am_X xs Ln D cA ad A s) (hS : va_S A s.heap H locs) (hP : va_P D am_cl (am_ws ad cA g) H) (hD : va_D A (am_ws ad cA g)) : ∀ U : State, U.heap = H → s.WarmedH U.vm → va_Pc av (am_B xs Ln D cA ad A g) av.toArray U :=
  fun U hU hWm => ⟨rfl, am_X_moved hX hWm (by rw [hU]; exact hS.1) (fun q h1 h2 => by rw [hU]; exact hS.2.1 q h1 h2), by rw [hU]; exact hP, hD⟩
theorem am_map_app (ad : Nat → Nat) (vo : Option Value) (r : List Value) : (vo.map (am_cv ad)).toList ++ r.map (am_cv ad) = (vo.toList ++ r).map (am_cv ad) := by cases vo <;> rfl
theorem am_callv {p : Program} {e : Env} {R : Room} {s : State} {m : MethodId} {args : Array Value} {below : List Frame} {meth : Method} {c : Code} {cells slots : Nat} {Q : State → Prop} {mi pc nxt len a b d w n ml k : Nat} {v : Value} {L' : am_L} {S as r0 : List Value} {fs : List (Option Nat)} {g g1 : am_G} {vo : Option Value} {H : Heap} {ls : Array Slot} {locs : List Loc}
    (hW : am_Wk p R s m args c xs Ln D cA ad A mi) (hcs : cells ≤ R.cells ∧ slots ≤ R.slots) (hdec : decode (am_bytes mi) pc = .ok (.invokevirtual n, len)) (hok : am_okI mi pc (.invokevirtual n) len nxt v a b d w = true) (hk3 : am_kd mi ≠ 3)
    (hv : v = .ref ml) (hpop : am_pop d S [] = some (as, .ref k :: r0)) (ho : am_ob k = some (.inr (b, fs))) (hr8 : am_wt r0 ≤ 8) (hR : am_Rel xs Ln s D cA ad A mi L' g H ls locs)
    (hM : am_low a = true → am_maxL a = ml → Met l (am_y a) (am_cw a) (am_rm a) (va_Pc ((Value.ref k :: as).map (am_cv ad)) (am_B xs Ln D cA ad A g)) (am_Qm xs Ln D cA ad A g1 vo) 0 0 A)
    (kk : ∀ (H1 : Heap) (locs1 : List Loc), am_Rel xs Ln s D cA ad A mi L' g1 H1 ls locs1 → W p l e R s m args below meth c H1 locs1 cells slots Q (F0 m (pc + 3) ls ((vo.toList ++ r0).map (am_cv ad)))) :
    W p l e R s m args below meth c H locs cells slots Q (F0 m pc ls (S.map (am_cv ad))) := by
  obtain ⟨hx, hb, hml, hown, hts, hXX, hF, hLo⟩ := hW
  obtain ⟨hl, hP, hD, hS, hG⟩ := hR
  cases hcl : am_nth am_cl b with
  | none => simp [am_okI, hcl] at hok
  | some q =>
    obtain ⟨C, T, N⟩ := q
    have e3 : Nat.beq (am_kd mi) 3 = false := by
      cases hb : Nat.beq (am_kd mi) 3 with
      | false => rfl
      | true => exact absurd (Nat.eq_of_beq_eq_true hb) hk3
    simp only [am_okI, hcl, e3, am_callok, cond_false, Bool.and_eq_true, decide_eq_true_eq] at hok
    obtain ⟨⟨rfl, rfl⟩, ⟨⟨hl1, ⟨⟨hl2, hl3⟩, hl4⟩, hl5⟩, hl6⟩, hl7⟩ := hok
    have hkd := Nat.eq_of_beq_eq_true hl7
    have hlow : am_low a = true := by unfold am_low; rw [hkd]; rfl
    rw [hv] at hl2
    have hM' := hM hlow (by injection hl2 with z; exact z.symm)
    have hokm := am_okM_of hlow
    unfold am_okM at hokm
    rw [show Nat.beq (am_kd a) 1 = false by rw [hkd]; rfl] at hokm
    simp only [Bool.and_eq_true, decide_eq_true_eq, cond_false] at hokm
    obtain ⟨⟨⟨⟨⟨m1, m2⟩, m3⟩, m4⟩, m5⟩, m6, m7⟩ := hokm
    obtain ⟨ys, y1, y2, y3⟩ := am_pop_spec d S [] as _ hpop
    rw [List.append_nil] at y2
    have hc : am_cl[b]? = some (C, T, N) := by rw [← am_nth_get]; exact hcl
    have hcw : CallW R s args (am_own mi) (am_own a) n (am_y a) (am_bytes a) (am_maxL a) (am_rt a) (am_cw a) (am_rm a) 0 0 d :=
      ⟨callB_of d hts (am_good_cw m1) rfl rfl rfl (hts _ (am_word_in m2)) (hts _ (am_word_in hl1)) ⟨m4, m5, hl3⟩ ⟨by show am_fr a + 1 ≤ R.frames; omega, by show 8 + (am_maxL a + 11) + am_lo a ≤ R.locals; omega⟩, hts _ (am_word_in m6), hts _ (am_word_in m7)⟩
    have hrec := va_recv hXX.1 hP hc (am_ob_get ho).2
    rw [show ((C, T, N) : vw_C).1 = am_own a from hl6] at hrec
    refine am_callr (vv := vo.map (am_cv ad)) (B := am_Bq xs Ln D cA ad A g1) (rest := r0.map (am_cv ad)) (va_runV (As := as.map (am_cv ad)) (b := ad k) (Ts := am_WG) ⟨hx, hb, hml, hown, hts⟩ hM' hcw ⟨am_blind, hrec, am_pre_any hXX hS hP hD⟩ rfl ?_ hl.1 ?_ (lv_room (by rw [am_wt_cat]; exact hr8)) hdec hcs) hS (fun t2 H1 locs1 e1 hB hS1 => ?_)
    · rw [List.length_map, y2, List.length_reverse]; exact y3
    · show S.map (am_cv ad) = (as.map (am_cv ad)).reverse ++ .ref (ad k) :: r0.map (am_cv ad)
      rw [y1, y2, List.map_append, List.map_reverse, List.reverse_reverse]; rfl
    · obtain ⟨q1, q2, q3⟩ := hB
      rw [am_map_app]
      exact kk H1 locs1 ⟨hl, by rw [← e1]; exact q1, q2, hS1, q3⟩
theorem am_calls {p : Program} {e : Env} {R : Room} {s : State} {m : MethodId} {args : Array Value} {below : List Frame} {meth : Method} {c : Code} {cells slots : Nat} {Q : State → Prop} {mi pc nxt len a b d w n ml : Nat} {v : Value} {L' : am_L} {S as r0 : List Value} {g g1 : am_G} {vo : Option Value} {H : Heap} {ls : Array Slot} {locs : List Loc}
    (hW : am_Wk p R s m args c xs Ln D cA ad A mi) (hcs : cells ≤ R.cells ∧ slots ≤ R.slots) (hdec : decode (am_bytes mi) pc = .ok (.invokestatic n, len)) (hok : am_okI mi pc (.invokestatic n) len nxt v a b d w = true) (hk0 : am_kd mi ≠ 0 ∨ am_kd a ≠ 3)
    (hb1 : Nat.beq b 1 = false) (hb2 : Nat.beq b 2 = false) (hv : v = .ref ml) (hpop : am_pop d S [] = some (as, r0)) (hr8 : am_wt r0 ≤ 8) (hR : am_Rel xs Ln s D cA ad A mi L' g H ls locs)
    (hM : am_low a = true → am_maxL a = ml → Met l (am_y a) (am_cw a) (am_rm a) (va_Pc (as.map (am_cv ad)) (am_B xs Ln D cA ad A g)) (am_Qm xs Ln D cA ad A g1 vo) 0 0 A)
    (kk : ∀ (H1 : Heap) (locs1 : List Loc), am_Rel xs Ln s D cA ad A mi L' g1 H1 ls locs1 → W p l e R s m args below meth c H1 locs1 cells slots Q (F0 m (pc + 3) ls ((vo.toList ++ r0).map (am_cv ad)))) :
    W p l e R s m args below meth c H locs cells slots Q (F0 m pc ls (S.map (am_cv ad))) := by
  obtain ⟨hx, hb, hml, hown, hts, hXX, hF, hLo⟩ := hW
  obtain ⟨hl, hP, hD, hS, hG⟩ := hR
  obtain ⟨ys, y1, y2, y3⟩ := am_pop_spec d S [] as _ hpop
  rw [List.append_nil] at y2
  have hlen : (as.map (am_cv ad)).length = d := by rw [List.length_map, y2, List.length_reverse]; exact y3
  have hstk : S.map (am_cv ad) = (as.map (am_cv ad)).reverse ++ r0.map (am_cv ad) := by rw [y1, y2, List.map_append, List.map_reverse, List.reverse_reverse]
  have fin : ∀ (t2 : State) (H1 : Heap) (locs1 : List Loc), t2.heap = H1 → am_Bq xs Ln D cA ad A g1 t2 → va_S A s.heap H1 locs1 → W p l e R s m args below meth c H1 locs1 (cells + 0) (slots + 0) Q (F0 m (pc + 3) ls ((vo.map (am_cv ad)).toList ++ r0.map (am_cv ad))) := by
    intro t2 H1 locs1 e1 hB hS1
    obtain ⟨q1, q2, q3⟩ := hB
    rw [am_map_app]
    exact kk H1 locs1 ⟨hl, by rw [← e1]; exact q1, q2, hS1, q3⟩
  have words : am_kd a = 1 → am_low a = true ∧ am_word (am_wC a) (.code (am_y a) (am_bytes a) (am_maxL a) (am_rt a)) = true ∧ am_word (am_wI a) (.initialized (am_own a)) = true ∧ am_own a ≠ "java/lang/invoke/MethodHandle" ∧ am_own a ≠ "java/lang/invoke/VarHandle" ∧ am_word (am_wK a) (.static (am_y a)) = true := by
    intro hkd
    have hlow : am_low a = true := by unfold am_low; rw [hkd]; rfl
    have hokm := am_okM_of hlow
    unfold am_okM at hokm
    rw [show Nat.beq (am_kd a) 1 = true by rw [hkd]; rfl] at hokm
    simp only [Bool.and_eq_true, decide_eq_true_eq, cond_true] at hokm
    obtain ⟨⟨⟨⟨⟨m1, m2⟩, m3⟩, m4⟩, m5⟩, m6⟩ := hokm
    exact ⟨hlow, m1, m2, m4, m5, m6⟩
  cases hb3 : Nat.beq b 3 with
  | true =>
    simp only [am_okI, hb1, hb2, hb3, am_callok, cond_false, cond_true, Bool.and_eq_true, decide_eq_true_eq] at hok
    obtain ⟨⟨rfl, rfl⟩, ⟨hl1, ⟨⟨hl2, hl3⟩, hl4⟩, hl5⟩, hl7⟩ := hok
    obtain ⟨hlow, m1, m2, m4, m5, m6⟩ := words (Nat.eq_of_beq_eq_true hl7)
    rw [hv] at hl2
    have hM' := hM hlow (by injection hl2 with z; exact z.symm)
    have hcn : va_CN R s args (am_own mi) n (am_y a) "RebuildDesk" (am_bytes a) (am_maxL a) (am_rt a) (am_cw a) (am_rm a) 0 0 d :=
      va_cnB d hts (am_good_cw m1) rfl rfl rfl (hXX.2.2.2.2.2.1 _ _ _ _ (List.mem_of_getElem? hl1)) (hts _ (am_word_in m2)) ⟨m4, m5, hl3⟩ ⟨by show am_fr a + 1 ≤ R.frames; omega, by show 8 + (am_maxL a + 11) + am_lo a ≤ R.locals; omega⟩
    exact am_callr (vv := vo.map (am_cv ad)) (B := am_Bq xs Ln D cA ad A g1) (rest := r0.map (am_cv ad)) (va_runSN (As := as.map (am_cv ad)) (Ts := am_WG) ⟨hx, hb, hml, hown, hts⟩ hM' ⟨hcn, hts _ (am_word_in m6), trivial⟩ ⟨am_blind, am_pre_any hXX hS hP hD⟩ rfl hlen hl.1 hstk (lv_room (by rw [am_wt_cat]; exact hr8)) hdec hcs) hS fin
  | false =>
    simp only [am_okI, hb1, hb2, hb3, am_callok, cond_false, Bool.and_eq_true, Bool.or_eq_true, decide_eq_true_eq] at hok
    obtain ⟨⟨rfl, rfl⟩, ⟨hl1, ⟨⟨hl2, hl3⟩, hl4⟩, hl5⟩, hl7⟩ := hok
    have hkd : am_kd a = 1 := by
      rcases hl7 with z | z
      · exact Nat.eq_of_beq_eq_true z
      · exact absurd (Nat.eq_of_beq_eq_true z.2) (hk0.resolve_left (fun y => y (Nat.eq_of_beq_eq_true z.1)))
    obtain ⟨hlow, m1, m2, m4, m5, m6⟩ := words hkd
    rw [hv] at hl2
    have hM' := hM hlow (by injection hl2 with z; exact z.symm)
    have hcb : CallB R s args (am_own mi) n (am_y a) (am_bytes a) (am_maxL a) (am_rt a) (am_cw a) (am_rm a) 0 0 d :=
      callB_of d hts (am_good_cw m1) rfl rfl rfl (hts _ (am_word_in m2)) (hts _ (am_word_in hl1)) ⟨m4, m5, hl3⟩ ⟨by show am_fr a + 1 ≤ R.frames; omega, by show 8 + (am_maxL a + 11) + am_lo a ≤ R.locals; omega⟩
    exact am_callr (vv := vo.map (am_cv ad)) (B := am_Bq xs Ln D cA ad A g1) (rest := r0.map (am_cv ad)) (va_runS (As := as.map (am_cv ad)) (Ts := am_WG) ⟨hx, hb, hml, hown, hts⟩ hM' ⟨hcb, hts _ (am_word_in m6)⟩ ⟨am_blind, am_pre_any hXX hS hP hD⟩ rfl hlen hl.1 hstk (lv_room (by rw [am_wt_cat]; exact hr8)) hdec hcs) hS fin
theorem am_walk : ∀ (k : Nat) (st : am_S) (r : am_R), am_eval k st = some r → am_wk st.1 = true → ∀ (p : Program) (e : Env) (R : Room) (s : State) (m : MethodId) (args : Array Value) (below : List Frame) (meth : Method) (c : Code) (cells slots : Nat) (Q : State → Prop), am_Wk p R s m args c xs Ln D cA ad A st.1 → cells ≤ R.cells ∧ slots ≤ R.slots →
    (∀ (st' : am_S) (act : am_A), st'.1 = st.1 → am_step st' = some act → am_fin act r → am_PW p l e R s m args below meth c cells slots Q xs Ln D cA ad A st') → am_PW p l e R s m args below meth c cells slots Q xs Ln D cA ad A st := by
  intro k
  induction k with
  | zero => intro st r h; cases h
  | succ k ih =>
    rintro ⟨mi, pc, L, S, g, t⟩ r h hwk p e R s m args below meth c cells slots Q hW hcs hfin
    rw [am_eval] at h
    cases hs : am_step (mi, pc, L, S, g, t) with
    | none => rw [hs] at h; cases h
    | some act =>
      rw [hs] at h
      obtain ⟨i, nxt, kp, v, a, b, d, w, L', hc, hsub, hdo⟩ := am_step_inv hs
      obtain ⟨len, hdec, hok⟩ := am_code_dec hc
      intro H ls locs hR
      have hR' := am_Rel_sub hR hsub
      by_cases hp : am_plain i b = true
      · have hsh := am_do_sh hp hdo
        refine am_do_sound hW hcs hdec hok hp hdo ?_ hR'
        have go : ∀ s1 : am_S, s1.1 = mi → am_eval k s1 = some r → am_PW p l e R s m args below meth c cells slots Q xs Ln D cA ad A s1 := fun s1 e1 h1 => ih s1 r h1 (by rw [e1]; exact hwk) p e R s m args below meth c cells slots Q (by rw [e1]; exact hW) hcs (fun st' act' z1 z2 z3 => hfin st' act' (z1.trans e1) z2 z3)
        rcases act with s1 | ⟨bb, s1⟩ | (⟨q, x, y, s1, s2⟩ | ⟨bb, q, x, y, s1, s2⟩) | r' | ⟨bb, r'⟩ | ⟨e1, rs⟩ | s1
        · exact go s1 hsh h
        · cases bb with
          | false => cases h
          | true => exact ⟨rfl, go s1 hsh h⟩
        · exact ⟨fun z => go s1 hsh.1 (by dsimp only at h; rw [z] at h; exact h), fun z => go s2 hsh.2 (by dsimp only at h; rw [z] at h; exact h)⟩
        · cases bb with
          | false => cases h
          | true => exact ⟨rfl, fun z => go s1 hsh.1 (by dsimp only [cond_true] at h; rw [z] at h; exact h), fun z => go s2 hsh.2 (by dsimp only [cond_true] at h; rw [z] at h; exact h)⟩
        · exact hsh.elim
        · exact hsh.elim
        · exact hsh.elim
        · exact go s1 hsh h
      · have after : ∀ (e0 : am_S) (r0 : List Value), (match am_eval k e0 with
            | some r1 => match am_cont (mi, pc, L', r0, g, t) r1 with
              | some s1 => am_eval k s1
              | none => none
            | none => none) = some r → ∃ vo g1 t1, am_eval k e0 = some (.inl vo, g1, t1) ∧ am_eval k (mi, pc + 3, L', vo.toList ++ r0, g1, t1) = some r := by
          intro e0 r0 hh
          cases he : am_eval k e0 with
          | none => rw [he] at hh; cases hh
          | some r1 =>
            rw [he] at hh
            obtain ⟨o, g1, t1⟩ := r1
            rcases o with (_ | v1) | x
            · exact ⟨none, g1, t1, rfl, hh⟩
            · exact ⟨some v1, g1, t1, rfl, hh⟩
            · dsimp only [am_cont] at hh
              rw [am_catch_of (am_wk_ne hwk).1] at hh
              cases hh
        rcases am_np hp hdo with ⟨r', rfl⟩ | ⟨bb, r', rfl⟩ | ⟨n, ml, as, k0, r0, fs, rfl, hv, hpop, ho, hr8, hml, rfl⟩ | ⟨n, ml, as, r0, rfl, hb1, hb2, hv, hpop, hr8, hml, rfl⟩
        · cases Option.some.inj h
          exact hfin _ _ rfl hs (Or.inl rfl) H ls locs hR
        · cases bb with
          | false => cases h
          | true =>
            cases Option.some.inj h
            exact hfin _ _ rfl hs (Or.inr rfl) H ls locs hR
        · obtain ⟨vo, g1, t1, h1, h2⟩ := after _ _ h
          refine am_callv hW hcs hdec hok (am_wk_ne hwk).1 hv hpop ho hr8 hR' (fun hlow hmx => am_met hlow (by rw [hmx]; exact hml) hR.2.2.2.2 (fun p e R s m args below meth c cells slots Q hW1 hc1 hf1 => ih _ _ h1 (by unfold am_wk; rw [hlow]; rfl) p e R s m args below meth c cells slots Q hW1 hc1 hf1)) (fun H1 locs1 hR1 => ?_)
          exact ih (mi, pc + 3, L', vo.toList ++ r0, g1, t1) r h2 hwk p e R s m args below meth c cells slots Q hW hcs hfin H1 ls locs1 hR1
        · obtain ⟨vo, g1, t1, h1, h2⟩ := after _ _ h
          refine am_calls hW hcs hdec hok (Or.inl (am_wk_ne hwk).2) hb1 hb2 hv hpop hr8 hR' (fun hlow hmx => am_met hlow (by rw [hmx]; exact hml) hR.2.2.2.2 (fun p e R s m args below meth c cells slots Q hW1 hc1 hf1 => ih _ _ h1 (by unfold am_wk; rw [hlow]; rfl) p e R s m args below meth c cells slots Q hW1 hc1 hf1)) (fun H1 locs1 hR1 => ?_)
          exact ih (mi, pc + 3, L', vo.toList ++ r0, g1, t1) r h2 hwk p e R s m args below meth c cells slots Q hW hcs hfin H1 ls locs1 hR1
end
