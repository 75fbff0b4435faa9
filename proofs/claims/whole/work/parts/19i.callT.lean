section
variable {l : Launch} {xs : Nat → Int32} {Ln : Nat} {D : va_G} {cA : Nat → ClassId} {ad : Nat → Nat} {A : Nat → Prop}
theorem am_blind4 {av : List Value} {g : am_G} : FrameBlind (va_Pc av (am_B4 xs Ln D cA ad A g)) := fun a U gg mk q => ⟨q.1, ⟨am_X_moved (s := U) (U := U.calling gg mk a) q.2.1.1 (State.WarmedH.refl U) (Nat.le_refl _) (fun _ _ _ => rfl), q.2.1.2⟩, am_Xt_moved (s := U) (U := U.calling gg mk a) q.2.2 (State.WarmedH.refl U) (fun _ _ _ => rfl)⟩
theorem am_pre4 {s : State} {H : Heap} {locs : List Loc} {g : am_G} {av : List Value} (hX : am_X xs Ln D cA ad A s) (hXt : am_Xt A s) (hS : va_S A s.heap H locs) (hP : va_P D am_cl (am_ws ad cA g) H) (hD : va_D A (am_ws ad cA g)) : ∀ U : State, U.heap = H → s.WarmedH U.vm → va_Pc av (am_B4 xs Ln D cA ad A g) av.toArray U :=
  fun U hU hWm => ⟨rfl, ⟨am_X_moved hX hWm (by rw [hU]; exact hS.1) (fun q h1 h2 => by rw [hU]; exact hS.2.1 q h1 h2), by rw [hU]; exact hP, hD⟩, am_Xt_moved hXt hWm (fun q h1 h2 => by rw [hU]; exact hS.2.1 q h1 h2)⟩
set_option maxHeartbeats 1000000 in
theorem am_callT {p : Program} {e : Env} {R : Room} {s : State} {m : MethodId} {args : Array Value} {below : List Frame} {meth : Method} {c : Code} {cells slots : Nat} {Q : State → Prop} {mi pc a n d k x : Nat} {C : String} {as r0 S : List Value} {g g1 : am_G} {H : Heap} {ls : Array Slot} {locs : List Loc} {L' : am_L}
    (hW : am_Wk p R s m args c xs Ln D cA ad A mi) (hXt : am_Xt A s) (hcs : cells + 1 ≤ R.cells ∧ slots + 6 ≤ R.slots) (hdec : decode (am_bytes mi) pc = .ok (.invokevirtual n, 3))
    (hlink : (Cond.methodLink (am_own mi) n (am_y a)).before args s = true) (hokm : am_okM a = true) (hkd : am_kd a = 4) (hdes : (parseMethodDescriptor (am_y a).desc).map (fun q => q.parameters.length) = some d) (hfr : am_fr a + 1 ≤ R.frames) (hlo : 8 + (am_maxL a + 11) + am_lo a ≤ R.locals)
    (hS0 : S.map (am_cv ad) = (as.map (am_cv ad)).reverse ++ .ref (ad k) :: r0.map (am_cv ad)) (hlen : (as.map (am_cv ad)).length = d) (hr8 : am_wt r0 ≤ 8) (hrec : ∃ cell : Cell, H[ad k]? = some cell ∧ cell.vm.isStatics = false ∧ s.vm.findClass (am_own a) = some cell.cls)
    (hR : am_Rel xs Ln s D cA ad A mi L' g H ls locs)
    (hM : MetFree l (am_y a) (headSpec (am_cw a) (am_rm4 a)) (va_Pc ((Value.ref k :: as).map (am_cv ad)) (am_B4 xs Ln D cA ad A g)) (fun _ _ _ _ _ => True) (am_Qh xs Ln D cA ad A g1 x))
    {pre rest : List ExceptionTableEntry} {xe : ExceptionTableEntry} (htab : c.exceptionTable.toList = pre ++ xe :: rest) (cX : ClassId) (hcX : s.vm.findClass (am_ex x) = some cX) (hpre : ∀ y ∈ pre, am_cls s args (am_own mi) cX pc false y) (hxe : am_cls s args (am_own mi) cX pc true xe)
    (kk : ∀ (H1 : Heap) (locs1 : List Loc) (adr : Nat), am_Rel xs Ln s D cA ad A mi L' g1 H1 ls locs1 → W p l e R s m args below meth c H1 locs1 (cells + 1) (slots + 6) Q (F0 m xe.handlerPc ls [.ref adr])) :
    W p l e R s m args below meth c H locs cells slots Q (F0 m pc ls (S.map (am_cv ad))) := by
  obtain ⟨hx, hb, hml, hown, hts, hXX, hF, hLo⟩ := hW
  obtain ⟨hl, hP, hD, hS, hG⟩ := hR
  obtain ⟨cellB, hcB, hoB, hclB⟩ := hrec
  unfold am_okM at hokm
  rw [show Nat.beq (am_kd a) 1 = false by rw [hkd]; rfl] at hokm
  simp only [Bool.and_eq_true, decide_eq_true_eq, cond_false] at hokm
  obtain ⟨⟨⟨⟨⟨m1, m2⟩, m3⟩, m4⟩, m5⟩, m6, m7⟩ := hokm
  have hcode : (Cond.code (am_y a) (am_bytes a) (am_maxL a) (am_rt a)).before args s = true := hts _ (am_word_in m1)
  have hini : (Cond.initialized (am_own a)).before args s = true := hts _ (am_word_in m2)
  intro T hT X
  obtain ⟨mk, methM, hnamed, hmethM, hstM, habM⟩ := Cond.instanceMethod_spec (hts _ (am_word_in m6))
  obtain ⟨methM', cM, hmethM', hcodeM, -, hlM, -, -, -, hsigM⟩ := Cond.code_spec hnamed hcode
  cases hmethM.symm.trans hmethM'
  obtain ⟨c2, r2, m2', q1, q2, q3, q4, kP, hkP, hkPi⟩ := Cond.selects_spec (hts _ (am_word_in m7))
  cases hclB.symm.trans q1
  cases (State.methodFound?_of_named hnamed ⟨m4, m5⟩).symm.trans q2
  cases hnamed.symm.trans q3
  have hselP : selectMethod e.platform s.vm cellB.cls mk = .method mk := by rw [Launch.admits_selectMethod X.admits]; exact q4
  have hdes' : (as.map (am_cv ad)).length = methM.sig.parameters.length := by
    rw [hlen]
    rw [hsigM] at hdes
    exact (Option.some.inj hdes).symm
  obtain ⟨vm₁, X₁, hstep₁⟩ := X.invokevirtual hx hown hlink hnamed hmethM hstM hkP hkPi ⟨m4, m5⟩ (a := ad k) (cell := cellB) (by rw [hT]; exact hcB)
    (fun z h => by rw [h] at hoB; cases hoB) hselP hmethM habM hkP hkPi (g := F0 m pc ls (S.map (am_cv ad))) rfl (argsL := as.map (am_cv ad)) (rest := r0.map (am_cv ad)) hdes' hS0 (by rw [hb]; exact hdec)
  have h : At (T.setVm vm₁) m c below := X₁.here
  have hn : (T.setVm vm₁).methodNamed? (am_y a) = some mk := X₁.named hnamed
  obtain ⟨kY, hkY, -⟩ := className_of_methodNamed hn
  have hws : ∀ w ∈ am_cw a, ∀ (a' : Array Value), w.before a' (T.setVm vm₁) = true := fun w hw a' => word_at X₁.warmed (am_good_cw m1 w hw).2 ((List.mem_cons.mp hw).elim (fun z => by rw [z]; exact hcode) (fun z => hts w z))
  have hinitY : kY.init = .initialized := Cond.initialized_spec (args := args) (findClass_of_methodNamed hn) hkY (hws _ (List.mem_cons_of_mem _ (am_word_in m2)) args)
  have hmY : (T.setVm vm₁).vm.method? mk = some methM := by rw [X₁.warmed.alike.method?]; exact hmethM
  have happ : (headSpec (am_cw a) (am_rm4 a)).appliesLoose (am_y a) e.platform ((T.setVm vm₁).calling (F0 m pc ls (r0.map (am_cv ad))) mk (Value.ref (ad k) :: as.map (am_cv ad)).toArray) = true :=
    Spec.appliesLoose_calling (g := F0 m pc ls (r0.map (am_cv ad))) h (by rw [hb]; exact hdec) hn hkY hinitY
      (X₁.room_calling (g := F0 m pc ls (r0.map (am_cv ad))) (R' := am_rm4 a) (by show ls.size = c.maxLocals; rw [hl.1, hml]) hmY hcodeM hfr (by
        rw [hlM]
        have := lv_room (m := m) (pc := pc) (ls := ls) (rest := r0.map (am_cv ad)) (st := r0.map (am_cv ad)) (by rw [am_wt_cat]; exact hr8)
        show 2 * (F0 m pc ls (r0.map (am_cv ad))).monitorRoom + ((r0.map (am_cv ad)).map fun v => v.category).sum + (am_maxL a + 11) + am_lo a ≤ R.locals
        omega) hcs.1 hcs.2) (atoms_intro (fun w hw => hws w hw _))
  obtain ⟨mid, hmid⟩ := h.above
  have hfr2 : ((T.setVm vm₁).setTop (F0 m pc ls (r0.map (am_cv ad)))).frames = (.java (F0 m pc ls (r0.map (am_cv ad))) :: mid) ++ below := by rw [State.frames_setTop' _ h.top, hmid]; rfl
  obtain ⟨o, s₂, hsteps, -, hend, hq⟩ := Steps.callFree hM p X₁.admits X₁.cas X₁.clock (acts := []) hfr2 happ (am_blind4 _ _ _ _ (am_pre4 hXX hXt hS hP hD (T.setVm vm₁) hT X₁.warmed)) trivial
  have hq' : am_Qh xs Ln D cA ad A g1 x (Value.ref (ad k) :: as.map (am_cv ad)).toArray ((T.setVm vm₁).calling (F0 m pc ls (r0.map (am_cv ad))) mk (Value.ref (ad k) :: as.map (am_cv ad)).toArray) o s₂ := hq
  obtain ⟨adr, ce, L, rfl, hW₂, hsame0, hLA, hce, hcls, hcevm, ⟨y1, y2, y3⟩, hFz, hFq⟩ := hq'
  rw [State.frames_setTop' _ h.top] at hend
  have hf₂ : s₂.frames = .throwing adr :: .java (F0 m pc ls (r0.map (am_cv ad))) :: (T.setVm vm₁).frames.tail := hend
  have hW' : (T.setVm vm₁).WarmedH s₂.vm := hW₂
  obtain ⟨e2, z2, z3, z4, z5, z6⟩ := hsame0
  have e3 : s₂ = ({ ((T.setVm vm₁).calling (F0 m pc ls (r0.map (am_cv ad))) mk (Value.ref (ad k) :: as.map (am_cv ad)).toArray).setFrames s₂.frames with heap := s₂.heap, slotsUsed := s₂.slotsUsed } : State).setVm s₂.vm := by
    have : s₂ = ({ s₂ with vm := ((T.setVm vm₁).calling (F0 m pc ls (r0.map (am_cv ad))) mk (Value.ref (ad k) :: as.map (am_cv ad)).toArray).vm } : State).setVm s₂.vm := rfl
    rw [e2] at this
    exact this
  obtain ⟨g₀, hg0⟩ := Option.isSome_iff_exists.mp h.top
  obtain ⟨r, hr⟩ := State.topJava?_eq_some.mp hg0
  have hsame : (T.setVm vm₁).sameButNew ({ (T.setVm vm₁) with heap := s₂.heap, slotsUsed := s₂.slotsUsed } : State) L 1 6 := by
    refine ⟨?_, z2, z3, z4, z5, z6⟩
    obtain ⟨t, ht, -⟩ := State.frames_cons hr
    show ({ (T.setVm vm₁) with heap := s₂.heap, slotsUsed := s₂.slotsUsed } : State) = { (T.setVm vm₁).setFrames (T.setVm vm₁).frames with heap := s₂.heap, slotsUsed := s₂.slotsUsed }
    rw [State.setFrames_self ht]
  have X₂ : Stand p l e R s m args below meth c (({ (T.setVm vm₁) with heap := s₂.heap, slotsUsed := s₂.slotsUsed } : State).setVm s₂.vm) (locs ++ L) (cells + 1) (slots + 6) :=
    ⟨X₁.admits, X₁.cas, X₁.clock, X₁.frames, X₁.room, X₁.hears, X₁.method, X₁.code, (X₁.here.setHeapUsed s₂.heap s₂.slotsUsed).setVm hW'.alike, X₁.tail, State.WarmedH.trans X₁.warmed hW', X₁.limits, X₁.bytes, X₁.same.trans (hsame.setVm s.vm)⟩
  have hs₂ : s₂ = ((({ (T.setVm vm₁) with heap := s₂.heap, slotsUsed := s₂.slotsUsed } : State).setVm s₂.vm).setTop (F0 m pc ls (r0.map (am_cv ad)))).pushFrame (.throwing adr) := by
    have hr' : (({ (T.setVm vm₁) with heap := s₂.heap, slotsUsed := s₂.slotsUsed } : State).setVm s₂.vm).frames = .java g₀ :: r := hr
    refine e3.trans ?_
    rw [hf₂, State.calling_eq h.top, State.setFrames_setFrames, State.pushFrame, State.frames_setTop _ hr', State.setTop_of_frames _ hr', State.setFrames_setFrames, hr]
    rfl
  have hcls2 : ce.cls = cX := by
    have : ((T.setVm vm₁).calling (F0 m pc ls (r0.map (am_cv ad))) mk (Value.ref (ad k) :: as.map (am_cv ad)).toArray).vm.findClass (am_ex x) = some ce.cls := hcls
    have h2 : (T.setVm vm₁).vm.findClass (am_ex x) = some ce.cls := this
    rw [X₁.warmed.alike.findClass, hcX] at h2
    exact (Option.some.inj h2).symm
  obtain ⟨kX, hkX⟩ := Vm.classAt_of_findClass hcX
  rw [← hcls2] at hkX hpre hxe
  obtain ⟨vm₃, X₃, hst₃⟩ := am_taken (own := am_own mi) (g := F0 m pc ls (r0.map (am_cv ad))) (a := adr) (cell := ce) X₂ hown rfl (fun z hz => by rw [hcevm] at hz; cases hz) hkX hce htab hpre hxe
  obtain ⟨t, w1, w2⟩ := kk s₂.heap (locs ++ L) adr ⟨hl, y1, y2, ⟨Nat.le_trans hS.1 (by rw [← hT]; exact hFz), fun q h1 h2 => by
    have h3 : q < T.heap.size := by rw [hT]; exact Nat.lt_of_lt_of_le h1 hS.1
    rw [hFq q h3 h2]
    show T.heap[q]? = s.heap[q]?
    rw [hT]
    exact hS.2.1 q h1 h2, fun q hq => (List.mem_append.mp hq).elim (hS.2.2 q) (hLA q)⟩, y3⟩ ((({ (T.setVm vm₁) with heap := s₂.heap, slotsUsed := s₂.slotsUsed } : State).setVm s₂.vm).setVm vm₃) rfl X₃
  refine ⟨t, hstep₁ t (fun acts => ?_), w2⟩
  rw [doInvoke_state]
  refine hsteps.trans ?_
  rw [hs₂]
  exact hst₃ t w1
end
