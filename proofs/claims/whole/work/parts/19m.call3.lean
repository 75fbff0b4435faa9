def am_hhs (a : Nat) : List (Nat × Nat × Nat × Nat) := bif Nat.beq a 90 then am_hh90 else am_hh91
def am_okW (a : Nat) : Bool := decide (Cond.codeWith (am_y a) (am_bytes a) (am_maxL a) (am_rt a) (am_hhs a) ∈ lw_tbl) && decide (Cond.initialized (am_own a) ∈ lw_tbl) && decide (am_own a ≠ "java/lang/invoke/MethodHandle") && decide (am_own a ≠ "java/lang/invoke/VarHandle") && decide (Cond.static (am_y a) ∈ lw_tbl)
theorem am_okW90 : am_okW 90 = true := by decide +kernel
theorem am_okW91 : am_okW 91 = true := by decide +kernel
theorem am_okW_of {a : Nat} (h : am_kd a = 3) : am_okW a = true := by
  rcases am_kd3_of h with rfl | rfl
  · exact am_okW90
  · exact am_okW91
theorem am_in_WG {w : Cond} (h : w ∈ lw_tbl) (hg : goodWord w = true) : w ∈ am_WG := List.mem_filter.mpr ⟨h, hg⟩
section
variable {p : Program} {l : Launch} {e : Env} {R : Room} {s : State} {m : MethodId} {args : Array Value} {below : List Frame} {meth : Method} {c : Code} {H : Heap} {locs : List Loc} {cells slots : Nat} {Q : State → Prop}
variable {y : MethodName} {bytes cc : ByteArray} {maxL nL mc ms n index : Nat} {ret : Option FieldType} {ws : List Cond} {rm : Room} {Pc : Array Value → State → Prop} {Qc : Array Value → State → Outcome → State → Prop} {free : Addr → Prop} {Ts : List Cond} {own : String} {As rest : List Value} {g : JFrame} {hh : List (Nat × Nat × Nat × Nat)}
theorem am_runSW (S : CallFix p m c cc nL s args Ts own) (hM : Met l y ws rm Pc Qc mc ms free) (hrc : rm.cells = mc) (hrs : rm.slots = ms) (hfr : rm.frames + 1 ≤ R.frames) (hlo : 8 + (maxL + 11) + rm.locals ≤ R.locals) (hws : ∀ w ∈ ws, ∀ (a' : Array Value) (U : State), s.WarmedH U.vm → w.before a' U = true) (hcw : Cond.codeWith y bytes maxL ret hh ∈ ws)
    (hcode : (Cond.codeWith y bytes maxL ret hh).before args s = true) (hini : (Cond.initialized y.cls).before args s = true) (hstt : (Cond.static y).before args s = true) (hy : y.cls ≠ "java/lang/invoke/MethodHandle" ∧ y.cls ≠ "java/lang/invoke/VarHandle") (hlen : (parseMethodDescriptor y.desc).map (fun q => q.parameters.length) = some n) (hl : (Cond.methodLink own index y).before args s = true) (hp : PreS s H Pc As)
    (hg : g.method = m) (hn : As.length = n) (hsize : g.locals.size = nL) (hstack : g.stack = As.reverse ++ rest) (hW : 2 * g.monitorRoom + (rest.map fun v => v.category).sum ≤ 8) (hdg : decode cc g.pc = .ok (.invokestatic index, 3)) (hf : cells + mc ≤ R.cells ∧ slots + ms ≤ R.slots) :
    va_Run p l e R s m args below meth c H locs cells slots mc ms g rest (Qc As.toArray) (free) := by
  have hK : Back l R p e below s args y 3 8 (PreOf R mc ms Pc) (PostOf Qc mc ms free) := va_backW (hh := hh) (bytes := bytes) (maxL := maxL) (ret := ret) hM hp.1 hrc hrs hfr hlo hws hcw (fun a' U hW => word_at hW (Or.inl (by first | rfl | simp [Cond.onTables, Cond.keeps, Cond.steady])) hini)
  obtain ⟨hx, hb, hml, ho, -⟩ := S
  intro T hT X
  obtain ⟨mk, methM, cM, hnamed, hmethM, -, -, -, -, -, -, hsigM⟩ := Cond.codeWith_spec hcode
  have hstatic : methM.isStatic = true := Cond.static_spec hnamed hmethM hstt
  obtain ⟨kP, hkP, -⟩ := className_of_methodNamed hnamed
  have hinitP : kP.init = .initialized := Cond.initialized_spec (findClass_of_methodNamed hnamed) hkP hini
  have hcount : As.length = methM.sig.parameters.length := by
    rw [hsigM] at hlen
    rw [hn]
    exact (Option.some.inj hlen).symm
  obtain ⟨vm₁, X₁, hstep₁⟩ := X.invokestatic hx ho hl hnamed hmethM hstatic hkP hinitP hy (g := g) hg (argsL := As) (rest := rest) hcount hstack (by rw [hb]; exact hdg)
  obtain ⟨v, B, X', hpost, hsteps⟩ := hK m meth c ⟨T.setVm vm₁, locs, cells, slots⟩ { g with stack := rest } (.invokestatic index) mk As.toArray X₁ hg (hsize.trans hml.symm) (by rw [hb]; exact hdg) hW (X₁.named hnamed) ⟨hf.1, hf.2, hp.2 (T.setVm vm₁) hT X₁.warmed⟩
  obtain ⟨U', l2, c2, s2⟩ := B
  obtain ⟨g', mk2, t, L, e1, e2, hq, h1, hL, h2, h3⟩ := hpost
  dsimp only [Pt.U, Pt.locs, Pt.cells, Pt.slots] at X' e1 e2 h1 h2 h3 hsteps
  subst h1; subst h2; subst h3
  exact ⟨v, (T.setVm vm₁).calling g' mk2 As.toArray, t, U', L, hT, X', hL, e1, e2, hq, fun target h => hstep₁ _ fun acts => by rw [doInvoke_state]; exact hsteps.trans h⟩
end
section
variable {l : Launch} {xs : Nat → Int32} {Ln : Nat} {D : va_G} {cA : Nat → ClassId} {ad : Nat → Nat} {A : Nat → Prop}
theorem am_blind5 {av : List Value} {g : am_G} : FrameBlind (va_Pc av (am_B5 xs Ln D cA ad A g)) := fun a U gg mk q => ⟨q.1, ⟨⟨am_X_moved (s := U) (U := U.calling gg mk a) q.2.1.1.1 (State.WarmedH.refl U) (Nat.le_refl _) (fun _ _ _ => rfl), q.2.1.1.2⟩, am_Xt_moved (s := U) (U := U.calling gg mk a) q.2.1.2 (State.WarmedH.refl U) (fun _ _ _ => rfl)⟩, am_Nk_moved (s := U) (U := U.calling gg mk a) q.2.2 (State.WarmedH.refl U)⟩
theorem am_pre5 {s : State} {H : Heap} {locs : List Loc} {g : am_G} {av : List Value} (hX : am_X xs Ln D cA ad A s) (hXt : am_Xt A s) (hNk : am_Nk s) (hS : va_S A s.heap H locs) (hP : va_P D am_cl (am_ws ad cA g) H) (hD : va_D A (am_ws ad cA g)) : ∀ U : State, U.heap = H → s.WarmedH U.vm → va_Pc av (am_B5 xs Ln D cA ad A g) av.toArray U :=
  fun U hU hWm => ⟨rfl, ⟨⟨am_X_moved hX hWm (by rw [hU]; exact hS.1) (fun q h1 h2 => by rw [hU]; exact hS.2.1 q h1 h2), by rw [hU]; exact hP, hD⟩, am_Xt_moved hXt hWm (fun q h1 h2 => by rw [hU]; exact hS.2.1 q h1 h2)⟩, am_Nk_moved hNk hWm⟩
theorem am_call3 {p : Program} {e : Env} {R : Room} {s : State} {m : MethodId} {args : Array Value} {below : List Frame} {meth : Method} {c : Code} {cells slots : Nat} {Q : State → Prop} {mi pc nxt len a b d w n : Nat} {v : Value} {L' : am_L} {S as r0 : List Value} {g g1 : am_G} {vo : Option Value} {H : Heap} {ls : Array Slot} {locs : List Loc}
    (hW : am_Wk p R s m args c xs Ln D cA ad A mi) (hXt : am_Xt A s) (hNk : am_Nk s) (hcs : cells + 1 ≤ R.cells ∧ slots + 6 ≤ R.slots) (hdec : decode (am_bytes mi) pc = .ok (.invokestatic n, len)) (hok : am_okI mi pc (.invokestatic n) len nxt v a b d w = true) (hk3 : am_kd a = 3)
    (hb1 : Nat.beq b 1 = false) (hb2 : Nat.beq b 2 = false) (hpop : am_pop d S [] = some (as, r0)) (hr8 : am_wt r0 ≤ 8) (hR : am_Rel xs Ln s D cA ad A mi L' g H ls locs)
    (hM : Met l (am_y a) (am_cw3 a (am_hhs a)) (am_rm4 a) (va_Pc (as.map (am_cv ad)) (am_B5 xs Ln D cA ad A g)) (am_Qm xs Ln D cA ad A g1 vo) 1 6 A)
    (kk : ∀ (H1 : Heap) (locs1 : List Loc), am_Rel xs Ln s D cA ad A mi L' g1 H1 ls locs1 → W p l e R s m args below meth c H1 locs1 (cells + 1) (slots + 6) Q (F0 m (pc + 3) ls ((vo.toList ++ r0).map (am_cv ad)))) :
    W p l e R s m args below meth c H locs cells slots Q (F0 m pc ls (S.map (am_cv ad))) := by
  obtain ⟨hx, hb, hml, hown, hts, hXX, hF, hLo⟩ := hW
  obtain ⟨hl, hP, hD, hS, hG⟩ := hR
  obtain ⟨ys, y1, y2, y3⟩ := am_pop_spec d S [] as _ hpop
  rw [List.append_nil] at y2
  have hlen : (as.map (am_cv ad)).length = d := by rw [List.length_map, y2, List.length_reverse]; exact y3
  have hstk : S.map (am_cv ad) = (as.map (am_cv ad)).reverse ++ r0.map (am_cv ad) := by rw [y1, y2, List.map_append, List.map_reverse, List.reverse_reverse]
  have e1 : Nat.beq (am_kd a) 1 = false := by rw [hk3]; rfl
  cases hb3 : Nat.beq b 3 with
  | true =>
    simp only [am_okI, hb1, hb2, hb3, am_callok, cond_false, cond_true, Bool.and_eq_true, decide_eq_true_eq] at hok
    obtain ⟨⟨rfl, rfl⟩, ⟨hl1, ⟨⟨hl2, hl3⟩, hl4⟩, hl5⟩, hl7⟩ := hok
    rw [e1] at hl7
    cases hl7
  | false =>
    simp only [am_okI, hb1, hb2, hb3, am_callok, cond_false, Bool.and_eq_true, Bool.or_eq_true, decide_eq_true_eq] at hok
    obtain ⟨⟨rfl, rfl⟩, ⟨hl1, ⟨⟨hl2, hl3⟩, hl4⟩, hl5⟩, hl7⟩ := hok
    have hw3 := am_okW_of hk3
    unfold am_okW at hw3
    simp only [Bool.and_eq_true, decide_eq_true_eq] at hw3
    obtain ⟨⟨⟨⟨w1, w2⟩, w3⟩, w4⟩, w5⟩ := hw3
    have w1' := am_in_WG w1 rfl
    have hws : ∀ w ∈ am_cw3 a (am_hhs a), ∀ (a' : Array Value) (U : State), s.WarmedH U.vm → w.before a' U = true := pay_in hts (am_good (fun w hw => (List.mem_cons.mp hw).elim (fun z => by rw [z]; exact w1') (fun z => z)))
    refine am_callr (vv := vo.map (am_cv ad)) (B := am_Bq xs Ln D cA ad A g1) (rest := r0.map (am_cv ad)) (am_runSW (As := as.map (am_cv ad)) (Ts := am_WG) (hh := am_hhs a) (bytes := am_bytes a) (maxL := am_maxL a) (ret := am_rt a) ⟨hx, hb, hml, hown, hts⟩ hM rfl rfl (by show am_fr a + 1 ≤ R.frames; omega) (by show 8 + (am_maxL a + 11) + am_lo a ≤ R.locals; omega) hws List.mem_cons_self (hts _ w1') (hts _ (am_in_WG w2 rfl)) (hts _ (am_in_WG w5 rfl)) ⟨w3, w4⟩ hl3 (hts _ (am_word_in hl1)) ⟨am_blind5, am_pre5 hXX hXt hNk hS hP hD⟩ rfl hlen hl.1 hstk (lv_room (by rw [am_wt_cat]; exact hr8)) hdec hcs) hS (fun t2 H1 locs1 e1 hB hS1 => ?_)
    obtain ⟨q1, q2, q3⟩ := hB
    rw [am_map_app]
    exact kk H1 locs1 ⟨hl, by rw [← e1]; exact q1, q2, hS1, q3⟩
theorem am_w3_90 {as : List Value} (h : am_w3 90 as = true) : ∃ q, as = [.ref 8, .int q, .ref 53] := by
  simp only [am_w3, show Nat.beq 90 91 = false from rfl, show Nat.beq 90 90 = true from rfl, cond_false, cond_true] at h
  split at h
  · rename_i x q y
    rw [Bool.and_eq_true] at h
    cases Nat.eq_of_beq_eq_true h.1
    cases Nat.eq_of_beq_eq_true h.2
    exact ⟨q, rfl⟩
  · cases h
theorem am_w3_91 {as : List Value} (h : am_w3 91 as = true) : as = [.ref 8, .ref 53] := by
  simp only [am_w3, show Nat.beq 91 91 = true from rfl, cond_true] at h
  split at h
  · rename_i x y
    rw [Bool.and_eq_true] at h
    cases Nat.eq_of_beq_eq_true h.1
    cases Nat.eq_of_beq_eq_true h.2
    rfl
  · cases h
theorem am_fin_v {i : Instr} {nxt kp w : Nat} {v : Value} {a b d mi pc : Nat} {L : am_L} {S : List Value} {g : am_G} {t : Nat} {act : am_A} {r : am_R} (hk : am_kd mi = 3) (hc : am_code mi pc = some (i, nxt, kp, v, a, b, d, w)) (hp : ¬ am_plain i b = true) (h : am_do i nxt v a b d mi pc L S g t = some act) (hf : am_fin act r) : ∃ v, r.1 = .inl (some v) := by
  have hr := am_r3_of hk hc
  cases i with
  | invokevirtual n =>
    obtain ⟨ml, as, k, r, fs, rfl, h1, h2, h3⟩ := am_iv_inv h
    obtain ⟨h4, h5, h6⟩ := am_call_inv h3
    rcases hf with z | z <;> (rw [h6] at z; simp at z)
  | invokestatic n =>
    have hp : ¬ (Nat.beq b 1 || Nat.beq b 2) = true := hp
    rw [Bool.not_eq_true, Bool.or_eq_false_iff] at hp
    change (bif Nat.beq b 1 then am_mx mi nxt L S g t (fun x y => if x < y then y else x) else bif Nat.beq b 2 then am_mx mi nxt L S g t (fun x y => if y < x then y else x) else am_is mi pc L S g t v a d) = some act at h
    rw [hp.1, hp.2] at h
    obtain ⟨ml, as, r, rfl, h1, h3⟩ := am_is_inv h
    obtain ⟨h4, h5, h6⟩ := am_call_inv h3
    rcases hf with z | z <;> (rw [h6] at z; simp at z)
  | ireturn =>
    change Nat.beq d 3 = true at hr
    cases Nat.eq_of_beq_eq_true hr
    change am_irt S g t 3 = some act at h
    unfold am_irt at h
    split at h
    · have e := (Option.some.inj h).symm
      rcases hf with z | z
      · rw [e] at z
        simp only [Sum.inr.injEq, Sum.inl.injEq] at z
        rw [← z]
        exact ⟨_, rfl⟩
      · rw [e] at z
        simp at z
    · cases h
  | areturn => cases hr
  | return_ => cases hr
  | new n => cases hr
  | _ => exact absurd rfl hp
theorem am_ev_v : ∀ (k : Nat) (st : am_S) (r : am_R), am_eval k st = some r → am_kd st.1 = 3 → ∃ v, r.1 = .inl (some v) := by
  intro k
  induction k with
  | zero => intro st r h; cases h
  | succ k ih =>
    rintro ⟨mi, pc, L, S, g, t⟩ r h hk
    rw [am_eval] at h
    cases hs : am_step (mi, pc, L, S, g, t) with
    | none => rw [hs] at h; cases h
    | some act =>
      rw [hs] at h
      obtain ⟨i, nxt, kp, v, a, b, d, w, L', hc, hsub, hdo⟩ := am_step_inv hs
      by_cases hp : am_plain i b = true
      · have hsh := am_do_sh hp hdo
        have go : ∀ s1 : am_S, s1.1 = mi → am_eval k s1 = some r → ∃ v, r.1 = .inl (some v) := fun s1 e1 h1 => ih s1 r h1 (by rw [e1]; exact hk)
        rcases act with s1 | ⟨bb, s1⟩ | (⟨q, x, y, s1, s2⟩ | ⟨bb, q, x, y, s1, s2⟩) | r' | ⟨bb, r'⟩ | ⟨e1, rs⟩ | s1
        · exact go s1 hsh h
        · cases bb with
          | false => cases h
          | true => exact go s1 hsh h
        · dsimp only at h
          cases hq : am_cmp q x y with
          | true => rw [hq] at h; exact go s1 hsh.1 h
          | false => rw [hq] at h; exact go s2 hsh.2 h
        · cases bb with
          | false => cases h
          | true =>
            dsimp only [cond_true] at h
            cases hq : am_cmp q x y with
            | true => rw [hq] at h; exact go s1 hsh.1 h
            | false => rw [hq] at h; exact go s2 hsh.2 h
        · exact hsh.elim
        · exact hsh.elim
        · exact hsh.elim
        · exact go s1 hsh h
      · have after : ∀ (e0 : am_S) (r0 : List Value), (match am_eval k e0 with
            | some r1 => match am_cont (mi, pc, L', r0, g, t) r1 with
              | some s1 => am_eval k s1
              | none => none
            | none => none) = some r → ∃ v, r.1 = .inl (some v) := by
          intro e0 r0 hh
          cases he : am_eval k e0 with
          | none => rw [he] at hh; cases hh
          | some r1 =>
            rw [he] at hh
            dsimp only at hh
            cases hcn : am_cont (mi, pc, L', r0, g, t) r1 with
            | none => rw [hcn] at hh; cases hh
            | some s1 =>
              rw [hcn] at hh
              exact ih _ _ hh (by rw [(am_cont_t hcn).2]; exact hk)
        rcases am_np hp hdo with ⟨r', rfl⟩ | ⟨bb, r', rfl⟩ | ⟨n, ml, as, k0, r0, fs, rfl, hv, hpop, ho, hr8, hml, rfl⟩ | ⟨n, ml, as, r0, rfl, hb1, hb2, hv, hpop, hr8, hml, rfl⟩
        · cases Option.some.inj h
          exact am_fin_v hk hc hp hdo (Or.inl rfl)
        · cases bb with
          | false => cases h
          | true =>
            cases Option.some.inj h
            exact am_fin_v hk hc hp hdo (Or.inr rfl)
        · exact after _ _ h
        · exact after _ _ h
theorem am_met3 {a k t t1 : Nat} {as : List Value} {g g1 : am_G} {vo : Option Value} (hk3 : am_kd a = 3) (hlt : l.stackTraces = false) (hG : am_Gx xs Ln g) (hw : am_w3 a as = true) (hev : am_eval k (a, 0, am_args 0 as, [], g, t) = some (.inl vo, g1, t1)) :
    Met l (am_y a) (am_cw3 a (am_hhs a)) (am_rm4 a) (va_Pc (as.map (am_cv ad)) (am_B5 xs Ln D cA ad A g)) (am_Qm xs Ln D cA ad A g1 vo) 1 6 A := by
  obtain ⟨v, hv⟩ := am_ev_v _ _ _ hev hk3
  cases Sum.inl.inj hv
  rcases am_kd3_of hk3 with rfl | rfl
  · obtain ⟨q, rfl⟩ := am_w3_90 hw
    exact am_met90 hlt hG hev
  · obtain rfl := am_w3_91 hw
    exact am_met91 hlt hG hev
def am_PL (p : Program) (l : Launch) (e : Env) (R : Room) (s : State) (m : MethodId) (args : Array Value) (below : List Frame) (meth : Method) (c : Code) (c0 n0 : Nat) (Q : State → Prop) (xs : Nat → Int32) (Ln : Nat) (D : va_G) (cA : Nat → ClassId) (ad : Nat → Nat) (A : Nat → Prop) (st : am_S) : Prop := am_PW p l e R s m args below meth c (c0 + st.2.2.2.2.2) (n0 + 6 * st.2.2.2.2.2) Q xs Ln D cA ad A st
theorem am_kd0 : am_kd 0 = 0 := by decide +kernel
theorem am_lwalk (hlt : l.stackTraces = false) : ∀ (k : Nat) (st : am_S) (r : am_R), am_eval k st = some r → st.1 = 0 → ∀ (p : Program) (e : Env) (R : Room) (s : State) (m : MethodId) (args : Array Value) (below : List Frame) (meth : Method) (c : Code) (c0 n0 : Nat) (Q : State → Prop), am_Wk p R s m args c xs Ln D cA ad A 0 → am_Xt A s → am_Nk s → c0 + r.2.2 ≤ R.cells ∧ n0 + 6 * r.2.2 ≤ R.slots →
    (∀ (st' : am_S) (act : am_A), st'.1 = 0 → am_step st' = some act → am_fin act r → am_PL p l e R s m args below meth c c0 n0 Q xs Ln D cA ad A st') → am_PL p l e R s m args below meth c c0 n0 Q xs Ln D cA ad A st := by
  intro k
  induction k with
  | zero => intro st r h; cases h
  | succ k ih =>
    rintro ⟨mi, pc, L, S, g, t⟩ r h hmi p e R s m args below meth c c0 n0 Q hW hXt hNk hcs hfin
    cases hmi
    have hrt := am_ev_t _ _ _ h
    have hle : t ≤ r.2.2 := by
      dsimp only at hrt
      omega
    rw [am_eval] at h
    have hk0 : am_kd 0 ≠ 3 := by rw [am_kd0]; decide
    have hct : c0 + t ≤ R.cells ∧ n0 + 6 * t ≤ R.slots := ⟨by omega, by omega⟩
    cases hs : am_step (0, pc, L, S, g, t) with
    | none => rw [hs] at h; cases h
    | some act =>
      rw [hs] at h
      obtain ⟨i, nxt, kp, v, a, b, d, w, L', hc, hsub, hdo⟩ := am_step_inv hs
      obtain ⟨len, hdec, hok⟩ := am_code_dec hc
      show am_PW p l e R s m args below meth c (c0 + t) (n0 + 6 * t) Q xs Ln D cA ad A (0, pc, L, S, g, t)
      intro H ls locs hR
      have hR' := am_Rel_sub hR hsub
      by_cases hp : am_plain i b = true
      · have hsh := am_do_sh hp hdo
        have htk := am_do_tk hp hdo
        refine am_do_sound hW hct hdec hok hp hdo ?_ hR'
        have go : ∀ s1 : am_S, s1.1 = 0 → s1.2.2.2.2.2 = t → am_eval k s1 = some r → am_PW p l e R s m args below meth c (c0 + t) (n0 + 6 * t) Q xs Ln D cA ad A s1 := fun s1 e1 e2 h1 => by
          have := ih s1 r h1 e1 p e R s m args below meth c c0 n0 Q hW hXt hNk hcs hfin
          unfold am_PL at this
          rw [e2] at this
          exact this
        rcases act with s1 | ⟨bb, s1⟩ | (⟨q, x, y, s1, s2⟩ | ⟨bb, q, x, y, s1, s2⟩) | r' | ⟨bb, r'⟩ | ⟨e1, rs⟩ | s1
        · exact go s1 hsh htk h
        · cases bb with
          | false => cases h
          | true => exact ⟨rfl, go s1 hsh htk h⟩
        · exact ⟨fun z => go s1 hsh.1 htk.1 (by dsimp only at h; rw [z] at h; exact h), fun z => go s2 hsh.2 htk.2 (by dsimp only at h; rw [z] at h; exact h)⟩
        · cases bb with
          | false => cases h
          | true => exact ⟨rfl, fun z => go s1 hsh.1 htk.1 (by dsimp only [cond_true] at h; rw [z] at h; exact h), fun z => go s2 hsh.2 htk.2 (by dsimp only [cond_true] at h; rw [z] at h; exact h)⟩
        · exact hsh.elim
        · exact hsh.elim
        · exact hsh.elim
        · exact go s1 hsh htk h
      · have after : ∀ (e0 : am_S) (r0 : List Value), (match am_eval k e0 with
            | some r1 => match am_cont (0, pc, L', r0, g, t) r1 with
              | some s1 => am_eval k s1
              | none => none
            | none => none) = some r → ∃ vo g1 t1, am_eval k e0 = some (.inl vo, g1, t1) ∧ am_eval k (0, pc + 3, L', vo.toList ++ r0, g1, t1) = some r := by
          intro e0 r0 hh
          cases he : am_eval k e0 with
          | none => rw [he] at hh; cases hh
          | some r1 =>
            rw [he] at hh
            obtain ⟨o, g1, t1⟩ := r1
            rcases o with (_ | v1) | x
            · exact ⟨none, g1, t1, rfl, hh⟩
            · exact ⟨some v1, g1, t1, rfl, hh⟩
            · dsimp only [am_cont] at hh
              rw [am_catch_of hk0] at hh
              cases hh
        rcases am_np hp hdo with ⟨r', rfl⟩ | ⟨bb, r', rfl⟩ | ⟨n, ml, as, k0, r0, fs, rfl, hv, hpop, ho, hr8, hml, rfl⟩ | ⟨n, ml, as, r0, rfl, hb1, hb2, hv, hpop, hr8, hml, rfl⟩
        · cases Option.some.inj h
          exact hfin _ _ rfl hs (Or.inl rfl) H ls locs hR
        · cases bb with
          | false => cases h
          | true =>
            cases Option.some.inj h
            exact hfin _ _ rfl hs (Or.inr rfl) H ls locs hR
        · obtain ⟨vo, g1, t1, h1, h2⟩ := after _ _ h
          have ht1 := am_ev_t _ _ _ h1
          dsimp only at ht1
          refine am_callv hW hct hdec hok hk0 hv hpop ho hr8 hR' (fun hlow hmx => am_met hlow (by rw [hmx]; exact hml) hR.2.2.2.2 (fun p e R s m args below meth c cells slots Q hW1 hc1 hf1 => am_walk k _ _ h1 (by unfold am_wk; rw [hlow]; rfl) p e R s m args below meth c cells slots Q hW1 hc1 hf1)) (fun H1 locs1 hR1 => ?_)
          exact W.widen (by show c0 + t ≤ c0 + t1; omega) (by show n0 + 6 * t ≤ n0 + 6 * t1; omega) (ih (0, pc + 3, L', vo.toList ++ r0, g1, t1) r h2 rfl p e R s m args below meth c c0 n0 Q hW hXt hNk hcs hfin H1 ls locs1 hR1)
        · obtain ⟨vo, g1, t1, h1, h2⟩ := after _ _ h
          have ht1 := am_ev_t _ _ _ h1
          have ht2 := am_ev_t _ _ _ h2
          dsimp only at ht1 ht2
          by_cases hk3 : am_kd a = 3
          · have hd1 : am_dl a = 1 := by unfold am_dl; rw [hk3]; rfl
            have hw3 : am_w3 a as = true := by
              have h9 : (bif Nat.beq b 1 then am_mx 0 nxt L' S g t (fun x y => if x < y then y else x) else bif Nat.beq b 2 then am_mx 0 nxt L' S g t (fun x y => if y < x then y else x) else am_is 0 pc L' S g t v a d) = some _ := hdo
              rw [hb1, hb2] at h9
              exact am_is_w3 h9 hpop
            refine am_call3 hW hXt hNk ⟨by omega, by omega⟩ hdec hok hk3 hb1 hb2 hpop hr8 hR' (am_met3 hk3 hlt hR.2.2.2.2 hw3 h1) (fun H1 locs1 hR1 => ?_)
            exact W.widen (by show c0 + t + 1 ≤ c0 + t1; omega) (by show n0 + 6 * t + 6 ≤ n0 + 6 * t1; omega) (ih (0, pc + 3, L', vo.toList ++ r0, g1, t1) r h2 rfl p e R s m args below meth c c0 n0 Q hW hXt hNk hcs hfin H1 ls locs1 hR1)
          · refine am_calls hW hct hdec hok (Or.inr hk3) hb1 hb2 hv hpop hr8 hR' (fun hlow hmx => am_met hlow (by rw [hmx]; exact hml) hR.2.2.2.2 (fun p e R s m args below meth c cells slots Q hW1 hc1 hf1 => am_walk k _ _ h1 (by unfold am_wk; rw [hlow]; rfl) p e R s m args below meth c cells slots Q hW1 hc1 hf1)) (fun H1 locs1 hR1 => ?_)
            exact W.widen (by show c0 + t ≤ c0 + t1; omega) (by show n0 + 6 * t ≤ n0 + 6 * t1; omega) (ih (0, pc + 3, L', vo.toList ++ r0, g1, t1) r h2 rfl p e R s m args below meth c c0 n0 Q hW hXt hNk hcs hfin H1 ls locs1 hR1)
end
