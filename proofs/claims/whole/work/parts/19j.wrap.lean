theorem am_ev_nx {k : Nat} {st s1 : am_S} {r : am_R} (h : am_eval k st = some r) (hs : am_step st = some (.inl s1)) : ∃ k', am_eval k' s1 = some r := by
  cases k with
  | zero => cases h
  | succ k =>
    rw [am_eval, hs] at h
    exact ⟨k, h⟩
theorem am_ev_ck {k : Nat} {st s1 : am_S} {r : am_R} {b : Bool} (h : am_eval k st = some r) (hs : am_step st = some (.inr (.inl (b, s1)))) : b = true ∧ ∃ k', am_eval k' s1 = some r := by
  cases k with
  | zero => cases h
  | succ k =>
    rw [am_eval, hs] at h
    cases b with
    | false => cases h
    | true => exact ⟨rfl, k, h⟩
theorem am_ev_en {k : Nat} {st : am_S} {r r' : am_R} (h : am_eval k st = some r) (hs : am_step st = some (.inr (.inr (.inr (.inl r'))))) : r' = r := by
  cases k with
  | zero => cases h
  | succ k =>
    rw [am_eval, hs] at h
    exact Option.some.inj h
theorem am_ev_ca {k : Nat} {st e0 rs : am_S} {r : am_R} (h : am_eval k st = some r) (hs : am_step st = some (.inr (.inr (.inr (.inr (.inr (.inl (e0, rs)))))))) : ∃ k' r1 s1, am_eval k' e0 = some r1 ∧ am_cont rs r1 = some s1 ∧ am_eval k' s1 = some r := by
  cases k with
  | zero => cases h
  | succ k =>
    rw [am_eval, hs] at h
    dsimp only at h
    cases h1 : am_eval k e0 with
    | none => rw [h1] at h; cases h
    | some r1 =>
      rw [h1] at h
      dsimp only at h
      cases h2 : am_cont rs r1 with
      | none => rw [h2] at h; cases h
      | some s1 =>
        rw [h2] at h
        exact ⟨k, r1, s1, h1, h2, h⟩
theorem am_ev_no {k : Nat} {st : am_S} {r : am_R} (h : am_eval k st = some r) (hs : am_step st = none) : False := by
  cases k with
  | zero => cases h
  | succ k =>
    rw [am_eval, hs] at h
    cases h
def am_isPl (mi pc : Nat) : Bool := match am_code mi pc with
  | some (i, _, _, _, _, b, _, _) => am_plain i b
  | none => false
section
variable {l : Launch} {xs : Nat → Int32} {Ln : Nat} {D : va_G} {cA : Nat → ClassId} {ad : Nat → Nat} {A : Nat → Prop}
variable {p : Program} {e : Env} {R : Room} {s : State} {m : MethodId} {args : Array Value} {below : List Frame} {meth : Method} {c : Code} {cells slots : Nat} {Q : State → Prop}
theorem am_PW_st {mi pc : Nat} {L : am_L} {S : List Value} {g : am_G} {t : Nat} {act : am_A} (hW : am_Wk p R s m args c xs Ln D cA ad A mi) (hcs : cells ≤ R.cells ∧ slots ≤ R.slots) (hpl : am_isPl mi pc = true) (hs : am_step (mi, pc, L, S, g, t) = some act) (hk : am_Kn (am_PW p l e R s m args below meth c cells slots Q xs Ln D cA ad A) act) :
    am_PW p l e R s m args below meth c cells slots Q xs Ln D cA ad A (mi, pc, L, S, g, t) := by
  obtain ⟨i, nxt, kp, v, a, b, d, w, L', hc, hsub, hdo⟩ := am_step_inv hs
  obtain ⟨len, hdec, hok⟩ := am_code_dec hc
  unfold am_isPl at hpl
  rw [hc] at hpl
  exact fun H ls locs hR => am_do_sound hW hcs hdec hok hpl hdo hk (am_Rel_sub hR hsub)
theorem am_PW_wide {st : am_S} {k n : Nat} (h1 : cells ≤ k) (h2 : slots ≤ n) (h : am_PW p l e R s m args below meth c k n Q xs Ln D cA ad A st) : am_PW p l e R s m args below meth c cells slots Q xs Ln D cA ad A st :=
  fun H ls locs hR => W.widen h1 h2 (h H ls locs hR)
theorem am_PW_tail {mi pc z : Nat} {L : am_L} {g : am_G} {t : Nat} (hW : am_Wk p R s m args c xs Ln D cA ad A mi) (hcs : 1 ≤ R.cells ∧ 6 ≤ R.slots) (hret : meth.sig.returnType = am_rt mi) (hlocks : meth.locks = false)
    (hpl : am_isPl mi pc = true) (h1 : am_step (mi, pc, L, [], g, t) = some (.inl (mi, pc + 1, L, [.int (Int32.ofNat z)], g, t))) (h2 : am_step (mi, pc + 1, L, [.int (Int32.ofNat z)], g, t) = some (.inr (.inr (.inr (.inl (.inl (some (.int (Int32.ofNat z))), g, t + 1)))))) :
    am_PW p l e R s m args below meth c 1 6 (MQ below (am_Qm xs Ln D cA ad A g (some (.int (Int32.ofNat z)))) args s 1 6 A) xs Ln D cA ad A (mi, pc, L, [], g, t) :=
  am_PW_st hW hcs hpl h1 (am_fin_sound (t1 := t + 1) hW hret hlocks h2 (Or.inl rfl))
theorem am_met4 {a : Nat} {as : List Value} {g g1 : am_G} {t t1 k : Nat} {vo : Option Value} (hkd : am_kd a = 4) (hw : am_wt as ≤ am_maxL a) (hG : am_Gx xs Ln g) (hev : am_eval k (a, 0, am_args 0 as, [], g, t) = some (.inl vo, g1, t1)) :
    Met l (am_y a) (am_cw a) (am_rm a) (va_Pc (as.map (am_cv ad)) (am_B xs Ln D cA ad A g)) (am_Qm xs Ln D cA ad A g1 vo) 0 0 A := by
  obtain ⟨hM, h6, h88⟩ := am_okM_4 hkd
  unfold am_okM at hM
  simp only [Bool.and_eq_true, decide_eq_true_eq] at hM
  obtain ⟨⟨⟨⟨⟨h1, h2⟩, h3⟩, h4⟩, h5⟩, h6⟩ := hM
  refine Met.ofW h3 rfl (fun p e s m args below meth c s₁ B hml hPc => ?_)
  obtain ⟨rfl, hX, hP, hD⟩ := hPc
  have hts := atoms_spec (ws := am_cw a) B.pre
  have hown := findClass_of_methodNamed B.named
  have hWk : am_Wk p (headSpec (am_cw a) (am_rm a)).room s m (as.map (am_cv ad)).toArray c xs Ln D cA ad A a := ⟨B.exec, B.bytes, hml, hown, fun w hw => hts w (List.mem_cons_of_mem _ hw), hX, Nat.le_refl _, Nat.le_refl _⟩
  rw [lg_entry_eq]
  refine am_walk k _ _ hev (by unfold am_wk; show (am_low a || Nat.beq (am_kd a) 4) = true; rw [hkd]; exact Bool.or_true _) p e _ s m _ below meth c 0 0 _ hWk ⟨Nat.zero_le _, Nat.zero_le _⟩ (fun st' act e1 e2 e3 => ?_) s.heap _ [] ⟨?_, hP, hD, ⟨Nat.le_refl _, fun _ _ _ => rfl, fun _ h => by cases h⟩, hG⟩
  · obtain ⟨mi', pc', L', S', g', t'⟩ := st'
    cases e1
    exact am_fin_sound hWk B.returns B.notSynchronized e2 e3
  · show lv_has _ _ (am_lc ad (am_args 0 as))
    rw [am_args_eq]
    exact lv_entry _ (by rw [am_sl_len]; exact hw)
theorem am_ok4 {mi pc n len nxt a b d w : Nat} {v : Value} (hk3 : am_kd mi = 3) (hok : am_okI mi pc (.invokevirtual n) len nxt v a b d w = true) : len = 3 ∧ am_word w (.methodLink (am_own mi) n (am_y a)) = true ∧ v = .ref (am_maxL a) ∧ (parseMethodDescriptor (am_y a).desc).map (fun q => q.parameters.length) = some d ∧ am_fr a + 1 ≤ am_fr mi ∧ 8 + (am_maxL a + 11) + am_lo a ≤ am_lo mi ∧ am_kd a = 4 ∧ ∃ T N, am_nth am_cl b = some (am_own a, T, N) := by
  cases hcl : am_nth am_cl b with
  | none => simp [am_okI, hcl] at hok
  | some q =>
    obtain ⟨C, T, N⟩ := q
    have e3 : Nat.beq (am_kd mi) 3 = true := by rw [hk3]; rfl
    simp only [am_okI, hcl, e3, am_callok, cond_true, Bool.and_eq_true, decide_eq_true_eq] at hok
    obtain ⟨⟨rfl, rfl⟩, ⟨⟨hl1, ⟨⟨hl2, hl3⟩, hl4⟩, hl5⟩, hl6⟩, hl7⟩ := hok
    exact ⟨rfl, hl1, hl2, hl3, hl4, hl5, Nat.eq_of_beq_eq_true hl7, T, N, by rw [← hl6]⟩
theorem am_call4 {mi pc n len nxt a b d w k : Nat} {v : Value} {L' : am_L} {S as r0 : List Value} {fs : List (Option Nat)} {g g1 : am_G} {vo : Option Value}
    (hW : am_Wk p R s m args c xs Ln D cA ad A mi) (hcs : cells ≤ R.cells ∧ slots ≤ R.slots) (hk3 : am_kd mi = 3) (hdec : decode (am_bytes mi) pc = .ok (.invokevirtual n, len)) (hok : am_okI mi pc (.invokevirtual n) len nxt v a b d w = true)
    (hpop : am_pop d S [] = some (as, .ref k :: r0)) (ho : am_ob k = some (.inr (b, fs))) (hr8 : am_wt r0 ≤ 8) {H : Heap} {ls : Array Slot} {locs : List Loc} (hR : am_Rel xs Ln s D cA ad A mi L' g H ls locs)
    (hM : Met l (am_y a) (am_cw a) (am_rm a) (va_Pc ((Value.ref k :: as).map (am_cv ad)) (am_B xs Ln D cA ad A g)) (am_Qm xs Ln D cA ad A g1 vo) 0 0 A)
    (kk : ∀ (H1 : Heap) (locs1 : List Loc), am_Rel xs Ln s D cA ad A mi L' g1 H1 ls locs1 → W p l e R s m args below meth c H1 locs1 cells slots Q (F0 m (pc + 3) ls ((vo.toList ++ r0).map (am_cv ad)))) :
    W p l e R s m args below meth c H locs cells slots Q (F0 m pc ls (S.map (am_cv ad))) := by
  obtain ⟨hx, hb, hml, hown, hts, hXX, hF, hLo⟩ := hW
  obtain ⟨hl, hP, hD, hS, hG⟩ := hR
  obtain ⟨rfl, hl1, hl2, hl3, hl4, hl5, hkd, T, N, hcl⟩ := am_ok4 hk3 hok
  obtain ⟨hokm, -, -⟩ := am_okM_4 hkd
  unfold am_okM at hokm
  rw [show Nat.beq (am_kd a) 1 = false by rw [hkd]; rfl] at hokm
  simp only [Bool.and_eq_true, decide_eq_true_eq, cond_false] at hokm
  obtain ⟨⟨⟨⟨⟨m1, m2⟩, m3⟩, m4⟩, m5⟩, m6, m7⟩ := hokm
  obtain ⟨ys, y1, y2, y3⟩ := am_pop_spec d S [] as _ hpop
  rw [List.append_nil] at y2
  have hc : am_cl[b]? = some (am_own a, T, N) := by rw [← am_nth_get]; exact hcl
  have hcw : CallW R s args (am_own mi) (am_own a) n (am_y a) (am_bytes a) (am_maxL a) (am_rt a) (am_cw a) (am_rm a) 0 0 d :=
    ⟨callB_of d hts (am_good_cw m1) rfl rfl rfl (hts _ (am_word_in m2)) (hts _ (am_word_in hl1)) ⟨m4, m5, hl3⟩ ⟨by show am_fr a + 1 ≤ R.frames; omega, by show 8 + (am_maxL a + 11) + am_lo a ≤ R.locals; omega⟩, hts _ (am_word_in m6), hts _ (am_word_in m7)⟩
  have hrec := va_recv hXX.1 hP hc (am_ob_get ho).2
  refine am_callr (vv := vo.map (am_cv ad)) (B := am_Bq xs Ln D cA ad A g1) (rest := r0.map (am_cv ad)) (va_runV (As := as.map (am_cv ad)) (b := ad k) (Ts := am_WG) ⟨hx, hb, hml, hown, hts⟩ hM hcw ⟨am_blind, hrec, am_pre_any hXX hS hP hD⟩ rfl ?_ hl.1 ?_ (lv_room (by rw [am_wt_cat]; exact hr8)) hdec hcs) hS (fun t2 H1 locs1 e1 hB hS1 => ?_)
  · rw [List.length_map, y2, List.length_reverse]; exact y3
  · show S.map (am_cv ad) = (as.map (am_cv ad)).reverse ++ .ref (ad k) :: r0.map (am_cv ad)
    rw [y1, y2, List.map_append, List.map_reverse, List.reverse_reverse]; rfl
  · obtain ⟨q1, q2, q3⟩ := hB
    rw [am_map_app]
    exact kk H1 locs1 ⟨hl, by rw [← e1]; exact q1, q2, hS1, q3⟩
end
