def am_rm4 (a : Nat) : Room := { frames := am_fr a, cells := 1, slots := 6, locals := am_lo a }
def am_B4 (xs : Nat → Int32) (Ln : Nat) (D : va_G) (cA : Nat → ClassId) (ad : Nat → Nat) (A : Nat → Prop) (g : am_G) (U : State) : Prop := am_B xs Ln D cA ad A g U ∧ am_Xt A U
def am_Qh (xs : Nat → Int32) (Ln : Nat) (D : va_G) (cA : Nat → ClassId) (ad : Nat → Nat) (A : Nat → Prop) (g : am_G) (x : Nat) : Array Value → State → Outcome → State → Prop := fun _ st o t => ∃ (adr : Nat) (ce : Cell) (L : List Loc), o = .threw adr ∧ st.WarmedH t.vm ∧ st.sameButNew ({ t with vm := st.vm } : State) L 1 6 ∧ (∀ q ∈ L, A q.base) ∧ t.heap[adr]? = some ce ∧ st.vm.findClass (am_ex x) = some ce.cls ∧ ce.vm = .none ∧ am_Bq xs Ln D cA ad A g t ∧ va_F A st t
theorem am_code_mem {mi pc : Nat} {e : am_E} (h : am_code mi pc = some e) : ∃ u t c, am_nth am_tabs (mi / 12) = some u ∧ am_nth u (mi % 12) = some t ∧ c ∈ t ∧ (pc, e) ∈ c := by
  unfold am_code at h
  split at h
  · rename_i u hu
    split at h
    · rename_i t ht
      split at h
      · rename_i c hc
        exact ⟨u, t, c, hu, ht, am_nth_mem hc, am_find_mem h⟩
      · cases h
    · cases h
  · cases h
def am_newB (l : List (Nat × Nat × Nat × Nat)) (t : List (List (Nat × am_E))) : Bool := t.all (fun c => c.all (fun q => match q.2.1 with
  | .new n => l.any (fun z => decide (z.1 = q.1) && decide (z.2.1 = n) && decide (z.2.2.2 = q.2.2.2.2.2.1))
  | _ => true))
def am_nw10 : List (Nat × Nat × Nat × Nat) := [(7, 141, 143, 3), (42, 102, 104, 1), (61, 156, 158, 4), (95, 170, 172, 5)]
def am_nw12 : List (Nat × Nat × Nat × Nat) := [(25, 92, 94, 0), (62, 102, 104, 1), (106, 111, 113, 2)]
theorem am_new10 : am_newB am_nw10 am_t10 = true := by decide +kernel
theorem am_new12 : am_newB am_nw12 am_t12 = true := by decide +kernel
theorem am_kd4 : (List.range 121).all (fun a => !Nat.beq (am_kd a) 4 || (Nat.beq a 10 || Nat.beq a 12)) = true := by decide +kernel
theorem am_kd4_of {a : Nat} (h : am_kd a = 4) : a = 10 ∨ a = 12 := by
  by_cases ha : a < 121
  · have := List.all_eq_true.mp am_kd4 a (List.mem_range.mpr ha)
    rw [h] at this
    simp only [show Nat.beq 4 4 = true from rfl, Bool.not_true, Bool.false_or, Bool.or_eq_true] at this
    rcases this with z | z
    · exact Or.inl (Nat.eq_of_beq_eq_true z)
    · exact Or.inr (Nat.eq_of_beq_eq_true z)
  · exfalso
    have e : am_m a = (⟨"", "", ""⟩, code, 0, none, 0, 0, 9, 0, 0, 0, 0) := by
      unfold am_m
      rw [am_nth_get, List.getElem?_eq_none (by rw [am_len_ms]; omega)]
      rfl
    unfold am_kd at h
    rw [e] at h
    cases h
theorem am_new_use {l : List (Nat × Nat × Nat × Nat)} {t c : List (List (Nat × am_E))} {cc : List (Nat × am_E)} {pc n nxt kp : Nat} {v : Value} {a b d w : Nat} (h : am_newB l t = true) (hc : cc ∈ t) (he : (pc, (Instr.new n, nxt, kp, v, a, b, d, w)) ∈ cc) : ∃ ic, (pc, n, ic, a) ∈ l := by
  unfold am_newB at h
  rw [List.all_eq_true] at h
  have h1 := h cc hc
  rw [List.all_eq_true] at h1
  have h2 := h1 _ he
  dsimp only at h2
  rw [List.any_eq_true] at h2
  obtain ⟨⟨z1, z2, z3, z4⟩, hz, h3⟩ := h2
  simp only [Bool.and_eq_true, decide_eq_true_eq] at h3
  obtain ⟨⟨rfl, rfl⟩, rfl⟩ := h3
  exact ⟨z3, hz⟩
theorem am_site_of {mi pc n nxt kp : Nat} {v : Value} {a b d w : Nat} (hk : am_kd mi = 4) (h : am_code mi pc = some (.new n, nxt, kp, v, a, b, d, w)) : ∃ ic, am_thB mi pc n ic a = true := by
  obtain ⟨u, t, c, hu, ht, hc, he⟩ := am_code_mem h
  rcases am_kd4_of hk with rfl | rfl
  · have e1 : am_nth am_tabs (10 / 12) = some [am_t0, am_t1, am_t2, am_t3, am_t4, am_t5, am_t6, am_t7, am_t8, am_t9, am_t10, am_t11] := rfl
    cases e1.symm.trans hu
    have e2 : am_nth [am_t0, am_t1, am_t2, am_t3, am_t4, am_t5, am_t6, am_t7, am_t8, am_t9, am_t10, am_t11] (10 % 12) = some am_t10 := rfl
    cases e2.symm.trans ht
    obtain ⟨ic, hm⟩ := am_new_use (c := []) am_new10 hc he
    refine ⟨ic, ?_⟩
    simp only [am_nw10, List.mem_cons, Prod.mk.injEq, List.not_mem_nil, or_false] at hm
    rcases hm with ⟨rfl, rfl, rfl, rfl⟩ | ⟨rfl, rfl, rfl, rfl⟩ | ⟨rfl, rfl, rfl, rfl⟩ | ⟨rfl, rfl, rfl, rfl⟩
    · exact am_th_1
    · exact am_th_2
    · exact am_th_3
    · exact am_th_4
  · have e1 : am_nth am_tabs (12 / 12) = some [am_t12, am_t13, am_t14, am_t15, am_t16, am_t17, am_t18, am_t19, am_t20, am_t21, am_t22, am_t23] := rfl
    cases e1.symm.trans hu
    have e2 : am_nth [am_t12, am_t13, am_t14, am_t15, am_t16, am_t17, am_t18, am_t19, am_t20, am_t21, am_t22, am_t23] (12 % 12) = some am_t12 := rfl
    cases e2.symm.trans ht
    obtain ⟨ic, hm⟩ := am_new_use (c := []) am_new12 hc he
    refine ⟨ic, ?_⟩
    simp only [am_nw12, List.mem_cons, Prod.mk.injEq, List.not_mem_nil, or_false] at hm
    rcases hm with ⟨rfl, rfl, rfl, rfl⟩ | ⟨rfl, rfl, rfl, rfl⟩ | ⟨rfl, rfl, rfl, rfl⟩
    · exact am_th_5
    · exact am_th_6
    · exact am_th_7
theorem am_okM_10 : am_okM 10 = true := by decide +kernel
theorem am_okM_12 : am_okM 12 = true := by decide +kernel
theorem am_rm_10 : 6 ≤ am_fr 10 ∧ 88 ≤ am_lo 10 ∧ 6 ≤ am_fr 12 ∧ 88 ≤ am_lo 12 := by decide +kernel
theorem am_okM_4 {a : Nat} (h : am_kd a = 4) : am_okM a = true ∧ 6 ≤ am_fr a ∧ 88 ≤ am_lo a := by
  rcases am_kd4_of h with rfl | rfl
  · exact ⟨am_okM_10, am_rm_10.1, am_rm_10.2.1⟩
  · exact ⟨am_okM_12, am_rm_10.2.2⟩
section
variable {l : Launch} {xs : Nat → Int32} {Ln : Nat} {D : va_G} {cA : Nat → ClassId} {ad : Nat → Nat} {A : Nat → Prop}
theorem am_fin_new {mi pc : Nat} {L : am_L} {S : List Value} {g g1 : am_G} {t t1 x : Nat} {act : am_A} (hs : am_step (mi, pc, L, S, g, t) = some act) (hf : am_fin act (.inr x, g1, t1)) : ∃ n nxt kp v b d w, am_code mi pc = some (.new n, nxt, kp, v, x, b, d, w) ∧ S = [] ∧ g1 = g := by
  obtain ⟨i, nxt, kp, v, a, b, d, w, L', hc, hsub, h⟩ := am_step_inv hs
  have nopl : am_plain i b = true → False := by
    intro hp
    have := am_do_sh hp h
    rcases hf with e | e <;> rw [e] at this <;> exact this
  cases i with
  | new n =>
    change am_thr S g t a = some act at h
    unfold am_thr at h
    split at h
    · have ea := Option.some.inj h
      rcases hf with e | e
      · rw [e] at ea
        simp only [Sum.inr.injEq, Sum.inl.injEq, Prod.mk.injEq] at ea
        obtain ⟨rfl, rfl, rfl⟩ := ea
        exact ⟨n, nxt, kp, v, b, d, w, hc, rfl, rfl⟩
      · rw [e] at ea; cases ea
    · cases h
  | ireturn =>
    change am_irt S g t d = some act at h
    unfold am_irt at h
    split at h
    · split at h <;> (have ea := Option.some.inj h; rcases hf with e | e <;> rw [e] at ea <;> simp at ea)
    · cases h
  | areturn =>
    change am_art S g t = some act at h
    unfold am_art at h
    split at h
    · have ea := Option.some.inj h
      rcases hf with e | e <;> rw [e] at ea <;> simp at ea
    · cases h
  | return_ =>
    change am_vrt S g t = some act at h
    unfold am_vrt at h
    split at h
    · have ea := Option.some.inj h
      rcases hf with e | e <;> rw [e] at ea <;> simp at ea
    · cases h
  | invokevirtual n =>
    obtain ⟨ml, as, k, r, fs, rfl, hp, ho, h2⟩ := am_iv_inv h
    obtain ⟨_, _, ea⟩ := am_call_inv h2
    rcases hf with e | e <;> rw [e] at ea <;> cases ea
  | invokestatic n =>
    change (bif Nat.beq b 1 then am_mx mi nxt L' S g t (fun x y => if x < y then y else x) else bif Nat.beq b 2 then am_mx mi nxt L' S g t (fun x y => if y < x then y else x) else am_is mi pc L' S g t v a d) = some act at h
    cases h1 : Nat.beq b 1 with
    | true => exact (nopl (by show (Nat.beq b 1 || Nat.beq b 2) = true; rw [h1]; rfl)).elim
    | false =>
      cases h2 : Nat.beq b 2 with
      | true => exact (nopl (by show (Nat.beq b 1 || Nat.beq b 2) = true; rw [h2, Bool.or_true])).elim
      | false =>
        rw [h1, h2] at h
        obtain ⟨ml, as, r, rfl, hp, h3⟩ := am_is_inv h
        obtain ⟨_, _, ea⟩ := am_call_inv h3
        rcases hf with e | e <;> rw [e] at ea <;> cases ea
  | _ => exact (nopl rfl).elim
theorem am_metT {a : Nat} {as : List Value} {g g1 : am_G} {t t1 x k : Nat} (hlt : l.stackTraces = false) (hkd : am_kd a = 4) (hw : am_wt as ≤ am_maxL a) (hG : am_Gx xs Ln g) (hev : am_eval k (a, 0, am_args 0 as, [], g, t) = some (.inr x, g1, t1)) :
    MetFree l (am_y a) (headSpec (am_cw a) (am_rm4 a)) (va_Pc (as.map (am_cv ad)) (am_B4 xs Ln D cA ad A g)) (fun _ _ _ _ _ => True) (am_Qh xs Ln D cA ad A g1 x) := by
  obtain ⟨hM, h6, h88⟩ := am_okM_4 hkd
  unfold am_okM at hM
  simp only [Bool.and_eq_true, decide_eq_true_eq] at hM
  obtain ⟨⟨⟨⟨⟨m1, m2⟩, m3⟩, m4⟩, m5⟩, m6⟩ := hM
  refine MetFree.of_bodyS (code := am_bytes a) (maxLocals := am_maxL a) (ret := am_rt a) m3 ?_ ?_
  · intro args s m h hn
    obtain ⟨meth, c, h1, h2, h3, h4, h5, h6, -, -⟩ := Cond.code_spec hn (atoms_spec (ws := am_cw a) h _ List.mem_cons_self)
    exact ⟨meth, c, h1, h2, h3, h4, h5, h6⟩
  · intro p e s m args below meth c s₁ B hml hP _
    obtain ⟨rfl, ⟨hX, hPP, hD⟩, hXt⟩ := hP
    have hts := atoms_spec (ws := am_cw a) B.pre
    have hown := findClass_of_methodNamed B.named
    have X₀ : Stand p l e (am_rm4 a) s m (as.map (am_cv ad)).toArray below meth c s₁ [] 0 0 := Stand.of_body B
    have hh0 : s₁.heap = s.heap := by rw [B.state]; rfl
    have htab : c.exceptionTable.toList = [] := by
      obtain ⟨meth', c', h1, h2, -, -, -, -, h7, -⟩ := Cond.code_spec B.named (hts _ List.mem_cons_self)
      cases h1.symm.trans B.method
      cases h2.symm.trans X₀.code
      have h0 : c.exceptionTable.size = 0 := by simpa [Array.isEmpty] using h7
      exact List.eq_nil_of_length_eq_zero (by simpa using h0)
    have hWk : am_Wk p (am_rm4 a) s m (as.map (am_cv ad)).toArray c xs Ln D cA ad A a := ⟨B.exec, B.bytes, hml, hown, fun w hw => hts w (List.mem_cons_of_mem _ hw), hX, Nat.le_refl _, Nat.le_refl _⟩
    have K : am_PW p l e (am_rm4 a) s m (as.map (am_cv ad)).toArray below meth c 0 0 (fun t2 => ∃ adr, t2.status = .running ∧ Ended t2 below (.threw adr) ∧ am_Qh xs Ln D cA ad A g1 x (as.map (am_cv ad)).toArray s (.threw adr) t2) xs Ln D cA ad A (a, 0, am_args 0 as, [], g, t) := by
      refine am_walk k _ _ hev (by unfold am_wk; show (am_low a || Nat.beq (am_kd a) 4) = true; rw [hkd]; exact Bool.or_true _) p e (am_rm4 a) s m _ below meth c 0 0 _ hWk ⟨Nat.zero_le _, Nat.zero_le _⟩ (fun st' act e1 e2 e3 => ?_)
      obtain ⟨mi', pc', L', S', g', t'⟩ := st'
      cases e1
      intro H ls locs hR
      obtain ⟨n, nxt, kp, v, b, d, w, hc, rfl, rfl⟩ := am_fin_new e2 e3
      obtain ⟨ic, hsite⟩ := am_site_of hkd hc
      obtain ⟨hl, hP2, hD2, hS2, hG2⟩ := hR
      refine am_throwW (Q := fun t2 => ∃ adr, t2.status = .running ∧ Ended t2 below (.threw adr) ∧ am_Qh xs Ln D cA ad A g1 x (as.map (am_cv ad)).toArray s (.threw adr) t2) hlt B.exec B.bytes hown (fun w hw => hts w (List.mem_cons_of_mem _ hw)) hXt hS2 hsite htab (Nat.le_refl 1) (Nat.le_refl 6) h6 h88 (by rw [hl.1]; exact hml.symm) B.notSynchronized (fun t2 hq => ?_)
      obtain ⟨adr, ce, v1, v2, v3, v4, v5, v6, v7, v8, v9, v10⟩ := hq
      refine ⟨adr, v1, v2, adr, ce, locs, rfl, v3, v4, hS2.2.2, v5, v6, v7, ⟨hP2.kept (fun k q hk => v9 q.1 ((hP2 k q hk).lt)), hD2, hG2⟩, ⟨Nat.le_trans hS2.1 v8, fun q h1 h2 => ?_⟩⟩
      rw [v9 q (Nat.lt_of_lt_of_le h1 hS2.1)]
      exact hS2.2.1 q h1 h2
    have K2 := K s.heap ((lg_sl (as.map (am_cv ad)) ++ List.replicate (am_maxL a - (lg_sl (as.map (am_cv ad))).length) Slot.unset).toArray) [] ⟨by
      show lv_has _ _ (am_lc ad (am_args 0 as))
      rw [am_args_eq]
      exact lv_entry _ (by rw [am_sl_len]; exact hw), hPP, hD, ⟨Nat.le_refl _, fun _ _ _ => rfl, fun _ h => by cases h⟩, hG⟩
    obtain ⟨t2, a1, adr, b1, b2, b3⟩ := K2 s₁ hh0 X₀
    refine ⟨t2, .threw adr, ?_, b1, b2, b3⟩
    rw [lg_entry_eq]
    exact a1
end
