def am_Kn (P : am_S → Prop) (act : am_A) : Prop := match act with
  | .inl s => P s
  | .inr (.inl (b, s)) => b = true ∧ P s
  | .inr (.inr (.inl (.inl (q, x, y, s1, s2)))) => (am_cmp q x y = true → P s1) ∧ (am_cmp q x y = false → P s2)
  | .inr (.inr (.inl (.inr (b, q, x, y, s1, s2)))) => b = true ∧ (am_cmp q x y = true → P s1) ∧ (am_cmp q x y = false → P s2)
  | .inr (.inr (.inr (.inr (.inr (.inr s))))) => P s
  | _ => False
def am_PW (p : Program) (l : Launch) (e : Env) (R : Room) (s : State) (m : MethodId) (args : Array Value) (below : List Frame) (meth : Method) (c : Code) (cells slots : Nat) (Q : State → Prop) (xs : Nat → Int32) (Ln : Nat) (D : va_G) (cA : Nat → ClassId) (ad : Nat → Nat) (A : Nat → Prop) (st : am_S) : Prop :=
  ∀ (H : Heap) (ls : Array Slot) (locs : List Loc), am_Rel xs Ln s D cA ad A st.1 st.2.2.1 st.2.2.2.2.1 H ls locs → W p l e R s m args below meth c H locs cells slots Q (F0 m st.2.1 ls (st.2.2.2.1.map (am_cv ad)))
def am_clB (q : vw_C) : Bool := (u_ws q.1 q.2.1 q.2.2).all (fun w => decide (w ∈ am_WG)) && (List.range q.2.2).all (fun k => (parseFieldDescriptor (q.2.1 k).2.2.1).isSome) && (List.range q.2.2).all (fun x => (List.range q.2.2).all (fun y => decide (x = y) || decide ((q.2.1 x).2.1 ≠ (q.2.1 y).2.1)))
theorem am_clB_ok : am_cl.all am_clB = true := by decide +kernel
theorem am_clok {ci : Nat} {C : String} {T : u_T} {N : Nat} (h : am_nth am_cl ci = some (C, T, N)) : (∀ w ∈ u_ws C T N, w ∈ am_WG) ∧ (∃ ty0 : Nat → FieldType, ∀ k, k < N → parseFieldDescriptor (T k).2.2.1 = some (ty0 k)) ∧ (∀ x, x < N → ∀ y, y < N → x ≠ y → (T x).2.1 ≠ (T y).2.1) := by
  have h0 := List.all_eq_true.mp am_clB_ok _ (am_nth_mem h)
  unfold am_clB at h0
  rw [Bool.and_eq_true, Bool.and_eq_true, List.all_eq_true, List.all_eq_true, List.all_eq_true] at h0
  obtain ⟨⟨h1, h2⟩, h3⟩ := h0
  refine ⟨fun w hw => of_decide_eq_true (h1 w hw), ⟨fun k => (parseFieldDescriptor (T k).2.2.1).getD .int, fun k hk => ?_⟩, fun x hx y hy hn => ?_⟩
  · obtain ⟨z, hz⟩ := Option.isSome_iff_exists.mp (h2 k (List.mem_range.mpr hk))
    dsimp only at hz
    show parseFieldDescriptor (T k).2.2.1 = some ((parseFieldDescriptor (T k).2.2.1).getD .int)
    rw [hz]; rfl
  · have h4 := h3 x (List.mem_range.mpr hx)
    rw [List.all_eq_true] at h4
    have h5 := h4 y (List.mem_range.mpr hy)
    rw [Bool.or_eq_true, decide_eq_true_eq, decide_eq_true_eq] at h5
    exact h5.resolve_left hn
def am_mathB (y : MethodName) (cc : ByteArray) (wS wI wC : Nat) : Bool := am_word wS (.static y) && am_word wI (.initialized "java/lang/Math") && am_word wC (.code y cc 2 (some .int))
theorem am_Gx_w {xs : Nat → Int32} {Ln : Nat} {g : am_G} (h : am_Gx xs Ln g) {k i : Nat} {v : Int32} (hk : 8 ≤ k) : am_Gx xs Ln (am_w g k i v) := by
  obtain ⟨h1, h2, h3⟩ := h
  refine ⟨h1, fun j hj => ?_, ?_⟩
  · rw [am_w_k (by omega)]; exact h2 j hj
  · rw [am_w_k (by omega)]; exact h3
theorem am_wt_cat (ad : Nat → Nat) : ∀ (r : List Value), ((r.map (am_cv ad)).map (fun v => v.category)).sum = am_wt r
  | [] => rfl
  | v :: r => by
    rw [List.map_cons, List.map_cons, List.sum_cons, am_cat, am_wt_cat ad r, am_wt]
    cases v <;> simp [am_two, Value.category, Nat.add_comm]

theorem am_max_ok : am_mathB Lib.Math.max.name Lib.Math.max.code 747 52 748 = true := by decide +kernel
theorem am_min_ok : am_mathB Lib.Math.min.name Lib.Math.min.code 555 52 556 = true := by decide +kernel
section
variable {p : Program} {l : Launch} {e : Env} {R : Room} {s : State} {m : MethodId} {args : Array Value} {below : List Frame} {meth : Method} {c : Code} {cells slots : Nat} {Q : State → Prop} {xs : Nat → Int32} {Ln : Nat} {D : va_G} {cA : Nat → ClassId} {ad : Nat → Nat} {A : Nat → Prop}
variable {mi pc nxt len a b d w t : Nat} {v : Value} {L : am_L} {S : List Value} {g : am_G} {act : am_A} {H : Heap} {ls : Array Slot} {locs : List Loc}
theorem am_s_iconst {n : Int} (hW : am_Wk p R s m args c xs Ln D cA ad A mi) (hcs : cells ≤ R.cells ∧ slots ≤ R.slots) (hdec : decode (am_bytes mi) pc = .ok (.iconst n, len)) (hok : am_okI mi pc (.iconst n) len nxt v a b d w = true) (h : am_do (.iconst n) nxt v a b d mi pc L S g t = some act) (hk : am_Kn (am_PW p l e R s m args below meth c cells slots Q xs Ln D cA ad A) act) (hR : am_Rel xs Ln s D cA ad A mi L g H ls locs) : W p l e R s m args below meth c H locs cells slots Q (F0 m pc ls (S.map (am_cv ad))) := by
  obtain ⟨hx, hb, hml, hown, hts, ⟨hK, hE, hX, hbl, hbA, hN, hA⟩, hF, hLo⟩ := hW
  obtain ⟨hl, hP, hD, hS, hG⟩ := hR
  simp only [am_okI, Bool.and_eq_true, decide_eq_true_eq] at hok
  obtain ⟨⟨rfl, rfl⟩, rfl⟩ := hok
  cases Option.some.inj h
  exact lv_iconst hx hb hdec rfl (hk H ls locs ⟨hl, hP, hD, hS, hG⟩)
theorem am_s_bipush {n : Int} (hW : am_Wk p R s m args c xs Ln D cA ad A mi) (hcs : cells ≤ R.cells ∧ slots ≤ R.slots) (hdec : decode (am_bytes mi) pc = .ok (.bipush n, len)) (hok : am_okI mi pc (.bipush n) len nxt v a b d w = true) (h : am_do (.bipush n) nxt v a b d mi pc L S g t = some act) (hk : am_Kn (am_PW p l e R s m args below meth c cells slots Q xs Ln D cA ad A) act) (hR : am_Rel xs Ln s D cA ad A mi L g H ls locs) : W p l e R s m args below meth c H locs cells slots Q (F0 m pc ls (S.map (am_cv ad))) := by
  obtain ⟨hx, hb, hml, hown, hts, ⟨hK, hE, hX, hbl, hbA, hN, hA⟩, hF, hLo⟩ := hW
  obtain ⟨hl, hP, hD, hS, hG⟩ := hR
  simp only [am_okI, Bool.and_eq_true, decide_eq_true_eq] at hok
  obtain ⟨⟨rfl, rfl⟩, rfl⟩ := hok
  cases Option.some.inj h
  exact lv_bipush hx hb hdec rfl (hk H ls locs ⟨hl, hP, hD, hS, hG⟩)
theorem am_s_sipush {n : Int} (hW : am_Wk p R s m args c xs Ln D cA ad A mi) (hcs : cells ≤ R.cells ∧ slots ≤ R.slots) (hdec : decode (am_bytes mi) pc = .ok (.sipush n, len)) (hok : am_okI mi pc (.sipush n) len nxt v a b d w = true) (h : am_do (.sipush n) nxt v a b d mi pc L S g t = some act) (hk : am_Kn (am_PW p l e R s m args below meth c cells slots Q xs Ln D cA ad A) act) (hR : am_Rel xs Ln s D cA ad A mi L g H ls locs) : W p l e R s m args below meth c H locs cells slots Q (F0 m pc ls (S.map (am_cv ad))) := by
  obtain ⟨hx, hb, hml, hown, hts, ⟨hK, hE, hX, hbl, hbA, hN, hA⟩, hF, hLo⟩ := hW
  obtain ⟨hl, hP, hD, hS, hG⟩ := hR
  simp only [am_okI, Bool.and_eq_true, decide_eq_true_eq] at hok
  obtain ⟨⟨rfl, rfl⟩, rfl⟩ := hok
  cases Option.some.inj h
  exact lv_sipush hx hb hdec rfl (hk H ls locs ⟨hl, hP, hD, hS, hG⟩)
theorem am_s_ldc {n : Nat} (hW : am_Wk p R s m args c xs Ln D cA ad A mi) (hcs : cells ≤ R.cells ∧ slots ≤ R.slots) (hdec : decode (am_bytes mi) pc = .ok (.ldc n, len)) (hok : am_okI mi pc (.ldc n) len nxt v a b d w = true) (h : am_do (.ldc n) nxt v a b d mi pc L S g t = some act) (hk : am_Kn (am_PW p l e R s m args below meth c cells slots Q xs Ln D cA ad A) act) (hR : am_Rel xs Ln s D cA ad A mi L g H ls locs) : W p l e R s m args below meth c H locs cells slots Q (F0 m pc ls (S.map (am_cv ad))) := by
  obtain ⟨hx, hb, hml, hown, hts, ⟨hK, hE, hX, hbl, hbA, hN, hA⟩, hF, hLo⟩ := hW
  obtain ⟨hl, hP, hD, hS, hG⟩ := hR
  cases v with
  | int z =>
    simp only [am_okI, Bool.and_eq_true, decide_eq_true_eq] at hok
    obtain ⟨⟨rfl, rfl⟩, h3⟩ := hok
    cases Option.some.inj h
    exact lv_ldc hx hb hown (hts _ (am_word_in h3)) hdec (hk H ls locs ⟨hl, hP, hD, hS, hG⟩)
  | _ => simp [am_okI] at hok
theorem am_s_ldc_w {n : Nat} (hW : am_Wk p R s m args c xs Ln D cA ad A mi) (hcs : cells ≤ R.cells ∧ slots ≤ R.slots) (hdec : decode (am_bytes mi) pc = .ok (.ldc_w n, len)) (hok : am_okI mi pc (.ldc_w n) len nxt v a b d w = true) (h : am_do (.ldc_w n) nxt v a b d mi pc L S g t = some act) (hk : am_Kn (am_PW p l e R s m args below meth c cells slots Q xs Ln D cA ad A) act) (hR : am_Rel xs Ln s D cA ad A mi L g H ls locs) : W p l e R s m args below meth c H locs cells slots Q (F0 m pc ls (S.map (am_cv ad))) := by
  obtain ⟨hx, hb, hml, hown, hts, ⟨hK, hE, hX, hbl, hbA, hN, hA⟩, hF, hLo⟩ := hW
  obtain ⟨hl, hP, hD, hS, hG⟩ := hR
  cases v with
  | int z =>
    simp only [am_okI, Bool.and_eq_true, decide_eq_true_eq] at hok
    obtain ⟨⟨rfl, rfl⟩, h3⟩ := hok
    cases Option.some.inj h
    exact lv_ldcw hx hb hown (hts _ (am_word_in h3)) hdec (hk H ls locs ⟨hl, hP, hD, hS, hG⟩)
  | _ => simp [am_okI] at hok
theorem am_s_ldc2_w {n : Nat} (hW : am_Wk p R s m args c xs Ln D cA ad A mi) (hcs : cells ≤ R.cells ∧ slots ≤ R.slots) (hdec : decode (am_bytes mi) pc = .ok (.ldc2_w n, len)) (hok : am_okI mi pc (.ldc2_w n) len nxt v a b d w = true) (h : am_do (.ldc2_w n) nxt v a b d mi pc L S g t = some act) (hk : am_Kn (am_PW p l e R s m args below meth c cells slots Q xs Ln D cA ad A) act) (hR : am_Rel xs Ln s D cA ad A mi L g H ls locs) : W p l e R s m args below meth c H locs cells slots Q (F0 m pc ls (S.map (am_cv ad))) := by
  obtain ⟨hx, hb, hml, hown, hts, ⟨hK, hE, hX, hbl, hbA, hN, hA⟩, hF, hLo⟩ := hW
  obtain ⟨hl, hP, hD, hS, hG⟩ := hR
  cases v with
  | long z =>
    simp only [am_okI, Bool.and_eq_true, decide_eq_true_eq] at hok
    obtain ⟨⟨rfl, rfl⟩, h3⟩ := hok
    cases Option.some.inj h
    exact lv_ldc2 hx hb hown (hts _ (am_word_in h3)) hdec (hk H ls locs ⟨hl, hP, hD, hS, hG⟩)
  | _ => simp [am_okI] at hok
theorem am_s_iload_n {n : Fin 4} (hW : am_Wk p R s m args c xs Ln D cA ad A mi) (hcs : cells ≤ R.cells ∧ slots ≤ R.slots) (hdec : decode (am_bytes mi) pc = .ok (.iload_n n, len)) (hok : am_okI mi pc (.iload_n n) len nxt v a b d w = true) (h : am_do (.iload_n n) nxt v a b d mi pc L S g t = some act) (hk : am_Kn (am_PW p l e R s m args below meth c cells slots Q xs Ln D cA ad A) act) (hR : am_Rel xs Ln s D cA ad A mi L g H ls locs) : W p l e R s m args below meth c H locs cells slots Q (F0 m pc ls (S.map (am_cv ad))) := by
  obtain ⟨hx, hb, hml, hown, hts, ⟨hK, hE, hX, hbl, hbA, hN, hA⟩, hF, hLo⟩ := hW
  obtain ⟨hl, hP, hD, hS, hG⟩ := hR
  simp only [am_okI, Bool.and_eq_true, decide_eq_true_eq] at hok
  obtain ⟨⟨rfl, rfl⟩, h3⟩ := hok
  obtain ⟨x, hf, rfl⟩ := am_iLd_inv h
  exact lv_iload_n hx hb hdec h3 (am_lv hl hf) (hk H ls locs ⟨hl, hP, hD, hS, hG⟩)
theorem am_s_lload_n {n : Fin 4} (hW : am_Wk p R s m args c xs Ln D cA ad A mi) (hcs : cells ≤ R.cells ∧ slots ≤ R.slots) (hdec : decode (am_bytes mi) pc = .ok (.lload_n n, len)) (hok : am_okI mi pc (.lload_n n) len nxt v a b d w = true) (h : am_do (.lload_n n) nxt v a b d mi pc L S g t = some act) (hk : am_Kn (am_PW p l e R s m args below meth c cells slots Q xs Ln D cA ad A) act) (hR : am_Rel xs Ln s D cA ad A mi L g H ls locs) : W p l e R s m args below meth c H locs cells slots Q (F0 m pc ls (S.map (am_cv ad))) := by
  obtain ⟨hx, hb, hml, hown, hts, ⟨hK, hE, hX, hbl, hbA, hN, hA⟩, hF, hLo⟩ := hW
  obtain ⟨hl, hP, hD, hS, hG⟩ := hR
  simp only [am_okI, Bool.and_eq_true, decide_eq_true_eq] at hok
  obtain ⟨⟨rfl, rfl⟩, h3⟩ := hok
  obtain ⟨x, hf, rfl⟩ := am_lLd_inv h
  exact lv_lload_n hx hb hdec h3 (am_lv hl hf) (hk H ls locs ⟨hl, hP, hD, hS, hG⟩)
theorem am_s_aload_n {n : Fin 4} (hW : am_Wk p R s m args c xs Ln D cA ad A mi) (hcs : cells ≤ R.cells ∧ slots ≤ R.slots) (hdec : decode (am_bytes mi) pc = .ok (.aload_n n, len)) (hok : am_okI mi pc (.aload_n n) len nxt v a b d w = true) (h : am_do (.aload_n n) nxt v a b d mi pc L S g t = some act) (hk : am_Kn (am_PW p l e R s m args below meth c cells slots Q xs Ln D cA ad A) act) (hR : am_Rel xs Ln s D cA ad A mi L g H ls locs) : W p l e R s m args below meth c H locs cells slots Q (F0 m pc ls (S.map (am_cv ad))) := by
  obtain ⟨hx, hb, hml, hown, hts, ⟨hK, hE, hX, hbl, hbA, hN, hA⟩, hF, hLo⟩ := hW
  obtain ⟨hl, hP, hD, hS, hG⟩ := hR
  simp only [am_okI, Bool.and_eq_true, decide_eq_true_eq] at hok
  obtain ⟨⟨rfl, rfl⟩, h3⟩ := hok
  obtain ⟨x, hf, rfl⟩ := am_aLd_inv h
  exact lv_aload_n hx hb hdec h3 (am_lv hl hf) (hk H ls locs ⟨hl, hP, hD, hS, hG⟩)
theorem am_s_iload {n : Nat} (hW : am_Wk p R s m args c xs Ln D cA ad A mi) (hcs : cells ≤ R.cells ∧ slots ≤ R.slots) (hdec : decode (am_bytes mi) pc = .ok (.iload n, len)) (hok : am_okI mi pc (.iload n) len nxt v a b d w = true) (h : am_do (.iload n) nxt v a b d mi pc L S g t = some act) (hk : am_Kn (am_PW p l e R s m args below meth c cells slots Q xs Ln D cA ad A) act) (hR : am_Rel xs Ln s D cA ad A mi L g H ls locs) : W p l e R s m args below meth c H locs cells slots Q (F0 m pc ls (S.map (am_cv ad))) := by
  obtain ⟨hx, hb, hml, hown, hts, ⟨hK, hE, hX, hbl, hbA, hN, hA⟩, hF, hLo⟩ := hW
  obtain ⟨hl, hP, hD, hS, hG⟩ := hR
  simp only [am_okI, Bool.and_eq_true, decide_eq_true_eq] at hok
  obtain ⟨⟨rfl, rfl⟩, rfl⟩ := hok
  obtain ⟨x, hf, rfl⟩ := am_iLd_inv h
  exact lv_iload hx hb hdec (am_lv hl hf) (hk H ls locs ⟨hl, hP, hD, hS, hG⟩)
theorem am_s_aload {n : Nat} (hW : am_Wk p R s m args c xs Ln D cA ad A mi) (hcs : cells ≤ R.cells ∧ slots ≤ R.slots) (hdec : decode (am_bytes mi) pc = .ok (.aload n, len)) (hok : am_okI mi pc (.aload n) len nxt v a b d w = true) (h : am_do (.aload n) nxt v a b d mi pc L S g t = some act) (hk : am_Kn (am_PW p l e R s m args below meth c cells slots Q xs Ln D cA ad A) act) (hR : am_Rel xs Ln s D cA ad A mi L g H ls locs) : W p l e R s m args below meth c H locs cells slots Q (F0 m pc ls (S.map (am_cv ad))) := by
  obtain ⟨hx, hb, hml, hown, hts, ⟨hK, hE, hX, hbl, hbA, hN, hA⟩, hF, hLo⟩ := hW
  obtain ⟨hl, hP, hD, hS, hG⟩ := hR
  simp only [am_okI, Bool.and_eq_true, decide_eq_true_eq] at hok
  obtain ⟨⟨rfl, rfl⟩, rfl⟩ := hok
  obtain ⟨x, hf, rfl⟩ := am_aLd_inv h
  exact lv_aload hx hb hdec (am_lv hl hf) (hk H ls locs ⟨hl, hP, hD, hS, hG⟩)
theorem am_s_istore_n {n : Fin 4} (hW : am_Wk p R s m args c xs Ln D cA ad A mi) (hcs : cells ≤ R.cells ∧ slots ≤ R.slots) (hdec : decode (am_bytes mi) pc = .ok (.istore_n n, len)) (hok : am_okI mi pc (.istore_n n) len nxt v a b d w = true) (h : am_do (.istore_n n) nxt v a b d mi pc L S g t = some act) (hk : am_Kn (am_PW p l e R s m args below meth c cells slots Q xs Ln D cA ad A) act) (hR : am_Rel xs Ln s D cA ad A mi L g H ls locs) : W p l e R s m args below meth c H locs cells slots Q (F0 m pc ls (S.map (am_cv ad))) := by
  obtain ⟨hx, hb, hml, hown, hts, ⟨hK, hE, hX, hbl, hbA, hN, hA⟩, hF, hLo⟩ := hW
  obtain ⟨hl, hP, hD, hS, hG⟩ := hR
  simp only [am_okI, Bool.and_eq_true, decide_eq_true_eq] at hok
  obtain ⟨⟨rfl, rfl⟩, h3, h4⟩ := hok
  obtain ⟨x, r, rfl, hn, rfl⟩ := am_iSt_inv h
  exact lv_istore_n hx hb hdec h3 hl h4 rfl (fun ls1 hl1 => hk H ls1 locs ⟨am_lput (v := .int x) hn hl1, hP, hD, hS, hG⟩)
theorem am_s_istore {n : Nat} (hW : am_Wk p R s m args c xs Ln D cA ad A mi) (hcs : cells ≤ R.cells ∧ slots ≤ R.slots) (hdec : decode (am_bytes mi) pc = .ok (.istore n, len)) (hok : am_okI mi pc (.istore n) len nxt v a b d w = true) (h : am_do (.istore n) nxt v a b d mi pc L S g t = some act) (hk : am_Kn (am_PW p l e R s m args below meth c cells slots Q xs Ln D cA ad A) act) (hR : am_Rel xs Ln s D cA ad A mi L g H ls locs) : W p l e R s m args below meth c H locs cells slots Q (F0 m pc ls (S.map (am_cv ad))) := by
  obtain ⟨hx, hb, hml, hown, hts, ⟨hK, hE, hX, hbl, hbA, hN, hA⟩, hF, hLo⟩ := hW
  obtain ⟨hl, hP, hD, hS, hG⟩ := hR
  simp only [am_okI, Bool.and_eq_true, decide_eq_true_eq] at hok
  obtain ⟨⟨rfl, rfl⟩, rfl, h4⟩ := hok
  obtain ⟨x, r, rfl, hn, rfl⟩ := am_iSt_inv h
  exact lv_istore hx hb hdec hl h4 rfl (fun ls1 hl1 => hk H ls1 locs ⟨am_lput (v := .int x) hn hl1, hP, hD, hS, hG⟩)
theorem am_s_iinc {n : Nat} {z : Int} (hW : am_Wk p R s m args c xs Ln D cA ad A mi) (hcs : cells ≤ R.cells ∧ slots ≤ R.slots) (hdec : decode (am_bytes mi) pc = .ok (.iinc n z, len)) (hok : am_okI mi pc (.iinc n z) len nxt v a b d w = true) (h : am_do (.iinc n z) nxt v a b d mi pc L S g t = some act) (hk : am_Kn (am_PW p l e R s m args below meth c cells slots Q xs Ln D cA ad A) act) (hR : am_Rel xs Ln s D cA ad A mi L g H ls locs) : W p l e R s m args below meth c H locs cells slots Q (F0 m pc ls (S.map (am_cv ad))) := by
  obtain ⟨hx, hb, hml, hown, hts, ⟨hK, hE, hX, hbl, hbA, hN, hA⟩, hF, hLo⟩ := hW
  obtain ⟨hl, hP, hD, hS, hG⟩ := hR
  simp only [am_okI, Bool.and_eq_true, decide_eq_true_eq] at hok
  obtain ⟨⟨rfl, rfl⟩, ⟨rfl, h4⟩, rfl⟩ := hok
  obtain ⟨x, y, hf, hy, hn, rfl⟩ := am_iInc_inv h
  cases hy
  obtain ⟨k, hk0⟩ := List.mem_iff_getElem?.mp (show (n, am_cv ad (.int x)) ∈ am_lc ad L from List.mem_map.mpr ⟨(n, .int x), am_find_mem hf, rfl⟩)
  exact lv_iinc hx hb hdec hl hk0 rfl h4 rfl (fun ls1 hl1 => hk H ls1 locs ⟨am_lput (v := .int (x + Int32.ofInt z)) hn hl1, hP, hD, hS, hG⟩)
theorem am_s_iadd (hW : am_Wk p R s m args c xs Ln D cA ad A mi) (hcs : cells ≤ R.cells ∧ slots ≤ R.slots) (hdec : decode (am_bytes mi) pc = .ok (.iadd, len)) (hok : am_okI mi pc (.iadd) len nxt v a b d w = true) (h : am_do (.iadd) nxt v a b d mi pc L S g t = some act) (hk : am_Kn (am_PW p l e R s m args below meth c cells slots Q xs Ln D cA ad A) act) (hR : am_Rel xs Ln s D cA ad A mi L g H ls locs) : W p l e R s m args below meth c H locs cells slots Q (F0 m pc ls (S.map (am_cv ad))) := by
  obtain ⟨hx, hb, hml, hown, hts, ⟨hK, hE, hX, hbl, hbA, hN, hA⟩, hF, hLo⟩ := hW
  obtain ⟨hl, hP, hD, hS, hG⟩ := hR
  simp only [am_okI, Bool.and_eq_true, decide_eq_true_eq] at hok
  obtain ⟨rfl, rfl⟩ := hok
  obtain ⟨x, y, r, rfl, rfl⟩ := am_bin_inv h
  exact lv_iadd hx hb hdec (hk H ls locs ⟨hl, hP, hD, hS, hG⟩)
theorem am_s_isub (hW : am_Wk p R s m args c xs Ln D cA ad A mi) (hcs : cells ≤ R.cells ∧ slots ≤ R.slots) (hdec : decode (am_bytes mi) pc = .ok (.isub, len)) (hok : am_okI mi pc (.isub) len nxt v a b d w = true) (h : am_do (.isub) nxt v a b d mi pc L S g t = some act) (hk : am_Kn (am_PW p l e R s m args below meth c cells slots Q xs Ln D cA ad A) act) (hR : am_Rel xs Ln s D cA ad A mi L g H ls locs) : W p l e R s m args below meth c H locs cells slots Q (F0 m pc ls (S.map (am_cv ad))) := by
  obtain ⟨hx, hb, hml, hown, hts, ⟨hK, hE, hX, hbl, hbA, hN, hA⟩, hF, hLo⟩ := hW
  obtain ⟨hl, hP, hD, hS, hG⟩ := hR
  simp only [am_okI, Bool.and_eq_true, decide_eq_true_eq] at hok
  obtain ⟨rfl, rfl⟩ := hok
  obtain ⟨x, y, r, rfl, rfl⟩ := am_bin_inv h
  exact lv_isub hx hb hdec (hk H ls locs ⟨hl, hP, hD, hS, hG⟩)
theorem am_s_imul (hW : am_Wk p R s m args c xs Ln D cA ad A mi) (hcs : cells ≤ R.cells ∧ slots ≤ R.slots) (hdec : decode (am_bytes mi) pc = .ok (.imul, len)) (hok : am_okI mi pc (.imul) len nxt v a b d w = true) (h : am_do (.imul) nxt v a b d mi pc L S g t = some act) (hk : am_Kn (am_PW p l e R s m args below meth c cells slots Q xs Ln D cA ad A) act) (hR : am_Rel xs Ln s D cA ad A mi L g H ls locs) : W p l e R s m args below meth c H locs cells slots Q (F0 m pc ls (S.map (am_cv ad))) := by
  obtain ⟨hx, hb, hml, hown, hts, ⟨hK, hE, hX, hbl, hbA, hN, hA⟩, hF, hLo⟩ := hW
  obtain ⟨hl, hP, hD, hS, hG⟩ := hR
  simp only [am_okI, Bool.and_eq_true, decide_eq_true_eq] at hok
  obtain ⟨rfl, rfl⟩ := hok
  obtain ⟨x, y, r, rfl, rfl⟩ := am_bin_inv h
  exact lv_imul hx hb hdec (hk H ls locs ⟨hl, hP, hD, hS, hG⟩)
theorem am_s_iand (hW : am_Wk p R s m args c xs Ln D cA ad A mi) (hcs : cells ≤ R.cells ∧ slots ≤ R.slots) (hdec : decode (am_bytes mi) pc = .ok (.iand, len)) (hok : am_okI mi pc (.iand) len nxt v a b d w = true) (h : am_do (.iand) nxt v a b d mi pc L S g t = some act) (hk : am_Kn (am_PW p l e R s m args below meth c cells slots Q xs Ln D cA ad A) act) (hR : am_Rel xs Ln s D cA ad A mi L g H ls locs) : W p l e R s m args below meth c H locs cells slots Q (F0 m pc ls (S.map (am_cv ad))) := by
  obtain ⟨hx, hb, hml, hown, hts, ⟨hK, hE, hX, hbl, hbA, hN, hA⟩, hF, hLo⟩ := hW
  obtain ⟨hl, hP, hD, hS, hG⟩ := hR
  simp only [am_okI, Bool.and_eq_true, decide_eq_true_eq] at hok
  obtain ⟨rfl, rfl⟩ := hok
  obtain ⟨x, y, r, rfl, rfl⟩ := am_bin_inv h
  exact lv_iand hx hb hdec (hk H ls locs ⟨hl, hP, hD, hS, hG⟩)
theorem am_s_ior (hW : am_Wk p R s m args c xs Ln D cA ad A mi) (hcs : cells ≤ R.cells ∧ slots ≤ R.slots) (hdec : decode (am_bytes mi) pc = .ok (.ior, len)) (hok : am_okI mi pc (.ior) len nxt v a b d w = true) (h : am_do (.ior) nxt v a b d mi pc L S g t = some act) (hk : am_Kn (am_PW p l e R s m args below meth c cells slots Q xs Ln D cA ad A) act) (hR : am_Rel xs Ln s D cA ad A mi L g H ls locs) : W p l e R s m args below meth c H locs cells slots Q (F0 m pc ls (S.map (am_cv ad))) := by
  obtain ⟨hx, hb, hml, hown, hts, ⟨hK, hE, hX, hbl, hbA, hN, hA⟩, hF, hLo⟩ := hW
  obtain ⟨hl, hP, hD, hS, hG⟩ := hR
  simp only [am_okI, Bool.and_eq_true, decide_eq_true_eq] at hok
  obtain ⟨rfl, rfl⟩ := hok
  obtain ⟨x, y, r, rfl, rfl⟩ := am_bin_inv h
  exact lv_ior hx hb hdec (hk H ls locs ⟨hl, hP, hD, hS, hG⟩)
theorem am_s_ixor (hW : am_Wk p R s m args c xs Ln D cA ad A mi) (hcs : cells ≤ R.cells ∧ slots ≤ R.slots) (hdec : decode (am_bytes mi) pc = .ok (.ixor, len)) (hok : am_okI mi pc (.ixor) len nxt v a b d w = true) (h : am_do (.ixor) nxt v a b d mi pc L S g t = some act) (hk : am_Kn (am_PW p l e R s m args below meth c cells slots Q xs Ln D cA ad A) act) (hR : am_Rel xs Ln s D cA ad A mi L g H ls locs) : W p l e R s m args below meth c H locs cells slots Q (F0 m pc ls (S.map (am_cv ad))) := by
  obtain ⟨hx, hb, hml, hown, hts, ⟨hK, hE, hX, hbl, hbA, hN, hA⟩, hF, hLo⟩ := hW
  obtain ⟨hl, hP, hD, hS, hG⟩ := hR
  simp only [am_okI, Bool.and_eq_true, decide_eq_true_eq] at hok
  obtain ⟨rfl, rfl⟩ := hok
  obtain ⟨x, y, r, rfl, rfl⟩ := am_bin_inv h
  exact lv_ixor hx hb hdec (hk H ls locs ⟨hl, hP, hD, hS, hG⟩)
theorem am_s_ishl (hW : am_Wk p R s m args c xs Ln D cA ad A mi) (hcs : cells ≤ R.cells ∧ slots ≤ R.slots) (hdec : decode (am_bytes mi) pc = .ok (.ishl, len)) (hok : am_okI mi pc (.ishl) len nxt v a b d w = true) (h : am_do (.ishl) nxt v a b d mi pc L S g t = some act) (hk : am_Kn (am_PW p l e R s m args below meth c cells slots Q xs Ln D cA ad A) act) (hR : am_Rel xs Ln s D cA ad A mi L g H ls locs) : W p l e R s m args below meth c H locs cells slots Q (F0 m pc ls (S.map (am_cv ad))) := by
  obtain ⟨hx, hb, hml, hown, hts, ⟨hK, hE, hX, hbl, hbA, hN, hA⟩, hF, hLo⟩ := hW
  obtain ⟨hl, hP, hD, hS, hG⟩ := hR
  simp only [am_okI, Bool.and_eq_true, decide_eq_true_eq] at hok
  obtain ⟨rfl, rfl⟩ := hok
  obtain ⟨x, y, r, rfl, rfl⟩ := am_bin_inv h
  exact lv_ishl hx hb hdec (hk H ls locs ⟨hl, hP, hD, hS, hG⟩)
theorem am_s_ishr (hW : am_Wk p R s m args c xs Ln D cA ad A mi) (hcs : cells ≤ R.cells ∧ slots ≤ R.slots) (hdec : decode (am_bytes mi) pc = .ok (.ishr, len)) (hok : am_okI mi pc (.ishr) len nxt v a b d w = true) (h : am_do (.ishr) nxt v a b d mi pc L S g t = some act) (hk : am_Kn (am_PW p l e R s m args below meth c cells slots Q xs Ln D cA ad A) act) (hR : am_Rel xs Ln s D cA ad A mi L g H ls locs) : W p l e R s m args below meth c H locs cells slots Q (F0 m pc ls (S.map (am_cv ad))) := by
  obtain ⟨hx, hb, hml, hown, hts, ⟨hK, hE, hX, hbl, hbA, hN, hA⟩, hF, hLo⟩ := hW
  obtain ⟨hl, hP, hD, hS, hG⟩ := hR
  simp only [am_okI, Bool.and_eq_true, decide_eq_true_eq] at hok
  obtain ⟨rfl, rfl⟩ := hok
  obtain ⟨x, y, r, rfl, rfl⟩ := am_bin_inv h
  exact lv_ishr hx hb hdec (hk H ls locs ⟨hl, hP, hD, hS, hG⟩)
theorem am_s_iushr (hW : am_Wk p R s m args c xs Ln D cA ad A mi) (hcs : cells ≤ R.cells ∧ slots ≤ R.slots) (hdec : decode (am_bytes mi) pc = .ok (.iushr, len)) (hok : am_okI mi pc (.iushr) len nxt v a b d w = true) (h : am_do (.iushr) nxt v a b d mi pc L S g t = some act) (hk : am_Kn (am_PW p l e R s m args below meth c cells slots Q xs Ln D cA ad A) act) (hR : am_Rel xs Ln s D cA ad A mi L g H ls locs) : W p l e R s m args below meth c H locs cells slots Q (F0 m pc ls (S.map (am_cv ad))) := by
  obtain ⟨hx, hb, hml, hown, hts, ⟨hK, hE, hX, hbl, hbA, hN, hA⟩, hF, hLo⟩ := hW
  obtain ⟨hl, hP, hD, hS, hG⟩ := hR
  simp only [am_okI, Bool.and_eq_true, decide_eq_true_eq] at hok
  obtain ⟨rfl, rfl⟩ := hok
  obtain ⟨x, y, r, rfl, rfl⟩ := am_bin_inv h
  exact lv_iushr hx hb hdec rfl (hk H ls locs ⟨hl, hP, hD, hS, hG⟩)
theorem am_s_idiv (hW : am_Wk p R s m args c xs Ln D cA ad A mi) (hcs : cells ≤ R.cells ∧ slots ≤ R.slots) (hdec : decode (am_bytes mi) pc = .ok (.idiv, len)) (hok : am_okI mi pc (.idiv) len nxt v a b d w = true) (h : am_do (.idiv) nxt v a b d mi pc L S g t = some act) (hk : am_Kn (am_PW p l e R s m args below meth c cells slots Q xs Ln D cA ad A) act) (hR : am_Rel xs Ln s D cA ad A mi L g H ls locs) : W p l e R s m args below meth c H locs cells slots Q (F0 m pc ls (S.map (am_cv ad))) := by
  obtain ⟨hx, hb, hml, hown, hts, ⟨hK, hE, hX, hbl, hbA, hN, hA⟩, hF, hLo⟩ := hW
  obtain ⟨hl, hP, hD, hS, hG⟩ := hR
  simp only [am_okI, Bool.and_eq_true, decide_eq_true_eq] at hok
  obtain ⟨rfl, rfl⟩ := hok
  obtain ⟨x, y, r, rfl, rfl⟩ := am_div_inv h
  exact lv_idiv hx hb hdec (of_decide_eq_true hk.1) (hk.2 H ls locs ⟨hl, hP, hD, hS, hG⟩)
theorem am_s_irem (hW : am_Wk p R s m args c xs Ln D cA ad A mi) (hcs : cells ≤ R.cells ∧ slots ≤ R.slots) (hdec : decode (am_bytes mi) pc = .ok (.irem, len)) (hok : am_okI mi pc (.irem) len nxt v a b d w = true) (h : am_do (.irem) nxt v a b d mi pc L S g t = some act) (hk : am_Kn (am_PW p l e R s m args below meth c cells slots Q xs Ln D cA ad A) act) (hR : am_Rel xs Ln s D cA ad A mi L g H ls locs) : W p l e R s m args below meth c H locs cells slots Q (F0 m pc ls (S.map (am_cv ad))) := by
  obtain ⟨hx, hb, hml, hown, hts, ⟨hK, hE, hX, hbl, hbA, hN, hA⟩, hF, hLo⟩ := hW
  obtain ⟨hl, hP, hD, hS, hG⟩ := hR
  simp only [am_okI, Bool.and_eq_true, decide_eq_true_eq] at hok
  obtain ⟨rfl, rfl⟩ := hok
  obtain ⟨x, y, r, rfl, rfl⟩ := am_div_inv h
  exact lv_irem hx hb hdec (of_decide_eq_true hk.1) (hk.2 H ls locs ⟨hl, hP, hD, hS, hG⟩)
theorem am_s_i2l (hW : am_Wk p R s m args c xs Ln D cA ad A mi) (hcs : cells ≤ R.cells ∧ slots ≤ R.slots) (hdec : decode (am_bytes mi) pc = .ok (.i2l, len)) (hok : am_okI mi pc (.i2l) len nxt v a b d w = true) (h : am_do (.i2l) nxt v a b d mi pc L S g t = some act) (hk : am_Kn (am_PW p l e R s m args below meth c cells slots Q xs Ln D cA ad A) act) (hR : am_Rel xs Ln s D cA ad A mi L g H ls locs) : W p l e R s m args below meth c H locs cells slots Q (F0 m pc ls (S.map (am_cv ad))) := by
  obtain ⟨hx, hb, hml, hown, hts, ⟨hK, hE, hX, hbl, hbA, hN, hA⟩, hF, hLo⟩ := hW
  obtain ⟨hl, hP, hD, hS, hG⟩ := hR
  simp only [am_okI, Bool.and_eq_true, decide_eq_true_eq] at hok
  obtain ⟨rfl, rfl⟩ := hok
  obtain ⟨x, r, rfl, rfl⟩ := am_un_inv h
  exact lv_i2l hx hb hdec rfl (hk H ls locs ⟨hl, hP, hD, hS, hG⟩)
theorem am_s_l2i (hW : am_Wk p R s m args c xs Ln D cA ad A mi) (hcs : cells ≤ R.cells ∧ slots ≤ R.slots) (hdec : decode (am_bytes mi) pc = .ok (.l2i, len)) (hok : am_okI mi pc (.l2i) len nxt v a b d w = true) (h : am_do (.l2i) nxt v a b d mi pc L S g t = some act) (hk : am_Kn (am_PW p l e R s m args below meth c cells slots Q xs Ln D cA ad A) act) (hR : am_Rel xs Ln s D cA ad A mi L g H ls locs) : W p l e R s m args below meth c H locs cells slots Q (F0 m pc ls (S.map (am_cv ad))) := by
  obtain ⟨hx, hb, hml, hown, hts, ⟨hK, hE, hX, hbl, hbA, hN, hA⟩, hF, hLo⟩ := hW
  obtain ⟨hl, hP, hD, hS, hG⟩ := hR
  simp only [am_okI, Bool.and_eq_true, decide_eq_true_eq] at hok
  obtain ⟨rfl, rfl⟩ := hok
  obtain ⟨x, r, rfl, rfl⟩ := am_l2_inv h
  exact lv_l2i hx hb hdec rfl (hk H ls locs ⟨hl, hP, hD, hS, hG⟩)
theorem am_s_i2c (hW : am_Wk p R s m args c xs Ln D cA ad A mi) (hcs : cells ≤ R.cells ∧ slots ≤ R.slots) (hdec : decode (am_bytes mi) pc = .ok (.i2c, len)) (hok : am_okI mi pc (.i2c) len nxt v a b d w = true) (h : am_do (.i2c) nxt v a b d mi pc L S g t = some act) (hk : am_Kn (am_PW p l e R s m args below meth c cells slots Q xs Ln D cA ad A) act) (hR : am_Rel xs Ln s D cA ad A mi L g H ls locs) : W p l e R s m args below meth c H locs cells slots Q (F0 m pc ls (S.map (am_cv ad))) := by
  obtain ⟨hx, hb, hml, hown, hts, ⟨hK, hE, hX, hbl, hbA, hN, hA⟩, hF, hLo⟩ := hW
  obtain ⟨hl, hP, hD, hS, hG⟩ := hR
  simp only [am_okI, Bool.and_eq_true, decide_eq_true_eq] at hok
  obtain ⟨rfl, rfl⟩ := hok
  obtain ⟨x, r, rfl, rfl⟩ := am_un_inv h
  exact lv_i2c hx hb hdec rfl (hk H ls locs ⟨hl, hP, hD, hS, hG⟩)
theorem am_s_land (hW : am_Wk p R s m args c xs Ln D cA ad A mi) (hcs : cells ≤ R.cells ∧ slots ≤ R.slots) (hdec : decode (am_bytes mi) pc = .ok (.land, len)) (hok : am_okI mi pc (.land) len nxt v a b d w = true) (h : am_do (.land) nxt v a b d mi pc L S g t = some act) (hk : am_Kn (am_PW p l e R s m args below meth c cells slots Q xs Ln D cA ad A) act) (hR : am_Rel xs Ln s D cA ad A mi L g H ls locs) : W p l e R s m args below meth c H locs cells slots Q (F0 m pc ls (S.map (am_cv ad))) := by
  obtain ⟨hx, hb, hml, hown, hts, ⟨hK, hE, hX, hbl, hbA, hN, hA⟩, hF, hLo⟩ := hW
  obtain ⟨hl, hP, hD, hS, hG⟩ := hR
  simp only [am_okI, Bool.and_eq_true, decide_eq_true_eq] at hok
  obtain ⟨rfl, rfl⟩ := hok
  obtain ⟨x, y, r, rfl, rfl⟩ := am_lbin_inv h
  exact lv_land hx hb hdec (hk H ls locs ⟨hl, hP, hD, hS, hG⟩)
theorem am_s_lor (hW : am_Wk p R s m args c xs Ln D cA ad A mi) (hcs : cells ≤ R.cells ∧ slots ≤ R.slots) (hdec : decode (am_bytes mi) pc = .ok (.lor, len)) (hok : am_okI mi pc (.lor) len nxt v a b d w = true) (h : am_do (.lor) nxt v a b d mi pc L S g t = some act) (hk : am_Kn (am_PW p l e R s m args below meth c cells slots Q xs Ln D cA ad A) act) (hR : am_Rel xs Ln s D cA ad A mi L g H ls locs) : W p l e R s m args below meth c H locs cells slots Q (F0 m pc ls (S.map (am_cv ad))) := by
  obtain ⟨hx, hb, hml, hown, hts, ⟨hK, hE, hX, hbl, hbA, hN, hA⟩, hF, hLo⟩ := hW
  obtain ⟨hl, hP, hD, hS, hG⟩ := hR
  simp only [am_okI, Bool.and_eq_true, decide_eq_true_eq] at hok
  obtain ⟨rfl, rfl⟩ := hok
  obtain ⟨x, y, r, rfl, rfl⟩ := am_lbin_inv h
  exact lv_lor hx hb hdec (hk H ls locs ⟨hl, hP, hD, hS, hG⟩)
theorem am_s_lcmp (hW : am_Wk p R s m args c xs Ln D cA ad A mi) (hcs : cells ≤ R.cells ∧ slots ≤ R.slots) (hdec : decode (am_bytes mi) pc = .ok (.lcmp, len)) (hok : am_okI mi pc (.lcmp) len nxt v a b d w = true) (h : am_do (.lcmp) nxt v a b d mi pc L S g t = some act) (hk : am_Kn (am_PW p l e R s m args below meth c cells slots Q xs Ln D cA ad A) act) (hR : am_Rel xs Ln s D cA ad A mi L g H ls locs) : W p l e R s m args below meth c H locs cells slots Q (F0 m pc ls (S.map (am_cv ad))) := by
  obtain ⟨hx, hb, hml, hown, hts, ⟨hK, hE, hX, hbl, hbA, hN, hA⟩, hF, hLo⟩ := hW
  obtain ⟨hl, hP, hD, hS, hG⟩ := hR
  simp only [am_okI, Bool.and_eq_true, decide_eq_true_eq] at hok
  obtain ⟨rfl, rfl⟩ := hok
  obtain ⟨x, y, r, rfl, rfl⟩ := am_lbin_inv h
  exact W.lcmp hx hb hdec (hk H ls locs ⟨hl, hP, hD, hS, hG⟩)
theorem am_s_lshl (hW : am_Wk p R s m args c xs Ln D cA ad A mi) (hcs : cells ≤ R.cells ∧ slots ≤ R.slots) (hdec : decode (am_bytes mi) pc = .ok (.lshl, len)) (hok : am_okI mi pc (.lshl) len nxt v a b d w = true) (h : am_do (.lshl) nxt v a b d mi pc L S g t = some act) (hk : am_Kn (am_PW p l e R s m args below meth c cells slots Q xs Ln D cA ad A) act) (hR : am_Rel xs Ln s D cA ad A mi L g H ls locs) : W p l e R s m args below meth c H locs cells slots Q (F0 m pc ls (S.map (am_cv ad))) := by
  obtain ⟨hx, hb, hml, hown, hts, ⟨hK, hE, hX, hbl, hbA, hN, hA⟩, hF, hLo⟩ := hW
  obtain ⟨hl, hP, hD, hS, hG⟩ := hR
  simp only [am_okI, Bool.and_eq_true, decide_eq_true_eq] at hok
  obtain ⟨rfl, rfl⟩ := hok
  obtain ⟨x, y, r, rfl, rfl⟩ := am_lsh_inv h
  exact lv_lshl hx hb hdec rfl (hk H ls locs ⟨hl, hP, hD, hS, hG⟩)
theorem am_s_lshr (hW : am_Wk p R s m args c xs Ln D cA ad A mi) (hcs : cells ≤ R.cells ∧ slots ≤ R.slots) (hdec : decode (am_bytes mi) pc = .ok (.lshr, len)) (hok : am_okI mi pc (.lshr) len nxt v a b d w = true) (h : am_do (.lshr) nxt v a b d mi pc L S g t = some act) (hk : am_Kn (am_PW p l e R s m args below meth c cells slots Q xs Ln D cA ad A) act) (hR : am_Rel xs Ln s D cA ad A mi L g H ls locs) : W p l e R s m args below meth c H locs cells slots Q (F0 m pc ls (S.map (am_cv ad))) := by
  obtain ⟨hx, hb, hml, hown, hts, ⟨hK, hE, hX, hbl, hbA, hN, hA⟩, hF, hLo⟩ := hW
  obtain ⟨hl, hP, hD, hS, hG⟩ := hR
  simp only [am_okI, Bool.and_eq_true, decide_eq_true_eq] at hok
  obtain ⟨rfl, rfl⟩ := hok
  obtain ⟨x, y, r, rfl, rfl⟩ := am_lsh_inv h
  exact lv_lshr hx hb hdec rfl (hk H ls locs ⟨hl, hP, hD, hS, hG⟩)
theorem am_s_lushr (hW : am_Wk p R s m args c xs Ln D cA ad A mi) (hcs : cells ≤ R.cells ∧ slots ≤ R.slots) (hdec : decode (am_bytes mi) pc = .ok (.lushr, len)) (hok : am_okI mi pc (.lushr) len nxt v a b d w = true) (h : am_do (.lushr) nxt v a b d mi pc L S g t = some act) (hk : am_Kn (am_PW p l e R s m args below meth c cells slots Q xs Ln D cA ad A) act) (hR : am_Rel xs Ln s D cA ad A mi L g H ls locs) : W p l e R s m args below meth c H locs cells slots Q (F0 m pc ls (S.map (am_cv ad))) := by
  obtain ⟨hx, hb, hml, hown, hts, ⟨hK, hE, hX, hbl, hbA, hN, hA⟩, hF, hLo⟩ := hW
  obtain ⟨hl, hP, hD, hS, hG⟩ := hR
  simp only [am_okI, Bool.and_eq_true, decide_eq_true_eq] at hok
  obtain ⟨rfl, rfl⟩ := hok
  obtain ⟨x, y, r, rfl, rfl⟩ := am_lsh_inv h
  exact lv_lushr hx hb hdec rfl (hk H ls locs ⟨hl, hP, hD, hS, hG⟩)
theorem am_s_dup (hW : am_Wk p R s m args c xs Ln D cA ad A mi) (hcs : cells ≤ R.cells ∧ slots ≤ R.slots) (hdec : decode (am_bytes mi) pc = .ok (.dup, len)) (hok : am_okI mi pc (.dup) len nxt v a b d w = true) (h : am_do (.dup) nxt v a b d mi pc L S g t = some act) (hk : am_Kn (am_PW p l e R s m args below meth c cells slots Q xs Ln D cA ad A) act) (hR : am_Rel xs Ln s D cA ad A mi L g H ls locs) : W p l e R s m args below meth c H locs cells slots Q (F0 m pc ls (S.map (am_cv ad))) := by
  obtain ⟨hx, hb, hml, hown, hts, ⟨hK, hE, hX, hbl, hbA, hN, hA⟩, hF, hLo⟩ := hW
  obtain ⟨hl, hP, hD, hS, hG⟩ := hR
  simp only [am_okI, Bool.and_eq_true, decide_eq_true_eq] at hok
  obtain ⟨rfl, rfl⟩ := hok
  obtain ⟨x, r, rfl, hc, rfl⟩ := am_dup_inv h
  exact lv_dup hx hb hdec (by rw [am_cat]; exact hc) (hk H ls locs ⟨hl, hP, hD, hS, hG⟩)
theorem am_s_dup2 (hW : am_Wk p R s m args c xs Ln D cA ad A mi) (hcs : cells ≤ R.cells ∧ slots ≤ R.slots) (hdec : decode (am_bytes mi) pc = .ok (.dup2, len)) (hok : am_okI mi pc (.dup2) len nxt v a b d w = true) (h : am_do (.dup2) nxt v a b d mi pc L S g t = some act) (hk : am_Kn (am_PW p l e R s m args below meth c cells slots Q xs Ln D cA ad A) act) (hR : am_Rel xs Ln s D cA ad A mi L g H ls locs) : W p l e R s m args below meth c H locs cells slots Q (F0 m pc ls (S.map (am_cv ad))) := by
  obtain ⟨hx, hb, hml, hown, hts, ⟨hK, hE, hX, hbl, hbA, hN, hA⟩, hF, hLo⟩ := hW
  obtain ⟨hl, hP, hD, hS, hG⟩ := hR
  simp only [am_okI, Bool.and_eq_true, decide_eq_true_eq] at hok
  obtain ⟨rfl, rfl⟩ := hok
  obtain ⟨x, y, r, rfl, rfl⟩ := am_dup2_inv h
  exact lv_dup2_11 hx hb hdec rfl rfl (hk H ls locs ⟨hl, hP, hD, hS, hG⟩)
theorem am_s_ifCond {q : ClassFile.Cond} {n : Int} (hW : am_Wk p R s m args c xs Ln D cA ad A mi) (hcs : cells ≤ R.cells ∧ slots ≤ R.slots) (hdec : decode (am_bytes mi) pc = .ok (.ifCond q n, len)) (hok : am_okI mi pc (.ifCond q n) len nxt v a b d w = true) (h : am_do (.ifCond q n) nxt v a b d mi pc L S g t = some act) (hk : am_Kn (am_PW p l e R s m args below meth c cells slots Q xs Ln D cA ad A) act) (hR : am_Rel xs Ln s D cA ad A mi L g H ls locs) : W p l e R s m args below meth c H locs cells slots Q (F0 m pc ls (S.map (am_cv ad))) := by
  obtain ⟨hx, hb, hml, hown, hts, ⟨hK, hE, hX, hbl, hbA, hN, hA⟩, hF, hLo⟩ := hW
  obtain ⟨hl, hP, hD, hS, hG⟩ := hR
  simp only [am_okI, Bool.and_eq_true, decide_eq_true_eq] at hok
  obtain ⟨⟨rfl, rfl⟩, h3⟩ := hok
  obtain ⟨x, r, rfl, rfl⟩ := am_if1_inv h
  cases q with
  | eq => exact lv_if_eq hx hb hdec h3 (fun z => hk.1 (decide_eq_true z) H ls locs ⟨hl, hP, hD, hS, hG⟩) (fun z => hk.2 (decide_eq_false z) H ls locs ⟨hl, hP, hD, hS, hG⟩)
  | ne => exact lv_if_ne hx hb hdec h3 (fun z => hk.1 (decide_eq_true z) H ls locs ⟨hl, hP, hD, hS, hG⟩) (fun z => hk.2 (decide_eq_false (fun y => y z)) H ls locs ⟨hl, hP, hD, hS, hG⟩)
  | lt => exact lv_if_lt hx hb hdec h3 (fun z => hk.1 (decide_eq_true z) H ls locs ⟨hl, hP, hD, hS, hG⟩) (fun z => hk.2 (decide_eq_false z) H ls locs ⟨hl, hP, hD, hS, hG⟩)
  | ge => exact lv_if_ge hx hb hdec h3 (fun z => hk.1 (decide_eq_true z) H ls locs ⟨hl, hP, hD, hS, hG⟩) (fun z => hk.2 (decide_eq_false z) H ls locs ⟨hl, hP, hD, hS, hG⟩)
  | gt => exact lv_if_gt hx hb hdec h3 (fun z => hk.1 (decide_eq_true z) H ls locs ⟨hl, hP, hD, hS, hG⟩) (fun z => hk.2 (decide_eq_false z) H ls locs ⟨hl, hP, hD, hS, hG⟩)
  | le => exact lv_if_le hx hb hdec h3 (fun z => hk.1 (decide_eq_true z) H ls locs ⟨hl, hP, hD, hS, hG⟩) (fun z => hk.2 (decide_eq_false z) H ls locs ⟨hl, hP, hD, hS, hG⟩)
theorem am_s_if_icmp {q : ClassFile.Cond} {n : Int} (hW : am_Wk p R s m args c xs Ln D cA ad A mi) (hcs : cells ≤ R.cells ∧ slots ≤ R.slots) (hdec : decode (am_bytes mi) pc = .ok (.if_icmp q n, len)) (hok : am_okI mi pc (.if_icmp q n) len nxt v a b d w = true) (h : am_do (.if_icmp q n) nxt v a b d mi pc L S g t = some act) (hk : am_Kn (am_PW p l e R s m args below meth c cells slots Q xs Ln D cA ad A) act) (hR : am_Rel xs Ln s D cA ad A mi L g H ls locs) : W p l e R s m args below meth c H locs cells slots Q (F0 m pc ls (S.map (am_cv ad))) := by
  obtain ⟨hx, hb, hml, hown, hts, ⟨hK, hE, hX, hbl, hbA, hN, hA⟩, hF, hLo⟩ := hW
  obtain ⟨hl, hP, hD, hS, hG⟩ := hR
  simp only [am_okI, Bool.and_eq_true, decide_eq_true_eq] at hok
  obtain ⟨⟨rfl, rfl⟩, h3⟩ := hok
  obtain ⟨x, y, r, rfl, rfl⟩ := am_if2_inv h
  cases q with
  | eq => exact lv_icmp_eq hx hb hdec h3 (fun z => hk.1 (decide_eq_true z) H ls locs ⟨hl, hP, hD, hS, hG⟩) (fun z => hk.2 (decide_eq_false z) H ls locs ⟨hl, hP, hD, hS, hG⟩)
  | ne => exact lv_icmp_ne hx hb hdec h3 (fun z => hk.1 (decide_eq_true z) H ls locs ⟨hl, hP, hD, hS, hG⟩) (fun z => hk.2 (decide_eq_false (fun y => y z)) H ls locs ⟨hl, hP, hD, hS, hG⟩)
  | lt => exact lv_icmp_lt hx hb hdec h3 (fun z => hk.1 (decide_eq_true z) H ls locs ⟨hl, hP, hD, hS, hG⟩) (fun z => hk.2 (decide_eq_false z) H ls locs ⟨hl, hP, hD, hS, hG⟩)
  | ge => exact lv_icmp_ge hx hb hdec h3 (fun z => hk.1 (decide_eq_true z) H ls locs ⟨hl, hP, hD, hS, hG⟩) (fun z => hk.2 (decide_eq_false z) H ls locs ⟨hl, hP, hD, hS, hG⟩)
  | gt => exact lv_icmp_gt hx hb hdec h3 (fun z => hk.1 (decide_eq_true z) H ls locs ⟨hl, hP, hD, hS, hG⟩) (fun z => hk.2 (decide_eq_false z) H ls locs ⟨hl, hP, hD, hS, hG⟩)
  | le => exact lv_icmp_le hx hb hdec h3 (fun z => hk.1 (decide_eq_true z) H ls locs ⟨hl, hP, hD, hS, hG⟩) (fun z => hk.2 (decide_eq_false z) H ls locs ⟨hl, hP, hD, hS, hG⟩)
theorem am_s_if_acmp {q : ClassFile.ACond} {n : Int} (hW : am_Wk p R s m args c xs Ln D cA ad A mi) (hcs : cells ≤ R.cells ∧ slots ≤ R.slots) (hdec : decode (am_bytes mi) pc = .ok (.if_acmp q n, len)) (hok : am_okI mi pc (.if_acmp q n) len nxt v a b d w = true) (h : am_do (.if_acmp q n) nxt v a b d mi pc L S g t = some act) (hk : am_Kn (am_PW p l e R s m args below meth c cells slots Q xs Ln D cA ad A) act) (hR : am_Rel xs Ln s D cA ad A mi L g H ls locs) : W p l e R s m args below meth c H locs cells slots Q (F0 m pc ls (S.map (am_cv ad))) := by
  obtain ⟨hx, hb, hml, hown, hts, ⟨hK, hE, hX, hbl, hbA, hN, hA⟩, hF, hLo⟩ := hW
  obtain ⟨hl, hP, hD, hS, hG⟩ := hR
  simp only [am_okI, Bool.and_eq_true, decide_eq_true_eq] at hok
  obtain ⟨⟨rfl, rfl⟩, h3⟩ := hok
  obtain ⟨x, y, r, rfl, rfl, rfl⟩ := am_ifa_inv h
  obtain ⟨h6, hk1, hk2⟩ := hk
  rw [Bool.and_eq_true] at h6
  have h61 := am_blt h6.1
  have h62 := am_blt h6.2
  refine lv_acmp_ne (rx := some (ad x)) (ry := some (ad y)) hx hb hdec h3 (fun z => hk1 (decide_eq_true (fun z2 => z (by rw [am_six x h61 y h62 z2]))) H ls locs ⟨hl, hP, hD, hS, hG⟩) (fun z => hk2 (decide_eq_false (fun z2 => z2 (by rw [hE.2 x y h61 h62 (Option.some.inj z)]))) H ls locs ⟨hl, hP, hD, hS, hG⟩)
theorem am_s_goto {n : Int} (hW : am_Wk p R s m args c xs Ln D cA ad A mi) (hcs : cells ≤ R.cells ∧ slots ≤ R.slots) (hdec : decode (am_bytes mi) pc = .ok (.goto n, len)) (hok : am_okI mi pc (.goto n) len nxt v a b d w = true) (h : am_do (.goto n) nxt v a b d mi pc L S g t = some act) (hk : am_Kn (am_PW p l e R s m args below meth c cells slots Q xs Ln D cA ad A) act) (hR : am_Rel xs Ln s D cA ad A mi L g H ls locs) : W p l e R s m args below meth c H locs cells slots Q (F0 m pc ls (S.map (am_cv ad))) := by
  obtain ⟨hx, hb, hml, hown, hts, ⟨hK, hE, hX, hbl, hbA, hN, hA⟩, hF, hLo⟩ := hW
  obtain ⟨hl, hP, hD, hS, hG⟩ := hR
  simp only [am_okI, Bool.and_eq_true, decide_eq_true_eq] at hok
  obtain ⟨⟨rfl, rfl⟩, h3⟩ := hok
  cases Option.some.inj h
  exact lv_goto hx hb hdec h3 (hk H ls locs ⟨hl, hP, hD, hS, hG⟩)
theorem am_s_tableswitch {df lo hi : Int} {offs : Array Int} (hW : am_Wk p R s m args c xs Ln D cA ad A mi) (hcs : cells ≤ R.cells ∧ slots ≤ R.slots) (hdec : decode (am_bytes mi) pc = .ok (.tableswitch df lo hi offs, len)) (hok : am_okI mi pc (.tableswitch df lo hi offs) len nxt v a b d w = true) (h : am_do (.tableswitch df lo hi offs) nxt v a b d mi pc L S g t = some act) (hk : am_Kn (am_PW p l e R s m args below meth c cells slots Q xs Ln D cA ad A) act) (hR : am_Rel xs Ln s D cA ad A mi L g H ls locs) : W p l e R s m args below meth c H locs cells slots Q (F0 m pc ls (S.map (am_cv ad))) := by
  obtain ⟨hx, hb, hml, hown, hts, ⟨hK, hE, hX, hbl, hbA, hN, hA⟩, hF, hLo⟩ := hW
  obtain ⟨hl, hP, hD, hS, hG⟩ := hR
  simp only [am_okI, Bool.and_eq_true, decide_eq_true_eq, List.all_eq_true] at hok
  obtain ⟨⟨h1, h2⟩, h3⟩ := hok
  obtain ⟨x, r, rfl, rfl⟩ := am_sw_inv h
  by_cases hc : x.toInt < lo ∨ hi < x.toInt
  · have e : am_ts pc df lo hi offs x = ((pc : Int) + df).toNat := by
      unfold am_ts
      rw [show (decide (x.toInt < lo) || decide (hi < x.toInt)) = true by rcases hc with z | z; · rw [decide_eq_true z]; rfl
                                                                          · rw [decide_eq_true z, Bool.or_true]]
      rfl
    have K := hk H ls locs ⟨hl, hP, hD, hS, hG⟩
    dsimp only at K
    rw [e] at K
    exact lv_tableOut hx hb hdec hc (Int.toNat_of_nonneg h1).symm K
  · have c1 : ¬ x.toInt < lo := fun z => hc (Or.inl z)
    have c2 : ¬ hi < x.toInt := fun z => hc (Or.inr z)
    have hlt : (x.toInt - lo).toNat < offs.size := by omega
    have hget : offs[(x.toInt - lo).toNat]? = some (offs.getD (x.toInt - lo).toNat 0) := by
      rw [Array.getElem?_eq_getElem hlt, Array.getD_eq_getD_getElem?, Array.getElem?_eq_getElem hlt]; rfl
    have hnn := h3 _ (List.mem_of_getElem? (by rw [Array.getElem?_toList]; exact hget))
    have e : am_ts pc df lo hi offs x = ((pc : Int) + offs.getD (x.toInt - lo).toNat 0).toNat := by
      unfold am_ts
      rw [decide_eq_false c1, decide_eq_false c2]; rfl
    have K := hk H ls locs ⟨hl, hP, hD, hS, hG⟩
    dsimp only at K
    rw [e] at K
    exact lv_tableIn hx hb hdec c1 c2 hget (Int.toNat_of_nonneg hnn).symm K
theorem am_s_getstatic {n : Nat} (hW : am_Wk p R s m args c xs Ln D cA ad A mi) (hcs : cells ≤ R.cells ∧ slots ≤ R.slots) (hdec : decode (am_bytes mi) pc = .ok (.getstatic n, len)) (hok : am_okI mi pc (.getstatic n) len nxt v a b d w = true) (h : am_do (.getstatic n) nxt v a b d mi pc L S g t = some act) (hk : am_Kn (am_PW p l e R s m args below meth c cells slots Q xs Ln D cA ad A) act) (hR : am_Rel xs Ln s D cA ad A mi L g H ls locs) : W p l e R s m args below meth c H locs cells slots Q (F0 m pc ls (S.map (am_cv ad))) := by
  obtain ⟨hx, hb, hml, hown, hts, ⟨hK, hE, hX, hbl, hbA, hN, hA⟩, hF, hLo⟩ := hW
  obtain ⟨hl, hP, hD, hS, hG⟩ := hR
  simp only [am_okI, Bool.and_eq_true, decide_eq_true_eq] at hok
  obtain ⟨⟨rfl, rfl⟩, h3⟩ := hok
  obtain ⟨h6, rfl⟩ := am_gs_inv h
  exact va_gets hx hb (hE.1 a h6).1 hS hown (hts _ (am_word_in h3)) (fun _ z => z) hdec (hk H ls locs ⟨hl, hP, hD, hS, hG⟩)
theorem am_s_getfield {n : Nat} (hW : am_Wk p R s m args c xs Ln D cA ad A mi) (hcs : cells ≤ R.cells ∧ slots ≤ R.slots) (hdec : decode (am_bytes mi) pc = .ok (.getfield n, len)) (hok : am_okI mi pc (.getfield n) len nxt v a b d w = true) (h : am_do (.getfield n) nxt v a b d mi pc L S g t = some act) (hk : am_Kn (am_PW p l e R s m args below meth c cells slots Q xs Ln D cA ad A) act) (hR : am_Rel xs Ln s D cA ad A mi L g H ls locs) : W p l e R s m args below meth c H locs cells slots Q (F0 m pc ls (S.map (am_cv ad))) := by
  obtain ⟨hx, hb, hml, hown, hts, ⟨hK, hE, hX, hbl, hbA, hN, hA⟩, hF, hLo⟩ := hW
  obtain ⟨hl, hP, hD, hS, hG⟩ := hR
  cases hcl : am_nth am_cl a with
  | none => simp [am_okI, hcl] at hok
  | some q =>
    obtain ⟨C, T, N⟩ := q
    simp only [am_okI, hcl, Bool.and_eq_true, decide_eq_true_eq] at hok
    obtain ⟨⟨rfl, rfl⟩, h3, h4⟩ := hok
    obtain ⟨k, r, fs, rfl, ho, hcase⟩ := am_gf_inv h
    have hget := (am_ob_get (ad := ad) (cA := cA) (g := g) ho).2
    have hc : am_cl[a]? = some (C, T, N) := by rw [← am_nth_get]; exact hcl
    rcases hcase with ⟨q, hq, rfl⟩ | ⟨hq, rfl⟩
    · exact va_get hx hb hts (am_clok hcl).1 hown hK hP (k - 8) hget hc b h3 (hts _ (am_word_in h4)) (fun _ z => z) (am_fv_get hq) hdec (hk H ls locs ⟨hl, hP, hD, hS, hG⟩)
    · have hv := am_fv_get (ad := ad) (f := g k) (o := 0) hq
      rw [Nat.zero_add] at hv
      exact va_get hx hb hts (am_clok hcl).1 hown hK hP (k - 8) hget hc b h3 (hts _ (am_word_in h4)) (fun _ z => z) hv hdec (hk H ls locs ⟨hl, hP, hD, hS, hG⟩)
theorem am_s_putfield {n : Nat} (hW : am_Wk p R s m args c xs Ln D cA ad A mi) (hcs : cells ≤ R.cells ∧ slots ≤ R.slots) (hdec : decode (am_bytes mi) pc = .ok (.putfield n, len)) (hok : am_okI mi pc (.putfield n) len nxt v a b d w = true) (h : am_do (.putfield n) nxt v a b d mi pc L S g t = some act) (hk : am_Kn (am_PW p l e R s m args below meth c cells slots Q xs Ln D cA ad A) act) (hR : am_Rel xs Ln s D cA ad A mi L g H ls locs) : W p l e R s m args below meth c H locs cells slots Q (F0 m pc ls (S.map (am_cv ad))) := by
  obtain ⟨hx, hb, hml, hown, hts, ⟨hK, hE, hX, hbl, hbA, hN, hA⟩, hF, hLo⟩ := hW
  obtain ⟨hl, hP, hD, hS, hG⟩ := hR
  cases hcl : am_nth am_cl a with
  | none => simp [am_okI, hcl] at hok
  | some q =>
    obtain ⟨C, T, N⟩ := q
    simp only [am_okI, hcl, Bool.and_eq_true, decide_eq_true_eq] at hok
    obtain ⟨⟨rfl, rfl⟩, ⟨h3, h4⟩, h5, h6⟩ := hok
    obtain ⟨x, k, r, fs, rfl, ho, hq, rfl⟩ := am_pf_inv h
    have hget := am_ob_get (ad := ad) (cA := cA) (g := g) ho
    have hc : am_cl[a]? = some (C, T, N) := by rw [← am_nth_get]; exact hcl
    obtain ⟨k1, ⟨ty0, k2⟩, k3⟩ := am_clok hcl
    have hlen : b < (am_fv ad (g k) 0 fs).length := by
      have := am_fv_get (ad := ad) (f := g k) (o := 0) hq
      exact (List.getElem?_eq_some_iff.mp this).1
    have hd0 : parseFieldDescriptor (T b).2.2.1 = some .int := by rw [h5]; rfl
    refine va_put hx hb hts k1 ty0 k2 k3 hown hK hP hD hS (k - 8) hget.2 hc b h3 (hts _ (am_word_in h4)) (fun _ z => z) h6 hd0 rfl rfl hlen hdec (fun H1 locs1 hP1 hD1 hS1 => ?_)
    have e : (am_ws ad cA g).set (k - 8) (ad k, .inr (a, (am_fv ad (g k) 0 fs).set b (.int x))) = am_ws ad cA (am_w g k b x) := by
      rw [am_ob_set ho]
      have := am_fv_set (ad := ad) (f := g k) (v := x) (o := 0) hq
      rw [Nat.zero_add] at this
      show _ = (am_ws ad cA g).set (k - 8) (ad k, .inr (a, am_fv ad (upd (g k) b x) 0 fs))
      rw [this]
    have hP2 : va_P D am_cl ((am_ws ad cA g).set (k - 8) (ad k, .inr (a, (am_fv ad (g k) 0 fs).set b (.int x)))) H1 := hP1
    have hD2 : va_D A ((am_ws ad cA g).set (k - 8) (ad k, .inr (a, (am_fv ad (g k) 0 fs).set b (.int x)))) := hD1
    rw [e] at hP2 hD2
    exact hk H1 ls locs1 ⟨hl, hP2, hD2, hS1, am_Gx_w hG hget.1⟩
theorem am_s_arraylength (hW : am_Wk p R s m args c xs Ln D cA ad A mi) (hcs : cells ≤ R.cells ∧ slots ≤ R.slots) (hdec : decode (am_bytes mi) pc = .ok (.arraylength, len)) (hok : am_okI mi pc (.arraylength) len nxt v a b d w = true) (h : am_do (.arraylength) nxt v a b d mi pc L S g t = some act) (hk : am_Kn (am_PW p l e R s m args below meth c cells slots Q xs Ln D cA ad A) act) (hR : am_Rel xs Ln s D cA ad A mi L g H ls locs) : W p l e R s m args below meth c H locs cells slots Q (F0 m pc ls (S.map (am_cv ad))) := by
  obtain ⟨hx, hb, hml, hown, hts, ⟨hK, hE, hX, hbl, hbA, hN, hA⟩, hF, hLo⟩ := hW
  obtain ⟨hl, hP, hD, hS, hG⟩ := hR
  simp only [am_okI, Bool.and_eq_true, decide_eq_true_eq] at hok
  obtain ⟨rfl, rfl⟩ := hok
  obtain ⟨r, rfl, rfl⟩ := am_len_inv h
  refine va_slen hx hb hX hbl hbA hS hdec ?_
  have K := hk H ls locs ⟨hl, hP, hD, hS, hG⟩
  dsimp only [List.map_cons, am_cv] at K
  rw [hG.2.2] at K
  exact K
theorem am_s_iaload (hW : am_Wk p R s m args c xs Ln D cA ad A mi) (hcs : cells ≤ R.cells ∧ slots ≤ R.slots) (hdec : decode (am_bytes mi) pc = .ok (.iaload, len)) (hok : am_okI mi pc (.iaload) len nxt v a b d w = true) (h : am_do (.iaload) nxt v a b d mi pc L S g t = some act) (hk : am_Kn (am_PW p l e R s m args below meth c cells slots Q xs Ln D cA ad A) act) (hR : am_Rel xs Ln s D cA ad A mi L g H ls locs) : W p l e R s m args below meth c H locs cells slots Q (F0 m pc ls (S.map (am_cv ad))) := by
  obtain ⟨hx, hb, hml, hown, hts, ⟨hK, hE, hX, hbl, hbA, hN, hA⟩, hF, hLo⟩ := hW
  obtain ⟨hl, hP, hD, hS, hG⟩ := hR
  simp only [am_okI, Bool.and_eq_true, decide_eq_true_eq] at hok
  obtain ⟨rfl, rfl⟩ := hok
  rcases am_ild_inv h with ⟨j, r, rfl, rfl⟩ | ⟨j, k, r, mm, rfl, ho, rfl⟩
  · obtain ⟨hin, hk2⟩ := hk
    have e7 : (g 7 0).toNatClampNeg = Ln := by rw [hG.2.2, Int32.toNatClampNeg_ofNat_of_lt hG.1]
    rw [e7] at hin
    have hvp := am_in_vp hin
    have hj : j.toNatClampNeg < Ln := Nat.not_le.mp (fun z => hvp (Or.inr z))
    refine va_sld hx hb hX hbl hbA hS hvp hdec ?_
    have K := hk2 H ls locs ⟨hl, hP, hD, hS, hG⟩
    dsimp only [List.map_cons, am_cv] at K
    rw [hG.2.1 _ hj] at K
    exact K
  · exact va_iald hx hb hK hP (k - 8) 0 (am_ob_get ho).2 rfl (am_in_vp hk.1) hdec (hk.2 H ls locs ⟨hl, hP, hD, hS, hG⟩)
theorem am_s_caload (hW : am_Wk p R s m args c xs Ln D cA ad A mi) (hcs : cells ≤ R.cells ∧ slots ≤ R.slots) (hdec : decode (am_bytes mi) pc = .ok (.caload, len)) (hok : am_okI mi pc (.caload) len nxt v a b d w = true) (h : am_do (.caload) nxt v a b d mi pc L S g t = some act) (hk : am_Kn (am_PW p l e R s m args below meth c cells slots Q xs Ln D cA ad A) act) (hR : am_Rel xs Ln s D cA ad A mi L g H ls locs) : W p l e R s m args below meth c H locs cells slots Q (F0 m pc ls (S.map (am_cv ad))) := by
  obtain ⟨hx, hb, hml, hown, hts, ⟨hK, hE, hX, hbl, hbA, hN, hA⟩, hF, hLo⟩ := hW
  obtain ⟨hl, hP, hD, hS, hG⟩ := hR
  simp only [am_okI, Bool.and_eq_true, decide_eq_true_eq] at hok
  obtain ⟨rfl, rfl⟩ := hok
  obtain ⟨j, k, r, mm, rfl, ho, rfl⟩ := am_ald_inv (ty := 1) (f := fun x => .int x) h
  exact va_cald hx hb hK hP (k - 8) 1 (am_ob_get ho).2 rfl (am_in_vp hk.1) hdec (hk.2 H ls locs ⟨hl, hP, hD, hS, hG⟩)
theorem am_s_baload (hW : am_Wk p R s m args c xs Ln D cA ad A mi) (hcs : cells ≤ R.cells ∧ slots ≤ R.slots) (hdec : decode (am_bytes mi) pc = .ok (.baload, len)) (hok : am_okI mi pc (.baload) len nxt v a b d w = true) (h : am_do (.baload) nxt v a b d mi pc L S g t = some act) (hk : am_Kn (am_PW p l e R s m args below meth c cells slots Q xs Ln D cA ad A) act) (hR : am_Rel xs Ln s D cA ad A mi L g H ls locs) : W p l e R s m args below meth c H locs cells slots Q (F0 m pc ls (S.map (am_cv ad))) := by
  obtain ⟨hx, hb, hml, hown, hts, ⟨hK, hE, hX, hbl, hbA, hN, hA⟩, hF, hLo⟩ := hW
  obtain ⟨hl, hP, hD, hS, hG⟩ := hR
  simp only [am_okI, Bool.and_eq_true, decide_eq_true_eq] at hok
  obtain ⟨rfl, rfl⟩ := hok
  obtain ⟨j, k, r, mm, rfl, ho, rfl⟩ := am_ald_inv (ty := 3) (f := fun x => .int x) h
  exact va_zald hx hb hK hP (k - 8) 3 (am_ob_get ho).2 rfl (am_in_vp hk.1) hdec (hk.2 H ls locs ⟨hl, hP, hD, hS, hG⟩)
theorem am_s_laload (hW : am_Wk p R s m args c xs Ln D cA ad A mi) (hcs : cells ≤ R.cells ∧ slots ≤ R.slots) (hdec : decode (am_bytes mi) pc = .ok (.laload, len)) (hok : am_okI mi pc (.laload) len nxt v a b d w = true) (h : am_do (.laload) nxt v a b d mi pc L S g t = some act) (hk : am_Kn (am_PW p l e R s m args below meth c cells slots Q xs Ln D cA ad A) act) (hR : am_Rel xs Ln s D cA ad A mi L g H ls locs) : W p l e R s m args below meth c H locs cells slots Q (F0 m pc ls (S.map (am_cv ad))) := by
  obtain ⟨hx, hb, hml, hown, hts, ⟨hK, hE, hX, hbl, hbA, hN, hA⟩, hF, hLo⟩ := hW
  obtain ⟨hl, hP, hD, hS, hG⟩ := hR
  simp only [am_okI, Bool.and_eq_true, decide_eq_true_eq] at hok
  obtain ⟨rfl, rfl⟩ := hok
  obtain ⟨j, k, r, mm, rfl, ho, rfl⟩ := am_ald_inv (ty := 2) (f := fun x => .long x.toInt64) h
  exact va_lald hx hb hK hP (k - 8) 2 (am_ob_get ho).2 rfl (am_in_vp hk.1) hdec (hk.2 H ls locs ⟨hl, hP, hD, hS, hG⟩)
theorem am_s_aaload (hW : am_Wk p R s m args c xs Ln D cA ad A mi) (hcs : cells ≤ R.cells ∧ slots ≤ R.slots) (hdec : decode (am_bytes mi) pc = .ok (.aaload, len)) (hok : am_okI mi pc (.aaload) len nxt v a b d w = true) (h : am_do (.aaload) nxt v a b d mi pc L S g t = some act) (hk : am_Kn (am_PW p l e R s m args below meth c cells slots Q xs Ln D cA ad A) act) (hR : am_Rel xs Ln s D cA ad A mi L g H ls locs) : W p l e R s m args below meth c H locs cells slots Q (F0 m pc ls (S.map (am_cv ad))) := by
  obtain ⟨hx, hb, hml, hown, hts, ⟨hK, hE, hX, hbl, hbA, hN, hA⟩, hF, hLo⟩ := hW
  obtain ⟨hl, hP, hD, hS, hG⟩ := hR
  simp only [am_okI, Bool.and_eq_true, decide_eq_true_eq] at hok
  obtain ⟨rfl, rfl⟩ := hok
  obtain ⟨j, k, r, mm, rfl, ho, rfl⟩ := am_rld_inv h
  obtain ⟨hin, hk2⟩ := hk
  rw [Bool.and_eq_true] at hin
  refine va_aldq hx hb hK hP (k - 8) 4 (am_ob_get ho).2 rfl (am_in_vp hin.1) hdec ?_
  have K := hk2 H ls locs ⟨hl, hP, hD, hS, hG⟩
  have e : am_ev ad (g k j.toNatClampNeg) = some (ad (g k j.toNatClampNeg - 1).toNatClampNeg) := by
    unfold am_ev
    rw [hin.2]; rfl
  rw [e]
  exact K
theorem am_s_iastore (hW : am_Wk p R s m args c xs Ln D cA ad A mi) (hcs : cells ≤ R.cells ∧ slots ≤ R.slots) (hdec : decode (am_bytes mi) pc = .ok (.iastore, len)) (hok : am_okI mi pc (.iastore) len nxt v a b d w = true) (h : am_do (.iastore) nxt v a b d mi pc L S g t = some act) (hk : am_Kn (am_PW p l e R s m args below meth c cells slots Q xs Ln D cA ad A) act) (hR : am_Rel xs Ln s D cA ad A mi L g H ls locs) : W p l e R s m args below meth c H locs cells slots Q (F0 m pc ls (S.map (am_cv ad))) := by
  obtain ⟨hx, hb, hml, hown, hts, ⟨hK, hE, hX, hbl, hbA, hN, hA⟩, hF, hLo⟩ := hW
  obtain ⟨hl, hP, hD, hS, hG⟩ := hR
  simp only [am_okI, Bool.and_eq_true, decide_eq_true_eq] at hok
  obtain ⟨rfl, rfl⟩ := hok
  obtain ⟨x, j, k, r, mm, rfl, ho, rfl⟩ := am_ast_inv (ty := 0) (ck := fun b _ => b) (f := fun x => x) h
  have hget := am_ob_get (ad := ad) (cA := cA) (g := g) ho
  refine va_iast hx hb hK hP hD hS (k - 8) 0 hget.2 rfl (am_in_vp hk.1) hdec (fun H1 locs1 hP1 hD1 hS1 => ?_)
  refine hk.2 H1 ls locs1 ⟨hl, ?_, ?_, hS1, am_Gx_w hG hget.1⟩
  · rw [am_ob_set ho]; exact hP1
  · rw [am_ob_set ho]; exact hD1
theorem am_s_castore (hW : am_Wk p R s m args c xs Ln D cA ad A mi) (hcs : cells ≤ R.cells ∧ slots ≤ R.slots) (hdec : decode (am_bytes mi) pc = .ok (.castore, len)) (hok : am_okI mi pc (.castore) len nxt v a b d w = true) (h : am_do (.castore) nxt v a b d mi pc L S g t = some act) (hk : am_Kn (am_PW p l e R s m args below meth c cells slots Q xs Ln D cA ad A) act) (hR : am_Rel xs Ln s D cA ad A mi L g H ls locs) : W p l e R s m args below meth c H locs cells slots Q (F0 m pc ls (S.map (am_cv ad))) := by
  obtain ⟨hx, hb, hml, hown, hts, ⟨hK, hE, hX, hbl, hbA, hN, hA⟩, hF, hLo⟩ := hW
  obtain ⟨hl, hP, hD, hS, hG⟩ := hR
  simp only [am_okI, Bool.and_eq_true, decide_eq_true_eq] at hok
  obtain ⟨rfl, rfl⟩ := hok
  obtain ⟨x, j, k, r, mm, rfl, ho, rfl⟩ := am_ast_inv (ty := 1) (ck := fun b _ => b) (f := fun x => am_chr x) h
  have hget := am_ob_get (ad := ad) (cA := cA) (g := g) ho
  refine va_cast hx hb hK hP hD hS (k - 8) 1 hget.2 rfl (am_in_vp hk.1) hdec (fun H1 locs1 hP1 hD1 hS1 => ?_)
  rw [am_chr_nar] at hP1 hD1
  refine hk.2 H1 ls locs1 ⟨hl, ?_, ?_, hS1, am_Gx_w hG hget.1⟩
  · rw [am_ob_set ho]; exact hP1
  · rw [am_ob_set ho]; exact hD1
theorem am_s_bastore (hW : am_Wk p R s m args c xs Ln D cA ad A mi) (hcs : cells ≤ R.cells ∧ slots ≤ R.slots) (hdec : decode (am_bytes mi) pc = .ok (.bastore, len)) (hok : am_okI mi pc (.bastore) len nxt v a b d w = true) (h : am_do (.bastore) nxt v a b d mi pc L S g t = some act) (hk : am_Kn (am_PW p l e R s m args below meth c cells slots Q xs Ln D cA ad A) act) (hR : am_Rel xs Ln s D cA ad A mi L g H ls locs) : W p l e R s m args below meth c H locs cells slots Q (F0 m pc ls (S.map (am_cv ad))) := by
  obtain ⟨hx, hb, hml, hown, hts, ⟨hK, hE, hX, hbl, hbA, hN, hA⟩, hF, hLo⟩ := hW
  obtain ⟨hl, hP, hD, hS, hG⟩ := hR
  simp only [am_okI, Bool.and_eq_true, decide_eq_true_eq] at hok
  obtain ⟨rfl, rfl⟩ := hok
  obtain ⟨x, j, k, r, mm, rfl, ho, rfl⟩ := am_ast_inv (ty := 3) (ck := fun b x => b && am_isb x) (f := fun x => x) h
  obtain ⟨hin, hk2⟩ := hk
  rw [Bool.and_eq_true] at hin
  have hget := am_ob_get (ad := ad) (cA := cA) (g := g) ho
  refine va_zast hx hb hK hP hD hS (k - 8) 3 hget.2 rfl (am_in_vp hin.1) hdec (fun H1 locs1 hP1 hD1 hS1 => ?_)
  rw [am_isb_nar hin.2] at hP1 hD1
  refine hk2 H1 ls locs1 ⟨hl, ?_, ?_, hS1, am_Gx_w hG hget.1⟩
  · rw [am_ob_set ho]; exact hP1
  · rw [am_ob_set ho]; exact hD1
theorem am_s_lastore (hW : am_Wk p R s m args c xs Ln D cA ad A mi) (hcs : cells ≤ R.cells ∧ slots ≤ R.slots) (hdec : decode (am_bytes mi) pc = .ok (.lastore, len)) (hok : am_okI mi pc (.lastore) len nxt v a b d w = true) (h : am_do (.lastore) nxt v a b d mi pc L S g t = some act) (hk : am_Kn (am_PW p l e R s m args below meth c cells slots Q xs Ln D cA ad A) act) (hR : am_Rel xs Ln s D cA ad A mi L g H ls locs) : W p l e R s m args below meth c H locs cells slots Q (F0 m pc ls (S.map (am_cv ad))) := by
  obtain ⟨hx, hb, hml, hown, hts, ⟨hK, hE, hX, hbl, hbA, hN, hA⟩, hF, hLo⟩ := hW
  obtain ⟨hl, hP, hD, hS, hG⟩ := hR
  simp only [am_okI, Bool.and_eq_true, decide_eq_true_eq] at hok
  obtain ⟨rfl, rfl⟩ := hok
  obtain ⟨x, j, k, r, mm, rfl, ho, rfl⟩ := am_lst_inv h
  obtain ⟨hin, hk2⟩ := hk
  rw [Bool.and_eq_true, decide_eq_true_eq] at hin
  have hget := am_ob_get (ad := ad) (cA := cA) (g := g) ho
  refine va_last hx hb hK hP hD hS (k - 8) 2 hget.2 rfl (am_in_vp hin.1) hdec (fun H1 locs1 hP1 hD1 hS1 => ?_)
  have e : vp_updL (fun q => (g k q).toInt64) j.toNatClampNeg x = fun q => (upd (g k) j.toNatClampNeg x.toInt32 q).toInt64 := by
    funext q
    unfold vp_updL upd
    by_cases hq : q = j.toNatClampNeg
    · rw [if_pos hq, if_pos hq]; exact hin.2
    · rw [if_neg hq, if_neg hq]
  rw [e] at hP1 hD1
  refine hk2 H1 ls locs1 ⟨hl, ?_, ?_, hS1, am_Gx_w hG hget.1⟩
  · rw [am_ob_set ho]; exact hP1
  · rw [am_ob_set ho]; exact hD1
theorem am_s_aastore (hW : am_Wk p R s m args c xs Ln D cA ad A mi) (hcs : cells ≤ R.cells ∧ slots ≤ R.slots) (hdec : decode (am_bytes mi) pc = .ok (.aastore, len)) (hok : am_okI mi pc (.aastore) len nxt v a b d w = true) (h : am_do (.aastore) nxt v a b d mi pc L S g t = some act) (hk : am_Kn (am_PW p l e R s m args below meth c cells slots Q xs Ln D cA ad A) act) (hR : am_Rel xs Ln s D cA ad A mi L g H ls locs) : W p l e R s m args below meth c H locs cells slots Q (F0 m pc ls (S.map (am_cv ad))) := by
  obtain ⟨hx, hb, hml, hown, hts, ⟨hK, hE, hX, hbl, hbA, hN, hA⟩, hF, hLo⟩ := hW
  obtain ⟨hl, hP, hD, hS, hG⟩ := hR
  simp only [am_okI, Bool.and_eq_true, decide_eq_true_eq] at hok
  obtain ⟨rfl, rfl⟩ := hok
  obtain ⟨x, j, k, r, mm, rfl, ho, rfl⟩ := am_rst_inv h
  obtain ⟨hin, hk2⟩ := hk
  rw [Bool.and_eq_true] at hin
  have h6 := am_blt hin.2
  have hget := am_ob_get (ad := ad) (cA := cA) (g := g) ho
  refine vb_astq (E := am_LK) (C := am_LK) hx hb hK hP hD hS (k - 8) 4 hget.2 rfl (va_recvE hE h6 hS) (fun comp c0 h1 h2 => vb_asgS comp c0 h1 h2) (am_in_vp hin.1) hdec (fun H1 locs1 hP1 hD1 hS1 => ?_)
  have e : va_up (fun q => am_ev ad (g k q)) j.toNatClampNeg (some (ad x)) = fun q => am_ev ad (upd (g k) j.toNatClampNeg (Int32.ofNat x + 1) q) := by
    funext q
    unfold va_up upd
    by_cases hq : q = j.toNatClampNeg
    · rw [if_pos hq, if_pos hq, am_six_ev ad h6]
    · rw [if_neg hq, if_neg hq]
  rw [e] at hP1 hD1
  refine hk2 H1 ls locs1 ⟨hl, ?_, ?_, hS1, am_Gx_w hG hget.1⟩
  · rw [am_ob_set ho]; exact hP1
  · rw [am_ob_set ho]; exact hD1
end
