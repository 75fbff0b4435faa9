abbrev am_M : Type := MethodName × ByteArray × Nat × Option FieldType × Nat × Nat × Nat × Nat × Nat × Nat × Nat
def am_m (mi : Nat) : am_M := (am_nth am_ms mi).getD (⟨"", "", ""⟩, code, 0, none, 0, 0, 9, 0, 0, 0, 0)
def am_y (mi : Nat) : MethodName := (am_m mi).1
def am_own (mi : Nat) : String := (am_y mi).cls
def am_bytes (mi : Nat) : ByteArray := (am_m mi).2.1
def am_maxL (mi : Nat) : Nat := (am_m mi).2.2.1
def am_rt (mi : Nat) : Option FieldType := (am_m mi).2.2.2.1
def am_fr (mi : Nat) : Nat := (am_m mi).2.2.2.2.1
def am_lo (mi : Nat) : Nat := (am_m mi).2.2.2.2.2.1
def am_kd (mi : Nat) : Nat := (am_m mi).2.2.2.2.2.2.1
def am_wC (mi : Nat) : Nat := (am_m mi).2.2.2.2.2.2.2.1
def am_wI (mi : Nat) : Nat := (am_m mi).2.2.2.2.2.2.2.2.1
def am_wK (mi : Nat) : Nat := (am_m mi).2.2.2.2.2.2.2.2.2.1
def am_wS (mi : Nat) : Nat := (am_m mi).2.2.2.2.2.2.2.2.2.2
def am_LK : String := "RebuildDesk$LineKind"
def am_LKd : String := "LRebuildDesk$LineKind;"
def am_ens : List String := ["ILL_FORMED", "BLANK", "MACRO", "RULE", "PATTERN", "RECIPE"]
def am_WG : List Cond := lw_tbl.filter goodWord
def am_word (w : Nat) (q : Cond) : Bool := decide (lw_tbl[w]? = some q) && goodWord q
theorem am_word_in {w : Nat} {q : Cond} (h : am_word w q = true) : q ∈ am_WG := by
  simp only [am_word, Bool.and_eq_true, decide_eq_true_eq] at h
  exact List.mem_filter.mpr ⟨List.mem_of_getElem? h.1, h.2⟩
theorem am_good {ws : List Cond} (h : ∀ w ∈ ws, w ∈ am_WG) : GoodIn am_WG ws :=
  goodIn_of ws (List.all_eq_true.mpr (fun w hw => by rw [Bool.and_eq_true]; exact ⟨decide_eq_true (h w hw), (List.mem_filter.mp (h w hw)).2⟩))
def am_cw (a : Nat) : List Cond := Cond.code (am_y a) (am_bytes a) (am_maxL a) (am_rt a) :: am_WG
def am_rm (a : Nat) : Room := { frames := am_fr a, cells := 0, slots := 0, locals := am_lo a }
def am_okM (a : Nat) : Bool := am_word (am_wC a) (.code (am_y a) (am_bytes a) (am_maxL a) (am_rt a)) && am_word (am_wI a) (.initialized (am_own a)) && plainName (am_own a) && decide (am_own a ≠ "java/lang/invoke/MethodHandle") && decide (am_own a ≠ "java/lang/invoke/VarHandle") &&
  (bif Nat.beq (am_kd a) 1 then am_word (am_wK a) (.static (am_y a)) else am_word (am_wK a) (.instanceMethod (am_y a)) && am_word (am_wS a) (.selects (am_own a) (am_y a) (am_y a)))
def am_low (a : Nat) : Bool := Nat.beq (am_kd a) 1 || Nat.beq (am_kd a) 2
def am_callok (mi : Nat) (v : Value) (a d : Nat) : Bool := decide (v = .ref (am_maxL a)) && decide ((parseMethodDescriptor (am_y a).desc).map (fun q => q.parameters.length) = some d) && decide (am_fr a + 1 ≤ am_fr mi) && decide (8 + (am_maxL a + 11) + am_lo a ≤ am_lo mi)
def am_okI (mi pc : Nat) (i : Instr) (len nxt : Nat) (v : Value) (a b d w : Nat) : Bool := match i with
  | .iconst n => decide (len = 1) && decide (nxt = pc + 1) && decide (v = .int (Int32.ofInt n))
  | .bipush n => decide (len = 2) && decide (nxt = pc + 2) && decide (v = .int (Int8.ofInt n).toInt32)
  | .sipush n => decide (len = 3) && decide (nxt = pc + 3) && decide (v = .int (Int16.ofInt n).toInt32)
  | .ldc k => decide (len = 2) && decide (nxt = pc + 2) && (match v with | .int z => am_word w (.constant (am_own mi) k z) | _ => false)
  | .ldc_w k => decide (len = 3) && decide (nxt = pc + 3) && (match v with | .int z => am_word w (.constant (am_own mi) k z) | _ => false)
  | .ldc2_w k => decide (len = 3) && decide (nxt = pc + 3) && (match v with | .long z => am_word w (.constantLong (am_own mi) k z) | _ => false)
  | .iload_n k => decide (len = 1) && decide (nxt = pc + 1) && decide (k.val = a)
  | .lload_n k => decide (len = 1) && decide (nxt = pc + 1) && decide (k.val = a)
  | .aload_n k => decide (len = 1) && decide (nxt = pc + 1) && decide (k.val = a)
  | .iload k => decide (len = 2) && decide (nxt = pc + 2) && decide (k = a)
  | .aload k => decide (len = 2) && decide (nxt = pc + 2) && decide (k = a)
  | .istore_n k => decide (len = 1) && decide (nxt = pc + 1) && (decide (k.val = a) && decide (a < am_maxL mi))
  | .istore k => decide (len = 2) && decide (nxt = pc + 2) && (decide (k = a) && decide (a < am_maxL mi))
  | .iinc k z => decide (len = 3) && decide (nxt = pc + 3) && (decide (k = a) && decide (a < am_maxL mi) && decide (v = .int (Int32.ofInt z)))
  | .ifCond _ o => decide (len = 3) && decide (nxt = pc + 3) && decide ((pc : Int) + o = (a : Int))
  | .if_icmp _ o => decide (len = 3) && decide (nxt = pc + 3) && decide ((pc : Int) + o = (a : Int))
  | .if_acmp _ o => decide (len = 3) && decide (nxt = pc + 3) && decide ((pc : Int) + o = (a : Int))
  | .goto o => decide (len = 3) && decide (nxt = pc + 3) && decide ((pc : Int) + o = (a : Int))
  | .tableswitch df lo hi offs => decide (0 ≤ (pc : Int) + df) && decide ((offs.size : Int) = hi - lo + 1) && offs.toList.all (fun o => decide (0 ≤ (pc : Int) + o))
  | .getfield k => decide (len = 3) && decide (nxt = pc + 3) && (match am_nth am_cl a with
    | some (_, T, N) => decide (b < N) && am_word w (.fieldLink (am_own mi) k (T b).1 (T b).2.1 (T b).2.2.1)
    | none => false)
  | .putfield k => decide (len = 3) && decide (nxt = pc + 3) && (match am_nth am_cl a with
    | some (_, T, N) => decide (b < N) && am_word w (.fieldLink (am_own mi) k (T b).1 (T b).2.1 (T b).2.2.1) && (decide ((T b).2.2.1 = "I") && decide ((T b).2.2.2 = false))
    | none => false)
  | .getstatic k => decide (len = 3) && decide (nxt = pc + 3) && am_word w (.fieldLink (am_own mi) k am_LK (am_ens.getD a "") am_LKd)
  | .invokevirtual k => decide (len = 3) && decide (nxt = pc + 3) && (am_word w (.methodLink (am_own mi) k (am_y a)) && am_callok mi v a d && (match am_nth am_cl b with | some (C, _, _) => decide (C = am_own a) | none => false) && (bif Nat.beq (am_kd mi) 3 then Nat.beq (am_kd a) 4 else Nat.beq (am_kd a) 2))
  | .invokestatic k => decide (len = 3) && decide (nxt = pc + 3) && (bif Nat.beq b 1 then am_word w (.methodLink (am_own mi) k Lib.Math.max.name) && decide (1 ≤ am_fr mi) && decide (21 ≤ am_lo mi) else bif Nat.beq b 2 then am_word w (.methodLink (am_own mi) k Lib.Math.min.name) && decide (1 ≤ am_fr mi) && decide (21 ≤ am_lo mi) else
    bif Nat.beq b 3 then decide (lw_tbl[w]? = some (.methodLinkNest (am_own mi) k (am_y a) "RebuildDesk")) && am_callok mi v a d && Nat.beq (am_kd a) 1 else
    am_word w (.methodLink (am_own mi) k (am_y a)) && am_callok mi v a d && (Nat.beq (am_kd a) 1 || (Nat.beq (am_kd mi) 0 && Nat.beq (am_kd a) 3)))
  | .ireturn => decide (len = 1) && (match d with | 0 => decide (am_rt mi = some .int) | 1 => decide (am_rt mi = some .boolean) | 2 => decide (am_rt mi = some .char) | _ => decide (am_rt mi = some .int))
  | .areturn => decide (len = 1) && (match am_rt mi with | some (.object _) => true | _ => false)
  | .return_ => decide (len = 1) && decide (am_rt mi = none)
  | .new _ => decide (len = 3)
  | _ => decide (len = 1) && decide (nxt = pc + 1)
def am_okE (mi : Nat) (q : Nat × am_E) : Bool := match decode (am_bytes mi) q.1 with
  | .ok (i, len) => decide (i = q.2.1) && am_okI mi q.1 i len q.2.2.1 q.2.2.2.2.1 q.2.2.2.2.2.1 q.2.2.2.2.2.2.1 q.2.2.2.2.2.2.2.1 q.2.2.2.2.2.2.2.2
  | _ => false
def am_okT (mi : Nat) (t : List (List (Nat × am_E))) : Bool := t.all (fun c => c.all (am_okE mi))
theorem am_find_mem {α : Type} : ∀ {t : List (Nat × α)} {i : Nat} {x : α}, am_find t i = some x → (i, x) ∈ t
  | [], _, _, h => by cases h
  | (j, z) :: r, i, x, h => by
    rw [am_find] at h
    cases hb : Nat.beq j i with
    | true =>
      rw [hb] at h
      have e : j = i := Nat.eq_of_beq_eq_true hb
      cases h
      rw [e]
      exact List.mem_cons_self
    | false =>
      rw [hb] at h
      exact List.mem_cons_of_mem _ (am_find_mem h)
theorem am_nth_mem {α : Type} : ∀ {l : List α} {n : Nat} {x : α}, am_nth l n = some x → x ∈ l
  | [], _, _, h => by cases h
  | y :: r, 0, x, h => by cases h; exact List.mem_cons_self
  | y :: r, n + 1, x, h => List.mem_cons_of_mem _ (am_nth_mem (l := r) (n := n) h)
theorem am_nth_get {α : Type} : ∀ (l : List α) (n : Nat), am_nth l n = l[n]?
  | [], _ => rfl
  | _ :: _, 0 => rfl
  | _ :: r, n + 1 => by rw [am_nth, am_nth_get r n, List.getElem?_cons_succ]
def am_cv (ad : Nat → Nat) : Value → Value
  | .ref k => .ref (ad k)
  | v => v
def am_ev (ad : Nat → Nat) (x : Int32) : Option Nat := bif am_in (x - 1) 6 then some (ad (x - 1).toNatClampNeg) else none
def am_fv (ad : Nat → Nat) (f : Nat → Int32) : Nat → List (Option Nat) → List Value
  | _, [] => []
  | j, some q :: r => .ref (ad q) :: am_fv ad f (j + 1) r
  | j, none :: r => .int (f j) :: am_fv ad f (j + 1) r
def am_ar (ad : Nat → Nat) (ty : Nat) (f : Nat → Int32) : (Nat → Int32) ⊕ (Nat → Int64) ⊕ (Nat → UInt32) ⊕ (Nat → UInt64) ⊕ (Nat → Option Nat) := match ty with
  | 2 => .inr (.inl (fun j => (f j).toInt64))
  | 4 => .inr (.inr (.inr (.inr (fun j => am_ev ad (f j)))))
  | _ => .inl f
def am_cel (ad : Nat → Nat) (cA : Nat → ClassId) (f : Nat → Int32) (o : (Nat × Nat) ⊕ (Nat × List (Option Nat))) : va_E := match o with
  | .inl (ty, m) => .inl (cA ty, m, am_ar ad ty f)
  | .inr (ci, fs) => .inr (ci, am_fv ad f 0 fs)
def am_wl (ad : Nat → Nat) (cA : Nat → ClassId) (g : am_G) : Nat → List ((Nat × Nat) ⊕ (Nat × List (Option Nat))) → va_W
  | _, [] => []
  | k, o :: r => (ad k, am_cel ad cA (g k) o) :: am_wl ad cA g (k + 1) r
def am_ws (ad : Nat → Nat) (cA : Nat → ClassId) (g : am_G) : va_W := am_wl ad cA g 8 am_obs
theorem am_w_k {g : am_G} {k i k' : Nat} {v : Int32} (h : k' ≠ k) : am_w g k i v k' = g k' := if_neg h
theorem am_w_s {g : am_G} {k i : Nat} {v : Int32} : am_w g k i v k = upd (g k) i v := by
  funext j
  unfold am_w upd
  rw [if_pos rfl]
theorem am_wl_get {ad : Nat → Nat} {cA : Nat → ClassId} {g : am_G} : ∀ {l : List ((Nat × Nat) ⊕ (Nat × List (Option Nat)))} {b j : Nat} {o : (Nat × Nat) ⊕ (Nat × List (Option Nat))}, am_nth l j = some o → (am_wl ad cA g b l)[j]? = some (ad (b + j), am_cel ad cA (g (b + j)) o)
  | [], _, _, _, h => by cases h
  | y :: r, b, 0, o, h => by cases h; rfl
  | y :: r, b, j + 1, o, h => by
    rw [am_wl, List.getElem?_cons_succ, am_wl_get (l := r) (b := b + 1) (j := j) h, show b + 1 + j = b + (j + 1) by omega]
theorem am_wl_keep {ad : Nat → Nat} {cA : Nat → ClassId} {g : am_G} {k i : Nat} {v : Int32} : ∀ (l : List ((Nat × Nat) ⊕ (Nat × List (Option Nat)))) (b : Nat), k < b → am_wl ad cA (am_w g k i v) b l = am_wl ad cA g b l
  | [], _, _ => rfl
  | y :: r, b, h => by rw [am_wl, am_wl, am_w_k (by omega), am_wl_keep r (b + 1) (by omega)]
theorem am_wl_set {ad : Nat → Nat} {cA : Nat → ClassId} {g : am_G} {i : Nat} {v : Int32} : ∀ {l : List ((Nat × Nat) ⊕ (Nat × List (Option Nat)))} {b j : Nat} {o : (Nat × Nat) ⊕ (Nat × List (Option Nat))}, am_nth l j = some o → am_wl ad cA (am_w g (b + j) i v) b l = (am_wl ad cA g b l).set j (ad (b + j), am_cel ad cA (upd (g (b + j)) i v) o)
  | [], _, _, _, h => by cases h
  | y :: r, b, 0, o, h => by
    cases h
    rw [am_wl, am_wl, List.set_cons_zero, Nat.add_zero, am_w_s, am_wl_keep r (b + 1) (by omega)]
  | y :: r, b, j + 1, o, h => by
    have e : b + (j + 1) = b + 1 + j := by omega
    rw [am_wl, am_wl, List.set_cons_succ, am_w_k (by omega), e, am_wl_set (l := r) (b := b + 1) (j := j) h]
theorem am_ob_get {ad : Nat → Nat} {cA : Nat → ClassId} {g : am_G} {k : Nat} {o : (Nat × Nat) ⊕ (Nat × List (Option Nat))} (h : am_ob k = some o) : 8 ≤ k ∧ (am_ws ad cA g)[k - 8]? = some (ad k, am_cel ad cA (g k) o) := by
  unfold am_ob at h
  cases hb : Nat.ble 8 k with
  | true =>
    rw [hb] at h
    have h8 : 8 ≤ k := Nat.le_of_ble_eq_true hb
    refine ⟨h8, ?_⟩
    unfold am_ws
    rw [am_wl_get h, show 8 + (k - 8) = k by omega]
  | false => rw [hb] at h; cases h
theorem am_ob_set {ad : Nat → Nat} {cA : Nat → ClassId} {g : am_G} {k i : Nat} {v : Int32} {o : (Nat × Nat) ⊕ (Nat × List (Option Nat))} (h : am_ob k = some o) : am_ws ad cA (am_w g k i v) = (am_ws ad cA g).set (k - 8) (ad k, am_cel ad cA (upd (g k) i v) o) := by
  unfold am_ob at h
  cases hb : Nat.ble 8 k with
  | true =>
    rw [hb] at h
    have h8 : 8 ≤ k := Nat.le_of_ble_eq_true hb
    unfold am_ws
    have := am_wl_set (ad := ad) (cA := cA) (g := g) (i := i) (v := v) (b := 8) h
    rw [show 8 + (k - 8) = k by omega] at this
    exact this
  | false => rw [hb] at h; cases h
theorem am_fv_get {ad : Nat → Nat} {f : Nat → Int32} : ∀ {fs : List (Option Nat)} {o b : Nat} {q : Option Nat}, am_nth fs b = some q → (am_fv ad f o fs)[b]? = some (match q with | some r => .ref (ad r) | none => .int (f (o + b)))
  | [], _, _, _, h => by cases h
  | some x :: r, o, 0, q, h => by cases h; rfl
  | none :: r, o, 0, q, h => by cases h; rfl
  | some x :: r, o, b + 1, q, h => by
    rw [am_fv, List.getElem?_cons_succ, am_fv_get (fs := r) (o := o + 1) (b := b) h, show o + 1 + b = o + (b + 1) by omega]
  | none :: r, o, b + 1, q, h => by
    rw [am_fv, List.getElem?_cons_succ, am_fv_get (fs := r) (o := o + 1) (b := b) h, show o + 1 + b = o + (b + 1) by omega]
theorem am_fv_keep {ad : Nat → Nat} {f : Nat → Int32} {k : Nat} {v : Int32} : ∀ (fs : List (Option Nat)) (o : Nat), k < o → am_fv ad (upd f k v) o fs = am_fv ad f o fs
  | [], _, _ => rfl
  | some x :: r, o, h => by rw [am_fv, am_fv, am_fv_keep r (o + 1) (by omega)]
  | none :: r, o, h => by
    rw [am_fv, am_fv, am_fv_keep r (o + 1) (by omega)]
    unfold upd
    rw [if_neg (by omega)]
theorem am_fv_set {ad : Nat → Nat} {f : Nat → Int32} {v : Int32} : ∀ {fs : List (Option Nat)} {o b : Nat}, am_nth fs b = some none → am_fv ad (upd f (o + b) v) o fs = (am_fv ad f o fs).set b (.int v)
  | [], _, _, h => by cases h
  | some x :: r, o, 0, h => by cases h
  | none :: r, o, 0, h => by
    rw [am_fv, am_fv, List.set_cons_zero, Nat.add_zero, am_fv_keep r (o + 1) (by omega)]
    unfold upd
    rw [if_pos rfl]
  | some x :: r, o, b + 1, h => by
    have e : o + (b + 1) = o + 1 + b := by omega
    rw [am_fv, am_fv, List.set_cons_succ, e, am_fv_set (fs := r) (o := o + 1) (b := b) h]
  | none :: r, o, b + 1, h => by
    have e : o + (b + 1) = o + 1 + b := by omega
    rw [am_fv, am_fv, List.set_cons_succ, e, am_fv_set (fs := r) (o := o + 1) (b := b) h]
    unfold upd
    rw [if_neg (by omega)]
theorem am_fv_len {ad : Nat → Nat} {f : Nat → Int32} : ∀ (fs : List (Option Nat)) (o : Nat), (am_fv ad f o fs).length = fs.length
  | [], _ => rfl
  | some x :: r, o => by rw [am_fv, List.length_cons, List.length_cons, am_fv_len r (o + 1)]
  | none :: r, o => by rw [am_fv, List.length_cons, List.length_cons, am_fv_len r (o + 1)]
def am_lc (ad : Nat → Nat) (L : am_L) : List (Nat × Value) := L.map (fun q => (q.1, am_cv ad q.2))
theorem am_cat (ad : Nat → Nat) (v : Value) : (am_cv ad v).category = v.category := by cases v <;> rfl
theorem am_two_cat (v : Value) : am_two v = true ↔ v.category = 2 := by cases v <;> simp [am_two, Value.category]
theorem am_lv {ad : Nat → Nat} {ls : Array Slot} {nL : Nat} {L : am_L} (h : lv_has ls nL (am_lc ad L)) {i : Nat} {v : Value} (hf : am_find L i = some v) : ls[i]? = some (.val (am_cv ad v)) :=
  h.2.2 (i, am_cv ad v) (List.mem_map.mpr ⟨(i, v), am_find_mem hf, rfl⟩)
theorem am_lsub {ls : Array Slot} {nL : Nat} {l l' : List (Nat × Value)} (h : lv_has ls nL l) (hs : ∀ q ∈ l', q ∈ l) : lv_has ls nL l' := ⟨h.1, h.2.1, fun q hq => h.2.2 q (hs q hq)⟩
theorem am_trim_sub : ∀ (L : am_L) (n : Nat), ∀ q ∈ am_trim L n, q ∈ L
  | [], _, q, h => h
  | (j, x) :: r, n, q, h => by
    rw [am_trim] at h
    cases hb : Nat.ble n j with
    | true => rw [hb] at h; exact List.mem_cons_of_mem _ (am_trim_sub r n q h)
    | false =>
      rw [hb] at h
      rcases List.mem_cons.mp h with e | h
      · rw [e]; exact List.mem_cons_self
      · exact List.mem_cons_of_mem _ (am_trim_sub r n q h)
theorem am_del_sub : ∀ (L : am_L) (i : Nat), ∀ q ∈ am_del L i, q ∈ L ∧ q.1 ≠ i
  | [], _, q, h => by cases h
  | (j, x) :: r, i, q, h => by
    rw [am_del] at h
    cases hb : Nat.beq j i with
    | true =>
      rw [hb] at h
      have g := am_del_sub r i q h
      exact ⟨List.mem_cons_of_mem _ g.1, g.2⟩
    | false =>
      rw [hb] at h
      rcases List.mem_cons.mp h with e | h
      · rw [e]
        exact ⟨List.mem_cons_self, Nat.ne_of_beq_eq_false hb⟩
      · have g := am_del_sub r i q h
        exact ⟨List.mem_cons_of_mem _ g.1, g.2⟩
theorem am_ins_sub : ∀ (L : am_L) (i : Nat) (v : Value), ∀ q ∈ am_ins L i v, q = (i, v) ∨ q ∈ L
  | [], i, v, q, h => Or.inl (List.mem_singleton.mp h)
  | (j, x) :: r, i, v, q, h => by
    rw [am_ins] at h
    cases hb : Nat.ble i j with
    | true =>
      rw [hb] at h
      rcases List.mem_cons.mp h with e | h
      · exact Or.inl e
      · exact Or.inr h
    | false =>
      rw [hb] at h
      rcases List.mem_cons.mp h with e | h
      · rw [e]; exact Or.inr List.mem_cons_self
      · rcases am_ins_sub r i v q h with e | h
        · exact Or.inl e
        · exact Or.inr (List.mem_cons_of_mem _ h)
theorem am_nol_not : ∀ (L : am_L) (i : Nat), am_nol L i = true → ∀ q ∈ L, ¬ (q.1 + 1 = i ∧ q.2.category = 2)
  | [], _, _, q, h => by cases h
  | (j, x) :: r, i, hn, q, h => by
    rw [am_nol, Bool.and_eq_true] at hn
    rcases List.mem_cons.mp h with e | h
    · subst e
      rintro ⟨h1, h2⟩
      have h3 := hn.1
      rw [(am_two_cat _).mpr h2, show Nat.beq (j + 1) i = true by rw [← h1]; exact Nat.beq_refl _] at h3
      cases h3
    · exact am_nol_not r i hn.2 q h
theorem am_lput {ad : Nat → Nat} {ls : Array Slot} {nL : Nat} {L : am_L} {i : Nat} {v : Value} (hn : am_nol L i = true) (h : lv_has ls nL ((i, am_cv ad v) :: (am_lc ad L).filter (fun q => !(q.1 == i) && !(q.1 + 1 == i && q.2.category == 2)))) : lv_has ls nL (am_lc ad (am_put L i v)) := by
  refine am_lsub h (fun q hq => ?_)
  obtain ⟨q0, h0, rfl⟩ := List.mem_map.mp hq
  rcases am_ins_sub _ _ _ _ h0 with e | h1
  · rw [e]; exact List.mem_cons_self
  · obtain ⟨h2, h3⟩ := am_del_sub _ _ _ h1
    refine List.mem_cons_of_mem _ (List.mem_filter.mpr ⟨List.mem_map.mpr ⟨q0, h2, rfl⟩, ?_⟩)
    have h4 := am_nol_not L i hn q0 h2
    simp only [am_cat, Bool.and_eq_true, Bool.not_eq_true', beq_eq_false_iff_ne, ne_eq, h3, not_false_eq_true, true_and]
    simpa using h4
theorem am_in_vp {i : Int32} {n : Nat} (h : am_in i n = true) : vp_in i n := by
  simp only [am_in, Bool.and_eq_true, Bool.not_eq_true', decide_eq_false_iff_not, decide_eq_true_eq] at h
  intro z
  rcases z with z | z
  · exact h.1 z
  · omega
def am_tys (cA : Nat → ClassId) : List (ClassId × FieldType) := [(cA 0, .int), (cA 1, .char), (cA 2, .long), (cA 3, .boolean), (cA 4, .object am_LK)]
def am_X (xs : Nat → Int32) (Ln : Nat) (D : va_G) (cA : Nat → ClassId) (ad : Nat → Nat) (A : Nat → Prop) (s : State) : Prop :=
  va_K D am_cl (am_tys cA) s ∧ va_En am_LK am_LKd am_ens [] ad A s s.heap ∧ va_X (ad 6) Ln xs s s.heap ∧ ad 6 < s.heap.size ∧ ¬ A (ad 6) ∧
  (∀ (o : String) (k : Nat) (y : MethodName) (h : String), Cond.methodLinkNest o k y h ∈ lw_tbl → va_Nw (.methodLinkNest o k y h) s) ∧ (∀ q, s.heap.size ≤ q → A q)
def am_Gx (xs : Nat → Int32) (Ln : Nat) (g : am_G) : Prop := Ln < 2147483648 ∧ (∀ i, i < Ln → g 6 i = xs i) ∧ g 7 0 = Int32.ofNat Ln
def am_Wk (p : Program) (R : Room) (s : State) (m : MethodId) (args : Array Value) (c : Code) (xs : Nat → Int32) (Ln : Nat) (D : va_G) (cA : Nat → ClassId) (ad : Nat → Nat) (A : Nat → Prop) (mi : Nat) : Prop :=
  p.tables.exec = Jvm.exec ∧ c.code = am_bytes mi ∧ c.maxLocals = am_maxL mi ∧ s.vm.findClass (am_own mi) = some m.cls ∧ (∀ w ∈ am_WG, w.before args s = true) ∧ am_X xs Ln D cA ad A s ∧ am_fr mi ≤ R.frames ∧ am_lo mi ≤ R.locals
def am_Rel (xs : Nat → Int32) (Ln : Nat) (s : State) (D : va_G) (cA : Nat → ClassId) (ad : Nat → Nat) (A : Nat → Prop) (mi : Nat) (L : am_L) (g : am_G) (H : Heap) (ls : Array Slot) (locs : List Loc) : Prop :=
  lv_has ls (am_maxL mi) (am_lc ad L) ∧ va_P D am_cl (am_ws ad cA g) H ∧ va_D A (am_ws ad cA g) ∧ va_S A s.heap H locs ∧ am_Gx xs Ln g
