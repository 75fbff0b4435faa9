def am_Tk (t : Nat) (act : am_A) : Prop := match act with
  | .inl s => s.2.2.2.2.2 = t
  | .inr (.inl (_, s)) => s.2.2.2.2.2 = t
  | .inr (.inr (.inl (.inl (_, _, _, s1, s2)))) => s1.2.2.2.2.2 = t ∧ s2.2.2.2.2.2 = t
  | .inr (.inr (.inl (.inr (_, _, _, _, s1, s2)))) => s1.2.2.2.2.2 = t ∧ s2.2.2.2.2.2 = t
  | .inr (.inr (.inr (.inr (.inr (.inr s))))) => s.2.2.2.2.2 = t
  | _ => False
theorem am_do_tk {i : Instr} {nxt : Nat} {v : Value} {a b d mi pc : Nat} {L : am_L} {S : List Value} {g : am_G} {t : Nat} {act : am_A} (hp : am_plain i b = true) (h : am_do i nxt v a b d mi pc L S g t = some act) : am_Tk t act := by
  cases i with
  | iconst n =>
    cases Option.some.inj h
    exact rfl
  | bipush n =>
    cases Option.some.inj h
    exact rfl
  | sipush n =>
    cases Option.some.inj h
    exact rfl
  | ldc n =>
    cases Option.some.inj h
    exact rfl
  | ldc_w n =>
    cases Option.some.inj h
    exact rfl
  | ldc2_w n =>
    cases Option.some.inj h
    exact rfl
  | goto n =>
    cases Option.some.inj h
    exact rfl
  | iload_n n =>
    obtain ⟨x, hf, rfl⟩ := am_iLd_inv h
    exact rfl
  | iload n =>
    obtain ⟨x, hf, rfl⟩ := am_iLd_inv h
    exact rfl
  | lload_n n =>
    obtain ⟨x, hf, rfl⟩ := am_lLd_inv h
    exact rfl
  | aload_n n =>
    obtain ⟨x, hf, rfl⟩ := am_aLd_inv h
    exact rfl
  | aload n =>
    obtain ⟨x, hf, rfl⟩ := am_aLd_inv h
    exact rfl
  | istore_n n =>
    obtain ⟨x, r, rfl, hn, rfl⟩ := am_iSt_inv h
    exact rfl
  | istore n =>
    obtain ⟨x, r, rfl, hn, rfl⟩ := am_iSt_inv h
    exact rfl
  | iinc n z =>
    obtain ⟨x, y, hf, hy, hn, rfl⟩ := am_iInc_inv h
    exact rfl
  | iadd =>
    obtain ⟨x, y, r, rfl, rfl⟩ := am_bin_inv (f := fun x y => x + y) h
    exact rfl
  | isub =>
    obtain ⟨x, y, r, rfl, rfl⟩ := am_bin_inv (f := fun x y => x - y) h
    exact rfl
  | imul =>
    obtain ⟨x, y, r, rfl, rfl⟩ := am_bin_inv (f := fun x y => x * y) h
    exact rfl
  | iand =>
    obtain ⟨x, y, r, rfl, rfl⟩ := am_bin_inv (f := fun x y => x &&& y) h
    exact rfl
  | ior =>
    obtain ⟨x, y, r, rfl, rfl⟩ := am_bin_inv (f := fun x y => x ||| y) h
    exact rfl
  | ixor =>
    obtain ⟨x, y, r, rfl, rfl⟩ := am_bin_inv (f := fun x y => x ^^^ y) h
    exact rfl
  | ishl =>
    obtain ⟨x, y, r, rfl, rfl⟩ := am_bin_inv (f := fun x y => x <<< (y &&& 31)) h
    exact rfl
  | ishr =>
    obtain ⟨x, y, r, rfl, rfl⟩ := am_bin_inv (f := fun x y => x >>> (y &&& 31)) h
    exact rfl
  | iushr =>
    obtain ⟨x, y, r, rfl, rfl⟩ := am_bin_inv (f := fun x y => (x.toUInt32 >>> (y.toUInt32 &&& Int32.toUInt32 31)).toInt32) h
    exact rfl
  | idiv =>
    obtain ⟨x, y, r, rfl, rfl⟩ := am_div_inv (f := fun x y => x / y) h
    exact rfl
  | irem =>
    obtain ⟨x, y, r, rfl, rfl⟩ := am_div_inv (f := fun x y => x - x / y * y) h
    exact rfl
  | i2l =>
    obtain ⟨x, r, rfl, rfl⟩ := am_un_inv (f := fun x => .long x.toInt64) h
    exact rfl
  | i2c =>
    obtain ⟨x, r, rfl, rfl⟩ := am_un_inv (f := fun x => .int (am_chr x)) h
    exact rfl
  | l2i =>
    obtain ⟨x, r, rfl, rfl⟩ := am_l2_inv h
    exact rfl
  | land =>
    obtain ⟨x, y, r, rfl, rfl⟩ := am_lbin_inv (f := fun x y => .long (x &&& y)) h
    exact rfl
  | lor =>
    obtain ⟨x, y, r, rfl, rfl⟩ := am_lbin_inv (f := fun x y => .long (x ||| y)) h
    exact rfl
  | lcmp =>
    obtain ⟨x, y, r, rfl, rfl⟩ := am_lbin_inv (f := fun x y => .int (lg_cmp x y)) h
    exact rfl
  | lshl =>
    obtain ⟨x, y, r, rfl, rfl⟩ := am_lsh_inv (f := fun x y => x <<< (y.toInt64 &&& 63)) h
    exact rfl
  | lshr =>
    obtain ⟨x, y, r, rfl, rfl⟩ := am_lsh_inv (f := fun x y => x >>> (y.toInt64 &&& 63)) h
    exact rfl
  | lushr =>
    obtain ⟨x, y, r, rfl, rfl⟩ := am_lsh_inv (f := fun x y => (x.toUInt64 >>> (y.toInt64.toUInt64 &&& Int64.toUInt64 63)).toInt64) h
    exact rfl
  | dup =>
    obtain ⟨x, r, rfl, hc, rfl⟩ := am_dup_inv h
    exact rfl
  | dup2 =>
    obtain ⟨x, y, r, rfl, rfl⟩ := am_dup2_inv h
    exact rfl
  | ifCond q n =>
    obtain ⟨x, r, rfl, rfl⟩ := am_if1_inv h
    exact ⟨rfl, rfl⟩
  | if_icmp q n =>
    obtain ⟨x, y, r, rfl, rfl⟩ := am_if2_inv h
    exact ⟨rfl, rfl⟩
  | if_acmp q n =>
    obtain ⟨x, y, r, rfl, rfl, rfl⟩ := am_ifa_inv h
    exact ⟨rfl, rfl⟩
  | tableswitch df lo hi offs =>
    obtain ⟨x, r, rfl, rfl⟩ := am_sw_inv h
    exact rfl
  | getstatic n =>
    obtain ⟨h6, rfl⟩ := am_gs_inv h
    exact rfl
  | getfield n =>
    obtain ⟨k, r, fs, rfl, ho, hcase⟩ := am_gf_inv h
    rcases hcase with ⟨q, hq, rfl⟩ | ⟨hq, rfl⟩
    · exact rfl
    · exact rfl
  | putfield n =>
    obtain ⟨x, k, r, fs, rfl, ho, hq, rfl⟩ := am_pf_inv h
    exact rfl
  | arraylength =>
    obtain ⟨r, rfl, rfl⟩ := am_len_inv h
    exact rfl
  | iaload =>
    rcases am_ild_inv h with ⟨j, r, rfl, rfl⟩ | ⟨j, k, r, mm, rfl, ho, rfl⟩
    · exact rfl
    · exact rfl
  | caload =>
    obtain ⟨j, k, r, mm, rfl, ho, rfl⟩ := am_ald_inv (ty := 1) (f := fun x => .int x) h
    exact rfl
  | baload =>
    obtain ⟨j, k, r, mm, rfl, ho, rfl⟩ := am_ald_inv (ty := 3) (f := fun x => .int x) h
    exact rfl
  | laload =>
    obtain ⟨j, k, r, mm, rfl, ho, rfl⟩ := am_ald_inv (ty := 2) (f := fun x => .long x.toInt64) h
    exact rfl
  | aaload =>
    obtain ⟨j, k, r, mm, rfl, ho, rfl⟩ := am_rld_inv h
    exact rfl
  | iastore =>
    obtain ⟨x, j, k, r, mm, rfl, ho, rfl⟩ := am_ast_inv (ty := 0) (ck := fun b _ => b) (f := fun x => x) h
    exact rfl
  | castore =>
    obtain ⟨x, j, k, r, mm, rfl, ho, rfl⟩ := am_ast_inv (ty := 1) (ck := fun b _ => b) (f := fun x => am_chr x) h
    exact rfl
  | bastore =>
    obtain ⟨x, j, k, r, mm, rfl, ho, rfl⟩ := am_ast_inv (ty := 3) (ck := fun b x => b && am_isb x) (f := fun x => x) h
    exact rfl
  | lastore =>
    obtain ⟨x, j, k, r, mm, rfl, ho, rfl⟩ := am_lst_inv h
    exact rfl
  | aastore =>
    obtain ⟨x, j, k, r, mm, rfl, ho, rfl⟩ := am_rst_inv h
    exact rfl
  | invokestatic n =>
    have hp : (Nat.beq b 1 || Nat.beq b 2) = true := hp
    cases h1 : Nat.beq b 1 with
    | true =>
      have h : (bif Nat.beq b 1 then am_mx mi nxt L S g t (fun x y => if x < y then y else x) else bif Nat.beq b 2 then am_mx mi nxt L S g t (fun x y => if y < x then y else x) else am_is mi pc L S g t v a d) = some act := h
      rw [h1] at h
      obtain ⟨x, y, r, rfl, hw, rfl⟩ := am_mx_inv h
      exact rfl
    | false =>
      have h : (bif Nat.beq b 1 then am_mx mi nxt L S g t (fun x y => if x < y then y else x) else bif Nat.beq b 2 then am_mx mi nxt L S g t (fun x y => if y < x then y else x) else am_is mi pc L S g t v a d) = some act := h
      rw [h1, Bool.false_or] at hp
      rw [h1, hp] at h
      obtain ⟨x, y, r, rfl, hw, rfl⟩ := am_mx_inv h
      exact rfl
  | invokevirtual n => cases hp
  | ireturn => cases hp
  | areturn => cases hp
  | return_ => cases hp
  | new n => cases hp
  | _ => exact (am_none h).elim
def am_r3 (i : Instr) (d : Nat) : Bool := match i with
  | .ireturn => Nat.beq d 3
  | .areturn => false
  | .return_ => false
  | .new _ => false
  | _ => true
def am_dl (mi : Nat) : Nat := bif Nat.beq (am_kd mi) 3 then 1 else 0
theorem am_kd3 : (List.range 121).all (fun a => !Nat.beq (am_kd a) 3 || (Nat.beq a 90 || Nat.beq a 91)) = true := by decide +kernel
theorem am_kd3_of {a : Nat} (h : am_kd a = 3) : a = 90 ∨ a = 91 := by
  by_cases ha : a < 121
  · have := List.all_eq_true.mp am_kd3 a (List.mem_range.mpr ha)
    rw [h] at this
    simp only [show Nat.beq 3 3 = true from rfl, Bool.not_true, Bool.false_or, Bool.or_eq_true] at this
    rcases this with z | z
    · exact Or.inl (Nat.eq_of_beq_eq_true z)
    · exact Or.inr (Nat.eq_of_beq_eq_true z)
  · exfalso
    have e : am_m a = (⟨"", "", ""⟩, code, 0, none, 0, 0, 9, 0, 0, 0, 0) := by
      unfold am_m
      rw [am_nth_get, List.getElem?_eq_none (by rw [am_len_ms]; omega)]
      rfl
    unfold am_kd at h
    rw [e] at h
    cases h
def am_r3B (t : List (List (Nat × am_E))) : Bool := t.all (fun c => c.all (fun q => am_r3 q.2.1 q.2.2.2.2.2.2.2.1))
theorem am_r3_90 : am_r3B am_t90 = true := by decide +kernel
theorem am_r3_91 : am_r3B am_t91 = true := by decide +kernel
theorem am_r3_of {mi pc nxt kp a b d w : Nat} {i : Instr} {v : Value} (hk : am_kd mi = 3) (hc : am_code mi pc = some (i, nxt, kp, v, a, b, d, w)) : am_r3 i d = true := by
  have use : ∀ t : List (List (Nat × am_E)), am_r3B t = true → ∀ c ∈ t, (pc, (i, nxt, kp, v, a, b, d, w)) ∈ c → am_r3 i d = true := fun t h c hc he => List.all_eq_true.mp (List.all_eq_true.mp h c hc) _ he
  obtain ⟨u, t, c, h1, h2, h3, h4⟩ := am_code_mem hc
  rcases am_kd3_of hk with rfl | rfl
  · cases Option.some.inj h1
    cases Option.some.inj h2
    exact use _ am_r3_90 c h3 h4
  · cases Option.some.inj h1
    cases Option.some.inj h2
    exact use _ am_r3_91 c h3 h4
theorem am_dl_le (mi : Nat) : am_dl mi ≤ 1 := by
  unfold am_dl
  cases Nat.beq (am_kd mi) 3 <;> simp
theorem am_dl_0 {mi pc nxt kp a b d w : Nat} {i : Instr} {v : Value} (hc : am_code mi pc = some (i, nxt, kp, v, a, b, d, w)) (h : am_r3 i d = false) : am_dl mi = 0 := by
  unfold am_dl
  cases hb : Nat.beq (am_kd mi) 3 with
  | false => rfl
  | true =>
    rw [am_r3_of (Nat.eq_of_beq_eq_true hb) hc] at h
    cases h
theorem am_fin_t {i : Instr} {nxt kp w : Nat} {v : Value} {a b d mi pc : Nat} {L : am_L} {S : List Value} {g : am_G} {t : Nat} {act : am_A} {r : am_R} (hp : ¬ am_plain i b = true) (hc : am_code mi pc = some (i, nxt, kp, v, a, b, d, w)) (h : am_do i nxt v a b d mi pc L S g t = some act) (hf : am_fin act r) : t + am_dl mi ≤ r.2.2 := by
  have h1 := am_dl_le mi
  have h0 := @am_dl_0 mi pc nxt kp a b d w i v hc
  have en : ∀ (o : Option Value ⊕ Nat) (t1 : Nat), act = .inr (.inr (.inr (.inl (o, g, t1)))) → t + am_dl mi ≤ t1 → t + am_dl mi ≤ r.2.2 := by
    intro o t1 e ht
    rcases hf with z | z
    · rw [e] at z
      simp only [Sum.inr.injEq, Sum.inl.injEq] at z
      rw [← z]
      exact ht
    · rw [e] at z
      simp at z
  have ec : ∀ (bb : Bool) (o : Option Value ⊕ Nat), act = .inr (.inr (.inr (.inr (.inl (bb, (o, g, t)))))) → am_dl mi = 0 → t + am_dl mi ≤ r.2.2 := by
    intro bb o e ht
    rcases hf with z | z
    · rw [e] at z
      simp at z
    · rw [e] at z
      simp only [Sum.inr.injEq, Sum.inl.injEq, Prod.mk.injEq] at z
      rw [← z.2, ht]
      exact Nat.le_refl _
  rcases am_np hp h with ⟨r', e⟩ | ⟨bb, r', e⟩ | ⟨n, ml, as, k0, r0, fs, e1, hv, hpop, ho, hr8, hml, e⟩ | ⟨n, ml, as, r0, e1, hb1, hb2, hv, hpop, hr8, hml, e⟩
  case inr.inr.inl => rcases hf with z | z <;> (rw [e] at z; simp at z)
  case inr.inr.inr => rcases hf with z | z <;> (rw [e] at z; simp at z)
  all_goals
    clear e
    cases i with
    | invokevirtual n =>
      obtain ⟨ml, as, k, r, fs, rfl, h1, h2, h3⟩ := am_iv_inv h
      obtain ⟨h4, h5, h6⟩ := am_call_inv h3
      rcases hf with z | z <;> (rw [h6] at z; simp at z)
    | invokestatic n =>
      have hp : ¬ (Nat.beq b 1 || Nat.beq b 2) = true := hp
      rw [Bool.not_eq_true, Bool.or_eq_false_iff] at hp
      change (bif Nat.beq b 1 then am_mx mi nxt L S g t (fun x y => if x < y then y else x) else bif Nat.beq b 2 then am_mx mi nxt L S g t (fun x y => if y < x then y else x) else am_is mi pc L S g t v a d) = some act at h
      rw [hp.1, hp.2] at h
      obtain ⟨ml, as, r, rfl, h1, h3⟩ := am_is_inv h
      obtain ⟨h4, h5, h6⟩ := am_call_inv h3
      rcases hf with z | z <;> (rw [h6] at z; simp at z)
    | ireturn =>
      change am_irt S g t d = some act at h
      unfold am_irt at h
      split at h
      · split at h
        · exact en _ _ (Option.some.inj h).symm (by rw [h0 rfl]; exact Nat.le_refl _)
        · exact ec _ _ (Option.some.inj h).symm (h0 rfl)
        · exact ec _ _ (Option.some.inj h).symm (h0 rfl)
        · exact en _ _ (Option.some.inj h).symm (by omega)
      · cases h
    | areturn =>
      change am_art S g t = some act at h
      unfold am_art at h
      split at h
      · exact ec _ _ (Option.some.inj h).symm (h0 rfl)
      · cases h
    | return_ =>
      change am_vrt S g t = some act at h
      unfold am_vrt at h
      split at h
      · exact en _ _ (Option.some.inj h).symm (by rw [h0 rfl]; exact Nat.le_refl _)
      · cases h
    | new n =>
      change am_thr S g t a = some act at h
      unfold am_thr at h
      split at h
      · exact en _ _ (Option.some.inj h).symm (by rw [h0 rfl]; exact Nat.le_refl _)
      · cases h
    | _ => exact absurd rfl hp
theorem am_cont_t {rs s : am_S} {r : am_R} (h : am_cont rs r = some s) : s.2.2.2.2.2 = r.2.2 ∧ s.1 = rs.1 := by
  obtain ⟨mi, pc, L, S, g, t⟩ := rs
  obtain ⟨o, g1, t1⟩ := r
  rcases o with (_ | v1) | x
  · cases Option.some.inj h
    exact ⟨rfl, rfl⟩
  · cases Option.some.inj h
    exact ⟨rfl, rfl⟩
  · dsimp only [am_cont] at h
    split at h
    · cases Option.some.inj h
      exact ⟨rfl, rfl⟩
    · cases h
theorem am_ev_t : ∀ (k : Nat) (st : am_S) (r : am_R), am_eval k st = some r → st.2.2.2.2.2 + am_dl st.1 ≤ r.2.2 := by
  intro k
  induction k with
  | zero => intro st r h; cases h
  | succ k ih =>
    rintro ⟨mi, pc, L, S, g, t⟩ r h
    rw [am_eval] at h
    show t + am_dl mi ≤ r.2.2
    cases hs : am_step (mi, pc, L, S, g, t) with
    | none => rw [hs] at h; cases h
    | some act =>
      rw [hs] at h
      obtain ⟨i, nxt, kp, v, a, b, d, w, L', hc, hsub, hdo⟩ := am_step_inv hs
      by_cases hp : am_plain i b = true
      · have hsh := am_do_sh hp hdo
        have htk := am_do_tk hp hdo
        have go : ∀ s1 : am_S, s1.1 = mi → s1.2.2.2.2.2 = t → am_eval k s1 = some r → t + am_dl mi ≤ r.2.2 := fun s1 e1 e2 h1 => by
          have := ih s1 r h1
          rw [e1, e2] at this
          exact this
        rcases act with s1 | ⟨bb, s1⟩ | (⟨q, x, y, s1, s2⟩ | ⟨bb, q, x, y, s1, s2⟩) | r' | ⟨bb, r'⟩ | ⟨e1, rs⟩ | s1
        · exact go s1 hsh htk h
        · cases bb with
          | false => cases h
          | true => exact go s1 hsh htk h
        · dsimp only at h
          cases hq : am_cmp q x y with
          | true => rw [hq] at h; exact go s1 hsh.1 htk.1 h
          | false => rw [hq] at h; exact go s2 hsh.2 htk.2 h
        · cases bb with
          | false => cases h
          | true =>
            dsimp only [cond_true] at h
            cases hq : am_cmp q x y with
            | true => rw [hq] at h; exact go s1 hsh.1 htk.1 h
            | false => rw [hq] at h; exact go s2 hsh.2 htk.2 h
        · exact hsh.elim
        · exact hsh.elim
        · exact hsh.elim
        · exact go s1 hsh htk h
      · have after : ∀ (e0 : am_S) (r0 : List Value), e0.2.2.2.2.2 = t → (match am_eval k e0 with
            | some r1 => match am_cont (mi, pc, L', r0, g, t) r1 with
              | some s1 => am_eval k s1
              | none => none
            | none => none) = some r → t + am_dl mi ≤ r.2.2 := by
          intro e0 r0 et hh
          cases he : am_eval k e0 with
          | none => rw [he] at hh; cases hh
          | some r1 =>
            rw [he] at hh
            dsimp only at hh
            cases hcn : am_cont (mi, pc, L', r0, g, t) r1 with
            | none => rw [hcn] at hh; cases hh
            | some s1 =>
              rw [hcn] at hh
              have h1 := ih _ _ he
              have h2 := ih _ _ hh
              obtain ⟨h3, h4⟩ := am_cont_t hcn
              rw [h3, h4] at h2
              rw [et] at h1
              dsimp only at h2
              omega
        rcases am_np hp hdo with ⟨r', rfl⟩ | ⟨bb, r', rfl⟩ | ⟨n, ml, as, k0, r0, fs, rfl, hv, hpop, ho, hr8, hml, rfl⟩ | ⟨n, ml, as, r0, rfl, hb1, hb2, hv, hpop, hr8, hml, rfl⟩
        · cases Option.some.inj h
          exact am_fin_t hp hc hdo (Or.inl rfl)
        · cases bb with
          | false => cases h
          | true =>
            cases Option.some.inj h
            exact am_fin_t hp hc hdo (Or.inr rfl)
        · exact after _ _ rfl h
        · exact after _ _ rfl h
