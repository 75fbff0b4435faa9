theorem am_none {act : am_A} (h : (none : Option am_A) = some act) : False := by cases h
theorem am_call_inv {mi pc : Nat} {L : am_L} {g : am_G} {t a ml : Nat} {as r : List Value} {act : am_A} (h : am_call mi pc L g t a ml as r = some act) : am_wt r ≤ 8 ∧ am_wt as ≤ ml ∧ act = .inr (.inr (.inr (.inr (.inr (.inl ((a, 0, am_args 0 as, [], g, t), (mi, pc, L, r, g, t))))))) := by
  unfold am_call at h
  cases hb : (Nat.ble (am_wt r) 8 && Nat.ble (am_wt as) ml) with
  | false => rw [hb] at h; cases h
  | true =>
    rw [hb] at h
    rw [Bool.and_eq_true] at hb
    exact ⟨Nat.le_of_ble_eq_true hb.1, Nat.le_of_ble_eq_true hb.2, (Option.some.inj h).symm⟩
theorem am_pop_spec : ∀ (d : Nat) (S acc as r : List Value), am_pop d S acc = some (as, r) → ∃ xs, S = xs ++ r ∧ as = xs.reverse ++ acc ∧ xs.length = d
  | 0, S, acc, as, r, h => by
    cases Option.some.inj h
    exact ⟨[], rfl, rfl, rfl⟩
  | d + 1, [], acc, as, r, h => by cases h
  | d + 1, v :: S, acc, as, r, h => by
    obtain ⟨xs, h1, h2, h3⟩ := am_pop_spec d S (v :: acc) as r h
    refine ⟨v :: xs, by rw [h1]; rfl, ?_, by rw [List.length_cons, h3]⟩
    rw [h2, List.reverse_cons, List.append_assoc]; rfl
theorem am_iv_inv {mi pc : Nat} {L : am_L} {S : List Value} {g : am_G} {t : Nat} {v : Value} {a b d : Nat} {act : am_A} (h : am_iv mi pc L S g t v a b d = some act) : ∃ ml as k r fs, v = .ref ml ∧ am_pop d S [] = some (as, .ref k :: r) ∧ am_ob k = some (.inr (b, fs)) ∧ am_call mi pc L g t a ml (.ref k :: as) r = some act := by
  unfold am_iv at h
  split at h
  · rename_i ml as k r hp
    split at h
    · rename_i ci fs ho
      cases hb : Nat.beq ci b with
      | false => rw [hb] at h; cases h
      | true =>
        rw [hb] at h
        have e := Nat.eq_of_beq_eq_true hb
        subst e
        exact ⟨ml, as, k, r, fs, rfl, hp, ho, h⟩
    · cases h
  · cases h
theorem am_is_inv {mi pc : Nat} {L : am_L} {S : List Value} {g : am_G} {t : Nat} {v : Value} {a d : Nat} {act : am_A} (h : am_is mi pc L S g t v a d = some act) : ∃ ml as r, v = .ref ml ∧ am_pop d S [] = some (as, r) ∧ am_call mi pc L g t a ml as r = some act := by
  unfold am_is at h
  split at h
  · rename_i ml as r hp
    cases hb : am_w3 a as with
    | true => rw [hb] at h; exact ⟨ml, as, r, rfl, hp, h⟩
    | false => rw [hb] at h; cases h
  · cases h
theorem am_is_w3 {mi pc : Nat} {L : am_L} {S as r : List Value} {g : am_G} {t : Nat} {v : Value} {a d : Nat} {act : am_A} (h : am_is mi pc L S g t v a d = some act) (hp : am_pop d S [] = some (as, r)) : am_w3 a as = true := by
  unfold am_is at h
  rw [hp] at h
  split at h
  · rename_i ml as' r' hq
    cases Option.some.inj hq
    cases hb : am_w3 a as with
    | true => rfl
    | false => rw [hb] at h; cases h
  · cases h
def am_fin (act : am_A) (r : am_R) : Prop := act = .inr (.inr (.inr (.inl r))) ∨ act = .inr (.inr (.inr (.inr (.inl (true, r)))))
def am_Sh (mi : Nat) (act : am_A) : Prop := match act with
  | .inl s => s.1 = mi
  | .inr (.inl (_, s)) => s.1 = mi
  | .inr (.inr (.inl (.inl (_, _, _, s1, s2)))) => s1.1 = mi ∧ s2.1 = mi
  | .inr (.inr (.inl (.inr (_, _, _, _, s1, s2)))) => s1.1 = mi ∧ s2.1 = mi
  | .inr (.inr (.inr (.inr (.inr (.inr s))))) => s.1 = mi
  | _ => False
def am_plain (i : Instr) (b : Nat) : Bool := match i with
  | .invokevirtual _ => false
  | .invokestatic _ => Nat.beq b 1 || Nat.beq b 2
  | .ireturn => false
  | .areturn => false
  | .return_ => false
  | .new _ => false
  | _ => true
theorem am_do_sh {i : Instr} {nxt : Nat} {v : Value} {a b d mi pc : Nat} {L : am_L} {S : List Value} {g : am_G} {t : Nat} {act : am_A} (hp : am_plain i b = true) (h : am_do i nxt v a b d mi pc L S g t = some act) : am_Sh mi act := by
  cases i with
  | iconst n =>
    cases Option.some.inj h
    exact rfl
  | bipush n =>
    cases Option.some.inj h
    exact rfl
  | sipush n =>
    cases Option.some.inj h
    exact rfl
  | ldc n =>
    cases Option.some.inj h
    exact rfl
  | ldc_w n =>
    cases Option.some.inj h
    exact rfl
  | ldc2_w n =>
    cases Option.some.inj h
    exact rfl
  | goto n =>
    cases Option.some.inj h
    exact rfl
  | iload_n n =>
    obtain ⟨x, hf, rfl⟩ := am_iLd_inv h
    exact rfl
  | iload n =>
    obtain ⟨x, hf, rfl⟩ := am_iLd_inv h
    exact rfl
  | lload_n n =>
    obtain ⟨x, hf, rfl⟩ := am_lLd_inv h
    exact rfl
  | aload_n n =>
    obtain ⟨x, hf, rfl⟩ := am_aLd_inv h
    exact rfl
  | aload n =>
    obtain ⟨x, hf, rfl⟩ := am_aLd_inv h
    exact rfl
  | istore_n n =>
    obtain ⟨x, r, rfl, hn, rfl⟩ := am_iSt_inv h
    exact rfl
  | istore n =>
    obtain ⟨x, r, rfl, hn, rfl⟩ := am_iSt_inv h
    exact rfl
  | iinc n z =>
    obtain ⟨x, y, hf, hy, hn, rfl⟩ := am_iInc_inv h
    exact rfl
  | iadd =>
    obtain ⟨x, y, r, rfl, rfl⟩ := am_bin_inv (f := fun x y => x + y) h
    exact rfl
  | isub =>
    obtain ⟨x, y, r, rfl, rfl⟩ := am_bin_inv (f := fun x y => x - y) h
    exact rfl
  | imul =>
    obtain ⟨x, y, r, rfl, rfl⟩ := am_bin_inv (f := fun x y => x * y) h
    exact rfl
  | iand =>
    obtain ⟨x, y, r, rfl, rfl⟩ := am_bin_inv (f := fun x y => x &&& y) h
    exact rfl
  | ior =>
    obtain ⟨x, y, r, rfl, rfl⟩ := am_bin_inv (f := fun x y => x ||| y) h
    exact rfl
  | ixor =>
    obtain ⟨x, y, r, rfl, rfl⟩ := am_bin_inv (f := fun x y => x ^^^ y) h
    exact rfl
  | ishl =>
    obtain ⟨x, y, r, rfl, rfl⟩ := am_bin_inv (f := fun x y => x <<< (y &&& 31)) h
    exact rfl
  | ishr =>
    obtain ⟨x, y, r, rfl, rfl⟩ := am_bin_inv (f := fun x y => x >>> (y &&& 31)) h
    exact rfl
  | iushr =>
    obtain ⟨x, y, r, rfl, rfl⟩ := am_bin_inv (f := fun x y => (x.toUInt32 >>> (y.toUInt32 &&& Int32.toUInt32 31)).toInt32) h
    exact rfl
  | idiv =>
    obtain ⟨x, y, r, rfl, rfl⟩ := am_div_inv (f := fun x y => x / y) h
    exact rfl
  | irem =>
    obtain ⟨x, y, r, rfl, rfl⟩ := am_div_inv (f := fun x y => x - x / y * y) h
    exact rfl
  | i2l =>
    obtain ⟨x, r, rfl, rfl⟩ := am_un_inv (f := fun x => .long x.toInt64) h
    exact rfl
  | i2c =>
    obtain ⟨x, r, rfl, rfl⟩ := am_un_inv (f := fun x => .int (am_chr x)) h
    exact rfl
  | l2i =>
    obtain ⟨x, r, rfl, rfl⟩ := am_l2_inv h
    exact rfl
  | land =>
    obtain ⟨x, y, r, rfl, rfl⟩ := am_lbin_inv (f := fun x y => .long (x &&& y)) h
    exact rfl
  | lor =>
    obtain ⟨x, y, r, rfl, rfl⟩ := am_lbin_inv (f := fun x y => .long (x ||| y)) h
    exact rfl
  | lcmp =>
    obtain ⟨x, y, r, rfl, rfl⟩ := am_lbin_inv (f := fun x y => .int (lg_cmp x y)) h
    exact rfl
  | lshl =>
    obtain ⟨x, y, r, rfl, rfl⟩ := am_lsh_inv (f := fun x y => x <<< (y.toInt64 &&& 63)) h
    exact rfl
  | lshr =>
    obtain ⟨x, y, r, rfl, rfl⟩ := am_lsh_inv (f := fun x y => x >>> (y.toInt64 &&& 63)) h
    exact rfl
  | lushr =>
    obtain ⟨x, y, r, rfl, rfl⟩ := am_lsh_inv (f := fun x y => (x.toUInt64 >>> (y.toInt64.toUInt64 &&& Int64.toUInt64 63)).toInt64) h
    exact rfl
  | dup =>
    obtain ⟨x, r, rfl, hc, rfl⟩ := am_dup_inv h
    exact rfl
  | dup2 =>
    obtain ⟨x, y, r, rfl, rfl⟩ := am_dup2_inv h
    exact rfl
  | ifCond q n =>
    obtain ⟨x, r, rfl, rfl⟩ := am_if1_inv h
    exact ⟨rfl, rfl⟩
  | if_icmp q n =>
    obtain ⟨x, y, r, rfl, rfl⟩ := am_if2_inv h
    exact ⟨rfl, rfl⟩
  | if_acmp q n =>
    obtain ⟨x, y, r, rfl, rfl, rfl⟩ := am_ifa_inv h
    exact ⟨rfl, rfl⟩
  | tableswitch df lo hi offs =>
    obtain ⟨x, r, rfl, rfl⟩ := am_sw_inv h
    exact rfl
  | getstatic n =>
    obtain ⟨h6, rfl⟩ := am_gs_inv h
    exact rfl
  | getfield n =>
    obtain ⟨k, r, fs, rfl, ho, hcase⟩ := am_gf_inv h
    rcases hcase with ⟨q, hq, rfl⟩ | ⟨hq, rfl⟩
    · exact rfl
    · exact rfl
  | putfield n =>
    obtain ⟨x, k, r, fs, rfl, ho, hq, rfl⟩ := am_pf_inv h
    exact rfl
  | arraylength =>
    obtain ⟨r, rfl, rfl⟩ := am_len_inv h
    exact rfl
  | iaload =>
    rcases am_ild_inv h with ⟨j, r, rfl, rfl⟩ | ⟨j, k, r, mm, rfl, ho, rfl⟩
    · exact rfl
    · exact rfl
  | caload =>
    obtain ⟨j, k, r, mm, rfl, ho, rfl⟩ := am_ald_inv (ty := 1) (f := fun x => .int x) h
    exact rfl
  | baload =>
    obtain ⟨j, k, r, mm, rfl, ho, rfl⟩ := am_ald_inv (ty := 3) (f := fun x => .int x) h
    exact rfl
  | laload =>
    obtain ⟨j, k, r, mm, rfl, ho, rfl⟩ := am_ald_inv (ty := 2) (f := fun x => .long x.toInt64) h
    exact rfl
  | aaload =>
    obtain ⟨j, k, r, mm, rfl, ho, rfl⟩ := am_rld_inv h
    exact rfl
  | iastore =>
    obtain ⟨x, j, k, r, mm, rfl, ho, rfl⟩ := am_ast_inv (ty := 0) (ck := fun b _ => b) (f := fun x => x) h
    exact rfl
  | castore =>
    obtain ⟨x, j, k, r, mm, rfl, ho, rfl⟩ := am_ast_inv (ty := 1) (ck := fun b _ => b) (f := fun x => am_chr x) h
    exact rfl
  | bastore =>
    obtain ⟨x, j, k, r, mm, rfl, ho, rfl⟩ := am_ast_inv (ty := 3) (ck := fun b x => b && am_isb x) (f := fun x => x) h
    exact rfl
  | lastore =>
    obtain ⟨x, j, k, r, mm, rfl, ho, rfl⟩ := am_lst_inv h
    exact rfl
  | aastore =>
    obtain ⟨x, j, k, r, mm, rfl, ho, rfl⟩ := am_rst_inv h
    exact rfl
  | invokestatic n =>
    have hp : (Nat.beq b 1 || Nat.beq b 2) = true := hp
    cases h1 : Nat.beq b 1 with
    | true =>
      have h : (bif Nat.beq b 1 then am_mx mi nxt L S g t (fun x y => if x < y then y else x) else bif Nat.beq b 2 then am_mx mi nxt L S g t (fun x y => if y < x then y else x) else am_is mi pc L S g t v a d) = some act := h
      rw [h1] at h
      obtain ⟨x, y, r, rfl, hw, rfl⟩ := am_mx_inv h
      exact rfl
    | false =>
      have h : (bif Nat.beq b 1 then am_mx mi nxt L S g t (fun x y => if x < y then y else x) else bif Nat.beq b 2 then am_mx mi nxt L S g t (fun x y => if y < x then y else x) else am_is mi pc L S g t v a d) = some act := h
      rw [h1, Bool.false_or] at hp
      rw [h1, hp] at h
      obtain ⟨x, y, r, rfl, hw, rfl⟩ := am_mx_inv h
      exact rfl
  | invokevirtual n => cases hp
  | ireturn => cases hp
  | areturn => cases hp
  | return_ => cases hp
  | new n => cases hp
  | _ => exact (am_none h).elim
section
variable {p : Program} {l : Launch} {e : Env} {R : Room} {s : State} {m : MethodId} {args : Array Value} {below : List Frame} {meth : Method} {c : Code} {cells slots : Nat} {Q : State → Prop} {xs : Nat → Int32} {Ln : Nat} {D : va_G} {cA : Nat → ClassId} {ad : Nat → Nat} {A : Nat → Prop}
variable {mi pc nxt len a b d w t : Nat} {v : Value} {L : am_L} {S : List Value} {g : am_G} {act : am_A} {H : Heap} {ls : Array Slot} {locs : List Loc}
theorem am_do_sound {i : Instr} (hW : am_Wk p R s m args c xs Ln D cA ad A mi) (hcs : cells ≤ R.cells ∧ slots ≤ R.slots) (hdec : decode (am_bytes mi) pc = .ok (i, len)) (hok : am_okI mi pc i len nxt v a b d w = true) (hp : am_plain i b = true) (h : am_do i nxt v a b d mi pc L S g t = some act) (hk : am_Kn (am_PW p l e R s m args below meth c cells slots Q xs Ln D cA ad A) act) (hR : am_Rel xs Ln s D cA ad A mi L g H ls locs) : W p l e R s m args below meth c H locs cells slots Q (F0 m pc ls (S.map (am_cv ad))) := by
  cases i with
  | iconst n => exact am_s_iconst hW hcs hdec hok h hk hR
  | bipush n => exact am_s_bipush hW hcs hdec hok h hk hR
  | sipush n => exact am_s_sipush hW hcs hdec hok h hk hR
  | ldc n => exact am_s_ldc hW hcs hdec hok h hk hR
  | ldc_w n => exact am_s_ldc_w hW hcs hdec hok h hk hR
  | ldc2_w n => exact am_s_ldc2_w hW hcs hdec hok h hk hR
  | goto n => exact am_s_goto hW hcs hdec hok h hk hR
  | iload_n n => exact am_s_iload_n hW hcs hdec hok h hk hR
  | iload n => exact am_s_iload hW hcs hdec hok h hk hR
  | lload_n n => exact am_s_lload_n hW hcs hdec hok h hk hR
  | aload_n n => exact am_s_aload_n hW hcs hdec hok h hk hR
  | aload n => exact am_s_aload hW hcs hdec hok h hk hR
  | istore_n n => exact am_s_istore_n hW hcs hdec hok h hk hR
  | istore n => exact am_s_istore hW hcs hdec hok h hk hR
  | iinc n z => exact am_s_iinc hW hcs hdec hok h hk hR
  | iadd => exact am_s_iadd hW hcs hdec hok h hk hR
  | isub => exact am_s_isub hW hcs hdec hok h hk hR
  | imul => exact am_s_imul hW hcs hdec hok h hk hR
  | iand => exact am_s_iand hW hcs hdec hok h hk hR
  | ior => exact am_s_ior hW hcs hdec hok h hk hR
  | ixor => exact am_s_ixor hW hcs hdec hok h hk hR
  | ishl => exact am_s_ishl hW hcs hdec hok h hk hR
  | ishr => exact am_s_ishr hW hcs hdec hok h hk hR
  | iushr => exact am_s_iushr hW hcs hdec hok h hk hR
  | idiv => exact am_s_idiv hW hcs hdec hok h hk hR
  | irem => exact am_s_irem hW hcs hdec hok h hk hR
  | i2l => exact am_s_i2l hW hcs hdec hok h hk hR
  | i2c => exact am_s_i2c hW hcs hdec hok h hk hR
  | l2i => exact am_s_l2i hW hcs hdec hok h hk hR
  | land => exact am_s_land hW hcs hdec hok h hk hR
  | lor => exact am_s_lor hW hcs hdec hok h hk hR
  | lcmp => exact am_s_lcmp hW hcs hdec hok h hk hR
  | lshl => exact am_s_lshl hW hcs hdec hok h hk hR
  | lshr => exact am_s_lshr hW hcs hdec hok h hk hR
  | lushr => exact am_s_lushr hW hcs hdec hok h hk hR
  | dup => exact am_s_dup hW hcs hdec hok h hk hR
  | dup2 => exact am_s_dup2 hW hcs hdec hok h hk hR
  | ifCond q n => exact am_s_ifCond hW hcs hdec hok h hk hR
  | if_icmp q n => exact am_s_if_icmp hW hcs hdec hok h hk hR
  | if_acmp q n => exact am_s_if_acmp hW hcs hdec hok h hk hR
  | tableswitch df lo hi offs => exact am_s_tableswitch hW hcs hdec hok h hk hR
  | getstatic n => exact am_s_getstatic hW hcs hdec hok h hk hR
  | getfield n => exact am_s_getfield hW hcs hdec hok h hk hR
  | putfield n => exact am_s_putfield hW hcs hdec hok h hk hR
  | arraylength => exact am_s_arraylength hW hcs hdec hok h hk hR
  | iaload => exact am_s_iaload hW hcs hdec hok h hk hR
  | caload => exact am_s_caload hW hcs hdec hok h hk hR
  | baload => exact am_s_baload hW hcs hdec hok h hk hR
  | laload => exact am_s_laload hW hcs hdec hok h hk hR
  | aaload => exact am_s_aaload hW hcs hdec hok h hk hR
  | iastore => exact am_s_iastore hW hcs hdec hok h hk hR
  | castore => exact am_s_castore hW hcs hdec hok h hk hR
  | bastore => exact am_s_bastore hW hcs hdec hok h hk hR
  | lastore => exact am_s_lastore hW hcs hdec hok h hk hR
  | aastore => exact am_s_aastore hW hcs hdec hok h hk hR
  | invokestatic n =>
    have hp : (Nat.beq b 1 || Nat.beq b 2) = true := hp
    have h : (bif Nat.beq b 1 then am_mx mi nxt L S g t (fun x y => if x < y then y else x) else bif Nat.beq b 2 then am_mx mi nxt L S g t (fun x y => if y < x then y else x) else am_is mi pc L S g t v a d) = some act := h
    obtain ⟨hx, hb, hml, hown, hts, hXX, hF, hLo⟩ := hW
    obtain ⟨hl, hP, hD, hS, hG⟩ := hR
    cases h1 : Nat.beq b 1 with
    | true =>
      rw [h1] at h
      simp only [am_okI, h1, cond_true, Bool.and_eq_true, decide_eq_true_eq] at hok
      obtain ⟨⟨rfl, rfl⟩, ⟨h3, h4⟩, h5⟩ := hok
      obtain ⟨x, y, r, rfl, hw, rfl⟩ := am_mx_inv h
      have hm := am_max_ok
      unfold am_mathB at hm
      rw [Bool.and_eq_true, Bool.and_eq_true] at hm
      exact va_mmax hx hb (by rw [hml, hl.1]) hown (hts _ (am_word_in h3)) (hts _ (am_word_in hm.1.1)) (hts _ (am_word_in hm.1.2)) (hts _ (am_word_in hm.2)) (by omega) (by rw [am_wt_cat]; omega) hcs.1 hcs.2 hdec (hk H ls locs ⟨hl, hP, hD, hS, hG⟩)
    | false =>
      rw [h1, Bool.false_or] at hp
      rw [h1, hp] at h
      simp only [am_okI, h1, hp, cond_true, cond_false, Bool.and_eq_true, decide_eq_true_eq] at hok
      obtain ⟨⟨rfl, rfl⟩, ⟨h3, h4⟩, h5⟩ := hok
      obtain ⟨x, y, r, rfl, hw, rfl⟩ := am_mx_inv h
      have hm := am_min_ok
      unfold am_mathB at hm
      rw [Bool.and_eq_true, Bool.and_eq_true] at hm
      exact va_mmin hx hb (by rw [hml, hl.1]) hown (hts _ (am_word_in h3)) (hts _ (am_word_in hm.1.1)) (hts _ (am_word_in hm.1.2)) (hts _ (am_word_in hm.2)) (by omega) (by rw [am_wt_cat]; omega) hcs.1 hcs.2 hdec (hk H ls locs ⟨hl, hP, hD, hS, hG⟩)
  | invokevirtual n => cases hp
  | ireturn => cases hp
  | areturn => cases hp
  | return_ => cases hp
  | new n => cases hp
  | _ => exact (am_none h).elim
end
theorem am_step_inv {mi pc : Nat} {L : am_L} {S : List Value} {g : am_G} {t : Nat} {act : am_A} (h : am_step (mi, pc, L, S, g, t) = some act) : ∃ i nxt kp v a b d w L', am_code mi pc = some (i, nxt, kp, v, a, b, d, w) ∧ (∀ q ∈ L', q ∈ L) ∧ am_do i nxt v a b d mi pc L' S g t = some act := by
  unfold am_step at h
  dsimp only at h
  split at h
  · rename_i i nxt kp v a b d w hc
    split at h
    · exact ⟨i, nxt, _, v, a, b, d, w, L, hc, fun _ z => z, h⟩
    · rename_i q
      exact ⟨i, nxt, _, v, a, b, d, w, am_trim L q, hc, am_trim_sub L q, h⟩
  · cases h
theorem am_Rel_sub {xs : Nat → Int32} {Ln : Nat} {s : State} {D : va_G} {cA : Nat → ClassId} {ad : Nat → Nat} {A : Nat → Prop} {mi : Nat} {L L' : am_L} {g : am_G} {H : Heap} {ls : Array Slot} {locs : List Loc} (h : am_Rel xs Ln s D cA ad A mi L g H ls locs) (hs : ∀ q ∈ L', q ∈ L) : am_Rel xs Ln s D cA ad A mi L' g H ls locs := by
  refine ⟨am_lsub h.1 (fun q hq => ?_), h.2⟩
  obtain ⟨q0, h0, rfl⟩ := List.mem_map.mp hq
  exact List.mem_map.mpr ⟨q0, hs q0 h0, rfl⟩
