theorem am_okM_all (a : Nat) (h : a < 121) : (!am_low a || am_okM a) = true := by
  match a, h with
  | 0, _ => exact am_okm_0
  | 1, _ => exact am_okm_1
  | 2, _ => exact am_okm_2
  | 3, _ => exact am_okm_3
  | 4, _ => exact am_okm_4
  | 5, _ => exact am_okm_5
  | 6, _ => exact am_okm_6
  | 7, _ => exact am_okm_7
  | 8, _ => exact am_okm_8
  | 9, _ => exact am_okm_9
  | 10, _ => exact am_okm_10
  | 11, _ => exact am_okm_11
  | 12, _ => exact am_okm_12
  | 13, _ => exact am_okm_13
  | 14, _ => exact am_okm_14
  | 15, _ => exact am_okm_15
  | 16, _ => exact am_okm_16
  | 17, _ => exact am_okm_17
  | 18, _ => exact am_okm_18
  | 19, _ => exact am_okm_19
  | 20, _ => exact am_okm_20
  | 21, _ => exact am_okm_21
  | 22, _ => exact am_okm_22
  | 23, _ => exact am_okm_23
  | 24, _ => exact am_okm_24
  | 25, _ => exact am_okm_25
  | 26, _ => exact am_okm_26
  | 27, _ => exact am_okm_27
  | 28, _ => exact am_okm_28
  | 29, _ => exact am_okm_29
  | 30, _ => exact am_okm_30
  | 31, _ => exact am_okm_31
  | 32, _ => exact am_okm_32
  | 33, _ => exact am_okm_33
  | 34, _ => exact am_okm_34
  | 35, _ => exact am_okm_35
  | 36, _ => exact am_okm_36
  | 37, _ => exact am_okm_37
  | 38, _ => exact am_okm_38
  | 39, _ => exact am_okm_39
  | 40, _ => exact am_okm_40
  | 41, _ => exact am_okm_41
  | 42, _ => exact am_okm_42
  | 43, _ => exact am_okm_43
  | 44, _ => exact am_okm_44
  | 45, _ => exact am_okm_45
  | 46, _ => exact am_okm_46
  | 47, _ => exact am_okm_47
  | 48, _ => exact am_okm_48
  | 49, _ => exact am_okm_49
  | 50, _ => exact am_okm_50
  | 51, _ => exact am_okm_51
  | 52, _ => exact am_okm_52
  | 53, _ => exact am_okm_53
  | 54, _ => exact am_okm_54
  | 55, _ => exact am_okm_55
  | 56, _ => exact am_okm_56
  | 57, _ => exact am_okm_57
  | 58, _ => exact am_okm_58
  | 59, _ => exact am_okm_59
  | 60, _ => exact am_okm_60
  | 61, _ => exact am_okm_61
  | 62, _ => exact am_okm_62
  | 63, _ => exact am_okm_63
  | 64, _ => exact am_okm_64
  | 65, _ => exact am_okm_65
  | 66, _ => exact am_okm_66
  | 67, _ => exact am_okm_67
  | 68, _ => exact am_okm_68
  | 69, _ => exact am_okm_69
  | 70, _ => exact am_okm_70
  | 71, _ => exact am_okm_71
  | 72, _ => exact am_okm_72
  | 73, _ => exact am_okm_73
  | 74, _ => exact am_okm_74
  | 75, _ => exact am_okm_75
  | 76, _ => exact am_okm_76
  | 77, _ => exact am_okm_77
  | 78, _ => exact am_okm_78
  | 79, _ => exact am_okm_79
  | 80, _ => exact am_okm_80
  | 81, _ => exact am_okm_81
  | 82, _ => exact am_okm_82
  | 83, _ => exact am_okm_83
  | 84, _ => exact am_okm_84
  | 85, _ => exact am_okm_85
  | 86, _ => exact am_okm_86
  | 87, _ => exact am_okm_87
  | 88, _ => exact am_okm_88
  | 89, _ => exact am_okm_89
  | 90, _ => exact am_okm_90
  | 91, _ => exact am_okm_91
  | 92, _ => exact am_okm_92
  | 93, _ => exact am_okm_93
  | 94, _ => exact am_okm_94
  | 95, _ => exact am_okm_95
  | 96, _ => exact am_okm_96
  | 97, _ => exact am_okm_97
  | 98, _ => exact am_okm_98
  | 99, _ => exact am_okm_99
  | 100, _ => exact am_okm_100
  | 101, _ => exact am_okm_101
  | 102, _ => exact am_okm_102
  | 103, _ => exact am_okm_103
  | 104, _ => exact am_okm_104
  | 105, _ => exact am_okm_105
  | 106, _ => exact am_okm_106
  | 107, _ => exact am_okm_107
  | 108, _ => exact am_okm_108
  | 109, _ => exact am_okm_109
  | 110, _ => exact am_okm_110
  | 111, _ => exact am_okm_111
  | 112, _ => exact am_okm_112
  | 113, _ => exact am_okm_113
  | 114, _ => exact am_okm_114
  | 115, _ => exact am_okm_115
  | 116, _ => exact am_okm_116
  | 117, _ => exact am_okm_117
  | 118, _ => exact am_okm_118
  | 119, _ => exact am_okm_119
  | 120, _ => exact am_okm_120
  | n + 121, h => omega
theorem am_okMs : (List.range 121).all (fun a => !am_low a || am_okM a) = true := by
  rw [List.all_eq_true]
  intro a ha
  exact am_okM_all a (List.mem_range.mp ha)
theorem am_len_ms : am_ms.length = 121 := by decide +kernel
theorem am_okM_of {a : Nat} (h : am_low a = true) : am_okM a = true := by
  by_cases ha : a < 121
  · have := List.all_eq_true.mp am_okMs a (List.mem_range.mpr ha)
    rw [h] at this
    exact this
  · exfalso
    have e : am_m a = (⟨"", "", ""⟩, code, 0, none, 0, 0, 9, 0, 0, 0, 0) := by
      unfold am_m
      rw [am_nth_get, List.getElem?_eq_none (by rw [am_len_ms]; omega)]
      rfl
    unfold am_low am_kd at h
    rw [e] at h
    cases h
theorem am_catch_none : ∀ (l : List (Nat × Nat × Nat × Nat)) (mi pc x : Nat), (∀ q ∈ l, q.1 ≠ mi) → am_catch l mi pc x = none
  | [], _, _, _, _ => rfl
  | (m, p, y, t) :: r, mi, pc, x, h => by
    rw [am_catch]
    have h0 := h _ List.mem_cons_self
    have e : Nat.beq m mi = false := by
      cases hb : Nat.beq m mi with
      | false => rfl
      | true => exact absurd (Nat.eq_of_beq_eq_true hb) h0
    rw [e, Bool.false_and]
    exact am_catch_none r mi pc x (fun q hq => h q (List.mem_cons_of_mem _ hq))
theorem am_hands_k : am_hands.all (fun q => Nat.beq (am_kd q.1) 3) = true := by decide +kernel
theorem am_catch_of {mi pc x : Nat} (h : am_kd mi ≠ 3) : am_catch am_hands mi pc x = none :=
  am_catch_none _ _ _ _ (fun q hq e => h (by
    have := List.all_eq_true.mp am_hands_k q hq
    rw [e] at this
    exact Nat.eq_of_beq_eq_true this))
theorem am_args_eq (ad : Nat → Nat) : ∀ (as : List Value) (n : Nat), am_lc ad (am_args n as) = lv_args n (as.map (am_cv ad))
  | [], _ => rfl
  | v :: r, n => by
    have e : (bif am_two v then n + 2 else n + 1) = (if (am_cv ad v).category = 2 then n + 2 else n + 1) := by
      cases v <;> rfl
    show (n, am_cv ad v) :: am_lc ad (am_args (bif am_two v then n + 2 else n + 1) r) = (n, am_cv ad v) :: lv_args (if (am_cv ad v).category = 2 then n + 2 else n + 1) (r.map (am_cv ad))
    rw [am_args_eq ad r, e]
theorem am_sl_len (ad : Nat → Nat) : ∀ (as : List Value), (lg_sl (as.map (am_cv ad))).length = am_wt as
  | [] => rfl
  | v :: r => by
    have ih := am_sl_len ad r
    unfold lg_sl at ih ⊢
    rw [List.map_cons, List.flatMap_cons, List.length_append, ih, am_wt]
    cases v <;> simp [am_two, am_cv, Value.category, Nat.add_comm]
section
variable {p : Program} {l : Launch} {e : Env} {R : Room} {s : State} {m : MethodId} {args : Array Value} {below : List Frame} {meth : Method} {c : Code} {H : Heap} {locs : List Loc} {cells slots : Nat} {Q : State → Prop} {A : Nat → Prop}
theorem am_callr {mc ms pc : Nat} {ls : Array Slot} {st0 rest : List Value} {vv : Option Value} {B : State → Prop}
    (hr : va_Run p l e R s m args below meth c H locs cells slots mc ms (F0 m pc ls st0) rest (fun st oc t => (oc = .returned vv ∧ B t) ∧ va_F A st t) A) (hS : va_S A s.heap H locs)
    (kk : ∀ (t : State) (H1 : Heap) (locs1 : List Loc), t.heap = H1 → B t → va_S A s.heap H1 locs1 → W p l e R s m args below meth c H1 locs1 (cells + mc) (slots + ms) Q (F0 m (pc + 3) ls (vv.toList ++ rest))) : W p l e R s m args below meth c H locs cells slots Q (F0 m pc ls st0) := by
  intro T hT X
  obtain ⟨v, st₀, t, T', L, h0, X', hL, e1, e2, ⟨⟨hv, hb⟩, hz, hk⟩, st⟩ := hr T hT X
  cases hv
  rw [h0] at hz hk
  obtain ⟨t2, a1, b1⟩ := kk t T'.heap (locs ++ L) e1.symm hb
    ⟨Nat.le_trans hS.1 (by rw [e1]; exact hz), fun q h1 h2 => by rw [e1, hk q (Nat.lt_of_lt_of_le h1 hS.1) h2]; exact hS.2.1 q h1 h2, fun q hq => by
      rcases List.mem_append.mp hq with h | h
      · exact hS.2.2 q h
      · exact hL q h⟩ T' rfl X'
  exact ⟨t2, st t2 a1, b1⟩
end
def am_B (xs : Nat → Int32) (Ln : Nat) (D : va_G) (cA : Nat → ClassId) (ad : Nat → Nat) (A : Nat → Prop) (g : am_G) (U : State) : Prop := am_X xs Ln D cA ad A U ∧ va_P D am_cl (am_ws ad cA g) U.heap ∧ va_D A (am_ws ad cA g)
def am_Bq (xs : Nat → Int32) (Ln : Nat) (D : va_G) (cA : Nat → ClassId) (ad : Nat → Nat) (A : Nat → Prop) (g : am_G) (t : State) : Prop := va_P D am_cl (am_ws ad cA g) t.heap ∧ va_D A (am_ws ad cA g) ∧ am_Gx xs Ln g
def am_Qm (xs : Nat → Int32) (Ln : Nat) (D : va_G) (cA : Nat → ClassId) (ad : Nat → Nat) (A : Nat → Prop) (g : am_G) (vo : Option Value) : Array Value → State → Outcome → State → Prop := fun _ st oc t => (oc = .returned (vo.map (am_cv ad)) ∧ am_Bq xs Ln D cA ad A g t) ∧ va_F A st t
theorem am_X_moved {xs : Nat → Int32} {Ln : Nat} {D : va_G} {cA : Nat → ClassId} {ad : Nat → Nat} {A : Nat → Prop} {s U : State} (h : am_X xs Ln D cA ad A s) (hW : s.WarmedH U.vm) (hz : s.heap.size ≤ U.heap.size) (hq : ∀ q, q < s.heap.size → ¬ A q → U.heap[q]? = s.heap[q]?) : am_X xs Ln D cA ad A U := by
  obtain ⟨h1, h2, h3, h4, h5, h6, h7⟩ := h
  exact ⟨va_K.moved hW.alike h1, va_En.kept (va_En.moved hW.alike h2) hq, va_X.kept (va_X.moved hW.alike h3) (hq _ h4 h5), by omega, h5, fun o k y h hm => va_Nw.warmM hW (h6 o k y h hm), fun q hq => h7 q (by omega)⟩
section
variable {l : Launch} {xs : Nat → Int32} {Ln : Nat} {D : va_G} {cA : Nat → ClassId} {ad : Nat → Nat} {A : Nat → Prop}
theorem am_fin_sound {p : Program} {e : Env} {R : Room} {s : State} {m : MethodId} {args : Array Value} {below : List Frame} {meth : Method} {c : Code} {mi pc : Nat} {L : am_L} {S : List Value} {g g1 : am_G} {t t1 : Nat} {vo : Option Value} {act : am_A} {cells slots : Nat}
    (hW : am_Wk p R s m args c xs Ln D cA ad A mi) (hret : meth.sig.returnType = am_rt mi) (hlocks : meth.locks = false) (hs : am_step (mi, pc, L, S, g, t) = some act) (hf : am_fin act (.inl vo, g1, t1)) :
    am_PW p l e R s m args below meth c cells slots (MQ below (am_Qm xs Ln D cA ad A g1 vo) args s cells slots A) xs Ln D cA ad A (mi, pc, L, S, g, t) := by
  intro H ls locs hR
  obtain ⟨i, nxt, kp, v, a, b, d, w, L', hc, hsub, h⟩ := am_step_inv hs
  obtain ⟨len, hdec, hok⟩ := am_code_dec hc
  have nopl : am_plain i b = true → False := by
    intro hp
    have := am_do_sh hp h
    rcases hf with e | e <;> rw [e] at this <;> exact this
  obtain ⟨hl, hP, hD, hS, hG⟩ := hR
  obtain ⟨hx, hb, hml, hown, hts, hXX, hF, hLo⟩ := hW
  have hq : ∀ (v' : Option Value), vo.map (am_cv ad) = v' → g1 = g → ∀ t : State, t.heap = H → s.WarmedH t.vm → am_Qm xs Ln D cA ad A g1 vo args s (.returned v') t := by
    intro v' e1 e2 t ht _
    subst e2
    refine ⟨⟨by rw [e1], by rw [ht]; exact hP, hD, hG⟩, va_S.F hS ht⟩
  have hloc : ∀ q ∈ locs, A q.base := hS.2.2
  cases i with
  | ireturn =>
    change am_irt S g t d = some act at h
    unfold am_irt at h
    split at h
    · rename_i x
      split at h
      · have ea := Option.some.inj h
        rcases hf with e | e
        · rw [e] at ea; cases ea
          simp only [am_okI, Bool.and_eq_true, decide_eq_true_eq] at hok
          obtain ⟨rfl, hr⟩ := hok
          exact W.iret hx hb (hret.trans hr) (hq _ rfl rfl) hloc hdec hlocks
        · rw [e] at ea; cases ea
      · have ea := Option.some.inj h
        rcases hf with e | e
        · rw [e] at ea; cases ea
        · rw [e] at ea
          simp only [Sum.inr.injEq, Sum.inl.injEq, Prod.mk.injEq] at ea
          obtain ⟨hchk, e1, rfl, rfl⟩ := ea
          cases e1
          simp only [am_okI, Bool.and_eq_true, decide_eq_true_eq] at hok
          obtain ⟨rfl, hr⟩ := hok
          refine W.zret (ty := .boolean) hx hb (hret.trans hr) ?_ (hq _ rfl rfl) hloc hdec hlocks
          simp only [am_isb, Bool.or_eq_true, decide_eq_true_eq] at hchk
          rcases hchk with z | z <;> subst z <;> rfl
      · have ea := Option.some.inj h
        rcases hf with e | e
        · rw [e] at ea; cases ea
        · rw [e] at ea
          simp only [Sum.inr.injEq, Sum.inl.injEq, Prod.mk.injEq] at ea
          obtain ⟨hchk, e1, rfl, rfl⟩ := ea
          cases e1
          simp only [am_okI, Bool.and_eq_true, decide_eq_true_eq] at hok
          obtain ⟨rfl, hr⟩ := hok
          refine W.zret (ty := .char) hx hb (hret.trans hr) ?_ (hq _ rfl rfl) hloc hdec hlocks
          simp only [am_isc, Bool.and_eq_true, decide_eq_true_eq] at hchk
          have e2 : vp_nar .char x = x := by
            rw [am_chr_nar]
            unfold am_chr
            have hx0 : x.toUInt32.toNat < 65536 := by
              have h0 := hchk.1
              have h1 := hchk.2
              rw [Int32.le_iff_toInt_le] at h0
              rw [Int32.lt_iff_toInt_lt] at h1
              have h2 : (0 : Int32).toInt = 0 := rfl
              have h3 : (65536 : Int32).toInt = 65536 := rfl
              have h4 : x.toInt = (x.toUInt32.toNat : Int) ∨ x.toInt = (x.toUInt32.toNat : Int) - 4294967296 := by
                have h5 : x.toInt = x.toBitVec.toInt := rfl
                have h6 : x.toUInt32.toNat = x.toBitVec.toNat := rfl
                rw [h5, h6, BitVec.toInt_eq_toNat_cond]
                split <;> omega
              have h7 := x.toUInt32.toNat_lt
              omega
            rw [show x.toUInt32 % 65536 = x.toUInt32 by
              apply UInt32.toNat_inj.mp
              rw [UInt32.toNat_mod]
              exact Nat.mod_eq_of_lt hx0]
            exact Int32.toInt32_toUInt32 x
          show Value.int (vp_nar .char x) = .int x
          rw [e2]
      · have ea := Option.some.inj h
        rcases hf with e | e
        · rw [e] at ea; cases ea
          simp only [am_okI, Bool.and_eq_true, decide_eq_true_eq] at hok
          obtain ⟨rfl, hr⟩ := hok
          exact W.iret hx hb (hret.trans hr) (hq _ rfl rfl) hloc hdec hlocks
        · rw [e] at ea; cases ea
    · cases h
  | areturn =>
    change am_art S g t = some act at h
    unfold am_art at h
    split at h
    · rename_i k
      have ea := Option.some.inj h
      rcases hf with e | e
      · rw [e] at ea; cases ea
      · rw [e] at ea
        simp only [Sum.inr.injEq, Sum.inl.injEq, Prod.mk.injEq] at ea
        obtain ⟨hchk, e1, rfl, rfl⟩ := ea
        cases e1
        simp only [am_okI, Bool.and_eq_true, decide_eq_true_eq] at hok
        obtain ⟨rfl, hr⟩ := hok
        split at hr
        · rename_i n hn
          exact W.aret hx hb (hret.trans hn) (Or.inl ⟨n, rfl⟩) (Or.inr ⟨ad k, rfl⟩) (hq _ rfl rfl) hloc hdec hlocks
        · cases hr
    · cases h
  | return_ =>
    change am_vrt S g t = some act at h
    unfold am_vrt at h
    split at h
    · have ea := Option.some.inj h
      rcases hf with e | e
      · rw [e] at ea; cases ea
        simp only [am_okI, Bool.and_eq_true, decide_eq_true_eq] at hok
        obtain ⟨rfl, hr⟩ := hok
        exact W.vret hx hb (hret.trans hr) (hq _ rfl rfl) hloc hdec hlocks
      · rw [e] at ea; cases ea
    · cases h
  | new n =>
    change am_thr S g t a = some act at h
    unfold am_thr at h
    split at h
    · have ea := Option.some.inj h
      rcases hf with e | e
      · rw [e] at ea; cases ea
      · rw [e] at ea; cases ea
    · cases h
  | invokevirtual n =>
    obtain ⟨ml, as, k, r, fs, rfl, hp, ho, h2⟩ := am_iv_inv h
    obtain ⟨_, _, ea⟩ := am_call_inv h2
    rcases hf with e | e <;> rw [e] at ea <;> cases ea
  | invokestatic n =>
    have h : (bif Nat.beq b 1 then am_mx mi nxt L' S g t (fun x y => if x < y then y else x) else bif Nat.beq b 2 then am_mx mi nxt L' S g t (fun x y => if y < x then y else x) else am_is mi pc L' S g t v a d) = some act := h
    cases h1 : Nat.beq b 1 with
    | true => exact (nopl (by show (Nat.beq b 1 || Nat.beq b 2) = true; rw [h1]; rfl)).elim
    | false =>
      cases h2 : Nat.beq b 2 with
      | true => exact (nopl (by show (Nat.beq b 1 || Nat.beq b 2) = true; rw [h2, Bool.or_true])).elim
      | false =>
        rw [h1, h2] at h
        obtain ⟨ml, as, r, rfl, hp, h3⟩ := am_is_inv h
        obtain ⟨_, _, ea⟩ := am_call_inv h3
        rcases hf with e | e <;> rw [e] at ea <;> cases ea
  | _ => exact (nopl rfl).elim
end
