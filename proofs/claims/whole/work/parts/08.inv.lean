theorem am_chr_nar (x : Int32) : vp_nar .char x = am_chr x := by
  show x.toUInt32.toUInt16.toUInt32.toInt32 = (x.toUInt32 % 65536).toInt32
  rw [UInt32.toUInt32_toUInt16]
theorem am_isb_nar {x : Int32} (h : am_isb x = true) : vp_nar .boolean x = x := by
  show x &&& 1 = x
  simp only [am_isb, Bool.or_eq_true, decide_eq_true_eq] at h
  rcases h with h | h <;> subst h <;> rfl
theorem am_six : ∀ x, x < 6 → ∀ y, y < 6 → Int32.ofNat x = Int32.ofNat y → x = y := by decide
theorem am_six_ev (ad : Nat → Nat) {x : Nat} (h : x < 6) : am_ev ad (Int32.ofNat x + 1) = some (ad x) := by
  have h1 : ∀ x, x < 6 → am_in (Int32.ofNat x + 1 - 1) 6 = true ∧ (Int32.ofNat x + 1 - 1).toNatClampNeg = x := by decide +kernel
  unfold am_ev
  rw [(h1 x h).1, (h1 x h).2]
  rfl
theorem am_blt {a b : Nat} (h : Nat.blt a b = true) : a < b := Nat.blt_eq.mp h
section
variable {mi pc nxt : Nat} {L : am_L} {S : List Value} {g : am_G} {t : Nat} {act : am_A}
theorem am_iLd_inv {a : Nat} (h : am_iLd mi nxt L S g t a = some act) : ∃ x, am_find L a = some (.int x) ∧ act = .inl (mi, nxt, L, .int x :: S, g, t) := by
  unfold am_iLd at h
  split at h
  · rename_i x hx
    exact ⟨x, hx, (Option.some.inj h).symm⟩
  · cases h
theorem am_lLd_inv {a : Nat} (h : am_lLd mi nxt L S g t a = some act) : ∃ x, am_find L a = some (.long x) ∧ act = .inl (mi, nxt, L, .long x :: S, g, t) := by
  unfold am_lLd at h
  split at h
  · rename_i x hx
    exact ⟨x, hx, (Option.some.inj h).symm⟩
  · cases h
theorem am_aLd_inv {a : Nat} (h : am_aLd mi nxt L S g t a = some act) : ∃ x, am_find L a = some (.ref x) ∧ act = .inl (mi, nxt, L, .ref x :: S, g, t) := by
  unfold am_aLd at h
  split at h
  · rename_i x hx
    exact ⟨x, hx, (Option.some.inj h).symm⟩
  · cases h
theorem am_iSt_inv {a : Nat} (h : am_iSt mi nxt L S g t a = some act) : ∃ x r, S = .int x :: r ∧ am_nol L a = true ∧ act = .inl (mi, nxt, am_put L a (.int x), r, g, t) := by
  unfold am_iSt at h
  split at h
  · rename_i x r
    cases hn : am_nol L a with
    | false => rw [hn] at h; cases h
    | true => rw [hn] at h; exact ⟨x, r, rfl, rfl, (Option.some.inj h).symm⟩
  · cases h
theorem am_iInc_inv {a : Nat} {v : Value} (h : am_iInc mi nxt L S g t a v = some act) : ∃ x z, am_find L a = some (.int x) ∧ v = .int z ∧ am_nol L a = true ∧ act = .inl (mi, nxt, am_put L a (.int (x + z)), S, g, t) := by
  unfold am_iInc at h
  split at h
  · rename_i x z hx
    cases hn : am_nol L a with
    | false => rw [hn] at h; cases h
    | true => rw [hn] at h; exact ⟨x, z, hx, rfl, rfl, (Option.some.inj h).symm⟩
  · cases h
theorem am_bin_inv {f : Int32 → Int32 → Int32} (h : am_bin mi nxt L S g t f = some act) : ∃ x y r, S = .int y :: .int x :: r ∧ act = .inl (mi, nxt, L, .int (f x y) :: r, g, t) := by
  unfold am_bin at h
  split at h
  · exact ⟨_, _, _, rfl, (Option.some.inj h).symm⟩
  · cases h
theorem am_div_inv {f : Int32 → Int32 → Int32} (h : am_div mi nxt L S g t f = some act) : ∃ x y r, S = .int y :: .int x :: r ∧ act = .inr (.inl (decide (¬ y = 0), (mi, nxt, L, .int (f x y) :: r, g, t))) := by
  unfold am_div at h
  split at h
  · exact ⟨_, _, _, rfl, (Option.some.inj h).symm⟩
  · cases h
theorem am_un_inv {f : Int32 → Value} (h : am_un mi nxt L S g t f = some act) : ∃ x r, S = .int x :: r ∧ act = .inl (mi, nxt, L, f x :: r, g, t) := by
  unfold am_un at h
  split at h
  · exact ⟨_, _, rfl, (Option.some.inj h).symm⟩
  · cases h
theorem am_l2_inv  (h : am_l2 mi nxt L S g t = some act) : ∃ x r, S = .long x :: r ∧ act = .inl (mi, nxt, L, .int x.toInt32 :: r, g, t) := by
  unfold am_l2 at h
  split at h
  · exact ⟨_, _, rfl, (Option.some.inj h).symm⟩
  · cases h
theorem am_lbin_inv {f : Int64 → Int64 → Value} (h : am_lbin mi nxt L S g t f = some act) : ∃ x y r, S = .long y :: .long x :: r ∧ act = .inl (mi, nxt, L, f x y :: r, g, t) := by
  unfold am_lbin at h
  split at h
  · exact ⟨_, _, _, rfl, (Option.some.inj h).symm⟩
  · cases h
theorem am_lsh_inv {f : Int64 → Int32 → Int64} (h : am_lsh mi nxt L S g t f = some act) : ∃ x y r, S = .int y :: .long x :: r ∧ act = .inl (mi, nxt, L, .long (f x y) :: r, g, t) := by
  unfold am_lsh at h
  split at h
  · exact ⟨_, _, _, rfl, (Option.some.inj h).symm⟩
  · cases h
theorem am_dup_inv  (h : am_dup mi nxt L S g t = some act) : ∃ x r, S = x :: r ∧ x.category = 1 ∧ act = .inl (mi, nxt, L, x :: x :: r, g, t) := by
  unfold am_dup at h
  split at h
  · exact ⟨_, _, rfl, rfl, (Option.some.inj h).symm⟩
  · exact ⟨_, _, rfl, rfl, (Option.some.inj h).symm⟩
  · cases h
theorem am_dup2_inv  (h : am_dup2 mi nxt L S g t = some act) : ∃ x y r, S = .int y :: .ref x :: r ∧ act = .inl (mi, nxt, L, .int y :: .ref x :: .int y :: .ref x :: r, g, t) := by
  unfold am_dup2 at h
  split at h
  · exact ⟨_, _, _, rfl, (Option.some.inj h).symm⟩
  · cases h
theorem am_if1_inv {a : Nat} {q : ClassFile.Cond} (h : am_if1 mi nxt L S g t a q = some act) : ∃ x r, S = .int x :: r ∧ act = .inr (.inr (.inl (.inl (q, x, 0, (mi, a, L, r, g, t), (mi, nxt, L, r, g, t))))) := by
  unfold am_if1 at h
  split at h
  · exact ⟨_, _, rfl, (Option.some.inj h).symm⟩
  · cases h
theorem am_if2_inv {a : Nat} {q : ClassFile.Cond} (h : am_if2 mi nxt L S g t a q = some act) : ∃ x y r, S = .int y :: .int x :: r ∧ act = .inr (.inr (.inl (.inl (q, x, y, (mi, a, L, r, g, t), (mi, nxt, L, r, g, t))))) := by
  unfold am_if2 at h
  split at h
  · exact ⟨_, _, _, rfl, (Option.some.inj h).symm⟩
  · cases h
theorem am_ifa_inv {a : Nat} {q : ClassFile.ACond} (h : am_ifa mi nxt L S g t a q = some act) : ∃ x y r, q = .ne ∧ S = .ref y :: .ref x :: r ∧ act = .inr (.inr (.inl (.inr (Nat.blt x 6 && Nat.blt y 6, .ne, Int32.ofNat x, Int32.ofNat y, (mi, a, L, r, g, t), (mi, nxt, L, r, g, t))))) := by
  unfold am_ifa at h
  split at h
  · exact ⟨_, _, _, rfl, rfl, (Option.some.inj h).symm⟩
  · cases h
theorem am_sw_inv {df lo hi : Int} {offs : Array Int} (h : am_sw mi pc L S g t df lo hi offs = some act) : ∃ x r, S = .int x :: r ∧ act = .inr (.inr (.inr (.inr (.inr (.inr (mi, am_ts pc df lo hi offs x, L, r, g, t)))))) := by
  unfold am_sw at h
  split at h
  · exact ⟨_, _, rfl, (Option.some.inj h).symm⟩
  · cases h
theorem am_gs_inv {a : Nat} (h : am_gs mi nxt L S g t a = some act) : a < 6 ∧ act = .inl (mi, nxt, L, .ref a :: S, g, t) := by
  unfold am_gs at h
  cases hb : Nat.blt a 6 with
  | false => rw [hb] at h; cases h
  | true => rw [hb] at h; exact ⟨am_blt hb, (Option.some.inj h).symm⟩
theorem am_gf_inv {a b : Nat} (h : am_gf mi nxt L S g t a b = some act) : ∃ k r fs, S = .ref k :: r ∧ am_ob k = some (.inr (a, fs)) ∧ ((∃ q, am_nth fs b = some (some q) ∧ act = .inl (mi, nxt, L, .ref q :: r, g, t)) ∨ (am_nth fs b = some none ∧ act = .inl (mi, nxt, L, .int (g k b) :: r, g, t))) := by
  unfold am_gf at h
  split at h
  · split at h
    · rename_i ci fs ho
      cases hb : Nat.beq ci a with
      | false => rw [hb] at h; cases h
      | true =>
        rw [hb] at h
        have e := Nat.eq_of_beq_eq_true hb
        subst e
        dsimp only [cond_true] at h
        split at h
        · rename_i q hq
          exact ⟨_, _, fs, rfl, ho, Or.inl ⟨q, hq, (Option.some.inj h).symm⟩⟩
        · rename_i hq
          exact ⟨_, _, fs, rfl, ho, Or.inr ⟨hq, (Option.some.inj h).symm⟩⟩
        · cases h
    · cases h
  · cases h
theorem am_pf_inv {a b : Nat} (h : am_pf mi nxt L S g t a b = some act) : ∃ x k r fs, S = .int x :: .ref k :: r ∧ am_ob k = some (.inr (a, fs)) ∧ am_nth fs b = some none ∧ act = .inl (mi, nxt, L, r, am_w g k b x, t) := by
  unfold am_pf at h
  split at h
  · split at h
    · rename_i ci fs ho
      cases hb : Nat.beq ci a with
      | false => rw [hb] at h; cases h
      | true =>
        rw [hb] at h
        have e := Nat.eq_of_beq_eq_true hb
        subst e
        dsimp only [cond_true] at h
        split at h
        · rename_i hq
          exact ⟨_, _, _, fs, rfl, ho, hq, (Option.some.inj h).symm⟩
        · cases h
    · cases h
  · cases h
theorem am_len_inv  (h : am_len mi nxt L S g t = some act) : ∃ r, S = .ref 6 :: r ∧ act = .inl (mi, nxt, L, .int (g 7 0) :: r, g, t) := by
  unfold am_len at h
  split at h
  · rename_i k r
    cases hb : Nat.beq k 6 with
    | false => rw [hb] at h; cases h
    | true =>
      rw [hb] at h
      have e := Nat.eq_of_beq_eq_true hb
      subst e
      exact ⟨r, rfl, (Option.some.inj h).symm⟩
  · cases h
theorem am_ald_inv {ty : Nat} {f : Int32 → Value} (h : am_ald mi nxt L S g t ty f = some act) : ∃ j k r m, S = .int j :: .ref k :: r ∧ am_ob k = some (.inl (ty, m)) ∧ act = .inr (.inl (am_in j m, (mi, nxt, L, f (g k j.toNatClampNeg) :: r, g, t))) := by
  unfold am_ald at h
  split at h
  · split at h
    · rename_i ty' m ho
      cases hb : Nat.beq ty' ty with
      | false => rw [hb] at h; cases h
      | true =>
        rw [hb] at h
        have e := Nat.eq_of_beq_eq_true hb
        subst e
        exact ⟨_, _, _, m, rfl, ho, (Option.some.inj h).symm⟩
    · cases h
  · cases h
theorem am_rld_inv  (h : am_rld mi nxt L S g t = some act) : ∃ j k r m, S = .int j :: .ref k :: r ∧ am_ob k = some (.inl (4, m)) ∧ act = .inr (.inl (am_in j m && am_in (g k j.toNatClampNeg - 1) 6, (mi, nxt, L, .ref (g k j.toNatClampNeg - 1).toNatClampNeg :: r, g, t))) := by
  unfold am_rld at h
  split at h
  · split at h
    · rename_i ty' m ho
      cases hb : Nat.beq ty' 4 with
      | false => rw [hb] at h; cases h
      | true =>
        rw [hb] at h
        have e := Nat.eq_of_beq_eq_true hb
        subst e
        exact ⟨_, _, _, m, rfl, ho, (Option.some.inj h).symm⟩
    · cases h
  · cases h
theorem am_ast_inv {ty : Nat} {ck : Bool → Int32 → Bool} {f : Int32 → Int32} (h : am_ast mi nxt L S g t ty ck f = some act) : ∃ x j k r m, S = .int x :: .int j :: .ref k :: r ∧ am_ob k = some (.inl (ty, m)) ∧ act = .inr (.inl (ck (am_in j m) x, (mi, nxt, L, r, am_w g k j.toNatClampNeg (f x), t))) := by
  unfold am_ast at h
  split at h
  · split at h
    · rename_i ty' m ho
      cases hb : Nat.beq ty' ty with
      | false => rw [hb] at h; cases h
      | true =>
        rw [hb] at h
        have e := Nat.eq_of_beq_eq_true hb
        subst e
        exact ⟨_, _, _, _, m, rfl, ho, (Option.some.inj h).symm⟩
    · cases h
  · cases h
theorem am_lst_inv  (h : am_lst mi nxt L S g t = some act) : ∃ x j k r m, S = .long x :: .int j :: .ref k :: r ∧ am_ob k = some (.inl (2, m)) ∧ act = .inr (.inl (am_in j m && decide (x = x.toInt32.toInt64), (mi, nxt, L, r, am_w g k j.toNatClampNeg x.toInt32, t))) := by
  unfold am_lst at h
  split at h
  · split at h
    · rename_i ty' m ho
      cases hb : Nat.beq ty' 2 with
      | false => rw [hb] at h; cases h
      | true =>
        rw [hb] at h
        have e := Nat.eq_of_beq_eq_true hb
        subst e
        exact ⟨_, _, _, _, m, rfl, ho, (Option.some.inj h).symm⟩
    · cases h
  · cases h
theorem am_rst_inv  (h : am_rst mi nxt L S g t = some act) : ∃ x j k r m, S = .ref x :: .int j :: .ref k :: r ∧ am_ob k = some (.inl (4, m)) ∧ act = .inr (.inl (am_in j m && Nat.blt x 6, (mi, nxt, L, r, am_w g k j.toNatClampNeg (Int32.ofNat x + 1), t))) := by
  unfold am_rst at h
  split at h
  · split at h
    · rename_i ty' m ho
      cases hb : Nat.beq ty' 4 with
      | false => rw [hb] at h; cases h
      | true =>
        rw [hb] at h
        have e := Nat.eq_of_beq_eq_true hb
        subst e
        exact ⟨_, _, _, _, m, rfl, ho, (Option.some.inj h).symm⟩
    · cases h
  · cases h
theorem am_ild_inv  (h : am_ild mi nxt L S g t = some act) : (∃ j r, S = .int j :: .ref 6 :: r ∧ act = .inr (.inl (am_in j (g 7 0).toNatClampNeg, (mi, nxt, L, .int (g 6 j.toNatClampNeg) :: r, g, t)))) ∨ ∃ j k r m, S = .int j :: .ref k :: r ∧ am_ob k = some (.inl (0, m)) ∧ act = .inr (.inl (am_in j m, (mi, nxt, L, .int (g k j.toNatClampNeg) :: r, g, t))) := by
  unfold am_ild at h
  split at h
  · rename_i j k r
    cases h6 : Nat.beq k 6 with
    | true =>
      rw [h6] at h
      have e := Nat.eq_of_beq_eq_true h6
      subst e
      exact Or.inl ⟨j, r, rfl, (Option.some.inj h).symm⟩
    | false =>
      rw [h6] at h
      dsimp only [cond_false] at h
      split at h
      · rename_i ty' m ho
        cases hb : Nat.beq ty' 0 with
        | false => rw [hb] at h; cases h
        | true =>
          rw [hb] at h
          have e := Nat.eq_of_beq_eq_true hb
          subst e
          exact Or.inr ⟨j, k, r, m, rfl, ho, (Option.some.inj h).symm⟩
      · cases h
  · cases h
theorem am_mx_inv {f : Int32 → Int32 → Int32} (h : am_mx mi nxt L S g t f = some act) : ∃ x y r, S = .int y :: .int x :: r ∧ am_wt r ≤ 8 ∧ act = .inl (mi, nxt, L, .int (f x y) :: r, g, t) := by
  unfold am_mx at h
  split at h
  · rename_i y x r
    cases hb : Nat.ble (am_wt r) 8 with
    | false => rw [hb] at h; cases h
    | true => rw [hb] at h; exact ⟨x, y, r, rfl, Nat.le_of_ble_eq_true hb, (Option.some.inj h).symm⟩
  · cases h
end
