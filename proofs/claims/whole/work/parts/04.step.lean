def am_nth {α : Type} : List α → Nat → Option α
  | [], _ => none
  | x :: _, 0 => some x
  | _ :: r, n + 1 => am_nth r n
def am_w3 (a : Nat) (as : List Value) : Bool := bif Nat.beq a 91 then (match as with
    | [.ref x, .ref y] => Nat.beq x 8 && Nat.beq y 53
    | _ => false) else bif Nat.beq a 90 then (match as with
    | [.ref x, .int _, .ref y] => Nat.beq x 8 && Nat.beq y 53
    | _ => false) else true
def am_find {α : Type} : List (Nat × α) → Nat → Option α
  | [], _ => none
  | (j, x) :: r, i => bif Nat.beq j i then some x else am_find r i
def am_del : am_L → Nat → am_L
  | [], _ => []
  | (j, x) :: r, i => bif Nat.beq j i then am_del r i else (j, x) :: am_del r i
def am_ins : am_L → Nat → Value → am_L
  | [], i, v => [(i, v)]
  | (j, x) :: r, i, v => bif Nat.ble i j then (i, v) :: (j, x) :: r else (j, x) :: am_ins r i v
def am_put (L : am_L) (i : Nat) (v : Value) : am_L := am_ins (am_del L i) i v
def am_trim : am_L → Nat → am_L
  | [], _ => []
  | (j, x) :: r, n => bif Nat.ble n j then am_trim r n else (j, x) :: am_trim r n
def am_two (v : Value) : Bool := match v with
  | .long _ => true
  | .double _ => true
  | _ => false
def am_nol : am_L → Nat → Bool
  | [], _ => true
  | (j, x) :: r, i => !(Nat.beq (j + 1) i && am_two x) && am_nol r i
def am_args : Nat → List Value → am_L
  | _, [] => []
  | n, v :: r => (n, v) :: am_args (bif am_two v then n + 2 else n + 1) r
def am_code (mi pc : Nat) : Option am_E := match am_nth am_tabs (mi / 12) with
  | some u => match am_nth u (mi % 12) with
    | some t => match am_nth t (pc / 16) with
      | some c => am_find c pc
      | none => none
    | none => none
  | none => none
def am_ob (k : Nat) : Option ((Nat × Nat) ⊕ (Nat × List (Option Nat))) := bif Nat.ble 8 k then am_nth am_obs (k - 8) else none
def am_w (g : am_G) (k i : Nat) (v : Int32) : am_G := fun k' => if k' = k then (fun i' => if i' = i then v else g k i') else g k'
def am_in (i : Int32) (n : Nat) : Bool := !(decide (i < 0)) && decide (i.toNatClampNeg < n)
def am_cmp (c : ClassFile.Cond) (x y : Int32) : Bool := match c with
  | .eq => decide (x = y)
  | .ne => decide (¬ x = y)
  | .lt => decide (x < y)
  | .ge => decide (y ≤ x)
  | .gt => decide (y < x)
  | .le => decide (x ≤ y)
def am_cP (c : ClassFile.Cond) (x y : Int32) : Prop := match c with
  | .eq => x = y
  | .ne => ¬ x = y
  | .lt => x < y
  | .ge => y ≤ x
  | .gt => y < x
  | .le => x ≤ y
def am_ng (c : ClassFile.Cond) : ClassFile.Cond := match c with
  | .eq => .ne
  | .ne => .eq
  | .lt => .ge
  | .ge => .lt
  | .gt => .le
  | .le => .gt
theorem am_cP_ng (c : ClassFile.Cond) (x y : Int32) (h : ¬ am_cP c x y) : am_cP (am_ng c) x y := by
  cases c with
  | eq => exact h
  | ne => exact Decidable.of_not_not (p := x = y) h
  | lt => exact Int32.not_lt.mp h
  | ge => exact Int32.not_le.mp h
  | gt => exact Int32.not_lt.mp h
  | le => exact Int32.not_le.mp h
theorem am_cmp_iff (c : ClassFile.Cond) (x y : Int32) : am_cmp c x y = true ↔ am_cP c x y := by cases c <;> exact decide_eq_true_iff
def am_chr (x : Int32) : Int32 := (x.toUInt32 % 65536).toInt32
def am_isb (v : Int32) : Bool := decide (v = 0) || decide (v = 1)
def am_isc (v : Int32) : Bool := decide (0 ≤ v) && decide (v < 65536)
def am_wt : List Value → Nat
  | [] => 0
  | v :: r => bif am_two v then am_wt r + 2 else am_wt r + 1
def am_pop : Nat → List Value → List Value → Option (List Value × List Value)
  | 0, S, acc => some (acc, S)
  | _ + 1, [], _ => none
  | n + 1, v :: S, acc => am_pop n S (v :: acc)
def am_call (mi pc : Nat) (L : am_L) (g : am_G) (t a ml : Nat) (as r : List Value) : Option am_A := bif Nat.ble (am_wt r) 8 && Nat.ble (am_wt as) ml then am_ca (a, 0, am_args 0 as, [], g, t) (mi, pc, L, r, g, t) else none
def am_ts (pc : Nat) (df lo hi : Int) (offs : Array Int) (x : Int32) : Nat := bif decide (x.toInt < lo) || decide (hi < x.toInt) then ((pc : Int) + df).toNat else ((pc : Int) + offs.getD (x.toInt - lo).toNat 0).toNat
section
variable (mi pc nxt : Nat) (L : am_L) (S : List Value) (g : am_G) (t : Nat)
def am_iLd (a : Nat) : Option am_A := match am_find L a with
  | some (.int x) => am_nx (mi, nxt, L, .int x :: S, g, t)
  | _ => none
def am_lLd (a : Nat) : Option am_A := match am_find L a with
  | some (.long x) => am_nx (mi, nxt, L, .long x :: S, g, t)
  | _ => none
def am_aLd (a : Nat) : Option am_A := match am_find L a with
  | some (.ref x) => am_nx (mi, nxt, L, .ref x :: S, g, t)
  | _ => none
def am_iSt (a : Nat) : Option am_A := match S with
  | .int x :: r => bif am_nol L a then am_nx (mi, nxt, am_put L a (.int x), r, g, t) else none
  | _ => none
def am_iInc (a : Nat) (v : Value) : Option am_A := match am_find L a, v with
  | some (.int x), .int z => bif am_nol L a then am_nx (mi, nxt, am_put L a (.int (x + z)), S, g, t) else none
  | _, _ => none
def am_bin (f : Int32 → Int32 → Int32) : Option am_A := match S with
  | .int y :: .int x :: r => am_nx (mi, nxt, L, .int (f x y) :: r, g, t)
  | _ => none
def am_div (f : Int32 → Int32 → Int32) : Option am_A := match S with
  | .int y :: .int x :: r => am_ck (decide (¬ y = 0)) (mi, nxt, L, .int (f x y) :: r, g, t)
  | _ => none
def am_un (f : Int32 → Value) : Option am_A := match S with
  | .int x :: r => am_nx (mi, nxt, L, f x :: r, g, t)
  | _ => none
def am_l2 : Option am_A := match S with
  | .long x :: r => am_nx (mi, nxt, L, .int x.toInt32 :: r, g, t)
  | _ => none
def am_lbin (f : Int64 → Int64 → Value) : Option am_A := match S with
  | .long y :: .long x :: r => am_nx (mi, nxt, L, f x y :: r, g, t)
  | _ => none
def am_lsh (f : Int64 → Int32 → Int64) : Option am_A := match S with
  | .int y :: .long x :: r => am_nx (mi, nxt, L, .long (f x y) :: r, g, t)
  | _ => none
def am_dup : Option am_A := match S with
  | .int x :: r => am_nx (mi, nxt, L, .int x :: .int x :: r, g, t)
  | .ref x :: r => am_nx (mi, nxt, L, .ref x :: .ref x :: r, g, t)
  | _ => none
def am_dup2 : Option am_A := match S with
  | .int y :: .ref x :: r => am_nx (mi, nxt, L, .int y :: .ref x :: .int y :: .ref x :: r, g, t)
  | _ => none
def am_if1 (a : Nat) (q : ClassFile.Cond) : Option am_A := match S with
  | .int x :: r => am_br q x 0 (mi, a, L, r, g, t) (mi, nxt, L, r, g, t)
  | _ => none
def am_if2 (a : Nat) (q : ClassFile.Cond) : Option am_A := match S with
  | .int y :: .int x :: r => am_br q x y (mi, a, L, r, g, t) (mi, nxt, L, r, g, t)
  | _ => none
def am_ifa (a : Nat) (q : ClassFile.ACond) : Option am_A := match q, S with
  | .ne, .ref y :: .ref x :: r => am_bc (Nat.blt x 6 && Nat.blt y 6) .ne (Int32.ofNat x) (Int32.ofNat y) (mi, a, L, r, g, t) (mi, nxt, L, r, g, t)
  | _, _ => none
def am_sw (df lo hi : Int) (offs : Array Int) : Option am_A := match S with
  | .int x :: r => am_ju (mi, am_ts pc df lo hi offs x, L, r, g, t)
  | _ => none
def am_gs (a : Nat) : Option am_A := bif Nat.blt a 6 then am_nx (mi, nxt, L, .ref a :: S, g, t) else none
def am_gf (a b : Nat) : Option am_A := match S with
  | .ref k :: r => match am_ob k with
    | some (.inr (ci, fs)) => bif Nat.beq ci a then (match am_nth fs b with
      | some (some q) => am_nx (mi, nxt, L, .ref q :: r, g, t)
      | some none => am_nx (mi, nxt, L, .int (g k b) :: r, g, t)
      | none => none) else none
    | _ => none
  | _ => none
def am_pf (a b : Nat) : Option am_A := match S with
  | .int x :: .ref k :: r => match am_ob k with
    | some (.inr (ci, fs)) => bif Nat.beq ci a then (match am_nth fs b with
      | some none => am_nx (mi, nxt, L, r, am_w g k b x, t)
      | _ => none) else none
    | _ => none
  | _ => none
def am_len : Option am_A := match S with
  | .ref k :: r => bif Nat.beq k 6 then am_nx (mi, nxt, L, .int (g 7 0) :: r, g, t) else none
  | _ => none
def am_ald (ty : Nat) (f : Int32 → Value) : Option am_A := match S with
  | .int j :: .ref k :: r => match am_ob k with
    | some (.inl (ty', m)) => bif Nat.beq ty' ty then am_ck (am_in j m) (mi, nxt, L, f (g k j.toNatClampNeg) :: r, g, t) else none
    | _ => none
  | _ => none
def am_ild : Option am_A := match S with
  | .int j :: .ref k :: r => bif Nat.beq k 6 then am_ck (am_in j (g 7 0).toNatClampNeg) (mi, nxt, L, .int (g 6 j.toNatClampNeg) :: r, g, t) else match am_ob k with
    | some (.inl (ty', m)) => bif Nat.beq ty' 0 then am_ck (am_in j m) (mi, nxt, L, .int (g k j.toNatClampNeg) :: r, g, t) else none
    | _ => none
  | _ => none
def am_rld : Option am_A := match S with
  | .int j :: .ref k :: r => match am_ob k with
    | some (.inl (ty', m)) => bif Nat.beq ty' 4 then am_ck (am_in j m && am_in (g k j.toNatClampNeg - 1) 6) (mi, nxt, L, .ref (g k j.toNatClampNeg - 1).toNatClampNeg :: r, g, t) else none
    | _ => none
  | _ => none
def am_ast (ty : Nat) (ck : Bool → Int32 → Bool) (f : Int32 → Int32) : Option am_A := match S with
  | .int x :: .int j :: .ref k :: r => match am_ob k with
    | some (.inl (ty', m)) => bif Nat.beq ty' ty then am_ck (ck (am_in j m) x) (mi, nxt, L, r, am_w g k j.toNatClampNeg (f x), t) else none
    | _ => none
  | _ => none
def am_lst : Option am_A := match S with
  | .long x :: .int j :: .ref k :: r => match am_ob k with
    | some (.inl (ty', m)) => bif Nat.beq ty' 2 then am_ck (am_in j m && decide (x = x.toInt32.toInt64)) (mi, nxt, L, r, am_w g k j.toNatClampNeg x.toInt32, t) else none
    | _ => none
  | _ => none
def am_rst : Option am_A := match S with
  | .ref x :: .int j :: .ref k :: r => match am_ob k with
    | some (.inl (ty', m)) => bif Nat.beq ty' 4 then am_ck (am_in j m && Nat.blt x 6) (mi, nxt, L, r, am_w g k j.toNatClampNeg (Int32.ofNat x + 1), t) else none
    | _ => none
  | _ => none
def am_iv (v : Value) (a b d : Nat) : Option am_A := match v, am_pop d S [] with
  | .ref ml, some (as, .ref k :: r) => match am_ob k with
    | some (.inr (ci, _)) => bif Nat.beq ci b then am_call mi pc L g t a ml (.ref k :: as) r else none
    | _ => none
  | _, _ => none
def am_mx (f : Int32 → Int32 → Int32) : Option am_A := match S with
  | .int y :: .int x :: r => bif Nat.ble (am_wt r) 8 then am_nx (mi, nxt, L, .int (f x y) :: r, g, t) else none
  | _ => none
def am_is (v : Value) (a d : Nat) : Option am_A := match v, am_pop d S [] with
  | .ref ml, some (as, r) => bif am_w3 a as then am_call mi pc L g t a ml as r else none
  | _, _ => none
def am_irt (d : Nat) : Option am_A := match S with
  | [.int x] => match d with
    | 0 => am_en (.inl (some (.int x)), g, t)
    | 1 => am_ec (am_isb x) (.inl (some (.int x)), g, t)
    | 2 => am_ec (am_isc x) (.inl (some (.int x)), g, t)
    | _ => am_en (.inl (some (.int x)), g, t + 1)
  | _ => none
def am_art : Option am_A := match S with
  | [.ref k] => am_ec (Nat.blt k 6) (.inl (some (.ref k)), g, t)
  | _ => none
def am_vrt : Option am_A := match S with
  | [] => am_en (.inl none, g, t)
  | _ => none
def am_thr (a : Nat) : Option am_A := match S with
  | [] => am_en (.inr a, g, t)
  | _ => none
end
def am_do (i : Instr) (nxt : Nat) (v : Value) (a b d mi pc : Nat) (L : am_L) (S : List Value) (g : am_G) (t : Nat) : Option am_A :=
  match i with
  | .iconst _ => am_nx (mi, nxt, L, v :: S, g, t)
  | .bipush _ => am_nx (mi, nxt, L, v :: S, g, t)
  | .sipush _ => am_nx (mi, nxt, L, v :: S, g, t)
  | .ldc _ => am_nx (mi, nxt, L, v :: S, g, t)
  | .ldc_w _ => am_nx (mi, nxt, L, v :: S, g, t)
  | .ldc2_w _ => am_nx (mi, nxt, L, v :: S, g, t)
  | .iload_n _ => am_iLd mi nxt L S g t a
  | .iload _ => am_iLd mi nxt L S g t a
  | .lload_n _ => am_lLd mi nxt L S g t a
  | .aload_n _ => am_aLd mi nxt L S g t a
  | .aload _ => am_aLd mi nxt L S g t a
  | .istore_n _ => am_iSt mi nxt L S g t a
  | .istore _ => am_iSt mi nxt L S g t a
  | .iinc _ _ => am_iInc mi nxt L S g t a v
  | .iadd => am_bin mi nxt L S g t (fun x y => x + y)
  | .isub => am_bin mi nxt L S g t (fun x y => x - y)
  | .imul => am_bin mi nxt L S g t (fun x y => x * y)
  | .iand => am_bin mi nxt L S g t (fun x y => x &&& y)
  | .ior => am_bin mi nxt L S g t (fun x y => x ||| y)
  | .ixor => am_bin mi nxt L S g t (fun x y => x ^^^ y)
  | .ishl => am_bin mi nxt L S g t (fun x y => x <<< (y &&& 31))
  | .ishr => am_bin mi nxt L S g t (fun x y => x >>> (y &&& 31))
  | .iushr => am_bin mi nxt L S g t (fun x y => (x.toUInt32 >>> (y.toUInt32 &&& Int32.toUInt32 31)).toInt32)
  | .idiv => am_div mi nxt L S g t (fun x y => x / y)
  | .irem => am_div mi nxt L S g t (fun x y => x - x / y * y)
  | .i2l => am_un mi nxt L S g t (fun x => .long x.toInt64)
  | .l2i => am_l2 mi nxt L S g t
  | .i2c => am_un mi nxt L S g t (fun x => .int (am_chr x))
  | .land => am_lbin mi nxt L S g t (fun x y => .long (x &&& y))
  | .lor => am_lbin mi nxt L S g t (fun x y => .long (x ||| y))
  | .lcmp => am_lbin mi nxt L S g t (fun x y => .int (lg_cmp x y))
  | .lshl => am_lsh mi nxt L S g t (fun x y => x <<< (y.toInt64 &&& 63))
  | .lshr => am_lsh mi nxt L S g t (fun x y => x >>> (y.toInt64 &&& 63))
  | .lushr => am_lsh mi nxt L S g t (fun x y => (x.toUInt64 >>> (y.toInt64.toUInt64 &&& Int64.toUInt64 63)).toInt64)
  | .dup => am_dup mi nxt L S g t
  | .dup2 => am_dup2 mi nxt L S g t
  | .ifCond q _ => am_if1 mi nxt L S g t a q
  | .if_icmp q _ => am_if2 mi nxt L S g t a q
  | .if_acmp q _ => am_ifa mi nxt L S g t a q
  | .goto _ => am_nx (mi, a, L, S, g, t)
  | .tableswitch df lo hi offs => am_sw mi pc L S g t df lo hi offs
  | .getstatic _ => am_gs mi nxt L S g t a
  | .getfield _ => am_gf mi nxt L S g t a b
  | .putfield _ => am_pf mi nxt L S g t a b
  | .arraylength => am_len mi nxt L S g t
  | .iaload => am_ild mi nxt L S g t
  | .caload => am_ald mi nxt L S g t 1 (fun x => .int x)
  | .baload => am_ald mi nxt L S g t 3 (fun x => .int x)
  | .laload => am_ald mi nxt L S g t 2 (fun x => .long x.toInt64)
  | .aaload => am_rld mi nxt L S g t
  | .iastore => am_ast mi nxt L S g t 0 (fun b _ => b) (fun x => x)
  | .castore => am_ast mi nxt L S g t 1 (fun b _ => b) (fun x => am_chr x)
  | .bastore => am_ast mi nxt L S g t 3 (fun b x => b && am_isb x) (fun x => x)
  | .lastore => am_lst mi nxt L S g t
  | .aastore => am_rst mi nxt L S g t
  | .invokevirtual _ => am_iv mi pc L S g t v a b d
  | .invokestatic _ => bif Nat.beq b 1 then am_mx mi nxt L S g t (fun x y => if x < y then y else x) else bif Nat.beq b 2 then am_mx mi nxt L S g t (fun x y => if y < x then y else x) else am_is mi pc L S g t v a d
  | .ireturn => am_irt S g t d
  | .areturn => am_art S g t
  | .return_ => am_vrt S g t
  | .new _ => am_thr S g t a
  | _ => none
def am_step (st : am_S) : Option am_A := match st with
  | (mi, pc, L, S, g, t) => match am_code mi pc with
    | some (i, nxt, kp, v, a, b, d, _) => match kp with
      | 0 => am_do i nxt v a b d mi pc L S g t
      | q + 1 => am_do i nxt v a b d mi pc (am_trim L q) S g t
    | none => none
def am_catch : List (Nat × Nat × Nat × Nat) → Nat → Nat → Nat → Option Nat
  | [], _, _, _ => none
  | (m, p, x, t) :: r, mi, pc, y => bif Nat.beq m mi && (Nat.beq p pc && Nat.beq x y) then some t else am_catch r mi pc y
def am_cont (rs : am_S) (f : am_R) : Option am_S := match rs, f with
  | (mi, pc, L, r, _, _), (.inl (some v), g, t) => some (mi, pc + 3, L, v :: r, g, t)
  | (mi, pc, L, r, _, _), (.inl none, g, t) => some (mi, pc + 3, L, r, g, t)
  | (mi, pc, L, _, _, _), (.inr x, g, t) => match am_catch am_hands mi pc x with
    | some h => some (mi, h, L, [], g, t)
    | none => none
def am_eval : Nat → am_S → Option am_R
  | 0, _ => none
  | k + 1, st => match am_step st with
    | some (.inl s) => am_eval k s
    | some (.inr (.inr (.inr (.inr (.inr (.inr s)))))) => am_eval k s
    | some (.inr (.inl (b, s))) => bif b then am_eval k s else none
    | some (.inr (.inr (.inl (.inl (q, x, y, s1, s2))))) => bif am_cmp q x y then am_eval k s1 else am_eval k s2
    | some (.inr (.inr (.inl (.inr (b, q, x, y, s1, s2))))) => bif b then (bif am_cmp q x y then am_eval k s1 else am_eval k s2) else none
    | some (.inr (.inr (.inr (.inl r)))) => some r
    | some (.inr (.inr (.inr (.inr (.inl (b, r)))))) => bif b then some r else none
    | some (.inr (.inr (.inr (.inr (.inr (.inl (e, rs))))))) => match am_eval k e with
      | some r => match am_cont rs r with
        | some s => am_eval k s
        | none => none
      | none => none
    | none => none
theorem am_eval_mono : ∀ (k : Nat) (st : am_S) (r : am_R), am_eval k st = some r → am_eval (k + 1) st = some r := by
  intro k
  induction k with
  | zero => intro st r h; simp [am_eval] at h
  | succ k ih =>
    intro st r h
    rw [am_eval] at h ⊢
    cases hs : am_step st with
    | none => rw [hs] at h; cases h
    | some q =>
      rw [hs] at h
      rcases q with s | ⟨b, s⟩ | (⟨q, x, y, s1, s2⟩ | ⟨b, q, x, y, s1, s2⟩) | r' | ⟨b, r'⟩ | ⟨e, rs⟩ | s
      · exact ih _ _ h
      · cases b with
        | true => exact ih _ _ h
        | false => cases h
      · dsimp only at h ⊢
        cases hb : am_cmp q x y with
        | true => rw [hb] at h; exact ih _ _ h
        | false => rw [hb] at h; exact ih _ _ h
      · cases b with
        | false => cases h
        | true =>
          dsimp only [cond_true] at h ⊢
          cases hb : am_cmp q x y with
          | true => rw [hb] at h; exact ih _ _ h
          | false => rw [hb] at h; exact ih _ _ h
      · exact h
      · exact h
      · dsimp only at h ⊢
        cases he : am_eval k e with
        | none => rw [he] at h; cases h
        | some f =>
          rw [he] at h
          rw [ih _ _ he]
          dsimp only at h ⊢
          cases hc : am_cont rs f with
          | none => rw [hc] at h; cases h
          | some st' =>
            rw [hc] at h
            exact ih _ _ h
      · exact ih _ _ h
theorem am_eval_le {k k' : Nat} (hk : k ≤ k') {st : am_S} {r : am_R} (h : am_eval k st = some r) : am_eval k' st = some r := by
  induction hk with
  | refl => exact h
  | step _ ih => exact am_eval_mono _ _ _ ih
def am_GQ (st : am_S) (Q : am_R → Prop) : Prop := ∃ k r, am_eval k st = some r ∧ Q r
def am_af (mi pc : Nat) (L : am_L) (S : List Value) (Q : am_R → Prop) (f : am_R) : Prop := match f with
  | (.inl (some v), g, t) => am_GQ (mi, pc + 3, L, v :: S, g, t) Q
  | (.inl none, g, t) => am_GQ (mi, pc + 3, L, S, g, t) Q
  | (.inr x, g, t) => match am_catch am_hands mi pc x with
    | some h => am_GQ (mi, h, L, [], g, t) Q
    | none => False
def am_chk (b : Bool) (P : Prop) : Prop := b = true ∧ P
theorem am_chk_i {b : Bool} {P : Prop} (h : b = true) (k : P) : am_chk b P := ⟨h, k⟩
theorem am_chk_e {b : Bool} {P : Prop} (h : am_chk b P) : b = true ∧ P := h
def am_mem : List Nat → Nat → Bool
  | [], _ => false
  | x :: r, n => bif Nat.beq x n then true else am_mem r n
def am_tr (s : am_S) : am_S := match s with
  | (mi, pc, L, S, g, t) => match am_code mi pc with
    | some (_, _, kp, _) => match kp with
      | 0 => (mi, pc, L, S, g, t)
      | q + 1 => (mi, pc, am_trim L q, S, g, t)
    | none => (mi, pc, L, S, g, t)
theorem am_trim_trim : ∀ (L : am_L) (n : Nat), am_trim (am_trim L n) n = am_trim L n
  | [], _ => rfl
  | (j, x) :: r, n => by
    rw [am_trim]
    cases hb : Nat.ble n j with
    | true => exact am_trim_trim r n
    | false =>
      dsimp only [cond_false]
      rw [am_trim, hb]
      dsimp only [cond_false]
      rw [am_trim_trim r n]
theorem am_step_tr (s : am_S) : am_step (am_tr s) = am_step s := by
  obtain ⟨mi, pc, L, S, g, t⟩ := s
  cases hc : am_code mi pc with
  | none => simp only [am_tr, hc]
  | some e =>
    obtain ⟨i, nxt, kp, v, a, b, d, w⟩ := e
    cases kp with
    | zero => simp only [am_tr, hc]
    | succ q => simp only [am_tr, am_step, hc, am_trim_trim]
theorem am_eval_tr (s : am_S) : ∀ k, am_eval k (am_tr s) = am_eval k s
  | 0 => rfl
  | k + 1 => by rw [am_eval, am_eval, am_step_tr]
theorem am_GQ_tr {s : am_S} {Q : am_R → Prop} (h : am_GQ (am_tr s) Q) : am_GQ s Q := by
  obtain ⟨k, r, hk, hr⟩ := h
  exact ⟨k, r, by rw [← am_eval_tr]; exact hk, hr⟩
def am_wp (stops : List Nat) : Nat → am_S → (am_R → Prop) → Prop
  | 0, st, Q => am_GQ st Q
  | n + 1, st, Q => match am_step st with
    | some (.inl s) => bif am_mem stops s.2.1 then am_GQ (am_tr s) Q else am_wp stops n s Q
    | some (.inr (.inl (b, s))) => am_chk b (bif am_mem stops s.2.1 then am_GQ (am_tr s) Q else am_wp stops n s Q)
    | some (.inr (.inr (.inl (.inl (q, x, y, s1, s2))))) => (am_cP q x y → bif am_mem stops s1.2.1 then am_GQ (am_tr s1) Q else am_wp stops n s1 Q) ∧ (am_cP (am_ng q) x y → bif am_mem stops s2.2.1 then am_GQ (am_tr s2) Q else am_wp stops n s2 Q)
    | some (.inr (.inr (.inl (.inr (b, q, x, y, s1, s2))))) => am_chk b ((am_cP q x y → bif am_mem stops s1.2.1 then am_GQ (am_tr s1) Q else am_wp stops n s1 Q) ∧ (am_cP (am_ng q) x y → bif am_mem stops s2.2.1 then am_GQ (am_tr s2) Q else am_wp stops n s2 Q))
    | some (.inr (.inr (.inr (.inl r)))) => Q r
    | some (.inr (.inr (.inr (.inr (.inl (b, r)))))) => am_chk b (Q r)
    | some (.inr (.inr (.inr (.inr (.inr (.inl (e, (mi, pc, L, S, _, _)))))))) => am_GQ e (am_af mi pc L S Q)
    | some (.inr (.inr (.inr (.inr (.inr (.inr s)))))) => am_GQ s Q
    | none => False
theorem am_GQ_nx {st s : am_S} {Q : am_R → Prop} (h : am_step st = some (.inl s)) (k : am_GQ s Q) : am_GQ st Q := by
  obtain ⟨n, r, hn, hr⟩ := k
  refine ⟨n + 1, r, ?_, hr⟩
  rw [am_eval, h]
  exact hn
theorem am_GQ_ju {st s : am_S} {Q : am_R → Prop} (h : am_step st = some (.inr (.inr (.inr (.inr (.inr (.inr s))))))) (k : am_GQ s Q) : am_GQ st Q := by
  obtain ⟨n, r, hn, hr⟩ := k
  refine ⟨n + 1, r, ?_, hr⟩
  rw [am_eval, h]
  exact hn
theorem am_GQ_ca {st e : am_S} {mi pc : Nat} {L : am_L} {S : List Value} {g : am_G} {t : Nat} {Q : am_R → Prop} (h : am_step st = some (.inr (.inr (.inr (.inr (.inr (.inl (e, (mi, pc, L, S, g, t))))))))) (k : am_GQ e (am_af mi pc L S Q)) : am_GQ st Q := by
  obtain ⟨n, r, hn, hr⟩ := k
  have fin : ∀ s, am_cont (mi, pc, L, S, g, t) r = some s → am_GQ s Q → am_GQ st Q := by
    rintro s hc ⟨n2, r2, hn2, hr2⟩
    refine ⟨max n n2 + 1, r2, ?_, hr2⟩
    rw [am_eval, h]
    dsimp only
    rw [am_eval_le (Nat.le_max_left n n2) hn]
    dsimp only
    rw [hc]
    exact am_eval_le (Nat.le_max_right n n2) hn2
  obtain ⟨o, g', t'⟩ := r
  rcases o with (_ | v) | x
  · exact fin _ rfl hr
  · exact fin _ rfl hr
  · cases hc : am_catch am_hands mi pc x with
    | none =>
      simp only [am_af, hc] at hr
    | some y =>
      simp only [am_af, hc] at hr
      refine fin _ ?_ hr
      simp only [am_cont, hc]
theorem am_wp_ok (stops : List Nat) : ∀ (n : Nat) {st : am_S} {Q : am_R → Prop}, am_wp stops n st Q → am_GQ st Q := by
  intro n
  induction n with
  | zero => intro st Q h; exact h
  | succ n ih =>
    intro st Q h
    have sp : ∀ s : am_S, (bif am_mem stops s.2.1 then am_GQ (am_tr s) Q else am_wp stops n s Q) → am_GQ s Q := by
      intro s k
      cases hm : am_mem stops s.2.1 with
      | true => rw [hm] at k; exact am_GQ_tr k
      | false => rw [hm] at k; exact ih k
    rw [am_wp] at h
    cases hs : am_step st with
    | none => rw [hs] at h; exact h.elim
    | some q =>
      rw [hs] at h
      rcases q with s | ⟨b, s⟩ | (⟨q, x, y, s1, s2⟩ | ⟨b, q, x, y, s1, s2⟩) | r' | ⟨b, r'⟩ | ⟨e, mi, pc, L, S, g, t⟩ | s
      · exact am_GQ_nx hs (sp _ h)
      · obtain ⟨hb, h2⟩ := am_chk_e h
        subst hb
        obtain ⟨n, r, hn, hr⟩ := sp _ h2
        refine ⟨n + 1, r, ?_, hr⟩
        rw [am_eval, hs]
        exact hn
      · dsimp only at h
        cases hb : am_cmp q x y with
        | true =>
          obtain ⟨n, r, hn, hr⟩ := sp _ (h.1 ((am_cmp_iff q x y).mp hb))
          refine ⟨n + 1, r, ?_, hr⟩
          rw [am_eval, hs]
          dsimp only
          rw [hb]
          exact hn
        | false =>
          obtain ⟨n, r, hn, hr⟩ := sp _ (h.2 (am_cP_ng q x y (fun hq => by rw [(am_cmp_iff q x y).mpr hq] at hb; cases hb)))
          refine ⟨n + 1, r, ?_, hr⟩
          rw [am_eval, hs]
          dsimp only
          rw [hb]
          exact hn
      · obtain ⟨hbb, h2⟩ := am_chk_e h
        subst hbb
        cases hb : am_cmp q x y with
        | true =>
          obtain ⟨n, r, hn, hr⟩ := sp _ (h2.1 ((am_cmp_iff q x y).mp hb))
          refine ⟨n + 1, r, ?_, hr⟩
          rw [am_eval, hs]
          dsimp only [cond_true]
          rw [hb]
          exact hn
        | false =>
          obtain ⟨n, r, hn, hr⟩ := sp _ (h2.2 (am_cP_ng q x y (fun hq => by rw [(am_cmp_iff q x y).mpr hq] at hb; cases hb)))
          refine ⟨n + 1, r, ?_, hr⟩
          rw [am_eval, hs]
          dsimp only [cond_true]
          rw [hb]
          exact hn
      · exact ⟨1, r', by rw [am_eval, hs], h⟩
      · obtain ⟨hb, h2⟩ := am_chk_e h
        subst hb
        exact ⟨1, r', by rw [am_eval, hs]; rfl, h2⟩
      · exact am_GQ_ca hs h
      · exact am_GQ_ju hs h
theorem am_GQ_mono {st : am_S} {Q Q' : am_R → Prop} (h : am_GQ st Q) (k : ∀ r, Q r → Q' r) : am_GQ st Q' := by
  obtain ⟨n, r, hn, hr⟩ := h
  exact ⟨n, r, hn, k r hr⟩
