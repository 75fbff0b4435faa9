theorem B_L_law_20 {g : am_G} {t : Nat} {Q : am_R → Prop}
    (h : am_GQ (0, 23, [(0, .ref 6), (1, .ref 8), (2, .ref 32), (3, .ref 53), (4, .int (Int32.ofNat 0))], [], g, t) Q) :
    am_GQ (0, 20, [(0, .ref 6), (1, .ref 8), (2, .ref 32), (3, .ref 53)], [], g, t) Q := am_wp_ok [23, 224, 405, 458] 2 h
theorem B_L_law_23 {g : am_G} {t : Nat} {Q : am_R → Prop} {x4 : Int32}
    (h : (((g 7 0) - (Int32.ofNat 3)) < x4 → am_chk (am_isb (Int32.ofNat 1)) (Q (.inl (some (.int (Int32.ofNat 1))), g, t))) ∧ (x4 ≤ ((g 7 0) - (Int32.ofNat 3)) → am_chk (am_in x4 (Int32.toNatClampNeg (g 7 0))) (am_GQ (0, am_ts 39 419 0 11 #[61, 118, 131, 144, 188, 201, 226, 251, 288, 313, 369, 394] ((g 6 (Int32.toNatClampNeg x4)) &&& (Int32.ofNat 15)), [(0, .ref 6), (1, .ref 8), (2, .ref 32), (3, .ref 53), (4, .int x4)], [], g, t) Q))) :
    am_GQ (0, 23, [(0, .ref 6), (1, .ref 8), (2, .ref 32), (3, .ref 53), (4, .int x4)], [], g, t) Q := am_wp_ok [23, 224, 405, 458] 12 h
theorem B_D_erase_0 {g : am_G} {t : Nat} {Q : am_R → Prop}
    (h : am_GQ (77, 0, [(0, .ref 9)], [], g, t) (am_af 1 4 [(0, .ref 8)] [] Q)) :
    am_GQ (1, 0, [(0, .ref 8)], [], g, t) Q := am_wp_ok [] 3 h
theorem B_D_erase_7 {g : am_G} {t : Nat} {Q : am_R → Prop} {s0 : Int32}
    (h : Q (.inl (some (.int s0)), g, t)) :
    am_GQ (1, 7, [(0, .ref 8)], [.int s0], g, t) Q := am_wp_ok [] 1 h
theorem B_D_fault_0 {g : am_G} {t : Nat} {Q : am_R → Prop}
    (h : Q (.inl (some (.int (g 8 8))), g, t)) :
    am_GQ (2, 0, [(0, .ref 8)], [], g, t) Q := am_wp_ok [] 3 h
theorem B_D_holds_0 {g : am_G} {t : Nat} {Q : am_R → Prop} {x0 : Int32} {x1 : Int32}
    (h : am_GQ (16, 0, [(0, .int x1)], [], g, t) (am_af 3 2 [(0, .int x0), (1, .int x1)] [.int x0] Q)) :
    am_GQ (3, 0, [(0, .int x0), (1, .int x1)], [], g, t) Q := am_wp_ok [] 3 h
theorem B_D_holds_5 {g : am_G} {t : Nat} {Q : am_R → Prop} {x0 : Int32} {x1 : Int32} {s0 : Int32} {s1 : Int32}
    (h : ((s1 &&& s0) = (Int32.ofNat 0) → am_chk (am_isb (Int32.ofNat 0)) (Q (.inl (some (.int (Int32.ofNat 0))), g, t))) ∧ (¬ (s1 &&& s0) = (Int32.ofNat 0) → am_chk (am_isb (Int32.ofNat 1)) (Q (.inl (some (.int (Int32.ofNat 1))), g, t)))) :
    am_GQ (3, 5, [(0, .int x0), (1, .int x1)], [.int s0, .int s1], g, t) Q := am_wp_ok [] 5 h
theorem B_D_isFile_0 {g : am_G} {t : Nat} {Q : am_R → Prop} {x0 : Int32}
    (h : (x0 < (Int32.ofNat 0) → am_chk (am_isb (Int32.ofNat 0)) (Q (.inl (some (.int (Int32.ofNat 0))), g, t))) ∧ ((Int32.ofNat 0) ≤ x0 → ((Int32.ofNat 32) ≤ x0 → am_chk (am_isb (Int32.ofNat 0)) (Q (.inl (some (.int (Int32.ofNat 0))), g, t))) ∧ (x0 < (Int32.ofNat 32) → am_chk (am_isb (Int32.ofNat 1)) (Q (.inl (some (.int (Int32.ofNat 1))), g, t))))) :
    am_GQ (4, 0, [(0, .int x0)], [], g, t) Q := am_wp_ok [] 8 h
theorem B_D_isMacroHead_0 {g : am_G} {t : Nat} {Q : am_R → Prop} {x0 : Int32} {x1 : Int32}
    (h : (x0 < (Int32.ofNat 65) → am_chk (am_isb (Int32.ofNat 0)) (Q (.inl (some (.int (Int32.ofNat 0))), g, t))) ∧ ((Int32.ofNat 65) ≤ x0 → ((Int32.ofNat 90) < x0 → am_chk (am_isb (Int32.ofNat 0)) (Q (.inl (some (.int (Int32.ofNat 0))), g, t))) ∧ (x0 ≤ (Int32.ofNat 90) → (¬ x1 = (Int32.ofNat 61) → am_chk (am_isb (Int32.ofNat 0)) (Q (.inl (some (.int (Int32.ofNat 0))), g, t))) ∧ (x1 = (Int32.ofNat 61) → am_chk (am_isb (Int32.ofNat 1)) (Q (.inl (some (.int (Int32.ofNat 1))), g, t)))))) :
    am_GQ (5, 0, [(0, .int x0), (1, .int x1)], [], g, t) Q := am_wp_ok [] 12 h
theorem B_D_isMacroUse_0 {g : am_G} {t : Nat} {Q : am_R → Prop} {x0 : Int32} {x1 : Int32}
    (h : (¬ x0 = (Int32.ofNat 36) → am_chk (am_isb (Int32.ofNat 0)) (Q (.inl (some (.int (Int32.ofNat 0))), g, t))) ∧ (x0 = (Int32.ofNat 36) → (x1 < (Int32.ofNat 65) → am_chk (am_isb (Int32.ofNat 0)) (Q (.inl (some (.int (Int32.ofNat 0))), g, t))) ∧ ((Int32.ofNat 65) ≤ x1 → ((Int32.ofNat 90) < x1 → am_chk (am_isb (Int32.ofNat 0)) (Q (.inl (some (.int (Int32.ofNat 0))), g, t))) ∧ (x1 ≤ (Int32.ofNat 90) → am_chk (am_isb (Int32.ofNat 1)) (Q (.inl (some (.int (Int32.ofNat 1))), g, t)))))) :
    am_GQ (6, 0, [(0, .int x0), (1, .int x1)], [], g, t) Q := am_wp_ok [] 12 h
theorem B_D_isName_0 {g : am_G} {t : Nat} {Q : am_R → Prop} {x0 : Int32} {x1 : Int32}
    (h : (x0 < (Int32.ofNat 97) → am_chk (am_isb (Int32.ofNat 0)) (Q (.inl (some (.int (Int32.ofNat 0))), g, t))) ∧ ((Int32.ofNat 97) ≤ x0 → ((Int32.ofNat 104) < x0 → am_chk (am_isb (Int32.ofNat 0)) (Q (.inl (some (.int (Int32.ofNat 0))), g, t))) ∧ (x0 ≤ (Int32.ofNat 104) → (x1 < (Int32.ofNat 48) → am_chk (am_isb (Int32.ofNat 0)) (Q (.inl (some (.int (Int32.ofNat 0))), g, t))) ∧ ((Int32.ofNat 48) ≤ x1 → ((Int32.ofNat 51) < x1 → am_chk (am_isb (Int32.ofNat 0)) (Q (.inl (some (.int (Int32.ofNat 0))), g, t))) ∧ (x1 ≤ (Int32.ofNat 51) → am_chk (am_isb (Int32.ofNat 1)) (Q (.inl (some (.int (Int32.ofNat 1))), g, t))))))) :
    am_GQ (7, 0, [(0, .int x0), (1, .int x1)], [], g, t) Q := am_wp_ok [] 15 h
theorem B_D_isPatternHalf_0 {g : am_G} {t : Nat} {Q : am_R → Prop} {x0 : Int32} {x1 : Int32}
    (h : (¬ x0 = (Int32.ofNat 37) → am_chk (am_isb (Int32.ofNat 0)) (Q (.inl (some (.int (Int32.ofNat 0))), g, t))) ∧ (x0 = (Int32.ofNat 37) → (x1 < (Int32.ofNat 48) → am_chk (am_isb (Int32.ofNat 0)) (Q (.inl (some (.int (Int32.ofNat 0))), g, t))) ∧ ((Int32.ofNat 48) ≤ x1 → ((Int32.ofNat 51) < x1 → am_chk (am_isb (Int32.ofNat 0)) (Q (.inl (some (.int (Int32.ofNat 0))), g, t))) ∧ (x1 ≤ (Int32.ofNat 51) → am_chk (am_isb (Int32.ofNat 1)) (Q (.inl (some (.int (Int32.ofNat 1))), g, t)))))) :
    am_GQ (8, 0, [(0, .int x0), (1, .int x1)], [], g, t) Q := am_wp_ok [] 12 h
theorem B_D_length_0 {g : am_G} {t : Nat} {Q : am_R → Prop}
    (h : am_GQ (89, 0, [(0, .ref 9)], [], g, t) (am_af 9 4 [(0, .ref 8)] [] Q)) :
    am_GQ (9, 0, [(0, .ref 8)], [], g, t) Q := am_wp_ok [] 3 h
theorem B_D_length_7 {g : am_G} {t : Nat} {Q : am_R → Prop} {s0 : Int32}
    (h : Q (.inl (some (.int s0)), g, t)) :
    am_GQ (9, 7, [(0, .ref 8)], [.int s0], g, t) Q := am_wp_ok [] 1 h
theorem B_D_make_0 {g : am_G} {t : Nat} {Q : am_R → Prop} {x1 : Int32}
    (h : am_GQ (4, 0, [(0, .int x1)], [], g, t) (am_af 10 1 [(0, .ref 8), (1, .int x1)] [] Q)) :
    am_GQ (10, 0, [(0, .ref 8), (1, .int x1)], [], g, t) Q := am_wp_ok [] 2 h
theorem B_D_make_4 {g : am_G} {t : Nat} {Q : am_R → Prop} {x1 : Int32} {s0 : Int32}
    (h : (¬ s0 = (Int32.ofNat 0) → am_GQ (23, 0, [(0, .ref 26)], [], g, t) (am_af 10 19 [(0, .ref 8), (1, .int x1)] [] Q)) ∧ (s0 = (Int32.ofNat 0) → Q (.inr 3, g, t))) :
    am_GQ (10, 4, [(0, .ref 8), (1, .int x1)], [.int s0], g, t) Q := am_wp_ok [] 4 h
theorem B_D_make_22 {g : am_G} {t : Nat} {Q : am_R → Prop} {x1 : Int32}
    (h : am_GQ (32, 0, [(0, .ref 26), (1, .int x1)], [], g, t) (am_af 10 27 [(0, .ref 8), (1, .int x1)] [] Q)) :
    am_GQ (10, 22, [(0, .ref 8), (1, .int x1)], [], g, t) Q := am_wp_ok [] 4 h
theorem B_D_make_30 {g : am_G} {t : Nat} {Q : am_R → Prop} {x1 : Int32} {s0 : Int32}
    (h : am_GQ (27, 0, [(0, .ref 26), (1, .int s0)], [], g, t) (am_af 10 36 [(0, .ref 8), (1, .int x1), (2, .int s0)] [] Q)) :
    am_GQ (10, 30, [(0, .ref 8), (1, .int x1)], [.int s0], g, t) Q := am_wp_ok [] 5 h
theorem B_D_make_39 {g : am_G} {t : Nat} {Q : am_R → Prop} {x1 : Int32} {x2 : Int32} {s0 : Int32}
    (h : (s0 = (Int32.ofNat 0) → am_GQ (29, 0, [(0, .ref 26), (1, .int x2)], [], g, t) (am_af 10 55 [(0, .ref 8), (1, .int x1), (2, .int x2)] [] Q)) ∧ (¬ s0 = (Int32.ofNat 0) → Q (.inr 1, g, t))) :
    am_GQ (10, 39, [(0, .ref 8), (1, .int x1), (2, .int x2)], [.int s0], g, t) Q := am_wp_ok [] 5 h
theorem B_D_make_58 {g : am_G} {t : Nat} {Q : am_R → Prop} {x1 : Int32} {x2 : Int32} {s0 : Int32}
    (h : (s0 = (Int32.ofNat 0) → am_GQ (30, 0, [(0, .ref 26), (1, .int x2)], [], g, t) (am_af 10 74 [(0, .ref 8), (1, .int x1), (2, .int x2)] [] Q)) ∧ (¬ s0 = (Int32.ofNat 0) → Q (.inr 4, g, t))) :
    am_GQ (10, 58, [(0, .ref 8), (1, .int x1), (2, .int x2)], [.int s0], g, t) Q := am_wp_ok [] 5 h
theorem B_D_make_77 {g : am_G} {t : Nat} {Q : am_R → Prop} {x1 : Int32} {x2 : Int32} {s0 : Int32}
    (h : am_GQ (73, 0, [(0, .ref 24)], [], g, t) (am_af 10 82 [(0, .ref 8), (1, .int x1), (2, .int x2), (3, .int s0)] [] Q)) :
    am_GQ (10, 77, [(0, .ref 8), (1, .int x1), (2, .int x2)], [.int s0], g, t) Q := am_wp_ok [] 4 h
theorem B_D_make_85 {g : am_G} {t : Nat} {Q : am_R → Prop} {x1 : Int32} {x2 : Int32} {x3 : Int32} {s0 : Int32}
    (h : am_GQ (120, 0, [(0, .int x3)], [], g, t) (am_af 10 86 [(0, .ref 8), (1, .int x1), (2, .int x2), (3, .int x3)] [.int s0] Q)) :
    am_GQ (10, 85, [(0, .ref 8), (1, .int x1), (2, .int x2), (3, .int x3)], [.int s0], g, t) Q := am_wp_ok [] 2 h
theorem B_D_make_89 {g : am_G} {t : Nat} {Q : am_R → Prop} {x1 : Int32} {x2 : Int32} {x3 : Int32} {s0 : Int32} {s1 : Int32}
    (h : ((s1 + s0) ≤ (Int32.ofNat 1000000000) → am_GQ (15, 0, [(0, .ref 8), (1, .int x3)], [], g, t) (am_af 10 105 [(0, .ref 8), (1, .int x1), (2, .int x2), (3, .int x3)] [] Q)) ∧ ((Int32.ofNat 1000000000) < (s1 + s0) → Q (.inr 5, g, t))) :
    am_GQ (10, 89, [(0, .ref 8), (1, .int x1), (2, .int x2), (3, .int x3)], [.int s0, .int s1], g, t) Q := am_wp_ok [] 6 h
theorem B_D_make_108 {g : am_G} {t : Nat} {Q : am_R → Prop} {x1 : Int32} {x2 : Int32} {x3 : Int32}
    (h : am_GQ (120, 0, [(0, .int x3)], [], g, t) (am_af 10 109 [(0, .ref 8), (1, .int x1), (2, .int x2), (3, .int x3)] [] Q)) :
    am_GQ (10, 108, [(0, .ref 8), (1, .int x1), (2, .int x2), (3, .int x3)], [], g, t) Q := am_wp_ok [] 2 h
theorem B_D_make_112 {g : am_G} {t : Nat} {Q : am_R → Prop} {x1 : Int32} {x2 : Int32} {x3 : Int32} {s0 : Int32}
    (h : Q (.inl (some (.int s0)), g, t)) :
    am_GQ (10, 112, [(0, .ref 8), (1, .int x1), (2, .int x2), (3, .int x3)], [.int s0], g, t) Q := am_wp_ok [] 1 h
theorem B_D_ran_0 {g : am_G} {t : Nat} {Q : am_R → Prop} {x1 : Int32}
    (h : am_GQ (56, 0, [(0, .ref 29), (1, .int x1)], [], g, t) (am_af 11 5 [(0, .ref 8), (1, .int x1)] [] Q)) :
    am_GQ (11, 0, [(0, .ref 8), (1, .int x1)], [], g, t) Q := am_wp_ok [] 4 h
theorem B_D_ran_8 {g : am_G} {t : Nat} {Q : am_R → Prop} {x1 : Int32} {s0 : Int32}
    (h : Q (.inl (some (.int s0)), g, t)) :
    am_GQ (11, 8, [(0, .ref 8), (1, .int x1)], [.int s0], g, t) Q := am_wp_ok [] 1 h
theorem B_D_read_0 {g : am_G} {t : Nat} {Q : am_R → Prop}
    (h : am_GQ (43, 0, [(0, .ref 11)], [], g, t) (am_af 12 4 [(0, .ref 8)] [] Q)) :
    am_GQ (12, 0, [(0, .ref 8)], [], g, t) Q := am_wp_ok [99] 3 h
theorem B_D_read_7 {g : am_G} {t : Nat} {Q : am_R → Prop}
    (h : am_GQ (35, 0, [(0, .ref 11)], [], g, t) (am_af 12 12 [(0, .ref 8)] [.ref 8] Q)) :
    am_GQ (12, 7, [(0, .ref 8)], [], g, t) Q := am_wp_ok [99] 4 h
theorem B_D_read_15 {g : am_G} {t : Nat} {Q : am_R → Prop} {s0 : Int32}
    (h : (((am_w g 8 8 s0) 8 8) = (Int32.ofNat 0) → am_GQ (50, 0, [(0, .ref 14), (1, .ref 11)], [], (am_w g 8 8 s0), t) (am_af 12 41 [(0, .ref 8)] [] Q)) ∧ (¬ ((am_w g 8 8 s0) 8 8) = (Int32.ofNat 0) → Q (.inr 0, (am_w g 8 8 s0), t))) :
    am_GQ (12, 15, [(0, .ref 8)], [.int s0, .ref 8], g, t) Q := am_wp_ok [99] 9 h
theorem B_D_read_44 {g : am_G} {t : Nat} {Q : am_R → Prop}
    (h : am_GQ (61, 0, [(0, .ref 19)], [], g, t) (am_af 12 49 [(0, .ref 8)] [.ref 8] Q)) :
    am_GQ (12, 44, [(0, .ref 8)], [], g, t) Q := am_wp_ok [99] 4 h
theorem B_D_read_52 {g : am_G} {t : Nat} {Q : am_R → Prop} {s0 : Int32}
    (h : (((am_w g 8 8 s0) 8 8) = (Int32.ofNat 0) → am_GQ (62, 0, [(0, .ref 19)], [], (am_w g 8 8 s0), t) (am_af 12 75 [(0, .ref 8)] [.ref 8] Q)) ∧ (¬ ((am_w g 8 8 s0) 8 8) = (Int32.ofNat 0) → Q (.inr 1, (am_w g 8 8 s0), t))) :
    am_GQ (12, 52, [(0, .ref 8)], [.int s0, .ref 8], g, t) Q := am_wp_ok [99] 8 h
theorem B_D_read_78 {g : am_G} {t : Nat} {Q : am_R → Prop} {s0 : Int32}
    (h : (¬ ((am_w g 8 8 s0) 8 8) = (Int32.ofNat 0) → am_GQ (12, 99, [(0, .ref 8)], [], (am_w g 8 8 s0), t) Q) ∧ (((am_w g 8 8 s0) 8 8) = (Int32.ofNat 0) → am_GQ (60, 0, [(0, .ref 19)], [], (am_w g 8 8 s0), t) (am_af 12 93 [(0, .ref 8)] [.ref 8] Q))) :
    am_GQ (12, 78, [(0, .ref 8)], [.int s0, .ref 8], g, t) Q := am_wp_ok [99] 8 h
theorem B_D_read_99 {g : am_G} {t : Nat} {Q : am_R → Prop}
    (h : ((g 8 8) = (Int32.ofNat 0) → am_GQ (59, 0, [(0, .ref 19), (1, .ref 20)], [], g, t) (am_af 12 122 [(0, .ref 8)] [] Q)) ∧ (¬ (g 8 8) = (Int32.ofNat 0) → Q (.inr 2, g, t))) :
    am_GQ (12, 99, [(0, .ref 8)], [], g, t) Q := am_wp_ok [99] 8 h
theorem B_D_read_96 {g : am_G} {t : Nat} {Q : am_R → Prop} {s0 : Int32}
    (h : am_GQ (12, 99, [(0, .ref 8)], [], (am_w g 8 8 s0), t) Q) :
    am_GQ (12, 96, [(0, .ref 8)], [.int s0, .ref 8], g, t) Q := am_wp_ok [99] 1 h
theorem B_D_read_125 {g : am_G} {t : Nat} {Q : am_R → Prop} {s0 : Int32}
    (h : Q (.inl (some (.int s0)), g, t)) :
    am_GQ (12, 125, [(0, .ref 8)], [.int s0], g, t) Q := am_wp_ok [99] 1 h
theorem B_D_reason_0 {g : am_G} {t : Nat} {Q : am_R → Prop} {x1 : Int32}
    (h : am_GQ (4, 0, [(0, .int x1)], [], g, t) (am_af 13 1 [(0, .ref 8), (1, .int x1)] [] Q)) :
    am_GQ (13, 0, [(0, .ref 8), (1, .int x1)], [], g, t) Q := am_wp_ok [] 2 h
theorem B_D_reason_4 {g : am_G} {t : Nat} {Q : am_R → Prop} {x1 : Int32} {s0 : Int32}
    (h : (s0 = (Int32.ofNat 0) → Q (.inl (some (.int (-1))), g, t)) ∧ (¬ s0 = (Int32.ofNat 0) → am_GQ (58, 0, [(0, .ref 29), (1, .int x1)], [], g, t) (am_af 13 12 [(0, .ref 8), (1, .int x1)] [] Q))) :
    am_GQ (13, 4, [(0, .ref 8), (1, .int x1)], [.int s0], g, t) Q := am_wp_ok [] 5 h
theorem B_D_reason_15 {g : am_G} {t : Nat} {Q : am_R → Prop} {x1 : Int32} {s0 : Int32}
    (h : Q (.inl (some (.int s0)), g, t)) :
    am_GQ (13, 15, [(0, .ref 8), (1, .int x1)], [.int s0], g, t) Q := am_wp_ok [] 2 h
theorem B_D_recipe_0 {g : am_G} {t : Nat} {Q : am_R → Prop} {x1 : Int32}
    (h : am_GQ (4, 0, [(0, .int x1)], [], g, t) (am_af 14 1 [(0, .ref 8), (1, .int x1)] [] Q)) :
    am_GQ (14, 0, [(0, .ref 8), (1, .int x1)], [], g, t) Q := am_wp_ok [] 2 h
theorem B_D_recipe_4 {g : am_G} {t : Nat} {Q : am_R → Prop} {x1 : Int32} {s0 : Int32}
    (h : (¬ s0 = (Int32.ofNat 0) → am_GQ (72, 0, [(0, .ref 20)], [], g, t) (am_af 14 13 [(0, .ref 8), (1, .int x1)] [] Q)) ∧ (s0 = (Int32.ofNat 0) → Q (.inl (some (.int (-1))), g, t))) :
    am_GQ (14, 4, [(0, .ref 8), (1, .int x1)], [.int s0], g, t) Q := am_wp_ok [] 4 h
theorem B_D_recipe_16 {g : am_G} {t : Nat} {Q : am_R → Prop} {x1 : Int32} {s0 : Int32}
    (h : am_GQ (3, 0, [(0, .int s0), (1, .int x1)], [], g, t) (am_af 14 17 [(0, .ref 8), (1, .int x1)] [] Q)) :
    am_GQ (14, 16, [(0, .ref 8), (1, .int x1)], [.int s0], g, t) Q := am_wp_ok [] 2 h
theorem B_D_recipe_20 {g : am_G} {t : Nat} {Q : am_R → Prop} {x1 : Int32} {s0 : Int32}
    (h : (s0 = (Int32.ofNat 0) → Q (.inl (some (.int (Int32.ofNat 0))), g, t)) ∧ (¬ s0 = (Int32.ofNat 0) → Q (.inl (some (.int (Int32.ofNat 1))), g, t))) :
    am_GQ (14, 20, [(0, .ref 8), (1, .int x1)], [.int s0], g, t) Q := am_wp_ok [] 4 h
theorem B_D_runRecipes_0 {g : am_G} {t : Nat} {Q : am_R → Prop} {x1 : Int32}
    (h : am_GQ (55, 0, [(0, .ref 29)], [], g, t) (am_af 15 4 [(0, .ref 8), (1, .int x1)] [] Q)) :
    am_GQ (15, 0, [(0, .ref 8), (1, .int x1)], [], g, t) Q := am_wp_ok [9, 40, 59] 3 h
theorem B_D_runRecipes_7 {g : am_G} {t : Nat} {Q : am_R → Prop} {x1 : Int32}
    (h : am_GQ (15, 9, [(0, .ref 8), (1, .int x1), (2, .int (Int32.ofNat 0))], [], g, t) Q) :
    am_GQ (15, 7, [(0, .ref 8), (1, .int x1)], [], g, t) Q := am_wp_ok [9, 40, 59] 2 h
theorem B_D_runRecipes_9 {g : am_G} {t : Nat} {Q : am_R → Prop} {x1 : Int32} {x2 : Int32}
    (h : ((Int32.ofNat 32) ≤ x2 → am_GQ (73, 0, [(0, .ref 24)], [], g, t) (am_af 15 50 [(0, .ref 8), (1, .int x1), (2, .int x2)] [] Q)) ∧ (x2 < (Int32.ofNat 32) → am_GQ (3, 0, [(0, .int x1), (1, .int x2)], [], g, t) (am_af 15 17 [(0, .ref 8), (1, .int x1), (2, .int x2)] [] Q))) :
    am_GQ (15, 9, [(0, .ref 8), (1, .int x1), (2, .int x2)], [], g, t) Q := am_wp_ok [9, 40, 59] 6 h
theorem B_D_runRecipes_53 {g : am_G} {t : Nat} {Q : am_R → Prop} {x1 : Int32} {x2 : Int32} {s0 : Int32}
    (h : am_GQ (15, 59, [(0, .ref 8), (1, .int x1), (2, .int s0), (3, .int x1), (4, .int (Int32.ofNat 1))], [], g, t) Q) :
    am_GQ (15, 53, [(0, .ref 8), (1, .int x1), (2, .int x2)], [.int s0], g, t) Q := am_wp_ok [9, 40, 59] 5 h
theorem B_D_runRecipes_20 {g : am_G} {t : Nat} {Q : am_R → Prop} {x1 : Int32} {x2 : Int32} {s0 : Int32}
    (h : (s0 = (Int32.ofNat 0) → am_GQ (15, 40, [(0, .ref 8), (1, .int x1), (2, .int x2)], [], g, t) Q) ∧ (¬ s0 = (Int32.ofNat 0) → am_GQ (31, 0, [(0, .ref 26), (1, .int x2), (2, .int x1)], [], g, t) (am_af 15 34 [(0, .ref 8), (1, .int x1), (2, .int x2)] [.int x2, .ref 29] Q))) :
    am_GQ (15, 20, [(0, .ref 8), (1, .int x1), (2, .int x2)], [.int s0], g, t) Q := am_wp_ok [9, 40, 59] 9 h
theorem B_D_runRecipes_59 {g : am_G} {t : Nat} {Q : am_R → Prop} {x1 : Int32} {x2 : Int32} {x3 : Int32} {x4 : Int32}
    (h : ((Int32.ofNat 32) < x4 → Q (.inl none, g, t)) ∧ (x4 ≤ (Int32.ofNat 32) → (x3 = (Int32.ofNat 0) → Q (.inl none, g, t)) ∧ (¬ x3 = (Int32.ofNat 0) → am_GQ (26, 0, [(0, .ref 26), (1, .int x3)], [], g, t) (am_af 15 75 [(0, .ref 8), (1, .int x1), (2, .int x2), (3, .int x3), (4, .int x4)] [] Q)))) :
    am_GQ (15, 59, [(0, .ref 8), (1, .int x1), (2, .int x2), (3, .int x3), (4, .int x4)], [], g, t) Q := am_wp_ok [9, 40, 59] 9 h
theorem B_D_runRecipes_40 {g : am_G} {t : Nat} {Q : am_R → Prop} {x1 : Int32} {x2 : Int32}
    (h : am_GQ (15, 9, [(0, .ref 8), (1, .int x1), (2, .int (x2 + (Int32.ofNat 1)))], [], g, t) Q) :
    am_GQ (15, 40, [(0, .ref 8), (1, .int x1), (2, .int x2)], [], g, t) Q := am_wp_ok [9, 40, 59] 2 h
theorem B_D_runRecipes_37 {g : am_G} {t : Nat} {Q : am_R → Prop} {x1 : Int32} {x2 : Int32} {s0 : Int32} {s1 : Int32}
    (h : am_GQ (57, 0, [(0, .ref 29), (1, .int s1), (2, .int s0)], [], g, t) (am_af 15 37 [(0, .ref 8), (1, .int x1), (2, .int x2)] [] Q)) :
    am_GQ (15, 37, [(0, .ref 8), (1, .int x1), (2, .int x2)], [.int s0, .int s1, .ref 29], g, t) Q := am_wp_ok [9, 40, 59] 1 h
theorem B_D_runRecipes_78 {g : am_G} {t : Nat} {Q : am_R → Prop} {x1 : Int32} {x2 : Int32} {x3 : Int32} {x4 : Int32} {s0 : Int32}
    (h : am_GQ (75, 0, [(0, .ref 24), (1, .int s0), (2, .int (x2 + x4))], [], g, t) (am_af 15 90 [(0, .ref 8), (1, .int x1), (2, .int x2), (3, .int x3), (4, .int x4), (5, .int s0)] [] Q)) :
    am_GQ (15, 78, [(0, .ref 8), (1, .int x1), (2, .int x2), (3, .int x3), (4, .int x4)], [.int s0], g, t) Q := am_wp_ok [9, 40, 59] 8 h
theorem B_D_runRecipes_93 {g : am_G} {t : Nat} {Q : am_R → Prop} {x1 : Int32} {x2 : Int32} {x3 : Int32} {x4 : Int32} {x5 : Int32}
    (h : am_GQ (54, 0, [(0, .ref 29), (1, .int x5)], [], g, t) (am_af 15 99 [(0, .ref 8), (1, .int x1), (2, .int x2), (3, .int x3), (4, .int x4), (5, .int x5)] [] Q)) :
    am_GQ (15, 93, [(0, .ref 8), (1, .int x1), (2, .int x2), (3, .int x3), (4, .int x4), (5, .int x5)], [], g, t) Q := am_wp_ok [9, 40, 59] 4 h
theorem B_D_runRecipes_102 {g : am_G} {t : Nat} {Q : am_R → Prop} {x1 : Int32} {x2 : Int32} {x3 : Int32} {x4 : Int32} {x5 : Int32}
    (h : am_GQ (16, 0, [(0, .int x5)], [], g, t) (am_af 15 105 [(0, .ref 8), (1, .int x1), (2, .int x2), (3, .int x3), (4, .int x4), (5, .int x5)] [.int x3] Q)) :
    am_GQ (15, 102, [(0, .ref 8), (1, .int x1), (2, .int x2), (3, .int x3), (4, .int x4), (5, .int x5)], [], g, t) Q := am_wp_ok [9, 40, 59] 3 h
theorem B_D_runRecipes_108 {g : am_G} {t : Nat} {Q : am_R → Prop} {x1 : Int32} {x2 : Int32} {x3 : Int32} {x4 : Int32} {x5 : Int32} {s0 : Int32} {s1 : Int32}
    (h : am_GQ (15, 59, [(0, .ref 8), (1, .int x1), (2, .int x2), (3, .int (s1 &&& (s0 ^^^ (-1)))), (4, .int (x4 + (Int32.ofNat 1)))], [], g, t) Q) :
    am_GQ (15, 108, [(0, .ref 8), (1, .int x1), (2, .int x2), (3, .int x3), (4, .int x4), (5, .int x5)], [.int s0, .int s1], g, t) Q := am_wp_ok [9, 40, 59] 6 h
theorem B_D_setOf_0 {g : am_G} {t : Nat} {Q : am_R → Prop} {x0 : Int32}
    (h : Q (.inl (some (.int ((Int32.ofNat 1) <<< (x0 &&& Int32.ofNat 31)))), g, t)) :
    am_GQ (16, 0, [(0, .int x0)], [], g, t) Q := am_wp_ok [] 4 h
theorem B_D_sources_0 {g : am_G} {t : Nat} {Q : am_R → Prop} {x1 : Int32}
    (h : am_GQ (4, 0, [(0, .int x1)], [], g, t) (am_af 17 1 [(0, .ref 8), (1, .int x1)] [] Q)) :
    am_GQ (17, 0, [(0, .ref 8), (1, .int x1)], [], g, t) Q := am_wp_ok [] 2 h
theorem B_D_sources_4 {g : am_G} {t : Nat} {Q : am_R → Prop} {x1 : Int32} {s0 : Int32}
    (h : (s0 = (Int32.ofNat 0) → Q (.inl (some (.int (Int32.ofNat 0))), g, t)) ∧ (¬ s0 = (Int32.ofNat 0) → am_GQ (71, 0, [(0, .ref 20), (1, .int x1)], [], g, t) (am_af 17 12 [(0, .ref 8), (1, .int x1)] [] Q))) :
    am_GQ (17, 4, [(0, .ref 8), (1, .int x1)], [.int s0], g, t) Q := am_wp_ok [] 5 h
theorem B_D_sources_15 {g : am_G} {t : Nat} {Q : am_R → Prop} {x1 : Int32} {s0 : Int32}
    (h : Q (.inl (some (.int s0)), g, t)) :
    am_GQ (17, 15, [(0, .ref 8), (1, .int x1)], [.int s0], g, t) Q := am_wp_ok [] 2 h
theorem B_D_stamp_0 {g : am_G} {t : Nat} {Q : am_R → Prop} {x1 : Int32} {x2 : Int32}
    (h : am_GQ (4, 0, [(0, .int x1)], [], g, t) (am_af 18 1 [(0, .ref 8), (1, .int x1), (2, .int x2)] [] Q)) :
    am_GQ (18, 0, [(0, .ref 8), (1, .int x1), (2, .int x2)], [], g, t) Q := am_wp_ok [] 2 h
theorem B_D_stamp_4 {g : am_G} {t : Nat} {Q : am_R → Prop} {x1 : Int32} {x2 : Int32} {s0 : Int32}
    (h : (s0 = (Int32.ofNat 0) → am_chk (am_isb (Int32.ofNat 0)) (Q (.inl (some (.int (Int32.ofNat 0))), g, t))) ∧ (¬ s0 = (Int32.ofNat 0) → (x2 < (Int32.ofNat 0) → am_chk (am_isb (Int32.ofNat 0)) (Q (.inl (some (.int (Int32.ofNat 0))), g, t))) ∧ ((Int32.ofNat 0) ≤ x2 → (x2 ≤ (Int32.ofNat 1000000000) → am_GQ (75, 0, [(0, .ref 24), (1, .int x1), (2, .int x2)], [], g, t) (am_af 18 25 [(0, .ref 8), (1, .int x1), (2, .int x2)] [] Q)) ∧ ((Int32.ofNat 1000000000) < x2 → am_chk (am_isb (Int32.ofNat 0)) (Q (.inl (some (.int (Int32.ofNat 0))), g, t)))))) :
    am_GQ (18, 4, [(0, .ref 8), (1, .int x1), (2, .int x2)], [.int s0], g, t) Q := am_wp_ok [] 11 h
theorem B_D_stamp_28 {g : am_G} {t : Nat} {Q : am_R → Prop} {x1 : Int32} {x2 : Int32}
    (h : am_chk (am_isb (Int32.ofNat 1)) (Q (.inl (some (.int (Int32.ofNat 1))), g, t))) :
    am_GQ (18, 28, [(0, .ref 8), (1, .int x1), (2, .int x2)], [], g, t) Q := am_wp_ok [] 2 h
theorem B_D_stampOf_0 {g : am_G} {t : Nat} {Q : am_R → Prop} {x1 : Int32}
    (h : am_GQ (4, 0, [(0, .int x1)], [], g, t) (am_af 19 1 [(0, .ref 8), (1, .int x1)] [] Q)) :
    am_GQ (19, 0, [(0, .ref 8), (1, .int x1)], [], g, t) Q := am_wp_ok [] 2 h
theorem B_D_stampOf_4 {g : am_G} {t : Nat} {Q : am_R → Prop} {x1 : Int32} {s0 : Int32}
    (h : (s0 = (Int32.ofNat 0) → Q (.inl (some (.int (-1))), g, t)) ∧ (¬ s0 = (Int32.ofNat 0) → am_GQ (74, 0, [(0, .ref 24), (1, .int x1)], [], g, t) (am_af 19 12 [(0, .ref 8), (1, .int x1)] [] Q))) :
    am_GQ (19, 4, [(0, .ref 8), (1, .int x1)], [.int s0], g, t) Q := am_wp_ok [] 5 h
theorem B_D_stampOf_15 {g : am_G} {t : Nat} {Q : am_R → Prop} {x1 : Int32} {s0 : Int32}
    (h : Q (.inl (some (.int s0)), g, t)) :
    am_GQ (19, 15, [(0, .ref 8), (1, .int x1)], [.int s0], g, t) Q := am_wp_ok [] 2 h
theorem B_D_write_0 {g : am_G} {t : Nat} {Q : am_R → Prop} {x1 : Int64}
    (h : am_GQ (76, 0, [(0, .ref 9), (1, .long x1)], [], g, t) (am_af 20 5 [(0, .ref 8), (1, .long x1)] [] Q)) :
    am_GQ (20, 0, [(0, .ref 8), (1, .long x1)], [], g, t) Q := am_wp_ok [] 4 h
theorem B_D_write_8 {g : am_G} {t : Nat} {Q : am_R → Prop} {x1 : Int64} {s0 : Int32}
    (h : Q (.inl (some (.int s0)), g, t)) :
    am_GQ (20, 8, [(0, .ref 8), (1, .long x1)], [.int s0], g, t) Q := am_wp_ok [] 1 h
theorem B_Graph_addPatternSource_0 {g : am_G} {t : Nat} {Q : am_R → Prop} {x1 : Int32} {x2 : Int32}
    (h : (x2 = (-1) → Q (.inl none, g, t)) ∧ (¬ x2 = (-1) → am_chk (am_in x1 32) (am_GQ (16, 0, [(0, .int x2)], [], g, t) (am_af 21 13 [(0, .ref 26), (1, .int x1), (2, .int x2)] [.int (g 27 (Int32.toNatClampNeg x1)), .int x1, .ref 27] Q)))) :
    am_GQ (21, 0, [(0, .ref 26), (1, .int x1), (2, .int x2)], [], g, t) Q := am_wp_ok [] 10 h
theorem B_Graph_addPatternSource_16 {g : am_G} {t : Nat} {Q : am_R → Prop} {x1 : Int32} {x2 : Int32} {s0 : Int32} {s1 : Int32} {s2 : Int32}
    (h : am_chk (am_in s2 32) (am_GQ (16, 0, [(0, .int x1)], [], (am_w g 27 (Int32.toNatClampNeg s2) (s1 ||| s0)), t) (am_af 21 24 [(0, .ref 26), (1, .int x1), (2, .int x2)] [.int ((am_w g 27 (Int32.toNatClampNeg s2) (s1 ||| s0)) 26 4), .ref 26] Q))) :
    am_GQ (21, 16, [(0, .ref 26), (1, .int x1), (2, .int x2)], [.int s0, .int s1, .int s2, .ref 27], g, t) Q := am_wp_ok [] 7 h
theorem B_Graph_addPatternSource_27 {g : am_G} {t : Nat} {Q : am_R → Prop} {x1 : Int32} {x2 : Int32} {s0 : Int32} {s1 : Int32}
    (h : Q (.inl none, (am_w g 26 4 (s1 ||| s0)), t)) :
    am_GQ (21, 27, [(0, .ref 26), (1, .int x1), (2, .int x2)], [.int s0, .int s1, .ref 26], g, t) Q := am_wp_ok [] 3 h
theorem B_Graph_available_0 {g : am_G} {t : Nat} {Q : am_R → Prop}
    (h : am_GQ (72, 0, [(0, .ref 20)], [], g, t) (am_af 22 4 [(0, .ref 26)] [] Q)) :
    am_GQ (22, 0, [(0, .ref 26)], [], g, t) Q := am_wp_ok [10, 34, 42, 49, 75] 3 h
theorem B_Graph_available_7 {g : am_G} {t : Nat} {Q : am_R → Prop} {s0 : Int32}
    (h : am_GQ (22, 10, [(0, .ref 26), (1, .int s0), (2, .int (Int32.ofNat 0))], [], g, t) Q) :
    am_GQ (22, 7, [(0, .ref 26)], [.int s0], g, t) Q := am_wp_ok [10, 34, 42, 49, 75] 3 h
theorem B_Graph_available_10 {g : am_G} {t : Nat} {Q : am_R → Prop} {x1 : Int32} {x2 : Int32}
    (h : ((Int32.ofNat 32) ≤ x2 → am_GQ (22, 42, [(0, .ref 26), (1, .int x1), (2, .int (Int32.ofNat 0))], [], g, t) Q) ∧ (x2 < (Int32.ofNat 32) → am_GQ (74, 0, [(0, .ref 24), (1, .int x2)], [], g, t) (am_af 22 21 [(0, .ref 26), (1, .int x1), (2, .int x2)] [] Q))) :
    am_GQ (22, 10, [(0, .ref 26), (1, .int x1), (2, .int x2)], [], g, t) Q := am_wp_ok [10, 34, 42, 49, 75] 7 h
theorem B_Graph_available_42 {g : am_G} {t : Nat} {Q : am_R → Prop} {x1 : Int32} {x2 : Int32}
    (h : ((Int32.ofNat 4) ≤ x2 → Q (.inl (some (.int x1)), g, t)) ∧ (x2 < (Int32.ofNat 4) → am_GQ (22, 49, [(0, .ref 26), (1, .int x1), (2, .int x2), (3, .int (Int32.ofNat 0))], [], g, t) Q)) :
    am_GQ (22, 42, [(0, .ref 26), (1, .int x1), (2, .int x2)], [], g, t) Q := am_wp_ok [10, 34, 42, 49, 75] 5 h
theorem B_Graph_available_24 {g : am_G} {t : Nat} {Q : am_R → Prop} {x1 : Int32} {x2 : Int32} {s0 : Int32}
    (h : (s0 = (Int32.ofNat 0) → am_GQ (22, 34, [(0, .ref 26), (1, .int x1), (2, .int x2)], [], g, t) Q) ∧ (¬ s0 = (Int32.ofNat 0) → am_GQ (16, 0, [(0, .int x2)], [], g, t) (am_af 22 29 [(0, .ref 26), (1, .int x1), (2, .int x2)] [.int x1] Q))) :
    am_GQ (22, 24, [(0, .ref 26), (1, .int x1), (2, .int x2)], [.int s0], g, t) Q := am_wp_ok [10, 34, 42, 49, 75] 4 h
theorem B_Graph_available_49 {g : am_G} {t : Nat} {Q : am_R → Prop} {x1 : Int32} {x2 : Int32} {x3 : Int32}
    (h : ((Int32.ofNat 32) ≤ x3 → am_GQ (22, 42, [(0, .ref 26), (1, .int x1), (2, .int (x2 + (Int32.ofNat 1)))], [], g, t) Q) ∧ (x3 < (Int32.ofNat 32) → am_GQ (70, 0, [(0, .ref 20), (1, .int x3), (2, .int x1)], [], g, t) (am_af 22 61 [(0, .ref 26), (1, .int x1), (2, .int x2), (3, .int x3)] [] Q))) :
    am_GQ (22, 49, [(0, .ref 26), (1, .int x1), (2, .int x2), (3, .int x3)], [], g, t) Q := am_wp_ok [10, 34, 42, 49, 75] 8 h
theorem B_Graph_available_34 {g : am_G} {t : Nat} {Q : am_R → Prop} {x1 : Int32} {x2 : Int32}
    (h : am_GQ (22, 10, [(0, .ref 26), (1, .int x1), (2, .int (x2 + (Int32.ofNat 1)))], [], g, t) Q) :
    am_GQ (22, 34, [(0, .ref 26), (1, .int x1), (2, .int x2)], [], g, t) Q := am_wp_ok [10, 34, 42, 49, 75] 2 h
theorem B_Graph_available_32 {g : am_G} {t : Nat} {Q : am_R → Prop} {x1 : Int32} {x2 : Int32} {s0 : Int32} {s1 : Int32}
    (h : am_GQ (22, 34, [(0, .ref 26), (1, .int (s1 ||| s0)), (2, .int x2)], [], g, t) Q) :
    am_GQ (22, 32, [(0, .ref 26), (1, .int x1), (2, .int x2)], [.int s0, .int s1], g, t) Q := am_wp_ok [10, 34, 42, 49, 75] 2 h
theorem B_Graph_available_64 {g : am_G} {t : Nat} {Q : am_R → Prop} {x1 : Int32} {x2 : Int32} {x3 : Int32} {s0 : Int32}
    (h : (s0 = (-1) → am_GQ (22, 75, [(0, .ref 26), (1, .int x1), (2, .int x2), (3, .int x3)], [], g, t) Q) ∧ (¬ s0 = (-1) → am_GQ (16, 0, [(0, .int x3)], [], g, t) (am_af 22 70 [(0, .ref 26), (1, .int x1), (2, .int x2), (3, .int x3)] [.int x1] Q))) :
    am_GQ (22, 64, [(0, .ref 26), (1, .int x1), (2, .int x2), (3, .int x3)], [.int s0], g, t) Q := am_wp_ok [10, 34, 42, 49, 75] 5 h
theorem B_Graph_available_75 {g : am_G} {t : Nat} {Q : am_R → Prop} {x1 : Int32} {x2 : Int32} {x3 : Int32}
    (h : am_GQ (22, 49, [(0, .ref 26), (1, .int x1), (2, .int x2), (3, .int (x3 + (Int32.ofNat 1)))], [], g, t) Q) :
    am_GQ (22, 75, [(0, .ref 26), (1, .int x1), (2, .int x2), (3, .int x3)], [], g, t) Q := am_wp_ok [10, 34, 42, 49, 75] 2 h
theorem B_Graph_available_73 {g : am_G} {t : Nat} {Q : am_R → Prop} {x1 : Int32} {x2 : Int32} {x3 : Int32} {s0 : Int32} {s1 : Int32}
    (h : am_GQ (22, 75, [(0, .ref 26), (1, .int (s1 ||| s0)), (2, .int x2), (3, .int x3)], [], g, t) Q) :
    am_GQ (22, 73, [(0, .ref 26), (1, .int x1), (2, .int x2), (3, .int x3)], [.int s0, .int s1], g, t) Q := am_wp_ok [10, 34, 42, 49, 75] 2 h
theorem B_Graph_build_0 {g : am_G} {t : Nat} {Q : am_R → Prop}
    (h : am_GQ (22, 0, [(0, .ref 26)], [], g, t) (am_af 23 2 [(0, .ref 26)] [.ref 26] Q)) :
    am_GQ (23, 0, [(0, .ref 26)], [], g, t) Q := am_wp_ok [] 3 h
theorem B_Graph_build_5 {g : am_G} {t : Nat} {Q : am_R → Prop} {s0 : Int32}
    (h : am_GQ (25, 0, [(0, .ref 26), (1, .int s0)], [], g, t) (am_af 23 5 [(0, .ref 26)] [] Q)) :
    am_GQ (23, 5, [(0, .ref 26)], [.int s0, .ref 26], g, t) Q := am_wp_ok [] 1 h
theorem B_Graph_build_8 {g : am_G} {t : Nat} {Q : am_R → Prop}
    (h : am_GQ (24, 0, [(0, .ref 26)], [], g, t) (am_af 23 9 [(0, .ref 26)] [] Q)) :
    am_GQ (23, 8, [(0, .ref 26)], [], g, t) Q := am_wp_ok [] 2 h
theorem B_Graph_build_12 {g : am_G} {t : Nat} {Q : am_R → Prop}
    (h : Q (.inl none, g, t)) :
    am_GQ (23, 12, [(0, .ref 26)], [], g, t) Q := am_wp_ok [] 1 h
theorem B_Graph_findFoundations_0 {g : am_G} {t : Nat} {Q : am_R → Prop}
    (h : am_GQ (24, 2, [(0, .ref 26), (1, .int (Int32.ofNat 0))], [], g, t) Q) :
    am_GQ (24, 0, [(0, .ref 26)], [], g, t) Q := am_wp_ok [2, 28, 36, 70] 2 h
theorem B_Graph_findFoundations_2 {g : am_G} {t : Nat} {Q : am_R → Prop} {x1 : Int32}
    (h : ((Int32.ofNat 32) ≤ x1 → am_GQ (24, 28, [(0, .ref 26), (1, .int (Int32.ofNat 0))], [], g, t) Q) ∧ (x1 < (Int32.ofNat 32) → am_chk (am_in x1 32) (am_chk (am_in x1 32) (am_GQ (24, 2, [(0, .ref 26), (1, .int (x1 + (Int32.ofNat 1)))], [], (am_w g 28 (Int32.toNatClampNeg x1) (g 27 (Int32.toNatClampNeg x1))), t) Q)))) :
    am_GQ (24, 2, [(0, .ref 26), (1, .int x1)], [], g, t) Q := am_wp_ok [2, 28, 36, 70] 13 h
theorem B_Graph_findFoundations_28 {g : am_G} {t : Nat} {Q : am_R → Prop} {x1 : Int32}
    (h : ((Int32.ofNat 32) ≤ x1 → Q (.inl none, g, t)) ∧ (x1 < (Int32.ofNat 32) → am_GQ (24, 36, [(0, .ref 26), (1, .int x1), (2, .int (Int32.ofNat 0))], [], g, t) Q)) :
    am_GQ (24, 28, [(0, .ref 26), (1, .int x1)], [], g, t) Q := am_wp_ok [2, 28, 36, 70] 5 h
theorem B_Graph_findFoundations_36 {g : am_G} {t : Nat} {Q : am_R → Prop} {x1 : Int32} {x2 : Int32}
    (h : ((Int32.ofNat 32) ≤ x2 → am_GQ (24, 28, [(0, .ref 26), (1, .int (x1 + (Int32.ofNat 1)))], [], g, t) Q) ∧ (x2 < (Int32.ofNat 32) → am_chk (am_in x2 32) (am_GQ (3, 0, [(0, .int (g 28 (Int32.toNatClampNeg x2))), (1, .int x1)], [], g, t) (am_af 24 49 [(0, .ref 26), (1, .int x1), (2, .int x2)] [] Q)))) :
    am_GQ (24, 36, [(0, .ref 26), (1, .int x1), (2, .int x2)], [], g, t) Q := am_wp_ok [2, 28, 36, 70] 9 h
theorem B_Graph_findFoundations_52 {g : am_G} {t : Nat} {Q : am_R → Prop} {x1 : Int32} {x2 : Int32} {s0 : Int32}
    (h : (s0 = (Int32.ofNat 0) → am_GQ (24, 70, [(0, .ref 26), (1, .int x1), (2, .int x2)], [], g, t) Q) ∧ (¬ s0 = (Int32.ofNat 0) → am_chk (am_in x2 32) (am_chk (am_in x1 32) (am_chk (am_in x2 32) (am_GQ (24, 70, [(0, .ref 26), (1, .int x1), (2, .int x2)], [], (am_w g 28 (Int32.toNatClampNeg x2) ((g 28 (Int32.toNatClampNeg x2)) ||| (g 28 (Int32.toNatClampNeg x1)))), t) Q))))) :
    am_GQ (24, 52, [(0, .ref 26), (1, .int x1), (2, .int x2)], [.int s0], g, t) Q := am_wp_ok [2, 28, 36, 70] 12 h
theorem B_Graph_findFoundations_70 {g : am_G} {t : Nat} {Q : am_R → Prop} {x1 : Int32} {x2 : Int32}
    (h : am_GQ (24, 36, [(0, .ref 26), (1, .int x1), (2, .int (x2 + (Int32.ofNat 1)))], [], g, t) Q) :
    am_GQ (24, 70, [(0, .ref 26), (1, .int x1), (2, .int x2)], [], g, t) Q := am_wp_ok [2, 28, 36, 70] 2 h
theorem B_Graph_findSources_0 {g : am_G} {t : Nat} {Q : am_R → Prop} {x1 : Int32}
    (h : am_GQ (72, 0, [(0, .ref 20)], [], g, t) (am_af 25 5 [(0, .ref 26), (1, .int x1)] [.ref 26] Q)) :
    am_GQ (25, 0, [(0, .ref 26), (1, .int x1)], [], g, t) Q := am_wp_ok [13, 61] 4 h
theorem B_Graph_findSources_8 {g : am_G} {t : Nat} {Q : am_R → Prop} {x1 : Int32} {s0 : Int32}
    (h : am_GQ (25, 13, [(0, .ref 26), (1, .int x1), (2, .int (Int32.ofNat 0))], [], (am_w g 26 4 s0), t) Q) :
    am_GQ (25, 8, [(0, .ref 26), (1, .int x1)], [.int s0, .ref 26], g, t) Q := am_wp_ok [13, 61] 3 h
theorem B_Graph_findSources_13 {g : am_G} {t : Nat} {Q : am_R → Prop} {x1 : Int32} {x2 : Int32}
    (h : ((Int32.ofNat 32) ≤ x2 → Q (.inl none, g, t)) ∧ (x2 < (Int32.ofNat 32) → am_GQ (71, 0, [(0, .ref 20), (1, .int x2)], [], g, t) (am_af 25 29 [(0, .ref 26), (1, .int x1), (2, .int x2)] [.int x2, .ref 27] Q))) :
    am_GQ (25, 13, [(0, .ref 26), (1, .int x1), (2, .int x2)], [], g, t) Q := am_wp_ok [13, 61] 10 h
theorem B_Graph_findSources_32 {g : am_G} {t : Nat} {Q : am_R → Prop} {x1 : Int32} {x2 : Int32} {s0 : Int32} {s1 : Int32}
    (h : am_chk (am_in s1 32) (am_GQ (72, 0, [(0, .ref 20)], [], (am_w g 27 (Int32.toNatClampNeg s1) s0), t) (am_af 25 37 [(0, .ref 26), (1, .int x1), (2, .int x2)] [] Q))) :
    am_GQ (25, 32, [(0, .ref 26), (1, .int x1), (2, .int x2)], [.int s0, .int s1, .ref 27], g, t) Q := am_wp_ok [13, 61] 4 h
theorem B_Graph_findSources_40 {g : am_G} {t : Nat} {Q : am_R → Prop} {x1 : Int32} {x2 : Int32} {s0 : Int32}
    (h : am_GQ (3, 0, [(0, .int s0), (1, .int x2)], [], g, t) (am_af 25 41 [(0, .ref 26), (1, .int x1), (2, .int x2)] [] Q)) :
    am_GQ (25, 40, [(0, .ref 26), (1, .int x1), (2, .int x2)], [.int s0], g, t) Q := am_wp_ok [13, 61] 2 h
theorem B_Graph_findSources_44 {g : am_G} {t : Nat} {Q : am_R → Prop} {x1 : Int32} {x2 : Int32} {s0 : Int32}
    (h : (¬ s0 = (Int32.ofNat 0) → am_GQ (25, 61, [(0, .ref 26), (1, .int x1), (2, .int x2)], [], g, t) Q) ∧ (s0 = (Int32.ofNat 0) → am_GQ (70, 0, [(0, .ref 20), (1, .int x2), (2, .int x1)], [], g, t) (am_af 25 55 [(0, .ref 26), (1, .int x1), (2, .int x2)] [.int x2, .ref 26] Q))) :
    am_GQ (25, 44, [(0, .ref 26), (1, .int x1), (2, .int x2)], [.int s0], g, t) Q := am_wp_ok [13, 61] 8 h
theorem B_Graph_findSources_61 {g : am_G} {t : Nat} {Q : am_R → Prop} {x1 : Int32} {x2 : Int32}
    (h : am_GQ (25, 13, [(0, .ref 26), (1, .int x1), (2, .int (x2 + (Int32.ofNat 1)))], [], g, t) Q) :
    am_GQ (25, 61, [(0, .ref 26), (1, .int x1), (2, .int x2)], [], g, t) Q := am_wp_ok [13, 61] 2 h
theorem B_Graph_findSources_58 {g : am_G} {t : Nat} {Q : am_R → Prop} {x1 : Int32} {x2 : Int32} {s0 : Int32} {s1 : Int32}
    (h : am_GQ (21, 0, [(0, .ref 26), (1, .int s1), (2, .int s0)], [], g, t) (am_af 25 58 [(0, .ref 26), (1, .int x1), (2, .int x2)] [] Q)) :
    am_GQ (25, 58, [(0, .ref 26), (1, .int x1), (2, .int x2)], [.int s0, .int s1, .ref 26], g, t) Q := am_wp_ok [13, 61] 1 h
theorem B_Graph_firstReady_0 {g : am_G} {t : Nat} {Q : am_R → Prop} {x1 : Int32}
    (h : am_GQ (26, 2, [(0, .ref 26), (1, .int x1), (2, .int (Int32.ofNat 0))], [], g, t) Q) :
    am_GQ (26, 0, [(0, .ref 26), (1, .int x1)], [], g, t) Q := am_wp_ok [2, 29] 2 h
theorem B_Graph_firstReady_2 {g : am_G} {t : Nat} {Q : am_R → Prop} {x1 : Int32} {x2 : Int32}
    (h : ((Int32.ofNat 32) ≤ x2 → Q (.inl (some (.int (Int32.ofNat 0))), g, t)) ∧ (x2 < (Int32.ofNat 32) → am_GQ (3, 0, [(0, .int x1), (1, .int x2)], [], g, t) (am_af 26 10 [(0, .ref 26), (1, .int x1), (2, .int x2)] [] Q))) :
    am_GQ (26, 2, [(0, .ref 26), (1, .int x1), (2, .int x2)], [], g, t) Q := am_wp_ok [2, 29] 6 h
theorem B_Graph_firstReady_13 {g : am_G} {t : Nat} {Q : am_R → Prop} {x1 : Int32} {x2 : Int32} {s0 : Int32}
    (h : (s0 = (Int32.ofNat 0) → am_GQ (26, 29, [(0, .ref 26), (1, .int x1), (2, .int x2)], [], g, t) Q) ∧ (¬ s0 = (Int32.ofNat 0) → am_chk (am_in x2 32) ((¬ ((g 28 (Int32.toNatClampNeg x2)) &&& x1) = (Int32.ofNat 0) → am_GQ (26, 29, [(0, .ref 26), (1, .int x1), (2, .int x2)], [], g, t) Q) ∧ (((g 28 (Int32.toNatClampNeg x2)) &&& x1) = (Int32.ofNat 0) → Q (.inl (some (.int x2)), g, t))))) :
    am_GQ (26, 13, [(0, .ref 26), (1, .int x1), (2, .int x2)], [.int s0], g, t) Q := am_wp_ok [2, 29] 10 h
theorem B_Graph_firstReady_29 {g : am_G} {t : Nat} {Q : am_R → Prop} {x1 : Int32} {x2 : Int32}
    (h : am_GQ (26, 2, [(0, .ref 26), (1, .int x1), (2, .int (x2 + (Int32.ofNat 1)))], [], g, t) Q) :
    am_GQ (26, 29, [(0, .ref 26), (1, .int x1), (2, .int x2)], [], g, t) Q := am_wp_ok [2, 29] 2 h
theorem B_Graph_hasLoop_0 {g : am_G} {t : Nat} {Q : am_R → Prop} {x1 : Int32}
    (h : am_GQ (27, 2, [(0, .ref 26), (1, .int x1), (2, .int (Int32.ofNat 0))], [], g, t) Q) :
    am_GQ (27, 0, [(0, .ref 26), (1, .int x1)], [], g, t) Q := am_wp_ok [2, 31] 2 h
theorem B_Graph_hasLoop_2 {g : am_G} {t : Nat} {Q : am_R → Prop} {x1 : Int32} {x2 : Int32}
    (h : ((Int32.ofNat 32) ≤ x2 → am_chk (am_isb (Int32.ofNat 0)) (Q (.inl (some (.int (Int32.ofNat 0))), g, t))) ∧ (x2 < (Int32.ofNat 32) → am_GQ (3, 0, [(0, .int x1), (1, .int x2)], [], g, t) (am_af 27 10 [(0, .ref 26), (1, .int x1), (2, .int x2)] [] Q))) :
    am_GQ (27, 2, [(0, .ref 26), (1, .int x1), (2, .int x2)], [], g, t) Q := am_wp_ok [2, 31] 6 h
theorem B_Graph_hasLoop_13 {g : am_G} {t : Nat} {Q : am_R → Prop} {x1 : Int32} {x2 : Int32} {s0 : Int32}
    (h : (s0 = (Int32.ofNat 0) → am_GQ (27, 31, [(0, .ref 26), (1, .int x1), (2, .int x2)], [], g, t) Q) ∧ (¬ s0 = (Int32.ofNat 0) → am_chk (am_in x2 32) (am_GQ (3, 0, [(0, .int (g 28 (Int32.toNatClampNeg x2))), (1, .int x2)], [], g, t) (am_af 27 23 [(0, .ref 26), (1, .int x1), (2, .int x2)] [] Q)))) :
    am_GQ (27, 13, [(0, .ref 26), (1, .int x1), (2, .int x2)], [.int s0], g, t) Q := am_wp_ok [2, 31] 7 h
theorem B_Graph_hasLoop_31 {g : am_G} {t : Nat} {Q : am_R → Prop} {x1 : Int32} {x2 : Int32}
    (h : am_GQ (27, 2, [(0, .ref 26), (1, .int x1), (2, .int (x2 + (Int32.ofNat 1)))], [], g, t) Q) :
    am_GQ (27, 31, [(0, .ref 26), (1, .int x1), (2, .int x2)], [], g, t) Q := am_wp_ok [2, 31] 2 h
theorem B_Graph_hasLoop_26 {g : am_G} {t : Nat} {Q : am_R → Prop} {x1 : Int32} {x2 : Int32} {s0 : Int32}
    (h : (s0 = (Int32.ofNat 0) → am_GQ (27, 31, [(0, .ref 26), (1, .int x1), (2, .int x2)], [], g, t) Q) ∧ (¬ s0 = (Int32.ofNat 0) → am_chk (am_isb (Int32.ofNat 1)) (Q (.inl (some (.int (Int32.ofNat 1))), g, t)))) :
    am_GQ (27, 26, [(0, .ref 26), (1, .int x1), (2, .int x2)], [.int s0], g, t) Q := am_wp_ok [2, 31] 3 h
theorem B_Graph_hasNewerSource_0 {g : am_G} {t : Nat} {Q : am_R → Prop} {x1 : Int32}
    (h : am_GQ (28, 2, [(0, .ref 26), (1, .int x1), (2, .int (Int32.ofNat 0))], [], g, t) Q) :
    am_GQ (28, 0, [(0, .ref 26), (1, .int x1)], [], g, t) Q := am_wp_ok [2, 42] 2 h
theorem B_Graph_hasNewerSource_2 {g : am_G} {t : Nat} {Q : am_R → Prop} {x1 : Int32} {x2 : Int32}
    (h : ((Int32.ofNat 32) ≤ x2 → am_chk (am_isb (Int32.ofNat 0)) (Q (.inl (some (.int (Int32.ofNat 0))), g, t))) ∧ (x2 < (Int32.ofNat 32) → am_chk (am_in x1 32) (am_GQ (3, 0, [(0, .int (g 27 (Int32.toNatClampNeg x1))), (1, .int x2)], [], g, t) (am_af 28 15 [(0, .ref 26), (1, .int x1), (2, .int x2)] [] Q)))) :
    am_GQ (28, 2, [(0, .ref 26), (1, .int x1), (2, .int x2)], [], g, t) Q := am_wp_ok [2, 42] 9 h
theorem B_Graph_hasNewerSource_18 {g : am_G} {t : Nat} {Q : am_R → Prop} {x1 : Int32} {x2 : Int32} {s0 : Int32}
    (h : (s0 = (Int32.ofNat 0) → am_GQ (28, 42, [(0, .ref 26), (1, .int x1), (2, .int x2)], [], g, t) Q) ∧ (¬ s0 = (Int32.ofNat 0) → am_GQ (74, 0, [(0, .ref 24), (1, .int x2)], [], g, t) (am_af 28 26 [(0, .ref 26), (1, .int x1), (2, .int x2)] [] Q))) :
    am_GQ (28, 18, [(0, .ref 26), (1, .int x1), (2, .int x2)], [.int s0], g, t) Q := am_wp_ok [2, 42] 5 h
theorem B_Graph_hasNewerSource_42 {g : am_G} {t : Nat} {Q : am_R → Prop} {x1 : Int32} {x2 : Int32}
    (h : am_GQ (28, 2, [(0, .ref 26), (1, .int x1), (2, .int (x2 + (Int32.ofNat 1)))], [], g, t) Q) :
    am_GQ (28, 42, [(0, .ref 26), (1, .int x1), (2, .int x2)], [], g, t) Q := am_wp_ok [2, 42] 2 h
theorem B_Graph_hasNewerSource_29 {g : am_G} {t : Nat} {Q : am_R → Prop} {x1 : Int32} {x2 : Int32} {s0 : Int32}
    (h : am_GQ (74, 0, [(0, .ref 24), (1, .int x1)], [], g, t) (am_af 28 34 [(0, .ref 26), (1, .int x1), (2, .int x2)] [.int s0] Q)) :
    am_GQ (28, 29, [(0, .ref 26), (1, .int x1), (2, .int x2)], [.int s0], g, t) Q := am_wp_ok [2, 42] 4 h
theorem B_Graph_hasNewerSource_37 {g : am_G} {t : Nat} {Q : am_R → Prop} {x1 : Int32} {x2 : Int32} {s0 : Int32} {s1 : Int32}
    (h : (s1 ≤ s0 → am_GQ (28, 42, [(0, .ref 26), (1, .int x1), (2, .int x2)], [], g, t) Q) ∧ (s0 < s1 → am_chk (am_isb (Int32.ofNat 1)) (Q (.inl (some (.int (Int32.ofNat 1))), g, t)))) :
    am_GQ (28, 37, [(0, .ref 26), (1, .int x1), (2, .int x2)], [.int s0, .int s1], g, t) Q := am_wp_ok [2, 42] 3 h
theorem B_Graph_hasUnmakeable_0 {g : am_G} {t : Nat} {Q : am_R → Prop} {x1 : Int32}
    (h : am_GQ (29, 2, [(0, .ref 26), (1, .int x1), (2, .int (Int32.ofNat 0))], [], g, t) Q) :
    am_GQ (29, 0, [(0, .ref 26), (1, .int x1)], [], g, t) Q := am_wp_ok [2, 36] 2 h
theorem B_Graph_hasUnmakeable_2 {g : am_G} {t : Nat} {Q : am_R → Prop} {x1 : Int32} {x2 : Int32}
    (h : ((Int32.ofNat 32) ≤ x2 → am_chk (am_isb (Int32.ofNat 0)) (Q (.inl (some (.int (Int32.ofNat 0))), g, t))) ∧ (x2 < (Int32.ofNat 32) → am_GQ (3, 0, [(0, .int (x1 &&& ((g 26 4) ^^^ (-1)))), (1, .int x2)], [], g, t) (am_af 29 17 [(0, .ref 26), (1, .int x1), (2, .int x2)] [] Q))) :
    am_GQ (29, 2, [(0, .ref 26), (1, .int x1), (2, .int x2)], [], g, t) Q := am_wp_ok [2, 36] 11 h
theorem B_Graph_hasUnmakeable_20 {g : am_G} {t : Nat} {Q : am_R → Prop} {x1 : Int32} {x2 : Int32} {s0 : Int32}
    (h : (s0 = (Int32.ofNat 0) → am_GQ (29, 36, [(0, .ref 26), (1, .int x1), (2, .int x2)], [], g, t) Q) ∧ (¬ s0 = (Int32.ofNat 0) → am_GQ (74, 0, [(0, .ref 24), (1, .int x2)], [], g, t) (am_af 29 28 [(0, .ref 26), (1, .int x1), (2, .int x2)] [] Q))) :
    am_GQ (29, 20, [(0, .ref 26), (1, .int x1), (2, .int x2)], [.int s0], g, t) Q := am_wp_ok [2, 36] 5 h
theorem B_Graph_hasUnmakeable_36 {g : am_G} {t : Nat} {Q : am_R → Prop} {x1 : Int32} {x2 : Int32}
    (h : am_GQ (29, 2, [(0, .ref 26), (1, .int x1), (2, .int (x2 + (Int32.ofNat 1)))], [], g, t) Q) :
    am_GQ (29, 36, [(0, .ref 26), (1, .int x1), (2, .int x2)], [], g, t) Q := am_wp_ok [2, 36] 2 h
theorem B_Graph_hasUnmakeable_31 {g : am_G} {t : Nat} {Q : am_R → Prop} {x1 : Int32} {x2 : Int32} {s0 : Int32}
    (h : (¬ s0 = (Int32.ofNat 0) → am_GQ (29, 36, [(0, .ref 26), (1, .int x1), (2, .int x2)], [], g, t) Q) ∧ (s0 = (Int32.ofNat 0) → am_chk (am_isb (Int32.ofNat 1)) (Q (.inl (some (.int (Int32.ofNat 1))), g, t)))) :
    am_GQ (29, 31, [(0, .ref 26), (1, .int x1), (2, .int x2)], [.int s0], g, t) Q := am_wp_ok [2, 36] 3 h
theorem B_Graph_outOfDate_0 {g : am_G} {t : Nat} {Q : am_R → Prop} {x1 : Int32}
    (h : am_GQ (30, 7, [(0, .ref 26), (1, .int x1), (2, .int (Int32.ofNat 0)), (3, .int (Int32.ofNat 1)), (4, .int (Int32.ofNat 0))], [], g, t) Q) :
    am_GQ (30, 0, [(0, .ref 26), (1, .int x1)], [], g, t) Q := am_wp_ok [7, 24, 62, 79] 6 h
theorem B_Graph_outOfDate_7 {g : am_G} {t : Nat} {Q : am_R → Prop} {x1 : Int32} {x2 : Int32} {x3 : Int32} {x4 : Int32}
    (h : ((Int32.ofNat 32) ≤ x4 → Q (.inl (some (.int x2)), g, t)) ∧ (x4 < (Int32.ofNat 32) → (x3 = (Int32.ofNat 0) → Q (.inl (some (.int x2)), g, t)) ∧ (¬ x3 = (Int32.ofNat 0) → am_GQ (30, 24, [(0, .ref 26), (1, .int x1), (2, .int x2), (3, .int x3), (4, .int x4), (5, .int x2), (6, .int (Int32.ofNat 0))], [], g, t) Q))) :
    am_GQ (30, 7, [(0, .ref 26), (1, .int x1), (2, .int x2), (3, .int x3), (4, .int x4)], [], g, t) Q := am_wp_ok [7, 24, 62, 79] 9 h
theorem B_Graph_outOfDate_24 {g : am_G} {t : Nat} {Q : am_R → Prop} {x1 : Int32} {x2 : Int32} {x3 : Int32} {x4 : Int32} {x5 : Int32} {x6 : Int32}
    (h : ((Int32.ofNat 32) ≤ x6 → (x2 = x5 → am_GQ (30, 79, [(0, .ref 26), (1, .int x1), (2, .int x2), (3, .int x3), (4, .int x4)], [.int (Int32.ofNat 0)], g, t) Q) ∧ (¬ x2 = x5 → am_GQ (30, 79, [(0, .ref 26), (1, .int x1), (2, .int x2), (3, .int x3), (4, .int x4)], [.int (Int32.ofNat 1)], g, t) Q)) ∧ (x6 < (Int32.ofNat 32) → am_GQ (3, 0, [(0, .int (x1 &&& (x2 ^^^ (-1)))), (1, .int x6)], [], g, t) (am_af 30 38 [(0, .ref 26), (1, .int x1), (2, .int x2), (3, .int x3), (4, .int x4), (5, .int x5), (6, .int x6)] [] Q))) :
    am_GQ (30, 24, [(0, .ref 26), (1, .int x1), (2, .int x2), (3, .int x3), (4, .int x4), (5, .int x5), (6, .int x6)], [], g, t) Q := am_wp_ok [7, 24, 62, 79] 10 h
theorem B_Graph_outOfDate_79 {g : am_G} {t : Nat} {Q : am_R → Prop} {x1 : Int32} {x2 : Int32} {x3 : Int32} {x4 : Int32} {s0 : Int32}
    (h : am_GQ (30, 7, [(0, .ref 26), (1, .int x1), (2, .int x2), (3, .int s0), (4, .int (x4 + (Int32.ofNat 1)))], [], g, t) Q) :
    am_GQ (30, 79, [(0, .ref 26), (1, .int x1), (2, .int x2), (3, .int x3), (4, .int x4)], [.int s0], g, t) Q := am_wp_ok [7, 24, 62, 79] 3 h
theorem B_Graph_outOfDate_41 {g : am_G} {t : Nat} {Q : am_R → Prop} {x1 : Int32} {x2 : Int32} {x3 : Int32} {x4 : Int32} {x5 : Int32} {x6 : Int32} {s0 : Int32}
    (h : (s0 = (Int32.ofNat 0) → am_GQ (30, 62, [(0, .ref 26), (1, .int x1), (2, .int x2), (3, .int x3), (4, .int x4), (5, .int x5), (6, .int x6)], [], g, t) Q) ∧ (¬ s0 = (Int32.ofNat 0) → am_GQ (31, 0, [(0, .ref 26), (1, .int x6), (2, .int x2)], [], g, t) (am_af 30 48 [(0, .ref 26), (1, .int x1), (2, .int x2), (3, .int x3), (4, .int x4), (5, .int x5), (6, .int x6)] [] Q))) :
    am_GQ (30, 41, [(0, .ref 26), (1, .int x1), (2, .int x2), (3, .int x3), (4, .int x4), (5, .int x5), (6, .int x6)], [.int s0], g, t) Q := am_wp_ok [7, 24, 62, 79] 5 h
theorem B_Graph_outOfDate_62 {g : am_G} {t : Nat} {Q : am_R → Prop} {x1 : Int32} {x2 : Int32} {x3 : Int32} {x4 : Int32} {x5 : Int32} {x6 : Int32}
    (h : am_GQ (30, 24, [(0, .ref 26), (1, .int x1), (2, .int x2), (3, .int x3), (4, .int x4), (5, .int x5), (6, .int (x6 + (Int32.ofNat 1)))], [], g, t) Q) :
    am_GQ (30, 62, [(0, .ref 26), (1, .int x1), (2, .int x2), (3, .int x3), (4, .int x4), (5, .int x5), (6, .int x6)], [], g, t) Q := am_wp_ok [7, 24, 62, 79] 2 h
theorem B_Graph_outOfDate_51 {g : am_G} {t : Nat} {Q : am_R → Prop} {x1 : Int32} {x2 : Int32} {x3 : Int32} {x4 : Int32} {x5 : Int32} {x6 : Int32} {s0 : Int32}
    (h : (s0 = (Int32.ofNat 0) → am_GQ (30, 62, [(0, .ref 26), (1, .int x1), (2, .int x2), (3, .int x3), (4, .int x4), (5, .int x5), (6, .int x6)], [], g, t) Q) ∧ (¬ s0 = (Int32.ofNat 0) → am_GQ (16, 0, [(0, .int x6)], [], g, t) (am_af 30 57 [(0, .ref 26), (1, .int x1), (2, .int x2), (3, .int x3), (4, .int x4), (5, .int x5), (6, .int x6)] [.int x2] Q))) :
    am_GQ (30, 51, [(0, .ref 26), (1, .int x1), (2, .int x2), (3, .int x3), (4, .int x4), (5, .int x5), (6, .int x6)], [.int s0], g, t) Q := am_wp_ok [7, 24, 62, 79] 4 h
theorem B_Graph_outOfDate_60 {g : am_G} {t : Nat} {Q : am_R → Prop} {x1 : Int32} {x2 : Int32} {x3 : Int32} {x4 : Int32} {x5 : Int32} {x6 : Int32} {s0 : Int32} {s1 : Int32}
    (h : am_GQ (30, 62, [(0, .ref 26), (1, .int x1), (2, .int (s1 ||| s0)), (3, .int x3), (4, .int x4), (5, .int x5), (6, .int x6)], [], g, t) Q) :
    am_GQ (30, 60, [(0, .ref 26), (1, .int x1), (2, .int x2), (3, .int x3), (4, .int x4), (5, .int x5), (6, .int x6)], [.int s0, .int s1], g, t) Q := am_wp_ok [7, 24, 62, 79] 2 h
theorem B_Graph_reasonOf_0 {g : am_G} {t : Nat} {Q : am_R → Prop} {x1 : Int32} {x2 : Int32}
    (h : am_GQ (3, 0, [(0, .int (g 26 4)), (1, .int x1)], [], g, t) (am_af 31 5 [(0, .ref 26), (1, .int x1), (2, .int x2)] [] Q)) :
    am_GQ (31, 0, [(0, .ref 26), (1, .int x1), (2, .int x2)], [], g, t) Q := am_wp_ok [] 4 h
theorem B_Graph_reasonOf_8 {g : am_G} {t : Nat} {Q : am_R → Prop} {x1 : Int32} {x2 : Int32} {s0 : Int32}
    (h : (¬ s0 = (Int32.ofNat 0) → am_GQ (74, 0, [(0, .ref 24), (1, .int x1)], [], g, t) (am_af 31 18 [(0, .ref 26), (1, .int x1), (2, .int x2)] [] Q)) ∧ (s0 = (Int32.ofNat 0) → Q (.inl (some (.int (Int32.ofNat 0))), g, t))) :
    am_GQ (31, 8, [(0, .ref 26), (1, .int x1), (2, .int x2)], [.int s0], g, t) Q := am_wp_ok [] 5 h
theorem B_Graph_reasonOf_21 {g : am_G} {t : Nat} {Q : am_R → Prop} {x1 : Int32} {x2 : Int32} {s0 : Int32}
    (h : (¬ s0 = (Int32.ofNat 0) → am_chk (am_in x1 32) ((((g 27 (Int32.toNatClampNeg x1)) &&& x2) = (Int32.ofNat 0) → am_GQ (28, 0, [(0, .ref 26), (1, .int x1)], [], g, t) (am_af 31 41 [(0, .ref 26), (1, .int x1), (2, .int x2)] [] Q)) ∧ (¬ ((g 27 (Int32.toNatClampNeg x1)) &&& x2) = (Int32.ofNat 0) → Q (.inl (some (.int (Int32.ofNat 2))), g, t)))) ∧ (s0 = (Int32.ofNat 0) → Q (.inl (some (.int (Int32.ofNat 1))), g, t))) :
    am_GQ (31, 21, [(0, .ref 26), (1, .int x1), (2, .int x2)], [.int s0], g, t) Q := am_wp_ok [] 11 h
theorem B_Graph_reasonOf_44 {g : am_G} {t : Nat} {Q : am_R → Prop} {x1 : Int32} {x2 : Int32} {s0 : Int32}
    (h : (s0 = (Int32.ofNat 0) → Q (.inl (some (.int (Int32.ofNat 0))), g, t)) ∧ (¬ s0 = (Int32.ofNat 0) → Q (.inl (some (.int (Int32.ofNat 3))), g, t))) :
    am_GQ (31, 44, [(0, .ref 26), (1, .int x1), (2, .int x2)], [.int s0], g, t) Q := am_wp_ok [] 4 h
theorem B_Graph_withFoundation_0 {g : am_G} {t : Nat} {Q : am_R → Prop} {x1 : Int32}
    (h : am_chk (am_in x1 32) (am_GQ (16, 0, [(0, .int x1)], [], g, t) (am_af 32 7 [(0, .ref 26), (1, .int x1)] [.int (g 28 (Int32.toNatClampNeg x1))] Q))) :
    am_GQ (32, 0, [(0, .ref 26), (1, .int x1)], [], g, t) Q := am_wp_ok [] 6 h
theorem B_Graph_withFoundation_10 {g : am_G} {t : Nat} {Q : am_R → Prop} {x1 : Int32} {s0 : Int32} {s1 : Int32}
    (h : Q (.inl (some (.int (s1 ||| s0))), g, t)) :
    am_GQ (32, 10, [(0, .ref 26), (1, .int x1)], [.int s0, .int s1], g, t) Q := am_wp_ok [] 2 h
theorem B_Lines_add_0 {g : am_G} {t : Nat} {Q : am_R → Prop} {x1 : Int32} {x2 : Nat}
    (h : ((Int32.ofNat 240) ≤ (g 11 3) → Q (.inl none, g, t)) ∧ ((g 11 3) < (Int32.ofNat 240) → am_chk (am_in (g 11 3) 240) (am_chk (am_in ((am_w g 12 (Int32.toNatClampNeg (g 11 3)) x1) 11 3) 240 && Nat.blt x2 6) (Q (.inl none, (am_w (am_w (am_w g 12 (Int32.toNatClampNeg (g 11 3)) x1) 13 (Int32.toNatClampNeg ((am_w g 12 (Int32.toNatClampNeg (g 11 3)) x1) 11 3)) (Int32.ofNat x2 + Int32.ofNat 1)) 11 3 (((am_w (am_w g 12 (Int32.toNatClampNeg (g 11 3)) x1) 13 (Int32.toNatClampNeg ((am_w g 12 (Int32.toNatClampNeg (g 11 3)) x1) 11 3)) (Int32.ofNat x2 + Int32.ofNat 1)) 11 3) + (Int32.ofNat 1))), t))))) :
    am_GQ (33, 0, [(0, .ref 11), (1, .int x1), (2, .ref x2)], [], g, t) Q := am_wp_ok [] 23 h
theorem B_Lines_count_0 {g : am_G} {t : Nat} {Q : am_R → Prop}
    (h : Q (.inl (some (.int (g 11 3))), g, t)) :
    am_GQ (34, 0, [(0, .ref 11)], [], g, t) Q := am_wp_ok [] 3 h
theorem B_Lines_firstIllFormed_0 {g : am_G} {t : Nat} {Q : am_R → Prop}
    (h : am_GQ (35, 2, [(0, .ref 11), (1, .int (Int32.ofNat 0))], [], g, t) Q) :
    am_GQ (35, 0, [(0, .ref 11)], [], g, t) Q := am_wp_ok [2] 2 h
theorem B_Lines_firstIllFormed_2 {g : am_G} {t : Nat} {Q : am_R → Prop} {x1 : Int32}
    (h : ((g 11 3) ≤ x1 → am_GQ (37, 0, [(0, .ref 11), (1, .int ((g 11 3) - (Int32.ofNat 1))), (2, .ref 4)], [], g, t) (am_af 35 49 [(0, .ref 11), (1, .int x1)] [] Q)) ∧ (x1 < (g 11 3) → am_GQ (37, 0, [(0, .ref 11), (1, .int x1), (2, .ref 0)], [], g, t) (am_af 35 15 [(0, .ref 11), (1, .int x1)] [] Q))) :
    am_GQ (35, 2, [(0, .ref 11), (1, .int x1)], [], g, t) Q := am_wp_ok [2] 11 h
theorem B_Lines_firstIllFormed_52 {g : am_G} {t : Nat} {Q : am_R → Prop} {x1 : Int32} {s0 : Int32}
    (h : (s0 = (Int32.ofNat 0) → Q (.inl (some (.int (Int32.ofNat 0))), g, t)) ∧ (¬ s0 = (Int32.ofNat 0) → Q (.inl (some (.int (g 11 3))), g, t))) :
    am_GQ (35, 52, [(0, .ref 11), (1, .int x1)], [.int s0], g, t) Q := am_wp_ok [2] 5 h
theorem B_Lines_firstIllFormed_18 {g : am_G} {t : Nat} {Q : am_R → Prop} {x1 : Int32} {s0 : Int32}
    (h : (¬ s0 = (Int32.ofNat 0) → Q (.inl (some (.int (x1 + (Int32.ofNat 1)))), g, t)) ∧ (s0 = (Int32.ofNat 0) → am_GQ (42, 0, [(0, .ref 11), (1, .int x1)], [], g, t) (am_af 35 23 [(0, .ref 11), (1, .int x1)] [] Q))) :
    am_GQ (35, 18, [(0, .ref 11), (1, .int x1)], [.int s0], g, t) Q := am_wp_ok [2] 5 h
theorem B_Lines_firstIllFormed_26 {g : am_G} {t : Nat} {Q : am_R → Prop} {x1 : Int32} {s0 : Int32}
    (h : (¬ s0 = (Int32.ofNat 0) → am_GQ (35, 2, [(0, .ref 11), (1, .int (x1 + (Int32.ofNat 1)))], [], g, t) Q) ∧ (s0 = (Int32.ofNat 0) → Q (.inl (some (.int (x1 + (Int32.ofNat 1)))), g, t))) :
    am_GQ (35, 26, [(0, .ref 11), (1, .int x1)], [.int s0], g, t) Q := am_wp_ok [2] 5 h
theorem B_Lines_hasRecipe_0 {g : am_G} {t : Nat} {Q : am_R → Prop} {x1 : Int32}
    (h : am_GQ (37, 0, [(0, .ref 11), (1, .int (x1 + (Int32.ofNat 1))), (2, .ref 5)], [], g, t) (am_af 36 7 [(0, .ref 11), (1, .int x1)] [] Q)) :
    am_GQ (36, 0, [(0, .ref 11), (1, .int x1)], [], g, t) Q := am_wp_ok [] 6 h
theorem B_Lines_hasRecipe_10 {g : am_G} {t : Nat} {Q : am_R → Prop} {x1 : Int32} {s0 : Int32}
    (h : am_chk (am_isb s0) (Q (.inl (some (.int s0)), g, t))) :
    am_GQ (36, 10, [(0, .ref 11), (1, .int x1)], [.int s0], g, t) Q := am_wp_ok [] 1 h
theorem B_Lines_isKind_0 {g : am_G} {t : Nat} {Q : am_R → Prop} {x1 : Int32} {x2 : Nat}
    (h : (x1 < (Int32.ofNat 0) → am_chk (am_isb (Int32.ofNat 0)) (Q (.inl (some (.int (Int32.ofNat 0))), g, t))) ∧ ((Int32.ofNat 0) ≤ x1 → ((g 11 3) ≤ x1 → am_chk (am_isb (Int32.ofNat 0)) (Q (.inl (some (.int (Int32.ofNat 0))), g, t))) ∧ (x1 < (g 11 3) → am_chk (am_in x1 240 && am_in ((g 13 (Int32.toNatClampNeg x1)) - Int32.ofNat 1) 6) (am_chk (Nat.blt ((g 13 (Int32.toNatClampNeg x1)) - Int32.ofNat 1).toNatClampNeg 6 && Nat.blt x2 6) ((¬ Int32.ofNat ((g 13 (Int32.toNatClampNeg x1)) - Int32.ofNat 1).toNatClampNeg = Int32.ofNat x2 → am_chk (am_isb (Int32.ofNat 0)) (Q (.inl (some (.int (Int32.ofNat 0))), g, t))) ∧ (Int32.ofNat ((g 13 (Int32.toNatClampNeg x1)) - Int32.ofNat 1).toNatClampNeg = Int32.ofNat x2 → am_chk (am_isb (Int32.ofNat 1)) (Q (.inl (some (.int (Int32.ofNat 1))), g, t)))))))) :
    am_GQ (37, 0, [(0, .ref 11), (1, .int x1), (2, .ref x2)], [], g, t) Q := am_wp_ok [] 15 h
theorem B_Lines_isMacro_0 {g : am_G} {t : Nat} {Q : am_R → Prop} {x1 : Int32} {x2 : Int32}
    (h : am_GQ (78, 0, [(0, .ref 9), (1, .int x1)], [], g, t) (am_af 38 5 [(0, .ref 11), (1, .int x1), (2, .int x2)] [] Q)) :
    am_GQ (38, 0, [(0, .ref 11), (1, .int x1), (2, .int x2)], [], g, t) Q := am_wp_ok [] 4 h
theorem B_Lines_isMacro_8 {g : am_G} {t : Nat} {Q : am_R → Prop} {x1 : Int32} {x2 : Int32} {s0 : Int32}
    (h : am_GQ (78, 0, [(0, .ref 9), (1, .int (x1 + (Int32.ofNat 1)))], [], g, t) (am_af 38 15 [(0, .ref 11), (1, .int x1), (2, .int x2)] [.int s0] Q)) :
    am_GQ (38, 8, [(0, .ref 11), (1, .int x1), (2, .int x2)], [.int s0], g, t) Q := am_wp_ok [] 6 h
theorem B_Lines_isMacro_18 {g : am_G} {t : Nat} {Q : am_R → Prop} {x1 : Int32} {x2 : Int32} {s0 : Int32} {s1 : Int32}
    (h : am_GQ (5, 0, [(0, .int s1), (1, .int s0)], [], g, t) (am_af 38 18 [(0, .ref 11), (1, .int x1), (2, .int x2)] [] Q)) :
    am_GQ (38, 18, [(0, .ref 11), (1, .int x1), (2, .int x2)], [.int s0, .int s1], g, t) Q := am_wp_ok [] 1 h
theorem B_Lines_isMacro_21 {g : am_G} {t : Nat} {Q : am_R → Prop} {x1 : Int32} {x2 : Int32} {s0 : Int32}
    (h : (s0 = (Int32.ofNat 0) → am_chk (am_isb (Int32.ofNat 0)) (Q (.inl (some (.int (Int32.ofNat 0))), g, t))) ∧ (¬ s0 = (Int32.ofNat 0) → am_GQ (88, 0, [(0, .ref 9), (1, .int (x1 + (Int32.ofNat 2)))], [], g, t) (am_af 38 31 [(0, .ref 11), (1, .int x1), (2, .int x2)] [] Q))) :
    am_GQ (38, 21, [(0, .ref 11), (1, .int x1), (2, .int x2)], [.int s0], g, t) Q := am_wp_ok [] 7 h
theorem B_Lines_isMacro_34 {g : am_G} {t : Nat} {Q : am_R → Prop} {x1 : Int32} {x2 : Int32} {s0 : Int32}
    (h : (¬ s0 = x2 → am_chk (am_isb (Int32.ofNat 0)) (Q (.inl (some (.int (Int32.ofNat 0))), g, t))) ∧ (s0 = x2 → am_chk (am_isb (Int32.ofNat 1)) (Q (.inl (some (.int (Int32.ofNat 1))), g, t)))) :
    am_GQ (38, 34, [(0, .ref 11), (1, .int x1), (2, .int x2)], [.int s0], g, t) Q := am_wp_ok [] 5 h
theorem B_Lines_isPattern_0 {g : am_G} {t : Nat} {Q : am_R → Prop} {x1 : Int32} {x2 : Int32}
    (h : (¬ (x2 - x1) = (Int32.ofNat 5) → am_chk (am_isb (Int32.ofNat 0)) (Q (.inl (some (.int (Int32.ofNat 0))), g, t))) ∧ ((x2 - x1) = (Int32.ofNat 5) → am_GQ (78, 0, [(0, .ref 9), (1, .int x1)], [], g, t) (am_af 39 12 [(0, .ref 11), (1, .int x1), (2, .int x2)] [] Q))) :
    am_GQ (39, 0, [(0, .ref 11), (1, .int x1), (2, .int x2)], [], g, t) Q := am_wp_ok [] 9 h
theorem B_Lines_isPattern_15 {g : am_G} {t : Nat} {Q : am_R → Prop} {x1 : Int32} {x2 : Int32} {s0 : Int32}
    (h : am_GQ (78, 0, [(0, .ref 9), (1, .int (x1 + (Int32.ofNat 1)))], [], g, t) (am_af 39 22 [(0, .ref 11), (1, .int x1), (2, .int x2)] [.int s0] Q)) :
    am_GQ (39, 15, [(0, .ref 11), (1, .int x1), (2, .int x2)], [.int s0], g, t) Q := am_wp_ok [] 6 h
theorem B_Lines_isPattern_25 {g : am_G} {t : Nat} {Q : am_R → Prop} {x1 : Int32} {x2 : Int32} {s0 : Int32} {s1 : Int32}
    (h : am_GQ (8, 0, [(0, .int s1), (1, .int s0)], [], g, t) (am_af 39 25 [(0, .ref 11), (1, .int x1), (2, .int x2)] [] Q)) :
    am_GQ (39, 25, [(0, .ref 11), (1, .int x1), (2, .int x2)], [.int s0, .int s1], g, t) Q := am_wp_ok [] 1 h
theorem B_Lines_isPattern_28 {g : am_G} {t : Nat} {Q : am_R → Prop} {x1 : Int32} {x2 : Int32} {s0 : Int32}
    (h : (s0 = (Int32.ofNat 0) → am_chk (am_isb (Int32.ofNat 0)) (Q (.inl (some (.int (Int32.ofNat 0))), g, t))) ∧ (¬ s0 = (Int32.ofNat 0) → am_GQ (78, 0, [(0, .ref 9), (1, .int (x1 + (Int32.ofNat 2)))], [], g, t) (am_af 39 38 [(0, .ref 11), (1, .int x1), (2, .int x2)] [] Q))) :
    am_GQ (39, 28, [(0, .ref 11), (1, .int x1), (2, .int x2)], [.int s0], g, t) Q := am_wp_ok [] 7 h
theorem B_Lines_isPattern_41 {g : am_G} {t : Nat} {Q : am_R → Prop} {x1 : Int32} {x2 : Int32} {s0 : Int32}
    (h : (¬ s0 = (Int32.ofNat 58) → am_chk (am_isb (Int32.ofNat 0)) (Q (.inl (some (.int (Int32.ofNat 0))), g, t))) ∧ (s0 = (Int32.ofNat 58) → am_GQ (78, 0, [(0, .ref 9), (1, .int (x1 + (Int32.ofNat 3)))], [], g, t) (am_af 39 53 [(0, .ref 11), (1, .int x1), (2, .int x2)] [] Q))) :
    am_GQ (39, 41, [(0, .ref 11), (1, .int x1), (2, .int x2)], [.int s0], g, t) Q := am_wp_ok [] 8 h
theorem B_Lines_isPattern_56 {g : am_G} {t : Nat} {Q : am_R → Prop} {x1 : Int32} {x2 : Int32} {s0 : Int32}
    (h : am_GQ (78, 0, [(0, .ref 9), (1, .int (x1 + (Int32.ofNat 4)))], [], g, t) (am_af 39 63 [(0, .ref 11), (1, .int x1), (2, .int x2)] [.int s0] Q)) :
    am_GQ (39, 56, [(0, .ref 11), (1, .int x1), (2, .int x2)], [.int s0], g, t) Q := am_wp_ok [] 6 h
theorem B_Lines_isPattern_66 {g : am_G} {t : Nat} {Q : am_R → Prop} {x1 : Int32} {x2 : Int32} {s0 : Int32} {s1 : Int32}
    (h : am_GQ (8, 0, [(0, .int s1), (1, .int s0)], [], g, t) (am_af 39 66 [(0, .ref 11), (1, .int x1), (2, .int x2)] [] Q)) :
    am_GQ (39, 66, [(0, .ref 11), (1, .int x1), (2, .int x2)], [.int s0, .int s1], g, t) Q := am_wp_ok [] 1 h
theorem B_Lines_isPattern_69 {g : am_G} {t : Nat} {Q : am_R → Prop} {x1 : Int32} {x2 : Int32} {s0 : Int32}
    (h : (s0 = (Int32.ofNat 0) → am_chk (am_isb (Int32.ofNat 0)) (Q (.inl (some (.int (Int32.ofNat 0))), g, t))) ∧ (¬ s0 = (Int32.ofNat 0) → am_chk (am_isb (Int32.ofNat 1)) (Q (.inl (some (.int (Int32.ofNat 1))), g, t)))) :
    am_GQ (39, 69, [(0, .ref 11), (1, .int x1), (2, .int x2)], [.int s0], g, t) Q := am_wp_ok [] 4 h
theorem B_Lines_isRule_0 {g : am_G} {t : Nat} {Q : am_R → Prop} {x1 : Int32} {x2 : Int32}
    (h : am_GQ (88, 0, [(0, .ref 9), (1, .int x1)], [], g, t) (am_af 40 5 [(0, .ref 11), (1, .int x1), (2, .int x2)] [] Q)) :
    am_GQ (40, 0, [(0, .ref 11), (1, .int x1), (2, .int x2)], [], g, t) Q := am_wp_ok [] 4 h
theorem B_Lines_isRule_8 {g : am_G} {t : Nat} {Q : am_R → Prop} {x1 : Int32} {x2 : Int32} {s0 : Int32}
    (h : am_GQ (78, 0, [(0, .ref 9), (1, .int s0)], [], g, t) (am_af 40 14 [(0, .ref 11), (1, .int x1), (2, .int x2), (3, .int s0)] [] Q)) :
    am_GQ (40, 8, [(0, .ref 11), (1, .int x1), (2, .int x2)], [.int s0], g, t) Q := am_wp_ok [] 5 h
theorem B_Lines_isRule_17 {g : am_G} {t : Nat} {Q : am_R → Prop} {x1 : Int32} {x2 : Int32} {x3 : Int32} {s0 : Int32}
    (h : (¬ s0 = (Int32.ofNat 58) → am_chk (am_isb (Int32.ofNat 0)) (Q (.inl (some (.int (Int32.ofNat 0))), g, t))) ∧ (s0 = (Int32.ofNat 58) → am_GQ (83, 0, [(0, .ref 9), (1, .int x1), (2, .int x3)], [], g, t) (am_af 40 28 [(0, .ref 11), (1, .int x1), (2, .int x2), (3, .int x3)] [] Q))) :
    am_GQ (40, 17, [(0, .ref 11), (1, .int x1), (2, .int x2), (3, .int x3)], [.int s0], g, t) Q := am_wp_ok [] 7 h
theorem B_Lines_isRule_31 {g : am_G} {t : Nat} {Q : am_R → Prop} {x1 : Int32} {x2 : Int32} {x3 : Int32} {s0 : Int32}
    (h : (¬ s0 = (Int32.ofNat 0) → am_chk (am_isb (Int32.ofNat 0)) (Q (.inl (some (.int (Int32.ofNat 0))), g, t))) ∧ (s0 = (Int32.ofNat 0) → am_GQ (88, 0, [(0, .ref 9), (1, .int (x3 + (Int32.ofNat 1)))], [], g, t) (am_af 40 41 [(0, .ref 11), (1, .int x1), (2, .int x2), (3, .int x3)] [] Q))) :
    am_GQ (40, 31, [(0, .ref 11), (1, .int x1), (2, .int x2), (3, .int x3)], [.int s0], g, t) Q := am_wp_ok [] 7 h
theorem B_Lines_isRule_44 {g : am_G} {t : Nat} {Q : am_R → Prop} {x1 : Int32} {x2 : Int32} {x3 : Int32} {s0 : Int32}
    (h : (¬ s0 = x2 → am_chk (am_isb (Int32.ofNat 0)) (Q (.inl (some (.int (Int32.ofNat 0))), g, t))) ∧ (s0 = x2 → am_chk (am_isb (Int32.ofNat 1)) (Q (.inl (some (.int (Int32.ofNat 1))), g, t)))) :
    am_GQ (40, 44, [(0, .ref 11), (1, .int x1), (2, .int x2), (3, .int x3)], [.int s0], g, t) Q := am_wp_ok [] 5 h
theorem B_Lines_kindOf_0 {g : am_G} {t : Nat} {Q : am_R → Prop} {x1 : Int32} {x2 : Int32}
    (h : am_GQ (78, 0, [(0, .ref 9), (1, .int x1)], [], g, t) (am_af 41 5 [(0, .ref 11), (1, .int x1), (2, .int x2)] [] Q)) :
    am_GQ (41, 0, [(0, .ref 11), (1, .int x1), (2, .int x2)], [], g, t) Q := am_wp_ok [] 4 h
theorem B_Lines_kindOf_8 {g : am_G} {t : Nat} {Q : am_R → Prop} {x1 : Int32} {x2 : Int32} {s0 : Int32}
    (h : (¬ s0 = (Int32.ofNat 9) → am_GQ (83, 0, [(0, .ref 9), (1, .int x1), (2, .int x2)], [], g, t) (am_af 41 23 [(0, .ref 11), (1, .int x1), (2, .int x2)] [] Q)) ∧ (s0 = (Int32.ofNat 9) → am_chk (Nat.blt 5 6) (Q (.inl (some (.ref 5)), g, t)))) :
    am_GQ (41, 8, [(0, .ref 11), (1, .int x1), (2, .int x2)], [.int s0], g, t) Q := am_wp_ok [] 7 h
theorem B_Lines_kindOf_26 {g : am_G} {t : Nat} {Q : am_R → Prop} {x1 : Int32} {x2 : Int32} {s0 : Int32}
    (h : (s0 = (Int32.ofNat 0) → am_GQ (38, 0, [(0, .ref 11), (1, .int x1), (2, .int x2)], [], g, t) (am_af 41 36 [(0, .ref 11), (1, .int x1), (2, .int x2)] [] Q)) ∧ (¬ s0 = (Int32.ofNat 0) → am_chk (Nat.blt 1 6) (Q (.inl (some (.ref 1)), g, t)))) :
    am_GQ (41, 26, [(0, .ref 11), (1, .int x1), (2, .int x2)], [.int s0], g, t) Q := am_wp_ok [] 5 h
theorem B_Lines_kindOf_39 {g : am_G} {t : Nat} {Q : am_R → Prop} {x1 : Int32} {x2 : Int32} {s0 : Int32}
    (h : (s0 = (Int32.ofNat 0) → am_GQ (39, 0, [(0, .ref 11), (1, .int x1), (2, .int x2)], [], g, t) (am_af 41 49 [(0, .ref 11), (1, .int x1), (2, .int x2)] [] Q)) ∧ (¬ s0 = (Int32.ofNat 0) → am_chk (Nat.blt 2 6) (Q (.inl (some (.ref 2)), g, t)))) :
    am_GQ (41, 39, [(0, .ref 11), (1, .int x1), (2, .int x2)], [.int s0], g, t) Q := am_wp_ok [] 5 h
theorem B_Lines_kindOf_52 {g : am_G} {t : Nat} {Q : am_R → Prop} {x1 : Int32} {x2 : Int32} {s0 : Int32}
    (h : (s0 = (Int32.ofNat 0) → am_GQ (40, 0, [(0, .ref 11), (1, .int x1), (2, .int x2)], [], g, t) (am_af 41 62 [(0, .ref 11), (1, .int x1), (2, .int x2)] [] Q)) ∧ (¬ s0 = (Int32.ofNat 0) → am_chk (Nat.blt 4 6) (Q (.inl (some (.ref 4)), g, t)))) :
    am_GQ (41, 52, [(0, .ref 11), (1, .int x1), (2, .int x2)], [.int s0], g, t) Q := am_wp_ok [] 5 h
theorem B_Lines_kindOf_65 {g : am_G} {t : Nat} {Q : am_R → Prop} {x1 : Int32} {x2 : Int32} {s0 : Int32}
    (h : (s0 = (Int32.ofNat 0) → am_chk (Nat.blt 0 6) (Q (.inl (some (.ref 0)), g, t))) ∧ (¬ s0 = (Int32.ofNat 0) → am_chk (Nat.blt 3 6) (Q (.inl (some (.ref 3)), g, t)))) :
    am_GQ (41, 65, [(0, .ref 11), (1, .int x1), (2, .int x2)], [.int s0], g, t) Q := am_wp_ok [] 4 h
theorem B_Lines_maySucceed_0 {g : am_G} {t : Nat} {Q : am_R → Prop} {x1 : Int32}
    (h : am_GQ (37, 0, [(0, .ref 11), (1, .int x1), (2, .ref 5)], [], g, t) (am_af 42 5 [(0, .ref 11), (1, .int x1)] [] Q)) :
    am_GQ (42, 0, [(0, .ref 11), (1, .int x1)], [], g, t) Q := am_wp_ok [] 4 h
theorem B_Lines_maySucceed_8 {g : am_G} {t : Nat} {Q : am_R → Prop} {x1 : Int32} {s0 : Int32}
    (h : (s0 = (Int32.ofNat 0) → am_GQ (37, 0, [(0, .ref 11), (1, .int (x1 - (Int32.ofNat 1))), (2, .ref 4)], [], g, t) (am_af 42 63 [(0, .ref 11), (1, .int x1)] [] Q)) ∧ (¬ s0 = (Int32.ofNat 0) → am_GQ (37, 0, [(0, .ref 11), (1, .int (x1 - (Int32.ofNat 1))), (2, .ref 3)], [], g, t) (am_af 42 18 [(0, .ref 11), (1, .int x1)] [] Q))) :
    am_GQ (42, 8, [(0, .ref 11), (1, .int x1)], [.int s0], g, t) Q := am_wp_ok [] 7 h
theorem B_Lines_maySucceed_66 {g : am_G} {t : Nat} {Q : am_R → Prop} {x1 : Int32} {s0 : Int32}
    (h : (¬ s0 = (Int32.ofNat 0) → am_chk (am_isb (Int32.ofNat 0)) (Q (.inl (some (.int (Int32.ofNat 0))), g, t))) ∧ (s0 = (Int32.ofNat 0) → am_chk (am_isb (Int32.ofNat 1)) (Q (.inl (some (.int (Int32.ofNat 1))), g, t)))) :
    am_GQ (42, 66, [(0, .ref 11), (1, .int x1)], [.int s0], g, t) Q := am_wp_ok [] 4 h
theorem B_Lines_maySucceed_21 {g : am_G} {t : Nat} {Q : am_R → Prop} {x1 : Int32} {s0 : Int32}
    (h : (¬ s0 = (Int32.ofNat 0) → am_chk (am_isb (Int32.ofNat 1)) (Q (.inl (some (.int (Int32.ofNat 1))), g, t))) ∧ (s0 = (Int32.ofNat 0) → am_GQ (37, 0, [(0, .ref 11), (1, .int (x1 - (Int32.ofNat 1))), (2, .ref 4)], [], g, t) (am_af 42 31 [(0, .ref 11), (1, .int x1)] [] Q))) :
    am_GQ (42, 21, [(0, .ref 11), (1, .int x1)], [.int s0], g, t) Q := am_wp_ok [] 7 h
theorem B_Lines_maySucceed_34 {g : am_G} {t : Nat} {Q : am_R → Prop} {x1 : Int32} {s0 : Int32}
    (h : (¬ s0 = (Int32.ofNat 0) → am_chk (am_isb (Int32.ofNat 1)) (Q (.inl (some (.int (Int32.ofNat 1))), g, t))) ∧ (s0 = (Int32.ofNat 0) → am_GQ (37, 0, [(0, .ref 11), (1, .int (x1 - (Int32.ofNat 1))), (2, .ref 5)], [], g, t) (am_af 42 44 [(0, .ref 11), (1, .int x1)] [] Q))) :
    am_GQ (42, 34, [(0, .ref 11), (1, .int x1)], [.int s0], g, t) Q := am_wp_ok [] 7 h
theorem B_Lines_maySucceed_47 {g : am_G} {t : Nat} {Q : am_R → Prop} {x1 : Int32} {s0 : Int32}
    (h : (s0 = (Int32.ofNat 0) → am_chk (am_isb (Int32.ofNat 0)) (Q (.inl (some (.int (Int32.ofNat 0))), g, t))) ∧ (¬ s0 = (Int32.ofNat 0) → am_chk (am_isb (Int32.ofNat 1)) (Q (.inl (some (.int (Int32.ofNat 1))), g, t)))) :
    am_GQ (42, 47, [(0, .ref 11), (1, .int x1)], [.int s0], g, t) Q := am_wp_ok [] 4 h
theorem B_Lines_split_0 {g : am_G} {t : Nat} {Q : am_R → Prop}
    (h : am_GQ (43, 9, [(0, .ref 11), (1, .int (Int32.ofNat 0)), (2, .int (Int32.ofNat 0))], [], (am_w g 11 3 (Int32.ofNat 0)), t) Q) :
    am_GQ (43, 0, [(0, .ref 11)], [], g, t) Q := am_wp_ok [9, 48] 7 h
theorem B_Lines_split_9 {g : am_G} {t : Nat} {Q : am_R → Prop} {x1 : Int32} {x2 : Int32}
    (h : am_GQ (89, 0, [(0, .ref 9)], [], g, t) (am_af 43 14 [(0, .ref 11), (1, .int x1), (2, .int x2)] [.int x2] Q)) :
    am_GQ (43, 9, [(0, .ref 11), (1, .int x1), (2, .int x2)], [], g, t) Q := am_wp_ok [9, 48] 4 h
theorem B_Lines_split_17 {g : am_G} {t : Nat} {Q : am_R → Prop} {x1 : Int32} {x2 : Int32} {s0 : Int32} {s1 : Int32}
    (h : (s0 ≤ s1 → am_GQ (89, 0, [(0, .ref 9)], [], g, t) (am_af 43 59 [(0, .ref 11), (1, .int x1), (2, .int x2)] [.int x1] Q)) ∧ (s1 < s0 → am_GQ (78, 0, [(0, .ref 9), (1, .int x2)], [], g, t) (am_af 43 25 [(0, .ref 11), (1, .int x1), (2, .int x2)] [] Q))) :
    am_GQ (43, 17, [(0, .ref 11), (1, .int x1), (2, .int x2)], [.int s0, .int s1], g, t) Q := am_wp_ok [9, 48] 5 h
theorem B_Lines_split_62 {g : am_G} {t : Nat} {Q : am_R → Prop} {x1 : Int32} {x2 : Int32} {s0 : Int32} {s1 : Int32}
    (h : (s0 ≤ s1 → Q (.inl none, g, t)) ∧ (s1 < s0 → am_GQ (33, 0, [(0, .ref 11), (1, .int x1), (2, .ref 0)], [], g, t) (am_af 43 70 [(0, .ref 11), (1, .int x1), (2, .int x2)] [] Q))) :
    am_GQ (43, 62, [(0, .ref 11), (1, .int x1), (2, .int x2)], [.int s0, .int s1], g, t) Q := am_wp_ok [9, 48] 5 h
theorem B_Lines_split_28 {g : am_G} {t : Nat} {Q : am_R → Prop} {x1 : Int32} {x2 : Int32} {s0 : Int32}
    (h : (¬ s0 = (Int32.ofNat 10) → am_GQ (43, 48, [(0, .ref 11), (1, .int x1), (2, .int x2)], [], g, t) Q) ∧ (s0 = (Int32.ofNat 10) → am_GQ (41, 0, [(0, .ref 11), (1, .int x1), (2, .int x2)], [], g, t) (am_af 43 38 [(0, .ref 11), (1, .int x1), (2, .int x2)] [.int x1, .ref 11] Q))) :
    am_GQ (43, 28, [(0, .ref 11), (1, .int x1), (2, .int x2)], [.int s0], g, t) Q := am_wp_ok [9, 48] 8 h
theorem B_Lines_split_73 {g : am_G} {t : Nat} {Q : am_R → Prop} {x1 : Int32} {x2 : Int32}
    (h : Q (.inl none, g, t)) :
    am_GQ (43, 73, [(0, .ref 11), (1, .int x1), (2, .int x2)], [], g, t) Q := am_wp_ok [9, 48] 1 h
theorem B_Lines_split_48 {g : am_G} {t : Nat} {Q : am_R → Prop} {x1 : Int32} {x2 : Int32}
    (h : am_GQ (43, 9, [(0, .ref 11), (1, .int x1), (2, .int (x2 + (Int32.ofNat 1)))], [], g, t) Q) :
    am_GQ (43, 48, [(0, .ref 11), (1, .int x1), (2, .int x2)], [], g, t) Q := am_wp_ok [9, 48] 2 h
theorem B_Lines_split_41 {g : am_G} {t : Nat} {Q : am_R → Prop} {x1 : Int32} {x2 : Int32} {s0 : Nat} {s1 : Int32}
    (h : am_GQ (33, 0, [(0, .ref 11), (1, .int s1), (2, .ref s0)], [], g, t) (am_af 43 41 [(0, .ref 11), (1, .int x1), (2, .int x2)] [] Q)) :
    am_GQ (43, 41, [(0, .ref 11), (1, .int x1), (2, .int x2)], [.ref s0, .int s1, .ref 11], g, t) Q := am_wp_ok [9, 48] 1 h
theorem B_Lines_split_44 {g : am_G} {t : Nat} {Q : am_R → Prop} {x1 : Int32} {x2 : Int32}
    (h : am_GQ (43, 48, [(0, .ref 11), (1, .int (x2 + (Int32.ofNat 1))), (2, .int x2)], [], g, t) Q) :
    am_GQ (43, 44, [(0, .ref 11), (1, .int x1), (2, .int x2)], [], g, t) Q := am_wp_ok [9, 48] 4 h
theorem B_Lines_startOf_0 {g : am_G} {t : Nat} {Q : am_R → Prop} {x1 : Int32}
    (h : (x1 < (Int32.ofNat 0) → Q (.inl (some (.int (-1))), g, t)) ∧ ((Int32.ofNat 0) ≤ x1 → ((g 11 3) ≤ x1 → Q (.inl (some (.int (-1))), g, t)) ∧ (x1 < (g 11 3) → am_chk (am_in x1 240) (Q (.inl (some (.int (g 12 (Int32.toNatClampNeg x1)))), g, t))))) :
    am_GQ (44, 0, [(0, .ref 11), (1, .int x1)], [], g, t) Q := am_wp_ok [] 12 h
theorem B_Macros_expandValues_0 {g : am_G} {t : Nat} {Q : am_R → Prop}
    (h : am_GQ (45, 4, [(0, .ref 14), (1, .int (Int32.ofNat 0)), (2, .int (Int32.ofNat 0))], [], g, t) Q) :
    am_GQ (45, 0, [(0, .ref 14)], [], g, t) Q := am_wp_ok [4, 12, 78] 4 h
theorem B_Macros_expandValues_4 {g : am_G} {t : Nat} {Q : am_R → Prop} {x1 : Int32} {x2 : Int32}
    (h : ((Int32.ofNat 26) ≤ x2 → Q (.inl none, g, t)) ∧ (x2 < (Int32.ofNat 26) → am_GQ (45, 12, [(0, .ref 14), (1, .int x1), (2, .int x2), (3, .int (Int32.ofNat 0))], [], g, t) Q)) :
    am_GQ (45, 4, [(0, .ref 14), (1, .int x1), (2, .int x2)], [], g, t) Q := am_wp_ok [4, 12, 78] 5 h
theorem B_Macros_expandValues_12 {g : am_G} {t : Nat} {Q : am_R → Prop} {x1 : Int32} {x2 : Int32} {x3 : Int32}
    (h : ((Int32.ofNat 26) ≤ x3 → am_GQ (45, 4, [(0, .ref 14), (1, .int x1), (2, .int (x2 + (Int32.ofNat 1)))], [], g, t) Q) ∧ (x3 < (Int32.ofNat 26) → am_GQ (3, 0, [(0, .int x1), (1, .int x3)], [], g, t) (am_af 45 20 [(0, .ref 14), (1, .int x1), (2, .int x2), (3, .int x3)] [] Q))) :
    am_GQ (45, 12, [(0, .ref 14), (1, .int x1), (2, .int x2), (3, .int x3)], [], g, t) Q := am_wp_ok [4, 12, 78] 6 h
theorem B_Macros_expandValues_23 {g : am_G} {t : Nat} {Q : am_R → Prop} {x1 : Int32} {x2 : Int32} {x3 : Int32} {s0 : Int32}
    (h : (¬ s0 = (Int32.ofNat 0) → am_GQ (45, 78, [(0, .ref 14), (1, .int x1), (2, .int x2), (3, .int x3)], [], g, t) Q) ∧ (s0 = (Int32.ofNat 0) → am_chk (am_in x3 26) ((¬ ((g 16 (Int32.toNatClampNeg x3)) &&& (x1 ^^^ (-1))) = (Int32.ofNat 0) → am_GQ (45, 78, [(0, .ref 14), (1, .int x1), (2, .int x2), (3, .int x3)], [], g, t) Q) ∧ (((g 16 (Int32.toNatClampNeg x3)) &&& (x1 ^^^ (-1))) = (Int32.ofNat 0) → am_chk (am_in x3 26) (am_GQ (46, 0, [(0, .ref 14), (1, .int (g 15 (Int32.toNatClampNeg x3)))], [], g, t) (am_af 45 51 [(0, .ref 14), (1, .int x1), (2, .int x2), (3, .int x3)] [.int x3, .ref 17] Q)))))) :
    am_GQ (45, 23, [(0, .ref 14), (1, .int x1), (2, .int x2), (3, .int x3)], [.int s0], g, t) Q := am_wp_ok [4, 12, 78] 19 h
theorem B_Macros_expandValues_78 {g : am_G} {t : Nat} {Q : am_R → Prop} {x1 : Int32} {x2 : Int32} {x3 : Int32}
    (h : am_GQ (45, 12, [(0, .ref 14), (1, .int x1), (2, .int x2), (3, .int (x3 + (Int32.ofNat 1)))], [], g, t) Q) :
    am_GQ (45, 78, [(0, .ref 14), (1, .int x1), (2, .int x2), (3, .int x3)], [], g, t) Q := am_wp_ok [4, 12, 78] 2 h
theorem B_Macros_expandValues_54 {g : am_G} {t : Nat} {Q : am_R → Prop} {x1 : Int32} {x2 : Int32} {x3 : Int32} {s0 : Int32} {s1 : Int32}
    (h : am_chk (am_in s1 26) (am_chk (am_in x3 26) (am_GQ (52, 0, [(0, .ref 14), (1, .int ((am_w g 17 (Int32.toNatClampNeg s1) s0) 15 (Int32.toNatClampNeg x3)))], [], (am_w g 17 (Int32.toNatClampNeg s1) s0), t) (am_af 45 67 [(0, .ref 14), (1, .int x1), (2, .int x2), (3, .int x3)] [.int x3, .ref 18] Q)))) :
    am_GQ (45, 54, [(0, .ref 14), (1, .int x1), (2, .int x2), (3, .int x3)], [.int s0, .int s1, .ref 17], g, t) Q := am_wp_ok [4, 12, 78] 10 h
theorem B_Macros_expandValues_70 {g : am_G} {t : Nat} {Q : am_R → Prop} {x1 : Int32} {x2 : Int32} {x3 : Int32} {s0 : Int32} {s1 : Int32}
    (h : am_chk (am_in s1 26) (am_GQ (16, 0, [(0, .int x3)], [], (am_w g 18 (Int32.toNatClampNeg s1) s0), t) (am_af 45 73 [(0, .ref 14), (1, .int x1), (2, .int x2), (3, .int x3)] [.int x1] Q))) :
    am_GQ (45, 70, [(0, .ref 14), (1, .int x1), (2, .int x2), (3, .int x3)], [.int s0, .int s1, .ref 18], g, t) Q := am_wp_ok [4, 12, 78] 4 h
theorem B_Macros_expandValues_76 {g : am_G} {t : Nat} {Q : am_R → Prop} {x1 : Int32} {x2 : Int32} {x3 : Int32} {s0 : Int32} {s1 : Int32}
    (h : am_GQ (45, 78, [(0, .ref 14), (1, .int (s1 ||| s0)), (2, .int x2), (3, .int x3)], [], g, t) Q) :
    am_GQ (45, 76, [(0, .ref 14), (1, .int x1), (2, .int x2), (3, .int x3)], [.int s0, .int s1], g, t) Q := am_wp_ok [4, 12, 78] 2 h
theorem B_Macros_filesIn_0 {g : am_G} {t : Nat} {Q : am_R → Prop} {x1 : Int32}
    (h : am_GQ (88, 0, [(0, .ref 9), (1, .int x1)], [], g, t) (am_af 46 5 [(0, .ref 14), (1, .int x1)] [] Q)) :
    am_GQ (46, 0, [(0, .ref 14), (1, .int x1)], [], g, t) Q := am_wp_ok [14, 79] 4 h
theorem B_Macros_filesIn_8 {g : am_G} {t : Nat} {Q : am_R → Prop} {x1 : Int32} {s0 : Int32}
    (h : am_GQ (46, 14, [(0, .ref 14), (1, .int x1), (2, .int s0), (3, .int (Int32.ofNat 0)), (4, .int x1)], [], g, t) Q) :
    am_GQ (46, 8, [(0, .ref 14), (1, .int x1)], [.int s0], g, t) Q := am_wp_ok [14, 79] 5 h
theorem B_Macros_filesIn_14 {g : am_G} {t : Nat} {Q : am_R → Prop} {x1 : Int32} {x2 : Int32} {x3 : Int32} {x4 : Int32}
    (h : (x2 ≤ x4 → Q (.inl (some (.int x3)), g, t)) ∧ (x4 < x2 → am_GQ (82, 0, [(0, .ref 9), (1, .int x4)], [], g, t) (am_af 46 26 [(0, .ref 14), (1, .int x1), (2, .int x2), (3, .int x3), (4, .int x4)] [] Q))) :
    am_GQ (46, 14, [(0, .ref 14), (1, .int x1), (2, .int x2), (3, .int x3), (4, .int x4)], [], g, t) Q := am_wp_ok [14, 79] 7 h
theorem B_Macros_filesIn_29 {g : am_G} {t : Nat} {Q : am_R → Prop} {x1 : Int32} {x2 : Int32} {x3 : Int32} {x4 : Int32} {s0 : Int32}
    (h : (s0 = (Int32.ofNat 0) → am_GQ (81, 0, [(0, .ref 9), (1, .int x4)], [], g, t) (am_af 46 56 [(0, .ref 14), (1, .int x1), (2, .int x2), (3, .int x3), (4, .int x4)] [] Q)) ∧ (¬ s0 = (Int32.ofNat 0) → am_GQ (80, 0, [(0, .ref 9), (1, .int x4)], [], g, t) (am_af 46 39 [(0, .ref 14), (1, .int x1), (2, .int x2), (3, .int x3), (4, .int x4)] [.int x3] Q))) :
    am_GQ (46, 29, [(0, .ref 14), (1, .int x1), (2, .int x2), (3, .int x3), (4, .int x4)], [.int s0], g, t) Q := am_wp_ok [14, 79] 6 h
theorem B_Macros_filesIn_59 {g : am_G} {t : Nat} {Q : am_R → Prop} {x1 : Int32} {x2 : Int32} {x3 : Int32} {x4 : Int32} {s0 : Int32}
    (h : (s0 = (Int32.ofNat 0) → am_GQ (46, 79, [(0, .ref 14), (1, .int x1), (2, .int x2), (3, .int x3), (4, .int x4)], [], g, t) Q) ∧ (¬ s0 = (Int32.ofNat 0) → am_GQ (85, 0, [(0, .ref 9), (1, .int x4)], [], g, t) (am_af 46 73 [(0, .ref 14), (1, .int x1), (2, .int x2), (3, .int x3), (4, .int x4)] [.ref 17, .int x3] Q))) :
    am_GQ (46, 59, [(0, .ref 14), (1, .int x1), (2, .int x2), (3, .int x3), (4, .int x4)], [.int s0], g, t) Q := am_wp_ok [14, 79] 8 h
theorem B_Macros_filesIn_42 {g : am_G} {t : Nat} {Q : am_R → Prop} {x1 : Int32} {x2 : Int32} {x3 : Int32} {x4 : Int32} {s0 : Int32} {s1 : Int32}
    (h : am_GQ (16, 0, [(0, .int s0)], [], g, t) (am_af 46 42 [(0, .ref 14), (1, .int x1), (2, .int x2), (3, .int x3), (4, .int x4)] [.int s1] Q)) :
    am_GQ (46, 42, [(0, .ref 14), (1, .int x1), (2, .int x2), (3, .int x3), (4, .int x4)], [.int s0, .int s1], g, t) Q := am_wp_ok [14, 79] 1 h
theorem B_Macros_filesIn_79 {g : am_G} {t : Nat} {Q : am_R → Prop} {x1 : Int32} {x2 : Int32} {x3 : Int32} {x4 : Int32}
    (h : am_GQ (46, 14, [(0, .ref 14), (1, .int x1), (2, .int x2), (3, .int x3), (4, .int (x4 + (Int32.ofNat 1)))], [], g, t) Q) :
    am_GQ (46, 79, [(0, .ref 14), (1, .int x1), (2, .int x2), (3, .int x3), (4, .int x4)], [], g, t) Q := am_wp_ok [14, 79] 2 h
theorem B_Macros_filesIn_76 {g : am_G} {t : Nat} {Q : am_R → Prop} {x1 : Int32} {x2 : Int32} {x3 : Int32} {x4 : Int32} {s0 : Int32} {s2 : Int32}
    (h : am_chk (am_in s0 26) (am_GQ (46, 79, [(0, .ref 14), (1, .int x1), (2, .int x2), (3, .int (s2 ||| (g 17 (Int32.toNatClampNeg s0)))), (4, .int x4)], [], g, t) Q)) :
    am_GQ (46, 76, [(0, .ref 14), (1, .int x1), (2, .int x2), (3, .int x3), (4, .int x4)], [.int s0, .ref 17, .int s2], g, t) Q := am_wp_ok [14, 79] 3 h
theorem B_Macros_filesIn_45 {g : am_G} {t : Nat} {Q : am_R → Prop} {x1 : Int32} {x2 : Int32} {x3 : Int32} {x4 : Int32} {s0 : Int32} {s1 : Int32}
    (h : am_GQ (46, 79, [(0, .ref 14), (1, .int x1), (2, .int x2), (3, .int (s1 ||| s0)), (4, .int x4)], [], g, t) Q) :
    am_GQ (46, 45, [(0, .ref 14), (1, .int x1), (2, .int x2), (3, .int x3), (4, .int x4)], [.int s0, .int s1], g, t) Q := am_wp_ok [14, 79] 3 h
theorem B_Macros_findLeads_0 {g : am_G} {t : Nat} {Q : am_R → Prop}
    (h : am_GQ (47, 2, [(0, .ref 14), (1, .int (Int32.ofNat 0))], [], g, t) Q) :
    am_GQ (47, 0, [(0, .ref 14)], [], g, t) Q := am_wp_ok [2, 32, 40, 74] 2 h
theorem B_Macros_findLeads_2 {g : am_G} {t : Nat} {Q : am_R → Prop} {x1 : Int32}
    (h : ((Int32.ofNat 26) ≤ x1 → am_GQ (47, 32, [(0, .ref 14), (1, .int (Int32.ofNat 0))], [], g, t) Q) ∧ (x1 < (Int32.ofNat 26) → am_chk (am_in x1 26) (am_GQ (51, 0, [(0, .ref 14), (1, .int (g 15 (Int32.toNatClampNeg x1)))], [], g, t) (am_af 47 20 [(0, .ref 14), (1, .int x1)] [.int x1, .ref 16] Q)))) :
    am_GQ (47, 2, [(0, .ref 14), (1, .int x1)], [], g, t) Q := am_wp_ok [2, 32, 40, 74] 12 h
theorem B_Macros_findLeads_32 {g : am_G} {t : Nat} {Q : am_R → Prop} {x1 : Int32}
    (h : ((Int32.ofNat 26) ≤ x1 → Q (.inl none, g, t)) ∧ (x1 < (Int32.ofNat 26) → am_GQ (47, 40, [(0, .ref 14), (1, .int x1), (2, .int (Int32.ofNat 0))], [], g, t) Q)) :
    am_GQ (47, 32, [(0, .ref 14), (1, .int x1)], [], g, t) Q := am_wp_ok [2, 32, 40, 74] 5 h
theorem B_Macros_findLeads_23 {g : am_G} {t : Nat} {Q : am_R → Prop} {x1 : Int32} {s0 : Int32} {s1 : Int32}
    (h : am_chk (am_in s1 26) (am_GQ (47, 2, [(0, .ref 14), (1, .int (x1 + (Int32.ofNat 1)))], [], (am_w g 16 (Int32.toNatClampNeg s1) s0), t) Q)) :
    am_GQ (47, 23, [(0, .ref 14), (1, .int x1)], [.int s0, .int s1, .ref 16], g, t) Q := am_wp_ok [2, 32, 40, 74] 3 h
theorem B_Macros_findLeads_40 {g : am_G} {t : Nat} {Q : am_R → Prop} {x1 : Int32} {x2 : Int32}
    (h : ((Int32.ofNat 26) ≤ x2 → am_GQ (47, 32, [(0, .ref 14), (1, .int (x1 + (Int32.ofNat 1)))], [], g, t) Q) ∧ (x2 < (Int32.ofNat 26) → am_chk (am_in x2 26) (am_GQ (3, 0, [(0, .int (g 16 (Int32.toNatClampNeg x2))), (1, .int x1)], [], g, t) (am_af 47 53 [(0, .ref 14), (1, .int x1), (2, .int x2)] [] Q)))) :
    am_GQ (47, 40, [(0, .ref 14), (1, .int x1), (2, .int x2)], [], g, t) Q := am_wp_ok [2, 32, 40, 74] 9 h
theorem B_Macros_findLeads_56 {g : am_G} {t : Nat} {Q : am_R → Prop} {x1 : Int32} {x2 : Int32} {s0 : Int32}
    (h : (s0 = (Int32.ofNat 0) → am_GQ (47, 74, [(0, .ref 14), (1, .int x1), (2, .int x2)], [], g, t) Q) ∧ (¬ s0 = (Int32.ofNat 0) → am_chk (am_in x2 26) (am_chk (am_in x1 26) (am_chk (am_in x2 26) (am_GQ (47, 74, [(0, .ref 14), (1, .int x1), (2, .int x2)], [], (am_w g 16 (Int32.toNatClampNeg x2) ((g 16 (Int32.toNatClampNeg x2)) ||| (g 16 (Int32.toNatClampNeg x1)))), t) Q))))) :
    am_GQ (47, 56, [(0, .ref 14), (1, .int x1), (2, .int x2)], [.int s0], g, t) Q := am_wp_ok [2, 32, 40, 74] 12 h
theorem B_Macros_findLeads_74 {g : am_G} {t : Nat} {Q : am_R → Prop} {x1 : Int32} {x2 : Int32}
    (h : am_GQ (47, 40, [(0, .ref 14), (1, .int x1), (2, .int (x2 + (Int32.ofNat 1)))], [], g, t) Q) :
    am_GQ (47, 74, [(0, .ref 14), (1, .int x1), (2, .int x2)], [], g, t) Q := am_wp_ok [2, 32, 40, 74] 2 h
theorem B_Macros_findLooping_0 {g : am_G} {t : Nat} {Q : am_R → Prop}
    (h : am_GQ (48, 4, [(0, .ref 14), (1, .int (Int32.ofNat 0)), (2, .int (Int32.ofNat 0))], [], g, t) Q) :
    am_GQ (48, 0, [(0, .ref 14)], [], g, t) Q := am_wp_ok [4, 37, 67] 4 h
theorem B_Macros_findLooping_4 {g : am_G} {t : Nat} {Q : am_R → Prop} {x1 : Int32} {x2 : Int32}
    (h : ((Int32.ofNat 26) ≤ x2 → am_GQ (48, 37, [(0, .ref 14), (1, .int x1), (2, .int (Int32.ofNat 0))], [], (am_w g 14 5 (Int32.ofNat 0)), t) Q) ∧ (x2 < (Int32.ofNat 26) → am_chk (am_in x2 26) (am_GQ (16, 0, [(0, .int x2)], [], g, t) (am_af 48 18 [(0, .ref 14), (1, .int x1), (2, .int x2)] [.int (g 16 (Int32.toNatClampNeg x2)), .int x1] Q)))) :
    am_GQ (48, 4, [(0, .ref 14), (1, .int x1), (2, .int x2)], [], g, t) Q := am_wp_ok [4, 37, 67] 10 h
theorem B_Macros_findLooping_37 {g : am_G} {t : Nat} {Q : am_R → Prop} {x1 : Int32} {x2 : Int32}
    (h : ((Int32.ofNat 26) ≤ x2 → Q (.inl none, g, t)) ∧ (x2 < (Int32.ofNat 26) → am_chk (am_in x2 26) ((((g 16 (Int32.toNatClampNeg x2)) &&& x1) = (Int32.ofNat 0) → am_GQ (48, 67, [(0, .ref 14), (1, .int x1), (2, .int x2)], [], g, t) Q) ∧ (¬ ((g 16 (Int32.toNatClampNeg x2)) &&& x1) = (Int32.ofNat 0) → am_GQ (16, 0, [(0, .int x2)], [], g, t) (am_af 48 60 [(0, .ref 14), (1, .int x1), (2, .int x2)] [.int (g 14 5), .ref 14] Q))))) :
    am_GQ (48, 37, [(0, .ref 14), (1, .int x1), (2, .int x2)], [], g, t) Q := am_wp_ok [4, 37, 67] 15 h
theorem B_Macros_findLooping_21 {g : am_G} {t : Nat} {Q : am_R → Prop} {x1 : Int32} {x2 : Int32} {s0 : Int32} {s1 : Int32} {s2 : Int32}
    (h : am_GQ (48, 4, [(0, .ref 14), (1, .int (s2 ||| (s1 &&& s0))), (2, .int (x2 + (Int32.ofNat 1)))], [], g, t) Q) :
    am_GQ (48, 21, [(0, .ref 14), (1, .int x1), (2, .int x2)], [.int s0, .int s1, .int s2], g, t) Q := am_wp_ok [4, 37, 67] 5 h
theorem B_Macros_findLooping_67 {g : am_G} {t : Nat} {Q : am_R → Prop} {x1 : Int32} {x2 : Int32}
    (h : am_GQ (48, 37, [(0, .ref 14), (1, .int x1), (2, .int (x2 + (Int32.ofNat 1)))], [], g, t) Q) :
    am_GQ (48, 67, [(0, .ref 14), (1, .int x1), (2, .int x2)], [], g, t) Q := am_wp_ok [4, 37, 67] 2 h
theorem B_Macros_findLooping_63 {g : am_G} {t : Nat} {Q : am_R → Prop} {x1 : Int32} {x2 : Int32} {s0 : Int32} {s1 : Int32}
    (h : am_GQ (48, 67, [(0, .ref 14), (1, .int x1), (2, .int x2)], [], (am_w g 14 5 (s1 ||| s0)), t) Q) :
    am_GQ (48, 63, [(0, .ref 14), (1, .int x1), (2, .int x2)], [.int s0, .int s1, .ref 14], g, t) Q := am_wp_ok [4, 37, 67] 2 h
theorem B_Macros_findValues_0 {g : am_G} {t : Nat} {Q : am_R → Prop}
    (h : am_GQ (49, 2, [(0, .ref 14), (1, .ref 11), (2, .int (Int32.ofNat 0))], [], g, t) Q) :
    am_GQ (49, 0, [(0, .ref 14), (1, .ref 11)], [], g, t) Q := am_wp_ok [2, 23, 67] 2 h
theorem B_Macros_findValues_2 {g : am_G} {t : Nat} {Q : am_R → Prop} {x2 : Int32}
    (h : ((Int32.ofNat 26) ≤ x2 → am_GQ (49, 23, [(0, .ref 14), (1, .ref 11), (2, .int (Int32.ofNat 0))], [], g, t) Q) ∧ (x2 < (Int32.ofNat 26) → am_chk (am_in x2 26) (am_GQ (49, 2, [(0, .ref 14), (1, .ref 11), (2, .int (x2 + (Int32.ofNat 1)))], [], (am_w g 15 (Int32.toNatClampNeg x2) (-1)), t) Q))) :
    am_GQ (49, 2, [(0, .ref 14), (1, .ref 11), (2, .int x2)], [], g, t) Q := am_wp_ok [2, 23, 67] 10 h
theorem B_Macros_findValues_23 {g : am_G} {t : Nat} {Q : am_R → Prop} {x2 : Int32}
    (h : am_GQ (34, 0, [(0, .ref 11)], [], g, t) (am_af 49 25 [(0, .ref 14), (1, .ref 11), (2, .int x2)] [.int x2] Q)) :
    am_GQ (49, 23, [(0, .ref 14), (1, .ref 11), (2, .int x2)], [], g, t) Q := am_wp_ok [2, 23, 67] 3 h
theorem B_Macros_findValues_28 {g : am_G} {t : Nat} {Q : am_R → Prop} {x2 : Int32} {s0 : Int32} {s1 : Int32}
    (h : (s0 ≤ s1 → Q (.inl none, g, t)) ∧ (s1 < s0 → am_GQ (37, 0, [(0, .ref 11), (1, .int x2), (2, .ref 2)], [], g, t) (am_af 49 36 [(0, .ref 14), (1, .ref 11), (2, .int x2)] [] Q))) :
    am_GQ (49, 28, [(0, .ref 14), (1, .ref 11), (2, .int x2)], [.int s0, .int s1], g, t) Q := am_wp_ok [2, 23, 67] 5 h
theorem B_Macros_findValues_39 {g : am_G} {t : Nat} {Q : am_R → Prop} {x2 : Int32} {s0 : Int32}
    (h : (s0 = (Int32.ofNat 0) → am_GQ (49, 67, [(0, .ref 14), (1, .ref 11), (2, .int x2)], [], g, t) Q) ∧ (¬ s0 = (Int32.ofNat 0) → am_GQ (44, 0, [(0, .ref 11), (1, .int x2)], [], g, t) (am_af 49 44 [(0, .ref 14), (1, .ref 11), (2, .int x2)] [] Q))) :
    am_GQ (49, 39, [(0, .ref 14), (1, .ref 11), (2, .int x2)], [.int s0], g, t) Q := am_wp_ok [2, 23, 67] 4 h
theorem B_Macros_findValues_67 {g : am_G} {t : Nat} {Q : am_R → Prop} {x2 : Int32}
    (h : am_GQ (49, 23, [(0, .ref 14), (1, .ref 11), (2, .int (x2 + (Int32.ofNat 1)))], [], g, t) Q) :
    am_GQ (49, 67, [(0, .ref 14), (1, .ref 11), (2, .int x2)], [], g, t) Q := am_wp_ok [2, 23, 67] 2 h
theorem B_Macros_findValues_47 {g : am_G} {t : Nat} {Q : am_R → Prop} {x2 : Int32} {s0 : Int32}
    (h : am_GQ (78, 0, [(0, .ref 9), (1, .int s0)], [], g, t) (am_af 49 57 [(0, .ref 14), (1, .ref 11), (2, .int x2), (3, .int s0)] [.ref 15] Q)) :
    am_GQ (49, 47, [(0, .ref 14), (1, .ref 11), (2, .int x2)], [.int s0], g, t) Q := am_wp_ok [2, 23, 67] 7 h
theorem B_Macros_findValues_60 {g : am_G} {t : Nat} {Q : am_R → Prop} {x2 : Int32} {x3 : Int32} {s0 : Int32}
    (h : am_chk (am_in (s0 - (Int32.ofNat 65)) 26) (am_GQ (49, 67, [(0, .ref 14), (1, .ref 11), (2, .int x2)], [], (am_w g 15 (Int32.toNatClampNeg (s0 - (Int32.ofNat 65))) (x3 + (Int32.ofNat 2))), t) Q)) :
    am_GQ (49, 60, [(0, .ref 14), (1, .ref 11), (2, .int x2), (3, .int x3)], [.int s0, .ref 15], g, t) Q := am_wp_ok [2, 23, 67] 6 h
theorem B_Macros_learn_0 {g : am_G} {t : Nat} {Q : am_R → Prop}
    (h : am_GQ (49, 0, [(0, .ref 14), (1, .ref 11)], [], g, t) (am_af 50 2 [(0, .ref 14), (1, .ref 11)] [] Q)) :
    am_GQ (50, 0, [(0, .ref 14), (1, .ref 11)], [], g, t) Q := am_wp_ok [] 3 h
theorem B_Macros_learn_5 {g : am_G} {t : Nat} {Q : am_R → Prop}
    (h : am_GQ (47, 0, [(0, .ref 14)], [], g, t) (am_af 50 6 [(0, .ref 14), (1, .ref 11)] [] Q)) :
    am_GQ (50, 5, [(0, .ref 14), (1, .ref 11)], [], g, t) Q := am_wp_ok [] 2 h
theorem B_Macros_learn_9 {g : am_G} {t : Nat} {Q : am_R → Prop}
    (h : am_GQ (48, 0, [(0, .ref 14)], [], g, t) (am_af 50 10 [(0, .ref 14), (1, .ref 11)] [] Q)) :
    am_GQ (50, 9, [(0, .ref 14), (1, .ref 11)], [], g, t) Q := am_wp_ok [] 2 h
theorem B_Macros_learn_13 {g : am_G} {t : Nat} {Q : am_R → Prop}
    (h : am_GQ (45, 0, [(0, .ref 14)], [], g, t) (am_af 50 14 [(0, .ref 14), (1, .ref 11)] [] Q)) :
    am_GQ (50, 13, [(0, .ref 14), (1, .ref 11)], [], g, t) Q := am_wp_ok [] 2 h
theorem B_Macros_learn_17 {g : am_G} {t : Nat} {Q : am_R → Prop}
    (h : Q (.inl none, g, t)) :
    am_GQ (50, 17, [(0, .ref 14), (1, .ref 11)], [], g, t) Q := am_wp_ok [] 1 h
theorem B_Macros_macrosIn_0 {g : am_G} {t : Nat} {Q : am_R → Prop} {x1 : Int32}
    (h : am_GQ (88, 0, [(0, .ref 9), (1, .int x1)], [], g, t) (am_af 51 5 [(0, .ref 14), (1, .int x1)] [] Q)) :
    am_GQ (51, 0, [(0, .ref 14), (1, .int x1)], [], g, t) Q := am_wp_ok [14, 47] 4 h
theorem B_Macros_macrosIn_8 {g : am_G} {t : Nat} {Q : am_R → Prop} {x1 : Int32} {s0 : Int32}
    (h : am_GQ (51, 14, [(0, .ref 14), (1, .int x1), (2, .int s0), (3, .int (Int32.ofNat 0)), (4, .int x1)], [], g, t) Q) :
    am_GQ (51, 8, [(0, .ref 14), (1, .int x1)], [.int s0], g, t) Q := am_wp_ok [14, 47] 5 h
theorem B_Macros_macrosIn_14 {g : am_G} {t : Nat} {Q : am_R → Prop} {x1 : Int32} {x2 : Int32} {x3 : Int32} {x4 : Int32}
    (h : (x2 ≤ x4 → Q (.inl (some (.int x3)), g, t)) ∧ (x4 < x2 → am_GQ (81, 0, [(0, .ref 9), (1, .int x4)], [], g, t) (am_af 51 26 [(0, .ref 14), (1, .int x1), (2, .int x2), (3, .int x3), (4, .int x4)] [] Q))) :
    am_GQ (51, 14, [(0, .ref 14), (1, .int x1), (2, .int x2), (3, .int x3), (4, .int x4)], [], g, t) Q := am_wp_ok [14, 47] 7 h
theorem B_Macros_macrosIn_29 {g : am_G} {t : Nat} {Q : am_R → Prop} {x1 : Int32} {x2 : Int32} {x3 : Int32} {x4 : Int32} {s0 : Int32}
    (h : (s0 = (Int32.ofNat 0) → am_GQ (51, 47, [(0, .ref 14), (1, .int x1), (2, .int x2), (3, .int x3), (4, .int x4)], [], g, t) Q) ∧ (¬ s0 = (Int32.ofNat 0) → am_GQ (85, 0, [(0, .ref 9), (1, .int x4)], [], g, t) (am_af 51 39 [(0, .ref 14), (1, .int x1), (2, .int x2), (3, .int x3), (4, .int x4)] [.int x3] Q))) :
    am_GQ (51, 29, [(0, .ref 14), (1, .int x1), (2, .int x2), (3, .int x3), (4, .int x4)], [.int s0], g, t) Q := am_wp_ok [14, 47] 6 h
theorem B_Macros_macrosIn_47 {g : am_G} {t : Nat} {Q : am_R → Prop} {x1 : Int32} {x2 : Int32} {x3 : Int32} {x4 : Int32}
    (h : am_GQ (51, 14, [(0, .ref 14), (1, .int x1), (2, .int x2), (3, .int x3), (4, .int (x4 + (Int32.ofNat 1)))], [], g, t) Q) :
    am_GQ (51, 47, [(0, .ref 14), (1, .int x1), (2, .int x2), (3, .int x3), (4, .int x4)], [], g, t) Q := am_wp_ok [14, 47] 2 h
theorem B_Macros_macrosIn_42 {g : am_G} {t : Nat} {Q : am_R → Prop} {x1 : Int32} {x2 : Int32} {x3 : Int32} {x4 : Int32} {s0 : Int32} {s1 : Int32}
    (h : am_GQ (16, 0, [(0, .int s0)], [], g, t) (am_af 51 42 [(0, .ref 14), (1, .int x1), (2, .int x2), (3, .int x3), (4, .int x4)] [.int s1] Q)) :
    am_GQ (51, 42, [(0, .ref 14), (1, .int x1), (2, .int x2), (3, .int x3), (4, .int x4)], [.int s0, .int s1], g, t) Q := am_wp_ok [14, 47] 1 h
theorem B_Macros_macrosIn_45 {g : am_G} {t : Nat} {Q : am_R → Prop} {x1 : Int32} {x2 : Int32} {x3 : Int32} {x4 : Int32} {s0 : Int32} {s1 : Int32}
    (h : am_GQ (51, 47, [(0, .ref 14), (1, .int x1), (2, .int x2), (3, .int (s1 ||| s0)), (4, .int x4)], [], g, t) Q) :
    am_GQ (51, 45, [(0, .ref 14), (1, .int x1), (2, .int x2), (3, .int x3), (4, .int x4)], [.int s0, .int s1], g, t) Q := am_wp_ok [14, 47] 2 h
theorem B_Macros_namesIn_0 {g : am_G} {t : Nat} {Q : am_R → Prop} {x1 : Int32}
    (h : am_GQ (88, 0, [(0, .ref 9), (1, .int x1)], [], g, t) (am_af 52 5 [(0, .ref 14), (1, .int x1)] [] Q)) :
    am_GQ (52, 0, [(0, .ref 14), (1, .int x1)], [], g, t) Q := am_wp_ok [14, 67] 4 h
theorem B_Macros_namesIn_8 {g : am_G} {t : Nat} {Q : am_R → Prop} {x1 : Int32} {s0 : Int32}
    (h : am_GQ (52, 14, [(0, .ref 14), (1, .int x1), (2, .int s0), (3, .int (Int32.ofNat 0)), (4, .int x1)], [], g, t) Q) :
    am_GQ (52, 8, [(0, .ref 14), (1, .int x1)], [.int s0], g, t) Q := am_wp_ok [14, 67] 5 h
theorem B_Macros_namesIn_14 {g : am_G} {t : Nat} {Q : am_R → Prop} {x1 : Int32} {x2 : Int32} {x3 : Int32} {x4 : Int32}
    (h : (x2 ≤ x4 → Q (.inl (some (.int (if (Int32.ofNat 65) < x3 then (Int32.ofNat 65) else x3))), g, t)) ∧ (x4 < x2 → am_GQ (82, 0, [(0, .ref 9), (1, .int x4)], [], g, t) (am_af 52 26 [(0, .ref 14), (1, .int x1), (2, .int x2), (3, .int x3), (4, .int x4)] [] Q))) :
    am_GQ (52, 14, [(0, .ref 14), (1, .int x1), (2, .int x2), (3, .int x3), (4, .int x4)], [], g, t) Q := am_wp_ok [14, 67] 7 h
theorem B_Macros_namesIn_29 {g : am_G} {t : Nat} {Q : am_R → Prop} {x1 : Int32} {x2 : Int32} {x3 : Int32} {x4 : Int32} {s0 : Int32}
    (h : (s0 = (Int32.ofNat 0) → am_GQ (81, 0, [(0, .ref 9), (1, .int x4)], [], g, t) (am_af 52 44 [(0, .ref 14), (1, .int x1), (2, .int x2), (3, .int x3), (4, .int x4)] [] Q)) ∧ (¬ s0 = (Int32.ofNat 0) → am_GQ (52, 67, [(0, .ref 14), (1, .int x1), (2, .int x2), (3, .int (x3 + (Int32.ofNat 1))), (4, .int x4)], [], g, t) Q)) :
    am_GQ (52, 29, [(0, .ref 14), (1, .int x1), (2, .int x2), (3, .int x3), (4, .int x4)], [.int s0], g, t) Q := am_wp_ok [14, 67] 5 h
theorem B_Macros_namesIn_47 {g : am_G} {t : Nat} {Q : am_R → Prop} {x1 : Int32} {x2 : Int32} {x3 : Int32} {x4 : Int32} {s0 : Int32}
    (h : (s0 = (Int32.ofNat 0) → am_GQ (52, 67, [(0, .ref 14), (1, .int x1), (2, .int x2), (3, .int x3), (4, .int x4)], [], g, t) Q) ∧ (¬ s0 = (Int32.ofNat 0) → am_GQ (85, 0, [(0, .ref 9), (1, .int x4)], [], g, t) (am_af 52 61 [(0, .ref 14), (1, .int x1), (2, .int x2), (3, .int x3), (4, .int x4)] [.ref 18, .int x3] Q))) :
    am_GQ (52, 47, [(0, .ref 14), (1, .int x1), (2, .int x2), (3, .int x3), (4, .int x4)], [.int s0], g, t) Q := am_wp_ok [14, 67] 8 h
theorem B_Macros_namesIn_67 {g : am_G} {t : Nat} {Q : am_R → Prop} {x1 : Int32} {x2 : Int32} {x3 : Int32} {x4 : Int32}
    (h : am_GQ (52, 14, [(0, .ref 14), (1, .int x1), (2, .int x2), (3, .int x3), (4, .int (x4 + (Int32.ofNat 1)))], [], g, t) Q) :
    am_GQ (52, 67, [(0, .ref 14), (1, .int x1), (2, .int x2), (3, .int x3), (4, .int x4)], [], g, t) Q := am_wp_ok [14, 67] 2 h
theorem B_Macros_namesIn_64 {g : am_G} {t : Nat} {Q : am_R → Prop} {x1 : Int32} {x2 : Int32} {x3 : Int32} {x4 : Int32} {s0 : Int32} {s2 : Int32}
    (h : am_chk (am_in s0 26) (am_GQ (52, 67, [(0, .ref 14), (1, .int x1), (2, .int x2), (3, .int (s2 + (g 18 (Int32.toNatClampNeg s0)))), (4, .int x4)], [], g, t) Q)) :
    am_GQ (52, 64, [(0, .ref 14), (1, .int x1), (2, .int x2), (3, .int x3), (4, .int x4)], [.int s0, .ref 18, .int s2], g, t) Q := am_wp_ok [14, 67] 3 h
theorem B_Macros_usesLooping_0 {g : am_G} {t : Nat} {Q : am_R → Prop} {x1 : Int32}
    (h : am_GQ (51, 0, [(0, .ref 14), (1, .int x1)], [], g, t) (am_af 53 2 [(0, .ref 14), (1, .int x1)] [] Q)) :
    am_GQ (53, 0, [(0, .ref 14), (1, .int x1)], [], g, t) Q := am_wp_ok [] 3 h
theorem B_Macros_usesLooping_5 {g : am_G} {t : Nat} {Q : am_R → Prop} {x1 : Int32} {s0 : Int32}
    (h : ((s0 &&& (g 14 5)) = (Int32.ofNat 0) → am_chk (am_isb (Int32.ofNat 0)) (Q (.inl (some (.int (Int32.ofNat 0))), g, t))) ∧ (¬ (s0 &&& (g 14 5)) = (Int32.ofNat 0) → am_chk (am_isb (Int32.ofNat 1)) (Q (.inl (some (.int (Int32.ofNat 1))), g, t)))) :
    am_GQ (53, 5, [(0, .ref 14), (1, .int x1)], [.int s0], g, t) Q := am_wp_ok [] 7 h
theorem B_Report_addRun_0 {g : am_G} {t : Nat} {Q : am_R → Prop} {x1 : Int32}
    (h : ((Int32.ofNat 32) ≤ (g 29 2) → Q (.inl none, g, t)) ∧ ((g 29 2) < (Int32.ofNat 32) → am_chk (am_in (g 29 2) 32) (Q (.inl none, (am_w (am_w g 30 (Int32.toNatClampNeg (g 29 2)) x1) 29 2 (((am_w g 30 (Int32.toNatClampNeg (g 29 2)) x1) 29 2) + (Int32.ofNat 1))), t)))) :
    am_GQ (54, 0, [(0, .ref 29), (1, .int x1)], [], g, t) Q := am_wp_ok [] 17 h
theorem B_Report_clear_0 {g : am_G} {t : Nat} {Q : am_R → Prop}
    (h : am_GQ (55, 7, [(0, .ref 29), (1, .int (Int32.ofNat 0))], [], (am_w g 29 2 (Int32.ofNat 0)), t) Q) :
    am_GQ (55, 0, [(0, .ref 29)], [], g, t) Q := am_wp_ok [7] 5 h
theorem B_Report_clear_7 {g : am_G} {t : Nat} {Q : am_R → Prop} {x1 : Int32}
    (h : ((Int32.ofNat 32) ≤ x1 → Q (.inl none, g, t)) ∧ (x1 < (Int32.ofNat 32) → am_chk (am_in x1 32) (am_GQ (55, 7, [(0, .ref 29), (1, .int (x1 + (Int32.ofNat 1)))], [], (am_w g 31 (Int32.toNatClampNeg x1) (Int32.ofNat 0)), t) Q))) :
    am_GQ (55, 7, [(0, .ref 29), (1, .int x1)], [], g, t) Q := am_wp_ok [7] 10 h
theorem B_Report_fileAt_0 {g : am_G} {t : Nat} {Q : am_R → Prop} {x1 : Int32}
    (h : (x1 < (Int32.ofNat 0) → Q (.inl (some (.int (-1))), g, t)) ∧ ((Int32.ofNat 0) ≤ x1 → ((g 29 2) ≤ x1 → Q (.inl (some (.int (-1))), g, t)) ∧ (x1 < (g 29 2) → am_chk (am_in x1 32) (Q (.inl (some (.int (g 30 (Int32.toNatClampNeg x1)))), g, t))))) :
    am_GQ (56, 0, [(0, .ref 29), (1, .int x1)], [], g, t) Q := am_wp_ok [] 12 h
theorem B_Report_putReason_0 {g : am_G} {t : Nat} {Q : am_R → Prop} {x1 : Int32} {x2 : Int32}
    (h : am_chk (am_in x1 32) (Q (.inl none, (am_w g 31 (Int32.toNatClampNeg x1) x2), t))) :
    am_GQ (57, 0, [(0, .ref 29), (1, .int x1), (2, .int x2)], [], g, t) Q := am_wp_ok [] 6 h
theorem B_Report_reasonOf_0 {g : am_G} {t : Nat} {Q : am_R → Prop} {x1 : Int32}
    (h : am_chk (am_in x1 32) (Q (.inl (some (.int (g 31 (Int32.toNatClampNeg x1)))), g, t))) :
    am_GQ (58, 0, [(0, .ref 29), (1, .int x1)], [], g, t) Q := am_wp_ok [] 5 h
theorem B_RuleLines_fill_0 {g : am_G} {t : Nat} {Q : am_R → Prop}
    (h : am_GQ (69, 0, [(0, .ref 20)], [], g, t) (am_af 59 3 [(0, .ref 19), (1, .ref 20), (2, .int (Int32.ofNat 0))] [] Q)) :
    am_GQ (59, 0, [(0, .ref 19), (1, .ref 20)], [], g, t) Q := am_wp_ok [8, 112] 4 h
theorem B_RuleLines_fill_6 {g : am_G} {t : Nat} {Q : am_R → Prop} {x2 : Int32}
    (h : am_GQ (59, 8, [(0, .ref 19), (1, .ref 20), (2, .int x2), (3, .int (Int32.ofNat 0))], [], g, t) Q) :
    am_GQ (59, 6, [(0, .ref 19), (1, .ref 20), (2, .int x2)], [], g, t) Q := am_wp_ok [8, 112] 2 h
theorem B_RuleLines_fill_8 {g : am_G} {t : Nat} {Q : am_R → Prop} {x2 : Int32} {x3 : Int32}
    (h : am_GQ (34, 0, [(0, .ref 11)], [], g, t) (am_af 59 13 [(0, .ref 19), (1, .ref 20), (2, .int x2), (3, .int x3)] [.int x3] Q)) :
    am_GQ (59, 8, [(0, .ref 19), (1, .ref 20), (2, .int x2), (3, .int x3)], [], g, t) Q := am_wp_ok [8, 112] 4 h
theorem B_RuleLines_fill_16 {g : am_G} {t : Nat} {Q : am_R → Prop} {x2 : Int32} {x3 : Int32} {s0 : Int32} {s1 : Int32}
    (h : (s0 ≤ s1 → Q (.inl (some (.int x2)), g, t)) ∧ (s1 < s0 → am_GQ (63, 0, [(0, .ref 19), (1, .int x3)], [], g, t) (am_af 59 21 [(0, .ref 19), (1, .ref 20), (2, .int x2), (3, .int x3)] [] Q))) :
    am_GQ (59, 16, [(0, .ref 19), (1, .ref 20), (2, .int x2), (3, .int x3)], [.int s0, .int s1], g, t) Q := am_wp_ok [8, 112] 4 h
theorem B_RuleLines_fill_24 {g : am_G} {t : Nat} {Q : am_R → Prop} {x2 : Int32} {x3 : Int32} {s0 : Int32}
    (h : (s0 = (Int32.ofNat 0) → am_GQ (37, 0, [(0, .ref 11), (1, .int x3), (2, .ref 4)], [], g, t) (am_af 59 70 [(0, .ref 19), (1, .ref 20), (2, .int x2), (3, .int x3)] [] Q)) ∧ (¬ s0 = (Int32.ofNat 0) → am_GQ (66, 0, [(0, .ref 19), (1, .int x3)], [], g, t) (am_af 59 30 [(0, .ref 19), (1, .ref 20), (2, .int x2), (3, .int x3)] [.ref 20] Q))) :
    am_GQ (59, 24, [(0, .ref 19), (1, .ref 20), (2, .int x2), (3, .int x3)], [.int s0], g, t) Q := am_wp_ok [8, 112] 6 h
theorem B_RuleLines_fill_73 {g : am_G} {t : Nat} {Q : am_R → Prop} {x2 : Int32} {x3 : Int32} {s0 : Int32}
    (h : (s0 = (Int32.ofNat 0) → am_GQ (59, 112, [(0, .ref 19), (1, .ref 20), (2, .int x2), (3, .int x3)], [], g, t) Q) ∧ (¬ s0 = (Int32.ofNat 0) → am_GQ (44, 0, [(0, .ref 11), (1, .int x3)], [], g, t) (am_af 59 81 [(0, .ref 19), (1, .ref 20), (2, .int x2), (3, .int x3)] [] Q))) :
    am_GQ (59, 73, [(0, .ref 19), (1, .ref 20), (2, .int x2), (3, .int x3)], [.int s0], g, t) Q := am_wp_ok [8, 112] 5 h
theorem B_RuleLines_fill_33 {g : am_G} {t : Nat} {Q : am_R → Prop} {x2 : Int32} {x3 : Int32} {s0 : Int32}
    (h : am_GQ (64, 0, [(0, .ref 19), (1, .int x3)], [], g, t) (am_af 59 39 [(0, .ref 19), (1, .ref 20), (2, .int x2), (3, .int x3)] [.ref 14, .int s0, .ref 20] Q)) :
    am_GQ (59, 33, [(0, .ref 19), (1, .ref 20), (2, .int x2), (3, .int x3)], [.int s0, .ref 20], g, t) Q := am_wp_ok [8, 112] 5 h
theorem B_RuleLines_fill_112 {g : am_G} {t : Nat} {Q : am_R → Prop} {x2 : Int32} {x3 : Int32}
    (h : am_GQ (59, 8, [(0, .ref 19), (1, .ref 20), (2, .int x2), (3, .int (x3 + (Int32.ofNat 1)))], [], g, t) Q) :
    am_GQ (59, 112, [(0, .ref 19), (1, .ref 20), (2, .int x2), (3, .int x3)], [], g, t) Q := am_wp_ok [8, 112] 2 h
theorem B_RuleLines_fill_84 {g : am_G} {t : Nat} {Q : am_R → Prop} {x2 : Int32} {x3 : Int32} {s0 : Int32}
    (h : am_GQ (84, 0, [(0, .ref 9), (1, .int (s0 + (Int32.ofNat 1)))], [], g, t) (am_af 59 95 [(0, .ref 19), (1, .ref 20), (2, .int x2), (3, .int x3), (4, .int s0)] [.ref 20] Q)) :
    am_GQ (59, 84, [(0, .ref 19), (1, .ref 20), (2, .int x2), (3, .int x3)], [.int s0], g, t) Q := am_wp_ok [8, 112] 8 h
theorem B_RuleLines_fill_42 {g : am_G} {t : Nat} {Q : am_R → Prop} {x2 : Int32} {x3 : Int32} {s0 : Int32} {s2 : Int32}
    (h : am_GQ (46, 0, [(0, .ref 14), (1, .int s0)], [], g, t) (am_af 59 42 [(0, .ref 19), (1, .ref 20), (2, .int x2), (3, .int x3)] [.int s2, .ref 20] Q)) :
    am_GQ (59, 42, [(0, .ref 19), (1, .ref 20), (2, .int x2), (3, .int x3)], [.int s0, .ref 14, .int s2, .ref 20], g, t) Q := am_wp_ok [8, 112] 1 h
theorem B_RuleLines_fill_98 {g : am_G} {t : Nat} {Q : am_R → Prop} {x2 : Int32} {x3 : Int32} {x4 : Int32} {s0 : Int32}
    (h : am_GQ (84, 0, [(0, .ref 9), (1, .int (x4 + (Int32.ofNat 4)))], [], g, t) (am_af 59 106 [(0, .ref 19), (1, .ref 20), (2, .int x2), (3, .int x3), (4, .int x4)] [.int s0, .ref 20] Q)) :
    am_GQ (59, 98, [(0, .ref 19), (1, .ref 20), (2, .int x2), (3, .int x3), (4, .int x4)], [.int s0, .ref 20], g, t) Q := am_wp_ok [8, 112] 6 h
theorem B_RuleLines_fill_45 {g : am_G} {t : Nat} {Q : am_R → Prop} {x2 : Int32} {x3 : Int32} {s0 : Int32} {s1 : Int32}
    (h : am_GQ (36, 0, [(0, .ref 11), (1, .int x3)], [], g, t) (am_af 59 50 [(0, .ref 19), (1, .ref 20), (2, .int x2), (3, .int x3)] [.int s0, .int s1, .ref 20] Q)) :
    am_GQ (59, 45, [(0, .ref 19), (1, .ref 20), (2, .int x2), (3, .int x3)], [.int s0, .int s1, .ref 20], g, t) Q := am_wp_ok [8, 112] 4 h
theorem B_RuleLines_fill_109 {g : am_G} {t : Nat} {Q : am_R → Prop} {x2 : Int32} {x3 : Int32} {x4 : Int32} {s0 : Int32} {s1 : Int32}
    (h : am_GQ (67, 0, [(0, .ref 20), (1, .int s1), (2, .int s0)], [], g, t) (am_af 59 109 [(0, .ref 19), (1, .ref 20), (2, .int x2), (3, .int x3), (4, .int x4)] [] Q)) :
    am_GQ (59, 109, [(0, .ref 19), (1, .ref 20), (2, .int x2), (3, .int x3), (4, .int x4)], [.int s0, .int s1, .ref 20], g, t) Q := am_wp_ok [8, 112] 1 h
theorem B_RuleLines_fill_53 {g : am_G} {t : Nat} {Q : am_R → Prop} {x2 : Int32} {x3 : Int32} {s0 : Int32} {s1 : Int32} {s2 : Int32}
    (h : am_GQ (68, 0, [(0, .ref 20), (1, .int s2), (2, .int s1), (3, .int s0)], [], g, t) (am_af 59 53 [(0, .ref 19), (1, .ref 20), (2, .int x2), (3, .int x3)] [] Q)) :
    am_GQ (59, 53, [(0, .ref 19), (1, .ref 20), (2, .int x2), (3, .int x3)], [.int s0, .int s1, .int s2, .ref 20], g, t) Q := am_wp_ok [8, 112] 1 h
theorem B_RuleLines_fill_112_b {g : am_G} {t : Nat} {Q : am_R → Prop} {x2 : Int32} {x3 : Int32} {x4 : Int32}
    (h : am_GQ (59, 8, [(0, .ref 19), (1, .ref 20), (2, .int x2), (3, .int (x3 + (Int32.ofNat 1)))], [], g, t) Q) :
    am_GQ (59, 112, [(0, .ref 19), (1, .ref 20), (2, .int x2), (3, .int x3), (4, .int x4)], [], g, t) Q := am_wp_ok [8, 112] 2 h
theorem B_RuleLines_fill_56 {g : am_G} {t : Nat} {Q : am_R → Prop} {x2 : Int32} {x3 : Int32}
    (h : am_GQ (59, 112, [(0, .ref 19), (1, .ref 20), (2, .int (x2 + (Int32.ofNat 1))), (3, .int x3)], [], g, t) Q) :
    am_GQ (59, 56, [(0, .ref 19), (1, .ref 20), (2, .int x2), (3, .int x3)], [], g, t) Q := am_wp_ok [8, 112] 2 h
theorem B_RuleLines_firstDoubled_0 {g : am_G} {t : Nat} {Q : am_R → Prop}
    (h : am_GQ (60, 4, [(0, .ref 19), (1, .int (Int32.ofNat 0)), (2, .int (Int32.ofNat 0))], [], g, t) Q) :
    am_GQ (60, 0, [(0, .ref 19)], [], g, t) Q := am_wp_ok [4, 56] 4 h
theorem B_RuleLines_firstDoubled_4 {g : am_G} {t : Nat} {Q : am_R → Prop} {x1 : Int32} {x2 : Int32}
    (h : am_GQ (34, 0, [(0, .ref 11)], [], g, t) (am_af 60 9 [(0, .ref 19), (1, .int x1), (2, .int x2)] [.int x2] Q)) :
    am_GQ (60, 4, [(0, .ref 19), (1, .int x1), (2, .int x2)], [], g, t) Q := am_wp_ok [4, 56] 4 h
theorem B_RuleLines_firstDoubled_12 {g : am_G} {t : Nat} {Q : am_R → Prop} {x1 : Int32} {x2 : Int32} {s0 : Int32} {s1 : Int32}
    (h : (s0 ≤ s1 → Q (.inl (some (.int (Int32.ofNat 0))), g, t)) ∧ (s1 < s0 → am_GQ (63, 0, [(0, .ref 19), (1, .int x2)], [], g, t) (am_af 60 17 [(0, .ref 19), (1, .int x1), (2, .int x2)] [] Q))) :
    am_GQ (60, 12, [(0, .ref 19), (1, .int x1), (2, .int x2)], [.int s0, .int s1], g, t) Q := am_wp_ok [4, 56] 4 h
theorem B_RuleLines_firstDoubled_20 {g : am_G} {t : Nat} {Q : am_R → Prop} {x1 : Int32} {x2 : Int32} {s0 : Int32}
    (h : (s0 = (Int32.ofNat 0) → am_GQ (60, 56, [(0, .ref 19), (1, .int x1), (2, .int x2)], [], g, t) Q) ∧ (¬ s0 = (Int32.ofNat 0) → am_GQ (36, 0, [(0, .ref 11), (1, .int x2)], [], g, t) (am_af 60 28 [(0, .ref 19), (1, .int x1), (2, .int x2)] [] Q))) :
    am_GQ (60, 20, [(0, .ref 19), (1, .int x1), (2, .int x2)], [.int s0], g, t) Q := am_wp_ok [4, 56] 5 h
theorem B_RuleLines_firstDoubled_56 {g : am_G} {t : Nat} {Q : am_R → Prop} {x1 : Int32} {x2 : Int32}
    (h : am_GQ (60, 4, [(0, .ref 19), (1, .int x1), (2, .int (x2 + (Int32.ofNat 1)))], [], g, t) Q) :
    am_GQ (60, 56, [(0, .ref 19), (1, .int x1), (2, .int x2)], [], g, t) Q := am_wp_ok [4, 56] 2 h
theorem B_RuleLines_firstDoubled_31 {g : am_G} {t : Nat} {Q : am_R → Prop} {x1 : Int32} {x2 : Int32} {s0 : Int32}
    (h : (s0 = (Int32.ofNat 0) → am_GQ (60, 56, [(0, .ref 19), (1, .int x1), (2, .int x2)], [], g, t) Q) ∧ (¬ s0 = (Int32.ofNat 0) → am_GQ (66, 0, [(0, .ref 19), (1, .int x2)], [], g, t) (am_af 60 37 [(0, .ref 19), (1, .int x1), (2, .int x2)] [.int x1] Q))) :
    am_GQ (60, 31, [(0, .ref 19), (1, .int x1), (2, .int x2)], [.int s0], g, t) Q := am_wp_ok [4, 56] 5 h
theorem B_RuleLines_firstDoubled_40 {g : am_G} {t : Nat} {Q : am_R → Prop} {x1 : Int32} {x2 : Int32} {s0 : Int32} {s1 : Int32}
    (h : ((s1 &&& s0) = (Int32.ofNat 0) → am_GQ (66, 0, [(0, .ref 19), (1, .int x2)], [], g, t) (am_af 60 51 [(0, .ref 19), (1, .int x1), (2, .int x2)] [.int x1] Q)) ∧ (¬ (s1 &&& s0) = (Int32.ofNat 0) → Q (.inl (some (.int (x2 + (Int32.ofNat 1)))), g, t))) :
    am_GQ (60, 40, [(0, .ref 19), (1, .int x1), (2, .int x2)], [.int s0, .int s1], g, t) Q := am_wp_ok [4, 56] 6 h
theorem B_RuleLines_firstDoubled_54 {g : am_G} {t : Nat} {Q : am_R → Prop} {x1 : Int32} {x2 : Int32} {s0 : Int32} {s1 : Int32}
    (h : am_GQ (60, 56, [(0, .ref 19), (1, .int (s1 ||| s0)), (2, .int x2)], [], g, t) Q) :
    am_GQ (60, 54, [(0, .ref 19), (1, .int x1), (2, .int x2)], [.int s0, .int s1], g, t) Q := am_wp_ok [4, 56] 2 h
theorem B_RuleLines_firstLooping_0 {g : am_G} {t : Nat} {Q : am_R → Prop}
    (h : am_GQ (61, 2, [(0, .ref 19), (1, .int (Int32.ofNat 0))], [], g, t) Q) :
    am_GQ (61, 0, [(0, .ref 19)], [], g, t) Q := am_wp_ok [2, 55] 2 h
theorem B_RuleLines_firstLooping_2 {g : am_G} {t : Nat} {Q : am_R → Prop} {x1 : Int32}
    (h : am_GQ (34, 0, [(0, .ref 11)], [], g, t) (am_af 61 7 [(0, .ref 19), (1, .int x1)] [.int x1] Q)) :
    am_GQ (61, 2, [(0, .ref 19), (1, .int x1)], [], g, t) Q := am_wp_ok [2, 55] 4 h
theorem B_RuleLines_firstLooping_10 {g : am_G} {t : Nat} {Q : am_R → Prop} {x1 : Int32} {s0 : Int32} {s1 : Int32}
    (h : (s0 ≤ s1 → Q (.inl (some (.int (Int32.ofNat 0))), g, t)) ∧ (s1 < s0 → am_GQ (63, 0, [(0, .ref 19), (1, .int x1)], [], g, t) (am_af 61 15 [(0, .ref 19), (1, .int x1)] [] Q))) :
    am_GQ (61, 10, [(0, .ref 19), (1, .int x1)], [.int s0, .int s1], g, t) Q := am_wp_ok [2, 55] 4 h
theorem B_RuleLines_firstLooping_18 {g : am_G} {t : Nat} {Q : am_R → Prop} {x1 : Int32} {s0 : Int32}
    (h : (s0 = (Int32.ofNat 0) → am_GQ (61, 55, [(0, .ref 19), (1, .int x1)], [], g, t) Q) ∧ (¬ s0 = (Int32.ofNat 0) → am_GQ (65, 0, [(0, .ref 19), (1, .int x1)], [], g, t) (am_af 61 27 [(0, .ref 19), (1, .int x1)] [.ref 14] Q))) :
    am_GQ (61, 18, [(0, .ref 19), (1, .int x1)], [.int s0], g, t) Q := am_wp_ok [2, 55] 6 h
theorem B_RuleLines_firstLooping_55 {g : am_G} {t : Nat} {Q : am_R → Prop} {x1 : Int32}
    (h : am_GQ (61, 2, [(0, .ref 19), (1, .int (x1 + (Int32.ofNat 1)))], [], g, t) Q) :
    am_GQ (61, 55, [(0, .ref 19), (1, .int x1)], [], g, t) Q := am_wp_ok [2, 55] 2 h
theorem B_RuleLines_firstLooping_30 {g : am_G} {t : Nat} {Q : am_R → Prop} {x1 : Int32} {s0 : Int32}
    (h : am_GQ (53, 0, [(0, .ref 14), (1, .int s0)], [], g, t) (am_af 61 30 [(0, .ref 19), (1, .int x1)] [] Q)) :
    am_GQ (61, 30, [(0, .ref 19), (1, .int x1)], [.int s0, .ref 14], g, t) Q := am_wp_ok [2, 55] 1 h
theorem B_RuleLines_firstLooping_33 {g : am_G} {t : Nat} {Q : am_R → Prop} {x1 : Int32} {s0 : Int32}
    (h : (¬ s0 = (Int32.ofNat 0) → Q (.inl (some (.int (x1 + (Int32.ofNat 1)))), g, t)) ∧ (s0 = (Int32.ofNat 0) → am_GQ (64, 0, [(0, .ref 19), (1, .int x1)], [], g, t) (am_af 61 42 [(0, .ref 19), (1, .int x1)] [.ref 14] Q))) :
    am_GQ (61, 33, [(0, .ref 19), (1, .int x1)], [.int s0], g, t) Q := am_wp_ok [2, 55] 6 h
theorem B_RuleLines_firstLooping_45 {g : am_G} {t : Nat} {Q : am_R → Prop} {x1 : Int32} {s0 : Int32}
    (h : am_GQ (53, 0, [(0, .ref 14), (1, .int s0)], [], g, t) (am_af 61 45 [(0, .ref 19), (1, .int x1)] [] Q)) :
    am_GQ (61, 45, [(0, .ref 19), (1, .int x1)], [.int s0, .ref 14], g, t) Q := am_wp_ok [2, 55] 1 h
theorem B_RuleLines_firstLooping_48 {g : am_G} {t : Nat} {Q : am_R → Prop} {x1 : Int32} {s0 : Int32}
    (h : (s0 = (Int32.ofNat 0) → am_GQ (61, 55, [(0, .ref 19), (1, .int x1)], [], g, t) Q) ∧ (¬ s0 = (Int32.ofNat 0) → Q (.inl (some (.int (x1 + (Int32.ofNat 1)))), g, t))) :
    am_GQ (61, 48, [(0, .ref 19), (1, .int x1)], [.int s0], g, t) Q := am_wp_ok [2, 55] 5 h
theorem B_RuleLines_firstTooLong_0 {g : am_G} {t : Nat} {Q : am_R → Prop}
    (h : am_GQ (62, 2, [(0, .ref 19), (1, .int (Int32.ofNat 0))], [], g, t) Q) :
    am_GQ (62, 0, [(0, .ref 19)], [], g, t) Q := am_wp_ok [2, 55] 2 h
theorem B_RuleLines_firstTooLong_2 {g : am_G} {t : Nat} {Q : am_R → Prop} {x1 : Int32}
    (h : am_GQ (34, 0, [(0, .ref 11)], [], g, t) (am_af 62 7 [(0, .ref 19), (1, .int x1)] [.int x1] Q)) :
    am_GQ (62, 2, [(0, .ref 19), (1, .int x1)], [], g, t) Q := am_wp_ok [2, 55] 4 h
theorem B_RuleLines_firstTooLong_10 {g : am_G} {t : Nat} {Q : am_R → Prop} {x1 : Int32} {s0 : Int32} {s1 : Int32}
    (h : (s0 ≤ s1 → Q (.inl (some (.int (Int32.ofNat 0))), g, t)) ∧ (s1 < s0 → am_GQ (63, 0, [(0, .ref 19), (1, .int x1)], [], g, t) (am_af 62 15 [(0, .ref 19), (1, .int x1)] [] Q))) :
    am_GQ (62, 10, [(0, .ref 19), (1, .int x1)], [.int s0, .int s1], g, t) Q := am_wp_ok [2, 55] 4 h
theorem B_RuleLines_firstTooLong_18 {g : am_G} {t : Nat} {Q : am_R → Prop} {x1 : Int32} {s0 : Int32}
    (h : (s0 = (Int32.ofNat 0) → am_GQ (62, 55, [(0, .ref 19), (1, .int x1)], [], g, t) Q) ∧ (¬ s0 = (Int32.ofNat 0) → am_GQ (65, 0, [(0, .ref 19), (1, .int x1)], [], g, t) (am_af 62 27 [(0, .ref 19), (1, .int x1)] [.ref 14] Q))) :
    am_GQ (62, 18, [(0, .ref 19), (1, .int x1)], [.int s0], g, t) Q := am_wp_ok [2, 55] 6 h
theorem B_RuleLines_firstTooLong_55 {g : am_G} {t : Nat} {Q : am_R → Prop} {x1 : Int32}
    (h : am_GQ (62, 2, [(0, .ref 19), (1, .int (x1 + (Int32.ofNat 1)))], [], g, t) Q) :
    am_GQ (62, 55, [(0, .ref 19), (1, .int x1)], [], g, t) Q := am_wp_ok [2, 55] 2 h
theorem B_RuleLines_firstTooLong_30 {g : am_G} {t : Nat} {Q : am_R → Prop} {x1 : Int32} {s0 : Int32}
    (h : am_GQ (52, 0, [(0, .ref 14), (1, .int s0)], [], g, t) (am_af 62 30 [(0, .ref 19), (1, .int x1)] [] Q)) :
    am_GQ (62, 30, [(0, .ref 19), (1, .int x1)], [.int s0, .ref 14], g, t) Q := am_wp_ok [2, 55] 1 h
theorem B_RuleLines_firstTooLong_33 {g : am_G} {t : Nat} {Q : am_R → Prop} {x1 : Int32} {s0 : Int32}
    (h : am_GQ (64, 0, [(0, .ref 19), (1, .int x1)], [], g, t) (am_af 62 39 [(0, .ref 19), (1, .int x1)] [.ref 14, .int s0] Q)) :
    am_GQ (62, 33, [(0, .ref 19), (1, .int x1)], [.int s0], g, t) Q := am_wp_ok [2, 55] 5 h
theorem B_RuleLines_firstTooLong_42 {g : am_G} {t : Nat} {Q : am_R → Prop} {x1 : Int32} {s0 : Int32} {s2 : Int32}
    (h : am_GQ (52, 0, [(0, .ref 14), (1, .int s0)], [], g, t) (am_af 62 42 [(0, .ref 19), (1, .int x1)] [.int s2] Q)) :
    am_GQ (62, 42, [(0, .ref 19), (1, .int x1)], [.int s0, .ref 14, .int s2], g, t) Q := am_wp_ok [2, 55] 1 h
theorem B_RuleLines_firstTooLong_45 {g : am_G} {t : Nat} {Q : am_R → Prop} {x1 : Int32} {s0 : Int32} {s1 : Int32}
    (h : ((s1 + s0) ≤ (Int32.ofNat 64) → am_GQ (62, 55, [(0, .ref 19), (1, .int x1)], [], g, t) Q) ∧ ((Int32.ofNat 64) < (s1 + s0) → Q (.inl (some (.int (x1 + (Int32.ofNat 1)))), g, t))) :
    am_GQ (62, 45, [(0, .ref 19), (1, .int x1)], [.int s0, .int s1], g, t) Q := am_wp_ok [2, 55] 7 h
theorem B_RuleLines_isRule_0 {g : am_G} {t : Nat} {Q : am_R → Prop} {x1 : Int32}
    (h : am_GQ (37, 0, [(0, .ref 11), (1, .int x1), (2, .ref 3)], [], g, t) (am_af 63 8 [(0, .ref 19), (1, .int x1)] [] Q)) :
    am_GQ (63, 0, [(0, .ref 19), (1, .int x1)], [], g, t) Q := am_wp_ok [] 5 h
theorem B_RuleLines_isRule_11 {g : am_G} {t : Nat} {Q : am_R → Prop} {x1 : Int32} {s0 : Int32}
    (h : am_chk (am_isb s0) (Q (.inl (some (.int s0)), g, t))) :
    am_GQ (63, 11, [(0, .ref 19), (1, .int x1)], [.int s0], g, t) Q := am_wp_ok [] 1 h
theorem B_RuleLines_sourcePhrase_0 {g : am_G} {t : Nat} {Q : am_R → Prop} {x1 : Int32}
    (h : am_GQ (44, 0, [(0, .ref 11), (1, .int x1)], [], g, t) (am_af 64 9 [(0, .ref 19), (1, .int x1)] [.ref 9] Q)) :
    am_GQ (64, 0, [(0, .ref 19), (1, .int x1)], [], g, t) Q := am_wp_ok [] 6 h
theorem B_RuleLines_sourcePhrase_12 {g : am_G} {t : Nat} {Q : am_R → Prop} {x1 : Int32} {s0 : Int32}
    (h : am_GQ (88, 0, [(0, .ref 9), (1, .int s0)], [], g, t) (am_af 64 12 [(0, .ref 19), (1, .int x1)] [] Q)) :
    am_GQ (64, 12, [(0, .ref 19), (1, .int x1)], [.int s0, .ref 9], g, t) Q := am_wp_ok [] 1 h
theorem B_RuleLines_sourcePhrase_15 {g : am_G} {t : Nat} {Q : am_R → Prop} {x1 : Int32} {s0 : Int32}
    (h : Q (.inl (some (.int (s0 + (Int32.ofNat 1)))), g, t)) :
    am_GQ (64, 15, [(0, .ref 19), (1, .int x1)], [.int s0], g, t) Q := am_wp_ok [] 3 h
theorem B_RuleLines_targetPhrase_0 {g : am_G} {t : Nat} {Q : am_R → Prop} {x1 : Int32}
    (h : am_GQ (44, 0, [(0, .ref 11), (1, .int x1)], [], g, t) (am_af 65 5 [(0, .ref 19), (1, .int x1)] [] Q)) :
    am_GQ (65, 0, [(0, .ref 19), (1, .int x1)], [], g, t) Q := am_wp_ok [] 4 h
theorem B_RuleLines_targetPhrase_8 {g : am_G} {t : Nat} {Q : am_R → Prop} {x1 : Int32} {s0 : Int32}
    (h : Q (.inl (some (.int s0)), g, t)) :
    am_GQ (65, 8, [(0, .ref 19), (1, .int x1)], [.int s0], g, t) Q := am_wp_ok [] 1 h
theorem B_RuleLines_targets_0 {g : am_G} {t : Nat} {Q : am_R → Prop} {x1 : Int32}
    (h : am_GQ (65, 0, [(0, .ref 19), (1, .int x1)], [], g, t) (am_af 66 6 [(0, .ref 19), (1, .int x1)] [.ref 14] Q)) :
    am_GQ (66, 0, [(0, .ref 19), (1, .int x1)], [], g, t) Q := am_wp_ok [] 5 h
theorem B_RuleLines_targets_9 {g : am_G} {t : Nat} {Q : am_R → Prop} {x1 : Int32} {s0 : Int32}
    (h : am_GQ (46, 0, [(0, .ref 14), (1, .int s0)], [], g, t) (am_af 66 9 [(0, .ref 19), (1, .int x1)] [] Q)) :
    am_GQ (66, 9, [(0, .ref 19), (1, .int x1)], [.int s0, .ref 14], g, t) Q := am_wp_ok [] 1 h
theorem B_RuleLines_targets_12 {g : am_G} {t : Nat} {Q : am_R → Prop} {x1 : Int32} {s0 : Int32}
    (h : Q (.inl (some (.int s0)), g, t)) :
    am_GQ (66, 12, [(0, .ref 19), (1, .int x1)], [.int s0], g, t) Q := am_wp_ok [] 1 h
theorem B_Rules_addPattern_0 {g : am_G} {t : Nat} {Q : am_R → Prop} {x1 : Int32} {x2 : Int32}
    (h : ((Int32.ofNat 30) ≤ (g 20 4) → Q (.inl none, g, t)) ∧ ((g 20 4) < (Int32.ofNat 30) → am_chk (am_in (g 20 4) 30) (am_chk (am_in ((am_w g 22 (Int32.toNatClampNeg (g 20 4)) x1) 20 4) 30) (Q (.inl none, (am_w (am_w (am_w g 22 (Int32.toNatClampNeg (g 20 4)) x1) 23 (Int32.toNatClampNeg ((am_w g 22 (Int32.toNatClampNeg (g 20 4)) x1) 20 4)) x2) 20 4 (((am_w (am_w g 22 (Int32.toNatClampNeg (g 20 4)) x1) 23 (Int32.toNatClampNeg ((am_w g 22 (Int32.toNatClampNeg (g 20 4)) x1) 20 4)) x2) 20 4) + (Int32.ofNat 1))), t))))) :
    am_GQ (67, 0, [(0, .ref 20), (1, .int x1), (2, .int x2)], [], g, t) Q := am_wp_ok [] 23 h
theorem B_Rules_addRule_0 {g : am_G} {t : Nat} {Q : am_R → Prop} {x1 : Int32} {x2 : Int32} {x3 : Int32}
    (h : am_GQ (68, 3, [(0, .ref 20), (1, .int x1), (2, .int x2), (3, .int x3), (4, .int (Int32.ofNat 0))], [], g, t) Q) :
    am_GQ (68, 0, [(0, .ref 20), (1, .int x1), (2, .int x2), (3, .int x3)], [], g, t) Q := am_wp_ok [3, 30] 2 h
theorem B_Rules_addRule_3 {g : am_G} {t : Nat} {Q : am_R → Prop} {x1 : Int32} {x2 : Int32} {x3 : Int32} {x4 : Int32}
    (h : ((Int32.ofNat 32) ≤ x4 → (x3 = (Int32.ofNat 0) → Q (.inl none, g, t)) ∧ (¬ x3 = (Int32.ofNat 0) → Q (.inl none, (am_w g 20 3 ((g 20 3) ||| x1)), t))) ∧ (x4 < (Int32.ofNat 32) → am_GQ (3, 0, [(0, .int x1), (1, .int x4)], [], g, t) (am_af 68 13 [(0, .ref 20), (1, .int x1), (2, .int x2), (3, .int x3), (4, .int x4)] [] Q))) :
    am_GQ (68, 3, [(0, .ref 20), (1, .int x1), (2, .int x2), (3, .int x3), (4, .int x4)], [], g, t) Q := am_wp_ok [3, 30] 12 h
theorem B_Rules_addRule_16 {g : am_G} {t : Nat} {Q : am_R → Prop} {x1 : Int32} {x2 : Int32} {x3 : Int32} {x4 : Int32} {s0 : Int32}
    (h : (s0 = (Int32.ofNat 0) → am_GQ (68, 30, [(0, .ref 20), (1, .int x1), (2, .int x2), (3, .int x3), (4, .int x4)], [], g, t) Q) ∧ (¬ s0 = (Int32.ofNat 0) → am_chk (am_in x4 32) (am_chk (am_in x4 32) (am_GQ (68, 30, [(0, .ref 20), (1, .int x1), (2, .int x2), (3, .int x3), (4, .int x4)], [], (am_w g 21 (Int32.toNatClampNeg x4) ((g 21 (Int32.toNatClampNeg x4)) ||| x2)), t) Q)))) :
    am_GQ (68, 16, [(0, .ref 20), (1, .int x1), (2, .int x2), (3, .int x3), (4, .int x4)], [.int s0], g, t) Q := am_wp_ok [3, 30] 9 h
theorem B_Rules_addRule_30 {g : am_G} {t : Nat} {Q : am_R → Prop} {x1 : Int32} {x2 : Int32} {x3 : Int32} {x4 : Int32}
    (h : am_GQ (68, 3, [(0, .ref 20), (1, .int x1), (2, .int x2), (3, .int x3), (4, .int (x4 + (Int32.ofNat 1)))], [], g, t) Q) :
    am_GQ (68, 30, [(0, .ref 20), (1, .int x1), (2, .int x2), (3, .int x3), (4, .int x4)], [], g, t) Q := am_wp_ok [3, 30] 2 h
theorem B_Rules_clear_0 {g : am_G} {t : Nat} {Q : am_R → Prop}
    (h : am_GQ (69, 2, [(0, .ref 20), (1, .int (Int32.ofNat 0))], [], g, t) Q) :
    am_GQ (69, 0, [(0, .ref 20)], [], g, t) Q := am_wp_ok [2] 2 h
theorem B_Rules_clear_2 {g : am_G} {t : Nat} {Q : am_R → Prop} {x1 : Int32}
    (h : ((Int32.ofNat 32) ≤ x1 → Q (.inl none, (am_w (am_w g 20 3 (Int32.ofNat 0)) 20 4 (Int32.ofNat 0)), t)) ∧ (x1 < (Int32.ofNat 32) → am_chk (am_in x1 32) (am_GQ (69, 2, [(0, .ref 20), (1, .int (x1 + (Int32.ofNat 1)))], [], (am_w g 21 (Int32.toNatClampNeg x1) (Int32.ofNat 0)), t) Q))) :
    am_GQ (69, 2, [(0, .ref 20), (1, .int x1)], [], g, t) Q := am_wp_ok [2] 10 h
theorem B_Rules_patternSource_0 {g : am_G} {t : Nat} {Q : am_R → Prop} {x1 : Int32} {x2 : Int32}
    (h : am_chk (decide (¬ (Int32.ofNat 4) = Int32.ofNat 0)) (am_GQ (70, 7, [(0, .ref 20), (1, .int x1), (2, .int x2), (3, .int (x1 - x1 / (Int32.ofNat 4) * (Int32.ofNat 4))), (4, .int (Int32.ofNat 0))], [], g, t) Q)) :
    am_GQ (70, 0, [(0, .ref 20), (1, .int x1), (2, .int x2)], [], g, t) Q := am_wp_ok [7, 52] 6 h
theorem B_Rules_patternSource_7 {g : am_G} {t : Nat} {Q : am_R → Prop} {x1 : Int32} {x2 : Int32} {x3 : Int32} {x4 : Int32}
    (h : ((g 20 4) ≤ x4 → Q (.inl (some (.int (-1))), g, t)) ∧ (x4 < (g 20 4) → am_chk (am_in x4 30) (am_chk (am_in x4 30) ((¬ (g 22 (Int32.toNatClampNeg x4)) = x3 → am_GQ (70, 52, [(0, .ref 20), (1, .int x1), (2, .int x2), (3, .int x3), (4, .int x4)], [], g, t) Q) ∧ ((g 22 (Int32.toNatClampNeg x4)) = x3 → am_GQ (3, 0, [(0, .int x2), (1, .int ((x1 - x3) + (g 23 (Int32.toNatClampNeg x4))))], [], g, t) (am_af 70 43 [(0, .ref 20), (1, .int x1), (2, .int x2), (3, .int x3), (4, .int x4), (5, .int ((x1 - x3) + (g 23 (Int32.toNatClampNeg x4))))] [] Q)))))) :
    am_GQ (70, 7, [(0, .ref 20), (1, .int x1), (2, .int x2), (3, .int x3), (4, .int x4)], [], g, t) Q := am_wp_ok [7, 52] 22 h
theorem B_Rules_patternSource_52 {g : am_G} {t : Nat} {Q : am_R → Prop} {x1 : Int32} {x2 : Int32} {x3 : Int32} {x4 : Int32}
    (h : am_GQ (70, 7, [(0, .ref 20), (1, .int x1), (2, .int x2), (3, .int x3), (4, .int (x4 + (Int32.ofNat 1)))], [], g, t) Q) :
    am_GQ (70, 52, [(0, .ref 20), (1, .int x1), (2, .int x2), (3, .int x3), (4, .int x4)], [], g, t) Q := am_wp_ok [7, 52] 2 h
theorem B_Rules_patternSource_46 {g : am_G} {t : Nat} {Q : am_R → Prop} {x1 : Int32} {x2 : Int32} {x3 : Int32} {x4 : Int32} {x5 : Int32} {s0 : Int32}
    (h : (s0 = (Int32.ofNat 0) → am_GQ (70, 52, [(0, .ref 20), (1, .int x1), (2, .int x2), (3, .int x3), (4, .int x4)], [], g, t) Q) ∧ (¬ s0 = (Int32.ofNat 0) → Q (.inl (some (.int x5)), g, t))) :
    am_GQ (70, 46, [(0, .ref 20), (1, .int x1), (2, .int x2), (3, .int x3), (4, .int x4), (5, .int x5)], [.int s0], g, t) Q := am_wp_ok [7, 52] 3 h
theorem B_Rules_sourcesOf_0 {g : am_G} {t : Nat} {Q : am_R → Prop} {x1 : Int32}
    (h : am_chk (am_in x1 32) (Q (.inl (some (.int (g 21 (Int32.toNatClampNeg x1)))), g, t))) :
    am_GQ (71, 0, [(0, .ref 20), (1, .int x1)], [], g, t) Q := am_wp_ok [] 5 h
theorem B_Rules_withRecipe_0 {g : am_G} {t : Nat} {Q : am_R → Prop}
    (h : Q (.inl (some (.int (g 20 3))), g, t)) :
    am_GQ (72, 0, [(0, .ref 20)], [], g, t) Q := am_wp_ok [] 3 h
theorem B_Stamps_greatest_0 {g : am_G} {t : Nat} {Q : am_R → Prop}
    (h : am_GQ (73, 4, [(0, .ref 24), (1, .int (Int32.ofNat 0)), (2, .int (Int32.ofNat 0))], [], g, t) Q) :
    am_GQ (73, 0, [(0, .ref 24)], [], g, t) Q := am_wp_ok [4] 4 h
theorem B_Stamps_greatest_4 {g : am_G} {t : Nat} {Q : am_R → Prop} {x1 : Int32} {x2 : Int32}
    (h : ((Int32.ofNat 32) ≤ x2 → Q (.inl (some (.int x1)), g, t)) ∧ (x2 < (Int32.ofNat 32) → am_chk (am_in x2 32) (am_GQ (73, 4, [(0, .ref 24), (1, .int (if x1 < (g 25 (Int32.toNatClampNeg x2)) then (g 25 (Int32.toNatClampNeg x2)) else x1)), (2, .int (x2 + (Int32.ofNat 1)))], [], g, t) Q))) :
    am_GQ (73, 4, [(0, .ref 24), (1, .int x1), (2, .int x2)], [], g, t) Q := am_wp_ok [4] 12 h
theorem B_Stamps_of_0 {g : am_G} {t : Nat} {Q : am_R → Prop} {x1 : Int32}
    (h : am_chk (am_in x1 32) (Q (.inl (some (.int (g 25 (Int32.toNatClampNeg x1)))), g, t))) :
    am_GQ (74, 0, [(0, .ref 24), (1, .int x1)], [], g, t) Q := am_wp_ok [] 5 h
theorem B_Stamps_put_0 {g : am_G} {t : Nat} {Q : am_R → Prop} {x1 : Int32} {x2 : Int32}
    (h : am_chk (am_in x1 32) (Q (.inl none, (am_w g 25 (Int32.toNatClampNeg x1) x2), t))) :
    am_GQ (75, 0, [(0, .ref 24), (1, .int x1), (2, .int x2)], [], g, t) Q := am_wp_ok [] 6 h
theorem B_Text_append_0 {g : am_G} {t : Nat} {Q : am_R → Prop} {x1 : Int64}
    (h : am_GQ (79, 0, [(0, .long x1)], [], g, t) (am_af 76 1 [(0, .ref 9), (1, .long x1)] [] Q)) :
    am_GQ (76, 0, [(0, .ref 9), (1, .long x1)], [], g, t) Q := am_wp_ok [26] 2 h
theorem B_Text_append_4 {g : am_G} {t : Nat} {Q : am_R → Prop} {x1 : Int64} {s0 : Int32}
    (h : (s0 < (Int32.ofNat 0) → Q (.inl (some (.int (-1))), g, t)) ∧ ((Int32.ofNat 0) ≤ s0 → (s0 ≤ ((Int32.ofNat 240) - (g 9 1)) → am_GQ (76, 26, [(0, .ref 9), (1, .long x1), (3, .int s0), (4, .int (Int32.ofNat 0))], [], g, t) Q) ∧ (((Int32.ofNat 240) - (g 9 1)) < s0 → Q (.inl (some (.int (-1))), g, t)))) :
    am_GQ (76, 4, [(0, .ref 9), (1, .long x1)], [.int s0], g, t) Q := am_wp_ok [26] 11 h
theorem B_Text_append_26 {g : am_G} {t : Nat} {Q : am_R → Prop} {x1 : Int64} {x3 : Int32} {x4 : Int32}
    (h : (x3 ≤ x4 → Q (.inl (some (.int x3)), (am_w g 9 1 ((g 9 1) + x3)), t)) ∧ (x4 < x3 → am_GQ (86, 0, [(0, .long x1), (2, .int x4)], [], g, t) (am_af 76 46 [(0, .ref 9), (1, .long x1), (3, .int x3), (4, .int x4)] [.int ((g 9 1) + x4), .ref 10] Q))) :
    am_GQ (76, 26, [(0, .ref 9), (1, .long x1), (3, .int x3), (4, .int x4)], [], g, t) Q := am_wp_ok [26] 12 h
theorem B_Text_append_49 {g : am_G} {t : Nat} {Q : am_R → Prop} {x1 : Int64} {x3 : Int32} {x4 : Int32} {s0 : Int32} {s1 : Int32}
    (h : am_chk (am_in s1 240) (am_GQ (76, 26, [(0, .ref 9), (1, .long x1), (3, .int x3), (4, .int (x4 + (Int32.ofNat 1)))], [], (am_w g 10 (Int32.toNatClampNeg s1) (am_chr (am_chr s0))), t) Q)) :
    am_GQ (76, 49, [(0, .ref 9), (1, .long x1), (3, .int x3), (4, .int x4)], [.int s0, .int s1, .ref 10], g, t) Q := am_wp_ok [26] 4 h
theorem B_Text_clear_0 {g : am_G} {t : Nat} {Q : am_R → Prop}
    (h : Q (.inl (some (.int (g 9 1))), (am_w g 9 1 (Int32.ofNat 0)), t)) :
    am_GQ (77, 0, [(0, .ref 9)], [], g, t) Q := am_wp_ok [] 8 h
theorem B_Text_codeAt_0 {g : am_G} {t : Nat} {Q : am_R → Prop} {x1 : Int32}
    (h : (x1 < (Int32.ofNat 0) → am_chk (am_isc (Int32.ofNat 0)) (Q (.inl (some (.int (Int32.ofNat 0))), g, t))) ∧ ((Int32.ofNat 0) ≤ x1 → ((g 9 1) ≤ x1 → am_chk (am_isc (Int32.ofNat 0)) (Q (.inl (some (.int (Int32.ofNat 0))), g, t))) ∧ (x1 < (g 9 1) → am_chk (am_in x1 240) (am_chk (am_isc (g 10 (Int32.toNatClampNeg x1))) (Q (.inl (some (.int (g 10 (Int32.toNatClampNeg x1)))), g, t)))))) :
    am_GQ (78, 0, [(0, .ref 9), (1, .int x1)], [], g, t) Q := am_wp_ok [] 12 h
theorem B_Text_countCodes_0 {g : am_G} {t : Nat} {Q : am_R → Prop} {x0 : Int64}
    (h : am_GQ (79, 2, [(0, .long x0), (2, .int (Int32.ofNat 0))], [], g, t) Q) :
    am_GQ (79, 0, [(0, .long x0)], [], g, t) Q := am_wp_ok [2] 2 h
theorem B_Text_countCodes_2 {g : am_G} {t : Nat} {Q : am_R → Prop} {x0 : Int64} {x2 : Int32}
    (h : ((Int32.ofNat 8) ≤ x2 → Q (.inl (some (.int (Int32.ofNat 8))), g, t)) ∧ (x2 < (Int32.ofNat 8) → am_GQ (86, 0, [(0, .long x0), (2, .int x2)], [], g, t) (am_af 79 10 [(0, .long x0), (2, .int x2)] [] Q))) :
    am_GQ (79, 2, [(0, .long x0), (2, .int x2)], [], g, t) Q := am_wp_ok [2] 6 h
theorem B_Text_countCodes_13 {g : am_G} {t : Nat} {Q : am_R → Prop} {x0 : Int64} {x2 : Int32} {s0 : Int32}
    (h : (¬ s0 = (Int32.ofNat 0) → (s0 ≤ (Int32.ofNat 127) → am_GQ (79, 2, [(0, .long x0), (2, .int (x2 + (Int32.ofNat 1)))], [], g, t) Q) ∧ ((Int32.ofNat 127) < s0 → Q (.inl (some (.int (-1))), g, t))) ∧ (s0 = (Int32.ofNat 0) → Q (.inl (some (.int x2)), g, t))) :
    am_GQ (79, 13, [(0, .long x0), (2, .int x2)], [.int s0], g, t) Q := am_wp_ok [2] 8 h
theorem B_Text_fileAt_0 {g : am_G} {t : Nat} {Q : am_R → Prop} {x1 : Int32}
    (h : am_GQ (78, 0, [(0, .ref 9), (1, .int x1)], [], g, t) (am_af 80 3 [(0, .ref 9), (1, .int x1)] [.int (Int32.ofNat 4)] Q)) :
    am_GQ (80, 0, [(0, .ref 9), (1, .int x1)], [], g, t) Q := am_wp_ok [] 4 h
theorem B_Text_fileAt_6 {g : am_G} {t : Nat} {Q : am_R → Prop} {x1 : Int32} {s0 : Int32} {s1 : Int32}
    (h : am_GQ (84, 0, [(0, .ref 9), (1, .int (x1 + (Int32.ofNat 1)))], [], g, t) (am_af 80 14 [(0, .ref 9), (1, .int x1)] [.int (s1 * (s0 - (Int32.ofNat 97)))] Q)) :
    am_GQ (80, 6, [(0, .ref 9), (1, .int x1)], [.int s0, .int s1], g, t) Q := am_wp_ok [] 8 h
theorem B_Text_fileAt_17 {g : am_G} {t : Nat} {Q : am_R → Prop} {x1 : Int32} {s0 : Int32} {s1 : Int32}
    (h : Q (.inl (some (.int (s1 + s0))), g, t)) :
    am_GQ (80, 17, [(0, .ref 9), (1, .int x1)], [.int s0, .int s1], g, t) Q := am_wp_ok [] 2 h
theorem B_Text_isMacroUseAt_0 {g : am_G} {t : Nat} {Q : am_R → Prop} {x1 : Int32}
    (h : am_GQ (78, 0, [(0, .ref 9), (1, .int x1)], [], g, t) (am_af 81 2 [(0, .ref 9), (1, .int x1)] [] Q)) :
    am_GQ (81, 0, [(0, .ref 9), (1, .int x1)], [], g, t) Q := am_wp_ok [] 3 h
theorem B_Text_isMacroUseAt_5 {g : am_G} {t : Nat} {Q : am_R → Prop} {x1 : Int32} {s0 : Int32}
    (h : am_GQ (78, 0, [(0, .ref 9), (1, .int (x1 + (Int32.ofNat 1)))], [], g, t) (am_af 81 9 [(0, .ref 9), (1, .int x1)] [.int s0] Q)) :
    am_GQ (81, 5, [(0, .ref 9), (1, .int x1)], [.int s0], g, t) Q := am_wp_ok [] 5 h
theorem B_Text_isMacroUseAt_12 {g : am_G} {t : Nat} {Q : am_R → Prop} {x1 : Int32} {s0 : Int32} {s1 : Int32}
    (h : am_GQ (6, 0, [(0, .int s1), (1, .int s0)], [], g, t) (am_af 81 12 [(0, .ref 9), (1, .int x1)] [] Q)) :
    am_GQ (81, 12, [(0, .ref 9), (1, .int x1)], [.int s0, .int s1], g, t) Q := am_wp_ok [] 1 h
theorem B_Text_isMacroUseAt_15 {g : am_G} {t : Nat} {Q : am_R → Prop} {x1 : Int32} {s0 : Int32}
    (h : am_chk (am_isb s0) (Q (.inl (some (.int s0)), g, t))) :
    am_GQ (81, 15, [(0, .ref 9), (1, .int x1)], [.int s0], g, t) Q := am_wp_ok [] 1 h
theorem B_Text_isNameAt_0 {g : am_G} {t : Nat} {Q : am_R → Prop} {x1 : Int32}
    (h : am_GQ (78, 0, [(0, .ref 9), (1, .int x1)], [], g, t) (am_af 82 2 [(0, .ref 9), (1, .int x1)] [] Q)) :
    am_GQ (82, 0, [(0, .ref 9), (1, .int x1)], [], g, t) Q := am_wp_ok [] 3 h
theorem B_Text_isNameAt_5 {g : am_G} {t : Nat} {Q : am_R → Prop} {x1 : Int32} {s0 : Int32}
    (h : am_GQ (78, 0, [(0, .ref 9), (1, .int (x1 + (Int32.ofNat 1)))], [], g, t) (am_af 82 9 [(0, .ref 9), (1, .int x1)] [.int s0] Q)) :
    am_GQ (82, 5, [(0, .ref 9), (1, .int x1)], [.int s0], g, t) Q := am_wp_ok [] 5 h
theorem B_Text_isNameAt_12 {g : am_G} {t : Nat} {Q : am_R → Prop} {x1 : Int32} {s0 : Int32} {s1 : Int32}
    (h : am_GQ (7, 0, [(0, .int s1), (1, .int s0)], [], g, t) (am_af 82 12 [(0, .ref 9), (1, .int x1)] [] Q)) :
    am_GQ (82, 12, [(0, .ref 9), (1, .int x1)], [.int s0, .int s1], g, t) Q := am_wp_ok [] 1 h
theorem B_Text_isNameAt_15 {g : am_G} {t : Nat} {Q : am_R → Prop} {x1 : Int32} {s0 : Int32}
    (h : am_chk (am_isb s0) (Q (.inl (some (.int s0)), g, t))) :
    am_GQ (82, 15, [(0, .ref 9), (1, .int x1)], [.int s0], g, t) Q := am_wp_ok [] 1 h
theorem B_Text_isOnlySpaces_0 {g : am_G} {t : Nat} {Q : am_R → Prop} {x1 : Int32} {x2 : Int32}
    (h : am_GQ (83, 2, [(0, .ref 9), (1, .int x1), (2, .int x2), (3, .int x1)], [], g, t) Q) :
    am_GQ (83, 0, [(0, .ref 9), (1, .int x1), (2, .int x2)], [], g, t) Q := am_wp_ok [2] 2 h
theorem B_Text_isOnlySpaces_2 {g : am_G} {t : Nat} {Q : am_R → Prop} {x1 : Int32} {x2 : Int32} {x3 : Int32}
    (h : (x2 ≤ x3 → am_chk (am_isb (Int32.ofNat 1)) (Q (.inl (some (.int (Int32.ofNat 1))), g, t))) ∧ (x3 < x2 → am_GQ (78, 0, [(0, .ref 9), (1, .int x3)], [], g, t) (am_af 83 9 [(0, .ref 9), (1, .int x1), (2, .int x2), (3, .int x3)] [] Q))) :
    am_GQ (83, 2, [(0, .ref 9), (1, .int x1), (2, .int x2), (3, .int x3)], [], g, t) Q := am_wp_ok [2] 6 h
theorem B_Text_isOnlySpaces_12 {g : am_G} {t : Nat} {Q : am_R → Prop} {x1 : Int32} {x2 : Int32} {x3 : Int32} {s0 : Int32}
    (h : (s0 = (Int32.ofNat 32) → am_GQ (83, 2, [(0, .ref 9), (1, .int x1), (2, .int x2), (3, .int (x3 + (Int32.ofNat 1)))], [], g, t) Q) ∧ (¬ s0 = (Int32.ofNat 32) → am_chk (am_isb (Int32.ofNat 0)) (Q (.inl (some (.int (Int32.ofNat 0))), g, t)))) :
    am_GQ (83, 12, [(0, .ref 9), (1, .int x1), (2, .int x2), (3, .int x3)], [.int s0], g, t) Q := am_wp_ok [2] 4 h
theorem B_Text_kindAt_0 {g : am_G} {t : Nat} {Q : am_R → Prop} {x1 : Int32}
    (h : am_GQ (78, 0, [(0, .ref 9), (1, .int x1)], [], g, t) (am_af 84 2 [(0, .ref 9), (1, .int x1)] [] Q)) :
    am_GQ (84, 0, [(0, .ref 9), (1, .int x1)], [], g, t) Q := am_wp_ok [] 3 h
theorem B_Text_kindAt_5 {g : am_G} {t : Nat} {Q : am_R → Prop} {x1 : Int32} {s0 : Int32}
    (h : Q (.inl (some (.int (s0 - (Int32.ofNat 48)))), g, t)) :
    am_GQ (84, 5, [(0, .ref 9), (1, .int x1)], [.int s0], g, t) Q := am_wp_ok [] 3 h
theorem B_Text_macroUsedAt_0 {g : am_G} {t : Nat} {Q : am_R → Prop} {x1 : Int32}
    (h : am_GQ (78, 0, [(0, .ref 9), (1, .int (x1 + (Int32.ofNat 1)))], [], g, t) (am_af 85 4 [(0, .ref 9), (1, .int x1)] [] Q)) :
    am_GQ (85, 0, [(0, .ref 9), (1, .int x1)], [], g, t) Q := am_wp_ok [] 5 h
theorem B_Text_macroUsedAt_7 {g : am_G} {t : Nat} {Q : am_R → Prop} {x1 : Int32} {s0 : Int32}
    (h : Q (.inl (some (.int (s0 - (Int32.ofNat 65)))), g, t)) :
    am_GQ (85, 7, [(0, .ref 9), (1, .int x1)], [.int s0], g, t) Q := am_wp_ok [] 3 h
theorem B_Text_packedCode_0 {g : am_G} {t : Nat} {Q : am_R → Prop} {x0 : Int64} {x2 : Int32}
    (h : Q (.inl (some (.int ((Int64.toInt32 (Int64.toUInt64 x0 >>> ((Int32.toInt64 ((Int32.ofNat 8) * x2)).toUInt64 &&& Int64.toUInt64 63)).toInt64) &&& (Int32.ofNat 255)))), g, t)) :
    am_GQ (86, 0, [(0, .long x0), (2, .int x2)], [], g, t) Q := am_wp_ok [] 9 h
theorem B_Text_partAt_0 {g : am_G} {t : Nat} {Q : am_R → Prop} {x1 : Int32}
    (h : am_GQ (78, 0, [(0, .ref 9), (1, .int x1)], [], g, t) (am_af 87 2 [(0, .ref 9), (1, .int x1)] [] Q)) :
    am_GQ (87, 0, [(0, .ref 9), (1, .int x1)], [], g, t) Q := am_wp_ok [] 3 h
theorem B_Text_partAt_5 {g : am_G} {t : Nat} {Q : am_R → Prop} {x1 : Int32} {s0 : Int32}
    (h : am_GQ (78, 0, [(0, .ref 9), (1, .int (x1 + (Int32.ofNat 1)))], [], g, t) (am_af 87 10 [(0, .ref 9), (1, .int x1), (2, .int s0)] [] Q)) :
    am_GQ (87, 5, [(0, .ref 9), (1, .int x1)], [.int s0], g, t) Q := am_wp_ok [] 6 h
theorem B_Text_partAt_13 {g : am_G} {t : Nat} {Q : am_R → Prop} {x1 : Int32} {x2 : Int32} {s0 : Int32}
    (h : (¬ x2 = (Int32.ofNat 32) → am_GQ (7, 0, [(0, .int x2), (1, .int s0)], [], g, t) (am_af 87 24 [(0, .ref 9), (1, .int x1), (2, .int x2), (3, .int s0)] [] Q)) ∧ (x2 = (Int32.ofNat 32) → Q (.inl (some (.int (Int32.ofNat 1))), g, t))) :
    am_GQ (87, 13, [(0, .ref 9), (1, .int x1), (2, .int x2)], [.int s0], g, t) Q := am_wp_ok [] 7 h
theorem B_Text_partAt_27 {g : am_G} {t : Nat} {Q : am_R → Prop} {x1 : Int32} {x2 : Int32} {x3 : Int32} {s0 : Int32}
    (h : (¬ s0 = (Int32.ofNat 0) → Q (.inl (some (.int (Int32.ofNat 2))), g, t)) ∧ (s0 = (Int32.ofNat 0) → am_GQ (6, 0, [(0, .int x2), (1, .int x3)], [], g, t) (am_af 87 32 [(0, .ref 9), (1, .int x1), (2, .int x2), (3, .int x3)] [] Q))) :
    am_GQ (87, 27, [(0, .ref 9), (1, .int x1), (2, .int x2), (3, .int x3)], [.int s0], g, t) Q := am_wp_ok [] 4 h
theorem B_Text_partAt_35 {g : am_G} {t : Nat} {Q : am_R → Prop} {x1 : Int32} {x2 : Int32} {x3 : Int32} {s0 : Int32}
    (h : (s0 = (Int32.ofNat 0) → Q (.inl (some (.int (Int32.ofNat 0))), g, t)) ∧ (¬ s0 = (Int32.ofNat 0) → Q (.inl (some (.int (Int32.ofNat 2))), g, t))) :
    am_GQ (87, 35, [(0, .ref 9), (1, .int x1), (2, .int x2), (3, .int x3)], [.int s0], g, t) Q := am_wp_ok [] 4 h
theorem B_Text_phraseEnd_0 {g : am_G} {t : Nat} {Q : am_R → Prop} {x1 : Int32}
    (h : am_GQ (88, 2, [(0, .ref 9), (1, .int x1), (2, .int x1)], [], g, t) Q) :
    am_GQ (88, 0, [(0, .ref 9), (1, .int x1)], [], g, t) Q := am_wp_ok [2] 2 h
theorem B_Text_phraseEnd_2 {g : am_G} {t : Nat} {Q : am_R → Prop} {x1 : Int32} {x2 : Int32}
    (h : ((g 9 1) ≤ x2 → Q (.inl (some (.int x2)), g, t)) ∧ (x2 < (g 9 1) → am_GQ (87, 0, [(0, .ref 9), (1, .int x2)], [], g, t) (am_af 88 12 [(0, .ref 9), (1, .int x1), (2, .int x2)] [] Q))) :
    am_GQ (88, 2, [(0, .ref 9), (1, .int x1), (2, .int x2)], [], g, t) Q := am_wp_ok [2] 7 h
theorem B_Text_phraseEnd_15 {g : am_G} {t : Nat} {Q : am_R → Prop} {x1 : Int32} {x2 : Int32} {s0 : Int32}
    (h : (s0 ≤ (Int32.ofNat 0) → Q (.inl (some (.int x2)), g, t)) ∧ ((Int32.ofNat 0) < s0 → am_GQ (87, 0, [(0, .ref 9), (1, .int x2)], [], g, t) (am_af 88 21 [(0, .ref 9), (1, .int x1), (2, .int x2)] [.int x2] Q))) :
    am_GQ (88, 15, [(0, .ref 9), (1, .int x1), (2, .int x2)], [.int s0], g, t) Q := am_wp_ok [2] 5 h
theorem B_Text_phraseEnd_24 {g : am_G} {t : Nat} {Q : am_R → Prop} {x1 : Int32} {x2 : Int32} {s0 : Int32} {s1 : Int32}
    (h : am_GQ (88, 2, [(0, .ref 9), (1, .int x1), (2, .int (s1 + s0))], [], g, t) Q) :
    am_GQ (88, 24, [(0, .ref 9), (1, .int x1), (2, .int x2)], [.int s0, .int s1], g, t) Q := am_wp_ok [2] 3 h
theorem B_Text_size_0 {g : am_G} {t : Nat} {Q : am_R → Prop}
    (h : Q (.inl (some (.int (g 9 1))), g, t)) :
    am_GQ (89, 0, [(0, .ref 9)], [], g, t) Q := am_wp_ok [] 3 h
