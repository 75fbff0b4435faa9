theorem B_L_make_0 {g : am_G} {t : Nat} {Q : am_R → Prop} {x1 : Int32}
    (h : am_GQ (10, 0, [(0, .ref 8), (1, .int x1)], [], g, t) (am_af 90 4 [(0, .ref 8), (1, .int x1), (2, .ref 53)] [.int (Int32.ofNat 0), .ref 53] Q)) :
    am_GQ (90, 0, [(0, .ref 8), (1, .int x1), (2, .ref 53)], [], g, t) Q := am_wp_ok [] 5 h
theorem B_L_make_7 {g : am_G} {t : Nat} {Q : am_R → Prop} {x1 : Int32} {s0 : Int32} {s1 : Int32}
    (h : am_chk (am_in s1 1 && decide ((Int32.toInt64 s0) = (Int64.toInt32 (Int32.toInt64 s0)).toInt64)) (Q (.inl (some (.int (Int32.ofNat 0))), (am_w g 53 (Int32.toNatClampNeg s1) (Int64.toInt32 (Int32.toInt64 s0))), t + 1))) :
    am_GQ (90, 7, [(0, .ref 8), (1, .int x1), (2, .ref 53)], [.int s0, .int s1, .ref 53], g, t) Q := am_wp_ok [] 5 h
theorem B_L_make_13 {g : am_G} {t : Nat} {Q : am_R → Prop} {x1 : Int32}
    (h : Q (.inl (some (.int (Int32.ofNat 1))), g, t + 1)) :
    am_GQ (90, 13, [(0, .ref 8), (1, .int x1), (2, .ref 53)], [], g, t) Q := am_wp_ok [] 2 h
theorem B_L_make_16 {g : am_G} {t : Nat} {Q : am_R → Prop} {x1 : Int32}
    (h : Q (.inl (some (.int (Int32.ofNat 2))), g, t + 1)) :
    am_GQ (90, 16, [(0, .ref 8), (1, .int x1), (2, .ref 53)], [], g, t) Q := am_wp_ok [] 2 h
theorem B_L_make_19 {g : am_G} {t : Nat} {Q : am_R → Prop} {x1 : Int32}
    (h : Q (.inl (some (.int (Int32.ofNat 3))), g, t + 1)) :
    am_GQ (90, 19, [(0, .ref 8), (1, .int x1), (2, .ref 53)], [], g, t) Q := am_wp_ok [] 2 h
theorem B_L_make_22 {g : am_G} {t : Nat} {Q : am_R → Prop} {x1 : Int32}
    (h : Q (.inl (some (.int (Int32.ofNat 4))), g, t + 1)) :
    am_GQ (90, 22, [(0, .ref 8), (1, .int x1), (2, .ref 53)], [], g, t) Q := am_wp_ok [] 2 h
theorem B_L_read_0 {g : am_G} {t : Nat} {Q : am_R → Prop}
    (h : am_GQ (12, 0, [(0, .ref 8)], [], g, t) (am_af 91 3 [(0, .ref 8), (1, .ref 53)] [.int (Int32.ofNat 0), .ref 53] Q)) :
    am_GQ (91, 0, [(0, .ref 8), (1, .ref 53)], [], g, t) Q := am_wp_ok [] 4 h
theorem B_L_read_6 {g : am_G} {t : Nat} {Q : am_R → Prop} {s0 : Int32} {s1 : Int32}
    (h : am_chk (am_in s1 1 && decide ((Int32.toInt64 s0) = (Int64.toInt32 (Int32.toInt64 s0)).toInt64)) (Q (.inl (some (.int (Int32.ofNat 0))), (am_w g 53 (Int32.toNatClampNeg s1) (Int64.toInt32 (Int32.toInt64 s0))), t + 1))) :
    am_GQ (91, 6, [(0, .ref 8), (1, .ref 53)], [.int s0, .int s1, .ref 53], g, t) Q := am_wp_ok [] 5 h
theorem B_L_read_12 {g : am_G} {t : Nat} {Q : am_R → Prop}
    (h : Q (.inl (some (.int (Int32.ofNat 1))), g, t + 1)) :
    am_GQ (91, 12, [(0, .ref 8), (1, .ref 53)], [], g, t) Q := am_wp_ok [] 2 h
theorem B_L_read_15 {g : am_G} {t : Nat} {Q : am_R → Prop}
    (h : Q (.inl (some (.int (Int32.ofNat 2))), g, t + 1)) :
    am_GQ (91, 15, [(0, .ref 8), (1, .ref 53)], [], g, t) Q := am_wp_ok [] 2 h
theorem B_L_read_18 {g : am_G} {t : Nat} {Q : am_R → Prop}
    (h : Q (.inl (some (.int (Int32.ofNat 3))), g, t + 1)) :
    am_GQ (91, 18, [(0, .ref 8), (1, .ref 53)], [], g, t) Q := am_wp_ok [] 2 h
theorem B_M_at_0 {g : am_G} {t : Nat} {Q : am_R → Prop} {x1 : Int32} {x2 : Int32}
    (h : (x2 ≤ x1 → Q (.inl (some (.int (-1))), g, t)) ∧ (x1 < x2 → am_chk (am_in x1 240) (Q (.inl (some (.int (g 33 (Int32.toNatClampNeg x1)))), g, t)))) :
    am_GQ (92, 0, [(0, .ref 32), (1, .int x1), (2, .int x2)], [], g, t) Q := am_wp_ok [] 9 h
theorem B_M_colon_0 {g : am_G} {t : Nat} {Q : am_R → Prop} {x1 : Int32} {x2 : Int32}
    (h : am_GQ (93, 2, [(0, .ref 32), (1, .int x1), (2, .int x2), (3, .int x1)], [], g, t) Q) :
    am_GQ (93, 0, [(0, .ref 32), (1, .int x1), (2, .int x2)], [], g, t) Q := am_wp_ok [2] 2 h
theorem B_M_colon_2 {g : am_G} {t : Nat} {Q : am_R → Prop} {x1 : Int32} {x2 : Int32} {x3 : Int32}
    (h : (x2 ≤ x3 → Q (.inl (some (.int x3)), g, t)) ∧ (x3 < x2 → am_chk (am_in x3 240) (((g 33 (Int32.toNatClampNeg x3)) = (Int32.ofNat 58) → Q (.inl (some (.int x3)), g, t)) ∧ (¬ (g 33 (Int32.toNatClampNeg x3)) = (Int32.ofNat 58) → am_GQ (93, 2, [(0, .ref 32), (1, .int x1), (2, .int x2), (3, .int (x3 + (Int32.ofNat 1)))], [], g, t) Q)))) :
    am_GQ (93, 2, [(0, .ref 32), (1, .int x1), (2, .int x2), (3, .int x3)], [], g, t) Q := am_wp_ok [2] 11 h
theorem B_M_erase_0 {g : am_G} {t : Nat} {Q : am_R → Prop}
    (h : Q (.inl (some (.int ((am_w g 32 2 (Int32.ofNat 0)) 32 1))), (am_w (am_w g 32 2 (Int32.ofNat 0)) 32 1 (Int32.ofNat 0)), t)) :
    am_GQ (94, 0, [(0, .ref 32)], [], g, t) Q := am_wp_ok [] 11 h
theorem B_M_fail_0 {g : am_G} {t : Nat} {Q : am_R → Prop} {x1 : Int32} {x2 : Int32}
    (h : Q (.inl (some (.int (Int32.ofNat 0))), (am_w (am_w g 32 2 x1) 32 3 x2), t)) :
    am_GQ (95, 0, [(0, .ref 32), (1, .int x1), (2, .int x2)], [], g, t) Q := am_wp_ok [] 8 h
theorem B_M_fault_0 {g : am_G} {t : Nat} {Q : am_R → Prop}
    (h : Q (.inl (some (.int ((am_w g 32 2 (Int32.ofNat 0)) 32 3))), (am_w g 32 2 (Int32.ofNat 0)), t)) :
    am_GQ (96, 0, [(0, .ref 32)], [], g, t) Q := am_wp_ok [] 6 h
theorem B_M_first_0 {g : am_G} {t : Nat} {Q : am_R → Prop} {x1 : Int32}
    (h : am_GQ (97, 2, [(0, .ref 32), (1, .int x1), (2, .int (Int32.ofNat 0))], [], g, t) Q) :
    am_GQ (97, 0, [(0, .ref 32), (1, .int x1)], [], g, t) Q := am_wp_ok [2, 50] 2 h
theorem B_M_first_2 {g : am_G} {t : Nat} {Q : am_R → Prop} {x1 : Int32} {x2 : Int32}
    (h : ((g 32 20) ≤ x2 → Q (.inl (some (.int (-1))), g, t)) ∧ (x2 < (g 32 20) → am_chk (am_in x2 32) (am_chk (decide (¬ (Int32.ofNat 4) = Int32.ofNat 0)) (am_chk (decide (¬ (Int32.ofNat 4) = Int32.ofNat 0)) ((¬ ((g 46 (Int32.toNatClampNeg x2)) / (Int32.ofNat 4)) = (x1 - x1 / (Int32.ofNat 4) * (Int32.ofNat 4)) → am_GQ (97, 50, [(0, .ref 32), (1, .int x1), (2, .int x2)], [], g, t) Q) ∧ (((g 46 (Int32.toNatClampNeg x2)) / (Int32.ofNat 4)) = (x1 - x1 / (Int32.ofNat 4) * (Int32.ofNat 4)) → am_chk (decide (¬ (Int32.ofNat 4) = Int32.ofNat 0)) (am_chk (am_in x2 32) (am_chk (decide (¬ (Int32.ofNat 4) = Int32.ofNat 0)) (am_GQ (99, 0, [(0, .int (g 32 22)), (1, .int (((x1 / (Int32.ofNat 4)) * (Int32.ofNat 4)) + ((g 46 (Int32.toNatClampNeg x2)) - (g 46 (Int32.toNatClampNeg x2)) / (Int32.ofNat 4) * (Int32.ofNat 4))))], [], g, t) (am_af 97 42 [(0, .ref 32), (1, .int x1), (2, .int x2)] [] Q)))))))))) :
    am_GQ (97, 2, [(0, .ref 32), (1, .int x1), (2, .int x2)], [], g, t) Q := am_wp_ok [2, 50] 29 h
theorem B_M_first_50 {g : am_G} {t : Nat} {Q : am_R → Prop} {x1 : Int32} {x2 : Int32}
    (h : am_GQ (97, 2, [(0, .ref 32), (1, .int x1), (2, .int (x2 + (Int32.ofNat 1)))], [], g, t) Q) :
    am_GQ (97, 50, [(0, .ref 32), (1, .int x1), (2, .int x2)], [], g, t) Q := am_wp_ok [2, 50] 2 h
theorem B_M_first_45 {g : am_G} {t : Nat} {Q : am_R → Prop} {x1 : Int32} {x2 : Int32} {s0 : Int32}
    (h : (s0 = (Int32.ofNat 0) → am_GQ (97, 50, [(0, .ref 32), (1, .int x1), (2, .int x2)], [], g, t) Q) ∧ (¬ s0 = (Int32.ofNat 0) → Q (.inl (some (.int x2)), g, t))) :
    am_GQ (97, 45, [(0, .ref 32), (1, .int x1), (2, .int x2)], [.int s0], g, t) Q := am_wp_ok [2, 50] 3 h
theorem B_M_graph_0 {g : am_G} {t : Nat} {Q : am_R → Prop}
    (h : am_GQ (98, 10, [(0, .ref 32), (1, .int (Int32.ofNat 0))], [], (am_w g 32 22 (g 32 18)), t) Q) :
    am_GQ (98, 0, [(0, .ref 32)], [], g, t) Q := am_wp_ok [10, 37, 45, 53, 79, 101, 187, 195, 221, 229, 245, 276] 6 h
theorem B_M_graph_10 {g : am_G} {t : Nat} {Q : am_R → Prop} {x1 : Int32}
    (h : ((Int32.ofNat 32) ≤ x1 → am_GQ (98, 45, [(0, .ref 32), (1, .int (Int32.ofNat 0))], [], g, t) Q) ∧ (x1 < (Int32.ofNat 32) → am_chk (am_in x1 32) (((g 47 (Int32.toNatClampNeg x1)) = (Int32.ofNat 0) → am_GQ (98, 37, [(0, .ref 32), (1, .int x1)], [], g, t) Q) ∧ (¬ (g 47 (Int32.toNatClampNeg x1)) = (Int32.ofNat 0) → am_GQ (98, 37, [(0, .ref 32), (1, .int x1)], [], (am_w g 32 22 ((g 32 22) ||| ((Int32.ofNat 1) <<< (x1 &&& Int32.ofNat 31)))), t) Q)))) :
    am_GQ (98, 10, [(0, .ref 32), (1, .int x1)], [], g, t) Q := am_wp_ok [10, 37, 45, 53, 79, 101, 187, 195, 221, 229, 245, 276] 16 h
theorem B_M_graph_45 {g : am_G} {t : Nat} {Q : am_R → Prop} {x1 : Int32}
    (h : ((Int32.ofNat 32) ≤ x1 → am_GQ (98, 101, [(0, .ref 32), (1, .int (Int32.ofNat 0))], [], (am_w g 32 23 (g 32 18)), t) Q) ∧ (x1 < (Int32.ofNat 32) → am_GQ (98, 53, [(0, .ref 32), (1, .int x1), (2, .int (Int32.ofNat 0))], [], g, t) Q)) :
    am_GQ (98, 45, [(0, .ref 32), (1, .int x1)], [], g, t) Q := am_wp_ok [10, 37, 45, 53, 79, 101, 187, 195, 221, 229, 245, 276] 9 h
theorem B_M_graph_37 {g : am_G} {t : Nat} {Q : am_R → Prop} {x1 : Int32}
    (h : am_GQ (98, 10, [(0, .ref 32), (1, .int (x1 + (Int32.ofNat 1)))], [], g, t) Q) :
    am_GQ (98, 37, [(0, .ref 32), (1, .int x1)], [], g, t) Q := am_wp_ok [10, 37, 45, 53, 79, 101, 187, 195, 221, 229, 245, 276] 2 h
theorem B_M_graph_101 {g : am_G} {t : Nat} {Q : am_R → Prop} {x1 : Int32}
    (h : ((Int32.ofNat 32) ≤ x1 → am_GQ (98, 195, [(0, .ref 32), (1, .int (Int32.ofNat 0))], [], g, t) Q) ∧ (x1 < (Int32.ofNat 32) → am_chk (am_in x1 32) (am_chk (am_in x1 32) (am_GQ (99, 0, [(0, .int ((am_w g 48 (Int32.toNatClampNeg x1) (g 45 (Int32.toNatClampNeg x1))) 32 18)), (1, .int x1)], [], (am_w g 48 (Int32.toNatClampNeg x1) (g 45 (Int32.toNatClampNeg x1))), t) (am_af 98 124 [(0, .ref 32), (1, .int x1)] [] Q))))) :
    am_GQ (98, 101, [(0, .ref 32), (1, .int x1)], [], g, t) Q := am_wp_ok [10, 37, 45, 53, 79, 101, 187, 195, 221, 229, 245, 276] 15 h
theorem B_M_graph_53 {g : am_G} {t : Nat} {Q : am_R → Prop} {x1 : Int32} {x2 : Int32}
    (h : ((Int32.ofNat 32) ≤ x2 → am_GQ (98, 45, [(0, .ref 32), (1, .int (x1 + (Int32.ofNat 1)))], [], g, t) Q) ∧ (x2 < (Int32.ofNat 32) → am_GQ (97, 0, [(0, .ref 32), (1, .int x2)], [], g, t) (am_af 98 61 [(0, .ref 32), (1, .int x1), (2, .int x2)] [] Q))) :
    am_GQ (98, 53, [(0, .ref 32), (1, .int x1), (2, .int x2)], [], g, t) Q := am_wp_ok [10, 37, 45, 53, 79, 101, 187, 195, 221, 229, 245, 276] 6 h
theorem B_M_graph_195 {g : am_G} {t : Nat} {Q : am_R → Prop} {x1 : Int32}
    (h : ((Int32.ofNat 32) ≤ x1 → am_GQ (98, 221, [(0, .ref 32), (1, .int (Int32.ofNat 0))], [], g, t) Q) ∧ (x1 < (Int32.ofNat 32) → am_chk (am_in x1 32) (am_chk (am_in x1 32) (am_GQ (98, 195, [(0, .ref 32), (1, .int (x1 + (Int32.ofNat 1)))], [], (am_w g 49 (Int32.toNatClampNeg x1) (g 48 (Int32.toNatClampNeg x1))), t) Q)))) :
    am_GQ (98, 195, [(0, .ref 32), (1, .int x1)], [], g, t) Q := am_wp_ok [10, 37, 45, 53, 79, 101, 187, 195, 221, 229, 245, 276] 13 h
theorem B_M_graph_127 {g : am_G} {t : Nat} {Q : am_R → Prop} {x1 : Int32} {s0 : Int32}
    (h : (s0 = (Int32.ofNat 0) → am_GQ (97, 0, [(0, .ref 32), (1, .int x1)], [], g, t) (am_af 98 135 [(0, .ref 32), (1, .int x1)] [] Q)) ∧ (¬ s0 = (Int32.ofNat 0) → am_GQ (98, 187, [(0, .ref 32), (1, .int x1)], [], g, t) Q)) :
    am_GQ (98, 127, [(0, .ref 32), (1, .int x1)], [.int s0], g, t) Q := am_wp_ok [10, 37, 45, 53, 79, 101, 187, 195, 221, 229, 245, 276] 4 h
theorem B_M_graph_64 {g : am_G} {t : Nat} {Q : am_R → Prop} {x1 : Int32} {x2 : Int32} {s0 : Int32}
    (h : (s0 < (Int32.ofNat 0) → am_GQ (98, 79, [(0, .ref 32), (1, .int x1), (2, .int x2)], [], g, t) Q) ∧ ((Int32.ofNat 0) ≤ s0 → am_GQ (98, 79, [(0, .ref 32), (1, .int x1), (2, .int x2)], [], (am_w g 32 22 ((g 32 22) ||| ((Int32.ofNat 1) <<< (x2 &&& Int32.ofNat 31)))), t) Q)) :
    am_GQ (98, 64, [(0, .ref 32), (1, .int x1), (2, .int x2)], [.int s0], g, t) Q := am_wp_ok [10, 37, 45, 53, 79, 101, 187, 195, 221, 229, 245, 276] 9 h
theorem B_M_graph_221 {g : am_G} {t : Nat} {Q : am_R → Prop} {x1 : Int32}
    (h : ((Int32.ofNat 32) ≤ x1 → Q (.inl none, g, t)) ∧ (x1 < (Int32.ofNat 32) → am_GQ (98, 229, [(0, .ref 32), (1, .int x1), (2, .int (Int32.ofNat 0))], [], g, t) Q)) :
    am_GQ (98, 221, [(0, .ref 32), (1, .int x1)], [], g, t) Q := am_wp_ok [10, 37, 45, 53, 79, 101, 187, 195, 221, 229, 245, 276] 5 h
theorem B_M_graph_138 {g : am_G} {t : Nat} {Q : am_R → Prop} {x1 : Int32} {s0 : Int32}
    (h : ((Int32.ofNat 0) ≤ s0 → am_chk (am_in x1 32) (am_chk (decide (¬ (Int32.ofNat 4) = Int32.ofNat 0)) (am_chk (am_in s0 32) (am_chk (decide (¬ (Int32.ofNat 4) = Int32.ofNat 0)) (am_chk (am_in x1 32) (am_GQ (98, 187, [(0, .ref 32), (1, .int x1)], [], (am_w (am_w g 32 23 ((g 32 23) ||| ((Int32.ofNat 1) <<< (x1 &&& Int32.ofNat 31)))) 48 (Int32.toNatClampNeg x1) (((am_w g 32 23 ((g 32 23) ||| ((Int32.ofNat 1) <<< (x1 &&& Int32.ofNat 31)))) 48 (Int32.toNatClampNeg x1)) ||| ((Int32.ofNat 1) <<< ((((x1 / (Int32.ofNat 4)) * (Int32.ofNat 4)) + (((am_w g 32 23 ((g 32 23) ||| ((Int32.ofNat 1) <<< (x1 &&& Int32.ofNat 31)))) 46 (Int32.toNatClampNeg s0)) - ((am_w g 32 23 ((g 32 23) ||| ((Int32.ofNat 1) <<< (x1 &&& Int32.ofNat 31)))) 46 (Int32.toNatClampNeg s0)) / (Int32.ofNat 4) * (Int32.ofNat 4))) &&& Int32.ofNat 31)))), t) Q)))))) ∧ (s0 < (Int32.ofNat 0) → am_GQ (98, 187, [(0, .ref 32), (1, .int x1)], [], g, t) Q)) :
    am_GQ (98, 138, [(0, .ref 32), (1, .int x1)], [.int s0], g, t) Q := am_wp_ok [10, 37, 45, 53, 79, 101, 187, 195, 221, 229, 245, 276] 34 h
theorem B_M_graph_187 {g : am_G} {t : Nat} {Q : am_R → Prop} {x1 : Int32}
    (h : am_GQ (98, 101, [(0, .ref 32), (1, .int (x1 + (Int32.ofNat 1)))], [], g, t) Q) :
    am_GQ (98, 187, [(0, .ref 32), (1, .int x1)], [], g, t) Q := am_wp_ok [10, 37, 45, 53, 79, 101, 187, 195, 221, 229, 245, 276] 2 h
theorem B_M_graph_79 {g : am_G} {t : Nat} {Q : am_R → Prop} {x1 : Int32} {x2 : Int32}
    (h : am_GQ (98, 53, [(0, .ref 32), (1, .int x1), (2, .int (x2 + (Int32.ofNat 1)))], [], g, t) Q) :
    am_GQ (98, 79, [(0, .ref 32), (1, .int x1), (2, .int x2)], [], g, t) Q := am_wp_ok [10, 37, 45, 53, 79, 101, 187, 195, 221, 229, 245, 276] 2 h
theorem B_M_graph_229 {g : am_G} {t : Nat} {Q : am_R → Prop} {x1 : Int32} {x2 : Int32}
    (h : ((Int32.ofNat 32) ≤ x2 → am_GQ (98, 221, [(0, .ref 32), (1, .int (x1 + (Int32.ofNat 1)))], [], g, t) Q) ∧ (x2 < (Int32.ofNat 32) → am_chk (am_in x2 32) (am_GQ (98, 245, [(0, .ref 32), (1, .int x1), (2, .int x2), (3, .int (g 49 (Int32.toNatClampNeg x2))), (4, .int (Int32.ofNat 0))], [], g, t) Q))) :
    am_GQ (98, 229, [(0, .ref 32), (1, .int x1), (2, .int x2)], [], g, t) Q := am_wp_ok [10, 37, 45, 53, 79, 101, 187, 195, 221, 229, 245, 276] 10 h
theorem B_M_graph_245 {g : am_G} {t : Nat} {Q : am_R → Prop} {x1 : Int32} {x2 : Int32} {x3 : Int32} {x4 : Int32}
    (h : ((Int32.ofNat 32) ≤ x4 → am_chk (am_in x2 32) (am_GQ (98, 229, [(0, .ref 32), (1, .int x1), (2, .int (x2 + (Int32.ofNat 1)))], [], (am_w g 49 (Int32.toNatClampNeg x2) x3), t) Q)) ∧ (x4 < (Int32.ofNat 32) → am_chk (am_in x2 32) (am_GQ (99, 0, [(0, .int (g 49 (Int32.toNatClampNeg x2))), (1, .int x4)], [], g, t) (am_af 98 260 [(0, .ref 32), (1, .int x1), (2, .int x2), (3, .int x3), (4, .int x4)] [] Q)))) :
    am_GQ (98, 245, [(0, .ref 32), (1, .int x1), (2, .int x2), (3, .int x3), (4, .int x4)], [], g, t) Q := am_wp_ok [10, 37, 45, 53, 79, 101, 187, 195, 221, 229, 245, 276] 10 h
theorem B_M_graph_263 {g : am_G} {t : Nat} {Q : am_R → Prop} {x1 : Int32} {x2 : Int32} {x3 : Int32} {x4 : Int32} {s0 : Int32}
    (h : (s0 = (Int32.ofNat 0) → am_GQ (98, 276, [(0, .ref 32), (1, .int x1), (2, .int x2), (3, .int x3), (4, .int x4)], [], g, t) Q) ∧ (¬ s0 = (Int32.ofNat 0) → am_chk (am_in x4 32) (am_GQ (98, 276, [(0, .ref 32), (1, .int x1), (2, .int x2), (3, .int (x3 ||| (g 48 (Int32.toNatClampNeg x4)))), (4, .int x4)], [], g, t) Q))) :
    am_GQ (98, 263, [(0, .ref 32), (1, .int x1), (2, .int x2), (3, .int x3), (4, .int x4)], [.int s0], g, t) Q := am_wp_ok [10, 37, 45, 53, 79, 101, 187, 195, 221, 229, 245, 276] 8 h
theorem B_M_graph_276 {g : am_G} {t : Nat} {Q : am_R → Prop} {x1 : Int32} {x2 : Int32} {x3 : Int32} {x4 : Int32}
    (h : am_GQ (98, 245, [(0, .ref 32), (1, .int x1), (2, .int x2), (3, .int x3), (4, .int (x4 + (Int32.ofNat 1)))], [], g, t) Q) :
    am_GQ (98, 276, [(0, .ref 32), (1, .int x1), (2, .int x2), (3, .int x3), (4, .int x4)], [], g, t) Q := am_wp_ok [10, 37, 45, 53, 79, 101, 187, 195, 221, 229, 245, 276] 2 h
theorem B_M_has_0 {g : am_G} {t : Nat} {Q : am_R → Prop} {x0 : Int32} {x1 : Int32}
    (h : (¬ ((x0 >>> (x1 &&& Int32.ofNat 31)) &&& (Int32.ofNat 1)) = (Int32.ofNat 1) → am_chk (am_isb (Int32.ofNat 0)) (Q (.inl (some (.int (Int32.ofNat 0))), g, t))) ∧ (((x0 >>> (x1 &&& Int32.ofNat 31)) &&& (Int32.ofNat 1)) = (Int32.ofNat 1) → am_chk (am_isb (Int32.ofNat 1)) (Q (.inl (some (.int (Int32.ofNat 1))), g, t)))) :
    am_GQ (99, 0, [(0, .int x0), (1, .int x1)], [], g, t) Q := am_wp_ok [] 10 h
theorem B_M_kind_0 {g : am_G} {t : Nat} {Q : am_R → Prop} {x1 : Int32} {x2 : Int32}
    (h : am_GQ (113, 0, [(0, .ref 32), (1, .int x1), (2, .int x2)], [], g, t) (am_af 100 3 [(0, .ref 32), (1, .int x1), (2, .int x2)] [] Q)) :
    am_GQ (100, 0, [(0, .ref 32), (1, .int x1), (2, .int x2)], [], g, t) Q := am_wp_ok [106] 4 h
theorem B_M_kind_6 {g : am_G} {t : Nat} {Q : am_R → Prop} {x1 : Int32} {x2 : Int32} {s0 : Int32}
    (h : (s0 = (Int32.ofNat 0) → am_chk (am_in x1 240) ((¬ (g 33 (Int32.toNatClampNeg x1)) = (Int32.ofNat 9) → (¬ (x2 - x1) = (Int32.ofNat 5) → am_GQ (100, 106, [(0, .ref 32), (1, .int x1), (2, .int x2)], [], g, t) Q) ∧ ((x2 - x1) = (Int32.ofNat 5) → am_chk (am_in x1 240) ((¬ (g 33 (Int32.toNatClampNeg x1)) = (Int32.ofNat 37) → am_GQ (100, 106, [(0, .ref 32), (1, .int x1), (2, .int x2)], [], g, t) Q) ∧ ((g 33 (Int32.toNatClampNeg x1)) = (Int32.ofNat 37) → am_chk (am_in (x1 + (Int32.ofNat 1)) 240) (am_GQ (118, 0, [(0, .int (g 33 (Int32.toNatClampNeg (x1 + (Int32.ofNat 1))))), (1, .int (Int32.ofNat 48)), (2, .int (Int32.ofNat 51))], [], g, t) (am_af 100 54 [(0, .ref 32), (1, .int x1), (2, .int x2)] [] Q)))))) ∧ ((g 33 (Int32.toNatClampNeg x1)) = (Int32.ofNat 9) → Q (.inl (some (.int (Int32.ofNat 5))), g, t)))) ∧ (¬ s0 = (Int32.ofNat 0) → Q (.inl (some (.int (Int32.ofNat 1))), g, t))) :
    am_GQ (100, 6, [(0, .ref 32), (1, .int x1), (2, .int x2)], [.int s0], g, t) Q := am_wp_ok [106] 27 h
theorem B_M_kind_106 {g : am_G} {t : Nat} {Q : am_R → Prop} {x1 : Int32} {x2 : Int32}
    (h : am_chk (am_in x1 240) (am_GQ (118, 0, [(0, .int (g 33 (Int32.toNatClampNeg x1))), (1, .int (Int32.ofNat 65)), (2, .int (Int32.ofNat 90))], [], g, t) (am_af 100 116 [(0, .ref 32), (1, .int x1), (2, .int x2)] [] Q))) :
    am_GQ (100, 106, [(0, .ref 32), (1, .int x1), (2, .int x2)], [], g, t) Q := am_wp_ok [106] 7 h
theorem B_M_kind_57 {g : am_G} {t : Nat} {Q : am_R → Prop} {x1 : Int32} {x2 : Int32} {s0 : Int32}
    (h : (s0 = (Int32.ofNat 0) → am_GQ (100, 106, [(0, .ref 32), (1, .int x1), (2, .int x2)], [], g, t) Q) ∧ (¬ s0 = (Int32.ofNat 0) → am_chk (am_in (x1 + (Int32.ofNat 2)) 240) ((¬ (g 33 (Int32.toNatClampNeg (x1 + (Int32.ofNat 2)))) = (Int32.ofNat 58) → am_GQ (100, 106, [(0, .ref 32), (1, .int x1), (2, .int x2)], [], g, t) Q) ∧ ((g 33 (Int32.toNatClampNeg (x1 + (Int32.ofNat 2)))) = (Int32.ofNat 58) → am_chk (am_in (x1 + (Int32.ofNat 3)) 240) ((¬ (g 33 (Int32.toNatClampNeg (x1 + (Int32.ofNat 3)))) = (Int32.ofNat 37) → am_GQ (100, 106, [(0, .ref 32), (1, .int x1), (2, .int x2)], [], g, t) Q) ∧ ((g 33 (Int32.toNatClampNeg (x1 + (Int32.ofNat 3)))) = (Int32.ofNat 37) → am_chk (am_in (x1 + (Int32.ofNat 4)) 240) (am_GQ (118, 0, [(0, .int (g 33 (Int32.toNatClampNeg (x1 + (Int32.ofNat 4))))), (1, .int (Int32.ofNat 48)), (2, .int (Int32.ofNat 51))], [], g, t) (am_af 100 98 [(0, .ref 32), (1, .int x1), (2, .int x2)] [] Q)))))))) :
    am_GQ (100, 57, [(0, .ref 32), (1, .int x1), (2, .int x2)], [.int s0], g, t) Q := am_wp_ok [106] 26 h
theorem B_M_kind_119 {g : am_G} {t : Nat} {Q : am_R → Prop} {x1 : Int32} {x2 : Int32} {s0 : Int32}
    (h : (s0 = (Int32.ofNat 0) → am_GQ (93, 0, [(0, .ref 32), (1, .int x1), (2, .int x2)], [], g, t) (am_af 100 155 [(0, .ref 32), (1, .int x1), (2, .int x2)] [] Q)) ∧ (¬ s0 = (Int32.ofNat 0) → am_GQ (92, 0, [(0, .ref 32), (1, .int (x1 + (Int32.ofNat 1))), (2, .int x2)], [], g, t) (am_af 100 127 [(0, .ref 32), (1, .int x1), (2, .int x2)] [] Q))) :
    am_GQ (100, 119, [(0, .ref 32), (1, .int x1), (2, .int x2)], [.int s0], g, t) Q := am_wp_ok [106] 7 h
theorem B_M_kind_101 {g : am_G} {t : Nat} {Q : am_R → Prop} {x1 : Int32} {x2 : Int32} {s0 : Int32}
    (h : (s0 = (Int32.ofNat 0) → am_GQ (100, 106, [(0, .ref 32), (1, .int x1), (2, .int x2)], [], g, t) Q) ∧ (¬ s0 = (Int32.ofNat 0) → Q (.inl (some (.int (Int32.ofNat 4))), g, t))) :
    am_GQ (100, 101, [(0, .ref 32), (1, .int x1), (2, .int x2)], [.int s0], g, t) Q := am_wp_ok [106] 3 h
theorem B_M_kind_158 {g : am_G} {t : Nat} {Q : am_R → Prop} {x1 : Int32} {x2 : Int32} {s0 : Int32}
    (h : (s0 = x2 → Q (.inl (some (.int (Int32.ofNat 0))), g, t)) ∧ (¬ s0 = x2 → am_GQ (113, 0, [(0, .ref 32), (1, .int x1), (2, .int s0)], [], g, t) (am_af 100 167 [(0, .ref 32), (1, .int x1), (2, .int x2), (3, .int s0)] [] Q))) :
    am_GQ (100, 158, [(0, .ref 32), (1, .int x1), (2, .int x2)], [.int s0], g, t) Q := am_wp_ok [106] 8 h
theorem B_M_kind_130 {g : am_G} {t : Nat} {Q : am_R → Prop} {x1 : Int32} {x2 : Int32} {s0 : Int32}
    (h : (¬ s0 = (Int32.ofNat 61) → Q (.inl (some (.int (Int32.ofNat 0))), g, t)) ∧ (s0 = (Int32.ofNat 61) → am_GQ (111, 0, [(0, .ref 32), (1, .int (x1 + (Int32.ofNat 2))), (2, .int x2)], [], g, t) (am_af 100 140 [(0, .ref 32), (1, .int x1), (2, .int x2)] [] Q))) :
    am_GQ (100, 130, [(0, .ref 32), (1, .int x1), (2, .int x2)], [.int s0], g, t) Q := am_wp_ok [106] 8 h
theorem B_M_kind_170 {g : am_G} {t : Nat} {Q : am_R → Prop} {x1 : Int32} {x2 : Int32} {x3 : Int32} {s0 : Int32}
    (h : (s0 = (Int32.ofNat 0) → am_GQ (111, 0, [(0, .ref 32), (1, .int x1), (2, .int x3)], [], g, t) (am_af 100 178 [(0, .ref 32), (1, .int x1), (2, .int x2), (3, .int x3)] [] Q)) ∧ (¬ s0 = (Int32.ofNat 0) → Q (.inl (some (.int (Int32.ofNat 0))), g, t))) :
    am_GQ (100, 170, [(0, .ref 32), (1, .int x1), (2, .int x2), (3, .int x3)], [.int s0], g, t) Q := am_wp_ok [106] 5 h
theorem B_M_kind_143 {g : am_G} {t : Nat} {Q : am_R → Prop} {x1 : Int32} {x2 : Int32} {s0 : Int32}
    (h : (s0 = (Int32.ofNat 0) → Q (.inl (some (.int (Int32.ofNat 0))), g, t)) ∧ (¬ s0 = (Int32.ofNat 0) → Q (.inl (some (.int (Int32.ofNat 2))), g, t))) :
    am_GQ (100, 143, [(0, .ref 32), (1, .int x1), (2, .int x2)], [.int s0], g, t) Q := am_wp_ok [106] 4 h
theorem B_M_kind_181 {g : am_G} {t : Nat} {Q : am_R → Prop} {x1 : Int32} {x2 : Int32} {x3 : Int32} {s0 : Int32}
    (h : (s0 = (Int32.ofNat 0) → Q (.inl (some (.int (Int32.ofNat 0))), g, t)) ∧ (¬ s0 = (Int32.ofNat 0) → am_GQ (111, 0, [(0, .ref 32), (1, .int (x3 + (Int32.ofNat 1))), (2, .int x2)], [], g, t) (am_af 100 189 [(0, .ref 32), (1, .int x1), (2, .int x2), (3, .int x3)] [] Q))) :
    am_GQ (100, 181, [(0, .ref 32), (1, .int x1), (2, .int x2), (3, .int x3)], [.int s0], g, t) Q := am_wp_ok [106] 7 h
theorem B_M_kind_192 {g : am_G} {t : Nat} {Q : am_R → Prop} {x1 : Int32} {x2 : Int32} {x3 : Int32} {s0 : Int32}
    (h : (s0 = (Int32.ofNat 0) → Q (.inl (some (.int (Int32.ofNat 0))), g, t)) ∧ (¬ s0 = (Int32.ofNat 0) → Q (.inl (some (.int (Int32.ofNat 3))), g, t))) :
    am_GQ (100, 192, [(0, .ref 32), (1, .int x1), (2, .int x2), (3, .int x3)], [.int s0], g, t) Q := am_wp_ok [106] 4 h
theorem B_M_length_0 {g : am_G} {t : Nat} {Q : am_R → Prop}
    (h : Q (.inl (some (.int ((am_w g 32 2 (Int32.ofNat 0)) 32 1))), (am_w g 32 2 (Int32.ofNat 0)), t)) :
    am_GQ (101, 0, [(0, .ref 32)], [], g, t) Q := am_wp_ok [] 6 h
theorem B_M_lines_0 {g : am_G} {t : Nat} {Q : am_R → Prop}
    (h : am_GQ (102, 19, [(0, .ref 32), (1, .int (Int32.ofNat 0)), (2, .int (Int32.ofNat 0)), (3, .int (Int32.ofNat 0)), (4, .int (Int32.ofNat 0))], [], (am_w (am_w g 32 14 (Int32.ofNat 0)) 32 16 (Int32.ofNat 0)), t) Q) :
    am_GQ (102, 0, [(0, .ref 32)], [], g, t) Q := am_wp_ok [19, 59, 78, 105, 128, 146, 159, 182, 221, 294, 344, 358] 14 h
theorem B_M_lines_19 {g : am_G} {t : Nat} {Q : am_R → Prop} {x1 : Int32} {x2 : Int32} {x3 : Int32} {x4 : Int32}
    (h : ((Int32.ofNat 26) ≤ x4 → am_GQ (102, 59, [(0, .ref 32), (1, .int x1), (2, .int x2), (3, .int x3), (4, .int (Int32.ofNat 0))], [], g, t) Q) ∧ (x4 < (Int32.ofNat 26) → am_chk (am_in x4 26) (am_chk (am_in x4 26) (am_chk (am_in x4 26) (am_GQ (102, 19, [(0, .ref 32), (1, .int x1), (2, .int x2), (3, .int x3), (4, .int (x4 + (Int32.ofNat 1)))], [], (am_w (am_w (am_w g 34 (Int32.toNatClampNeg x4) (-1)) 37 (Int32.toNatClampNeg x4) (Int32.ofNat 0)) 38 (Int32.toNatClampNeg x4) (Int32.ofNat 0)), t) Q))))) :
    am_GQ (102, 19, [(0, .ref 32), (1, .int x1), (2, .int x2), (3, .int x3), (4, .int x4)], [], g, t) Q := am_wp_ok [19, 59, 78, 105, 128, 146, 159, 182, 221, 294, 344, 358] 20 h
theorem B_M_lines_59 {g : am_G} {t : Nat} {Q : am_R → Prop} {x1 : Int32} {x2 : Int32} {x3 : Int32} {x4 : Int32}
    (h : ((Int32.ofNat 241) ≤ x4 → am_GQ (102, 358, [(0, .ref 32), (1, .int x1), (2, .int x2), (3, .int x3)], [], g, t) Q) ∧ (x4 < (Int32.ofNat 241) → ((g 32 1) ≤ x1 → am_GQ (102, 358, [(0, .ref 32), (1, .int x1), (2, .int x2), (3, .int x3)], [], g, t) Q) ∧ (x1 < (g 32 1) → am_GQ (102, 78, [(0, .ref 32), (1, .int x1), (2, .int x2), (3, .int x3), (4, .int x4), (5, .int x1)], [], g, t) Q))) :
    am_GQ (102, 59, [(0, .ref 32), (1, .int x1), (2, .int x2), (3, .int x3), (4, .int x4)], [], g, t) Q := am_wp_ok [19, 59, 78, 105, 128, 146, 159, 182, 221, 294, 344, 358] 9 h
theorem B_M_lines_358 {g : am_G} {t : Nat} {Q : am_R → Prop} {x1 : Int32} {x2 : Int32} {x3 : Int32}
    (h : (¬ x3 = (Int32.ofNat 4) → Q (.inl (some (.int (Int32.ofNat 0))), g, t)) ∧ (x3 = (Int32.ofNat 4) → Q (.inl (some (.int x2)), g, t))) :
    am_GQ (102, 358, [(0, .ref 32), (1, .int x1), (2, .int x2), (3, .int x3)], [], g, t) Q := am_wp_ok [19, 59, 78, 105, 128, 146, 159, 182, 221, 294, 344, 358] 6 h
theorem B_M_lines_78 {g : am_G} {t : Nat} {Q : am_R → Prop} {x1 : Int32} {x2 : Int32} {x3 : Int32} {x4 : Int32} {x5 : Int32}
    (h : ((g 32 1) ≤ x5 → am_GQ (102, 105, [(0, .ref 32), (1, .int x1), (2, .int x2), (3, .int x3), (4, .int x4), (5, .int x5)], [], g, t) Q) ∧ (x5 < (g 32 1) → am_chk (am_in x5 240) (((g 33 (Int32.toNatClampNeg x5)) = (Int32.ofNat 10) → am_GQ (102, 105, [(0, .ref 32), (1, .int x1), (2, .int x2), (3, .int x3), (4, .int x4), (5, .int x5)], [], g, t) Q) ∧ (¬ (g 33 (Int32.toNatClampNeg x5)) = (Int32.ofNat 10) → am_GQ (102, 78, [(0, .ref 32), (1, .int x1), (2, .int x2), (3, .int x3), (4, .int x4), (5, .int (x5 + (Int32.ofNat 1)))], [], g, t) Q)))) :
    am_GQ (102, 78, [(0, .ref 32), (1, .int x1), (2, .int x2), (3, .int x3), (4, .int x4), (5, .int x5)], [], g, t) Q := am_wp_ok [19, 59, 78, 105, 128, 146, 159, 182, 221, 294, 344, 358] 12 h
theorem B_M_lines_105 {g : am_G} {t : Nat} {Q : am_R → Prop} {x1 : Int32} {x2 : Int32} {x3 : Int32} {x4 : Int32} {x5 : Int32}
    (h : (¬ x5 = (g 32 1) → am_GQ (100, 0, [(0, .ref 32), (1, .int x1), (2, .int x5)], [], g, t) (am_af 102 125 [(0, .ref 32), (1, .int x1), (2, .int (x2 + (Int32.ofNat 1))), (3, .int x3), (4, .int x4), (5, .int x5)] [] Q)) ∧ (x5 = (g 32 1) → am_GQ (102, 128, [(0, .ref 32), (1, .int x1), (2, .int (x2 + (Int32.ofNat 1))), (3, .int x3), (4, .int x4), (5, .int x5)], [.int (Int32.ofNat 0)], g, t) Q)) :
    am_GQ (102, 105, [(0, .ref 32), (1, .int x1), (2, .int x2), (3, .int x3), (4, .int x4), (5, .int x5)], [], g, t) Q := am_wp_ok [19, 59, 78, 105, 128, 146, 159, 182, 221, 294, 344, 358] 9 h
theorem B_M_lines_128 {g : am_G} {t : Nat} {Q : am_R → Prop} {x1 : Int32} {x2 : Int32} {x3 : Int32} {x4 : Int32} {x5 : Int32} {s0 : Int32}
    (h : (s0 = (Int32.ofNat 0) → Q (.inl (some (.int x2)), g, t)) ∧ (¬ s0 = (Int32.ofNat 0) → (¬ x3 = (Int32.ofNat 4) → am_GQ (102, 146, [(0, .ref 32), (1, .int x1), (2, .int x2), (3, .int x3), (4, .int x4), (5, .int x5), (6, .int s0)], [], g, t) Q) ∧ (x3 = (Int32.ofNat 4) → (¬ s0 = (Int32.ofNat 5) → Q (.inl (some (.int x2)), g, t)) ∧ (s0 = (Int32.ofNat 5) → am_GQ (102, 146, [(0, .ref 32), (1, .int x1), (2, .int x2), (3, .int x3), (4, .int x4), (5, .int x5), (6, .int s0)], [], g, t) Q)))) :
    am_GQ (102, 128, [(0, .ref 32), (1, .int x1), (2, .int x2), (3, .int x3), (4, .int x4), (5, .int x5)], [.int s0], g, t) Q := am_wp_ok [19, 59, 78, 105, 128, 146, 159, 182, 221, 294, 344, 358] 11 h
theorem B_M_lines_146 {g : am_G} {t : Nat} {Q : am_R → Prop} {x1 : Int32} {x2 : Int32} {x3 : Int32} {x4 : Int32} {x5 : Int32} {x6 : Int32}
    (h : (¬ x6 = (Int32.ofNat 5) → am_GQ (102, 159, [(0, .ref 32), (1, .int x1), (2, .int x2), (3, .int x3), (4, .int x4), (5, .int x5), (6, .int x6)], [], g, t) Q) ∧ (x6 = (Int32.ofNat 5) → ((Int32.ofNat 3) ≤ x3 → am_GQ (102, 159, [(0, .ref 32), (1, .int x1), (2, .int x2), (3, .int x3), (4, .int x4), (5, .int x5), (6, .int x6)], [], g, t) Q) ∧ (x3 < (Int32.ofNat 3) → Q (.inl (some (.int x2)), g, t)))) :
    am_GQ (102, 146, [(0, .ref 32), (1, .int x1), (2, .int x2), (3, .int x3), (4, .int x4), (5, .int x5), (6, .int x6)], [], g, t) Q := am_wp_ok [19, 59, 78, 105, 128, 146, 159, 182, 221, 294, 344, 358] 8 h
theorem B_M_lines_159 {g : am_G} {t : Nat} {Q : am_R → Prop} {x1 : Int32} {x2 : Int32} {x3 : Int32} {x4 : Int32} {x5 : Int32} {x6 : Int32}
    (h : (¬ x6 = (Int32.ofNat 5) → am_GQ (102, 182, [(0, .ref 32), (1, .int x1), (2, .int x2), (3, .int x3), (4, .int x4), (5, .int x5), (6, .int x6)], [], g, t) Q) ∧ (x6 = (Int32.ofNat 5) → (¬ x3 = (Int32.ofNat 3) → am_GQ (102, 182, [(0, .ref 32), (1, .int x1), (2, .int x2), (3, .int x3), (4, .int x4), (5, .int x5), (6, .int x6)], [], g, t) Q) ∧ (x3 = (Int32.ofNat 3) → am_chk (am_in ((g 32 14) - (Int32.ofNat 1)) 64 && am_isb (Int32.ofNat 1)) (am_GQ (102, 182, [(0, .ref 32), (1, .int x1), (2, .int x2), (3, .int x3), (4, .int x4), (5, .int x5), (6, .int x6)], [], (am_w g 43 (Int32.toNatClampNeg ((g 32 14) - (Int32.ofNat 1))) (Int32.ofNat 1)), t) Q)))) :
    am_GQ (102, 159, [(0, .ref 32), (1, .int x1), (2, .int x2), (3, .int x3), (4, .int x4), (5, .int x5), (6, .int x6)], [], g, t) Q := am_wp_ok [19, 59, 78, 105, 128, 146, 159, 182, 221, 294, 344, 358] 14 h
theorem B_M_lines_182 {g : am_G} {t : Nat} {Q : am_R → Prop} {x1 : Int32} {x2 : Int32} {x3 : Int32} {x4 : Int32} {x5 : Int32} {x6 : Int32}
    (h : (¬ x6 = (Int32.ofNat 2) → am_GQ (102, 221, [(0, .ref 32), (1, .int x1), (2, .int x2), (3, .int x3), (4, .int x4), (5, .int x5), (6, .int x6)], [], g, t) Q) ∧ (x6 = (Int32.ofNat 2) → am_chk (am_in x1 240) (am_chk (am_in ((g 33 (Int32.toNatClampNeg x1)) - (Int32.ofNat 65)) 26) (am_chk (am_in x1 240) (am_chk (am_in (((am_w g 34 (Int32.toNatClampNeg ((g 33 (Int32.toNatClampNeg x1)) - (Int32.ofNat 65))) (x1 + (Int32.ofNat 2))) 33 (Int32.toNatClampNeg x1)) - (Int32.ofNat 65)) 26) (am_GQ (102, 221, [(0, .ref 32), (1, .int x1), (2, .int x2), (3, .int x3), (4, .int x4), (5, .int x5), (6, .int x6)], [], (am_w (am_w g 34 (Int32.toNatClampNeg ((g 33 (Int32.toNatClampNeg x1)) - (Int32.ofNat 65))) (x1 + (Int32.ofNat 2))) 35 (Int32.toNatClampNeg (((am_w g 34 (Int32.toNatClampNeg ((g 33 (Int32.toNatClampNeg x1)) - (Int32.ofNat 65))) (x1 + (Int32.ofNat 2))) 33 (Int32.toNatClampNeg x1)) - (Int32.ofNat 65))) x5), t) Q)))))) :
    am_GQ (102, 182, [(0, .ref 32), (1, .int x1), (2, .int x2), (3, .int x3), (4, .int x4), (5, .int x5), (6, .int x6)], [], g, t) Q := am_wp_ok [19, 59, 78, 105, 128, 146, 159, 182, 221, 294, 344, 358] 25 h
theorem B_M_lines_221 {g : am_G} {t : Nat} {Q : am_R → Prop} {x1 : Int32} {x2 : Int32} {x3 : Int32} {x4 : Int32} {x5 : Int32} {x6 : Int32}
    (h : (¬ x6 = (Int32.ofNat 3) → am_GQ (102, 294, [(0, .ref 32), (1, .int x1), (2, .int x2), (3, .int x3), (4, .int x4), (5, .int x5), (6, .int x6)], [], g, t) Q) ∧ (x6 = (Int32.ofNat 3) → am_chk (am_in (g 32 14) 64) (am_GQ (93, 0, [(0, .ref 32), (1, .int x1), (2, .int x5)], [], (am_w g 39 (Int32.toNatClampNeg (g 32 14)) x1), t) (am_af 102 249 [(0, .ref 32), (1, .int x1), (2, .int x2), (3, .int x3), (4, .int x4), (5, .int x5), (6, .int x6)] [.int ((am_w g 39 (Int32.toNatClampNeg (g 32 14)) x1) 32 14), .ref 40] Q)))) :
    am_GQ (102, 221, [(0, .ref 32), (1, .int x1), (2, .int x2), (3, .int x3), (4, .int x4), (5, .int x5), (6, .int x6)], [], g, t) Q := am_wp_ok [19, 59, 78, 105, 128, 146, 159, 182, 221, 294, 344, 358] 17 h
theorem B_M_lines_294 {g : am_G} {t : Nat} {Q : am_R → Prop} {x1 : Int32} {x2 : Int32} {x3 : Int32} {x4 : Int32} {x5 : Int32} {x6 : Int32}
    (h : (¬ x6 = (Int32.ofNat 4) → am_GQ (102, 344, [(0, .ref 32), (1, .int x1), (2, .int x2), (3, .int x3), (4, .int x4), (5, .int x5), (6, .int x6)], [], g, t) Q) ∧ (x6 = (Int32.ofNat 4) → am_chk (am_in (x1 + (Int32.ofNat 1)) 240) (am_chk (am_in (x1 + (Int32.ofNat 4)) 240) (am_chk (am_in (g 32 16) 32) (am_GQ (102, 344, [(0, .ref 32), (1, .int x1), (2, .int x2), (3, .int x3), (4, .int x4), (5, .int x5), (6, .int x6)], [], (am_w (am_w g 44 (Int32.toNatClampNeg (g 32 16)) ((((Int32.ofNat 4) * ((g 33 (Int32.toNatClampNeg (x1 + (Int32.ofNat 1)))) - (Int32.ofNat 48))) + (g 33 (Int32.toNatClampNeg (x1 + (Int32.ofNat 4))))) - (Int32.ofNat 48))) 32 16 (((am_w g 44 (Int32.toNatClampNeg (g 32 16)) ((((Int32.ofNat 4) * ((g 33 (Int32.toNatClampNeg (x1 + (Int32.ofNat 1)))) - (Int32.ofNat 48))) + (g 33 (Int32.toNatClampNeg (x1 + (Int32.ofNat 4))))) - (Int32.ofNat 48))) 32 16) + (Int32.ofNat 1))), t) Q))))) :
    am_GQ (102, 294, [(0, .ref 32), (1, .int x1), (2, .int x2), (3, .int x3), (4, .int x4), (5, .int x5), (6, .int x6)], [], g, t) Q := am_wp_ok [19, 59, 78, 105, 128, 146, 159, 182, 221, 294, 344, 358] 33 h
theorem B_M_lines_252 {g : am_G} {t : Nat} {Q : am_R → Prop} {x1 : Int32} {x2 : Int32} {x3 : Int32} {x4 : Int32} {x5 : Int32} {x6 : Int32} {s0 : Int32} {s1 : Int32}
    (h : am_chk (am_in s1 64) (am_chk (am_in ((am_w g 40 (Int32.toNatClampNeg s1) s0) 32 14) 64) (am_chk (am_in ((am_w (am_w g 40 (Int32.toNatClampNeg s1) s0) 41 (Int32.toNatClampNeg ((am_w g 40 (Int32.toNatClampNeg s1) s0) 32 14)) x5) 32 14) 64) (am_chk (am_in ((am_w (am_w (am_w g 40 (Int32.toNatClampNeg s1) s0) 41 (Int32.toNatClampNeg ((am_w g 40 (Int32.toNatClampNeg s1) s0) 32 14)) x5) 42 (Int32.toNatClampNeg ((am_w (am_w g 40 (Int32.toNatClampNeg s1) s0) 41 (Int32.toNatClampNeg ((am_w g 40 (Int32.toNatClampNeg s1) s0) 32 14)) x5) 32 14)) x2) 32 14) 64 && am_isb (Int32.ofNat 0)) (am_GQ (102, 294, [(0, .ref 32), (1, .int x1), (2, .int x2), (3, .int x3), (4, .int x4), (5, .int x5), (6, .int x6)], [], (am_w (am_w (am_w (am_w (am_w g 40 (Int32.toNatClampNeg s1) s0) 41 (Int32.toNatClampNeg ((am_w g 40 (Int32.toNatClampNeg s1) s0) 32 14)) x5) 42 (Int32.toNatClampNeg ((am_w (am_w g 40 (Int32.toNatClampNeg s1) s0) 41 (Int32.toNatClampNeg ((am_w g 40 (Int32.toNatClampNeg s1) s0) 32 14)) x5) 32 14)) x2) 43 (Int32.toNatClampNeg ((am_w (am_w (am_w g 40 (Int32.toNatClampNeg s1) s0) 41 (Int32.toNatClampNeg ((am_w g 40 (Int32.toNatClampNeg s1) s0) 32 14)) x5) 42 (Int32.toNatClampNeg ((am_w (am_w g 40 (Int32.toNatClampNeg s1) s0) 41 (Int32.toNatClampNeg ((am_w g 40 (Int32.toNatClampNeg s1) s0) 32 14)) x5) 32 14)) x2) 32 14)) (Int32.ofNat 0)) 32 14 (((am_w (am_w (am_w (am_w g 40 (Int32.toNatClampNeg s1) s0) 41 (Int32.toNatClampNeg ((am_w g 40 (Int32.toNatClampNeg s1) s0) 32 14)) x5) 42 (Int32.toNatClampNeg ((am_w (am_w g 40 (Int32.toNatClampNeg s1) s0) 41 (Int32.toNatClampNeg ((am_w g 40 (Int32.toNatClampNeg s1) s0) 32 14)) x5) 32 14)) x2) 43 (Int32.toNatClampNeg ((am_w (am_w (am_w g 40 (Int32.toNatClampNeg s1) s0) 41 (Int32.toNatClampNeg ((am_w g 40 (Int32.toNatClampNeg s1) s0) 32 14)) x5) 42 (Int32.toNatClampNeg ((am_w (am_w g 40 (Int32.toNatClampNeg s1) s0) 41 (Int32.toNatClampNeg ((am_w g 40 (Int32.toNatClampNeg s1) s0) 32 14)) x5) 32 14)) x2) 32 14)) (Int32.ofNat 0)) 32 14) + (Int32.ofNat 1))), t) Q))))) :
    am_GQ (102, 252, [(0, .ref 32), (1, .int x1), (2, .int x2), (3, .int x3), (4, .int x4), (5, .int x5), (6, .int x6)], [.int s0, .int s1, .ref 40], g, t) Q := am_wp_ok [19, 59, 78, 105, 128, 146, 159, 182, 221, 294, 344, 358] 25 h
theorem B_M_lines_344 {g : am_G} {t : Nat} {Q : am_R → Prop} {x1 : Int32} {x2 : Int32} {x3 : Int32} {x4 : Int32} {x5 : Int32} {x6 : Int32}
    (h : am_GQ (102, 59, [(0, .ref 32), (1, .int (x5 + (Int32.ofNat 1))), (2, .int x2), (3, .int x6), (4, .int (x4 + (Int32.ofNat 1)))], [], g, t) Q) :
    am_GQ (102, 344, [(0, .ref 32), (1, .int x1), (2, .int x2), (3, .int x3), (4, .int x4), (5, .int x5), (6, .int x6)], [], g, t) Q := am_wp_ok [19, 59, 78, 105, 128, 146, 159, 182, 221, 294, 344, 358] 8 h
theorem B_M_macros_0 {g : am_G} {t : Nat} {Q : am_R → Prop}
    (h : am_GQ (103, 2, [(0, .ref 32), (1, .int (Int32.ofNat 0))], [], g, t) Q) :
    am_GQ (103, 0, [(0, .ref 32)], [], g, t) Q := am_wp_ok [2, 23, 31, 95, 127, 141] 2 h
theorem B_M_macros_2 {g : am_G} {t : Nat} {Q : am_R → Prop} {x1 : Int32}
    (h : ((Int32.ofNat 26) ≤ x1 → am_GQ (103, 23, [(0, .ref 32), (1, .int (Int32.ofNat 0))], [], g, t) Q) ∧ (x1 < (Int32.ofNat 26) → am_chk (am_in x1 26) (am_GQ (103, 2, [(0, .ref 32), (1, .int (x1 + (Int32.ofNat 1)))], [], (am_w g 36 (Int32.toNatClampNeg x1) (Int32.ofNat 0)), t) Q))) :
    am_GQ (103, 2, [(0, .ref 32), (1, .int x1)], [], g, t) Q := am_wp_ok [2, 23, 31, 95, 127, 141] 10 h
theorem B_M_macros_23 {g : am_G} {t : Nat} {Q : am_R → Prop} {x1 : Int32}
    (h : ((Int32.ofNat 27) ≤ x1 → Q (.inl none, g, t)) ∧ (x1 < (Int32.ofNat 27) → am_GQ (103, 31, [(0, .ref 32), (1, .int x1), (2, .int (Int32.ofNat 0))], [], g, t) Q)) :
    am_GQ (103, 23, [(0, .ref 32), (1, .int x1)], [], g, t) Q := am_wp_ok [2, 23, 31, 95, 127, 141] 5 h
theorem B_M_macros_31 {g : am_G} {t : Nat} {Q : am_R → Prop} {x1 : Int32} {x2 : Int32}
    (h : ((Int32.ofNat 26) ≤ x2 → am_GQ (103, 23, [(0, .ref 32), (1, .int (x1 + (Int32.ofNat 1)))], [], g, t) Q) ∧ (x2 < (Int32.ofNat 26) → am_chk (am_in x2 26) (((Int32.ofNat 0) ≤ (g 34 (Int32.toNatClampNeg x2)) → am_chk (am_in x2 26) (am_chk (am_in x2 26) (am_GQ (111, 0, [(0, .ref 32), (1, .int (g 34 (Int32.toNatClampNeg x2))), (2, .int (g 35 (Int32.toNatClampNeg x2)))], [], g, t) (am_af 103 62 [(0, .ref 32), (1, .int x1), (2, .int x2)] [] Q)))) ∧ ((g 34 (Int32.toNatClampNeg x2)) < (Int32.ofNat 0) → am_GQ (103, 141, [(0, .ref 32), (1, .int x1), (2, .int x2)], [], g, t) Q)))) :
    am_GQ (103, 31, [(0, .ref 32), (1, .int x1), (2, .int x2)], [], g, t) Q := am_wp_ok [2, 23, 31, 95, 127, 141] 18 h
theorem B_M_macros_65 {g : am_G} {t : Nat} {Q : am_R → Prop} {x1 : Int32} {x2 : Int32} {s0 : Int32}
    (h : am_chk (am_in x2 26) (am_chk (am_in x2 26) (am_GQ (103, 95, [(0, .ref 32), (1, .int x1), (2, .int x2), (3, .int s0), (4, .int ((am_w (am_w g 37 (Int32.toNatClampNeg x2) (g 32 30)) 38 (Int32.toNatClampNeg x2) ((am_w g 37 (Int32.toNatClampNeg x2) (g 32 30)) 32 31)) 32 32)), (5, .int (Int32.ofNat 0))], [], (am_w (am_w g 37 (Int32.toNatClampNeg x2) (g 32 30)) 38 (Int32.toNatClampNeg x2) ((am_w g 37 (Int32.toNatClampNeg x2) (g 32 30)) 32 31)), t) Q))) :
    am_GQ (103, 65, [(0, .ref 32), (1, .int x1), (2, .int x2)], [.int s0], g, t) Q := am_wp_ok [2, 23, 31, 95, 127, 141] 18 h
theorem B_M_macros_141 {g : am_G} {t : Nat} {Q : am_R → Prop} {x1 : Int32} {x2 : Int32}
    (h : am_GQ (103, 31, [(0, .ref 32), (1, .int x1), (2, .int (x2 + (Int32.ofNat 1)))], [], g, t) Q) :
    am_GQ (103, 141, [(0, .ref 32), (1, .int x1), (2, .int x2)], [], g, t) Q := am_wp_ok [2, 23, 31, 95, 127, 141] 2 h
theorem B_M_macros_95 {g : am_G} {t : Nat} {Q : am_R → Prop} {x1 : Int32} {x2 : Int32} {x3 : Int32} {x4 : Int32} {x5 : Int32}
    (h : ((Int32.ofNat 26) ≤ x5 → am_chk (am_in x2 26) (am_GQ (103, 141, [(0, .ref 32), (1, .int x1), (2, .int x2)], [], (am_w g 36 (Int32.toNatClampNeg x2) x4), t) Q)) ∧ (x5 < (Int32.ofNat 26) → (¬ (((g 32 32) >>> (x5 &&& Int32.ofNat 31)) &&& (Int32.ofNat 1)) = (Int32.ofNat 1) → am_GQ (103, 127, [(0, .ref 32), (1, .int x1), (2, .int x2), (3, .int x3), (4, .int x4), (5, .int x5)], [], g, t) Q) ∧ ((((g 32 32) >>> (x5 &&& Int32.ofNat 31)) &&& (Int32.ofNat 1)) = (Int32.ofNat 1) → am_chk (am_in x5 26) (am_GQ (103, 127, [(0, .ref 32), (1, .int x1), (2, .int x2), (3, .int x3), (4, .int (x4 ||| (g 36 (Int32.toNatClampNeg x5)))), (5, .int x5)], [], g, t) Q)))) :
    am_GQ (103, 95, [(0, .ref 32), (1, .int x1), (2, .int x2), (3, .int x3), (4, .int x4), (5, .int x5)], [], g, t) Q := am_wp_ok [2, 23, 31, 95, 127, 141] 18 h
theorem B_M_macros_127 {g : am_G} {t : Nat} {Q : am_R → Prop} {x1 : Int32} {x2 : Int32} {x3 : Int32} {x4 : Int32} {x5 : Int32}
    (h : am_GQ (103, 95, [(0, .ref 32), (1, .int x1), (2, .int x2), (3, .int x3), (4, .int x4), (5, .int (x5 + (Int32.ofNat 1)))], [], g, t) Q) :
    am_GQ (103, 127, [(0, .ref 32), (1, .int x1), (2, .int x2), (3, .int x3), (4, .int x4), (5, .int x5)], [], g, t) Q := am_wp_ok [2, 23, 31, 95, 127, 141] 2 h
theorem B_M_make_0 {g : am_G} {t : Nat} {Q : am_R → Prop} {x1 : Int32}
    (h : am_GQ (118, 0, [(0, .int x1), (1, .int (Int32.ofNat 0)), (2, .int (Int32.ofNat 31))], [], (am_w g 32 2 (Int32.ofNat 1)), t) (am_af 104 9 [(0, .ref 32), (1, .int x1)] [] Q)) :
    am_GQ (104, 0, [(0, .ref 32), (1, .int x1)], [], g, t) Q := am_wp_ok [40, 68, 82, 115, 129, 169, 186, 216, 244, 257, 287, 297, 325, 331] 7 h
theorem B_M_make_12 {g : am_G} {t : Nat} {Q : am_R → Prop} {x1 : Int32} {s0 : Int32}
    (h : (¬ s0 = (Int32.ofNat 0) → am_GQ (98, 0, [(0, .ref 32)], [], g, t) (am_af 104 18 [(0, .ref 32), (1, .int x1)] [] Q)) ∧ (s0 = (Int32.ofNat 0) → Q (.inl (some (.int (Int32.ofNat 0))), g, t))) :
    am_GQ (104, 12, [(0, .ref 32), (1, .int x1)], [.int s0], g, t) Q := am_wp_ok [40, 68, 82, 115, 129, 169, 186, 216, 244, 257, 287, 297, 325, 331] 3 h
theorem B_M_make_21 {g : am_G} {t : Nat} {Q : am_R → Prop} {x1 : Int32}
    (h : am_chk (am_in x1 32) (am_GQ (104, 40, [(0, .ref 32), (1, .int x1), (2, .int ((g 49 (Int32.toNatClampNeg x1)) ||| ((Int32.ofNat 1) <<< (x1 &&& Int32.ofNat 31)))), (3, .int (Int32.ofNat 0)), (4, .int (Int32.ofNat 0)), (5, .int (Int32.ofNat 0))], [], g, t) Q)) :
    am_GQ (104, 21, [(0, .ref 32), (1, .int x1)], [], g, t) Q := am_wp_ok [40, 68, 82, 115, 129, 169, 186, 216, 244, 257, 287, 297, 325, 331] 15 h
theorem B_M_make_40 {g : am_G} {t : Nat} {Q : am_R → Prop} {x1 : Int32} {x2 : Int32} {x3 : Int32} {x4 : Int32} {x5 : Int32}
    (h : ((Int32.ofNat 32) ≤ x5 → am_GQ (104, 82, [(0, .ref 32), (1, .int x1), (2, .int x2), (3, .int x3), (4, .int x4), (5, .int (Int32.ofNat 0))], [], (am_w g 32 2 (Int32.ofNat 2)), t) Q) ∧ (x5 < (Int32.ofNat 32) → am_chk (am_in x5 32) (((g 47 (Int32.toNatClampNeg x5)) ≤ x4 → am_GQ (104, 68, [(0, .ref 32), (1, .int x1), (2, .int x2), (3, .int x3), (4, .int x4), (5, .int x5)], [], g, t) Q) ∧ (x4 < (g 47 (Int32.toNatClampNeg x5)) → am_chk (am_in x5 32) (am_GQ (104, 68, [(0, .ref 32), (1, .int x1), (2, .int x2), (3, .int x3), (4, .int (g 47 (Int32.toNatClampNeg x5))), (5, .int x5)], [], g, t) Q))))) :
    am_GQ (104, 40, [(0, .ref 32), (1, .int x1), (2, .int x2), (3, .int x3), (4, .int x4), (5, .int x5)], [], g, t) Q := am_wp_ok [40, 68, 82, 115, 129, 169, 186, 216, 244, 257, 287, 297, 325, 331] 14 h
theorem B_M_make_82 {g : am_G} {t : Nat} {Q : am_R → Prop} {x1 : Int32} {x2 : Int32} {x3 : Int32} {x4 : Int32} {x5 : Int32}
    (h : ((Int32.ofNat 32) ≤ x5 → am_GQ (104, 129, [(0, .ref 32), (1, .int x1), (2, .int x2), (3, .int x3), (4, .int x4), (5, .int (Int32.ofNat 0))], [], (am_w g 32 2 (Int32.ofNat 3)), t) Q) ∧ (x5 < (Int32.ofNat 32) → am_GQ (99, 0, [(0, .int x2), (1, .int x5)], [], g, t) (am_af 104 92 [(0, .ref 32), (1, .int x1), (2, .int x2), (3, .int x3), (4, .int x4), (5, .int x5)] [] Q))) :
    am_GQ (104, 82, [(0, .ref 32), (1, .int x1), (2, .int x2), (3, .int x3), (4, .int x4), (5, .int x5)], [], g, t) Q := am_wp_ok [40, 68, 82, 115, 129, 169, 186, 216, 244, 257, 287, 297, 325, 331] 8 h
theorem B_M_make_68 {g : am_G} {t : Nat} {Q : am_R → Prop} {x1 : Int32} {x2 : Int32} {x3 : Int32} {x4 : Int32} {x5 : Int32}
    (h : am_GQ (104, 40, [(0, .ref 32), (1, .int x1), (2, .int x2), (3, .int x3), (4, .int x4), (5, .int (x5 + (Int32.ofNat 1)))], [], g, t) Q) :
    am_GQ (104, 68, [(0, .ref 32), (1, .int x1), (2, .int x2), (3, .int x3), (4, .int x4), (5, .int x5)], [], g, t) Q := am_wp_ok [40, 68, 82, 115, 129, 169, 186, 216, 244, 257, 287, 297, 325, 331] 2 h
theorem B_M_make_129 {g : am_G} {t : Nat} {Q : am_R → Prop} {x1 : Int32} {x2 : Int32} {x3 : Int32} {x4 : Int32} {x5 : Int32}
    (h : ((Int32.ofNat 32) ≤ x5 → am_GQ (108, 0, [(0, .ref 32), (1, .int x2)], [], g, t) (am_af 104 177 [(0, .ref 32), (1, .int x1), (2, .int x2), (3, .int x3), (4, .int x4), (5, .int x5)] [] Q)) ∧ (x5 < (Int32.ofNat 32) → am_GQ (99, 0, [(0, .int x2), (1, .int x5)], [], g, t) (am_af 104 139 [(0, .ref 32), (1, .int x1), (2, .int x2), (3, .int x3), (4, .int x4), (5, .int x5)] [] Q))) :
    am_GQ (104, 129, [(0, .ref 32), (1, .int x1), (2, .int x2), (3, .int x3), (4, .int x4), (5, .int x5)], [], g, t) Q := am_wp_ok [40, 68, 82, 115, 129, 169, 186, 216, 244, 257, 287, 297, 325, 331] 6 h
theorem B_M_make_95 {g : am_G} {t : Nat} {Q : am_R → Prop} {x1 : Int32} {x2 : Int32} {x3 : Int32} {x4 : Int32} {x5 : Int32} {s0 : Int32}
    (h : (s0 = (Int32.ofNat 0) → am_GQ (104, 115, [(0, .ref 32), (1, .int x1), (2, .int x2), (3, .int x3), (4, .int x4), (5, .int x5)], [], g, t) Q) ∧ (¬ s0 = (Int32.ofNat 0) → am_chk (am_in x5 32) (am_GQ (99, 0, [(0, .int (g 49 (Int32.toNatClampNeg x5))), (1, .int x5)], [], g, t) (am_af 104 107 [(0, .ref 32), (1, .int x1), (2, .int x2), (3, .int x3), (4, .int x4), (5, .int x5)] [] Q)))) :
    am_GQ (104, 95, [(0, .ref 32), (1, .int x1), (2, .int x2), (3, .int x3), (4, .int x4), (5, .int x5)], [.int s0], g, t) Q := am_wp_ok [40, 68, 82, 115, 129, 169, 186, 216, 244, 257, 287, 297, 325, 331] 7 h
theorem B_M_make_180 {g : am_G} {t : Nat} {Q : am_R → Prop} {x1 : Int32} {x2 : Int32} {x3 : Int32} {x4 : Int32} {x5 : Int32}
    (h : am_GQ (104, 186, [(0, .ref 32), (1, .int x1), (2, .int x2), (3, .int x3), (4, .int x4), (5, .int (Int32.ofNat 0)), (6, .int (Int32.ofNat 0))], [], g, t) Q) :
    am_GQ (104, 180, [(0, .ref 32), (1, .int x1), (2, .int x2), (3, .int x3), (4, .int x4), (5, .int x5)], [], g, t) Q := am_wp_ok [40, 68, 82, 115, 129, 169, 186, 216, 244, 257, 287, 297, 325, 331] 4 h
theorem B_M_make_142 {g : am_G} {t : Nat} {Q : am_R → Prop} {x1 : Int32} {x2 : Int32} {x3 : Int32} {x4 : Int32} {x5 : Int32} {s0 : Int32}
    (h : (s0 = (Int32.ofNat 0) → am_GQ (104, 169, [(0, .ref 32), (1, .int x1), (2, .int x2), (3, .int x3), (4, .int x4), (5, .int x5)], [], g, t) Q) ∧ (¬ s0 = (Int32.ofNat 0) → am_GQ (99, 0, [(0, .int (g 32 23)), (1, .int x5)], [], g, t) (am_af 104 151 [(0, .ref 32), (1, .int x1), (2, .int x2), (3, .int x3), (4, .int x4), (5, .int x5)] [] Q))) :
    am_GQ (104, 142, [(0, .ref 32), (1, .int x1), (2, .int x2), (3, .int x3), (4, .int x4), (5, .int x5)], [.int s0], g, t) Q := am_wp_ok [40, 68, 82, 115, 129, 169, 186, 216, 244, 257, 287, 297, 325, 331] 5 h
theorem B_M_make_115 {g : am_G} {t : Nat} {Q : am_R → Prop} {x1 : Int32} {x2 : Int32} {x3 : Int32} {x4 : Int32} {x5 : Int32}
    (h : am_GQ (104, 82, [(0, .ref 32), (1, .int x1), (2, .int x2), (3, .int x3), (4, .int x4), (5, .int (x5 + (Int32.ofNat 1)))], [], g, t) Q) :
    am_GQ (104, 115, [(0, .ref 32), (1, .int x1), (2, .int x2), (3, .int x3), (4, .int x4), (5, .int x5)], [], g, t) Q := am_wp_ok [40, 68, 82, 115, 129, 169, 186, 216, 244, 257, 287, 297, 325, 331] 2 h
theorem B_M_make_110 {g : am_G} {t : Nat} {Q : am_R → Prop} {x1 : Int32} {x2 : Int32} {x3 : Int32} {x4 : Int32} {x5 : Int32} {s0 : Int32}
    (h : (s0 = (Int32.ofNat 0) → am_GQ (104, 115, [(0, .ref 32), (1, .int x1), (2, .int x2), (3, .int x3), (4, .int x4), (5, .int x5)], [], g, t) Q) ∧ (¬ s0 = (Int32.ofNat 0) → Q (.inl (some (.int (Int32.ofNat 0))), g, t))) :
    am_GQ (104, 110, [(0, .ref 32), (1, .int x1), (2, .int x2), (3, .int x3), (4, .int x4), (5, .int x5)], [.int s0], g, t) Q := am_wp_ok [40, 68, 82, 115, 129, 169, 186, 216, 244, 257, 287, 297, 325, 331] 3 h
theorem B_M_make_186 {g : am_G} {t : Nat} {Q : am_R → Prop} {x1 : Int32} {x2 : Int32} {x3 : Int32} {x4 : Int32} {x5 : Int32} {x6 : Int32}
    (h : ((Int32.ofNat 32) ≤ x6 → (x5 ≤ (Int32.ofNat 0) → am_GQ (104, 244, [(0, .ref 32), (1, .int x1), (2, .int x2), (3, .int x3), (4, .int x4), (5, .int x5)], [], (am_w g 32 2 (Int32.ofNat 4)), t) Q) ∧ ((Int32.ofNat 0) < x5 → ((x4 + x5) ≤ (Int32.ofNat 1000000000) → am_GQ (104, 244, [(0, .ref 32), (1, .int x1), (2, .int x2), (3, .int x3), (4, .int x4), (5, .int x5)], [], (am_w g 32 2 (Int32.ofNat 4)), t) Q) ∧ ((Int32.ofNat 1000000000) < (x4 + x5) → Q (.inl (some (.int (Int32.ofNat 0))), (am_w g 32 2 (Int32.ofNat 4)), t)))) ∧ (x6 < (Int32.ofNat 32) → am_chk (am_in x6 32) ((¬ (g 50 (Int32.toNatClampNeg x6)) = (Int32.ofNat 0) → am_GQ (104, 216, [(0, .ref 32), (1, .int x1), (2, .int x2), (3, .int (x3 ||| ((Int32.ofNat 1) <<< (x6 &&& Int32.ofNat 31)))), (4, .int x4), (5, .int (x5 + (Int32.ofNat 1))), (6, .int x6)], [], g, t) Q) ∧ ((g 50 (Int32.toNatClampNeg x6)) = (Int32.ofNat 0) → am_GQ (104, 216, [(0, .ref 32), (1, .int x1), (2, .int x2), (3, .int x3), (4, .int x4), (5, .int x5), (6, .int x6)], [], g, t) Q)))) :
    am_GQ (104, 186, [(0, .ref 32), (1, .int x1), (2, .int x2), (3, .int x3), (4, .int x4), (5, .int x5), (6, .int x6)], [], g, t) Q := am_wp_ok [40, 68, 82, 115, 129, 169, 186, 216, 244, 257, 287, 297, 325, 331] 15 h
theorem B_M_make_169 {g : am_G} {t : Nat} {Q : am_R → Prop} {x1 : Int32} {x2 : Int32} {x3 : Int32} {x4 : Int32} {x5 : Int32}
    (h : am_GQ (104, 129, [(0, .ref 32), (1, .int x1), (2, .int x2), (3, .int x3), (4, .int x4), (5, .int (x5 + (Int32.ofNat 1)))], [], g, t) Q) :
    am_GQ (104, 169, [(0, .ref 32), (1, .int x1), (2, .int x2), (3, .int x3), (4, .int x4), (5, .int x5)], [], g, t) Q := am_wp_ok [40, 68, 82, 115, 129, 169, 186, 216, 244, 257, 287, 297, 325, 331] 2 h
theorem B_M_make_154 {g : am_G} {t : Nat} {Q : am_R → Prop} {x1 : Int32} {x2 : Int32} {x3 : Int32} {x4 : Int32} {x5 : Int32} {s0 : Int32}
    (h : (¬ s0 = (Int32.ofNat 0) → am_GQ (104, 169, [(0, .ref 32), (1, .int x1), (2, .int x2), (3, .int x3), (4, .int x4), (5, .int x5)], [], g, t) Q) ∧ (s0 = (Int32.ofNat 0) → am_chk (am_in x5 32) ((¬ (g 47 (Int32.toNatClampNeg x5)) = (Int32.ofNat 0) → am_GQ (104, 169, [(0, .ref 32), (1, .int x1), (2, .int x2), (3, .int x3), (4, .int x4), (5, .int x5)], [], g, t) Q) ∧ ((g 47 (Int32.toNatClampNeg x5)) = (Int32.ofNat 0) → Q (.inl (some (.int (Int32.ofNat 0))), g, t))))) :
    am_GQ (104, 154, [(0, .ref 32), (1, .int x1), (2, .int x2), (3, .int x3), (4, .int x4), (5, .int x5)], [.int s0], g, t) Q := am_wp_ok [40, 68, 82, 115, 129, 169, 186, 216, 244, 257, 287, 297, 325, 331] 8 h
theorem B_M_make_244 {g : am_G} {t : Nat} {Q : am_R → Prop} {x1 : Int32} {x2 : Int32} {x3 : Int32} {x4 : Int32} {x5 : Int32}
    (h : am_GQ (104, 257, [(0, .ref 32), (1, .int x1), (2, .int x2), (3, .int x3), (4, .int x4), (5, .int x5), (6, .int (Int32.ofNat 0))], [], (am_w (am_w g 32 2 (Int32.ofNat 0)) 32 28 (Int32.ofNat 0)), t) Q) :
    am_GQ (104, 244, [(0, .ref 32), (1, .int x1), (2, .int x2), (3, .int x3), (4, .int x4), (5, .int x5)], [], g, t) Q := am_wp_ok [40, 68, 82, 115, 129, 169, 186, 216, 244, 257, 287, 297, 325, 331] 8 h
theorem B_M_make_216 {g : am_G} {t : Nat} {Q : am_R → Prop} {x1 : Int32} {x2 : Int32} {x3 : Int32} {x4 : Int32} {x5 : Int32} {x6 : Int32}
    (h : am_GQ (104, 186, [(0, .ref 32), (1, .int x1), (2, .int x2), (3, .int x3), (4, .int x4), (5, .int x5), (6, .int (x6 + (Int32.ofNat 1)))], [], g, t) Q) :
    am_GQ (104, 216, [(0, .ref 32), (1, .int x1), (2, .int x2), (3, .int x3), (4, .int x4), (5, .int x5), (6, .int x6)], [], g, t) Q := am_wp_ok [40, 68, 82, 115, 129, 169, 186, 216, 244, 257, 287, 297, 325, 331] 2 h
theorem B_M_make_257 {g : am_G} {t : Nat} {Q : am_R → Prop} {x1 : Int32} {x2 : Int32} {x3 : Int32} {x4 : Int32} {x5 : Int32} {x6 : Int32}
    (h : ((Int32.ofNat 32) ≤ x6 → am_GQ (104, 287, [(0, .ref 32), (1, .int x1), (2, .int x2), (3, .int x3), (4, .int x4), (5, .int x5), (6, .int (Int32.ofNat 0))], [], g, t) Q) ∧ (x6 < (Int32.ofNat 32) → am_chk (am_in x6 32) (am_chk (am_in x6 32) (am_GQ (104, 257, [(0, .ref 32), (1, .int x1), (2, .int x2), (3, .int x3), (4, .int x4), (5, .int x5), (6, .int (x6 + (Int32.ofNat 1)))], [], (am_w g 52 (Int32.toNatClampNeg x6) (g 50 (Int32.toNatClampNeg x6))), t) Q)))) :
    am_GQ (104, 257, [(0, .ref 32), (1, .int x1), (2, .int x2), (3, .int x3), (4, .int x4), (5, .int x5), (6, .int x6)], [], g, t) Q := am_wp_ok [40, 68, 82, 115, 129, 169, 186, 216, 244, 257, 287, 297, 325, 331] 13 h
theorem B_M_make_287 {g : am_G} {t : Nat} {Q : am_R → Prop} {x1 : Int32} {x2 : Int32} {x3 : Int32} {x4 : Int32} {x5 : Int32} {x6 : Int32}
    (h : (x5 ≤ x6 → Q (.inl (some (.int x5)), g, t)) ∧ (x6 < x5 → am_GQ (104, 297, [(0, .ref 32), (1, .int x1), (2, .int x2), (3, .int x3), (4, .int x4), (5, .int x5), (6, .int x6), (7, .int (Int32.ofNat 0))], [], g, t) Q)) :
    am_GQ (104, 287, [(0, .ref 32), (1, .int x1), (2, .int x2), (3, .int x3), (4, .int x4), (5, .int x5), (6, .int x6)], [], g, t) Q := am_wp_ok [40, 68, 82, 115, 129, 169, 186, 216, 244, 257, 287, 297, 325, 331] 5 h
theorem B_M_make_297 {g : am_G} {t : Nat} {Q : am_R → Prop} {x1 : Int32} {x2 : Int32} {x3 : Int32} {x4 : Int32} {x5 : Int32} {x6 : Int32} {x7 : Int32}
    (h : ((Int32.ofNat 31) ≤ x7 → am_GQ (104, 331, [(0, .ref 32), (1, .int x1), (2, .int x2), (3, .int x3), (4, .int x4), (5, .int x5), (6, .int x6), (7, .int x7)], [], g, t) Q) ∧ (x7 < (Int32.ofNat 31) → am_GQ (99, 0, [(0, .int x3), (1, .int x7)], [], g, t) (am_af 104 307 [(0, .ref 32), (1, .int x1), (2, .int x2), (3, .int x3), (4, .int x4), (5, .int x5), (6, .int x6), (7, .int x7)] [] Q))) :
    am_GQ (104, 297, [(0, .ref 32), (1, .int x1), (2, .int x2), (3, .int x3), (4, .int x4), (5, .int x5), (6, .int x6), (7, .int x7)], [], g, t) Q := am_wp_ok [40, 68, 82, 115, 129, 169, 186, 216, 244, 257, 287, 297, 325, 331] 6 h
theorem B_M_make_331 {g : am_G} {t : Nat} {Q : am_R → Prop} {x1 : Int32} {x2 : Int32} {x3 : Int32} {x4 : Int32} {x5 : Int32} {x6 : Int32} {x7 : Int32}
    (h : am_chk (am_in (g 32 28) 32) (am_chk (am_in x7 32) (am_GQ (104, 287, [(0, .ref 32), (1, .int x1), (2, .int x2), (3, .int (x3 &&& (((Int32.ofNat 1) <<< (x7 &&& Int32.ofNat 31)) ^^^ (-1)))), (4, .int x4), (5, .int x5), (6, .int (x6 + (Int32.ofNat 1)))], [], (am_w (am_w (am_w g 51 (Int32.toNatClampNeg (g 32 28)) x7) 32 28 (((am_w g 51 (Int32.toNatClampNeg (g 32 28)) x7) 32 28) + (Int32.ofNat 1))) 47 (Int32.toNatClampNeg x7) (x4 + ((am_w (am_w g 51 (Int32.toNatClampNeg (g 32 28)) x7) 32 28 (((am_w g 51 (Int32.toNatClampNeg (g 32 28)) x7) 32 28) + (Int32.ofNat 1))) 32 28))), t) Q))) :
    am_GQ (104, 331, [(0, .ref 32), (1, .int x1), (2, .int x2), (3, .int x3), (4, .int x4), (5, .int x5), (6, .int x6), (7, .int x7)], [], g, t) Q := am_wp_ok [40, 68, 82, 115, 129, 169, 186, 216, 244, 257, 287, 297, 325, 331] 30 h
theorem B_M_make_310 {g : am_G} {t : Nat} {Q : am_R → Prop} {x1 : Int32} {x2 : Int32} {x3 : Int32} {x4 : Int32} {x5 : Int32} {x6 : Int32} {x7 : Int32} {s0 : Int32}
    (h : (s0 = (Int32.ofNat 0) → am_GQ (104, 325, [(0, .ref 32), (1, .int x1), (2, .int x2), (3, .int x3), (4, .int x4), (5, .int x5), (6, .int x6), (7, .int x7)], [], g, t) Q) ∧ (¬ s0 = (Int32.ofNat 0) → am_chk (am_in x7 32) ((((g 49 (Int32.toNatClampNeg x7)) &&& x3) = (Int32.ofNat 0) → am_GQ (104, 331, [(0, .ref 32), (1, .int x1), (2, .int x2), (3, .int x3), (4, .int x4), (5, .int x5), (6, .int x6), (7, .int x7)], [], g, t) Q) ∧ (¬ ((g 49 (Int32.toNatClampNeg x7)) &&& x3) = (Int32.ofNat 0) → am_GQ (104, 325, [(0, .ref 32), (1, .int x1), (2, .int x2), (3, .int x3), (4, .int x4), (5, .int x5), (6, .int x6), (7, .int x7)], [], g, t) Q)))) :
    am_GQ (104, 310, [(0, .ref 32), (1, .int x1), (2, .int x2), (3, .int x3), (4, .int x4), (5, .int x5), (6, .int x6), (7, .int x7)], [.int s0], g, t) Q := am_wp_ok [40, 68, 82, 115, 129, 169, 186, 216, 244, 257, 287, 297, 325, 331] 8 h
theorem B_M_make_325 {g : am_G} {t : Nat} {Q : am_R → Prop} {x1 : Int32} {x2 : Int32} {x3 : Int32} {x4 : Int32} {x5 : Int32} {x6 : Int32} {x7 : Int32}
    (h : am_GQ (104, 297, [(0, .ref 32), (1, .int x1), (2, .int x2), (3, .int x3), (4, .int x4), (5, .int x5), (6, .int x6), (7, .int (x7 + (Int32.ofNat 1)))], [], g, t) Q) :
    am_GQ (104, 325, [(0, .ref 32), (1, .int x1), (2, .int x2), (3, .int x3), (4, .int x4), (5, .int x5), (6, .int x6), (7, .int x7)], [], g, t) Q := am_wp_ok [40, 68, 82, 115, 129, 169, 186, 216, 244, 257, 287, 297, 325, 331] 2 h
theorem B_M_ran_0 {g : am_G} {t : Nat} {Q : am_R → Prop} {x1 : Int32}
    (h : am_GQ (118, 0, [(0, .int x1), (1, .int (Int32.ofNat 0)), (2, .int (((am_w g 32 2 (Int32.ofNat 0)) 32 28) - (Int32.ofNat 1)))], [], (am_w g 32 2 (Int32.ofNat 0)), t) (am_af 105 13 [(0, .ref 32), (1, .int x1)] [] Q)) :
    am_GQ (105, 0, [(0, .ref 32), (1, .int x1)], [], g, t) Q := am_wp_ok [] 10 h
theorem B_M_ran_16 {g : am_G} {t : Nat} {Q : am_R → Prop} {x1 : Int32} {s0 : Int32}
    (h : (s0 = (Int32.ofNat 0) → Q (.inl (some (.int (-1))), g, t)) ∧ (¬ s0 = (Int32.ofNat 0) → am_chk (am_in x1 32) (Q (.inl (some (.int (g 51 (Int32.toNatClampNeg x1)))), g, t)))) :
    am_GQ (105, 16, [(0, .ref 32), (1, .int x1)], [.int s0], g, t) Q := am_wp_ok [] 7 h
theorem B_M_read_0 {g : am_G} {t : Nat} {Q : am_R → Prop}
    (h : am_GQ (102, 0, [(0, .ref 32)], [], (am_w g 32 2 (Int32.ofNat 0)), t) (am_af 106 6 [(0, .ref 32)] [] Q)) :
    am_GQ (106, 0, [(0, .ref 32)], [], g, t) Q := am_wp_ok [27, 111, 195, 261] 5 h
theorem B_M_read_9 {g : am_G} {t : Nat} {Q : am_R → Prop} {s0 : Int32}
    (h : (s0 ≤ (Int32.ofNat 0) → am_GQ (103, 0, [(0, .ref 32)], [], g, t) (am_af 106 22 [(0, .ref 32), (1, .int s0)] [] Q)) ∧ ((Int32.ofNat 0) < s0 → am_GQ (95, 0, [(0, .ref 32), (1, .int (Int32.ofNat 1)), (2, .int s0)], [], g, t) (am_af 106 17 [(0, .ref 32), (1, .int s0)] [] Q))) :
    am_GQ (106, 9, [(0, .ref 32)], [.int s0], g, t) Q := am_wp_ok [27, 111, 195, 261] 7 h
theorem B_M_read_25 {g : am_G} {t : Nat} {Q : am_R → Prop} {x1 : Int32}
    (h : am_GQ (106, 27, [(0, .ref 32), (1, .int x1), (2, .int (Int32.ofNat 0))], [], g, t) Q) :
    am_GQ (106, 25, [(0, .ref 32), (1, .int x1)], [], g, t) Q := am_wp_ok [27, 111, 195, 261] 2 h
theorem B_M_read_20 {g : am_G} {t : Nat} {Q : am_R → Prop} {x1 : Int32} {s0 : Int32}
    (h : Q (.inl (some (.int s0)), g, t)) :
    am_GQ (106, 20, [(0, .ref 32), (1, .int x1)], [.int s0], g, t) Q := am_wp_ok [27, 111, 195, 261] 1 h
theorem B_M_read_27 {g : am_G} {t : Nat} {Q : am_R → Prop} {x1 : Int32} {x2 : Int32}
    (h : ((g 32 14) ≤ x2 → am_GQ (106, 111, [(0, .ref 32), (1, .int x1), (2, .int (Int32.ofNat 0))], [], g, t) Q) ∧ (x2 < (g 32 14) → am_chk (am_in x2 64) (am_chk (am_in x2 64) (am_GQ (111, 0, [(0, .ref 32), (1, .int (g 39 (Int32.toNatClampNeg x2))), (2, .int (g 40 (Int32.toNatClampNeg x2)))], [], g, t) (am_af 106 48 [(0, .ref 32), (1, .int x1), (2, .int x2)] [] Q))))) :
    am_GQ (106, 27, [(0, .ref 32), (1, .int x1), (2, .int x2)], [], g, t) Q := am_wp_ok [27, 111, 195, 261] 14 h
theorem B_M_read_111 {g : am_G} {t : Nat} {Q : am_R → Prop} {x1 : Int32} {x2 : Int32}
    (h : ((g 32 14) ≤ x2 → am_GQ (106, 195, [(0, .ref 32), (1, .int x1), (2, .int (Int32.ofNat 0)), (3, .int (Int32.ofNat 0))], [], g, t) Q) ∧ (x2 < (g 32 14) → am_chk (am_in x2 64) (am_chk (am_in x2 64) (am_GQ (111, 0, [(0, .ref 32), (1, .int (g 39 (Int32.toNatClampNeg x2))), (2, .int (g 40 (Int32.toNatClampNeg x2)))], [], g, t) (am_af 106 132 [(0, .ref 32), (1, .int x1), (2, .int x2)] [] Q))))) :
    am_GQ (106, 111, [(0, .ref 32), (1, .int x1), (2, .int x2)], [], g, t) Q := am_wp_ok [27, 111, 195, 261] 14 h
theorem B_M_read_51 {g : am_G} {t : Nat} {Q : am_R → Prop} {x1 : Int32} {x2 : Int32} {s0 : Int32}
    (h : am_chk (am_in x2 64) (am_chk (am_in x2 64) (am_GQ (111, 0, [(0, .ref 32), (1, .int ((g 40 (Int32.toNatClampNeg x2)) + (Int32.ofNat 1))), (2, .int (g 41 (Int32.toNatClampNeg x2)))], [], g, t) (am_af 106 73 [(0, .ref 32), (1, .int x1), (2, .int x2), (3, .int s0), (4, .int (g 32 32))] [] Q)))) :
    am_GQ (106, 51, [(0, .ref 32), (1, .int x1), (2, .int x2)], [.int s0], g, t) Q := am_wp_ok [27, 111, 195, 261] 16 h
theorem B_M_read_195 {g : am_G} {t : Nat} {Q : am_R → Prop} {x1 : Int32} {x2 : Int32} {x3 : Int32}
    (h : ((g 32 14) ≤ x3 → am_GQ (116, 0, [(0, .ref 32)], [], g, t) (am_af 106 268 [(0, .ref 32), (1, .int x1), (2, .int x2), (3, .int x3)] [] Q)) ∧ (x3 < (g 32 14) → am_chk (am_in x3 64) (am_chk (am_in x3 64) (am_GQ (111, 0, [(0, .ref 32), (1, .int (g 39 (Int32.toNatClampNeg x3))), (2, .int (g 40 (Int32.toNatClampNeg x3)))], [], g, t) (am_af 106 216 [(0, .ref 32), (1, .int x1), (2, .int x2), (3, .int x3)] [] Q))))) :
    am_GQ (106, 195, [(0, .ref 32), (1, .int x1), (2, .int x2), (3, .int x3)], [], g, t) Q := am_wp_ok [27, 111, 195, 261] 14 h
theorem B_M_read_135 {g : am_G} {t : Nat} {Q : am_R → Prop} {x1 : Int32} {x2 : Int32} {s0 : Int32}
    (h : am_chk (am_in x2 64) (am_chk (am_in x2 64) (am_GQ (111, 0, [(0, .ref 32), (1, .int ((g 40 (Int32.toNatClampNeg x2)) + (Int32.ofNat 1))), (2, .int (g 41 (Int32.toNatClampNeg x2)))], [], g, t) (am_af 106 157 [(0, .ref 32), (1, .int x1), (2, .int x2), (3, .int s0), (4, .int (g 32 30))] [] Q)))) :
    am_GQ (106, 135, [(0, .ref 32), (1, .int x1), (2, .int x2)], [.int s0], g, t) Q := am_wp_ok [27, 111, 195, 261] 16 h
theorem B_M_read_76 {g : am_G} {t : Nat} {Q : am_R → Prop} {x1 : Int32} {x2 : Int32} {x3 : Int32} {x4 : Int32} {s0 : Int32}
    (h : am_GQ (110, 0, [(0, .ref 32), (1, .int (x4 ||| (g 32 32)))], [], g, t) (am_af 106 85 [(0, .ref 32), (1, .int x1), (2, .int x2), (3, .int s0), (4, .int x4)] [] Q)) :
    am_GQ (106, 76, [(0, .ref 32), (1, .int x1), (2, .int x2), (3, .int x3), (4, .int x4)], [.int s0], g, t) Q := am_wp_ok [27, 111, 195, 261] 7 h
theorem B_M_read_271 {g : am_G} {t : Nat} {Q : am_R → Prop} {x1 : Int32} {x2 : Int32} {x3 : Int32}
    (h : Q (.inl (some (.int ((am_w (am_w g 32 18 x2) 32 3 (Int32.ofNat 0)) 32 14))), (am_w (am_w g 32 18 x2) 32 3 (Int32.ofNat 0)), t)) :
    am_GQ (106, 271, [(0, .ref 32), (1, .int x1), (2, .int x2), (3, .int x3)], [], g, t) Q := am_wp_ok [27, 111, 195, 261] 9 h
theorem B_M_read_219 {g : am_G} {t : Nat} {Q : am_R → Prop} {x1 : Int32} {x2 : Int32} {x3 : Int32} {s0 : Int32}
    (h : am_chk (am_in x3 64) ((¬ (g 43 (Int32.toNatClampNeg x3)) = (Int32.ofNat 0) → ((x2 &&& (g 32 31)) = (Int32.ofNat 0) → am_GQ (106, 261, [(0, .ref 32), (1, .int x1), (2, .int (x2 ||| (g 32 31))), (3, .int x3)], [], g, t) Q) ∧ (¬ (x2 &&& (g 32 31)) = (Int32.ofNat 0) → am_chk (am_in x3 64) (am_GQ (95, 0, [(0, .ref 32), (1, .int (Int32.ofNat 3)), (2, .int (g 42 (Int32.toNatClampNeg x3)))], [], g, t) (am_af 106 250 [(0, .ref 32), (1, .int x1), (2, .int x2), (3, .int x3), (4, .int s0)] [] Q)))) ∧ ((g 43 (Int32.toNatClampNeg x3)) = (Int32.ofNat 0) → am_GQ (106, 261, [(0, .ref 32), (1, .int x1), (2, .int x2), (3, .int x3)], [], g, t) Q))) :
    am_GQ (106, 219, [(0, .ref 32), (1, .int x1), (2, .int x2), (3, .int x3)], [.int s0], g, t) Q := am_wp_ok [27, 111, 195, 261] 18 h
theorem B_M_read_160 {g : am_G} {t : Nat} {Q : am_R → Prop} {x1 : Int32} {x2 : Int32} {x3 : Int32} {x4 : Int32} {s0 : Int32}
    (h : ((x4 + (g 32 30)) ≤ (Int32.ofNat 64) → am_GQ (106, 111, [(0, .ref 32), (1, .int x1), (2, .int (x2 + (Int32.ofNat 1)))], [], g, t) Q) ∧ ((Int32.ofNat 64) < (x4 + (g 32 30)) → am_chk (am_in x2 64) (am_GQ (95, 0, [(0, .ref 32), (1, .int (Int32.ofNat 3)), (2, .int (g 42 (Int32.toNatClampNeg x2)))], [], g, t) (am_af 106 181 [(0, .ref 32), (1, .int x1), (2, .int x2), (3, .int s0), (4, .int x4)] [] Q)))) :
    am_GQ (106, 160, [(0, .ref 32), (1, .int x1), (2, .int x2), (3, .int x3), (4, .int x4)], [.int s0], g, t) Q := am_wp_ok [27, 111, 195, 261] 14 h
theorem B_M_read_88 {g : am_G} {t : Nat} {Q : am_R → Prop} {x1 : Int32} {x2 : Int32} {x3 : Int32} {x4 : Int32} {s0 : Int32}
    (h : (s0 = (Int32.ofNat 0) → am_GQ (106, 27, [(0, .ref 32), (1, .int x1), (2, .int (x2 + (Int32.ofNat 1)))], [], g, t) Q) ∧ (¬ s0 = (Int32.ofNat 0) → am_chk (am_in x2 64) (am_GQ (95, 0, [(0, .ref 32), (1, .int (Int32.ofNat 2)), (2, .int (g 42 (Int32.toNatClampNeg x2)))], [], g, t) (am_af 106 99 [(0, .ref 32), (1, .int x1), (2, .int x2), (3, .int x3), (4, .int x4)] [] Q)))) :
    am_GQ (106, 88, [(0, .ref 32), (1, .int x1), (2, .int x2), (3, .int x3), (4, .int x4)], [.int s0], g, t) Q := am_wp_ok [27, 111, 195, 261] 8 h
theorem B_M_read_261 {g : am_G} {t : Nat} {Q : am_R → Prop} {x1 : Int32} {x2 : Int32} {x3 : Int32}
    (h : am_GQ (106, 195, [(0, .ref 32), (1, .int x1), (2, .int x2), (3, .int (x3 + (Int32.ofNat 1)))], [], g, t) Q) :
    am_GQ (106, 261, [(0, .ref 32), (1, .int x1), (2, .int x2), (3, .int x3)], [], g, t) Q := am_wp_ok [27, 111, 195, 261] 2 h
theorem B_M_read_253 {g : am_G} {t : Nat} {Q : am_R → Prop} {x1 : Int32} {x2 : Int32} {x3 : Int32} {x4 : Int32} {s0 : Int32}
    (h : Q (.inl (some (.int s0)), g, t)) :
    am_GQ (106, 253, [(0, .ref 32), (1, .int x1), (2, .int x2), (3, .int x3), (4, .int x4)], [.int s0], g, t) Q := am_wp_ok [27, 111, 195, 261] 1 h
theorem B_M_read_184 {g : am_G} {t : Nat} {Q : am_R → Prop} {x1 : Int32} {x2 : Int32} {x3 : Int32} {x4 : Int32} {s0 : Int32}
    (h : Q (.inl (some (.int s0)), g, t)) :
    am_GQ (106, 184, [(0, .ref 32), (1, .int x1), (2, .int x2), (3, .int x3), (4, .int x4)], [.int s0], g, t) Q := am_wp_ok [27, 111, 195, 261] 1 h
theorem B_M_read_102 {g : am_G} {t : Nat} {Q : am_R → Prop} {x1 : Int32} {x2 : Int32} {x3 : Int32} {x4 : Int32} {s0 : Int32}
    (h : Q (.inl (some (.int s0)), g, t)) :
    am_GQ (106, 102, [(0, .ref 32), (1, .int x1), (2, .int x2), (3, .int x3), (4, .int x4)], [.int s0], g, t) Q := am_wp_ok [27, 111, 195, 261] 1 h
theorem B_M_reason_0 {g : am_G} {t : Nat} {Q : am_R → Prop} {x1 : Int32}
    (h : am_GQ (118, 0, [(0, .int x1), (1, .int (Int32.ofNat 0)), (2, .int (Int32.ofNat 31))], [], (am_w g 32 2 (Int32.ofNat 0)), t) (am_af 107 9 [(0, .ref 32), (1, .int x1)] [] Q)) :
    am_GQ (107, 0, [(0, .ref 32), (1, .int x1)], [], g, t) Q := am_wp_ok [] 7 h
theorem B_M_reason_12 {g : am_G} {t : Nat} {Q : am_R → Prop} {x1 : Int32} {s0 : Int32}
    (h : (s0 = (Int32.ofNat 0) → Q (.inl (some (.int (-1))), g, t)) ∧ (¬ s0 = (Int32.ofNat 0) → am_chk (am_in x1 32) (Q (.inl (some (.int (g 52 (Int32.toNatClampNeg x1)))), g, t)))) :
    am_GQ (107, 12, [(0, .ref 32), (1, .int x1)], [.int s0], g, t) Q := am_wp_ok [] 7 h
theorem B_M_reasonsOf_0 {g : am_G} {t : Nat} {Q : am_R → Prop} {x1 : Int32}
    (h : am_GQ (108, 2, [(0, .ref 32), (1, .int x1), (2, .int (Int32.ofNat 0))], [], g, t) Q) :
    am_GQ (108, 0, [(0, .ref 32), (1, .int x1)], [], g, t) Q := am_wp_ok [2, 23, 31, 68, 105, 124, 167, 168] 2 h
theorem B_M_reasonsOf_2 {g : am_G} {t : Nat} {Q : am_R → Prop} {x1 : Int32} {x2 : Int32}
    (h : ((Int32.ofNat 32) ≤ x2 → am_GQ (108, 23, [(0, .ref 32), (1, .int x1), (2, .int (Int32.ofNat 0))], [], g, t) Q) ∧ (x2 < (Int32.ofNat 32) → am_chk (am_in x2 32) (am_GQ (108, 2, [(0, .ref 32), (1, .int x1), (2, .int (x2 + (Int32.ofNat 1)))], [], (am_w g 50 (Int32.toNatClampNeg x2) (Int32.ofNat 0)), t) Q))) :
    am_GQ (108, 2, [(0, .ref 32), (1, .int x1), (2, .int x2)], [], g, t) Q := am_wp_ok [2, 23, 31, 68, 105, 124, 167, 168] 10 h
theorem B_M_reasonsOf_23 {g : am_G} {t : Nat} {Q : am_R → Prop} {x1 : Int32} {x2 : Int32}
    (h : ((Int32.ofNat 33) ≤ x2 → Q (.inl none, g, t)) ∧ (x2 < (Int32.ofNat 33) → am_GQ (108, 31, [(0, .ref 32), (1, .int x1), (2, .int x2), (3, .int (Int32.ofNat 0))], [], g, t) Q)) :
    am_GQ (108, 23, [(0, .ref 32), (1, .int x1), (2, .int x2)], [], g, t) Q := am_wp_ok [2, 23, 31, 68, 105, 124, 167, 168] 5 h
theorem B_M_reasonsOf_31 {g : am_G} {t : Nat} {Q : am_R → Prop} {x1 : Int32} {x2 : Int32} {x3 : Int32}
    (h : ((Int32.ofNat 32) ≤ x3 → am_GQ (108, 23, [(0, .ref 32), (1, .int x1), (2, .int (x2 + (Int32.ofNat 1)))], [], g, t) Q) ∧ (x3 < (Int32.ofNat 32) → am_GQ (99, 0, [(0, .int x1), (1, .int x3)], [], g, t) (am_af 108 39 [(0, .ref 32), (1, .int x1), (2, .int x2), (3, .int x3)] [] Q))) :
    am_GQ (108, 31, [(0, .ref 32), (1, .int x1), (2, .int x2), (3, .int x3)], [], g, t) Q := am_wp_ok [2, 23, 31, 68, 105, 124, 167, 168] 6 h
theorem B_M_reasonsOf_42 {g : am_G} {t : Nat} {Q : am_R → Prop} {x1 : Int32} {x2 : Int32} {x3 : Int32} {s0 : Int32}
    (h : (s0 = (Int32.ofNat 0) → am_GQ (108, 168, [(0, .ref 32), (1, .int x1), (2, .int x2), (3, .int x3)], [], g, t) Q) ∧ (¬ s0 = (Int32.ofNat 0) → am_GQ (99, 0, [(0, .int (g 32 23)), (1, .int x3)], [], g, t) (am_af 108 50 [(0, .ref 32), (1, .int x1), (2, .int x2), (3, .int x3)] [] Q))) :
    am_GQ (108, 42, [(0, .ref 32), (1, .int x1), (2, .int x2), (3, .int x3)], [.int s0], g, t) Q := am_wp_ok [2, 23, 31, 68, 105, 124, 167, 168] 5 h
theorem B_M_reasonsOf_168 {g : am_G} {t : Nat} {Q : am_R → Prop} {x1 : Int32} {x2 : Int32} {x3 : Int32}
    (h : am_GQ (108, 31, [(0, .ref 32), (1, .int x1), (2, .int x2), (3, .int (x3 + (Int32.ofNat 1)))], [], g, t) Q) :
    am_GQ (108, 168, [(0, .ref 32), (1, .int x1), (2, .int x2), (3, .int x3)], [], g, t) Q := am_wp_ok [2, 23, 31, 68, 105, 124, 167, 168] 2 h
theorem B_M_reasonsOf_53 {g : am_G} {t : Nat} {Q : am_R → Prop} {x1 : Int32} {x2 : Int32} {x3 : Int32} {s0 : Int32}
    (h : (¬ s0 = (Int32.ofNat 0) → am_GQ (108, 68, [(0, .ref 32), (1, .int x1), (2, .int x2), (3, .int x3), (4, .int (Int32.ofNat 0)), (5, .int (Int32.ofNat 0)), (6, .int (Int32.ofNat 0))], [], g, t) Q) ∧ (s0 = (Int32.ofNat 0) → am_GQ (108, 168, [(0, .ref 32), (1, .int x1), (2, .int x2), (3, .int x3)], [], g, t) Q)) :
    am_GQ (108, 53, [(0, .ref 32), (1, .int x1), (2, .int x2), (3, .int x3)], [.int s0], g, t) Q := am_wp_ok [2, 23, 31, 68, 105, 124, 167, 168] 7 h
theorem B_M_reasonsOf_68 {g : am_G} {t : Nat} {Q : am_R → Prop} {x1 : Int32} {x2 : Int32} {x3 : Int32} {x4 : Int32} {x5 : Int32} {x6 : Int32}
    (h : ((Int32.ofNat 32) ≤ x6 → am_chk (am_in x3 32) ((¬ (g 47 (Int32.toNatClampNeg x3)) = (Int32.ofNat 0) → (x4 = (Int32.ofNat 0) → (x5 = (Int32.ofNat 0) → am_GQ (108, 167, [(0, .ref 32), (1, .int x1), (2, .int x2), (3, .int x3)], [.int (Int32.ofNat 0), .int x3, .ref 50], g, t) Q) ∧ (¬ x5 = (Int32.ofNat 0) → am_GQ (108, 167, [(0, .ref 32), (1, .int x1), (2, .int x2), (3, .int x3)], [.int (Int32.ofNat 3), .int x3, .ref 50], g, t) Q)) ∧ (¬ x4 = (Int32.ofNat 0) → am_GQ (108, 167, [(0, .ref 32), (1, .int x1), (2, .int x2), (3, .int x3)], [.int (Int32.ofNat 2), .int x3, .ref 50], g, t) Q)) ∧ ((g 47 (Int32.toNatClampNeg x3)) = (Int32.ofNat 0) → am_GQ (108, 167, [(0, .ref 32), (1, .int x1), (2, .int x2), (3, .int x3)], [.int (Int32.ofNat 1), .int x3, .ref 50], g, t) Q))) ∧ (x6 < (Int32.ofNat 32) → am_chk (am_in x3 32) (am_GQ (99, 0, [(0, .int (g 48 (Int32.toNatClampNeg x3))), (1, .int x6)], [], g, t) (am_af 108 83 [(0, .ref 32), (1, .int x1), (2, .int x2), (3, .int x3), (4, .int x4), (5, .int x5), (6, .int x6)] [] Q)))) :
    am_GQ (108, 68, [(0, .ref 32), (1, .int x1), (2, .int x2), (3, .int x3), (4, .int x4), (5, .int x5), (6, .int x6)], [], g, t) Q := am_wp_ok [2, 23, 31, 68, 105, 124, 167, 168] 17 h
theorem B_M_reasonsOf_167 {g : am_G} {t : Nat} {Q : am_R → Prop} {x1 : Int32} {x2 : Int32} {x3 : Int32} {s0 : Int32} {s1 : Int32}
    (h : am_chk (am_in s1 32) (am_GQ (108, 168, [(0, .ref 32), (1, .int x1), (2, .int x2), (3, .int x3)], [], (am_w g 50 (Int32.toNatClampNeg s1) s0), t) Q)) :
    am_GQ (108, 167, [(0, .ref 32), (1, .int x1), (2, .int x2), (3, .int x3)], [.int s0, .int s1, .ref 50], g, t) Q := am_wp_ok [2, 23, 31, 68, 105, 124, 167, 168] 1 h
theorem B_M_reasonsOf_86 {g : am_G} {t : Nat} {Q : am_R → Prop} {x1 : Int32} {x2 : Int32} {x3 : Int32} {x4 : Int32} {x5 : Int32} {x6 : Int32} {s0 : Int32}
    (h : (¬ s0 = (Int32.ofNat 0) → am_chk (am_in x6 32) (((g 50 (Int32.toNatClampNeg x6)) ≤ (Int32.ofNat 0) → am_GQ (108, 105, [(0, .ref 32), (1, .int x1), (2, .int x2), (3, .int x3), (4, .int x4), (5, .int x5), (6, .int x6)], [], g, t) Q) ∧ ((Int32.ofNat 0) < (g 50 (Int32.toNatClampNeg x6)) → am_GQ (108, 105, [(0, .ref 32), (1, .int x1), (2, .int x2), (3, .int x3), (4, .int (Int32.ofNat 1)), (5, .int x5), (6, .int x6)], [], g, t) Q))) ∧ (s0 = (Int32.ofNat 0) → am_GQ (108, 124, [(0, .ref 32), (1, .int x1), (2, .int x2), (3, .int x3), (4, .int x4), (5, .int x5), (6, .int x6)], [], g, t) Q)) :
    am_GQ (108, 86, [(0, .ref 32), (1, .int x1), (2, .int x2), (3, .int x3), (4, .int x4), (5, .int x5), (6, .int x6)], [.int s0], g, t) Q := am_wp_ok [2, 23, 31, 68, 105, 124, 167, 168] 8 h
theorem B_M_reasonsOf_105 {g : am_G} {t : Nat} {Q : am_R → Prop} {x1 : Int32} {x2 : Int32} {x3 : Int32} {x4 : Int32} {x5 : Int32} {x6 : Int32}
    (h : am_chk (am_in x6 32) (am_chk (am_in x3 32) (((g 47 (Int32.toNatClampNeg x6)) ≤ (g 47 (Int32.toNatClampNeg x3)) → am_GQ (108, 124, [(0, .ref 32), (1, .int x1), (2, .int x2), (3, .int x3), (4, .int x4), (5, .int x5), (6, .int x6)], [], g, t) Q) ∧ ((g 47 (Int32.toNatClampNeg x3)) < (g 47 (Int32.toNatClampNeg x6)) → am_GQ (108, 124, [(0, .ref 32), (1, .int x1), (2, .int x2), (3, .int x3), (4, .int x4), (5, .int (Int32.ofNat 1)), (6, .int x6)], [], g, t) Q)))) :
    am_GQ (108, 105, [(0, .ref 32), (1, .int x1), (2, .int x2), (3, .int x3), (4, .int x4), (5, .int x5), (6, .int x6)], [], g, t) Q := am_wp_ok [2, 23, 31, 68, 105, 124, 167, 168] 11 h
theorem B_M_reasonsOf_124 {g : am_G} {t : Nat} {Q : am_R → Prop} {x1 : Int32} {x2 : Int32} {x3 : Int32} {x4 : Int32} {x5 : Int32} {x6 : Int32}
    (h : am_GQ (108, 68, [(0, .ref 32), (1, .int x1), (2, .int x2), (3, .int x3), (4, .int x4), (5, .int x5), (6, .int (x6 + (Int32.ofNat 1)))], [], g, t) Q) :
    am_GQ (108, 124, [(0, .ref 32), (1, .int x1), (2, .int x2), (3, .int x3), (4, .int x4), (5, .int x5), (6, .int x6)], [], g, t) Q := am_wp_ok [2, 23, 31, 68, 105, 124, 167, 168] 2 h
theorem B_M_recipe_0 {g : am_G} {t : Nat} {Q : am_R → Prop} {x1 : Int32}
    (h : am_GQ (118, 0, [(0, .int x1), (1, .int (Int32.ofNat 0)), (2, .int (Int32.ofNat 31))], [], (am_w g 32 2 (Int32.ofNat 0)), t) (am_af 109 9 [(0, .ref 32), (1, .int x1)] [] Q)) :
    am_GQ (109, 0, [(0, .ref 32), (1, .int x1)], [], g, t) Q := am_wp_ok [] 7 h
theorem B_M_recipe_12 {g : am_G} {t : Nat} {Q : am_R → Prop} {x1 : Int32} {s0 : Int32}
    (h : (s0 = (Int32.ofNat 0) → Q (.inl (some (.int (-1))), g, t)) ∧ (¬ s0 = (Int32.ofNat 0) → Q (.inl (some (.int (((g 32 18) >>> (x1 &&& Int32.ofNat 31)) &&& (Int32.ofNat 1)))), g, t))) :
    am_GQ (109, 12, [(0, .ref 32), (1, .int x1)], [.int s0], g, t) Q := am_wp_ok [] 9 h
theorem B_M_ring_0 {g : am_G} {t : Nat} {Q : am_R → Prop} {x1 : Int32}
    (h : am_GQ (110, 4, [(0, .ref 32), (1, .int x1), (2, .int x1), (3, .int (Int32.ofNat 0))], [], g, t) Q) :
    am_GQ (110, 0, [(0, .ref 32), (1, .int x1)], [], g, t) Q := am_wp_ok [4, 28, 36, 67] 4 h
theorem B_M_ring_4 {g : am_G} {t : Nat} {Q : am_R → Prop} {x1 : Int32} {x2 : Int32} {x3 : Int32}
    (h : ((Int32.ofNat 26) ≤ x3 → am_GQ (110, 36, [(0, .ref 32), (1, .int x1), (2, .int x2), (3, .int (Int32.ofNat 0))], [], g, t) Q) ∧ (x3 < (Int32.ofNat 26) → (¬ ((x1 >>> (x3 &&& Int32.ofNat 31)) &&& (Int32.ofNat 1)) = (Int32.ofNat 1) → am_GQ (110, 28, [(0, .ref 32), (1, .int x1), (2, .int x2), (3, .int x3)], [], g, t) Q) ∧ (((x1 >>> (x3 &&& Int32.ofNat 31)) &&& (Int32.ofNat 1)) = (Int32.ofNat 1) → am_chk (am_in x3 26) (am_GQ (110, 28, [(0, .ref 32), (1, .int x1), (2, .int (x2 ||| (g 36 (Int32.toNatClampNeg x3)))), (3, .int x3)], [], g, t) Q)))) :
    am_GQ (110, 4, [(0, .ref 32), (1, .int x1), (2, .int x2), (3, .int x3)], [], g, t) Q := am_wp_ok [4, 28, 36, 67] 17 h
theorem B_M_ring_36 {g : am_G} {t : Nat} {Q : am_R → Prop} {x1 : Int32} {x2 : Int32} {x3 : Int32}
    (h : ((Int32.ofNat 26) ≤ x3 → am_chk (am_isb (Int32.ofNat 0)) (Q (.inl (some (.int (Int32.ofNat 0))), g, t))) ∧ (x3 < (Int32.ofNat 26) → (¬ ((x2 >>> (x3 &&& Int32.ofNat 31)) &&& (Int32.ofNat 1)) = (Int32.ofNat 1) → am_GQ (110, 67, [(0, .ref 32), (1, .int x1), (2, .int x2), (3, .int x3)], [], g, t) Q) ∧ (((x2 >>> (x3 &&& Int32.ofNat 31)) &&& (Int32.ofNat 1)) = (Int32.ofNat 1) → am_chk (am_in x3 26) ((¬ (((g 36 (Int32.toNatClampNeg x3)) >>> (x3 &&& Int32.ofNat 31)) &&& (Int32.ofNat 1)) = (Int32.ofNat 1) → am_GQ (110, 67, [(0, .ref 32), (1, .int x1), (2, .int x2), (3, .int x3)], [], g, t) Q) ∧ ((((g 36 (Int32.toNatClampNeg x3)) >>> (x3 &&& Int32.ofNat 31)) &&& (Int32.ofNat 1)) = (Int32.ofNat 1) → am_chk (am_isb (Int32.ofNat 1)) (Q (.inl (some (.int (Int32.ofNat 1))), g, t))))))) :
    am_GQ (110, 36, [(0, .ref 32), (1, .int x1), (2, .int x2), (3, .int x3)], [], g, t) Q := am_wp_ok [4, 28, 36, 67] 22 h
theorem B_M_ring_28 {g : am_G} {t : Nat} {Q : am_R → Prop} {x1 : Int32} {x2 : Int32} {x3 : Int32}
    (h : am_GQ (110, 4, [(0, .ref 32), (1, .int x1), (2, .int x2), (3, .int (x3 + (Int32.ofNat 1)))], [], g, t) Q) :
    am_GQ (110, 28, [(0, .ref 32), (1, .int x1), (2, .int x2), (3, .int x3)], [], g, t) Q := am_wp_ok [4, 28, 36, 67] 2 h
theorem B_M_ring_67 {g : am_G} {t : Nat} {Q : am_R → Prop} {x1 : Int32} {x2 : Int32} {x3 : Int32}
    (h : am_GQ (110, 36, [(0, .ref 32), (1, .int x1), (2, .int x2), (3, .int (x3 + (Int32.ofNat 1)))], [], g, t) Q) :
    am_GQ (110, 67, [(0, .ref 32), (1, .int x1), (2, .int x2), (3, .int x3)], [], g, t) Q := am_wp_ok [4, 28, 36, 67] 2 h
theorem B_M_segment_0 {g : am_G} {t : Nat} {Q : am_R → Prop} {x1 : Int32} {x2 : Int32}
    (h : am_GQ (111, 20, [(0, .ref 32), (1, .int x1), (2, .int x2), (3, .int x1), (4, .int (Int32.ofNat 0))], [], (am_w (am_w (am_w g 32 30 (Int32.ofNat 0)) 32 31 (Int32.ofNat 0)) 32 32 (Int32.ofNat 0)), t) Q) :
    am_GQ (111, 0, [(0, .ref 32), (1, .int x1), (2, .int x2)], [], g, t) Q := am_wp_ok [20, 140, 203, 218, 221] 13 h
theorem B_M_segment_20 {g : am_G} {t : Nat} {Q : am_R → Prop} {x1 : Int32} {x2 : Int32} {x3 : Int32} {x4 : Int32}
    (h : ((Int32.ofNat 240) ≤ x4 → am_chk (am_isb (Int32.ofNat 1)) (Q (.inl (some (.int (Int32.ofNat 1))), g, t))) ∧ (x4 < (Int32.ofNat 240) → (x2 ≤ x3 → am_chk (am_isb (Int32.ofNat 1)) (Q (.inl (some (.int (Int32.ofNat 1))), g, t))) ∧ (x3 < x2 → am_chk (am_in x3 240) (am_GQ (92, 0, [(0, .ref 32), (1, .int (x3 + (Int32.ofNat 1))), (2, .int x2)], [], g, t) (am_af 111 46 [(0, .ref 32), (1, .int x1), (2, .int x2), (3, .int x3), (4, .int x4), (5, .int (g 33 (Int32.toNatClampNeg x3)))] [] Q))))) :
    am_GQ (111, 20, [(0, .ref 32), (1, .int x1), (2, .int x2), (3, .int x3), (4, .int x4)], [], g, t) Q := am_wp_ok [20, 140, 203, 218, 221] 17 h
theorem B_M_segment_49 {g : am_G} {t : Nat} {Q : am_R → Prop} {x1 : Int32} {x2 : Int32} {x3 : Int32} {x4 : Int32} {x5 : Int32} {s0 : Int32}
    (h : (¬ x5 = (Int32.ofNat 32) → (¬ x5 = (Int32.ofNat 36) → am_GQ (111, 140, [(0, .ref 32), (1, .int x1), (2, .int x2), (3, .int x3), (4, .int x4), (5, .int x5), (6, .int s0)], [], g, t) Q) ∧ (x5 = (Int32.ofNat 36) → am_GQ (118, 0, [(0, .int s0), (1, .int (Int32.ofNat 65)), (2, .int (Int32.ofNat 90))], [], g, t) (am_af 111 77 [(0, .ref 32), (1, .int x1), (2, .int x2), (3, .int x3), (4, .int x4), (5, .int x5), (6, .int s0)] [] Q))) ∧ (x5 = (Int32.ofNat 32) → am_GQ (111, 221, [(0, .ref 32), (1, .int x1), (2, .int x2), (3, .int (x3 + (Int32.ofNat 1))), (4, .int x4)], [], g, t) Q)) :
    am_GQ (111, 49, [(0, .ref 32), (1, .int x1), (2, .int x2), (3, .int x3), (4, .int x4), (5, .int x5)], [.int s0], g, t) Q := am_wp_ok [20, 140, 203, 218, 221] 11 h
theorem B_M_segment_140 {g : am_G} {t : Nat} {Q : am_R → Prop} {x1 : Int32} {x2 : Int32} {x3 : Int32} {x4 : Int32} {x5 : Int32} {x6 : Int32}
    (h : am_GQ (118, 0, [(0, .int x5), (1, .int (Int32.ofNat 97)), (2, .int (Int32.ofNat 104))], [], g, t) (am_af 111 146 [(0, .ref 32), (1, .int x1), (2, .int x2), (3, .int x3), (4, .int x4), (5, .int x5), (6, .int x6)] [] Q)) :
    am_GQ (111, 140, [(0, .ref 32), (1, .int x1), (2, .int x2), (3, .int x3), (4, .int x4), (5, .int x5), (6, .int x6)], [], g, t) Q := am_wp_ok [20, 140, 203, 218, 221] 4 h
theorem B_M_segment_80 {g : am_G} {t : Nat} {Q : am_R → Prop} {x1 : Int32} {x2 : Int32} {x3 : Int32} {x4 : Int32} {x5 : Int32} {x6 : Int32} {s0 : Int32}
    (h : (s0 = (Int32.ofNat 0) → am_GQ (111, 140, [(0, .ref 32), (1, .int x1), (2, .int x2), (3, .int x3), (4, .int x4), (5, .int x5), (6, .int x6)], [], g, t) Q) ∧ (¬ s0 = (Int32.ofNat 0) → am_chk (am_in (x6 - (Int32.ofNat 65)) 26) (am_chk (am_in (x6 - (Int32.ofNat 65)) 26) (am_GQ (111, 203, [(0, .ref 32), (1, .int x1), (2, .int x2), (3, .int x3), (4, .int x4)], [], (am_w (am_w (am_w g 32 30 ((g 32 30) + (g 37 (Int32.toNatClampNeg (x6 - (Int32.ofNat 65)))))) 32 31 (((am_w g 32 30 ((g 32 30) + (g 37 (Int32.toNatClampNeg (x6 - (Int32.ofNat 65)))))) 32 31) ||| ((am_w g 32 30 ((g 32 30) + (g 37 (Int32.toNatClampNeg (x6 - (Int32.ofNat 65)))))) 38 (Int32.toNatClampNeg (x6 - (Int32.ofNat 65)))))) 32 32 (((am_w (am_w g 32 30 ((g 32 30) + (g 37 (Int32.toNatClampNeg (x6 - (Int32.ofNat 65)))))) 32 31 (((am_w g 32 30 ((g 32 30) + (g 37 (Int32.toNatClampNeg (x6 - (Int32.ofNat 65)))))) 32 31) ||| ((am_w g 32 30 ((g 32 30) + (g 37 (Int32.toNatClampNeg (x6 - (Int32.ofNat 65)))))) 38 (Int32.toNatClampNeg (x6 - (Int32.ofNat 65)))))) 32 32) ||| ((Int32.ofNat 1) <<< ((x6 - (Int32.ofNat 65)) &&& Int32.ofNat 31)))), t) Q)))) :
    am_GQ (111, 80, [(0, .ref 32), (1, .int x1), (2, .int x2), (3, .int x3), (4, .int x4), (5, .int x5), (6, .int x6)], [.int s0], g, t) Q := am_wp_ok [20, 140, 203, 218, 221] 34 h
theorem B_M_segment_221 {g : am_G} {t : Nat} {Q : am_R → Prop} {x1 : Int32} {x2 : Int32} {x3 : Int32} {x4 : Int32}
    (h : am_GQ (111, 20, [(0, .ref 32), (1, .int x1), (2, .int x2), (3, .int x3), (4, .int (x4 + (Int32.ofNat 1)))], [], g, t) Q) :
    am_GQ (111, 221, [(0, .ref 32), (1, .int x1), (2, .int x2), (3, .int x3), (4, .int x4)], [], g, t) Q := am_wp_ok [20, 140, 203, 218, 221] 2 h
theorem B_M_segment_149 {g : am_G} {t : Nat} {Q : am_R → Prop} {x1 : Int32} {x2 : Int32} {x3 : Int32} {x4 : Int32} {x5 : Int32} {x6 : Int32} {s0 : Int32}
    (h : (s0 = (Int32.ofNat 0) → am_chk (am_isb (Int32.ofNat 0)) (Q (.inl (some (.int (Int32.ofNat 0))), g, t))) ∧ (¬ s0 = (Int32.ofNat 0) → am_GQ (118, 0, [(0, .int x6), (1, .int (Int32.ofNat 48)), (2, .int (Int32.ofNat 51))], [], g, t) (am_af 111 158 [(0, .ref 32), (1, .int x1), (2, .int x2), (3, .int x3), (4, .int x4), (5, .int x5), (6, .int x6)] [] Q))) :
    am_GQ (111, 149, [(0, .ref 32), (1, .int x1), (2, .int x2), (3, .int x3), (4, .int x4), (5, .int x5), (6, .int x6)], [.int s0], g, t) Q := am_wp_ok [20, 140, 203, 218, 221] 5 h
theorem B_M_segment_203 {g : am_G} {t : Nat} {Q : am_R → Prop} {x1 : Int32} {x2 : Int32} {x3 : Int32} {x4 : Int32}
    (h : ((g 32 30) ≤ (Int32.ofNat 65) → am_GQ (111, 218, [(0, .ref 32), (1, .int x1), (2, .int x2), (3, .int x3), (4, .int x4)], [], g, t) Q) ∧ ((Int32.ofNat 65) < (g 32 30) → am_GQ (111, 218, [(0, .ref 32), (1, .int x1), (2, .int x2), (3, .int x3), (4, .int x4)], [], (am_w g 32 30 (Int32.ofNat 65)), t) Q)) :
    am_GQ (111, 203, [(0, .ref 32), (1, .int x1), (2, .int x2), (3, .int x3), (4, .int x4)], [], g, t) Q := am_wp_ok [20, 140, 203, 218, 221] 7 h
theorem B_M_segment_161 {g : am_G} {t : Nat} {Q : am_R → Prop} {x1 : Int32} {x2 : Int32} {x3 : Int32} {x4 : Int32} {x5 : Int32} {x6 : Int32} {s0 : Int32}
    (h : (s0 = (Int32.ofNat 0) → am_chk (am_isb (Int32.ofNat 0)) (Q (.inl (some (.int (Int32.ofNat 0))), g, t))) ∧ (¬ s0 = (Int32.ofNat 0) → am_GQ (111, 203, [(0, .ref 32), (1, .int x1), (2, .int x2), (3, .int x3), (4, .int x4)], [], (am_w (am_w g 32 30 ((g 32 30) + (Int32.ofNat 1))) 32 31 (((am_w g 32 30 ((g 32 30) + (Int32.ofNat 1))) 32 31) ||| ((Int32.ofNat 1) <<< (((((Int32.ofNat 4) * (x5 - (Int32.ofNat 97))) + x6) - (Int32.ofNat 48)) &&& Int32.ofNat 31)))), t) Q)) :
    am_GQ (111, 161, [(0, .ref 32), (1, .int x1), (2, .int x2), (3, .int x3), (4, .int x4), (5, .int x5), (6, .int x6)], [.int s0], g, t) Q := am_wp_ok [20, 140, 203, 218, 221] 24 h
theorem B_M_segment_218 {g : am_G} {t : Nat} {Q : am_R → Prop} {x1 : Int32} {x2 : Int32} {x3 : Int32} {x4 : Int32}
    (h : am_GQ (111, 221, [(0, .ref 32), (1, .int x1), (2, .int x2), (3, .int (x3 + (Int32.ofNat 2))), (4, .int x4)], [], g, t) Q) :
    am_GQ (111, 218, [(0, .ref 32), (1, .int x1), (2, .int x2), (3, .int x3), (4, .int x4)], [], g, t) Q := am_wp_ok [20, 140, 203, 218, 221] 1 h
theorem B_M_sources_0 {g : am_G} {t : Nat} {Q : am_R → Prop} {x1 : Int32}
    (h : am_GQ (118, 0, [(0, .int x1), (1, .int (Int32.ofNat 0)), (2, .int (Int32.ofNat 31))], [], (am_w g 32 2 (Int32.ofNat 0)), t) (am_af 112 9 [(0, .ref 32), (1, .int x1)] [] Q)) :
    am_GQ (112, 0, [(0, .ref 32), (1, .int x1)], [], g, t) Q := am_wp_ok [] 7 h
theorem B_M_sources_12 {g : am_G} {t : Nat} {Q : am_R → Prop} {x1 : Int32} {s0 : Int32}
    (h : (s0 = (Int32.ofNat 0) → Q (.inl (some (.int (Int32.ofNat 0))), g, t)) ∧ (¬ s0 = (Int32.ofNat 0) → am_chk (am_in x1 32) (Q (.inl (some (.int (g 45 (Int32.toNatClampNeg x1)))), g, t)))) :
    am_GQ (112, 12, [(0, .ref 32), (1, .int x1)], [.int s0], g, t) Q := am_wp_ok [] 7 h
theorem B_M_spaces_0 {g : am_G} {t : Nat} {Q : am_R → Prop} {x1 : Int32} {x2 : Int32}
    (h : am_GQ (113, 2, [(0, .ref 32), (1, .int x1), (2, .int x2), (3, .int x1)], [], g, t) Q) :
    am_GQ (113, 0, [(0, .ref 32), (1, .int x1), (2, .int x2)], [], g, t) Q := am_wp_ok [2] 2 h
theorem B_M_spaces_2 {g : am_G} {t : Nat} {Q : am_R → Prop} {x1 : Int32} {x2 : Int32} {x3 : Int32}
    (h : (x2 ≤ x3 → am_chk (am_isb (Int32.ofNat 1)) (Q (.inl (some (.int (Int32.ofNat 1))), g, t))) ∧ (x3 < x2 → am_chk (am_in x3 240) (((g 33 (Int32.toNatClampNeg x3)) = (Int32.ofNat 32) → am_GQ (113, 2, [(0, .ref 32), (1, .int x1), (2, .int x2), (3, .int (x3 + (Int32.ofNat 1)))], [], g, t) Q) ∧ (¬ (g 33 (Int32.toNatClampNeg x3)) = (Int32.ofNat 32) → am_chk (am_isb (Int32.ofNat 0)) (Q (.inl (some (.int (Int32.ofNat 0))), g, t)))))) :
    am_GQ (113, 2, [(0, .ref 32), (1, .int x1), (2, .int x2), (3, .int x3)], [], g, t) Q := am_wp_ok [2] 11 h
theorem B_M_stamp_0 {g : am_G} {t : Nat} {Q : am_R → Prop} {x1 : Int32} {x2 : Int32}
    (h : am_GQ (118, 0, [(0, .int x1), (1, .int (Int32.ofNat 0)), (2, .int (Int32.ofNat 31))], [], (am_w g 32 2 (Int32.ofNat 0)), t) (am_af 114 9 [(0, .ref 32), (1, .int x1), (2, .int x2)] [] Q)) :
    am_GQ (114, 0, [(0, .ref 32), (1, .int x1), (2, .int x2)], [], g, t) Q := am_wp_ok [] 7 h
theorem B_M_stamp_12 {g : am_G} {t : Nat} {Q : am_R → Prop} {x1 : Int32} {x2 : Int32} {s0 : Int32}
    (h : (s0 = (Int32.ofNat 0) → am_chk (am_isb (Int32.ofNat 0)) (Q (.inl (some (.int (Int32.ofNat 0))), g, t))) ∧ (¬ s0 = (Int32.ofNat 0) → am_GQ (118, 0, [(0, .int x2), (1, .int (Int32.ofNat 0)), (2, .int (Int32.ofNat 1000000000))], [], g, t) (am_af 114 19 [(0, .ref 32), (1, .int x1), (2, .int x2)] [] Q))) :
    am_GQ (114, 12, [(0, .ref 32), (1, .int x1), (2, .int x2)], [.int s0], g, t) Q := am_wp_ok [] 5 h
theorem B_M_stamp_22 {g : am_G} {t : Nat} {Q : am_R → Prop} {x1 : Int32} {x2 : Int32} {s0 : Int32}
    (h : (¬ s0 = (Int32.ofNat 0) → am_chk (am_in x1 32) (am_chk (am_isb (Int32.ofNat 1)) (Q (.inl (some (.int (Int32.ofNat 1))), (am_w g 47 (Int32.toNatClampNeg x1) x2), t)))) ∧ (s0 = (Int32.ofNat 0) → am_chk (am_isb (Int32.ofNat 0)) (Q (.inl (some (.int (Int32.ofNat 0))), g, t)))) :
    am_GQ (114, 22, [(0, .ref 32), (1, .int x1), (2, .int x2)], [.int s0], g, t) Q := am_wp_ok [] 8 h
theorem B_M_stampOf_0 {g : am_G} {t : Nat} {Q : am_R → Prop} {x1 : Int32}
    (h : am_GQ (118, 0, [(0, .int x1), (1, .int (Int32.ofNat 0)), (2, .int (Int32.ofNat 31))], [], (am_w g 32 2 (Int32.ofNat 0)), t) (am_af 115 9 [(0, .ref 32), (1, .int x1)] [] Q)) :
    am_GQ (115, 0, [(0, .ref 32), (1, .int x1)], [], g, t) Q := am_wp_ok [] 7 h
theorem B_M_stampOf_12 {g : am_G} {t : Nat} {Q : am_R → Prop} {x1 : Int32} {s0 : Int32}
    (h : (s0 = (Int32.ofNat 0) → Q (.inl (some (.int (-1))), g, t)) ∧ (¬ s0 = (Int32.ofNat 0) → am_chk (am_in x1 32) (Q (.inl (some (.int (g 47 (Int32.toNatClampNeg x1)))), g, t)))) :
    am_GQ (115, 12, [(0, .ref 32), (1, .int x1)], [.int s0], g, t) Q := am_wp_ok [] 7 h
theorem B_M_take_0 {g : am_G} {t : Nat} {Q : am_R → Prop}
    (h : am_GQ (116, 2, [(0, .ref 32), (1, .int (Int32.ofNat 0))], [], g, t) Q) :
    am_GQ (116, 0, [(0, .ref 32)], [], g, t) Q := am_wp_ok [2, 23, 75, 111, 125] 2 h
theorem B_M_take_2 {g : am_G} {t : Nat} {Q : am_R → Prop} {x1 : Int32}
    (h : ((Int32.ofNat 32) ≤ x1 → am_GQ (116, 23, [(0, .ref 32), (1, .int (Int32.ofNat 0))], [], g, t) Q) ∧ (x1 < (Int32.ofNat 32) → am_chk (am_in x1 32) (am_GQ (116, 2, [(0, .ref 32), (1, .int (x1 + (Int32.ofNat 1)))], [], (am_w g 45 (Int32.toNatClampNeg x1) (Int32.ofNat 0)), t) Q))) :
    am_GQ (116, 2, [(0, .ref 32), (1, .int x1)], [], g, t) Q := am_wp_ok [2, 23, 75, 111, 125] 10 h
theorem B_M_take_23 {g : am_G} {t : Nat} {Q : am_R → Prop} {x1 : Int32}
    (h : ((g 32 14) ≤ x1 → am_GQ (116, 125, [(0, .ref 32), (1, .int (Int32.ofNat 0))], [], g, t) Q) ∧ (x1 < (g 32 14) → am_chk (am_in x1 64) (am_chk (am_in x1 64) (am_GQ (111, 0, [(0, .ref 32), (1, .int (g 39 (Int32.toNatClampNeg x1))), (2, .int (g 40 (Int32.toNatClampNeg x1)))], [], g, t) (am_af 116 44 [(0, .ref 32), (1, .int x1)] [] Q))))) :
    am_GQ (116, 23, [(0, .ref 32), (1, .int x1)], [], g, t) Q := am_wp_ok [2, 23, 75, 111, 125] 14 h
theorem B_M_take_125 {g : am_G} {t : Nat} {Q : am_R → Prop} {x1 : Int32}
    (h : ((g 32 16) ≤ x1 → Q (.inl none, (am_w g 32 20 (g 32 16)), t)) ∧ (x1 < (g 32 16) → am_chk (am_in x1 32) (am_chk (am_in x1 32) (am_GQ (116, 125, [(0, .ref 32), (1, .int (x1 + (Int32.ofNat 1)))], [], (am_w g 46 (Int32.toNatClampNeg x1) (g 44 (Int32.toNatClampNeg x1))), t) Q)))) :
    am_GQ (116, 125, [(0, .ref 32), (1, .int x1)], [], g, t) Q := am_wp_ok [2, 23, 75, 111, 125] 14 h
theorem B_M_take_47 {g : am_G} {t : Nat} {Q : am_R → Prop} {x1 : Int32} {s0 : Int32}
    (h : am_chk (am_in x1 64) (am_chk (am_in x1 64) (am_GQ (111, 0, [(0, .ref 32), (1, .int ((g 40 (Int32.toNatClampNeg x1)) + (Int32.ofNat 1))), (2, .int (g 41 (Int32.toNatClampNeg x1)))], [], g, t) (am_af 116 68 [(0, .ref 32), (1, .int x1), (2, .int s0), (3, .int (g 32 31))] [] Q)))) :
    am_GQ (116, 47, [(0, .ref 32), (1, .int x1)], [.int s0], g, t) Q := am_wp_ok [2, 23, 75, 111, 125] 16 h
theorem B_M_take_71 {g : am_G} {t : Nat} {Q : am_R → Prop} {x1 : Int32} {x2 : Int32} {x3 : Int32} {s0 : Int32}
    (h : am_GQ (116, 75, [(0, .ref 32), (1, .int x1), (2, .int s0), (3, .int x3), (4, .int (Int32.ofNat 0))], [], g, t) Q) :
    am_GQ (116, 71, [(0, .ref 32), (1, .int x1), (2, .int x2), (3, .int x3)], [.int s0], g, t) Q := am_wp_ok [2, 23, 75, 111, 125] 3 h
theorem B_M_take_75 {g : am_G} {t : Nat} {Q : am_R → Prop} {x1 : Int32} {x2 : Int32} {x3 : Int32} {x4 : Int32}
    (h : ((Int32.ofNat 32) ≤ x4 → am_GQ (116, 23, [(0, .ref 32), (1, .int (x1 + (Int32.ofNat 1)))], [], g, t) Q) ∧ (x4 < (Int32.ofNat 32) → (¬ ((x3 >>> (x4 &&& Int32.ofNat 31)) &&& (Int32.ofNat 1)) = (Int32.ofNat 1) → am_GQ (116, 111, [(0, .ref 32), (1, .int x1), (2, .int x2), (3, .int x3), (4, .int x4)], [], g, t) Q) ∧ (((x3 >>> (x4 &&& Int32.ofNat 31)) &&& (Int32.ofNat 1)) = (Int32.ofNat 1) → am_chk (am_in x4 32) (am_chk (am_in x4 32) (am_GQ (116, 111, [(0, .ref 32), (1, .int x1), (2, .int x2), (3, .int x3), (4, .int x4)], [], (am_w g 45 (Int32.toNatClampNeg x4) ((g 45 (Int32.toNatClampNeg x4)) ||| (g 32 31))), t) Q))))) :
    am_GQ (116, 75, [(0, .ref 32), (1, .int x1), (2, .int x2), (3, .int x3), (4, .int x4)], [], g, t) Q := am_wp_ok [2, 23, 75, 111, 125] 21 h
theorem B_M_take_111 {g : am_G} {t : Nat} {Q : am_R → Prop} {x1 : Int32} {x2 : Int32} {x3 : Int32} {x4 : Int32}
    (h : am_GQ (116, 75, [(0, .ref 32), (1, .int x1), (2, .int x2), (3, .int x3), (4, .int (x4 + (Int32.ofNat 1)))], [], g, t) Q) :
    am_GQ (116, 111, [(0, .ref 32), (1, .int x1), (2, .int x2), (3, .int x3), (4, .int x4)], [], g, t) Q := am_wp_ok [2, 23, 75, 111, 125] 2 h
theorem B_M_thrown_0 {g : am_G} {t : Nat} {Q : am_R → Prop}
    (h : Q (.inl (some (.int (g 32 2))), g, t)) :
    am_GQ (117, 0, [(0, .ref 32)], [], g, t) Q := am_wp_ok [] 3 h
theorem B_M_within_0 {g : am_G} {t : Nat} {Q : am_R → Prop} {x0 : Int32} {x1 : Int32} {x2 : Int32}
    (h : (x0 < x1 → am_chk (am_isb (Int32.ofNat 0)) (Q (.inl (some (.int (Int32.ofNat 0))), g, t))) ∧ (x1 ≤ x0 → (x2 < x0 → am_chk (am_isb (Int32.ofNat 0)) (Q (.inl (some (.int (Int32.ofNat 0))), g, t))) ∧ (x0 ≤ x2 → am_chk (am_isb (Int32.ofNat 1)) (Q (.inl (some (.int (Int32.ofNat 1))), g, t))))) :
    am_GQ (118, 0, [(0, .int x0), (1, .int x1), (2, .int x2)], [], g, t) Q := am_wp_ok [] 9 h
theorem B_M_write_0 {g : am_G} {t : Nat} {Q : am_R → Prop} {x1 : Int64}
    (h : am_GQ (119, 10, [(0, .ref 32), (1, .long x1), (3, .int (Int32.ofNat 0)), (4, .int (Int32.ofNat 0))], [], (am_w g 32 2 (Int32.ofNat 0)), t) Q) :
    am_GQ (119, 0, [(0, .ref 32), (1, .long x1)], [], g, t) Q := am_wp_ok [10, 57, 74] 7 h
theorem B_M_write_10 {g : am_G} {t : Nat} {Q : am_R → Prop} {x1 : Int64} {x3 : Int32} {x4 : Int32}
    (h : ((Int32.ofNat 8) ≤ x4 → am_GQ (119, 57, [(0, .ref 32), (1, .long x1), (3, .int x3)], [], g, t) Q) ∧ (x4 < (Int32.ofNat 8) → (¬ ((Int64.toInt32 (x1 >>> (Int32.toInt64 ((Int32.ofNat 8) * x4) &&& 63))) &&& (Int32.ofNat 255)) = (Int32.ofNat 0) → (((Int64.toInt32 (x1 >>> (Int32.toInt64 ((Int32.ofNat 8) * x4) &&& 63))) &&& (Int32.ofNat 255)) ≤ (Int32.ofNat 127) → am_GQ (119, 10, [(0, .ref 32), (1, .long x1), (3, .int (x3 + (Int32.ofNat 1))), (4, .int (x4 + (Int32.ofNat 1)))], [], g, t) Q) ∧ ((Int32.ofNat 127) < ((Int64.toInt32 (x1 >>> (Int32.toInt64 ((Int32.ofNat 8) * x4) &&& 63))) &&& (Int32.ofNat 255)) → Q (.inl (some (.int (-1))), g, t))) ∧ (((Int64.toInt32 (x1 >>> (Int32.toInt64 ((Int32.ofNat 8) * x4) &&& 63))) &&& (Int32.ofNat 255)) = (Int32.ofNat 0) → am_GQ (119, 57, [(0, .ref 32), (1, .long x1), (3, .int x3)], [], g, t) Q))) :
    am_GQ (119, 10, [(0, .ref 32), (1, .long x1), (3, .int x3), (4, .int x4)], [], g, t) Q := am_wp_ok [10, 57, 74] 20 h
theorem B_M_write_57 {g : am_G} {t : Nat} {Q : am_R → Prop} {x1 : Int64} {x3 : Int32}
    (h : (((g 32 1) + x3) ≤ (Int32.ofNat 240) → am_GQ (119, 74, [(0, .ref 32), (1, .long x1), (3, .int x3), (4, .int (Int32.ofNat 0))], [], g, t) Q) ∧ ((Int32.ofNat 240) < ((g 32 1) + x3) → Q (.inl (some (.int (-1))), g, t))) :
    am_GQ (119, 57, [(0, .ref 32), (1, .long x1), (3, .int x3)], [], g, t) Q := am_wp_ok [10, 57, 74] 8 h
theorem B_M_write_74 {g : am_G} {t : Nat} {Q : am_R → Prop} {x1 : Int64} {x3 : Int32} {x4 : Int32}
    (h : (x3 ≤ x4 → Q (.inl (some (.int x3)), (am_w g 32 1 ((g 32 1) + x3)), t)) ∧ (x4 < x3 → am_chk (am_in ((g 32 1) + x4) 240) (am_GQ (119, 74, [(0, .ref 32), (1, .long x1), (3, .int x3), (4, .int (x4 + (Int32.ofNat 1)))], [], (am_w g 33 (Int32.toNatClampNeg ((g 32 1) + x4)) ((Int64.toInt32 (x1 >>> (Int32.toInt64 ((Int32.ofNat 8) * x4) &&& 63))) &&& (Int32.ofNat 127))), t) Q))) :
    am_GQ (119, 74, [(0, .ref 32), (1, .long x1), (3, .int x3), (4, .int x4)], [], g, t) Q := am_wp_ok [10, 57, 74] 20 h
theorem B_J_bitCount_0 {g : am_G} {t : Nat} {Q : am_R → Prop} {x0 : Int32}
    (h : Q (.inl (some (.int ((((((((x0 - ((Int32.toUInt32 x0 >>> (Int32.toUInt32 (Int32.ofNat 1) &&& Int32.toUInt32 (Int32.ofNat 31))).toInt32 &&& (Int32.ofNat 1431655765))) &&& (Int32.ofNat 858993459)) + ((Int32.toUInt32 (x0 - ((Int32.toUInt32 x0 >>> (Int32.toUInt32 (Int32.ofNat 1) &&& Int32.toUInt32 (Int32.ofNat 31))).toInt32 &&& (Int32.ofNat 1431655765))) >>> (Int32.toUInt32 (Int32.ofNat 2) &&& Int32.toUInt32 (Int32.ofNat 31))).toInt32 &&& (Int32.ofNat 858993459))) + (Int32.toUInt32 (((x0 - ((Int32.toUInt32 x0 >>> (Int32.toUInt32 (Int32.ofNat 1) &&& Int32.toUInt32 (Int32.ofNat 31))).toInt32 &&& (Int32.ofNat 1431655765))) &&& (Int32.ofNat 858993459)) + ((Int32.toUInt32 (x0 - ((Int32.toUInt32 x0 >>> (Int32.toUInt32 (Int32.ofNat 1) &&& Int32.toUInt32 (Int32.ofNat 31))).toInt32 &&& (Int32.ofNat 1431655765))) >>> (Int32.toUInt32 (Int32.ofNat 2) &&& Int32.toUInt32 (Int32.ofNat 31))).toInt32 &&& (Int32.ofNat 858993459))) >>> (Int32.toUInt32 (Int32.ofNat 4) &&& Int32.toUInt32 (Int32.ofNat 31))).toInt32) &&& (Int32.ofNat 252645135)) + (Int32.toUInt32 (((((x0 - ((Int32.toUInt32 x0 >>> (Int32.toUInt32 (Int32.ofNat 1) &&& Int32.toUInt32 (Int32.ofNat 31))).toInt32 &&& (Int32.ofNat 1431655765))) &&& (Int32.ofNat 858993459)) + ((Int32.toUInt32 (x0 - ((Int32.toUInt32 x0 >>> (Int32.toUInt32 (Int32.ofNat 1) &&& Int32.toUInt32 (Int32.ofNat 31))).toInt32 &&& (Int32.ofNat 1431655765))) >>> (Int32.toUInt32 (Int32.ofNat 2) &&& Int32.toUInt32 (Int32.ofNat 31))).toInt32 &&& (Int32.ofNat 858993459))) + (Int32.toUInt32 (((x0 - ((Int32.toUInt32 x0 >>> (Int32.toUInt32 (Int32.ofNat 1) &&& Int32.toUInt32 (Int32.ofNat 31))).toInt32 &&& (Int32.ofNat 1431655765))) &&& (Int32.ofNat 858993459)) + ((Int32.toUInt32 (x0 - ((Int32.toUInt32 x0 >>> (Int32.toUInt32 (Int32.ofNat 1) &&& Int32.toUInt32 (Int32.ofNat 31))).toInt32 &&& (Int32.ofNat 1431655765))) >>> (Int32.toUInt32 (Int32.ofNat 2) &&& Int32.toUInt32 (Int32.ofNat 31))).toInt32 &&& (Int32.ofNat 858993459))) >>> (Int32.toUInt32 (Int32.ofNat 4) &&& Int32.toUInt32 (Int32.ofNat 31))).toInt32) &&& (Int32.ofNat 252645135)) >>> (Int32.toUInt32 (Int32.ofNat 8) &&& Int32.toUInt32 (Int32.ofNat 31))).toInt32) + (Int32.toUInt32 ((((((x0 - ((Int32.toUInt32 x0 >>> (Int32.toUInt32 (Int32.ofNat 1) &&& Int32.toUInt32 (Int32.ofNat 31))).toInt32 &&& (Int32.ofNat 1431655765))) &&& (Int32.ofNat 858993459)) + ((Int32.toUInt32 (x0 - ((Int32.toUInt32 x0 >>> (Int32.toUInt32 (Int32.ofNat 1) &&& Int32.toUInt32 (Int32.ofNat 31))).toInt32 &&& (Int32.ofNat 1431655765))) >>> (Int32.toUInt32 (Int32.ofNat 2) &&& Int32.toUInt32 (Int32.ofNat 31))).toInt32 &&& (Int32.ofNat 858993459))) + (Int32.toUInt32 (((x0 - ((Int32.toUInt32 x0 >>> (Int32.toUInt32 (Int32.ofNat 1) &&& Int32.toUInt32 (Int32.ofNat 31))).toInt32 &&& (Int32.ofNat 1431655765))) &&& (Int32.ofNat 858993459)) + ((Int32.toUInt32 (x0 - ((Int32.toUInt32 x0 >>> (Int32.toUInt32 (Int32.ofNat 1) &&& Int32.toUInt32 (Int32.ofNat 31))).toInt32 &&& (Int32.ofNat 1431655765))) >>> (Int32.toUInt32 (Int32.ofNat 2) &&& Int32.toUInt32 (Int32.ofNat 31))).toInt32 &&& (Int32.ofNat 858993459))) >>> (Int32.toUInt32 (Int32.ofNat 4) &&& Int32.toUInt32 (Int32.ofNat 31))).toInt32) &&& (Int32.ofNat 252645135)) + (Int32.toUInt32 (((((x0 - ((Int32.toUInt32 x0 >>> (Int32.toUInt32 (Int32.ofNat 1) &&& Int32.toUInt32 (Int32.ofNat 31))).toInt32 &&& (Int32.ofNat 1431655765))) &&& (Int32.ofNat 858993459)) + ((Int32.toUInt32 (x0 - ((Int32.toUInt32 x0 >>> (Int32.toUInt32 (Int32.ofNat 1) &&& Int32.toUInt32 (Int32.ofNat 31))).toInt32 &&& (Int32.ofNat 1431655765))) >>> (Int32.toUInt32 (Int32.ofNat 2) &&& Int32.toUInt32 (Int32.ofNat 31))).toInt32 &&& (Int32.ofNat 858993459))) + (Int32.toUInt32 (((x0 - ((Int32.toUInt32 x0 >>> (Int32.toUInt32 (Int32.ofNat 1) &&& Int32.toUInt32 (Int32.ofNat 31))).toInt32 &&& (Int32.ofNat 1431655765))) &&& (Int32.ofNat 858993459)) + ((Int32.toUInt32 (x0 - ((Int32.toUInt32 x0 >>> (Int32.toUInt32 (Int32.ofNat 1) &&& Int32.toUInt32 (Int32.ofNat 31))).toInt32 &&& (Int32.ofNat 1431655765))) >>> (Int32.toUInt32 (Int32.ofNat 2) &&& Int32.toUInt32 (Int32.ofNat 31))).toInt32 &&& (Int32.ofNat 858993459))) >>> (Int32.toUInt32 (Int32.ofNat 4) &&& Int32.toUInt32 (Int32.ofNat 31))).toInt32) &&& (Int32.ofNat 252645135)) >>> (Int32.toUInt32 (Int32.ofNat 8) &&& Int32.toUInt32 (Int32.ofNat 31))).toInt32) >>> (Int32.toUInt32 (Int32.ofNat 16) &&& Int32.toUInt32 (Int32.ofNat 31))).toInt32) &&& (Int32.ofNat 63)))), g, t)) :
    am_GQ (120, 0, [(0, .int x0)], [], g, t) Q := am_wp_ok [] 42 h
