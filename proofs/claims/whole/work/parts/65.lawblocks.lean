theorem B_L_law_100 {g : am_G} {t : Nat} {Q : am_R → Prop} {x4 : Int32}
    (h : am_chk (am_in (x4 + (Int32.ofNat 1)) (Int32.toNatClampNeg (g 7 0))) (am_chk (am_in (x4 + (Int32.ofNat 2)) (Int32.toNatClampNeg (g 7 0))) (am_GQ (20, 0, [(0, .ref 8), (1, .long (((Int32.toInt64 (g 6 (Int32.toNatClampNeg (x4 + (Int32.ofNat 1))))) <<< (Int32.toInt64 (Int32.ofNat 32) &&& 63)) ||| ((Int32.toInt64 (g 6 (Int32.toNatClampNeg (x4 + (Int32.ofNat 2))))) &&& 4294967295)))], [], g, t) (am_af 0 123 [(0, .ref 6), (1, .ref 8), (2, .ref 32), (3, .ref 53), (4, .int x4)] [] Q)))) :
    am_GQ (0, 100, [(0, .ref 6), (1, .ref 8), (2, .ref 32), (3, .ref 53), (4, .int x4)], [], g, t) Q := am_wp_ok [23, 224, 405, 458] 19 h
theorem B_L_law_157 {g : am_G} {t : Nat} {Q : am_R → Prop} {x4 : Int32}
    (h : am_GQ (1, 0, [(0, .ref 8)], [], g, t) (am_af 0 158 [(0, .ref 6), (1, .ref 8), (2, .ref 32), (3, .ref 53), (4, .int x4)] [] Q)) :
    am_GQ (0, 157, [(0, .ref 6), (1, .ref 8), (2, .ref 32), (3, .ref 53), (4, .int x4)], [], g, t) Q := am_wp_ok [23, 224, 405, 458] 2 h
theorem B_L_law_170 {g : am_G} {t : Nat} {Q : am_R → Prop} {x4 : Int32}
    (h : am_GQ (9, 0, [(0, .ref 8)], [], g, t) (am_af 0 171 [(0, .ref 6), (1, .ref 8), (2, .ref 32), (3, .ref 53), (4, .int x4)] [] Q)) :
    am_GQ (0, 170, [(0, .ref 6), (1, .ref 8), (2, .ref 32), (3, .ref 53), (4, .int x4)], [], g, t) Q := am_wp_ok [23, 224, 405, 458] 2 h
theorem B_L_law_183 {g : am_G} {t : Nat} {Q : am_R → Prop} {x4 : Int32}
    (h : am_GQ (91, 0, [(0, .ref 8), (1, .ref 53)], [], g, t) (am_af 0 185 [(0, .ref 6), (1, .ref 8), (2, .ref 32), (3, .ref 53), (4, .int x4)] [] Q)) :
    am_GQ (0, 183, [(0, .ref 6), (1, .ref 8), (2, .ref 32), (3, .ref 53), (4, .int x4)], [], g, t) Q := am_wp_ok [23, 224, 405, 458] 3 h
theorem B_L_law_227 {g : am_G} {t : Nat} {Q : am_R → Prop} {x4 : Int32}
    (h : am_GQ (2, 0, [(0, .ref 8)], [], g, t) (am_af 0 228 [(0, .ref 6), (1, .ref 8), (2, .ref 32), (3, .ref 53), (4, .int x4)] [] Q)) :
    am_GQ (0, 227, [(0, .ref 6), (1, .ref 8), (2, .ref 32), (3, .ref 53), (4, .int x4)], [], g, t) Q := am_wp_ok [23, 224, 405, 458] 2 h
theorem B_L_law_240 {g : am_G} {t : Nat} {Q : am_R → Prop} {x4 : Int32}
    (h : am_chk (am_in (x4 + (Int32.ofNat 1)) (Int32.toNatClampNeg (g 7 0))) (am_GQ (17, 0, [(0, .ref 8), (1, .int (g 6 (Int32.toNatClampNeg (x4 + (Int32.ofNat 1)))))], [], g, t) (am_af 0 247 [(0, .ref 6), (1, .ref 8), (2, .ref 32), (3, .ref 53), (4, .int x4)] [] Q))) :
    am_GQ (0, 240, [(0, .ref 6), (1, .ref 8), (2, .ref 32), (3, .ref 53), (4, .int x4)], [], g, t) Q := am_wp_ok [23, 224, 405, 458] 7 h
theorem B_L_law_265 {g : am_G} {t : Nat} {Q : am_R → Prop} {x4 : Int32}
    (h : am_chk (am_in (x4 + (Int32.ofNat 1)) (Int32.toNatClampNeg (g 7 0))) (am_GQ (14, 0, [(0, .ref 8), (1, .int (g 6 (Int32.toNatClampNeg (x4 + (Int32.ofNat 1)))))], [], g, t) (am_af 0 272 [(0, .ref 6), (1, .ref 8), (2, .ref 32), (3, .ref 53), (4, .int x4)] [] Q))) :
    am_GQ (0, 265, [(0, .ref 6), (1, .ref 8), (2, .ref 32), (3, .ref 53), (4, .int x4)], [], g, t) Q := am_wp_ok [23, 224, 405, 458] 7 h
theorem B_L_law_290 {g : am_G} {t : Nat} {Q : am_R → Prop} {x4 : Int32}
    (h : am_chk (am_in (x4 + (Int32.ofNat 1)) (Int32.toNatClampNeg (g 7 0))) (am_chk (am_in (x4 + (Int32.ofNat 2)) (Int32.toNatClampNeg (g 7 0))) (am_GQ (18, 0, [(0, .ref 8), (1, .int (g 6 (Int32.toNatClampNeg (x4 + (Int32.ofNat 1))))), (2, .int (g 6 (Int32.toNatClampNeg (x4 + (Int32.ofNat 2)))))], [], g, t) (am_af 0 303 [(0, .ref 6), (1, .ref 8), (2, .ref 32), (3, .ref 53), (4, .int x4)] [] Q)))) :
    am_GQ (0, 290, [(0, .ref 6), (1, .ref 8), (2, .ref 32), (3, .ref 53), (4, .int x4)], [], g, t) Q := am_wp_ok [23, 224, 405, 458] 12 h
theorem B_L_law_327 {g : am_G} {t : Nat} {Q : am_R → Prop} {x4 : Int32}
    (h : am_chk (am_in (x4 + (Int32.ofNat 1)) (Int32.toNatClampNeg (g 7 0))) (am_GQ (19, 0, [(0, .ref 8), (1, .int (g 6 (Int32.toNatClampNeg (x4 + (Int32.ofNat 1)))))], [], g, t) (am_af 0 334 [(0, .ref 6), (1, .ref 8), (2, .ref 32), (3, .ref 53), (4, .int x4)] [] Q))) :
    am_GQ (0, 327, [(0, .ref 6), (1, .ref 8), (2, .ref 32), (3, .ref 53), (4, .int x4)], [], g, t) Q := am_wp_ok [23, 224, 405, 458] 7 h
theorem B_L_law_352 {g : am_G} {t : Nat} {Q : am_R → Prop} {x4 : Int32}
    (h : am_chk (am_in (x4 + (Int32.ofNat 1)) (Int32.toNatClampNeg (g 7 0))) (am_GQ (90, 0, [(0, .ref 8), (1, .int (g 6 (Int32.toNatClampNeg (x4 + (Int32.ofNat 1))))), (2, .ref 53)], [], g, t) (am_af 0 360 [(0, .ref 6), (1, .ref 8), (2, .ref 32), (3, .ref 53), (4, .int x4)] [] Q))) :
    am_GQ (0, 352, [(0, .ref 6), (1, .ref 8), (2, .ref 32), (3, .ref 53), (4, .int x4)], [], g, t) Q := am_wp_ok [23, 224, 405, 458] 8 h
theorem B_L_law_408 {g : am_G} {t : Nat} {Q : am_R → Prop} {x4 : Int32}
    (h : am_chk (am_in (x4 + (Int32.ofNat 1)) (Int32.toNatClampNeg (g 7 0))) (am_GQ (11, 0, [(0, .ref 8), (1, .int (g 6 (Int32.toNatClampNeg (x4 + (Int32.ofNat 1)))))], [], g, t) (am_af 0 415 [(0, .ref 6), (1, .ref 8), (2, .ref 32), (3, .ref 53), (4, .int x4)] [] Q))) :
    am_GQ (0, 408, [(0, .ref 6), (1, .ref 8), (2, .ref 32), (3, .ref 53), (4, .int x4)], [], g, t) Q := am_wp_ok [23, 224, 405, 458] 7 h
theorem B_L_law_433 {g : am_G} {t : Nat} {Q : am_R → Prop} {x4 : Int32}
    (h : am_chk (am_in (x4 + (Int32.ofNat 1)) (Int32.toNatClampNeg (g 7 0))) (am_GQ (13, 0, [(0, .ref 8), (1, .int (g 6 (Int32.toNatClampNeg (x4 + (Int32.ofNat 1)))))], [], g, t) (am_af 0 440 [(0, .ref 6), (1, .ref 8), (2, .ref 32), (3, .ref 53), (4, .int x4)] [] Q))) :
    am_GQ (0, 433, [(0, .ref 6), (1, .ref 8), (2, .ref 32), (3, .ref 53), (4, .int x4)], [], g, t) Q := am_wp_ok [23, 224, 405, 458] 7 h
theorem B_L_law_458 {g : am_G} {t : Nat} {Q : am_R → Prop} {x4 : Int32}
    (h : am_GQ (0, 23, [(0, .ref 6), (1, .ref 8), (2, .ref 32), (3, .ref 53), (4, .int (x4 + (Int32.ofNat 3)))], [], g, t) Q) :
    am_GQ (0, 458, [(0, .ref 6), (1, .ref 8), (2, .ref 32), (3, .ref 53), (4, .int x4)], [], g, t) Q := am_wp_ok [23, 224, 405, 458] 2 h
theorem B_L_law_126 {g : am_G} {t : Nat} {Q : am_R → Prop} {x4 : Int32} {s0 : Int32}
    (h : am_chk (am_in (x4 + (Int32.ofNat 1)) (Int32.toNatClampNeg (g 7 0))) (am_chk (am_in (x4 + (Int32.ofNat 2)) (Int32.toNatClampNeg (g 7 0))) (am_GQ (119, 0, [(0, .ref 32), (1, .long (((Int32.toInt64 (g 6 (Int32.toNatClampNeg (x4 + (Int32.ofNat 1))))) <<< (Int32.toInt64 (Int32.ofNat 32) &&& 63)) ||| ((Int32.toInt64 (g 6 (Int32.toNatClampNeg (x4 + (Int32.ofNat 2))))) &&& 4294967295)))], [], g, t) (am_af 0 149 [(0, .ref 6), (1, .ref 8), (2, .ref 32), (3, .ref 53), (4, .int x4)] [.int s0] Q)))) :
    am_GQ (0, 126, [(0, .ref 6), (1, .ref 8), (2, .ref 32), (3, .ref 53), (4, .int x4)], [.int s0], g, t) Q := am_wp_ok [23, 224, 405, 458] 19 h
theorem B_L_law_161 {g : am_G} {t : Nat} {Q : am_R → Prop} {x4 : Int32} {s0 : Int32}
    (h : am_GQ (94, 0, [(0, .ref 32)], [], g, t) (am_af 0 162 [(0, .ref 6), (1, .ref 8), (2, .ref 32), (3, .ref 53), (4, .int x4)] [.int s0] Q)) :
    am_GQ (0, 161, [(0, .ref 6), (1, .ref 8), (2, .ref 32), (3, .ref 53), (4, .int x4)], [.int s0], g, t) Q := am_wp_ok [23, 224, 405, 458] 2 h
theorem B_L_law_174 {g : am_G} {t : Nat} {Q : am_R → Prop} {x4 : Int32} {s0 : Int32}
    (h : am_GQ (101, 0, [(0, .ref 32)], [], g, t) (am_af 0 175 [(0, .ref 6), (1, .ref 8), (2, .ref 32), (3, .ref 53), (4, .int x4)] [.int s0] Q)) :
    am_GQ (0, 174, [(0, .ref 6), (1, .ref 8), (2, .ref 32), (3, .ref 53), (4, .int x4)], [.int s0], g, t) Q := am_wp_ok [23, 224, 405, 458] 2 h
theorem B_L_law_188 {g : am_G} {t : Nat} {Q : am_R → Prop} {x4 : Int32} {s0 : Int32}
    (h : am_GQ (106, 0, [(0, .ref 32)], [], g, t) (am_af 0 191 [(0, .ref 6), (1, .ref 8), (2, .ref 32), (3, .ref 53), (4, .int x4), (5, .int s0)] [] Q)) :
    am_GQ (0, 188, [(0, .ref 6), (1, .ref 8), (2, .ref 32), (3, .ref 53), (4, .int x4)], [.int s0], g, t) Q := am_wp_ok [23, 224, 405, 458] 3 h
theorem B_L_law_231 {g : am_G} {t : Nat} {Q : am_R → Prop} {x4 : Int32} {s0 : Int32}
    (h : am_GQ (96, 0, [(0, .ref 32)], [], g, t) (am_af 0 232 [(0, .ref 6), (1, .ref 8), (2, .ref 32), (3, .ref 53), (4, .int x4)] [.int s0] Q)) :
    am_GQ (0, 231, [(0, .ref 6), (1, .ref 8), (2, .ref 32), (3, .ref 53), (4, .int x4)], [.int s0], g, t) Q := am_wp_ok [23, 224, 405, 458] 2 h
theorem B_L_law_250 {g : am_G} {t : Nat} {Q : am_R → Prop} {x4 : Int32} {s0 : Int32}
    (h : am_chk (am_in (x4 + (Int32.ofNat 1)) (Int32.toNatClampNeg (g 7 0))) (am_GQ (112, 0, [(0, .ref 32), (1, .int (g 6 (Int32.toNatClampNeg (x4 + (Int32.ofNat 1)))))], [], g, t) (am_af 0 257 [(0, .ref 6), (1, .ref 8), (2, .ref 32), (3, .ref 53), (4, .int x4)] [.int s0] Q))) :
    am_GQ (0, 250, [(0, .ref 6), (1, .ref 8), (2, .ref 32), (3, .ref 53), (4, .int x4)], [.int s0], g, t) Q := am_wp_ok [23, 224, 405, 458] 7 h
theorem B_L_law_275 {g : am_G} {t : Nat} {Q : am_R → Prop} {x4 : Int32} {s0 : Int32}
    (h : am_chk (am_in (x4 + (Int32.ofNat 1)) (Int32.toNatClampNeg (g 7 0))) (am_GQ (109, 0, [(0, .ref 32), (1, .int (g 6 (Int32.toNatClampNeg (x4 + (Int32.ofNat 1)))))], [], g, t) (am_af 0 282 [(0, .ref 6), (1, .ref 8), (2, .ref 32), (3, .ref 53), (4, .int x4)] [.int s0] Q))) :
    am_GQ (0, 275, [(0, .ref 6), (1, .ref 8), (2, .ref 32), (3, .ref 53), (4, .int x4)], [.int s0], g, t) Q := am_wp_ok [23, 224, 405, 458] 7 h
theorem B_L_law_306 {g : am_G} {t : Nat} {Q : am_R → Prop} {x4 : Int32} {s0 : Int32}
    (h : am_chk (am_in (x4 + (Int32.ofNat 1)) (Int32.toNatClampNeg (g 7 0))) (am_chk (am_in (x4 + (Int32.ofNat 2)) (Int32.toNatClampNeg (g 7 0))) (am_GQ (114, 0, [(0, .ref 32), (1, .int (g 6 (Int32.toNatClampNeg (x4 + (Int32.ofNat 1))))), (2, .int (g 6 (Int32.toNatClampNeg (x4 + (Int32.ofNat 2)))))], [], g, t) (am_af 0 319 [(0, .ref 6), (1, .ref 8), (2, .ref 32), (3, .ref 53), (4, .int x4)] [.int s0] Q)))) :
    am_GQ (0, 306, [(0, .ref 6), (1, .ref 8), (2, .ref 32), (3, .ref 53), (4, .int x4)], [.int s0], g, t) Q := am_wp_ok [23, 224, 405, 458] 12 h
theorem B_L_law_337 {g : am_G} {t : Nat} {Q : am_R → Prop} {x4 : Int32} {s0 : Int32}
    (h : am_chk (am_in (x4 + (Int32.ofNat 1)) (Int32.toNatClampNeg (g 7 0))) (am_GQ (115, 0, [(0, .ref 32), (1, .int (g 6 (Int32.toNatClampNeg (x4 + (Int32.ofNat 1)))))], [], g, t) (am_af 0 344 [(0, .ref 6), (1, .ref 8), (2, .ref 32), (3, .ref 53), (4, .int x4)] [.int s0] Q))) :
    am_GQ (0, 337, [(0, .ref 6), (1, .ref 8), (2, .ref 32), (3, .ref 53), (4, .int x4)], [.int s0], g, t) Q := am_wp_ok [23, 224, 405, 458] 7 h
theorem B_L_law_363 {g : am_G} {t : Nat} {Q : am_R → Prop} {x4 : Int32} {s0 : Int32}
    (h : am_chk (am_in (x4 + (Int32.ofNat 1)) (Int32.toNatClampNeg (g 7 0))) (am_GQ (104, 0, [(0, .ref 32), (1, .int (g 6 (Int32.toNatClampNeg (x4 + (Int32.ofNat 1)))))], [], g, t) (am_af 0 372 [(0, .ref 6), (1, .ref 8), (2, .ref 32), (3, .ref 53), (4, .int x4), (5, .int s0)] [] Q))) :
    am_GQ (0, 363, [(0, .ref 6), (1, .ref 8), (2, .ref 32), (3, .ref 53), (4, .int x4)], [.int s0], g, t) Q := am_wp_ok [23, 224, 405, 458] 8 h
theorem B_L_law_418 {g : am_G} {t : Nat} {Q : am_R → Prop} {x4 : Int32} {s0 : Int32}
    (h : am_chk (am_in (x4 + (Int32.ofNat 1)) (Int32.toNatClampNeg (g 7 0))) (am_GQ (105, 0, [(0, .ref 32), (1, .int (g 6 (Int32.toNatClampNeg (x4 + (Int32.ofNat 1)))))], [], g, t) (am_af 0 425 [(0, .ref 6), (1, .ref 8), (2, .ref 32), (3, .ref 53), (4, .int x4)] [.int s0] Q))) :
    am_GQ (0, 418, [(0, .ref 6), (1, .ref 8), (2, .ref 32), (3, .ref 53), (4, .int x4)], [.int s0], g, t) Q := am_wp_ok [23, 224, 405, 458] 7 h
theorem B_L_law_443 {g : am_G} {t : Nat} {Q : am_R → Prop} {x4 : Int32} {s0 : Int32}
    (h : am_chk (am_in (x4 + (Int32.ofNat 1)) (Int32.toNatClampNeg (g 7 0))) (am_GQ (107, 0, [(0, .ref 32), (1, .int (g 6 (Int32.toNatClampNeg (x4 + (Int32.ofNat 1)))))], [], g, t) (am_af 0 450 [(0, .ref 6), (1, .ref 8), (2, .ref 32), (3, .ref 53), (4, .int x4)] [.int s0] Q))) :
    am_GQ (0, 443, [(0, .ref 6), (1, .ref 8), (2, .ref 32), (3, .ref 53), (4, .int x4)], [.int s0], g, t) Q := am_wp_ok [23, 224, 405, 458] 7 h
theorem B_L_law_152 {g : am_G} {t : Nat} {Q : am_R → Prop} {x4 : Int32} {s0 : Int32} {s1 : Int32}
    (h : (s1 = s0 → am_GQ (0, 458, [(0, .ref 6), (1, .ref 8), (2, .ref 32), (3, .ref 53), (4, .int x4)], [], g, t) Q) ∧ (¬ s1 = s0 → am_chk (am_isb (Int32.ofNat 0)) (Q (.inl (some (.int (Int32.ofNat 0))), g, t)))) :
    am_GQ (0, 152, [(0, .ref 6), (1, .ref 8), (2, .ref 32), (3, .ref 53), (4, .int x4)], [.int s0, .int s1], g, t) Q := am_wp_ok [23, 224, 405, 458] 3 h
theorem B_L_law_165 {g : am_G} {t : Nat} {Q : am_R → Prop} {x4 : Int32} {s0 : Int32} {s1 : Int32}
    (h : (s1 = s0 → am_GQ (0, 458, [(0, .ref 6), (1, .ref 8), (2, .ref 32), (3, .ref 53), (4, .int x4)], [], g, t) Q) ∧ (¬ s1 = s0 → am_chk (am_isb (Int32.ofNat 0)) (Q (.inl (some (.int (Int32.ofNat 0))), g, t)))) :
    am_GQ (0, 165, [(0, .ref 6), (1, .ref 8), (2, .ref 32), (3, .ref 53), (4, .int x4)], [.int s0, .int s1], g, t) Q := am_wp_ok [23, 224, 405, 458] 3 h
theorem B_L_law_178 {g : am_G} {t : Nat} {Q : am_R → Prop} {x4 : Int32} {s0 : Int32} {s1 : Int32}
    (h : (s1 = s0 → am_GQ (0, 458, [(0, .ref 6), (1, .ref 8), (2, .ref 32), (3, .ref 53), (4, .int x4)], [], g, t) Q) ∧ (¬ s1 = s0 → am_chk (am_isb (Int32.ofNat 0)) (Q (.inl (some (.int (Int32.ofNat 0))), g, t)))) :
    am_GQ (0, 178, [(0, .ref 6), (1, .ref 8), (2, .ref 32), (3, .ref 53), (4, .int x4)], [.int s0, .int s1], g, t) Q := am_wp_ok [23, 224, 405, 458] 3 h
theorem B_L_law_194 {g : am_G} {t : Nat} {Q : am_R → Prop} {x4 : Int32} {x5 : Int32} {s0 : Int32}
    (h : am_GQ (117, 0, [(0, .ref 32)], [], g, t) (am_af 0 197 [(0, .ref 6), (1, .ref 8), (2, .ref 32), (3, .ref 53), (4, .int x4), (5, .int x5), (6, .int s0)] [] Q)) :
    am_GQ (0, 194, [(0, .ref 6), (1, .ref 8), (2, .ref 32), (3, .ref 53), (4, .int x4), (5, .int x5)], [.int s0], g, t) Q := am_wp_ok [23, 224, 405, 458] 3 h
theorem B_L_law_235 {g : am_G} {t : Nat} {Q : am_R → Prop} {x4 : Int32} {s0 : Int32} {s1 : Int32}
    (h : (s1 = s0 → am_GQ (0, 458, [(0, .ref 6), (1, .ref 8), (2, .ref 32), (3, .ref 53), (4, .int x4)], [], g, t) Q) ∧ (¬ s1 = s0 → am_chk (am_isb (Int32.ofNat 0)) (Q (.inl (some (.int (Int32.ofNat 0))), g, t)))) :
    am_GQ (0, 235, [(0, .ref 6), (1, .ref 8), (2, .ref 32), (3, .ref 53), (4, .int x4)], [.int s0, .int s1], g, t) Q := am_wp_ok [23, 224, 405, 458] 3 h
theorem B_L_law_260 {g : am_G} {t : Nat} {Q : am_R → Prop} {x4 : Int32} {s0 : Int32} {s1 : Int32}
    (h : (s1 = s0 → am_GQ (0, 458, [(0, .ref 6), (1, .ref 8), (2, .ref 32), (3, .ref 53), (4, .int x4)], [], g, t) Q) ∧ (¬ s1 = s0 → am_chk (am_isb (Int32.ofNat 0)) (Q (.inl (some (.int (Int32.ofNat 0))), g, t)))) :
    am_GQ (0, 260, [(0, .ref 6), (1, .ref 8), (2, .ref 32), (3, .ref 53), (4, .int x4)], [.int s0, .int s1], g, t) Q := am_wp_ok [23, 224, 405, 458] 3 h
theorem B_L_law_285 {g : am_G} {t : Nat} {Q : am_R → Prop} {x4 : Int32} {s0 : Int32} {s1 : Int32}
    (h : (s1 = s0 → am_GQ (0, 458, [(0, .ref 6), (1, .ref 8), (2, .ref 32), (3, .ref 53), (4, .int x4)], [], g, t) Q) ∧ (¬ s1 = s0 → am_chk (am_isb (Int32.ofNat 0)) (Q (.inl (some (.int (Int32.ofNat 0))), g, t)))) :
    am_GQ (0, 285, [(0, .ref 6), (1, .ref 8), (2, .ref 32), (3, .ref 53), (4, .int x4)], [.int s0, .int s1], g, t) Q := am_wp_ok [23, 224, 405, 458] 3 h
theorem B_L_law_322 {g : am_G} {t : Nat} {Q : am_R → Prop} {x4 : Int32} {s0 : Int32} {s1 : Int32}
    (h : (s1 = s0 → am_GQ (0, 458, [(0, .ref 6), (1, .ref 8), (2, .ref 32), (3, .ref 53), (4, .int x4)], [], g, t) Q) ∧ (¬ s1 = s0 → am_chk (am_isb (Int32.ofNat 0)) (Q (.inl (some (.int (Int32.ofNat 0))), g, t)))) :
    am_GQ (0, 322, [(0, .ref 6), (1, .ref 8), (2, .ref 32), (3, .ref 53), (4, .int x4)], [.int s0, .int s1], g, t) Q := am_wp_ok [23, 224, 405, 458] 3 h
theorem B_L_law_347 {g : am_G} {t : Nat} {Q : am_R → Prop} {x4 : Int32} {s0 : Int32} {s1 : Int32}
    (h : (s1 = s0 → am_GQ (0, 458, [(0, .ref 6), (1, .ref 8), (2, .ref 32), (3, .ref 53), (4, .int x4)], [], g, t) Q) ∧ (¬ s1 = s0 → am_chk (am_isb (Int32.ofNat 0)) (Q (.inl (some (.int (Int32.ofNat 0))), g, t)))) :
    am_GQ (0, 347, [(0, .ref 6), (1, .ref 8), (2, .ref 32), (3, .ref 53), (4, .int x4)], [.int s0, .int s1], g, t) Q := am_wp_ok [23, 224, 405, 458] 3 h
theorem B_L_law_375 {g : am_G} {t : Nat} {Q : am_R → Prop} {x4 : Int32} {x5 : Int32} {s0 : Int32}
    (h : am_GQ (117, 0, [(0, .ref 32)], [], g, t) (am_af 0 378 [(0, .ref 6), (1, .ref 8), (2, .ref 32), (3, .ref 53), (4, .int x4), (5, .int x5), (6, .int s0)] [] Q)) :
    am_GQ (0, 375, [(0, .ref 6), (1, .ref 8), (2, .ref 32), (3, .ref 53), (4, .int x4), (5, .int x5)], [.int s0], g, t) Q := am_wp_ok [23, 224, 405, 458] 3 h
theorem B_L_law_428 {g : am_G} {t : Nat} {Q : am_R → Prop} {x4 : Int32} {s0 : Int32} {s1 : Int32}
    (h : (s1 = s0 → am_GQ (0, 458, [(0, .ref 6), (1, .ref 8), (2, .ref 32), (3, .ref 53), (4, .int x4)], [], g, t) Q) ∧ (¬ s1 = s0 → am_chk (am_isb (Int32.ofNat 0)) (Q (.inl (some (.int (Int32.ofNat 0))), g, t)))) :
    am_GQ (0, 428, [(0, .ref 6), (1, .ref 8), (2, .ref 32), (3, .ref 53), (4, .int x4)], [.int s0, .int s1], g, t) Q := am_wp_ok [23, 224, 405, 458] 3 h
theorem B_L_law_453 {g : am_G} {t : Nat} {Q : am_R → Prop} {x4 : Int32} {s0 : Int32} {s1 : Int32}
    (h : (s1 = s0 → am_GQ (0, 458, [(0, .ref 6), (1, .ref 8), (2, .ref 32), (3, .ref 53), (4, .int x4)], [], g, t) Q) ∧ (¬ s1 = s0 → am_chk (am_isb (Int32.ofNat 0)) (Q (.inl (some (.int (Int32.ofNat 0))), g, t)))) :
    am_GQ (0, 453, [(0, .ref 6), (1, .ref 8), (2, .ref 32), (3, .ref 53), (4, .int x4)], [.int s0, .int s1], g, t) Q := am_wp_ok [23, 224, 405, 458] 3 h
theorem B_L_law_200 {g : am_G} {t : Nat} {Q : am_R → Prop} {x4 : Int32} {x5 : Int32} {x6 : Int32} {s0 : Int32}
    (h : (s0 = x5 → (¬ x5 = (Int32.ofNat 0) → am_GQ (0, 224, [(0, .ref 6), (1, .ref 8), (2, .ref 32), (3, .ref 53), (4, .int x4)], [], g, t) Q) ∧ (x5 = (Int32.ofNat 0) → am_chk (am_in (Int32.ofNat 0) 1) (((lg_cmp (Int32.toInt64 (g 53 (Int32.toNatClampNeg (Int32.ofNat 0)))) (Int32.toInt64 x6)) = (Int32.ofNat 0) → am_GQ (0, 224, [(0, .ref 6), (1, .ref 8), (2, .ref 32), (3, .ref 53), (4, .int x4)], [], g, t) Q) ∧ (¬ (lg_cmp (Int32.toInt64 (g 53 (Int32.toNatClampNeg (Int32.ofNat 0)))) (Int32.toInt64 x6)) = (Int32.ofNat 0) → am_chk (am_isb (Int32.ofNat 0)) (Q (.inl (some (.int (Int32.ofNat 0))), g, t)))))) ∧ (¬ s0 = x5 → am_chk (am_isb (Int32.ofNat 0)) (Q (.inl (some (.int (Int32.ofNat 0))), g, t)))) :
    am_GQ (0, 200, [(0, .ref 6), (1, .ref 8), (2, .ref 32), (3, .ref 53), (4, .int x4), (5, .int x5), (6, .int x6)], [.int s0], g, t) Q := am_wp_ok [23, 224, 405, 458] 13 h
theorem B_L_law_381 {g : am_G} {t : Nat} {Q : am_R → Prop} {x4 : Int32} {x5 : Int32} {x6 : Int32} {s0 : Int32}
    (h : (s0 = x5 → (¬ x5 = (Int32.ofNat 0) → am_GQ (0, 405, [(0, .ref 6), (1, .ref 8), (2, .ref 32), (3, .ref 53), (4, .int x4)], [], g, t) Q) ∧ (x5 = (Int32.ofNat 0) → am_chk (am_in (Int32.ofNat 0) 1) (((lg_cmp (Int32.toInt64 (g 53 (Int32.toNatClampNeg (Int32.ofNat 0)))) (Int32.toInt64 x6)) = (Int32.ofNat 0) → am_GQ (0, 405, [(0, .ref 6), (1, .ref 8), (2, .ref 32), (3, .ref 53), (4, .int x4)], [], g, t) Q) ∧ (¬ (lg_cmp (Int32.toInt64 (g 53 (Int32.toNatClampNeg (Int32.ofNat 0)))) (Int32.toInt64 x6)) = (Int32.ofNat 0) → am_chk (am_isb (Int32.ofNat 0)) (Q (.inl (some (.int (Int32.ofNat 0))), g, t)))))) ∧ (¬ s0 = x5 → am_chk (am_isb (Int32.ofNat 0)) (Q (.inl (some (.int (Int32.ofNat 0))), g, t)))) :
    am_GQ (0, 381, [(0, .ref 6), (1, .ref 8), (2, .ref 32), (3, .ref 53), (4, .int x4), (5, .int x5), (6, .int x6)], [.int s0], g, t) Q := am_wp_ok [23, 224, 405, 458] 13 h
theorem B_L_law_224 {g : am_G} {t : Nat} {Q : am_R → Prop} {x4 : Int32}
    (h : am_GQ (0, 458, [(0, .ref 6), (1, .ref 8), (2, .ref 32), (3, .ref 53), (4, .int x4)], [], g, t) Q) :
    am_GQ (0, 224, [(0, .ref 6), (1, .ref 8), (2, .ref 32), (3, .ref 53), (4, .int x4)], [], g, t) Q := am_wp_ok [23, 224, 405, 458] 1 h
theorem B_L_law_405 {g : am_G} {t : Nat} {Q : am_R → Prop} {x4 : Int32}
    (h : am_GQ (0, 458, [(0, .ref 6), (1, .ref 8), (2, .ref 32), (3, .ref 53), (4, .int x4)], [], g, t) Q) :
    am_GQ (0, 405, [(0, .ref 6), (1, .ref 8), (2, .ref 32), (3, .ref 53), (4, .int x4)], [], g, t) Q := am_wp_ok [23, 224, 405, 458] 1 h
