abbrev RK : List Nat := [34, 35, 36, 37, 38, 39, 40, 41, 42, 43, 44]
abbrev RJ : List Nat := [2, 3, 14, 16, 30, 31, 32]
section
variable {t : Nat} {Q : am_R → Prop} {n : Nat} {c : Nat → Nat} {x1 : Int32}
theorem S_read27 {g0 : am_G} (hl : (rdU c n).length ≤ 60) {F : Nat}
    (kn : F = 0 → ∀ g', fm [] MJ g0 g' → RMX c n g' → am_GQ (106, 111, [(0, .ref 32), (1, .int x1), (2, .int (Int32.ofNat 0))], [], g', t) Q)
    (kf : F ≠ 0 → ∀ g', fm [] [2, 3, 30, 31, 32] g0 g' → g' 32 2 = Int32.ofNat 2 → g' 32 3 = Int32.ofNat F → Q (.inl (some (.int (Int32.ofNat 0))), g', t)) :
    ∀ (f i : Nat) (g : am_G), i + f = (rdU c n).length → fm [] MJ g0 g → RMX c n g → fline (pLoop c (rdT c n)) ((rdU c n).drop i) = F → am_GQ (106, 27, [(0, .ref 32), (1, .int x1), (2, .int (Int32.ofNat i))], [], g, t) Q
  | 0, i, g, he, hf, hX, hF => by
    rw [List.drop_eq_nil_of_le (by omega), fline] at hF
    refine B_M_read_27 ?_
    rw [hX.2.1.1, nn_le (by omega) (by omega), nn_lt (by omega) (by omega)]
    exact ⟨fun _ => kn hF.symm g hf hX, fun h => absurd h (by omega)⟩
  | f + 1, i, g, he, hf, hX, hF => by
    obtain ⟨q, hq⟩ := get_u (U := rdU c n) (i := i) (by omega)
    have hin : am_in (Int32.ofNat i) 64 = true := nn_in (by omega) (by omega)
    rw [drop_u hq, fline] at hF
    refine B_M_read_27 ?_
    rw [hX.2.1.1, nn_le (by omega) (by omega), nn_lt (by omega) (by omega), nn_nat (by omega)]
    refine ⟨fun h => absurd h (by omega), fun _ => am_chk_i hin (am_chk_i hin (S_segT hX hq (fun g1 N1 f1 X1 N1X a1 a2 a3 => B_M_read_51 ?_)))⟩
    rw [nn_nat (by omega)]
    refine am_chk_i hin (am_chk_i hin (S_segS X1 hq (fun g2 N2 f2 X2 N2X b1 b2 b3 => B_M_read_76 (S_M_ring (B_M_read_88 ?_)))))
    have ff : fm [] MJ g0 g2 := fm_trans hf (fm_trans f1 f2)
    rw [a3, b3, ring_loop (rdT_lt c n) X2.2.2.2.1, nn_add, nn_nat (by omega)]
    refine ⟨fun h => ?_, fun h => am_chk_i hin (B_M_fail_0 (B_M_read_102 ?_))⟩
    · rw [b2i_z] at h
      rw [h, if_neg (by decide)] at hF
      exact S_read27 hl kn kf f (i + 1) g2 (by omega) ff X2 hF
    · rw [b2i_nz] at h
      rw [if_pos h] at hF
      have hno := rdU_no (List.mem_of_getElem? hq)
      refine kf (by omega) _ (fm_f (fm_f (fm_sub ff (by decide) (by decide)) (by decide)) (by decide)) ?_ ?_
      · rw [w_i (by decide), w_s]
      · rw [w_s, (X2.2.1.2 i q hq).2.2.2.1, hF]
theorem S_read111 {g0 : am_G} (hl : (rdU c n).length ≤ 60) (hgo : ∀ q ∈ rdU c n, pLoop c (rdT c n) q = false) {F : Nat}
    (kn : F = 0 → ∀ g', fm [] MJ g0 g' → RMX c n g' → am_GQ (106, 195, [(0, .ref 32), (1, .int x1), (2, .int (Int32.ofNat 0)), (3, .int (Int32.ofNat 0))], [], g', t) Q)
    (kf : F ≠ 0 → ∀ g', fm [] [2, 3, 30, 31, 32] g0 g' → g' 32 2 = Int32.ofNat 3 → g' 32 3 = Int32.ofNat F → Q (.inl (some (.int (Int32.ofNat 0))), g', t)) :
    ∀ (f i : Nat) (g : am_G), i + f = (rdU c n).length → fm [] MJ g0 g → RMX c n g → fline (pLong c (rdT c n)) ((rdU c n).drop i) = F → am_GQ (106, 111, [(0, .ref 32), (1, .int x1), (2, .int (Int32.ofNat i))], [], g, t) Q
  | 0, i, g, he, hf, hX, hF => by
    rw [List.drop_eq_nil_of_le (by omega), fline] at hF
    refine B_M_read_111 ?_
    rw [hX.2.1.1, nn_le (by omega) (by omega), nn_lt (by omega) (by omega)]
    exact ⟨fun _ => kn hF.symm g hf hX, fun h => absurd h (by omega)⟩
  | f + 1, i, g, he, hf, hX, hF => by
    obtain ⟨q, hq⟩ := get_u (U := rdU c n) (i := i) (by omega)
    have hin : am_in (Int32.ofNat i) 64 = true := nn_in (by omega) (by omega)
    have hno := rdU_no (List.mem_of_getElem? hq)
    have h0 := hgo q (List.mem_of_getElem? hq)
    unfold pLoop at h0
    rw [Bool.not_eq_false', Bool.and_eq_true] at h0
    rw [drop_u hq, fline] at hF
    refine B_M_read_111 ?_
    rw [hX.2.1.1, nn_le (by omega) (by omega), nn_lt (by omega) (by omega), nn_nat (by omega)]
    refine ⟨fun h => absurd h (by omega), fun _ => am_chk_i hin (am_chk_i hin (S_segT hX hq (fun g1 N1 f1 X1 N1X a1 a2 a3 => B_M_read_135 ?_)))⟩
    rw [nn_nat (by omega)]
    refine am_chk_i hin (am_chk_i hin (S_segS X1 hq (fun g2 N2 f2 X2 N2X b1 b2 b3 => B_M_read_160 ?_)))
    have ff : fm [] MJ g0 g2 := fm_trans hf (fm_trans f1 f2)
    rw [fN_ok (l := tT c q) X1 N1X (tk_lt c _ _) h0.1] at a1
    rw [fN_ok (l := tS c q) X2 N2X (tk_lt c _ _) h0.2] at b1
    have c1 : min (fN (vN (rdT c n) 26) (tT c q)) 65 ≤ 65 := Nat.min_le_right _ _
    have c2 : min (fN (vN (rdT c n) 26) (tS c q)) 65 ≤ 65 := Nat.min_le_right _ _
    rw [a1, b1, nn_add, nn_add, nn_nat (by omega), nn_le (by omega) (by omega), nn_lt (by omega) (by omega)]
    refine ⟨fun h => ?_, fun h => am_chk_i hin (B_M_fail_0 (B_M_read_184 ?_))⟩
    · have hp : pLong c (rdT c n) q = false := decide_eq_false (by omega)
      rw [hp, if_neg (by decide)] at hF
      exact S_read111 hl hgo kn kf f (i + 1) g2 (by omega) ff X2 hF
    · have hp : pLong c (rdT c n) q = true := decide_eq_true h
      rw [if_pos hp] at hF
      refine kf (by omega) _ (fm_f (fm_f (fm_sub ff (by decide) (by decide)) (by decide)) (by decide)) ?_ ?_
      · rw [w_i (by decide), w_s]
      · rw [w_s, (X2.2.1.2 i q hq).2.2.2.1, hF]
theorem S_read195 {g0 : am_G} (hl : (rdU c n).length ≤ 60) (hgo : ∀ q ∈ rdU c n, pLoop c (rdT c n) q = false) {F : Nat} {W : Int32}
    (kn : F = 0 → ∀ g' x3, fm [] MJ g0 g' → RMX c n g' → am_GQ (116, 0, [(0, .ref 32)], [], g', t) (am_af 106 268 [(0, .ref 32), (1, .int x1), (2, .int W), (3, .int x3)] [] Q))
    (kf : F ≠ 0 → ∀ g', fm [] [2, 3, 30, 31, 32] g0 g' → g' 32 2 = Int32.ofNat 3 → g' 32 3 = Int32.ofNat F → Q (.inl (some (.int (Int32.ofNat 0))), g', t)) :
    ∀ (f i : Nat) (a : Int32) (g : am_G), i + f = (rdU c n).length → fm [] MJ g0 g → RMX c n g → fdl (tgR c (rdT c n)) ((rdU c n).drop i) a = F → flW (tgR c (rdT c n)) ((rdU c n).drop i) a = W → am_GQ (106, 195, [(0, .ref 32), (1, .int x1), (2, .int a), (3, .int (Int32.ofNat i))], [], g, t) Q
  | 0, i, a, g, he, hf, hX, hF, hW => by
    rw [List.drop_eq_nil_of_le (by omega), fdl] at hF
    rw [List.drop_eq_nil_of_le (by omega), flW] at hW
    refine B_M_read_195 ?_
    rw [hX.2.1.1, nn_le (by omega) (by omega), nn_lt (by omega) (by omega), hW]
    exact ⟨fun _ => kn hF.symm g _ hf hX, fun h => absurd h (by omega)⟩
  | f + 1, i, a, g, he, hf, hX, hF, hW => by
    obtain ⟨q, hq⟩ := get_u (U := rdU c n) (i := i) (by omega)
    have hin : am_in (Int32.ofNat i) 64 = true := nn_in (by omega) (by omega)
    have hno := rdU_no (List.mem_of_getElem? hq)
    have h0 := hgo q (List.mem_of_getElem? hq)
    unfold pLoop at h0
    rw [Bool.not_eq_false', Bool.and_eq_true] at h0
    rw [drop_u hq, fdl] at hF
    rw [drop_u hq, flW] at hW
    refine B_M_read_195 ?_
    rw [hX.2.1.1, nn_le (by omega) (by omega), nn_lt (by omega) (by omega), nn_nat (by omega)]
    refine ⟨fun h => absurd h (by omega), fun _ => am_chk_i hin (am_chk_i hin (S_segT hX hq (fun g1 N1 f1 X1 N1X a1 a2 a3 => B_M_read_219 (am_chk_i hin ?_))))⟩
    have ff : fm [] MJ g0 g1 := fm_trans hf f1
    have etg : g1 32 31 = tgR c (rdT c n) q := by
      rw [a2]
      exact fF_ok X1 (tk_lt c _ _) h0.1 _
    obtain ⟨r1, r2, r3, r4, r5⟩ := X1.2.1.2 i q hq
    rw [nn_nat (by omega), etg, r4, r5]
    refine ⟨fun h => ⟨fun h2 => B_M_read_261 ?_, fun h2 => am_chk_i hin (B_M_fail_0 (B_M_read_253 ?_))⟩, fun h => B_M_read_261 ?_⟩
    · rw [b2i_nz] at h
      rw [if_pos h, if_pos h2] at hF
      rw [if_pos h] at hW
      rw [nn_add]
      exact S_read195 hl hgo kn kf f (i + 1) _ g1 (by omega) ff X1 hF hW
    · rw [b2i_nz] at h
      rw [if_pos h, if_neg h2] at hF
      refine kf (by omega) _ (fm_f (fm_f (fm_sub ff (by decide) (by decide)) (by decide)) (by decide)) ?_ ?_
      · rw [w_i (by decide), w_s]
      · rw [w_s, hF]
    · rw [b2i_z] at h
      rw [h, if_neg (by decide)] at hF
      rw [h, if_neg (by decide)] at hW
      rw [nn_add]
      exact S_read195 hl hgo kn kf f (i + 1) _ g1 (by omega) ff X1 hF hW
end
theorem ls_len (c : Nat → Nat) : ∀ f i s, s ≤ i → (ls c f i s).length ≤ i + f - s
  | 0, i, s, h => by
    rw [ls]
    by_cases e : s < i
    · rw [if_pos e]
      simp only [List.length_cons, List.length_nil]
      omega
    · rw [if_neg e]
      exact Nat.zero_le _
  | f + 1, i, s, h => by
    rw [ls]
    by_cases e : c i = 10
    · rw [if_pos e, List.length_cons]
      have := ls_len c f (i + 1) (i + 1) (Nat.le_refl _)
      omega
    · rw [if_neg e]
      have := ls_len c f (i + 1) s (by omega)
      omega
theorem fb_le : ∀ (l : List (Nat × Nat)) (b line : Nat), fb b line l ≤ line + l.length
  | [], b, line => by
    rw [fb]
    split <;> omega
  | (s, k) :: r, b, line => by
    rw [fb, List.length_cons]
    have := fb_le r k (line + 1)
    split <;> omega
def pN (g : am_G) (P : List (Nat × Nat)) : Prop := P.length ≤ 30 ∧ g 32 20 = Int32.ofNat P.length ∧ ∀ i a b, P[i]? = some (a, b) → g 46 i = Int32.ofNat (4 * a + b) ∧ a < 4 ∧ b < 4
section
variable {t : Nat} {Q : am_R → Prop} {n : Nat} {c : Nat → Nat}
theorem S_take23 {g0 : am_G} (hl : (rdU c n).length ≤ 60) (hgo : ∀ q ∈ rdU c n, pLoop c (rdT c n) q = false) {W : Nat → Int32}
    (kk : ∀ g', fm [45] MJ g0 g' → RMX c n g' → (∀ m, m < 32 → g' 45 m = W m) → am_GQ (116, 125, [(0, .ref 32), (1, .int (Int32.ofNat 0))], [], g', t) Q) :
    ∀ (f i : Nat) (s : Nat → Int32) (g : am_G), i + f = (rdU c n).length → fm [45] MJ g0 g → RMX c n g → (∀ m, m < 32 → g 45 m = s m) → flS (tgR c (rdT c n)) (srR c (rdT c n)) ((rdU c n).drop i) s = W → am_GQ (116, 23, [(0, .ref 32), (1, .int (Int32.ofNat i))], [], g, t) Q
  | 0, i, s, g, he, hf, hX, hs, hW => by
    rw [List.drop_eq_nil_of_le (by omega), flS] at hW
    refine B_M_take_23 ?_
    rw [hX.2.1.1, nn_le (by omega) (by omega), nn_lt (by omega) (by omega)]
    exact ⟨fun _ => kk g hf hX (fun m hm => by rw [hs m hm, hW]), fun h => absurd h (by omega)⟩
  | f + 1, i, s, g, he, hf, hX, hs, hW => by
    obtain ⟨q, hq⟩ := get_u (U := rdU c n) (i := i) (by omega)
    have hin : am_in (Int32.ofNat i) 64 = true := nn_in (by omega) (by omega)
    have h0 := hgo q (List.mem_of_getElem? hq)
    unfold pLoop at h0
    rw [Bool.not_eq_false', Bool.and_eq_true] at h0
    rw [drop_u hq, flS] at hW
    refine B_M_take_23 ?_
    rw [hX.2.1.1, nn_le (by omega) (by omega), nn_lt (by omega) (by omega), nn_nat (by omega)]
    refine ⟨fun h => absurd h (by omega), fun _ => am_chk_i hin (am_chk_i hin (S_segT hX hq (fun g1 N1 f1 X1 N1X a1 a2 a3 => B_M_take_47 ?_)))⟩
    rw [nn_nat (by omega)]
    refine am_chk_i hin (am_chk_i hin (S_segS X1 hq (fun g2 N2 f2 X2 N2X b1 b2 b3 => B_M_take_71 ?_)))
    have ff : fm [45] MJ g0 g2 := fm_trans hf (fm_trans (fm_sub f1 (by decide) (by decide)) (fm_sub f2 (by decide) (by decide)))
    have etg : g1 32 31 = tgR c (rdT c n) q := by
      rw [a2]
      exact fF_ok X1 (tk_lt c _ _) h0.1 _
    have esr : g2 32 31 = srR c (rdT c n) q := by
      rw [b2]
      exact fF_ok X2 (tk_lt c _ _) h0.2 _
    have e45 : ∀ m, m < 32 → g2 45 m = s m := fun m hm => by
      rw [f2.1 45 (by decide) (by decide), f1.1 45 (by decide) (by decide)]
      exact hs m hm
    rw [etg]
    refine S_take75 (g0 := g2) (fun g3 f3 h3 => ?_) 32 0 g2 rfl (fun _ _ => rfl) (fun m hm => absurd hm (Nat.not_lt_zero _)) (fun _ _ => rfl)
    have hf3 : fm [45] [] g2 g3 := ⟨fun k _ h => f3 k (fun e => h (by rw [e]; decide)), fun i _ => by rw [f3 32 (by decide)]⟩
    rw [nn_add]
    refine S_take23 hl hgo kk f (i + 1) _ g3 (by omega) (fm_trans ff (fm_sub hf3 (by decide) (by decide))) (RMX_fm X2 hf3 (by decide) (by decide)) (fun m hm => ?_) hW
    rw [h3 m hm, esr, e45 m hm]
theorem S_M_take {g : am_G} (hX : RMX c n g) (hl : (rdU c n).length ≤ 60) (hgo : ∀ q ∈ rdU c n, pLoop c (rdT c n) q = false) (hpp : (ptl c (rdL c n)).length ≤ 30)
    (kk : ∀ g', fm [45, 46] [20, 30, 31, 32] g g' → RMX c n g' → (∀ m, m < 32 → g' 45 m = flS (tgR c (rdT c n)) (srR c (rdT c n)) (rdU c n) (fun _ => Int32.ofNat 0) m) → pN g' (ptl c (rdL c n)) → Q (.inl none, g', t)) :
    am_GQ (116, 0, [(0, .ref 32)], [], g, t) Q := by
  refine B_M_take_0 (S_take2 (g0 := g) (fun g1 f1 z1 => ?_) 32 0 g rfl (fun _ _ => rfl) (fun m hm => absurd hm (Nat.not_lt_zero _)))
  have hf1 : fm [45] [] g g1 := ⟨fun k _ h => f1 k (fun e => h (by rw [e]; decide)), fun i _ => by rw [f1 32 (by decide)]⟩
  refine S_take23 (g0 := g1) hl hgo (fun g2 hf2 X2 h2 => ?_) (rdU c n).length 0 (fun _ => Int32.ofNat 0) g1 (by omega) (fm_refl _ _ _) (RMX_fm hX hf1 (by decide) (by decide)) z1 rfl
  obtain ⟨p1, p2⟩ := X2.2.2.1
  refine S_take125 (g0 := g2) p1 (by omega) (fun g3 f3 h3 => ?_) (ptl c (rdL c n)).length 0 g2 (by omega) (fun _ _ => rfl) (fun m hm => absurd hm (Nat.not_lt_zero _))
  have hf3 : fm [46] [20] g2 (am_w g3 32 20 (Int32.ofNat (ptl c (rdL c n)).length)) := by
    refine fm_f ⟨fun k _ h => f3 k (fun e => h (by rw [e]; decide)), fun i _ => by rw [f3 32 (by decide)]⟩ (by decide)
  refine kk _ (fm_trans (fm_sub hf1 (by decide) (by decide)) (fm_trans (fm_sub hf2 (by decide) (by decide)) (fm_sub hf3 (by decide) (by decide)))) (RMX_fm X2 hf3 (by decide) (by decide)) (fun m hm => ?_) ⟨hpp, w_s, fun i a b hi => ?_⟩
  · rw [hf3.1 45 (by decide) (by decide)]
    exact h2 m hm
  · obtain ⟨y1, y2⟩ := p2 i a b hi
    obtain ⟨hlt, _⟩ := List.getElem?_eq_some_iff.mp hi
    rw [w_k (by decide), h3 i hlt]
    exact ⟨y1, y2⟩
theorem S_M_read {g : am_G} (hT : tM g n c)
    (k1 : rdF1 c n ≠ 0 → ∀ g', fm RK RJ g g' → g' 32 2 = Int32.ofNat 1 → g' 32 3 = Int32.ofNat (rdF1 c n) → Q (.inl (some (.int (Int32.ofNat 0))), g', t))
    (k2 : rdF1 c n = 0 → rdF2 c n ≠ 0 → ∀ g', fm RK RJ g g' → g' 32 2 = Int32.ofNat 2 → g' 32 3 = Int32.ofNat (rdF2 c n) → Q (.inl (some (.int (Int32.ofNat 0))), g', t))
    (k3 : rdF1 c n = 0 → rdF2 c n = 0 → rdF3 c n ≠ 0 → ∀ g', fm RK RJ g g' → g' 32 2 = Int32.ofNat 3 → g' 32 3 = Int32.ofNat (rdF3 c n) → Q (.inl (some (.int (Int32.ofNat 0))), g', t))
    (k4 : rdF1 c n = 0 → rdF2 c n = 0 → rdF3 c n = 0 → rdF4 c n ≠ 0 → ∀ g', fm RK RJ g g' → g' 32 2 = Int32.ofNat 3 → g' 32 3 = Int32.ofNat (rdF4 c n) → Q (.inl (some (.int (Int32.ofNat 0))), g', t))
    (k5 : rdF1 c n = 0 → rdF2 c n = 0 → rdF3 c n = 0 → rdF4 c n = 0 → ∀ g', fm [34, 35, 36, 37, 38, 39, 40, 41, 42, 43, 44, 45, 46] [2, 3, 14, 16, 18, 20, 30, 31, 32] g g' → g' 32 2 = Int32.ofNat 0 → g' 32 3 = Int32.ofNat 0 → (∀ m, m < 32 → g' 45 m = flS (tgR c (rdT c n)) (srR c (rdT c n)) (rdU c n) (fun _ => Int32.ofNat 0) m) → g' 32 18 = flW (tgR c (rdT c n)) (rdU c n) (Int32.ofNat 0) → pN g' (ptl c (rdL c n)) → Q (.inl (some (.int (Int32.ofNat (rdU c n).length))), g', t)) :
    am_GQ (106, 0, [(0, .ref 32)], [], g, t) Q := by
  have hn := hT.1
  have hf0 : fm [] [2] g (am_w g 32 2 (Int32.ofNat 0)) := fm_f (fm_refl _ _ _) (by decide)
  refine B_M_read_0 (S_M_lines (tM_fm hT hf0 (by decide) (by decide)) (fun g1 hf1 h1 => B_M_read_9 ?_))
  have f1 : fm RK RJ g g1 := fm_trans (fm_sub hf0 (by decide) (by decide)) (fm_sub hf1 (by decide) (by decide))
  have hlen : (rdL c n).length ≤ n + 0 - 0 := by
    have := ls_len c n 0 0 (Nat.le_refl _)
    unfold rdL
    omega
  have l1 : rdF1 c n ≤ 240 := by
    have := fb_le (rdL c n) 0 0
    unfold rdF1
    omega
  have e2 : g1 32 2 = Int32.ofNat 0 := by rw [hf1.2 2 (by decide), w_s]
  rw [nn_le (by omega) (by omega), nn_lt (by omega) (by omega)]
  refine ⟨fun h => ?_, fun h => B_M_fail_0 (B_M_read_20 (k1 (by omega) _ (fm_f (fm_f f1 (by decide)) (by decide)) ?_ w_s))⟩
  rotate_left
  · rw [w_i (by decide), w_s]
  have h0 : rdF1 c n = 0 := by omega
  obtain ⟨hl, x1, x2, x3, x4⟩ := h1 h0
  have hpp : (ptl c (rdL c n)).length ≤ 30 := by
    have := pat_room c n 0 0 0 0 (Nat.le_refl _) (fun z => by cases z) h0
    change 8 * (ptl c (rdL c n)).length + _ ≤ _ at this
    rw [if_neg (by decide)] at this
    omega
  have hT1 := tM_fm hT f1 (by decide) (by decide)
  refine S_M_macros hT1 x3 x4 (fun g2 hf2 y1 y2 y3 => B_M_read_25 ?_)
  have X2 : RMX c n g2 := ⟨tM_fm hT1 hf2 (by decide) (by decide), rM_fm x1 hf2 (by decide) (by decide), pM_fm x2 hf2 (by decide) (by decide), y1, y2, y3⟩
  have f2 : fm RK RJ g g2 := fm_trans f1 (fm_sub hf2 (by decide) (by decide))
  have e22 : g2 32 2 = Int32.ofNat 0 := by rw [hf2.2 2 (by decide)]; exact e2
  refine S_read27 (g0 := g2) (F := rdF2 c n) hl (fun hF2 g3 hf3 X3 => ?_) (fun hF2 g3 hf3 z2 z3 => k2 h0 hF2 g3 (fm_trans f2 (fm_sub hf3 (by decide) (by decide))) z2 z3) (rdU c n).length 0 g2 (by omega) (fm_refl _ _ _) X2 rfl
  have hgo : ∀ q ∈ rdU c n, pLoop c (rdT c n) q = false := fline_z _ (fun q hq => rdU_no hq) hF2
  refine S_read111 (g0 := g2) (F := rdF3 c n) hl hgo (fun hF3 g4 hf4 X4 => ?_) (fun hF3 g4 hf4 z2 z3 => k3 h0 hF2 hF3 g4 (fm_trans f2 (fm_sub hf4 (by decide) (by decide))) z2 z3) (rdU c n).length 0 g3 (by omega) hf3 X3 rfl
  refine S_read195 (g0 := g2) (F := rdF4 c n) (W := flW (tgR c (rdT c n)) (rdU c n) (Int32.ofNat 0)) hl hgo (fun hF4 g5 q3 hf5 X5 => ?_) (fun hF4 g5 hf5 z2 z3 => k4 h0 hF2 hF3 hF4 g5 (fm_trans f2 (fm_sub hf5 (by decide) (by decide))) z2 z3) (rdU c n).length 0 (Int32.ofNat 0) g4 (by omega) hf4 X4 rfl rfl
  refine S_M_take X5 hl hgo hpp (fun g6 hf6 X6 w1 w2 => B_M_read_271 ?_)
  rw [w_i (show (14 : Nat) ≠ 3 by decide), w_i (show (14 : Nat) ≠ 18 by decide), X6.2.1.1]
  refine k5 h0 hF2 hF3 hF4 _ (fm_f (fm_f (fm_trans (fm_sub f2 (by decide) (by decide)) (fm_trans (fm_sub hf5 (by decide) (by decide)) (fm_sub hf6 (by decide) (by decide)))) (by decide)) (by decide)) ?_ w_s (fun m hm => ?_) ?_ ⟨hpp, ?_, fun i a b hi => ?_⟩
  · rw [w_i (by decide), w_i (by decide), hf6.2 2 (by decide), hf5.2 2 (by decide), e22]
  · rw [w_k (by decide), w_k (by decide)]
    exact w1 m hm
  · rw [w_i (by decide), w_s]
  · rw [w_i (by decide), w_i (by decide)]
    exact w2.2.1
  · rw [w_k (by decide), w_k (by decide)]
    exact w2.2.2 i a b hi
end
