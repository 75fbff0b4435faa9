theorem ti32 (x : Int32) : Int64.toInt32 (Int32.toInt64 x) = x := by
  first
  | exact Int32.toInt32_toInt64 x
  | simp
def pairR (d m : Nat) (La Lb : am_L) (g : am_G) : Prop := ∀ (t : Nat) (Q : am_R → Prop), (∀ (k : Nat) (v : Int32) (g1 : am_G), k < 5 → dF g g1 → (k = 0 → g1 53 0 = v) → (∀ (t2 : Nat) (Q2 : am_R → Prop), (∀ (w : Int32) (g2 : am_G), INV g2 → mF g1 g2 → g2 32 2 = Int32.ofNat k → (k = 0 → w = v) → Q2 (.inl (some (.int w)), g2, t2)) → am_GQ (m, 0, Lb, [], g1, t2) Q2) → Q (.inl (some (.int (Int32.ofNat k))), g1, t + 1)) → am_GQ (d, 0, La, [], g, t) Q
section
variable {n : Nat} {c : Nat → Nat} {fl W : Int32} {E : Nat → Int32} {P : List (Nat × Nat)} {St : Nat → Int32} {r : Nat} {ru ry : Nat → Int32} {g g1 g2 : am_G}
theorem inv_fail {v : Int32} (hD : Da n c fl W E P St r ru ry g) (hM : Ma n c fl W E P St r ru ry g) (hS : okSt St) (hr : r ≤ 32) (hf : fr [8, 11, 12, 13, 14, 15, 16, 17, 18] g g1) (h8 : g1 8 8 = v) (hf2 : fm RK RJ g1 g2) (h3 : g2 32 3 = v) : INV g2 := by
  have hd := dF_fr hf (by decide) (by decide) (by decide)
  have hm : mF g1 g2 := mF_fm hf2 (by decide)
  obtain ⟨d1, d2, d3, d4, d5, d6, d7, d8, d9⟩ := hD
  obtain ⟨m1, m2, m3, m4, m5, m6, m7, m8, m9⟩ := Ma_up hM hd
  have hD1 : Da n c v W E P St r ru ry g1 := by
    refine ⟨tX_fr d1 hf (by decide) (by decide), h8, ?_, fun i hi => ?_, pX_fr d5 hf (by rw [hf 20 (by decide)]) (by decide) (by decide), fun i hi => ?_, ?_, fun i hi => ?_, fun i hi => ?_⟩
    · rw [hf 20 (by decide)]; exact d3
    · rw [hf 21 (by decide)]; exact d4 i hi
    · rw [hf 25 (by decide)]; exact d6 i hi
    · rw [hf 29 (by decide)]; exact d7
    · rw [hf 30 (by decide)]; exact d8 i hi
    · rw [hf 31 (by decide)]; exact d9 i hi
  refine ⟨n, c, v, W, E, P, St, r, ru, ry, Da_dn hD1 hm, ⟨tM_fm m1 hf2 (by decide) (by decide), h3, ?_, fun i hi => ?_, pN_fm m5 hf2 (by decide) (by decide), fun i hi => ?_, ?_, fun i hi => ?_, fun i hi => ?_⟩, hS, hr⟩
  · rw [hf2.2 18 (by decide)]; exact m3
  · rw [hf2.1 45 (by decide) (by decide)]; exact m4 i hi
  · rw [hf2.1 47 (by decide) (by decide)]; exact m6 i hi
  · rw [hf2.2 28 (by decide)]; exact m7
  · rw [hf2.1 51 (by decide) (by decide)]; exact m8 i hi
  · rw [hf2.1 52 (by decide) (by decide)]; exact m9 i hi
theorem inv_read {W2 : Int32} {E2 : Nat → Int32} {P2 : List (Nat × Nat)} (hD : Da n c fl W E P St r ru ry g) (hM : Ma n c fl W E P St r ru ry g) (hS : okSt St) (hr : r ≤ 32) (hf : fr [8, 11, 12, 13, 14, 15, 16, 17, 18, 20, 21, 22, 23, 53] g g1) (h8 : g1 8 8 = Int32.ofNat 0) (hE : ∀ i, i < 32 → g1 21 i = E2 i) (hW : g1 20 3 = W2) (hP : pX g1 P2)
    (hf2 : fm [34, 35, 36, 37, 38, 39, 40, 41, 42, 43, 44, 45, 46] [2, 3, 14, 16, 18, 20, 30, 31, 32] g1 g2) (h3 : g2 32 3 = Int32.ofNat 0) (hE2 : ∀ i, i < 32 → g2 45 i = E2 i) (hW2 : g2 32 18 = W2) (hP2 : pN g2 P2) : INV g2 := by
  have hd : dF g g1 := ⟨fun k a b => hf k (fun z => by
    have : ∀ q ∈ [8, 11, 12, 13, 14, 15, 16, 17, 18, 20, 21, 22, 23, 53], q < 32 ∨ q = 53 := by decide
    have := this k z
    omega), hf 6 (by decide), hf 7 (by decide)⟩
  have hm : mF g1 g2 := mF_fm hf2 (by decide)
  obtain ⟨d1, d2, d3, d4, d5, d6, d7, d8, d9⟩ := hD
  obtain ⟨m1, m2, m3, m4, m5, m6, m7, m8, m9⟩ := Ma_up hM hd
  have hD1 : Da n c (Int32.ofNat 0) W2 E2 P2 St r ru ry g1 := by
    refine ⟨tX_fr d1 hf (by decide) (by decide), h8, hW, hE, hP, fun i hi => ?_, ?_, fun i hi => ?_, fun i hi => ?_⟩
    · rw [hf 25 (by decide)]; exact d6 i hi
    · rw [hf 29 (by decide)]; exact d7
    · rw [hf 30 (by decide)]; exact d8 i hi
    · rw [hf 31 (by decide)]; exact d9 i hi
  refine ⟨n, c, Int32.ofNat 0, W2, E2, P2, St, r, ru, ry, Da_dn hD1 hm, ⟨tM_fm m1 hf2 (by decide) (by decide), h3, hW2, hE2, hP2, fun i hi => ?_, ?_, fun i hi => ?_, fun i hi => ?_⟩, hS, hr⟩
  · rw [hf2.1 47 (by decide) (by decide)]; exact m6 i hi
  · rw [hf2.2 28 (by decide)]; exact m7
  · rw [hf2.1 51 (by decide) (by decide)]; exact m8 i hi
  · rw [hf2.1 52 (by decide) (by decide)]; exact m9 i hi
end
theorem W_read {g : am_G} (h : INV g) : pairR 91 106 [(0, .ref 8), (1, .ref 53)] [(0, .ref 32)] g := by
  obtain ⟨n, c, fl, W, E, P, St, r, ru, ry, hD, hM, hS, hr⟩ := h
  intro t Q kk
  have fl0 : ∀ (k : Nat) (v : Int32) (g1 : am_G), k ≠ 0 → k < 5 → fr [8, 11, 12, 13, 14, 15, 16, 17, 18] g g1 → g1 8 8 = v → (∀ (t2 : Nat) (Q2 : am_R → Prop), (∀ g2, fm RK RJ g1 g2 → g2 32 2 = Int32.ofNat k → g2 32 3 = v → Q2 (.inl (some (.int (Int32.ofNat 0))), g2, t2)) → am_GQ (106, 0, [(0, .ref 32)], [], g1, t2) Q2) → Q (.inl (some (.int (Int32.ofNat k))), g1, t + 1) := by
    intro k v g1 k0 k5 hf h8 hm
    refine kk k (Int32.ofNat 0) g1 k5 (dF_fr hf (by decide) (by decide) (by decide)) (fun z => absurd z k0) (fun t2 Q2 k2 => hm t2 Q2 (fun g2 hf2 e2 e3 => ?_))
    exact k2 _ g2 (inv_fail hD hM hS hr hf h8 hf2 e3) (mF_fm hf2 (by decide)) e2 (fun z => absurd z k0)
  have tM1 : ∀ {g1 : am_G}, fr [8, 11, 12, 13, 14, 15, 16, 17, 18] g g1 → tM g1 n c := fun hf => (Ma_up hM (dF_fr hf (by decide) (by decide) (by decide))).1
  refine B_L_read_0 (S_D_read hD.1 (fun f1 g1 h8 hf => B_L_read_12 (fl0 1 _ g1 (by omega) (by omega) hf h8 (fun t2 Q2 k2 => S_M_read (tM1 hf) (fun _ g2 a b d => k2 g2 a b d) (fun z => absurd z f1) (fun z => absurd z f1) (fun z => absurd z f1) (fun z => absurd z f1))))
    (fun f1 f2 g1 h8 hf => B_L_read_15 (fl0 2 _ g1 (by omega) (by omega) hf h8 (fun t2 Q2 k2 => S_M_read (tM1 hf) (fun z => absurd f1 z) (fun _ _ g2 a b d => k2 g2 a b d) (fun _ z => absurd z f2) (fun _ z => absurd z f2) (fun _ z => absurd z f2))))
    (fun f1 f2 f3 g1 h8 hf => B_L_read_18 (fl0 3 _ g1 (by omega) (by omega) hf h8 (fun t2 Q2 k2 => S_M_read (tM1 hf) (fun z => absurd f1 z) (fun _ z => absurd f2 z) (fun _ _ _ g2 a b d => k2 g2 a b d) (fun _ _ z => absurd z f3) (fun _ _ z => absurd z f3))))
    (fun f1 f2 f3 f4 g1 h8 hf => B_L_read_18 (fl0 3 _ g1 (by omega) (by omega) hf h8 (fun t2 Q2 k2 => S_M_read (tM1 hf) (fun z => absurd f1 z) (fun _ z => absurd f2 z) (fun _ _ z => absurd f3 z) (fun _ _ _ _ g2 a b d => k2 g2 a b d) (fun _ _ _ z => absurd z f4))))
    (fun f1 f2 f3 f4 g1 h8 hE hW hP hf => B_L_read_6 ?_))
  refine am_chk_i (by rw [ti32, nn_in (by omega) (by omega), decide_eq_true (Eq.refl (Int32.toInt64 (Int32.ofNat (rdU c n).length)))]; rfl) ?_
  rw [ti32, nn_nat (by omega)]
  have hf1 : fr [8, 11, 12, 13, 14, 15, 16, 17, 18, 20, 21, 22, 23, 53] g (am_w g1 53 0 (Int32.ofNat (rdU c n).length)) := fr_w (fr_sub hf (by decide)) (by decide)
  have hd : dF g (am_w g1 53 0 (Int32.ofNat (rdU c n).length)) := ⟨fun k a b => hf1 k (fun z => by
    have : ∀ q ∈ [8, 11, 12, 13, 14, 15, 16, 17, 18, 20, 21, 22, 23, 53], q < 32 ∨ q = 53 := by decide
    have := this k z
    omega), hf1 6 (by decide), hf1 7 (by decide)⟩
  refine kk 0 (Int32.ofNat (rdU c n).length) _ (by omega) hd (fun _ => w_s) (fun t2 Q2 k2 => S_M_read (Ma_up hM hd).1 (fun z => absurd f1 z) (fun _ z => absurd f2 z) (fun _ _ z => absurd f3 z) (fun _ _ _ z => absurd f4 z) (fun _ _ _ _ g2 a b d e w p => ?_))
  refine k2 _ g2 (inv_read hD hM hS hr hf1 ?_ (fun i hi => ?_) ?_ ?_ a d e w p) (mF_fm a (by decide)) b (fun _ => rfl)
  · rw [w_k (by decide)]; exact h8
  · rw [w_k (by decide)]; exact hE i hi
  · rw [w_k (by decide)]; exact hW
  · have hs : fr [53] g1 (am_w g1 53 0 (Int32.ofNat (rdU c n).length)) := fr_w (fr_refl _ _) (by decide)
    exact pX_fr hP hs (by rw [hs 20 (by decide)]) (by decide) (by decide)
theorem W_make {g : am_G} {x : Int32} (h : INV g) : pairR 90 104 [(0, .ref 8), (1, .int x), (2, .ref 53)] [(0, .ref 32), (1, .int x)] g := by
  obtain ⟨n, c, fl, W, E, P, St, r, ru, ry, hD, hM, hS, hr⟩ := h
  intro t Q kk
  obtain ⟨d1, d2, d3, d4, d5, d6, d7, d8, d9⟩ := hD
  have hD : Da n c fl W E P St r ru ry g := ⟨d1, d2, d3, d4, d5, d6, d7, d8, d9⟩
  have fl0 : ∀ (k : Nat) (g1 : am_G), k ≠ 0 → k < 5 → fr [26, 27, 28] g g1 → (∀ (t2 : Nat) (Q2 : am_R → Prop), Ma n c fl W E P St r ru ry g1 → (∀ g2, fm [48, 49, 50] [2, 22, 23] g1 g2 → g2 32 2 = Int32.ofNat k → Q2 (.inl (some (.int (Int32.ofNat 0))), g2, t2)) → am_GQ (104, 0, [(0, .ref 32), (1, .int x)], [], g1, t2) Q2) → Q (.inl (some (.int (Int32.ofNat k))), g1, t + 1) := by
    intro k g1 k0 k5 hf hm
    have hd := dF_fr hf (by decide) (by decide) (by decide)
    have hM1 := Ma_up hM hd
    refine kk k (Int32.ofNat 0) g1 k5 hd (fun z => absurd z k0) (fun t2 Q2 k2 => hm t2 Q2 hM1 (fun g2 hf2 e2 => ?_))
    have hmf : mF g1 g2 := mF_fm hf2 (by decide)
    exact k2 _ g2 ⟨n, c, fl, W, E, P, St, r, ru, ry, Da_dn (Da_fr hD hf (by decide)) hmf, Ma_fm hM1 hf2 (by decide) (by decide), hS, hr⟩ hmf e2 (fun z => absurd z k0)
  have same : ∀ {i j : Nat}, i < 32 → j < 32 → x = Int32.ofNat i → x = Int32.ofNat j → i = j := by
    intro i j hi hj e1 e2
    rw [e1, nn_eq (by omega) (by omega)] at e2
    exact e2
  refine B_L_make_0 (S_D_make (ru := ru) d5 d3 d4 d6 d8
    (fun hn => B_L_make_13 (fl0 1 g (by omega) (by omega) (fr_refl _ _) (fun t2 Q2 hM1 k2 => S_M_make (x := x) (ru := ru) hM1.2.2.2.2.1 hM1.2.2.1 hM1.2.2.2.1 hM1.2.2.2.2.2.1 hM1.2.2.2.2.2.2.2.1 hS (fun _ g2 a b => k2 g2 a b) (fun i hi e => absurd ⟨i, hi, e⟩ hn) (fun i hi e => absurd ⟨i, hi, e⟩ hn) (fun i hi e => absurd ⟨i, hi, e⟩ hn) (fun i hi e => absurd ⟨i, hi, e⟩ hn))))
    (fun i hi e l1 g1 hf => B_L_make_16 (fl0 2 g1 (by omega) (by omega) hf (fun t2 Q2 hM1 k2 => S_M_make (x := x) (ru := ru) hM1.2.2.2.2.1 hM1.2.2.1 hM1.2.2.2.1 hM1.2.2.2.2.2.1 hM1.2.2.2.2.2.2.2.1 hS (fun hn => absurd ⟨i, hi, e⟩ hn) (fun j hj e2 _ g2 a b => k2 g2 a b) (fun j hj e2 z => by cases same hi hj e e2; rw [l1] at z; cases z) (fun j hj e2 z => by cases same hi hj e e2; rw [l1] at z; cases z) (fun j hj e2 z => by cases same hi hj e e2; rw [l1] at z; cases z))))
    (fun i hi e l1 l2 g1 hf => B_L_make_19 (fl0 3 g1 (by omega) (by omega) hf (fun t2 Q2 hM1 k2 => S_M_make (x := x) (ru := ru) hM1.2.2.2.2.1 hM1.2.2.1 hM1.2.2.2.1 hM1.2.2.2.2.2.1 hM1.2.2.2.2.2.2.2.1 hS (fun hn => absurd ⟨i, hi, e⟩ hn) (fun j hj e2 z => by cases same hi hj e e2; rw [l1] at z; cases z) (fun j hj e2 _ _ g2 a b => k2 g2 a b) (fun j hj e2 _ z => by cases same hi hj e e2; rw [l2] at z; cases z) (fun j hj e2 _ z => by cases same hi hj e e2; rw [l2] at z; cases z))))
    (fun i hi e l1 l2 l3 g1 hf => B_L_make_22 (fl0 4 g1 (by omega) (by omega) hf (fun t2 Q2 hM1 k2 => S_M_make (x := x) (ru := ru) hM1.2.2.2.2.1 hM1.2.2.1 hM1.2.2.2.1 hM1.2.2.2.2.2.1 hM1.2.2.2.2.2.2.2.1 hS (fun hn => absurd ⟨i, hi, e⟩ hn) (fun j hj e2 z => by cases same hi hj e e2; rw [l1] at z; cases z) (fun j hj e2 _ z => by cases same hi hj e e2; rw [l2] at z; cases z) (fun j hj e2 _ _ _ g2 a b => k2 g2 a b) (fun j hj e2 _ _ z => by cases same hi hj e e2; exact absurd l3 z))))
    (fun i hi e l1 l2 l3 g1 hf y1 y2 y3 y4 => B_L_make_7 ?_))
  refine am_chk_i (by rw [ti32, nn_in (by omega) (by omega), decide_eq_true (Eq.refl (Int32.toInt64 (Int32.ofNat (zC P W E St i))))]; rfl) ?_
  rw [ti32, nn_nat (by omega)]
  generalize hC : zC P W E St i = cN at *
  have hf1 : fr [25, 26, 27, 28, 29, 30, 31, 53] g (am_w g1 53 0 (Int32.ofNat cN)) := fr_w (fr_sub hf (by decide)) (by decide)
  have hd : dF g (am_w g1 53 0 (Int32.ofNat cN)) := ⟨fun k a b => hf1 k (fun z => by
    have : ∀ q ∈ [25, 26, 27, 28, 29, 30, 31, 53], q < 32 ∨ q = 53 := by decide
    have := this k z
    omega), hf1 6 (by decide), hf1 7 (by decide)⟩
  have hM1 := Ma_up hM hd
  refine kk 0 (Int32.ofNat cN) _ (by omega) hd (fun _ => w_s) (fun t2 Q2 k2 => S_M_make (x := x) (ru := ru) hM1.2.2.2.2.1 hM1.2.2.1 hM1.2.2.2.1 hM1.2.2.2.2.2.1 hM1.2.2.2.2.2.2.2.1 hS (fun hn => absurd ⟨i, hi, e⟩ hn) (fun j hj e2 z => by cases same hi hj e e2; rw [l1] at z; cases z) (fun j hj e2 _ z => by cases same hi hj e e2; rw [l2] at z; cases z) (fun j hj e2 _ _ z => by cases same hi hj e e2; exact absurd z l3) (fun j hj e2 _ _ _ g2 a b z1 z2 z3 z4 => ?_))
  cases same hi hj e e2
  rw [hC] at z3 ⊢
  have hmf : mF (am_w g1 53 0 (Int32.ofNat cN)) g2 := mF_fm a (by decide)
  obtain ⟨m1, m2, m3, m4, m5, m6, m7, m8, m9⟩ := hM1
  have hcn : cN ≤ 32 := by
    rw [← hC]
    exact cnt_le _ 32
  obtain ⟨v, hv, eG⟩ := mxS_ok hS 32 0 (Int32.ofNat 0) (by omega) ⟨0, by omega, rfl⟩
  have eG2 : zG St = Int32.ofNat v := eG
  have hok : okSt (zR P W E St i ru).1 := by
    unfold zR
    rw [eG2, hC]
    refine runF_okS _ _ 0 (St, ru) hS ?_
    unfold zL3 at l3
    rw [eG2, hC, nn_add, nn_lt (by omega) (by omega)] at l3
    omega
  have hs : fr [53] g1 (am_w g1 53 0 (Int32.ofNat cN)) := fr_w (fr_refl _ _) (by decide)
  have hD1 : Da n c fl W E P (zR P W E St i ru).1 cN (zR P W E St i ru).2 (zY P W E St i) (am_w g1 53 0 (Int32.ofNat cN)) := by
    refine ⟨tX_fr d1 hf1 (by decide) (by decide), ?_, ?_, fun k hk => ?_, pX_fr d5 hf1 (by rw [hf1 20 (by decide)]) (by decide) (by decide), fun k hk => ?_, ?_, fun k hk => ?_, fun k hk => ?_⟩
    · rw [hf1 8 (by decide)]; exact d2
    · rw [hf1 20 (by decide)]; exact d3
    · rw [hf1 21 (by decide)]; exact d4 k hk
    · rw [hs 25 (by decide)]; exact y2 k hk
    · rw [hs 29 (by decide)]; exact y3
    · rw [hs 30 (by decide)]; exact y4 k hk
    · rw [hs 31 (by decide)]; exact y1 k hk
  refine k2 _ g2 ⟨n, c, fl, W, E, P, _, cN, _, _, Da_dn hD1 hmf, ⟨tM_fm m1 a (by decide) (by decide), ?_, ?_, fun k hk => ?_, pN_fm m5 a (by decide) (by decide), z2, z3, z4, z1⟩, hok, hcn⟩ hmf b (fun _ => rfl)
  · rw [a.2 3 (by decide)]; exact m2
  · rw [a.2 18 (by decide)]; exact m3
  · rw [a.1 45 (by decide) (by decide)]; exact m4 k hk
