section
variable (n : Nat) (c : Nat → Nat) (fl W : Int32) (E : Nat → Int32) (P : List (Nat × Nat)) (St : Nat → Int32) (r : Nat) (ru ry : Nat → Int32) (g : am_G)
def Da : Prop := tX g n c ∧ g 8 8 = fl ∧ g 20 3 = W ∧ (∀ i, i < 32 → g 21 i = E i) ∧ pX g P ∧ (∀ i, i < 32 → g 25 i = St i) ∧ g 29 2 = Int32.ofNat r ∧ (∀ i, i < 32 → g 30 i = ru i) ∧ ∀ i, i < 32 → g 31 i = ry i
def Ma : Prop := tM g n c ∧ g 32 3 = fl ∧ g 32 18 = W ∧ (∀ i, i < 32 → g 45 i = E i) ∧ pN g P ∧ (∀ i, i < 32 → g 47 i = St i) ∧ g 32 28 = Int32.ofNat r ∧ (∀ i, i < 32 → g 51 i = ru i) ∧ ∀ i, i < 32 → g 52 i = ry i
end
def INV (g : am_G) : Prop := ∃ n c fl W E P St r ru ry, Da n c fl W E P St r ru ry g ∧ Ma n c fl W E P St r ru ry g ∧ okSt St ∧ r ≤ 32
def dF (g g1 : am_G) : Prop := (∀ k, 32 ≤ k → k ≠ 53 → g1 k = g k) ∧ g1 6 = g 6 ∧ g1 7 = g 7
def mF (g g1 : am_G) : Prop := ∀ k, k < 32 ∨ k = 53 → g1 k = g k
theorem Ma_up {n : Nat} {c : Nat → Nat} {fl W : Int32} {E : Nat → Int32} {P : List (Nat × Nat)} {St : Nat → Int32} {r : Nat} {ru ry : Nat → Int32} {g g1 : am_G} (h : Ma n c fl W E P St r ru ry g) (hf : dF g g1) : Ma n c fl W E P St r ru ry g1 := by
  obtain ⟨h1, h2, h3, h4, h5, h6, h7, h8, h9⟩ := h
  obtain ⟨a1, a2, a3, a4, a5⟩ := h1
  have e := hf.1
  refine ⟨⟨a1, ?_, fun i hi => ?_, a4, a5⟩, ?_, ?_, fun i hi => ?_, ⟨h5.1, ?_, fun i a b hi => ?_⟩, fun i hi => ?_, ?_, fun i hi => ?_, fun i hi => ?_⟩
  · rw [e 32 (by decide) (by decide)]; exact a2
  · rw [e 33 (by decide) (by decide)]; exact a3 i hi
  · rw [e 32 (by decide) (by decide)]; exact h2
  · rw [e 32 (by decide) (by decide)]; exact h3
  · rw [e 45 (by decide) (by decide)]; exact h4 i hi
  · rw [e 32 (by decide) (by decide)]; exact h5.2.1
  · rw [e 46 (by decide) (by decide)]; exact h5.2.2 i a b hi
  · rw [e 47 (by decide) (by decide)]; exact h6 i hi
  · rw [e 32 (by decide) (by decide)]; exact h7
  · rw [e 51 (by decide) (by decide)]; exact h8 i hi
  · rw [e 52 (by decide) (by decide)]; exact h9 i hi
theorem Da_dn {n : Nat} {c : Nat → Nat} {fl W : Int32} {E : Nat → Int32} {P : List (Nat × Nat)} {St : Nat → Int32} {r : Nat} {ru ry : Nat → Int32} {g g1 : am_G} (h : Da n c fl W E P St r ru ry g) (e : mF g g1) : Da n c fl W E P St r ru ry g1 := by
  obtain ⟨h1, h2, h3, h4, h5, h6, h7, h8, h9⟩ := h
  obtain ⟨a1, a2, a3, a4, a5⟩ := h1
  refine ⟨⟨a1, ?_, fun i hi => ?_, a4, a5⟩, ?_, ?_, fun i hi => ?_, ⟨h5.1, ?_, fun i a b hi => ?_⟩, fun i hi => ?_, ?_, fun i hi => ?_, fun i hi => ?_⟩
  · rw [e 9 (Or.inl (by decide))]; exact a2
  · rw [e 10 (Or.inl (by decide))]; exact a3 i hi
  · rw [e 8 (Or.inl (by decide))]; exact h2
  · rw [e 20 (Or.inl (by decide))]; exact h3
  · rw [e 21 (Or.inl (by decide))]; exact h4 i hi
  · rw [e 20 (Or.inl (by decide))]; exact h5.2.1
  · rw [e 22 (Or.inl (by decide)), e 23 (Or.inl (by decide))]; exact h5.2.2 i a b hi
  · rw [e 25 (Or.inl (by decide))]; exact h6 i hi
  · rw [e 29 (Or.inl (by decide))]; exact h7
  · rw [e 30 (Or.inl (by decide))]; exact h8 i hi
  · rw [e 31 (Or.inl (by decide))]; exact h9 i hi
theorem dF_refl (g : am_G) : dF g g := ⟨fun _ _ _ => rfl, rfl, rfl⟩
theorem dF_fr {ks : List Nat} {g g1 : am_G} (h : fr ks g g1) (hk : ∀ k ∈ ks, k < 32) (h6 : 6 ∉ ks) (h7 : 7 ∉ ks) : dF g g1 := ⟨fun k a _ => h k (fun z => by have := hk k z; omega), h 6 h6, h 7 h7⟩
theorem mF_fm {ks js : List Nat} {g g1 : am_G} (h : fm ks js g g1) (hk : ∀ k ∈ ks, 32 ≤ k ∧ k ≠ 53) : mF g g1 := by
  intro k hh
  refine h.1 k (by omega) (fun z => ?_)
  have := hk k z
  omega
theorem mF_2 {g : am_G} {v : Int32} : mF g (am_w g 32 2 v) := mF_fm (ks := []) (js := [2]) (fm_f (fm_refl _ _ _) (by decide)) (by decide)
theorem Ma_fm {ks js : List Nat} {n : Nat} {c : Nat → Nat} {fl W : Int32} {E : Nat → Int32} {P : List (Nat × Nat)} {St : Nat → Int32} {r : Nat} {ru ry : Nat → Int32} {g g1 : am_G} (h : Ma n c fl W E P St r ru ry g) (hf : fm ks js g g1) (hk : ∀ k ∈ [33, 45, 46, 47, 51, 52], k ∉ ks) (hj : ∀ j ∈ [1, 3, 18, 20, 28], j ∉ js) : Ma n c fl W E P St r ru ry g1 := by
  obtain ⟨h1, h2, h3, h4, h5, h6, h7, h8, h9⟩ := h
  refine ⟨tM_fm h1 hf (hk 33 (by decide)) (hj 1 (by decide)), ?_, ?_, fun i hi => ?_, pN_fm h5 hf (hk 46 (by decide)) (hj 20 (by decide)), fun i hi => ?_, ?_, fun i hi => ?_, fun i hi => ?_⟩
  · rw [hf.2 3 (hj 3 (by decide))]; exact h2
  · rw [hf.2 18 (hj 18 (by decide))]; exact h3
  · rw [hf.1 45 (by decide) (hk 45 (by decide))]; exact h4 i hi
  · rw [hf.1 47 (by decide) (hk 47 (by decide))]; exact h6 i hi
  · rw [hf.2 28 (hj 28 (by decide))]; exact h7
  · rw [hf.1 51 (by decide) (hk 51 (by decide))]; exact h8 i hi
  · rw [hf.1 52 (by decide) (hk 52 (by decide))]; exact h9 i hi
theorem Da_fr {ks : List Nat} {n : Nat} {c : Nat → Nat} {fl W : Int32} {E : Nat → Int32} {P : List (Nat × Nat)} {St : Nat → Int32} {r : Nat} {ru ry : Nat → Int32} {g g1 : am_G} (h : Da n c fl W E P St r ru ry g) (hf : fr ks g g1) (hk : ∀ k ∈ [8, 9, 10, 20, 21, 22, 23, 25, 29, 30, 31], k ∉ ks) : Da n c fl W E P St r ru ry g1 := by
  obtain ⟨h1, h2, h3, h4, h5, h6, h7, h8, h9⟩ := h
  refine ⟨tX_fr h1 hf (hk 9 (by decide)) (hk 10 (by decide)), ?_, ?_, fun i hi => ?_, pX_fr h5 hf (by rw [hf 20 (hk 20 (by decide))]) (hk 22 (by decide)) (hk 23 (by decide)), fun i hi => ?_, ?_, fun i hi => ?_, fun i hi => ?_⟩
  · rw [hf 8 (hk 8 (by decide))]; exact h2
  · rw [hf 20 (hk 20 (by decide))]; exact h3
  · rw [hf 21 (hk 21 (by decide))]; exact h4 i hi
  · rw [hf 25 (hk 25 (by decide))]; exact h6 i hi
  · rw [hf 29 (hk 29 (by decide))]; exact h7
  · rw [hf 30 (hk 30 (by decide))]; exact h8 i hi
  · rw [hf 31 (hk 31 (by decide))]; exact h9 i hi
theorem Ma_2 {n : Nat} {c : Nat → Nat} {fl W : Int32} {E : Nat → Int32} {P : List (Nat × Nat)} {St : Nat → Int32} {r : Nat} {ru ry : Nat → Int32} {g : am_G} {v : Int32} (h : Ma n c fl W E P St r ru ry g) : Ma n c fl W E P St r ru ry (am_w g 32 2 v) := Ma_fm (ks := []) (js := [2]) h (fm_f (fm_refl _ _ _) (by decide)) (by decide) (by decide)
def pair (d m : Nat) (La Lb : am_L) (g : am_G) : Prop := ∀ (t : Nat) (Q : am_R → Prop), (∀ v g1, dF g g1 → (∀ (t2 : Nat) (Q2 : am_R → Prop), (∀ g2, INV g2 → mF g1 g2 → Q2 (.inl (some (.int v)), g2, t2)) → am_GQ (m, 0, Lb, [], g1, t2) Q2) → Q (.inl (some (.int v)), g1, t)) → am_GQ (d, 0, La, [], g, t) Q
theorem W_write {g : am_G} {x : Int64} (h : INV g) : pair 20 119 [(0, .ref 8), (1, .long x)] [(0, .ref 32), (1, .long x)] g := by
  obtain ⟨n, c, fl, W, E, P, St, r, ru, ry, hD, hM, hS, hr⟩ := h
  intro t Q kk
  refine S_D_write hD.1 (fun hw => kk _ g (dF_refl g) (fun t2 Q2 k2 => S_M_write hM.1 (fun _ => k2 _ ⟨n, c, fl, W, E, P, St, r, ru, ry, Da_dn hD mF_2, Ma_2 hM, hS, hr⟩ mF_2) (fun a g2 hw2 => by rw [hw] at hw2; cases hw2))) (fun a g1 hw hf hT => ?_)
  have hd : dF g g1 := ⟨fun k a _ => hf.1 k (by omega) (by omega), hf.1 6 (by decide) (by decide), hf.1 7 (by decide) (by decide)⟩
  have hM1 := Ma_up hM hd
  refine kk _ g1 hd (fun t2 Q2 k2 => S_M_write hM1.1 (fun hw2 => by rw [hw] at hw2; cases hw2) (fun a2 g2 hw2 hf2 h20 hT2 => ?_))
  rw [hw] at hw2
  cases hw2
  have hm : mF g1 g2 := fun k hk => hf2.1 k (by omega) (by omega)
  obtain ⟨d1, d2, d3, d4, d5, d6, d7, d8, d9⟩ := hD
  obtain ⟨m1, m2, m3, m4, m5, m6, m7, m8, m9⟩ := hM1
  have hD1 : Da (n + a) (apc c n a x) fl W E P St r ru ry g1 := by
    refine ⟨hT, ?_, ?_, fun i hi => ?_, ⟨d5.1, ?_, fun i a b hi => ?_⟩, fun i hi => ?_, ?_, fun i hi => ?_, fun i hi => ?_⟩
    · rw [hf.1 8 (by decide) (by decide)]; exact d2
    · rw [hf.1 20 (by decide) (by decide)]; exact d3
    · rw [hf.1 21 (by decide) (by decide)]; exact d4 i hi
    · rw [hf.1 20 (by decide) (by decide)]; exact d5.2.1
    · rw [hf.1 22 (by decide) (by decide), hf.1 23 (by decide) (by decide)]; exact d5.2.2 i a b hi
    · rw [hf.1 25 (by decide) (by decide)]; exact d6 i hi
    · rw [hf.1 29 (by decide) (by decide)]; exact d7
    · rw [hf.1 30 (by decide) (by decide)]; exact d8 i hi
    · rw [hf.1 31 (by decide) (by decide)]; exact d9 i hi
  refine k2 g2 ⟨n + a, apc c n a x, fl, W, E, P, St, r, ru, ry, Da_dn hD1 hm, ⟨hT2, ?_, ?_, fun i hi => ?_, ⟨m5.1, ?_, fun i a b hi => ?_⟩, fun i hi => ?_, ?_, fun i hi => ?_, fun i hi => ?_⟩, hS, hr⟩ hm
  · rw [hf2.2 3 (by decide) (by decide)]; exact m2
  · rw [hf2.2 18 (by decide) (by decide)]; exact m3
  · rw [hf2.1 45 (by decide) (by decide)]; exact m4 i hi
  · rw [hf2.2 20 (by decide) (by decide)]; exact m5.2.1
  · rw [hf2.1 46 (by decide) (by decide)]; exact m5.2.2 i a b hi
  · rw [hf2.1 47 (by decide) (by decide)]; exact m6 i hi
  · rw [hf2.2 28 (by decide) (by decide)]; exact m7
  · rw [hf2.1 51 (by decide) (by decide)]; exact m8 i hi
  · rw [hf2.1 52 (by decide) (by decide)]; exact m9 i hi
theorem W_erase {g : am_G} (h : INV g) : pair 1 94 [(0, .ref 8)] [(0, .ref 32)] g := by
  obtain ⟨n, c, fl, W, E, P, St, r, ru, ry, hD, hM, hS, hr⟩ := h
  intro t Q kk
  have hf : fr [9] g (am_w g 9 1 (Int32.ofNat 0)) := fr_w (fr_refl _ _) (by decide)
  have hd := dF_fr hf (by decide) (by decide) (by decide)
  have hM1 := Ma_up hM hd
  refine S_D_erase ?_
  rw [hD.1.2.1]
  refine kk _ _ hd (fun t2 Q2 k2 => B_M_erase_0 ?_)
  rw [w_i (show (1 : Nat) ≠ 2 by decide), hM1.1.2.1]
  have hf2 : fm [] [1, 2] (am_w g 9 1 (Int32.ofNat 0)) (am_w (am_w (am_w g 9 1 (Int32.ofNat 0)) 32 2 (Int32.ofNat 0)) 32 1 (Int32.ofNat 0)) := fm_f (fm_f (fm_refl _ _ _) (by decide)) (by decide)
  have hm := mF_fm hf2 (by decide)
  obtain ⟨d1, d2, d3, d4, d5, d6, d7, d8, d9⟩ := hD
  obtain ⟨m1, m2, m3, m4, m5, m6, m7, m8, m9⟩ := hM1
  have hD1 : Da 0 (fun _ => 0) fl W E P St r ru ry (am_w g 9 1 (Int32.ofNat 0)) := by
    refine ⟨⟨by omega, w_s, fun i hi => absurd hi (Nat.not_lt_zero _), fun _ => (by decide : (0 : Nat) < 128), fun i _ => rfl⟩, ?_, ?_, fun i hi => ?_, ⟨d5.1, ?_, fun i a b hi => ?_⟩, fun i hi => ?_, ?_, fun i hi => ?_, fun i hi => ?_⟩
    · rw [hf 8 (by decide)]; exact d2
    · rw [hf 20 (by decide)]; exact d3
    · rw [hf 21 (by decide)]; exact d4 i hi
    · rw [hf 20 (by decide)]; exact d5.2.1
    · rw [hf 22 (by decide), hf 23 (by decide)]; exact d5.2.2 i a b hi
    · rw [hf 25 (by decide)]; exact d6 i hi
    · rw [hf 29 (by decide)]; exact d7
    · rw [hf 30 (by decide)]; exact d8 i hi
    · rw [hf 31 (by decide)]; exact d9 i hi
  refine k2 _ ⟨0, fun _ => 0, fl, W, E, P, St, r, ru, ry, Da_dn hD1 hm, ⟨⟨by omega, w_s, fun i hi => absurd hi (Nat.not_lt_zero _), fun _ => (by decide : (0 : Nat) < 128), fun i _ => rfl⟩, ?_, ?_, fun i hi => ?_, pN_fm m5 hf2 (by decide) (by decide), fun i hi => ?_, ?_, fun i hi => ?_, fun i hi => ?_⟩, hS, hr⟩ hm
  · rw [hf2.2 3 (by decide)]; exact m2
  · rw [hf2.2 18 (by decide)]; exact m3
  · rw [hf2.1 45 (by decide) (by decide)]; exact m4 i hi
  · rw [hf2.1 47 (by decide) (by decide)]; exact m6 i hi
  · rw [hf2.2 28 (by decide)]; exact m7
  · rw [hf2.1 51 (by decide) (by decide)]; exact m8 i hi
  · rw [hf2.1 52 (by decide) (by decide)]; exact m9 i hi
theorem inv_2 {n : Nat} {c : Nat → Nat} {fl W : Int32} {E : Nat → Int32} {P : List (Nat × Nat)} {St : Nat → Int32} {r : Nat} {ru ry : Nat → Int32} {g : am_G} {v : Int32} (hD : Da n c fl W E P St r ru ry g) (hM : Ma n c fl W E P St r ru ry g) (hS : okSt St) (hr : r ≤ 32) : INV (am_w g 32 2 v) := ⟨n, c, fl, W, E, P, St, r, ru, ry, Da_dn hD mF_2, Ma_2 hM, hS, hr⟩
theorem W_length {g : am_G} (h : INV g) : pair 9 101 [(0, .ref 8)] [(0, .ref 32)] g := by
  obtain ⟨n, c, fl, W, E, P, St, r, ru, ry, hD, hM, hS, hr⟩ := h
  intro t Q kk
  refine S_D_length ?_
  rw [hD.1.2.1]
  refine kk _ g (dF_refl g) (fun t2 Q2 k2 => B_M_length_0 ?_)
  rw [w_i (show (1 : Nat) ≠ 2 by decide), hM.1.2.1]
  exact k2 _ (inv_2 hD hM hS hr) mF_2
theorem W_fault {g : am_G} (h : INV g) : pair 2 96 [(0, .ref 8)] [(0, .ref 32)] g := by
  obtain ⟨n, c, fl, W, E, P, St, r, ru, ry, hD, hM, hS, hr⟩ := h
  intro t Q kk
  refine B_D_fault_0 ?_
  rw [hD.2.1]
  refine kk _ g (dF_refl g) (fun t2 Q2 k2 => B_M_fault_0 ?_)
  rw [w_i (show (3 : Nat) ≠ 2 by decide), hM.2.1]
  exact k2 _ (inv_2 hD hM hS hr) mF_2
theorem W_sources {g : am_G} {x : Int32} (h : INV g) : pair 17 112 [(0, .ref 8), (1, .int x)] [(0, .ref 32), (1, .int x)] g := by
  obtain ⟨n, c, fl, W, E, P, St, r, ru, ry, hD, hM, hS, hr⟩ := h
  intro t Q kk
  refine S_D_sources (fun i hi e => kk _ g (dF_refl g) (fun t2 Q2 k2 => S_M_sources (fun j hj e2 => ?_) (fun hn => absurd ⟨i, hi, e⟩ hn))) (fun hn => kk _ g (dF_refl g) (fun t2 Q2 k2 => S_M_sources (fun j hj e2 => absurd ⟨j, hj, e2⟩ hn) (fun _ => k2 _ (inv_2 hD hM hS hr) mF_2)))
  rw [e, nn_eq (by omega) (by omega)] at e2
  subst e2
  rw [hM.2.2.2.1 i hi, ← hD.2.2.2.1 i hi]
  exact k2 _ (inv_2 hD hM hS hr) mF_2
theorem W_recipe {g : am_G} {x : Int32} (h : INV g) : pair 14 109 [(0, .ref 8), (1, .int x)] [(0, .ref 32), (1, .int x)] g := by
  obtain ⟨n, c, fl, W, E, P, St, r, ru, ry, hD, hM, hS, hr⟩ := h
  intro t Q kk
  refine S_D_recipe (fun i hi e => kk _ g (dF_refl g) (fun t2 Q2 k2 => S_M_recipe (fun j hj e2 => ?_) (fun hn => absurd ⟨i, hi, e⟩ hn))) (fun hn => kk _ g (dF_refl g) (fun t2 Q2 k2 => S_M_recipe (fun j hj e2 => absurd ⟨j, hj, e2⟩ hn) (fun _ => k2 _ (inv_2 hD hM hS hr) mF_2)))
  rw [e, nn_eq (by omega) (by omega)] at e2
  subst e2
  rw [hM.2.2.1, ← hD.2.2.1]
  exact k2 _ (inv_2 hD hM hS hr) mF_2
theorem W_stampOf {g : am_G} {x : Int32} (h : INV g) : pair 19 115 [(0, .ref 8), (1, .int x)] [(0, .ref 32), (1, .int x)] g := by
  obtain ⟨n, c, fl, W, E, P, St, r, ru, ry, hD, hM, hS, hr⟩ := h
  intro t Q kk
  refine S_D_stampOf (fun i hi e => kk _ g (dF_refl g) (fun t2 Q2 k2 => S_M_stampOf (fun j hj e2 => ?_) (fun hn => absurd ⟨i, hi, e⟩ hn))) (fun hn => kk _ g (dF_refl g) (fun t2 Q2 k2 => S_M_stampOf (fun j hj e2 => absurd ⟨j, hj, e2⟩ hn) (fun _ => k2 _ (inv_2 hD hM hS hr) mF_2)))
  rw [e, nn_eq (by omega) (by omega)] at e2
  subst e2
  rw [hM.2.2.2.2.2.1 i hi, ← hD.2.2.2.2.2.1 i hi]
  exact k2 _ (inv_2 hD hM hS hr) mF_2
theorem W_reason {g : am_G} {x : Int32} (h : INV g) : pair 13 107 [(0, .ref 8), (1, .int x)] [(0, .ref 32), (1, .int x)] g := by
  obtain ⟨n, c, fl, W, E, P, St, r, ru, ry, hD, hM, hS, hr⟩ := h
  intro t Q kk
  refine S_D_reason (fun i hi e => kk _ g (dF_refl g) (fun t2 Q2 k2 => S_M_reason (fun j hj e2 => ?_) (fun hn => absurd ⟨i, hi, e⟩ hn))) (fun hn => kk _ g (dF_refl g) (fun t2 Q2 k2 => S_M_reason (fun j hj e2 => absurd ⟨j, hj, e2⟩ hn) (fun _ => k2 _ (inv_2 hD hM hS hr) mF_2)))
  rw [e, nn_eq (by omega) (by omega)] at e2
  subst e2
  rw [hM.2.2.2.2.2.2.2.2 i hi, ← hD.2.2.2.2.2.2.2.2 i hi]
  exact k2 _ (inv_2 hD hM hS hr) mF_2
theorem W_ran {g : am_G} {x : Int32} (h : INV g) : pair 11 105 [(0, .ref 8), (1, .int x)] [(0, .ref 32), (1, .int x)] g := by
  obtain ⟨n, c, fl, W, E, P, St, r, ru, ry, hD, hM, hS, hr⟩ := h
  intro t Q kk
  have hd := hD.2.2.2.2.2.2.1
  have hm := hM.2.2.2.2.2.2.1
  refine S_D_ran hd hr (fun i hi e => kk _ g (dF_refl g) (fun t2 Q2 k2 => S_M_ran hm hr (fun j hj e2 => ?_) (fun hn => absurd ⟨i, hi, e⟩ hn))) (fun hn => kk _ g (dF_refl g) (fun t2 Q2 k2 => S_M_ran hm hr (fun j hj e2 => absurd ⟨j, hj, e2⟩ hn) (fun _ => k2 _ (inv_2 hD hM hS hr) mF_2)))
  rw [e, nn_eq (by omega) (by omega)] at e2
  subst e2
  rw [hM.2.2.2.2.2.2.2.1 i (by omega), ← hD.2.2.2.2.2.2.2.1 i (by omega)]
  exact k2 _ (inv_2 hD hM hS hr) mF_2
theorem okS_no {x y : Int32} {n : Nat} (hn : n < 32) (e : x = Int32.ofNat n) (h1 : Int32.ofNat 0 ≤ y) (h2 : y ≤ Int32.ofNat 1000000000) : ¬ okS x y := by
  rintro (h | h | h)
  · exact h ⟨n, hn, e⟩
  · exact not_le_lt h1 h
  · exact not_le_lt h2 h
theorem W_stamp {g : am_G} {x y : Int32} (h : INV g) : pair 18 114 [(0, .ref 8), (1, .int x), (2, .int y)] [(0, .ref 32), (1, .int x), (2, .int y)] g := by
  obtain ⟨n, c, fl, W, E, P, St, r, ru, ry, hD, hM, hS, hr⟩ := h
  intro t Q kk
  refine S_D_stamp (fun i hi e y1 y2 => ?_) (fun hn => kk _ g (dF_refl g) (fun t2 Q2 k2 => S_M_stamp (fun j hj e2 y1 y2 => absurd hn (okS_no hj e2 y1 y2)) (fun _ => k2 _ (inv_2 hD hM hS hr) mF_2)))
  have hf : fr [25] g (am_w g 25 i y) := fr_w (fr_refl _ _) (by decide)
  have hd := dF_fr hf (by decide) (by decide) (by decide)
  have hM1 := Ma_up hM hd
  refine kk _ _ hd (fun t2 Q2 k2 => S_M_stamp (fun j hj e2 z1 z2 => ?_) (fun hn => absurd hn (okS_no hi e y1 y2)))
  rw [e, nn_eq (by omega) (by omega)] at e2
  subst e2
  have hf2 : fm [47] [2] (am_w g 25 i y) (am_w (am_w (am_w g 25 i y) 32 2 (Int32.ofNat 0)) 47 i y) := fm_w (fm_f (fm_refl _ _ _) (by decide)) (by decide) (by decide)
  have hm := mF_fm hf2 (by decide)
  obtain ⟨d1, d2, d3, d4, d5, d6, d7, d8, d9⟩ := hD
  obtain ⟨m1, m2, m3, m4, m5, m6, m7, m8, m9⟩ := hM1
  have hD1 : Da n c fl W E P (fun k => if k = i then y else St k) r ru ry (am_w g 25 i y) := by
    refine ⟨tX_fr d1 hf (by decide) (by decide), ?_, ?_, fun k hk => ?_, pX_fr d5 hf (by rw [hf 20 (by decide)]) (by decide) (by decide), fun k hk => ?_, ?_, fun k hk => ?_, fun k hk => ?_⟩
    · rw [hf 8 (by decide)]; exact d2
    · rw [hf 20 (by decide)]; exact d3
    · rw [hf 21 (by decide)]; exact d4 k hk
    · dsimp only
      by_cases ek : k = i
      · rw [if_pos ek, ek, w_s]
      · rw [if_neg ek, w_i ek]; exact d6 k hk
    · rw [hf 29 (by decide)]; exact d7
    · rw [hf 30 (by decide)]; exact d8 k hk
    · rw [hf 31 (by decide)]; exact d9 k hk
  have hok : okSt (fun k => if k = i then y else St k) := by
    intro k hk
    dsimp only
    by_cases ek : k = i
    · rw [if_pos ek]
      rw [Int32.le_iff_toInt_le, nn_toInt (by omega)] at y1 y2
      refine ⟨y.toInt.toNat, by omega, Int32.toInt_inj.mp ?_⟩
      rw [nn_toInt (by omega)]
      omega
    · rw [if_neg ek]
      exact hS k hk
  refine k2 _ ⟨n, c, fl, W, E, P, _, r, ru, ry, Da_dn hD1 hm, ⟨tM_fm m1 hf2 (by decide) (by decide), ?_, ?_, fun k hk => ?_, pN_fm m5 hf2 (by decide) (by decide), fun k hk => ?_, ?_, fun k hk => ?_, fun k hk => ?_⟩, hok, hr⟩ hm
  · rw [hf2.2 3 (by decide)]; exact m2
  · rw [hf2.2 18 (by decide)]; exact m3
  · rw [hf2.1 45 (by decide) (by decide)]; exact m4 k hk
  · dsimp only
    by_cases ek : k = i
    · rw [if_pos ek, ek, w_s]
    · rw [if_neg ek, w_i ek, w_k (show (47 : Nat) ≠ 32 by decide)]; exact m6 k hk
  · rw [hf2.2 28 (by decide)]; exact m7
  · rw [hf2.1 51 (by decide) (by decide)]; exact m8 k hk
  · rw [hf2.1 52 (by decide) (by decide)]; exact m9 k hk
