theorem lg_self (x : Int64) : lg_cmp x x = Int32.ofNat 0 := by
  unfold lg_cmp
  exact (if_neg (by rw [gt_iff_lt, Int64.lt_iff_toInt_lt]; omega)).trans (if_pos rfl)
theorem ts_cases {M : Nat → Prop} {o : Nat} (ho : o < 16) (h0 : M 100) (h1 : M 157) (h2 : M 170) (h3 : M 183) (h4 : M 227) (h5 : M 240) (h6 : M 265) (h7 : M 290) (h8 : M 327) (h9 : M 352) (h10 : M 408) (h11 : M 433) (hd : M 458) : M (am_ts 39 419 0 11 #[61, 118, 131, 144, 188, 201, 226, 251, 288, 313, 369, 394] (Int32.ofNat o)) := by
  have e : ∀ o, o < 16 → am_ts 39 419 0 11 #[61, 118, 131, 144, 188, 201, 226, 251, 288, 313, 369, 394] (Int32.ofNat o) = (if o = 0 then 100 else if o = 1 then 157 else if o = 2 then 170 else if o = 3 then 183 else if o = 4 then 227 else if o = 5 then 240 else if o = 6 then 265 else if o = 7 then 290 else if o = 8 then 327 else if o = 9 then 352 else if o = 10 then 408 else if o = 11 then 433 else 458) := by decide +kernel
  rw [e o ho]
  repeat' split
  all_goals assumption
theorem and15 (y : Int32) : ∃ o, o < 16 ∧ y &&& Int32.ofNat 15 = Int32.ofNat o := by
  have h : (y &&& Int32.ofNat 15).toBitVec.toNat ≤ 15 := by
    rw [Int32.toBitVec_and, BitVec.toNat_and]
    exact Nat.le_trans Nat.and_le_right (by decide +kernel)
  exact ⟨_, by omega, bv_of (by omega)⟩
theorem S_law {L : Nat} (hL : L ≤ 1536) {Q : am_R → Prop} (kk : ∀ g t, t ≤ 512 → Q (.inl (some (.int (Int32.ofNat 1))), g, t)) :
    ∀ (f i t : Nat) (g : am_G), L ≤ i + 3 * f → i ≤ 1536 → 3 * t ≤ i → INV g → g 7 0 = Int32.ofNat L → am_GQ (0, 23, [(0, .ref 6), (1, .ref 8), (2, .ref 32), (3, .ref 53), (4, .int (Int32.ofNat i))], [], g, t) Q := by
  have fin : ∀ (i t : Nat) (g : am_G), ¬ i + 3 ≤ L → i ≤ 1536 → 3 * t ≤ i → g 7 0 = Int32.ofNat L → am_GQ (0, 23, [(0, .ref 6), (1, .ref 8), (2, .ref 32), (3, .ref 53), (4, .int (Int32.ofNat i))], [], g, t) Q := by
    intro i t g hi h16 ht h7
    refine B_L_law_23 ?_
    rw [h7]
    refine ⟨fun _ => am_chk_i rfl (kk g t (by omega)), fun h => ?_⟩
    exfalso
    by_cases h3 : 3 ≤ L
    · rw [nn_sub h3, nn_le (by omega) (by omega)] at h
      omega
    · rw [Int32.le_iff_toInt_le, nn_toInt (by omega)] at h
      have e : (Int32.ofNat L - Int32.ofNat 3).toInt < 0 := by
        rcases (show L = 0 ∨ L = 1 ∨ L = 2 by omega) with z | z | z <;> subst z <;> decide
      omega
  intro f
  induction f with
  | zero =>
    intro i t g h1 h2 h3 hI h7
    exact fin i t g (by omega) h2 h3 h7
  | succ f ih =>
    intro i t g h1 h2 h3 hI h7
    by_cases hi : i + 3 ≤ L
    rotate_left
    · exact fin i t g hi h2 h3 h7
    have nx : ∀ (g2 : am_G) (t2 : Nat), INV g2 → g2 7 0 = Int32.ofNat L → 3 * t2 ≤ i + 3 → am_GQ (0, 458, [(0, .ref 6), (1, .ref 8), (2, .ref 32), (3, .ref 53), (4, .int (Int32.ofNat i))], [], g2, t2) Q := by
      intro g2 t2 a b d
      refine B_L_law_458 ?_
      rw [nn_add]
      exact ih (i + 3) t2 g2 (by omega) (by omega) d a b
    have c1 : am_in (Int32.ofNat i + Int32.ofNat 1) (Int32.toNatClampNeg (g 7 0)) = true := by
      rw [h7, nn_nat (by omega), nn_add]
      exact nn_in (by omega) (by omega)
    have c2 : am_in (Int32.ofNat i + Int32.ofNat 2) (Int32.toNatClampNeg (g 7 0)) = true := by
      rw [h7, nn_nat (by omega), nn_add]
      exact nn_in (by omega) (by omega)
    have e7 : ∀ {g1 g2 : am_G}, dF g g1 → mF g1 g2 → g2 7 0 = Int32.ofNat L := by
      intro g1 g2 a b
      rw [b 7 (Or.inl (by decide)), a.2.2]
      exact h7
    refine B_L_law_23 ⟨fun h => ?_, fun _ => am_chk_i ?_ ?_⟩
    · rw [h7, nn_sub (by omega), nn_lt (by omega) (by omega)] at h
      omega
    · rw [h7, nn_nat (by omega)]
      exact nn_in (by omega) (by omega)
    obtain ⟨o, ho, eo⟩ := and15 (g 6 (Int32.toNatClampNeg (Int32.ofNat i)))
    rw [eo]
    refine ts_cases (M := fun pc => am_GQ (0, pc, [(0, .ref 6), (1, .ref 8), (2, .ref 32), (3, .ref 53), (4, .int (Int32.ofNat i))], [], g, t) Q) ho ?_ ?_ ?_ ?_ ?_ ?_ ?_ ?_ ?_ ?_ ?_ ?_ ?_
    · refine B_L_law_100 (am_chk_i c1 (am_chk_i c2 (W_write hI t _ (fun v g1 hd hm => B_L_law_126 ?_))))
      rw [hd.2.1, hd.2.2]
      exact am_chk_i c1 (am_chk_i c2 (hm _ _ (fun g2 I mf => B_L_law_152 ⟨fun _ => nx g2 t I (e7 hd mf) (by omega), fun h => absurd rfl h⟩)))
    · exact B_L_law_157 (W_erase hI t _ (fun v g1 hd hm => B_L_law_161 (hm _ _ (fun g2 I mf => B_L_law_165 ⟨fun _ => nx g2 t I (e7 hd mf) (by omega), fun h => absurd rfl h⟩))))
    · exact B_L_law_170 (W_length hI t _ (fun v g1 hd hm => B_L_law_174 (hm _ _ (fun g2 I mf => B_L_law_178 ⟨fun _ => nx g2 t I (e7 hd mf) (by omega), fun h => absurd rfl h⟩))))
    · refine B_L_law_183 (W_read hI t _ (fun k v g1 hk hd h53 hm => B_L_law_188 (hm _ _ (fun w g2 I mf e2 hw => B_L_law_194 (B_M_thrown_0 (B_L_law_200 ?_))))))
      rw [e2]
      refine ⟨fun _ => ⟨fun _ => B_L_law_224 (nx g2 (t + 1) I (e7 hd mf) (by omega)), fun hz => am_chk_i rfl ⟨fun _ => B_L_law_224 (nx g2 (t + 1) I (e7 hd mf) (by omega)), fun hne => absurd ?_ hne⟩⟩, fun h => absurd rfl h⟩
      rw [nn_eq (by omega) (by omega)] at hz
      rw [mf 53 (Or.inr rfl), show g1 53 (Int32.toNatClampNeg (Int32.ofNat 0)) = v from h53 hz, hw hz]
      exact lg_self _
    · exact B_L_law_227 (W_fault hI t _ (fun v g1 hd hm => B_L_law_231 (hm _ _ (fun g2 I mf => B_L_law_235 ⟨fun _ => nx g2 t I (e7 hd mf) (by omega), fun h => absurd rfl h⟩))))
    · refine B_L_law_240 (am_chk_i c1 (W_sources hI t _ (fun v g1 hd hm => B_L_law_250 ?_)))
      rw [hd.2.1, hd.2.2]
      exact am_chk_i c1 (hm _ _ (fun g2 I mf => B_L_law_260 ⟨fun _ => nx g2 t I (e7 hd mf) (by omega), fun h => absurd rfl h⟩))
    · refine B_L_law_265 (am_chk_i c1 (W_recipe hI t _ (fun v g1 hd hm => B_L_law_275 ?_)))
      rw [hd.2.1, hd.2.2]
      exact am_chk_i c1 (hm _ _ (fun g2 I mf => B_L_law_285 ⟨fun _ => nx g2 t I (e7 hd mf) (by omega), fun h => absurd rfl h⟩))
    · refine B_L_law_290 (am_chk_i c1 (am_chk_i c2 (W_stamp hI t _ (fun v g1 hd hm => B_L_law_306 ?_))))
      rw [hd.2.1, hd.2.2]
      exact am_chk_i c1 (am_chk_i c2 (hm _ _ (fun g2 I mf => B_L_law_322 ⟨fun _ => nx g2 t I (e7 hd mf) (by omega), fun h => absurd rfl h⟩)))
    · refine B_L_law_327 (am_chk_i c1 (W_stampOf hI t _ (fun v g1 hd hm => B_L_law_337 ?_)))
      rw [hd.2.1, hd.2.2]
      exact am_chk_i c1 (hm _ _ (fun g2 I mf => B_L_law_347 ⟨fun _ => nx g2 t I (e7 hd mf) (by omega), fun h => absurd rfl h⟩))
    · refine B_L_law_352 (am_chk_i c1 (W_make hI t _ (fun k v g1 hk hd h53 hm => B_L_law_363 ?_)))
      rw [hd.2.1, hd.2.2]
      refine am_chk_i c1 (hm _ _ (fun w g2 I mf e2 hw => B_L_law_375 (B_M_thrown_0 (B_L_law_381 ?_))))
      rw [e2]
      refine ⟨fun _ => ⟨fun _ => B_L_law_405 (nx g2 (t + 1) I (e7 hd mf) (by omega)), fun hz => am_chk_i rfl ⟨fun _ => B_L_law_405 (nx g2 (t + 1) I (e7 hd mf) (by omega)), fun hne => absurd ?_ hne⟩⟩, fun h => absurd rfl h⟩
      rw [nn_eq (by omega) (by omega)] at hz
      rw [mf 53 (Or.inr rfl), show g1 53 (Int32.toNatClampNeg (Int32.ofNat 0)) = v from h53 hz, hw hz]
      exact lg_self _
    · refine B_L_law_408 (am_chk_i c1 (W_ran hI t _ (fun v g1 hd hm => B_L_law_418 ?_)))
      rw [hd.2.1, hd.2.2]
      exact am_chk_i c1 (hm _ _ (fun g2 I mf => B_L_law_428 ⟨fun _ => nx g2 t I (e7 hd mf) (by omega), fun h => absurd rfl h⟩))
    · refine B_L_law_433 (am_chk_i c1 (W_reason hI t _ (fun v g1 hd hm => B_L_law_443 ?_)))
      rw [hd.2.1, hd.2.2]
      exact am_chk_i c1 (hm _ _ (fun g2 I mf => B_L_law_453 ⟨fun _ => nx g2 t I (e7 hd mf) (by omega), fun h => absurd rfl h⟩))
    · exact nx g t hI h7 (by omega)
theorem inv_0 (xs : Nat → Int32) (L : Nat) : INV (am_g0 xs L) := by
  have z : ∀ k i, k ≠ 6 → k ≠ 7 → am_g0 xs L k i = Int32.ofNat 0 := by
    intro k i h6 h7
    unfold am_g0
    have e6 : Nat.beq k 6 = false := by
      cases h : Nat.beq k 6 with
      | false => rfl
      | true => exact absurd (Nat.eq_of_beq_eq_true h) h6
    have e7 : Nat.beq k 7 = false := by
      cases h : Nat.beq k 7 with
      | false => rfl
      | true => exact absurd (Nat.eq_of_beq_eq_true h) h7
    rw [e6, e7]
    rfl
  have z0 : ∀ {k : Nat}, k ≠ 6 → k ≠ 7 → ∀ i, i < 32 → am_g0 xs L k i = (fun _ => Int32.ofNat 0) i := fun h6 h7 i _ => z _ i h6 h7
  refine ⟨0, fun _ => 0, Int32.ofNat 0, Int32.ofNat 0, fun _ => Int32.ofNat 0, [], fun _ => Int32.ofNat 0, 0, fun _ => Int32.ofNat 0, fun _ => Int32.ofNat 0, ⟨⟨by omega, z _ _ (by decide) (by decide), fun i hi => absurd hi (Nat.not_lt_zero _), fun _ => (by decide : (0 : Nat) < 128), fun i _ => rfl⟩, z _ _ (by decide) (by decide), z _ _ (by decide) (by decide), z0 (by decide) (by decide), ⟨Nat.zero_le _, z _ _ (by decide) (by decide), fun i a b h => by cases h⟩, z0 (by decide) (by decide), z _ _ (by decide) (by decide), z0 (by decide) (by decide), z0 (by decide) (by decide)⟩, ⟨⟨by omega, z _ _ (by decide) (by decide), fun i hi => absurd hi (Nat.not_lt_zero _), fun _ => (by decide : (0 : Nat) < 128), fun i _ => rfl⟩, z _ _ (by decide) (by decide), z _ _ (by decide) (by decide), z0 (by decide) (by decide), ⟨Nat.zero_le _, z _ _ (by decide) (by decide), fun i a b h => by cases h⟩, z0 (by decide) (by decide), z _ _ (by decide) (by decide), z0 (by decide) (by decide), z0 (by decide) (by decide)⟩, fun i _ => ⟨0, by omega, rfl⟩, by omega⟩
theorem am_pure (xs : Nat → Int32) (L : Nat) (hL : L ≤ 1536) : am_law1 xs L := by
  have h : am_GQ (0, 20, [(0, .ref 6), (1, .ref 8), (2, .ref 32), (3, .ref 53)], [], am_g0 xs L, 0) (fun r => ∃ g2 t2, r = (.inl (some (.int (Int32.ofNat 1))), g2, t2) ∧ t2 ≤ 512) :=
    B_L_law_20 (S_law hL (fun g t ht => ⟨g, t, rfl, ht⟩) 512 0 0 (am_g0 xs L) (by omega) (by omega) (by omega) (inv_0 xs L) rfl)
  obtain ⟨k, r, h1, g2, t2, e, h2⟩ := h
  exact ⟨k, g2, t2, by rw [h1, e]; rfl, h2⟩
