theorem and1_or (y : Int32) : y &&& Int32.ofNat 1 = Int32.ofNat 0 ∨ y &&& Int32.ofNat 1 = Int32.ofNat 1 := by
  have h : (y &&& Int32.ofNat 1).toBitVec.toNat ≤ 1 := by
    rw [Int32.toBitVec_and, BitVec.toNat_and]
    exact Nat.le_trans Nat.and_le_right (by decide +kernel)
  have e := bv_of (a := y &&& Int32.ofNat 1) (by omega)
  generalize (y &&& Int32.ofNat 1).toBitVec.toNat = q at h e
  rcases (show q = 0 ∨ q = 1 by omega) with rfl | rfl
  · exact Or.inl e
  · exact Or.inr e
theorem has_b2i (x : Int32) {j : Nat} (hj : j < 32) : (x >>> (Int32.ofNat j &&& Int32.ofNat 31)) &&& Int32.ofNat 1 = b2i (bt x j) := by
  cases hb : bt x j with
  | true => exact (bt_has x hj).mpr hb
  | false =>
    rcases and1_or (x >>> (Int32.ofNat j &&& Int32.ofNat 31)) with h | h
    · exact h
    · rw [(bt_has x hj).mp h] at hb
      cases hb
def nR (x : Int32) (r : Nat) : Prop := ¬ ∃ n, n < r ∧ x = Int32.ofNat n
section
variable {g : am_G} {t : Nat} {Q : am_R → Prop} {x : Int32}
theorem S_D_recipe (k1 : ∀ n, n < 32 → x = Int32.ofNat n → Q (.inl (some (.int (b2i (bt (g 20 3) n)))), g, t)) (k0 : nF x → Q (.inl (some (.int (-1))), g, t)) : am_GQ (14, 0, [(0, .ref 8), (1, .int x)], [], g, t) Q := by
  refine B_D_recipe_0 (S_isFile (fun n hn e => B_D_recipe_4 ⟨fun _ => B_Rules_withRecipe_0 (B_D_recipe_16 ?_), fun h => absurd h one_ne⟩) (fun h => B_D_recipe_4 ⟨fun z => absurd rfl z, fun _ => k0 h⟩))
  have := k1 n hn e
  subst e
  refine S_holds hn (B_D_recipe_20 ⟨fun h => ?_, fun h => ?_⟩)
  · rw [h] at this; exact this
  · rw [b2i_nz] at h
    rw [h] at this; exact this
theorem S_M_recipe (k1 : ∀ n, n < 32 → x = Int32.ofNat n → Q (.inl (some (.int (b2i (bt (g 32 18) n)))), am_w g 32 2 (Int32.ofNat 0), t)) (k0 : nF x → Q (.inl (some (.int (-1))), am_w g 32 2 (Int32.ofNat 0), t)) : am_GQ (109, 0, [(0, .ref 32), (1, .int x)], [], g, t) Q := by
  refine B_M_recipe_0 (S_in31 (fun n hn e => B_M_recipe_12 ⟨fun h => absurd h one_ne, fun _ => ?_⟩) (fun h => B_M_recipe_12 ⟨fun _ => k0 h, fun z => absurd rfl z⟩))
  have := k1 n hn e
  subst e
  rw [has_b2i _ hn, w_i (show (18 : Nat) ≠ 2 by decide)]
  exact this
theorem S_D_ran {r : Nat} (hr : g 29 2 = Int32.ofNat r) (h32 : r ≤ 32) (k1 : ∀ n, n < r → x = Int32.ofNat n → Q (.inl (some (.int (g 30 n))), g, t)) (k0 : nR x r → Q (.inl (some (.int (-1))), g, t)) : am_GQ (11, 0, [(0, .ref 8), (1, .int x)], [], g, t) Q := by
  refine B_D_ran_0 (B_Report_fileAt_0 ?_)
  rw [hr]
  by_cases hF : ∃ n, n < r ∧ x = Int32.ofNat n
  · obtain ⟨n, hn, rfl⟩ := hF
    rw [nn_lt (by omega) (by omega), nn_le (by omega) (by omega), nn_le (by omega) (by omega), nn_lt (by omega) (by omega), nn_nat (by omega)]
    exact ⟨fun h => absurd h (Nat.not_lt_zero _), fun _ => ⟨fun h => absurd h (by omega), fun _ => am_chk_i (nn_in (by omega) (by omega)) (B_D_ran_8 (k1 n hn rfl))⟩⟩
  · exact ⟨fun _ => B_D_ran_8 (k0 hF), fun h => ⟨fun _ => B_D_ran_8 (k0 hF), fun h2 => absurd (inF_of (by omega) h h2) hF⟩⟩
theorem S_M_ran {r : Nat} (hr : g 32 28 = Int32.ofNat r) (h32 : r ≤ 32) (k1 : ∀ n, n < r → x = Int32.ofNat n → Q (.inl (some (.int (g 51 n))), am_w g 32 2 (Int32.ofNat 0), t)) (k0 : nR x r → Q (.inl (some (.int (-1))), am_w g 32 2 (Int32.ofNat 0), t)) : am_GQ (105, 0, [(0, .ref 32), (1, .int x)], [], g, t) Q := by
  refine B_M_ran_0 (B_M_within_0 ?_)
  rw [w_i (show (28 : Nat) ≠ 2 by decide), hr]
  have no : nR x r → am_chk (am_isb (Int32.ofNat 0)) (am_af 105 13 [(0, .ref 32), (1, .int x)] [] Q (.inl (some (.int (Int32.ofNat 0))), am_w g 32 2 (Int32.ofNat 0), t)) := fun h => am_chk_i rfl (B_M_ran_16 ⟨fun _ => k0 h, fun z => absurd rfl z⟩)
  by_cases hF : ∃ n, n < r ∧ x = Int32.ofNat n
  · obtain ⟨n, hn, rfl⟩ := hF
    rw [nn_sub (by omega), nn_lt (by omega) (by omega), nn_le (by omega) (by omega), nn_lt (by omega) (by omega), nn_le (by omega) (by omega)]
    refine ⟨fun h => absurd h (Nat.not_lt_zero _), fun _ => ⟨fun h => absurd h (by omega), fun _ => am_chk_i rfl (B_M_ran_16 ⟨fun z => absurd z one_ne, fun _ => ?_⟩)⟩⟩
    rw [nn_nat (by omega)]
    exact am_chk_i (nn_in (by omega) (by omega)) (k1 n hn rfl)
  · refine ⟨fun _ => no hF, fun h => ⟨fun _ => no hF, fun h2 => absurd ?_ hF⟩⟩
    by_cases hz : r = 0
    · subst hz
      exfalso
      have h3 : (Int32.ofNat 0 - Int32.ofNat 1).toInt = -1 := by decide
      rw [Int32.le_iff_toInt_le] at h h2
      rw [h3] at h2
      rw [nn_toInt (by omega)] at h
      omega
    · rw [nn_sub (by omega), Int32.le_iff_toInt_le, nn_toInt (by omega)] at h2
      refine inF_of (by omega) h ?_
      rw [Int32.lt_iff_toInt_lt, nn_toInt (by omega)]
      omega
end
