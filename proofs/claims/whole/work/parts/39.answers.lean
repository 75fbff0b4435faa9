def nF (x : Int32) : Prop := ¬ ∃ n, n < 32 ∧ x = Int32.ofNat n
theorem inF_of {x : Int32} {m : Nat} (hm : m < 2147483648) (h1 : Int32.ofNat 0 ≤ x) (h2 : x < Int32.ofNat m) : ∃ n, n < m ∧ x = Int32.ofNat n := by
  rw [Int32.le_iff_toInt_le, nn_toInt (by omega)] at h1
  rw [Int32.lt_iff_toInt_lt, nn_toInt hm] at h2
  refine ⟨x.toInt.toNat, by omega, Int32.toInt_inj.mp ?_⟩
  rw [nn_toInt (by omega)]
  omega
theorem le31 {x : Int32} (h : x ≤ Int32.ofNat 31) : x < Int32.ofNat 32 := by
  rw [Int32.le_iff_toInt_le, nn_toInt (by omega)] at h
  rw [Int32.lt_iff_toInt_lt, nn_toInt (by omega)]
  omega
section
variable {g : am_G} {t : Nat} {Q : am_R → Prop} {x : Int32}
theorem S_isFile (k1 : ∀ n, n < 32 → x = Int32.ofNat n → Q (.inl (some (.int (Int32.ofNat 1))), g, t)) (k0 : nF x → Q (.inl (some (.int (Int32.ofNat 0))), g, t)) : am_GQ (4, 0, [(0, .int x)], [], g, t) Q := by
  by_cases hF : ∃ n, n < 32 ∧ x = Int32.ofNat n
  · obtain ⟨n, hn, rfl⟩ := hF
    refine B_D_isFile_0 ?_
    rw [nn_lt (by omega) (by omega), nn_le (by omega) (by omega), nn_le (by omega) (by omega), nn_lt (by omega) (by omega)]
    exact ⟨fun h => absurd h (Nat.not_lt_zero _), fun _ => ⟨fun h => absurd h (by omega), fun _ => am_chk_i rfl (k1 n hn rfl)⟩⟩
  · exact B_D_isFile_0 ⟨fun _ => am_chk_i rfl (k0 hF), fun h => ⟨fun _ => am_chk_i rfl (k0 hF), fun h2 => absurd (inF_of (by omega) h h2) hF⟩⟩
theorem S_in31 (k1 : ∀ n, n < 32 → x = Int32.ofNat n → Q (.inl (some (.int (Int32.ofNat 1))), g, t)) (k0 : nF x → Q (.inl (some (.int (Int32.ofNat 0))), g, t)) : am_GQ (118, 0, [(0, .int x), (1, .int (Int32.ofNat 0)), (2, .int (Int32.ofNat 31))], [], g, t) Q := by
  by_cases hF : ∃ n, n < 32 ∧ x = Int32.ofNat n
  · obtain ⟨n, hn, rfl⟩ := hF
    refine B_M_within_0 ?_
    rw [nn_lt (by omega) (by omega), nn_le (by omega) (by omega), nn_lt (by omega) (by omega), nn_le (by omega) (by omega)]
    exact ⟨fun h => absurd h (Nat.not_lt_zero _), fun _ => ⟨fun h => absurd h (by omega), fun _ => am_chk_i rfl (k1 n hn rfl)⟩⟩
  · exact B_M_within_0 ⟨fun _ => am_chk_i rfl (k0 hF), fun h => ⟨fun _ => am_chk_i rfl (k0 hF), fun h2 => absurd (inF_of (by omega) h (le31 h2)) hF⟩⟩
theorem one_ne : ¬ Int32.ofNat 1 = Int32.ofNat 0 := by decide
theorem S_D_erase (k : Q (.inl (some (.int (g 9 1))), am_w g 9 1 (Int32.ofNat 0), t)) : am_GQ (1, 0, [(0, .ref 8)], [], g, t) Q := B_D_erase_0 (B_Text_clear_0 (B_D_erase_7 k))
theorem S_D_length (k : Q (.inl (some (.int (g 9 1))), g, t)) : am_GQ (9, 0, [(0, .ref 8)], [], g, t) Q := B_D_length_0 (B_Text_size_0 (B_D_length_7 k))
theorem S_D_sources (k1 : ∀ n, n < 32 → x = Int32.ofNat n → Q (.inl (some (.int (g 21 n))), g, t)) (k0 : nF x → Q (.inl (some (.int (Int32.ofNat 0))), g, t)) : am_GQ (17, 0, [(0, .ref 8), (1, .int x)], [], g, t) Q := by
  refine B_D_sources_0 (S_isFile (fun n hn e => B_D_sources_4 ⟨fun h => absurd h one_ne, fun _ => B_Rules_sourcesOf_0 ?_⟩) (fun h => B_D_sources_4 ⟨fun _ => k0 h, fun z => absurd rfl z⟩))
  have := k1 n hn e
  subst e
  rw [nn_nat (by omega)]
  exact am_chk_i (nn_in hn (by omega)) (B_D_sources_15 this)
theorem S_M_sources (k1 : ∀ n, n < 32 → x = Int32.ofNat n → Q (.inl (some (.int (g 45 n))), am_w g 32 2 (Int32.ofNat 0), t)) (k0 : nF x → Q (.inl (some (.int (Int32.ofNat 0))), am_w g 32 2 (Int32.ofNat 0), t)) : am_GQ (112, 0, [(0, .ref 32), (1, .int x)], [], g, t) Q := by
  refine B_M_sources_0 (S_in31 (fun n hn e => B_M_sources_12 ⟨fun h => absurd h one_ne, fun _ => ?_⟩) (fun h => B_M_sources_12 ⟨fun _ => k0 h, fun z => absurd rfl z⟩))
  have := k1 n hn e
  subst e
  rw [nn_nat (by omega)]
  exact am_chk_i (nn_in hn (by omega)) this
theorem S_D_stampOf (k1 : ∀ n, n < 32 → x = Int32.ofNat n → Q (.inl (some (.int (g 25 n))), g, t)) (k0 : nF x → Q (.inl (some (.int (-1))), g, t)) : am_GQ (19, 0, [(0, .ref 8), (1, .int x)], [], g, t) Q := by
  refine B_D_stampOf_0 (S_isFile (fun n hn e => B_D_stampOf_4 ⟨fun h => absurd h one_ne, fun _ => B_Stamps_of_0 ?_⟩) (fun h => B_D_stampOf_4 ⟨fun _ => k0 h, fun z => absurd rfl z⟩))
  have := k1 n hn e
  subst e
  rw [nn_nat (by omega)]
  exact am_chk_i (nn_in hn (by omega)) (B_D_stampOf_15 this)
theorem S_M_stampOf (k1 : ∀ n, n < 32 → x = Int32.ofNat n → Q (.inl (some (.int (g 47 n))), am_w g 32 2 (Int32.ofNat 0), t)) (k0 : nF x → Q (.inl (some (.int (-1))), am_w g 32 2 (Int32.ofNat 0), t)) : am_GQ (115, 0, [(0, .ref 32), (1, .int x)], [], g, t) Q := by
  refine B_M_stampOf_0 (S_in31 (fun n hn e => B_M_stampOf_12 ⟨fun h => absurd h one_ne, fun _ => ?_⟩) (fun h => B_M_stampOf_12 ⟨fun _ => k0 h, fun z => absurd rfl z⟩))
  have := k1 n hn e
  subst e
  rw [nn_nat (by omega)]
  exact am_chk_i (nn_in hn (by omega)) this
theorem S_D_reason (k1 : ∀ n, n < 32 → x = Int32.ofNat n → Q (.inl (some (.int (g 31 n))), g, t)) (k0 : nF x → Q (.inl (some (.int (-1))), g, t)) : am_GQ (13, 0, [(0, .ref 8), (1, .int x)], [], g, t) Q := by
  refine B_D_reason_0 (S_isFile (fun n hn e => B_D_reason_4 ⟨fun h => absurd h one_ne, fun _ => B_Report_reasonOf_0 ?_⟩) (fun h => B_D_reason_4 ⟨fun _ => k0 h, fun z => absurd rfl z⟩))
  have := k1 n hn e
  subst e
  rw [nn_nat (by omega)]
  exact am_chk_i (nn_in hn (by omega)) (B_D_reason_15 this)
theorem S_M_reason (k1 : ∀ n, n < 32 → x = Int32.ofNat n → Q (.inl (some (.int (g 52 n))), am_w g 32 2 (Int32.ofNat 0), t)) (k0 : nF x → Q (.inl (some (.int (-1))), am_w g 32 2 (Int32.ofNat 0), t)) : am_GQ (107, 0, [(0, .ref 32), (1, .int x)], [], g, t) Q := by
  refine B_M_reason_0 (S_in31 (fun n hn e => B_M_reason_12 ⟨fun h => absurd h one_ne, fun _ => ?_⟩) (fun h => B_M_reason_12 ⟨fun _ => k0 h, fun z => absurd rfl z⟩))
  have := k1 n hn e
  subst e
  rw [nn_nat (by omega)]
  exact am_chk_i (nn_in hn (by omega)) this
def okS (x y : Int32) : Prop := nF x ∨ y < Int32.ofNat 0 ∨ Int32.ofNat 1000000000 < y
theorem S_D_stamp {y : Int32} (k1 : ∀ n, n < 32 → x = Int32.ofNat n → Int32.ofNat 0 ≤ y → y ≤ Int32.ofNat 1000000000 → Q (.inl (some (.int (Int32.ofNat 1))), am_w g 25 n y, t)) (k0 : okS x y → Q (.inl (some (.int (Int32.ofNat 0))), g, t)) : am_GQ (18, 0, [(0, .ref 8), (1, .int x), (2, .int y)], [], g, t) Q := by
  refine B_D_stamp_0 (S_isFile (fun n hn e => B_D_stamp_4 ⟨fun h => absurd h one_ne, fun _ => ⟨fun h => am_chk_i rfl (k0 (Or.inr (Or.inl h))), fun h => ⟨fun h2 => B_Stamps_put_0 ?_, fun h2 => am_chk_i rfl (k0 (Or.inr (Or.inr h2)))⟩⟩⟩) (fun h => B_D_stamp_4 ⟨fun _ => am_chk_i rfl (k0 (Or.inl h)), fun z => absurd rfl z⟩))
  have := k1 n hn e h h2
  subst e
  rw [nn_nat (by omega)]
  exact am_chk_i (nn_in hn (by omega)) (B_D_stamp_28 (am_chk_i rfl this))
theorem S_M_stamp {y : Int32} (k1 : ∀ n, n < 32 → x = Int32.ofNat n → Int32.ofNat 0 ≤ y → y ≤ Int32.ofNat 1000000000 → Q (.inl (some (.int (Int32.ofNat 1))), am_w (am_w g 32 2 (Int32.ofNat 0)) 47 n y, t)) (k0 : okS x y → Q (.inl (some (.int (Int32.ofNat 0))), am_w g 32 2 (Int32.ofNat 0), t)) : am_GQ (114, 0, [(0, .ref 32), (1, .int x), (2, .int y)], [], g, t) Q := by
  refine B_M_stamp_0 (S_in31 (fun n hn e => B_M_stamp_12 ⟨fun h => absurd h one_ne, fun _ => B_M_within_0 ⟨fun h => am_chk_i rfl (B_M_stamp_22 ⟨fun z => absurd rfl z, fun _ => am_chk_i rfl (k0 (Or.inr (Or.inl h)))⟩), fun h => ⟨fun h2 => am_chk_i rfl (B_M_stamp_22 ⟨fun z => absurd rfl z, fun _ => am_chk_i rfl (k0 (Or.inr (Or.inr h2)))⟩), fun h2 => am_chk_i rfl (B_M_stamp_22 ⟨fun _ => ?_, fun z => absurd z one_ne⟩)⟩⟩⟩) (fun h => B_M_stamp_12 ⟨fun _ => am_chk_i rfl (k0 (Or.inl h)), fun z => absurd rfl z⟩))
  have := k1 n hn e h h2
  subst e
  rw [nn_nat (by omega)]
  exact am_chk_i (nn_in hn (by omega)) (am_chk_i rfl this)
end
