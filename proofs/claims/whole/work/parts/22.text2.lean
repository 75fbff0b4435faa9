theorem nn_sub {m n : Nat} (h : n ≤ m) : Int32.ofNat m - Int32.ofNat n = Int32.ofNat (m - n) := by
  have e : Int32.ofNat m = Int32.ofNat (m - n) + Int32.ofNat n := by rw [nn_add]; congr 1; omega
  rw [e, Int32.add_sub_cancel]
theorem nn_mul (m n : Nat) : Int32.ofNat m * Int32.ofNat n = Int32.ofNat (m * n) := (Int32.ofNat_mul m n).symm
def sp (c : Nat → Nat) : Nat → Nat → Bool
  | 0, _ => true
  | f + 1, i => if c i = 32 then sp c f (i + 1) else false
theorem sp_iff (c : Nat → Nat) : ∀ f i, sp c f i = true ↔ ∀ j, i ≤ j → j < i + f → c j = 32
  | 0, i => by simp only [sp, true_iff]; intro j h1 h2; omega
  | f + 1, i => by
    rw [sp]
    by_cases h : c i = 32
    · rw [if_pos h, sp_iff c f (i + 1)]
      constructor
      · intro k j h1 h2
        by_cases e : j = i
        · rw [e]; exact h
        · exact k j (by omega) (by omega)
      · intro k j h1 h2
        exact k j (by omega) (by omega)
    · rw [if_neg h]
      constructor
      · intro k; cases k
      · intro k; exact absurd (k i (by omega) (by omega)) h
section
variable {g : am_G} {t : Nat} {Q : am_R → Prop} {n : Nat} {c : Nat → Nat}
theorem S_onlySpaces_loop (hT : tX g n c) {e : Nat} (he : e < 1000) {x1 : Int32} : ∀ (f i : Nat), e - i = f → i < 1000 → Q (.inl (some (.int (b2i (sp c f i)))), g, t) → am_GQ (83, 2, [(0, .ref 9), (1, .int x1), (2, .int (Int32.ofNat e)), (3, .int (Int32.ofNat i))], [], g, t) Q := by
  intro f
  induction f with
  | zero =>
    intro i h1 h2 k
    refine B_Text_isOnlySpaces_2 ⟨fun _ => am_chk_i rfl k, fun h => ?_⟩
    rw [nn_lt (by omega) (by omega)] at h
    omega
  | succ f ih =>
    intro i h1 h2 k
    refine B_Text_isOnlySpaces_2 ⟨fun h => ?_, fun h => S_codeAt hT (by omega) (B_Text_isOnlySpaces_12 ⟨fun h => ?_, fun h => ?_⟩)⟩
    · rw [nn_le (by omega) (by omega)] at h
      omega
    · rw [nn_add]
      have := hT.2.2.2.1 i
      rw [nn_eq (by omega) (by omega)] at h
      rw [sp, if_pos h] at k
      exact ih _ (by omega) (by omega) k
    · have := hT.2.2.2.1 i
      rw [nn_eq (by omega) (by omega)] at h
      rw [sp, if_neg h] at k
      exact am_chk_i rfl k
theorem S_onlySpaces (hT : tX g n c) {i e : Nat} (hi : i < 1000) (he : e < 1000) (k : Q (.inl (some (.int (b2i (sp c (e - i) i)))), g, t)) : am_GQ (83, 0, [(0, .ref 9), (1, .int (Int32.ofNat i)), (2, .int (Int32.ofNat e))], [], g, t) Q :=
  B_Text_isOnlySpaces_0 (S_onlySpaces_loop hT he _ i rfl hi k)
theorem S_kindAt (hT : tX g n c) {i : Nat} (hi : i < 2000) (k : Q (.inl (some (.int (Int32.ofNat (c i) - Int32.ofNat 48))), g, t)) : am_GQ (84, 0, [(0, .ref 9), (1, .int (Int32.ofNat i))], [], g, t) Q :=
  B_Text_kindAt_0 (S_codeAt hT (by omega) (B_Text_kindAt_5 k))
theorem S_fileAt (hT : tX g n c) {i : Nat} (hi : i < 1000) (hm : isNm (c i) (c (i + 1))) (k : Q (.inl (some (.int (Int32.ofNat (4 * (c i - 97) + (c (i + 1) - 48))))), g, t)) : am_GQ (80, 0, [(0, .ref 9), (1, .int (Int32.ofNat i))], [], g, t) Q := by
  refine B_Text_fileAt_0 (S_codeAt hT (by omega) (B_Text_fileAt_6 ?_))
  rw [nn_add]
  refine S_kindAt hT (by omega) (B_Text_fileAt_17 ?_)
  simp (disch := omega) only [nn_sub, nn_mul, nn_add]
  exact k
theorem S_macroUsedAt (hT : tX g n c) {i : Nat} (hi : i < 1000) (hm : isMu (c i) (c (i + 1))) (k : Q (.inl (some (.int (Int32.ofNat (c (i + 1) - 65)))), g, t)) : am_GQ (85, 0, [(0, .ref 9), (1, .int (Int32.ofNat i))], [], g, t) Q := by
  refine B_Text_macroUsedAt_0 ?_
  rw [nn_add]
  refine S_codeAt hT (by omega) (B_Text_macroUsedAt_7 ?_)
  simp (disch := omega) only [nn_sub]
  exact k
theorem S_size (hT : tX g n c) (k : Q (.inl (some (.int (Int32.ofNat n))), g, t)) : am_GQ (89, 0, [(0, .ref 9)], [], g, t) Q := by
  refine B_Text_size_0 ?_
  rw [hT.2.1]
  exact k
end
