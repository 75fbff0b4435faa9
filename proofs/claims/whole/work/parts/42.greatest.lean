def mxS (f : Nat → Int32) : Nat → Nat → Int32 → Int32
  | 0, _, a => a
  | k + 1, i, a => mxS f k (i + 1) (if a < f i then f i else a)
section
variable {g : am_G} {t : Nat} {Q : am_R → Prop}
theorem S_greatest4 : ∀ (f i : Nat) (a : Int32), i + f = 32 → Q (.inl (some (.int (mxS (g 25) f i a))), g, t) → am_GQ (73, 4, [(0, .ref 24), (1, .int a), (2, .int (Int32.ofNat i))], [], g, t) Q
  | 0, i, a, he, k => by
    have e : i = 32 := by omega
    subst e
    exact B_Stamps_greatest_4 ⟨fun _ => k, fun h => absurd ((nn_lt (by omega) (by omega)).mp h) (by omega)⟩
  | f + 1, i, a, he, k => by
    rw [mxS] at k
    refine B_Stamps_greatest_4 ⟨fun h => absurd ((nn_le (by omega) (by omega)).mp h) (by omega), fun _ => am_chk_i (nn_in (by omega) (by omega)) ?_⟩
    rw [nn_add, nn_nat (by omega)]
    exact S_greatest4 f (i + 1) _ (by omega) k
theorem S_greatest (k : Q (.inl (some (.int (mxS (g 25) 32 0 (Int32.ofNat 0)))), g, t)) : am_GQ (73, 0, [(0, .ref 24)], [], g, t) Q := B_Stamps_greatest_0 (S_greatest4 32 0 _ rfl k)
theorem mxS_lb (f : Nat → Int32) : ∀ (k i : Nat) (a : Int32), a ≤ mxS f k i a ∧ ∀ j, i ≤ j → j < i + k → f j ≤ mxS f k i a
  | 0, i, a => ⟨Int32.le_refl _, fun j h1 h2 => by omega⟩
  | k + 1, i, a => by
    rw [mxS]
    obtain ⟨h1, h2⟩ := mxS_lb f k (i + 1) (if a < f i then f i else a)
    have h3 : a ≤ (if a < f i then f i else a) ∧ f i ≤ (if a < f i then f i else a) := by
      by_cases e : a < f i
      · rw [if_pos e]
        exact ⟨Int32.le_of_lt e, Int32.le_refl _⟩
      · rw [if_neg e]
        exact ⟨Int32.le_refl _, Int32.not_lt.mp e⟩
    refine ⟨Int32.le_trans h3.1 h1, fun j h4 h5 => ?_⟩
    by_cases e : j = i
    · subst e
      exact Int32.le_trans h3.2 h1
    · exact h2 j (by omega) (by omega)
end
