def wc (x : Int64) : Nat → Nat → Option Nat
  | 0, i => some i
  | f + 1, i => if byt x i = 0 then some i else if 127 < byt x i then none else wc x f (i + 1)
def wv : Option Nat → Int32
  | none => -1
  | some a => Int32.ofNat a
theorem wc_ok (x : Int64) : ∀ f i a, wc x f i = some a → i ≤ a ∧ a ≤ i + f ∧ ∀ j, i ≤ j → j < a → byt x j < 128
  | 0, i, a, h => by
    cases Option.some.inj h
    exact ⟨Nat.le_refl _, by omega, fun j h1 h2 => by omega⟩
  | f + 1, i, a, h => by
    rw [wc] at h
    by_cases e : byt x i = 0
    · rw [if_pos e] at h
      cases Option.some.inj h
      exact ⟨Nat.le_refl _, by omega, fun j h1 h2 => by omega⟩
    · rw [if_neg e] at h
      by_cases e2 : 127 < byt x i
      · rw [if_pos e2] at h; cases h
      · rw [if_neg e2] at h
        obtain ⟨a1, a2, a3⟩ := wc_ok x f (i + 1) a h
        refine ⟨by omega, by omega, fun j h1 h2 => ?_⟩
        by_cases e3 : j = i
        · subst e3; omega
        · exact a3 j (by omega) h2
theorem chr_sm : ∀ n, n < 256 → am_chr (am_chr (Int32.ofNat n)) = Int32.ofNat n := by decide +kernel
def apc (c : Nat → Nat) (n a : Nat) (x : Int64) : Nat → Nat := fun i => if i < n then c i else if i < n + a then byt x (i - n) else 0
section
variable {g : am_G} {t : Nat} {Q : am_R → Prop} {x : Int64}
theorem S_countCodes2 : ∀ (f i : Nat), i + f = 8 → Q (.inl (some (.int (wv (wc x f i)))), g, t) → am_GQ (79, 2, [(0, .long x), (2, .int (Int32.ofNat i))], [], g, t) Q
  | 0, i, he, k => by
    have e8 : i = 8 := by omega
    subst e8
    exact B_Text_countCodes_2 ⟨fun _ => k, fun h => absurd ((nn_lt (by omega) (by omega)).mp h) (by omega)⟩
  | f + 1, i, he, k => by
    have hb := byt_lt x i
    refine B_Text_countCodes_2 ⟨fun h => absurd ((nn_le (by omega) (by omega)).mp h) (by omega), fun _ => B_Text_packedCode_0 (B_Text_countCodes_13 (s0 := byE x i) ?_)⟩
    rw [byE_of, nn_eq (by omega) (by omega), nn_le (by omega) (by omega), nn_lt (by omega) (by omega), nn_add]
    rw [wc] at k
    refine ⟨fun h0 => ⟨fun h1 => ?_, fun h1 => ?_⟩, fun h0 => ?_⟩
    · rw [if_neg h0, if_neg (by omega)] at k
      exact S_countCodes2 f (i + 1) (by omega) k
    · rw [if_neg h0, if_pos h1] at k
      exact k
    · rw [if_pos h0] at k
      exact k
theorem S_countCodes (k : Q (.inl (some (.int (wv (wc x 8 0)))), g, t)) : am_GQ (79, 0, [(0, .long x)], [], g, t) Q := B_Text_countCodes_0 (S_countCodes2 8 0 rfl k)
theorem S_append26 {g0 : am_G} {n a : Nat} (hn : n + a ≤ 240) (ha : a ≤ 8) (kk : ∀ g', (∀ k, k ≠ 10 → g' k = g0 k) → (∀ j, j < n → g' 10 j = g0 10 j) → (∀ j, j < a → g' 10 (n + j) = Int32.ofNat (byt x j)) → Q (.inl (some (.int (Int32.ofNat a))), am_w g' 9 1 (Int32.ofNat (n + a)), t)) (h9 : g0 9 1 = Int32.ofNat n) :
    ∀ (f i : Nat) (g : am_G), i + f = a → (∀ k, k ≠ 10 → g k = g0 k) → (∀ j, j < n → g 10 j = g0 10 j) → (∀ j, j < i → g 10 (n + j) = Int32.ofNat (byt x j)) → am_GQ (76, 26, [(0, .ref 9), (1, .long x), (3, .int (Int32.ofNat a)), (4, .int (Int32.ofNat i))], [], g, t) Q
  | 0, i, g, he, h1, h2, h3 => by
    have ea : i = a := by omega
    subst ea
    refine B_Text_append_26 ⟨fun _ => ?_, fun h => absurd ((nn_lt (by omega) (by omega)).mp h) (by omega)⟩
    rw [h1 9 (by decide), h9, nn_add]
    exact kk g h1 h2 h3
  | f + 1, i, g, he, h1, h2, h3 => by
    have hb := byt_lt x i
    refine B_Text_append_26 ⟨fun h => absurd ((nn_le (by omega) (by omega)).mp h) (by omega), fun _ => B_Text_packedCode_0 (B_Text_append_49 (s0 := byE x i) ?_)⟩
    rw [h1 9 (by decide), h9, nn_add, byE_of, chr_sm _ hb, nn_nat (by omega), nn_add]
    refine am_chk_i (nn_in (by omega) (by omega)) (S_append26 hn ha kk h9 f (i + 1) _ (by omega) (fun k hk => (w_k hk).trans (h1 k hk)) (fun j hj => (w_i (by omega)).trans (h2 j hj)) (fun j hj => ?_))
    by_cases e : j = i
    · subst e
      exact w_s
    · exact (w_i (by omega)).trans (h3 j (by omega))
end
