def mb (m : Nat) : Int32 := Int32.ofNat 1 <<< (Int32.ofNat m &&& Int32.ofNat 31)
def tf (c : Nat → Nat) (i : Nat) : Nat := 4 * (c i - 97) + (c (i + 1) - 48)
def tm (c : Nat → Nat) (i : Nat) : Nat := 32 + (c (i + 1) - 65)
def tk (c : Nat → Nat) : Nat → Nat → List Nat
  | 0, _ => []
  | f + 1, i => if isNm (c i) (c (i + 1)) then tf c i :: tk c f (i + 2) else if isMu (c i) (c (i + 1)) then tm c i :: tk c f (i + 2) else if c i = 32 then tk c f (i + 1) else []
def ck (c : Nat → Nat) : Nat → Nat → List Nat
  | 0, _ => []
  | f + 1, i => if isNm (c i) (c (i + 1)) then tf c i :: ck c f (i + 1) else if isMu (c i) (c (i + 1)) then tm c i :: ck c f (i + 1) else ck c f (i + 1)
theorem ck_tk (c : Nat → Nat) : ∀ f i, ck c (pe c f i - i) i = tk c f i
  | 0, i => by rw [pe, Nat.sub_self]; rfl
  | f + 1, i => by
    have hg := pe_ge c f (i + 2)
    have hg1 := pe_ge c f (i + 1)
    rw [pe, tk]
    by_cases h1 : isNm (c i) (c (i + 1))
    · have e : pt c i = 2 := by unfold pt; rw [if_neg (by omega), if_pos (Or.inl h1)]
      rw [e, if_neg (by omega), if_pos h1, ← ck_tk c f (i + 2)]
      obtain ⟨m, hm⟩ : ∃ m, pe c f (i + 2) - i = m + 2 := ⟨pe c f (i + 2) - i - 2, by omega⟩
      rw [hm, ck, if_pos h1, ck, if_neg (by omega), if_neg (by omega), show pe c f (i + 2) - (i + 2) = m by omega]
    · by_cases h2 : isMu (c i) (c (i + 1))
      · have e : pt c i = 2 := by unfold pt; rw [if_neg (by omega), if_pos (Or.inr h2)]
        rw [e, if_neg (by omega), if_neg h1, if_pos h2, ← ck_tk c f (i + 2)]
        obtain ⟨m, hm⟩ : ∃ m, pe c f (i + 2) - i = m + 2 := ⟨pe c f (i + 2) - i - 2, by omega⟩
        rw [hm, ck, if_neg h1, if_pos h2, ck, if_neg (by omega), if_neg (by omega), show pe c f (i + 2) - (i + 2) = m by omega]
      · by_cases h3 : c i = 32
        · have e : pt c i = 1 := by unfold pt; rw [if_pos h3]
          rw [e, if_neg (by omega), if_neg h1, if_neg h2, if_pos h3, ← ck_tk c f (i + 1)]
          obtain ⟨m, hm⟩ : ∃ m, pe c f (i + 1) - i = m + 1 := ⟨pe c f (i + 1) - i - 1, by omega⟩
          rw [hm, ck, if_neg h1, if_neg h2, show pe c f (i + 1) - (i + 1) = m by omega]
        · have e : pt c i = 0 := by unfold pt; rw [if_neg h3, if_neg (fun z => z.elim h1 h2)]
          rw [if_pos e, if_neg h1, if_neg h2, if_neg h3, Nat.sub_self]
          rfl
def fU : List Nat → Int32 → Int32
  | [], a => a
  | x :: r, a => fU r (if x < 32 then a else a ||| mb (x - 32))
def fF (F : Nat → Int32) : List Nat → Int32 → Int32
  | [], a => a
  | x :: r, a => fF F r (if x < 32 then a ||| mb x else a ||| F (x - 32))
def fN (N : Nat → Nat) : List Nat → Nat
  | [] => 0
  | x :: r => (if x < 32 then 1 else N (x - 32)) + fN N r
section
variable {g : am_G} {t : Nat} {Q : am_R → Prop} {n : Nat} {c : Nat → Nat}
theorem S_setOf {x : Int32} (k : Q (.inl (some (.int (Int32.ofNat 1 <<< (x &&& Int32.ofNat 31)))), g, t)) : am_GQ (16, 0, [(0, .int x)], [], g, t) Q := B_D_setOf_0 k
theorem S_holds {x : Int32} {j : Nat} (hj : j < 32) (k : Q (.inl (some (.int (b2i (bt x j)))), g, t)) : am_GQ (3, 0, [(0, .int x), (1, .int (Int32.ofNat j))], [], g, t) Q := by
  refine B_D_holds_0 (S_setOf (B_D_holds_5 ⟨fun h => ?_, fun h => ?_⟩))
  · rw [(bt_holds x hj).mp h] at k
    exact am_chk_i rfl k
  · cases hb : bt x j with
    | false => exact absurd ((bt_holds x hj).mpr hb) h
    | true => rw [hb] at k; exact am_chk_i rfl k
theorem S_phraseEnd_neg (k : Q (.inl (some (.int (-1))), g, t)) (hT : tX g n c) : am_GQ (88, 0, [(0, .ref 9), (1, .int (-1))], [], g, t) Q := by
  refine B_Text_phraseEnd_0 (B_Text_phraseEnd_2 ⟨fun h => k, fun h => B_Text_partAt_0 (S_codeAt_neg (B_Text_partAt_5 ?_))⟩)
  have e : (-1 : Int32) + Int32.ofNat 1 = Int32.ofNat 0 := by decide
  have h0 := hT.2.2.2.1 0
  rw [e]
  refine S_codeAt hT (by omega) (B_Text_partAt_13 ⟨fun h => S_isName (a := 0) (by omega) h0 (B_Text_partAt_27 ⟨fun h1 => ?_, fun h1 => S_isMacroUse (a := 0) (by omega) h0 (B_Text_partAt_35 ⟨fun h2 => B_Text_phraseEnd_15 ⟨fun _ => k, fun h3 => absurd h3 (by decide)⟩, fun h2 => ?_⟩)⟩), fun h => absurd h (by decide)⟩)
  · rw [b2i_dz, Decidable.not_not] at h1
    omega
  · rw [b2i_dz, Decidable.not_not] at h2
    omega
theorem S_macrosIn_loop (hT : tX g n c) {x1 : Int32} {e : Nat} (he : e < 900) : ∀ (f i : Nat) (a : Int32), e - i = f → i < 900 → Q (.inl (some (.int (fU (ck c f i) a))), g, t) → am_GQ (51, 14, [(0, .ref 14), (1, .int x1), (2, .int (Int32.ofNat e)), (3, .int a), (4, .int (Int32.ofNat i))], [], g, t) Q := by
  intro f
  induction f with
  | zero =>
    intro i a h1 h2 k
    refine B_Macros_macrosIn_14 ⟨fun _ => k, fun h => ?_⟩
    rw [nn_lt (by omega) (by omega)] at h
    omega
  | succ f ih =>
    intro i a h1 h2 k
    refine B_Macros_macrosIn_14 ⟨fun h => ?_, fun _ => S_isMacroUseAt hT (by omega) (B_Macros_macrosIn_29 ⟨fun h => ?_, fun h => ?_⟩)⟩
    · rw [nn_le (by omega) (by omega)] at h
      omega
    · rw [b2i_dz] at h
      refine B_Macros_macrosIn_47 ?_
      rw [nn_add]
      refine ih _ _ (by omega) (by omega) ?_
      rw [ck] at k
      by_cases h3 : isNm (c i) (c (i + 1))
      · rw [if_pos h3, fU, if_pos (by unfold tf; omega)] at k
        exact k
      · rw [if_neg h3, if_neg h] at k
        exact k
    · rw [b2i_dz, Decidable.not_not] at h
      refine S_macroUsedAt hT (by omega) h (B_Macros_macrosIn_42 (S_setOf (B_Macros_macrosIn_45 (B_Macros_macrosIn_47 ?_))))
      rw [nn_add]
      refine ih _ _ (by omega) (by omega) ?_
      rw [ck, if_neg (by omega), if_pos h, fU, if_neg (by unfold tm; omega)] at k
      rw [tm, Nat.add_sub_cancel_left] at k
      exact k
theorem S_macrosIn (hT : tX g n c) {i : Nat} (hi : i ≤ n + 2) (k : Q (.inl (some (.int (fU (tk c 240 i) (Int32.ofNat 0)))), g, t)) : am_GQ (51, 0, [(0, .ref 14), (1, .int (Int32.ofNat i))], [], g, t) Q := by
  have := hT.1
  have := pe_le c 240 i
  refine B_Macros_macrosIn_0 (S_phraseEnd hT hi (B_Macros_macrosIn_8 (S_macrosIn_loop hT (by omega) _ i _ rfl (by omega) ?_)))
  rw [ck_tk]
  exact k
theorem S_macrosIn_neg (hT : tX g n c) (k : Q (.inl (some (.int (Int32.ofNat 0))), g, t)) : am_GQ (51, 0, [(0, .ref 14), (1, .int (-1))], [], g, t) Q :=
  B_Macros_macrosIn_0 (S_phraseEnd_neg (B_Macros_macrosIn_8 (B_Macros_macrosIn_14 ⟨fun _ => k, fun h => absurd h (by decide)⟩)) hT)
theorem S_filesIn_loop (hT : tX g n c) {x1 : Int32} {e : Nat} (he : e < 900) : ∀ (f i : Nat) (a : Int32), e - i = f → i < 900 → Q (.inl (some (.int (fF (g 17) (ck c f i) a))), g, t) → am_GQ (46, 14, [(0, .ref 14), (1, .int x1), (2, .int (Int32.ofNat e)), (3, .int a), (4, .int (Int32.ofNat i))], [], g, t) Q := by
  intro f
  induction f with
  | zero =>
    intro i a h1 h2 k
    refine B_Macros_filesIn_14 ⟨fun _ => k, fun h => ?_⟩
    rw [nn_lt (by omega) (by omega)] at h
    omega
  | succ f ih =>
    intro i a h1 h2 k
    refine B_Macros_filesIn_14 ⟨fun h => ?_, fun _ => S_isNameAt hT (by omega) (B_Macros_filesIn_29 ⟨fun h => ?_, fun h => ?_⟩)⟩
    · rw [nn_le (by omega) (by omega)] at h
      omega
    · rw [b2i_dz] at h
      refine S_isMacroUseAt hT (by omega) (B_Macros_filesIn_59 ⟨fun h3 => ?_, fun h3 => ?_⟩)
      · rw [b2i_dz] at h3
        refine B_Macros_filesIn_79 ?_
        rw [nn_add]
        refine ih _ _ (by omega) (by omega) ?_
        rw [ck, if_neg h, if_neg h3] at k
        exact k
      · rw [b2i_dz, Decidable.not_not] at h3
        refine S_macroUsedAt hT (by omega) h3 (B_Macros_filesIn_76 (am_chk_i (nn_in (by omega) (by omega)) (B_Macros_filesIn_79 ?_)))
        rw [nn_add, nn_nat (by omega)]
        refine ih _ _ (by omega) (by omega) ?_
        rw [ck, if_neg h, if_pos h3, fF, if_neg (by unfold tm; omega), tm, Nat.add_sub_cancel_left] at k
        exact k
    · rw [b2i_dz, Decidable.not_not] at h
      refine S_fileAt hT (by omega) h (B_Macros_filesIn_42 (S_setOf (B_Macros_filesIn_45 (B_Macros_filesIn_79 ?_))))
      rw [nn_add]
      refine ih _ _ (by omega) (by omega) ?_
      rw [ck, if_pos h, fF, if_pos (by unfold tf; omega)] at k
      exact k
theorem S_filesIn (hT : tX g n c) {i : Nat} (hi : i ≤ n + 2) (k : Q (.inl (some (.int (fF (g 17) (tk c 240 i) (Int32.ofNat 0)))), g, t)) : am_GQ (46, 0, [(0, .ref 14), (1, .int (Int32.ofNat i))], [], g, t) Q := by
  have := hT.1
  have := pe_le c 240 i
  refine B_Macros_filesIn_0 (S_phraseEnd hT hi (B_Macros_filesIn_8 (S_filesIn_loop hT (by omega) _ i _ rfl (by omega) ?_)))
  rw [ck_tk]
  exact k
theorem S_filesIn_neg (hT : tX g n c) (k : Q (.inl (some (.int (Int32.ofNat 0))), g, t)) : am_GQ (46, 0, [(0, .ref 14), (1, .int (-1))], [], g, t) Q :=
  B_Macros_filesIn_0 (S_phraseEnd_neg (B_Macros_filesIn_8 (B_Macros_filesIn_14 ⟨fun _ => k, fun h => absurd h (by decide)⟩)) hT)
theorem S_namesIn_loop (hT : tX g n c) {x1 : Int32} {e : Nat} (he : e < 900) {N : Nat → Nat} : ∀ (f i a : Nat), e - i = f → i < 900 → (∀ x ∈ ck c f i, 32 ≤ x → g 18 (x - 32) = Int32.ofNat (N (x - 32)) ∧ N (x - 32) ≤ 65) → a ≤ 65 * i → Q (.inl (some (.int (Int32.ofNat (min (a + fN N (ck c f i)) 65)))), g, t) → am_GQ (52, 14, [(0, .ref 14), (1, .int x1), (2, .int (Int32.ofNat e)), (3, .int (Int32.ofNat a)), (4, .int (Int32.ofNat i))], [], g, t) Q := by
  intro f
  induction f with
  | zero =>
    intro i a h1 h2 hN ha k
    refine B_Macros_namesIn_14 ⟨fun _ => ?_, fun h => ?_⟩
    · rw [ck, fN, Nat.add_zero] at k
      by_cases h65 : 65 < a
      · rw [if_pos ((nn_lt (by omega) (by omega)).mpr h65)]
        rw [Nat.min_eq_right (by omega)] at k
        exact k
      · rw [if_neg (fun z => h65 ((nn_lt (by omega) (by omega)).mp z))]
        rw [Nat.min_eq_left (by omega)] at k
        exact k
    · rw [nn_lt (by omega) (by omega)] at h
      omega
  | succ f ih =>
    intro i a h1 h2 hN ha k
    refine B_Macros_namesIn_14 ⟨fun h => ?_, fun _ => S_isNameAt hT (by omega) (B_Macros_namesIn_29 ⟨fun h => ?_, fun h => ?_⟩)⟩
    · rw [nn_le (by omega) (by omega)] at h
      omega
    · rw [b2i_dz] at h
      refine S_isMacroUseAt hT (by omega) (B_Macros_namesIn_47 ⟨fun h3 => ?_, fun h3 => ?_⟩)
      · rw [b2i_dz] at h3
        refine B_Macros_namesIn_67 ?_
        rw [nn_add]
        rw [ck, if_neg h, if_neg h3] at k hN
        exact ih _ _ (by omega) (by omega) hN (by omega) k
      · rw [b2i_dz, Decidable.not_not] at h3
        rw [ck, if_neg h, if_pos h3] at k hN
        have h4 := hN _ List.mem_cons_self (by unfold tm; omega)
        rw [tm, Nat.add_sub_cancel_left] at h4
        refine S_macroUsedAt hT (by omega) h3 (B_Macros_namesIn_64 (am_chk_i (nn_in (by omega) (by omega)) (B_Macros_namesIn_67 ?_)))
        rw [nn_nat (by omega), h4.1, nn_add, nn_add]
        refine ih _ _ (by omega) (by omega) (fun x hx => hN x (List.mem_cons_of_mem _ hx)) (by omega) ?_
        rw [fN, if_neg (by unfold tm; omega), tm, Nat.add_sub_cancel_left, ← Nat.add_assoc] at k
        exact k
    · rw [b2i_dz, Decidable.not_not] at h
      rw [ck, if_pos h] at k hN
      refine B_Macros_namesIn_67 ?_
      rw [nn_add, nn_add]
      refine ih _ _ (by omega) (by omega) (fun x hx => hN x (List.mem_cons_of_mem _ hx)) (by omega) ?_
      rw [fN, if_pos (by unfold tf; omega), ← Nat.add_assoc] at k
      exact k
theorem S_namesIn (hT : tX g n c) {i : Nat} (hi : i ≤ n + 2) {N : Nat → Nat} (hN : ∀ x ∈ tk c 240 i, 32 ≤ x → g 18 (x - 32) = Int32.ofNat (N (x - 32)) ∧ N (x - 32) ≤ 65) (k : Q (.inl (some (.int (Int32.ofNat (min (fN N (tk c 240 i)) 65)))), g, t)) : am_GQ (52, 0, [(0, .ref 14), (1, .int (Int32.ofNat i))], [], g, t) Q := by
  have := hT.1
  have := pe_le c 240 i
  refine B_Macros_namesIn_0 (S_phraseEnd hT hi (B_Macros_namesIn_8 (S_namesIn_loop hT (by omega) (N := N) _ i 0 rfl (by omega) ?_ (by omega) ?_)))
  · rw [ck_tk]
    exact hN
  · rw [ck_tk, Nat.zero_add]
    exact k
theorem S_namesIn_neg (hT : tX g n c) (k : Q (.inl (some (.int (Int32.ofNat 0))), g, t)) : am_GQ (52, 0, [(0, .ref 14), (1, .int (-1))], [], g, t) Q :=
  B_Macros_namesIn_0 (S_phraseEnd_neg (B_Macros_namesIn_8 (B_Macros_namesIn_14 ⟨fun _ => by rw [if_neg (by decide)]; exact k, fun h => absurd h (by decide)⟩)) hT)
theorem S_usesLooping (hT : tX g n c) {i : Nat} (hi : i ≤ n + 2) (k : Q (.inl (some (.int (b2i (decide (¬ fU (tk c 240 i) (Int32.ofNat 0) &&& g 14 5 = Int32.ofNat 0))))), g, t)) : am_GQ (53, 0, [(0, .ref 14), (1, .int (Int32.ofNat i))], [], g, t) Q :=
  B_Macros_usesLooping_0 (S_macrosIn hT hi (B_Macros_usesLooping_5 ⟨fun h => k_f k (fun z => z h), fun h => k_t k h⟩))
end
