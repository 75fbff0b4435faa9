def b2i (b : Bool) : Int32 := bif b then Int32.ofNat 1 else Int32.ofNat 0
theorem b2i_isb (b : Bool) : am_isb (b2i b) = true := by cases b <;> rfl
theorem b2i_z {b : Bool} : b2i b = Int32.ofNat 0 ↔ b = false := by cases b <;> decide
theorem b2i_nz {b : Bool} : ¬ b2i b = Int32.ofNat 0 ↔ b = true := by cases b <;> decide
theorem b2i_t {P : Prop} [Decidable P] (h : P) : b2i (decide P) = Int32.ofNat 1 := by rw [decide_eq_true h]; rfl
theorem b2i_f {P : Prop} [Decidable P] (h : ¬ P) : b2i (decide P) = Int32.ofNat 0 := by rw [decide_eq_false h]; rfl
theorem b2i_dz {P : Prop} [Decidable P] : b2i (decide P) = Int32.ofNat 0 ↔ ¬ P := by rw [b2i_z, decide_eq_false_iff_not]
def tX (g : am_G) (n : Nat) (c : Nat → Nat) : Prop := n ≤ 240 ∧ g 9 1 = Int32.ofNat n ∧ (∀ i, i < n → g 10 i = Int32.ofNat (c i)) ∧ (∀ i, c i < 128) ∧ (∀ i, n ≤ i → c i = 0)
abbrev isNm (a b : Nat) : Prop := 97 ≤ a ∧ a ≤ 104 ∧ 48 ≤ b ∧ b ≤ 51
abbrev isMu (a b : Nat) : Prop := a = 36 ∧ 65 ≤ b ∧ b ≤ 90
def pt (c : Nat → Nat) (i : Nat) : Nat := if c i = 32 then 1 else if isNm (c i) (c (i + 1)) ∨ isMu (c i) (c (i + 1)) then 2 else 0
def pe (c : Nat → Nat) : Nat → Nat → Nat
  | 0, i => i
  | f + 1, i => if pt c i = 0 then i else pe c f (i + pt c i)
section
variable {g : am_G} {t : Nat} {Q : am_R → Prop} {n : Nat} {c : Nat → Nat}
theorem S_codeAt (hT : tX g n c) {i : Nat} (hi : i < 2147483648) (k : Q (.inl (some (.int (Int32.ofNat (c i)))), g, t)) : am_GQ (78, 0, [(0, .ref 9), (1, .int (Int32.ofNat i))], [], g, t) Q := by
  obtain ⟨h1, h2, h3, h4, h5⟩ := hT
  refine B_Text_codeAt_0 ?_
  simp (disch := omega) only [h2, nn_lt, nn_le, nn_nat]
  refine ⟨fun h => absurd h (Nat.not_lt_zero _), fun _ => ⟨fun h => ?_, fun h => ?_⟩⟩
  · rw [h5 i h] at k
    exact am_chk_i rfl k
  · rw [h3 i h]
    refine am_chk_i (nn_in (by omega) (by omega)) (am_chk_i ?_ k)
    have := h4 i
    simp only [am_isc, Bool.and_eq_true, decide_eq_true_eq]
    exact ⟨(nn_le (m := 0) (by omega) (by omega)).mpr (by omega), (nn_lt (n := 65536) (by omega) (by omega)).mpr (by omega)⟩
theorem S_codeAt_neg (k : Q (.inl (some (.int (Int32.ofNat 0))), g, t)) : am_GQ (78, 0, [(0, .ref 9), (1, .int (-1))], [], g, t) Q :=
  B_Text_codeAt_0 ⟨fun _ => am_chk_i rfl k, fun h => absurd h (by decide)⟩
theorem S_isName {a b : Nat} (ha : a < 128) (hb : b < 128) (k : Q (.inl (some (.int (b2i (decide (isNm a b))))), g, t)) : am_GQ (7, 0, [(0, .int (Int32.ofNat a)), (1, .int (Int32.ofNat b))], [], g, t) Q := by
  refine B_D_isName_0 ?_
  simp (disch := omega) only [nn_lt, nn_le]
  have F : ¬ isNm a b → am_chk (am_isb (Int32.ofNat 0)) (Q (.inl (some (.int (Int32.ofNat 0))), g, t)) := fun e => am_chk_i rfl (by rw [b2i_f e] at k; exact k)
  have T : isNm a b → am_chk (am_isb (Int32.ofNat 1)) (Q (.inl (some (.int (Int32.ofNat 1))), g, t)) := fun e => am_chk_i rfl (by rw [b2i_t e] at k; exact k)
  refine ⟨fun h => F ?_, fun _ => ⟨fun h => F ?_, fun _ => ⟨fun h => F ?_, fun _ => ⟨fun h => F ?_, fun h => T ?_⟩⟩⟩⟩ <;> omega
theorem S_isMacroUse {a b : Nat} (ha : a < 128) (hb : b < 128) (k : Q (.inl (some (.int (b2i (decide (isMu a b))))), g, t)) : am_GQ (6, 0, [(0, .int (Int32.ofNat a)), (1, .int (Int32.ofNat b))], [], g, t) Q := by
  refine B_D_isMacroUse_0 ?_
  simp (disch := omega) only [nn_lt, nn_le, nn_eq]
  have F : ¬ isMu a b → am_chk (am_isb (Int32.ofNat 0)) (Q (.inl (some (.int (Int32.ofNat 0))), g, t)) := fun e => am_chk_i rfl (by rw [b2i_f e] at k; exact k)
  have T : isMu a b → am_chk (am_isb (Int32.ofNat 1)) (Q (.inl (some (.int (Int32.ofNat 1))), g, t)) := fun e => am_chk_i rfl (by rw [b2i_t e] at k; exact k)
  refine ⟨fun h => F ?_, fun _ => ⟨fun h => F ?_, fun _ => ⟨fun h => F ?_, fun h => T ?_⟩⟩⟩ <;> omega
theorem S_isNameAt (hT : tX g n c) {i : Nat} (hi : i < 2147483647) (k : Q (.inl (some (.int (b2i (decide (isNm (c i) (c (i + 1))))))), g, t)) : am_GQ (82, 0, [(0, .ref 9), (1, .int (Int32.ofNat i))], [], g, t) Q := by
  refine B_Text_isNameAt_0 (S_codeAt hT (by omega) (B_Text_isNameAt_5 ?_))
  rw [nn_add]
  exact S_codeAt hT (by omega) (B_Text_isNameAt_12 (S_isName (hT.2.2.2.1 _) (hT.2.2.2.1 _) (B_Text_isNameAt_15 (am_chk_i (b2i_isb _) k))))
theorem S_isMacroUseAt (hT : tX g n c) {i : Nat} (hi : i < 2147483647) (k : Q (.inl (some (.int (b2i (decide (isMu (c i) (c (i + 1))))))), g, t)) : am_GQ (81, 0, [(0, .ref 9), (1, .int (Int32.ofNat i))], [], g, t) Q := by
  refine B_Text_isMacroUseAt_0 (S_codeAt hT (by omega) (B_Text_isMacroUseAt_5 ?_))
  rw [nn_add]
  exact S_codeAt hT (by omega) (B_Text_isMacroUseAt_12 (S_isMacroUse (hT.2.2.2.1 _) (hT.2.2.2.1 _) (B_Text_isMacroUseAt_15 (am_chk_i (b2i_isb _) k))))
theorem S_partAt (hT : tX g n c) {i : Nat} (hi : i < 2147483647) (k : Q (.inl (some (.int (Int32.ofNat (pt c i)))), g, t)) : am_GQ (87, 0, [(0, .ref 9), (1, .int (Int32.ofNat i))], [], g, t) Q := by
  have ha := hT.2.2.2.1 i
  have hb := hT.2.2.2.1 (i + 1)
  refine B_Text_partAt_0 (S_codeAt hT (by omega) (B_Text_partAt_5 ?_))
  rw [nn_add]
  refine S_codeAt hT (by omega) (B_Text_partAt_13 ?_)
  simp (disch := omega) only [nn_eq]
  refine ⟨fun h => S_isName ha hb (B_Text_partAt_27 ⟨fun h1 => ?_, fun h1 => S_isMacroUse ha hb (B_Text_partAt_35 ⟨fun h2 => ?_, fun h2 => ?_⟩)⟩), fun h => ?_⟩
  · rw [b2i_dz] at h1
    have e : pt c i = 2 := by unfold pt; rw [if_neg h, if_pos (Or.inl (Decidable.of_not_not h1))]
    rw [e] at k; exact k
  · rw [b2i_dz] at h1 h2
    have e : pt c i = 0 := by unfold pt; rw [if_neg h, if_neg (fun z => z.elim h1 h2)]
    rw [e] at k; exact k
  · rw [b2i_dz] at h2
    have e : pt c i = 2 := by unfold pt; rw [if_neg h, if_pos (Or.inr (Decidable.of_not_not h2))]
    rw [e] at k; exact k
  · have e : pt c i = 1 := by unfold pt; rw [if_pos h]
    rw [e] at k; exact k
theorem pt_end (hT : tX g n c) {i : Nat} (h : n ≤ i) : pt c i = 0 := by
  have e := hT.2.2.2.2 i h
  unfold pt
  rw [e]
  rfl
theorem pt_le (c : Nat → Nat) (i : Nat) : pt c i ≤ 2 := by
  unfold pt
  split
  · omega
  · split <;> omega
theorem S_phraseEnd_loop (hT : tX g n c) {x : Value} : ∀ (f i : Nat), n ≤ i + f → i ≤ n + 2 → Q (.inl (some (.int (Int32.ofNat (pe c f i)))), g, t) → ∀ {x1 : Int32}, am_GQ (88, 2, [(0, .ref 9), (1, .int x1), (2, .int (Int32.ofNat i))], [], g, t) Q := by
  have hn := hT.1
  intro f
  induction f with
  | zero =>
    intro i h1 h2 k x1
    refine B_Text_phraseEnd_2 ⟨fun _ => k, fun h => ?_⟩
    rw [hT.2.1, nn_lt (by omega) (by omega)] at h
    omega
  | succ f ih =>
    intro i h1 h2 k x1
    refine B_Text_phraseEnd_2 ⟨fun h => ?_, fun h => S_partAt hT (by omega) (B_Text_phraseEnd_15 ⟨fun h3 => ?_, fun h3 => ?_⟩)⟩
    · rw [hT.2.1, nn_le (by omega) (by omega)] at h
      rw [pe, if_pos (pt_end hT h)] at k
      exact k
    · rw [nn_le (by have := pt_le c i; omega) (by omega)] at h3
      rw [pe, if_pos (by omega)] at k
      exact k
    · rw [nn_lt (by omega) (by have := pt_le c i; omega)] at h3
      rw [hT.2.1, nn_lt (by omega) (by omega)] at h
      have := pt_le c i
      rw [pe, if_neg (by omega)] at k
      refine S_partAt hT (by omega) (B_Text_phraseEnd_24 ?_)
      rw [nn_add]
      exact ih _ (by omega) (by omega) k
theorem S_phraseEnd (hT : tX g n c) {i : Nat} (hi : i ≤ n + 2) (k : Q (.inl (some (.int (Int32.ofNat (pe c 240 i)))), g, t)) : am_GQ (88, 0, [(0, .ref 9), (1, .int (Int32.ofNat i))], [], g, t) Q :=
  B_Text_phraseEnd_0 (S_phraseEnd_loop (x := .null) hT 240 i (by have := hT.1; omega) hi k)
end
