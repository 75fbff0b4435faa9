abbrev isMh (a b : Nat) : Prop := 65 ≤ a ∧ a ≤ 90 ∧ b = 61
abbrev isPh (a b : Nat) : Prop := a = 37 ∧ 48 ≤ b ∧ b ≤ 51
abbrev isMac (c : Nat → Nat) (s e : Nat) : Prop := isMh (c s) (c (s + 1)) ∧ pe c 240 (s + 2) = e
abbrev isPat (c : Nat → Nat) (s e : Nat) : Prop := e - s = 5 ∧ isPh (c s) (c (s + 1)) ∧ c (s + 2) = 58 ∧ isPh (c (s + 3)) (c (s + 4))
abbrev isRul (c : Nat → Nat) (s e : Nat) : Prop := c (pe c 240 s) = 58 ∧ sp c (pe c 240 s - s) s = false ∧ pe c 240 (pe c 240 s + 1) = e
def kd (c : Nat → Nat) (s e : Nat) : Nat := if c s = 9 then 5 else if sp c (e - s) s = true then 1 else if isMac c s e then 2 else if isPat c s e then 4 else if isRul c s e then 3 else 0
theorem pe_le (c : Nat → Nat) : ∀ f i, pe c f i ≤ i + 2 * f
  | 0, i => by rw [pe]; omega
  | f + 1, i => by
    rw [pe]
    split
    · omega
    · have := pe_le c f (i + pt c i)
      have := pt_le c i
      omega
theorem pe_ge (c : Nat → Nat) : ∀ f i, i ≤ pe c f i
  | 0, i => by rw [pe]; omega
  | f + 1, i => by
    rw [pe]
    split
    · omega
    · have := pe_ge c f (i + pt c i)
      omega
section
variable {g : am_G} {t : Nat} {Q : am_R → Prop} {n : Nat} {c : Nat → Nat}
theorem pt_in (hT : tX g n c) {i : Nat} (h : i < n) : i + pt c i ≤ n := by
  have h5 := hT.2.2.2.2
  unfold pt
  split
  · omega
  · split
    · rename_i h1 h2
      by_cases e : i + 1 < n
      · omega
      · have := h5 (i + 1) (by omega)
        omega
    · omega
theorem pe_in (hT : tX g n c) : ∀ f i, i ≤ n → pe c f i ≤ n
  | 0, i, h => by rw [pe]; exact h
  | f + 1, i, h => by
    rw [pe]
    split
    · exact h
    · rename_i h1
      by_cases e : i < n
      · exact pe_in hT f _ (pt_in hT e)
      · exact absurd (pt_end hT (by omega)) h1
theorem S_isMacroHead {a b : Nat} (ha : a < 128) (hb : b < 128) (k : Q (.inl (some (.int (b2i (decide (isMh a b))))), g, t)) : am_GQ (5, 0, [(0, .int (Int32.ofNat a)), (1, .int (Int32.ofNat b))], [], g, t) Q := by
  refine B_D_isMacroHead_0 ?_
  simp (disch := omega) only [nn_lt, nn_le, nn_eq]
  have F : ¬ isMh a b → am_chk (am_isb (Int32.ofNat 0)) (Q (.inl (some (.int (Int32.ofNat 0))), g, t)) := fun e => am_chk_i rfl (by rw [b2i_f e] at k; exact k)
  have T : isMh a b → am_chk (am_isb (Int32.ofNat 1)) (Q (.inl (some (.int (Int32.ofNat 1))), g, t)) := fun e => am_chk_i rfl (by rw [b2i_t e] at k; exact k)
  refine ⟨fun h => F ?_, fun _ => ⟨fun h => F ?_, fun _ => ⟨fun h => F ?_, fun h => T ?_⟩⟩⟩ <;> omega
theorem S_isPatternHalf {a b : Nat} (ha : a < 128) (hb : b < 128) (k : Q (.inl (some (.int (b2i (decide (isPh a b))))), g, t)) : am_GQ (8, 0, [(0, .int (Int32.ofNat a)), (1, .int (Int32.ofNat b))], [], g, t) Q := by
  refine B_D_isPatternHalf_0 ?_
  simp (disch := omega) only [nn_lt, nn_le, nn_eq]
  have F : ¬ isPh a b → am_chk (am_isb (Int32.ofNat 0)) (Q (.inl (some (.int (Int32.ofNat 0))), g, t)) := fun e => am_chk_i rfl (by rw [b2i_f e] at k; exact k)
  have T : isPh a b → am_chk (am_isb (Int32.ofNat 1)) (Q (.inl (some (.int (Int32.ofNat 1))), g, t)) := fun e => am_chk_i rfl (by rw [b2i_t e] at k; exact k)
  refine ⟨fun h => F ?_, fun _ => ⟨fun h => F ?_, fun _ => ⟨fun h => F ?_, fun h => T ?_⟩⟩⟩ <;> omega
theorem k_f {P : Prop} [Decidable P] (k : Q (.inl (some (.int (b2i (decide P)))), g, t)) (h : ¬ P) : am_chk (am_isb (Int32.ofNat 0)) (Q (.inl (some (.int (Int32.ofNat 0))), g, t)) := am_chk_i rfl (by rw [b2i_f h] at k; exact k)
theorem k_t {P : Prop} [Decidable P] (k : Q (.inl (some (.int (b2i (decide P)))), g, t)) (h : P) : am_chk (am_isb (Int32.ofNat 1)) (Q (.inl (some (.int (Int32.ofNat 1))), g, t)) := am_chk_i rfl (by rw [b2i_t h] at k; exact k)
theorem S_isMacro (hT : tX g n c) {s e : Nat} (hs : s ≤ n) (he : e < 1000) (k : Q (.inl (some (.int (b2i (decide (isMac c s e))))), g, t)) : am_GQ (38, 0, [(0, .ref 11), (1, .int (Int32.ofNat s)), (2, .int (Int32.ofNat e))], [], g, t) Q := by
  have hn := hT.1
  refine B_Lines_isMacro_0 (S_codeAt hT (by omega) (B_Lines_isMacro_8 ?_))
  rw [nn_add]
  refine S_codeAt hT (by omega) (B_Lines_isMacro_18 (S_isMacroHead (hT.2.2.2.1 _) (hT.2.2.2.1 _) (B_Lines_isMacro_21 ⟨fun h => ?_, fun h => ?_⟩)))
  · rw [b2i_dz] at h
    exact k_f k (fun z => h z.1)
  · rw [b2i_dz, Decidable.not_not] at h
    rw [nn_add]
    refine S_phraseEnd hT (by omega) (B_Lines_isMacro_34 ?_)
    have := pe_le c 240 (s + 2)
    simp (disch := omega) only [nn_eq]
    exact ⟨fun h2 => k_f k (fun z => h2 z.2), fun h2 => k_t k ⟨h, h2⟩⟩
theorem S_isPattern (hT : tX g n c) {s e : Nat} (hs : s ≤ e) (he : e ≤ n) (k : Q (.inl (some (.int (b2i (decide (isPat c s e))))), g, t)) : am_GQ (39, 0, [(0, .ref 11), (1, .int (Int32.ofNat s)), (2, .int (Int32.ofNat e))], [], g, t) Q := by
  have hn := hT.1
  have h128 := hT.2.2.2.1
  refine B_Lines_isPattern_0 ?_
  simp (disch := omega) only [nn_sub, nn_eq]
  refine ⟨fun h => k_f k (fun z => h z.1), fun h0 => S_codeAt hT (by omega) (B_Lines_isPattern_15 ?_)⟩
  rw [nn_add]
  refine S_codeAt hT (by omega) (B_Lines_isPattern_25 (S_isPatternHalf (h128 _) (h128 _) (B_Lines_isPattern_28 ⟨fun h => ?_, fun h => ?_⟩)))
  · rw [b2i_dz] at h
    exact k_f k (fun z => h z.2.1)
  rw [b2i_dz, Decidable.not_not] at h
  rw [nn_add]
  refine S_codeAt hT (by omega) (B_Lines_isPattern_41 ?_)
  have := h128 (s + 2)
  simp (disch := omega) only [nn_eq]
  refine ⟨fun h2 => k_f k (fun z => h2 z.2.2.1), fun h2 => ?_⟩
  rw [nn_add]
  refine S_codeAt hT (by omega) (B_Lines_isPattern_56 ?_)
  rw [nn_add]
  refine S_codeAt hT (by omega) (B_Lines_isPattern_66 (S_isPatternHalf (h128 _) (h128 _) (B_Lines_isPattern_69 ⟨fun h3 => ?_, fun h3 => ?_⟩)))
  · rw [b2i_dz] at h3
    exact k_f k (fun z => h3 z.2.2.2)
  · rw [b2i_dz, Decidable.not_not] at h3
    exact k_t k ⟨h0, h, h2, h3⟩
theorem S_isRule (hT : tX g n c) {s e : Nat} (hs : s ≤ n) (he : e < 1000) (k : Q (.inl (some (.int (b2i (decide (isRul c s e))))), g, t)) : am_GQ (40, 0, [(0, .ref 11), (1, .int (Int32.ofNat s)), (2, .int (Int32.ofNat e))], [], g, t) Q := by
  have hn := hT.1
  have hp := pe_in hT 240 s hs
  have h1 := hT.2.2.2.1 (pe c 240 s)
  refine B_Lines_isRule_0 (S_phraseEnd hT (by omega) (B_Lines_isRule_8 (S_codeAt hT (by omega) (B_Lines_isRule_17 ?_))))
  simp (disch := omega) only [nn_eq]
  refine ⟨fun h => k_f k (fun z => h z.1), fun h => S_onlySpaces hT (by omega) (by omega) (B_Lines_isRule_31 ⟨fun h2 => ?_, fun h2 => ?_⟩)⟩
  · rw [b2i_nz] at h2
    exact k_f k (fun z => by rw [z.2.1] at h2; cases h2)
  · rw [b2i_z] at h2
    rw [nn_add]
    refine S_phraseEnd hT (by omega) (B_Lines_isRule_44 ?_)
    have := pe_le c 240 (pe c 240 s + 1)
    simp (disch := omega) only [nn_eq]
    exact ⟨fun h3 => k_f k (fun z => h3 z.2.2), fun h3 => k_t k ⟨h, h2, h3⟩⟩
theorem S_kindOf (hT : tX g n c) {s e : Nat} (hs : s ≤ e) (he : e ≤ n) (k : Q (.inl (some (.ref (kd c s e))), g, t)) : am_GQ (41, 0, [(0, .ref 11), (1, .int (Int32.ofNat s)), (2, .int (Int32.ofNat e))], [], g, t) Q := by
  have hn := hT.1
  have h1 := hT.2.2.2.1 s
  unfold kd at k
  refine B_Lines_kindOf_0 (S_codeAt hT (by omega) (B_Lines_kindOf_8 ?_))
  simp (disch := omega) only [nn_eq]
  refine ⟨fun h => S_onlySpaces hT (by omega) (by omega) (B_Lines_kindOf_26 ⟨fun h2 => ?_, fun h2 => ?_⟩), fun h => ?_⟩
  · rw [b2i_z] at h2
    rw [if_neg h, if_neg (by rw [h2]; decide)] at k
    refine S_isMacro hT (by omega) (by omega) (B_Lines_kindOf_39 ⟨fun h3 => ?_, fun h3 => ?_⟩)
    · rw [b2i_dz] at h3
      rw [if_neg h3] at k
      refine S_isPattern hT hs he (B_Lines_kindOf_52 ⟨fun h4 => ?_, fun h4 => ?_⟩)
      · rw [b2i_dz] at h4
        rw [if_neg h4] at k
        refine S_isRule hT (by omega) (by omega) (B_Lines_kindOf_65 ⟨fun h5 => ?_, fun h5 => ?_⟩)
        · rw [b2i_dz] at h5
          rw [if_neg h5] at k
          exact am_chk_i rfl k
        · rw [b2i_dz, Decidable.not_not] at h5
          rw [if_pos h5] at k
          exact am_chk_i rfl k
      · rw [b2i_dz, Decidable.not_not] at h4
        rw [if_pos h4] at k
        exact am_chk_i rfl k
    · rw [b2i_dz, Decidable.not_not] at h3
      rw [if_pos h3] at k
      exact am_chk_i rfl k
  · rw [b2i_nz] at h2
    rw [if_neg h, if_pos h2] at k
    exact am_chk_i rfl k
  · rw [if_pos h] at k
    exact am_chk_i rfl k
end
