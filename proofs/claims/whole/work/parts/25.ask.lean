def kn (L : List (Nat × Nat)) (j : Nat) : Nat := match L[j]? with
  | some q => q.2
  | none => 9
def pv (L : List (Nat × Nat)) : Nat → Nat
  | 0 => 9
  | j + 1 => kn L j
def sn (L : List (Nat × Nat)) (j : Nat) : Nat := match L[j]? with
  | some q => q.1
  | none => 0
abbrev okL (L : List (Nat × Nat)) (j : Nat) : Prop := if kn L j = 5 then (pv L j = 3 ∨ pv L j = 4 ∨ pv L j = 5) else ¬ pv L j = 4
def fi (L : List (Nat × Nat)) : Nat → Nat → Nat
  | 0, j => if pv L j = 4 then j else 0
  | f + 1, j => if kn L j = 0 ∨ ¬ okL L j then j + 1 else fi L f (j + 1)
theorem neg_one : Int32.ofNat 0 - Int32.ofNat 1 = -1 := by decide
section
variable {g : am_G} {t : Nat} {Q : am_R → Prop} {n : Nat} {c : Nat → Nat} {L : List (Nat × Nat)}
theorem kn_none {j : Nat} (h : L.length ≤ j) : kn L j = 9 := by
  unfold kn
  rw [List.getElem?_eq_none h]
theorem lX_at (hL : lX g L) {j : Nat} (h : j < L.length) : g 12 j = Int32.ofNat (sn L j) ∧ g 13 j = Int32.ofNat (kn L j + 1) ∧ kn L j < 6 ∧ sn L j ≤ 240 := by
  have e : L[j]? = some (L[j].1, L[j].2) := List.getElem?_eq_getElem h
  have h2 := hL.2.2 j _ _ e
  unfold sn kn
  rw [e]
  exact h2
theorem S_count (hL : lX g L) (k : Q (.inl (some (.int (Int32.ofNat L.length))), g, t)) : am_GQ (34, 0, [(0, .ref 11)], [], g, t) Q := by
  refine B_Lines_count_0 ?_
  rw [hL.2.1]
  exact k
theorem S_startOf (hL : lX g L) {j : Nat} (hj : j < L.length) (k : Q (.inl (some (.int (Int32.ofNat (sn L j)))), g, t)) : am_GQ (44, 0, [(0, .ref 11), (1, .int (Int32.ofNat j))], [], g, t) Q := by
  have hl := hL.1
  refine B_Lines_startOf_0 ?_
  rw [hL.2.1]
  simp (disch := omega) only [nn_lt, nn_le, nn_nat]
  refine ⟨fun h => by omega, fun _ => ⟨fun h => by omega, fun _ => am_chk_i (nn_in (by omega) (by omega)) ?_⟩⟩
  rw [(lX_at hL hj).1]
  exact k
theorem S_isKind (hL : lX g L) {j q : Nat} (hj : j < 1000) (hq : q < 6) (k : Q (.inl (some (.int (b2i (decide (kn L j = q))))), g, t)) : am_GQ (37, 0, [(0, .ref 11), (1, .int (Int32.ofNat j)), (2, .ref q)], [], g, t) Q := by
  have hl := hL.1
  refine B_Lines_isKind_0 ?_
  rw [hL.2.1]
  simp (disch := omega) only [nn_lt, nn_le, nn_nat]
  refine ⟨fun h => by omega, fun _ => ⟨fun h => k_f k (by rw [kn_none h]; omega), fun h => ?_⟩⟩
  obtain ⟨_, h2, h3, _⟩ := lX_at hL h
  rw [h2]
  simp (disch := omega) only [nn_sub, nn_nat, Nat.add_sub_cancel, nn_eq]
  refine am_chk_i ?_ (am_chk_i ?_ ⟨fun h => k_f k h, fun h => k_t k h⟩)
  · rw [nn_in (by omega) (by omega), nn_in h3 (by omega)]; rfl
  · rw [Nat.blt_eq.mpr h3, Nat.blt_eq.mpr hq]; rfl
theorem S_isKind_neg {q : Nat} (k : Q (.inl (some (.int (Int32.ofNat 0))), g, t)) : am_GQ (37, 0, [(0, .ref 11), (1, .int (-1)), (2, .ref q)], [], g, t) Q :=
  B_Lines_isKind_0 ⟨fun _ => am_chk_i rfl k, fun h => absurd h (by decide)⟩
theorem S_isKind_pv (hL : lX g L) {j q : Nat} (hj : j < 1000) (hq : q < 6) (k : Q (.inl (some (.int (b2i (decide (pv L j = q))))), g, t)) : am_GQ (37, 0, [(0, .ref 11), (1, .int (Int32.ofNat j - Int32.ofNat 1)), (2, .ref q)], [], g, t) Q := by
  cases j with
  | zero =>
    rw [neg_one]
    refine S_isKind_neg ?_
    rw [b2i_f (by show ¬ 9 = q; omega)] at k
    exact k
  | succ j =>
    rw [nn_sub (by omega), Nat.add_sub_cancel]
    exact S_isKind hL (by omega) hq k
theorem S_hasRecipe (hL : lX g L) {j : Nat} (hj : j < 900) (k : Q (.inl (some (.int (b2i (decide (kn L (j + 1) = 5))))), g, t)) : am_GQ (36, 0, [(0, .ref 11), (1, .int (Int32.ofNat j))], [], g, t) Q := by
  refine B_Lines_hasRecipe_0 ?_
  rw [nn_add]
  exact S_isKind hL (by omega) (by omega) (B_Lines_hasRecipe_10 (am_chk_i (b2i_isb _) k))
theorem S_maySucceed (hL : lX g L) {j : Nat} (hj : j < 900) (k : Q (.inl (some (.int (b2i (decide (okL L j))))), g, t)) : am_GQ (42, 0, [(0, .ref 11), (1, .int (Int32.ofNat j))], [], g, t) Q := by
  refine B_Lines_maySucceed_0 (S_isKind hL (by omega) (by omega) (B_Lines_maySucceed_8 ⟨fun h => ?_, fun h => ?_⟩))
  · rw [b2i_dz] at h
    refine S_isKind_pv hL (by omega) (by omega) (B_Lines_maySucceed_66 ⟨fun h2 => ?_, fun h2 => ?_⟩)
    · rw [b2i_dz, Decidable.not_not] at h2
      exact k_f k (fun z => by rw [okL, if_neg h] at z; exact z h2)
    · rw [b2i_dz] at h2
      exact k_t k (by rw [okL, if_neg h]; exact h2)
  · rw [b2i_dz, Decidable.not_not] at h
    refine S_isKind_pv hL (by omega) (by omega) (B_Lines_maySucceed_21 ⟨fun h2 => ?_, fun h2 => ?_⟩)
    · rw [b2i_dz, Decidable.not_not] at h2
      exact k_t k (by rw [okL, if_pos h]; exact Or.inl h2)
    rw [b2i_dz] at h2
    refine S_isKind_pv hL (by omega) (by omega) (B_Lines_maySucceed_34 ⟨fun h3 => ?_, fun h3 => ?_⟩)
    · rw [b2i_dz, Decidable.not_not] at h3
      exact k_t k (by rw [okL, if_pos h]; exact Or.inr (Or.inl h3))
    rw [b2i_dz] at h3
    refine S_isKind_pv hL (by omega) (by omega) (B_Lines_maySucceed_47 ⟨fun h4 => ?_, fun h4 => ?_⟩)
    · rw [b2i_dz] at h4
      exact k_f k (fun z => by rw [okL, if_pos h] at z; omega)
    · rw [b2i_dz, Decidable.not_not] at h4
      exact k_t k (by rw [okL, if_pos h]; exact Or.inr (Or.inr h4))
theorem S_firstIll_loop (hL : lX g L) : ∀ (f j : Nat), j + f = L.length → Q (.inl (some (.int (Int32.ofNat (fi L f j)))), g, t) → am_GQ (35, 2, [(0, .ref 11), (1, .int (Int32.ofNat j))], [], g, t) Q := by
  have hl := hL.1
  intro f
  induction f with
  | zero =>
    intro j hj k
    have e : j = L.length := by omega
    subst e
    refine B_Lines_firstIllFormed_2 ?_
    rw [hL.2.1]
    refine ⟨fun _ => S_isKind_pv hL (by omega) (by omega) (B_Lines_firstIllFormed_52 ⟨fun h => ?_, fun h => ?_⟩), fun h => ?_⟩
    · rw [b2i_dz] at h
      rw [fi, if_neg h] at k
      exact k
    · rw [b2i_dz, Decidable.not_not] at h
      rw [fi, if_pos h] at k
      rw [hL.2.1]
      exact k
    · rw [nn_lt (by omega) (by omega)] at h
      omega
  | succ f ih =>
    intro j hj k
    rw [fi] at k
    refine B_Lines_firstIllFormed_2 ?_
    rw [hL.2.1]
    refine ⟨fun h => ?_, fun _ => S_isKind hL (by omega) (by omega) (B_Lines_firstIllFormed_18 ⟨fun h => ?_, fun h => ?_⟩)⟩
    · rw [nn_le (by omega) (by omega)] at h
      omega
    · rw [b2i_dz, Decidable.not_not] at h
      rw [if_pos (Or.inl h)] at k
      rw [nn_add]
      exact k
    · rw [b2i_dz] at h
      refine S_maySucceed hL (by omega) (B_Lines_firstIllFormed_26 ⟨fun h2 => ?_, fun h2 => ?_⟩)
      · rw [b2i_dz, Decidable.not_not] at h2
        rw [if_neg (fun z => z.elim h (fun z => z h2))] at k
        rw [nn_add]
        exact ih _ (by omega) k
      · rw [b2i_dz] at h2
        rw [if_pos (Or.inr h2)] at k
        rw [nn_add]
        exact k
theorem S_firstIll (hL : lX g L) (k : Q (.inl (some (.int (Int32.ofNat (fi L L.length 0)))), g, t)) : am_GQ (35, 0, [(0, .ref 11)], [], g, t) Q :=
  B_Lines_firstIllFormed_0 (S_firstIll_loop hL _ 0 (by omega) k)
end
