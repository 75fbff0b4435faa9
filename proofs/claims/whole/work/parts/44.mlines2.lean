theorem nlE_ok (c : Nat → Nat) : ∀ f i, i ≤ nlE c f i ∧ nlE c f i ≤ i + f ∧ (nlE c f i < i + f → c (nlE c f i) = 10) ∧ ∀ j, i ≤ j → j < nlE c f i → c j ≠ 10
  | 0, i => by rw [nlE]; exact ⟨Nat.le_refl _, by omega, fun h => by omega, fun j a b => by omega⟩
  | f + 1, i => by
    rw [nlE]
    by_cases e : c i = 10
    · rw [if_pos e]; exact ⟨Nat.le_refl _, by omega, fun _ => e, fun j a b => by omega⟩
    · rw [if_neg e]
      obtain ⟨a1, a2, a3, a4⟩ := nlE_ok c f (i + 1)
      refine ⟨by omega, by omega, fun h => a3 (by omega), fun j b1 b2 => ?_⟩
      by_cases e2 : j = i
      · rw [e2]; exact e
      · exact a4 j (by omega) b2
theorem ls_step (c : Nat → Nat) : ∀ f a s, s ≤ a → ls c f a s = if nlE c f a < a + f then (s, kd c s (nlE c f a)) :: ls c (a + f - (nlE c f a + 1)) (nlE c f a + 1) (nlE c f a + 1) else if s < a + f then [(s, 0)] else []
  | 0, a, s, h => by
    rw [ls, nlE, if_neg (by omega : ¬ a < a + 0)]
    rfl
  | f + 1, a, s, h => by
    rw [ls, nlE]
    by_cases e : c a = 10
    · rw [if_pos e, if_pos e, if_pos (by omega), show a + (f + 1) - (a + 1) = f by omega]
    · rw [if_neg e, if_neg e, ls_step c f (a + 1) s (by omega), show a + 1 + f = a + (f + 1) by omega]
theorem ls_line {c : Nat → Nat} {n s : Nat} (hs : s < n) (h : nlE c (n - s) s < n) : ls c (n - s) s s = (s, kd c s (nlE c (n - s) s)) :: ls c (n - (nlE c (n - s) s + 1)) (nlE c (n - s) s + 1) (nlE c (n - s) s + 1) := by
  rw [ls_step c (n - s) s s (Nat.le_refl _), show s + (n - s) = n by omega, if_pos h]
theorem ls_open {c : Nat → Nat} {n s : Nat} (hs : s < n) (h : ¬ nlE c (n - s) s < n) : ls c (n - s) s s = [(s, 0)] := by
  rw [ls_step c (n - s) s s (Nat.le_refl _), show s + (n - s) = n by omega, if_neg h, if_pos hs]
theorem ls_end (c : Nat → Nat) {n s : Nat} (hs : n ≤ s) : ls c (n - s) s s = [] := by
  rw [show n - s = 0 by omega, ls, if_neg (Nat.lt_irrefl _)]
