abbrev Rl : Type := Nat → Nat → Bool
def wB (v : Nat) (R : Rl) : Rl := fun m k => R m k || (R m v && R v k)
def wsB : Nat → Rl → Rl
  | 0, R => R
  | v + 1, R => wB v (wsB v R)
theorem wsB_in (R : Rl) : ∀ v m k, R m k = true → wsB v R m k = true
  | 0, _, _, h => h
  | v + 1, m, k, h => by rw [wsB, wB, wsB_in R v m k h]; rfl
theorem wsB_trans (R : Rl) : ∀ v m a k, a < v → wsB v R m a = true → wsB v R a k = true → wsB v R m k = true
  | 0, _, _, _, h, _, _ => absurd h (Nat.not_lt_zero _)
  | v + 1, m, a, k, h, h1, h2 => by
    rw [wsB, wB, Bool.or_eq_true, Bool.and_eq_true] at h1 h2 ⊢
    have ih := wsB_trans R v
    by_cases e : a = v
    · subst e
      have x1 : wsB a R m a = true := h1.elim id And.left
      have x2 : wsB a R a k = true := h2.elim id And.right
      exact Or.inr ⟨x1, x2⟩
    · have ha : a < v := by omega
      rcases h1 with h1 | h1 <;> rcases h2 with h2 | h2
      · exact Or.inl (ih m a k ha h1 h2)
      · exact Or.inr ⟨ih m a v ha h1 h2.1, h2.2⟩
      · exact Or.inr ⟨h1.1, ih v a k ha h1.2 h2⟩
      · exact Or.inr ⟨h1.1, h2.2⟩
theorem wsB_least {N : Nat} {R T : Rl} (hR : ∀ m k, R m k = true → T m k = true) (hT : ∀ m a k, a < N → T m a = true → T a k = true → T m k = true) : ∀ v, v ≤ N → ∀ m k, wsB v R m k = true → T m k = true
  | 0, _, m, k, h => hR m k h
  | v + 1, hv, m, k, h => by
    rw [wsB, wB, Bool.or_eq_true, Bool.and_eq_true] at h
    have ih := wsB_least hR hT v (by omega)
    rcases h with h | h
    · exact ih m k h
    · exact hT m v k (by omega) (ih m v h.1) (ih v k h.2)
def cnt (x : Nat → Bool) : Nat → Nat
  | 0 => 0
  | n + 1 => cnt x n + (if x n = true then 1 else 0)
theorem cnt_le (x : Nat → Bool) : ∀ n, cnt x n ≤ n
  | 0 => Nat.le_refl _
  | n + 1 => by have := cnt_le x n; rw [cnt]; split <;> omega
theorem cnt_mono {x y : Nat → Bool} : ∀ n, (∀ i, i < n → x i = true → y i = true) → cnt x n ≤ cnt y n
  | 0, _ => Nat.le_refl _
  | n + 1, h => by
    have := cnt_mono n (fun i hi => h i (by omega))
    rw [cnt, cnt]
    by_cases e : x n = true
    · rw [if_pos e, if_pos (h n (by omega) e)]; omega
    · rw [if_neg e]; split <;> omega
theorem cnt_lt {x y : Nat → Bool} : ∀ n, (∀ i, i < n → x i = true → y i = true) → (∃ i, i < n ∧ x i = false ∧ y i = true) → cnt x n < cnt y n
  | 0, _, ⟨i, hi, _⟩ => absurd hi (Nat.not_lt_zero _)
  | n + 1, h, ⟨i, hi, h1, h2⟩ => by
    have hm := cnt_mono n (fun i hi => h i (Nat.lt_succ_of_lt hi))
    rw [cnt, cnt]
    by_cases e : i = n
    · subst e
      rw [if_neg (by rw [h1]; decide), if_pos h2]; omega
    · have := cnt_lt n (fun i hi => h i (Nat.lt_succ_of_lt hi)) ⟨i, by omega, h1, h2⟩
      by_cases e2 : x n = true
      · rw [if_pos e2, if_pos (h n (by omega) e2)]; omega
      · rw [if_neg e2]; split <;> omega
theorem cnt_full {x : Nat → Bool} : ∀ n, n ≤ cnt x n → ∀ i, i < n → x i = true
  | 0, _, i, hi => absurd hi (Nat.not_lt_zero _)
  | n + 1, h, i, hi => by
    have := cnt_le x n
    rw [cnt] at h
    by_cases e : x n = true
    · rw [if_pos e] at h
      by_cases e2 : i = n
      · rw [e2]; exact e
      · exact cnt_full n (by omega) i (by omega)
    · rw [if_neg e] at h; omega
theorem cnt_congr {x y : Nat → Bool} {n : Nat} (h : ∀ i, i < n → x i = y i) : cnt x n = cnt y n := Nat.le_antisymm (cnt_mono n (fun i hi e => by rw [← h i hi]; exact e)) (cnt_mono n (fun i hi e => by rw [h i hi]; exact e))
def itr {α : Type} (F : α → α) : Nat → α → α
  | 0, x => x
  | r + 1, x => F (itr F r x)
theorem rest {n : Nat} {F : (Nat → Bool) → (Nat → Bool)} (hin : ∀ x i, i < n → x i = true → F x i = true) (hex : ∀ x y, (∀ i, i < n → x i = y i) → ∀ i, i < n → F x i = F y i) (x : Nat → Bool) :
    ∀ r, n ≤ r → ∀ i, i < n → F (itr F r x) i = itr F r x i := by
  have fixp : ∀ r, (∀ i, i < n → F (itr F r x) i = itr F r x i) → ∀ d, ∀ i, i < n → F (itr F (r + d) x) i = itr F (r + d) x i := by
    intro r h d
    induction d with
    | zero => exact h
    | succ d ih => exact fun i hi => hex _ _ ih i hi
  have key : ∀ r, (∃ j, j ≤ r ∧ ∀ i, i < n → F (itr F j x) i = itr F j x i) ∨ r ≤ cnt (itr F r x) n := by
    intro r
    induction r with
    | zero => exact Or.inr (Nat.zero_le _)
    | succ r ih =>
      rcases ih with ⟨j, hj, h⟩ | h
      · exact Or.inl ⟨j, by omega, h⟩
      · by_cases hf : ∀ i, i < n → F (itr F r x) i = itr F r x i
        · exact Or.inl ⟨r, by omega, hf⟩
        · refine Or.inr ?_
          have : cnt (itr F r x) n < cnt (F (itr F r x)) n := by
            refine cnt_lt n (hin _) ?_
            apply Classical.byContradiction
            intro hno
            refine hf (fun i hi => ?_)
            cases hx : itr F r x i with
            | true => exact hin _ i hi hx
            | false =>
              cases hy : F (itr F r x) i with
              | true => exact absurd ⟨i, hi, hx, hy⟩ hno
              | false => rfl
          rw [itr]
          omega
  intro r hr
  rcases key r with ⟨j, hj, h⟩ | h
  · have := fixp j h (r - j)
    rw [show j + (r - j) = r by omega] at this
    exact this
  · intro i hi
    have hf := cnt_full n (by omega) i hi (x := itr F r x)
    rw [hf]
    exact hin _ i hi hf
