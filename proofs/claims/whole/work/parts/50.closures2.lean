theorem orB_bt (u : Int32) (R : Nat → Int32) (k : Nat) : ∀ (f m : Nat) (a : Int32), bt (orB u R f m a) k = true ↔ bt a k = true ∨ ∃ i, m ≤ i ∧ i < m + f ∧ bt u i = true ∧ bt (R i) k = true
  | 0, m, a => by
    rw [orB]
    constructor
    · exact Or.inl
    · rintro (h | ⟨i, h1, h2, _⟩)
      · exact h
      · omega
  | f + 1, m, a => by
    rw [orB, orB_bt u R k f (m + 1)]
    have e : bt (if bt u m = true then a ||| R m else a) k = true ↔ bt a k = true ∨ (bt u m = true ∧ bt (R m) k = true) := by
      by_cases h : bt u m = true
      · rw [if_pos h, bt_or, Bool.or_eq_true]
        exact ⟨fun z => z.imp id (fun z => ⟨h, z⟩), fun z => z.imp id And.right⟩
      · rw [if_neg h]
        exact ⟨Or.inl, fun z => z.elim id (fun z => absurd z.1 h)⟩
    rw [e]
    constructor
    · rintro ((h | h) | ⟨i, h1, h2, h3⟩)
      · exact Or.inl h
      · exact Or.inr ⟨m, Nat.le_refl _, by omega, h⟩
      · exact Or.inr ⟨i, by omega, by omega, h3⟩
    · rintro (h | ⟨i, h1, h2, h3⟩)
      · exact Or.inl (Or.inl h)
      · by_cases e : i = m
        · subst e
          exact Or.inl (Or.inr h3)
        · exact Or.inr ⟨i, by omega, by omega, h3⟩
def stG (b : Nat → Bool) (u : Rl) (N : Nat) (x : Nat → Bool) : Nat → Bool := fun m => x m || (b m || (List.range N).any (fun a => u m a && x a))
def pG (b : Nat → Bool) (u : Rl) (N r m : Nat) : Bool := itr (stG b u N) r (fun _ => false) m
theorem stG_iff {b : Nat → Bool} {u : Rl} {N : Nat} {x : Nat → Bool} {m : Nat} : stG b u N x m = true ↔ x m = true ∨ b m = true ∨ ∃ a, a < N ∧ u m a = true ∧ x a = true := by
  unfold stG
  rw [Bool.or_eq_true, Bool.or_eq_true, List.any_eq_true]
  constructor
  · rintro (h | h | ⟨a, h1, h2⟩)
    · exact Or.inl h
    · exact Or.inr (Or.inl h)
    · rw [Bool.and_eq_true] at h2
      exact Or.inr (Or.inr ⟨a, List.mem_range.mp h1, h2⟩)
  · rintro (h | h | ⟨a, h1, h2⟩)
    · exact Or.inl h
    · exact Or.inr (Or.inl h)
    · exact Or.inr (Or.inr ⟨a, List.mem_range.mpr h1, by rw [Bool.and_eq_true]; exact h2⟩)
theorem pG_iff {b : Nat → Bool} {u : Rl} {N r m : Nat} : pG b u N (r + 1) m = true ↔ pG b u N r m = true ∨ b m = true ∨ ∃ a, a < N ∧ u m a = true ∧ pG b u N r a = true := stG_iff (x := itr (stG b u N) r (fun _ => false))
theorem pG_up {b : Nat → Bool} {u : Rl} {N r m : Nat} (h : pG b u N r m = true) : pG b u N (r + 1) m = true := pG_iff.mpr (Or.inl h)
theorem pG_le {b : Nat → Bool} {u : Rl} {N m : Nat} {r : Nat} (h : pG b u N r m = true) : ∀ d, pG b u N (r + d) m = true
  | 0 => h
  | d + 1 => pG_up (pG_le h d)
theorem pG_zero {b : Nat → Bool} {u : Rl} {N m : Nat} : pG b u N 0 m = false := rfl
theorem pG_down {b : Nat → Bool} {u : Rl} {N : Nat} : ∀ {r m : Nat}, pG b u N r m = true → b m = true ∨ ∃ a, a < N ∧ u m a = true ∧ pG b u N r a = true
  | 0, m, h => by rw [pG_zero] at h; cases h
  | r + 1, m, h => by
    rcases pG_iff.mp h with h | h | ⟨a, h1, h2, h3⟩
    · rcases pG_down h with h | ⟨a, h1, h2, h3⟩
      · exact Or.inl h
      · exact Or.inr ⟨a, h1, h2, pG_up h3⟩
    · exact Or.inl h
    · exact Or.inr ⟨a, h1, h2, pG_up h3⟩
theorem pG_step {b : Nat → Bool} {u : Rl} {N r m : Nat} (h : pG b u N (r + 1) m = true) : b m = true ∨ ∃ a, a < N ∧ u m a = true ∧ pG b u N r a = true := by
  rcases pG_iff.mp h with h | h
  · exact pG_down h
  · exact h
theorem pG_fix {b : Nat → Bool} {u : Rl} {N r : Nat} (hr : N ≤ r) {m : Nat} (hm : m < N) (h : b m = true ∨ ∃ a, a < N ∧ u m a = true ∧ pG b u N r a = true) : pG b u N r m = true := by
  have := rest (n := N) (F := stG b u N) (fun x i _ hx => stG_iff.mpr (Or.inl hx)) (fun x y hxy i hi => by
    have e : stG b u N x i = true ↔ stG b u N y i = true := by
      rw [stG_iff, stG_iff, hxy i hi]
      constructor
      · rintro (h | h | ⟨a, h1, h2, h3⟩)
        · exact Or.inl h
        · exact Or.inr (Or.inl h)
        · exact Or.inr (Or.inr ⟨a, h1, h2, by rw [← hxy a h1]; exact h3⟩)
      · rintro (h | h | ⟨a, h1, h2, h3⟩)
        · exact Or.inl h
        · exact Or.inr (Or.inl h)
        · exact Or.inr (Or.inr ⟨a, h1, h2, by rw [hxy a h1]; exact h3⟩)
    cases hx : stG b u N x i with
    | true => exact (e.mp hx).symm
    | false =>
      cases hy : stG b u N y i with
      | true => rw [e.mpr hy] at hx; cases hx
      | false => rfl) (fun _ => false) r hr m hm
  have e2 : pG b u N r m = stG b u N (itr (stG b u N) r (fun _ => false)) m := this.symm
  rw [e2]
  exact stG_iff.mpr (Or.inr h)
theorem pG_least {b : Nat → Bool} {u : Rl} {N : Nat} {X : Nat → Bool} (h : ∀ m, m < N → (b m = true ∨ ∃ a, a < N ∧ u m a = true ∧ X a = true) → X m = true) : ∀ (r m : Nat), m < N → pG b u N r m = true → X m = true
  | 0, m, _, h2 => by rw [pG_zero] at h2; cases h2
  | r + 1, m, hm, h2 => by
    rcases pG_iff.mp h2 with h2 | h2 | ⟨a, h3, h4, h5⟩
    · exact pG_least h r m hm h2
    · exact h m hm (Or.inl h2)
    · exact h m hm (Or.inr ⟨a, h3, h4, pG_least h r a h3 h5⟩)
abbrev pL (u : Rl) (N r m k : Nat) : Bool := pG (fun m => u m k) u N r m
theorem pL_trans {u : Rl} {N r k a : Nat} (hr : N ≤ r) (ha : a < N) (h : pL u N r a k = true) : ∀ (q m : Nat), m < N → pL u N q m a = true → pL u N r m k = true
  | 0, m, _, h2 => absurd (show false = true from h2) (by decide)
  | q + 1, m, hm, h2 => by
    rcases pG_iff.mp h2 with h2 | h2 | ⟨b, h3, h4, h5⟩
    · exact pL_trans hr ha h q m hm h2
    · exact pG_fix hr hm (Or.inr ⟨a, ha, h2, h⟩)
    · exact pG_fix hr hm (Or.inr ⟨b, h3, h4, pL_trans hr ha h q b h3 h5⟩)
theorem ws_pL {u : Rl} {N r m k : Nat} (hr : N ≤ r) (hm : m < N) (h : wsB N u m k = true) : pL u N r m k = true := by
  have := wsB_least (N := N) (R := u) (T := fun m k => if m < N then pL u N r m k else true) (fun m k h => by
    by_cases e : m < N
    · rw [if_pos e]
      exact pG_fix hr e (Or.inl h)
    · rw [if_neg e]) (fun m a k ha h1 h2 => by
    rw [if_pos ha] at h2
    by_cases e : m < N
    · rw [if_pos e] at h1 ⊢
      exact pL_trans hr ha h2 r m e h1
    · rw [if_neg e]) N (Nat.le_refl _) m k h
  rw [if_pos hm] at this
  exact this
def stR (S : Rl) (N : Nat) (x : Nat → Bool) : Nat → Bool := fun k => x k || (List.range N).any (fun a => x a && S a k)
def pR (S : Rl) (N r m k : Nat) : Bool := itr (stR S N) r (S m) k
theorem stR_iff {S : Rl} {N k : Nat} {x : Nat → Bool} : stR S N x k = true ↔ x k = true ∨ ∃ a, a < N ∧ x a = true ∧ S a k = true := by
  unfold stR
  rw [Bool.or_eq_true, List.any_eq_true]
  constructor
  · rintro (h | ⟨a, h1, h2⟩)
    · exact Or.inl h
    · rw [Bool.and_eq_true] at h2
      exact Or.inr ⟨a, List.mem_range.mp h1, h2⟩
  · rintro (h | ⟨a, h1, h2⟩)
    · exact Or.inl h
    · exact Or.inr ⟨a, List.mem_range.mpr h1, by rw [Bool.and_eq_true]; exact h2⟩
theorem pR_iff {S : Rl} {N k r m : Nat} : pR S N (r + 1) m k = true ↔ pR S N r m k = true ∨ ∃ a, a < N ∧ pR S N r m a = true ∧ S a k = true := stR_iff (x := itr (stR S N) r (S m))
theorem pR_in {S : Rl} {N m k : Nat} (h : S m k = true) : ∀ r, pR S N r m k = true
  | 0 => h
  | r + 1 => pR_iff.mpr (Or.inl (pR_in h r))
theorem pR_fix {S : Rl} {N r m k : Nat} (hr : N ≤ r) (hk : k < N) (h : ∃ a, a < N ∧ pR S N r m a = true ∧ S a k = true) : pR S N r m k = true := by
  have := rest (n := N) (F := stR S N) (fun x i _ hx => stR_iff.mpr (Or.inl hx)) (fun x y hxy i hi => by
    have e : stR S N x i = true ↔ stR S N y i = true := by
      rw [stR_iff, stR_iff, hxy i hi]
      constructor
      · rintro (h | ⟨a, h1, h2, h3⟩)
        · exact Or.inl h
        · exact Or.inr ⟨a, h1, by rw [← hxy a h1]; exact h2, h3⟩
      · rintro (h | ⟨a, h1, h2, h3⟩)
        · exact Or.inl h
        · exact Or.inr ⟨a, h1, by rw [hxy a h1]; exact h2, h3⟩
    cases hx : stR S N x i with
    | true => exact (e.mp hx).symm
    | false =>
      cases hy : stR S N y i with
      | true => rw [e.mpr hy] at hx; cases hx
      | false => rfl) (S m) r hr k hk
  have e2 : pR S N r m k = stR S N (itr (stR S N) r (S m)) k := this.symm
  rw [e2]
  exact stR_iff.mpr (Or.inr h)
theorem pR_trans {S : Rl} {N r m a : Nat} (hr : N ≤ r) (ha : a < N) (h : pR S N r m a = true) : ∀ (q k : Nat), k < N → pR S N q a k = true → pR S N r m k = true
  | 0, k, hk, h2 => pR_fix hr hk ⟨a, ha, h, h2⟩
  | q + 1, k, hk, h2 => by
    rcases pR_iff.mp h2 with h2 | ⟨b, h3, h4, h5⟩
    · exact pR_trans hr ha h q k hk h2
    · exact pR_fix hr hk ⟨b, h3, pR_trans hr ha h q b h3 h4, h5⟩
theorem ws_pR {S : Rl} {N r m k : Nat} (hr : N ≤ r) (hk : k < N) (h : wsB N S m k = true) : pR S N r m k = true := by
  have := wsB_least (N := N) (R := S) (T := fun m k => if k < N then pR S N r m k else true) (fun m k h => by
    by_cases e : k < N
    · rw [if_pos e]
      exact pR_in h r
    · rw [if_neg e]) (fun m a k ha h1 h2 => by
    rw [if_pos ha] at h1
    by_cases e : k < N
    · rw [if_pos e] at h2 ⊢
      exact pR_trans hr ha h1 r k e h2
    · rw [if_neg e]) N (Nat.le_refl _) m k h
  rw [if_pos hk] at this
  exact this
theorem pR_ws {S : Rl} {N m : Nat} : ∀ (r k : Nat), pR S N r m k = true → wsB N S m k = true
  | 0, k, h => wsB_in S N m k h
  | r + 1, k, h => by
    rcases pR_iff.mp h with h | ⟨a, h1, h2, h3⟩
    · exact pR_ws r k h
    · exact wsB_trans S N m a k h1 (pR_ws r a h2) (wsB_in S N a k h3)
