def uStep (S : Nat → Int32) (n : Nat) (U : Nat → Int32) : Nat → Int32 := fun m => if m = n then orB (U n) S 32 0 (U n) else U m
def uRow (S : Nat → Int32) : Nat → Nat → (Nat → Int32) → Nat → Int32
  | 0, _, U => U
  | f + 1, i, U => uRow S f (i + 1) (uStep S i U)
def uRds (S : Nat → Int32) : Nat → (Nat → Int32) → Nat → Int32
  | 0, U => U
  | f + 1, U => uRds S f (uRow S 32 0 U)
theorem w_step {g : am_G} {S : Nat → Int32} {n : Nat} : am_w g 49 n (orB (g 49 n) S 32 0 (g 49 n)) 49 = uStep S n (g 49) := by
  funext m
  unfold uStep
  by_cases e : m = n
  · subst e
    rw [if_pos rfl]
    exact w_s
  · rw [if_neg e]
    exact w_i e
section
variable {t : Nat} {Q : am_R → Prop} {x1 : Int32}
theorem S_graph229 {g0 : am_G} {V : Nat → Int32} (kk : ∀ g', (∀ k, k ≠ 49 → g' k = g0 k) → g' 49 = V → am_GQ (98, 221, [(0, .ref 32), (1, .int (x1 + Int32.ofNat 1))], [], g', t) Q) :
    ∀ (f i : Nat) (g : am_G), i + f = 32 → (∀ k, k ≠ 49 → g k = g0 k) → uRow (g0 48) f i (g 49) = V → am_GQ (98, 229, [(0, .ref 32), (1, .int x1), (2, .int (Int32.ofNat i))], [], g, t) Q
  | 0, i, g, he, h1, h2 => by
    have e : i = 32 := by omega
    subst e
    exact B_M_graph_229 ⟨fun _ => kk g h1 h2, fun h => absurd ((nn_lt (by omega) (by omega)).mp h) (by omega)⟩
  | f + 1, i, g, he, h1, h2 => by
    refine B_M_graph_229 ⟨fun h => absurd ((nn_le (by omega) (by omega)).mp h) (by omega), fun _ => am_chk_i (am_in32 (by omega)) ?_⟩
    rw [nn_nat (by omega)]
    refine S_graph245 (by omega) 32 0 _ rfl (S_graph229 kk f (i + 1) _ (by omega) (fun k a => (w_k a).trans (h1 k a)) ?_)
    rw [w_step, h1 48 (by decide)]
    exact h2
theorem S_graph221 {g0 : am_G} {V : Nat → Int32} (kk : ∀ g', (∀ k, k ≠ 49 → g' k = g0 k) → g' 49 = V → Q (.inl none, g', t)) :
    ∀ (f i : Nat) (g : am_G), i + f = 32 → (∀ k, k ≠ 49 → g k = g0 k) → uRds (g0 48) f (g 49) = V → am_GQ (98, 221, [(0, .ref 32), (1, .int (Int32.ofNat i))], [], g, t) Q
  | 0, i, g, he, h1, h2 => by
    have e : i = 32 := by omega
    subst e
    exact B_M_graph_221 ⟨fun _ => kk g h1 h2, fun h => absurd ((nn_lt (by omega) (by omega)).mp h) (by omega)⟩
  | f + 1, i, g, he, h1, h2 => by
    refine B_M_graph_221 ⟨fun h => absurd ((nn_le (by omega) (by omega)).mp h) (by omega), fun _ => ?_⟩
    refine S_graph229 (g0 := g) (V := uRow (g 48) 32 0 (g 49)) (fun g' f1 f2 => ?_) 32 0 g rfl (fun _ _ => rfl) rfl
    rw [nn_add]
    refine S_graph221 kk f (i + 1) g' (by omega) (fun k a => (f1 k a).trans (h1 k a)) ?_
    rw [f2, h1 48 (by decide)]
    exact h2
end
