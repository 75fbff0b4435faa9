def avB (St : Nat → Int32) : Nat → Nat → Int32 → Int32
  | 0, _, a => a
  | f + 1, i, a => avB St f (i + 1) (if St i = Int32.ofNat 0 then a else a ||| mb i)
section
variable {t : Nat} {Q : am_R → Prop}
theorem S_graph10 {g0 : am_G} {v : Int32} (kk : ∀ g', (∀ k, k ≠ 32 → g' k = g0 k) → (∀ i, i ≠ 22 → g' 32 i = g0 32 i) → g' 32 22 = v → am_GQ (98, 45, [(0, .ref 32), (1, .int (Int32.ofNat 0))], [], g', t) Q) :
    ∀ (f i : Nat) (g : am_G), i + f = 32 → (∀ k, k ≠ 32 → g k = g0 k) → (∀ i, i ≠ 22 → g 32 i = g0 32 i) → avB (g0 47) f i (g 32 22) = v → am_GQ (98, 10, [(0, .ref 32), (1, .int (Int32.ofNat i))], [], g, t) Q
  | 0, i, g, he, h1, h2, h3 => by
    have e : i = 32 := by omega
    subst e
    exact B_M_graph_10 ⟨fun _ => kk g h1 h2 h3, fun h => absurd ((nn_lt (by omega) (by omega)).mp h) (by omega)⟩
  | f + 1, i, g, he, h1, h2, h3 => by
    rw [avB] at h3
    refine B_M_graph_10 ⟨fun h => absurd ((nn_le (by omega) (by omega)).mp h) (by omega), fun _ => am_chk_i (am_in32 (by omega)) ?_⟩
    rw [nn_nat (by omega), h1 47 (by decide)]
    refine ⟨fun h => B_M_graph_37 ?_, fun h => B_M_graph_37 ?_⟩
    · rw [if_pos h] at h3
      rw [nn_add]
      exact S_graph10 kk f (i + 1) g (by omega) h1 h2 h3
    · rw [if_neg h] at h3
      rw [nn_add]
      refine S_graph10 kk f (i + 1) _ (by omega) (fun k a => (w_k a).trans (h1 k a)) (fun j a => (w_i a).trans (h2 j a)) ?_
      rw [w_s]
      exact h3
theorem S_graph195 {g0 : am_G} (kk : ∀ g', (∀ k, k ≠ 49 → g' k = g0 k) → (∀ m, m < 32 → g' 49 m = g0 48 m) → am_GQ (98, 221, [(0, .ref 32), (1, .int (Int32.ofNat 0))], [], g', t) Q) :
    ∀ (f i : Nat) (g : am_G), i + f = 32 → (∀ k, k ≠ 49 → g k = g0 k) → (∀ m, m < i → g 49 m = g0 48 m) → am_GQ (98, 195, [(0, .ref 32), (1, .int (Int32.ofNat i))], [], g, t) Q
  | 0, i, g, he, h1, h2 => by
    have e : i = 32 := by omega
    subst e
    exact B_M_graph_195 ⟨fun _ => kk g h1 h2, fun h => absurd ((nn_lt (by omega) (by omega)).mp h) (by omega)⟩
  | f + 1, i, g, he, h1, h2 => by
    refine B_M_graph_195 ⟨fun h => absurd ((nn_le (by omega) (by omega)).mp h) (by omega), fun _ => am_chk_i (am_in32 (by omega)) (am_chk_i (am_in32 (by omega)) ?_)⟩
    rw [nn_add, nn_nat (by omega), h1 48 (by decide)]
    refine S_graph195 kk f (i + 1) _ (by omega) (fun k a => (w_k a).trans (h1 k a)) (fun m hm => ?_)
    by_cases e : m = i
    · subst e
      exact w_s
    · exact (w_i e).trans (h2 m (by omega))
end
