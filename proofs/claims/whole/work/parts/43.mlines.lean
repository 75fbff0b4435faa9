section
variable {t : Nat} {Q : am_R → Prop} {x1 x2 x3 : Int32}
theorem S_lines19 {g0 : am_G} (kk : ∀ g', (∀ k, k ≠ 34 → k ≠ 37 → k ≠ 38 → g' k = g0 k) → (∀ m, m < 26 → g' 34 m = -1 ∧ g' 37 m = Int32.ofNat 0 ∧ g' 38 m = Int32.ofNat 0) → am_GQ (102, 59, [(0, .ref 32), (1, .int x1), (2, .int x2), (3, .int x3), (4, .int (Int32.ofNat 0))], [], g', t) Q) :
    ∀ (f i : Nat) (g : am_G), i + f = 26 → (∀ k, k ≠ 34 → k ≠ 37 → k ≠ 38 → g k = g0 k) → (∀ m, m < i → g 34 m = -1 ∧ g 37 m = Int32.ofNat 0 ∧ g 38 m = Int32.ofNat 0) → am_GQ (102, 19, [(0, .ref 32), (1, .int x1), (2, .int x2), (3, .int x3), (4, .int (Int32.ofNat i))], [], g, t) Q
  | 0, i, g, he, h1, h2 => by
    have e : i = 26 := by omega
    subst e
    exact B_M_lines_19 ⟨fun _ => kk g h1 h2, fun h => absurd ((nn_lt (by omega) (by omega)).mp h) (by omega)⟩
  | f + 1, i, g, he, h1, h2 => by
    refine B_M_lines_19 ⟨fun h => absurd ((nn_le (by omega) (by omega)).mp h) (by omega), fun _ => am_chk_i (am_in26 (by omega)) (am_chk_i (am_in26 (by omega)) (am_chk_i (am_in26 (by omega)) ?_))⟩
    rw [nn_add, nn_nat (by omega)]
    refine S_lines19 kk f (i + 1) _ (by omega) (fun k a b d => (w_k d).trans ((w_k b).trans ((w_k a).trans (h1 k a b d)))) (fun m hm => ?_)
    rw [w_k (show (34 : Nat) ≠ 38 by decide), w_k (show (34 : Nat) ≠ 37 by decide), w_k (show (37 : Nat) ≠ 38 by decide)]
    by_cases e : m = i
    · subst e
      exact ⟨w_s, w_s, w_s⟩
    · obtain ⟨b1, b2, b3⟩ := h2 m (by omega)
      refine ⟨(w_i e).trans b1, (w_i e).trans ?_, (w_i e).trans ?_⟩
      · rw [w_k (show (37 : Nat) ≠ 34 by decide)]; exact b2
      · rw [w_k (show (38 : Nat) ≠ 37 by decide), w_k (show (38 : Nat) ≠ 34 by decide)]; exact b3
def nlE (c : Nat → Nat) : Nat → Nat → Nat
  | 0, i => i
  | f + 1, i => if c i = 10 then i else nlE c f (i + 1)
theorem S_lines78 {g : am_G} {n : Nat} {c : Nat → Nat} {x4 : Int32} (hT : tM g n c) : ∀ (f i : Nat), i + f = n → am_GQ (102, 105, [(0, .ref 32), (1, .int x1), (2, .int x2), (3, .int x3), (4, .int x4), (5, .int (Int32.ofNat (nlE c f i)))], [], g, t) Q → am_GQ (102, 78, [(0, .ref 32), (1, .int x1), (2, .int x2), (3, .int x3), (4, .int x4), (5, .int (Int32.ofNat i))], [], g, t) Q
  | 0, i, he, k => by
    have hn := hT.1
    refine B_M_lines_78 ?_
    rw [hT.2.1, nn_le (by omega) (by omega), nn_lt (by omega) (by omega)]
    exact ⟨fun _ => k, fun h => absurd h (by omega)⟩
  | f + 1, i, he, k => by
    have hn := hT.1
    have hc := hT.2.2.2.1 i
    refine B_M_lines_78 ?_
    rw [hT.2.1, nn_le (by omega) (by omega), nn_lt (by omega) (by omega), nn_nat (by omega), hT.2.2.1 i (by omega), nn_eq (by omega) (by omega), nn_add]
    rw [nlE] at k
    refine ⟨fun h => absurd h (by omega), fun _ => am_chk_i (nn_in (by omega) (by omega)) ⟨fun h => ?_, fun h => ?_⟩⟩
    · rw [if_pos h] at k; exact k
    · rw [if_neg h] at k
      exact S_lines78 hT f (i + 1) (by omega) k
end
