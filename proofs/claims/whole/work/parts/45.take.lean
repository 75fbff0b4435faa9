section
variable {t : Nat} {Q : am_R → Prop}
theorem S_take2 {g0 : am_G} (kk : ∀ g', (∀ k, k ≠ 45 → g' k = g0 k) → (∀ m, m < 32 → g' 45 m = Int32.ofNat 0) → am_GQ (116, 23, [(0, .ref 32), (1, .int (Int32.ofNat 0))], [], g', t) Q) :
    ∀ (f i : Nat) (g : am_G), i + f = 32 → (∀ k, k ≠ 45 → g k = g0 k) → (∀ m, m < i → g 45 m = Int32.ofNat 0) → am_GQ (116, 2, [(0, .ref 32), (1, .int (Int32.ofNat i))], [], g, t) Q
  | 0, i, g, he, h1, h2 => by
    have e : i = 32 := by omega
    subst e
    exact B_M_take_2 ⟨fun _ => kk g h1 h2, fun h => absurd ((nn_lt (by omega) (by omega)).mp h) (by omega)⟩
  | f + 1, i, g, he, h1, h2 => by
    refine B_M_take_2 ⟨fun h => absurd ((nn_le (by omega) (by omega)).mp h) (by omega), fun _ => am_chk_i (am_in32 (by omega)) ?_⟩
    rw [nn_add, nn_nat (by omega)]
    refine S_take2 kk f (i + 1) _ (by omega) (fun k a => (w_k a).trans (h1 k a)) (fun m hm => ?_)
    by_cases e : m = i
    · subst e
      exact w_s
    · exact (w_i e).trans (h2 m (by omega))
theorem S_take125 {g0 : am_G} {r : Nat} (hr : g0 32 16 = Int32.ofNat r) (h32 : r ≤ 32) (kk : ∀ g', (∀ k, k ≠ 46 → g' k = g0 k) → (∀ m, m < r → g' 46 m = g0 44 m) → Q (.inl none, am_w g' 32 20 (Int32.ofNat r), t)) :
    ∀ (f i : Nat) (g : am_G), i + f = r → (∀ k, k ≠ 46 → g k = g0 k) → (∀ m, m < i → g 46 m = g0 44 m) → am_GQ (116, 125, [(0, .ref 32), (1, .int (Int32.ofNat i))], [], g, t) Q
  | 0, i, g, he, h1, h2 => by
    have e : i = r := by omega
    subst e
    refine B_M_take_125 ?_
    rw [h1 32 (by decide), hr, nn_le (by omega) (by omega), nn_lt (by omega) (by omega)]
    exact ⟨fun _ => kk g h1 h2, fun h => absurd h (by omega)⟩
  | f + 1, i, g, he, h1, h2 => by
    refine B_M_take_125 ?_
    rw [h1 32 (by decide), hr, nn_le (by omega) (by omega), nn_lt (by omega) (by omega)]
    refine ⟨fun h => absurd h (by omega), fun _ => am_chk_i (am_in32 (by omega)) (am_chk_i (am_in32 (by omega)) ?_)⟩
    rw [nn_add, nn_nat (by omega), h1 44 (by decide)]
    refine S_take125 hr h32 kk f (i + 1) _ (by omega) (fun k a => (w_k a).trans (h1 k a)) (fun m hm => ?_)
    by_cases e : m = i
    · subst e
      exact w_s
    · exact (w_i e).trans (h2 m (by omega))
theorem S_take75 {g0 : am_G} {u : Int32} {x1 x2 : Int32} (kk : ∀ g', (∀ k, k ≠ 45 → g' k = g0 k) → (∀ m, m < 32 → g' 45 m = if bt u m = true then g0 45 m ||| g0 32 31 else g0 45 m) → am_GQ (116, 23, [(0, .ref 32), (1, .int (x1 + Int32.ofNat 1))], [], g', t) Q) :
    ∀ (f i : Nat) (g : am_G), i + f = 32 → (∀ k, k ≠ 45 → g k = g0 k) → (∀ m, m < i → g 45 m = if bt u m = true then g0 45 m ||| g0 32 31 else g0 45 m) → (∀ m, i ≤ m → g 45 m = g0 45 m) → am_GQ (116, 75, [(0, .ref 32), (1, .int x1), (2, .int x2), (3, .int u), (4, .int (Int32.ofNat i))], [], g, t) Q
  | 0, i, g, he, h1, h2, h3 => by
    have e : i = 32 := by omega
    subst e
    exact B_M_take_75 ⟨fun _ => kk g h1 h2, fun h => absurd ((nn_lt (by omega) (by omega)).mp h) (by omega)⟩
  | f + 1, i, g, he, h1, h2, h3 => by
    refine B_M_take_75 ⟨fun h => absurd ((nn_le (by omega) (by omega)).mp h) (by omega), fun _ => ⟨fun h => B_M_take_111 ?_, fun h => am_chk_i (am_in32 (by omega)) (am_chk_i (am_in32 (by omega)) (B_M_take_111 ?_))⟩⟩
    · rw [nn_add]
      have hb : ¬ bt u i = true := fun z => h ((bt_has u (by omega)).mpr z)
      refine S_take75 kk f (i + 1) g (by omega) h1 (fun m hm => ?_) (fun m hm => h3 m (by omega))
      by_cases e : m = i
      · subst e
        rw [if_neg hb]
        exact h3 m (Nat.le_refl _)
      · exact h2 m (by omega)
    · have hb := (bt_has u (by omega)).mp h
      rw [nn_add, nn_nat (by omega), h1 32 (by decide), h3 i (Nat.le_refl _)]
      refine S_take75 kk f (i + 1) _ (by omega) (fun k a => (w_k a).trans (h1 k a)) (fun m hm => ?_) (fun m hm => (w_i (by omega)).trans (h3 m (by omega)))
      by_cases e : m = i
      · subst e
        rw [if_pos hb]
        exact w_s
      · exact (w_i e).trans (h2 m (by omega))
end
