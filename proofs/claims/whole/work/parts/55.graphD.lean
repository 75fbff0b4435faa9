theorem avB_congr {S S' : Nat → Int32} : ∀ (f i : Nat) (a : Int32), (∀ j, i ≤ j → j < i + f → S j = S' j) → avB S f i a = avB S' f i a
  | 0, _, _, _ => rfl
  | f + 1, i, a, h => by
    rw [avB, avB, h i (Nat.le_refl _) (by omega)]
    exact avB_congr f (i + 1) _ (fun j h1 h2 => h j (by omega) (by omega))
def avS (P : List (Nat × Nat)) (St : Nat → Int32) (W : Int32) : Int32 := mkI (cP P (avB St 32 0 W) 4)
theorem wv_neg {o : Option Nat} (h : ∀ s, o = some s → s < 32) : wv o = -1 ↔ o.isSome = false := by
  cases o with
  | none => exact ⟨fun _ => rfl, fun _ => rfl⟩
  | some s =>
    refine ⟨fun z => ?_, fun z => by cases z⟩
    have hs := h s rfl
    have e : (Int32.ofNat s).toInt = (-1 : Int32).toInt := by
      rw [show Int32.ofNat s = -1 from z]
    rw [nn_toInt (by omega), show (-1 : Int32).toInt = -1 by decide] at e
    omega
theorem wv_lt {o : Option Nat} (h : ∀ s, o = some s → s < 32) : wv o < Int32.ofNat 0 ↔ o = none := by
  cases o with
  | none => exact ⟨fun _ => rfl, fun _ => by decide⟩
  | some s =>
    have hs := h s rfl
    refine ⟨fun z => ?_, fun z => by cases z⟩
    rw [show wv (some s) = Int32.ofNat s from rfl, nn_lt (by omega) (by omega)] at z
    omega
theorem not_le_lt {a b : Int32} (h : a ≤ b) : ¬ b < a := fun z => by
  rw [Int32.le_iff_toInt_le] at h
  rw [Int32.lt_iff_toInt_lt] at z
  omega
section
variable {g : am_G} {t : Nat} {Q : am_R → Prop} {P : List (Nat × Nat)}
theorem S_avail10 {v : Int32} (kk : am_GQ (22, 42, [(0, .ref 26), (1, .int v), (2, .int (Int32.ofNat 0))], [], g, t) Q) : ∀ (f i : Nat) (a : Int32), i + f = 32 → avB (g 25) f i a = v → am_GQ (22, 10, [(0, .ref 26), (1, .int a), (2, .int (Int32.ofNat i))], [], g, t) Q
  | 0, i, a, he, hv => by
    have e : i = 32 := by omega
    subst e
    rw [avB] at hv
    subst hv
    exact B_Graph_available_10 ⟨fun _ => kk, fun h => absurd ((nn_lt (by omega) (by omega)).mp h) (by omega)⟩
  | f + 1, i, a, he, hv => by
    rw [avB] at hv
    refine B_Graph_available_10 ⟨fun h => absurd ((nn_le (by omega) (by omega)).mp h) (by omega), fun _ => B_Stamps_of_0 (am_chk_i (am_in32 (by omega)) (B_Graph_available_24 ?_))⟩
    rw [nn_nat (by omega)]
    refine ⟨fun h => B_Graph_available_34 ?_, fun h => S_setOf (B_Graph_available_32 (B_Graph_available_34 ?_))⟩
    · rw [if_pos h] at hv
      rw [nn_add]
      exact S_avail10 kk f (i + 1) a (by omega) hv
    · rw [if_neg h] at hv
      rw [nn_add]
      exact S_avail10 kk f (i + 1) _ (by omega) hv
theorem S_avail49 (hP : pX g P) {A0 : Int32} {r : Nat} (kk : ∀ A, aI P A0 A r 32 → am_GQ (22, 42, [(0, .ref 26), (1, .int A), (2, .int (Int32.ofNat (r + 1)))], [], g, t) Q) : ∀ (f i : Nat) (A : Int32), i + f = 32 → aI P A0 A r i → am_GQ (22, 49, [(0, .ref 26), (1, .int A), (2, .int (Int32.ofNat r)), (3, .int (Int32.ofNat i))], [], g, t) Q
  | 0, i, A, he, hI => by
    have e : i = 32 := by omega
    subst e
    refine B_Graph_available_49 ⟨fun _ => ?_, fun h => absurd ((nn_lt (by omega) (by omega)).mp h) (by omega)⟩
    rw [nn_add]
    exact kk A hI
  | f + 1, i, A, he, hI => by
    have h4 := pX_2 hP
    have hs := aI_step hI (by omega) h4
    refine B_Graph_available_49 ⟨fun h => absurd ((nn_le (by omega) (by omega)).mp h) (by omega), fun _ => S_patternSource hP (by omega) (B_Graph_available_64 ?_)⟩
    rw [wv_neg (fun s h => ffit_lt (by omega) h4 h)]
    refine ⟨fun h => B_Graph_available_75 ?_, fun h => S_setOf (B_Graph_available_73 (B_Graph_available_75 ?_))⟩
    · rw [h, if_neg (by decide)] at hs
      rw [nn_add]
      exact S_avail49 hP kk f (i + 1) A (by omega) hs
    · rw [if_pos (eq_true_of_ne_false h)] at hs
      rw [nn_add]
      exact S_avail49 hP kk f (i + 1) _ (by omega) hs
theorem S_avail42 (hP : pX g P) {A0 : Int32} (kk : ∀ A, aI P A0 A 4 0 → Q (.inl (some (.int A)), g, t)) : ∀ (f r : Nat) (A : Int32), r + f = 4 → aI P A0 A r 0 → am_GQ (22, 42, [(0, .ref 26), (1, .int A), (2, .int (Int32.ofNat r))], [], g, t) Q
  | 0, r, A, he, hI => by
    have e : r = 4 := by omega
    subst e
    exact B_Graph_available_42 ⟨fun _ => kk A hI, fun h => absurd ((nn_lt (by omega) (by omega)).mp h) (by omega)⟩
  | f + 1, r, A, he, hI => by
    refine B_Graph_available_42 ⟨fun h => absurd ((nn_le (by omega) (by omega)).mp h) (by omega), fun _ => ?_⟩
    exact S_avail49 hP (fun A' hI' => S_avail42 hP kk f (r + 1) A' (by omega) (aI_round hI')) 32 0 A rfl hI
theorem S_available (hP : pX g P) {St : Nat → Int32} (hSt : ∀ i, i < 32 → g 25 i = St i) {W : Int32} (hW : g 20 3 = W) (k : Q (.inl (some (.int (avS P St W))), g, t)) : am_GQ (22, 0, [(0, .ref 26)], [], g, t) Q := by
  refine B_Graph_available_0 (B_Rules_withRecipe_0 (B_Graph_available_7 ?_))
  rw [hW]
  refine S_avail10 (v := avB St 32 0 W) ?_ 32 0 W rfl (avB_congr 32 0 W (fun j _ hj => hSt j (by omega)))
  refine S_avail42 hP (fun A hI => ?_) 4 0 _ rfl (aI_start P _)
  rw [aI_end (r := 0) hI]
  exact k
end
def srcF (A W : Int32) (E : Nat → Int32) (P : List (Nat × Nat)) (n : Nat) : Int32 := if bt W n = true then E n else match ffit A n P with
  | none => E n
  | some s => E n ||| mb s
def havF (A W : Int32) (P : List (Nat × Nat)) : Nat → Nat → Int32 → Int32
  | 0, _, a => a
  | f + 1, n, a => havF A W P f (n + 1) (if bt W n = true then a else if (ffit A n P).isSome = true then a ||| mb n else a)
section
variable {t : Nat} {Q : am_R → Prop} {P : List (Nat × Nat)}
theorem S_findSources13 {g0 : am_G} (hP : pX g0 P) {A W H : Int32} {E : Nat → Int32} (hW : g0 20 3 = W) (hE : ∀ i, i < 32 → g0 21 i = E i)
    (kk : ∀ g', fr [26, 27] g0 g' → (∀ i, i < 32 → g' 27 i = srcF A W E P i) → g' 26 4 = H → Q (.inl none, g', t)) :
    ∀ (f i : Nat) (g : am_G), i + f = 32 → fr [26, 27] g0 g → (∀ j, j < i → g 27 j = srcF A W E P j) → havF A W P f i (g 26 4) = H → am_GQ (25, 13, [(0, .ref 26), (1, .int A), (2, .int (Int32.ofNat i))], [], g, t) Q
  | 0, i, g, he, hf, hs, hH => by
    have e : i = 32 := by omega
    subst e
    exact B_Graph_findSources_13 ⟨fun _ => kk g hf hs hH, fun h => absurd ((nn_lt (by omega) (by omega)).mp h) (by omega)⟩
  | f + 1, i, g, he, hf, hs, hH => by
    have hi : i < 32 := by omega
    rw [havF] at hH
    have next : ∀ g2, fr [26, 27] g0 g2 → (∀ j, j ≠ i → g2 27 j = g 27 j) → g2 27 i = srcF A W E P i → havF A W P f (i + 1) (g2 26 4) = H → am_GQ (25, 61, [(0, .ref 26), (1, .int A), (2, .int (Int32.ofNat i))], [], g2, t) Q := by
      intro g2 y1 y2 y3 y4
      refine B_Graph_findSources_61 ?_
      rw [nn_add]
      refine S_findSources13 hP hW hE kk f (i + 1) g2 (by omega) y1 (fun j hj => ?_) y4
      by_cases e : j = i
      · rw [e]
        exact y3
      · rw [y2 j e]
        exact hs j (by omega)
    have hf1 : fr [26, 27] g0 (am_w g 27 i (E i)) := fr_w hf (by decide)
    refine B_Graph_findSources_13 ⟨fun h => absurd ((nn_le (by omega) (by omega)).mp h) (by omega), fun _ => B_Rules_sourcesOf_0 (am_chk_i (am_in32 hi) (B_Graph_findSources_32 (am_chk_i (am_in32 hi) (B_Rules_withRecipe_0 (B_Graph_findSources_40 ?_)))))⟩
    rw [nn_nat (by omega), hf 21 (by decide), hE i hi, hf1 20 (by decide), hW]
    refine S_holds hi (B_Graph_findSources_44 ⟨fun h => ?_, fun h => ?_⟩)
    · rw [b2i_nz] at h
      rw [if_pos h] at hH
      refine next _ hf1 (fun j hj => w_i hj) ?_ (by rw [w_k (by decide)]; exact hH)
      rw [w_s]
      unfold srcF
      rw [if_pos h]
    · rw [b2i_z] at h
      rw [if_neg (by rw [h]; decide)] at hH
      have hP1 : pX (am_w g 27 i (E i)) P := pX_fr hP hf1 (by rw [hf1 20 (by decide)]) (by decide) (by decide)
      have h4 := pX_2 hP
      refine S_patternSource hP1 hi (B_Graph_findSources_58 (B_Graph_addPatternSource_0 ?_))
      rw [wv_neg (fun s h => ffit_lt hi h4 h)]
      refine ⟨fun h2 => ?_, fun h2 => am_chk_i (am_in32 hi) (S_setOf (B_Graph_addPatternSource_16 (am_chk_i (am_in32 hi) (S_setOf (B_Graph_addPatternSource_27 ?_)))))⟩
      · rw [h2, if_neg (by decide)] at hH
        refine next _ hf1 (fun j hj => w_i hj) ?_ (by rw [w_k (by decide)]; exact hH)
        rw [w_s]
        unfold srcF
        rw [if_neg (by rw [h]; decide)]
        cases hx : ffit A i P with
        | none => rfl
        | some s => rw [hx] at h2; cases h2
      · cases hx : ffit A i P with
        | none => rw [hx] at h2; exact absurd rfl h2
        | some s =>
          rw [hx] at hH
          rw [if_pos (show (some s).isSome = true from rfl)] at hH
          rw [nn_nat (by omega), w_s, w_k (show (26 : Nat) ≠ 27 by decide), w_k (show (26 : Nat) ≠ 27 by decide)]
          refine next _ (fr_w (fr_w hf1 (by decide)) (by decide)) (fun j hj => ?_) ?_ ?_
          · rw [w_k (show (27 : Nat) ≠ 26 by decide), w_i hj, w_i hj]
          · rw [w_k (show (27 : Nat) ≠ 26 by decide), w_s]
            unfold srcF
            rw [if_neg (by rw [h]; decide), hx]
            rfl
          · rw [w_s]
            exact hH
theorem S_findSources {g : am_G} (hP : pX g P) {A W : Int32} {E : Nat → Int32} (hW : g 20 3 = W) (hE : ∀ i, i < 32 → g 21 i = E i)
    (kk : ∀ g', fr [26, 27] g g' → (∀ i, i < 32 → g' 27 i = srcF A W E P i) → g' 26 4 = havF A W P 32 0 W → Q (.inl none, g', t)) :
    am_GQ (25, 0, [(0, .ref 26), (1, .int A)], [], g, t) Q := by
  refine B_Graph_findSources_0 (B_Rules_withRecipe_0 (B_Graph_findSources_8 ?_))
  rw [hW]
  refine S_findSources13 (g0 := g) hP hW hE kk 32 0 _ rfl (fr_w (fr_refl _ _) (by decide)) (fun j hj => absurd hj (Nat.not_lt_zero _)) ?_
  rw [w_s]
theorem S_findFoundations {g : am_G} {S : Nat → Int32} (hS : ∀ i, i < 32 → g 27 i = S i) (kk : ∀ g', fr [28] g g' → (∀ i, i < 32 → g' 28 i = wsR 32 S i) → Q (.inl none, g', t)) :
    am_GQ (24, 0, [(0, .ref 26)], [], g, t) Q := by
  refine B_Graph_findFoundations_0 (for_up (N := 32) (fun i g' => (24, 2, [(0, .ref 26), (1, .int (Int32.ofNat i))], [], g', t)) (fun i g' => (∀ m, m < i → g' 28 m = S m) ∧ fr [28] g g') ?_ ?_ 0 g (by omega) ⟨fun m hm => by omega, fr_refl _ _⟩)
  · rintro i g' hi ⟨h1, h2⟩ k
    refine B_Graph_findFoundations_2 ⟨fun h => ?_, fun _ => am_chk_i (am_in32 hi) (am_chk_i (am_in32 hi) ?_)⟩
    · rw [nn_le (by omega) (by omega)] at h
      omega
    rw [nn_add, nn_nat (by omega), h2 27 (by decide), hS i hi]
    refine k _ ⟨fun m hm => ?_, fr_w h2 (by decide)⟩
    by_cases e : m = i
    · rw [e, w_s]
    · rw [w_i e]; exact h1 m (by omega)
  rintro g1 ⟨h1, h2⟩
  refine B_Graph_findFoundations_2 ⟨fun _ => ?_, fun h => absurd h (by decide)⟩
  refine for_up (N := 32) (fun i g' => (24, 28, [(0, .ref 26), (1, .int (Int32.ofNat i))], [], g', t)) (fun i g' => (∀ m, m < 32 → g' 28 m = wsR i S m) ∧ fr [28] g g') ?_ ?_ 0 g1 (by omega) ⟨h1, h2⟩
  · rintro v g2 hv ⟨h3, h4⟩ k
    refine B_Graph_findFoundations_28 ⟨fun h => ?_, fun _ => ?_⟩
    · rw [nn_le (by omega) (by omega)] at h
      omega
    refine for_up (N := 32) (fun j g' => (24, 36, [(0, .ref 26), (1, .int (Int32.ofNat v)), (2, .int (Int32.ofNat j))], [], g', t)) (fun j g' => (∀ m, m < 32 → g' 28 m = if m < j then wR v (wsR v S) m else wsR v S m) ∧ fr [28] g g') ?_ ?_ 0 g2 (by omega) ⟨fun m hm => by rw [if_neg (by omega)]; exact h3 m hm, h4⟩
    · rintro j g3 hj ⟨h5, h6⟩ k2
      have next : ∀ g4, (∀ m, m < 32 → g4 28 m = if m < j + 1 then wR v (wsR v S) m else wsR v S m) → fr [28] g g4 → am_GQ (24, 70, [(0, .ref 26), (1, .int (Int32.ofNat v)), (2, .int (Int32.ofNat j))], [], g4, t) Q := by
        intro g4 a b
        refine B_Graph_findFoundations_70 ?_
        rw [nn_add]
        exact k2 g4 ⟨a, b⟩
      have ej : g3 28 j = wsR v S j := by rw [h5 j hj, if_neg (Nat.lt_irrefl _)]
      have ev : g3 28 v = wsR v S v := by
        rw [h5 v hv]
        by_cases e : v < j
        · rw [if_pos e]; exact wR_self v _
        · rw [if_neg e]
      refine B_Graph_findFoundations_36 ⟨fun h => ?_, fun _ => am_chk_i (am_in32 hj) ?_⟩
      · rw [nn_le (by omega) (by omega)] at h
        omega
      rw [nn_nat (by omega), ej]
      refine S_holds (by omega) (B_Graph_findFoundations_52 ⟨fun h => ?_, fun h => am_chk_i (am_in32 hj) (am_chk_i (am_in32 hv) (am_chk_i (am_in32 hj) ?_))⟩)
      · rw [b2i_z] at h
        refine next g3 (fun m hm => ?_) h6
        by_cases e : m = j
        · subst e
          rw [if_pos (by omega), ej]
          unfold wR
          rw [if_neg (by rw [h]; decide)]
        · rw [h5 m hm]
          by_cases e2 : m < j
          · rw [if_pos e2, if_pos (by omega)]
          · rw [if_neg e2, if_neg (by omega)]
      · rw [b2i_nz] at h
        rw [nn_nat (by omega), nn_nat (by omega), ej, ev]
        refine next _ (fun m hm => ?_) (fr_w h6 (by decide))
        by_cases e : m = j
        · subst e
          rw [if_pos (by omega), w_s]
          unfold wR
          rw [if_pos h]
        · rw [w_i e, h5 m hm]
          by_cases e2 : m < j
          · rw [if_pos e2, if_pos (by omega)]
          · rw [if_neg e2, if_neg (by omega)]
    · rintro g3 ⟨h5, h6⟩
      refine B_Graph_findFoundations_36 ⟨fun _ => ?_, fun h => absurd h (by decide)⟩
      rw [nn_add]
      refine k g3 ⟨fun m hm => ?_, h6⟩
      rw [h5 m hm, if_pos hm]
      rfl
  · rintro g2 ⟨h3, h4⟩
    exact B_Graph_findFoundations_28 ⟨fun _ => kk g2 h4 h3, fun h => absurd h (by decide)⟩
theorem S_build {g : am_G} (hP : pX g P) {W : Int32} {E St : Nat → Int32} (hW : g 20 3 = W) (hE : ∀ i, i < 32 → g 21 i = E i) (hSt : ∀ i, i < 32 → g 25 i = St i)
    (kk : ∀ g', fr [26, 27, 28] g g' → (∀ i, i < 32 → g' 27 i = srcF (avS P St W) W E P i) → g' 26 4 = havF (avS P St W) W P 32 0 W → (∀ i, i < 32 → g' 28 i = wsR 32 (srcF (avS P St W) W E P) i) → Q (.inl none, g', t)) :
    am_GQ (23, 0, [(0, .ref 26)], [], g, t) Q := by
  refine B_Graph_build_0 (S_available hP hSt hW (B_Graph_build_5 (S_findSources hP hW hE (fun g1 f1 h1 h2 => B_Graph_build_8 (S_findFoundations h1 (fun g2 f2 h3 => B_Graph_build_12 ?_))))))
  refine kk g2 (fr_trans (fr_sub f1 (by decide)) (fr_sub f2 (by decide))) (fun i hi => ?_) ?_ h3
  · rw [f2 27 (by decide)]
    exact h1 i hi
  · rw [f2 26 (by decide)]
    exact h2
end
