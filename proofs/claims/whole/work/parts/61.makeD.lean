theorem mxS_congr {S S' : Nat → Int32} : ∀ (f i : Nat) (a : Int32), (∀ j, i ≤ j → j < i + f → S j = S' j) → mxS S f i a = mxS S' f i a
  | 0, _, _, _ => rfl
  | f + 1, i, a, h => by
    rw [mxS, mxS, h i (Nat.le_refl _) (by omega)]
    exact mxS_congr f (i + 1) _ (fun j h1 h2 => h j (by omega) (by omega))
theorem mxS_ok {S : Nat → Int32} (h : okSt S) : ∀ (f i : Nat) (a : Int32), i + f ≤ 32 → (∃ v, v ≤ 1000000000 ∧ a = Int32.ofNat v) → ∃ v, v ≤ 1000000000 ∧ mxS S f i a = Int32.ofNat v
  | 0, _, _, _, ha => ha
  | f + 1, i, a, hi, ha => by
    rw [mxS]
    refine mxS_ok h f (i + 1) _ (by omega) ?_
    by_cases e : a < S i
    · rw [if_pos e]
      exact h i (by omega)
    · rw [if_neg e]
      exact ha
theorem rsC_X {set H : Int32} {S St : Nat → Int32} {n : Nat} (hn : n < 32) : rsC set H S St n = if bt (XS set H S St) n = true then rsn H S St (XS set H S St) n else Int32.ofNat 0 := by
  have h := XS_iff (set := set) (H := H) (S := S) (St := St) hn
  unfold rsC
  by_cases e : bt (XS set H S St) n = true
  · rw [if_pos e, if_pos (h.mp e).1]
  · rw [if_neg e]
    by_cases e2 : bt set n = true
    · rw [if_pos e2]
      exact Decidable.of_not_not (fun z => e (h.mpr ⟨e2, z⟩))
    · rw [if_neg e2]
theorem rsC_nz {set H : Int32} {S St : Nat → Int32} {n : Nat} (hn : n < 32) : ¬ rsC set H S St n = Int32.ofNat 0 ↔ bt (XS set H S St) n = true := by
  have h := XS_iff (set := set) (H := H) (S := S) (St := St) hn
  rw [rsC_X hn]
  by_cases e : bt (XS set H S St) n = true
  · rw [if_pos e]
    exact ⟨fun _ => e, fun _ => (h.mp e).2⟩
  · rw [if_neg e]
    exact ⟨fun z => absurd rfl z, fun z => absurd z e⟩
section
variable {t : Nat} {Q : am_R → Prop} {H : Int32} {S F St : Nat → Int32}
theorem S_Report_clear {g : am_G} (kk : ∀ g', fr [29, 31] g g' → g' 29 2 = Int32.ofNat 0 → (∀ i, i < 32 → g' 31 i = Int32.ofNat 0) → Q (.inl none, g', t)) : am_GQ (55, 0, [(0, .ref 29)], [], g, t) Q := by
  refine B_Report_clear_0 (for_up (N := 32) (fun i g' => (55, 7, [(0, .ref 29), (1, .int (Int32.ofNat i))], [], g', t)) (fun i g' => (∀ m, m < i → g' 31 m = Int32.ofNat 0) ∧ g' 29 2 = Int32.ofNat 0 ∧ fr [29, 31] g g') ?_ ?_ 0 _ (by omega) ⟨fun m hm => by omega, w_s, fr_w (fr_refl _ _) (by decide)⟩)
  · rintro i g' hi ⟨h1, h2, h3⟩ k
    refine B_Report_clear_7 ⟨fun h => absurd ((nn_le (by omega) (by omega)).mp h) (by omega), fun _ => am_chk_i (am_in32 hi) ?_⟩
    rw [nn_add, nn_nat (by omega)]
    refine k _ ⟨fun m hm => ?_, by rw [w_k (by decide)]; exact h2, fr_w h3 (by decide)⟩
    by_cases e : m = i
    · rw [e, w_s]
    · rw [w_i e]
      exact h1 m (by omega)
  · rintro g' ⟨h1, h2, h3⟩
    exact B_Report_clear_7 ⟨fun _ => kk g' h3 h2 h1, fun h => absurd h (by decide)⟩
theorem S_run9 {g0 : am_G} (hX : gX g0 H S F St) {X : Int32} (kk : ∀ g', fr [31] g0 g' → (∀ i, i < 32 → g' 31 i = if bt X i = true then rsn H S St X i else Int32.ofNat 0) → am_GQ (15, 53, [(0, .ref 8), (1, .int X), (2, .int (Int32.ofNat 32))], [.int (mxS St 32 0 (Int32.ofNat 0))], g', t) Q) :
    ∀ (f i : Nat) (g : am_G), i + f = 32 → fr [31] g0 g → (∀ j, j < i → g 31 j = if bt X j = true then rsn H S St X j else Int32.ofNat 0) → (∀ j, i ≤ j → j < 32 → g 31 j = Int32.ofNat 0) → am_GQ (15, 9, [(0, .ref 8), (1, .int X), (2, .int (Int32.ofNat i))], [], g, t) Q
  | 0, i, g, he, hf, h1, h2 => by
    have e : i = 32 := by omega
    subst e
    refine B_D_runRecipes_9 ⟨fun _ => S_greatest ?_, fun h => absurd ((nn_lt (by omega) (by omega)).mp h) (by omega)⟩
    rw [mxS_congr (S := g 25) (S' := St) 32 0 _ (fun j _ hj => by rw [hf 25 (by decide)]; exact hX.2.2.2 j (by omega))]
    exact kk g hf h1
  | f + 1, i, g, he, hf, h1, h2 => by
    have hi : i < 32 := by omega
    have hX' : gX g H S F St := ⟨by rw [hf 26 (by decide)]; exact hX.1, fun j hj => by rw [hf 27 (by decide)]; exact hX.2.1 j hj, fun j hj => by rw [hf 28 (by decide)]; exact hX.2.2.1 j hj, fun j hj => by rw [hf 25 (by decide)]; exact hX.2.2.2 j hj⟩
    have next : ∀ g2, fr [31] g0 g2 → (∀ j, j ≠ i → g2 31 j = g 31 j) → (g2 31 i = if bt X i = true then rsn H S St X i else Int32.ofNat 0) → am_GQ (15, 40, [(0, .ref 8), (1, .int X), (2, .int (Int32.ofNat i))], [], g2, t) Q := by
      intro g2 y1 y2 y3
      refine B_D_runRecipes_40 ?_
      rw [nn_add]
      refine S_run9 hX kk f (i + 1) g2 (by omega) y1 (fun j hj => ?_) (fun j hj hj2 => ?_)
      · by_cases e : j = i
        · rw [e]
          exact y3
        · rw [y2 j e]
          exact h1 j (by omega)
      · rw [y2 j (by omega)]
        exact h2 j (by omega) hj2
    refine B_D_runRecipes_9 ⟨fun h => absurd ((nn_le (by omega) (by omega)).mp h) (by omega), fun _ => S_holds hi (B_D_runRecipes_20 ⟨fun h => ?_, fun h => S_reasonOf hX' hi (B_D_runRecipes_37 (B_Report_putReason_0 (am_chk_i (am_in32 hi) ?_)))⟩)⟩
    · rw [b2i_z] at h
      refine next g hf (fun _ _ => rfl) ?_
      rw [if_neg (by rw [h]; decide)]
      exact h2 i (Nat.le_refl _) hi
    · rw [b2i_nz] at h
      rw [nn_nat (by omega)]
      refine next _ (fr_w hf (by decide)) (fun j hj => w_i hj) ?_
      rw [if_pos h, w_s]
theorem S_runRecipes {g : am_G} (hX : gX g H S F St) {set : Int32} (ha : acy F (XS set H S St)) {ru : Nat → Int32} (hru : ∀ i, i < 32 → g 30 i = ru i)
    (kk : ∀ g', fr [25, 29, 30, 31] g g' → (∀ i, i < 32 → g' 31 i = rsC set H S St i) → (∀ i, i < 32 → g' 25 i = (runF F (mxS St 32 0 (Int32.ofNat 0)) (cnt (fun k => bt (XS set H S St) k) 32) (XS set H S St) 0 (St, ru)).1 i) → g' 29 2 = Int32.ofNat (cnt (fun k => bt (XS set H S St) k) 32) → (∀ i, i < 32 → g' 30 i = (runF F (mxS St 32 0 (Int32.ofNat 0)) (cnt (fun k => bt (XS set H S St) k) 32) (XS set H S St) 0 (St, ru)).2 i) → Q (.inl none, g', t)) :
    am_GQ (15, 0, [(0, .ref 8), (1, .int (XS set H S St))], [], g, t) Q := by
  refine B_D_runRecipes_0 (S_Report_clear (fun g1 f1 z1 z2 => B_D_runRecipes_7 ?_))
  have hX1 : gX g1 H S F St := ⟨by rw [f1 26 (by decide)]; exact hX.1, fun j hj => by rw [f1 27 (by decide)]; exact hX.2.1 j hj, fun j hj => by rw [f1 28 (by decide)]; exact hX.2.2.1 j hj, fun j hj => by rw [f1 25 (by decide)]; exact hX.2.2.2 j hj⟩
  refine S_run9 (g0 := g1) hX1 (fun g2 f2 h2 => B_D_runRecipes_53 ?_) 32 0 g1 rfl (fr_refl _ _) (fun j hj => absurd hj (Nat.not_lt_zero _)) (fun j _ hj => z2 j hj)
  refine S_run59 (g0 := g2) (F := F) (r := cnt (fun k => bt (XS set H S St) k) 32) (fun i hi => by rw [f2 28 (by decide)]; exact hX1.2.2.1 i hi) (fun g3 f3 r1 r2 r3 => ?_) _ _ 0 (St, ru) g2 rfl (by omega) (cnt_le _ 32) ha (fr_refl _ _) (fun i hi => by rw [f2 25 (by decide)]; exact hX1.2.2.2 i hi) (by rw [f2 29 (by decide)]; exact z1) (fun i hi => by rw [f2 30 (by decide), f1 30 (by decide)]; exact hru i hi) rfl
  refine kk g3 (fr_trans (fr_sub f1 (by decide)) (fr_trans (fr_sub f2 (by decide)) (fr_sub f3 (by decide)))) (fun i hi => ?_) r1 r2 r3
  rw [f3 31 (by decide), h2 i hi, rsC_X hi]
end
section
variable (P : List (Nat × Nat)) (W : Int32) (E St : Nat → Int32) (n : Nat)
def zS : Nat → Int32 := srcF (avS P St W) W E P
def zH : Int32 := havF (avS P St W) W P 32 0 W
def zF : Nat → Int32 := wsR 32 (zS P W E St)
def zT : Int32 := zF P W E St n ||| mb n
def zX : Int32 := XS (zT P W E St n) (zH P W St) (zS P W E St) St
def zC : Nat := cnt (fun k => bt (zX P W E St n) k) 32
def zG : Int32 := mxS St 32 0 (Int32.ofNat 0)
def zL1 : Bool := anyP (fun k => bt (zT P W E St n) k && bt (zF P W E St k) k) 32 0
def zL2 : Bool := anyP (fun k => bt (zT P W E St n) k && (!bt (zH P W St) k && decide (St k = Int32.ofNat 0))) 32 0
def zL3 : Prop := Int32.ofNat 1000000000 < zG St + Int32.ofNat (zC P W E St n)
def zR (ru : Nat → Int32) : (Nat → Int32) × (Nat → Int32) := runF (zF P W E St) (zG St) (zC P W E St n) (zX P W E St n) 0 (St, ru)
def zY : Nat → Int32 := rsC (zT P W E St n) (zH P W St) (zS P W E St) St
end
theorem zAcy {P : List (Nat × Nat)} {W : Int32} {E St : Nat → Int32} {n : Nat} (h : zL1 P W E St n = false) : acy (zF P W E St) (zX P W E St n) := by
  refine ⟨fun m a k ha h1 h2 => ?_, fun k hk hb => ?_⟩
  · unfold zF at h1 h2 ⊢
    rw [wsR_bt] at h1 h2 ⊢
    exact wsB_trans _ 32 m a k ha h1 h2
  · have hs := (XS_iff hk).mp hb
    cases hx : bt (zF P W E St k) k with
    | false => rfl
    | true =>
      have : zL1 P W E St n = true := by
        unfold zL1
        rw [anyP_iff]
        exact ⟨k, Nat.zero_le _, by omega, by rw [hs.1, hx]; rfl⟩
      rw [h] at this
      cases this
section
variable {g : am_G} {t : Nat} {Q : am_R → Prop} {P : List (Nat × Nat)} {W : Int32} {E St ru : Nat → Int32} {x : Int32}
theorem S_D_make (hP : pX g P) (hW : g 20 3 = W) (hE : ∀ i, i < 32 → g 21 i = E i) (hSt : ∀ i, i < 32 → g 25 i = St i) (hru : ∀ i, i < 32 → g 30 i = ru i)
    (k0 : nF x → Q (.inr 3, g, t))
    (k1 : ∀ n, n < 32 → x = Int32.ofNat n → zL1 P W E St n = true → ∀ g', fr [26, 27, 28] g g' → Q (.inr 1, g', t))
    (k2 : ∀ n, n < 32 → x = Int32.ofNat n → zL1 P W E St n = false → zL2 P W E St n = true → ∀ g', fr [26, 27, 28] g g' → Q (.inr 4, g', t))
    (k3 : ∀ n, n < 32 → x = Int32.ofNat n → zL1 P W E St n = false → zL2 P W E St n = false → zL3 P W E St n → ∀ g', fr [26, 27, 28] g g' → Q (.inr 5, g', t))
    (k4 : ∀ n, n < 32 → x = Int32.ofNat n → zL1 P W E St n = false → zL2 P W E St n = false → ¬ zL3 P W E St n → ∀ g', fr [25, 26, 27, 28, 29, 30, 31] g g' → (∀ i, i < 32 → g' 31 i = zY P W E St n i) → (∀ i, i < 32 → g' 25 i = (zR P W E St n ru).1 i) → g' 29 2 = Int32.ofNat (zC P W E St n) → (∀ i, i < 32 → g' 30 i = (zR P W E St n ru).2 i) → Q (.inl (some (.int (Int32.ofNat (zC P W E St n)))), g', t)) :
    am_GQ (10, 0, [(0, .ref 8), (1, .int x)], [], g, t) Q := by
  refine B_D_make_0 (S_isFile (fun n hn e => B_D_make_4 ⟨fun _ => ?_, fun h => absurd h one_ne⟩) (fun h => B_D_make_4 ⟨fun z => absurd rfl z, fun _ => k0 h⟩))
  have q1 := k1 n hn e
  have q2 := k2 n hn e
  have q3 := k3 n hn e
  have q4 := k4 n hn e
  subst e
  refine S_build hP hW hE hSt (fun g1 f1 h1 h2 h3 => B_D_make_22 (B_Graph_withFoundation_0 (am_chk_i (am_in32 hn) (S_setOf (B_Graph_withFoundation_10 (B_D_make_30 ?_))))))
  have hX : gX g1 (zH P W St) (zS P W E St) (zF P W E St) St := ⟨h2, h1, h3, fun i hi => by rw [f1 25 (by decide)]; exact hSt i hi⟩
  rw [nn_nat (by omega), h3 n hn]
  change am_GQ (27, 0, [(0, .ref 26), (1, .int (zT P W E St n))], [], g1, t) _
  refine S_hasLoop hX (B_D_make_39 ⟨fun h => ?_, fun h => ?_⟩)
  rotate_left
  · rw [b2i_nz] at h
    exact q1 h g1 f1
  rw [b2i_z] at h
  refine S_hasUnm hX (B_D_make_58 ⟨fun h4 => ?_, fun h4 => ?_⟩)
  rotate_left
  · rw [b2i_nz] at h4
    exact q2 h h4 g1 f1
  rw [b2i_z] at h4
  refine S_outOfDate hX (B_D_make_77 (S_greatest (B_D_make_85 (S_bitCount (B_D_make_89 ?_)))))
  rw [mxS_congr (S := g1 25) (S' := St) 32 0 _ (fun j _ hj => hX.2.2.2 j (by omega))]
  refine ⟨fun h5 => S_runRecipes hX (zAcy h) (ru := ru) (fun i hi => by rw [f1 30 (by decide)]; exact hru i hi) (fun g2 f2 r1 r2 r3 r4 => B_D_make_108 (S_bitCount (B_D_make_112 ?_))), fun h5 => q3 h h4 h5 g1 f1⟩
  exact q4 h h4 (not_le_lt h5) g2 (fr_trans (fr_sub f1 (by decide)) (fr_sub f2 (by decide))) r1 r2 r3 r4
end
