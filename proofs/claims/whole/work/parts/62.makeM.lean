section
variable {t : Nat} {Q : am_R → Prop} {H : Int32} {S F St : Nat → Int32} {set x1 : Int32}
theorem S_make40 {g : am_G} (hSt : ∀ i, i < 32 → g 47 i = St i) {x3 v : Int32} (kk : am_GQ (104, 82, [(0, .ref 32), (1, .int x1), (2, .int set), (3, .int x3), (4, .int v), (5, .int (Int32.ofNat 0))], [], am_w g 32 2 (Int32.ofNat 2), t) Q) :
    ∀ (f i : Nat) (a : Int32), i + f = 32 → mxS St f i a = v → am_GQ (104, 40, [(0, .ref 32), (1, .int x1), (2, .int set), (3, .int x3), (4, .int a), (5, .int (Int32.ofNat i))], [], g, t) Q
  | 0, i, a, he, hv => by
    have e : i = 32 := by omega
    subst e
    rw [mxS] at hv
    subst hv
    exact B_M_make_40 ⟨fun _ => kk, fun h => absurd ((nn_lt (by omega) (by omega)).mp h) (by omega)⟩
  | f + 1, i, a, he, hv => by
    have hi : i < 32 := by omega
    rw [mxS] at hv
    refine B_M_make_40 ⟨fun h => absurd ((nn_le (by omega) (by omega)).mp h) (by omega), fun _ => am_chk_i (am_in32 hi) ?_⟩
    rw [nn_nat (by omega), hSt i hi]
    refine ⟨fun h => B_M_make_68 ?_, fun h => am_chk_i (am_in32 hi) (B_M_make_68 ?_)⟩
    · rw [if_neg (not_le_lt h)] at hv
      rw [nn_add]
      exact S_make40 hSt kk f (i + 1) a (by omega) hv
    · rw [if_pos h] at hv
      rw [nn_add]
      exact S_make40 hSt kk f (i + 1) _ (by omega) hv
theorem S_make82 {g : am_G} (hX : gM g H S F St) {x3 x4 : Int32} {B : Bool} (k0 : B = false → am_GQ (104, 129, [(0, .ref 32), (1, .int x1), (2, .int set), (3, .int x3), (4, .int x4), (5, .int (Int32.ofNat 0))], [], am_w g 32 2 (Int32.ofNat 3), t) Q) (k1 : B = true → Q (.inl (some (.int (Int32.ofNat 0))), g, t)) :
    ∀ (f i : Nat), i + f = 32 → anyP (fun k => bt set k && bt (F k) k) f i = B → am_GQ (104, 82, [(0, .ref 32), (1, .int x1), (2, .int set), (3, .int x3), (4, .int x4), (5, .int (Int32.ofNat i))], [], g, t) Q
  | 0, i, he, hB => by
    have e : i = 32 := by omega
    subst e
    exact B_M_make_82 ⟨fun _ => k0 hB.symm, fun h => absurd ((nn_lt (by omega) (by omega)).mp h) (by omega)⟩
  | f + 1, i, he, hB => by
    have hi : i < 32 := by omega
    rw [anyP] at hB
    have next : ¬ (bt set i && bt (F i) i) = true → am_GQ (104, 115, [(0, .ref 32), (1, .int x1), (2, .int set), (3, .int x3), (4, .int x4), (5, .int (Int32.ofNat i))], [], g, t) Q := by
      intro hno
      rw [if_neg hno] at hB
      refine B_M_make_115 ?_
      rw [nn_add]
      exact S_make82 hX k0 k1 f (i + 1) (by omega) hB
    refine B_M_make_82 ⟨fun h => absurd ((nn_le (by omega) (by omega)).mp h) (by omega), fun _ => S_M_has hi (B_M_make_95 ⟨fun h => ?_, fun h => am_chk_i (am_in32 hi) ?_⟩)⟩
    · rw [b2i_z] at h
      exact next (by rw [h, Bool.false_and]; decide)
    · rw [b2i_nz] at h
      rw [nn_nat (by omega), hX.2.2.1 i hi]
      refine S_M_has hi (B_M_make_110 ⟨fun h2 => ?_, fun h2 => ?_⟩)
      · rw [b2i_z] at h2
        exact next (by rw [h2, Bool.and_false]; decide)
      · rw [b2i_nz] at h2
        rw [if_pos (by rw [h, h2]; rfl)] at hB
        exact k1 hB.symm
theorem S_make129 {g : am_G} (hX : gM g H S F St) {x3 x4 : Int32} {B : Bool} (k0 : B = false → am_GQ (108, 0, [(0, .ref 32), (1, .int set)], [], g, t) (am_af 104 177 [(0, .ref 32), (1, .int x1), (2, .int set), (3, .int x3), (4, .int x4), (5, .int (Int32.ofNat 32))] [] Q)) (k1 : B = true → Q (.inl (some (.int (Int32.ofNat 0))), g, t)) :
    ∀ (f i : Nat), i + f = 32 → anyP (fun k => bt set k && (!bt H k && decide (St k = Int32.ofNat 0))) f i = B → am_GQ (104, 129, [(0, .ref 32), (1, .int x1), (2, .int set), (3, .int x3), (4, .int x4), (5, .int (Int32.ofNat i))], [], g, t) Q
  | 0, i, he, hB => by
    have e : i = 32 := by omega
    subst e
    exact B_M_make_129 ⟨fun _ => k0 hB.symm, fun h => absurd ((nn_lt (by omega) (by omega)).mp h) (by omega)⟩
  | f + 1, i, he, hB => by
    have hi : i < 32 := by omega
    rw [anyP] at hB
    have next : ¬ (bt set i && (!bt H i && decide (St i = Int32.ofNat 0))) = true → am_GQ (104, 169, [(0, .ref 32), (1, .int x1), (2, .int set), (3, .int x3), (4, .int x4), (5, .int (Int32.ofNat i))], [], g, t) Q := by
      intro hno
      rw [if_neg hno] at hB
      refine B_M_make_169 ?_
      rw [nn_add]
      exact S_make129 hX k0 k1 f (i + 1) (by omega) hB
    refine B_M_make_129 ⟨fun h => absurd ((nn_le (by omega) (by omega)).mp h) (by omega), fun _ => S_M_has hi (B_M_make_142 ⟨fun h => ?_, fun h => ?_⟩)⟩
    · rw [b2i_z] at h
      exact next (by rw [h, Bool.false_and]; decide)
    · rw [b2i_nz] at h
      rw [hX.1]
      refine S_M_has hi (B_M_make_154 ⟨fun h2 => ?_, fun h2 => am_chk_i (am_in32 hi) ?_⟩)
      · rw [b2i_nz] at h2
        exact next (by rw [h2, Bool.not_true, Bool.false_and, Bool.and_false]; decide)
      · rw [b2i_z] at h2
        rw [nn_nat (by omega), hX.2.2.2 i hi]
        refine ⟨fun h3 => next (by rw [decide_eq_false h3, Bool.and_false, Bool.and_false]; decide), fun h3 => ?_⟩
        rw [if_pos (by rw [h, h2, decide_eq_true h3]; rfl)] at hB
        exact k1 hB.symm
theorem S_make186 {g : am_G} {X : Int32} (hw : ∀ i, i < 32 → (¬ g 50 i = Int32.ofNat 0 ↔ bt X i = true)) {x4 : Int32}
    (k0 : (0 < cnt (fun k => bt X k) 32 → x4 + Int32.ofNat (cnt (fun k => bt X k) 32) ≤ Int32.ofNat 1000000000) → am_GQ (104, 244, [(0, .ref 32), (1, .int x1), (2, .int set), (3, .int X), (4, .int x4), (5, .int (Int32.ofNat (cnt (fun k => bt X k) 32)))], [], am_w g 32 2 (Int32.ofNat 4), t) Q)
    (k1 : 0 < cnt (fun k => bt X k) 32 → Int32.ofNat 1000000000 < x4 + Int32.ofNat (cnt (fun k => bt X k) 32) → Q (.inl (some (.int (Int32.ofNat 0))), am_w g 32 2 (Int32.ofNat 4), t)) :
    ∀ (f i : Nat) (w : Int32), i + f = 32 → (∀ k, k < 32 → (bt w k = true ↔ k < i ∧ bt X k = true)) → am_GQ (104, 186, [(0, .ref 32), (1, .int x1), (2, .int set), (3, .int w), (4, .int x4), (5, .int (Int32.ofNat (cnt (fun k => bt X k) i))), (6, .int (Int32.ofNat i))], [], g, t) Q
  | 0, i, w, he, hb => by
    have e : i = 32 := by omega
    subst e
    have ew : w = X := by
      refine bt_ext (fun k hk => ?_)
      cases hx : bt X k with
      | true => exact (hb k hk).mpr ⟨hk, hx⟩
      | false =>
        cases hy : bt w k with
        | false => rfl
        | true =>
          rw [((hb k hk).mp hy).2] at hx
          cases hx
    subst ew
    have hc := cnt_le (fun k => bt w k) 32
    refine B_M_make_186 ⟨fun _ => ?_, fun h => absurd ((nn_lt (by omega) (by omega)).mp h) (by omega)⟩
    rw [nn_le (m := cnt (fun k => bt w k) 32) (n := 0) (by omega) (by omega), nn_lt (m := 0) (n := cnt (fun k => bt w k) 32) (by omega) (by omega)]
    exact ⟨fun h => k0 (fun z => by omega), fun h => ⟨fun h2 => k0 (fun _ => h2), fun h2 => k1 h h2⟩⟩
  | f + 1, i, w, he, hb => by
    have hi : i < 32 := by omega
    refine B_M_make_186 ⟨fun h => absurd ((nn_le (by omega) (by omega)).mp h) (by omega), fun _ => am_chk_i (am_in32 hi) ?_⟩
    rw [nn_nat (by omega)]
    refine ⟨fun h => B_M_make_216 ?_, fun h => B_M_make_216 ?_⟩
    · have hx := (hw i hi).mp h
      rw [nn_add, nn_add]
      have ec : cnt (fun k => bt X k) i + 1 = cnt (fun k => bt X k) (i + 1) := by
        show _ = cnt (fun k => bt X k) i + (if bt X i = true then 1 else 0)
        rw [if_pos hx]
      rw [ec]
      refine S_make186 hw k0 k1 f (i + 1) _ (by omega) (fun k hk => ?_)
      rw [bt_or, bt_shift hi k hk, Bool.or_eq_true, decide_eq_true_eq, hb k hk]
      constructor
      · rintro (⟨a, b⟩ | a)
        · exact ⟨by omega, b⟩
        · subst a
          exact ⟨by omega, hx⟩
      · rintro ⟨a, b⟩
        by_cases e : k = i
        · exact Or.inr e
        · exact Or.inl ⟨by omega, b⟩
    · have hx : ¬ bt X i = true := fun z => (hw i hi).mpr z h
      rw [nn_add]
      have ec : cnt (fun k => bt X k) i = cnt (fun k => bt X k) (i + 1) := by
        show _ = cnt (fun k => bt X k) i + (if bt X i = true then 1 else 0)
        rw [if_neg hx]
        rfl
      rw [ec]
      refine S_make186 hw k0 k1 f (i + 1) _ (by omega) (fun k hk => ?_)
      rw [hb k hk]
      constructor
      · rintro ⟨a, b⟩
        exact ⟨by omega, b⟩
      · rintro ⟨a, b⟩
        by_cases e : k = i
        · subst e
          exact absurd b hx
        · exact ⟨by omega, b⟩
theorem S_make257 {g0 : am_G} {x3 x4 x5 : Int32} (kk : ∀ g', fm [52] [] g0 g' → (∀ i, i < 32 → g' 52 i = g0 50 i) → am_GQ (104, 287, [(0, .ref 32), (1, .int x1), (2, .int set), (3, .int x3), (4, .int x4), (5, .int x5), (6, .int (Int32.ofNat 0))], [], g', t) Q) :
    ∀ (f i : Nat) (g : am_G), i + f = 32 → fm [52] [] g0 g → (∀ j, j < i → g 52 j = g0 50 j) → am_GQ (104, 257, [(0, .ref 32), (1, .int x1), (2, .int set), (3, .int x3), (4, .int x4), (5, .int x5), (6, .int (Int32.ofNat i))], [], g, t) Q
  | 0, i, g, he, hf, h => by
    have e : i = 32 := by omega
    subst e
    exact B_M_make_257 ⟨fun _ => kk g hf h, fun h => absurd ((nn_lt (by omega) (by omega)).mp h) (by omega)⟩
  | f + 1, i, g, he, hf, h => by
    have hi : i < 32 := by omega
    refine B_M_make_257 ⟨fun h => absurd ((nn_le (by omega) (by omega)).mp h) (by omega), fun _ => am_chk_i (am_in32 hi) (am_chk_i (am_in32 hi) ?_)⟩
    rw [nn_add, nn_nat (by omega), hf.1 50 (by decide) (by decide)]
    refine S_make257 kk f (i + 1) _ (by omega) (fm_w hf (by decide) (by decide)) (fun j hj => ?_)
    by_cases e : j = i
    · rw [e, w_s]
    · rw [w_i e]
      exact h j (by omega)
end
section
variable {g : am_G} {t : Nat} {Q : am_R → Prop} {P : List (Nat × Nat)} {W : Int32} {E St ru : Nat → Int32} {x : Int32}
theorem S_M_make (hP : pN g P) (hW : g 32 18 = W) (hE : ∀ i, i < 32 → g 45 i = E i) (hSt : ∀ i, i < 32 → g 47 i = St i) (hru : ∀ i, i < 32 → g 51 i = ru i) (hok : okSt St)
    (k0 : nF x → ∀ g', fm [48, 49, 50] [2, 22, 23] g g' → g' 32 2 = Int32.ofNat 1 → Q (.inl (some (.int (Int32.ofNat 0))), g', t))
    (k1 : ∀ n, n < 32 → x = Int32.ofNat n → zL1 P W E St n = true → ∀ g', fm [48, 49, 50] [2, 22, 23] g g' → g' 32 2 = Int32.ofNat 2 → Q (.inl (some (.int (Int32.ofNat 0))), g', t))
    (k2 : ∀ n, n < 32 → x = Int32.ofNat n → zL1 P W E St n = false → zL2 P W E St n = true → ∀ g', fm [48, 49, 50] [2, 22, 23] g g' → g' 32 2 = Int32.ofNat 3 → Q (.inl (some (.int (Int32.ofNat 0))), g', t))
    (k3 : ∀ n, n < 32 → x = Int32.ofNat n → zL1 P W E St n = false → zL2 P W E St n = false → zL3 P W E St n → ∀ g', fm [48, 49, 50] [2, 22, 23] g g' → g' 32 2 = Int32.ofNat 4 → Q (.inl (some (.int (Int32.ofNat 0))), g', t))
    (k4 : ∀ n, n < 32 → x = Int32.ofNat n → zL1 P W E St n = false → zL2 P W E St n = false → ¬ zL3 P W E St n → ∀ g', fm [47, 48, 49, 50, 51, 52] [2, 22, 23, 28] g g' → g' 32 2 = Int32.ofNat 0 → (∀ i, i < 32 → g' 52 i = zY P W E St n i) → (∀ i, i < 32 → g' 47 i = (zR P W E St n ru).1 i) → g' 32 28 = Int32.ofNat (zC P W E St n) → (∀ i, i < 32 → g' 51 i = (zR P W E St n ru).2 i) → Q (.inl (some (.int (Int32.ofNat (zC P W E St n)))), g', t)) :
    am_GQ (104, 0, [(0, .ref 32), (1, .int x)], [], g, t) Q := by
  have f0 : ∀ v, fm [] [2] g (am_w g 32 2 v) := fun v => fm_f (fm_refl _ _ _) (by decide)
  refine B_M_make_0 (S_in31 (fun n hn e => B_M_make_12 ⟨fun _ => ?_, fun h => absurd h one_ne⟩) (fun h => B_M_make_12 ⟨fun z => absurd rfl z, fun _ => k0 h _ (fm_sub (f0 _) (by decide) (by decide)) w_s⟩))
  have q1 := k1 n hn e
  have q2 := k2 n hn e
  have q3 := k3 n hn e
  have q4 := k4 n hn e
  subst e
  refine S_M_graph (W := W) (E := E) (St := St) (pN_fm hP (f0 _) (by decide) (by decide)) (by rw [(f0 _).2 18 (by decide)]; exact hW) (fun i hi => by rw [(f0 _).1 45 (by decide) (by decide)]; exact hE i hi) (fun i hi => by rw [(f0 _).1 47 (by decide) (by decide)]; exact hSt i hi) (fun g1 f1 h1 h2 h3 => B_M_make_21 (am_chk_i (am_in32 hn) ?_))
  have hf1 : fm [48, 49, 50] [2, 22, 23] g g1 := fm_trans (fm_sub (f0 _) (by decide) (by decide)) (fm_sub f1 (by decide) (by decide))
  have hX : gM g1 (zH P W St) (zS P W E St) (zF P W E St) St := ⟨h2, h1, h3, fun i hi => by rw [hf1.1 47 (by decide) (by decide)]; exact hSt i hi⟩
  rw [nn_nat (by omega), h3 n hn]
  change am_GQ (104, 40, [(0, .ref 32), (1, .int (Int32.ofNat n)), (2, .int (zT P W E St n)), (3, .int (Int32.ofNat 0)), (4, .int (Int32.ofNat 0)), (5, .int (Int32.ofNat 0))], [], g1, t) _
  refine S_make40 hX.2.2.2 (v := zG St) ?_ 32 0 _ rfl rfl
  have w2 : ∀ v, fm [] [2] g1 (am_w g1 32 2 v) := fun v => fm_f (fm_refl _ _ _) (by decide)
  refine S_make82 (gM_fm hX (w2 _) (by decide) (by decide)) (B := zL1 P W E St n) (fun hB => ?_) (fun hB => q1 hB _ (fm_f hf1 (by decide)) w_s) 32 0 rfl rfl
  have hf2 : fm [48, 49, 50] [2, 22, 23] g (am_w (am_w g1 32 2 (Int32.ofNat 2)) 32 2 (Int32.ofNat 3)) := fm_f (fm_f hf1 (by decide)) (by decide)
  have w3 : fm [] [2] g1 (am_w (am_w g1 32 2 (Int32.ofNat 2)) 32 2 (Int32.ofNat 3)) := fm_f (fm_f (fm_refl _ _ _) (by decide)) (by decide)
  have hX3 := gM_fm hX w3 (by decide) (by decide)
  refine S_make129 hX3 (B := zL2 P W E St n) (fun hB2 => ?_) (fun hB2 => q2 hB hB2 _ hf2 w_s) 32 0 rfl rfl
  refine S_M_reasonsOf hX3 (fun g2 f2 r1 => B_M_make_180 ?_)
  have hf3 : fm [48, 49, 50] [2, 22, 23] g g2 := fm_trans hf2 (fm_sub f2 (by decide) (by decide))
  have hX4 := gM_fm hX3 f2 (by decide) (by decide)
  have hC : zC P W E St n = cnt (fun k => bt (zX P W E St n) k) 32 := rfl
  have hC32 := cnt_le (fun k => bt (zX P W E St n) k) 32
  obtain ⟨v, hv, eG⟩ := mxS_ok hok 32 0 (Int32.ofNat 0) (by omega) ⟨0, by omega, rfl⟩
  have eG2 : zG St = Int32.ofNat v := eG
  refine S_make186 (X := zX P W E St n) (fun i hi => by rw [r1 i hi]; exact rsC_nz hi) (fun h5 => ?_) (fun h5 h6 => q3 hB hB2 h6 _ (fm_f hf3 (by decide)) w_s) 32 0 (Int32.ofNat 0) rfl (fun k hk => ?_)
  rotate_left
  · rw [bt_zero]
    constructor
    · intro h
      cases h
    · rintro ⟨h, _⟩
      omega
  have hn3 : ¬ zL3 P W E St n := by
    unfold zL3
    rw [hC]
    by_cases e : 0 < cnt (fun k => bt (zX P W E St n) k) 32
    · exact not_le_lt (h5 e)
    · rw [show cnt (fun k => bt (zX P W E St n) k) 32 = 0 by omega, eG2, nn_add, nn_lt (by omega) (by omega)]
      omega
  refine B_M_make_244 (S_make257 (fun g3 f3 r2 => ?_) 32 0 _ rfl (fm_refl _ _ _) (fun j hj => absurd hj (Nat.not_lt_zero _)))
  have w4 : fm [] [2, 28] g2 (am_w (am_w (am_w g2 32 2 (Int32.ofNat 4)) 32 2 (Int32.ofNat 0)) 32 28 (Int32.ofNat 0)) := fm_f (fm_f (fm_f (fm_refl _ _ _) (by decide)) (by decide)) (by decide)
  have hX5 := gM_fm (gM_fm hX4 w4 (by decide) (by decide)) f3 (by decide) (by decide)
  have hf4 : fm [47, 48, 49, 50, 51, 52] [2, 22, 23, 28] g g3 := fm_trans (fm_sub hf3 (by decide) (by decide)) (fm_trans (fm_sub w4 (by decide) (by decide)) (fm_sub f3 (by decide) (by decide)))
  refine S_make287 (g0 := g3) (F := zF P W E St) (T := zR P W E St n ru) (r := zC P W E St n) hX5.2.2.1 (fun g4 f4 s1 s2 s3 => ?_) (zC P W E St n) (zX P W E St n) 0 (St, ru) g3 rfl (by omega) hC32 (zAcy hB) (fm_refl _ _ _) hX5.2.2.2 (by rw [f3.2 28 (by decide), w_s]) (fun i hi => ?_) rfl
  · refine q4 hB hB2 hn3 g4 (fm_trans hf4 (fm_sub f4 (by decide) (by decide))) ?_ (fun i hi => ?_) s1 s2 s3
    · rw [f4.2 2 (by decide), f3.2 2 (by decide), w_i (by decide), w_s]
    · rw [f4.1 52 (by decide) (by decide), r2 i hi, w4.1 50 (by decide) (by decide)]
      exact r1 i hi
  · rw [f3.1 51 (by decide) (by decide), w4.1 51 (by decide) (by decide), hf3.1 51 (by decide) (by decide)]
    exact hru i hi
end
