def pX (g : am_G) (P : List (Nat × Nat)) : Prop := P.length ≤ 30 ∧ g 20 4 = Int32.ofNat P.length ∧ ∀ i a b, P[i]? = some (a, b) → g 22 i = Int32.ofNat a ∧ g 23 i = Int32.ofNat b ∧ a < 4 ∧ b < 4
theorem pX_fr {ks : List Nat} {g g' : am_G} {P : List (Nat × Nat)} (h : pX g P) (hf : fr ks g g') (h0 : g' 20 4 = g 20 4) (h2 : 22 ∉ ks) (h3 : 23 ∉ ks) : pX g' P := by
  obtain ⟨a1, a2, a3⟩ := h
  refine ⟨a1, by rw [h0]; exact a2, fun i a b hi => ?_⟩
  rw [hf 22 h2, hf 23 h3]
  exact a3 i a b hi
theorem am_in32 {i : Nat} (h : i < 32) : am_in (Int32.ofNat i) 32 = true := nn_in h (by omega)
section
variable {g : am_G} {t : Nat} {Q : am_R → Prop} {n : Nat} {c : Nat → Nat} {L : List (Nat × Nat)} {V : Nat → Option Nat} {P : List (Nat × Nat)}
theorem S_Rules_clear (kk : ∀ g', (∀ i, i < 32 → g' 21 i = Int32.ofNat 0) → g' 20 3 = Int32.ofNat 0 → pX g' [] → fr [20, 21, 22, 23] g g' → Q (.inl none, g', t)) : am_GQ (69, 0, [(0, .ref 20)], [], g, t) Q := by
  refine B_Rules_clear_0 (for_up (N := 32) (fun i g' => (69, 2, [(0, .ref 20), (1, .int (Int32.ofNat i))], [], g', t)) (fun i g' => (∀ m, m < i → g' 21 m = Int32.ofNat 0) ∧ fr [20, 21, 22, 23] g g') ?_ ?_ 0 g (by omega) ⟨fun m hm => by omega, fr_refl _ _⟩)
  · rintro i g' hi ⟨h1, h2⟩ k
    refine B_Rules_clear_2 ⟨fun h => ?_, fun _ => am_chk_i (am_in32 hi) ?_⟩
    · rw [nn_le (by omega) (by omega)] at h
      omega
    · rw [nn_add, nn_nat (by omega)]
      refine k _ ⟨fun m hm => ?_, fr_w h2 (by decide)⟩
      by_cases e : m = i
      · rw [e, w_s]
      · rw [w_i e]; exact h1 m (by omega)
  · rintro g' ⟨h1, h2⟩
    refine B_Rules_clear_2 ⟨fun _ => kk _ (fun i hi => ?_) ?_ ⟨Nat.zero_le _, w_s, fun i a b hi => by cases hi⟩ (fr_w (fr_w h2 (by decide)) (by decide)), fun h => absurd h (by decide)⟩
    · rw [w_k (by decide), w_k (by decide)]; exact h1 i hi
    · rw [w_i (by decide), w_s]
theorem S_addRule {tg sr : Int32} {b : Bool} {s : Nat → Int32} {w : Int32} (hs : ∀ i, i < 32 → g 21 i = s i) (hw : g 20 3 = w) (hP : pX g P)
    (kk : ∀ g', (∀ i, i < 32 → g' 21 i = if bt tg i = true then s i ||| sr else s i) → g' 20 3 = (if b = true then w ||| tg else w) → pX g' P → fr [20, 21, 22, 23] g g' → Q (.inl none, g', t)) :
    am_GQ (68, 0, [(0, .ref 20), (1, .int tg), (2, .int sr), (3, .int (b2i b))], [], g, t) Q := by
  refine B_Rules_addRule_0 (for_up (N := 32) (fun i g' => (68, 3, [(0, .ref 20), (1, .int tg), (2, .int sr), (3, .int (b2i b)), (4, .int (Int32.ofNat i))], [], g', t)) (fun i g' => (∀ m, m < 32 → g' 21 m = if m < i ∧ bt tg m = true then s m ||| sr else s m) ∧ fr [21] g g') ?_ ?_ 0 g (by omega) ⟨fun m hm => by rw [if_neg (fun z => by omega)]; exact hs m hm, fr_refl _ _⟩)
  · rintro i g' hi ⟨h1, h2⟩ k
    have next : ∀ g2, (∀ m, m < 32 → g2 21 m = if m < i + 1 ∧ bt tg m = true then s m ||| sr else s m) → fr [21] g g2 → am_GQ (68, 30, [(0, .ref 20), (1, .int tg), (2, .int sr), (3, .int (b2i b)), (4, .int (Int32.ofNat i))], [], g2, t) Q := by
      intro g2 a1 a2
      refine B_Rules_addRule_30 ?_
      rw [nn_add]
      exact k g2 ⟨a1, a2⟩
    refine B_Rules_addRule_3 ⟨fun h => ?_, fun _ => S_holds hi (B_Rules_addRule_16 ⟨fun h => ?_, fun h => am_chk_i (am_in32 hi) (am_chk_i (am_in32 hi) ?_)⟩)⟩
    · rw [nn_le (by omega) (by omega)] at h
      omega
    · rw [b2i_z] at h
      refine next g' (fun m hm => ?_) h2
      rw [h1 m hm]
      by_cases e : m = i
      · subst e
        rw [if_neg (fun z => by omega), if_neg (fun z => by rw [h] at z; cases z.2)]
      · by_cases e2 : m < i ∧ bt tg m = true
        · rw [if_pos e2, if_pos ⟨by omega, e2.2⟩]
        · rw [if_neg e2, if_neg (fun z => e2 ⟨by omega, z.2⟩)]
    · rw [b2i_nz] at h
      rw [nn_nat (by omega)]
      refine next _ (fun m hm => ?_) (fr_w h2 (by decide))
      by_cases e : m = i
      · subst e
        rw [w_s, h1 m hm, if_neg (fun z => by omega), if_pos ⟨by omega, h⟩]
      · rw [w_i e, h1 m hm]
        by_cases e2 : m < i ∧ bt tg m = true
        · rw [if_pos e2, if_pos ⟨by omega, e2.2⟩]
        · rw [if_neg e2, if_neg (fun z => e2 ⟨by omega, z.2⟩)]
  · rintro g' ⟨h1, h2⟩
    have e20 : g' 20 = g 20 := h2 20 (by decide)
    have h21 : ∀ i, i < 32 → g' 21 i = if bt tg i = true then s i ||| sr else s i := by
      intro i hi
      rw [h1 i hi]
      by_cases e : bt tg i = true
      · rw [if_pos e, if_pos ⟨hi, e⟩]
      · rw [if_neg e, if_neg (fun z => e z.2)]
    refine B_Rules_addRule_3 ⟨fun _ => ⟨fun h => ?_, fun h => ?_⟩, fun h => absurd h (by decide)⟩
    · rw [b2i_z] at h
      refine kk g' h21 ?_ (pX_fr hP h2 (by rw [e20]) (by decide) (by decide)) (fr_sub h2 (by decide))
      rw [if_neg (by rw [h]; decide), e20]
      exact hw
    · rw [b2i_nz] at h
      refine kk _ (fun i hi => by rw [w_k (by decide)]; exact h21 i hi) ?_ (pX_fr hP (fr_w (ks := [20, 21]) (fr_sub h2 (by decide)) (by decide)) (by rw [w_i (by decide), e20]) (by decide) (by decide)) (fr_w (fr_sub h2 (by decide)) (by decide))
      rw [w_s, if_pos h, e20, hw]
theorem S_addPattern (hP : pX g P) (hl : P.length < 30) {a b : Nat} (ha : a < 4) (hb : b < 4)
    (kk : ∀ g', g' 21 = g 21 → g' 20 3 = g 20 3 → pX g' (P ++ [(a, b)]) → fr [20, 21, 22, 23] g g' → Q (.inl none, g', t)) :
    am_GQ (67, 0, [(0, .ref 20), (1, .int (Int32.ofNat a)), (2, .int (Int32.ofNat b))], [], g, t) Q := by
  obtain ⟨a1, a2, a3⟩ := hP
  refine B_Rules_addPattern_0 ⟨fun h => ?_, fun h => ?_⟩
  · rw [a2, nn_le (by omega) (by omega)] at h
    omega
  · have e1 : ∀ v, am_w g 22 (g 20 4).toNatClampNeg v 20 4 = g 20 4 := fun v => by rw [w_k (by decide)]
    have e2 : ∀ v u, am_w (am_w g 22 (g 20 4).toNatClampNeg v) 23 (g 20 4).toNatClampNeg u 20 4 = g 20 4 := fun v u => by rw [w_k (by decide), e1]
    rw [e1, e2, a2, nn_nat (by omega), nn_add]
    refine am_chk_i (nn_in (by omega) (by omega)) (am_chk_i (nn_in (by omega) (by omega)) (kk _ ?_ ?_ ⟨?_, ?_, ?_⟩ (fr_w (fr_w (fr_w (fr_refl _ _) (by decide)) (by decide)) (by decide))))
    · rw [w_k (by decide), w_k (by decide), w_k (by decide)]
    · rw [w_i (by decide), w_k (by decide), w_k (by decide)]
    · rw [List.length_append]; exact hl
    · rw [w_s, List.length_append]; rfl
    · intro j x y hj
      rw [w_k (k := 20) (by decide), w_k (k := 20) (by decide), w_k (k := 23) (by decide)]
      by_cases e : j = P.length
      · subst e
        rw [w_s, w_s]
        rw [List.getElem?_append_right (Nat.le_refl _), Nat.sub_self] at hj
        cases hj
        exact ⟨rfl, rfl, ha, hb⟩
      · rw [w_i e, w_i e, w_k (by decide)]
        refine a3 j x y ?_
        by_cases e2 : j < P.length
        · rw [List.getElem?_append_left e2] at hj; exact hj
        · rw [List.getElem?_append_right (by omega), List.getElem?_eq_none (by simp only [List.length_cons, List.length_nil]; omega)] at hj
          cases hj
theorem S_fill_loop (hR : RX g n c L V) {tgf srf : Ru → Int32} (htg : tgf = tgR c (tks c V)) (hsr : srf = srR c (tks c V)) {S : Nat → Int32} {W : Int32} {PP : List (Nat × Nat)} {N : Nat} (hPP : PP.length ≤ 30)
    (kk : ∀ g', (∀ i, i < 32 → g' 21 i = S i) → g' 20 3 = W → pX g' PP → fr [20, 21, 22, 23] g g' → Q (.inl (some (.int (Int32.ofNat N))), g', t)) :
    ∀ (f j k : Nat) (s : Nat → Int32) (w : Int32) (P : List (Nat × Nat)) (g' : am_G), j + f = L.length → (∀ q ∈ rls L f j, pLoop c (tks c V) q = false) →
      k + (rls L f j).length = N → flS tgf srf (rls L f j) s = S → flW tgf (rls L f j) w = W → P ++ pts c L f j = PP →
      (∀ i, i < 32 → g' 21 i = s i) → g' 20 3 = w → pX g' P → fr [20, 21, 22, 23] g g' →
      am_GQ (59, 8, [(0, .ref 19), (1, .ref 20), (2, .int (Int32.ofNat k)), (3, .int (Int32.ofNat j))], [], g', t) Q := by
  have hl := hR.2.1.1
  intro f
  induction f with
  | zero =>
    intro j k s w P g' hj hgo hk hS hW hP h1 h2 h3 h4
    obtain ⟨hT, hL, hG, hM⟩ := RX_fr hR h4 (by decide)
    refine B_RuleLines_fill_8 (S_count hL (B_RuleLines_fill_16 ⟨fun _ => ?_, fun h => ?_⟩))
    · rw [rls] at hk hS hW
      rw [pts, List.append_nil] at hP
      rw [flS] at hS
      rw [flW] at hW
      rw [List.length_nil, Nat.add_zero] at hk
      subst hk; subst hS; subst hW; subst hP
      exact kk g' h1 h2 h3 h4
    · rw [nn_lt (by omega) (by omega)] at h
      omega
  | succ f ih =>
    intro j k s w P g' hj hgo hk hS hW hP h1 h2 h3 h4
    obtain ⟨hT, hL, hG, hM⟩ := RX_fr hR h4 (by decide)
    rw [rls] at hk hS hW hgo
    rw [pts] at hP
    refine B_RuleLines_fill_8 (S_count hL (B_RuleLines_fill_16 ⟨fun h => ?_, fun _ => S_RL_isRule hL (by omega) (B_RuleLines_fill_24 ⟨fun h => ?_, fun h => ?_⟩)⟩))
    · rw [nn_le (by omega) (by omega)] at h
      omega
    · rw [b2i_dz] at h
      rw [if_neg h] at hk hS hW hgo
      refine S_isKind hL (by omega) (by omega) (B_RuleLines_fill_73 ⟨fun h5 => ?_, fun h5 => ?_⟩)
      · rw [b2i_dz] at h5
        rw [if_neg h5] at hP
        refine B_RuleLines_fill_112 ?_
        rw [nn_add]
        exact ih _ _ _ _ _ _ (by omega) hgo hk hS hW hP h1 h2 h3 h4
      · rw [b2i_dz, Decidable.not_not] at h5
        rw [if_pos h5] at hP
        obtain ⟨hjl, e, x1, x2, x3⟩ := pat_pos hG h5
        have hn := hT.1
        have hlen : P.length < 30 := by
          rw [← hP, List.length_append, List.length_cons] at hPP
          omega
        refine S_startOf hL hjl (B_RuleLines_fill_84 ?_)
        rw [nn_add]
        refine S_kindAt hT (by omega) (B_RuleLines_fill_98 ?_)
        rw [nn_add]
        refine S_kindAt hT (by omega) (B_RuleLines_fill_109 ?_)
        rw [nn_sub (by omega), nn_sub (by omega)]
        refine S_addPattern h3 hlen (by omega) (by omega) (fun g2 y1 y2 y3 y4 => B_RuleLines_fill_112_b ?_)
        rw [nn_add]
        exact ih _ _ _ _ _ _ (by omega) hgo hk hS hW (by rw [List.append_assoc]; exact hP) (fun i hi => by rw [y1]; exact h1 i hi) (y2.trans h2) y3 (fr_trans h4 y4)
    · rw [b2i_dz, Decidable.not_not] at h
      rw [if_pos h] at hk hS hW hgo
      rw [if_neg (by omega)] at hP
      obtain ⟨hjl, e, x1, x2, _⟩ := rul_pos hG h
      have hpe := pe_in hT 240 (sn L j) (by omega)
      have h0 := hgo _ List.mem_cons_self
      unfold pLoop tT tS at h0
      rw [Bool.not_eq_false', Bool.and_eq_true] at h0
      refine S_targets hT hL hjl (by omega) (B_RuleLines_fill_33 (S_sourcePhrase hT hL hjl (by omega) (B_RuleLines_fill_42 (S_filesIn hT (by omega) (B_RuleLines_fill_45 (S_hasRecipe hL (by omega) (B_RuleLines_fill_53 ?_)))))))
      refine S_addRule h1 h2 h3 (fun g2 y1 y2 y3 y4 => B_RuleLines_fill_56 (B_RuleLines_fill_112 ?_))
      rw [nn_add, nn_add]
      rw [files_ok hM h0.1] at y1 y2
      rw [files_ok hM h0.2] at y1
      rw [List.length_cons] at hk
      rw [flS] at hS
      rw [flW] at hW
      refine ih _ _ _ _ _ _ (by omega) (fun q hq => hgo q (List.mem_cons_of_mem _ hq)) (by omega) hS hW hP (fun i hi => ?_) ?_ y3 (fr_trans h4 y4)
      · rw [y1 i hi, htg, hsr]; rfl
      · rw [y2, htg]; rfl
theorem S_fill (hR : RX g n c L V) (hgo : ∀ q ∈ rls L L.length 0, pLoop c (tks c V) q = false) (hPP : (pts c L L.length 0).length ≤ 30)
    (kk : ∀ g', (∀ i, i < 32 → g' 21 i = flS (tgR c (tks c V)) (srR c (tks c V)) (rls L L.length 0) (fun _ => Int32.ofNat 0) i) → g' 20 3 = flW (tgR c (tks c V)) (rls L L.length 0) (Int32.ofNat 0) → pX g' (pts c L L.length 0) → fr [20, 21, 22, 23] g g' → Q (.inl (some (.int (Int32.ofNat (rls L L.length 0).length))), g', t)) :
    am_GQ (59, 0, [(0, .ref 19), (1, .ref 20)], [], g, t) Q := by
  refine B_RuleLines_fill_0 (S_Rules_clear (fun g1 y1 y2 y3 y4 => B_RuleLines_fill_6 ?_))
  exact S_fill_loop (RX_fr hR y4 (by decide)) rfl rfl hPP (fun g' z1 z2 z3 z4 => kk g' z1 z2 z3 (fr_trans y4 z4)) L.length 0 0 _ _ [] g1 (by omega) hgo (by omega) rfl rfl rfl y1 y2 y3 (fr_refl _ _)
end
