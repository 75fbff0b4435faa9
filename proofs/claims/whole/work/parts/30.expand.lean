section
variable {g : am_G} {t : Nat} {Q : am_R → Prop} {n : Nat} {c : Nat → Nat} {L : List (Nat × Nat)} {V : Nat → Option Nat}
def eX (tt : Nat → List Nat) (g : am_G) (E : Int32) : Prop := ∀ m, m < 26 → bt E m = true → gd tt m ∧ g 17 m = vF tt 26 m ∧ g 18 m = Int32.ofNat (vN tt 26 m)
theorem not_and_z {x y : Int32} : x &&& (y ^^^ (-1)) = Int32.ofNat 0 ↔ ∀ k, k < 32 → bt x k = true → bt y k = true := by
  rw [and_z]
  constructor
  · intro h k hk hx
    have := h k hk hx
    rw [bt_not _ hk] at this
    simpa using this
  · intro h k hk hx
    rw [bt_not _ hk, h k hk hx]; rfl
theorem S_expandValues (hT : tX g n c) (hV : vX g n V) (hl : ∀ m, m < 26 → g 16 m = lR (tks c V) m) (kk : ∀ g', (∀ m, m < 26 → gd (tks c V) m → g' 17 m = vF (tks c V) 26 m ∧ g' 18 m = Int32.ofNat (vN (tks c V) 26 m)) → fr [17, 18] g g' → Q (.inl none, g', t)) :
    am_GQ (45, 0, [(0, .ref 14)], [], g, t) Q := by
  have ht := tks_lt c V
  refine B_Macros_expandValues_0 (for_up (X := Int32 × am_G) (N := 26) (fun r x => (45, 4, [(0, .ref 14), (1, .int x.1), (2, .int (Int32.ofNat r))], [], x.2, t)) (fun r x => eX (tks c V) x.2 x.1 ∧ (∀ m, m < 26 → gd (tks c V) m → hg (tks c V) m < r → bt x.1 m = true) ∧ fr [17, 18] g x.2) ?_ ?_ 0 (Int32.ofNat 0, g) (by omega) ⟨?_, fun m _ _ h => by omega, fr_refl _ _⟩)
  · rintro r ⟨E, g1⟩ hr ⟨h1, h2, h3⟩ k
    refine B_Macros_expandValues_4 ⟨fun h => ?_, fun _ => ?_⟩
    · rw [nn_le (by omega) (by omega)] at h
      omega
    refine for_up (X := Int32 × am_G) (N := 26) (fun j x => (45, 12, [(0, .ref 14), (1, .int x.1), (2, .int (Int32.ofNat r)), (3, .int (Int32.ofNat j))], [], x.2, t)) (fun j x => eX (tks c V) x.2 x.1 ∧ (∀ m, m < 26 → gd (tks c V) m → (hg (tks c V) m < r ∨ hg (tks c V) m ≤ r ∧ m < j) → bt x.1 m = true) ∧ fr [17, 18] g x.2) ?_ ?_ 0 (E, g1) (by omega) ⟨h1, fun m hm hgd h => h2 m hm hgd (by omega), h3⟩
    · rintro j ⟨E, g2⟩ hj ⟨h4, h5, h6⟩ k2
      dsimp only at h4 h5 h6 ⊢
      have next : ∀ E' g3, eX (tks c V) g3 E' → (∀ m, m < 26 → bt E m = true → bt E' m = true) → (gd (tks c V) j → hg (tks c V) j ≤ r → bt E' j = true) → fr [17, 18] g g3 → am_GQ (45, 78, [(0, .ref 14), (1, .int E'), (2, .int (Int32.ofNat r)), (3, .int (Int32.ofNat j))], [], g3, t) Q := by
        intro E' g3 a1 a2 a3 a4
        refine B_Macros_expandValues_78 ?_
        rw [nn_add]
        refine k2 (E', g3) ⟨a1, fun m hm hgd h => ?_, a4⟩
        by_cases e : m = j
        · subst e
          exact a3 hgd (by omega)
        · exact a2 m hm (h5 m hm hgd (by omega))
      have e16 : g2 16 j = lR (tks c V) j := by rw [h6 16 (by decide)]; exact hl j hj
      refine B_Macros_expandValues_12 ⟨fun h => ?_, fun _ => S_holds (by omega) (B_Macros_expandValues_23 ⟨fun h => ?_, fun h => am_chk_i (am_in26 hj) ?_⟩)⟩
      · rw [nn_le (by omega) (by omega)] at h
        omega
      · rw [b2i_nz] at h
        exact next E g2 h4 (fun _ _ z => z) (fun _ _ => h) h6
      rw [b2i_z] at h
      rw [nn_nat (by omega), e16]
      refine ⟨fun h7 => ?_, fun h7 => am_chk_i (am_in26 hj) ?_⟩
      · refine next E g2 h4 (fun _ _ z => z) (fun hgd hh => ?_) h6
        refine absurd (not_and_z.mpr (fun q hq hb => ?_)) h7
        obtain ⟨x1, x2⟩ := gd_sub ht hgd hb
        exact h5 q (lR_lt ht j q hb) x1 (by omega)
      · rw [not_and_z] at h7
        have hgd : gd (tks c V) j := by
          intro q hq
          have h26 := lR_lt ht j q hq
          exact gd_self (h4 q h26 (h7 q (by omega) hq)).1
        have hT2 := tX_fr hT h6 (by decide) (by decide)
        have hV2 := vX_fr hV h6 (by decide)
        have tok : ∀ x ∈ tks c V j, 32 ≤ x → x - 32 ≠ j ∧ x - 32 < 26 ∧ g2 17 (x - 32) = vF (tks c V) 26 (x - 32) ∧ g2 18 (x - 32) = Int32.ofNat (vN (tks c V) 26 (x - 32)) := by
          intro x hx h32
          have hb := gd_tok ht hgd hx h32
          have h26 := lR_lt ht j _ hb
          have := h4 _ h26 (h7 _ (by omega) hb)
          refine ⟨fun e => ?_, h26, this.2⟩
          rw [e, gd_self hgd] at hb
          cases hb
        refine S_filesIn_val hT2 hV2 hj (B_Macros_expandValues_54 (am_chk_i (am_in26 hj) (am_chk_i (am_in26 hj) ?_)))
        rw [nn_nat (by omega)]
        have e1 : fF (g2 17) (tks c V j) (Int32.ofNat 0) = vF (tks c V) 26 j := by
          rw [vF_fix ht hgd hj]
          exact fF_congr _ _ (fun x hx h32 => (tok x hx h32).2.2.1)
        rw [e1]
        have hf3 : fr [17, 18] g (am_w g2 17 j (vF (tks c V) 26 j)) := fr_w h6 (by decide)
        refine S_namesIn_val (N := vN (tks c V) 26) (tX_fr hT hf3 (by decide) (by decide)) (vX_fr hV hf3 (by decide)) hj (fun x hx h32 => ?_) (B_Macros_expandValues_70 (am_chk_i (am_in26 hj) (S_setOf (B_Macros_expandValues_76 ?_))))
        · rw [w_k (by decide)]
          exact ⟨(tok x hx h32).2.2.2, vN_le _ _⟩
        · rw [nn_nat (by omega), ← vN_fix ht hgd hj]
          refine next _ _ (fun m hm hb => ?_) (fun m hm z => by rw [bt_or, z]; rfl) (fun _ _ => by rw [bt_or, bt_shift (by omega) j (by omega)]; simp) (fr_w hf3 (by decide))
          by_cases e : m = j
          · subst e
            refine ⟨hgd, ?_, w_s⟩
            rw [w_k (by decide), w_s]
          · rw [bt_or, bt_shift (by omega) m (by omega), decide_eq_false e, Bool.or_false] at hb
            obtain ⟨y1, y2, y3⟩ := h4 m hm hb
            refine ⟨y1, ?_, ?_⟩
            · rw [w_k (by decide), w_i e]; exact y2
            · rw [w_i e, w_k (by decide)]; exact y3
    · rintro ⟨E, g2⟩ ⟨h4, h5, h6⟩
      refine B_Macros_expandValues_12 ⟨fun _ => ?_, fun h => absurd h (by decide)⟩
      rw [nn_add]
      exact k (E, g2) ⟨h4, fun m hm hgd h => h5 m hm hgd (by omega), h6⟩
  · rintro ⟨E, g1⟩ ⟨h1, h2, h3⟩
    refine B_Macros_expandValues_4 ⟨fun _ => kk g1 (fun m hm hgd => ?_) h3, fun h => absurd h (by decide)⟩
    have := hg_le ht hgd hm
    exact (h1 m hm (h2 m hm hgd (by omega))).2
  · intro m hm h
    rw [bt_zero] at h
    cases h
def mX (g : am_G) (n : Nat) (c : Nat → Nat) (V : Nat → Option Nat) : Prop := (∀ m, m < 26 → (bt (g 14 5) m = true ↔ ¬ gd (tks c V) m)) ∧ (∀ m, m < 26 → gd (tks c V) m → g 17 m = vF (tks c V) 26 m ∧ g 18 m = Int32.ofNat (vN (tks c V) 26 m))
theorem S_learn (hT : tX g n c) (hL : lX g L) (hG : lG c n L) (kk : ∀ g', mX g' n c (mv c (fun _ => none) L) → fr [14, 15, 16, 17, 18] g g' → Q (.inl none, g', t)) :
    am_GQ (50, 0, [(0, .ref 14), (1, .ref 11)], [], g, t) Q := by
  refine B_Macros_learn_0 (S_findValues hT hL hG (fun g1 hV hf1 => B_Macros_learn_5 (S_findLeads (tX_fr hT hf1 (by decide) (by decide)) hV (fun g2 hl hf2 => B_Macros_learn_9 (S_findLooping (c := c) (V := mv c (fun _ => none) L) hl (fun g3 hlp hf3 => B_Macros_learn_13 ?_))))))
  have f1 : fr [14, 15, 16, 17, 18] g g1 := fr_sub hf1 (by decide)
  have f2 : fr [14, 15, 16, 17, 18] g g2 := fr_trans f1 (fr_sub hf2 (by decide))
  have f3 : fr [14, 15, 16, 17, 18] g g3 := fr_trans f2 (fr_sub hf3 (by decide))
  refine S_expandValues (tX_fr hT f3 (by decide) (by decide)) (vX_fr (vX_fr hV hf2 (by decide)) hf3 (by decide)) (fun m hm => by rw [hf3 16 (by decide)]; exact hl m hm) (fun g4 he hf4 => B_Macros_learn_17 (kk g4 ⟨fun m hm => ?_, he⟩ (fr_trans f3 (fr_sub hf4 (by decide)))))
  rw [hf4 14 (by decide)]
  exact hlp m hm
end
