theorem sp_self {c : Nat → Nat} {f i : Nat} (h : sp c f i = true) (hf : 0 < f) : c i = 32 := (sp_iff c f i).mp h i (Nat.le_refl _) (by omega)
theorem kd_sp {c : Nat → Nat} {s e : Nat} (hs : s ≤ e) (he : c e = 10) (h : sp c (e - s) s = true) : kd c s e = 1 := by
  unfold kd
  rw [if_neg, if_pos h]
  by_cases z : s = e
  · subst z; omega
  · have := sp_self h (by omega); omega
theorem kd_rec {c : Nat → Nat} {s e : Nat} (h : c s = 9) : kd c s e = 5 := if_pos h
theorem kd_pat' {c : Nat → Nat} {s e : Nat} (h1 : ¬ c s = 9) (h2 : ¬ sp c (e - s) s = true) (h : isPat c s e) : kd c s e = 4 := by
  unfold kd
  rw [if_neg h1, if_neg h2, if_neg (fun z => by have := z.1; have := h.2.1; omega), if_pos h]
theorem kd_cap {c : Nat → Nat} {s e : Nat} (h1 : ¬ c s = 9) (h2 : ¬ sp c (e - s) s = true) (h : 65 ≤ c s ∧ c s ≤ 90) : kd c s e = if c (s + 1) = 61 ∧ pe c 240 (s + 2) = e then 2 else 0 := by
  unfold kd
  rw [if_neg h1, if_neg h2]
  by_cases z : c (s + 1) = 61 ∧ pe c 240 (s + 2) = e
  · rw [if_pos z, if_pos ⟨⟨h.1, h.2, z.1⟩, z.2⟩]
  · have hp : pe c 240 s = s := by
      have : pt c s = 0 := by unfold pt; rw [if_neg (by omega), if_neg (by omega)]
      rw [pe, if_pos this]
    rw [if_neg z, if_neg (fun y => z ⟨y.1.2.2, y.2⟩), if_neg (fun y => by have := y.2.1; omega), if_neg (fun y => by have := y.1; rw [hp] at this; omega)]
theorem kd_rul' {c : Nat → Nat} {s e : Nat} (hs : s ≤ e) (he : c e = 10) (h1 : ¬ c s = 9) (h2 : ¬ sp c (e - s) s = true) (h3 : ¬ isPat c s e) (h : ¬ (65 ≤ c s ∧ c s ≤ 90)) :
    kd c s e = if cl c (e - s) s ≠ e ∧ sp c (cl c (e - s) s - s) s = false ∧ pe c 240 s = cl c (e - s) s ∧ pe c 240 (cl c (e - s) s + 1) = e then 3 else 0 := by
  obtain ⟨a1, a2, a3, a4⟩ := cl_prop c (e - s) s
  generalize hq : cl c (e - s) s = q at *
  unfold kd
  rw [if_neg h1, if_neg h2, if_neg (fun y => h ⟨y.1.1, y.1.2.1⟩), if_neg h3]
  by_cases z : q ≠ e ∧ sp c (q - s) s = false ∧ pe c 240 s = q ∧ pe c 240 (q + 1) = e
  · obtain ⟨z1, z2, z3, z4⟩ := z
    have hr : isRul c s e := by
      refine ⟨?_, ?_, ?_⟩
      · rw [z3]; exact a3 (by omega)
      · rw [z3]; exact z2
      · rw [z3]; exact z4
    rw [if_pos hr, if_pos ⟨z1, z2, z3, z4⟩]
  · rw [if_neg z]
    refine if_neg ?_
    rintro ⟨y1, y2, y3⟩
    have hpe : pe c 240 s ≤ e := pe_to (Or.inr he) hs
    have hge := pe_ge c 240 s
    have hne : pe c 240 s ≠ e := fun w => by rw [w] at y1; omega
    have e1 : pe c 240 s = q := by
      rcases Nat.lt_trichotomy (pe c 240 s) q with w | w | w
      · exact absurd y1 (a4 _ hge w)
      · exact w
      · exact absurd (a3 (by omega)) (pe_ch c 240 s q a1 w).1
    rw [e1] at y1 y2 y3 hne
    exact z ⟨hne, y2, e1, y3⟩
section
variable {g : am_G} {t : Nat} {Q : am_R → Prop} {n : Nat} {c : Nat → Nat}
theorem S_M_kind (hT : tM g n c) {N : Nat → Nat} (hN : nX g N) {s e : Nat} (hs : s ≤ e) (he : e < n) (hce : c e = 10)
    (kk : ∀ g', f3 g g' → Q (.inl (some (.int (Int32.ofNat (kd c s e)))), g', t)) : am_GQ (100, 0, [(0, .ref 32), (1, .int (Int32.ofNat s)), (2, .int (Int32.ofNat e))], [], g, t) Q := by
  have hn := hT.1
  have h128 := hT.2.2.2.1
  have hcs := h128 s
  refine B_M_kind_0 (S_spaces hT (by omega) (by omega) (B_M_kind_6 ⟨fun h => am_chk_i (am_in240 (by omega)) ?_, fun h => ?_⟩))
  rotate_left
  · rw [b2i_nz] at h
    have := kk g (f3_refl g)
    rw [kd_sp hs hce h] at this
    exact this
  rw [b2i_z] at h
  have h2 : ¬ sp c (e - s) s = true := by rw [h]; decide
  have hlt : s < e := by
    apply Classical.byContradiction
    intro z
    rw [show e - s = 0 by omega] at h
    cases h
  rw [nn_nat (by omega), hT.2.2.1 s (by omega), nn_sub hs, nn_eq (by omega) (by omega), nn_eq (by omega) (by omega), nn_eq (by omega) (by omega)]
  refine ⟨fun h9 => ?_, fun h9 => ?_⟩
  rotate_left
  · have := kk g (f3_refl g)
    rw [kd_rec h9] at this
    exact this
  have rest : ¬ isPat c s e → am_GQ (100, 106, [(0, .ref 32), (1, .int (Int32.ofNat s)), (2, .int (Int32.ofNat e))], [], g, t) Q := by
    intro hnp
    refine B_M_kind_106 (am_chk_i (am_in240 (by omega)) ?_)
    rw [nn_nat (by omega), hT.2.2.1 s (by omega)]
    refine S_within (by omega) (by omega) (by omega) (B_M_kind_119 ⟨fun hc => ?_, fun hc => ?_⟩)
    · rw [b2i_dz] at hc
      have ek := kd_rul' hs hce h9 h2 hnp hc
      obtain ⟨a1, a2, a3, a4⟩ := cl_prop c (e - s) s
      refine S_colon hT hs (by omega) (B_M_kind_158 ?_)
      generalize hq : cl c (e - s) s = q at *
      rw [nn_eq (by omega) (by omega)]
      refine ⟨fun hqe => ?_, fun hqe => ?_⟩
      · have := kk g (f3_refl g)
        rw [ek, if_neg (fun z => z.1 hqe)] at this
        exact this
      have hcq : c q = 58 := a3 (by omega)
      refine S_spaces hT (by omega) (by omega) (B_M_kind_170 ⟨fun hsp => ?_, fun hsp => ?_⟩)
      · rw [b2i_z] at hsp
        refine S_segment hT hN (by omega) (by omega) (Or.inl hcq) (fun g1 hf1 _ => B_M_kind_181 ⟨fun h5 => ?_, fun h5 => ?_⟩)
        · rw [b2i_dz] at h5
          have := kk g1 hf1
          rw [ek, if_neg (fun z => h5 z.2.2.1)] at this
          exact this
        · rw [b2i_dz, Decidable.not_not] at h5
          rw [nn_add]
          refine S_segment (tM_f3 hT hf1) (nX_f3 hN hf1) (by omega) (by omega) (Or.inr hce) (fun g2 hf2 _ => B_M_kind_192 ⟨fun h6 => ?_, fun h6 => ?_⟩)
          · rw [b2i_dz] at h6
            have := kk g2 (f3_trans hf1 hf2)
            rw [ek, if_neg (fun z => h6 z.2.2.2)] at this
            exact this
          · rw [b2i_dz, Decidable.not_not] at h6
            have := kk g2 (f3_trans hf1 hf2)
            rw [ek, if_pos ⟨hqe, hsp, h5, h6⟩] at this
            exact this
      · rw [b2i_nz] at hsp
        have := kk g (f3_refl g)
        rw [ek, if_neg (fun z => by rw [z.2.1] at hsp; cases hsp)] at this
        exact this
    · rw [b2i_dz, Decidable.not_not] at hc
      have ek := kd_cap h9 h2 hc
      rw [nn_add]
      refine S_at hT (by omega) (by omega) (B_M_kind_130 ?_)
      have h1 := h128 (s + 1)
      by_cases hse : s + 1 < e
      · have edv : dv c e (s + 1) = Int32.ofNat (c (s + 1)) := if_pos hse
        rw [edv, nn_eq (by omega) (by omega), nn_add]
        refine ⟨fun h5 => ?_, fun h5 => ?_⟩
        · have := kk g (f3_refl g)
          rw [ek, if_neg (fun z => h5 z.1)] at this
          exact this
        · refine S_segment hT hN (by omega) (by omega) (Or.inr hce) (fun g1 hf1 _ => B_M_kind_143 ⟨fun h6 => ?_, fun h6 => ?_⟩)
          · rw [b2i_dz] at h6
            have := kk g1 hf1
            rw [ek, if_neg (fun z => h6 z.2)] at this
            exact this
          · rw [b2i_dz, Decidable.not_not] at h6
            have := kk g1 hf1
            rw [ek, if_pos ⟨h5, h6⟩] at this
            exact this
      · have edv : dv c e (s + 1) = -1 := if_neg hse
        rw [edv]
        refine ⟨fun _ => ?_, fun h5 => absurd h5 (by decide)⟩
        have := kk g (f3_refl g)
        have e1 : s + 1 = e := by omega
        rw [ek, if_neg (fun z => by rw [e1] at z; omega)] at this
        exact this
  refine ⟨fun h5 => rest (fun z => h5 z.1), fun h5 => am_chk_i (am_in240 (by omega)) ⟨fun h6 => rest (fun z => h6 z.2.1.1), fun h6 => ?_⟩⟩
  have c1 := h128 (s + 1)
  have c2 := h128 (s + 2)
  have c3 := h128 (s + 3)
  have c4 := h128 (s + 4)
  rw [nn_add, nn_nat (by omega), hT.2.2.1 (s + 1) (by omega)]
  refine am_chk_i (am_in240 (by omega)) (S_within (by omega) (by omega) (by omega) (B_M_kind_57 ⟨fun h7 => ?_, fun h7 => ?_⟩))
  · rw [b2i_dz] at h7
    exact rest (fun z => h7 z.2.1.2)
  rw [b2i_dz, Decidable.not_not] at h7
  rw [nn_add, nn_nat (by omega), hT.2.2.1 (s + 2) (by omega), nn_add, nn_nat (by omega), hT.2.2.1 (s + 3) (by omega), nn_add, nn_nat (by omega), hT.2.2.1 (s + 4) (by omega), nn_eq (by omega) (by omega), nn_eq (by omega) (by omega)]
  refine am_chk_i (am_in240 (by omega)) ⟨fun h8 => rest (fun z => h8 z.2.2.1), fun h8 => am_chk_i (am_in240 (by omega)) ⟨fun h10 => rest (fun z => h10 z.2.2.2.1), fun h10 => am_chk_i (am_in240 (by omega)) (S_within (by omega) (by omega) (by omega) (B_M_kind_101 ⟨fun h11 => ?_, fun h11 => ?_⟩))⟩⟩
  · rw [b2i_dz] at h11
    exact rest (fun z => h11 z.2.2.2.2)
  · rw [b2i_dz, Decidable.not_not] at h11
    have := kk g (f3_refl g)
    rw [kd_pat' h9 h2 ⟨h5, ⟨h6, h7⟩, h8, ⟨h10, h11⟩⟩] at this
    exact this
end
