def gM (g : am_G) (H : Int32) (S F St : Nat → Int32) : Prop := g 32 23 = H ∧ (∀ i, i < 32 → g 48 i = S i) ∧ (∀ i, i < 32 → g 49 i = F i) ∧ ∀ i, i < 32 → g 47 i = St i
theorem gM_fm {ks js : List Nat} {g g' : am_G} {H : Int32} {S F St : Nat → Int32} (h : gM g H S F St) (hf : fm ks js g g') (hk : ∀ k ∈ [47, 48, 49], k ∉ ks) (hj : 23 ∉ js) : gM g' H S F St := by
  obtain ⟨h1, h2, h3, h4⟩ := h
  refine ⟨by rw [hf.2 23 hj]; exact h1, fun i hi => ?_, fun i hi => ?_, fun i hi => ?_⟩
  · rw [hf.1 48 (by decide) (hk 48 (by decide))]
    exact h2 i hi
  · rw [hf.1 49 (by decide) (hk 49 (by decide))]
    exact h3 i hi
  · rw [hf.1 47 (by decide) (hk 47 (by decide))]
    exact h4 i hi
def rsM (s : Int32) (l w : Bool) : Int32 := if s = Int32.ofNat 0 then Int32.ofNat 1 else if l = true then Int32.ofNat 2 else if w = true then Int32.ofNat 3 else Int32.ofNat 0
section
variable {g : am_G} {t : Nat} {Q : am_R → Prop} {H : Int32} {S F St : Nat → Int32} {set : Int32}
theorem S_reas68 (hX : gM g H S F St) {n : Nat} (hn : n < 32) {x2 : Int32} : ∀ (f k : Nat) (l w : Bool), k + f = 32 →
    am_GQ (108, 167, [(0, .ref 32), (1, .int set), (2, .int x2), (3, .int (Int32.ofNat n))], [.int (rsM (St n) (l || anyP (fun k => bt (S n) k && decide (Int32.ofNat 0 < g 50 k)) f k) (w || anyP (fun k => bt (S n) k && decide (St n < St k)) f k)), .int (Int32.ofNat n), .ref 50], g, t) Q →
    am_GQ (108, 68, [(0, .ref 32), (1, .int set), (2, .int x2), (3, .int (Int32.ofNat n)), (4, .int (b2i l)), (5, .int (b2i w)), (6, .int (Int32.ofNat k))], [], g, t) Q
  | 0, k, l, w, he, kk => by
    have e : k = 32 := by omega
    subst e
    rw [anyP, anyP, Bool.or_false, Bool.or_false] at kk
    unfold rsM at kk
    refine B_M_reasonsOf_68 ⟨fun _ => am_chk_i (am_in32 hn) ?_, fun h => absurd ((nn_lt (by omega) (by omega)).mp h) (by omega)⟩
    rw [nn_nat (by omega), hX.2.2.2 n hn]
    refine ⟨fun h => ⟨fun h2 => ⟨fun h3 => ?_, fun h3 => ?_⟩, fun h2 => ?_⟩, fun h => ?_⟩
    · rw [b2i_z] at h2 h3
      rw [if_neg h, if_neg (by rw [h2]; decide), if_neg (by rw [h3]; decide)] at kk
      exact kk
    · rw [b2i_z] at h2
      rw [b2i_nz] at h3
      rw [if_neg h, if_neg (by rw [h2]; decide), if_pos h3] at kk
      exact kk
    · rw [b2i_nz] at h2
      rw [if_neg h, if_pos h2] at kk
      exact kk
    · rw [if_pos h] at kk
      exact kk
  | f + 1, k, l, w, he, kk => by
    have hk : k < 32 := by omega
    have next : ∀ l' w', (l' || anyP (fun k => bt (S n) k && decide (Int32.ofNat 0 < g 50 k)) f (k + 1)) = (l || anyP (fun k => bt (S n) k && decide (Int32.ofNat 0 < g 50 k)) (f + 1) k) → (w' || anyP (fun k => bt (S n) k && decide (St n < St k)) f (k + 1)) = (w || anyP (fun k => bt (S n) k && decide (St n < St k)) (f + 1) k) →
        am_GQ (108, 124, [(0, .ref 32), (1, .int set), (2, .int x2), (3, .int (Int32.ofNat n)), (4, .int (b2i l')), (5, .int (b2i w')), (6, .int (Int32.ofNat k))], [], g, t) Q := by
      intro l' w' hl hw
      refine B_M_reasonsOf_124 ?_
      rw [nn_add]
      refine S_reas68 hX hn f (k + 1) l' w' (by omega) ?_
      rw [hl, hw]
      exact kk
    have mid : bt (S n) k = true → ∀ l', (l' || anyP (fun k => bt (S n) k && decide (Int32.ofNat 0 < g 50 k)) f (k + 1)) = (l || anyP (fun k => bt (S n) k && decide (Int32.ofNat 0 < g 50 k)) (f + 1) k) →
        am_GQ (108, 105, [(0, .ref 32), (1, .int set), (2, .int x2), (3, .int (Int32.ofNat n)), (4, .int (b2i l')), (5, .int (b2i w)), (6, .int (Int32.ofNat k))], [], g, t) Q := by
      intro hb l' hl
      refine B_M_reasonsOf_105 (am_chk_i (am_in32 hk) (am_chk_i (am_in32 hn) ?_))
      rw [nn_nat (by omega), nn_nat (by omega), hX.2.2.2 n hn, hX.2.2.2 k hk]
      refine ⟨fun h => next l' w hl ?_, fun h => next l' true hl ?_⟩
      · rw [anyP, if_neg]
        rw [hb, Bool.true_and, decide_eq_true_eq]
        exact not_le_lt h
      · rw [anyP, if_pos (by rw [hb, decide_eq_true h]; rfl), Bool.true_or, Bool.or_true]
    refine B_M_reasonsOf_68 ⟨fun h => absurd ((nn_le (by omega) (by omega)).mp h) (by omega), fun _ => am_chk_i (am_in32 hn) ?_⟩
    rw [nn_nat (by omega), hX.2.1 n hn]
    refine S_M_has hk (B_M_reasonsOf_86 ⟨fun h => am_chk_i (am_in32 hk) ?_, fun h => ?_⟩)
    · rw [b2i_nz] at h
      rw [nn_nat (by omega)]
      refine ⟨fun h2 => mid h l ?_, fun h2 => mid h true ?_⟩
      · rw [anyP, if_neg]
        rw [h, Bool.true_and, decide_eq_true_eq]
        exact not_le_lt h2
      · rw [anyP, if_pos (by rw [h, decide_eq_true h2]; rfl), Bool.true_or, Bool.or_true]
    · rw [b2i_z] at h
      refine next l w ?_ ?_
      · rw [anyP, if_neg (by rw [h, Bool.false_and]; decide)]
      · rw [anyP, if_neg (by rw [h, Bool.false_and]; decide)]
end
def rsC (set H : Int32) (S St : Nat → Int32) (n : Nat) : Int32 := if bt set n = true then rsn H S St (XS set H S St) n else Int32.ofNat 0
def rI (set H : Int32) (S St : Nat → Int32) (g : am_G) (r m : Nat) : Prop := (∀ n, n < 32 → ∃ v, v < 4 ∧ g 50 n = Int32.ofNat v) ∧ (∀ n, n < 32 → ¬ g 50 n = Int32.ofNat 0 → stS set H S St 32 n = true) ∧ (∀ n, n < 32 → stS set H S St (if n < m then r + 1 else r) n = true → ¬ g 50 n = Int32.ofNat 0) ∧ (∀ n, n < 32 → cdS set H n = false → g 50 n = Int32.ofNat 0) ∧ (32 ≤ r → ∀ n, n < m → n < 32 → g 50 n = rsC set H S St n)
theorem pos_nz {g : am_G} {n : Nat} (h : ∃ v, v < 4 ∧ g 50 n = Int32.ofNat v) : Int32.ofNat 0 < g 50 n ↔ ¬ g 50 n = Int32.ofNat 0 := by
  obtain ⟨v, hv, e⟩ := h
  rw [e, nn_lt (by omega) (by omega), nn_eq (by omega) (by omega)]
  omega
theorem rI_start {set H : Int32} {S St : Nat → Int32} {g : am_G} (h : ∀ n, n < 32 → g 50 n = Int32.ofNat 0) : rI set H S St g 0 0 := by
  refine ⟨fun n hn => ⟨0, by omega, h n hn⟩, fun n hn hz => absurd (h n hn) hz, fun n hn hp => ?_, fun n hn _ => h n hn, fun hr => by omega⟩
  rw [if_neg (Nat.not_lt_zero n)] at hp
  exact absurd (show false = true from hp) (by decide)
theorem rI_round {set H : Int32} {S St : Nat → Int32} {g : am_G} {r : Nat} (h : rI set H S St g r 32) : rI set H S St g (r + 1) 0 := by
  obtain ⟨h1, h2, h3, h4, h5⟩ := h
  refine ⟨h1, h2, fun n hn hp => h3 n hn ?_, h4, fun _ n hn => absurd hn (Nat.not_lt_zero _)⟩
  rw [if_neg (Nat.not_lt_zero n)] at hp
  rw [if_pos hn]
  exact hp
theorem rI_skip {set H : Int32} {S St : Nat → Int32} {g : am_G} {r m : Nat} (h : rI set H S St g r m) (hm : m < 32) (hc : cdS set H m = false) : rI set H S St g r (m + 1) := by
  obtain ⟨h1, h2, h3, h4, h5⟩ := h
  refine ⟨h1, h2, fun n hn hp => ?_, h4, fun hr n hn hn2 => ?_⟩
  · by_cases e : n = m
    · subst e
      rcases pG_down hp with hp | ⟨a, _, hp, _⟩
      · unfold bS at hp
        rw [hc] at hp
        cases hp
      · unfold uS at hp
        rw [hc] at hp
        cases hp
    · refine h3 n hn ?_
      by_cases e2 : n < m
      · rw [if_pos e2]
        rw [if_pos (by omega)] at hp
        exact hp
      · rw [if_neg e2]
        rw [if_neg (by omega)] at hp
        exact hp
  · by_cases e : n = m
    · subst e
      rw [h4 n hn2 hc]
      unfold rsC rsn
      unfold cdS at hc
      by_cases e1 : bt set n = true
      · rw [e1, Bool.true_and] at hc
        rw [if_pos e1, if_neg (by rw [hc]; decide)]
      · rw [if_neg e1]
    · exact h5 hr n (by omega) hn2
theorem rI_set {set H : Int32} {S St : Nat → Int32} {g : am_G} {r m : Nat} (h : rI set H S St g r m) (hm : m < 32) (hc : cdS set H m = true) : rI set H S St (am_w g 50 m (rsM (St m) (anyP (fun k => bt (S m) k && decide (Int32.ofNat 0 < g 50 k)) 32 0) (nwS S St m))) r (m + 1) := by
  obtain ⟨h1, h2, h3, h4, h5⟩ := h
  have hl : anyP (fun k => bt (S m) k && decide (Int32.ofNat 0 < g 50 k)) 32 0 = true ↔ ∃ k, k < 32 ∧ bt (S m) k = true ∧ ¬ g 50 k = Int32.ofNat 0 := by
    rw [anyP_iff]
    constructor
    · rintro ⟨k, _, hk, hx⟩
      rw [Bool.and_eq_true, decide_eq_true_eq, pos_nz (h1 k (by omega))] at hx
      exact ⟨k, by omega, hx⟩
    · rintro ⟨k, hk, hx⟩
      refine ⟨k, Nat.zero_le _, by omega, ?_⟩
      rw [Bool.and_eq_true, decide_eq_true_eq, pos_nz (h1 k hk)]
      exact hx
  generalize hL : anyP (fun k => bt (S m) k && decide (Int32.ofNat 0 < g 50 k)) 32 0 = L at *
  have hv : ∃ v, v < 4 ∧ rsM (St m) L (nwS S St m) = Int32.ofNat v := by
    unfold rsM
    by_cases e1 : St m = Int32.ofNat 0
    · exact ⟨1, by omega, if_pos e1⟩
    · rw [if_neg e1]
      by_cases e2 : L = true
      · exact ⟨2, by omega, if_pos e2⟩
      · rw [if_neg e2]
        by_cases e3 : nwS S St m = true
        · exact ⟨3, by omega, if_pos e3⟩
        · exact ⟨0, by omega, if_neg e3⟩
  have hz : ¬ rsM (St m) L (nwS S St m) = Int32.ofNat 0 ↔ St m = Int32.ofNat 0 ∨ L = true ∨ nwS S St m = true := by
    unfold rsM
    by_cases e1 : St m = Int32.ofNat 0
    · rw [if_pos e1]
      exact ⟨fun _ => Or.inl e1, fun _ => by decide⟩
    · rw [if_neg e1]
      by_cases e2 : L = true
      · rw [if_pos e2]
        exact ⟨fun _ => Or.inr (Or.inl e2), fun _ => by decide⟩
      · rw [if_neg e2]
        by_cases e3 : nwS S St m = true
        · rw [if_pos e3]
          exact ⟨fun _ => Or.inr (Or.inr e3), fun _ => by decide⟩
        · rw [if_neg e3]
          exact ⟨fun z => absurd rfl z, fun z => z.elim (fun y => absurd y e1) (fun y => y.elim (fun y => absurd y e2) (fun y => absurd y e3))⟩
  have hb : bS set H S St m = true ↔ St m = Int32.ofNat 0 ∨ nwS S St m = true := by
    unfold bS
    rw [hc, Bool.true_and, Bool.or_eq_true, decide_eq_true_eq]
  have hu : ∀ a, uS set H S m a = bt (S m) a := by
    intro a
    unfold uS
    rw [hc, Bool.true_and]
  have low : ∀ a, a < 32 → stS set H S St r a = true → ¬ g 50 a = Int32.ofNat 0 := by
    intro a ha hp
    refine h3 a ha ?_
    by_cases e2 : a < m
    · rw [if_pos e2]
      exact pG_up hp
    · rw [if_neg e2]
      exact hp
  refine ⟨fun n hn => ?_, fun n hn hp => ?_, fun n hn hp => ?_, fun n hn hp => ?_, fun hr n hn hn2 => ?_⟩
  · by_cases e : n = m
    · subst e
      rw [w_s]
      exact hv
    · rw [w_i e]
      exact h1 n hn
  · by_cases e : n = m
    · subst e
      rw [w_s, hz] at hp
      refine pG_fix (Nat.le_refl _) hn ?_
      rcases hp with hp | hp | hp
      · exact Or.inl (hb.mpr (Or.inl hp))
      · obtain ⟨k, k1, k2, k3⟩ := hl.mp hp
        exact Or.inr ⟨k, k1, by rw [hu]; exact k2, h2 k k1 k3⟩
      · exact Or.inl (hb.mpr (Or.inr hp))
    · rw [w_i e] at hp
      exact h2 n hn hp
  · by_cases e : n = m
    · subst e
      rw [if_pos (by omega)] at hp
      rw [w_s, hz]
      rcases pG_step hp with hp | ⟨a, a1, a2, a3⟩
      · rcases hb.mp hp with hp | hp
        · exact Or.inl hp
        · exact Or.inr (Or.inr hp)
      · rw [hu] at a2
        exact Or.inr (Or.inl (hl.mpr ⟨a, a1, a2, low a a1 a3⟩))
    · rw [w_i e]
      refine h3 n hn ?_
      by_cases e2 : n < m
      · rw [if_pos e2]
        rw [if_pos (by omega)] at hp
        exact hp
      · rw [if_neg e2]
        rw [if_neg (by omega)] at hp
        exact hp
  · by_cases e : n = m
    · subst e
      rw [hc] at hp
      cases hp
    · rw [w_i e]
      exact h4 n hn hp
  · by_cases e : n = m
    · subst e
      rw [w_s]
      unfold cdS at hc
      rw [Bool.and_eq_true] at hc
      unfold rsC rsn rsM
      rw [if_pos hc.1, if_pos hc.2]
      by_cases e1 : St n = Int32.ofNat 0
      · rw [if_pos e1, if_pos e1]
      · rw [if_neg e1, if_neg e1]
        have key : L = true ↔ ¬ S n &&& XS set H S St = Int32.ofNat 0 := by
          rw [hl, and_nz]
          constructor
          · rintro ⟨k, k1, k2, k3⟩
            refine ⟨k, k1, k2, ?_⟩
            unfold XS
            rw [mkI_bt k1]
            exact h2 k k1 k3
          · rintro ⟨k, k1, k2, k3⟩
            refine ⟨k, k1, k2, low k k1 ?_⟩
            unfold XS at k3
            rw [mkI_bt k1] at k3
            have := pG_le k3 (r - 32)
            rw [show 32 + (r - 32) = r by omega] at this
            exact this
        by_cases e2 : L = true
        · rw [if_pos e2, if_neg (key.mp e2)]
        · rw [if_neg e2, if_pos (Decidable.of_not_not (fun z => e2 (key.mpr z)))]
    · rw [w_i e]
      exact h5 hr n (by omega) hn2
section
variable {t : Nat} {Q : am_R → Prop} {H : Int32} {S F St : Nat → Int32} {set : Int32}
theorem S_reas31 {g0 : am_G} (hX : gM g0 H S F St) {r : Nat} (kk : ∀ g', fm [50] [] g0 g' → rI set H S St g' r 32 → am_GQ (108, 23, [(0, .ref 32), (1, .int set), (2, .int (Int32.ofNat (r + 1)))], [], g', t) Q) :
    ∀ (f n : Nat) (g : am_G), n + f = 32 → fm [50] [] g0 g → rI set H S St g r n → am_GQ (108, 31, [(0, .ref 32), (1, .int set), (2, .int (Int32.ofNat r)), (3, .int (Int32.ofNat n))], [], g, t) Q
  | 0, n, g, he, hf, hI => by
    have e : n = 32 := by omega
    subst e
    refine B_M_reasonsOf_31 ⟨fun _ => ?_, fun h => absurd ((nn_lt (by omega) (by omega)).mp h) (by omega)⟩
    rw [nn_add]
    exact kk g hf hI
  | f + 1, n, g, he, hf, hI => by
    have hn : n < 32 := by omega
    have hX' := gM_fm hX hf (by decide) (by decide)
    have next : ∀ g2, fm [50] [] g0 g2 → rI set H S St g2 r (n + 1) → am_GQ (108, 168, [(0, .ref 32), (1, .int set), (2, .int (Int32.ofNat r)), (3, .int (Int32.ofNat n))], [], g2, t) Q := by
      intro g2 y1 y2
      refine B_M_reasonsOf_168 ?_
      rw [nn_add]
      exact S_reas31 hX kk f (n + 1) g2 (by omega) y1 y2
    refine B_M_reasonsOf_31 ⟨fun h => absurd ((nn_le (by omega) (by omega)).mp h) (by omega), fun _ => S_M_has hn (B_M_reasonsOf_42 ⟨fun h => ?_, fun h => ?_⟩)⟩
    · rw [b2i_z] at h
      exact next g hf (rI_skip hI hn (by unfold cdS; rw [h]; rfl))
    rw [b2i_nz] at h
    rw [hX'.1]
    refine S_M_has hn (B_M_reasonsOf_53 ⟨fun h2 => ?_, fun h2 => ?_⟩)
    · rw [b2i_nz] at h2
      refine S_reas68 hX' hn 32 0 false false rfl (B_M_reasonsOf_167 (am_chk_i (am_in32 hn) ?_))
      rw [nn_nat (by omega), Bool.false_or, Bool.false_or]
      exact next _ (fm_w hf (by decide) (by decide)) (rI_set hI hn (by unfold cdS; rw [h, h2]; rfl))
    · rw [b2i_z] at h2
      exact next g hf (rI_skip hI hn (by unfold cdS; rw [h2, Bool.and_false]))
theorem S_reas23 {g0 : am_G} (hX : gM g0 H S F St) (kk : ∀ g', fm [50] [] g0 g' → (∀ n, n < 32 → g' 50 n = rsC set H S St n) → Q (.inl none, g', t)) :
    ∀ (f r : Nat) (g : am_G), r + f = 32 → fm [50] [] g0 g → rI set H S St g r 0 → am_GQ (108, 23, [(0, .ref 32), (1, .int set), (2, .int (Int32.ofNat r))], [], g, t) Q
  | 0, r, g, he, hf, hI => by
    have e : r = 32 := by omega
    subst e
    refine B_M_reasonsOf_23 ⟨fun h => absurd ((nn_le (by omega) (by omega)).mp h) (by omega), fun _ => ?_⟩
    refine S_reas31 hX (fun g' hf' hI' => ?_) 32 0 g rfl hf hI
    exact B_M_reasonsOf_23 ⟨fun _ => kk g' hf' (fun n hn => hI'.2.2.2.2 (Nat.le_refl _) n hn hn), fun h => absurd ((nn_lt (by omega) (by omega)).mp h) (by omega)⟩
  | f + 1, r, g, he, hf, hI => by
    refine B_M_reasonsOf_23 ⟨fun h => absurd ((nn_le (by omega) (by omega)).mp h) (by omega), fun _ => ?_⟩
    exact S_reas31 hX (fun g' hf' hI' => S_reas23 hX kk f (r + 1) g' (by omega) hf' (rI_round hI')) 32 0 g rfl hf hI
theorem S_reas2 {g0 : am_G} (kk : ∀ g', fm [50] [] g0 g' → (∀ m, m < 32 → g' 50 m = Int32.ofNat 0) → am_GQ (108, 23, [(0, .ref 32), (1, .int set), (2, .int (Int32.ofNat 0))], [], g', t) Q) :
    ∀ (f i : Nat) (g : am_G), i + f = 32 → fm [50] [] g0 g → (∀ m, m < i → g 50 m = Int32.ofNat 0) → am_GQ (108, 2, [(0, .ref 32), (1, .int set), (2, .int (Int32.ofNat i))], [], g, t) Q
  | 0, i, g, he, hf, h => by
    have e : i = 32 := by omega
    subst e
    exact B_M_reasonsOf_2 ⟨fun _ => kk g hf h, fun h => absurd ((nn_lt (by omega) (by omega)).mp h) (by omega)⟩
  | f + 1, i, g, he, hf, h => by
    refine B_M_reasonsOf_2 ⟨fun h => absurd ((nn_le (by omega) (by omega)).mp h) (by omega), fun _ => am_chk_i (am_in32 (by omega)) ?_⟩
    rw [nn_add, nn_nat (by omega)]
    refine S_reas2 kk f (i + 1) _ (by omega) (fm_w hf (by decide) (by decide)) (fun m hm => ?_)
    by_cases e : m = i
    · subst e
      exact w_s
    · exact (w_i e).trans (h m (by omega))
theorem S_M_reasonsOf {g : am_G} (hX : gM g H S F St) (kk : ∀ g', fm [50] [] g g' → (∀ n, n < 32 → g' 50 n = rsC set H S St n) → Q (.inl none, g', t)) : am_GQ (108, 0, [(0, .ref 32), (1, .int set)], [], g, t) Q := by
  refine B_M_reasonsOf_0 (S_reas2 (fun g1 hf1 h1 => ?_) 32 0 g rfl (fm_refl _ _ _) (fun m hm => absurd hm (Nat.not_lt_zero _)))
  exact S_reas23 (gM_fm hX hf1 (by decide) (by decide)) (fun g2 hf2 h2 => kk g2 (fm_trans hf1 hf2) h2) 32 0 g1 rfl (fm_refl _ _ _) (rI_start h1)
end
