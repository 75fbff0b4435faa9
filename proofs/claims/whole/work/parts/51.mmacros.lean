section
variable {t : Nat} {Q : am_R → Prop}
theorem S_macros95 {g : am_G} {x1 x3 : Int32} {m : Nat} (hm : m < 26) : ∀ (f i : Nat) (a : Int32), i + f = 26 → am_GQ (103, 141, [(0, .ref 32), (1, .int x1), (2, .int (Int32.ofNat m))], [], am_w g 36 m (orB (g 32 32) (g 36) f i a), t) Q → am_GQ (103, 95, [(0, .ref 32), (1, .int x1), (2, .int (Int32.ofNat m)), (3, .int x3), (4, .int a), (5, .int (Int32.ofNat i))], [], g, t) Q
  | 0, i, a, he, k => by
    have e : i = 26 := by omega
    subst e
    refine B_M_macros_95 ⟨fun _ => am_chk_i (am_in26 hm) ?_, fun h => absurd ((nn_lt (by omega) (by omega)).mp h) (by omega)⟩
    rw [nn_nat (by omega)]
    exact k
  | f + 1, i, a, he, k => by
    rw [orB] at k
    refine B_M_macros_95 ⟨fun h => absurd ((nn_le (by omega) (by omega)).mp h) (by omega), fun _ => ⟨fun h => B_M_macros_127 ?_, fun h => am_chk_i (am_in26 (by omega)) (B_M_macros_127 ?_)⟩⟩
    · rw [if_neg (fun z => h ((bt_has _ (by omega)).mpr z))] at k
      rw [nn_add]
      exact S_macros95 hm f (i + 1) a (by omega) k
    · rw [if_pos ((bt_has _ (by omega)).mp h)] at k
      rw [nn_add, nn_nat (by omega)]
      exact S_macros95 hm f (i + 1) _ (by omega) k
end
def mI (tt : Nat → List Nat) (V : Nat → Option Nat) (g : am_G) (r m : Nat) : Prop :=
  (∀ i, i < 26 → ∀ k, bt (g 36 i) k = true → bt (lR tt i) k = true) ∧
  (∀ i, i < 26 → ∀ k, pL (fun a b => bt (uR tt a) b) 26 (if i < m then r + 1 else r) i k = true → bt (g 36 i) k = true) ∧
  (∃ N, nX g N) ∧
  (∀ i, i < 26 → gd tt i → (hg tt i < r ∨ hg tt i ≤ r ∧ i < m) → g 37 i = Int32.ofNat (vN tt 26 i) ∧ g 38 i = vF tt 26 i) ∧
  (∀ i, i < 26 → V i = none → g 37 i = Int32.ofNat 0 ∧ g 38 i = Int32.ofNat 0)
theorem mI_round {tt : Nat → List Nat} {V : Nat → Option Nat} {g : am_G} {r : Nat} (h : mI tt V g r 26) : mI tt V g (r + 1) 0 := by
  obtain ⟨h1, h2, h3, h4, h5⟩ := h
  refine ⟨h1, fun i hi k hp => ?_, h3, fun i hi hd hh => h4 i hi hd (by omega), h5⟩
  rw [if_neg (Nat.not_lt_zero i)] at hp
  have := h2 i hi k
  rw [if_pos hi] at this
  exact this hp
theorem mI_start {tt : Nat → List Nat} {V : Nat → Option Nat} {g : am_G} (hz : z37 g) (h0 : ∀ m, m < 26 → g 36 m = Int32.ofNat 0) : mI tt V g 0 0 := by
  refine ⟨fun i hi k hb => ?_, fun i hi k hp => ?_, ⟨_, z37_nX hz⟩, fun i hi hd hh => by omega, fun i hi _ => hz i hi⟩
  · rw [h0 i hi, bt_zero] at hb
    cases hb
  · rw [if_neg (Nat.not_lt_zero i)] at hp
    exact absurd (show false = true from hp) (by decide)
theorem mI_end {tt : Nat → List Nat} {V : Nat → Option Nat} {g : am_G} (h : mI tt V g 27 0) {m : Nat} (hm : m < 26) : g 36 m = lR tt m := by
  obtain ⟨h1, h2, _⟩ := h
  refine bt_ext (fun k hk => ?_)
  cases hb : bt (lR tt m) k with
  | false =>
    cases hg : bt (g 36 m) k with
    | false => rfl
    | true =>
      rw [h1 m hm k hg] at hb
      cases hb
  | true =>
    refine h2 m hm k ?_
    rw [if_neg (Nat.not_lt_zero m)]
    unfold lR at hb
    rw [wsR_bt] at hb
    exact ws_pL (by omega) hm hb
theorem mI_skip {c : Nat → Nat} {V : Nat → Option Nat} {g : am_G} {r m : Nat} (h : mI (tks c V) V g r m) (hm : m < 26) (hV : V m = none) : mI (tks c V) V g r (m + 1) := by
  have ht := tks_lt c V
  have et : tks c V m = [] := by
    unfold tks
    rw [hV]
  have hu : ∀ k, bt (uR (tks c V) m) k = false := by
    intro k
    unfold uR
    rw [et, fU, bt_zero]
  obtain ⟨h1, h2, h3, h4, h5⟩ := h
  refine ⟨h1, fun i hi k hp => ?_, h3, fun i hi hd hh => ?_, h5⟩
  · by_cases e : i = m
    · subst e
      rw [if_pos (by omega)] at hp
      rcases pG_step hp with hx | ⟨a, _, hx, _⟩
      · exact absurd ((hu k).symm.trans hx) (by decide)
      · exact absurd ((hu a).symm.trans hx) (by decide)
    · refine h2 i hi k ?_
      by_cases e2 : i < m
      · rw [if_pos e2]
        rw [if_pos (by omega)] at hp
        exact hp
      · rw [if_neg e2]
        rw [if_neg (by omega)] at hp
        exact hp
  · by_cases e : i = m
    · subst e
      obtain ⟨x1, x2⟩ := h5 i hi hV
      rw [vN_fix ht hd hi, vF_fix ht hd hi, et, fN, fF]
      exact ⟨x1, x2⟩
    · exact h4 i hi hd (by omega)
theorem mI_set {c : Nat → Nat} {V : Nat → Option Nat} {g g' : am_G} {r m p : Nat} {N : Nat → Nat} (h : mI (tks c V) V g r m) (hm : m < 26) (hV : V m = some p) (hN : nX g N)
    (e36 : g' 36 m = orB (uR (tks c V) m) (g 36) 26 0 (uR (tks c V) m)) (e37 : g' 37 m = Int32.ofNat (min (fN N (tks c V m)) 65)) (e38 : g' 38 m = fF (g 38) (tks c V m) (Int32.ofNat 0))
    (o36 : ∀ i, i ≠ m → g' 36 i = g 36 i) (o37 : ∀ i, i ≠ m → g' 37 i = g 37 i) (o38 : ∀ i, i ≠ m → g' 38 i = g 38 i) : mI (tks c V) V g' r (m + 1) := by
  have ht := tks_lt c V
  obtain ⟨h1, h2, _, h4, h5⟩ := h
  refine ⟨fun i hi k hb => ?_, fun i hi k hp => ?_, ⟨fun i => if i = m then min (fN N (tks c V m)) 65 else N i, fun i hi => ?_⟩, fun i hi hd hh => ?_, fun i hi hn => ?_⟩
  · by_cases e : i = m
    · subst e
      rw [e36, orB_bt] at hb
      rcases hb with hb | ⟨a, _, ha, hb1, hb2⟩
      · exact lR_in i k hb
      · exact lR_tr ht i a k (lR_in i a hb1) (h1 a (by omega) k hb2)
    · rw [o36 i e] at hb
      exact h1 i hi k hb
  · by_cases e : i = m
    · subst e
      rw [if_pos (by omega)] at hp
      rw [e36, orB_bt]
      rcases pG_step hp with hx | ⟨a, ha, hx, hy⟩
      · exact Or.inl hx
      · refine Or.inr ⟨a, Nat.zero_le _, by omega, hx, h2 a ha k ?_⟩
        by_cases e2 : a < i
        · rw [if_pos e2]
          exact pG_up hy
        · rw [if_neg e2]
          exact hy
    · rw [o36 i e]
      refine h2 i hi k ?_
      by_cases e2 : i < m
      · rw [if_pos e2]
        rw [if_pos (by omega)] at hp
        exact hp
      · rw [if_neg e2]
        rw [if_neg (by omega)] at hp
        exact hp
  · dsimp only
    by_cases e : i = m
    · subst e
      rw [if_pos rfl]
      exact ⟨e37, Nat.min_le_right _ _⟩
    · rw [if_neg e, o37 i e]
      exact hN i hi
  · by_cases e : i = m
    · subst e
      have sub : ∀ x ∈ tks c V i, 32 ≤ x → g 37 (x - 32) = Int32.ofNat (vN (tks c V) 26 (x - 32)) ∧ g 38 (x - 32) = vF (tks c V) 26 (x - 32) := by
        intro x hx h32
        have h58 := ht i x hx
        obtain ⟨q1, q2⟩ := gd_sub ht hd (gd_tok ht hd hx h32)
        exact h4 (x - 32) (by omega) q1 (by omega)
      rw [e37, e38, vN_fix ht hd hi, vF_fix ht hd hi]
      refine ⟨?_, fF_congr _ _ (fun x hx h32 => (sub x hx h32).2)⟩
      rw [fN_congr (F := N) (F' := vN (tks c V) 26) _ (fun x hx h32 => ?_)]
      have h58 := ht i x hx
      have a1 := (sub x hx h32).1
      obtain ⟨a2, a3⟩ := hN (x - 32) (by omega)
      have a4 := vN_le (tt := tks c V) 26 (x - 32)
      rw [a2, nn_eq (by omega) (by omega)] at a1
      exact a1
    · rw [o37 i e, o38 i e]
      exact h4 i hi hd (by omega)
  · have e : i ≠ m := by
      intro e
      rw [e, hV] at hn
      cases hn
    rw [o37 i e, o38 i e]
    exact h5 i hi hn
abbrev MK : List Nat := [36, 37, 38]
abbrev MJ : List Nat := [30, 31, 32]
section
variable {t : Nat} {Q : am_R → Prop} {n : Nat} {c : Nat → Nat} {V : Nat → Option Nat}
theorem S_macros31 {g0 : am_G} (hT : tM g0 n c) (hV : vM g0 n c V) {r : Nat} (kk : ∀ g', fm MK MJ g0 g' → mI (tks c V) V g' r 26 → am_GQ (103, 23, [(0, .ref 32), (1, .int (Int32.ofNat (r + 1)))], [], g', t) Q) :
    ∀ (f m : Nat) (g : am_G), m + f = 26 → fm MK MJ g0 g → mI (tks c V) V g r m → am_GQ (103, 31, [(0, .ref 32), (1, .int (Int32.ofNat r)), (2, .int (Int32.ofNat m))], [], g, t) Q
  | 0, m, g, he, hf, hI => by
    have e : m = 26 := by omega
    subst e
    refine B_M_macros_31 ⟨fun _ => ?_, fun h => absurd ((nn_lt (by omega) (by omega)).mp h) (by omega)⟩
    rw [nn_add]
    exact kk g hf hI
  | f + 1, m, g, he, hf, hI => by
    have hm : m < 26 := by omega
    have hn := hT.1
    refine B_M_macros_31 ⟨fun h => absurd ((nn_le (by omega) (by omega)).mp h) (by omega), fun _ => am_chk_i (am_in26 hm) ?_⟩
    rw [nn_nat (by omega)]
    rcases (vM_fm hV hf (by decide) (by decide)) m hm with ⟨v1, v2⟩ | ⟨p, v1, v2, v3, v4, v5, v6⟩
    · rw [v2]
      refine ⟨fun h => absurd h (by decide), fun _ => B_M_macros_141 ?_⟩
      rw [nn_add]
      exact S_macros31 hT hV kk f (m + 1) g (by omega) hf (mI_skip hI hm v1)
    · rw [v2, v3]
      obtain ⟨N, hN⟩ := hI.2.2.1
      refine ⟨fun _ => am_chk_i (am_in26 hm) (am_chk_i (am_in26 hm) (S_segment (tM_fm hT hf (by decide) (by decide)) hN (by omega) v4 (Or.inr v6) (fun g1 hf1 hg1 => B_M_macros_65 (am_chk_i (am_in26 hm) (am_chk_i (am_in26 hm) ?_))))), fun h => ?_⟩
      rotate_left
      · rw [nn_lt (by omega) (by omega)] at h
        omega
      obtain ⟨s1, s2, s3⟩ := hg1 rfl
      have et : tks c V m = tk c 240 p := by
        unfold tks
        rw [v1]
      have eu : uR (tks c V) m = fU (tk c 240 p) (Int32.ofNat 0) := by
        unfold uR
        rw [et]
      rw [nn_nat (by omega), w_k (show (32 : Nat) ≠ 38 by decide), w_k (show (32 : Nat) ≠ 37 by decide), s1, s2, s3]
      refine S_macros95 hm 26 0 _ rfl (B_M_macros_141 ?_)
      rw [nn_add, w_k (show (32 : Nat) ≠ 38 by decide), w_k (show (32 : Nat) ≠ 37 by decide), w_k (show (36 : Nat) ≠ 38 by decide), w_k (show (36 : Nat) ≠ 37 by decide), s3, hf1.1 36 (by decide)]
      refine S_macros31 hT hV kk f (m + 1) _ (by omega) (fm_w (fm_w (fm_w (fm_3 hf hf1 (by decide) (by decide) (by decide)) (by decide) (by decide)) (by decide) (by decide)) (by decide) (by decide)) (mI_set hI hm v1 hN ?_ ?_ ?_ ?_ ?_ ?_)
      · rw [w_s, eu]
      · rw [w_k (show (37 : Nat) ≠ 36 by decide), w_k (show (37 : Nat) ≠ 38 by decide), w_s, et]
      · rw [w_k (show (38 : Nat) ≠ 36 by decide), w_s, et]
      · intro i hi
        rw [w_i hi, w_k (show (36 : Nat) ≠ 38 by decide), w_k (show (36 : Nat) ≠ 37 by decide), hf1.1 36 (by decide)]
      · intro i hi
        rw [w_k (show (37 : Nat) ≠ 36 by decide), w_k (show (37 : Nat) ≠ 38 by decide), w_i hi, hf1.1 37 (by decide)]
      · intro i hi
        rw [w_k (show (38 : Nat) ≠ 36 by decide), w_i hi, w_k (show (38 : Nat) ≠ 37 by decide), hf1.1 38 (by decide)]
theorem S_macros23 {g0 : am_G} (hT : tM g0 n c) (hV : vM g0 n c V) (kk : ∀ g', fm MK MJ g0 g' → mI (tks c V) V g' 27 0 → Q (.inl none, g', t)) :
    ∀ (f r : Nat) (g : am_G), r + f = 27 → fm MK MJ g0 g → mI (tks c V) V g r 0 → am_GQ (103, 23, [(0, .ref 32), (1, .int (Int32.ofNat r))], [], g, t) Q
  | 0, r, g, he, hf, hI => by
    have e : r = 27 := by omega
    subst e
    exact B_M_macros_23 ⟨fun _ => kk g hf hI, fun h => absurd ((nn_lt (by omega) (by omega)).mp h) (by omega)⟩
  | f + 1, r, g, he, hf, hI => by
    refine B_M_macros_23 ⟨fun h => absurd ((nn_le (by omega) (by omega)).mp h) (by omega), fun _ => ?_⟩
    exact S_macros31 hT hV (fun g' hf' hI' => S_macros23 hT hV kk f (r + 1) g' (by omega) hf' (mI_round hI')) 26 0 g rfl hf hI
theorem S_macros2 {g0 : am_G} (kk : ∀ g', fm [36] [] g0 g' → (∀ m, m < 26 → g' 36 m = Int32.ofNat 0) → am_GQ (103, 23, [(0, .ref 32), (1, .int (Int32.ofNat 0))], [], g', t) Q) :
    ∀ (f i : Nat) (g : am_G), i + f = 26 → fm [36] [] g0 g → (∀ m, m < i → g 36 m = Int32.ofNat 0) → am_GQ (103, 2, [(0, .ref 32), (1, .int (Int32.ofNat i))], [], g, t) Q
  | 0, i, g, he, hf, h => by
    have e : i = 26 := by omega
    subst e
    exact B_M_macros_2 ⟨fun _ => kk g hf h, fun h => absurd ((nn_lt (by omega) (by omega)).mp h) (by omega)⟩
  | f + 1, i, g, he, hf, h => by
    refine B_M_macros_2 ⟨fun h => absurd ((nn_le (by omega) (by omega)).mp h) (by omega), fun _ => am_chk_i (am_in26 (by omega)) ?_⟩
    rw [nn_add, nn_nat (by omega)]
    refine S_macros2 kk f (i + 1) _ (by omega) (fm_w hf (by decide) (by decide)) (fun m hm => ?_)
    by_cases e : m = i
    · subst e
      exact w_s
    · exact (w_i e).trans (h m (by omega))
theorem S_M_macros {g : am_G} (hT : tM g n c) (hV : vM g n c V) (hz : z37 g)
    (kk : ∀ g', fm MK MJ g g' → (∀ m, m < 26 → g' 36 m = lR (tks c V) m) → (∃ N, nX g' N) → (∀ m, m < 26 → gd (tks c V) m → g' 37 m = Int32.ofNat (vN (tks c V) 26 m) ∧ g' 38 m = vF (tks c V) 26 m) → Q (.inl none, g', t)) :
    am_GQ (103, 0, [(0, .ref 32)], [], g, t) Q := by
  have ht := tks_lt c V
  refine B_M_macros_0 (S_macros2 (fun g1 hf1 h1 => ?_) 26 0 g rfl (fm_refl _ _ _) (fun m hm => absurd hm (Nat.not_lt_zero _)))
  refine S_macros23 (tM_fm hT hf1 (by decide) (by decide)) (vM_fm hV hf1 (by decide) (by decide)) (fun g2 hf2 hI => ?_) 27 0 g1 rfl (fm_refl _ _ _) (mI_start (z37_fm hz hf1 (by decide) (by decide)) h1)
  refine kk g2 (fm_trans (fm_sub hf1 (by decide) (by decide)) hf2) (fun m hm => mI_end hI hm) hI.2.2.1 (fun m hm hd => hI.2.2.2.1 m hm hd ?_)
  have := hg_le ht hd hm
  omega
end
