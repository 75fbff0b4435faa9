theorem itr_shift {α : Type} (F : α → α) : ∀ (r : Nat) (x : α), itr F r (F x) = F (itr F r x)
  | 0, _ => rfl
  | r + 1, x => by rw [itr, itr_shift F r x, itr]
theorem orB_stR {S S' : Nat → Int32} (hS : ∀ a, a < 32 → S' a = S a) (u : Int32) (k : Nat) : bt (orB u S' 32 0 u) k = stR (fun a b => bt (S a) b) 32 (fun b => bt u b) k := by
  have h : bt (orB u S' 32 0 u) k = true ↔ stR (fun a b => bt (S a) b) 32 (fun b => bt u b) k = true := by
    rw [orB_bt, stR_iff]
    constructor
    · rintro (h | ⟨i, _, h1, h2, h3⟩)
      · exact Or.inl h
      · rw [hS i (by omega)] at h3
        exact Or.inr ⟨i, by omega, h2, h3⟩
    · rintro (h | ⟨i, h1, h2, h3⟩)
      · exact Or.inl h
      · exact Or.inr ⟨i, Nat.zero_le _, by omega, h2, by rw [hS i h1]; exact h3⟩
  cases hx : stR (fun a b => bt (S a) b) 32 (fun b => bt u b) k with
  | true => exact h.mpr hx
  | false =>
    cases hy : bt (orB u S' 32 0 u) k with
    | false => rfl
    | true =>
      rw [h.mp hy] at hx
      cases hx
theorem uRow_at (S : Nat → Int32) : ∀ (f i : Nat) (U : Nat → Int32) (m : Nat), uRow S f i U m = if i ≤ m ∧ m < i + f then orB (U m) S 32 0 (U m) else U m
  | 0, i, U, m => by rw [uRow, if_neg (by omega)]
  | f + 1, i, U, m => by
    rw [uRow, uRow_at S f (i + 1)]
    unfold uStep
    by_cases e : m = i
    · subst e
      rw [if_neg (by omega), if_pos rfl, if_pos (by omega)]
    · rw [if_neg e]
      by_cases e2 : i + 1 ≤ m ∧ m < i + 1 + f
      · rw [if_pos e2, if_pos (by omega)]
      · rw [if_neg e2, if_neg (by omega)]
theorem uRds_bt {S S' : Nat → Int32} (hS : ∀ a, a < 32 → S' a = S a) {m : Nat} (hm : m < 32) : ∀ (f : Nat) (U : Nat → Int32), (fun k => bt (uRds S' f U m) k) = itr (stR (fun a b => bt (S a) b) 32) f (fun k => bt (U m) k)
  | 0, U => rfl
  | f + 1, U => by
    rw [uRds, uRds_bt hS hm f]
    have e : (fun k => bt (uRow S' 32 0 U m) k) = stR (fun a b => bt (S a) b) 32 (fun k => bt (U m) k) := by
      funext k
      rw [uRow_at, if_pos (by omega)]
      exact orB_stR hS (U m) k
    rw [e, itr_shift, itr]
theorem uRds_ws {S S' U : Nat → Int32} (hS : ∀ a, a < 32 → S' a = S a) (hU : ∀ a, a < 32 → U a = S a) {m : Nat} (hm : m < 32) : uRds S' 32 U m = wsR 32 S m := by
  refine bt_ext (fun k hk => ?_)
  have e : bt (uRds S' 32 U m) k = pR (fun a b => bt (S a) b) 32 32 m k := by
    have := congrFun (uRds_bt hS hm 32 U) k
    rw [this, hU m hm]
    rfl
  rw [e, wsR_bt]
  cases hx : wsB 32 (fun a b => bt (S a) b) m k with
  | true => exact ws_pR (Nat.le_refl _) hk hx
  | false =>
    cases hy : pR (fun a b => bt (S a) b) 32 32 m k with
    | false => rfl
    | true =>
      rw [pR_ws 32 k hy] at hx
      cases hx
theorem pN_fm {ks js : List Nat} {g g' : am_G} {P : List (Nat × Nat)} (h : pN g P) (hf : fm ks js g g') (hk : 46 ∉ ks) (hj : 20 ∉ js) : pN g' P := by
  refine ⟨h.1, by rw [hf.2 20 hj]; exact h.2.1, fun i a b hi => ?_⟩
  rw [hf.1 46 (by decide) hk]
  exact h.2.2 i a b hi
theorem fidx_lt {A : Int32} {n : Nat} {P : List (Nat × Nat)} (hP : P.length ≤ 30) {p : Nat} (h : fidx A n 0 P = some p) : p < 32 := by
  obtain ⟨_, q, h2, _⟩ := fidx_some A n P 0 p h
  obtain ⟨hi, _⟩ := List.getElem?_eq_some_iff.mp h2
  omega
theorem fidx_is {A : Int32} {n : Nat} {P : List (Nat × Nat)} : (fidx A n 0 P = none ↔ (ffit A n P).isSome = false) := by
  cases h : fidx A n 0 P with
  | none =>
    rw [fidx_none A n P 0 h]
    exact ⟨fun _ => rfl, fun _ => rfl⟩
  | some p =>
    obtain ⟨_, q, _, h3⟩ := fidx_some A n P 0 p h
    rw [h3]
    exact ⟨fun z => (by cases z), fun z => (by cases z)⟩
section
variable {t : Nat} {Q : am_R → Prop} {P : List (Nat × Nat)}
theorem S_graph53 {g0 : am_G} (hP : pN g0 P) {A0 : Int32} {r : Nat} (kk : ∀ g', fm [] [22] g0 g' → aI P A0 (g' 32 22) r 32 → am_GQ (98, 45, [(0, .ref 32), (1, .int (Int32.ofNat (r + 1)))], [], g', t) Q) :
    ∀ (f i : Nat) (g : am_G), i + f = 32 → fm [] [22] g0 g → aI P A0 (g 32 22) r i → am_GQ (98, 53, [(0, .ref 32), (1, .int (Int32.ofNat r)), (2, .int (Int32.ofNat i))], [], g, t) Q
  | 0, i, g, he, hf, hI => by
    have e : i = 32 := by omega
    subst e
    refine B_M_graph_53 ⟨fun _ => ?_, fun h => absurd ((nn_lt (by omega) (by omega)).mp h) (by omega)⟩
    rw [nn_add]
    exact kk g hf hI
  | f + 1, i, g, he, hf, hI => by
    have hP' := pN_fm hP hf (by decide) (by decide)
    have hs := aI_step hI (by omega) (pN_2 hP)
    have next : ∀ g2, fm [] [22] g0 g2 → aI P A0 (g2 32 22) r (i + 1) → am_GQ (98, 79, [(0, .ref 32), (1, .int (Int32.ofNat r)), (2, .int (Int32.ofNat i))], [], g2, t) Q := by
      intro g2 y1 y2
      refine B_M_graph_79 ?_
      rw [nn_add]
      exact S_graph53 hP kk f (i + 1) g2 (by omega) y1 y2
    refine B_M_graph_53 ⟨fun h => absurd ((nn_le (by omega) (by omega)).mp h) (by omega), fun _ => S_M_first hP' (by omega) rfl (B_M_graph_64 ⟨fun h => ?_, fun h => ?_⟩)⟩
    · rw [wv_lt (fun s h => fidx_lt hP.1 h), fidx_is] at h
      rw [h, if_neg (by decide)] at hs
      exact next g hf hs
    · have h2 : (ffit (g 32 22) i P).isSome = true := by
        cases hx : (ffit (g 32 22) i P).isSome with
        | true => rfl
        | false => exact absurd ((wv_lt (fun s h => fidx_lt hP.1 h)).mpr (fidx_is.mpr hx)) (not_le_lt h)
      rw [if_pos h2] at hs
      refine next _ (fm_f hf (by decide)) ?_
      rw [w_s]
      exact hs
theorem S_graph45 {g0 : am_G} (hP : pN g0 P) {A0 : Int32} (kk : ∀ g', fm [] [22] g0 g' → g' 32 22 = mkI (cP P A0 4) → am_GQ (98, 101, [(0, .ref 32), (1, .int (Int32.ofNat 0))], [], am_w g' 32 23 (g' 32 18), t) Q) :
    ∀ (f r : Nat) (g : am_G), r + f = 32 → fm [] [22] g0 g → aI P A0 (g 32 22) r 0 → am_GQ (98, 45, [(0, .ref 32), (1, .int (Int32.ofNat r))], [], g, t) Q
  | 0, r, g, he, hf, hI => by
    have e : r = 28 + 4 := by omega
    subst e
    exact B_M_graph_45 ⟨fun _ => kk g hf (aI_end hI), fun h => absurd ((nn_lt (by omega) (by omega)).mp h) (by omega)⟩
  | f + 1, r, g, he, hf, hI => by
    refine B_M_graph_45 ⟨fun h => absurd ((nn_le (by omega) (by omega)).mp h) (by omega), fun _ => ?_⟩
    exact S_graph53 hP (fun g' hf' hI' => S_graph45 hP kk f (r + 1) g' (by omega) hf' (aI_round hI')) 32 0 g rfl hf hI
theorem S_graph101 {g0 : am_G} (hP : pN g0 P) {A W H : Int32} {E : Nat → Int32} (hA : g0 32 22 = A) (hW : g0 32 18 = W) (hE : ∀ i, i < 32 → g0 45 i = E i)
    (kk : ∀ g', fm [48] [23] g0 g' → (∀ i, i < 32 → g' 48 i = srcF A W E P i) → g' 32 23 = H → am_GQ (98, 195, [(0, .ref 32), (1, .int (Int32.ofNat 0))], [], g', t) Q) :
    ∀ (f i : Nat) (g : am_G), i + f = 32 → fm [48] [23] g0 g → (∀ j, j < i → g 48 j = srcF A W E P j) → havF A W P f i (g 32 23) = H → am_GQ (98, 101, [(0, .ref 32), (1, .int (Int32.ofNat i))], [], g, t) Q
  | 0, i, g, he, hf, hs, hH => by
    have e : i = 32 := by omega
    subst e
    exact B_M_graph_101 ⟨fun _ => kk g hf hs hH, fun h => absurd ((nn_lt (by omega) (by omega)).mp h) (by omega)⟩
  | f + 1, i, g, he, hf, hs, hH => by
    have hi : i < 32 := by omega
    rw [havF] at hH
    have next : ∀ g2, fm [48] [23] g0 g2 → (∀ j, j ≠ i → g2 48 j = g 48 j) → g2 48 i = srcF A W E P i → havF A W P f (i + 1) (g2 32 23) = H → am_GQ (98, 187, [(0, .ref 32), (1, .int (Int32.ofNat i))], [], g2, t) Q := by
      intro g2 y1 y2 y3 y4
      refine B_M_graph_187 ?_
      rw [nn_add]
      refine S_graph101 hP hA hW hE kk f (i + 1) g2 (by omega) y1 (fun j hj => ?_) y4
      by_cases e : j = i
      · rw [e]
        exact y3
      · rw [y2 j e]
        exact hs j (by omega)
    have hf1 : fm [48] [23] g0 (am_w g 48 i (E i)) := fm_w hf (by decide) (by decide)
    have hP1 := pN_fm hP hf1 (by decide) (by decide)
    refine B_M_graph_101 ⟨fun h => absurd ((nn_le (by omega) (by omega)).mp h) (by omega), fun _ => am_chk_i (am_in32 hi) (am_chk_i (am_in32 hi) ?_)⟩
    rw [nn_nat (by omega), hf.1 45 (by decide) (by decide), hE i hi, hf1.2 18 (by decide), hW]
    refine S_M_has hi (B_M_graph_127 ⟨fun h => ?_, fun h => ?_⟩)
    rotate_left
    · rw [b2i_nz] at h
      rw [if_pos h] at hH
      refine next _ hf1 (fun j hj => w_i hj) ?_ (by rw [w_k (by decide)]; exact hH)
      rw [w_s]
      unfold srcF
      rw [if_pos h]
    rw [b2i_z] at h
    rw [if_neg (by rw [h]; decide)] at hH
    refine S_M_first (A := A) hP1 hi (by rw [hf1.2 22 (by decide)]; exact hA) (B_M_graph_138 ⟨fun h2 => ?_, fun h2 => ?_⟩)
    rotate_left
    · rw [wv_lt (fun s h => fidx_lt hP.1 h)] at h2
      rw [fidx_is.mp h2, if_neg (by decide)] at hH
      refine next _ hf1 (fun j hj => w_i hj) ?_ (by rw [w_k (by decide)]; exact hH)
      rw [w_s]
      unfold srcF
      rw [if_neg (by rw [h]; decide), fidx_none A i P 0 h2]
    cases hx : fidx A i 0 P with
    | none =>
      rw [hx] at h2
      exact absurd h2 (by decide)
    | some p =>
      obtain ⟨_, ⟨a, b⟩, q1, q2⟩ := fidx_some A i P 0 p hx
      rw [Nat.sub_zero] at q1
      have hp := fidx_lt hP.1 hx
      obtain ⟨v1, v2, v3⟩ := hP1.2.2 p a b q1
      rw [q2, if_pos (show (some (i / 4 * 4 + b)).isSome = true from rfl)] at hH
      dsimp only at q2
      have hin : am_in (wv (some p)) 32 = true := am_in32 hp
      have etn : Int32.toNatClampNeg (wv (some p)) = p := nn_nat (by omega)
      have eb : (4 * a + b) % 4 = b := by omega
      refine am_chk_i (am_in32 hi) (am_chk_i four_ne (am_chk_i hin (am_chk_i four_ne (am_chk_i (am_in32 hi) ?_))))
      rw [etn, nn_nat (by omega), w_k (show (46 : Nat) ≠ 32 by decide), w_k (show (48 : Nat) ≠ 32 by decide), v1, w_s, div4 (4 * a + b) (by omega), div4 i hi, mod4 (4 * a + b) (by omega), eb, nn_mul, nn_add]
      refine next _ (fm_w (fm_f hf1 (by decide)) (by decide) (by decide)) (fun j hj => ?_) ?_ ?_
      · rw [w_i hj, w_k (show (48 : Nat) ≠ 32 by decide), w_i hj]
      · rw [w_s]
        unfold srcF
        rw [if_neg (by rw [h]; decide), q2]
        rfl
      · rw [w_k (show (32 : Nat) ≠ 48 by decide), w_s, w_k (show (32 : Nat) ≠ 48 by decide)]
        exact hH
theorem S_M_graph {g : am_G} (hP : pN g P) {W : Int32} {E St : Nat → Int32} (hW : g 32 18 = W) (hE : ∀ i, i < 32 → g 45 i = E i) (hSt : ∀ i, i < 32 → g 47 i = St i)
    (kk : ∀ g', fm [48, 49] [22, 23] g g' → (∀ i, i < 32 → g' 48 i = srcF (avS P St W) W E P i) → g' 32 23 = havF (avS P St W) W P 32 0 W → (∀ i, i < 32 → g' 49 i = wsR 32 (srcF (avS P St W) W E P) i) → Q (.inl none, g', t)) :
    am_GQ (98, 0, [(0, .ref 32)], [], g, t) Q := by
  refine B_M_graph_0 (S_graph10 (g0 := am_w g 32 22 (g 32 18)) (v := avB St 32 0 W) (fun g1 f1 f2 h1 => ?_) 32 0 _ rfl (fun _ _ => rfl) (fun _ _ => rfl) ?_)
  rotate_left
  · rw [w_s, w_k (show (47 : Nat) ≠ 32 by decide), hW]
    exact avB_congr 32 0 W (fun j _ hj => hSt j (by omega))
  have hf1 : fm [] [22] g g1 := by
    refine ⟨fun k hk _ => by rw [f1 k hk, w_k hk], fun i hi => ?_⟩
    have e : i ≠ 22 := fun e => hi (by rw [e]; decide)
    rw [f2 i e, w_i e]
  refine S_graph45 (g0 := g1) (A0 := avB St 32 0 W) (pN_fm hP hf1 (by decide) (by decide)) (fun g2 hf2 h2 => ?_) 32 0 g1 rfl (fm_refl _ _ _) (by rw [h1]; exact aI_start P _)
  have e18 : g2 32 18 = W := by rw [hf2.2 18 (by decide), hf1.2 18 (by decide)]; exact hW
  rw [e18]
  have hf3 : fm [] [22, 23] g (am_w g2 32 23 W) := fm_f (fm_trans (fm_sub hf1 (by decide) (by decide)) (fm_sub hf2 (by decide) (by decide))) (by decide)
  refine S_graph101 (g0 := am_w g2 32 23 W) (A := avS P St W) (W := W) (H := havF (avS P St W) W P 32 0 W) (E := E) (pN_fm hP hf3 (by decide) (by decide)) (by rw [w_i (by decide)]; exact h2) (by rw [w_i (by decide)]; exact e18) (fun i hi => by rw [hf3.1 45 (by decide) (by decide)]; exact hE i hi) (fun g3 hf4 h3 h4 => ?_) 32 0 _ rfl (fm_refl _ _ _) (fun j hj => absurd hj (Nat.not_lt_zero _)) (by rw [w_s])
  refine S_graph195 (g0 := g3) (fun g4 f5 h5 => ?_) 32 0 g3 rfl (fun _ _ => rfl) (fun m hm => absurd hm (Nat.not_lt_zero _))
  have hf5 : fm [49] [] g3 g4 := ⟨fun k _ h => f5 k (fun e => h (by rw [e]; decide)), fun i _ => by rw [f5 32 (by decide)]⟩
  refine S_graph221 (g0 := g4) (V := uRds (g4 48) 32 (g4 49)) (fun g5 f6 h6 => ?_) 32 0 g4 rfl (fun _ _ => rfl) rfl
  have hf6 : fm [49] [] g4 g5 := ⟨fun k _ h => f6 k (fun e => h (by rw [e]; decide)), fun i _ => by rw [f6 32 (by decide)]⟩
  have e48 : ∀ i, i < 32 → g4 48 i = srcF (avS P St W) W E P i := fun i hi => by rw [f5 48 (by decide)]; exact h3 i hi
  refine kk g5 (fm_trans (fm_sub hf3 (by decide) (by decide)) (fm_trans (fm_sub hf4 (by decide) (by decide)) (fm_trans (fm_sub hf5 (by decide) (by decide)) (fm_sub hf6 (by decide) (by decide))))) (fun i hi => ?_) ?_ (fun i hi => ?_)
  · rw [f6 48 (by decide)]
    exact e48 i hi
  · rw [f6 32 (by decide), f5 32 (by decide)]
    exact h4
  · rw [h6]
    exact uRds_ws e48 (fun a ha => by rw [h5 a ha]; exact h3 a ha) hi
end
