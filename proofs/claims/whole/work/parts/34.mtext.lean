def tM (g : am_G) (n : Nat) (c : Nat → Nat) : Prop := n ≤ 240 ∧ g 32 1 = Int32.ofNat n ∧ (∀ i, i < n → g 33 i = Int32.ofNat (c i)) ∧ (∀ i, c i < 128) ∧ (∀ i, n ≤ i → c i = 0)
def f3 (g g' : am_G) : Prop := (∀ k, k ≠ 32 → g' k = g k) ∧ ∀ i, i ≠ 30 → i ≠ 31 → i ≠ 32 → g' 32 i = g 32 i
theorem f3_refl (g : am_G) : f3 g g := ⟨fun _ _ => rfl, fun _ _ _ _ => rfl⟩
theorem f3_trans {g g' g'' : am_G} (h : f3 g g') (h' : f3 g' g'') : f3 g g'' := ⟨fun k hk => (h'.1 k hk).trans (h.1 k hk), fun i a b d => (h'.2 i a b d).trans (h.2 i a b d)⟩
theorem f3_w {g g' : am_G} (h : f3 g g') {i : Nat} {v : Int32} (hi : i = 30 ∨ i = 31 ∨ i = 32) : f3 g (am_w g' 32 i v) := ⟨fun k hk => (w_k hk).trans (h.1 k hk), fun j a b d => (w_i (by omega)).trans (h.2 j a b d)⟩
theorem tM_f3 {g g' : am_G} {n : Nat} {c : Nat → Nat} (h : tM g n c) (hf : f3 g g') : tM g' n c := by
  obtain ⟨a1, a2, a3, a4, a5⟩ := h
  exact ⟨a1, by rw [hf.2 1 (by decide) (by decide) (by decide)]; exact a2, fun i hi => by rw [hf.1 33 (by decide)]; exact a3 i hi, a4, a5⟩
def nX (g : am_G) (N : Nat → Nat) : Prop := ∀ m, m < 26 → g 37 m = Int32.ofNat (N m) ∧ N m ≤ 65
theorem nX_f3 {g g' : am_G} {N : Nat → Nat} (h : nX g N) (hf : f3 g g') : nX g' N := fun m hm => by rw [hf.1 37 (by decide)]; exact h m hm
theorem pe_ch (c : Nat → Nat) : ∀ f i j, i ≤ j → j < pe c f i → c j ≠ 58 ∧ c j ≠ 10
  | 0, i, j, h1, h2 => by rw [pe] at h2; omega
  | f + 1, i, j, h1, h2 => by
    rw [pe] at h2
    by_cases e : pt c i = 0
    · rw [if_pos e] at h2; omega
    · rw [if_neg e] at h2
      by_cases e2 : i + pt c i ≤ j
      · exact pe_ch c f _ j e2 h2
      · unfold pt at e e2
        by_cases h3 : c i = 32
        · rw [if_pos h3] at e2
          have : j = i := by omega
          subst this; omega
        · rw [if_neg h3] at e e2
          by_cases h4 : isNm (c i) (c (i + 1)) ∨ isMu (c i) (c (i + 1))
          · rw [if_pos h4] at e2
            have : j = i ∨ j = i + 1 := by omega
            rcases this with h | h <;> subst h <;> omega
          · rw [if_neg h4] at e; omega
theorem pe_to {c : Nat → Nat} {e : Nat} (h : c e = 58 ∨ c e = 10) {f i : Nat} (hi : i ≤ e) : pe c f i ≤ e := by
  apply Classical.byContradiction
  intro hn
  have := pe_ch c f i e hi (by omega)
  omega
theorem pt_at {c : Nat → Nat} {e : Nat} (h : c e = 58 ∨ c e = 10) : pt c e = 0 := by
  unfold pt
  rw [if_neg (by omega), if_neg (by omega)]
theorem pe_at {c : Nat → Nat} {e : Nat} (h : c e = 58 ∨ c e = 10) (f : Nat) : pe c f e = e := by
  cases f with
  | zero => rfl
  | succ f => rw [pe, if_pos (pt_at h)]
theorem tk_at {c : Nat → Nat} {e : Nat} (h : c e = 58 ∨ c e = 10) (f : Nat) : tk c f e = [] := by
  cases f with
  | zero => rfl
  | succ f => rw [tk, if_neg (by omega), if_neg (by omega), if_neg (by omega)]
def cl (c : Nat → Nat) : Nat → Nat → Nat
  | 0, i => i
  | f + 1, i => if c i = 58 then i else cl c f (i + 1)
theorem cl_prop (c : Nat → Nat) : ∀ f i, i ≤ cl c f i ∧ cl c f i ≤ i + f ∧ (cl c f i < i + f → c (cl c f i) = 58) ∧ ∀ j, i ≤ j → j < cl c f i → c j ≠ 58
  | 0, i => by rw [cl]; exact ⟨Nat.le_refl _, by omega, fun h => by omega, fun j a b => by omega⟩
  | f + 1, i => by
    rw [cl]
    by_cases e : c i = 58
    · rw [if_pos e]; exact ⟨Nat.le_refl _, by omega, fun _ => e, fun j a b => by omega⟩
    · rw [if_neg e]
      obtain ⟨a1, a2, a3, a4⟩ := cl_prop c f (i + 1)
      refine ⟨by omega, by omega, fun h => a3 (by omega), fun j b1 b2 => ?_⟩
      by_cases e2 : j = i
      · rw [e2]; exact e
      · exact a4 j (by omega) b2
theorem am_in240 {i : Nat} (h : i < 240) : am_in (Int32.ofNat i) 240 = true := nn_in h (by omega)
section
variable {g : am_G} {t : Nat} {Q : am_R → Prop} {n : Nat} {c : Nat → Nat}
theorem S_within {a l h : Nat} (ha : a < 2147483648) (hl : l < 2147483648) (hh : h < 2147483648) (k : Q (.inl (some (.int (b2i (decide (l ≤ a ∧ a ≤ h))))), g, t)) : am_GQ (118, 0, [(0, .int (Int32.ofNat a)), (1, .int (Int32.ofNat l)), (2, .int (Int32.ofNat h))], [], g, t) Q := by
  refine B_M_within_0 ?_
  simp (disch := omega) only [nn_lt, nn_le]
  exact ⟨fun z => k_f k (by omega), fun z => ⟨fun z2 => k_f k (by omega), fun z2 => k_t k ⟨z, z2⟩⟩⟩
theorem S_within_neg {l : Nat} (hl : l < 2147483648) {h : Int32} (k : Q (.inl (some (.int (Int32.ofNat 0))), g, t)) : am_GQ (118, 0, [(0, .int (-1)), (1, .int (Int32.ofNat l)), (2, .int h)], [], g, t) Q := by
  refine B_M_within_0 ⟨fun _ => am_chk_i rfl k, fun z => ?_⟩
  rw [Int32.le_iff_toInt_le, nn_toInt hl, show (-1 : Int32).toInt = -1 by decide] at z
  omega
theorem S_spaces_loop (hT : tM g n c) {e : Nat} (he : e ≤ n) {x1 : Int32} : ∀ (f i : Nat), e - i = f → i < 1000 → Q (.inl (some (.int (b2i (sp c f i)))), g, t) → am_GQ (113, 2, [(0, .ref 32), (1, .int x1), (2, .int (Int32.ofNat e)), (3, .int (Int32.ofNat i))], [], g, t) Q := by
  have hn := hT.1
  intro f
  induction f with
  | zero =>
    intro i h1 h2 k
    refine B_M_spaces_2 ⟨fun _ => am_chk_i rfl k, fun h => ?_⟩
    rw [nn_lt (by omega) (by omega)] at h
    omega
  | succ f ih =>
    intro i h1 h2 k
    have h128 := hT.2.2.2.1 i
    refine B_M_spaces_2 ⟨fun h => ?_, fun h => am_chk_i (am_in240 (by omega)) ?_⟩
    · rw [nn_le (by omega) (by omega)] at h
      omega
    · rw [nn_nat (by omega), hT.2.2.1 i (by omega), nn_eq (by omega) (by omega), nn_add]
      rw [sp] at k
      refine ⟨fun h => ?_, fun h => ?_⟩
      · rw [if_pos h] at k
        exact ih _ (by omega) (by omega) k
      · rw [if_neg h] at k
        exact am_chk_i rfl k
theorem S_spaces (hT : tM g n c) {i e : Nat} (hi : i < 1000) (he : e ≤ n) (k : Q (.inl (some (.int (b2i (sp c (e - i) i)))), g, t)) : am_GQ (113, 0, [(0, .ref 32), (1, .int (Int32.ofNat i)), (2, .int (Int32.ofNat e))], [], g, t) Q :=
  B_M_spaces_0 (S_spaces_loop hT he _ i rfl hi k)
theorem S_colon_loop (hT : tM g n c) {e : Nat} (he : e ≤ n) {x1 : Int32} : ∀ (f i : Nat), i + f = e → Q (.inl (some (.int (Int32.ofNat (cl c f i)))), g, t) → am_GQ (93, 2, [(0, .ref 32), (1, .int x1), (2, .int (Int32.ofNat e)), (3, .int (Int32.ofNat i))], [], g, t) Q := by
  have hn := hT.1
  intro f
  induction f with
  | zero =>
    intro i h1 k
    refine B_M_colon_2 ⟨fun _ => k, fun h => ?_⟩
    rw [nn_lt (by omega) (by omega)] at h
    omega
  | succ f ih =>
    intro i h1 k
    have h128 := hT.2.2.2.1 i
    refine B_M_colon_2 ⟨fun h => ?_, fun h => am_chk_i (am_in240 (by omega)) ?_⟩
    · rw [nn_le (by omega) (by omega)] at h
      omega
    · rw [nn_nat (by omega), hT.2.2.1 i (by omega), nn_eq (by omega) (by omega), nn_add]
      rw [cl] at k
      refine ⟨fun h => ?_, fun h => ?_⟩
      · rw [if_pos h] at k
        exact k
      · rw [if_neg h] at k
        exact ih _ (by omega) k
theorem S_colon (hT : tM g n c) {i e : Nat} (hi : i ≤ e) (he : e ≤ n) (k : Q (.inl (some (.int (Int32.ofNat (cl c (e - i) i)))), g, t)) : am_GQ (93, 0, [(0, .ref 32), (1, .int (Int32.ofNat i)), (2, .int (Int32.ofNat e))], [], g, t) Q :=
  B_M_colon_0 (S_colon_loop hT he _ i (by omega) k)
def dv (c : Nat → Nat) (e i : Nat) : Int32 := if i < e then Int32.ofNat (c i) else -1
theorem S_at (hT : tM g n c) {i e : Nat} (hi : i < 1000) (he : e ≤ n) (k : Q (.inl (some (.int (dv c e i))), g, t)) : am_GQ (92, 0, [(0, .ref 32), (1, .int (Int32.ofNat i)), (2, .int (Int32.ofNat e))], [], g, t) Q := by
  have hn := hT.1
  unfold dv at k
  refine B_M_at_0 ?_
  rw [nn_le (by omega) (by omega), nn_lt (by omega) (by omega), nn_nat (by omega)]
  refine ⟨fun h => ?_, fun h => ?_⟩
  · rw [if_neg (by omega)] at k; exact k
  · rw [if_pos h] at k
    rw [hT.2.2.1 i (by omega)]
    exact am_chk_i (am_in240 (by omega)) k
theorem S_within_dv {e i l h : Nat} (hc : c i < 128) (hl : l < 2147483648) (hh : h < 2147483648) (ho : i < e ∨ ¬ (l ≤ c i ∧ c i ≤ h)) (k : Q (.inl (some (.int (b2i (decide (l ≤ c i ∧ c i ≤ h))))), g, t)) : am_GQ (118, 0, [(0, .int (dv c e i)), (1, .int (Int32.ofNat l)), (2, .int (Int32.ofNat h))], [], g, t) Q := by
  unfold dv
  by_cases e1 : i < e
  · rw [if_pos e1]
    exact S_within (by omega) hl hh k
  · rw [if_neg e1]
    rw [b2i_f (ho.resolve_left e1)] at k
    exact S_within_neg hl k
def gS (g : am_G) (a : Nat) (F U : Int32) : Prop := g 32 30 = Int32.ofNat a ∧ g 32 31 = F ∧ g 32 32 = U
theorem S_segment_loop (hT : tM g n c) {N : Nat → Nat} (hN : nX g N) {e s : Nat} (he : e ≤ n) (hs : s ≤ e) (hce : c e = 58 ∨ c e = 10) {a' : Nat} {F' U' : Int32} {B : Bool}
    (kk : ∀ g', f3 g g' → (B = true → gS g' a' F' U') → Q (.inl (some (.int (b2i B))), g', t)) :
    ∀ (f i r a : Nat) (F U : Int32) (g' : am_G), e - i ≤ f → s ≤ i → i ≤ e → s + r ≤ i → a ≤ 65 → f3 g g' → gS g' a F U →
      B = decide (pe c f i = e) → a' = min (a + fN N (tk c f i)) 65 → F' = fF (g 38) (tk c f i) F → U' = fU (tk c f i) U →
      am_GQ (111, 20, [(0, .ref 32), (1, .int (Int32.ofNat s)), (2, .int (Int32.ofNat e)), (3, .int (Int32.ofNat i)), (4, .int (Int32.ofNat r))], [], g', t) Q := by
  have hn := hT.1
  have h128 := hT.2.2.2.1
  intro f
  have fin : ∀ (f i r a : Nat) (F U : Int32) (g' : am_G), i = e → a ≤ 65 → f3 g g' → gS g' a F U →
      B = decide (pe c f i = e) → a' = min (a + fN N (tk c f i)) 65 → F' = fF (g 38) (tk c f i) F → U' = fU (tk c f i) U →
      am_chk (am_isb (Int32.ofNat 1)) (Q (.inl (some (.int (Int32.ofNat 1))), g', t)) := by
    intro f i r a F U g' hi ha hf hg hB hA hF hU
    subst hi
    rw [pe_at hce, decide_eq_true rfl] at hB
    rw [tk_at hce, fN, Nat.add_zero, Nat.min_eq_left ha] at hA
    rw [tk_at hce, fF] at hF
    rw [tk_at hce, fU] at hU
    refine am_chk_i rfl ?_
    have := kk g' hf (fun _ => by rw [hA, hF, hU]; exact hg)
    rw [hB] at this
    exact this
  induction f with
  | zero =>
    intro i r a F U g' h1 h2 h3 h4 ha hf hg hB hA hF hU
    have hi : i = e := by omega
    refine B_M_segment_20 ⟨fun _ => fin 0 i r a F U g' hi ha hf hg hB hA hF hU, fun _ => ⟨fun _ => fin 0 i r a F U g' hi ha hf hg hB hA hF hU, fun h => ?_⟩⟩
    rw [nn_lt (by omega) (by omega)] at h
    omega
  | succ f ih =>
    intro i r a F U g' h1 h2 h3 h4 ha hf hg hB hA hF hU
    by_cases hi : i = e
    · refine B_M_segment_20 ⟨fun _ => fin _ i r a F U g' hi ha hf hg hB hA hF hU, fun _ => ⟨fun _ => fin _ i r a F U g' hi ha hf hg hB hA hF hU, fun h => ?_⟩⟩
      rw [nn_lt (by omega) (by omega)] at h
      omega
    have hlt : i < e := by omega
    have hT' := tM_f3 hT hf
    have hci := h128 i
    have hci1 := h128 (i + 1)
    refine B_M_segment_20 ⟨fun h => ?_, fun _ => ⟨fun h => ?_, fun _ => am_chk_i (am_in240 (by omega)) ?_⟩⟩
    · rw [nn_le (by omega) (by omega)] at h
      omega
    · rw [nn_le (by omega) (by omega)] at h
      omega
    rw [nn_add, nn_nat (by omega), hT'.2.2.1 i (by omega)]
    refine S_at hT' (by omega) he (B_M_segment_49 ?_)
    rw [nn_eq (by omega) (by omega), nn_eq (by omega) (by omega), nn_add]
    have two : ∀ (x : Nat) (g2 : am_G), f3 g g2 → g2 32 31 = (if x < 32 then F ||| mb x else F ||| g 38 (x - 32)) → g2 32 32 = (if x < 32 then U else U ||| mb (x - 32)) → g2 32 30 = Int32.ofNat (a + (if x < 32 then 1 else N (x - 32))) → (if x < 32 then 1 else N (x - 32)) ≤ 65 → i + 2 ≤ e → pt c i = 2 → tk c (f + 1) i = x :: tk c f (i + 2) →
        am_GQ (111, 203, [(0, .ref 32), (1, .int (Int32.ofNat s)), (2, .int (Int32.ofNat e)), (3, .int (Int32.ofNat i)), (4, .int (Int32.ofNat r))], [], g2, t) Q := by
      intro x g2 y1 y2 y3 y4 y5 y6 y7 y8
      rw [pe, y7, if_neg (by omega)] at hB
      rw [y8, fN] at hA
      rw [y8, fF] at hF
      rw [y8, fU] at hU
      have next : ∀ g3 b, f3 g g3 → g3 32 30 = Int32.ofNat b → b ≤ 65 → a' = min (b + fN N (tk c f (i + 2))) 65 → g3 32 31 = g2 32 31 → g3 32 32 = g2 32 32 → am_GQ (111, 218, [(0, .ref 32), (1, .int (Int32.ofNat s)), (2, .int (Int32.ofNat e)), (3, .int (Int32.ofNat i)), (4, .int (Int32.ofNat r))], [], g3, t) Q := by
        intro g3 b z1 z2 z3 z4 z5 z6
        refine B_M_segment_218 (B_M_segment_221 ?_)
        rw [nn_add, nn_add]
        refine ih (i + 2) (r + 1) b _ _ g3 (by omega) (by omega) y6 (by omega) z3 z1 ⟨z2, z5.trans y2, z6.trans y3⟩ hB z4 hF hU
      refine B_M_segment_203 ?_
      rw [y4]
      generalize (if x < 32 then 1 else N (x - 32)) = d at *
      rw [nn_le (by omega) (by omega), nn_lt (by omega) (by omega)]
      refine ⟨fun h => next g2 _ y1 y4 h ?_ rfl rfl, fun h => next _ 65 (f3_w y1 (by decide)) w_s (Nat.le_refl _) ?_ (w_i (by decide)) (w_i (by decide))⟩
      · omega
      · omega
    refine ⟨fun h32 => ?_, fun h32 => ?_⟩
    · -- not a space
      have name : ¬ isMu (c i) (c (i + 1)) → am_GQ (111, 140, [(0, .ref 32), (1, .int (Int32.ofNat s)), (2, .int (Int32.ofNat e)), (3, .int (Int32.ofNat i)), (4, .int (Int32.ofNat r)), (5, .int (Int32.ofNat (c i))), (6, .int (dv c e (i + 1)))], [], g', t) Q := by
        intro hmu
        have bad : ¬ isNm (c i) (c (i + 1)) → am_chk (am_isb (Int32.ofNat 0)) (Q (.inl (some (.int (Int32.ofNat 0))), g', t)) := by
          intro hnm
          have h0 : pt c i = 0 := by unfold pt; rw [if_neg h32, if_neg (fun z => z.elim hnm hmu)]
          rw [pe, if_pos h0, decide_eq_false hi] at hB
          refine am_chk_i rfl ?_
          have := kk g' hf (fun z => by rw [hB] at z; cases z)
          rw [hB] at this
          exact this
        refine B_M_segment_140 (S_within (by omega) (by omega) (by omega) (B_M_segment_149 ⟨fun h => ?_, fun h => ?_⟩))
        · rw [b2i_dz] at h
          exact bad (by omega)
        · rw [b2i_dz, Decidable.not_not] at h
          refine S_within_dv hci1 (by omega) (by omega) ?_ (B_M_segment_161 ⟨fun h5 => ?_, fun h5 => ?_⟩)
          · by_cases e2 : i + 1 < e
            · exact Or.inl e2
            · right
              have : i + 1 = e := by omega
              rw [this]; omega
          · rw [b2i_dz] at h5
            exact bad (by omega)
          · rw [b2i_dz, Decidable.not_not] at h5
            have hnm : isNm (c i) (c (i + 1)) := ⟨h.1, h.2, h5.1, h5.2⟩
            have hlt2 : i + 1 < e := by
              apply Classical.byContradiction
              intro z
              have : i + 1 = e := by omega
              rw [this] at h5; omega
            have edv : dv c e (i + 1) = Int32.ofNat (c (i + 1)) := if_pos hlt2
            rw [edv, nn_sub (by omega), nn_mul, nn_add, nn_sub (by omega)]
            have ex : 4 * (c i - 97) + c (i + 1) - 48 = tf c i := by unfold tf; omega
            rw [ex]
            have hx : tf c i < 32 := by unfold tf; omega
            refine two (tf c i) _ (f3_w (f3_w hf (by decide)) (by decide)) ?_ ?_ ?_ ?_ (by omega) ?_ ?_
            · rw [if_pos hx, w_s, w_i (by decide), hg.2.1]; rfl
            · rw [if_pos hx, w_i (by decide), w_i (by decide)]; exact hg.2.2
            · rw [if_pos hx, w_i (by decide), w_s, hg.1, nn_add]
            · rw [if_pos hx]; omega
            · unfold pt; rw [if_neg h32, if_pos (Or.inl hnm)]
            · rw [tk, if_pos hnm]
      refine ⟨fun h => name (fun z => h z.1), fun h => ?_⟩
      refine S_within_dv hci1 (by omega) (by omega) ?_ (B_M_segment_80 ⟨fun h5 => ?_, fun h5 => ?_⟩)
      · by_cases e2 : i + 1 < e
        · exact Or.inl e2
        · right
          have : i + 1 = e := by omega
          rw [this]; omega
      · rw [b2i_dz] at h5
        exact name (fun z => h5 z.2)
      · rw [b2i_dz, Decidable.not_not] at h5
        have hmu : isMu (c i) (c (i + 1)) := ⟨h, h5.1, h5.2⟩
        have hlt2 : i + 1 < e := by
          apply Classical.byContradiction
          intro z
          have : i + 1 = e := by omega
          rw [this] at h5; omega
        have edv : dv c e (i + 1) = Int32.ofNat (c (i + 1)) := if_pos hlt2
        rw [edv, nn_sub (by omega), nn_nat (by omega)]
        have hx : ¬ tm c i < 32 := by unfold tm; omega
        have hm : tm c i - 32 = c (i + 1) - 65 := by unfold tm; omega
        have hNm := hN (c (i + 1) - 65) (by omega)
        refine am_chk_i (am_in26 (by omega)) (am_chk_i (am_in26 (by omega)) (two (tm c i) _ (f3_w (f3_w (f3_w hf (by decide)) (by decide)) (by decide)) ?_ ?_ ?_ ?_ (by omega) ?_ ?_))
        · rw [if_neg hx, hm, w_i (by decide), w_s, w_i (by decide), w_k (by decide), hg.2.1, hf.1 38 (by decide)]
        · rw [if_neg hx, hm, w_s, w_i (by decide), w_i (by decide), hg.2.2]; rfl
        · rw [if_neg hx, hm, w_i (by decide), w_i (by decide), w_s, hg.1, hf.1 37 (by decide), hNm.1, nn_add]
        · rw [if_neg hx, hm]; exact hNm.2
        · unfold pt; rw [if_neg h32, if_pos (Or.inr hmu)]
        · rw [tk, if_neg (by omega), if_pos hmu]
    · refine B_M_segment_221 ?_
      rw [nn_add]
      have h1' : pt c i = 1 := by unfold pt; rw [if_pos h32]
      rw [pe, h1', if_neg (by omega)] at hB
      rw [tk, if_neg (by omega), if_neg (by omega), if_pos h32] at hA hF hU
      exact ih (i + 1) (r + 1) a F U g' (by omega) (by omega) (by omega) (by omega) ha hf hg hB hA hF hU
theorem S_segment (hT : tM g n c) {N : Nat → Nat} (hN : nX g N) {e s : Nat} (he : e ≤ n) (hs : s ≤ e) (hce : c e = 58 ∨ c e = 10)
    (kk : ∀ g', f3 g g' → (pe c 240 s = e → gS g' (min (fN N (tk c 240 s)) 65) (fF (g 38) (tk c 240 s) (Int32.ofNat 0)) (fU (tk c 240 s) (Int32.ofNat 0))) → Q (.inl (some (.int (b2i (decide (pe c 240 s = e))))), g', t)) :
    am_GQ (111, 0, [(0, .ref 32), (1, .int (Int32.ofNat s)), (2, .int (Int32.ofNat e))], [], g, t) Q := by
  have hn := hT.1
  refine B_M_segment_0 (S_segment_loop hT hN he hs hce (fun g' h1 h2 => kk g' h1 (fun z => h2 (decide_eq_true z))) 240 s 0 0 (Int32.ofNat 0) (Int32.ofNat 0) _ (by omega) (Nat.le_refl _) hs (by omega) (by omega) (f3_w (f3_w (f3_w (f3_refl _) (by decide)) (by decide)) (by decide)) ⟨?_, ?_, w_s⟩ rfl (by rw [Nat.zero_add]) rfl rfl)
  · rw [w_i (by decide), w_i (by decide), w_s]
  · rw [w_i (by decide), w_s]
end
