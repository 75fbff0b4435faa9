def wq (x : Int64) (n : Nat) : Option Nat := match wc x 8 0 with
  | some a => if n + a ≤ 240 then some a else none
  | none => none
theorem wq_some {x : Int64} {n a : Nat} (h : wc x 8 0 = some a) (h2 : n + a ≤ 240) : wq x n = some a := by
  unfold wq; rw [h]; exact if_pos h2
theorem wq_big {x : Int64} {n a : Nat} (h : wc x 8 0 = some a) (h2 : 240 < n + a) : wq x n = none := by
  unfold wq; rw [h]; exact if_neg (by omega)
theorem wq_none {x : Int64} {n : Nat} (h : wc x 8 0 = none) : wq x n = none := by
  unfold wq; rw [h]
def frW (g g' : am_G) : Prop := (∀ k, k ≠ 9 → k ≠ 10 → g' k = g k) ∧ ∀ i, i ≠ 1 → g' 9 i = g 9 i
def frN (g g' : am_G) : Prop := (∀ k, k ≠ 32 → k ≠ 33 → g' k = g k) ∧ ∀ i, i ≠ 1 → i ≠ 2 → g' 32 i = g 32 i
theorem apc_lt {c : Nat → Nat} {n a : Nat} {x : Int64} (hc : ∀ i, c i < 128) (hx : ∀ j, j < a → byt x j < 128) (i : Nat) : apc c n a x i < 128 := by
  unfold apc
  by_cases h1 : i < n
  · rw [if_pos h1]; exact hc i
  · rw [if_neg h1]
    by_cases h2 : i < n + a
    · rw [if_pos h2]; exact hx _ (by omega)
    · rw [if_neg h2]; omega
theorem apc_out {c : Nat → Nat} {n a : Nat} {x : Int64} {i : Nat} (h : n + a ≤ i) : apc c n a x i = 0 := by
  unfold apc
  rw [if_neg (by omega), if_neg (by omega)]
section
variable {g : am_G} {t : Nat} {Q : am_R → Prop} {x : Int64} {n : Nat} {c : Nat → Nat}
theorem S_D_write (hT : tX g n c) (k0 : wq x n = none → Q (.inl (some (.int (-1))), g, t)) (k1 : ∀ a g', wq x n = some a → frW g g' → tX g' (n + a) (apc c n a x) → Q (.inl (some (.int (Int32.ofNat a))), g', t)) : am_GQ (20, 0, [(0, .ref 8), (1, .long x)], [], g, t) Q := by
  obtain ⟨hn, h9, h10, hc, hz⟩ := hT
  refine B_D_write_0 (B_Text_append_0 (S_countCodes ?_))
  cases hw : wc x 8 0 with
  | none => exact B_Text_append_4 (s0 := -1) ⟨fun _ => B_D_write_8 (k0 (wq_none hw)), fun h => absurd h (by decide)⟩
  | some a =>
    obtain ⟨a1, a2, a3⟩ := wc_ok x 8 0 a hw
    have hle : Int32.ofNat 240 - g 9 1 = Int32.ofNat (240 - n) := by rw [h9]; exact nn_sub hn
    refine B_Text_append_4 (s0 := Int32.ofNat a) ?_
    rw [hle, nn_lt (by omega) (by omega), nn_le (by omega) (by omega), nn_le (by omega) (by omega), nn_lt (by omega) (by omega)]
    refine ⟨fun h => absurd h (Nat.not_lt_zero _), fun _ => ⟨fun h => ?_, fun h => B_D_write_8 (k0 (wq_big hw (by omega)))⟩⟩
    refine S_append26 (g0 := g) (n := n) (by omega) (by omega) (fun g' f1 f2 f3 => B_D_write_8 (k1 a _ (wq_some hw (by omega)) ⟨fun k hk1 hk2 => (w_k hk1).trans (f1 k hk2), fun i hi => (w_i hi).trans (by rw [f1 9 (by decide)])⟩ ⟨by omega, w_s, fun i hi => ?_, apc_lt hc (fun j hj => a3 j (by omega) hj), fun i hi => apc_out hi⟩)) h9 a 0 g (by omega) (fun _ _ => rfl) (fun _ _ => rfl) (fun j hj => absurd hj (Nat.not_lt_zero _))
    show am_w g' 9 1 (Int32.ofNat (n + a)) 10 i = _
    rw [w_k (show (10 : Nat) ≠ 9 by decide)]
    unfold apc
    by_cases e : i < n
    · rw [if_pos e, f2 i e]; exact h10 i e
    · rw [if_neg e, if_pos hi]
      have := f3 (i - n) (by omega)
      rw [show n + (i - n) = i by omega] at this
      exact this
theorem S_M_write10 (kn : ∀ a, wc x 8 0 = some a → am_GQ (119, 57, [(0, .ref 32), (1, .long x), (3, .int (Int32.ofNat a))], [], g, t) Q) (k0 : wc x 8 0 = none → Q (.inl (some (.int (-1))), g, t)) : ∀ (f i : Nat), i + f = 8 → wc x f i = wc x 8 0 → am_GQ (119, 10, [(0, .ref 32), (1, .long x), (3, .int (Int32.ofNat i)), (4, .int (Int32.ofNat i))], [], g, t) Q
  | 0, i, he, hw => by
    refine B_M_write_10 ⟨fun _ => kn i hw.symm, fun h => absurd ((nn_lt (by omega) (by omega)).mp h) (by omega)⟩
  | f + 1, i, he, hw => by
    have hb := byt_lt x i
    have e := byM_E x i (by omega)
    unfold byM at e
    refine B_M_write_10 ?_
    rw [e, byE_of, nn_eq (by omega) (by omega), nn_le (by omega) (by omega), nn_lt (by omega) (by omega), nn_le (by omega) (by omega), nn_lt (by omega) (by omega), nn_add]
    rw [wc] at hw
    refine ⟨fun h => absurd h (by omega), fun _ => ⟨fun h0 => ⟨fun h1 => ?_, fun h1 => ?_⟩, fun h0 => ?_⟩⟩
    · rw [if_neg h0, if_neg (by omega)] at hw
      exact S_M_write10 kn k0 f (i + 1) (by omega) hw
    · rw [if_neg h0, if_pos h1] at hw
      exact k0 hw.symm
    · rw [if_pos h0] at hw
      exact kn i hw.symm
theorem S_M_write74 {g0 : am_G} {a : Nat} (hn : n + a ≤ 240) (ha : a ≤ 8) (hx : ∀ j, j < a → byt x j < 128) (kk : ∀ g', (∀ k, k ≠ 33 → g' k = g0 k) → (∀ j, j < n → g' 33 j = g0 33 j) → (∀ j, j < a → g' 33 (n + j) = Int32.ofNat (byt x j)) → Q (.inl (some (.int (Int32.ofNat a))), am_w g' 32 1 (Int32.ofNat (n + a)), t)) (h9 : g0 32 1 = Int32.ofNat n) :
    ∀ (f i : Nat) (g : am_G), i + f = a → (∀ k, k ≠ 33 → g k = g0 k) → (∀ j, j < n → g 33 j = g0 33 j) → (∀ j, j < i → g 33 (n + j) = Int32.ofNat (byt x j)) → am_GQ (119, 74, [(0, .ref 32), (1, .long x), (3, .int (Int32.ofNat a)), (4, .int (Int32.ofNat i))], [], g, t) Q
  | 0, i, g, he, h1, h2, h3 => by
    have ea : i = a := by omega
    subst ea
    refine B_M_write_74 ⟨fun _ => ?_, fun h => absurd ((nn_lt (by omega) (by omega)).mp h) (by omega)⟩
    rw [h1 32 (by decide), h9, nn_add]
    exact kk g h1 h2 h3
  | f + 1, i, g, he, h1, h2, h3 => by
    have hb := byt_lt x i
    have e := byM_127 x i (by omega) (hx i (by omega))
    unfold byM at e
    refine B_M_write_74 ⟨fun h => absurd ((nn_le (by omega) (by omega)).mp h) (by omega), fun _ => ?_⟩
    rw [e, h1 32 (by decide), h9, nn_add, nn_nat (by omega), nn_add]
    refine am_chk_i (nn_in (by omega) (by omega)) (S_M_write74 hn ha hx kk h9 f (i + 1) _ (by omega) (fun k hk => (w_k hk).trans (h1 k hk)) (fun j hj => (w_i (by omega)).trans (h2 j hj)) (fun j hj => ?_))
    by_cases e : j = i
    · subst e
      exact w_s
    · exact (w_i (by omega)).trans (h3 j (by omega))
theorem S_M_write (hT : tM g n c) (k0 : wq x n = none → Q (.inl (some (.int (-1))), am_w g 32 2 (Int32.ofNat 0), t)) (k1 : ∀ a g', wq x n = some a → frN g g' → g' 32 2 = Int32.ofNat 0 → tM g' (n + a) (apc c n a x) → Q (.inl (some (.int (Int32.ofNat a))), g', t)) : am_GQ (119, 0, [(0, .ref 32), (1, .long x)], [], g, t) Q := by
  obtain ⟨hn, h9, h10, hc, hz⟩ := hT
  have h91 : am_w g 32 2 (Int32.ofNat 0) 32 1 = Int32.ofNat n := by rw [w_i (by decide)]; exact h9
  refine B_M_write_0 (S_M_write10 (fun a hw => ?_) (fun hw => k0 (wq_none hw)) 8 0 rfl rfl)
  obtain ⟨a1, a2, a3⟩ := wc_ok x 8 0 a hw
  refine B_M_write_57 ?_
  rw [h91, nn_add, nn_le (by omega) (by omega), nn_lt (by omega) (by omega)]
  refine ⟨fun h => ?_, fun h => k0 (wq_big hw (by omega))⟩
  refine S_M_write74 (g0 := am_w g 32 2 (Int32.ofNat 0)) (n := n) (by omega) (by omega) (fun j hj => a3 j (by omega) hj) (fun g' f1 f2 f3 => k1 a _ (wq_some hw h) ⟨fun k hk1 hk2 => (w_k hk1).trans ((f1 k hk2).trans (w_k hk1)), fun i hi hi2 => (w_i hi).trans (by rw [f1 32 (by decide)]; exact w_i hi2)⟩ ((w_i (by decide)).trans (by rw [f1 32 (by decide)]; exact w_s)) ⟨by omega, w_s, fun i hi => ?_, apc_lt hc (fun j hj => a3 j (by omega) hj), fun i hi => apc_out hi⟩) h91 a 0 _ (by omega) (fun _ _ => rfl) (fun _ _ => rfl) (fun j hj => absurd hj (Nat.not_lt_zero _))
  rw [w_k (by decide)]
  unfold apc
  by_cases e : i < n
  · rw [if_pos e, f2 i e, w_k (by decide)]; exact h10 i e
  · rw [if_neg e, if_pos hi]
    have := f3 (i - n) (by omega)
    rw [show n + (i - n) = i by omega] at this
    exact this
end
