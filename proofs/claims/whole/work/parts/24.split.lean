theorem w_k {g : am_G} {k i k' : Nat} {v : Int32} (h : k' ≠ k) : am_w g k i v k' = g k' := if_neg h
theorem w_i {g : am_G} {k i i' : Nat} {v : Int32} (h : i' ≠ i) : am_w g k i v k i' = g k i' := by
  unfold am_w
  rw [if_pos rfl, if_neg h]
theorem w_s {g : am_G} {k i : Nat} {v : Int32} : am_w g k i v k i = v := by
  unfold am_w
  rw [if_pos rfl, if_pos rfl]
def fr (ks : List Nat) (g g' : am_G) : Prop := ∀ k, k ∉ ks → g' k = g k
theorem fr_refl (ks : List Nat) (g : am_G) : fr ks g g := fun _ _ => rfl
theorem fr_trans {ks : List Nat} {g g' g'' : am_G} (h : fr ks g g') (h' : fr ks g' g'') : fr ks g g'' := fun k hk => (h' k hk).trans (h k hk)
theorem fr_w {ks : List Nat} {g g' : am_G} (h : fr ks g g') {k i : Nat} {v : Int32} (hk : k ∈ ks) : fr ks g (am_w g' k i v) := fun k' hk' => (w_k (fun e => hk' (by rw [e]; exact hk))).trans (h k' hk')
theorem fr_sub {ks ks' : List Nat} {g g' : am_G} (h : fr ks g g') (hs : ∀ k ∈ ks, k ∈ ks') : fr ks' g g' := fun k hk => h k (fun z => hk (hs k z))
theorem tX_fr {ks : List Nat} {g g' : am_G} {n : Nat} {c : Nat → Nat} (h : tX g n c) (hf : fr ks g g') (h9 : 9 ∉ ks) (h10 : 10 ∉ ks) : tX g' n c := by
  obtain ⟨a1, a2, a3, a4, a5⟩ := h
  exact ⟨a1, by rw [hf 9 h9]; exact a2, fun i hi => by rw [hf 10 h10]; exact a3 i hi, a4, a5⟩
def ls (c : Nat → Nat) : Nat → Nat → Nat → List (Nat × Nat)
  | 0, at', s => if s < at' then [(s, 0)] else []
  | f + 1, at', s => if c at' = 10 then (s, kd c s at') :: ls c f (at' + 1) (at' + 1) else ls c f (at' + 1) s
def lX (g : am_G) (L : List (Nat × Nat)) : Prop := L.length ≤ 240 ∧ g 11 3 = Int32.ofNat L.length ∧ ∀ j s k, L[j]? = some (s, k) → g 12 j = Int32.ofNat s ∧ g 13 j = Int32.ofNat (k + 1) ∧ k < 6 ∧ s ≤ 240
theorem lX_fr {ks : List Nat} {g g' : am_G} {L : List (Nat × Nat)} (h : lX g L) (hf : fr ks g g') (h1 : 11 ∉ ks) (h2 : 12 ∉ ks) (h3 : 13 ∉ ks) : lX g' L := by
  obtain ⟨a1, a2, a3⟩ := h
  refine ⟨a1, by rw [hf 11 h1]; exact a2, fun j s k hj => ?_⟩
  rw [hf 12 h2, hf 13 h3]
  exact a3 j s k hj
theorem kd_lt (c : Nat → Nat) (s e : Nat) : kd c s e < 6 := by
  unfold kd
  repeat' split
  all_goals omega
section
variable {g : am_G} {t : Nat} {Q : am_R → Prop} {n : Nat} {c : Nat → Nat}
theorem S_add {L : List (Nat × Nat)} (hL : lX g L) (hl : L.length < 240) {s k : Nat} (hk : k < 6) (hs : s ≤ 240)
    (kk : ∀ g', lX g' (L ++ [(s, k)]) → fr [11, 12, 13] g g' → Q (.inl none, g', t)) : am_GQ (33, 0, [(0, .ref 11), (1, .int (Int32.ofNat s)), (2, .ref k)], [], g, t) Q := by
  obtain ⟨a1, a2, a3⟩ := hL
  refine B_Lines_add_0 ⟨fun h => ?_, fun h => ?_⟩
  · rw [a2, nn_le (by omega) (by omega)] at h
    omega
  · have e1 : ∀ v, am_w g 12 (g 11 3).toNatClampNeg v 11 3 = g 11 3 := fun v => by rw [w_k (by decide)]
    have e2 : ∀ v u, am_w (am_w g 12 (g 11 3).toNatClampNeg v) 13 (g 11 3).toNatClampNeg u 11 3 = g 11 3 := fun v u => by rw [w_k (by decide), e1]
    rw [e1, e2, a2, nn_nat (by omega), nn_add, nn_add]
    refine am_chk_i (nn_in (by omega) (by omega)) (am_chk_i ?_ (kk _ ⟨?_, ?_, ?_⟩ (fr_w (fr_w (fr_w (fr_refl _ _) (by decide)) (by decide)) (by decide))))
    · rw [nn_in (by omega) (by omega), Bool.true_and]
      exact Nat.blt_eq.mpr hk
    · rw [List.length_append]; exact hl
    · rw [w_s, List.length_append]; rfl
    · intro j s' k' hj
      rw [w_k (by decide), w_k (by decide), w_k (k := 11) (by decide)]
      by_cases e : j = L.length
      · subst e
        rw [w_s, w_s]
        rw [List.getElem?_append_right (Nat.le_refl _), Nat.sub_self] at hj
        cases hj
        exact ⟨rfl, rfl, hk, hs⟩
      · rw [w_i e, w_i e, w_k (by decide)]
        refine a3 j s' k' ?_
        by_cases e2 : j < L.length
        · rw [List.getElem?_append_left e2] at hj; exact hj
        · rw [List.getElem?_append_right (by omega), List.getElem?_eq_none (by simp only [List.length_cons, List.length_nil]; omega)] at hj
          cases hj
theorem S_split_loop (hT : tX g n c) (kk : ∀ g', lX g' (ls c n 0 0) → fr [11, 12, 13] g g' → Q (.inl none, g', t)) :
    ∀ (f i s : Nat) (pre : List (Nat × Nat)) (g' : am_G), i + f = n → s ≤ i → pre.length ≤ s → lX g' pre → fr [11, 12, 13] g g' → pre ++ ls c f i s = ls c n 0 0 →
      am_GQ (43, 9, [(0, .ref 11), (1, .int (Int32.ofNat s)), (2, .int (Int32.ofNat i))], [], g', t) Q := by
  have hn := hT.1
  have h128 := hT.2.2.2.1
  intro f
  induction f with
  | zero =>
    intro i s pre g' hi hs hp hL hf he
    have hT' := tX_fr hT hf (by decide) (by decide)
    refine B_Lines_split_9 (S_size hT' (B_Lines_split_17 ⟨fun _ => S_size hT' (B_Lines_split_62 ⟨fun h => ?_, fun h => ?_⟩), fun h => ?_⟩))
    · rw [nn_le (by omega) (by omega)] at h
      rw [ls, if_neg (by omega), List.append_nil] at he
      rw [he] at hL
      exact kk _ hL hf
    · rw [nn_lt (by omega) (by omega)] at h
      rw [ls, if_pos (by omega)] at he
      refine S_add hL (by omega) (k := 0) (by omega) (by omega) (fun g2 hL2 hf2 => B_Lines_split_73 ?_)
      rw [he] at hL2
      exact kk _ hL2 (fr_trans hf hf2)
    · rw [nn_lt (by omega) (by omega)] at h
      omega
  | succ f ih =>
    intro i s pre g' hi hs hp hL hf he
    have hT' := tX_fr hT hf (by decide) (by decide)
    refine B_Lines_split_9 (S_size hT' (B_Lines_split_17 ⟨fun h => ?_, fun h => S_codeAt hT' (by omega) (B_Lines_split_28 ⟨fun h2 => ?_, fun h2 => ?_⟩)⟩))
    · rw [nn_le (by omega) (by omega)] at h
      omega
    · rw [nn_eq (by have := h128 i; omega) (by omega)] at h2
      rw [ls, if_neg h2] at he
      refine B_Lines_split_48 ?_
      rw [nn_add]
      exact ih _ _ _ _ (by omega) (by omega) hp hL hf he
    · rw [nn_eq (by have := h128 i; omega) (by omega)] at h2
      rw [ls, if_pos h2] at he
      refine S_kindOf hT' hs (by omega) (B_Lines_split_41 (S_add hL (by omega) (kd_lt c s i) (by omega) (fun g2 hL2 hf2 => B_Lines_split_44 (B_Lines_split_48 ?_))))
      rw [nn_add]
      refine ih _ _ _ _ (by omega) (by omega) ?_ hL2 (fr_trans hf hf2) ?_
      · rw [List.length_append]; simp only [List.length_cons, List.length_nil]; omega
      · rw [List.append_assoc]; exact he
theorem S_split (hT : tX g n c) (kk : ∀ g', lX g' (ls c n 0 0) → fr [11, 12, 13] g g' → Q (.inl none, g', t)) : am_GQ (43, 0, [(0, .ref 11)], [], g, t) Q := by
  refine B_Lines_split_0 (S_split_loop hT kk n 0 0 [] _ (by omega) (by omega) (by simp) ⟨by simp, w_s, ?_⟩ (fr_w (fr_refl _ _) (by decide)) rfl)
  intro j s k hj
  cases hj
end
