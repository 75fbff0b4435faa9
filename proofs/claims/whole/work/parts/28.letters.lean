theorem for_up {X : Type} {N : Nat} {Q : am_R → Prop} (S : Nat → X → am_S) (P : Nat → X → Prop) (step : ∀ i x, i < N → P i x → (∀ x', P (i + 1) x' → am_GQ (S (i + 1) x') Q) → am_GQ (S i x) Q) (last : ∀ x, P N x → am_GQ (S N x) Q) :
    ∀ i x, i ≤ N → P i x → am_GQ (S i x) Q := by
  have : ∀ d i x, i + d = N → P i x → am_GQ (S i x) Q := by
    intro d
    induction d with
    | zero =>
      intro i x h p
      have e : i = N := by omega
      subst e
      exact last x p
    | succ d ih => exact fun i x h p => step i x (by omega) p (fun x' p' => ih (i + 1) x' (by omega) p')
  exact fun i x h p => this (N - i) i x (by omega) p
def lG (c : Nat → Nat) (n : Nat) (L : List (Nat × Nat)) : Prop := ∀ s k, (s, k) ∈ L → k = 0 ∨ ∃ e, s ≤ e ∧ e < n ∧ c e = 10 ∧ (∀ j, s ≤ j → j < e → c j ≠ 10) ∧ k = kd c s e
theorem ls_good (c : Nat → Nat) (n : Nat) : ∀ f i s, s ≤ i → i + f = n → (∀ j, s ≤ j → j < i → c j ≠ 10) → lG c n (ls c f i s)
  | 0, i, s, _, _, _ => by
    intro s' k h
    rw [ls] at h
    split at h
    · cases List.mem_singleton.mp h
      exact Or.inl rfl
    · cases h
  | f + 1, i, s, h1, h2, h3 => by
    intro s' k h
    rw [ls] at h
    split at h
    · rename_i h4
      rcases List.mem_cons.mp h with e | h
      · cases e
        exact Or.inr ⟨i, h1, by omega, h4, h3, rfl⟩
      · exact ls_good c n f (i + 1) (i + 1) (Nat.le_refl _) (by omega) (fun j a b => by omega) s' k h
    · rename_i h4
      refine ls_good c n f (i + 1) s (by omega) (by omega) (fun j a b => ?_) s' k h
      by_cases e : j = i
      · rw [e]; exact h4
      · exact h3 j a (by omega)
theorem kd_mac {c : Nat → Nat} {s e : Nat} (h : kd c s e = 2) : isMac c s e := by
  unfold kd at h
  split at h
  · omega
  · split at h
    · omega
    · split at h
      · assumption
      · split at h
        · omega
        · split at h <;> omega
theorem kd_rul {c : Nat → Nat} {s e : Nat} (h : kd c s e = 3) : isRul c s e := by
  unfold kd at h
  split at h
  · omega
  · split at h
    · omega
    · split at h
      · omega
      · split at h
        · omega
        · split at h
          · assumption
          · omega
theorem kd_pat {c : Nat → Nat} {s e : Nat} (h : kd c s e = 4) : isPat c s e := by
  unfold kd at h
  split at h
  · omega
  · split at h
    · omega
    · split at h
      · omega
      · split at h
        · assumption
        · split at h <;> omega
def mv (c : Nat → Nat) : (Nat → Option Nat) → List (Nat × Nat) → (Nat → Option Nat)
  | V, [] => V
  | V, (s, k) :: r => mv c (if k = 2 then (fun m => if m = c s - 65 then some (s + 2) else V m) else V) r
def vX (g : am_G) (n : Nat) (V : Nat → Option Nat) : Prop := ∀ m, m < 26 → (V m = none ∧ g 15 m = -1) ∨ ∃ p, V m = some p ∧ p ≤ n ∧ g 15 m = Int32.ofNat p
def tks (c : Nat → Nat) (V : Nat → Option Nat) (m : Nat) : List Nat := match V m with
  | some p => tk c 240 p
  | none => []
theorem vX_fr {ks : List Nat} {g g' : am_G} {n : Nat} {V : Nat → Option Nat} (h : vX g n V) (hf : fr ks g g') (h1 : 15 ∉ ks) : vX g' n V := by
  intro m hm
  rw [hf 15 h1]
  exact h m hm
theorem am_in26 {i : Nat} (h : i < 26) : am_in (Int32.ofNat i) 26 = true := nn_in h (by omega)
section
variable {g : am_G} {t : Nat} {Q : am_R → Prop} {n : Nat} {c : Nat → Nat} {L : List (Nat × Nat)} {V : Nat → Option Nat}
theorem S_findValues_loop (hT : tX g n c) (hL : lX g L) (hG : lG c n L) (kk : ∀ g', vX g' n (mv c (fun _ => none) L) → fr [15] g g' → Q (.inl none, g', t)) :
    ∀ (r pre : List (Nat × Nat)) (V : Nat → Option Nat) (g' : am_G), pre ++ r = L → mv c V r = mv c (fun _ => none) L → vX g' n V → fr [15] g g' →
      am_GQ (49, 23, [(0, .ref 14), (1, .ref 11), (2, .int (Int32.ofNat pre.length))], [], g', t) Q := by
  have hl := hL.1
  intro r
  induction r with
  | nil =>
    intro pre V g' he hv hV hf
    rw [List.append_nil] at he
    subst he
    refine B_Macros_findValues_23 (S_count (lX_fr hL hf (by decide) (by decide) (by decide)) (B_Macros_findValues_28 ⟨fun _ => ?_, fun h => ?_⟩))
    · rw [← hv] at kk
      exact kk _ hV hf
    · rw [nn_lt (by omega) (by omega)] at h
      omega
  | cons q r ih =>
    obtain ⟨s, k⟩ := q
    intro pre V g' he hv hV hf
    have hL' := lX_fr hL hf (by decide) (by decide) (by decide)
    have hlen : pre.length < L.length := by rw [← he, List.length_append, List.length_cons]; omega
    have hat : L[pre.length]? = some (s, k) := by rw [← he, List.getElem?_append_right (Nat.le_refl _), Nat.sub_self]; rfl
    have hk : kn L pre.length = k := by unfold kn; rw [hat]
    have hs : sn L pre.length = s := by unfold sn; rw [hat]
    have hmem : (s, k) ∈ L := by rw [← he]; exact List.mem_append_right _ List.mem_cons_self
    have next : ∀ V' g2, vX g2 n V' → fr [15] g g2 → mv c V' r = mv c (fun _ => none) L → am_GQ (49, 67, [(0, .ref 14), (1, .ref 11), (2, .int (Int32.ofNat pre.length))], [], g2, t) Q := by
      intro V' g2 hV2 hf2 hv2
      refine B_Macros_findValues_67 ?_
      rw [nn_add]
      have := ih (pre ++ [(s, k)]) V' g2 (by rw [List.append_assoc]; exact he) hv2 hV2 hf2
      rw [List.length_append] at this
      exact this
    rw [mv] at hv
    refine B_Macros_findValues_23 (S_count hL' (B_Macros_findValues_28 ⟨fun h => ?_, fun _ => S_isKind hL' (by omega) (by omega) (B_Macros_findValues_39 ⟨fun h => ?_, fun h => ?_⟩)⟩))
    · rw [nn_le (by omega) (by omega)] at h
      omega
    · rw [b2i_dz, hk] at h
      rw [if_neg h] at hv
      exact next V g' hV hf hv
    · rw [b2i_dz, Decidable.not_not, hk] at h
      rw [if_pos h] at hv
      rcases hG s k hmem with h0 | ⟨e, h1, h2, _, _, h3⟩
      · omega
      have hmac := kd_mac (h3 ▸ h)
      have hp2 : s + 2 ≤ n := by have := pe_ge c 240 (s + 2); omega
      have hn := hT.1
      refine S_startOf hL' hlen (B_Macros_findValues_47 ?_)
      rw [hs]
      refine S_codeAt (tX_fr hT hf (by decide) (by decide)) (by omega) (B_Macros_findValues_60 ?_)
      rw [nn_sub (by omega), nn_add, nn_nat (by omega)]
      refine am_chk_i (am_in26 (by omega)) (next _ _ ?_ (fr_w hf (by decide)) hv)
      intro m hm
      by_cases em : m = c s - 65
      · subst em
        exact Or.inr ⟨s + 2, if_pos rfl, hp2, w_s⟩
      · rw [w_i em]
        dsimp only
        rw [if_neg em]
        exact hV m hm
theorem S_findValues (hT : tX g n c) (hL : lX g L) (hG : lG c n L) (kk : ∀ g', vX g' n (mv c (fun _ => none) L) → fr [15] g g' → Q (.inl none, g', t)) :
    am_GQ (49, 0, [(0, .ref 14), (1, .ref 11)], [], g, t) Q := by
  refine B_Macros_findValues_0 (for_up (N := 26) (fun i g' => (49, 2, [(0, .ref 14), (1, .ref 11), (2, .int (Int32.ofNat i))], [], g', t)) (fun i g' => (∀ m, m < i → g' 15 m = -1) ∧ fr [15] g g') ?_ ?_ 0 g (by omega) ⟨fun m hm => by omega, fr_refl _ _⟩)
  · rintro i g' hi ⟨h1, h2⟩ k
    refine B_Macros_findValues_2 ⟨fun h => ?_, fun _ => am_chk_i (am_in26 hi) ?_⟩
    · rw [nn_le (by omega) (by omega)] at h
      omega
    · rw [nn_add, nn_nat (by omega)]
      refine k _ ⟨fun m hm => ?_, fr_w h2 (by decide)⟩
      by_cases e : m = i
      · rw [e, w_s]
      · rw [w_i e]; exact h1 m (by omega)
  · rintro g' ⟨h1, h2⟩
    refine B_Macros_findValues_2 ⟨fun _ => ?_, fun h => absurd h (by decide)⟩
    exact S_findValues_loop hT hL hG kk L [] (fun _ => none) g' rfl rfl (fun m hm => Or.inl ⟨rfl, h1 m hm⟩) h2
theorem S_macrosIn_val (hT : tX g n c) (hV : vX g n V) {m : Nat} (hm : m < 26) (k : Q (.inl (some (.int (fU (tks c V m) (Int32.ofNat 0)))), g, t)) : am_GQ (51, 0, [(0, .ref 14), (1, .int (g 15 m))], [], g, t) Q := by
  rcases hV m hm with ⟨e1, e2⟩ | ⟨p, e1, e2, e3⟩
  · rw [e2]
    unfold tks at k
    rw [e1] at k
    exact S_macrosIn_neg hT k
  · rw [e3]
    unfold tks at k
    rw [e1] at k
    exact S_macrosIn hT (by omega) k
theorem S_filesIn_val (hT : tX g n c) (hV : vX g n V) {m : Nat} (hm : m < 26) (k : Q (.inl (some (.int (fF (g 17) (tks c V m) (Int32.ofNat 0)))), g, t)) : am_GQ (46, 0, [(0, .ref 14), (1, .int (g 15 m))], [], g, t) Q := by
  rcases hV m hm with ⟨e1, e2⟩ | ⟨p, e1, e2, e3⟩
  · rw [e2]
    unfold tks at k
    rw [e1] at k
    exact S_filesIn_neg hT k
  · rw [e3]
    unfold tks at k
    rw [e1] at k
    exact S_filesIn hT (by omega) k
theorem S_namesIn_val (hT : tX g n c) (hV : vX g n V) {m : Nat} (hm : m < 26) {N : Nat → Nat} (hN : ∀ x ∈ tks c V m, 32 ≤ x → g 18 (x - 32) = Int32.ofNat (N (x - 32)) ∧ N (x - 32) ≤ 65) (k : Q (.inl (some (.int (Int32.ofNat (min (fN N (tks c V m)) 65)))), g, t)) : am_GQ (52, 0, [(0, .ref 14), (1, .int (g 15 m))], [], g, t) Q := by
  unfold tks at k hN
  rcases hV m hm with ⟨e1, e2⟩ | ⟨p, e1, e2, e3⟩
  · rw [e2]
    rw [e1] at k
    exact S_namesIn_neg hT k
  · rw [e3]
    rw [e1] at k hN
    exact S_namesIn hT (by omega) hN k
def wR (v : Nat) (l : Nat → Int32) : Nat → Int32 := fun m => if bt (l m) v = true then l m ||| l v else l m
def wsR : Nat → (Nat → Int32) → Nat → Int32
  | 0, l => l
  | v + 1, l => wR v (wsR v l)
theorem wR_self (v : Nat) (l : Nat → Int32) : wR v l v = l v := by
  unfold wR
  split
  · exact bt_ext (fun k _ => by rw [bt_or, Bool.or_self])
  · rfl
theorem wR_bt (v : Nat) (l : Nat → Int32) (m k : Nat) : bt (wR v l m) k = wB v (fun a b => bt (l a) b) m k := by
  unfold wR wB
  split
  · rename_i h
    dsimp only
    rw [bt_or, h]; rfl
  · rename_i h
    rw [Bool.not_eq_true] at h
    dsimp only
    rw [h, Bool.false_and, Bool.or_false]
theorem wsR_bt : ∀ (v : Nat) (l : Nat → Int32) (m k : Nat), bt (wsR v l m) k = wsB v (fun a b => bt (l a) b) m k
  | 0, _, _, _ => rfl
  | v + 1, l, m, k => by
    rw [wsR, wR_bt, wsB, wB, wB, wsR_bt v l m k, wsR_bt v l m v, wsR_bt v l v k]
theorem S_findLeads (hT : tX g n c) (hV : vX g n V) (kk : ∀ g', (∀ m, m < 26 → g' 16 m = wsR 26 (fun m => fU (tks c V m) (Int32.ofNat 0)) m) → fr [16] g g' → Q (.inl none, g', t)) :
    am_GQ (47, 0, [(0, .ref 14)], [], g, t) Q := by
  let u : Nat → Int32 := fun m => fU (tks c V m) (Int32.ofNat 0)
  have hu : (fun m => fU (tks c V m) (Int32.ofNat 0)) = u := rfl
  refine B_Macros_findLeads_0 (for_up (N := 26) (fun i g' => (47, 2, [(0, .ref 14), (1, .int (Int32.ofNat i))], [], g', t)) (fun i g' => (∀ m, m < i → g' 16 m = u m) ∧ fr [16] g g') ?_ ?_ 0 g (by omega) ⟨fun m hm => by omega, fr_refl _ _⟩)
  · rintro i g' hi ⟨h1, h2⟩ k
    refine B_Macros_findLeads_2 ⟨fun h => ?_, fun _ => am_chk_i (am_in26 hi) ?_⟩
    · rw [nn_le (by omega) (by omega)] at h
      omega
    rw [nn_nat (by omega)]
    refine S_macrosIn_val (tX_fr hT h2 (by decide) (by decide)) (vX_fr hV h2 (by decide)) hi (B_Macros_findLeads_23 (am_chk_i (am_in26 hi) ?_))
    rw [nn_add, nn_nat (by omega)]
    refine k _ ⟨fun m hm => ?_, fr_w h2 (by decide)⟩
    by_cases e : m = i
    · rw [e, w_s]
    · rw [w_i e]; exact h1 m (by omega)
  rintro g1 ⟨h1, h2⟩
  refine B_Macros_findLeads_2 ⟨fun _ => ?_, fun h => absurd h (by decide)⟩
  refine for_up (N := 26) (fun i g' => (47, 32, [(0, .ref 14), (1, .int (Int32.ofNat i))], [], g', t)) (fun i g' => (∀ m, m < 26 → g' 16 m = wsR i u m) ∧ fr [16] g g') ?_ ?_ 0 g1 (by omega) ⟨h1, h2⟩
  · rintro v g2 hv ⟨h3, h4⟩ k
    refine B_Macros_findLeads_32 ⟨fun h => ?_, fun _ => ?_⟩
    · rw [nn_le (by omega) (by omega)] at h
      omega
    refine for_up (N := 26) (fun j g' => (47, 40, [(0, .ref 14), (1, .int (Int32.ofNat v)), (2, .int (Int32.ofNat j))], [], g', t)) (fun j g' => (∀ m, m < 26 → g' 16 m = if m < j then wR v (wsR v u) m else wsR v u m) ∧ fr [16] g g') ?_ ?_ 0 g2 (by omega) ⟨fun m hm => by rw [if_neg (by omega)]; exact h3 m hm, h4⟩
    · rintro j g3 hj ⟨h5, h6⟩ k2
      have next : ∀ g4, (∀ m, m < 26 → g4 16 m = if m < j + 1 then wR v (wsR v u) m else wsR v u m) → fr [16] g g4 → am_GQ (47, 74, [(0, .ref 14), (1, .int (Int32.ofNat v)), (2, .int (Int32.ofNat j))], [], g4, t) Q := by
        intro g4 a b
        refine B_Macros_findLeads_74 ?_
        rw [nn_add]
        exact k2 g4 ⟨a, b⟩
      have ej : g3 16 j = wsR v u j := by rw [h5 j hj, if_neg (Nat.lt_irrefl _)]
      have ev : g3 16 v = wsR v u v := by
        rw [h5 v hv]
        by_cases e : v < j
        · rw [if_pos e]; exact wR_self v _
        · rw [if_neg e]
      refine B_Macros_findLeads_40 ⟨fun h => ?_, fun _ => am_chk_i (am_in26 hj) ?_⟩
      · rw [nn_le (by omega) (by omega)] at h
        omega
      rw [nn_nat (by omega), ej]
      refine S_holds (by omega) (B_Macros_findLeads_56 ⟨fun h => ?_, fun h => am_chk_i (am_in26 hj) (am_chk_i (am_in26 hv) (am_chk_i (am_in26 hj) ?_))⟩)
      · rw [b2i_z] at h
        refine next g3 (fun m hm => ?_) h6
        by_cases e : m = j
        · subst e
          rw [if_pos (by omega), ej]
          unfold wR
          rw [if_neg (by rw [h]; decide)]
        · rw [h5 m hm]
          by_cases e2 : m < j
          · rw [if_pos e2, if_pos (by omega)]
          · rw [if_neg e2, if_neg (by omega)]
      · rw [b2i_nz] at h
        rw [nn_nat (by omega), nn_nat (by omega), ej, ev]
        refine next _ (fun m hm => ?_) (fr_w h6 (by decide))
        by_cases e : m = j
        · subst e
          rw [if_pos (by omega), w_s]
          unfold wR
          rw [if_pos h]
        · rw [w_i e, h5 m hm]
          by_cases e2 : m < j
          · rw [if_pos e2, if_pos (by omega)]
          · rw [if_neg e2, if_neg (by omega)]
    · rintro g3 ⟨h5, h6⟩
      refine B_Macros_findLeads_40 ⟨fun _ => ?_, fun h => absurd h (by decide)⟩
      rw [nn_add]
      refine k g3 ⟨fun m hm => ?_, h6⟩
      rw [h5 m hm, if_pos hm]
      rfl
  · rintro g2 ⟨h3, h4⟩
    exact B_Macros_findLeads_32 ⟨fun _ => kk g2 h3 h4, fun h => absurd h (by decide)⟩
end
