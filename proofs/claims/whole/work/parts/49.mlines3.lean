def fm (ks js : List Nat) (g g' : am_G) : Prop := (∀ k, k ≠ 32 → k ∉ ks → g' k = g k) ∧ ∀ i, i ∉ js → g' 32 i = g 32 i
theorem fm_refl (ks js : List Nat) (g : am_G) : fm ks js g g := ⟨fun _ _ _ => rfl, fun _ _ => rfl⟩
theorem fm_trans {ks js : List Nat} {g g' g'' : am_G} (h : fm ks js g g') (h' : fm ks js g' g'') : fm ks js g g'' := ⟨fun k a b => (h'.1 k a b).trans (h.1 k a b), fun i a => (h'.2 i a).trans (h.2 i a)⟩
theorem fm_w {ks js : List Nat} {g g' : am_G} (h : fm ks js g g') {k i : Nat} {v : Int32} (hk : k ∈ ks) (h32 : k ≠ 32) : fm ks js g (am_w g' k i v) :=
  ⟨fun k' a b => (w_k (fun e => b (by rw [e]; exact hk))).trans (h.1 k' a b), fun j a => (congrFun (w_k (fun e => h32 e.symm)) j).trans (h.2 j a)⟩
theorem fm_f {ks js : List Nat} {g g' : am_G} (h : fm ks js g g') {i : Nat} {v : Int32} (hi : i ∈ js) : fm ks js g (am_w g' 32 i v) :=
  ⟨fun k' a b => (w_k a).trans (h.1 k' a b), fun j a => (w_i (fun e => a (by rw [e]; exact hi))).trans (h.2 j a)⟩
theorem fm_3 {ks js : List Nat} {g g' g'' : am_G} (h : fm ks js g g') (h3 : f3 g' g'') (a : 30 ∈ js) (b : 31 ∈ js) (d : 32 ∈ js) : fm ks js g g'' :=
  ⟨fun k x y => (h3.1 k x).trans (h.1 k x y), fun i x => (h3.2 i (fun e => x (by rw [e]; exact a)) (fun e => x (by rw [e]; exact b)) (fun e => x (by rw [e]; exact d))).trans (h.2 i x)⟩
theorem fm_sub {ks js ks' js' : List Nat} {g g' : am_G} (h : fm ks js g g') (hk : ∀ k ∈ ks, k ∈ ks') (hj : ∀ i ∈ js, i ∈ js') : fm ks' js' g g' :=
  ⟨fun k a b => h.1 k a (fun z => b (hk k z)), fun i a => h.2 i (fun z => a (hj i z))⟩
theorem tM_fm {ks js : List Nat} {g g' : am_G} {n : Nat} {c : Nat → Nat} (h : tM g n c) (hf : fm ks js g g') (h33 : 33 ∉ ks) (h1 : 1 ∉ js) : tM g' n c := by
  obtain ⟨a1, a2, a3, a4, a5⟩ := h
  exact ⟨a1, by rw [hf.2 1 h1]; exact a2, fun i hi => by rw [hf.1 33 (by decide) h33]; exact a3 i hi, a4, a5⟩
def rM (c : Nat → Nat) (g : am_G) (R : List Ru) : Prop := g 32 14 = Int32.ofNat R.length ∧ ∀ i q, R[i]? = some q → g 39 i = Int32.ofNat q.2.1 ∧ g 40 i = Int32.ofNat (pe c 240 q.2.1) ∧ g 41 i = Int32.ofNat (pe c 240 (pe c 240 q.2.1 + 1)) ∧ g 42 i = Int32.ofNat q.1 ∧ g 43 i = b2i q.2.2
def pM (g : am_G) (P : List (Nat × Nat)) : Prop := g 32 16 = Int32.ofNat P.length ∧ ∀ i a b, P[i]? = some (a, b) → g 44 i = Int32.ofNat (4 * a + b) ∧ a < 4 ∧ b < 4
def vM (g : am_G) (n : Nat) (c : Nat → Nat) (V : Nat → Option Nat) : Prop := ∀ m, m < 26 → (V m = none ∧ g 34 m = -1) ∨ ∃ p, V m = some p ∧ g 34 m = Int32.ofNat p ∧ g 35 m = Int32.ofNat (pe c 240 p) ∧ p ≤ pe c 240 p ∧ pe c 240 p < n ∧ c (pe c 240 p) = 10
def z37 (g : am_G) : Prop := ∀ m, m < 26 → g 37 m = Int32.ofNat 0 ∧ g 38 m = Int32.ofNat 0
theorem rM_fm {ks js : List Nat} {g g' : am_G} {c : Nat → Nat} {R : List Ru} (h : rM c g R) (hf : fm ks js g g') (hk : ∀ k ∈ [39, 40, 41, 42, 43], k ∉ ks) (hj : 14 ∉ js) : rM c g' R := by
  refine ⟨by rw [hf.2 14 hj]; exact h.1, fun i q hi => ?_⟩
  rw [hf.1 39 (by decide) (hk 39 (by decide)), hf.1 40 (by decide) (hk 40 (by decide)), hf.1 41 (by decide) (hk 41 (by decide)), hf.1 42 (by decide) (hk 42 (by decide)), hf.1 43 (by decide) (hk 43 (by decide))]
  exact h.2 i q hi
theorem pM_fm {ks js : List Nat} {g g' : am_G} {P : List (Nat × Nat)} (h : pM g P) (hf : fm ks js g g') (hk : 44 ∉ ks) (hj : 16 ∉ js) : pM g' P := by
  refine ⟨by rw [hf.2 16 hj]; exact h.1, fun i a b hi => ?_⟩
  rw [hf.1 44 (by decide) hk]
  exact h.2 i a b hi
theorem vM_fm {ks js : List Nat} {g g' : am_G} {n : Nat} {c : Nat → Nat} {V : Nat → Option Nat} (h : vM g n c V) (hf : fm ks js g g') (hk : 34 ∉ ks) (hj : 35 ∉ ks) : vM g' n c V := by
  intro m hm
  rw [hf.1 34 (by decide) hk, hf.1 35 (by decide) hj]
  exact h m hm
theorem z37_fm {ks js : List Nat} {g g' : am_G} (h : z37 g) (hf : fm ks js g g') (hk : 37 ∉ ks) (hj : 38 ∉ ks) : z37 g' := by
  intro m hm
  rw [hf.1 37 (by decide) hk, hf.1 38 (by decide) hj]
  exact h m hm
theorem fm_of3 {g g' : am_G} (h : f3 g g') : fm [] [30, 31, 32] g g' := fm_3 (fm_refl _ _ _) h (by decide) (by decide) (by decide)
theorem z37_nX {g : am_G} (h : z37 g) : nX g (fun _ => 0) := fun m hm => ⟨(h m hm).1, Nat.zero_le 65⟩
theorem at_end {α : Type} {B : List α} {x q : α} {i : Nat} (h : (B ++ [x])[i]? = some q) : (i = B.length ∧ q = x) ∨ (i < B.length ∧ B[i]? = some q) := by
  by_cases e : i = B.length
  · subst e
    rw [List.getElem?_append_right (Nat.le_refl _), Nat.sub_self] at h
    cases h
    exact Or.inl ⟨rfl, rfl⟩
  · by_cases e2 : i < B.length
    · rw [List.getElem?_append_left e2] at h
      exact Or.inr ⟨e2, h⟩
    · rw [List.getElem?_append_right (by omega), List.getElem?_eq_none (by simp only [List.length_cons, List.length_nil]; omega)] at h
      cases h
theorem rM_has {c : Nat → Nat} {g : am_G} {B0 : List Ru} {l s : Nat} (h : rM c g (B0 ++ [(l, s, false)])) : rM c (am_w g 43 B0.length (Int32.ofNat 1)) (B0 ++ [(l, s, true)]) := by
  obtain ⟨h1, h2⟩ := h
  have el : (B0 ++ [(l, s, false)] : List Ru).length = (B0 ++ [(l, s, true)] : List Ru).length := by simp
  refine ⟨by rw [w_k (by decide), h1, el], fun i q hi => ?_⟩
  rw [w_k (show (39 : Nat) ≠ 43 by decide), w_k (show (40 : Nat) ≠ 43 by decide), w_k (show (41 : Nat) ≠ 43 by decide), w_k (show (42 : Nat) ≠ 43 by decide)]
  rcases at_end hi with ⟨e, e2⟩ | ⟨e, e2⟩
  · subst e e2
    have := h2 B0.length (l, s, false) (by rw [List.getElem?_append_right (Nat.le_refl _), Nat.sub_self]; rfl)
    exact ⟨this.1, this.2.1, this.2.2.1, this.2.2.2.1, w_s⟩
  · rw [w_i (by omega)]
    exact h2 i q (by rw [List.getElem?_append_left e]; exact e2)
theorem rM_add {c : Nat → Nat} {g : am_G} {B : List Ru} {l s q e : Nat} (h : rM c g B) (hq : q = pe c 240 s) (he : e = pe c 240 (q + 1)) :
    rM c (am_w (am_w (am_w (am_w (am_w (am_w g 39 B.length (Int32.ofNat s)) 40 B.length (Int32.ofNat q)) 41 B.length (Int32.ofNat e)) 42 B.length (Int32.ofNat l)) 43 B.length (Int32.ofNat 0)) 32 14 (Int32.ofNat (B.length + 1))) (B ++ [(l, s, false)]) := by
  obtain ⟨h1, h2⟩ := h
  refine ⟨by rw [w_s, List.length_append]; rfl, fun i r hi => ?_⟩
  rw [w_k (show (39 : Nat) ≠ 32 by decide), w_k (show (40 : Nat) ≠ 32 by decide), w_k (show (41 : Nat) ≠ 32 by decide), w_k (show (42 : Nat) ≠ 32 by decide), w_k (show (43 : Nat) ≠ 32 by decide)]
  rw [w_k (show (39 : Nat) ≠ 43 by decide), w_k (show (40 : Nat) ≠ 43 by decide), w_k (show (41 : Nat) ≠ 43 by decide), w_k (show (42 : Nat) ≠ 43 by decide)]
  rw [w_k (show (39 : Nat) ≠ 42 by decide), w_k (show (40 : Nat) ≠ 42 by decide), w_k (show (41 : Nat) ≠ 42 by decide)]
  rw [w_k (show (39 : Nat) ≠ 41 by decide), w_k (show (40 : Nat) ≠ 41 by decide)]
  rw [w_k (show (39 : Nat) ≠ 40 by decide)]
  rcases at_end hi with ⟨e0, e2⟩ | ⟨e0, e2⟩
  · subst e0 e2 hq he
    exact ⟨w_s, w_s, w_s, w_s, w_s⟩
  · have e1 : i ≠ B.length := by omega
    rw [w_i e1, w_i e1, w_i e1, w_i e1, w_i e1]
    rw [w_k (show (40 : Nat) ≠ 39 by decide), w_k (show (41 : Nat) ≠ 40 by decide), w_k (show (41 : Nat) ≠ 39 by decide), w_k (show (42 : Nat) ≠ 41 by decide), w_k (show (42 : Nat) ≠ 40 by decide), w_k (show (42 : Nat) ≠ 39 by decide), w_k (show (43 : Nat) ≠ 42 by decide), w_k (show (43 : Nat) ≠ 41 by decide), w_k (show (43 : Nat) ≠ 40 by decide), w_k (show (43 : Nat) ≠ 39 by decide)]
    exact h2 i r e2
theorem pM_add {g : am_G} {P : List (Nat × Nat)} {a b : Nat} (h : pM g P) (ha : a < 4) (hb : b < 4) : pM (am_w (am_w g 44 P.length (Int32.ofNat (4 * a + b))) 32 16 (Int32.ofNat (P.length + 1))) (P ++ [(a, b)]) := by
  refine ⟨by rw [w_s, List.length_append]; rfl, fun i a' b' hi => ?_⟩
  rw [w_k (show (44 : Nat) ≠ 32 by decide)]
  rcases at_end hi with ⟨e0, e2⟩ | ⟨e0, e2⟩
  · subst e0
    cases e2
    exact ⟨w_s, ha, hb⟩
  · rw [w_i (by omega)]
    exact h.2 i a' b' e2
theorem vM_set {g : am_G} {n : Nat} {c : Nat → Nat} {V : Nat → Option Nat} {a p e : Nat} (h : vM g n c V) (h1 : pe c 240 p = e) (h2 : e < n) (h3 : c e = 10) : vM (am_w (am_w g 34 a (Int32.ofNat p)) 35 a (Int32.ofNat e)) n c (fun m => if m = a then some p else V m) := by
  intro m hm
  rw [w_k (show (34 : Nat) ≠ 35 by decide)]
  by_cases e0 : m = a
  · subst e0
    refine Or.inr ⟨p, if_pos rfl, w_s, by rw [w_s, h1], pe_ge c 240 p, ?_, ?_⟩
    · rw [h1]; exact h2
    · rw [h1]; exact h3
  · rw [w_i e0, w_i e0, w_k (show (35 : Nat) ≠ 34 by decide)]
    dsimp only
    rw [if_neg e0]
    exact h m hm
abbrev LK : List Nat := [34, 35, 37, 38, 39, 40, 41, 42, 43, 44]
abbrev LJ : List Nat := [14, 16, 30, 31, 32]
def relB (B : List Ru) (b j : Nat) (rest : List (Nat × Nat)) (U : List Ru) : Prop := (b ≠ 3 ∧ B ++ rul j rest = U) ∨ (b = 3 ∧ ∃ B0 l s, B = B0 ++ [(l, s, false)] ∧ B0 ++ (l, s, decide (nk rest = 5)) :: rul j rest = U)
theorem relB_nil {B U : List Ru} {b j : Nat} (h : relB B b j [] U) : B = U := by
  rcases h with ⟨_, h⟩ | ⟨_, B0, l, s, h1, h2⟩
  · rw [rul, List.append_nil] at h
    exact h
  · rw [h1]
    exact h2
theorem relB_no {B U : List Ru} {b j s k : Nat} {r : List (Nat × Nat)} (h : relB B b j ((s, k) :: r) U) (h5 : k ≠ 5 ∨ b ≠ 3) : B ++ rul j ((s, k) :: r) = U := by
  rcases h with ⟨_, h⟩ | ⟨h3, B0, l, s', h1, h2⟩
  · exact h
  · have hd : decide (nk ((s, k) :: r) = 5) = false := decide_eq_false (show ¬ k = 5 from h5.resolve_right (fun z => z h3))
    rw [hd] at h2
    rw [h1, List.append_assoc]
    exact h2
theorem relB_yes {B U : List Ru} {j s : Nat} {r : List (Nat × Nat)} (h : relB B 3 j ((s, 5) :: r) U) : ∃ B0 l s', B = B0 ++ [(l, s', false)] ∧ (B0 ++ [(l, s', true)]) ++ rul j ((s, 5) :: r) = U := by
  rcases h with ⟨h3, _⟩ | ⟨_, B0, l, s', h1, h2⟩
  · exact absurd rfl h3
  · exact ⟨B0, l, s', h1, by rw [List.append_assoc]; exact h2⟩
theorem kd_five {c : Nat → Nat} {s e : Nat} (h : kd c s e = 5) : c s = 9 := by
  apply Classical.byContradiction
  intro hn
  unfold kd at h
  rw [if_neg hn] at h
  split at h
  · omega
  · split at h
    · omega
    · split at h
      · omega
      · split at h <;> omega
theorem cl_pe {c : Nat → Nat} {s e : Nat} (hs : s ≤ e) (h : isRul c s e) : cl c (e - s) s = pe c 240 s := by
  obtain ⟨a1, a2, a3, a4⟩ := cl_prop c (e - s) s
  obtain ⟨y1, y2, y3⟩ := h
  have hge := pe_ge c 240 s
  have hge2 := pe_ge c 240 (pe c 240 s + 1)
  rcases Nat.lt_trichotomy (pe c 240 s) (cl c (e - s) s) with w | w | w
  · exact absurd y1 (a4 _ hge w)
  · exact w.symm
  · exact absurd (a3 (by omega)) (pe_ch c 240 s _ a1 w).1
theorem pe_two {c : Nat → Nat} {s : Nat} (h : sp c (pe c 240 s - s) s = false) : s + 2 ≤ pe c 240 s := by
  have e : pe c 240 s = if pt c s = 0 then s else pe c 239 (s + pt c s) := rfl
  have hl := pt_le c s
  have hg := pe_ge c 239 (s + pt c s)
  by_cases h0 : pt c s = 0
  · rw [if_pos h0] at e
    rw [e, Nat.sub_self] at h
    cases h
  · rw [if_neg h0] at e
    apply Classical.byContradiction
    intro hn
    have h1 : pe c 240 s = s + 1 := by omega
    have h32 : c s = 32 := by
      apply Classical.byContradiction
      intro hc
      have : pt c s = 2 := by
        unfold pt at h0 ⊢
        rw [if_neg hc] at h0 ⊢
        split at h0
        · rename_i hx; rw [if_pos hx]
        · omega
      omega
    rw [h1, Nat.add_sub_cancel_left, sp, if_pos h32] at h
    cases h
section
variable {t : Nat} {Q : am_R → Prop} {n : Nat} {c : Nat → Nat}
theorem lines_fin {g : am_G} {s j b F : Nat} {B U : List Ru} {P PP : List (Nat × Nat)} {V W : Nat → Option Nat} (hT : tM g n c) (hs : n ≤ s) (hs2 : s ≤ 240) (hj : j ≤ s) (hb : b < 6) (hz : z37 g) (hR : rM c g B) (hR4 : 4 * B.length ≤ s) (hP : pM g P) (hV : vM g n c V) (rB : relB B b j (ls c (n - s) s s) U) (rP : P ++ ptl c (ls c (n - s) s s) = PP) (rV : mv c V (ls c (n - s) s s) = W) (rF : fb b j (ls c (n - s) s s) = F)
    (kk : (F = 0 → U.length ≤ 60 ∧ rM c g U ∧ pM g PP ∧ vM g n c W ∧ z37 g) → Q (.inl (some (.int (Int32.ofNat F))), g, t)) :
    am_GQ (102, 59, [(0, .ref 32), (1, .int (Int32.ofNat s)), (2, .int (Int32.ofNat j)), (3, .int (Int32.ofNat b)), (4, .int (Int32.ofNat j))], [], g, t) Q := by
  have hn := hT.1
  rw [ls_end c hs] at rB rP rV rF
  rw [ptl, List.append_nil] at rP
  rw [mv] at rV
  rw [fb] at rF
  have k2 := kk (fun _ => ⟨by rw [← relB_nil rB]; omega, by rw [← relB_nil rB]; exact hR, by rw [← rP]; exact hP, by rw [← rV]; exact hV, hz⟩)
  have e : am_GQ (102, 358, [(0, .ref 32), (1, .int (Int32.ofNat s)), (2, .int (Int32.ofNat j)), (3, .int (Int32.ofNat b))], [], g, t) Q := by
    refine B_M_lines_358 ?_
    rw [nn_eq (by omega) (by omega)]
    refine ⟨fun h => ?_, fun h => ?_⟩
    · rw [if_neg h] at rF
      rw [← rF] at k2
      exact k2
    · rw [if_pos h] at rF
      rw [← rF] at k2
      exact k2
  refine B_M_lines_59 ⟨fun _ => e, fun _ => ⟨fun _ => e, fun h => ?_⟩⟩
  rw [hT.2.1, nn_lt (by omega) (by omega)] at h
  omega
theorem S_lines59 {g0 : am_G} (hT0 : tM g0 n c) {F : Nat} {U : List Ru} {PP : List (Nat × Nat)} {W : Nat → Option Nat}
    (kk : ∀ g', fm LK LJ g0 g' → (F = 0 → U.length ≤ 60 ∧ rM c g' U ∧ pM g' PP ∧ vM g' n c W ∧ z37 g') → Q (.inl (some (.int (Int32.ofNat F))), g', t)) :
    ∀ (f s j b : Nat) (B : List Ru) (P : List (Nat × Nat)) (V : Nat → Option Nat) (g : am_G), n - s ≤ f → s ≤ n → j ≤ s → b < 6 → fm LK LJ g0 g → z37 g → rM c g B → 4 * B.length ≤ s → pM g P → 8 * P.length ≤ s + (if b = 4 then 2 else 0) → vM g n c V → relB B b j (ls c (n - s) s s) U → P ++ ptl c (ls c (n - s) s s) = PP → mv c V (ls c (n - s) s s) = W → fb b j (ls c (n - s) s s) = F →
      am_GQ (102, 59, [(0, .ref 32), (1, .int (Int32.ofNat s)), (2, .int (Int32.ofNat j)), (3, .int (Int32.ofNat b)), (4, .int (Int32.ofNat j))], [], g, t) Q := by
  have hn := hT0.1
  have h128 := hT0.2.2.2.1
  intro f
  induction f with
  | zero =>
    intro s j b B P V g h1 h2 h3 hb hf hz hR hR4 hP hP8 hV rB rP rV rF
    exact lines_fin (tM_fm hT0 hf (by decide) (by decide)) (by omega) (by omega) h3 hb hz hR hR4 hP hV rB rP rV rF (kk g hf)
  | succ f ih =>
    intro s j b B P V g h1 h2 h3 hb hf hz hR hR4 hP hP8 hV rB rP rV rF
    have hT := tM_fm hT0 hf (by decide) (by decide)
    by_cases hs : s < n
    rotate_left
    · exact lines_fin hT (by omega) (by omega) h3 hb hz hR hR4 hP hV rB rP rV rF (kk g hf)
    obtain ⟨a1, a2, a3, a4⟩ := nlE_ok c (n - s) s
    refine B_M_lines_59 ⟨fun h => ?_, fun _ => ⟨fun h => ?_, fun _ => S_lines78 hT (n - s) s (by omega) (B_M_lines_105 ?_)⟩⟩
    · rw [nn_le (by omega) (by omega)] at h
      omega
    · rw [hT.2.1, nn_le (by omega) (by omega)] at h
      omega
    by_cases he : nlE c (n - s) s < n
    rotate_left
    · rw [ls_open hs he] at rF
      have e : nlE c (n - s) s = n := by omega
      rw [e, hT.2.1, nn_add]
      refine ⟨fun h => absurd rfl h, fun _ => B_M_lines_128 ⟨fun _ => ?_, fun h => absurd rfl h⟩⟩
      rw [fb, if_pos (Or.inl rfl)] at rF
      have := kk g hf (fun z => by omega)
      rw [← rF] at this
      exact this
    rw [ls_line hs he] at rB rP rV rF
    have hce := a3 (by omega)
    generalize hE : nlE c (n - s) s = e at *
    have hk6 := kd_lt c s e
    have hne : ¬ Int32.ofNat e = g 32 1 := by
      rw [hT.2.1, nn_eq (by omega) (by omega)]
      omega
    refine ⟨fun _ => S_M_kind hT (z37_nX hz) (by omega) he hce (fun g1 hf1 => B_M_lines_128 ?_), fun h => absurd h hne⟩
    rw [nn_add]
    have hf3 := fm_of3 hf1
    have hf' : fm LK LJ g0 g1 := fm_3 hf hf1 (by decide) (by decide) (by decide)
    have hz1 : z37 g1 := z37_fm hz hf3 (by decide) (by decide)
    have hR1 : rM c g1 B := rM_fm hR hf3 (by decide) (by decide)
    have hP1 : pM g1 P := pM_fm hP hf3 (by decide) (by decide)
    have hV1 : vM g1 n c V := vM_fm hV hf3 (by decide) (by decide)
    generalize hK : kd c s e = k at *
    have h5e : k = 5 → s < e := by
      intro h5
      have := kd_five (hK.trans h5)
      apply Classical.byContradiction
      intro z
      have : s = e := by omega
      subst this
      omega
    have bad : (k = 0 ∨ (b = 4 ∧ k ≠ 5) ∨ (k = 5 ∧ b < 3)) → Q (.inl (some (.int (Int32.ofNat (j + 1)))), g1, t) := by
      intro hb0
      rw [fb, if_pos hb0] at rF
      have := kk g1 hf' (fun z => by omega)
      rw [← rF] at this
      exact this
    have go344 : ¬ (k = 0 ∨ (b = 4 ∧ k ≠ 5) ∨ (k = 5 ∧ b < 3)) → ∀ (g5 : am_G) (B5 : List Ru) (P5 : List (Nat × Nat)) (V5 : Nat → Option Nat), fm LK LJ g0 g5 → z37 g5 → rM c g5 B5 → 4 * B5.length ≤ e + 1 → pM g5 P5 → 8 * P5.length ≤ e + 1 + (if k = 4 then 2 else 0) → vM g5 n c V5 → relB B5 k (j + 1) (ls c (n - (e + 1)) (e + 1) (e + 1)) U → P5 ++ ptl c (ls c (n - (e + 1)) (e + 1) (e + 1)) = PP → mv c V5 (ls c (n - (e + 1)) (e + 1) (e + 1)) = W →
        am_GQ (102, 344, [(0, .ref 32), (1, .int (Int32.ofNat s)), (2, .int (Int32.ofNat (j + 1))), (3, .int (Int32.ofNat b)), (4, .int (Int32.ofNat j)), (5, .int (Int32.ofNat e)), (6, .int (Int32.ofNat k))], [], g5, t) Q := by
      intro hnb g5 B5 P5 V5 y1 y2 y3 y4 y5 y6 y7 y8 y9 y10
      rw [fb, if_neg hnb] at rF
      refine B_M_lines_344 ?_
      rw [nn_add, nn_add]
      exact ih (e + 1) (j + 1) k B5 P5 V5 g5 (by omega) (by omega) (by omega) hk6 y1 y2 y3 y4 y5 y6 y7 y8 y9 y10 rF
    have go294 : ¬ (k = 0 ∨ (b = 4 ∧ k ≠ 5) ∨ (k = 5 ∧ b < 3)) → ∀ (g4 : am_G) (B4 : List Ru) (V4 : Nat → Option Nat), fm LK LJ g0 g4 → z37 g4 → rM c g4 B4 → 4 * B4.length ≤ e + 1 → pM g4 P → vM g4 n c V4 → relB B4 k (j + 1) (ls c (n - (e + 1)) (e + 1) (e + 1)) U → mv c V4 (ls c (n - (e + 1)) (e + 1) (e + 1)) = W →
        am_GQ (102, 294, [(0, .ref 32), (1, .int (Int32.ofNat s)), (2, .int (Int32.ofNat (j + 1))), (3, .int (Int32.ofNat b)), (4, .int (Int32.ofNat j)), (5, .int (Int32.ofNat e)), (6, .int (Int32.ofNat k))], [], g4, t) Q := by
      intro hnb g4 B4 V4 y1 y2 y3 y4 y5 y6 y7 y8
      have hT4 := tM_fm hT0 y1 (by decide) (by decide)
      refine B_M_lines_294 ?_
      rw [nn_eq (by omega) (by omega)]
      refine ⟨fun h => ?_, fun h => ?_⟩
      · have hroom : 8 * P.length ≤ e + 1 := by
          by_cases h4 : b = 4
          · rw [if_pos h4] at hP8
            have := h5e (by omega)
            omega
          · rw [if_neg h4] at hP8
            omega
        rw [ptl, if_neg h] at rP
        exact go344 hnb g4 B4 P V4 y1 y2 y3 y4 y5 (by rw [if_neg h]; exact hroom) y6 y7 rP y8
      · subst h
        obtain ⟨u1, ⟨u2, u3⟩, u4, ⟨u5, u6⟩⟩ := kd_pat hK
        rw [if_neg (show ¬ b = 4 by omega)] at hP8
        rw [ptl, if_pos rfl] at rP
        rw [w_k (show (32 : Nat) ≠ 44 by decide), y5.1]
        simp only [nn_add]
        rw [nn_nat (n := s + 1) (by omega), nn_nat (n := s + 4) (by omega), nn_nat (n := P.length) (by omega), hT4.2.2.1 (s + 1) (by omega), hT4.2.2.1 (s + 4) (by omega), nn_sub (by omega), nn_mul, nn_add, nn_sub (by omega)]
        rw [show 4 * (c (s + 1) - 48) + c (s + 4) - 48 = 4 * (c (s + 1) - 48) + (c (s + 4) - 48) by omega]
        have hfs : fm [44] [16] g4 (am_w (am_w g4 44 P.length (Int32.ofNat (4 * (c (s + 1) - 48) + (c (s + 4) - 48)))) 32 16 (Int32.ofNat (P.length + 1))) := fm_f (fm_w (fm_refl _ _ _) (by decide) (by decide)) (by decide)
        refine am_chk_i (am_in240 (by omega)) (am_chk_i (am_in240 (by omega)) (am_chk_i (am_in32 (by omega)) (go344 hnb _ B4 (P ++ [(c (s + 1) - 48, c (s + 4) - 48)]) V4 (fm_trans y1 (fm_sub hfs (by decide) (by decide))) (z37_fm y2 hfs (by decide) (by decide)) (rM_fm y3 hfs (by decide) (by decide)) y4 (pM_add y5 (by omega) (by omega)) ?_ (vM_fm y6 hfs (by decide) (by decide)) y7 ?_ y8)))
        · rw [List.length_append, if_pos rfl]
          simp only [List.length_cons, List.length_nil]
          omega
        · rw [List.append_assoc]
          exact rP
    have go221 : ¬ (k = 0 ∨ (b = 4 ∧ k ≠ 5) ∨ (k = 5 ∧ b < 3)) → ∀ (g3 : am_G) (B3 : List Ru) (V3 : Nat → Option Nat), fm LK LJ g0 g3 → z37 g3 → rM c g3 B3 → B3.length = B.length → B3 ++ rul j ((s, k) :: ls c (n - (e + 1)) (e + 1) (e + 1)) = U → pM g3 P → vM g3 n c V3 → mv c V3 (ls c (n - (e + 1)) (e + 1) (e + 1)) = W →
        am_GQ (102, 221, [(0, .ref 32), (1, .int (Int32.ofNat s)), (2, .int (Int32.ofNat (j + 1))), (3, .int (Int32.ofNat b)), (4, .int (Int32.ofNat j)), (5, .int (Int32.ofNat e)), (6, .int (Int32.ofNat k))], [], g3, t) Q := by
      intro hnb g3 B3 V3 y1 y2 y3 y4 y5 y6 y7 y8
      have hT3 := tM_fm hT0 y1 (by decide) (by decide)
      refine B_M_lines_221 ?_
      rw [nn_eq (by omega) (by omega)]
      refine ⟨fun h => ?_, fun h => ?_⟩
      · rw [rul, if_neg h] at y5
        exact go294 hnb g3 B3 V3 y1 y2 y3 (by omega) y6 y7 (Or.inl ⟨h, y5⟩) y8
      · subst h
        have hr := kd_rul hK
        have hcl := cl_pe (by omega) hr
        obtain ⟨u1, u2, u3⟩ := hr
        have hp2 := pe_two u2
        have hpe := pe_ge c 240 (pe c 240 s + 1)
        have hin : am_in (Int32.ofNat B3.length) 64 = true := nn_in (by omega) (by omega)
        rw [rul, if_pos rfl] at y5
        rw [y3.1, w_k (show (32 : Nat) ≠ 39 by decide), y3.1, nn_nat (by omega)]
        have hf39 : fm [39] [] g3 (am_w g3 39 B3.length (Int32.ofNat s)) := fm_w (fm_refl _ _ _) (by decide) (by decide)
        refine am_chk_i hin (S_colon (tM_fm hT3 hf39 (by decide) (by decide)) (by omega) (by omega) (B_M_lines_252 ?_))
        rw [hcl]
        simp only [w_k (show (32 : Nat) ≠ 40 by decide), w_k (show (32 : Nat) ≠ 41 by decide), w_k (show (32 : Nat) ≠ 42 by decide), w_k (show (32 : Nat) ≠ 43 by decide), w_k (show (32 : Nat) ≠ 39 by decide), y3.1, nn_add]
        rw [nn_nat (n := B3.length) (by omega)]
        have hfs : fm [39, 40, 41, 42, 43] [14] g3 (am_w (am_w (am_w (am_w (am_w (am_w g3 39 B3.length (Int32.ofNat s)) 40 B3.length (Int32.ofNat (pe c 240 s))) 41 B3.length (Int32.ofNat e)) 42 B3.length (Int32.ofNat (j + 1))) 43 B3.length (Int32.ofNat 0)) 32 14 (Int32.ofNat (B3.length + 1))) := fm_f (fm_w (fm_w (fm_w (fm_w (fm_w (fm_refl _ _ _) (by decide) (by decide)) (by decide) (by decide)) (by decide) (by decide)) (by decide) (by decide)) (by decide) (by decide)) (by decide)
        refine am_chk_i hin (am_chk_i hin (am_chk_i hin (am_chk_i (by rw [hin]; rfl) (go294 hnb _ (B3 ++ [(j + 1, s, false)]) V3 (fm_trans y1 (fm_sub hfs (by decide) (by decide))) (z37_fm y2 hfs (by decide) (by decide)) (rM_add y3 rfl u3.symm) ?_ (pM_fm y6 hfs (by decide) (by decide)) (vM_fm y7 hfs (by decide) (by decide)) (Or.inr ⟨rfl, B3, j + 1, s, rfl, y5⟩) y8))))
        rw [List.length_append]
        simp only [List.length_cons, List.length_nil]
        omega
    have go182 : ¬ (k = 0 ∨ (b = 4 ∧ k ≠ 5) ∨ (k = 5 ∧ b < 3)) → ∀ (g2 : am_G) (B2 : List Ru), fm LK LJ g0 g2 → z37 g2 → rM c g2 B2 → B2.length = B.length → B2 ++ rul j ((s, k) :: ls c (n - (e + 1)) (e + 1) (e + 1)) = U → pM g2 P → vM g2 n c V →
        am_GQ (102, 182, [(0, .ref 32), (1, .int (Int32.ofNat s)), (2, .int (Int32.ofNat (j + 1))), (3, .int (Int32.ofNat b)), (4, .int (Int32.ofNat j)), (5, .int (Int32.ofNat e)), (6, .int (Int32.ofNat k))], [], g2, t) Q := by
      intro hnb g2 B2 y1 y2 y3 y4 y5 y6 y7
      have hT2 := tM_fm hT0 y1 (by decide) (by decide)
      refine B_M_lines_182 ?_
      rw [nn_eq (by omega) (by omega)]
      refine ⟨fun h => ?_, fun h => ?_⟩
      · rw [mv, if_neg h] at rV
        exact go221 hnb g2 B2 V y1 y2 y3 y4 y5 y6 y7 rV
      · subst h
        obtain ⟨⟨m1, m2, m3⟩, m4⟩ := kd_mac hK
        rw [mv, if_pos rfl] at rV
        rw [w_k (show (33 : Nat) ≠ 34 by decide), nn_nat (by omega), hT2.2.2.1 s hs, nn_sub (by omega), nn_nat (by omega), nn_add]
        have hfs : fm [34, 35] [] g2 (am_w (am_w g2 34 (c s - 65) (Int32.ofNat (s + 2))) 35 (c s - 65) (Int32.ofNat e)) := fm_w (fm_w (fm_refl _ _ _) (by decide) (by decide)) (by decide) (by decide)
        exact am_chk_i (am_in240 (by omega)) (am_chk_i (am_in26 (by omega)) (am_chk_i (am_in240 (by omega)) (am_chk_i (am_in26 (by omega)) (go221 hnb _ B2 _ (fm_trans y1 (fm_sub hfs (by decide) (by decide))) (z37_fm y2 hfs (by decide) (by decide)) (rM_fm y3 hfs (by decide) (by decide)) y4 y5 (pM_fm y6 hfs (by decide) (by decide)) (vM_set y7 m4 he hce) rV))))
    have go159 : ¬ (k = 0 ∨ (b = 4 ∧ k ≠ 5) ∨ (k = 5 ∧ b < 3)) → am_GQ (102, 159, [(0, .ref 32), (1, .int (Int32.ofNat s)), (2, .int (Int32.ofNat (j + 1))), (3, .int (Int32.ofNat b)), (4, .int (Int32.ofNat j)), (5, .int (Int32.ofNat e)), (6, .int (Int32.ofNat k))], [], g1, t) Q := by
      intro hnb
      refine B_M_lines_159 ?_
      rw [nn_eq (by omega) (by omega), nn_eq (by omega) (by omega)]
      refine ⟨fun h => ?_, fun h => ⟨fun h3 => ?_, fun h3 => ?_⟩⟩
      · exact go182 hnb g1 B hf' hz1 hR1 rfl (relB_no rB (Or.inl h)) hP1 hV1
      · exact go182 hnb g1 B hf' hz1 hR1 rfl (relB_no rB (Or.inr h3)) hP1 hV1
      · subst h
        subst h3
        obtain ⟨B0, l, s', e1, e2⟩ := relB_yes rB
        subst e1
        have hl : (B0 ++ [(l, s', false)] : List Ru).length = B0.length + 1 := by simp
        have hl2 : (B0 ++ [(l, s', true)] : List Ru).length = (B0 ++ [(l, s', false)] : List Ru).length := by simp
        rw [hl] at hR4
        rw [hR1.1, hl, nn_sub (by omega), Nat.add_sub_cancel, nn_nat (by omega)]
        have hfs : fm [43] [] g1 (am_w g1 43 B0.length (Int32.ofNat 1)) := fm_w (fm_refl _ _ _) (by decide) (by decide)
        exact am_chk_i (by rw [nn_in (by omega) (by omega)]; rfl) (go182 hnb _ (B0 ++ [(l, s', true)]) (fm_trans hf' (fm_sub hfs (by decide) (by decide))) (z37_fm hz1 hfs (by decide) (by decide)) (rM_has hR1) hl2 e2 (pM_fm hP1 hfs (by decide) (by decide)) (vM_fm hV1 hfs (by decide) (by decide)))
    have go146 : ¬ k = 0 ∧ ¬ (b = 4 ∧ k ≠ 5) → am_GQ (102, 146, [(0, .ref 32), (1, .int (Int32.ofNat s)), (2, .int (Int32.ofNat (j + 1))), (3, .int (Int32.ofNat b)), (4, .int (Int32.ofNat j)), (5, .int (Int32.ofNat e)), (6, .int (Int32.ofNat k))], [], g1, t) Q := by
      intro hnb
      refine B_M_lines_146 ?_
      rw [nn_eq (by omega) (by omega), nn_le (by omega) (by omega), nn_lt (by omega) (by omega)]
      exact ⟨fun h => go159 (by omega), fun h => ⟨fun h3 => go159 (by omega), fun h3 => bad (by omega)⟩⟩
    rw [nn_eq (by omega) (by omega), nn_eq (by omega) (by omega), nn_eq (by omega) (by omega)]
    exact ⟨fun h => bad (Or.inl h), fun h => ⟨fun h4 => go146 (by omega), fun h4 => ⟨fun h5 => bad (by omega), fun h5 => go146 (by omega)⟩⟩⟩
theorem S_M_lines {g : am_G} (hT : tM g n c) (kk : ∀ g', fm LK LJ g g' → (rdF1 c n = 0 → (rdU c n).length ≤ 60 ∧ rM c g' (rdU c n) ∧ pM g' (ptl c (rdL c n)) ∧ vM g' n c (mv c (fun _ => none) (rdL c n)) ∧ z37 g') → Q (.inl (some (.int (Int32.ofNat (rdF1 c n)))), g', t)) : am_GQ (102, 0, [(0, .ref 32)], [], g, t) Q := by
  refine B_M_lines_0 (S_lines19 (g0 := am_w (am_w g 32 14 (Int32.ofNat 0)) 32 16 (Int32.ofNat 0)) (fun g1 f1 f2 => ?_) 26 0 _ rfl (fun _ _ _ _ => rfl) (fun m hm => absurd hm (Nat.not_lt_zero _)))
  have e32 : g1 32 = am_w (am_w g 32 14 (Int32.ofNat 0)) 32 16 (Int32.ofNat 0) 32 := f1 32 (by decide) (by decide) (by decide)
  have hfm : fm LK LJ g g1 := by
    refine ⟨fun k hk h => ?_, fun i hi => ?_⟩
    · rw [f1 k (fun e => h (by rw [e]; decide)) (fun e => h (by rw [e]; decide)) (fun e => h (by rw [e]; decide)), w_k hk, w_k hk]
    · rw [e32, w_i (fun e => hi (by rw [e]; decide)), w_i (fun e => hi (by rw [e]; decide))]
  refine S_lines59 hT kk n 0 0 0 [] [] (fun _ => none) g1 (by omega) (Nat.zero_le _) (Nat.le_refl _) (by omega) hfm (fun m hm => ⟨(f2 m hm).2.1, (f2 m hm).2.2⟩) ⟨?_, fun i q h => by cases h⟩ (Nat.zero_le _) ⟨?_, fun i a b h => by cases h⟩ (Nat.zero_le _) (fun m hm => Or.inl ⟨rfl, (f2 m hm).1⟩) (Or.inl ⟨by decide, rfl⟩) rfl rfl rfl
  · show g1 32 14 = Int32.ofNat 0
    rw [e32, w_i (by decide), w_s]
  · show g1 32 16 = Int32.ofNat 0
    rw [e32, w_s]
end
