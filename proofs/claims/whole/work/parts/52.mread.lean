theorem anyB_iff (a : Int32) (R : Nat → Int32) : ∀ (f m : Nat), anyB a R f m = true ↔ ∃ i, m ≤ i ∧ i < m + f ∧ bt a i = true ∧ bt (R i) i = true
  | 0, m => by
    rw [anyB]
    constructor
    · intro h
      cases h
    · rintro ⟨i, h1, h2, _⟩
      omega
  | f + 1, m => by
    rw [anyB]
    by_cases h : bt a m = true ∧ bt (R m) m = true
    · rw [if_pos h]
      exact ⟨fun _ => ⟨m, Nat.le_refl _, by omega, h⟩, fun _ => rfl⟩
    · rw [if_neg h, anyB_iff a R f (m + 1)]
      constructor
      · rintro ⟨i, h1, h2, h3⟩
        exact ⟨i, by omega, by omega, h3⟩
      · rintro ⟨i, h1, h2, h3⟩
        by_cases e : i = m
        · subst e
          exact absurd h3 h
        · exact ⟨i, by omega, by omega, h3⟩
theorem ring_iff {tt : Nat → List Nat} (ht : ∀ m x, x ∈ tt m → x < 58) {u : Int32} {R : Nat → Int32} (hR : ∀ m, m < 26 → R m = lR tt m) (hu : ∀ k, bt u k = true → k < 26) : ringB u R = true ↔ ¬ ∀ m, bt u m = true → gd tt m := by
  unfold ringB
  rw [anyB_iff]
  constructor
  · rintro ⟨i, _, h2, h3, h4⟩ hall
    rw [hR i (by omega)] at h4
    rcases (orB_bt u R i 26 0 u).mp h3 with h | ⟨a, _, ha, h5, h6⟩
    · rw [gd_self (hall i h)] at h4
      cases h4
    · rw [hR a (by omega)] at h6
      rw [hall a h5 i h6] at h4
      cases h4
  · intro hno
    apply Classical.byContradiction
    intro hn
    refine hno (fun m hm k hk => ?_)
    cases hb : bt (lR tt k) k with
    | false => rfl
    | true =>
      have hk26 := lR_lt ht m k hk
      have hm26 := hu m hm
      refine absurd ⟨k, Nat.zero_le _, by omega, (orB_bt u R k 26 0 u).mpr (Or.inr ⟨m, Nat.zero_le _, by omega, hm, ?_⟩), ?_⟩ hn
      · rw [hR m hm26]
        exact hk
      · rw [hR k hk26]
        exact hb
theorem ring_loop {tt : Nat → List Nat} (ht : ∀ m x, x ∈ tt m → x < 58) {c : Nat → Nat} {q : Ru} {R : Nat → Int32} (hR : ∀ m, m < 26 → R m = lR tt m) : ringB (fU (tT c q) (Int32.ofNat 0) ||| fU (tS c q) (Int32.ofNat 0)) R = pLoop c tt q := by
  have h1 : ∀ x ∈ tT c q, x < 58 := tk_lt c _ _
  have h2 : ∀ x ∈ tS c q, x < 58 := tk_lt c _ _
  have hb : ∀ k, bt (fU (tT c q) (Int32.ofNat 0) ||| fU (tS c q) (Int32.ofNat 0)) k = true ↔ k < 32 ∧ (32 + k ∈ tT c q ∨ 32 + k ∈ tS c q) := by
    intro k
    by_cases hk : k < 32
    · rw [bt_or, Bool.or_eq_true, fU_bt _ _ k h1 hk, fU_bt _ _ k h2 hk, bt_zero]
      constructor
      · rintro ((h | h) | (h | h))
        · cases h
        · exact ⟨hk, Or.inl h⟩
        · cases h
        · exact ⟨hk, Or.inr h⟩
      · rintro ⟨_, h | h⟩
        · exact Or.inl (Or.inr h)
        · exact Or.inr (Or.inr h)
    · rw [bt_hi _ (by omega)]
      constructor
      · intro h
        cases h
      · rintro ⟨h, _⟩
        omega
  have hu : ∀ k, bt (fU (tT c q) (Int32.ofNat 0) ||| fU (tS c q) (Int32.ofNat 0)) k = true → k < 26 := by
    intro k hk
    rcases ((hb k).mp hk).2 with h | h
    · have := h1 _ h
      omega
    · have := h2 _ h
      omega
  have key : (∀ m, bt (fU (tT c q) (Int32.ofNat 0) ||| fU (tS c q) (Int32.ofNat 0)) m = true → gd tt m) ↔ (gLb tt (tT c q) && gLb tt (tS c q)) = true := by
    rw [Bool.and_eq_true, gLb_iff ht, gLb_iff ht]
    constructor
    · intro h
      refine ⟨fun x hx h32 => h _ ((hb _).mpr ⟨?_, Or.inl ?_⟩), fun x hx h32 => h _ ((hb _).mpr ⟨?_, Or.inr ?_⟩)⟩
      · have := h1 x hx
        omega
      · rw [show 32 + (x - 32) = x by omega]
        exact hx
      · have := h2 x hx
        omega
      · rw [show 32 + (x - 32) = x by omega]
        exact hx
    · rintro ⟨a, b⟩ m hm
      rcases ((hb m).mp hm).2 with h | h
      · have := a _ h (by omega)
        rw [show 32 + m - 32 = m by omega] at this
        exact this
      · have := b _ h (by omega)
        rw [show 32 + m - 32 = m by omega] at this
        exact this
  unfold pLoop
  cases hz : gLb tt (tT c q) && gLb tt (tS c q) with
  | true =>
    cases hr : ringB (fU (tT c q) (Int32.ofNat 0) ||| fU (tS c q) (Int32.ofNat 0)) R with
    | false => rfl
    | true => exact absurd (key.mpr hz) ((ring_iff ht hR hu).mp hr)
  | false =>
    refine (ring_iff ht hR hu).mpr (fun h => ?_)
    rw [key.mp h] at hz
    cases hz
theorem rul_mem : ∀ (l : List (Nat × Nat)) (line : Nat) (q : Ru), q ∈ rul line l → (q.2.1, 3) ∈ l
  | [], _, q, h => by cases h
  | (s, k) :: r, line, q, h => by
    rw [rul] at h
    by_cases e : k = 3
    · rw [if_pos e] at h
      rcases List.mem_cons.mp h with e2 | h
      · rw [e2, e]
        exact List.mem_cons_self
      · exact List.mem_cons_of_mem _ (rul_mem r (line + 1) q h)
    · rw [if_neg e] at h
      exact List.mem_cons_of_mem _ (rul_mem r (line + 1) q h)
theorem rdU_ok {c : Nat → Nat} {n : Nat} {q : Ru} (h : q ∈ rdU c n) : q.2.1 ≤ pe c 240 q.2.1 ∧ c (pe c 240 q.2.1) = 58 ∧ pe c 240 q.2.1 + 1 ≤ pe c 240 (pe c 240 q.2.1 + 1) ∧ pe c 240 (pe c 240 q.2.1 + 1) < n ∧ c (pe c 240 (pe c 240 q.2.1 + 1)) = 10 := by
  have hG : lG c n (rdL c n) := ls_good c n n 0 0 (Nat.le_refl _) (by omega) (fun j a b => by omega)
  rcases hG _ _ (rul_mem _ _ q h) with h0 | ⟨e, a1, a2, a3, a4, a5⟩
  · omega
  · obtain ⟨u1, u2, u3⟩ := kd_rul a5.symm
    exact ⟨pe_ge c 240 _, u1, pe_ge c 240 _, by rw [u3]; exact a2, by rw [u3]; exact a3⟩
theorem rdU_no {c : Nat → Nat} {n : Nat} {q : Ru} (h : q ∈ rdU c n) : q.1 ≠ 0 := by
  have := rul_no _ _ q h
  omega
def RMX (c : Nat → Nat) (n : Nat) (g : am_G) : Prop := tM g n c ∧ rM c g (rdU c n) ∧ pM g (ptl c (rdL c n)) ∧ (∀ m, m < 26 → g 36 m = lR (rdT c n) m) ∧ (∃ N, nX g N) ∧ ∀ m, m < 26 → gd (rdT c n) m → g 37 m = Int32.ofNat (vN (rdT c n) 26 m) ∧ g 38 m = vF (rdT c n) 26 m
theorem RMX_fm {ks js : List Nat} {c : Nat → Nat} {n : Nat} {g g' : am_G} (h : RMX c n g) (hf : fm ks js g g') (hk : ∀ k ∈ [33, 36, 37, 38, 39, 40, 41, 42, 43, 44], k ∉ ks) (hj : ∀ i ∈ [1, 14, 16], i ∉ js) : RMX c n g' := by
  obtain ⟨h1, h2, h3, h4, ⟨N, h5⟩, h6⟩ := h
  refine ⟨tM_fm h1 hf (hk 33 (by decide)) (hj 1 (by decide)), rM_fm h2 hf (fun k h => hk k ?_) (hj 14 (by decide)), pM_fm h3 hf (hk 44 (by decide)) (hj 16 (by decide)), fun m hm => ?_, ⟨N, fun m hm => ?_⟩, fun m hm hd => ?_⟩
  · revert k
    decide
  · rw [hf.1 36 (by decide) (hk 36 (by decide))]
    exact h4 m hm
  · rw [hf.1 37 (by decide) (hk 37 (by decide))]
    exact h5 m hm
  · rw [hf.1 37 (by decide) (hk 37 (by decide)), hf.1 38 (by decide) (hk 38 (by decide))]
    exact h6 m hm hd
theorem rdT_lt (c : Nat → Nat) (n : Nat) : ∀ m x, x ∈ rdT c n m → x < 58 := tks_lt c _
theorem fN_ok {c : Nat → Nat} {n : Nat} {g : am_G} (h : RMX c n g) {N : Nat → Nat} (hN : nX g N) {l : List Nat} (hl : ∀ x ∈ l, x < 58) (hg : gLb (rdT c n) l = true) : fN N l = fN (vN (rdT c n) 26) l := by
  refine fN_congr _ (fun x hx h32 => ?_)
  have h58 := hl x hx
  have a1 := (h.2.2.2.2.2 (x - 32) (by omega) ((gLb_iff (rdT_lt c n) l).mp hg x hx h32)).1
  obtain ⟨a2, a3⟩ := hN (x - 32) (by omega)
  have a4 := vN_le (tt := rdT c n) 26 (x - 32)
  rw [a2, nn_eq (by omega) (by omega)] at a1
  exact a1
theorem fF_ok {c : Nat → Nat} {n : Nat} {g : am_G} (h : RMX c n g) {l : List Nat} (hl : ∀ x ∈ l, x < 58) (hg : gLb (rdT c n) l = true) (a : Int32) : fF (g 38) l a = fF (vF (rdT c n) 26) l a := by
  refine fF_congr _ _ (fun x hx h32 => ?_)
  have h58 := hl x hx
  exact (h.2.2.2.2.2 (x - 32) (by omega) ((gLb_iff (rdT_lt c n) l).mp hg x hx h32)).2
section
variable {t : Nat} {Q : am_R → Prop} {n : Nat} {c : Nat → Nat}
theorem S_segT {g : am_G} (h : RMX c n g) {i : Nat} {q : Ru} (hq : (rdU c n)[i]? = some q)
    (kk : ∀ g' N, fm [] MJ g g' → RMX c n g' → nX g' N → g' 32 30 = Int32.ofNat (min (fN N (tT c q)) 65) → g' 32 31 = fF (g' 38) (tT c q) (Int32.ofNat 0) → g' 32 32 = fU (tT c q) (Int32.ofNat 0) → Q (.inl (some (.int (Int32.ofNat 1))), g', t)) :
    am_GQ (111, 0, [(0, .ref 32), (1, .int (g 39 i)), (2, .int (g 40 i))], [], g, t) Q := by
  obtain ⟨u1, u2, u3, u4, u5⟩ := rdU_ok (List.mem_of_getElem? hq)
  obtain ⟨r1, r2, r3, r4, r5⟩ := h.2.1.2 i q hq
  obtain ⟨N, hN⟩ := h.2.2.2.2.1
  rw [r1, r2]
  refine S_segment h.1 hN (by omega) u1 (Or.inl u2) (fun g1 hf1 hg1 => ?_)
  obtain ⟨s1, s2, s3⟩ := hg1 rfl
  have hf := fm_of3 hf1
  have hX := RMX_fm h hf (by decide) (by decide)
  have := kk g1 N hf hX (nX_f3 hN hf1) s1 (by rw [hf1.1 38 (by decide)]; exact s2) s3
  rw [show b2i (decide (pe c 240 q.2.1 = pe c 240 q.2.1)) = Int32.ofNat 1 from b2i_t rfl]
  exact this
theorem S_segS {g : am_G} (h : RMX c n g) {i : Nat} {q : Ru} (hq : (rdU c n)[i]? = some q)
    (kk : ∀ g' N, fm [] MJ g g' → RMX c n g' → nX g' N → g' 32 30 = Int32.ofNat (min (fN N (tS c q)) 65) → g' 32 31 = fF (g' 38) (tS c q) (Int32.ofNat 0) → g' 32 32 = fU (tS c q) (Int32.ofNat 0) → Q (.inl (some (.int (Int32.ofNat 1))), g', t)) :
    am_GQ (111, 0, [(0, .ref 32), (1, .int (g 40 i + Int32.ofNat 1)), (2, .int (g 41 i))], [], g, t) Q := by
  obtain ⟨u1, u2, u3, u4, u5⟩ := rdU_ok (List.mem_of_getElem? hq)
  obtain ⟨r1, r2, r3, r4, r5⟩ := h.2.1.2 i q hq
  obtain ⟨N, hN⟩ := h.2.2.2.2.1
  rw [r2, r3, nn_add]
  refine S_segment h.1 hN (by omega) u3 (Or.inr u5) (fun g1 hf1 hg1 => ?_)
  obtain ⟨s1, s2, s3⟩ := hg1 rfl
  have hf := fm_of3 hf1
  have hX := RMX_fm h hf (by decide) (by decide)
  have := kk g1 N hf hX (nX_f3 hN hf1) s1 (by rw [hf1.1 38 (by decide)]; exact s2) s3
  rw [show b2i (decide (pe c 240 (pe c 240 q.2.1 + 1) = pe c 240 (pe c 240 q.2.1 + 1))) = Int32.ofNat 1 from b2i_t rfl]
  exact this
end
theorem drop_u {U : List Ru} {i : Nat} {q : Ru} (h : U[i]? = some q) : U.drop i = q :: U.drop (i + 1) := by
  obtain ⟨hi, e⟩ := List.getElem?_eq_some_iff.mp h
  rw [List.drop_eq_getElem_cons hi, e]
theorem get_u {U : List Ru} {i : Nat} (h : i < U.length) : ∃ q, U[i]? = some q := ⟨U[i], List.getElem?_eq_getElem h⟩
