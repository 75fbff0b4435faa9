def mkB (x : Nat → Bool) : Nat → Nat → Int32 → Int32
  | 0, _, a => a
  | f + 1, i, a => mkB x f (i + 1) (if x i = true then a ||| mb i else a)
theorem mkB_bt (x : Nat → Bool) (k : Nat) (hk : k < 32) : ∀ (f i : Nat) (a : Int32), i + f ≤ 32 → (bt (mkB x f i a) k = true ↔ bt a k = true ∨ (i ≤ k ∧ k < i + f ∧ x k = true))
  | 0, i, a, _ => by
    rw [mkB]
    constructor
    · exact Or.inl
    · rintro (h | ⟨h1, h2, _⟩)
      · exact h
      · omega
  | f + 1, i, a, hi => by
    rw [mkB, mkB_bt x k hk f (i + 1) _ (by omega)]
    have e : bt (if x i = true then a ||| mb i else a) k = true ↔ bt a k = true ∨ (x i = true ∧ k = i) := by
      by_cases h : x i = true
      · rw [if_pos h, bt_or, mb_bt (by omega) hk, Bool.or_eq_true, decide_eq_true_eq]
        exact ⟨fun z => z.imp id (fun z => ⟨h, z⟩), fun z => z.imp id And.right⟩
      · rw [if_neg h]
        exact ⟨Or.inl, fun z => z.elim id (fun z => absurd z.1 h)⟩
    rw [e]
    constructor
    · rintro ((h | ⟨h1, h2⟩) | ⟨h1, h2, h3⟩)
      · exact Or.inl h
      · subst h2
        exact Or.inr ⟨Nat.le_refl _, by omega, h1⟩
      · exact Or.inr ⟨by omega, by omega, h3⟩
    · rintro (h | ⟨h1, h2, h3⟩)
      · exact Or.inl (Or.inl h)
      · by_cases e : k = i
        · subst e
          exact Or.inl (Or.inr ⟨h3, rfl⟩)
        · exact Or.inr ⟨by omega, by omega, h3⟩
def mkI (x : Nat → Bool) : Int32 := mkB x 32 0 (Int32.ofNat 0)
theorem mkI_bt {x : Nat → Bool} {k : Nat} (hk : k < 32) : bt (mkI x) k = x k := by
  have h := mkB_bt x k hk 32 0 (Int32.ofNat 0) (Nat.le_refl _)
  rw [bt_zero] at h
  unfold mkI
  cases hx : x k with
  | true => exact h.mpr (Or.inr ⟨Nat.zero_le _, by omega, hx⟩)
  | false =>
    cases hb : bt (mkB x 32 0 (Int32.ofNat 0)) k with
    | false => rfl
    | true =>
      rcases h.mp hb with z | ⟨_, _, z⟩
      · cases z
      · rw [hx] at z
        cases z
theorem mkI_eq {x : Nat → Bool} {a : Int32} (h : ∀ k, k < 32 → (bt a k = true ↔ x k = true)) : a = mkI x := by
  refine bt_ext (fun k hk => ?_)
  rw [mkI_bt hk]
  cases hx : x k with
  | true => exact (h k hk).mpr hx
  | false =>
    cases hb : bt a k with
    | false => rfl
    | true =>
      rw [(h k hk).mp hb] at hx
      cases hx
theorem div4 : ∀ n, n < 32 → Int32.ofNat n / Int32.ofNat 4 = Int32.ofNat (n / 4) := by decide +kernel
theorem mod4 : ∀ n, n < 32 → Int32.ofNat n - Int32.ofNat (n / 4) * Int32.ofNat 4 = Int32.ofNat (n % 4) := by decide +kernel
abbrev fitP (A : Int32) (n : Nat) (q : Nat × Nat) : Prop := q.1 = n % 4 ∧ bt A (n / 4 * 4 + q.2) = true
def ffit (A : Int32) (n : Nat) : List (Nat × Nat) → Option Nat
  | [] => none
  | q :: r => if fitP A n q then some (n / 4 * 4 + q.2) else ffit A n r
def fidx (A : Int32) (n : Nat) : Nat → List (Nat × Nat) → Option Nat
  | _, [] => none
  | i, q :: r => if fitP A n q then some i else fidx A n (i + 1) r
theorem ffit_iff (A : Int32) (n : Nat) : ∀ (P : List (Nat × Nat)), (ffit A n P).isSome = true ↔ ∃ q, q ∈ P ∧ fitP A n q
  | [] => by
    rw [ffit]
    constructor
    · intro h
      cases h
    · rintro ⟨q, h, _⟩
      cases h
  | q :: r => by
    rw [ffit]
    by_cases h : fitP A n q
    · rw [if_pos h]
      exact ⟨fun _ => ⟨q, List.mem_cons_self, h⟩, fun _ => rfl⟩
    · rw [if_neg h, ffit_iff A n r]
      constructor
      · rintro ⟨p, h1, h2⟩
        exact ⟨p, List.mem_cons_of_mem _ h1, h2⟩
      · rintro ⟨p, h1, h2⟩
        rcases List.mem_cons.mp h1 with e | h1
        · rw [e] at h2
          exact absurd h2 h
        · exact ⟨p, h1, h2⟩
theorem fidx_some (A : Int32) (n : Nat) : ∀ (P : List (Nat × Nat)) (i p : Nat), fidx A n i P = some p → i ≤ p ∧ ∃ q, P[p - i]? = some q ∧ ffit A n P = some (n / 4 * 4 + q.2)
  | [], i, p, h => by cases h
  | q :: r, i, p, h => by
    rw [fidx] at h
    rw [ffit]
    by_cases e : fitP A n q
    · rw [if_pos e] at h
      cases h
      rw [if_pos e, Nat.sub_self]
      exact ⟨Nat.le_refl _, q, rfl, rfl⟩
    · rw [if_neg e] at h
      obtain ⟨h1, q', h2, h3⟩ := fidx_some A n r (i + 1) p h
      rw [if_neg e]
      refine ⟨by omega, q', ?_, h3⟩
      rw [show p - i = (p - (i + 1)) + 1 by omega]
      exact h2
theorem fidx_none (A : Int32) (n : Nat) : ∀ (P : List (Nat × Nat)) (i : Nat), fidx A n i P = none → ffit A n P = none
  | [], i, h => rfl
  | q :: r, i, h => by
    rw [fidx] at h
    rw [ffit]
    by_cases e : fitP A n q
    · rw [if_pos e] at h
      cases h
    · rw [if_neg e] at h
      rw [if_neg e]
      exact fidx_none A n r (i + 1) h
theorem ffit_lt {A : Int32} {n s : Nat} (hn : n < 32) : ∀ {P : List (Nat × Nat)}, (∀ q ∈ P, q.2 < 4) → ffit A n P = some s → s < 32
  | [], _, h => by cases h
  | q :: r, hP, h => by
    rw [ffit] at h
    by_cases e : fitP A n q
    · rw [if_pos e] at h
      cases h
      have := hP q List.mem_cons_self
      omega
    · rw [if_neg e] at h
      exact ffit_lt hn (fun p hp => hP p (List.mem_cons_of_mem _ hp)) h
theorem drop_g {α : Type} {U : List α} {i : Nat} {q : α} (h : U[i]? = some q) : U.drop i = q :: U.drop (i + 1) := by
  obtain ⟨hi, e⟩ := List.getElem?_eq_some_iff.mp h
  rw [List.drop_eq_getElem_cons hi, e]
theorem get_g {α : Type} {U : List α} {i : Nat} (h : i < U.length) : ∃ q, U[i]? = some q := ⟨U[i], List.getElem?_eq_getElem h⟩
theorem pX_2 {g : am_G} {P : List (Nat × Nat)} (h : pX g P) : ∀ q ∈ P, q.2 < 4 := by
  intro q hq
  obtain ⟨i, hi, e⟩ := List.mem_iff_getElem.mp hq
  exact (h.2.2 i q.1 q.2 (by rw [List.getElem?_eq_getElem hi, e])).2.2.2
theorem pN_2 {g : am_G} {P : List (Nat × Nat)} (h : pN g P) : ∀ q ∈ P, q.2 < 4 := by
  intro q hq
  obtain ⟨i, hi, e⟩ := List.mem_iff_getElem.mp hq
  exact (h.2.2 i q.1 q.2 (by rw [List.getElem?_eq_getElem hi, e])).2.2
theorem four_ne : decide (¬ Int32.ofNat 4 = Int32.ofNat 0) = true := by decide
section
variable {g : am_G} {t : Nat} {Q : am_R → Prop} {P : List (Nat × Nat)}
theorem S_patternSource7 (hP : pX g P) {n : Nat} (hn : n < 32) {A : Int32} : ∀ (f i : Nat), i + f = P.length → Q (.inl (some (.int (wv (ffit A n (P.drop i))))), g, t) → am_GQ (70, 7, [(0, .ref 20), (1, .int (Int32.ofNat n)), (2, .int A), (3, .int (Int32.ofNat (n % 4))), (4, .int (Int32.ofNat i))], [], g, t) Q
  | 0, i, he, k => by
    have hl := hP.1
    rw [List.drop_eq_nil_of_le (by omega)] at k
    refine B_Rules_patternSource_7 ?_
    rw [hP.2.1, nn_le (by omega) (by omega), nn_lt (by omega) (by omega)]
    exact ⟨fun _ => k, fun h => absurd h (by omega)⟩
  | f + 1, i, he, k => by
    have hl := hP.1
    obtain ⟨⟨a, b⟩, hq⟩ := get_g (U := P) (i := i) (by omega)
    obtain ⟨p1, p2, p3, p4⟩ := hP.2.2 i a b hq
    have hin : am_in (Int32.ofNat i) 30 = true := nn_in (by omega) (by omega)
    rw [drop_g hq, ffit] at k
    refine B_Rules_patternSource_7 ?_
    rw [hP.2.1, nn_le (by omega) (by omega), nn_lt (by omega) (by omega), nn_nat (by omega), p1, p2, nn_eq (by omega) (by omega), nn_sub (by omega), nn_add]
    have e4 : n - n % 4 + b = n / 4 * 4 + b := by omega
    rw [e4]
    have next : ¬ fitP A n (a, b) → am_GQ (70, 52, [(0, .ref 20), (1, .int (Int32.ofNat n)), (2, .int A), (3, .int (Int32.ofNat (n % 4))), (4, .int (Int32.ofNat i))], [], g, t) Q := by
      intro hno
      rw [if_neg hno] at k
      refine B_Rules_patternSource_52 ?_
      rw [nn_add]
      exact S_patternSource7 hP hn f (i + 1) (by omega) k
    refine ⟨fun h => absurd h (by omega), fun _ => am_chk_i hin (am_chk_i hin ⟨fun h => next (fun z => h z.1), fun h => S_holds (by omega) (B_Rules_patternSource_46 ⟨fun h2 => ?_, fun h2 => ?_⟩)⟩)⟩
    · rw [b2i_z] at h2
      exact next (fun z => absurd (h2.symm.trans z.2) (by decide))
    · rw [b2i_nz] at h2
      rw [if_pos (show fitP A n (a, b) from ⟨h, h2⟩)] at k
      exact k
theorem S_patternSource (hP : pX g P) {n : Nat} (hn : n < 32) {A : Int32} (k : Q (.inl (some (.int (wv (ffit A n P)))), g, t)) : am_GQ (70, 0, [(0, .ref 20), (1, .int (Int32.ofNat n)), (2, .int A)], [], g, t) Q := by
  refine B_Rules_patternSource_0 (am_chk_i four_ne ?_)
  rw [div4 n hn, mod4 n hn]
  exact S_patternSource7 hP hn P.length 0 (by omega) k
theorem S_M_first2 (hP : pN g P) {n : Nat} (hn : n < 32) {A : Int32} (hA : g 32 22 = A) : ∀ (f i : Nat), i + f = P.length → Q (.inl (some (.int (wv (fidx A n i (P.drop i))))), g, t) → am_GQ (97, 2, [(0, .ref 32), (1, .int (Int32.ofNat n)), (2, .int (Int32.ofNat i))], [], g, t) Q
  | 0, i, he, k => by
    have hl := hP.1
    rw [List.drop_eq_nil_of_le (by omega)] at k
    refine B_M_first_2 ?_
    rw [hP.2.1, nn_le (by omega) (by omega), nn_lt (by omega) (by omega)]
    exact ⟨fun _ => k, fun h => absurd h (by omega)⟩
  | f + 1, i, he, k => by
    have hl := hP.1
    obtain ⟨⟨a, b⟩, hq⟩ := get_g (U := P) (i := i) (by omega)
    obtain ⟨p1, p3, p4⟩ := hP.2.2 i a b hq
    have hin : am_in (Int32.ofNat i) 32 = true := nn_in (by omega) (by omega)
    rw [drop_g hq, fidx] at k
    refine B_M_first_2 ?_
    have ea : (4 * a + b) / 4 = a := by omega
    have eb : (4 * a + b) % 4 = b := by omega
    rw [hP.2.1, hA, nn_le (by omega) (by omega), nn_lt (by omega) (by omega), nn_nat (by omega), p1, div4 (4 * a + b) (by omega), div4 n hn, mod4 n hn, mod4 (4 * a + b) (by omega), ea, eb, nn_eq (m := a) (n := n % 4) (by omega) (by omega), nn_mul, nn_add]
    have next : ¬ fitP A n (a, b) → am_GQ (97, 50, [(0, .ref 32), (1, .int (Int32.ofNat n)), (2, .int (Int32.ofNat i))], [], g, t) Q := by
      intro hno
      rw [if_neg hno] at k
      refine B_M_first_50 ?_
      rw [nn_add]
      exact S_M_first2 hP hn hA f (i + 1) (by omega) k
    refine ⟨fun h => absurd h (by omega), fun _ => am_chk_i hin (am_chk_i four_ne (am_chk_i four_ne ⟨fun h => next (fun z => h z.1), fun h => am_chk_i four_ne (am_chk_i hin (am_chk_i four_ne (S_M_has (by omega) (B_M_first_45 ⟨fun h2 => ?_, fun h2 => ?_⟩))))⟩))⟩
    · rw [b2i_z] at h2
      exact next (fun z => absurd (h2.symm.trans z.2) (by decide))
    · rw [b2i_nz] at h2
      rw [if_pos (show fitP A n (a, b) from ⟨h, h2⟩)] at k
      exact k
theorem S_M_first (hP : pN g P) {n : Nat} (hn : n < 32) {A : Int32} (hA : g 32 22 = A) (k : Q (.inl (some (.int (wv (fidx A n 0 P)))), g, t)) : am_GQ (97, 0, [(0, .ref 32), (1, .int (Int32.ofNat n))], [], g, t) Q :=
  B_M_first_0 (S_M_first2 hP hn hA P.length 0 (by omega) k)
end
def uP (P : List (Nat × Nat)) : Rl := fun j a => P.any (fun q => decide (q.1 = j) && decide (q.2 = a))
theorem uP_iff {P : List (Nat × Nat)} {j a : Nat} : uP P j a = true ↔ (j, a) ∈ P := by
  unfold uP
  rw [List.any_eq_true]
  constructor
  · rintro ⟨q, h1, h2⟩
    rw [Bool.and_eq_true, decide_eq_true_eq, decide_eq_true_eq] at h2
    rw [← h2.1, ← h2.2]
    exact h1
  · intro h
    exact ⟨(j, a), h, by rw [Bool.and_eq_true, decide_eq_true_eq, decide_eq_true_eq]; exact ⟨rfl, rfl⟩⟩
def cP (P : List (Nat × Nat)) (A0 : Int32) (r n : Nat) : Bool := pG (fun j => bt A0 (n / 4 * 4 + j)) (uP P) 4 r (n % 4)
def aI (P : List (Nat × Nat)) (A0 A : Int32) (r m : Nat) : Prop := (∀ n, n < 32 → bt A n = true → cP P A0 4 n = true) ∧ (∀ n, n < 32 → bt A0 n = true → bt A n = true) ∧ ∀ n, n < 32 → cP P A0 (if n < m then r + 1 else r) n = true → bt A n = true
theorem self4 (n : Nat) : n / 4 * 4 + n % 4 = n := by omega
theorem aI_start (P : List (Nat × Nat)) (A0 : Int32) : aI P A0 A0 0 0 := by
  refine ⟨fun n hn h => pG_fix (Nat.le_refl _) (by omega) (Or.inl ?_), fun n _ h => h, fun n hn h => ?_⟩
  · rw [self4]
    exact h
  · rw [if_neg (Nat.not_lt_zero n)] at h
    exact absurd (show false = true from h) (by decide)
theorem aI_round {P : List (Nat × Nat)} {A0 A : Int32} {r : Nat} (h : aI P A0 A r 32) : aI P A0 A (r + 1) 0 := by
  obtain ⟨h1, h2, h3⟩ := h
  refine ⟨h1, h2, fun n hn h => h3 n hn ?_⟩
  rw [if_neg (Nat.not_lt_zero n)] at h
  rw [if_pos hn]
  exact h
theorem aI_end {P : List (Nat × Nat)} {A0 A : Int32} {r : Nat} (h : aI P A0 A (r + 4) 0) : A = mkI (cP P A0 4) := by
  obtain ⟨h1, h2, h3⟩ := h
  refine mkI_eq (fun n hn => ⟨h1 n hn, fun hc => h3 n hn ?_⟩)
  rw [if_neg (Nat.not_lt_zero n), Nat.add_comm]
  exact pG_le hc r
theorem aI_step {P : List (Nat × Nat)} {A0 A : Int32} {r m : Nat} (h : aI P A0 A r m) (hm : m < 32) (hP : ∀ q ∈ P, q.2 < 4) : aI P A0 (if (ffit A m P).isSome = true then A ||| mb m else A) r (m + 1) := by
  obtain ⟨h1, h2, h3⟩ := h
  have hb : ∀ n, n < 32 → (bt (if (ffit A m P).isSome = true then A ||| mb m else A) n = true ↔ bt A n = true ∨ (n = m ∧ (ffit A m P).isSome = true)) := by
    intro n hn
    by_cases e : (ffit A m P).isSome = true
    · rw [if_pos e, bt_or, mb_bt hm hn, Bool.or_eq_true, decide_eq_true_eq]
      exact ⟨fun z => z.imp id (fun z => ⟨z, e⟩), fun z => z.imp id And.left⟩
    · rw [if_neg e]
      exact ⟨Or.inl, fun z => z.elim id (fun z => absurd z.2 e)⟩
  refine ⟨fun n hn hx => ?_, fun n hn hx => (hb n hn).mpr (Or.inl (h2 n hn hx)), fun n hn hx => (hb n hn).mpr ?_⟩
  · rcases (hb n hn).mp hx with hx | ⟨e, hx⟩
    · exact h1 n hn hx
    · subst e
      obtain ⟨q, q1, q2, q3⟩ := (ffit_iff A n P).mp hx
      have q4 := hP q q1
      have := h1 (n / 4 * 4 + q.2) (by omega) q3
      unfold cP at this
      rw [show (n / 4 * 4 + q.2) / 4 = n / 4 by omega, show (n / 4 * 4 + q.2) % 4 = q.2 by omega] at this
      exact pG_fix (Nat.le_refl _) (by omega) (Or.inr ⟨q.2, q4, uP_iff.mpr (by rw [← q2]; exact q1), this⟩)
  · by_cases e : n = m
    · subst e
      rw [if_pos (by omega)] at hx
      rcases pG_step hx with hx | ⟨a, a1, a2, a3⟩
      · refine Or.inl (h2 n hn ?_)
        rw [self4] at hx
        exact hx
      · refine Or.inr ⟨rfl, (ffit_iff A n P).mpr ⟨(n % 4, a), uP_iff.mp a2, rfl, h3 (n / 4 * 4 + a) (by omega) ?_⟩⟩
        unfold cP
        rw [show (n / 4 * 4 + a) / 4 = n / 4 by omega, show (n / 4 * 4 + a) % 4 = a by omega]
        by_cases e2 : n / 4 * 4 + a < n
        · rw [if_pos e2]
          exact pG_up a3
        · rw [if_neg e2]
          exact a3
    · refine Or.inl (h3 n hn ?_)
      by_cases e2 : n < m
      · rw [if_pos e2]
        rw [if_pos (by omega)] at hx
        exact hx
      · rw [if_neg e2]
        rw [if_neg (by omega)] at hx
        exact hx
