def anyP (p : Nat → Bool) : Nat → Nat → Bool
  | 0, _ => false
  | f + 1, i => if p i = true then true else anyP p f (i + 1)
theorem anyP_iff (p : Nat → Bool) : ∀ (f i : Nat), anyP p f i = true ↔ ∃ j, i ≤ j ∧ j < i + f ∧ p j = true
  | 0, i => by
    rw [anyP]
    constructor
    · intro h
      cases h
    · rintro ⟨j, h1, h2, _⟩
      omega
  | f + 1, i => by
    rw [anyP]
    by_cases h : p i = true
    · rw [if_pos h]
      exact ⟨fun _ => ⟨i, Nat.le_refl _, by omega, h⟩, fun _ => rfl⟩
    · rw [if_neg h, anyP_iff p f (i + 1)]
      constructor
      · rintro ⟨j, h1, h2, h3⟩
        exact ⟨j, by omega, by omega, h3⟩
      · rintro ⟨j, h1, h2, h3⟩
        by_cases e : j = i
        · subst e
          exact absurd h3 h
        · exact ⟨j, by omega, by omega, h3⟩
theorem anyP_congr {p p' : Nat → Bool} : ∀ (f i : Nat), (∀ j, i ≤ j → j < i + f → p j = p' j) → anyP p f i = anyP p' f i
  | 0, _, _ => rfl
  | f + 1, i, h => by rw [anyP, anyP, h i (Nat.le_refl _) (by omega), anyP_congr f (i + 1) (fun j h1 h2 => h j (by omega) (by omega))]
section
variable (set H : Int32) (S St : Nat → Int32)
def cdS (n : Nat) : Bool := bt set n && bt H n
def nwS (n : Nat) : Bool := anyP (fun k => bt (S n) k && decide (St n < St k)) 32 0
def bS (n : Nat) : Bool := cdS set H n && (decide (St n = Int32.ofNat 0) || nwS S St n)
def uS : Rl := fun n a => cdS set H n && bt (S n) a
def stS (r n : Nat) : Bool := pG (bS set H S St) (uS set H S) 32 r n
def XS : Int32 := mkI (stS set H S St 32)
def rsn (X : Int32) (n : Nat) : Int32 := if bt H n = true then (if St n = Int32.ofNat 0 then Int32.ofNat 1 else if S n &&& X = Int32.ofNat 0 then (if nwS S St n = true then Int32.ofNat 3 else Int32.ofNat 0) else Int32.ofNat 2) else Int32.ofNat 0
end
theorem and_nz {x y : Int32} : ¬ x &&& y = Int32.ofNat 0 ↔ ∃ k, k < 32 ∧ bt x k = true ∧ bt y k = true := by
  rw [and_z]
  constructor
  · intro h
    apply Classical.byContradiction
    intro hn
    refine h (fun k hk hx => ?_)
    cases hy : bt y k with
    | false => rfl
    | true => exact absurd ⟨k, hk, hx, hy⟩ hn
  · rintro ⟨k, hk, h1, h2⟩ h
    rw [h k hk h1] at h2
    cases h2
theorem rsn_nz {H : Int32} {S St : Nat → Int32} {X : Int32} {n : Nat} : ¬ rsn H S St X n = Int32.ofNat 0 ↔ bt H n = true ∧ (St n = Int32.ofNat 0 ∨ nwS S St n = true ∨ ∃ k, k < 32 ∧ bt (S n) k = true ∧ bt X k = true) := by
  unfold rsn
  rw [← and_nz]
  by_cases h1 : bt H n = true
  · rw [if_pos h1]
    by_cases h2 : St n = Int32.ofNat 0
    · rw [if_pos h2]
      exact ⟨fun _ => ⟨h1, Or.inl h2⟩, fun _ => by decide⟩
    · rw [if_neg h2]
      by_cases h3 : S n &&& X = Int32.ofNat 0
      · rw [if_pos h3]
        by_cases h4 : nwS S St n = true
        · rw [if_pos h4]
          exact ⟨fun _ => ⟨h1, Or.inr (Or.inl h4)⟩, fun _ => by decide⟩
        · rw [if_neg h4]
          exact ⟨fun z => absurd rfl z, fun z => z.2.elim (fun y => absurd y h2) (fun y => y.elim (fun y => absurd y h4) (fun y => absurd h3 y))⟩
      · rw [if_neg h3]
        exact ⟨fun _ => ⟨h1, Or.inr (Or.inr h3)⟩, fun _ => by decide⟩
  · rw [if_neg h1]
    exact ⟨fun z => absurd rfl z, fun z => absurd z.1 h1⟩
theorem stS_in {set H : Int32} {S St : Nat → Int32} {X : Int32} {n : Nat} : (bS set H S St n = true ∨ ∃ a, a < 32 ∧ uS set H S n a = true ∧ bt X a = true) ↔ bt set n = true ∧ ¬ rsn H S St X n = Int32.ofNat 0 := by
  rw [rsn_nz]
  unfold bS uS cdS
  constructor
  · rintro (h | ⟨a, h1, h2, h3⟩)
    · rw [Bool.and_eq_true, Bool.and_eq_true, Bool.or_eq_true, decide_eq_true_eq] at h
      exact ⟨h.1.1, h.1.2, h.2.elim Or.inl (fun z => Or.inr (Or.inl z))⟩
    · rw [Bool.and_eq_true, Bool.and_eq_true] at h2
      exact ⟨h2.1.1, h2.1.2, Or.inr (Or.inr ⟨a, h1, h2.2, h3⟩)⟩
  · rintro ⟨h1, h2, h3 | h3 | ⟨a, h3, h4, h5⟩⟩
    · refine Or.inl ?_
      rw [Bool.and_eq_true, Bool.and_eq_true, Bool.or_eq_true, decide_eq_true_eq]
      exact ⟨⟨h1, h2⟩, Or.inl h3⟩
    · refine Or.inl ?_
      rw [Bool.and_eq_true, Bool.and_eq_true, Bool.or_eq_true, decide_eq_true_eq]
      exact ⟨⟨h1, h2⟩, Or.inr h3⟩
    · refine Or.inr ⟨a, h3, ?_, h5⟩
      rw [Bool.and_eq_true, Bool.and_eq_true]
      exact ⟨⟨h1, h2⟩, h4⟩
theorem XS_iff {set H : Int32} {S St : Nat → Int32} {n : Nat} (hn : n < 32) : bt (XS set H S St) n = true ↔ bt set n = true ∧ ¬ rsn H S St (XS set H S St) n = Int32.ofNat 0 := by
  rw [← stS_in]
  unfold XS
  rw [mkI_bt hn]
  constructor
  · intro h
    rcases pG_down h with h | ⟨a, h1, h2, h3⟩
    · exact Or.inl h
    · exact Or.inr ⟨a, h1, h2, by rw [mkI_bt h1]; exact h3⟩
  · rintro (h | ⟨a, h1, h2, h3⟩)
    · exact pG_fix (Nat.le_refl _) hn (Or.inl h)
    · rw [mkI_bt h1] at h3
      exact pG_fix (Nat.le_refl _) hn (Or.inr ⟨a, h1, h2, h3⟩)
def sI (set H : Int32) (S St : Nat → Int32) (X : Int32) (r m : Nat) : Prop := (∀ n, n < 32 → bt X n = true → stS set H S St 32 n = true) ∧ ∀ n, n < 32 → stS set H S St (if n < m then r + 1 else r) n = true → bt X n = true
def sC (set H : Int32) (S St : Nat → Int32) (X : Int32) (m : Nat) : Prop := ∀ n, n < m → bt set n = true ∧ ¬ rsn H S St X n = Int32.ofNat 0 → bt X n = true
theorem sI_end {set H : Int32} {S St : Nat → Int32} {X : Int32} {r : Nat} (h : sI set H S St X r 0) (hr : 32 ≤ r ∨ sC set H S St X 32) : X = XS set H S St := by
  obtain ⟨h1, h2⟩ := h
  refine mkI_eq (fun n hn => ⟨h1 n hn, fun hc => ?_⟩)
  rcases hr with hr | hr
  · refine h2 n hn ?_
    rw [if_neg (Nat.not_lt_zero n)]
    have := pG_le hc (r - 32)
    rw [show 32 + (r - 32) = r by omega] at this
    exact this
  · exact pG_least (X := fun n => bt X n) (fun m hm hx => hr m hm (stS_in.mp hx)) 32 n hn hc
theorem sI_start {set H : Int32} {S St : Nat → Int32} : sI set H S St (Int32.ofNat 0) 0 0 := by
  refine ⟨fun n _ h => ?_, fun n _ h => ?_⟩
  · rw [bt_zero] at h
    cases h
  · rw [if_neg (Nat.not_lt_zero n)] at h
    exact absurd (show false = true from h) (by decide)
theorem sI_round {set H : Int32} {S St : Nat → Int32} {X : Int32} {r : Nat} (h : sI set H S St X r 32) : sI set H S St X (r + 1) 0 := by
  refine ⟨h.1, fun n hn hx => h.2 n hn ?_⟩
  rw [if_neg (Nat.not_lt_zero n)] at hx
  rw [if_pos hn]
  exact hx
theorem sI_keep {set H : Int32} {S St : Nat → Int32} {X : Int32} {r m : Nat} (h : sI set H S St X r m) (hm : m < 32) (hx : bt set m = true ∧ ¬ rsn H S St X m = Int32.ofNat 0 → bt X m = true) : sI set H S St X r (m + 1) := by
  obtain ⟨h1, h2⟩ := h
  refine ⟨h1, fun n hn hp => ?_⟩
  by_cases e : n = m
  · subst e
    rw [if_pos (by omega)] at hp
    refine hx (stS_in.mp ?_)
    rcases pG_step hp with hp | ⟨a, a1, a2, a3⟩
    · exact Or.inl hp
    · refine Or.inr ⟨a, a1, a2, h2 a a1 ?_⟩
      by_cases e2 : a < n
      · rw [if_pos e2]
        exact pG_up a3
      · rw [if_neg e2]
        exact a3
  · refine h2 n hn ?_
    by_cases e2 : n < m
    · rw [if_pos e2]
      rw [if_pos (by omega)] at hp
      exact hp
    · rw [if_neg e2]
      rw [if_neg (by omega)] at hp
      exact hp
theorem sI_add {set H : Int32} {S St : Nat → Int32} {X : Int32} {r m : Nat} (h : sI set H S St X r m) (hm : m < 32) (hx : bt set m = true ∧ ¬ rsn H S St X m = Int32.ofNat 0) : sI set H S St (X ||| mb m) r (m + 1) := by
  have hb : ∀ n, n < 32 → (bt (X ||| mb m) n = true ↔ bt X n = true ∨ n = m) := by
    intro n hn
    rw [bt_or, mb_bt hm hn, Bool.or_eq_true, decide_eq_true_eq]
  obtain ⟨h1, h2⟩ := h
  refine ⟨fun n hn hp => ?_, fun n hn hp => (hb n hn).mpr ?_⟩
  · rcases (hb n hn).mp hp with hp | e
    · exact h1 n hn hp
    · subst e
      refine pG_fix (Nat.le_refl _) hn ?_
      rcases stS_in.mpr hx with h | ⟨a, a1, a2, a3⟩
      · exact Or.inl h
      · exact Or.inr ⟨a, a1, a2, h1 a a1 a3⟩
  · by_cases e : n = m
    · exact Or.inr e
    · refine Or.inl (h2 n hn ?_)
      by_cases e2 : n < m
      · rw [if_pos e2]
        rw [if_pos (by omega)] at hp
        exact hp
      · rw [if_neg e2]
        rw [if_neg (by omega)] at hp
        exact hp
def sJ (set H : Int32) (S St : Nat → Int32) (B X : Int32) (m : Nat) : Prop := (X = B ∧ sC set H S St B m) ∨ ∃ n, n < 32 ∧ bt X n = true ∧ bt B n = false
def gX (g : am_G) (H : Int32) (S F St : Nat → Int32) : Prop := g 26 4 = H ∧ (∀ i, i < 32 → g 27 i = S i) ∧ (∀ i, i < 32 → g 28 i = F i) ∧ ∀ i, i < 32 → g 25 i = St i
section
variable {g : am_G} {t : Nat} {Q : am_R → Prop} {H : Int32} {S F St : Nat → Int32}
theorem S_hasNewer2 (hX : gX g H S F St) {n : Nat} (hn : n < 32) : ∀ (f i : Nat), i + f = 32 → Q (.inl (some (.int (b2i (anyP (fun k => bt (S n) k && decide (St n < St k)) f i)))), g, t) → am_GQ (28, 2, [(0, .ref 26), (1, .int (Int32.ofNat n)), (2, .int (Int32.ofNat i))], [], g, t) Q
  | 0, i, he, k => by
    have e : i = 32 := by omega
    subst e
    exact B_Graph_hasNewerSource_2 ⟨fun _ => am_chk_i rfl k, fun h => absurd ((nn_lt (by omega) (by omega)).mp h) (by omega)⟩
  | f + 1, i, he, k => by
    rw [anyP] at k
    have next : ¬ (bt (S n) i && decide (St n < St i)) = true → am_GQ (28, 42, [(0, .ref 26), (1, .int (Int32.ofNat n)), (2, .int (Int32.ofNat i))], [], g, t) Q := by
      intro hno
      rw [if_neg hno] at k
      refine B_Graph_hasNewerSource_42 ?_
      rw [nn_add]
      exact S_hasNewer2 hX hn f (i + 1) (by omega) k
    refine B_Graph_hasNewerSource_2 ⟨fun h => absurd ((nn_le (by omega) (by omega)).mp h) (by omega), fun _ => am_chk_i (am_in32 hn) ?_⟩
    rw [nn_nat (by omega), hX.2.1 n hn]
    refine S_holds (by omega) (B_Graph_hasNewerSource_18 ⟨fun h => ?_, fun h => B_Stamps_of_0 (am_chk_i (am_in32 (by omega)) (B_Graph_hasNewerSource_29 (B_Stamps_of_0 (am_chk_i (am_in32 hn) (B_Graph_hasNewerSource_37 ?_)))))⟩)
    · rw [b2i_z] at h
      exact next (by rw [h, Bool.false_and]; decide)
    · rw [b2i_nz] at h
      rw [nn_nat (by omega), nn_nat (by omega), hX.2.2.2 n hn, hX.2.2.2 i (by omega)]
      refine ⟨fun h2 => next (fun z => ?_), fun h2 => am_chk_i rfl ?_⟩
      · rw [Bool.and_eq_true, decide_eq_true_eq] at z
        exact not_le_lt h2 z.2
      · rw [if_pos (by rw [h, decide_eq_true h2]; rfl)] at k
        exact k
theorem S_hasNewer (hX : gX g H S F St) {n : Nat} (hn : n < 32) (k : Q (.inl (some (.int (b2i (nwS S St n)))), g, t)) : am_GQ (28, 0, [(0, .ref 26), (1, .int (Int32.ofNat n))], [], g, t) Q := B_Graph_hasNewerSource_0 (S_hasNewer2 hX hn 32 0 rfl k)
theorem S_reasonOf (hX : gX g H S F St) {n : Nat} (hn : n < 32) {X : Int32} (k : Q (.inl (some (.int (rsn H S St X n))), g, t)) : am_GQ (31, 0, [(0, .ref 26), (1, .int (Int32.ofNat n)), (2, .int X)], [], g, t) Q := by
  unfold rsn at k
  refine B_Graph_reasonOf_0 ?_
  rw [hX.1]
  refine S_holds hn (B_Graph_reasonOf_8 ⟨fun h => B_Stamps_of_0 (am_chk_i (am_in32 hn) (B_Graph_reasonOf_21 ?_)), fun h => ?_⟩)
  rotate_left
  · rw [b2i_z] at h
    rw [if_neg (by rw [h]; decide)] at k
    exact k
  rw [b2i_nz] at h
  rw [if_pos h] at k
  rw [nn_nat (by omega), hX.2.2.2 n hn, hX.2.1 n hn]
  refine ⟨fun h2 => am_chk_i (am_in32 hn) ⟨fun h3 => S_hasNewer hX hn (B_Graph_reasonOf_44 ⟨fun h4 => ?_, fun h4 => ?_⟩), fun h3 => ?_⟩, fun h2 => ?_⟩
  · rw [b2i_z] at h4
    rw [if_neg h2, if_pos h3, if_neg (by rw [h4]; decide)] at k
    exact k
  · rw [b2i_nz] at h4
    rw [if_neg h2, if_pos h3, if_pos h4] at k
    exact k
  · rw [if_neg h2, if_neg h3] at k
    exact k
  · rw [if_pos h2] at k
    exact k
theorem S_ood24 (hX : gX g H S F St) {set B : Int32} {x3 : Int32} {r : Nat} (kk : ∀ X, sI set H S St X r 32 → sJ set H S St B X 32 → am_GQ (30, 79, [(0, .ref 26), (1, .int set), (2, .int X), (3, .int x3), (4, .int (Int32.ofNat r))], [.int (if X = B then Int32.ofNat 0 else Int32.ofNat 1)], g, t) Q) :
    ∀ (f i : Nat) (X : Int32), i + f = 32 → sI set H S St X r i → sJ set H S St B X i → am_GQ (30, 24, [(0, .ref 26), (1, .int set), (2, .int X), (3, .int x3), (4, .int (Int32.ofNat r)), (5, .int B), (6, .int (Int32.ofNat i))], [], g, t) Q
  | 0, i, X, he, hI, hJ => by
    have e : i = 32 := by omega
    subst e
    have k2 := kk X hI hJ
    refine B_Graph_outOfDate_24 ⟨fun _ => ⟨fun h => ?_, fun h => ?_⟩, fun h => absurd ((nn_lt (by omega) (by omega)).mp h) (by omega)⟩
    · rw [if_pos h] at k2
      exact k2
    · rw [if_neg h] at k2
      exact k2
  | f + 1, i, X, he, hI, hJ => by
    have hi : i < 32 := by omega
    have keep : (bt set i = true ∧ ¬ rsn H S St X i = Int32.ofNat 0 → bt X i = true) → am_GQ (30, 62, [(0, .ref 26), (1, .int set), (2, .int X), (3, .int x3), (4, .int (Int32.ofNat r)), (5, .int B), (6, .int (Int32.ofNat i))], [], g, t) Q := by
      intro hx
      refine B_Graph_outOfDate_62 ?_
      rw [nn_add]
      refine S_ood24 hX kk f (i + 1) X (by omega) (sI_keep hI hi hx) ?_
      rcases hJ with ⟨e, hC⟩ | hJ
      · refine Or.inl ⟨e, fun n hn hy => ?_⟩
        by_cases e2 : n = i
        · subst e2
          rw [e] at hx
          exact hx hy
        · exact hC n (by omega) hy
      · exact Or.inr hJ
    refine B_Graph_outOfDate_24 ⟨fun h => absurd ((nn_le (by omega) (by omega)).mp h) (by omega), fun _ => S_holds hi (B_Graph_outOfDate_41 ⟨fun h => ?_, fun h => S_reasonOf hX hi (B_Graph_outOfDate_51 ⟨fun h2 => ?_, fun h2 => S_setOf (B_Graph_outOfDate_60 (B_Graph_outOfDate_62 ?_))⟩)⟩)⟩
    · rw [b2i_z, bt_and, bt_not _ hi] at h
      refine keep (fun hy => ?_)
      rw [hy.1, Bool.true_and, Bool.not_eq_false'] at h
      exact h
    · exact keep (fun hy => absurd h2 hy.2)
    · rw [b2i_nz, bt_and, bt_not _ hi, Bool.and_eq_true, Bool.not_eq_true'] at h
      rw [nn_add]
      refine S_ood24 hX kk f (i + 1) _ (by omega) (sI_add hI hi ⟨h.1, h2⟩) (Or.inr ?_)
      rcases hJ with ⟨e, _⟩ | ⟨n, hn, h3, h4⟩
      · refine ⟨i, hi, ?_, by rw [← e]; exact h.2⟩
        rw [bt_or, bt_shift hi i hi, decide_eq_true rfl, Bool.or_true]
      · exact ⟨n, hn, by rw [bt_or, h3, Bool.true_or], h4⟩
theorem S_ood7 (hX : gX g H S F St) {set : Int32} (kk : Q (.inl (some (.int (XS set H S St))), g, t)) : ∀ (f r : Nat) (X x3 : Int32), r + f = 32 → sI set H S St X r 0 → (x3 = Int32.ofNat 0 → sC set H S St X 32) → am_GQ (30, 7, [(0, .ref 26), (1, .int set), (2, .int X), (3, .int x3), (4, .int (Int32.ofNat r))], [], g, t) Q
  | 0, r, X, x3, he, hI, h0 => by
    have e : r = 32 := by omega
    subst e
    rw [← sI_end hI (Or.inl (Nat.le_refl _))] at kk
    exact B_Graph_outOfDate_7 ⟨fun _ => kk, fun h => absurd ((nn_lt (by omega) (by omega)).mp h) (by omega)⟩
  | f + 1, r, X, x3, he, hI, h0 => by
    refine B_Graph_outOfDate_7 ⟨fun h => absurd ((nn_le (by omega) (by omega)).mp h) (by omega), fun _ => ⟨fun h => ?_, fun h => ?_⟩⟩
    · rw [← sI_end hI (Or.inr (h0 h))] at kk
      exact kk
    · refine S_ood24 hX (fun Y hI' hJ => B_Graph_outOfDate_79 ?_) 32 0 X rfl hI (Or.inl ⟨rfl, fun n hn => absurd hn (Nat.not_lt_zero _)⟩)
      rw [nn_add]
      refine S_ood7 hX kk f (r + 1) Y _ (by omega) (sI_round hI') (fun hz => ?_)
      rcases hJ with ⟨e, hC⟩ | ⟨n, _, h3, h4⟩
      · rw [e]
        exact hC
      · by_cases e : Y = X
        · rw [e, h4] at h3
          cases h3
        · rw [if_neg e] at hz
          exact absurd hz (by decide)
theorem S_outOfDate (hX : gX g H S F St) {set : Int32} (k : Q (.inl (some (.int (XS set H S St))), g, t)) : am_GQ (30, 0, [(0, .ref 26), (1, .int set)], [], g, t) Q :=
  B_Graph_outOfDate_0 (S_ood7 hX k 32 0 _ _ rfl sI_start (fun h => absurd h (by decide)))
theorem S_hasLoop2 (hX : gX g H S F St) {set : Int32} : ∀ (f i : Nat), i + f = 32 → Q (.inl (some (.int (b2i (anyP (fun n => bt set n && bt (F n) n) f i)))), g, t) → am_GQ (27, 2, [(0, .ref 26), (1, .int set), (2, .int (Int32.ofNat i))], [], g, t) Q
  | 0, i, he, k => by
    have e : i = 32 := by omega
    subst e
    exact B_Graph_hasLoop_2 ⟨fun _ => am_chk_i rfl k, fun h => absurd ((nn_lt (by omega) (by omega)).mp h) (by omega)⟩
  | f + 1, i, he, k => by
    have hi : i < 32 := by omega
    rw [anyP] at k
    have next : ¬ (bt set i && bt (F i) i) = true → am_GQ (27, 31, [(0, .ref 26), (1, .int set), (2, .int (Int32.ofNat i))], [], g, t) Q := by
      intro hno
      rw [if_neg hno] at k
      refine B_Graph_hasLoop_31 ?_
      rw [nn_add]
      exact S_hasLoop2 hX f (i + 1) (by omega) k
    refine B_Graph_hasLoop_2 ⟨fun h => absurd ((nn_le (by omega) (by omega)).mp h) (by omega), fun _ => S_holds hi (B_Graph_hasLoop_13 ⟨fun h => ?_, fun h => am_chk_i (am_in32 hi) ?_⟩)⟩
    · rw [b2i_z] at h
      exact next (by rw [h, Bool.false_and]; decide)
    · rw [b2i_nz] at h
      rw [nn_nat (by omega), hX.2.2.1 i hi]
      refine S_holds hi (B_Graph_hasLoop_26 ⟨fun h2 => ?_, fun h2 => am_chk_i rfl ?_⟩)
      · rw [b2i_z] at h2
        exact next (by rw [h2, Bool.and_false]; decide)
      · rw [b2i_nz] at h2
        rw [if_pos (by rw [h, h2]; rfl)] at k
        exact k
theorem S_hasLoop (hX : gX g H S F St) {set : Int32} (k : Q (.inl (some (.int (b2i (anyP (fun n => bt set n && bt (F n) n) 32 0)))), g, t)) : am_GQ (27, 0, [(0, .ref 26), (1, .int set)], [], g, t) Q := B_Graph_hasLoop_0 (S_hasLoop2 hX 32 0 rfl k)
theorem S_hasUnm2 (hX : gX g H S F St) {set : Int32} : ∀ (f i : Nat), i + f = 32 → Q (.inl (some (.int (b2i (anyP (fun n => bt set n && (!bt H n && decide (St n = Int32.ofNat 0))) f i)))), g, t) → am_GQ (29, 2, [(0, .ref 26), (1, .int set), (2, .int (Int32.ofNat i))], [], g, t) Q
  | 0, i, he, k => by
    have e : i = 32 := by omega
    subst e
    exact B_Graph_hasUnmakeable_2 ⟨fun _ => am_chk_i rfl k, fun h => absurd ((nn_lt (by omega) (by omega)).mp h) (by omega)⟩
  | f + 1, i, he, k => by
    have hi : i < 32 := by omega
    rw [anyP] at k
    have next : ¬ (bt set i && (!bt H i && decide (St i = Int32.ofNat 0))) = true → am_GQ (29, 36, [(0, .ref 26), (1, .int set), (2, .int (Int32.ofNat i))], [], g, t) Q := by
      intro hno
      rw [if_neg hno] at k
      refine B_Graph_hasUnmakeable_36 ?_
      rw [nn_add]
      exact S_hasUnm2 hX f (i + 1) (by omega) k
    refine B_Graph_hasUnmakeable_2 ⟨fun h => absurd ((nn_le (by omega) (by omega)).mp h) (by omega), fun _ => ?_⟩
    rw [hX.1]
    refine S_holds hi (B_Graph_hasUnmakeable_20 ⟨fun h => ?_, fun h => B_Stamps_of_0 (am_chk_i (am_in32 hi) (B_Graph_hasUnmakeable_31 ?_))⟩)
    · rw [b2i_z, bt_and, bt_not _ hi] at h
      exact next (by rw [← Bool.and_assoc, h, Bool.false_and]; decide)
    · rw [b2i_nz, bt_and, bt_not _ hi, Bool.and_eq_true] at h
      rw [nn_nat (by omega), hX.2.2.2 i hi]
      refine ⟨fun h2 => next (by rw [decide_eq_false h2, Bool.and_false, Bool.and_false]; decide), fun h2 => am_chk_i rfl ?_⟩
      rw [if_pos (by rw [h.1, h.2, decide_eq_true h2]; rfl)] at k
      exact k
theorem S_hasUnm (hX : gX g H S F St) {set : Int32} (k : Q (.inl (some (.int (b2i (anyP (fun n => bt set n && (!bt H n && decide (St n = Int32.ofNat 0))) 32 0)))), g, t)) : am_GQ (29, 0, [(0, .ref 26), (1, .int set)], [], g, t) Q := B_Graph_hasUnmakeable_0 (S_hasUnm2 hX 32 0 rfl k)
end
