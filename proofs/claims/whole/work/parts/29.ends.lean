theorem mb_bt {m k : Nat} (hm : m < 32) (hk : k < 32) : bt (mb m) k = decide (k = m) := bt_shift hm k hk
theorem and_z {x y : Int32} : x &&& y = Int32.ofNat 0 ↔ ∀ k, k < 32 → bt x k = true → bt y k = false := by
  constructor
  · intro h k hk hx
    have : bt (x &&& y) k = false := by rw [h, bt_zero]
    rw [bt_and, hx, Bool.true_and] at this
    exact this
  · intro h
    refine bt_ext (fun k hk => ?_)
    rw [bt_and, bt_zero]
    cases hx : bt x k with
    | false => rfl
    | true => rw [h k hk hx]; rfl
theorem tk_lt (c : Nat → Nat) : ∀ f i x, x ∈ tk c f i → x < 58
  | 0, _, x, h => by cases h
  | f + 1, i, x, h => by
    rw [tk] at h
    split at h
    · rcases List.mem_cons.mp h with e | h
      · rw [e, tf]; omega
      · exact tk_lt c f _ x h
    · split at h
      · rcases List.mem_cons.mp h with e | h
        · rw [e, tm]; omega
        · exact tk_lt c f _ x h
      · split at h
        · exact tk_lt c f _ x h
        · cases h
theorem tks_lt (c : Nat → Nat) (V : Nat → Option Nat) (m x : Nat) (h : x ∈ tks c V m) : x < 58 := by
  unfold tks at h
  split at h
  · exact tk_lt c _ _ x h
  · cases h
theorem fU_bt : ∀ (l : List Nat) (a : Int32) (k : Nat), (∀ x ∈ l, x < 58) → k < 32 → (bt (fU l a) k = true ↔ bt a k = true ∨ 32 + k ∈ l)
  | [], a, k, _, _ => by rw [fU]; simp
  | x :: r, a, k, h, hk => by
    rw [fU, fU_bt r _ k (fun y hy => h y (List.mem_cons_of_mem _ hy)) hk, List.mem_cons]
    have hx := h x List.mem_cons_self
    by_cases e : x < 32
    · rw [if_pos e]
      constructor
      · rintro (h | h)
        · exact Or.inl h
        · exact Or.inr (Or.inr h)
      · rintro (h | h | h)
        · exact Or.inl h
        · omega
        · exact Or.inr h
    · rw [if_neg e, bt_or, mb_bt (by omega) hk, Bool.or_eq_true, decide_eq_true_eq]
      constructor
      · rintro ((h | h) | h)
        · exact Or.inl h
        · exact Or.inr (Or.inl (by omega))
        · exact Or.inr (Or.inr h)
      · rintro (h | h | h)
        · exact Or.inl (Or.inl h)
        · exact Or.inl (Or.inr (by omega))
        · exact Or.inr h
theorem fF_congr {F F' : Nat → Int32} : ∀ (l : List Nat) (a : Int32), (∀ x ∈ l, 32 ≤ x → F (x - 32) = F' (x - 32)) → fF F l a = fF F' l a
  | [], _, _ => rfl
  | x :: r, a, h => by
    rw [fF, fF]
    by_cases e : x < 32
    · rw [if_pos e, if_pos e]
      exact fF_congr r _ (fun y hy => h y (List.mem_cons_of_mem _ hy))
    · rw [if_neg e, if_neg e, h x List.mem_cons_self (by omega)]
      exact fF_congr r _ (fun y hy => h y (List.mem_cons_of_mem _ hy))
theorem fN_congr {F F' : Nat → Nat} : ∀ (l : List Nat), (∀ x ∈ l, 32 ≤ x → F (x - 32) = F' (x - 32)) → fN F l = fN F' l
  | [], _ => rfl
  | x :: r, h => by
    rw [fN, fN, fN_congr r (fun y hy => h y (List.mem_cons_of_mem _ hy))]
    by_cases e : x < 32
    · rw [if_pos e, if_pos e]
    · rw [if_neg e, if_neg e, h x List.mem_cons_self (by omega)]
section
variable (tt : Nat → List Nat)
def uR (m : Nat) : Int32 := fU (tt m) (Int32.ofNat 0)
def lR (m : Nat) : Int32 := wsR 26 (uR tt) m
def gd (m : Nat) : Prop := ∀ k, bt (lR tt m) k = true → bt (lR tt k) k = false
def hg (m : Nat) : Nat := cnt (fun k => bt (lR tt m) k) 26
def vF : Nat → Nat → Int32
  | 0, _ => Int32.ofNat 0
  | j + 1, m => fF (vF j) (tt m) (Int32.ofNat 0)
def vN : Nat → Nat → Nat
  | 0, _ => 0
  | j + 1, m => min (fN (vN j) (tt m)) 65
end
theorem uR_bt {tt : Nat → List Nat} (ht : ∀ m x, x ∈ tt m → x < 58) (m k : Nat) (hk : k < 32) : bt (uR tt m) k = true ↔ 32 + k ∈ tt m := by
  unfold uR
  rw [fU_bt _ _ k (ht m) hk, bt_zero]
  simp
theorem bt_hi (x : Int32) {k : Nat} (h : 32 ≤ k) : bt x k = false := by
  unfold bt
  exact BitVec.getLsbD_of_ge _ _ h
theorem uR_lt {tt : Nat → List Nat} (ht : ∀ m x, x ∈ tt m → x < 58) (m k : Nat) (h : bt (uR tt m) k = true) : k < 26 := by
  by_cases hk : k < 32
  · have := ht m _ ((uR_bt ht m k hk).mp h)
    omega
  · rw [bt_hi _ (by omega)] at h
    cases h
theorem lR_lt {tt : Nat → List Nat} (ht : ∀ m x, x ∈ tt m → x < 58) (m k : Nat) (h : bt (lR tt m) k = true) : k < 26 := by
  unfold lR at h
  rw [wsR_bt] at h
  have := wsB_least (N := 26) (T := fun _ k => decide (k < 26)) (fun m k h => decide_eq_true (uR_lt ht m k h)) (fun m a k _ _ h => h) 26 (Nat.le_refl _) m k h
  exact of_decide_eq_true this
theorem lR_in {tt : Nat → List Nat} (m k : Nat) (h : bt (uR tt m) k = true) : bt (lR tt m) k = true := by
  unfold lR
  rw [wsR_bt]
  exact wsB_in _ _ _ _ h
theorem lR_tr {tt : Nat → List Nat} (ht : ∀ m x, x ∈ tt m → x < 58) (m a k : Nat) (h1 : bt (lR tt m) a = true) (h2 : bt (lR tt a) k = true) : bt (lR tt m) k = true := by
  have ha := lR_lt ht m a h1
  unfold lR at h1 h2 ⊢
  rw [wsR_bt] at h1 h2 ⊢
  exact wsB_trans _ 26 m a k ha h1 h2
theorem gd_self {tt : Nat → List Nat} {m : Nat} (h : gd tt m) : bt (lR tt m) m = false := by
  cases e : bt (lR tt m) m with
  | false => rfl
  | true => exact (h m e) ▸ e.symm
theorem gd_sub {tt : Nat → List Nat} (ht : ∀ m x, x ∈ tt m → x < 58) {m k : Nat} (h : gd tt m) (hk : bt (lR tt m) k = true) : gd tt k ∧ hg tt k < hg tt m := by
  refine ⟨fun j hj => h j (lR_tr ht m k j hk hj), ?_⟩
  exact cnt_lt 26 (fun i _ hi => lR_tr ht m k i hk hi) ⟨k, lR_lt ht m k hk, h k hk, hk⟩
theorem hg_le {tt : Nat → List Nat} (ht : ∀ m x, x ∈ tt m → x < 58) {m : Nat} (h : gd tt m) (hm : m < 26) : hg tt m ≤ 25 := by
  apply Classical.byContradiction
  intro hn
  have := cnt_full 26 (by unfold hg at hn; omega) m hm (x := fun k => bt (lR tt m) k)
  rw [gd_self h] at this
  cases this
theorem gd_tok {tt : Nat → List Nat} (ht : ∀ m x, x ∈ tt m → x < 58) {m x : Nat} (h : gd tt m) (hx : x ∈ tt m) (h32 : 32 ≤ x) : bt (lR tt m) (x - 32) = true := by
  have := ht m x hx
  exact lR_in m _ ((uR_bt ht m _ (by omega)).mpr (by rw [show 32 + (x - 32) = x by omega]; exact hx))
theorem vF_st {tt : Nat → List Nat} (ht : ∀ m x, x ∈ tt m → x < 58) : ∀ (h m : Nat), gd tt m → hg tt m ≤ h → ∀ j j', hg tt m ≤ j → hg tt m ≤ j' → vF tt (j + 1) m = vF tt (j' + 1) m := by
  intro h
  induction h with
  | zero =>
    intro m hm h0 j j' hj hj'
    rw [vF, vF]
    refine fF_congr _ _ (fun x hx h32 => ?_)
    have := (gd_sub ht hm (gd_tok ht hm hx h32)).2
    omega
  | succ h ih =>
    intro m hm h0 j j' hj hj'
    rw [vF, vF]
    refine fF_congr _ _ (fun x hx h32 => ?_)
    obtain ⟨g1, g2⟩ := gd_sub ht hm (gd_tok ht hm hx h32)
    obtain ⟨i, rfl⟩ : ∃ i, j = i + 1 := ⟨j - 1, by omega⟩
    obtain ⟨i', rfl⟩ : ∃ i, j' = i + 1 := ⟨j' - 1, by omega⟩
    exact ih _ g1 (by omega) i i' (by omega) (by omega)
theorem vN_st {tt : Nat → List Nat} (ht : ∀ m x, x ∈ tt m → x < 58) : ∀ (h m : Nat), gd tt m → hg tt m ≤ h → ∀ j j', hg tt m ≤ j → hg tt m ≤ j' → vN tt (j + 1) m = vN tt (j' + 1) m := by
  intro h
  induction h with
  | zero =>
    intro m hm h0 j j' hj hj'
    rw [vN, vN, fN_congr]
    intro x hx h32
    have := (gd_sub ht hm (gd_tok ht hm hx h32)).2
    omega
  | succ h ih =>
    intro m hm h0 j j' hj hj'
    rw [vN, vN, fN_congr]
    intro x hx h32
    obtain ⟨g1, g2⟩ := gd_sub ht hm (gd_tok ht hm hx h32)
    obtain ⟨i, rfl⟩ : ∃ i, j = i + 1 := ⟨j - 1, by omega⟩
    obtain ⟨i', rfl⟩ : ∃ i, j' = i + 1 := ⟨j' - 1, by omega⟩
    exact ih _ g1 (by omega) i i' (by omega) (by omega)
theorem vF_fix {tt : Nat → List Nat} (ht : ∀ m x, x ∈ tt m → x < 58) {m : Nat} (h : gd tt m) (hm : m < 26) : vF tt 26 m = fF (vF tt 26) (tt m) (Int32.ofNat 0) := by
  have := hg_le ht h hm
  rw [vF_st ht 25 m h (by omega) 25 26 (by omega) (by omega), vF]
theorem vN_fix {tt : Nat → List Nat} (ht : ∀ m x, x ∈ tt m → x < 58) {m : Nat} (h : gd tt m) (hm : m < 26) : vN tt 26 m = min (fN (vN tt 26) (tt m)) 65 := by
  have := hg_le ht h hm
  rw [vN_st ht 25 m h (by omega) 25 26 (by omega) (by omega), vN]
theorem vN_le {tt : Nat → List Nat} (j m : Nat) : vN tt j m ≤ 65 := by
  cases j with
  | zero => exact Nat.zero_le _
  | succ j => rw [vN]; exact Nat.min_le_right _ _
section
variable {g : am_G} {t : Nat} {Q : am_R → Prop} {n : Nat} {c : Nat → Nat} {L : List (Nat × Nat)} {V : Nat → Option Nat}
theorem S_findLooping (hl : ∀ m, m < 26 → g 16 m = lR (tks c V) m) (kk : ∀ g', (∀ m, m < 26 → (bt (g' 14 5) m = true ↔ ¬ gd (tks c V) m)) → fr [14] g g' → Q (.inl none, g', t)) :
    am_GQ (48, 0, [(0, .ref 14)], [], g, t) Q := by
  have ht := tks_lt c V
  refine B_Macros_findLooping_0 (for_up (N := 26) (fun i a => (48, 4, [(0, .ref 14), (1, .int a), (2, .int (Int32.ofNat i))], [], g, t)) (fun i a => ∀ k, k < 32 → (bt a k = true ↔ k < i ∧ bt (lR (tks c V) k) k = true)) ?_ ?_ 0 (Int32.ofNat 0) (by omega) ?_)
  · intro i a hi h k
    refine B_Macros_findLooping_4 ⟨fun h => ?_, fun _ => am_chk_i (am_in26 hi) (S_setOf (B_Macros_findLooping_21 ?_))⟩
    · rw [nn_le (by omega) (by omega)] at h
      omega
    rw [nn_nat (by omega), nn_add, hl i hi]
    refine k _ (fun q hq => ?_)
    have e : bt (lR (tks c V) i &&& (Int32.ofNat 1 <<< (Int32.ofNat i &&& Int32.ofNat 31))) q = (bt (lR (tks c V) i) q && decide (q = i)) := by rw [bt_and, bt_shift (by omega) q hq]
    rw [bt_or, e, Bool.or_eq_true, h q hq, Bool.and_eq_true, decide_eq_true_eq]
    constructor
    · rintro (⟨h1, h2⟩ | ⟨h1, h2⟩)
      · exact ⟨by omega, h2⟩
      · subst h2; exact ⟨by omega, h1⟩
    · rintro ⟨h1, h2⟩
      by_cases e : q = i
      · subst e; exact Or.inr ⟨h2, rfl⟩
      · exact Or.inl ⟨by omega, h2⟩
  · intro a ha
    refine B_Macros_findLooping_4 ⟨fun _ => ?_, fun h => absurd h (by decide)⟩
    refine for_up (N := 26) (fun i g' => (48, 37, [(0, .ref 14), (1, .int a), (2, .int (Int32.ofNat i))], [], g', t)) (fun i g' => (∀ m, m < 26 → (bt (g' 14 5) m = true ↔ m < i ∧ ¬ gd (tks c V) m)) ∧ fr [14] g g') ?_ ?_ 0 _ (by omega) ⟨fun m hm => ?_, fr_w (fr_refl _ _) (by decide)⟩
    · rintro i g' hi ⟨h1, h2⟩ k
      have hg16 : g' 16 i = lR (tks c V) i := by rw [h2 16 (by decide)]; exact hl i hi
      have next : ∀ g2, (∀ m, m < 26 → (bt (g2 14 5) m = true ↔ m < i + 1 ∧ ¬ gd (tks c V) m)) → fr [14] g g2 → am_GQ (48, 67, [(0, .ref 14), (1, .int a), (2, .int (Int32.ofNat i))], [], g2, t) Q := by
        intro g2 a1 a2
        refine B_Macros_findLooping_67 ?_
        rw [nn_add]
        exact k g2 ⟨a1, a2⟩
      refine B_Macros_findLooping_37 ⟨fun h => ?_, fun _ => am_chk_i (am_in26 hi) ?_⟩
      · rw [nn_le (by omega) (by omega)] at h
        omega
      rw [nn_nat (by omega), hg16]
      refine ⟨fun h => ?_, fun h => S_setOf (B_Macros_findLooping_63 ?_)⟩
      · rw [and_z] at h
        have hgd : gd (tks c V) i := by
          intro q hq
          have h26 := lR_lt ht i q hq
          have := h q (by omega) hq
          cases e : bt (lR (tks c V) q) q with
          | false => rfl
          | true =>
            rw [(ha q (by omega)).mpr ⟨h26, e⟩] at this
            cases this
        refine next g' (fun m hm => ?_) h2
        rw [h1 m hm]
        constructor
        · rintro ⟨x1, x2⟩; exact ⟨by omega, x2⟩
        · rintro ⟨x1, x2⟩
          refine ⟨?_, x2⟩
          by_cases e : m = i
          · subst e; exact absurd hgd x2
          · omega
      · have hgd : ¬ gd (tks c V) i := by
          intro hgd
          refine h (and_z.mpr (fun q hq hb => ?_))
          cases e : bt a q with
          | false => rfl
          | true =>
            have := ((ha q hq).mp e).2
            rw [hgd q hb] at this
            cases this
        refine next _ (fun m hm => ?_) (fr_w h2 (by decide))
        rw [w_s, bt_or, bt_shift (by omega) m (by omega), Bool.or_eq_true, decide_eq_true_eq, h1 m hm]
        constructor
        · rintro (⟨x1, x2⟩ | x1)
          · exact ⟨by omega, x2⟩
          · subst x1; exact ⟨by omega, hgd⟩
        · rintro ⟨x1, x2⟩
          by_cases e : m = i
          · exact Or.inr e
          · exact Or.inl ⟨by omega, x2⟩
    · rintro g' ⟨h1, h2⟩
      refine B_Macros_findLooping_37 ⟨fun _ => kk g' (fun m hm => ?_) h2, fun h => absurd h (by decide)⟩
      rw [h1 m hm]
      exact ⟨fun z => z.2, fun z => ⟨hm, z⟩⟩
    · rw [w_s, bt_zero]
      constructor
      · intro h; cases h
      · rintro ⟨h, _⟩; omega
  · intro k hk
    rw [bt_zero]
    constructor
    · intro h; cases h
    · rintro ⟨h, _⟩; omega
end
