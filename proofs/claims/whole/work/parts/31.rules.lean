abbrev Ru : Type := Nat × Nat × Bool
def rls (L : List (Nat × Nat)) : Nat → Nat → List Ru
  | 0, _ => []
  | f + 1, j => if kn L j = 3 then (j + 1, sn L j, decide (kn L (j + 1) = 5)) :: rls L f (j + 1) else rls L f (j + 1)
def pts (c : Nat → Nat) (L : List (Nat × Nat)) : Nat → Nat → List (Nat × Nat)
  | 0, _ => []
  | f + 1, j => if kn L j = 4 then (c (sn L j + 1) - 48, c (sn L j + 4) - 48) :: pts c L f (j + 1) else pts c L f (j + 1)
def tT (c : Nat → Nat) (q : Ru) : List Nat := tk c 240 q.2.1
def tS (c : Nat → Nat) (q : Ru) : List Nat := tk c 240 (pe c 240 q.2.1 + 1)
def gdb (tt : Nat → List Nat) (m : Nat) : Bool := (List.range 26).all (fun k => !(bt (lR tt m) k && bt (lR tt k) k))
def gLb (tt : Nat → List Nat) (l : List Nat) : Bool := l.all (fun x => decide (x < 32) || gdb tt (x - 32))
theorem gdb_iff {tt : Nat → List Nat} (ht : ∀ m x, x ∈ tt m → x < 58) (m : Nat) : gdb tt m = true ↔ gd tt m := by
  unfold gdb gd
  rw [List.all_eq_true]
  constructor
  · intro h k hk
    have h26 := lR_lt ht m k hk
    have := h k (List.mem_range.mpr h26)
    rw [hk, Bool.true_and] at this
    simpa using this
  · intro h k _
    cases e : bt (lR tt m) k with
    | false => rfl
    | true => rw [h k e]; rfl
theorem gLb_iff {tt : Nat → List Nat} (ht : ∀ m x, x ∈ tt m → x < 58) (l : List Nat) : gLb tt l = true ↔ ∀ x ∈ l, 32 ≤ x → gd tt (x - 32) := by
  unfold gLb
  rw [List.all_eq_true]
  constructor
  · intro h x hx h32
    have := h x hx
    rw [decide_eq_false (by omega), Bool.false_or] at this
    exact (gdb_iff ht _).mp this
  · intro h x hx
    by_cases e : x < 32
    · rw [decide_eq_true e]; rfl
    · rw [(gdb_iff ht _).mpr (h x hx (by omega)), Bool.or_true]
def fline (p : Ru → Bool) : List Ru → Nat
  | [] => 0
  | q :: r => if p q = true then q.1 else fline p r
def fdl (tg : Ru → Int32) : List Ru → Int32 → Nat
  | [], _ => 0
  | q :: r, a => if q.2.2 = true then (if a &&& tg q = Int32.ofNat 0 then fdl tg r (a ||| tg q) else q.1) else fdl tg r a
def flS (tg sr : Ru → Int32) : List Ru → (Nat → Int32) → Nat → Int32
  | [], s => s
  | q :: r, s => flS tg sr r (fun i => if bt (tg q) i = true then s i ||| sr q else s i)
def flW (tg : Ru → Int32) : List Ru → Int32 → Int32
  | [], w => w
  | q :: r, w => flW tg r (if q.2.2 = true then w ||| tg q else w)
def pLoop (c : Nat → Nat) (tt : Nat → List Nat) (q : Ru) : Bool := !(gLb tt (tT c q) && gLb tt (tS c q))
def pLong (c : Nat → Nat) (tt : Nat → List Nat) (q : Ru) : Bool := decide (64 < min (fN (vN tt 26) (tT c q)) 65 + min (fN (vN tt 26) (tS c q)) 65)
def tgR (c : Nat → Nat) (tt : Nat → List Nat) (q : Ru) : Int32 := fF (vF tt 26) (tT c q) (Int32.ofNat 0)
def srR (c : Nat → Nat) (tt : Nat → List Nat) (q : Ru) : Int32 := fF (vF tt 26) (tS c q) (Int32.ofNat 0)
def RX (g : am_G) (n : Nat) (c : Nat → Nat) (L : List (Nat × Nat)) (V : Nat → Option Nat) : Prop := tX g n c ∧ lX g L ∧ lG c n L ∧ mX g n c V
theorem RX_fr {ks : List Nat} {g g' : am_G} {n : Nat} {c : Nat → Nat} {L : List (Nat × Nat)} {V : Nat → Option Nat} (h : RX g n c L V) (hf : fr ks g g') (hk : ∀ k ∈ [9, 10, 11, 12, 13, 14, 17, 18], k ∉ ks) : RX g' n c L V := by
  obtain ⟨h1, h2, h3, h4, h5⟩ := h
  refine ⟨tX_fr h1 hf (hk 9 (by decide)) (hk 10 (by decide)), lX_fr h2 hf (hk 11 (by decide)) (hk 12 (by decide)) (hk 13 (by decide)), h3, fun m hm => ?_, fun m hm hgd => ?_⟩
  · rw [hf 14 (hk 14 (by decide))]; exact h4 m hm
  · rw [hf 17 (hk 17 (by decide)), hf 18 (hk 18 (by decide))]; exact h5 m hm hgd
theorem rul_pos {c : Nat → Nat} {n : Nat} {L : List (Nat × Nat)} (hG : lG c n L) {j : Nat} (hk : kn L j = 3) : j < L.length ∧ ∃ e, sn L j ≤ e ∧ e < n ∧ isRul c (sn L j) e := by
  have hj : j < L.length := by
    apply Classical.byContradiction
    intro h
    rw [kn_none (by omega)] at hk
    omega
  refine ⟨hj, ?_⟩
  have e : L[j]? = some (L[j].1, L[j].2) := List.getElem?_eq_getElem hj
  have hm : (L[j].1, L[j].2) ∈ L := List.mem_of_getElem? e
  have h1 : sn L j = L[j].1 := by unfold sn; rw [e]
  have h2 : kn L j = L[j].2 := by unfold kn; rw [e]
  rcases hG _ _ hm with h0 | ⟨e, a1, a2, a3, a4, a5⟩
  · omega
  · rw [h1]
    exact ⟨e, a1, a2, kd_rul (by omega)⟩
theorem pat_pos {c : Nat → Nat} {n : Nat} {L : List (Nat × Nat)} (hG : lG c n L) {j : Nat} (hk : kn L j = 4) : j < L.length ∧ ∃ e, sn L j ≤ e ∧ e < n ∧ isPat c (sn L j) e := by
  have hj : j < L.length := by
    apply Classical.byContradiction
    intro h
    rw [kn_none (by omega)] at hk
    omega
  refine ⟨hj, ?_⟩
  have e : L[j]? = some (L[j].1, L[j].2) := List.getElem?_eq_getElem hj
  have hm : (L[j].1, L[j].2) ∈ L := List.mem_of_getElem? e
  have h1 : sn L j = L[j].1 := by unfold sn; rw [e]
  have h2 : kn L j = L[j].2 := by unfold kn; rw [e]
  rcases hG _ _ hm with h0 | ⟨e, a1, a2, a3, a4, a5⟩
  · omega
  · rw [h1]
    exact ⟨e, a1, a2, kd_pat (by omega)⟩
section
variable {g : am_G} {t : Nat} {Q : am_R → Prop} {n : Nat} {c : Nat → Nat} {L : List (Nat × Nat)} {V : Nat → Option Nat}
theorem S_RL_isRule (hL : lX g L) {j : Nat} (hj : j < 900) (k : Q (.inl (some (.int (b2i (decide (kn L j = 3))))), g, t)) : am_GQ (63, 0, [(0, .ref 19), (1, .int (Int32.ofNat j))], [], g, t) Q :=
  B_RuleLines_isRule_0 (S_isKind hL (by omega) (by omega) (B_RuleLines_isRule_11 (am_chk_i (b2i_isb _) k)))
theorem S_targetPhrase (hL : lX g L) {j : Nat} (hj : j < L.length) (k : Q (.inl (some (.int (Int32.ofNat (sn L j)))), g, t)) : am_GQ (65, 0, [(0, .ref 19), (1, .int (Int32.ofNat j))], [], g, t) Q :=
  B_RuleLines_targetPhrase_0 (S_startOf hL hj (B_RuleLines_targetPhrase_8 k))
theorem S_sourcePhrase (hT : tX g n c) (hL : lX g L) {j : Nat} (hj : j < L.length) (hs : sn L j ≤ n) (k : Q (.inl (some (.int (Int32.ofNat (pe c 240 (sn L j) + 1)))), g, t)) : am_GQ (64, 0, [(0, .ref 19), (1, .int (Int32.ofNat j))], [], g, t) Q := by
  refine B_RuleLines_sourcePhrase_0 (S_startOf hL hj (B_RuleLines_sourcePhrase_12 (S_phraseEnd hT (by omega) (B_RuleLines_sourcePhrase_15 ?_))))
  rw [nn_add]
  exact k
theorem S_targets (hT : tX g n c) (hL : lX g L) {j : Nat} (hj : j < L.length) (hs : sn L j ≤ n) (k : Q (.inl (some (.int (fF (g 17) (tk c 240 (sn L j)) (Int32.ofNat 0)))), g, t)) : am_GQ (66, 0, [(0, .ref 19), (1, .int (Int32.ofNat j))], [], g, t) Q :=
  B_RuleLines_targets_0 (S_targetPhrase hL hj (B_RuleLines_targets_9 (S_filesIn hT (by omega) (B_RuleLines_targets_12 k))))
theorem uses_iff (hM : mX g n c V) {i : Nat} : fU (tk c 240 i) (Int32.ofNat 0) &&& g 14 5 = Int32.ofNat 0 ↔ gLb (tks c V) (tk c 240 i) = true := by
  have ht := tks_lt c V
  rw [gLb_iff ht, and_z]
  constructor
  · intro h x hx h32
    have h58 := tk_lt c _ _ x hx
    have := h (x - 32) (by omega) ((fU_bt _ _ _ (tk_lt c _ _) (by omega)).mpr (Or.inr (by rw [show 32 + (x - 32) = x by omega]; exact hx)))
    apply Classical.byContradiction
    intro hno
    rw [(hM.1 (x - 32) (by omega)).mpr hno] at this
    cases this
  · intro h k hk hb
    rcases (fU_bt _ _ _ (tk_lt c _ _) hk).mp hb with h1 | h1
    · rw [bt_zero] at h1; cases h1
    · have h58 := tk_lt c _ _ _ h1
      have := h _ h1 (by omega)
      rw [show 32 + k - 32 = k by omega] at this
      cases e : bt (g 14 5) k with
      | false => rfl
      | true => exact absurd this ((hM.1 k (by omega)).mp e)
theorem S_firstLooping_loop (hR : RX g n c L V) : ∀ (f j : Nat), j + f = L.length → Q (.inl (some (.int (Int32.ofNat (fline (pLoop c (tks c V)) (rls L f j))))), g, t) → am_GQ (61, 2, [(0, .ref 19), (1, .int (Int32.ofNat j))], [], g, t) Q := by
  obtain ⟨hT, hL, hG, hM⟩ := hR
  have hl := hL.1
  intro f
  induction f with
  | zero =>
    intro j hj k
    refine B_RuleLines_firstLooping_2 (S_count hL (B_RuleLines_firstLooping_10 ⟨fun _ => k, fun h => ?_⟩))
    rw [nn_lt (by omega) (by omega)] at h
    omega
  | succ f ih =>
    intro j hj k
    rw [rls] at k
    refine B_RuleLines_firstLooping_2 (S_count hL (B_RuleLines_firstLooping_10 ⟨fun h => ?_, fun _ => S_RL_isRule hL (by omega) (B_RuleLines_firstLooping_18 ⟨fun h => ?_, fun h => ?_⟩)⟩))
    · rw [nn_le (by omega) (by omega)] at h
      omega
    · rw [b2i_dz] at h
      rw [if_neg h] at k
      refine B_RuleLines_firstLooping_55 ?_
      rw [nn_add]
      exact ih _ (by omega) k
    · rw [b2i_dz, Decidable.not_not] at h
      rw [if_pos h, fline] at k
      obtain ⟨hjl, e, x1, x2, _⟩ := rul_pos hG h
      have hpe := pe_in hT 240 (sn L j) (by omega)
      refine S_targetPhrase hL hjl (B_RuleLines_firstLooping_30 (S_usesLooping hT (by omega) (B_RuleLines_firstLooping_33 ⟨fun h2 => ?_, fun h2 => ?_⟩)))
      · rw [b2i_dz, Decidable.not_not, uses_iff hM] at h2
        have hp : pLoop c (tks c V) (j + 1, sn L j, decide (kn L (j + 1) = 5)) = true := by
          unfold pLoop tT
          rw [Bool.not_eq_true] at h2
          rw [h2]; rfl
        rw [if_pos hp] at k
        rw [nn_add]
        exact k
      · rw [b2i_dz, Decidable.not_not, uses_iff hM] at h2
        refine S_sourcePhrase hT hL hjl (by omega) (B_RuleLines_firstLooping_45 (S_usesLooping hT (by omega) (B_RuleLines_firstLooping_48 ⟨fun h3 => ?_, fun h3 => ?_⟩)))
        · rw [b2i_dz, Decidable.not_not, uses_iff hM] at h3
          have hp : pLoop c (tks c V) (j + 1, sn L j, decide (kn L (j + 1) = 5)) = false := by
            unfold pLoop tT tS
            rw [h2, h3]; rfl
          rw [if_neg (by rw [hp]; decide)] at k
          refine B_RuleLines_firstLooping_55 ?_
          rw [nn_add]
          exact ih _ (by omega) k
        · rw [b2i_dz, Decidable.not_not, uses_iff hM] at h3
          have hp : pLoop c (tks c V) (j + 1, sn L j, decide (kn L (j + 1) = 5)) = true := by
            unfold pLoop tT tS
            rw [Bool.not_eq_true] at h3
            rw [h2, h3]; rfl
          rw [if_pos hp] at k
          rw [nn_add]
          exact k
theorem S_firstLooping (hR : RX g n c L V) (k : Q (.inl (some (.int (Int32.ofNat (fline (pLoop c (tks c V)) (rls L L.length 0))))), g, t)) : am_GQ (61, 0, [(0, .ref 19)], [], g, t) Q :=
  B_RuleLines_firstLooping_0 (S_firstLooping_loop hR _ 0 (by omega) k)
theorem names_ok (hM : mX g n c V) {i : Nat} (h : gLb (tks c V) (tk c 240 i) = true) : ∀ x ∈ tk c 240 i, 32 ≤ x → g 18 (x - 32) = Int32.ofNat (vN (tks c V) 26 (x - 32)) ∧ vN (tks c V) 26 (x - 32) ≤ 65 := by
  intro x hx h32
  have h58 := tk_lt c _ _ x hx
  exact ⟨(hM.2 _ (by omega) ((gLb_iff (tks_lt c V) _).mp h x hx h32)).2, vN_le _ _⟩
theorem files_ok (hM : mX g n c V) {i : Nat} (h : gLb (tks c V) (tk c 240 i) = true) (a : Int32) : fF (g 17) (tk c 240 i) a = fF (vF (tks c V) 26) (tk c 240 i) a := by
  refine fF_congr _ _ (fun x hx h32 => ?_)
  have h58 := tk_lt c _ _ x hx
  exact (hM.2 _ (by omega) ((gLb_iff (tks_lt c V) _).mp h x hx h32)).1
theorem S_firstTooLong_loop (hR : RX g n c L V) : ∀ (f j : Nat), j + f = L.length → (∀ q ∈ rls L f j, pLoop c (tks c V) q = false) → Q (.inl (some (.int (Int32.ofNat (fline (pLong c (tks c V)) (rls L f j))))), g, t) → am_GQ (62, 2, [(0, .ref 19), (1, .int (Int32.ofNat j))], [], g, t) Q := by
  obtain ⟨hT, hL, hG, hM⟩ := hR
  have hl := hL.1
  intro f
  induction f with
  | zero =>
    intro j hj hgo k
    refine B_RuleLines_firstTooLong_2 (S_count hL (B_RuleLines_firstTooLong_10 ⟨fun _ => k, fun h => ?_⟩))
    rw [nn_lt (by omega) (by omega)] at h
    omega
  | succ f ih =>
    intro j hj hgo k
    rw [rls] at k hgo
    refine B_RuleLines_firstTooLong_2 (S_count hL (B_RuleLines_firstTooLong_10 ⟨fun h => ?_, fun _ => S_RL_isRule hL (by omega) (B_RuleLines_firstTooLong_18 ⟨fun h => ?_, fun h => ?_⟩)⟩))
    · rw [nn_le (by omega) (by omega)] at h
      omega
    · rw [b2i_dz] at h
      rw [if_neg h] at k hgo
      refine B_RuleLines_firstTooLong_55 ?_
      rw [nn_add]
      exact ih _ (by omega) hgo k
    · rw [b2i_dz, Decidable.not_not] at h
      rw [if_pos h] at hgo
      rw [if_pos h, fline] at k
      obtain ⟨hjl, e, x1, x2, _⟩ := rul_pos hG h
      have hpe := pe_in hT 240 (sn L j) (by omega)
      have h0 := hgo _ List.mem_cons_self
      unfold pLoop tT tS at h0
      rw [Bool.not_eq_false', Bool.and_eq_true] at h0
      refine S_targetPhrase hL hjl (B_RuleLines_firstTooLong_30 (S_namesIn hT (by omega) (names_ok hM h0.1) (B_RuleLines_firstTooLong_33 (S_sourcePhrase hT hL hjl (by omega) (B_RuleLines_firstTooLong_42 (S_namesIn hT (by omega) (names_ok hM h0.2) (B_RuleLines_firstTooLong_45 ?_)))))))
      have b1 : min (fN (vN (tks c V) 26) (tk c 240 (sn L j))) 65 ≤ 65 := Nat.min_le_right _ _
      have b2 : min (fN (vN (tks c V) 26) (tk c 240 (pe c 240 (sn L j) + 1))) 65 ≤ 65 := Nat.min_le_right _ _
      rw [nn_add, nn_add, nn_le (by omega) (by omega), nn_lt (by omega) (by omega)]
      refine ⟨fun h2 => ?_, fun h2 => ?_⟩
      · have hp : pLong c (tks c V) (j + 1, sn L j, decide (kn L (j + 1) = 5)) = false := decide_eq_false (by unfold tT tS; dsimp only; omega)
        rw [if_neg (by rw [hp]; decide)] at k
        refine B_RuleLines_firstTooLong_55 ?_
        rw [nn_add]
        exact ih _ (by omega) (fun q hq => hgo q (List.mem_cons_of_mem _ hq)) k
      · have hp : pLong c (tks c V) (j + 1, sn L j, decide (kn L (j + 1) = 5)) = true := decide_eq_true (by unfold tT tS; dsimp only; omega)
        rw [if_pos hp] at k
        exact k
theorem S_firstTooLong (hR : RX g n c L V) (hgo : ∀ q ∈ rls L L.length 0, pLoop c (tks c V) q = false) (k : Q (.inl (some (.int (Int32.ofNat (fline (pLong c (tks c V)) (rls L L.length 0))))), g, t)) : am_GQ (62, 0, [(0, .ref 19)], [], g, t) Q :=
  B_RuleLines_firstTooLong_0 (S_firstTooLong_loop hR _ 0 (by omega) hgo k)
theorem S_firstDoubled_loop (hR : RX g n c L V) : ∀ (f j : Nat) (a : Int32), j + f = L.length → (∀ q ∈ rls L f j, pLoop c (tks c V) q = false) → Q (.inl (some (.int (Int32.ofNat (fdl (tgR c (tks c V)) (rls L f j) a)))), g, t) → am_GQ (60, 4, [(0, .ref 19), (1, .int a), (2, .int (Int32.ofNat j))], [], g, t) Q := by
  obtain ⟨hT, hL, hG, hM⟩ := hR
  have hl := hL.1
  intro f
  induction f with
  | zero =>
    intro j a hj hgo k
    refine B_RuleLines_firstDoubled_4 (S_count hL (B_RuleLines_firstDoubled_12 ⟨fun _ => k, fun h => ?_⟩))
    rw [nn_lt (by omega) (by omega)] at h
    omega
  | succ f ih =>
    intro j a hj hgo k
    rw [rls] at k hgo
    refine B_RuleLines_firstDoubled_4 (S_count hL (B_RuleLines_firstDoubled_12 ⟨fun h => ?_, fun _ => S_RL_isRule hL (by omega) (B_RuleLines_firstDoubled_20 ⟨fun h => ?_, fun h => ?_⟩)⟩))
    · rw [nn_le (by omega) (by omega)] at h
      omega
    · rw [b2i_dz] at h
      rw [if_neg h] at k hgo
      refine B_RuleLines_firstDoubled_56 ?_
      rw [nn_add]
      exact ih _ _ (by omega) hgo k
    · rw [b2i_dz, Decidable.not_not] at h
      rw [if_pos h] at hgo
      rw [if_pos h, fdl] at k
      obtain ⟨hjl, e, x1, x2, _⟩ := rul_pos hG h
      have h0 := hgo _ List.mem_cons_self
      unfold pLoop tT tS at h0
      rw [Bool.not_eq_false', Bool.and_eq_true] at h0
      have etg : fF (g 17) (tk c 240 (sn L j)) (Int32.ofNat 0) = tgR c (tks c V) (j + 1, sn L j, decide (kn L (j + 1) = 5)) := files_ok hM h0.1 _
      refine S_hasRecipe hL (by omega) (B_RuleLines_firstDoubled_31 ⟨fun h2 => ?_, fun h2 => ?_⟩)
      · rw [b2i_dz] at h2
        rw [if_neg (by rw [decide_eq_true_eq]; exact h2)] at k
        refine B_RuleLines_firstDoubled_56 ?_
        rw [nn_add]
        exact ih _ _ (by omega) (fun q hq => hgo q (List.mem_cons_of_mem _ hq)) k
      · rw [b2i_dz, Decidable.not_not] at h2
        rw [if_pos (by rw [decide_eq_true_eq]; exact h2)] at k
        refine S_targets hT hL hjl (by omega) (B_RuleLines_firstDoubled_40 ?_)
        rw [etg]
        refine ⟨fun h3 => ?_, fun h3 => ?_⟩
        · rw [if_pos h3] at k
          refine S_targets hT hL hjl (by omega) (B_RuleLines_firstDoubled_54 (B_RuleLines_firstDoubled_56 ?_))
          rw [nn_add, etg]
          exact ih _ _ (by omega) (fun q hq => hgo q (List.mem_cons_of_mem _ hq)) k
        · rw [if_neg h3] at k
          rw [nn_add]
          exact k
theorem S_firstDoubled (hR : RX g n c L V) (hgo : ∀ q ∈ rls L L.length 0, pLoop c (tks c V) q = false) (k : Q (.inl (some (.int (Int32.ofNat (fdl (tgR c (tks c V)) (rls L L.length 0) (Int32.ofNat 0))))), g, t)) : am_GQ (60, 0, [(0, .ref 19)], [], g, t) Q :=
  B_RuleLines_firstDoubled_0 (S_firstDoubled_loop hR _ 0 _ (by omega) hgo k)
end
