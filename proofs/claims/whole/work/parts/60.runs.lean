abbrev rdyP (F : Nat → Int32) (w : Int32) (i : Nat) : Prop := bt w i = true ∧ F i &&& w = Int32.ofNat 0
def rdF (F : Nat → Int32) (w : Int32) : Nat → Nat → Option Nat
  | 0, _ => none
  | f + 1, i => if rdyP F w i then some i else rdF F w f (i + 1)
theorem rdF_ok (F : Nat → Int32) (w : Int32) : ∀ (f i n : Nat), rdF F w f i = some n → i ≤ n ∧ n < i + f ∧ rdyP F w n
  | 0, i, n, h => by cases h
  | f + 1, i, n, h => by
    rw [rdF] at h
    by_cases e : rdyP F w i
    · rw [if_pos e] at h
      cases h
      exact ⟨Nat.le_refl _, by omega, e⟩
    · rw [if_neg e] at h
      obtain ⟨h1, h2, h3⟩ := rdF_ok F w f (i + 1) n h
      exact ⟨by omega, by omega, h3⟩
theorem rdF_ex (F : Nat → Int32) (w : Int32) : ∀ (f i m : Nat), i ≤ m → m < i + f → rdyP F w m → ∃ n, rdF F w f i = some n
  | 0, i, m, h1, h2, _ => by omega
  | f + 1, i, m, h1, h2, h3 => by
    rw [rdF]
    by_cases e : rdyP F w i
    · exact ⟨i, if_pos e⟩
    · rw [if_neg e]
      by_cases e2 : m = i
      · subst e2
        exact absurd h3 e
      · exact rdF_ex F w f (i + 1) m (by omega) (by omega) h3
def acy (F : Nat → Int32) (w : Int32) : Prop := (∀ m a k, a < 32 → bt (F m) a = true → bt (F a) k = true → bt (F m) k = true) ∧ ∀ n, n < 32 → bt w n = true → bt (F n) n = false
theorem acy_rdy {F : Nat → Int32} {w : Int32} (h : acy F w) : ∀ (d n : Nat), n < 32 → bt w n = true → cnt (fun k => bt (F n) k) 32 ≤ d → ∃ m, m < 32 ∧ rdyP F w m := by
  intro d
  induction d with
  | zero =>
    intro n hn hw hc
    by_cases e : F n &&& w = Int32.ofNat 0
    · exact ⟨n, hn, hw, e⟩
    · obtain ⟨k, k1, k2, k3⟩ := and_nz.mp e
      have := cnt_lt (x := fun k => bt (F k) k && false) (y := fun k => bt (F n) k) 32 (fun i _ hi => by simp at hi) ⟨k, k1, by simp, k2⟩
      omega
  | succ d ih =>
    intro n hn hw hc
    by_cases e : F n &&& w = Int32.ofNat 0
    · exact ⟨n, hn, hw, e⟩
    · obtain ⟨k, k1, k2, k3⟩ := and_nz.mp e
      refine ih k k1 k3 ?_
      have := cnt_lt (x := fun i => bt (F k) i) (y := fun i => bt (F n) i) 32 (fun i _ hi => h.1 n k i k1 k2 hi) ⟨k, k1, h.2 k k1 k3, k2⟩
      omega
theorem w_nz {w : Int32} (h : ¬ w = Int32.ofNat 0) : ∃ n, n < 32 ∧ bt w n = true := by
  apply Classical.byContradiction
  intro hn
  refine h (bt_ext (fun k hk => ?_))
  rw [bt_zero]
  cases hb : bt w k with
  | false => rfl
  | true => exact absurd ⟨k, hk, hb⟩ hn
theorem acy_some {F : Nat → Int32} {w : Int32} (h : acy F w) (hw : ¬ w = Int32.ofNat 0) : ∃ n, n < 32 ∧ rdF F w 32 0 = some n := by
  obtain ⟨n, hn, hb⟩ := w_nz hw
  obtain ⟨m, hm, hr⟩ := acy_rdy h _ n hn hb (Nat.le_refl _)
  obtain ⟨r, hr2⟩ := rdF_ex F w 32 0 m (Nat.zero_le _) (by omega) hr
  have := rdF_ok F w 32 0 r hr2
  exact ⟨r, by omega, hr2⟩
def del (w : Int32) (n : Nat) : Int32 := w &&& (mb n ^^^ (-1))
theorem del_bt (w : Int32) {n k : Nat} (hn : n < 32) (hk : k < 32) : bt (del w n) k = (bt w k && !decide (k = n)) := by
  unfold del
  rw [bt_and, bt_not _ hk, mb_bt hn hk]
theorem cnt_del {x y : Nat → Bool} {n : Nat} (hx : x n = true) (hy : ∀ k, y k = (x k && !decide (k = n))) : ∀ m, cnt x m = cnt y m + (if n < m then 1 else 0)
  | 0 => by rw [if_neg (Nat.not_lt_zero n)]; rfl
  | m + 1 => by
    rw [cnt, cnt, cnt_del hx hy m, hy m]
    by_cases e : m = n
    · subst e
      rw [hx, decide_eq_true rfl, if_neg (Nat.lt_irrefl m), if_pos (show m < m + 1 by omega)]
      simp
    · rw [decide_eq_false e, Bool.not_false, Bool.and_true]
      by_cases e2 : n < m
      · rw [if_pos e2, if_pos (show n < m + 1 by omega)]
        omega
      · rw [if_neg e2, if_neg (show ¬ n < m + 1 by omega)]
        omega
theorem cnt_w {w : Int32} {n : Nat} (hn : n < 32) (h : bt w n = true) : cnt (fun k => bt w k) 32 = cnt (fun k => bt (del w n) k) 32 + 1 := by
  have e := cnt_del (x := fun k => bt w k) (y := fun k => bt w k && !decide (k = n)) h (fun k => rfl) 32
  rw [if_pos hn] at e
  rw [e, cnt_congr (x := fun k => bt (del w n) k) (y := fun k => bt w k && !decide (k = n)) (fun k hk => del_bt w hn hk)]
theorem cnt_z {w : Int32} (h : cnt (fun k => bt w k) 32 = 0) : w = Int32.ofNat 0 := by
  apply Classical.byContradiction
  intro hn
  obtain ⟨n, h1, h2⟩ := w_nz hn
  have := cnt_w h1 h2
  omega
theorem cnt_0 : cnt (fun k => bt (Int32.ofNat 0) k) 32 = 0 := by decide +kernel
theorem acy_del {F : Nat → Int32} {w : Int32} (h : acy F w) {n : Nat} (hn : n < 32) : acy F (del w n) := by
  refine ⟨h.1, fun k hk hb => h.2 k hk ?_⟩
  rw [del_bt w hn hk, Bool.and_eq_true] at hb
  exact hb.1
def runF (F : Nat → Int32) (b : Int32) : Nat → Int32 → Nat → (Nat → Int32) × (Nat → Int32) → (Nat → Int32) × (Nat → Int32)
  | 0, _, _, s => s
  | c + 1, w, k, s => match rdF F w 32 0 with
    | none => s
    | some n => runF F b c (del w n) (k + 1) (fun i => if i = n then b + Int32.ofNat (k + 1) else s.1 i, fun i => if i = k then Int32.ofNat n else s.2 i)
theorem runF_succ {F : Nat → Int32} {b w : Int32} {c k n : Nat} {s : (Nat → Int32) × (Nat → Int32)} (h : rdF F w 32 0 = some n) : runF F b (c + 1) w k s = runF F b c (del w n) (k + 1) (fun i => if i = n then b + Int32.ofNat (k + 1) else s.1 i, fun i => if i = k then Int32.ofNat n else s.2 i) := by
  rw [runF, h]
def okSt (s : Nat → Int32) : Prop := ∀ i, i < 32 → ∃ v, v ≤ 1000000000 ∧ s i = Int32.ofNat v
theorem runF_okS {F : Nat → Int32} {v : Nat} : ∀ (c : Nat) (w : Int32) (k : Nat) (s : (Nat → Int32) × (Nat → Int32)), okSt s.1 → v + k + c ≤ 1000000000 → okSt (runF F (Int32.ofNat v) c w k s).1
  | 0, w, k, s, h, _ => h
  | c + 1, w, k, s, h, hv => by
    cases hr : rdF F w 32 0 with
    | none =>
      rw [runF, hr]
      exact h
    | some n =>
      rw [runF_succ hr]
      refine runF_okS c _ (k + 1) _ (fun i hi => ?_) (by omega)
      dsimp only
      by_cases e : i = n
      · rw [if_pos e, nn_add]
        exact ⟨v + (k + 1), by omega, rfl⟩
      · rw [if_neg e]
        exact h i hi
section
variable {t : Nat} {Q : am_R → Prop} {F : Nat → Int32}
theorem S_firstReady2 {g : am_G} (hF : ∀ i, i < 32 → g 28 i = F i) {w : Int32} {n : Nat} (k : Q (.inl (some (.int (Int32.ofNat n))), g, t)) : ∀ (f i : Nat), i + f = 32 → rdF F w f i = some n → am_GQ (26, 2, [(0, .ref 26), (1, .int w), (2, .int (Int32.ofNat i))], [], g, t) Q
  | 0, i, he, h => by cases h
  | f + 1, i, he, h => by
    have hi : i < 32 := by omega
    rw [rdF] at h
    have next : ¬ rdyP F w i → am_GQ (26, 29, [(0, .ref 26), (1, .int w), (2, .int (Int32.ofNat i))], [], g, t) Q := by
      intro hno
      rw [if_neg hno] at h
      refine B_Graph_firstReady_29 ?_
      rw [nn_add]
      exact S_firstReady2 hF k f (i + 1) (by omega) h
    refine B_Graph_firstReady_2 ⟨fun h => absurd ((nn_le (by omega) (by omega)).mp h) (by omega), fun _ => S_holds hi (B_Graph_firstReady_13 ⟨fun h1 => ?_, fun h1 => am_chk_i (am_in32 hi) ?_⟩)⟩
    · rw [b2i_z] at h1
      exact next (fun z => absurd (h1.symm.trans z.1) (by decide))
    · rw [b2i_nz] at h1
      rw [nn_nat (by omega), hF i hi]
      refine ⟨fun h2 => next (fun z => h2 z.2), fun h2 => ?_⟩
      rw [if_pos (show rdyP F w i from ⟨h1, h2⟩)] at h
      cases h
      exact k
theorem S_firstReady {g : am_G} (hF : ∀ i, i < 32 → g 28 i = F i) {w : Int32} {n : Nat} (h : rdF F w 32 0 = some n) (k : Q (.inl (some (.int (Int32.ofNat n))), g, t)) : am_GQ (26, 0, [(0, .ref 26), (1, .int w)], [], g, t) Q :=
  B_Graph_firstReady_0 (S_firstReady2 hF k 32 0 rfl h)
theorem S_run59 {g0 : am_G} (hF : ∀ i, i < 32 → g0 28 i = F i) {b x1 : Int32} {T : (Nat → Int32) × (Nat → Int32)} {r : Nat}
    (kk : ∀ g', fr [25, 29, 30] g0 g' → (∀ i, i < 32 → g' 25 i = T.1 i) → g' 29 2 = Int32.ofNat r → (∀ i, i < 32 → g' 30 i = T.2 i) → Q (.inl none, g', t)) :
    ∀ (c : Nat) (w : Int32) (k : Nat) (s : (Nat → Int32) × (Nat → Int32)) (g : am_G), cnt (fun i => bt w i) 32 = c → k + c = r → r ≤ 32 → acy F w → fr [25, 29, 30] g0 g → (∀ i, i < 32 → g 25 i = s.1 i) → g 29 2 = Int32.ofNat k → (∀ i, i < 32 → g 30 i = s.2 i) → runF F b c w k s = T →
      am_GQ (15, 59, [(0, .ref 8), (1, .int x1), (2, .int b), (3, .int w), (4, .int (Int32.ofNat (k + 1)))], [], g, t) Q
  | 0, w, k, s, g, hc, hk, hr, ha, hf, h1, h2, h3, hT => by
    have hw := cnt_z hc
    rw [runF] at hT
    subst hT
    have e : k = r := by omega
    subst e
    have fin := kk g hf h1 h2 h3
    exact B_D_runRecipes_59 ⟨fun _ => fin, fun _ => ⟨fun _ => fin, fun h => absurd hw h⟩⟩
  | c + 1, w, k, s, g, hc, hk, hr, ha, hf, h1, h2, h3, hT => by
    have hw : ¬ w = Int32.ofNat 0 := by
      intro e
      rw [e, cnt_0] at hc
      omega
    obtain ⟨n, hn, hr2⟩ := acy_some ha hw
    have hb := (rdF_ok F w 32 0 n hr2).2.2.1
    have hc2 := cnt_w hn hb
    rw [runF_succ hr2] at hT
    refine B_D_runRecipes_59 ⟨fun h => ?_, fun _ => ⟨fun h => absurd h hw, fun _ => S_firstReady (fun i hi => by rw [hf 28 (by decide)]; exact hF i hi) hr2 (B_D_runRecipes_78 (B_Stamps_put_0 (am_chk_i (am_in32 hn) (B_D_runRecipes_93 (B_Report_addRun_0 ?_)))))⟩⟩
    · rw [nn_lt (by omega) (by omega)] at h
      omega
    rw [nn_nat (by omega), w_k (show (29 : Nat) ≠ 30 by decide), w_k (show (29 : Nat) ≠ 25 by decide), h2, nn_le (by omega) (by omega), nn_lt (by omega) (by omega), nn_nat (by omega), nn_add]
    refine ⟨fun h => absurd h (by omega), fun _ => am_chk_i (am_in32 (by omega)) (B_D_runRecipes_102 (S_setOf (B_D_runRecipes_108 ?_)))⟩
    rw [nn_add]
    refine S_run59 hF kk c (del w n) (k + 1) _ _ (by omega) (by omega) hr (acy_del ha hn) (fr_w (fr_w (fr_w hf (by decide)) (by decide)) (by decide)) (fun i hi => ?_) w_s (fun i hi => ?_) hT
    · rw [w_k (show (25 : Nat) ≠ 29 by decide), w_k (show (25 : Nat) ≠ 30 by decide)]
      dsimp only
      by_cases e : i = n
      · rw [if_pos e, e, w_s]
      · rw [if_neg e, w_i e]
        exact h1 i hi
    · rw [w_k (show (30 : Nat) ≠ 29 by decide)]
      dsimp only
      by_cases e : i = k
      · rw [if_pos e, e, w_s]
      · rw [if_neg e, w_i e, w_k (show (30 : Nat) ≠ 25 by decide)]
        exact h3 i hi
theorem S_make297 {g : am_G} (hF : ∀ i, i < 32 → g 49 i = F i) {w x1 x2 x4 x5 x6 : Int32} {n : Nat} (kk : am_GQ (104, 331, [(0, .ref 32), (1, .int x1), (2, .int x2), (3, .int w), (4, .int x4), (5, .int x5), (6, .int x6), (7, .int (Int32.ofNat n))], [], g, t) Q) :
    ∀ (f i : Nat), i + f = 32 → rdF F w f i = some n → am_GQ (104, 297, [(0, .ref 32), (1, .int x1), (2, .int x2), (3, .int w), (4, .int x4), (5, .int x5), (6, .int x6), (7, .int (Int32.ofNat i))], [], g, t) Q
  | 0, i, he, h => by cases h
  | f + 1, i, he, h => by
    have hi : i < 32 := by omega
    by_cases e31 : i = 31
    · subst e31
      obtain ⟨a1, a2, _⟩ := rdF_ok F w _ _ _ h
      have e : n = 31 := by omega
      subst e
      exact B_M_make_297 ⟨fun _ => kk, fun h => absurd ((nn_lt (by omega) (by omega)).mp h) (by omega)⟩
    rw [rdF] at h
    have next : ¬ rdyP F w i → am_GQ (104, 325, [(0, .ref 32), (1, .int x1), (2, .int x2), (3, .int w), (4, .int x4), (5, .int x5), (6, .int x6), (7, .int (Int32.ofNat i))], [], g, t) Q := by
      intro hno
      rw [if_neg hno] at h
      refine B_M_make_325 ?_
      rw [nn_add]
      exact S_make297 hF kk f (i + 1) (by omega) h
    refine B_M_make_297 ⟨fun h => absurd ((nn_le (by omega) (by omega)).mp h) (by omega), fun _ => S_M_has hi (B_M_make_310 ⟨fun h1 => ?_, fun h1 => am_chk_i (am_in32 hi) ?_⟩)⟩
    · rw [b2i_z] at h1
      exact next (fun z => absurd (h1.symm.trans z.1) (by decide))
    · rw [b2i_nz] at h1
      rw [nn_nat (by omega), hF i hi]
      refine ⟨fun h2 => ?_, fun h2 => next (fun z => h2 z.2)⟩
      rw [if_pos (show rdyP F w i from ⟨h1, h2⟩)] at h
      cases h
      exact kk
theorem S_make287 {g0 : am_G} (hF : ∀ i, i < 32 → g0 49 i = F i) {b x1 x2 : Int32} {T : (Nat → Int32) × (Nat → Int32)} {r : Nat}
    (kk : ∀ g', fm [47, 51] [28] g0 g' → (∀ i, i < 32 → g' 47 i = T.1 i) → g' 32 28 = Int32.ofNat r → (∀ i, i < 32 → g' 51 i = T.2 i) → Q (.inl (some (.int (Int32.ofNat r))), g', t)) :
    ∀ (c : Nat) (w : Int32) (k : Nat) (s : (Nat → Int32) × (Nat → Int32)) (g : am_G), cnt (fun i => bt w i) 32 = c → k + c = r → r ≤ 32 → acy F w → fm [47, 51] [28] g0 g → (∀ i, i < 32 → g 47 i = s.1 i) → g 32 28 = Int32.ofNat k → (∀ i, i < 32 → g 51 i = s.2 i) → runF F b c w k s = T →
      am_GQ (104, 287, [(0, .ref 32), (1, .int x1), (2, .int x2), (3, .int w), (4, .int b), (5, .int (Int32.ofNat r)), (6, .int (Int32.ofNat k))], [], g, t) Q
  | 0, w, k, s, g, hc, hk, hr, ha, hf, h1, h2, h3, hT => by
    rw [runF] at hT
    subst hT
    have e : k = r := by omega
    subst e
    exact B_M_make_287 ⟨fun _ => kk g hf h1 h2 h3, fun h => absurd ((nn_lt (by omega) (by omega)).mp h) (by omega)⟩
  | c + 1, w, k, s, g, hc, hk, hr, ha, hf, h1, h2, h3, hT => by
    have hw : ¬ w = Int32.ofNat 0 := by
      intro e
      rw [e, cnt_0] at hc
      omega
    obtain ⟨n, hn, hr2⟩ := acy_some ha hw
    have hb := (rdF_ok F w 32 0 n hr2).2.2.1
    have hc2 := cnt_w hn hb
    rw [runF_succ hr2] at hT
    refine B_M_make_287 ⟨fun h => absurd ((nn_le (by omega) (by omega)).mp h) (by omega), fun _ => ?_⟩
    refine S_make297 (fun i hi => by rw [hf.1 49 (by decide) (by decide)]; exact hF i hi) (B_M_make_331 ?_) 32 0 rfl hr2
    rw [h2, w_s, w_k (show (32 : Nat) ≠ 51 by decide), h2, nn_nat (by omega), nn_nat (by omega), nn_add]
    refine am_chk_i (am_in32 (by omega)) (am_chk_i (am_in32 hn) ?_)
    refine S_make287 hF kk c (del w n) (k + 1) _ _ (by omega) (by omega) hr (acy_del ha hn) (fm_w (fm_f (fm_w hf (by decide) (by decide)) (by decide)) (by decide) (by decide)) (fun i hi => ?_) ?_ (fun i hi => ?_) hT
    · dsimp only
      by_cases e : i = n
      · rw [if_pos e, e, w_s]
      · rw [if_neg e, w_i e, w_k (show (47 : Nat) ≠ 32 by decide), w_k (show (47 : Nat) ≠ 51 by decide)]
        exact h1 i hi
    · rw [w_k (show (32 : Nat) ≠ 47 by decide), w_s]
    · rw [w_k (show (51 : Nat) ≠ 47 by decide), w_k (show (51 : Nat) ≠ 32 by decide)]
      dsimp only
      by_cases e : i = k
      · rw [if_pos e, e, w_s]
      · rw [if_neg e, w_i e]
        exact h3 i hi
end
