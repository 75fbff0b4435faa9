def fb (b line : Nat) : List (Nat × Nat) → Nat
  | [] => if b = 4 then line else 0
  | (_, k) :: r => if k = 0 ∨ (b = 4 ∧ k ≠ 5) ∨ (k = 5 ∧ b < 3) then line + 1 else fb k (line + 1) r
def ptl (c : Nat → Nat) : List (Nat × Nat) → List (Nat × Nat)
  | [] => []
  | (s, k) :: r => if k = 4 then (c (s + 1) - 48, c (s + 4) - 48) :: ptl c r else ptl c r
def nk : List (Nat × Nat) → Nat
  | [] => 9
  | (_, k) :: _ => k
def rul (line : Nat) : List (Nat × Nat) → List Ru
  | [] => []
  | (s, k) :: r => if k = 3 then (line + 1, s, decide (nk r = 5)) :: rul (line + 1) r else rul (line + 1) r
theorem drop_at {L : List (Nat × Nat)} {j : Nat} (h : j < L.length) : L.drop j = (sn L j, kn L j) :: L.drop (j + 1) := by
  rw [List.drop_eq_getElem_cons h]
  have e : L[j]? = some L[j] := List.getElem?_eq_getElem h
  unfold sn kn
  rw [e]
theorem nk_drop (L : List (Nat × Nat)) (j : Nat) : nk (L.drop j) = kn L j := by
  by_cases h : j < L.length
  · rw [drop_at h]; rfl
  · rw [List.drop_eq_nil_of_le (by omega), kn_none (by omega)]; rfl
theorem pts_ptl (c : Nat → Nat) (L : List (Nat × Nat)) : ∀ f j, j + f = L.length → pts c L f j = ptl c (L.drop j)
  | 0, j, h => by rw [List.drop_eq_nil_of_le (by omega)]; rfl
  | f + 1, j, h => by rw [drop_at (by omega), pts, ptl, pts_ptl c L f (j + 1) (by omega)]
theorem rls_rul (L : List (Nat × Nat)) : ∀ f j, j + f = L.length → rls L f j = rul j (L.drop j)
  | 0, j, h => by rw [List.drop_eq_nil_of_le (by omega)]; rfl
  | f + 1, j, h => by rw [drop_at (by omega), rls, rul, rls_rul L f (j + 1) (by omega), nk_drop]
def b0 (k : Nat) : Nat := if k = 9 then 0 else k
theorem fi_fb (L : List (Nat × Nat)) (hk : ∀ s k, (s, k) ∈ L → k < 6) : ∀ f j, j + f = L.length → fi L f j = fb (b0 (pv L j)) j (L.drop j)
  | 0, j, h => by
    rw [List.drop_eq_nil_of_le (by omega), fi, fb]
    have hb : b0 (pv L j) = 4 ↔ pv L j = 4 := by unfold b0; split <;> omega
    by_cases e : pv L j = 4
    · rw [if_pos e, if_pos (hb.mpr e)]
    · rw [if_neg e, if_neg (fun z => e (hb.mp z))]
  | f + 1, j, h => by
    have e : L[j]? = some (L[j].1, L[j].2) := List.getElem?_eq_getElem (by omega)
    have h6 : kn L j < 6 := by
      have := hk _ _ (List.mem_of_getElem? e)
      unfold kn; rw [e]; exact this
    have hp : pv L j < 6 ∨ pv L j = 9 := by
      cases j with
      | zero => exact Or.inr rfl
      | succ j =>
        have e2 : L[j]? = some (L[j].1, L[j].2) := List.getElem?_eq_getElem (by omega)
        have := hk _ _ (List.mem_of_getElem? e2)
        refine Or.inl ?_
        show kn L j < 6
        unfold kn; rw [e2]; exact this
    rw [drop_at (by omega), fi, fb, fi_fb L hk f (j + 1) (by omega)]
    have e3 : b0 (pv L (j + 1)) = kn L j := by
      show b0 (kn L j) = kn L j
      unfold b0
      rw [if_neg (by omega)]
    rw [e3]
    have : (kn L j = 0 ∨ ¬ okL L j) ↔ (kn L j = 0 ∨ (b0 (pv L j) = 4 ∧ kn L j ≠ 5) ∨ (kn L j = 5 ∧ b0 (pv L j) < 3)) := by
      unfold okL b0
      by_cases h5 : kn L j = 5
      · rw [if_pos h5]
        by_cases h9 : pv L j = 9
        · rw [if_pos h9]; omega
        · rw [if_neg h9]
          have hp2 : ¬ pv L j = 0 ∨ pv L j = 0 := by omega
          omega
      · rw [if_neg h5]
        by_cases h9 : pv L j = 9
        · rw [if_pos h9]; omega
        · rw [if_neg h9]; omega
    by_cases hc : kn L j = 0 ∨ ¬ okL L j
    · rw [if_pos hc, if_pos (this.mp hc)]
    · rw [if_neg hc, if_neg (fun z => hc (this.mpr z))]
theorem pat_room (c : Nat → Nat) : ∀ f i s b line, s ≤ i → (b = 4 → line ≠ 0) → fb b line (ls c f i s) = 0 → 8 * (ptl c (ls c f i s)).length + (if b = 4 then 2 else 0) ≤ i + f - s
  | 0, i, s, b, line, hs, hb, h => by
    rw [ls] at h ⊢
    by_cases e : s < i
    · rw [if_pos e, fb, if_pos (Or.inl rfl)] at h
      omega
    · rw [if_neg e, fb] at h
      rw [if_neg e, ptl]
      by_cases e4 : b = 4
      · rw [if_pos e4] at h
        exact absurd h (hb e4)
      · rw [if_neg e4]; simp
  | f + 1, i, s, b, line, hs, hb, h => by
    rw [ls] at h ⊢
    by_cases e : c i = 10
    · rw [if_pos e, fb] at h
      rw [if_pos e, ptl]
      by_cases hc : kd c s i = 0 ∨ (b = 4 ∧ kd c s i ≠ 5) ∨ (kd c s i = 5 ∧ b < 3)
      · rw [if_pos hc] at h; omega
      rw [if_neg hc] at h
      have ih := pat_room c f (i + 1) (i + 1) (kd c s i) (line + 1) (Nat.le_refl _) (fun _ => by omega) h
      by_cases e4 : kd c s i = 4
      · have := (kd_pat e4).1
        rw [if_pos e4] at ih ⊢
        rw [List.length_cons, if_neg (by omega)]
        omega
      · rw [if_neg e4] at ih ⊢
        by_cases e5 : kd c s i = 5
        · have : i ≠ s := by
            intro z
            subst z
            unfold kd at e5
            rw [if_neg (by omega)] at e5
            split at e5
            · omega
            · split at e5
              · omega
              · split at e5
                · omega
                · split at e5 <;> omega
          split <;> omega
        · rw [if_neg (by omega)]; omega
    · rw [if_neg e] at h ⊢
      have := pat_room c f (i + 1) s b line (by omega) hb h
      omega
theorem ls_lt (c : Nat → Nat) : ∀ f i s s' k, (s', k) ∈ ls c f i s → k < 6
  | 0, i, s, s', k, h => by
    rw [ls] at h
    split at h
    · cases List.mem_singleton.mp h; omega
    · cases h
  | f + 1, i, s, s', k, h => by
    rw [ls] at h
    split at h
    · rcases List.mem_cons.mp h with e | h
      · cases e; exact kd_lt c _ _
      · exact ls_lt c f _ _ s' k h
    · exact ls_lt c f _ _ s' k h
theorem fline_z {p : Ru → Bool} : ∀ (R : List Ru), (∀ q ∈ R, q.1 ≠ 0) → fline p R = 0 → ∀ q ∈ R, p q = false
  | [], _, _, q, h => by cases h
  | q :: r, hz, h, q', hq => by
    rw [fline] at h
    by_cases e : p q = true
    · rw [if_pos e] at h
      exact absurd h (hz q List.mem_cons_self)
    · rw [if_neg e] at h
      rcases List.mem_cons.mp hq with e2 | h2
      · rw [e2]; simpa using e
      · exact fline_z r (fun x hx => hz x (List.mem_cons_of_mem _ hx)) h q' h2
theorem rul_no : ∀ (l : List (Nat × Nat)) (line : Nat), ∀ q ∈ rul line l, line < q.1 ∧ q.1 ≤ line + l.length
  | [], _, q, h => by cases h
  | (s, k) :: r, line, q, h => by
    rw [rul] at h
    rw [List.length_cons]
    have ih := rul_no r (line + 1)
    by_cases e : k = 3
    · rw [if_pos e] at h
      rcases List.mem_cons.mp h with e | h
      · rw [e]; dsimp only; omega
      · have := ih q h; omega
    · rw [if_neg e] at h
      have := ih q h; omega
theorem fline_le {p : Ru → Bool} {N : Nat} : ∀ (R : List Ru), (∀ q ∈ R, q.1 ≤ N) → fline p R ≤ N
  | [], _ => Nat.zero_le _
  | q :: r, h => by
    rw [fline]
    split
    · exact h q List.mem_cons_self
    · exact fline_le r (fun x hx => h x (List.mem_cons_of_mem _ hx))
theorem fdl_le {tg : Ru → Int32} {N : Nat} : ∀ (R : List Ru) (a : Int32), (∀ q ∈ R, q.1 ≤ N) → fdl tg R a ≤ N
  | [], _, _ => Nat.zero_le _
  | q :: r, a, h => by
    have h2 := fun x hx => h x (List.mem_cons_of_mem _ hx)
    rw [fdl]
    split
    · split
      · exact fdl_le r _ h2
      · exact h q List.mem_cons_self
    · exact fdl_le r _ h2
theorem fi_le (L : List (Nat × Nat)) : ∀ f j, fi L f j ≤ j + f
  | 0, j => by rw [fi]; split <;> omega
  | f + 1, j => by
    rw [fi]
    split
    · omega
    · have := fi_le L f (j + 1); omega
def rdL (c : Nat → Nat) (n : Nat) : List (Nat × Nat) := ls c n 0 0
def rdT (c : Nat → Nat) (n : Nat) : Nat → List Nat := tks c (mv c (fun _ => none) (rdL c n))
def rdU (c : Nat → Nat) (n : Nat) : List Ru := rul 0 (rdL c n)
def rdF1 (c : Nat → Nat) (n : Nat) : Nat := fb 0 0 (rdL c n)
def rdF2 (c : Nat → Nat) (n : Nat) : Nat := fline (pLoop c (rdT c n)) (rdU c n)
def rdF3 (c : Nat → Nat) (n : Nat) : Nat := fline (pLong c (rdT c n)) (rdU c n)
def rdF4 (c : Nat → Nat) (n : Nat) : Nat := fdl (tgR c (rdT c n)) (rdU c n) (Int32.ofNat 0)
section
variable {g : am_G} {t : Nat} {Q : am_R → Prop} {n : Nat} {c : Nat → Nat}
theorem S_D_read (hT : tX g n c)
    (k1 : rdF1 c n ≠ 0 → ∀ g', g' 8 8 = Int32.ofNat (rdF1 c n) → fr [8, 11, 12, 13, 14, 15, 16, 17, 18] g g' → Q (.inr 0, g', t))
    (k2 : rdF1 c n = 0 → rdF2 c n ≠ 0 → ∀ g', g' 8 8 = Int32.ofNat (rdF2 c n) → fr [8, 11, 12, 13, 14, 15, 16, 17, 18] g g' → Q (.inr 1, g', t))
    (k3 : rdF1 c n = 0 → rdF2 c n = 0 → rdF3 c n ≠ 0 → ∀ g', g' 8 8 = Int32.ofNat (rdF3 c n) → fr [8, 11, 12, 13, 14, 15, 16, 17, 18] g g' → Q (.inr 2, g', t))
    (k4 : rdF1 c n = 0 → rdF2 c n = 0 → rdF3 c n = 0 → rdF4 c n ≠ 0 → ∀ g', g' 8 8 = Int32.ofNat (rdF4 c n) → fr [8, 11, 12, 13, 14, 15, 16, 17, 18] g g' → Q (.inr 2, g', t))
    (k5 : rdF1 c n = 0 → rdF2 c n = 0 → rdF3 c n = 0 → rdF4 c n = 0 → ∀ g', g' 8 8 = Int32.ofNat 0 → (∀ i, i < 32 → g' 21 i = flS (tgR c (rdT c n)) (srR c (rdT c n)) (rdU c n) (fun _ => Int32.ofNat 0) i) → g' 20 3 = flW (tgR c (rdT c n)) (rdU c n) (Int32.ofNat 0) → pX g' (ptl c (rdL c n)) → fr [8, 11, 12, 13, 14, 15, 16, 17, 18, 20, 21, 22, 23] g g' → Q (.inl (some (.int (Int32.ofNat (rdU c n).length))), g', t)) :
    am_GQ (12, 0, [(0, .ref 8)], [], g, t) Q := by
  have hn := hT.1
  have hG : lG c n (rdL c n) := ls_good c n n 0 0 (Nat.le_refl _) (by omega) (fun j a b => by omega)
  have hk6 : ∀ s k, (s, k) ∈ rdL c n → k < 6 := ls_lt c n 0 0
  refine B_D_read_0 (S_split hT (fun g1 hL hf1 => B_D_read_7 (S_firstIll hL (B_D_read_15 ?_))))
  have hl := hL.1
  change (rdL c n).length ≤ 240 at hl
  change lX g1 (rdL c n) at hL
  have e1 : fi (ls c n 0 0) (ls c n 0 0).length 0 = rdF1 c n := fi_fb (rdL c n) hk6 _ 0 (by rw [Nat.zero_add]; rfl)
  have l1 : rdF1 c n ≤ 240 := by rw [← e1]; have := fi_le (ls c n 0 0) (ls c n 0 0).length 0; exact Nat.le_trans this (by rw [Nat.zero_add]; exact hl)
  have eR : rls (rdL c n) (rdL c n).length 0 = rdU c n := rls_rul _ _ 0 (by rw [Nat.zero_add])
  have eP : pts c (rdL c n) (rdL c n).length 0 = ptl c (rdL c n) := pts_ptl c _ _ 0 (by rw [Nat.zero_add])
  have hno : ∀ q ∈ rdU c n, q.1 ≠ 0 ∧ q.1 ≤ 240 := fun q hq => by have := rul_no _ _ q hq; omega
  have l2 : rdF2 c n ≤ 240 := fline_le _ (fun q hq => (hno q hq).2)
  have l3 : rdF3 c n ≤ 240 := fline_le _ (fun q hq => (hno q hq).2)
  have l4 : rdF4 c n ≤ 240 := fdl_le _ _ (fun q hq => (hno q hq).2)
  have f1 : fr [8, 11, 12, 13, 14, 15, 16, 17, 18] g g1 := fr_sub hf1 (by decide)
  rw [e1, w_s]
  refine ⟨fun h => ?_, fun h => ?_⟩
  · rw [nn_eq (by omega) (by omega)] at h
    have hf2 : fr [8] g1 (am_w g1 8 8 (Int32.ofNat (rdF1 c n))) := fr_w (fr_refl _ _) (by decide)
    have f2 := fr_trans f1 (fr_sub hf2 (by decide : ∀ k ∈ [8], k ∈ [8, 11, 12, 13, 14, 15, 16, 17, 18]))
    refine S_learn (tX_fr hT f2 (by decide) (by decide)) (lX_fr hL hf2 (by decide) (by decide) (by decide)) hG (fun g3 hM hf3 => B_D_read_44 ?_)
    have f3 := fr_trans f2 (fr_sub hf3 (by decide : ∀ k ∈ [14, 15, 16, 17, 18], k ∈ [8, 11, 12, 13, 14, 15, 16, 17, 18]))
    have hR : RX g3 n c (rdL c n) (mv c (fun _ => none) (rdL c n)) := ⟨tX_fr hT f3 (by decide) (by decide), lX_fr (lX_fr hL hf2 (by decide) (by decide) (by decide)) hf3 (by decide) (by decide) (by decide), hG, hM⟩
    refine S_firstLooping hR (B_D_read_52 ?_)
    rw [eR, w_s]
    change ((Int32.ofNat (rdF2 c n)) = _ → _) ∧ (¬ (Int32.ofNat (rdF2 c n)) = _ → Q (.inr 1, am_w g3 8 8 (Int32.ofNat (rdF2 c n)), t))
    have hf4 : fr [8] g3 (am_w g3 8 8 (Int32.ofNat (rdF2 c n))) := fr_w (fr_refl _ _) (by decide)
    have f4 := fr_trans f3 (fr_sub hf4 (by decide : ∀ k ∈ [8], k ∈ [8, 11, 12, 13, 14, 15, 16, 17, 18]))
    rw [nn_eq (by omega) (by omega)]
    refine ⟨fun h2 => ?_, fun h2 => k2 h h2 _ w_s f4⟩
    have hgo : ∀ q ∈ rdU c n, pLoop c (rdT c n) q = false := fline_z _ (fun q hq => (hno q hq).1) h2
    have hR4 := RX_fr hR hf4 (by decide)
    refine S_firstTooLong hR4 (by rw [eR]; exact hgo) (B_D_read_78 ?_)
    rw [eR, w_s]
    change (¬ (Int32.ofNat (rdF3 c n)) = _ → am_GQ (12, 99, [(0, .ref 8)], [], am_w (am_w g3 8 8 (Int32.ofNat (rdF2 c n))) 8 8 (Int32.ofNat (rdF3 c n)), t) Q) ∧ ((Int32.ofNat (rdF3 c n)) = _ → am_GQ (60, 0, [(0, .ref 19)], [], am_w (am_w g3 8 8 (Int32.ofNat (rdF2 c n))) 8 8 (Int32.ofNat (rdF3 c n)), t) _)
    have hf5 : fr [8] (am_w g3 8 8 (Int32.ofNat (rdF2 c n))) (am_w (am_w g3 8 8 (Int32.ofNat (rdF2 c n))) 8 8 (Int32.ofNat (rdF3 c n))) := fr_w (fr_refl _ _) (by decide)
    have f5 := fr_trans f4 (fr_sub hf5 (by decide : ∀ k ∈ [8], k ∈ [8, 11, 12, 13, 14, 15, 16, 17, 18]))
    rw [nn_eq (by omega) (by omega)]
    refine ⟨fun h3 => B_D_read_99 ⟨fun h4 => ?_, fun _ => k3 h h2 h3 _ w_s f5⟩, fun h3 => ?_⟩
    · rw [w_s, nn_eq (by omega) (by omega)] at h4
      exact absurd h4 h3
    have hR5 := RX_fr hR4 hf5 (by decide)
    refine S_firstDoubled hR5 (by rw [eR]; exact hgo) (B_D_read_96 ?_)
    rw [eR]
    change am_GQ (12, 99, [(0, .ref 8)], [], am_w _ 8 8 (Int32.ofNat (rdF4 c n)), t) Q
    have hf6 : fr [8] (am_w (am_w g3 8 8 (Int32.ofNat (rdF2 c n))) 8 8 (Int32.ofNat (rdF3 c n))) (am_w (am_w (am_w g3 8 8 (Int32.ofNat (rdF2 c n))) 8 8 (Int32.ofNat (rdF3 c n))) 8 8 (Int32.ofNat (rdF4 c n))) := fr_w (fr_refl _ _) (by decide)
    have f6 := fr_trans f5 (fr_sub hf6 (by decide : ∀ k ∈ [8], k ∈ [8, 11, 12, 13, 14, 15, 16, 17, 18]))
    refine B_D_read_99 ?_
    rw [w_s, nn_eq (by omega) (by omega)]
    refine ⟨fun h4 => ?_, fun h4 => k4 h h2 h3 h4 _ w_s f6⟩
    have hR6 := RX_fr hR5 hf6 (by decide)
    have hpp : (ptl c (rdL c n)).length ≤ 30 := by
      have := pat_room c n 0 0 0 0 (Nat.le_refl _) (fun z => by cases z) h
      change 8 * (ptl c (rdL c n)).length + _ ≤ _ at this
      rw [if_neg (by decide)] at this
      omega
    refine S_fill hR6 (by rw [eR]; exact hgo) (by rw [eP]; exact hpp) (fun g7 z1 z2 z3 z4 => B_D_read_125 ?_)
    rw [eR] at z1 z2 ⊢
    rw [eP] at z3
    refine k5 h h2 h3 h4 g7 ?_ z1 z2 z3 (fr_trans (fr_sub f6 (by decide)) (fr_sub z4 (by decide)))
    rw [z4 8 (by decide), w_s, h4]
  · rw [nn_eq (by omega) (by omega)] at h
    exact k1 h _ w_s (fr_w f1 (by decide))
end
