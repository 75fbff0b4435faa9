def am_okU : Nat → List (List (List (Nat × am_E))) → Bool
  | _, [] => true
  | b, t :: r => am_okT b t && am_okU (b + 1) r
def am_okV : Nat → List (List (List (List (Nat × am_E)))) → Bool
  | _, [] => true
  | b, u :: r => am_okU b u && am_okV (b + 12) r
theorem am_okU_at : ∀ {u : List (List (List (Nat × am_E)))} {b j : Nat} {t : List (List (Nat × am_E))}, am_okU b u = true → am_nth u j = some t → am_okT (b + j) t = true
  | [], _, _, _, _, h => by cases h
  | x :: r, b, 0, t, h, hj => by
    cases hj
    rw [am_okU, Bool.and_eq_true] at h
    exact h.1
  | x :: r, b, j + 1, t, h, hj => by
    rw [am_okU, Bool.and_eq_true] at h
    rw [show b + (j + 1) = b + 1 + j by omega]
    exact am_okU_at (u := r) (b := b + 1) (j := j) h.2 hj
theorem am_okV_at : ∀ {v : List (List (List (List (Nat × am_E))))} {b i : Nat} {u : List (List (List (Nat × am_E)))}, am_okV b v = true → am_nth v i = some u → am_okU (b + 12 * i) u = true
  | [], _, _, _, _, h => by cases h
  | x :: r, b, 0, u, h, hj => by
    cases hj
    rw [am_okV, Bool.and_eq_true] at h
    exact h.1
  | x :: r, b, i + 1, u, h, hj => by
    rw [am_okV, Bool.and_eq_true] at h
    rw [show b + 12 * (i + 1) = b + 12 + 12 * i by omega]
    exact am_okV_at (v := r) (b := b + 12) (i := i) h.2 hj
theorem am_all_ok : am_okV 0 am_tabs = true := by
  simp only [am_okV, am_okU, am_tabs, Nat.reduceAdd, Nat.zero_add, am_ok_0, am_ok_1, am_ok_2, am_ok_3, am_ok_4, am_ok_5, am_ok_6, am_ok_7, am_ok_8, am_ok_9, am_ok_10, am_ok_11, am_ok_12, am_ok_13, am_ok_14, am_ok_15, am_ok_16, am_ok_17, am_ok_18, am_ok_19, am_ok_20, am_ok_21, am_ok_22, am_ok_23, am_ok_24, am_ok_25, am_ok_26, am_ok_27, am_ok_28, am_ok_29, am_ok_30, am_ok_31, am_ok_32, am_ok_33, am_ok_34, am_ok_35, am_ok_36, am_ok_37, am_ok_38, am_ok_39, am_ok_40, am_ok_41, am_ok_42, am_ok_43, am_ok_44, am_ok_45, am_ok_46, am_ok_47, am_ok_48, am_ok_49, am_ok_50, am_ok_51, am_ok_52, am_ok_53, am_ok_54, am_ok_55, am_ok_56, am_ok_57, am_ok_58, am_ok_59, am_ok_60, am_ok_61, am_ok_62, am_ok_63, am_ok_64, am_ok_65, am_ok_66, am_ok_67, am_ok_68, am_ok_69, am_ok_70, am_ok_71, am_ok_72, am_ok_73, am_ok_74, am_ok_75, am_ok_76, am_ok_77, am_ok_78, am_ok_79, am_ok_80, am_ok_81, am_ok_82, am_ok_83, am_ok_84, am_ok_85, am_ok_86, am_ok_87, am_ok_88, am_ok_89, am_ok_90, am_ok_91, am_ok_92, am_ok_93, am_ok_94, am_ok_95, am_ok_96, am_ok_97, am_ok_98, am_ok_99, am_ok_100, am_ok_101, am_ok_102, am_ok_103, am_ok_104, am_ok_105, am_ok_106, am_ok_107, am_ok_108, am_ok_109, am_ok_110, am_ok_111, am_ok_112, am_ok_113, am_ok_114, am_ok_115, am_ok_116, am_ok_117, am_ok_118, am_ok_119, am_ok_120, Bool.and_true, Bool.and_self]
theorem am_code_ok {mi pc : Nat} {e : am_E} (h : am_code mi pc = some e) : am_okE mi (pc, e) = true := by
  unfold am_code at h
  split at h
  · rename_i u hu
    split at h
    · rename_i t ht
      split at h
      · rename_i c hc
        have h1 := am_okV_at am_all_ok hu
        have h2 := am_okU_at h1 ht
        rw [show 0 + 12 * (mi / 12) + mi % 12 = mi by have := Nat.div_add_mod mi 12; omega] at h2
        unfold am_okT at h2
        rw [List.all_eq_true] at h2
        have h3 := h2 c (am_nth_mem hc)
        rw [List.all_eq_true] at h3
        exact h3 _ (am_find_mem h)
      · cases h
    · cases h
  · cases h
theorem am_code_dec {mi pc : Nat} {i : Instr} {nxt kp : Nat} {v : Value} {a b d w : Nat} (h : am_code mi pc = some (i, nxt, kp, v, a, b, d, w)) : ∃ len, decode (am_bytes mi) pc = .ok (i, len) ∧ am_okI mi pc i len nxt v a b d w = true := by
  have h0 := am_code_ok h
  unfold am_okE at h0
  split at h0
  · rename_i i' len hd
    rw [Bool.and_eq_true, decide_eq_true_eq] at h0
    obtain ⟨rfl, h1⟩ := h0
    exact ⟨len, hd, h1⟩
  · cases h0
