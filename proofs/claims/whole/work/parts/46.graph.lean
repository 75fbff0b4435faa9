section
variable {g : am_G} {t : Nat} {Q : am_R → Prop} {x1 : Int32}
theorem S_M_has {u : Int32} {j : Nat} (hj : j < 32) (k : Q (.inl (some (.int (b2i (bt u j)))), g, t)) : am_GQ (99, 0, [(0, .int u), (1, .int (Int32.ofNat j))], [], g, t) Q := by
  refine B_M_has_0 ⟨fun h => am_chk_i rfl ?_, fun h => am_chk_i rfl ?_⟩
  · cases hb : bt u j with
    | true => exact absurd ((bt_has u hj).mpr hb) h
    | false => rw [hb] at k; exact k
  · rw [(bt_has u hj).mp h] at k; exact k
theorem S_graph245 {n : Nat} (hn : n < 32) : ∀ (f m : Nat) (a : Int32), m + f = 32 → am_GQ (98, 229, [(0, .ref 32), (1, .int x1), (2, .int (Int32.ofNat (n + 1)))], [], am_w g 49 n (orB (g 49 n) (g 48) f m a), t) Q → am_GQ (98, 245, [(0, .ref 32), (1, .int x1), (2, .int (Int32.ofNat n)), (3, .int a), (4, .int (Int32.ofNat m))], [], g, t) Q
  | 0, m, a, he, k => by
    have e : m = 32 := by omega
    subst e
    refine B_M_graph_245 ⟨fun _ => am_chk_i (am_in32 hn) ?_, fun h => absurd ((nn_lt (by omega) (by omega)).mp h) (by omega)⟩
    rw [nn_add, nn_nat (by omega)]
    exact k
  | f + 1, m, a, he, k => by
    rw [orB] at k
    refine B_M_graph_245 ⟨fun h => absurd ((nn_le (by omega) (by omega)).mp h) (by omega), fun _ => am_chk_i (am_in32 hn) ?_⟩
    rw [nn_nat (by omega)]
    refine S_M_has (by omega) (B_M_graph_263 ⟨fun h => B_M_graph_276 ?_, fun h => am_chk_i (am_in32 (by omega)) (B_M_graph_276 ?_)⟩)
    · rw [b2i_z] at h
      rw [h, if_neg (by decide)] at k
      rw [nn_add]
      exact S_graph245 hn f (m + 1) a (by omega) k
    · rw [b2i_nz] at h
      rw [if_pos h] at k
      rw [nn_add, nn_nat (by omega)]
      exact S_graph245 hn f (m + 1) _ (by omega) k
end
