def orB (u : Int32) (R : Nat → Int32) : Nat → Nat → Int32 → Int32
  | 0, _, a => a
  | f + 1, m, a => orB u R f (m + 1) (if bt u m = true then a ||| R m else a)
def anyB (a : Int32) (R : Nat → Int32) : Nat → Nat → Bool
  | 0, _ => false
  | f + 1, m => if bt a m = true ∧ bt (R m) m = true then true else anyB a R f (m + 1)
def ringB (u : Int32) (R : Nat → Int32) : Bool := anyB (orB u R 26 0 u) R 26 0
section
variable {g : am_G} {t : Nat} {Q : am_R → Prop} {u : Int32}
theorem S_ring36 {a : Int32} : ∀ (f m : Nat), m + f = 26 → Q (.inl (some (.int (b2i (anyB a (g 36) f m)))), g, t) → am_GQ (110, 36, [(0, .ref 32), (1, .int u), (2, .int a), (3, .int (Int32.ofNat m))], [], g, t) Q
  | 0, m, he, k => by
    have e : m = 26 := by omega
    subst e
    exact B_M_ring_36 ⟨fun _ => am_chk_i rfl k, fun h => absurd ((nn_lt (by omega) (by omega)).mp h) (by omega)⟩
  | f + 1, m, he, k => by
    have go : ¬ (bt a m = true ∧ bt (g 36 m) m = true) → am_GQ (110, 67, [(0, .ref 32), (1, .int u), (2, .int a), (3, .int (Int32.ofNat m))], [], g, t) Q := by
      intro hn
      rw [anyB, if_neg hn] at k
      refine B_M_ring_67 ?_
      rw [nn_add]
      exact S_ring36 f (m + 1) (by omega) k
    refine B_M_ring_36 ⟨fun h => absurd ((nn_le (by omega) (by omega)).mp h) (by omega), fun _ => ⟨fun h => go (fun z => h ((bt_has a (by omega)).mpr z.1)), fun h => am_chk_i (am_in26 (by omega)) ?_⟩⟩
    rw [nn_nat (by omega)]
    refine ⟨fun h2 => go (fun z => h2 ((bt_has _ (by omega)).mpr z.2)), fun h2 => am_chk_i rfl ?_⟩
    rw [anyB, if_pos ⟨(bt_has a (by omega)).mp h, (bt_has _ (by omega)).mp h2⟩] at k
    exact k
theorem S_ring4 : ∀ (f m : Nat) (a : Int32), m + f = 26 → Q (.inl (some (.int (b2i (anyB (orB u (g 36) f m a) (g 36) 26 0)))), g, t) → am_GQ (110, 4, [(0, .ref 32), (1, .int u), (2, .int a), (3, .int (Int32.ofNat m))], [], g, t) Q
  | 0, m, a, he, k => by
    have e : m = 26 := by omega
    subst e
    exact B_M_ring_4 ⟨fun _ => S_ring36 26 0 rfl k, fun h => absurd ((nn_lt (by omega) (by omega)).mp h) (by omega)⟩
  | f + 1, m, a, he, k => by
    rw [orB] at k
    refine B_M_ring_4 ⟨fun h => absurd ((nn_le (by omega) (by omega)).mp h) (by omega), fun _ => ⟨fun h => B_M_ring_28 ?_, fun h => am_chk_i (am_in26 (by omega)) (B_M_ring_28 ?_)⟩⟩
    · rw [if_neg (fun z => h ((bt_has u (by omega)).mpr z))] at k
      rw [nn_add]
      exact S_ring4 f (m + 1) a (by omega) k
    · rw [if_pos ((bt_has u (by omega)).mp h)] at k
      rw [nn_add, nn_nat (by omega)]
      exact S_ring4 f (m + 1) _ (by omega) k
theorem S_M_ring (k : Q (.inl (some (.int (b2i (ringB u (g 36))))), g, t)) : am_GQ (110, 0, [(0, .ref 32), (1, .int u)], [], g, t) Q := B_M_ring_0 (S_ring4 26 0 u rfl k)
end
