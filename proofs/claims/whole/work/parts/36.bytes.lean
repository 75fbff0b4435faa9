def byE (x : Int64) (i : Nat) : Int32 := (Int64.toInt32 (Int64.toUInt64 x >>> ((Int32.toInt64 ((Int32.ofNat 8) * Int32.ofNat i)).toUInt64 &&& Int64.toUInt64 63)).toInt64) &&& (Int32.ofNat 255)
def byM (x : Int64) (i : Nat) : Int32 := Int64.toInt32 (x >>> (Int32.toInt64 ((Int32.ofNat 8) * Int32.ofNat i) &&& 63))
def byt (x : Int64) (i : Nat) : Nat := (byE x i).toBitVec.toNat
theorem sh_bits (a : BitVec 64) (k : Nat) (hk : k + 8 ≤ 64) : ((a.sshiftRight k).signExtend 32) &&& 255#32 = ((a >>> k).signExtend 32) &&& 255#32 := by
  apply BitVec.eq_of_getLsbD_eq
  intro i hi
  have h255 : ∀ j, j < 32 → 8 ≤ j → (255#32).getLsbD j = false := by decide +kernel
  rw [BitVec.getLsbD_and, BitVec.getLsbD_and]
  by_cases h8 : 8 ≤ i
  · rw [h255 i hi h8, Bool.and_false, Bool.and_false]
  · rw [BitVec.getLsbD_signExtend, BitVec.getLsbD_signExtend, if_pos (by omega), if_pos (by omega), BitVec.getLsbD_sshiftRight, BitVec.getLsbD_ushiftRight, if_pos (by omega)]
    simp [show ¬ 64 ≤ i by omega]
def shE (i : Nat) : Nat := (((Int32.toInt64 ((Int32.ofNat 8) * Int32.ofNat i)).toUInt64 &&& Int64.toUInt64 63) % 64).toBitVec.toNat
def shM (i : Nat) : Nat := ((Int32.toInt64 ((Int32.ofNat 8) * Int32.ofNat i) &&& 63).toBitVec.smod 64).toNat
theorem shE_eq : ∀ i, i < 8 → shE i = 8 * i := by decide +kernel
theorem shM_eq : ∀ i, i < 8 → shM i = 8 * i := by decide +kernel
theorem byE_bv (x : Int64) (i : Nat) (hi : i < 8) : (byE x i).toBitVec = ((x.toBitVec >>> (8 * i)).signExtend 32) &&& 255#32 := by
  rw [← shE_eq i hi]
  rfl
theorem byM_bv (x : Int64) (i : Nat) (hi : i < 8) : (byM x i).toBitVec = (x.toBitVec.sshiftRight (8 * i)).signExtend 32 := by
  rw [← shM_eq i hi]
  rfl
theorem i32_ext {a b : Int32} (h : a.toBitVec = b.toBitVec) : a = b := Int32.toBitVec_inj.mp h
theorem byM_E (x : Int64) (i : Nat) (hi : i < 8) : byM x i &&& Int32.ofNat 255 = byE x i := by
  apply i32_ext
  rw [byE_bv x i hi, ← sh_bits _ _ (by omega), ← byM_bv x i hi]
  rfl
theorem bv_of {a : Int32} (h : a.toBitVec.toNat < 2147483648) : a = Int32.ofNat a.toBitVec.toNat := by
  apply i32_ext
  show a.toBitVec = BitVec.ofNat 32 a.toBitVec.toNat
  rw [BitVec.ofNat_toNat]
  exact (BitVec.setWidth_eq _).symm
theorem byt_lt (x : Int64) (i : Nat) : byt x i < 256 := by
  unfold byt byE
  rw [Int32.toBitVec_and, BitVec.toNat_and]
  exact Nat.lt_of_le_of_lt Nat.and_le_right (by decide +kernel)
theorem byE_of (x : Int64) (i : Nat) : byE x i = Int32.ofNat (byt x i) := bv_of (by have := byt_lt x i; unfold byt at this; omega)
theorem byM_127 (x : Int64) (i : Nat) (hi : i < 8) (h : byt x i < 128) : byM x i &&& Int32.ofNat 127 = Int32.ofNat (byt x i) := by
  rw [← byE_of]
  apply i32_ext
  apply BitVec.eq_of_toNat_eq
  have e := byM_E x i hi
  unfold byt at h
  rw [← e] at h ⊢
  rw [Int32.toBitVec_and, BitVec.toNat_and] at h ⊢
  rw [Int32.toBitVec_and, BitVec.toNat_and]
  have e127 : (Int32.ofNat 127).toBitVec.toNat = 2 ^ 7 - 1 := by decide +kernel
  have e255 : (Int32.ofNat 255).toBitVec.toNat = 2 ^ 8 - 1 := by decide +kernel
  rw [e255, Nat.and_two_pow_sub_one_eq_mod] at h ⊢
  rw [e127, Nat.and_two_pow_sub_one_eq_mod]
  omega
