theorem nn_toInt {n : Nat} (h : n < 2147483648) : (Int32.ofNat n).toInt = (n : Int) := by
  rw [Int32.toInt_ofNat_of_lt h]
theorem nn_lt {m n : Nat} (hm : m < 2147483648) (hn : n < 2147483648) : Int32.ofNat m < Int32.ofNat n ↔ m < n := by
  rw [Int32.lt_iff_toInt_lt, nn_toInt hm, nn_toInt hn]; omega
theorem nn_le {m n : Nat} (hm : m < 2147483648) (hn : n < 2147483648) : Int32.ofNat m ≤ Int32.ofNat n ↔ m ≤ n := by
  rw [Int32.le_iff_toInt_le, nn_toInt hm, nn_toInt hn]; omega
theorem nn_eq {m n : Nat} (hm : m < 2147483648) (hn : n < 2147483648) : Int32.ofNat m = Int32.ofNat n ↔ m = n := by
  rw [← Int32.toInt_inj, nn_toInt hm, nn_toInt hn]; omega
theorem nn_add (m n : Nat) : Int32.ofNat m + Int32.ofNat n = Int32.ofNat (m + n) := (Int32.ofNat_add m n).symm
theorem nn_nat {n : Nat} (h : n < 2147483648) : (Int32.ofNat n).toNatClampNeg = n := by
  rw [Int32.toNatClampNeg_ofNat_of_lt h]
example : (5 : Int32) = Int32.ofNat 5 := rfl
theorem nn_of {x : Int32} (h : 0 ≤ x) : x = Int32.ofNat x.toNatClampNeg := by
  rw [Int32.le_iff_toInt_le] at h
  have h2 : x.toNatClampNeg < 2147483648 := by
    have := x.toInt_lt
    have h3 : x.toNatClampNeg = x.toInt.toNat := rfl
    omega
  rw [← Int32.toInt_inj, nn_toInt h2]
  have h3 : x.toNatClampNeg = x.toInt.toNat := rfl
  have h4 : (0:Int32).toInt = 0 := rfl
  omega
theorem nn_in {i n : Nat} (h : i < n) (hn : n < 2147483648) : am_in (Int32.ofNat i) n = true := by
  have hi : i < 2147483648 := by omega
  simp only [am_in, nn_nat hi, Bool.and_eq_true, Bool.not_eq_true', decide_eq_false_iff_not, decide_eq_true_eq]
  exact ⟨fun h => absurd ((nn_lt hi (by decide : 0 < 2147483648)).mp h) (Nat.not_lt_zero _), h⟩
def bt (x : Int32) (k : Nat) : Bool := x.toBitVec.getLsbD k
theorem bt_ext {x y : Int32} (h : ∀ k, k < 32 → bt x k = bt y k) : x = y := by
  rw [← Int32.toBitVec_inj]
  exact BitVec.eq_of_getLsbD_eq (fun i hi => h i hi)
theorem bt_or (x y : Int32) (k : Nat) : bt (x ||| y) k = (bt x k || bt y k) := by
  unfold bt; rw [Int32.toBitVec_or, BitVec.getLsbD_or]
theorem bt_and (x y : Int32) (k : Nat) : bt (x &&& y) k = (bt x k && bt y k) := by
  unfold bt; rw [Int32.toBitVec_and, BitVec.getLsbD_and]
theorem bt_not (x : Int32) {k : Nat} (hk : k < 32) : bt (x ^^^ (-1)) k = !bt x k := by
  have h1 : (-1 : Int32).toBitVec = BitVec.allOnes 32 := by decide
  unfold bt
  rw [Int32.toBitVec_xor, h1, BitVec.getLsbD_xor, BitVec.getLsbD_allOnes]
  simp [hk]
theorem bt_zero (k : Nat) : bt (Int32.ofNat 0) k = false := by
  show (0 : BitVec 32).getLsbD k = false
  simp
theorem bt_shift {j : Nat} (hj : j < 32) : ∀ k, k < 32 → bt (Int32.ofNat 1 <<< (Int32.ofNat j &&& Int32.ofNat 31)) k = decide (k = j) := by
  revert j
  decide +kernel
theorem bt_holds (x : Int32) {j : Nat} (hj : j < 32) : (x &&& (Int32.ofNat 1 <<< (Int32.ofNat j &&& Int32.ofNat 31))) = Int32.ofNat 0 ↔ bt x j = false := by
  constructor
  · intro h
    have h2 : bt (x &&& (Int32.ofNat 1 <<< (Int32.ofNat j &&& Int32.ofNat 31))) j = false := by rw [h, bt_zero]
    rw [bt_and, bt_shift hj j hj] at h2
    simpa using h2
  · intro h
    refine bt_ext (fun k hk => ?_)
    rw [bt_and, bt_shift hj k hk, bt_zero]
    by_cases e : k = j
    · subst e; simp [h]
    · simp [e]
theorem bt_shr (x : Int32) {j : Nat} (hj : j < 32) : bt (x >>> (Int32.ofNat j &&& Int32.ofNat 31)) 0 = bt x j := by
  have h1 : (Int32.ofNat j &&& Int32.ofNat 31) = Int32.ofNat j := by
    revert j
    decide +kernel
  rw [h1]
  unfold bt
  rw [Int32.toBitVec_shiftRight]
  have h2 : ((Int32.ofNat j).toBitVec.smod 32).toNat = j := by
    revert j
    decide +kernel
  rw [show (Int32.ofNat j).toBitVec.smod 32 = BitVec.ofNat 32 j by
    apply BitVec.eq_of_toNat_eq
    rw [h2, BitVec.toNat_ofNat]
    omega]
  rw [BitVec.sshiftRight_eq']
  rw [BitVec.getLsbD_sshiftRight]
  have h3 : (BitVec.ofNat 32 j).toNat = j := by rw [BitVec.toNat_ofNat]; omega
  rw [h3]
  simp [hj]
theorem bt_one (k : Nat) (hk : k < 32) : bt (Int32.ofNat 1) k = decide (k = 0) := by
  revert k
  decide +kernel
theorem bt_has (x : Int32) {j : Nat} (hj : j < 32) : ((x >>> (Int32.ofNat j &&& Int32.ofNat 31)) &&& Int32.ofNat 1) = Int32.ofNat 1 ↔ bt x j = true := by
  constructor
  · intro h
    have h2 : bt ((x >>> (Int32.ofNat j &&& Int32.ofNat 31)) &&& Int32.ofNat 1) 0 = true := by rw [h]; rfl
    rw [bt_and, bt_shr x hj] at h2
    simp at h2
    exact h2.1
  · intro h
    refine bt_ext (fun k hk => ?_)
    rw [bt_and, bt_one k hk]
    by_cases e : k = 0
    · subst e; rw [bt_shr x hj, h]; rfl
    · simp [e]
