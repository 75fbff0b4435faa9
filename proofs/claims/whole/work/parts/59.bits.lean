def nB (x : Int32) : Nat := x.toBitVec.toNat
theorem nB_lt (x : Int32) : nB x < 4294967296 := x.toBitVec.isLt
theorem nB_sub {x y : Int32} (h : nB y ≤ nB x) : nB (x - y) = nB x - nB y := by
  have h1 := nB_lt x
  unfold nB at *
  rw [Int32.toBitVec_sub, BitVec.toNat_sub]
  omega
theorem nB_add {x y : Int32} (h : nB x + nB y < 4294967296) : nB (x + y) = nB x + nB y := by
  unfold nB at *
  rw [Int32.toBitVec_add, BitVec.toNat_add]
  omega
theorem nB_and (x y : Int32) : nB (x &&& y) = nB x &&& nB y := by
  unfold nB
  rw [Int32.toBitVec_and, BitVec.toNat_and]
def shJ (k : Nat) : Nat := ((Int32.toUInt32 (Int32.ofNat k) &&& Int32.toUInt32 (Int32.ofNat 31)) % 32).toBitVec.toNat
def sJr (x : Int32) (k : Nat) : Int32 := (Int32.toUInt32 x >>> (Int32.toUInt32 (Int32.ofNat k) &&& Int32.toUInt32 (Int32.ofNat 31))).toInt32
theorem sJr_bv (x : Int32) (k : Nat) : (sJr x k).toBitVec = x.toBitVec >>> shJ k := rfl
theorem shJ_eq : ∀ k, k < 32 → shJ k = k := by decide +kernel
theorem nB_shr (x : Int32) (k : Nat) (hk : k < 32) : nB (sJr x k) = nB x / 2 ^ k := by
  unfold nB
  rw [sJr_bv, shJ_eq k hk, BitVec.toNat_ushiftRight, Nat.shiftRight_eq_div_pow]
theorem and_split (i : Nat) {a b ma mc : Nat} (hb : b < 2 ^ i) (hm : mc < 2 ^ i) : (2 ^ i * a + b) &&& (2 ^ i * ma + mc) = 2 ^ i * (a &&& ma) + (b &&& mc) := by
  apply Nat.eq_of_testBit_eq
  intro j
  have hc : b &&& mc < 2 ^ i := Nat.lt_of_le_of_lt Nat.and_le_left hb
  rw [Nat.testBit_and, Nat.testBit_two_pow_mul_add _ hb, Nat.testBit_two_pow_mul_add _ hm, Nat.testBit_two_pow_mul_add _ hc]
  by_cases e : j < i
  · rw [if_pos e, if_pos e, if_pos e, Nat.testBit_and]
  · rw [if_neg e, if_neg e, if_neg e, Nat.testBit_and]
theorem and_four {a b c d m : Nat} (hb : b < 256) (hc : c < 256) (hd : d < 256) (hm : m < 256) : (a * 16777216 + b * 65536 + c * 256 + d) &&& (m * 16777216 + m * 65536 + m * 256 + m) = (a &&& m) * 16777216 + (b &&& m) * 65536 + (c &&& m) * 256 + (d &&& m) := by
  have e1 := and_split 8 (a := a) (b := b) (ma := m) (mc := m) (by omega) (by omega)
  have e2 := and_split 8 (a := 2 ^ 8 * a + b) (b := c) (ma := 2 ^ 8 * m + m) (mc := m) (by omega) (by omega)
  have e3 := and_split 8 (a := 2 ^ 8 * (2 ^ 8 * a + b) + c) (b := d) (ma := 2 ^ 8 * (2 ^ 8 * m + m) + m) (mc := m) (by omega) (by omega)
  rw [e2, e1] at e3
  rw [show a * 16777216 + b * 65536 + c * 256 + d = 2 ^ 8 * (2 ^ 8 * (2 ^ 8 * a + b) + c) + d by omega, show m * 16777216 + m * 65536 + m * 256 + m = 2 ^ 8 * (2 ^ 8 * (2 ^ 8 * m + m) + m) + m by omega, e3]
  omega
theorem drop7 (b e : Nat) (hb : b < 128) : (128 * e + b) &&& 85 = b &&& 85 := by
  have := and_split 7 (a := e) (b := b) (ma := 0) (mc := 85) (by omega) (by omega)
  rw [Nat.and_zero] at this
  rw [show 2 ^ 7 * e + b = 128 * e + b by omega, show 2 ^ 7 * 0 + 85 = 85 by omega] at this
  omega
theorem drop6 (b e : Nat) (hb : b < 64) : (64 * e + b) &&& 51 = b &&& 51 := by
  have := and_split 6 (a := e) (b := b) (ma := 0) (mc := 51) (by omega) (by omega)
  rw [Nat.and_zero] at this
  rw [show 2 ^ 6 * e + b = 64 * e + b by omega, show 2 ^ 6 * 0 + 51 = 51 by omega] at this
  omega
def q1 (b : Nat) : Nat := b - ((b / 2) &&& 85)
def q2 (b : Nat) : Nat := (q1 b &&& 51) + ((q1 b / 4) &&& 51)
def q3 (b : Nat) : Nat := (q2 b + q2 b / 16) % 16
theorem q_ok : ∀ b, b < 256 → ((b / 2) &&& 85) ≤ b ∧ q1 b < 256 ∧ q2 b % 16 ≤ 4 ∧ q2 b / 16 ≤ 4 ∧ q3 b = cnt (fun k => Nat.testBit b k) 8 := by decide +kernel
def bC (x0 : Int32) : Int32 :=
  let a := x0 - (sJr x0 1 &&& Int32.ofNat 1431655765)
  let b := (a &&& Int32.ofNat 858993459) + (sJr a 2 &&& Int32.ofNat 858993459)
  let c := (b + sJr b 4) &&& Int32.ofNat 252645135
  let d := c + sJr c 8
  let e := d + sJr d 16
  e &&& Int32.ofNat 63
theorem bC_a {x : Int32} {b0 b1 b2 b3 : Nat} (h0 : b0 < 256) (h1 : b1 < 256) (h2 : b2 < 256) (h3 : b3 < 256) (h : nB x = b3 * 16777216 + b2 * 65536 + b1 * 256 + b0) : nB (x - (sJr x 1 &&& Int32.ofNat 1431655765)) = q1 b3 * 16777216 + q1 b2 * 65536 + q1 b1 * 256 + q1 b0 := by
  have e : nB (sJr x 1 &&& Int32.ofNat 1431655765) = ((b3 / 2) &&& 85) * 16777216 + ((b2 / 2) &&& 85) * 65536 + ((b1 / 2) &&& 85) * 256 + ((b0 / 2) &&& 85) := by
    rw [nB_and, nB_shr x 1 (by omega), h, show nB (Int32.ofNat 1431655765) = 85 * 16777216 + 85 * 65536 + 85 * 256 + 85 by decide +kernel]
    rw [show (b3 * 16777216 + b2 * 65536 + b1 * 256 + b0) / 2 ^ 1 = (b3 / 2) * 16777216 + (128 * (b3 % 2) + b2 / 2) * 65536 + (128 * (b2 % 2) + b1 / 2) * 256 + (128 * (b1 % 2) + b0 / 2) by omega]
    rw [and_four (by omega) (by omega) (by omega) (by omega), drop7 _ _ (by omega), drop7 _ _ (by omega), drop7 _ _ (by omega)]
  have a0 := (q_ok b0 h0).1
  have a1 := (q_ok b1 h1).1
  have a2 := (q_ok b2 h2).1
  have a3 := (q_ok b3 h3).1
  rw [nB_sub (by rw [e, h]; omega), e, h]
  unfold q1
  omega
theorem bC_b {x : Int32} {b0 b1 b2 b3 : Nat} (h0 : b0 < 256) (h1 : b1 < 256) (h2 : b2 < 256) (h3 : b3 < 256) (h : nB x = q1 b3 * 16777216 + q1 b2 * 65536 + q1 b1 * 256 + q1 b0) : nB ((x &&& Int32.ofNat 858993459) + (sJr x 2 &&& Int32.ofNat 858993459)) = q2 b3 * 16777216 + q2 b2 * 65536 + q2 b1 * 256 + q2 b0 := by
  obtain ⟨_, c0, d0, f0, _⟩ := q_ok b0 h0
  obtain ⟨_, c1, d1, f1, _⟩ := q_ok b1 h1
  obtain ⟨_, c2, d2, f2, _⟩ := q_ok b2 h2
  obtain ⟨_, c3, d3, f3, _⟩ := q_ok b3 h3
  have m : nB (Int32.ofNat 858993459) = 51 * 16777216 + 51 * 65536 + 51 * 256 + 51 := by decide +kernel
  have e1 : nB (x &&& Int32.ofNat 858993459) = (q1 b3 &&& 51) * 16777216 + (q1 b2 &&& 51) * 65536 + (q1 b1 &&& 51) * 256 + (q1 b0 &&& 51) := by
    rw [nB_and, h, m, and_four c2 c1 c0 (by omega)]
  have e2 : nB (sJr x 2 &&& Int32.ofNat 858993459) = ((q1 b3 / 4) &&& 51) * 16777216 + ((q1 b2 / 4) &&& 51) * 65536 + ((q1 b1 / 4) &&& 51) * 256 + ((q1 b0 / 4) &&& 51) := by
    rw [nB_and, nB_shr x 2 (by omega), h, m]
    rw [show (q1 b3 * 16777216 + q1 b2 * 65536 + q1 b1 * 256 + q1 b0) / 2 ^ 2 = (q1 b3 / 4) * 16777216 + (64 * (q1 b3 % 4) + q1 b2 / 4) * 65536 + (64 * (q1 b2 % 4) + q1 b1 / 4) * 256 + (64 * (q1 b1 % 4) + q1 b0 / 4) by omega]
    rw [and_four (by omega) (by omega) (by omega) (by omega), drop6 _ _ (by omega), drop6 _ _ (by omega), drop6 _ _ (by omega)]
  have s0 : (q1 b0 &&& 51) + ((q1 b0 / 4) &&& 51) = q2 b0 := rfl
  have s1 : (q1 b1 &&& 51) + ((q1 b1 / 4) &&& 51) = q2 b1 := rfl
  have s2 : (q1 b2 &&& 51) + ((q1 b2 / 4) &&& 51) = q2 b2 := rfl
  have s3 : (q1 b3 &&& 51) + ((q1 b3 / 4) &&& 51) = q2 b3 := rfl
  rw [nB_add (by rw [e1, e2]; omega), e1, e2]
  omega
theorem bC_c {x : Int32} {b0 b1 b2 b3 : Nat} (h0 : b0 < 256) (h1 : b1 < 256) (h2 : b2 < 256) (h3 : b3 < 256) (h : nB x = q2 b3 * 16777216 + q2 b2 * 65536 + q2 b1 * 256 + q2 b0) : nB ((x + sJr x 4) &&& Int32.ofNat 252645135) = q3 b3 * 16777216 + q3 b2 * 65536 + q3 b1 * 256 + q3 b0 := by
  obtain ⟨_, _, d0, f0, _⟩ := q_ok b0 h0
  obtain ⟨_, _, d1, f1, _⟩ := q_ok b1 h1
  obtain ⟨_, _, d2, f2, _⟩ := q_ok b2 h2
  obtain ⟨_, _, d3, f3, _⟩ := q_ok b3 h3
  have m : nB (Int32.ofNat 252645135) = 15 * 16777216 + 15 * 65536 + 15 * 256 + 15 := by decide +kernel
  have e : nB (x + sJr x 4) = (q2 b3 + q2 b3 / 16) * 16777216 + (q2 b2 + q2 b2 / 16 + 16 * (q2 b3 % 16)) * 65536 + (q2 b1 + q2 b1 / 16 + 16 * (q2 b2 % 16)) * 256 + (q2 b0 + q2 b0 / 16 + 16 * (q2 b1 % 16)) := by
    have e1 : nB (sJr x 4) = (q2 b3 / 16) * 16777216 + (q2 b2 / 16 + 16 * (q2 b3 % 16)) * 65536 + (q2 b1 / 16 + 16 * (q2 b2 % 16)) * 256 + (q2 b0 / 16 + 16 * (q2 b1 % 16)) := by
      rw [nB_shr x 4 (by omega), h]
      omega
    rw [nB_add (by rw [e1, h]; omega), e1, h]
    omega
  have p : ∀ y, y &&& 15 = y % 16 := fun y => Nat.and_two_pow_sub_one_eq_mod y 4
  rw [nB_and, e, m, and_four (by omega) (by omega) (by omega) (by omega), p, p, p, p]
  unfold q3
  omega
theorem bC_e {x : Int32} {p0 p1 p2 p3 : Nat} (h0 : p0 ≤ 8) (h1 : p1 ≤ 8) (h2 : p2 ≤ 8) (h3 : p3 ≤ 8) (h : nB x = p3 * 16777216 + p2 * 65536 + p1 * 256 + p0) : nB ((x + sJr x 8 + sJr (x + sJr x 8) 16) &&& Int32.ofNat 63) = p0 + p1 + p2 + p3 := by
  have e1 : nB (x + sJr x 8) = p3 * 16777216 + (p2 + p3) * 65536 + (p1 + p2) * 256 + (p0 + p1) := by
    have e : nB (sJr x 8) = p3 * 65536 + p2 * 256 + p1 := by
      rw [nB_shr x 8 (by omega), h]
      omega
    rw [nB_add (by rw [e, h]; omega), e, h]
    omega
  have e2 : nB (x + sJr x 8 + sJr (x + sJr x 8) 16) = p3 * 16777216 + (p2 + p3) * 65536 + (p1 + p2 + p3) * 256 + (p0 + p1 + p2 + p3) := by
    have e : nB (sJr (x + sJr x 8) 16) = p3 * 256 + (p2 + p3) := by
      rw [nB_shr _ 16 (by omega), e1]
      omega
    rw [nB_add (by rw [e, e1]; omega), e, e1]
    omega
  have p : ∀ y, y &&& 63 = y % 64 := fun y => Nat.and_two_pow_sub_one_eq_mod y 6
  rw [nB_and, e2, show nB (Int32.ofNat 63) = 63 by decide +kernel, p]
  omega
theorem cnt_add (x : Nat → Bool) (n : Nat) : ∀ m, cnt x (n + m) = cnt x n + cnt (fun k => x (n + k)) m
  | 0 => rfl
  | m + 1 => by
    show cnt x (n + m) + (if x (n + m) = true then 1 else 0) = cnt x n + (cnt (fun k => x (n + k)) m + (if x (n + m) = true then 1 else 0))
    rw [cnt_add x n m, Nat.add_assoc]
theorem bit_byte (v i k : Nat) (hk : k < 8) : Nat.testBit v (i + k) = Nat.testBit (v / 2 ^ i % 256) k := by
  rw [show (256 : Nat) = 2 ^ 8 by rfl, Nat.testBit_mod_two_pow, Nat.testBit_div_two_pow, decide_eq_true hk, Bool.true_and, Nat.add_comm]
theorem bC_cnt (x : Int32) : bC x = Int32.ofNat (cnt (fun k => bt x k) 32) := by
  have hv := nB_lt x
  have hb0 : nB x % 256 < 256 := by omega
  have hb1 : nB x / 256 % 256 < 256 := by omega
  have hb2 : nB x / 65536 % 256 < 256 := by omega
  have hb3 : nB x / 16777216 % 256 < 256 := by omega
  have h : nB x = (nB x / 16777216 % 256) * 16777216 + (nB x / 65536 % 256) * 65536 + (nB x / 256 % 256) * 256 + (nB x % 256) := by omega
  obtain ⟨_, _, _, _, r0⟩ := q_ok _ hb0
  obtain ⟨_, _, _, _, r1⟩ := q_ok _ hb1
  obtain ⟨_, _, _, _, r2⟩ := q_ok _ hb2
  obtain ⟨_, _, _, _, r3⟩ := q_ok _ hb3
  have l0 := cnt_le (fun k => Nat.testBit (nB x % 256) k) 8
  have l1 := cnt_le (fun k => Nat.testBit (nB x / 256 % 256) k) 8
  have l2 := cnt_le (fun k => Nat.testBit (nB x / 65536 % 256) k) 8
  have l3 := cnt_le (fun k => Nat.testBit (nB x / 16777216 % 256) k) 8
  have hs := bC_e (by rw [r0]; exact l0) (by rw [r1]; exact l1) (by rw [r2]; exact l2) (by rw [r3]; exact l3) (bC_c hb0 hb1 hb2 hb3 (bC_b hb0 hb1 hb2 hb3 (bC_a hb0 hb1 hb2 hb3 h)))
  change nB (bC x) = _ at hs
  have ebt : ∀ k, bt x k = Nat.testBit (nB x) k := fun k => (BitVec.testBit_toNat x.toBitVec).symm
  have ec : cnt (fun k => bt x k) 32 = cnt (fun k => Nat.testBit (nB x % 256) k) 8 + cnt (fun k => Nat.testBit (nB x / 256 % 256) k) 8 + cnt (fun k => Nat.testBit (nB x / 65536 % 256) k) 8 + cnt (fun k => Nat.testBit (nB x / 16777216 % 256) k) 8 := by
    rw [show (32 : Nat) = 24 + 8 by rfl, cnt_add, show (24 : Nat) = 16 + 8 by rfl, cnt_add, show (16 : Nat) = 8 + 8 by rfl, cnt_add]
    rw [cnt_congr (x := fun k => bt x k) (y := fun k => Nat.testBit (nB x % 256) k) (fun k hk => by
      have := bit_byte (nB x) 0 k hk
      rw [Nat.zero_add, Nat.pow_zero, Nat.div_one] at this
      rw [ebt, this])]
    rw [cnt_congr (x := fun k => bt x (8 + k)) (y := fun k => Nat.testBit (nB x / 256 % 256) k) (fun k hk => by
      rw [ebt, bit_byte (nB x) 8 k hk])]
    rw [cnt_congr (x := fun k => bt x (8 + 8 + k)) (y := fun k => Nat.testBit (nB x / 65536 % 256) k) (fun k hk => by
      rw [ebt, bit_byte (nB x) (8 + 8) k hk])]
    rw [cnt_congr (x := fun k => bt x (8 + 8 + 8 + k)) (y := fun k => Nat.testBit (nB x / 16777216 % 256) k) (fun k hk => by
      rw [ebt, bit_byte (nB x) (8 + 8 + 8) k hk])]
  rw [ec, ← r0, ← r1, ← r2, ← r3, ← hs]
  have hle : nB (bC x) < 2147483648 := by
    rw [hs, r0, r1, r2, r3]
    omega
  exact bv_of hle
theorem S_bitCount {g : am_G} {t : Nat} {Q : am_R → Prop} {x : Int32} (k : Q (.inl (some (.int (Int32.ofNat (cnt (fun k => bt x k) 32)))), g, t)) : am_GQ (120, 0, [(0, .int x)], [], g, t) Q := by
  rw [← bC_cnt] at k
  exact B_J_bitCount_0 k
