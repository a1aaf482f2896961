/-! BITS: three codes of ten bits in one number -/
def f3 (a b c : Nat) : Nat := 2 ^ 10 * (2 ^ 10 * c + b) + a
theorem f3_lt {a b c : Nat} (ha : a < 1024) (hb : b < 1024) (hc : c < 1024) : f3 a b c < 1073741824 := by
  unfold f3; omega
theorem f3_bit {a b c : Nat} (ha : a < 2 ^ 10) (hb : b < 2 ^ 10) (j : Nat) : (f3 a b c).testBit j = if j < 10 then a.testBit j else if j - 10 < 10 then b.testBit (j - 10) else c.testBit (j - 10 - 10) := by
  unfold f3
  rw [Nat.testBit_two_pow_mul_add _ ha, Nat.testBit_two_pow_mul_add _ hb]
theorem bit_hi {a j : Nat} (ha : a < 2 ^ 10) (hj : ¬ j < 10) : a.testBit j = false := Nat.testBit_lt_two_pow (Nat.lt_of_lt_of_le ha (Nat.pow_le_pow_right (by omega) (by omega)))
theorem f3_or {a b c : Nat} (ha : a < 2 ^ 10) (hb : b < 2 ^ 10) (hc : c < 2 ^ 10) : (a ||| (b <<< 10)) ||| (c <<< 20) = f3 a b c := by
  apply Nat.eq_of_testBit_eq
  intro j
  rw [f3_bit ha hb, Nat.testBit_or, Nat.testBit_or, Nat.testBit_shiftLeft, Nat.testBit_shiftLeft]
  by_cases h1 : j < 10
  · have h2 : ¬ 10 ≤ j := by omega
    have h3 : ¬ 20 ≤ j := by omega
    simp [h1, h2, h3]
  · by_cases h2 : j - 10 < 10
    · have h3 : ¬ 20 ≤ j := by omega
      have h4 : 10 ≤ j := by omega
      simp [h1, h2, h3, h4, bit_hi ha h1]
    · have h3 : 20 ≤ j := by omega
      have h4 : 10 ≤ j := by omega
      simp [h1, h2, h3, h4, bit_hi ha h1, bit_hi hb h2]
      congr 1
theorem f3_get0 {a b c : Nat} (ha : a < 2 ^ 10) (hb : b < 2 ^ 10) : f3 a b c &&& 1023 = a := by
  rw [show (1023 : Nat) = 2 ^ 10 - 1 from rfl, Nat.and_two_pow_sub_one_eq_mod]
  unfold f3; omega
theorem f3_get1 {a b c : Nat} (ha : a < 2 ^ 10) (hb : b < 2 ^ 10) : (f3 a b c >>> 10) &&& 1023 = b := by
  rw [show (1023 : Nat) = 2 ^ 10 - 1 from rfl, Nat.and_two_pow_sub_one_eq_mod, Nat.shiftRight_eq_div_pow]
  unfold f3; omega
theorem f3_get2 {a b c : Nat} (ha : a < 2 ^ 10) (hb : b < 2 ^ 10) (hc : c < 2 ^ 10) : (f3 a b c >>> 20) &&& 1023 = c := by
  rw [show (1023 : Nat) = 2 ^ 10 - 1 from rfl, Nat.and_two_pow_sub_one_eq_mod, Nat.shiftRight_eq_div_pow]
  unfold f3; omega
theorem f3_top {a b c j : Nat} (ha : a < 2 ^ 10) (hb : b < 2 ^ 10) (hc : c < 2 ^ 10) (hj : 30 ≤ j) : (f3 a b c).testBit j = false := Nat.testBit_lt_two_pow (Nat.lt_of_lt_of_le (f3_lt ha hb hc) (Nat.le_trans (by decide : 1073741824 ≤ 2 ^ 30) (Nat.pow_le_pow_right (by omega) hj)))
theorem mask_bit (k j : Nat) (hk : k ≤ 20) : ((1023 <<< k) ^^^ 4294967295).testBit j = (decide (j < 32) ^^ (decide (k ≤ j) && decide (j - k < 10))) := by
  rw [Nat.testBit_xor, Nat.testBit_shiftLeft, show (1023 : Nat) = 2 ^ 10 - 1 from rfl, show (4294967295 : Nat) = 2 ^ 32 - 1 from rfl, Nat.testBit_two_pow_sub_one, Nat.testBit_two_pow_sub_one, Bool.xor_comm]
theorem f3_set0 {a b c x : Nat} (ha : a < 2 ^ 10) (hb : b < 2 ^ 10) (hc : c < 2 ^ 10) (hx : x < 2 ^ 10) : (f3 a b c &&& ((1023 <<< 0) ^^^ 4294967295)) ||| (x <<< 0) = f3 x b c := by
  apply Nat.eq_of_testBit_eq
  intro j
  rw [Nat.testBit_or, Nat.testBit_and, mask_bit 0 j (by omega), f3_bit ha hb, f3_bit hx hb, Nat.testBit_shiftLeft]
  by_cases h1 : j < 10
  · have h2 : j < 32 := by omega
    simp [h1, h2]
  · have hx2 := bit_hi hx h1
    by_cases h2 : j < 32
    · simp [h1, h2, hx2]
    · have h3 : c.testBit (j - 10 - 10) = false := bit_hi hc (by omega)
      have h4 : ¬ j - 10 < 10 := by omega
      simp [h1, h2, hx2, h3, h4]
theorem f3_set1 {a b c x : Nat} (ha : a < 2 ^ 10) (hb : b < 2 ^ 10) (hc : c < 2 ^ 10) (hx : x < 2 ^ 10) : (f3 a b c &&& ((1023 <<< 10) ^^^ 4294967295)) ||| (x <<< 10) = f3 a x c := by
  apply Nat.eq_of_testBit_eq
  intro j
  rw [Nat.testBit_or, Nat.testBit_and, mask_bit 10 j (by omega), f3_bit ha hb, f3_bit ha hx, Nat.testBit_shiftLeft]
  by_cases h1 : j < 10
  · have h2 : j < 32 := by omega
    have h3 : ¬ 10 ≤ j := by omega
    simp [h1, h2, h3]
  · by_cases h4 : j - 10 < 10
    · have h2 : j < 32 := by omega
      have h3 : 10 ≤ j := by omega
      simp [h1, h2, h3, h4]
    · have hx2 := bit_hi hx h4
      by_cases h2 : j < 32
      · simp [h1, h2, hx2, h4]
      · have h3 : c.testBit (j - 10 - 10) = false := bit_hi hc (by omega)
        simp [h1, h2, hx2, h3, h4]
theorem f3_set2 {a b c x : Nat} (ha : a < 2 ^ 10) (hb : b < 2 ^ 10) (hc : c < 2 ^ 10) (hx : x < 2 ^ 10) : (f3 a b c &&& ((1023 <<< 20) ^^^ 4294967295)) ||| (x <<< 20) = f3 a b x := by
  apply Nat.eq_of_testBit_eq
  intro j
  rw [Nat.testBit_or, Nat.testBit_and, mask_bit 20 j (by omega), f3_bit ha hb, f3_bit ha hb, Nat.testBit_shiftLeft, show j - 20 = j - 10 - 10 by omega]
  by_cases h1 : j < 10
  · have h2 : j < 32 := by omega
    have h3 : ¬ 20 ≤ j := by omega
    simp [h1, h2, h3]
  · by_cases h4 : j - 10 < 10
    · have h2 : j < 32 := by omega
      have h3 : ¬ 20 ≤ j := by omega
      simp [h1, h2, h3, h4]
    · have h3 : 20 ≤ j := by omega
      by_cases h5 : j - 10 - 10 < 10
      · have h2 : j < 32 := by omega
        simp [h1, h2, h3, h4, h5]
      · have h6 : c.testBit (j - 10 - 10) = false := bit_hi hc h5
        simp [h1, h3, h4, h5, h6]
theorem f3_xor0 {a b c d e f : Nat} (ha : a < 2 ^ 10) (hb : b < 2 ^ 10) (hd : d < 2 ^ 10) (he : e < 2 ^ 10) : (f3 a b c ^^^ f3 d e f) &&& (1023 <<< 0) = 0 ↔ a = d := by
  constructor
  · intro h
    apply Nat.eq_of_testBit_eq
    intro j
    by_cases h1 : j < 10
    · have h2 := congrArg (fun n => n.testBit j) h
      simp only [Nat.testBit_and, Nat.testBit_xor, Nat.testBit_shiftLeft, f3_bit ha hb, f3_bit hd he, Nat.zero_testBit, show (1023 : Nat) = 2 ^ 10 - 1 from rfl, Nat.testBit_two_pow_sub_one] at h2
      simp [h1] at h2
      exact h2
    · rw [bit_hi ha h1, bit_hi hd h1]
  · intro h
    subst h
    apply Nat.eq_of_testBit_eq
    intro j
    rw [Nat.testBit_and, Nat.testBit_xor, Nat.testBit_shiftLeft, f3_bit ha hb, f3_bit ha he, Nat.zero_testBit, show (1023 : Nat) = 2 ^ 10 - 1 from rfl, Nat.testBit_two_pow_sub_one]
    by_cases h1 : j < 10
    · simp [h1]
    · simp [h1]
theorem f3_xor1 {a b c d e f : Nat} (ha : a < 2 ^ 10) (hb : b < 2 ^ 10) (hd : d < 2 ^ 10) (he : e < 2 ^ 10) : (f3 a b c ^^^ f3 d e f) &&& (1023 <<< 10) = 0 ↔ b = e := by
  constructor
  · intro h
    apply Nat.eq_of_testBit_eq
    intro j
    by_cases h1 : j < 10
    · have h2 := congrArg (fun n => n.testBit (j + 10)) h
      simp only [Nat.testBit_and, Nat.testBit_xor, Nat.testBit_shiftLeft, f3_bit ha hb, f3_bit hd he, Nat.zero_testBit, show (1023 : Nat) = 2 ^ 10 - 1 from rfl, Nat.testBit_two_pow_sub_one] at h2
      simp [h1] at h2
      exact h2
    · rw [bit_hi hb h1, bit_hi he h1]
  · intro h
    subst h
    apply Nat.eq_of_testBit_eq
    intro j
    rw [Nat.testBit_and, Nat.testBit_xor, Nat.testBit_shiftLeft, f3_bit ha hb, f3_bit hd hb, Nat.zero_testBit, show (1023 : Nat) = 2 ^ 10 - 1 from rfl, Nat.testBit_two_pow_sub_one]
    by_cases h1 : j < 10
    · have h2 : ¬ 10 ≤ j := by omega
      simp [h2]
    · by_cases h2 : j - 10 < 10
      · simp [h1, h2]
      · simp [h2]
theorem f3_xor2 {a b c d e f : Nat} (ha : a < 2 ^ 10) (hb : b < 2 ^ 10) (hc : c < 2 ^ 10) (hd : d < 2 ^ 10) (he : e < 2 ^ 10) (hf : f < 2 ^ 10) : (f3 a b c ^^^ f3 d e f) &&& (1023 <<< 20) = 0 ↔ c = f := by
  constructor
  · intro h
    apply Nat.eq_of_testBit_eq
    intro j
    by_cases h1 : j < 10
    · have h2 := congrArg (fun n => n.testBit (j + 20)) h
      simp only [Nat.testBit_and, Nat.testBit_xor, Nat.testBit_shiftLeft, f3_bit ha hb, f3_bit hd he, Nat.zero_testBit, show (1023 : Nat) = 2 ^ 10 - 1 from rfl, Nat.testBit_two_pow_sub_one] at h2
      rw [show j + 20 - 10 - 10 = j by omega] at h2
      have h3 : ¬ j + 20 < 10 := by omega
      have h4 : ¬ j + 20 - 10 < 10 := by omega
      simp [h1, h3, h4] at h2
      exact h2
    · rw [bit_hi hc h1, bit_hi hf h1]
  · intro h
    subst h
    apply Nat.eq_of_testBit_eq
    intro j
    rw [Nat.testBit_and, Nat.testBit_xor, Nat.testBit_shiftLeft, f3_bit ha hb, f3_bit hd he, Nat.zero_testBit, show (1023 : Nat) = 2 ^ 10 - 1 from rfl, Nat.testBit_two_pow_sub_one]
    by_cases h1 : 20 ≤ j
    · have h3 : ¬ j < 10 := by omega
      have h4 : ¬ j - 10 < 10 := by omega
      simp [h3, h4]
    · simp [h1]
-- Int32 and bits
theorem ci_bv (n : Nat) : (ci n).toBitVec = BitVec.ofNat 32 n := rfl
theorem ci_and (a b : Nat) : ci a &&& ci b = ci (a &&& b) := by
  apply Int32.toBitVec_inj.mp
  rw [Int32.toBitVec_and, ci_bv, ci_bv, ci_bv, BitVec.ofNat_and]
theorem ci_or (a b : Nat) : ci a ||| ci b = ci (a ||| b) := by
  apply Int32.toBitVec_inj.mp
  rw [Int32.toBitVec_or, ci_bv, ci_bv, ci_bv, BitVec.ofNat_or]
theorem ci_xor (a b : Nat) : ci a ^^^ ci b = ci (a ^^^ b) := by
  apply Int32.toBitVec_inj.mp
  rw [Int32.toBitVec_xor, ci_bv, ci_bv, ci_bv, BitVec.ofNat_xor]
theorem ci_m1 : (-1 : Int32) = ci 4294967295 := by decide
theorem ci_shl {a k : Nat} (hk : k < 32) : ci a <<< (ci k &&& 31) = ci (a <<< k) := by
  have h1 : ci k &&& 31 = ci k := by
    rw [cl_31, ci_and, show (31 : Nat) = 2 ^ 5 - 1 from rfl, Nat.and_two_pow_sub_one_eq_mod, Nat.mod_eq_of_lt (by omega)]
  rw [h1]
  apply Int32.toBitVec_inj.mp
  rw [Int32.toBitVec_shiftLeft, ci_bv, ci_bv, ci_bv]
  have h2 : (BitVec.ofNat 32 k).smod 32 = BitVec.ofNat 32 k := by
    apply BitVec.eq_of_toInt_eq
    rw [BitVec.toInt_smod]
    have e1 : (BitVec.ofNat 32 k).toInt = (k : Int) := by
      rw [BitVec.toInt_eq_toNat_of_lt (by rw [BitVec.toNat_ofNat]; omega), BitVec.toNat_ofNat, Nat.mod_eq_of_lt (by omega)]
    rw [e1]
    have e2 : (32 : BitVec 32).toInt = 32 := by decide
    rw [e2]
    exact Int.fmod_eq_of_lt (by omega) (by omega)
  rw [h2]
  apply BitVec.eq_of_toNat_eq
  rw [BitVec.shiftLeft_eq', BitVec.toNat_shiftLeft, BitVec.toNat_ofNat, BitVec.toNat_ofNat, BitVec.toNat_ofNat, Nat.mod_eq_of_lt (show k < 2 ^ 32 by omega), Nat.shiftLeft_eq, Nat.shiftLeft_eq, Nat.mod_mul_mod]
theorem ci_ushr {a k : Nat} (ha : a < 4294967296) (hk : k < 32) : ((ci a).toUInt32 >>> ((ci k).toUInt32 &&& Int32.toUInt32 31)).toInt32 = ci (a >>> k) := by
  apply Int32.toBitVec_inj.mp
  apply BitVec.eq_of_toNat_eq
  show ((ci a).toUInt32 >>> ((ci k).toUInt32 &&& Int32.toUInt32 31)).toNat = (BitVec.ofNat 32 (a >>> k)).toNat
  have e1 : (ci a).toUInt32.toNat = a := by
    show (BitVec.ofNat 32 a).toNat = a
    rw [BitVec.toNat_ofNat, Nat.mod_eq_of_lt (by omega)]
  have e2 : (ci k).toUInt32.toNat = k := by
    show (BitVec.ofNat 32 k).toNat = k
    rw [BitVec.toNat_ofNat, Nat.mod_eq_of_lt (by omega)]
  have e3 : (Int32.toUInt32 31).toNat = 2 ^ 5 - 1 := by decide
  rw [UInt32.toNat_shiftRight, UInt32.toNat_and, e1, e2, e3, Nat.and_two_pow_sub_one_eq_mod, Nat.mod_eq_of_lt (show k < 2 ^ 5 by omega), Nat.mod_eq_of_lt hk, BitVec.toNat_ofNat]
  exact (Nat.mod_eq_of_lt (Nat.lt_of_le_of_lt (Nat.shiftRight_le a k) (by omega))).symm
