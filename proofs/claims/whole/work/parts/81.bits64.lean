/-! BITS OF 64: Long.bitCount, and masks -/
def cj (n : Nat) : Int64 := Int64.ofNat n
theorem cj_add (a b : Nat) : cj a + cj b = cj (a + b) := (Int64.ofNat_add a b).symm
theorem cj_mul (a b : Nat) : cj a * cj b = cj (a * b) := (Int64.ofNat_mul a b).symm
theorem cj_sub {a b : Nat} (h : b ≤ a) : cj a - cj b = cj (a - b) := (Int64.ofNat_sub a b h).symm
theorem cj_bv (n : Nat) : (cj n).toBitVec = BitVec.ofNat 64 n := rfl
theorem cj_and (a b : Nat) : cj a &&& cj b = cj (a &&& b) := by
  apply Int64.toBitVec_inj.mp
  rw [Int64.toBitVec_and, cj_bv, cj_bv, cj_bv, BitVec.ofNat_and]
theorem cj_or (a b : Nat) : cj a ||| cj b = cj (a ||| b) := by
  apply Int64.toBitVec_inj.mp
  rw [Int64.toBitVec_or, cj_bv, cj_bv, cj_bv, BitVec.ofNat_or]
theorem cj_xor (a b : Nat) : cj a ^^^ cj b = cj (a ^^^ b) := by
  apply Int64.toBitVec_inj.mp
  rw [Int64.toBitVec_xor, cj_bv, cj_bv, cj_bv, BitVec.ofNat_xor]
theorem cj_0 : (0 : Int64) = cj 0 := rfl
theorem cj_1 : (1 : Int64) = cj 1 := rfl
theorem cj_m1 : (-1 : Int64) = cj 18446744073709551615 := by decide
theorem cj_sh {a k : Nat} {u : UInt64} (ha : a < 18446744073709551616) (hu : u.toNat = k) (hk : k < 64) : ((Int64.toUInt64 (cj a)) >>> (u &&& Int64.toUInt64 63)).toInt64 = cj (a >>> k) := by
  apply Int64.toBitVec_inj.mp
  apply BitVec.eq_of_toNat_eq
  show ((Int64.toUInt64 (cj a)) >>> (u &&& Int64.toUInt64 63)).toNat = (BitVec.ofNat 64 (a >>> k)).toNat
  have e1 : (Int64.toUInt64 (cj a)).toNat = a := by
    show (BitVec.ofNat 64 a).toNat = a
    rw [BitVec.toNat_ofNat, Nat.mod_eq_of_lt (by omega)]
  have e3 : (Int64.toUInt64 63).toNat = 2 ^ 6 - 1 := by decide
  rw [UInt64.toNat_shiftRight, UInt64.toNat_and, e1, hu, e3, Nat.and_two_pow_sub_one_eq_mod, Nat.mod_eq_of_lt (show k < 2 ^ 6 by omega), Nat.mod_eq_of_lt hk, BitVec.toNat_ofNat]
  exact (Nat.mod_eq_of_lt (Nat.lt_of_le_of_lt (Nat.shiftRight_le a k) (by omega))).symm
theorem and_byte {y b M m : Nat} (hb : b < 256) (hm : m < 256) : (256 * y + b) &&& (256 * M + m) = 256 * (y &&& M) + (b &&& m) := by
  have h1 : ((256 * y + b) &&& (256 * M + m)) / 2 ^ 8 = y &&& M := by
    rw [Nat.and_div_two_pow, show (256 * y + b) / 2 ^ 8 = y by omega, show (256 * M + m) / 2 ^ 8 = M by omega]
  have h2 : ((256 * y + b) &&& (256 * M + m)) % 2 ^ 8 = b &&& m := by
    rw [Nat.and_mod_two_pow, show (256 * y + b) % 2 ^ 8 = b by omega, show (256 * M + m) % 2 ^ 8 = m by omega]
  omega
def bi1 (m x : Nat) : Nat := x - ((x / 2) &&& m)
def bi2 (m x : Nat) : Nat := (x &&& m) + ((x / 4) &&& m)
def bi3 (m x : Nat) : Nat := (x + x / 16) &&& m
theorem by1 : ∀ b, b < 256 → ∀ r, r < 2 → (128 * r + b / 2) &&& 85 = (b / 2) &&& 85 ∧ (b / 2) &&& 85 ≤ b := by decide +kernel
theorem by2 : ∀ b, b < 256 → ∀ r, r < 4 → (64 * r + b / 4) &&& 51 = (b / 4) &&& 51 := by decide +kernel
theorem by2b : ∀ b, b < 256 → bi1 85 b < 256 ∧ bi2 51 (bi1 85 b) ≤ 68 := by decide +kernel
theorem by3 : ∀ b, b ≤ 68 → ∀ r, r ≤ 6 → (16 * r + (b + b / 16)) &&& 15 = (b + b / 16) &&& 15 := by decide +kernel
theorem bi1_step {m y b : Nat} (hb : b < 256) : bi1 (256 * m + 85) (256 * y + b) = 256 * bi1 m y + bi1 85 b := by
  unfold bi1
  have h := by1 b hb (y % 2) (by omega)
  rw [show (256 * y + b) / 2 = 256 * (y / 2) + (128 * (y % 2) + b / 2) by omega, and_byte (by omega) (by omega), h.1]
  have h2 : (y / 2) &&& m ≤ y / 2 := Nat.and_le_left
  have h3 := h.2
  omega
theorem bi2_step {m y b : Nat} (hb : b < 256) : bi2 (256 * m + 51) (256 * y + b) = 256 * bi2 m y + bi2 51 b := by
  unfold bi2
  have h := by2 b hb (y % 4) (by omega)
  rw [show (256 * y + b) / 4 = 256 * (y / 4) + (64 * (y % 4) + b / 4) by omega, and_byte hb (by omega), and_byte (by omega) (by omega), h]
  omega
theorem bi2_nib {m y : Nat} (hm : m % 16 = 3) : bi2 m y % 16 ≤ 6 := by
  unfold bi2
  have h1 : (y &&& m) % 2 ^ 4 ≤ 3 := by
    rw [Nat.and_mod_two_pow, show m % 2 ^ 4 = 3 from hm]; exact Nat.and_le_right
  have h2 : ((y / 4) &&& m) % 2 ^ 4 ≤ 3 := by
    rw [Nat.and_mod_two_pow, show m % 2 ^ 4 = 3 from hm]; exact Nat.and_le_right
  omega
theorem bi3_step {m y b : Nat} (hb : b ≤ 68) (hy : y % 16 ≤ 6) : bi3 (256 * m + 15) (256 * y + b) = 256 * bi3 m y + bi3 15 b := by
  unfold bi3
  have h := by3 b hb (y % 16) hy
  rw [show 256 * y + b + (256 * y + b) / 16 = 256 * (y + y / 16) + (16 * (y % 16) + (b + b / 16)) by omega, and_byte (by omega) (by omega), h]
theorem bi_step {m1 m2 m4 y b : Nat} (hb : b < 256) (hm : m2 % 16 = 3) : bi3 (256 * m4 + 15) (bi2 (256 * m2 + 51) (bi1 (256 * m1 + 85) (256 * y + b))) = 256 * bi3 m4 (bi2 m2 (bi1 m1 y)) + bi3 15 (bi2 51 (bi1 85 b)) := by
  have h := by2b b hb
  rw [bi1_step hb, bi2_step h.1, bi3_step h.2 (bi2_nib hm)]
theorem bi_0 (m1 m2 m4 : Nat) : bi3 m4 (bi2 m2 (bi1 m1 0)) = 0 := by
  simp [bi3, bi2, bi1]
/-- how many of the lowest n bits are set -/
def pcn (n x : Nat) : Nat := sm n (fun i => if x.testBit i = true then 1 else 0)
theorem by4 : ∀ b, b < 256 → bi3 15 (bi2 51 (bi1 85 b)) = pcn 8 b ∧ pcn 8 b ≤ 8 := by decide +kernel
theorem sm_app {a b : Nat} {f : Nat → Nat} : sm (a + b) f = sm a f + sm b (fun i => f (a + i)) := by
  induction b with
  | zero => rfl
  | succ b ih =>
    show sm (a + b) f + f (a + b) = sm a f + (sm b (fun i => f (a + i)) + f (a + b))
    rw [ih]; omega
theorem pcn_8 {n y b : Nat} (hb : b < 256) : pcn (8 + n) (256 * y + b) = pcn 8 b + pcn n y := by
  unfold pcn
  rw [sm_app]
  congr 1
  · refine sm_congr (fun i hi => ?_)
    rw [show 256 * y + b = 2 ^ 8 * y + b from rfl, Nat.testBit_two_pow_mul_add y (show b < 2 ^ 8 from hb), if_pos hi]
  · refine sm_congr (fun i hi => ?_)
    rw [show 256 * y + b = 2 ^ 8 * y + b from rfl, Nat.testBit_two_pow_mul_add y (show b < 2 ^ 8 from hb), if_neg (show ¬ 8 + i < 8 by omega), Nat.add_sub_cancel_left]
theorem bi_all {x : Nat} (hx : x < 1099511627776) : ∃ d0 d1 d2 d3 d4, bi3 1085102592571150095 (bi2 3689348814741910323 (bi1 6148914691236517205 x)) = d0 + 256 * (d1 + 256 * (d2 + 256 * (d3 + 256 * d4))) ∧ (d0 ≤ 8 ∧ d1 ≤ 8 ∧ d2 ≤ 8 ∧ d3 ≤ 8 ∧ d4 ≤ 8) ∧ pcn 40 x = d0 + d1 + d2 + d3 + d4 := by
  obtain ⟨b0, y0, h0, e0⟩ : ∃ b y, b < 256 ∧ x = 256 * y + b := ⟨x % 256, x / 256, by omega, by omega⟩
  obtain ⟨b1, y1, h1, e1⟩ : ∃ b y, b < 256 ∧ y0 = 256 * y + b := ⟨y0 % 256, y0 / 256, by omega, by omega⟩
  obtain ⟨b2, y2, h2, e2⟩ : ∃ b y, b < 256 ∧ y1 = 256 * y + b := ⟨y1 % 256, y1 / 256, by omega, by omega⟩
  obtain ⟨b3, y3, h3, e3⟩ : ∃ b y, b < 256 ∧ y2 = 256 * y + b := ⟨y2 % 256, y2 / 256, by omega, by omega⟩
  obtain ⟨b4, y4, h4, e4⟩ : ∃ b y, b < 256 ∧ y3 = 256 * y + b := ⟨y3 % 256, y3 / 256, by omega, by omega⟩
  have e5 : y4 = 0 := by omega
  refine ⟨pcn 8 b0, pcn 8 b1, pcn 8 b2, pcn 8 b3, pcn 8 b4, ?_, ⟨(by4 b0 h0).2, (by4 b1 h1).2, (by4 b2 h2).2, (by4 b3 h3).2, (by4 b4 h4).2⟩, ?_⟩
  · have s0 := bi_step (m1 := 24019198012642645) (m2 := 14411518807585587) (m4 := 4238682002231055) (y := y0) (b := b0) h0 rfl
    rw [show 256 * 4238682002231055 + 15 = 1085102592571150095 from rfl, show 256 * 14411518807585587 + 51 = 3689348814741910323 from rfl, show 256 * 24019198012642645 + 85 = 6148914691236517205 from rfl, ← e0, (by4 b0 h0).1] at s0
    have s1 := bi_step (m1 := 93824992236885) (m2 := 56294995342131) (m4 := 16557351571215) (y := y1) (b := b1) h1 rfl
    rw [show 256 * 16557351571215 + 15 = 4238682002231055 from rfl, show 256 * 56294995342131 + 51 = 14411518807585587 from rfl, show 256 * 93824992236885 + 85 = 24019198012642645 from rfl, ← e1, (by4 b1 h1).1] at s1
    have s2 := bi_step (m1 := 366503875925) (m2 := 219902325555) (m4 := 64677154575) (y := y2) (b := b2) h2 rfl
    rw [show 256 * 64677154575 + 15 = 16557351571215 from rfl, show 256 * 219902325555 + 51 = 56294995342131 from rfl, show 256 * 366503875925 + 85 = 93824992236885 from rfl, ← e2, (by4 b2 h2).1] at s2
    have s3 := bi_step (m1 := 1431655765) (m2 := 858993459) (m4 := 252645135) (y := y3) (b := b3) h3 rfl
    rw [show 256 * 252645135 + 15 = 64677154575 from rfl, show 256 * 858993459 + 51 = 219902325555 from rfl, show 256 * 1431655765 + 85 = 366503875925 from rfl, ← e3, (by4 b3 h3).1] at s3
    have s4 := bi_step (m1 := 5592405) (m2 := 3355443) (m4 := 986895) (y := y4) (b := b4) h4 rfl
    rw [show 256 * 986895 + 15 = 252645135 from rfl, show 256 * 3355443 + 51 = 858993459 from rfl, show 256 * 5592405 + 85 = 1431655765 from rfl, ← e4, (by4 b4 h4).1] at s4
    rw [e5, bi_0] at s4
    omega
  · rw [show (40 : Nat) = 8 + (8 + (8 + (8 + (8 + 0)))) from rfl, e0, pcn_8 h0, e1, pcn_8 h1, e2, pcn_8 h2, e3, pcn_8 h3, e4, pcn_8 h4]
    show _ + (_ + (_ + (_ + (_ + 0)))) = _
    omega
theorem g_bitCount {x : Nat} (hx : x < 1099511627776) : fJ13_bitCount_95d88 (cj x) = some (ci (pcn 40 x)) := by
  obtain ⟨d0, d1, d2, d3, d4, e, hd, hp⟩ := bi_all hx
  have l1 : (x >>> 1) &&& 6148914691236517205 ≤ x := Nat.le_trans Nat.and_le_left (Nat.shiftRight_le x 1)
  unfold fJ13_bitCount_95d88
  rw [cj_sh (k := 1) (by omega) (by decide) (by omega), show (6148914691236517205 : Int64) = cj 6148914691236517205 from rfl, cj_and, cj_sub l1]
  have e1 : x - ((x >>> 1) &&& 6148914691236517205) = bi1 6148914691236517205 x := rfl
  rw [e1]
  have b1 : bi1 6148914691236517205 x ≤ x := Nat.sub_le _ _
  obtain ⟨i1, h1⟩ : ∃ i1, i1 = bi1 6148914691236517205 x := ⟨_, rfl⟩
  rw [← h1] at e b1 ⊢
  rw [cj_sh (k := 2) (by omega) (by decide) (by omega), show (3689348814741910323 : Int64) = cj 3689348814741910323 from rfl, cj_and, cj_and, cj_add]
  have e2 : (i1 &&& 3689348814741910323) + ((i1 >>> 2) &&& 3689348814741910323) = bi2 3689348814741910323 i1 := by unfold bi2; rw [Nat.shiftRight_eq_div_pow]
  rw [e2]
  have b2 : bi2 3689348814741910323 i1 ≤ i1 + i1 := Nat.add_le_add Nat.and_le_left (Nat.le_trans Nat.and_le_left (Nat.div_le_self _ _))
  obtain ⟨i2, h2⟩ : ∃ i2, i2 = bi2 3689348814741910323 i1 := ⟨_, rfl⟩
  rw [← h2] at e b2 ⊢
  rw [cj_sh (k := 4) (by omega) (by decide) (by omega), cj_add, show (1085102592571150095 : Int64) = cj 1085102592571150095 from rfl, cj_and]
  have e3 : (i2 + i2 >>> 4) &&& 1085102592571150095 = bi3 1085102592571150095 i2 := by unfold bi3; rw [Nat.shiftRight_eq_div_pow]
  rw [e3]
  obtain ⟨i3, h3⟩ : ∃ i3, i3 = bi3 1085102592571150095 i2 := ⟨_, rfl⟩
  rw [← h3] at e ⊢
  rw [cj_sh (k := 8) (by omega) (by decide) (by omega), cj_add, Nat.shiftRight_eq_div_pow]
  obtain ⟨i4, h4⟩ : ∃ i4, i4 = i3 + i3 / 2 ^ 8 := ⟨_, rfl⟩
  rw [← h4]
  rw [cj_sh (k := 16) (by omega) (by decide) (by omega), cj_add, Nat.shiftRight_eq_div_pow]
  obtain ⟨i5, h5⟩ : ∃ i5, i5 = i4 + i4 / 2 ^ 16 := ⟨_, rfl⟩
  rw [← h5]
  rw [cj_sh (k := 32) (by omega) (by decide) (by omega), cj_add, Nat.shiftRight_eq_div_pow]
  show some (Int64.toInt32 (Int64.ofNat (i5 + i5 / 2 ^ 32)) &&& 127) = _
  rw [Int64.toInt32_ofNat', cl_127]
  show some (ci (i5 + i5 / 2 ^ 32) &&& ci 127) = _
  rw [ci_and, show (127 : Nat) = 2 ^ 7 - 1 from rfl, Nat.and_two_pow_sub_one_eq_mod, hp]
  congr 2
  clear hp l1 b1 b2 h1 h2
  have f1 : i3 / 2 ^ 8 = d1 + 256 * (d2 + 256 * (d3 + 256 * d4)) := by omega
  have f2 : i4 = (d0 + d1) + 256 * ((d1 + d2) + 256 * ((d2 + d3) + 256 * ((d3 + d4) + 256 * d4))) := by omega
  have f3 : i4 / 2 ^ 16 = (d2 + d3) + 256 * ((d3 + d4) + 256 * d4) := by omega
  have f4 : i5 = (d0 + d1 + d2 + d3) + 256 * ((d1 + d2 + d3 + d4) + 256 * ((d2 + d3 + d4) + 256 * ((d3 + d4) + 256 * d4))) := by omega
  have f5 : i5 / 2 ^ 32 = d4 := by omega
  rw [f5, f4]
  omega
