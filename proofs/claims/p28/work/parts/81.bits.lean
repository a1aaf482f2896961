-- 81.bits64.lean.txt
/-! BITS OF 64: Long.bitCount, and masks -/
def cj (n : Nat) : Int64 := Int64.ofNat n
theorem cj_add (a b : Nat) : cj a + cj b = cj (a + b) := (Int64.ofNat_add a b).symm
theorem cj_mul (a b : Nat) : cj a * cj b = cj (a * b) := (Int64.ofNat_mul a b).symm
theorem cj_sub {a b : Nat} (h : b ≤ a) : cj a - cj b = cj (a - b) := (Int64.ofNat_sub a b h).symm
theorem cj_bv (n : Nat) : (cj n).toBitVec = BitVec.ofNat 64 n := rfl
theorem cj_and (a b : Nat) : cj a &&& cj b = cj (a &&& b) := by
  apply Int64.toBitVec_inj.mp
  rw [Int64.toBitVec_and, cj_bv, cj_bv, cj_bv, BitVec.ofNat_and]
theorem cj_or (a b : Nat) : cj a ||| cj b = cj (a ||| b) := by
  apply Int64.toBitVec_inj.mp
  rw [Int64.toBitVec_or, cj_bv, cj_bv, cj_bv, BitVec.ofNat_or]
theorem cj_xor (a b : Nat) : cj a ^^^ cj b = cj (a ^^^ b) := by
  apply Int64.toBitVec_inj.mp
  rw [Int64.toBitVec_xor, cj_bv, cj_bv, cj_bv, BitVec.ofNat_xor]
theorem cj_0 : (0 : Int64) = cj 0 := rfl
theorem cj_1 : (1 : Int64) = cj 1 := rfl
theorem cj_m1 : (-1 : Int64) = cj 18446744073709551615 := by decide
theorem cj_sh {a k : Nat} {u : UInt64} (ha : a < 18446744073709551616) (hu : u.toNat = k) (hk : k < 64) : ((Int64.toUInt64 (cj a)) >>> (u &&& Int64.toUInt64 63)).toInt64 = cj (a >>> k) := by
  apply Int64.toBitVec_inj.mp
  apply BitVec.eq_of_toNat_eq
  show ((Int64.toUInt64 (cj a)) >>> (u &&& Int64.toUInt64 63)).toNat = (BitVec.ofNat 64 (a >>> k)).toNat
  have e1 : (Int64.toUInt64 (cj a)).toNat = a := by
    show (BitVec.ofNat 64 a).toNat = a
    rw [BitVec.toNat_ofNat, Nat.mod_eq_of_lt (by omega)]
  have e3 : (Int64.toUInt64 63).toNat = 2 ^ 6 - 1 := by decide
  rw [UInt64.toNat_shiftRight, UInt64.toNat_and, e1, hu, e3, Nat.and_two_pow_sub_one_eq_mod, Nat.mod_eq_of_lt (show k < 2 ^ 6 by omega), Nat.mod_eq_of_lt hk, BitVec.toNat_ofNat]
  exact (Nat.mod_eq_of_lt (Nat.lt_of_le_of_lt (Nat.shiftRight_le a k) (by omega))).symm
theorem and_byte {y b M m : Nat} (hb : b < 256) (hm : m < 256) : (256 * y + b) &&& (256 * M + m) = 256 * (y &&& M) + (b &&& m) := by
  have h1 : ((256 * y + b) &&& (256 * M + m)) / 2 ^ 8 = y &&& M := by
    rw [Nat.and_div_two_pow, show (256 * y + b) / 2 ^ 8 = y by omega, show (256 * M + m) / 2 ^ 8 = M by omega]
  have h2 : ((256 * y + b) &&& (256 * M + m)) % 2 ^ 8 = b &&& m := by
    rw [Nat.and_mod_two_pow, show (256 * y + b) % 2 ^ 8 = b by omega, show (256 * M + m) % 2 ^ 8 = m by omega]
  omega
def bi1 (m x : Nat) : Nat := x - ((x / 2) &&& m)
def bi2 (m x : Nat) : Nat := (x &&& m) + ((x / 4) &&& m)
def bi3 (m x : Nat) : Nat := (x + x / 16) &&& m
theorem by1 : ∀ b, b < 256 → ∀ r, r < 2 → (128 * r + b / 2) &&& 85 = (b / 2) &&& 85 ∧ (b / 2) &&& 85 ≤ b := by decide +kernel
theorem by2 : ∀ b, b < 256 → ∀ r, r < 4 → (64 * r + b / 4) &&& 51 = (b / 4) &&& 51 := by decide +kernel
theorem by2b : ∀ b, b < 256 → bi1 85 b < 256 ∧ bi2 51 (bi1 85 b) ≤ 68 := by decide +kernel
theorem by3 : ∀ b, b ≤ 68 → ∀ r, r ≤ 6 → (16 * r + (b + b / 16)) &&& 15 = (b + b / 16) &&& 15 := by decide +kernel
theorem bi1_step {m y b : Nat} (hb : b < 256) : bi1 (256 * m + 85) (256 * y + b) = 256 * bi1 m y + bi1 85 b := by
  unfold bi1
  have h := by1 b hb (y % 2) (by omega)
  rw [show (256 * y + b) / 2 = 256 * (y / 2) + (128 * (y % 2) + b / 2) by omega, and_byte (by omega) (by omega), h.1]
  have h2 : (y / 2) &&& m ≤ y / 2 := Nat.and_le_left
  have h3 := h.2
  omega
theorem bi2_step {m y b : Nat} (hb : b < 256) : bi2 (256 * m + 51) (256 * y + b) = 256 * bi2 m y + bi2 51 b := by
  unfold bi2
  have h := by2 b hb (y % 4) (by omega)
  rw [show (256 * y + b) / 4 = 256 * (y / 4) + (64 * (y % 4) + b / 4) by omega, and_byte hb (by omega), and_byte (by omega) (by omega), h]
  omega
theorem bi2_nib {m y : Nat} (hm : m % 16 = 3) : bi2 m y % 16 ≤ 6 := by
  unfold bi2
  have h1 : (y &&& m) % 2 ^ 4 ≤ 3 := by
    rw [Nat.and_mod_two_pow, show m % 2 ^ 4 = 3 from hm]; exact Nat.and_le_right
  have h2 : ((y / 4) &&& m) % 2 ^ 4 ≤ 3 := by
    rw [Nat.and_mod_two_pow, show m % 2 ^ 4 = 3 from hm]; exact Nat.and_le_right
  omega
theorem bi3_step {m y b : Nat} (hb : b ≤ 68) (hy : y % 16 ≤ 6) : bi3 (256 * m + 15) (256 * y + b) = 256 * bi3 m y + bi3 15 b := by
  unfold bi3
  have h := by3 b hb (y % 16) hy
  rw [show 256 * y + b + (256 * y + b) / 16 = 256 * (y + y / 16) + (16 * (y % 16) + (b + b / 16)) by omega, and_byte (by omega) (by omega), h]
theorem bi_step {m1 m2 m4 y b : Nat} (hb : b < 256) (hm : m2 % 16 = 3) : bi3 (256 * m4 + 15) (bi2 (256 * m2 + 51) (bi1 (256 * m1 + 85) (256 * y + b))) = 256 * bi3 m4 (bi2 m2 (bi1 m1 y)) + bi3 15 (bi2 51 (bi1 85 b)) := by
  have h := by2b b hb
  rw [bi1_step hb, bi2_step h.1, bi3_step h.2 (bi2_nib hm)]
theorem bi_0 (m1 m2 m4 : Nat) : bi3 m4 (bi2 m2 (bi1 m1 0)) = 0 := by
  simp [bi3, bi2, bi1]
/-- how many of the lowest n bits are set -/
def pcn (n x : Nat) : Nat := sm n (fun i => if x.testBit i = true then 1 else 0)
theorem by4 : ∀ b, b < 256 → bi3 15 (bi2 51 (bi1 85 b)) = pcn 8 b ∧ pcn 8 b ≤ 8 := by decide +kernel
theorem sm_app {a b : Nat} {f : Nat → Nat} : sm (a + b) f = sm a f + sm b (fun i => f (a + i)) := by
  induction b with
  | zero => rfl
  | succ b ih =>
    show sm (a + b) f + f (a + b) = sm a f + (sm b (fun i => f (a + i)) + f (a + b))
    rw [ih]; omega
theorem pcn_8 {n y b : Nat} (hb : b < 256) : pcn (8 + n) (256 * y + b) = pcn 8 b + pcn n y := by
  unfold pcn
  rw [sm_app]
  congr 1
  · refine sm_congr (fun i hi => ?_)
    rw [show 256 * y + b = 2 ^ 8 * y + b from rfl, Nat.testBit_two_pow_mul_add y (show b < 2 ^ 8 from hb), if_pos hi]
  · refine sm_congr (fun i hi => ?_)
    rw [show 256 * y + b = 2 ^ 8 * y + b from rfl, Nat.testBit_two_pow_mul_add y (show b < 2 ^ 8 from hb), if_neg (show ¬ 8 + i < 8 by omega), Nat.add_sub_cancel_left]
theorem bi_all {x : Nat} (hx : x < 1099511627776) : ∃ d0 d1 d2 d3 d4, bi3 1085102592571150095 (bi2 3689348814741910323 (bi1 6148914691236517205 x)) = d0 + 256 * (d1 + 256 * (d2 + 256 * (d3 + 256 * d4))) ∧ (d0 ≤ 8 ∧ d1 ≤ 8 ∧ d2 ≤ 8 ∧ d3 ≤ 8 ∧ d4 ≤ 8) ∧ pcn 40 x = d0 + d1 + d2 + d3 + d4 := by
  obtain ⟨b0, y0, h0, e0⟩ : ∃ b y, b < 256 ∧ x = 256 * y + b := ⟨x % 256, x / 256, by omega, by omega⟩
  obtain ⟨b1, y1, h1, e1⟩ : ∃ b y, b < 256 ∧ y0 = 256 * y + b := ⟨y0 % 256, y0 / 256, by omega, by omega⟩
  obtain ⟨b2, y2, h2, e2⟩ : ∃ b y, b < 256 ∧ y1 = 256 * y + b := ⟨y1 % 256, y1 / 256, by omega, by omega⟩
  obtain ⟨b3, y3, h3, e3⟩ : ∃ b y, b < 256 ∧ y2 = 256 * y + b := ⟨y2 % 256, y2 / 256, by omega, by omega⟩
  obtain ⟨b4, y4, h4, e4⟩ : ∃ b y, b < 256 ∧ y3 = 256 * y + b := ⟨y3 % 256, y3 / 256, by omega, by omega⟩
  have e5 : y4 = 0 := by omega
  refine ⟨pcn 8 b0, pcn 8 b1, pcn 8 b2, pcn 8 b3, pcn 8 b4, ?_, ⟨(by4 b0 h0).2, (by4 b1 h1).2, (by4 b2 h2).2, (by4 b3 h3).2, (by4 b4 h4).2⟩, ?_⟩
  · have s0 := bi_step (m1 := 24019198012642645) (m2 := 14411518807585587) (m4 := 4238682002231055) (y := y0) (b := b0) h0 rfl
    rw [show 256 * 4238682002231055 + 15 = 1085102592571150095 from rfl, show 256 * 14411518807585587 + 51 = 3689348814741910323 from rfl, show 256 * 24019198012642645 + 85 = 6148914691236517205 from rfl, ← e0, (by4 b0 h0).1] at s0
    have s1 := bi_step (m1 := 93824992236885) (m2 := 56294995342131) (m4 := 16557351571215) (y := y1) (b := b1) h1 rfl
    rw [show 256 * 16557351571215 + 15 = 4238682002231055 from rfl, show 256 * 56294995342131 + 51 = 14411518807585587 from rfl, show 256 * 93824992236885 + 85 = 24019198012642645 from rfl, ← e1, (by4 b1 h1).1] at s1
    have s2 := bi_step (m1 := 366503875925) (m2 := 219902325555) (m4 := 64677154575) (y := y2) (b := b2) h2 rfl
    rw [show 256 * 64677154575 + 15 = 16557351571215 from rfl, show 256 * 219902325555 + 51 = 56294995342131 from rfl, show 256 * 366503875925 + 85 = 93824992236885 from rfl, ← e2, (by4 b2 h2).1] at s2
    have s3 := bi_step (m1 := 1431655765) (m2 := 858993459) (m4 := 252645135) (y := y3) (b := b3) h3 rfl
    rw [show 256 * 252645135 + 15 = 64677154575 from rfl, show 256 * 858993459 + 51 = 219902325555 from rfl, show 256 * 1431655765 + 85 = 366503875925 from rfl, ← e3, (by4 b3 h3).1] at s3
    have s4 := bi_step (m1 := 5592405) (m2 := 3355443) (m4 := 986895) (y := y4) (b := b4) h4 rfl
    rw [show 256 * 986895 + 15 = 252645135 from rfl, show 256 * 3355443 + 51 = 858993459 from rfl, show 256 * 5592405 + 85 = 1431655765 from rfl, ← e4, (by4 b4 h4).1] at s4
    rw [e5, bi_0] at s4
    omega
  · rw [show (40 : Nat) = 8 + (8 + (8 + (8 + (8 + 0)))) from rfl, e0, pcn_8 h0, e1, pcn_8 h1, e2, pcn_8 h2, e3, pcn_8 h3, e4, pcn_8 h4]
    show _ + (_ + (_ + (_ + (_ + 0)))) = _
    omega
theorem g_bitCount {x : Nat} (hx : x < 1099511627776) : fJ13_bitCount_95d88 (cj x) = some (ci (pcn 40 x)) := by
  obtain ⟨d0, d1, d2, d3, d4, e, hd, hp⟩ := bi_all hx
  have l1 : (x >>> 1) &&& 6148914691236517205 ≤ x := Nat.le_trans Nat.and_le_left (Nat.shiftRight_le x 1)
  unfold fJ13_bitCount_95d88
  rw [cj_sh (k := 1) (by omega) (by decide) (by omega), show (6148914691236517205 : Int64) = cj 6148914691236517205 from rfl, cj_and, cj_sub l1]
  have e1 : x - ((x >>> 1) &&& 6148914691236517205) = bi1 6148914691236517205 x := rfl
  rw [e1]
  have b1 : bi1 6148914691236517205 x ≤ x := Nat.sub_le _ _
  obtain ⟨i1, h1⟩ : ∃ i1, i1 = bi1 6148914691236517205 x := ⟨_, rfl⟩
  rw [← h1] at e b1 ⊢
  rw [cj_sh (k := 2) (by omega) (by decide) (by omega), show (3689348814741910323 : Int64) = cj 3689348814741910323 from rfl, cj_and, cj_and, cj_add]
  have e2 : (i1 &&& 3689348814741910323) + ((i1 >>> 2) &&& 3689348814741910323) = bi2 3689348814741910323 i1 := by unfold bi2; rw [Nat.shiftRight_eq_div_pow]
  rw [e2]
  have b2 : bi2 3689348814741910323 i1 ≤ i1 + i1 := Nat.add_le_add Nat.and_le_left (Nat.le_trans Nat.and_le_left (Nat.div_le_self _ _))
  obtain ⟨i2, h2⟩ : ∃ i2, i2 = bi2 3689348814741910323 i1 := ⟨_, rfl⟩
  rw [← h2] at e b2 ⊢
  rw [cj_sh (k := 4) (by omega) (by decide) (by omega), cj_add, show (1085102592571150095 : Int64) = cj 1085102592571150095 from rfl, cj_and]
  have e3 : (i2 + i2 >>> 4) &&& 1085102592571150095 = bi3 1085102592571150095 i2 := by unfold bi3; rw [Nat.shiftRight_eq_div_pow]
  rw [e3]
  obtain ⟨i3, h3⟩ : ∃ i3, i3 = bi3 1085102592571150095 i2 := ⟨_, rfl⟩
  rw [← h3] at e ⊢
  rw [cj_sh (k := 8) (by omega) (by decide) (by omega), cj_add, Nat.shiftRight_eq_div_pow]
  obtain ⟨i4, h4⟩ : ∃ i4, i4 = i3 + i3 / 2 ^ 8 := ⟨_, rfl⟩
  rw [← h4]
  rw [cj_sh (k := 16) (by omega) (by decide) (by omega), cj_add, Nat.shiftRight_eq_div_pow]
  obtain ⟨i5, h5⟩ : ∃ i5, i5 = i4 + i4 / 2 ^ 16 := ⟨_, rfl⟩
  rw [← h5]
  rw [cj_sh (k := 32) (by omega) (by decide) (by omega), cj_add, Nat.shiftRight_eq_div_pow]
  show some (Int64.toInt32 (Int64.ofNat (i5 + i5 / 2 ^ 32)) &&& 127) = _
  rw [Int64.toInt32_ofNat', cl_127]
  show some (ci (i5 + i5 / 2 ^ 32) &&& ci 127) = _
  rw [ci_and, show (127 : Nat) = 2 ^ 7 - 1 from rfl, Nat.and_two_pow_sub_one_eq_mod, hp]
  congr 2
  clear hp l1 b1 b2 h1 h2
  have f1 : i3 / 2 ^ 8 = d1 + 256 * (d2 + 256 * (d3 + 256 * d4)) := by omega
  have f2 : i4 = (d0 + d1) + 256 * ((d1 + d2) + 256 * ((d2 + d3) + 256 * ((d3 + d4) + 256 * d4))) := by omega
  have f3 : i4 / 2 ^ 16 = (d2 + d3) + 256 * ((d3 + d4) + 256 * d4) := by omega
  have f4 : i5 = (d0 + d1 + d2 + d3) + 256 * ((d1 + d2 + d3 + d4) + 256 * ((d2 + d3 + d4) + 256 * ((d3 + d4) + 256 * d4))) := by omega
  have f5 : i5 / 2 ^ 32 = d4 := by omega
  rw [f5, f4]
  omega
-- 82.mask.lean.txt
/-! MASKS: sets as bits -/
def bn (x : Bool) : Nat := if x = true then 1 else 0
theorem bn_le (x : Bool) : bn x ≤ 1 := by cases x <;> decide
def msk (n : Nat) (h : Nat → Bool) : Nat := sm n (fun s => if h s = true then 2 ^ s else 0)
theorem msk_lt {n : Nat} {h : Nat → Bool} : msk n h < 2 ^ n := by
  induction n with
  | zero => exact Nat.one_pos
  | succ n ih =>
    show msk n h + (if h n = true then 2 ^ n else 0) < 2 ^ (n + 1)
    rw [Nat.pow_succ]
    split <;> omega
theorem msk_bit {n : Nat} {h : Nat → Bool} (i : Nat) : (msk n h).testBit i = (decide (i < n) && h i) := by
  induction n generalizing i with
  | zero =>
    show Nat.testBit 0 i = _
    rw [Nat.zero_testBit, decide_eq_false (by omega)]; rfl
  | succ n ih =>
    have hl := msk_lt (n := n) (h := h)
    show (msk n h + (if h n = true then 2 ^ n else 0)).testBit i = _
    cases hn : h n with
    | false =>
      rw [if_neg (by decide), Nat.add_zero, ih]
      by_cases h1 : i < n
      · rw [decide_eq_true h1, decide_eq_true (by omega)]
      · rw [decide_eq_false h1]
        by_cases h2 : i = n
        · rw [h2, hn, Bool.and_false, Bool.and_false]
        · rw [decide_eq_false (by omega)]
    | true =>
      rw [if_pos rfl, show msk n h + 2 ^ n = 2 ^ n * 1 + msk n h by omega, Nat.testBit_two_pow_mul_add 1 hl]
      by_cases h1 : i < n
      · rw [if_pos h1, ih, decide_eq_true h1, decide_eq_true (by omega)]
      · rw [if_neg h1]
        show Nat.testBit (2 ^ 0) (i - n) = _
        rw [Nat.testBit_two_pow]
        by_cases h2 : i = n
        · subst h2; rw [decide_eq_true (show 0 = i - i by omega), decide_eq_true (by omega), hn]; rfl
        · rw [decide_eq_false (by omega), decide_eq_false (by omega)]; rfl
theorem msk_eq {n : Nat} {h : Nat → Bool} {x : Nat} (hx : ∀ i, x.testBit i = (decide (i < n) && h i)) : x = msk n h := Nat.eq_of_testBit_eq (fun i => by rw [hx, msk_bit])
theorem msk_congr {n : Nat} {h g : Nat → Bool} (e : ∀ i, i < n → h i = g i) : msk n h = msk n g := msk_eq (fun i => by
  rw [msk_bit]
  by_cases hi : i < n
  · rw [e i hi]
  · rw [decide_eq_false hi]; rfl)
theorem msk_and {n : Nat} {h g : Nat → Bool} : msk n h &&& msk n g = msk n (fun s => h s && g s) := msk_eq (fun i => by
  rw [Nat.testBit_and, msk_bit, msk_bit]
  cases decide (i < n) <;> cases h i <;> cases g i <;> rfl)
theorem msk_or {n : Nat} {h g : Nat → Bool} : msk n h ||| msk n g = msk n (fun s => h s || g s) := msk_eq (fun i => by
  rw [Nat.testBit_or, msk_bit, msk_bit]
  cases decide (i < n) <;> cases h i <;> cases g i <;> rfl)
theorem msk_andn {n : Nat} {h g : Nat → Bool} (hn : n ≤ 40) : msk n h &&& (msk n g ^^^ 18446744073709551615) = msk n (fun s => h s && !g s) := msk_eq (fun i => by
  rw [Nat.testBit_and, Nat.testBit_xor, msk_bit, msk_bit, show (18446744073709551615 : Nat) = 2 ^ 64 - 1 from rfl, Nat.testBit_two_pow_sub_one]
  by_cases hi : i < n
  · rw [decide_eq_true hi, decide_eq_true (show i < 64 by omega)]
    cases h i <;> cases g i <;> rfl
  · rw [decide_eq_false hi]; rfl)
theorem msk_snoc {n : Nat} {h : Nat → Bool} : msk n h ||| (if h n = true then 2 ^ n else 0) = msk (n + 1) h := msk_eq (fun i => by
  rw [Nat.testBit_or, msk_bit]
  cases hn : h n with
  | false =>
    rw [if_neg (by decide), Nat.zero_testBit, Bool.or_false]
    by_cases h1 : i < n
    · rw [decide_eq_true h1, decide_eq_true (by omega)]
    · rw [decide_eq_false h1]
      by_cases h2 : i = n
      · rw [h2, hn, Bool.and_false, Bool.and_false]
      · rw [decide_eq_false (by omega)]
  | true =>
    rw [if_pos rfl, Nat.testBit_two_pow]
    by_cases h1 : i < n
    · rw [decide_eq_true h1, decide_eq_false (by omega), decide_eq_true (by omega), Bool.or_false]
    · rw [decide_eq_false h1]
      by_cases h2 : i = n
      · rw [h2, hn, decide_eq_true rfl, decide_eq_true (by omega)]; rfl
      · rw [decide_eq_false (by omega), decide_eq_false (by omega)]; rfl)
theorem msk_0 {n : Nat} : msk n (fun _ => false) = 0 := (msk_eq (fun i => by rw [Nat.zero_testBit, Bool.and_false])).symm
theorem pcn_msk {n : Nat} {h : Nat → Bool} (hn : n ≤ 40) : pcn 40 (msk n h) = sm n (fun s => bn (h s)) := by
  unfold pcn
  rw [show (40 : Nat) = n + (40 - n) by omega, sm_app]
  rw [sm_congr (n := n) (g := fun s => bn (h s)) (fun i hi => by rw [msk_bit, decide_eq_true hi, Bool.true_and]; rfl)]
  rw [sm_zero (n := 40 - n) (fun i hi => by rw [msk_bit, decide_eq_false (by omega), Bool.false_and]; rfl), Nat.add_zero]
theorem msk_b {n : Nat} {h : Nat → Bool} (hn : n ≤ 40) : msk n h < 1099511627776 := by
  have h1 := msk_lt (n := n) (h := h)
  have h2 : 2 ^ n ≤ 2 ^ 40 := Nat.pow_le_pow_right (by omega) hn
  have h3 : (2 : Nat) ^ 40 = 1099511627776 := rfl
  omega
theorem g_bits {n : Nat} {h : Nat → Bool} (hn : n ≤ 40) : fJ13_bitCount_95d88 (cj (msk n h)) = some (ci (sm n (fun s => bn (h s)))) := by
  rw [g_bitCount (msk_b hn), pcn_msk hn]
theorem ci_cj {n : Nat} (h : n < 2147483648) : Int32.toInt64 (ci n) = cj n := Int32.toInt64_ofNat' (by
  show (n : Int) ≤ 2147483647
  omega)
theorem cj_shl {a k : Nat} (hk : k < 64) : cj a <<< (cj k &&& 63) = cj (a <<< k) := by
  have h1 : cj k &&& 63 = cj k := by
    rw [show (63 : Int64) = cj 63 from rfl, cj_and, show (63 : Nat) = 2 ^ 6 - 1 from rfl, Nat.and_two_pow_sub_one_eq_mod, Nat.mod_eq_of_lt (by omega)]
  rw [h1]
  apply Int64.toBitVec_inj.mp
  rw [Int64.toBitVec_shiftLeft, cj_bv, cj_bv, cj_bv]
  have h2 : (BitVec.ofNat 64 k).smod 64 = BitVec.ofNat 64 k := by
    apply BitVec.eq_of_toInt_eq
    rw [BitVec.toInt_smod]
    have e1 : (BitVec.ofNat 64 k).toInt = (k : Int) := by
      rw [BitVec.toInt_eq_toNat_of_lt (by rw [BitVec.toNat_ofNat]; omega), BitVec.toNat_ofNat, Nat.mod_eq_of_lt (by omega)]
    rw [e1]
    have e2 : (64 : BitVec 64).toInt = 64 := by decide
    rw [e2]
    exact Int.fmod_eq_of_lt (by omega) (by omega)
  rw [h2]
  apply BitVec.eq_of_toNat_eq
  rw [BitVec.shiftLeft_eq', BitVec.toNat_shiftLeft, BitVec.toNat_ofNat, BitVec.toNat_ofNat, BitVec.toNat_ofNat, Nat.mod_eq_of_lt (show k < 2 ^ 64 by omega), Nat.shiftLeft_eq, Nat.shiftLeft_eq, Nat.mod_mul_mod]
theorem g_shl1 {k : Nat} (hk : k < 64) : (1 : Int64) <<< ((Int32.toInt64 (ci k)) &&& 63) = cj (2 ^ k) := by
  rw [ci_cj (by omega), cj_1, cj_shl hk, Nat.one_shiftLeft]
/-- whether a digit is not 0 -/
def nzd (v : Nat → Nat → Nat → Nat) (q s j : Nat) : Bool := decide (v q s j ≠ 0)
theorem nzd_t {v : Nat → Nat → Nat → Nat} {q s j : Nat} (h : v q s j ≠ 0) : nzd v q s j = true := decide_eq_true h
theorem nzd_f {v : Nat → Nat → Nat → Nat} {q s j : Nat} (h : v q s j = 0) : nzd v q s j = false := decide_eq_false (fun hh => hh h)
theorem cj_or_bit {n : Nat} {h : Nat → Bool} {x : Bool} (hx : h n = x) : cj (msk n h) ||| cj (if x = true then 2 ^ n else 0) = cj (msk (n + 1) h) := by
  rw [cj_or, ← hx, msk_snoc]
theorem g_filledPlaces {S : ZS} {w c n t p a b d sq k q s : Nat} {g : Nat → Nat} {v : Nat → Nat → Nat → Nat} (h : zWy S w c n t p a b d sq k g v) (hq : q < k) (hs : s < 3) : fX4_filledPlaces w (ci q) (ci s) S = some (cj (msk (sz3 a b d s) (nzd v q s))) := by
  have hb := sz3_b h.2.1 (s := s)
  have hc := h.2.2.2.2.1
  have hpb := h.1.b
  unfold fX4_filledPlaces
  show ziter _ zF (cj (msk 0 (nzd v q s)), ci 0) = _
  refine ziter_seq (fun j => (cj (msk j (nzd v q s)), ci j)) _ (sz3 a b d s) zF (by rw [zF_eq]; omega) (fun j hj => ?_) ?_
  · have hv := h.2.2.2.2.2.1 q hq s hs j hj
    unfold fX4_filledPlaces_B5 fX4_filledPlaces_J38
    simp only []
    rw [zgR_ob h.wa rfl, Option.bind_some, zcl_cu hc, g_sizeOf hc hs, Option.bind_some, if_neg (by rw [ci_le (by omega) (by omega)]; omega), zcl_ob h.wa, g_number h hq hs hj, Option.bind_some]
    by_cases h0 : v q s j = 0
    · rw [if_pos (by rw [h0]; rfl), cj_0, cl_1, ci_add]
      have := cj_or_bit (n := j) (nzd_f h0)
      rw [if_neg (by decide)] at this
      rw [this]
    · rw [if_neg (by rw [cl_0, ci_eq (by omega) (by omega)]; exact h0), g_shl1 (by omega), cl_1, ci_add]
      have := cj_or_bit (n := j) (nzd_t h0)
      rw [if_pos rfl] at this
      rw [this]
  · unfold fX4_filledPlaces_B5
    simp only []
    rw [zgR_ob h.wa rfl, Option.bind_some, zcl_cu hc, g_sizeOf hc hs, Option.bind_some, if_pos (by rw [ci_le (by omega) (by omega)]; omega), zex_some]
theorem g_filledProducts {S : ZS} {w c n t p a b d sq k s j : Nat} {g : Nat → Nat} {v : Nat → Nat → Nat → Nat} (h : zWy S w c n t p a b d sq k g v) (hs : s < 3) (hj : j < sz3 a b d s) : fX4_filledProducts w (ci s) (ci j) S = some (cj (msk k (fun q => nzd v q s j))) := by
  have hb := sz3_b h.2.1 (s := s)
  have hk := h.kk
  have hpb := h.1.b
  unfold fX4_filledProducts
  show ziter _ zF (cj (msk 0 (fun q => nzd v q s j)), ci 0) = _
  refine ziter_seq (fun q => (cj (msk q (fun q => nzd v q s j)), ci q)) _ k zF (by rw [zF_eq]; omega) (fun q hq => ?_) ?_
  · have hv := h.2.2.2.2.2.1 q hq s hs j hj
    unfold fX4_filledProducts_B5 fX4_filledProducts_J34
    simp only []
    rw [zgI_ob h.wa rfl, Option.bind_some, if_neg (by rw [ci_le (by omega) (by omega)]; omega), zcl_ob h.wa, g_number h hq hs hj, Option.bind_some]
    by_cases h0 : v q s j = 0
    · rw [if_pos (by rw [h0]; rfl), cj_0, cl_1, ci_add]
      have := cj_or_bit (n := q) (h := fun q => nzd v q s j) (nzd_f h0)
      rw [if_neg (by decide)] at this
      rw [this]
    · rw [if_neg (by rw [cl_0, ci_eq (by omega) (by omega)]; exact h0), g_shl1 (by omega), cl_1, ci_add]
      have := cj_or_bit (n := q) (h := fun q => nzd v q s j) (nzd_t h0)
      rw [if_pos rfl] at this
      rw [this]
  · unfold fX4_filledProducts_B5
    simp only []
    rw [zgI_ob h.wa rfl, Option.bind_some, if_pos (by rw [ci_le (by omega) (by omega)]; omega), zex_some]
-- 83.growth.lean.txt
/-! LAW CASE 20: growth -/
def nuF (v : Nat → Nat → Nat → Nat) (q s n : Nat) : Nat := sm n (fun j => bn (nzd v q s j))
theorem nuF_le {v : Nat → Nat → Nat → Nat} {q s n : Nat} : nuF v q s n ≤ n := by
  have := sm_le (n := n) (b := 1) (f := fun j => bn (nzd v q s j)) (fun j _ => bn_le _)
  rw [Nat.mul_one] at this
  exact this
def grA (v : Nat → Nat → Nat → Nat) (a b z i : Nat) : Nat := sm i (fun q => if v q 2 z = 0 then 0 else nuF v q 0 a * nuF v q 1 b)
theorem grA_b {v : Nat → Nat → Nat → Nat} {a b z i : Nat} (ha : a ≤ 4) (hb : b ≤ 4) : grA v a b z i ≤ i * 16 := sm_le (fun q _ => by
  have h1 := nuF_le (v := v) (q := q) (s := 0) (n := a)
  have h2 := nuF_le (v := v) (q := q) (s := 1) (n := b)
  split
  · omega
  · exact Nat.mul_le_mul (show _ ≤ 4 by omega) (show _ ≤ 4 by omega))
def mxF (v : Nat → Nat → Nat → Nat) (a b k : Nat) : Nat → Nat
  | 0 => 0
  | z + 1 => if mxF v a b k z < grA v a b z k then grA v a b z k else mxF v a b k z
theorem mxF_b {v : Nat → Nat → Nat → Nat} {a b k z : Nat} (ha : a ≤ 4) (hb : b ≤ 4) : mxF v a b k z ≤ k * 16 := by
  induction z with
  | zero => exact Nat.zero_le _
  | succ z ih =>
    show (if mxF v a b k z < grA v a b z k then grA v a b z k else mxF v a b k z) ≤ _
    split
    · exact grA_b ha hb
    · exact ih
theorem c_growthAt {S : ZS} {w c n t p a b d sq k z : Nat} {g : Nat → Nat} {v : Nat → Nat → Nat → Nat} (h : zWy S w c n t p a b d sq k g v) (hz : z < d) : fX4_growthAt w (ci z) S = some (ci (grA v a b z k)) := by
  have hsz := h.2.1
  unfold szOK at hsz
  have hk := h.kk
  have hpb := h.1.b
  unfold fX4_growthAt
  refine ziter_seq (fun i => (ci (grA v a b z i), ci i)) _ k zF (by rw [zF_eq]; omega) (fun q hq => ?_) ?_
  · have hv : v q 2 z < p := h.2.2.2.2.2.1 q hq 2 (by omega) z hz
    have p0 := g_filledPlaces (s := 0) h hq (by omega)
    have p1 := g_filledPlaces (s := 1) h hq (by omega)
    have e : grA v a b z (q + 1) = grA v a b z q + (if v q 2 z = 0 then 0 else nuF v q 0 a * nuF v q 1 b) := rfl
    unfold fX4_growthAt_B4 fX4_growthAt_J52
    simp only []
    rw [zgI_ob h.wa rfl, Option.bind_some, if_neg (by rw [ci_le (by omega) (by omega)]; omega), zcl_ob h.wa, cl_2, g_number h hq (by omega) hz, Option.bind_some]
    by_cases h0 : v q 2 z = 0
    · rw [if_pos (by rw [h0]; rfl), cl_1, ci_add, e, if_pos h0]; rfl
    · rw [if_neg (by rw [cl_0, ci_eq (by omega) (by omega)]; exact h0), zcl_ob h.wa, cl_0, p0, Option.bind_some, g_bits (Nat.le_trans (sz3_b h.2.1 (s := 0)).2 (by omega)), Option.bind_some, zcl_ob h.wa, cl_1, p1, Option.bind_some, g_bits (Nat.le_trans (sz3_b h.2.1 (s := 1)).2 (by omega)), Option.bind_some, ci_mul, ci_add, ci_add, e, if_neg h0]
      rfl
  · unfold fX4_growthAt_B4
    simp only []
    rw [zgI_ob h.wa rfl, Option.bind_some, if_pos (by rw [ci_le (by omega) (by omega)]; omega), zex_some]
theorem c_growth {S : ZS} {w c n t p a b d sq k : Nat} {g : Nat → Nat} {v : Nat → Nat → Nat → Nat} (h : zWy S w c n t p a b d sq k g v) : fX4_greatestGrowth w S = some (ci (mxF v a b k d)) := by
  have hsz := h.2.1
  unfold szOK at hsz
  have hk := h.kk
  unfold fX4_greatestGrowth
  refine ziter_seq (fun z => (ci (mxF v a b k z), ci z)) _ d zF (by rw [zF_eq]; omega) (fun z hz => ?_) ?_
  · have b1 := mxF_b (v := v) (a := a) (b := b) (k := k) (z := z) hsz.1.2 hsz.2.1.2
    have b2 := grA_b (v := v) (a := a) (b := b) (z := z) (i := k) hsz.1.2 hsz.2.1.2
    have e : mxF v a b k (z + 1) = if mxF v a b k z < grA v a b z k then grA v a b z k else mxF v a b k z := rfl
    unfold fX4_greatestGrowth_B4
    simp only []
    rw [zgR_ob h.wa rfl, Option.bind_some, zgI_ob h.2.2.2.2.1.1 rfl, Option.bind_some, if_neg (by rw [ci_le (by omega) (by omega)]; omega), zcl_ob h.wa, c_growthAt h hz, Option.bind_some, cl_1, ci_add, e]
    by_cases hl : mxF v a b k z < grA v a b z k
    · rw [if_pos hl, if_pos ((ci_lt (by omega) (by omega)).mpr hl)]
    · rw [if_neg hl, if_neg (fun hh => hl ((ci_lt (by omega) (by omega)).mp hh))]
  · unfold fX4_greatestGrowth_B4
    simp only []
    rw [zgR_ob h.wa rfl, Option.bind_some, zgI_ob h.2.2.2.2.1.1 rfl, Option.bind_some, if_pos (by rw [ci_le (by omega) (by omega)]; omega), zex_some]
-- 84.wrong.lean.txt
/-! LAW CASE 20: wrong places -/
/-- a product's number at x -/
def tT (v : Nat → Nat → Nat → Nat) (q x : Nat) : Nat := v q 0 (x / 16) * v q 1 (x / 4 % 4) * v q 2 (x % 4)
def enF (a b d : Nat) (v : Nat → Nat → Nat → Nat) (k x : Nat) : Nat := sm k (fun q => gF a b d (tT v q) 64 x)
def adF (a b d : Nat) (v : Nat → Nat → Nat → Nat) (q t x : Nat) : Nat := enF a b d v q x + gF a b d (tT v q) t x
theorem gF_eq2 {a b d t u : Nat} {F : Nat → Nat} (htu : t ≤ u) (h : ∀ x, x / 16 < a → x / 4 % 4 < b → x % 4 < d → t ≤ x → x < u → F x = 0) : gF a b d F t = gF a b d F u := by
  funext x
  unfold gF
  by_cases h1 : x / 16 < a ∧ x / 4 % 4 < b ∧ x % 4 < d ∧ x < t
  · rw [if_pos h1, if_pos ⟨h1.1, h1.2.1, h1.2.2.1, by omega⟩]
  · rw [if_neg h1]
    by_cases h2 : x / 16 < a ∧ x / 4 % 4 < b ∧ x % 4 < d ∧ x < u
    · rw [if_pos h2, h x h2.1 h2.2.1 h2.2.2.1 (by omega) h2.2.2.2]
    · rw [if_neg h2]
theorem adF_g {a b d q t u : Nat} {v : Nat → Nat → Nat → Nat} (h : gF a b d (tT v q) t = gF a b d (tT v q) u) : adF a b d v q t = adF a b d v q u := by
  funext x
  unfold adF
  rw [h]
theorem adF_0 {a b d q : Nat} {v : Nat → Nat → Nat → Nat} : adF a b d v q 0 = enF a b d v q := by
  funext x
  unfold adF
  rw [gF_0, Nat.add_zero]
theorem adF_64 {a b d q : Nat} {v : Nat → Nat → Nat → Nat} : adF a b d v q 64 = enF a b d v (q + 1) := rfl
theorem tT_at {v : Nat → Nat → Nat → Nat} {q i j l : Nat} (hj : j < 4) (hl : l < 4) : tT v q (ix i j l) = v q 0 i * v q 1 j * v q 2 l := by
  have hd := ix_16 (i := i) hj hl
  unfold tT
  rw [hd.1, hd.2.1, hd.2.2]
theorem adF_step {a b d q i j l : Nat} {v : Nat → Nat → Nat → Nat} (hi : i < a) (hj : j < b) (hl : l < d) (hb : b ≤ 4) (hd : d ≤ 4) : va_up (adF a b d v q (ix i j l)) (ix i j l) (adF a b d v q (ix i j l) (ix i j l) + v q 0 i * v q 1 j * v q 2 l) = adF a b d v q (ix i j (l + 1)) := by
  have hs := gF_step (F := tT v q) (v := v q 0 i * v q 1 j * v q 2 l) hi hj hl hb hd (tT_at (by omega) (by omega)).symm
  have h0 : gF a b d (tT v q) (ix i j l) (ix i j l) = 0 := by
    unfold gF
    rw [if_neg (by omega)]
  funext x
  unfold adF va_up
  rw [← hs]
  unfold va_up
  by_cases hx : x = ix i j l
  · rw [if_pos hx, if_pos hx, hx, h0, Nat.add_zero]
  · rw [if_neg hx, if_neg hx]
theorem enF_b {p a b d k x i : Nat} {v : Nat → Nat → Nat → Nat} (hp : isP p) (hv : vOK p a b d k v) (hi : i ≤ k) : enF a b d v i x ≤ i * 125 := sm_le (fun q hq => by
  have hpb := hp.b
  unfold gF
  split
  · rename_i h
    have h1 : v q 0 (x / 16) < p := hv q (by omega) 0 (by omega) _ h.1
    have h2 : v q 1 (x / 4 % 4) < p := hv q (by omega) 1 (by omega) _ h.2.1
    have h3 : v q 2 (x % 4) < p := hv q (by omega) 2 (by omega) _ h.2.2.1
    exact Nat.mul_le_mul (Nat.mul_le_mul (show _ ≤ 5 by omega) (show _ ≤ 5 by omega)) (show _ ≤ 5 by omega)
  · omega)
/-- the way, and the row of entries apart from it -/
def wE (S : ZS) (w c n t en p a b d sq k : Nat) (g : Nat → Nat) (v : Nat → Nat → Nat → Nat) (f : Nat → Nat) : Prop := zWy S w c n t p a b d sq k g v ∧ (∃ F, zIA S en 64 F ∧ ∀ x, x < 64 → F x = ci (f x)) ∧ en ≠ n
theorem wE.get {S : ZS} {w c n t en p a b d sq k x : Nat} {g f : Nat → Nat} {v : Nat → Nat → Nat → Nat} (h : wE S w c n t en p a b d sq k g v f) (hx : x < 64) : fX5_get en (ci x) S = some (ci (f x)) := by
  obtain ⟨F, hF, hf⟩ := h.2.1
  rw [g_get hF (by omega) (by omega), if_pos hx, hf x hx]
theorem wE.put {S : ZS} {w c n t en p a b d sq k x y : Nat} {g f : Nat → Nat} {v : Nat → Nat → Nat → Nat} (h : wE S w c n t en p a b d sq k g v f) (hx : x < 64) : ∃ S1, fX5_put en (ci x) (ci y) S = some S1 ∧ wE S1 w c n t en p a b d sq k g v (va_up f x y) ∧ zFrm S S1 (fun b => b = en) := by
  obtain ⟨h1, ⟨F, h2, h4⟩, h3⟩ := h
  have hf : zFrm S (zwI S en 64 (va_up F x (ci y))) (fun b => b = en) := zFrm.wI
  have h1' := h1
  obtain ⟨_, _, _, hw, hc, _, W, hW, _⟩ := h1'
  refine ⟨_, g_put (ci y) h2 hx (by omega), ⟨h1.kp (hf.2 _ (ne_oi hw h2)) (hf.2 _ (ne_oi hc.1 h2)) (hf.2 _ (fun hh => h3 hh.symm)) (hf.2 _ (ne_ii hW h2 (by omega))), ⟨_, zwI_self, fun z hz => ?_⟩, h3⟩, hf⟩
  unfold va_up
  by_cases hzx : z = x
  · rw [if_pos hzx, if_pos hzx]
  · rw [if_neg hzx, if_neg hzx]; exact h4 z hz
theorem c_ent3 {S : ZS} {w c n t en p a b d sq k q i j : Nat} {g : Nat → Nat} {v : Nat → Nat → Nat → Nat} (h : wE S w c n t en p a b d sq k g v (adF a b d v q (ix i j 0))) (hq : q < k) (hi : i < a) (hj : j < b) : ∃ S1, ziter (fX4_addEntries_B58 w (ci q) en (ci i) (ci (v q 0 i)) (ci j) (ci (v q 0 i * v q 1 j))) zF (ci 0, S) = some (.inl (ci (j + 1), S1)) ∧ wE S1 w c n t en p a b d sq k g v (adF a b d v q (ix i (j + 1) 0)) ∧ zFrm S S1 (fun b => b = en) := by
  have hsz := h.1.2.1
  unfold szOK at hsz
  have hpb := h.1.1.b
  have hv0 : v q 0 i < p := h.1.2.2.2.2.2.1 q hq 0 (by omega) i hi
  have hv1 : v q 1 j < p := h.1.2.2.2.2.2.1 q hq 1 (by omega) j hj
  have hvv : v q 0 i * v q 1 j ≤ 5 * 5 := Nat.mul_le_mul (by omega) (by omega)
  by_cases h00 : v q 0 i * v q 1 j = 0
  · refine ⟨S, ?_, ?_, zFrm.rf⟩
    · rw [zF_s, ziter_0]
      unfold fX4_addEntries_B58 fX4_addEntries_J115
      simp only []
      rw [zgR_ob h.1.wa rfl, Option.bind_some, zgI_ob h.1.2.2.2.2.1.1 rfl, Option.bind_some, if_neg (by rw [ci_le (by omega) (by omega)]; omega), if_pos (by rw [h00]; rfl), cl_1, ci_add, zex_some]
    · rw [← adF_g (gF_eq2 (t := ix i j 0) (u := ix i (j + 1) 0) (by unfold ix; omega) (fun x h1 h2 h3 h4 h5 => by
        have e1 : x / 16 = i := by unfold ix at h4 h5; omega
        have e2 : x / 4 % 4 = j := by unfold ix at h4 h5; omega
        unfold tT
        rw [e1, e2, h00, Nat.zero_mul]))]
      exact h
  · have := ziter_for (body := fX4_addEntries_B58 w (ci q) en (ci i) (ci (v q 0 i)) (ci j) (ci (v q 0 i * v q 1 j))) (fun l S' => wE S' w c n t en p a b d sq k g v (adF a b d v q (ix i j l)) ∧ zFrm S S' (fun b => b = en)) (fun r => ∃ S1, r = .inl (ci (j + 1), S1) ∧ wE S1 w c n t en p a b d sq k g v (adF a b d v q (ix i (j + 1) 0)) ∧ zFrm S S1 (fun b => b = en)) d ?_ ?_ d 0 zF S (by omega) (by rw [zF_eq]; omega) ⟨h, zFrm.rf⟩
    · obtain ⟨r, h1, S1, rfl, h2, h3⟩ := this
      exact ⟨S1, h1, h2, h3⟩
    · rintro l S' hl ⟨y, hf⟩
      have hx := ix_lt (i := i) (j := j) (k := l) (by omega) (by omega) (by omega)
      have c2 := g_number (s := 2) y.1 hq (by omega) (show l < sz3 a b d 2 from hl)
      obtain ⟨S1, f1, f2, f3⟩ := y.put (y := adF a b d v q (ix i j l) (ix i j l) + v q 0 i * v q 1 j * v q 2 l) hx
      rw [adF_step hi hj hl (by omega) (by omega)] at f2
      refine ⟨S1, ?_, f2, hf.tr f3⟩
      unfold fX4_addEntries_B58
      simp only []
      rw [zgR_ob y.1.wa rfl, Option.bind_some, zgI_ob y.1.2.2.2.2.1.1 rfl, Option.bind_some, if_neg (by rw [ci_le (by omega) (by omega)]; omega), if_neg (by rw [cl_0, ci_eq (by omega) (by omega)]; exact h00), g_idx', Option.bind_some, y.get hx, Option.bind_some, zcl_ob y.1.wa, cl_2, c2, Option.bind_some, ci_mul, ci_add, f1, Option.bind_some, cl_1, ci_add]
    · rintro S' ⟨y, hf⟩
      refine ⟨.inl (ci (j + 1), S'), ?_, S', rfl, ?_, hf⟩
      · unfold fX4_addEntries_B58 fX4_addEntries_J115
        simp only []
        rw [zgR_ob y.1.wa rfl, Option.bind_some, zgI_ob y.1.2.2.2.2.1.1 rfl, Option.bind_some, if_pos (by rw [ci_le (by omega) (by omega)]; omega), cl_1, ci_add, zex_some]
      · rw [← adF_g (gF_row (by omega))]; exact y
theorem c_ent2 {S : ZS} {w c n t en p a b d sq k q i : Nat} {g : Nat → Nat} {v : Nat → Nat → Nat → Nat} (h : wE S w c n t en p a b d sq k g v (adF a b d v q (ix i 0 0))) (hq : q < k) (hi : i < a) : ∃ S1, ziter (fX4_addEntries_B25 w (ci q) en (ci i) (ci (v q 0 i))) zF (ci 0, S) = some (.inl (ci (i + 1), S1)) ∧ wE S1 w c n t en p a b d sq k g v (adF a b d v q (ix (i + 1) 0 0)) ∧ zFrm S S1 (fun b => b = en) := by
  have hsz := h.1.2.1
  unfold szOK at hsz
  have hpb := h.1.1.b
  have hv0 : v q 0 i < p := h.1.2.2.2.2.2.1 q hq 0 (by omega) i hi
  by_cases h00 : v q 0 i = 0
  · refine ⟨S, ?_, ?_, zFrm.rf⟩
    · rw [zF_s, ziter_0]
      unfold fX4_addEntries_B25 fX4_addEntries_J121
      simp only []
      rw [zgR_ob h.1.wa rfl, Option.bind_some, zgI_ob h.1.2.2.2.2.1.1 rfl, Option.bind_some, if_neg (by rw [ci_le (by omega) (by omega)]; omega), if_pos (by rw [h00]; rfl), cl_1, ci_add, zex_some]
    · rw [← adF_g (gF_eq2 (t := ix i 0 0) (u := ix (i + 1) 0 0) (by unfold ix; omega) (fun x h1 h2 h3 h4 h5 => by
        have e1 : x / 16 = i := by unfold ix at h4 h5; omega
        unfold tT
        rw [e1, h00, Nat.zero_mul, Nat.zero_mul]))]
      exact h
  · have := ziter_for (body := fX4_addEntries_B25 w (ci q) en (ci i) (ci (v q 0 i))) (fun j S' => wE S' w c n t en p a b d sq k g v (adF a b d v q (ix i j 0)) ∧ zFrm S S' (fun b => b = en)) (fun r => ∃ S1, r = .inl (ci (i + 1), S1) ∧ wE S1 w c n t en p a b d sq k g v (adF a b d v q (ix (i + 1) 0 0)) ∧ zFrm S S1 (fun b => b = en)) b ?_ ?_ b 0 zF S (by omega) (by rw [zF_eq]; omega) ⟨h, zFrm.rf⟩
    · obtain ⟨r, h1, S1, rfl, h2, h3⟩ := this
      exact ⟨S1, h1, h2, h3⟩
    · rintro j S' hj ⟨y, hf⟩
      have c1 := g_number (s := 1) y.1 hq (by omega) (show j < sz3 a b d 1 from hj)
      obtain ⟨S1, f1, f2, f3⟩ := c_ent3 y hq hi hj
      refine ⟨S1, ?_, f2, hf.tr f3⟩
      unfold fX4_addEntries_B25
      simp only []
      rw [zgR_ob y.1.wa rfl, Option.bind_some, zgI_ob y.1.2.2.2.2.1.1 rfl, Option.bind_some, if_neg (by rw [ci_le (by omega) (by omega)]; omega), if_neg (by rw [cl_0, ci_eq (by omega) (by omega)]; exact h00), zcl_ob y.1.wa, cl_1, c1, Option.bind_some, ci_mul, cl_0]
      exact f1
    · rintro S' ⟨y, hf⟩
      refine ⟨.inl (ci (i + 1), S'), ?_, S', rfl, ?_, hf⟩
      · unfold fX4_addEntries_B25 fX4_addEntries_J121
        simp only []
        rw [zgR_ob y.1.wa rfl, Option.bind_some, zgI_ob y.1.2.2.2.2.1.1 rfl, Option.bind_some, if_pos (by rw [ci_le (by omega) (by omega)]; omega), cl_1, ci_add, zex_some]
      · rw [← adF_g (gF_rows (by omega))]; exact y
theorem c_ent1 {S : ZS} {w c n t en p a b d sq k q : Nat} {g : Nat → Nat} {v : Nat → Nat → Nat → Nat} (h : wE S w c n t en p a b d sq k g v (enF a b d v q)) (hq : q < k) : ∃ S1, fX4_addEntries w (ci q) en S = some S1 ∧ wE S1 w c n t en p a b d sq k g v (enF a b d v (q + 1)) ∧ zFrm S S1 (fun b => b = en) := by
  have hsz := h.1.2.1
  unfold szOK at hsz
  have := ziter_for (body := fX4_addEntries_B2 w (ci q) en) (fun i S' => wE S' w c n t en p a b d sq k g v (adF a b d v q (ix i 0 0)) ∧ zFrm S S' (fun b => b = en)) (fun r => wE r w c n t en p a b d sq k g v (enF a b d v (q + 1)) ∧ zFrm S r (fun b => b = en)) a ?_ ?_ a 0 zF S (by omega) (by rw [zF_eq]; omega) ⟨by rw [show ix 0 0 0 = 0 from rfl, adF_0]; exact h, zFrm.rf⟩
  · exact this
  · rintro i S' hi ⟨y, hf⟩
    have c0 := g_number (s := 0) y.1 hq (by omega) (show i < sz3 a b d 0 from hi)
    obtain ⟨S1, f1, f2, f3⟩ := c_ent2 y hq hi
    refine ⟨S1, ?_, f2, hf.tr f3⟩
    unfold fX4_addEntries_B2
    simp only []
    rw [zgR_ob y.1.wa rfl, Option.bind_some, zgI_ob y.1.2.2.2.2.1.1 rfl, Option.bind_some, if_neg (by rw [ci_le (by omega) (by omega)]; omega), zcl_ob y.1.wa, cl_0, c0, Option.bind_some]
    exact f1
  · rintro S' ⟨y, hf⟩
    refine ⟨S', ?_, ?_, hf⟩
    · unfold fX4_addEntries_B2
      simp only []
      rw [zgR_ob y.1.wa rfl, Option.bind_some, zgI_ob y.1.2.2.2.2.1.1 rfl, Option.bind_some, if_pos (by rw [ci_le (by omega) (by omega)]; omega), zex_some]
    · rw [← adF_64, ← adF_g (gF_end (by omega))]; exact y
theorem wE.cg {S : ZS} {w c n t en p a b d sq k : Nat} {g f f' : Nat → Nat} {v : Nat → Nat → Nat → Nat} (h : wE S w c n t en p a b d sq k g v f) (e : ∀ x, x < 64 → f x = f' x) : wE S w c n t en p a b d sq k g v f' := by
  obtain ⟨h1, ⟨F, h2, h4⟩, h3⟩ := h
  exact ⟨h1, ⟨F, h2, fun x hx => by rw [h4 x hx, e x hx]⟩, h3⟩
def wrF (p : Nat) (f g : Nat → Nat) (n : Nat) : Nat := sm n (fun x => if f x % p = g x then 0 else 1)
theorem c_wr3 {S : ZS} {w c n t en p a b d sq k : Nat} {g f : Nat → Nat} {v : Nat → Nat → Nat → Nat} (h : wE S w c n t en p a b d sq k g v f) (hg : cOK p a b d g) (hf : ∀ x, x < 64 → f x < 100000) : ziter (fX4_countWrongPlaces_B46 w en S) zF ((0 : Int32), (0 : Int32)) = some (ci (wrF p f g 64), S) := by
  have hpb := h.1.1.b
  have hc := h.1.2.2.2.2.1
  refine ziter_seq (fun x => (ci (wrF p f g x), ci x)) _ 64 zF (by rw [zF_eq]; omega) (fun x hx => ?_) ?_
  · have h1 := hf x hx
    have h2 := hg.lt hx
    have h3 := Nat.mod_lt (f x) (show 0 < p by omega)
    have e : wrF p f g (x + 1) = wrF p f g x + (if f x % p = g x then 0 else 1) := rfl
    unfold fX4_countWrongPlaces_B46 fX4_countWrongPlaces_J84
    simp only []
    rw [if_neg (by rw [cl_64, ci_le (by omega) (by omega)]; omega), h.get hx, Option.bind_some, zgI_ob h.1.wa rfl, Option.bind_some, g_rem (by omega) (by omega) (by omega), Option.bind_some, zgR_ob h.1.wa rfl, Option.bind_some, zgR_ob hc.1 rfl, Option.bind_some, c_getAt hc hx, Option.bind_some]
    by_cases he : f x % p = g x
    · rw [if_pos (by rw [he]), cl_0, cl_1, ci_add, ci_add, e, if_pos he]
    · rw [if_neg (by rw [ci_eq (by omega) (by omega)]; exact he), cl_1, ci_add, ci_add, e, if_neg he]
  · unfold fX4_countWrongPlaces_B46
    simp only []
    rw [if_pos (by rw [cl_64, ci_le (by omega) (by omega)]; omega), zex_some]
theorem c_wr2 {S : ZS} {w c n t en p a b d sq k : Nat} {g : Nat → Nat} {v : Nat → Nat → Nat → Nat} (h : wE S w c n t en p a b d sq k g v (fun _ => 0)) (hg : cOK p a b d g) : ∃ S1, ziter (fX4_countWrongPlaces_B22 w en) zF (ci 0, S) = some (ci (wrF p (enF a b d v k) g 64), S1) ∧ zWy S1 w c n t p a b d sq k g v ∧ zFrm S S1 (fun b => b = en) ∧ ∃ F', zIA S1 en 64 F' := by
  have hk := h.1.kk
  have := ziter_for (body := fX4_countWrongPlaces_B22 w en) (fun q S' => wE S' w c n t en p a b d sq k g v (enF a b d v q) ∧ zFrm S S' (fun b => b = en)) (fun r => ∃ S1, r = (ci (wrF p (enF a b d v k) g 64), S1) ∧ zWy S1 w c n t p a b d sq k g v ∧ zFrm S S1 (fun b => b = en) ∧ ∃ F', zIA S1 en 64 F') k ?_ ?_ k 0 zF S (by omega) (by rw [zF_eq]; omega) ⟨h, zFrm.rf⟩
  · obtain ⟨r, h1, S1, rfl, h2, h3⟩ := this
    exact ⟨S1, h1, h2, h3⟩
  · rintro q S' hq ⟨y, hf⟩
    obtain ⟨S1, f1, f2, f3⟩ := c_ent1 y hq
    refine ⟨S1, ?_, f2, hf.tr f3⟩
    unfold fX4_countWrongPlaces_B22
    simp only []
    rw [zgI_ob y.1.wa rfl, Option.bind_some, if_neg (by rw [ci_le (by omega) (by omega)]; omega), zcl_ob y.1.wa, f1, Option.bind_some, cl_1, ci_add]
  · rintro S' ⟨y, hf⟩
    refine ⟨(ci (wrF p (enF a b d v k) g 64), S'), ?_, S', rfl, y.1, hf, y.2.1.choose, y.2.1.choose_spec.1⟩
    unfold fX4_countWrongPlaces_B22
    simp only []
    rw [zgI_ob y.1.wa rfl, Option.bind_some, if_pos (by rw [ci_le (by omega) (by omega)]; omega), c_wr3 y hg (fun x hx => by
      have := enF_b (a := a) (b := b) (d := d) (x := x) (v := v) y.1.1 y.1.2.2.2.2.2.1 (Nat.le_refl k)
      omega), zex_some]
theorem c_wrong {S : ZS} {w c n t en p a b d sq k : Nat} {g : Nat → Nat} {v : Nat → Nat → Nat → Nat} {F : Nat → Int32} (h : zWy S w c n t p a b d sq k g v) (hF : zIA S en 64 F) (hen : en ≠ n) (hg : cOK p a b d g) : ∃ S1, fX4_countWrongPlaces w en S = some (ci (wrF p (enF a b d v k) g 64), S1) ∧ zWy S1 w c n t p a b d sq k g v ∧ zFrm S S1 (fun b => b = en) ∧ ∃ F', zIA S1 en 64 F' := by
  have h0 := h
  obtain ⟨_, _, _, hw, hc, _, W, hW, _⟩ := h0
  have := ziter_for (body := fX4_countWrongPlaces_B2 w en) (fun x S' => (zWy S' w c n t p a b d sq k g v ∧ ∃ F', zIA S' en 64 F' ∧ ∀ y, y < x → F' y = ci 0) ∧ zFrm S S' (fun b => b = en)) (fun r => ∃ S1, r = (ci (wrF p (enF a b d v k) g 64), S1) ∧ zWy S1 w c n t p a b d sq k g v ∧ zFrm S S1 (fun b => b = en) ∧ ∃ F', zIA S1 en 64 F') 64 ?_ ?_ 64 0 zF S (by omega) (by rw [zF_eq]; omega) ⟨⟨h, F, hF, fun y hy => absurd hy (Nat.not_lt_zero _)⟩, zFrm.rf⟩
  · obtain ⟨r, h1, S1, rfl, h2, h3⟩ := this
    exact ⟨S1, h1, h2, h3⟩
  · rintro x S' hx ⟨⟨y, F', hF', hz⟩, hf⟩
    have hfr : zFrm S' (zwI S' en 64 (va_up F' x (ci 0))) (fun b => b = en) := zFrm.wI
    have y' := y
    obtain ⟨_, _, _, hw', hc', _, W', hW', _⟩ := y'
    refine ⟨zwI S' en 64 (va_up F' x (ci 0)), ?_, ⟨y.kp (hfr.2 _ (ne_oi hw' hF')) (hfr.2 _ (ne_oi hc'.1 hF')) (hfr.2 _ (fun hh => hen hh.symm)) (hfr.2 _ (ne_ii hW' hF' (by omega))), _, zwI_self, fun u hu => ?_⟩, hf.tr hfr⟩
    · unfold fX4_countWrongPlaces_B2
      simp only []
      rw [if_neg (by rw [cl_64, ci_le (by omega) (by omega)]; omega), cl_0, g_put (ci 0) hF' hx (by omega), Option.bind_some, cl_1, ci_add]
    · unfold va_up
      by_cases hux : u = x
      · rw [if_pos hux]
      · rw [if_neg hux]; exact hz u (by omega)
  · rintro S' ⟨⟨y, F', hF', hz⟩, hf⟩
    obtain ⟨S1, f1, f2, f3⟩ := c_wr2 (⟨y, ⟨F', hF', fun x hx => hz x hx⟩, hen⟩ : wE S' w c n t en p a b d sq k g v (fun _ => 0)) hg
    refine ⟨(ci (wrF p (enF a b d v k) g 64), S1), ?_, S1, rfl, f2, hf.tr f3.1, f3.2⟩
    unfold fX4_countWrongPlaces_B2
    simp only []
    rw [if_pos (by rw [cl_64, ci_le (by omega) (by omega)]; omega), cl_0, f1, zex_some]
-- 85.mwrong.lean.txt
/-! LAW CASE 20: wrong places, the model -/
def mdF (v : Nat → Nat → Nat → Nat) (k x : Nat) : Nat := sm k (fun q => tT v q x)
theorem mdF_b {p a b d k x i : Nat} {v : Nat → Nat → Nat → Nat} (hp : isP p) (hv : vOK p a b d k v) (h : x / 16 < a ∧ x / 4 % 4 < b ∧ x % 4 < d) (hi : i ≤ k) : mdF v i x ≤ i * 125 := sm_le (fun q hq => by
  have hpb := hp.b
  have h1 : v q 0 (x / 16) < p := hv q (by omega) 0 (by omega) _ h.1
  have h2 : v q 1 (x / 4 % 4) < p := hv q (by omega) 1 (by omega) _ h.2.1
  have h3 : v q 2 (x % 4) < p := hv q (by omega) 2 (by omega) _ h.2.2
  exact Nat.mul_le_mul (Nat.mul_le_mul (show _ ≤ 5 by omega) (show _ ≤ 5 by omega)) (show _ ≤ 5 by omega))
theorem enF_in {a b d k x : Nat} {v : Nat → Nat → Nat → Nat} (hx : x < 64) (hi : x / 16 < a ∧ x / 4 % 4 < b ∧ x % 4 < d) : enF a b d v k x = mdF v k x := sm_congr (fun q _ => by
  unfold gF
  rw [if_pos ⟨hi.1, hi.2.1, hi.2.2, hx⟩])
theorem enF_out {a b d k x : Nat} {v : Nat → Nat → Nat → Nat} (hi : ¬ (x / 16 < a ∧ x / 4 % 4 < b ∧ x % 4 < d)) : enF a b d v k x = 0 := sm_zero (fun q _ => by
  unfold gF
  rw [if_neg (fun hh => hi ⟨hh.1, hh.2.1, hh.2.2.1⟩)])
