/-! MASKS: sets as bits -/
def bn (x : Bool) : Nat := if x = true then 1 else 0
theorem bn_le (x : Bool) : bn x ≤ 1 := by cases x <;> decide
def msk (n : Nat) (h : Nat → Bool) : Nat := sm n (fun s => if h s = true then 2 ^ s else 0)
theorem msk_lt {n : Nat} {h : Nat → Bool} : msk n h < 2 ^ n := by
  induction n with
  | zero => exact Nat.one_pos
  | succ n ih =>
    show msk n h + (if h n = true then 2 ^ n else 0) < 2 ^ (n + 1)
    rw [Nat.pow_succ]
    split <;> omega
theorem msk_bit {n : Nat} {h : Nat → Bool} (i : Nat) : (msk n h).testBit i = (decide (i < n) && h i) := by
  induction n generalizing i with
  | zero =>
    show Nat.testBit 0 i = _
    rw [Nat.zero_testBit, decide_eq_false (by omega)]; rfl
  | succ n ih =>
    have hl := msk_lt (n := n) (h := h)
    show (msk n h + (if h n = true then 2 ^ n else 0)).testBit i = _
    cases hn : h n with
    | false =>
      rw [if_neg (by decide), Nat.add_zero, ih]
      by_cases h1 : i < n
      · rw [decide_eq_true h1, decide_eq_true (by omega)]
      · rw [decide_eq_false h1]
        by_cases h2 : i = n
        · rw [h2, hn, Bool.and_false, Bool.and_false]
        · rw [decide_eq_false (by omega)]
    | true =>
      rw [if_pos rfl, show msk n h + 2 ^ n = 2 ^ n * 1 + msk n h by omega, Nat.testBit_two_pow_mul_add 1 hl]
      by_cases h1 : i < n
      · rw [if_pos h1, ih, decide_eq_true h1, decide_eq_true (by omega)]
      · rw [if_neg h1]
        show Nat.testBit (2 ^ 0) (i - n) = _
        rw [Nat.testBit_two_pow]
        by_cases h2 : i = n
        · subst h2; rw [decide_eq_true (show 0 = i - i by omega), decide_eq_true (by omega), hn]; rfl
        · rw [decide_eq_false (by omega), decide_eq_false (by omega)]; rfl
theorem msk_eq {n : Nat} {h : Nat → Bool} {x : Nat} (hx : ∀ i, x.testBit i = (decide (i < n) && h i)) : x = msk n h := Nat.eq_of_testBit_eq (fun i => by rw [hx, msk_bit])
theorem msk_congr {n : Nat} {h g : Nat → Bool} (e : ∀ i, i < n → h i = g i) : msk n h = msk n g := msk_eq (fun i => by
  rw [msk_bit]
  by_cases hi : i < n
  · rw [e i hi]
  · rw [decide_eq_false hi]; rfl)
theorem msk_and {n : Nat} {h g : Nat → Bool} : msk n h &&& msk n g = msk n (fun s => h s && g s) := msk_eq (fun i => by
  rw [Nat.testBit_and, msk_bit, msk_bit]
  cases decide (i < n) <;> cases h i <;> cases g i <;> rfl)
theorem msk_or {n : Nat} {h g : Nat → Bool} : msk n h ||| msk n g = msk n (fun s => h s || g s) := msk_eq (fun i => by
  rw [Nat.testBit_or, msk_bit, msk_bit]
  cases decide (i < n) <;> cases h i <;> cases g i <;> rfl)
theorem msk_andn {n : Nat} {h g : Nat → Bool} (hn : n ≤ 40) : msk n h &&& (msk n g ^^^ 18446744073709551615) = msk n (fun s => h s && !g s) := msk_eq (fun i => by
  rw [Nat.testBit_and, Nat.testBit_xor, msk_bit, msk_bit, show (18446744073709551615 : Nat) = 2 ^ 64 - 1 from rfl, Nat.testBit_two_pow_sub_one]
  by_cases hi : i < n
  · rw [decide_eq_true hi, decide_eq_true (show i < 64 by omega)]
    cases h i <;> cases g i <;> rfl
  · rw [decide_eq_false hi]; rfl)
theorem msk_snoc {n : Nat} {h : Nat → Bool} : msk n h ||| (if h n = true then 2 ^ n else 0) = msk (n + 1) h := msk_eq (fun i => by
  rw [Nat.testBit_or, msk_bit]
  cases hn : h n with
  | false =>
    rw [if_neg (by decide), Nat.zero_testBit, Bool.or_false]
    by_cases h1 : i < n
    · rw [decide_eq_true h1, decide_eq_true (by omega)]
    · rw [decide_eq_false h1]
      by_cases h2 : i = n
      · rw [h2, hn, Bool.and_false, Bool.and_false]
      · rw [decide_eq_false (by omega)]
  | true =>
    rw [if_pos rfl, Nat.testBit_two_pow]
    by_cases h1 : i < n
    · rw [decide_eq_true h1, decide_eq_false (by omega), decide_eq_true (by omega), Bool.or_false]
    · rw [decide_eq_false h1]
      by_cases h2 : i = n
      · rw [h2, hn, decide_eq_true rfl, decide_eq_true (by omega)]; rfl
      · rw [decide_eq_false (by omega), decide_eq_false (by omega)]; rfl)
theorem msk_0 {n : Nat} : msk n (fun _ => false) = 0 := (msk_eq (fun i => by rw [Nat.zero_testBit, Bool.and_false])).symm
theorem pcn_msk {n : Nat} {h : Nat → Bool} (hn : n ≤ 40) : pcn 40 (msk n h) = sm n (fun s => bn (h s)) := by
  unfold pcn
  rw [show (40 : Nat) = n + (40 - n) by omega, sm_app]
  rw [sm_congr (n := n) (g := fun s => bn (h s)) (fun i hi => by rw [msk_bit, decide_eq_true hi, Bool.true_and]; rfl)]
  rw [sm_zero (n := 40 - n) (fun i hi => by rw [msk_bit, decide_eq_false (by omega), Bool.false_and]; rfl), Nat.add_zero]
theorem msk_b {n : Nat} {h : Nat → Bool} (hn : n ≤ 40) : msk n h < 1099511627776 := by
  have h1 := msk_lt (n := n) (h := h)
  have h2 : 2 ^ n ≤ 2 ^ 40 := Nat.pow_le_pow_right (by omega) hn
  have h3 : (2 : Nat) ^ 40 = 1099511627776 := rfl
  omega
theorem g_bits {n : Nat} {h : Nat → Bool} (hn : n ≤ 40) : fJ13_bitCount_95d88 (cj (msk n h)) = some (ci (sm n (fun s => bn (h s)))) := by
  rw [g_bitCount (msk_b hn), pcn_msk hn]
theorem ci_cj {n : Nat} (h : n < 2147483648) : Int32.toInt64 (ci n) = cj n := Int32.toInt64_ofNat' (by
  show (n : Int) ≤ 2147483647
  omega)
theorem cj_shl {a k : Nat} (hk : k < 64) : cj a <<< (cj k &&& 63) = cj (a <<< k) := by
  have h1 : cj k &&& 63 = cj k := by
    rw [show (63 : Int64) = cj 63 from rfl, cj_and, show (63 : Nat) = 2 ^ 6 - 1 from rfl, Nat.and_two_pow_sub_one_eq_mod, Nat.mod_eq_of_lt (by omega)]
  rw [h1]
  apply Int64.toBitVec_inj.mp
  rw [Int64.toBitVec_shiftLeft, cj_bv, cj_bv, cj_bv]
  have h2 : (BitVec.ofNat 64 k).smod 64 = BitVec.ofNat 64 k := by
    apply BitVec.eq_of_toInt_eq
    rw [BitVec.toInt_smod]
    have e1 : (BitVec.ofNat 64 k).toInt = (k : Int) := by
      rw [BitVec.toInt_eq_toNat_of_lt (by rw [BitVec.toNat_ofNat]; omega), BitVec.toNat_ofNat, Nat.mod_eq_of_lt (by omega)]
    rw [e1]
    have e2 : (64 : BitVec 64).toInt = 64 := by decide
    rw [e2]
    exact Int.fmod_eq_of_lt (by omega) (by omega)
  rw [h2]
  apply BitVec.eq_of_toNat_eq
  rw [BitVec.shiftLeft_eq', BitVec.toNat_shiftLeft, BitVec.toNat_ofNat, BitVec.toNat_ofNat, BitVec.toNat_ofNat, Nat.mod_eq_of_lt (show k < 2 ^ 64 by omega), Nat.shiftLeft_eq, Nat.shiftLeft_eq, Nat.mod_mul_mod]
theorem g_shl1 {k : Nat} (hk : k < 64) : (1 : Int64) <<< ((Int32.toInt64 (ci k)) &&& 63) = cj (2 ^ k) := by
  rw [ci_cj (by omega), cj_1, cj_shl hk, Nat.one_shiftLeft]
/-- whether a digit is not 0 -/
def nzd (v : Nat → Nat → Nat → Nat) (q s j : Nat) : Bool := decide (v q s j ≠ 0)
theorem nzd_t {v : Nat → Nat → Nat → Nat} {q s j : Nat} (h : v q s j ≠ 0) : nzd v q s j = true := decide_eq_true h
theorem nzd_f {v : Nat → Nat → Nat → Nat} {q s j : Nat} (h : v q s j = 0) : nzd v q s j = false := decide_eq_false (fun hh => hh h)
theorem cj_or_bit {n : Nat} {h : Nat → Bool} {x : Bool} (hx : h n = x) : cj (msk n h) ||| cj (if x = true then 2 ^ n else 0) = cj (msk (n + 1) h) := by
  rw [cj_or, ← hx, msk_snoc]
theorem g_filledPlaces {S : ZS} {w c n t p a b d sq k q s : Nat} {g : Nat → Nat} {v : Nat → Nat → Nat → Nat} (h : zWy S w c n t p a b d sq k g v) (hq : q < k) (hs : s < 3) : fX4_filledPlaces w (ci q) (ci s) S = some (cj (msk (sz3 a b d s) (nzd v q s))) := by
  have hb := sz3_b h.2.1 (s := s)
  have hc := h.2.2.2.2.1
  have hpb := h.1.b
  unfold fX4_filledPlaces
  show ziter _ zF (cj (msk 0 (nzd v q s)), ci 0) = _
  refine ziter_seq (fun j => (cj (msk j (nzd v q s)), ci j)) _ (sz3 a b d s) zF (by rw [zF_eq]; omega) (fun j hj => ?_) ?_
  · have hv := h.2.2.2.2.2.1 q hq s hs j hj
    unfold fX4_filledPlaces_B5 fX4_filledPlaces_J38
    simp only []
    rw [zgR_ob h.wa rfl, Option.bind_some, zcl_cu hc, g_sizeOf hc hs, Option.bind_some, if_neg (by rw [ci_le (by omega) (by omega)]; omega), zcl_ob h.wa, g_number h hq hs hj, Option.bind_some]
    by_cases h0 : v q s j = 0
    · rw [if_pos (by rw [h0]; rfl), cj_0, cl_1, ci_add]
      have := cj_or_bit (n := j) (nzd_f h0)
      rw [if_neg (by decide)] at this
      rw [this]
    · rw [if_neg (by rw [cl_0, ci_eq (by omega) (by omega)]; exact h0), g_shl1 (by omega), cl_1, ci_add]
      have := cj_or_bit (n := j) (nzd_t h0)
      rw [if_pos rfl] at this
      rw [this]
  · unfold fX4_filledPlaces_B5
    simp only []
    rw [zgR_ob h.wa rfl, Option.bind_some, zcl_cu hc, g_sizeOf hc hs, Option.bind_some, if_pos (by rw [ci_le (by omega) (by omega)]; omega), zex_some]
theorem g_filledProducts {S : ZS} {w c n t p a b d sq k s j : Nat} {g : Nat → Nat} {v : Nat → Nat → Nat → Nat} (h : zWy S w c n t p a b d sq k g v) (hs : s < 3) (hj : j < sz3 a b d s) : fX4_filledProducts w (ci s) (ci j) S = some (cj (msk k (fun q => nzd v q s j))) := by
  have hb := sz3_b h.2.1 (s := s)
  have hk := h.kk
  have hpb := h.1.b
  unfold fX4_filledProducts
  show ziter _ zF (cj (msk 0 (fun q => nzd v q s j)), ci 0) = _
  refine ziter_seq (fun q => (cj (msk q (fun q => nzd v q s j)), ci q)) _ k zF (by rw [zF_eq]; omega) (fun q hq => ?_) ?_
  · have hv := h.2.2.2.2.2.1 q hq s hs j hj
    unfold fX4_filledProducts_B5 fX4_filledProducts_J34
    simp only []
    rw [zgI_ob h.wa rfl, Option.bind_some, if_neg (by rw [ci_le (by omega) (by omega)]; omega), zcl_ob h.wa, g_number h hq hs hj, Option.bind_some]
    by_cases h0 : v q s j = 0
    · rw [if_pos (by rw [h0]; rfl), cj_0, cl_1, ci_add]
      have := cj_or_bit (n := q) (h := fun q => nzd v q s j) (nzd_f h0)
      rw [if_neg (by decide)] at this
      rw [this]
    · rw [if_neg (by rw [cl_0, ci_eq (by omega) (by omega)]; exact h0), g_shl1 (by omega), cl_1, ci_add]
      have := cj_or_bit (n := q) (h := fun q => nzd v q s j) (nzd_t h0)
      rw [if_pos rfl] at this
      rw [this]
  · unfold fX4_filledProducts_B5
    simp only []
    rw [zgI_ob h.wa rfl, Option.bind_some, if_pos (by rw [ci_le (by omega) (by omega)]; omega), zex_some]
