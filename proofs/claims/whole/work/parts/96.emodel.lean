/-! LAW CASES 18, 19: the least in the model -/
theorem ci_sshr {x k : Nat} (hx : x < 2147483648) (hk : k < 32) : ci x >>> (ci k &&& 31) = ci (x >>> k) := by
  have h1 : ci k &&& 31 = ci k := by
    rw [cl_31, ci_and, show (31 : Nat) = 2 ^ 5 - 1 from rfl, Nat.and_two_pow_sub_one_eq_mod, Nat.mod_eq_of_lt (by omega)]
  rw [h1]
  apply Int32.toBitVec_inj.mp
  rw [Int32.toBitVec_shiftRight, ci_bv, ci_bv, ci_bv]
  have h2 : (BitVec.ofNat 32 k).smod 32 = BitVec.ofNat 32 k := by
    apply BitVec.eq_of_toInt_eq
    rw [BitVec.toInt_smod]
    have e1 : (BitVec.ofNat 32 k).toInt = (k : Int) := by
      rw [BitVec.toInt_eq_toNat_of_lt (by rw [BitVec.toNat_ofNat]; omega), BitVec.toNat_ofNat, Nat.mod_eq_of_lt (by omega)]
    rw [e1]
    have e2 : (32 : BitVec 32).toInt = 32 := by decide
    rw [e2]
    exact Int.fmod_eq_of_lt (by omega) (by omega)
  rw [h2]
  have hn : (BitVec.ofNat 32 k).toNat = k := by rw [BitVec.toNat_ofNat, Nat.mod_eq_of_lt (by omega)]
  have hxn : (BitVec.ofNat 32 x).toNat = x := by rw [BitVec.toNat_ofNat, Nat.mod_eq_of_lt (by omega)]
  show (BitVec.ofNat 32 x).sshiftRight (BitVec.ofNat 32 k).toNat = _
  rw [hn, BitVec.sshiftRight_eq_of_msb_false (BitVec.msb_eq_false_iff_two_mul_lt.mpr (by rw [hxn]; omega))]
  apply BitVec.eq_of_toNat_eq
  rw [BitVec.toNat_ushiftRight, hxn, BitVec.toNat_ofNat]
  exact (Nat.mod_eq_of_lt (Nat.lt_of_le_of_lt (Nat.shiftRight_le x k) (by omega))).symm
theorem shr_bit {x i : Nat} : (x >>> i) &&& 1 = bn (tb x i) := by
  unfold tb
  rw [Nat.and_one_is_mod, Nat.shiftRight_eq_div_pow, Nat.testBit_eq_decide_div_mod_eq]
  have hl := Nat.mod_lt (x / 2 ^ i) (show 0 < 2 by omega)
  by_cases h : x / 2 ^ i % 2 = 1
  · rw [decide_eq_true h, h]; rfl
  · rw [decide_eq_false h]; show _ = 0; omega
theorem bit_if {x i : Nat} (hx : x < 2147483648) (hi : i < 32) : ((ci x >>> (ci i &&& 31)) &&& (1 : Int32) = (1 : Int32)) ↔ tb x i = true := by
  rw [ci_sshr hx hi, cl_1, ci_and, shr_bit]
  cases tb x i <;> decide
theorem sg_step {b d m three : Nat} {x y : Nat → Bool} (h3 : three < 2 ^ d) : msk (m * d) (sT b d x y (tb three)) ||| (if (x (m / b) && y (m % b)) = true then three <<< (d * m) else 0) = msk (m * d + d) (sT b d x y (tb three)) := msk_eq (fun t => by
  rw [Nat.testBit_or, msk_bit]
  have hdm : d * m = m * d := Nat.mul_comm d m
  by_cases h1 : t < m * d
  · rw [decide_eq_true h1, decide_eq_true (show t < m * d + d by omega), Bool.true_and]
    have : (if (x (m / b) && y (m % b)) = true then three <<< (d * m) else 0).testBit t = false := by
      split
      · rw [Nat.testBit_shiftLeft, decide_eq_false (by omega)]; rfl
      · rw [Nat.zero_testBit]
    rw [this, Bool.or_false]
  · rw [decide_eq_false h1, Bool.false_and, Bool.false_or]
    by_cases h2 : t < m * d + d
    · rw [decide_eq_true h2, Bool.true_and]
      obtain ⟨k, hk, rfl⟩ : ∃ k, k < d ∧ t = m * d + k := ⟨t - m * d, by omega, by omega⟩
      rw [sT_row hk]
      cases hx : x (m / b) <;> cases hy : y (m % b)
      · rw [if_neg (by decide), Nat.zero_testBit]; rfl
      · rw [if_neg (by decide), Nat.zero_testBit]; rfl
      · rw [if_neg (by decide), Nat.zero_testBit]; rfl
      · rw [if_pos (by decide), Nat.testBit_shiftLeft, decide_eq_true (by omega), hdm, Nat.add_sub_cancel_left]; rfl
    · rw [decide_eq_false h2, Bool.false_and]
      split
      · rw [Nat.testBit_shiftLeft, show three.testBit (t - d * m) = tb three (t - d * m) from rfl, tb_hi h3 (by omega), Bool.and_false]
      · rw [Nat.zero_testBit])
theorem m_single {S : ZS} {m c one two three : Nat} {R : Nat → Nat} {X : Nat → Int32} {A : Nat → Nat → Int32} {cs g : Nat → Nat} (h : zMo S m R X A) (y : mCu A c cs g) (hc : c < 16) (hz : szOK (cs 0) (cs 1) (cs 2)) (hN : cs 0 * cs 1 * cs 2 ≤ 12) (h1 : one < 2 ^ cs 0) (h2 : two < 2 ^ cs 1) (h3 : three < 2 ^ cs 2) : fX6_single m (ci c) (ci one) (ci two) (ci three) S = some (ci (sgN (cs 0) (cs 1) (cs 2) one two three)) := by
  obtain ⟨a, ha⟩ : ∃ a, a = cs 0 := ⟨_, rfl⟩
  obtain ⟨b, hb⟩ : ∃ b, b = cs 1 := ⟨_, rfl⟩
  obtain ⟨d, hd⟩ : ∃ d, d = cs 2 := ⟨_, rfl⟩
  have r0 := m_cs0 h y hc
  have r1 := m_cs1 h y hc
  have r2 := m_cs2 h y hc
  rw [← ha] at h1 hz hN r0 ⊢
  rw [← hb] at h2 hz hN r1 ⊢
  rw [← hd] at h3 hz hN r2 ⊢
  unfold szOK at hz
  have q1 := p2_le hz.1.2
  have q2 := p2_le hz.2.1.2
  have q3 := p2_le hz.2.2.2
  have l2 : ∀ i, i < a → ziter (fX6_single_B46 m (ci c) (ci one) (ci two) (ci three) (ci b) (ci d) (ci i) S) zF (ci (msk ((i * b + 0) * d) (sT b d (tb one) (tb two) (tb three))), ci 0) = some (.inl (ci (msk ((i * b + b) * d) (sT b d (tb one) (tb two) (tb three))), ci (i + 1))) := fun i hi => by
    refine ziter_seq (fun j => (ci (msk ((i * b + j) * d) (sT b d (tb one) (tb two) (tb three))), ci j)) _ b zF (by rw [zF_eq]; omega) (fun j hj => ?_) ?_
    · have hst := sg_step (b := b) (d := d) (m := i * b + j) (x := tb one) (y := tb two) h3
      rw [md_div hj, md_mod hj] at hst
      have hmd : d * (b * i + j) < 32 := by
        have w1 := lt_mul hi hj
        have w2 : d * (b * i + j) < d * (a * b) := Nat.mul_lt_mul_of_pos_left (by rw [Nat.mul_comm b i]; exact w1) hz.2.2.1
        have w3 : d * (a * b) = a * b * d := Nat.mul_comm _ _
        omega
      have hnext : (i * b + (j + 1)) * d = (i * b + j) * d + d := by rw [← Nat.succ_mul]; rfl
      unfold fX6_single_B46 fX6_single_J77 fX6_single_J78 fX6_single_J105
      simp only []
      rw [if_neg (by rw [ci_le (by omega) (by omega)]; omega), hnext, ← hst]
      cases hx : tb one i with
      | false =>
        rw [if_neg (by rw [bit_if (by omega) (by omega), hx]; decide), if_pos trivial, Bool.false_and, if_neg (by decide), cl_0, ci_or, cl_1, ci_add]
      | true =>
        rw [if_pos ((bit_if (by omega) (by omega)).mpr hx)]
        cases hy : tb two j with
        | false => rw [if_neg (by rw [bit_if (by omega) (by omega), hy]; decide), if_pos trivial, if_neg (by decide), cl_0, ci_or, cl_1, ci_add]
        | true => rw [if_pos ((bit_if (by omega) (by omega)).mpr hy), if_neg (show ¬ (1 : Int32) = 0 by decide), if_pos (by decide), ci_mul, ci_add, ci_mul, ci_shl hmd, ci_or, cl_1, ci_add, Nat.mul_comm i b]
    · unfold fX6_single_B46
      simp only []
      rw [if_pos (by rw [ci_le (by omega) (by omega)]; omega), cl_1, ci_add, zex_some]
  unfold fX6_single sgN
  rw [zgR_ob h.1 rfl, Option.bind_some, r1, Option.bind_some, Option.bind_some, r2, Option.bind_some]
  have e0 : msk ((0 * b + 0) * d) (sT b d (tb one) (tb two) (tb three)) = 0 := by rw [Nat.zero_mul, Nat.zero_mul]; rfl
  have := ziter_seq (body := fX6_single_B30 m (ci c) (ci one) (ci two) (ci three) (ci b) (ci d) S) (fun i => (ci (msk ((i * b + 0) * d) (sT b d (tb one) (tb two) (tb three))), ci i)) (ci (msk (a * b * d) (sT b d (tb one) (tb two) (tb three)))) a zF (by rw [zF_eq]; omega) (fun i hi => ?_) ?_
  · rw [e0] at this
    exact this
  · have h5 := l2 i hi
    unfold fX6_single_B30
    simp only []
    rw [zgR_ob h.1 rfl, Option.bind_some, r0, Option.bind_some, if_neg (by rw [ci_le (by omega) (by omega)]; omega), cl_0]
    rw [show (i + 1) * b + 0 = i * b + b by rw [Nat.add_zero, Nat.succ_mul]]
    exact h5
  · unfold fX6_single_B30
    simp only []
    rw [zgR_ob h.1 rfl, Option.bind_some, r0, Option.bind_some, if_pos (by rw [ci_le (by omega) (by omega)]; omega), zex_some, Nat.add_zero]
theorem A13i : isA 13 := Or.inr ⟨by omega, by omega⟩
theorem A14i : isA 14 := Or.inr ⟨by omega, by omega⟩
theorem N13 : mN 13 = 4096 := rfl
theorem N14 : mN 14 = 4096 := rfl
def fI (v : Nat) : Int32 := if v = 0 then (-1 : Int32) else ci (v - 1)
def mBf (m N : Nat) (R : Nat → Nat) (X : Nat → Int32) (A : Nat → Nat → Int32) (fr q : Nat → Nat) (L : Nat) (S0 S : ZS) : Prop := ∃ A', zMo S m R (mX X 15 (ci L)) A' ∧ (∀ j, j ≠ 13 → j ≠ 14 → A' j = A j) ∧ (∀ x, x < 2 ^ N → A' 13 x = fI (fr x)) ∧ (∀ i, i < L → A' 14 i = ci (q i)) ∧ zFrm S0 S (mP m R)
theorem p12 {N : Nat} (hN : N ≤ 12) : 2 ^ N ≤ 4096 := Nat.pow_le_pow_right (by omega) hN
theorem BI_dd {a b d L h i : Nat} {fr q dd : Nat → Nat} (hb : 1 ≤ b) (hd : 1 ≤ d) (B : BI a b d fr q dd L h) (hi : i < L) : dd i ≤ a * b * d := by
  obtain ⟨n, n1, n2⟩ := Rch_ex (T := tb (q i)) hb hd (a * b * d) (Nat.le_refl _) (fun t h1 h2 => by omega)
  have h2 := B.2.1 i hi
  rcases BI_all hb hd B n (q i) h2.1 n2 with ⟨_, e2⟩ | ⟨j, k1, k2, k3⟩
  · omega
  · have h4 := B.2.2.2.1 h j k1 k2
    have h8 := B.2.2.2.2.2.2.2 (by omega) i hi
    omega
theorem m_learn {S S0 : ZS} {m a b d L h one two three : Nat} {R : Nat → Nat} {X : Nat → Int32} {A : Nat → Nat → Int32} {fr q dd : Nat → Nat} (hb : 1 ≤ b) (hd : 1 ≤ d) (hN : a * b * d ≤ 12) (B : BI a b d fr q dd L h) (hL : h < L) (F : mBf m (a * b * d) R X A fr q L S0 S) (h1 : 0 < one ∧ one < 2 ^ a) (h2 : 0 < two ∧ two < 2 ^ b) (h3 : 0 < three ∧ three < 2 ^ d) : ∃ S1 fr' q' dd' L', fX6_learn m (ci (q h)) (ci (q h ^^^ sgN a b d one two three)) S = some S1 ∧ BI a b d fr' q' dd' L' h ∧ h < L' ∧ q' h = q h ∧ dd' h = dd h ∧ mBf m (a * b * d) R X A fr' q' L' S0 S1 ∧ (fr' (q h ^^^ sgN a b d one two three) ≠ 0 ∧ fr' (q h ^^^ sgN a b d one two three) ≤ dd h + 2) ∧ ∀ x, fr x ≠ 0 → fr' x = fr x := by
  have hqh := B.2.1 h hL
  have hdd := BI_dd hb hd B hL
  have h12 := p12 hN
  have hto := xor_lt hqh.1 (sgN_lt (a := a) (b := b) (d := d) (one := one) (two := two) (three := three))
  obtain ⟨A', f1, f2, f3, f4, f5⟩ := F
  obtain ⟨w, hw⟩ : ∃ w, w = q h ^^^ sgN a b d one two three := ⟨_, rfl⟩
  have rd : zaI S (R 13) 0 (ci w) = some (fI (fr w)) := by
    rw [hw, f1.rd A13i (by rw [N13]; omega), f3 _ hto]
  by_cases h0 : fr w = 0
  · have hLl := BI_L B (x := w) (by rw [hw]; exact hto) h0
    have hB := BI_learn B hL h1 h2 h3 (by rw [← hw]; exact h0)
    rw [← hw] at hB hto ⊢
    have t1 := f1.set A13i (va_up (A' 13) w (ci (dd h + 1)))
    have t2 := t1.1.set A14i (va_up (A' 14) L (ci w))
    have t3 := t2.1.sx (X' := mX X 15 (ci (L + 1)))
    have rq : zaI S (R 13) 0 (ci (q h)) = some (ci (dd h)) := by
      rw [f1.rd A13i (by rw [N13]; omega), f3 _ hqh.1, hqh.2]
      show some (if dd h + 1 = 0 then (-1 : Int32) else ci (dd h + 1 - 1)) = _
      rw [if_neg (by omega), Nat.add_sub_cancel]
    refine ⟨_, _, _, _, _, ?_, hB, by omega, va_up_ne _ _ (by omega), va_up_ne _ _ (by omega), ⟨_, t3.1, fun j j1 j2 => by rw [mS_ne j2, mS_ne j1]; exact f2 j j1 j2, fun x hx => ?_, fun i hi => ?_, ((f5.tr (t1.2.wk (fun b hb => Or.inr (Or.inr ⟨13, A13i, hb⟩)))).tr (t2.2.wk (fun b hb => Or.inr (Or.inr ⟨14, A14i, hb⟩)))).tr (t3.2.wk (fun _ => Or.inl))⟩, ⟨by rw [va_up_self]; omega, by rw [va_up_self]; omega⟩, fun x hx => va_up_ne _ _ (fun hh => hx (by rw [hh]; exact h0))⟩
    · unfold fX6_learn fX6_learn_J44
      rw [zgR_ob f1.1 rfl, Option.bind_some, rd, Option.bind_some, h0, if_pos (show fI 0 = (-1 : Int32) from rfl), Option.bind_some, Option.bind_some, rq, Option.bind_some, show ci (dd h) + (1 : Int32) = ci (dd h + 1) by rw [cl_1, ci_add], f1.wr A13i (by rw [N13]; omega), Option.bind_some, zgR_ob t1.1.1 rfl, Option.bind_some, zgI_ob t1.1.1 rfl, Option.bind_some, show mX X 15 (ci L) 15 = ci L from rfl, t1.1.wr A14i (by rw [N14]; omega), mS_ne (by omega), Option.bind_some, zgI_ob t2.1.1 rfl, Option.bind_some, show mX X 15 (ci L) 15 + (1 : Int32) = ci (L + 1) by show ci L + (1 : Int32) = _; rw [cl_1, ci_add], zpF_ob _ t2.1.1 (show 15 < (mF R (mX X 15 (ci L))).length by unfold mF; simp), Option.bind_some]
      rfl
    · rw [mS_ne (by omega), mS_self]
      unfold va_up
      by_cases hxw : x = w
      · rw [if_pos hxw, if_pos hxw]
        show _ = if dd h + 2 = 0 then (-1 : Int32) else ci (dd h + 2 - 1)
        rw [if_neg (by omega)]
        rfl
      · rw [if_neg hxw, if_neg hxw]; exact f3 x hx
    · rw [mS_self]
      unfold va_up
      by_cases hiL : i = L
      · rw [if_pos hiL, if_pos hiL]
      · rw [if_neg hiL, if_neg hiL]; exact f4 i (by omega)
  · have hk := BI_known B hL (x := w) (by rw [hw]; exact hto) h0
    rw [← hw]
    refine ⟨S, fr, q, dd, L, ?_, B, hL, rfl, rfl, ⟨A', f1, f2, f3, f4, f5⟩, ⟨h0, hk⟩, fun x _ => rfl⟩
    unfold fX6_learn fX6_learn_J44
    rw [zgR_ob f1.1 rfl, Option.bind_some, rd, Option.bind_some, show fI (fr w) = ci (fr w - 1) from if_neg h0, if_neg (ci_m1ne (by omega))]
