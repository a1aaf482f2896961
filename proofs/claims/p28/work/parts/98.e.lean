/-! THE CALLS over the value of a foundry: what tells -/
def aAt (T : TZ) (a1 a2 a3 a4 : Int32) : Option (Int32 × TZ) := match T with
  | (p, cc, wc, CA, CG, WA, WG, WV) => if bl cc a1 = true ∧ (bl (CA (nn a1) 0) a2 && (bl (CA (nn a1) 1) a3 && bl (CA (nn a1) 2) a4)) = true then some (ci (CG (nn a1) (ix (nn a2) (nn a3) (nn a4))), (p, cc, wc, CA, CG, WA, WG, WV)) else none
theorem op_at {S : ZS} {ad : Nat → Nat} {T : TZ} (h : zQ S ad T) (a1 a2 a3 a4 : Int32) : zOpF ["java/lang/IndexOutOfBoundsException"] (aAt T a1 a2 a3 a4) (fX5_at (ad 10) a1 a2 a3 a4 S) S (zRes S ad T.2.1 T.2.2.1) := by
  obtain ⟨p, cc, wc, CA, CG, WA, WG, WV⟩ := T
  obtain ⟨hK, hin, hcl⟩ := h
  have hcc := hK.2.1
  have hhd := hcl.1
  unfold aAt
  simp only []
  cases hb : bl cc a1 with
  | false =>
    rw [if_neg (fun hh => by cases hh.1)]
    refine ⟨"java/lang/IndexOutOfBoundsException", by simp, ?_⟩
    unfold fX5_at
    rw [zcl_ob hhd.1, c_noCube hhd hcc hb, zbT_r]
  | true =>
    obtain ⟨i, hi, rfl⟩ := bl_ex (by omega) hb
    rw [nn_ci (n := i) (by omega)]
    have hcb := hcl.2.2.1 i hi
    have hsz := hcb.2.1
    have hsz' := hsz
    unfold szOK at hsz'
    have cN : zcl S (ad 10) 5 (fX5_needCube (ad 10) (ci i) S) = some (.inl (ad (100 + 2 * i), S)) := by rw [zcl_ob hhd.1]; exact c_needCube hhd hcc hi
    cases hp : (bl (CA i 0) a2 && (bl (CA i 1) a3 && bl (CA i 2) a4)) with
    | false =>
      rw [if_neg (fun hh => by cases hh.2)]
      refine ⟨"java/lang/IndexOutOfBoundsException", by simp, ?_⟩
      unfold fX5_at
      rw [cN, zbT_l, c_needPlace hcb.1 hsz, hp]
      rfl
    | true =>
      rw [if_pos ⟨rfl, rfl⟩]
      have hp' := hp
      rw [Bool.and_eq_true, Bool.and_eq_true] at hp'
      obtain ⟨i1, h1, rfl⟩ := bl_ex (by omega) hp'.1
      obtain ⟨i2, h2, rfl⟩ := bl_ex (by omega) hp'.2.1
      obtain ⟨i3, h3, rfl⟩ := bl_ex (by omega) hp'.2.2
      rw [nn_ci (n := i1) (by omega), nn_ci (n := i2) (by omega), nn_ci (n := i3) (by omega)]
      refine ⟨S, ?_, zRes.rd hK hin (kpL.rf hcl)⟩
      unfold fX5_at
      rw [cN, zbT_l, c_needPlace hcb.1 hsz, hp, if_pos rfl, zbT_l]
      show Option.bind (zcl S (ad (100 + 2 * i)) 0 (fX0_numberAt (ad (100 + 2 * i)) (ci i1) (ci i2) (ci i3) S)) _ = _
      rw [zcl_cu hcb.1, g_numberAt hcb.1 (by omega) (by omega) (by omega), Option.bind_some]
def aFlat (T : TZ) (a1 a2 : Int32) : Option (Int32 × TZ) := match T with
  | (p, cc, wc, CA, CG, WA, WG, WV) => if bl cc a1 = true ∧ bl 3 a2 = true then some (ci (rkF p (CA (nn a1) 0) (CA (nn a1) 1) (CA (nn a1) 2) (CG (nn a1)) (nn a2)), (p, cc, wc, CA, CG, WA, WG, WV)) else none
theorem op_flat {S : ZS} {ad : Nat → Nat} {T : TZ} (h : zQ S ad T) (a1 a2 : Int32) : zOpF ["java/lang/IndexOutOfBoundsException"] (aFlat T a1 a2) (fX5_flattening (ad 10) a1 a2 S) S (zRes S ad T.2.1 T.2.2.1) := by
  obtain ⟨p, cc, wc, CA, CG, WA, WG, WV⟩ := T
  obtain ⟨hK, hin, hcl⟩ := h
  have hcc := hK.2.1
  have hhd := hcl.1
  unfold aFlat
  simp only []
  cases hb : bl cc a1 with
  | false =>
    rw [if_neg (fun hh => by cases hh.1)]
    refine ⟨"java/lang/IndexOutOfBoundsException", by simp, ?_⟩
    unfold fX5_flattening
    rw [zcl_ob hhd.1, c_noCube hhd hcc hb, zbT_r]
  | true =>
    obtain ⟨i, hi, rfl⟩ := bl_ex (by omega) hb
    rw [nn_ci (n := i) (by omega)]
    have cN : zcl S (ad 10) 5 (fX5_needCube (ad 10) (ci i) S) = some (.inl (ad (100 + 2 * i), S)) := by rw [zcl_ob hhd.1]; exact c_needCube hhd hcc hi
    cases hs : bl 3 a2 with
    | false =>
      rw [if_neg (fun hh => by cases hh.2)]
      refine ⟨"java/lang/IndexOutOfBoundsException", by simp, ?_⟩
      unfold fX5_flattening
      rw [cN, zbT_l]
      show zbT (fX5_needSide a2 S) _ = _
      rw [c_needSide, hs]
      rfl
    | true =>
      rw [if_pos ⟨rfl, rfl⟩]
      obtain ⟨s, hs', rfl⟩ := bl_ex (by omega) hs
      rw [nn_ci (n := s) (by omega)]
      obtain ⟨S1, c1, c2⟩ := c_rk hcc hK.1 hin hcl hi hs'
      refine ⟨S1, ?_, zRes.rd hK hin c2⟩
      unfold fX5_flattening
      rw [cN, zbT_l]
      show zbT (fX5_needSide (ci s) S) _ = _
      rw [c_needSide, hs, if_pos rfl, zbT_l]
      show Option.bind (zgR S (ad 10) 5 2) _ = _
      rw [zgR_ob hhd.1 rfl, Option.bind_some]
      show Option.bind (zgI S (ad 10) 5 6) _ = _
      rw [zgI_ob hhd.1 rfl, Option.bind_some]
      show Option.bind (zcl S (ad 2) 1 (fX1_rankOf (ad 2) (ad (100 + 2 * i)) (ci s) (ci p) S)) _ = _
      rw [c1, Option.bind_some]
def aBound (T : TZ) (a1 : Int32) : Option (Int32 × TZ) := match T with
  | (p, cc, wc, CA, CG, WA, WG, WV) => if bl cc a1 = true then some (ci (bdF p (CA (nn a1) 0) (CA (nn a1) 1) (CA (nn a1) 2) (CG (nn a1))), (p, cc, wc, CA, CG, WA, WG, WV)) else none
theorem op_bound {S : ZS} {ad : Nat → Nat} {T : TZ} (h : zQ S ad T) (a1 : Int32) : zOpF ["java/lang/IndexOutOfBoundsException"] (aBound T a1) (fX5_bound (ad 10) a1 S) S (zRes S ad T.2.1 T.2.2.1) := by
  obtain ⟨p, cc, wc, CA, CG, WA, WG, WV⟩ := T
  obtain ⟨hK, hin, hcl⟩ := h
  have hcc := hK.2.1
  have hhd := hcl.1
  unfold aBound
  simp only []
  cases hb : bl cc a1 with
  | false =>
    rw [if_neg (by decide)]
    refine ⟨"java/lang/IndexOutOfBoundsException", by simp, ?_⟩
    unfold fX5_bound
    rw [zcl_ob hhd.1, c_noCube hhd hcc hb, zbT_r]
  | true =>
    rw [if_pos rfl]
    obtain ⟨i, hi, rfl⟩ := bl_ex (by omega) hb
    rw [nn_ci (n := i) (by omega)]
    have cN : zcl S (ad 10) 5 (fX5_needCube (ad 10) (ci i) S) = some (.inl (ad (100 + 2 * i), S)) := by rw [zcl_ob hhd.1]; exact c_needCube hhd hcc hi
    obtain ⟨S1, c1, c2⟩ := c_bd hcc hK.1 hin hcl hi
    refine ⟨S1, ?_, zRes.rd hK hin c2⟩
    unfold fX5_bound
    rw [cN, zbT_l]
    show Option.bind (zcl S (ad 10) 5 (fX5_greatestRank (ad 10) (ad (100 + 2 * i)) S)) _ = _
    rw [zcl_ob hhd.1, c1, Option.bind_some]
/-- the least number of products -/
noncomputable def lsD (a b d : Nat) (g : Nat → Nat) : Nat := Classical.epsilon (fun D => D ≤ a * b * d ∧ Rch a b d D (tGc b d g) ∧ ∀ k, Rch a b d k (tGc b d g) → D ≤ k)
theorem lsD_spec {a b d : Nat} {g : Nat → Nat} (h : szOK a b d) : lsD a b d g ≤ a * b * d ∧ Rch a b d (lsD a b d g) (tGc b d g) ∧ ∀ k, Rch a b d k (tGc b d g) → lsD a b d g ≤ k := by
  unfold szOK at h
  exact Classical.epsilon_spec (p := fun D => D ≤ a * b * d ∧ Rch a b d D (tGc b d g) ∧ ∀ k, Rch a b d k (tGc b d g) → D ≤ k) (Rch_min (by omega) (by omega))
noncomputable def aLeast (lim : Nat) (T : TZ) (a1 : Int32) : Option (Int32 × TZ) := match T with
  | (p, cc, wc, CA, CG, WA, WG, WV) => if bl cc a1 = true ∧ p = 2 ∧ CA (nn a1) 0 * CA (nn a1) 1 * CA (nn a1) 2 ≤ lim then some (ci (lsD (CA (nn a1) 0) (CA (nn a1) 1) (CA (nn a1) 2) (CG (nn a1))), (p, cc, wc, CA, CG, WA, WG, WV)) else none
theorem op_least {S : ZS} {ad : Nat → Nat} {T : TZ} (h : zQ S ad T) (a1 : Int32) : zOpF ["java/lang/IndexOutOfBoundsException", "java/lang/IllegalStateException"] (aLeast 12 T a1) (fX5_least (ad 10) a1 S) S (zRes S ad T.2.1 T.2.2.1) := by
  obtain ⟨p, cc, wc, CA, CG, WA, WG, WV⟩ := T
  obtain ⟨hK, hin, hcl⟩ := h
  have hcc := hK.2.1
  have hhd := hcl.1
  have hpb := hK.1.b
  unfold aLeast
  simp only []
  cases hb : bl cc a1 with
  | false =>
    rw [if_neg (fun hh => by cases hh.1)]
    refine ⟨"java/lang/IndexOutOfBoundsException", by simp, ?_⟩
    unfold fX5_least
    rw [zcl_ob hhd.1, c_noCube hhd hcc hb, zbT_r]
  | true =>
    obtain ⟨i, hi, rfl⟩ := bl_ex (by omega) hb
    rw [nn_ci (n := i) (by omega)]
    have hcb := hcl.2.2.1 i hi
    have hz := hcb.2.1
    have hz' := hz
    unfold szOK at hz'
    have hN1 : CA i 0 * CA i 1 ≤ 4 * 4 := Nat.mul_le_mul (by omega) (by omega)
    have hN2 : CA i 0 * CA i 1 * CA i 2 ≤ 16 * 4 := Nat.mul_le_mul hN1 (by omega)
    have cN : zcl S (ad 10) 5 (fX5_needCube (ad 10) (ci i) S) = some (.inl (ad (100 + 2 * i), S)) := by rw [zcl_ob hhd.1]; exact c_needCube hhd hcc hi
    have cS : zcl S (ad 10) 5 (fX5_needSmall (ad 10) (ad (100 + 2 * i)) (12 : Int32) S) = if p = 2 ∧ CA i 0 * CA i 1 * CA i 2 ≤ 12 then some (.inl ((), S)) else some (.inr ("java/lang/IllegalStateException", S.1)) := by
      rw [zcl_ob hhd.1]; exact c_small (lim := 12) hhd hpb.2 hcb.1 hN2 (by omega)
    by_cases hsm : p = 2 ∧ CA i 0 * CA i 1 * CA i 2 ≤ 12
    · rw [if_pos ⟨rfl, hsm⟩]
      obtain ⟨rfl, hN⟩ := hsm
      obtain ⟨d1, d2, d3⟩ := lsD_spec (g := CG i) hz
      obtain ⟨S1, g1, g2⟩ := c_bd hcc hK.1 hin hcl hi
      obtain ⟨S3, c1, c23⟩ := c_few hcc hin g2.1 hi (by omega) d2 d3 (bd_fewest hz hcb.2.2.1 d2) (by omega)
      refine ⟨S3, ?_, zRes.rd hK hin (g2.tr c23)⟩
      unfold fX5_least
      rw [cN, zbT_l]
      show zbT (zcl S (ad 10) 5 (fX5_needSmall (ad 10) (ad (100 + 2 * i)) (12 : Int32) S)) _ = _
      rw [cS, if_pos ⟨rfl, hN⟩, zbT_l]
      show Option.bind (zgR S (ad 10) 5 3) _ = _
      rw [zgR_ob hhd.1 rfl, Option.bind_some]
      show Option.bind (zcl S (ad 10) 5 (fX5_greatestRank (ad 10) (ad (100 + 2 * i)) S)) _ = _
      rw [zcl_ob hhd.1, g1, Option.bind_some]
      show Option.bind (zcl S1 (ad 3) 2 (fX2_fewest (ad 3) (ad (100 + 2 * i)) (ci (bdF 2 (CA i 0) (CA i 1) (CA i 2) (CG i))) S1)) _ = _
      rw [c1, Option.bind_some]
    · rw [if_neg (fun hh => hsm hh.2)]
      refine ⟨"java/lang/IllegalStateException", by simp, ?_⟩
      unfold fX5_least
      rw [cN, zbT_l]
      show zbT (zcl S (ad 10) 5 (fX5_needSmall (ad 10) (ad (100 + 2 * i)) (12 : Int32) S)) _ = _
      rw [cS, if_neg hsm, zbT_r]
theorem op_anew {S : ZS} {ad : Nat → Nat} {T : TZ} (h : zQ S ad T) (a1 : Int32) : zOpF ["java/lang/IndexOutOfBoundsException", "java/lang/IllegalStateException"] (aLeast 8 T a1) (fX5_leastAnew (ad 10) a1 S) S (zRes S ad T.2.1 T.2.2.1) := by
  obtain ⟨p, cc, wc, CA, CG, WA, WG, WV⟩ := T
  obtain ⟨hK, hin, hcl⟩ := h
  have hcc := hK.2.1
  have hhd := hcl.1
  have hpb := hK.1.b
  unfold aLeast
  simp only []
  cases hb : bl cc a1 with
  | false =>
    rw [if_neg (fun hh => by cases hh.1)]
    refine ⟨"java/lang/IndexOutOfBoundsException", by simp, ?_⟩
    unfold fX5_leastAnew
    rw [zcl_ob hhd.1, c_noCube hhd hcc hb, zbT_r]
  | true =>
    obtain ⟨i, hi, rfl⟩ := bl_ex (by omega) hb
    rw [nn_ci (n := i) (by omega)]
    have hcb := hcl.2.2.1 i hi
    have hz := hcb.2.1
    have hz' := hz
    unfold szOK at hz'
    have hN1 : CA i 0 * CA i 1 ≤ 4 * 4 := Nat.mul_le_mul (by omega) (by omega)
    have hN2 : CA i 0 * CA i 1 * CA i 2 ≤ 16 * 4 := Nat.mul_le_mul hN1 (by omega)
    have cN : zcl S (ad 10) 5 (fX5_needCube (ad 10) (ci i) S) = some (.inl (ad (100 + 2 * i), S)) := by rw [zcl_ob hhd.1]; exact c_needCube hhd hcc hi
    have cS : zcl S (ad 10) 5 (fX5_needSmall (ad 10) (ad (100 + 2 * i)) (8 : Int32) S) = if p = 2 ∧ CA i 0 * CA i 1 * CA i 2 ≤ 8 then some (.inl ((), S)) else some (.inr ("java/lang/IllegalStateException", S.1)) := by
      rw [zcl_ob hhd.1]; exact c_small (lim := 8) hhd hpb.2 hcb.1 hN2 (by omega)
    by_cases hsm : p = 2 ∧ CA i 0 * CA i 1 * CA i 2 ≤ 8
    · rw [if_pos ⟨rfl, hsm⟩]
      obtain ⟨rfl, hN⟩ := hsm
      obtain ⟨d1, d2, d3⟩ := lsD_spec (g := CG i) hz
      obtain ⟨S3, c1, c2⟩ := c_few hcc hin hcl hi (by omega) d2 d3 (Nat.zero_le _) (by omega)
      refine ⟨S3, ?_, zRes.rd hK hin c2⟩
      unfold fX5_leastAnew
      rw [cN, zbT_l]
      show zbT (zcl S (ad 10) 5 (fX5_needSmall (ad 10) (ad (100 + 2 * i)) (8 : Int32) S)) _ = _
      rw [cS, if_pos ⟨rfl, hN⟩, zbT_l]
      show Option.bind (zgR S (ad 10) 5 3) _ = _
      rw [zgR_ob hhd.1 rfl, Option.bind_some]
      show Option.bind (zcl S (ad 3) 2 (fX2_fewest (ad 3) (ad (100 + 2 * i)) (ci 0) S)) _ = _
      rw [c1, Option.bind_some]
    · rw [if_neg (fun hh => hsm hh.2)]
      refine ⟨"java/lang/IllegalStateException", by simp, ?_⟩
      unfold fX5_leastAnew
      rw [cN, zbT_l]
      show zbT (zcl S (ad 10) 5 (fX5_needSmall (ad 10) (ad (100 + 2 * i)) (8 : Int32) S)) _ = _
      rw [cS, if_neg hsm, zbT_r]
def aOfWay (T : TZ) (a1 a2 : Int32) : Option (Int32 × TZ) := match T with
  | (p, cc, wc, CA, CG, WA, WG, WV) => if bl wc a1 = true ∧ bl 5 a2 = true then some (ci (ofV p (WA (nn a1) 0) (WA (nn a1) 1) (WA (nn a1) 2) (WA (nn a1) 4) (WG (nn a1)) (WV (nn a1)) (nn a2)), (p, cc, wc, CA, CG, WA, WG, WV)) else none
theorem op_ofWay {S : ZS} {ad : Nat → Nat} {T : TZ} (h : zQ S ad T) (a1 a2 : Int32) : zOpF ["java/lang/IndexOutOfBoundsException", "java/lang/IllegalArgumentException"] (aOfWay T a1 a2) (fX5_ofWay (ad 10) a1 a2 S) S (zRes S ad T.2.1 T.2.2.1) := by
  obtain ⟨p, cc, wc, CA, CG, WA, WG, WV⟩ := T
  obtain ⟨hK, hin, hcl⟩ := h
  have hcc := hK.2.1
  have hwc := hK.2.2.1
  have hhd := hcl.1
  unfold aOfWay
  simp only []
  cases hb : bl wc a1 with
  | false =>
    rw [if_neg (fun hh => by cases hh.1)]
    refine ⟨"java/lang/IndexOutOfBoundsException", by simp, ?_⟩
    unfold fX5_ofWay
    rw [zcl_ob hhd.1, c_noWay hhd hwc hb, zbT_r]
  | true =>
    obtain ⟨w, hw, rfl⟩ := bl_ex (by omega) hb
    rw [nn_ci (n := w) (by omega)]
    have cN : zcl S (ad 10) 5 (fX5_needWay (ad 10) (ci w) S) = some (.inl (ad (200 + 4 * w), S)) := by rw [zcl_ob hhd.1]; exact c_needWay hhd hwc hw
    cases hq : bl 5 a2 with
    | false =>
      rw [if_neg (fun hh => by cases hh.2)]
      refine ⟨"java/lang/IllegalArgumentException", by simp, ?_⟩
      unfold fX5_ofWay fX5_ofWay_J15
      rw [cN, zbT_l]
      by_cases h0 : a2 < 0
      · rw [if_pos h0]
      · rw [if_neg h0]
        obtain ⟨q, hq', rfl⟩ := ci_of (Int32.not_lt.mp h0)
        rw [bl_ci (by omega) hq', decide_eq_false_iff_not] at hq
        rw [if_neg (by rw [cl_4, ci_le hq' (by omega)]; omega)]
    | true =>
      rw [if_pos ⟨rfl, rfl⟩]
      obtain ⟨q, hq', rfl⟩ := bl_ex (by omega) hq
      rw [nn_ci (n := q) (by omega)]
      obtain ⟨S1, c1, c2⟩ := c_ofWay hcc hwc hin hcl hw hq'
      exact ⟨S1, c1, zRes.rd hK hin c2⟩
def aVec (T : TZ) (a1 a2 a3 : Int32) : Option (Int32 × TZ) := match T with
  | (p, cc, wc, CA, CG, WA, WG, WV) => if bl wc a1 = true ∧ (bl (WA (nn a1) 4) a2 && bl 3 a3) = true then some (ci (enc p (sz3 (WA (nn a1) 0) (WA (nn a1) 1) (WA (nn a1) 2) (nn a3)) (WV (nn a1) (nn a2) (nn a3))), (p, cc, wc, CA, CG, WA, WG, WV)) else none
theorem op_vec {S : ZS} {ad : Nat → Nat} {T : TZ} (h : zQ S ad T) (a1 a2 a3 : Int32) : zOpF ["java/lang/IndexOutOfBoundsException"] (aVec T a1 a2 a3) (fX5_vector (ad 10) a1 a2 a3 S) S (zRes S ad T.2.1 T.2.2.1) := by
  obtain ⟨p, cc, wc, CA, CG, WA, WG, WV⟩ := T
  obtain ⟨hK, hin, hcl⟩ := h
  have hwc := hK.2.2.1
  have hhd := hcl.1
  unfold aVec
  simp only []
  cases hb : bl wc a1 with
  | false =>
    rw [if_neg (fun hh => by cases hh.1)]
    refine ⟨"java/lang/IndexOutOfBoundsException", by simp, ?_⟩
    unfold fX5_vector
    rw [zcl_ob hhd.1, c_noWay hhd hwc hb, zbT_r]
  | true =>
    obtain ⟨i, hi, rfl⟩ := bl_ex (by omega) hb
    rw [nn_ci (n := i) (by omega)]
    have hwy := (hcl.2.2.2 i hi).1
    have hkk := hwy.kk
    have cN : zcl S (ad 10) 5 (fX5_needWay (ad 10) (ci i) S) = some (.inl (ad (200 + 4 * i), S)) := by rw [zcl_ob hhd.1]; exact c_needWay hhd hwc hi
    cases hb2 : bl (WA i 4) a2 with
    | false =>
      rw [if_neg (fun hh => by cases hh.2)]
      refine ⟨"java/lang/IndexOutOfBoundsException", by simp, ?_⟩
      unfold fX5_vector
      rw [cN, zbT_l, c_needProduct hwy, hb2]
      rfl
    | true =>
      cases hb3 : bl 3 a3 with
      | false =>
        rw [if_neg (fun hh => by cases hh.2)]
        refine ⟨"java/lang/IndexOutOfBoundsException", by simp, ?_⟩
        unfold fX5_vector
        rw [cN, zbT_l, c_needProduct hwy, hb2, if_pos rfl, zbT_l, c_needSide, hb3]
        rfl
      | true =>
        rw [if_pos ⟨rfl, rfl⟩]
        obtain ⟨q, hq, rfl⟩ := bl_ex (by omega) hb2
        obtain ⟨s, hs, rfl⟩ := bl_ex (by omega) hb3
        rw [nn_ci (n := q) (by omega), nn_ci (n := s) (by omega)]
        refine ⟨S, ?_, zRes.rd hK hin (kpL.rf hcl)⟩
        unfold fX5_vector
        rw [cN, zbT_l, c_needProduct hwy, hb2, if_pos rfl, zbT_l, c_needSide, hb3, if_pos rfl, zbT_l]
        show Option.bind (zcl S (ad (200 + 4 * i)) 4 (fX4_code (ad (200 + 4 * i)) (ci q) (ci s) S)) _ = _
        rw [zcl_ob hwy.wa, g_code hwy hq hs, Option.bind_some]
def aRes (T : TZ) (a1 a2 a3 a4 : Int32) : Option (Int32 × TZ) := match T with
  | (p, cc, wc, CA, CG, WA, WG, WV) => if bl wc a1 = true ∧ ask p (WA (nn a1) 0) (WA (nn a1) 1) (WA (nn a1) 2) a2 a3 a4 = 0 then some (ci (rsF p (WA (nn a1) 0) (WA (nn a1) 1) (nn a2) (nn a3) (nn a4) (WV (nn a1)) (WA (nn a1) 4) % p), (p, cc, wc, CA, CG, WA, WG, WV)) else none
def aRbc (T : TZ) (a1 a2 a3 a4 : Int32) : Option (Int32 × TZ) := match T with
  | (p, cc, wc, CA, CG, WA, WG, WV) => if bl wc a1 = true ∧ ask p (WA (nn a1) 0) (WA (nn a1) 1) (WA (nn a1) 2) a2 a3 a4 = 0 then some (ci (rbF p (WA (nn a1) 0) (WA (nn a1) 1) (nn a2) (nn a3) (nn a4) (WG (nn a1)) (WA (nn a1) 0) % p), (p, cc, wc, CA, CG, WA, WG, WV)) else none
theorem ask_0 {p a b d : Nat} {x y z : Int32} (h : ask p a b d x y z = 0) : bl (p ^ a) x = true ∧ bl (p ^ b) y = true ∧ bl d z = true := by
  unfold ask at h
  cases h1 : bl d z with
  | false => rw [h1] at h; cases h
  | true =>
    rw [h1, if_pos rfl] at h
    cases h2 : (bl (p ^ a) x && bl (p ^ b) y) with
    | false => rw [h2] at h; cases h
    | true =>
      rw [Bool.and_eq_true] at h2
      exact ⟨h2.1, h2.2, rfl⟩
theorem ask_nm {p a b d : Nat} {x y z : Int32} : (if ask p a b d x y z = 1 then "java/lang/IndexOutOfBoundsException" else "java/lang/IllegalArgumentException") ∈ ["java/lang/IndexOutOfBoundsException", "java/lang/IllegalArgumentException"] := by
  split <;> simp
theorem op_res {S : ZS} {ad : Nat → Nat} {T : TZ} (h : zQ S ad T) (a1 a2 a3 a4 : Int32) : zOpF ["java/lang/IndexOutOfBoundsException", "java/lang/IllegalArgumentException"] (aRes T a1 a2 a3 a4) (fX5_result (ad 10) a1 a2 a3 a4 S) S (zRes S ad T.2.1 T.2.2.1) := by
  obtain ⟨p, cc, wc, CA, CG, WA, WG, WV⟩ := T
  obtain ⟨hK, hin, hcl⟩ := h
  have hwc := hK.2.2.1
  have hhd := hcl.1
  unfold aRes
  simp only []
  cases hb : bl wc a1 with
  | false =>
    rw [if_neg (fun hh => by cases hh.1)]
    refine ⟨"java/lang/IndexOutOfBoundsException", by simp, ?_⟩
    unfold fX5_result
    rw [zcl_ob hhd.1, c_noWay hhd hwc hb, zbT_r]
  | true =>
    obtain ⟨w, hw, rfl⟩ := bl_ex (by omega) hb
    rw [nn_ci (n := w) (by omega)]
    have hwb := hcl.2.2.2 w hw
    have hwy := hwb.1
    have hsz := hwy.2.1
    unfold szOK at hsz
    have cN : zcl S (ad 10) 5 (fX5_needWay (ad 10) (ci w) S) = some (.inl (ad (200 + 4 * w), S)) := by rw [zcl_ob hhd.1]; exact c_needWay hhd hwc hw
    by_cases hj : ask p (WA w 0) (WA w 1) (WA w 2) a2 a3 a4 = 0
    · rw [if_pos ⟨rfl, hj⟩]
      obtain ⟨h1, h2, h3⟩ := ask_0 hj
      have pw0 := hwy.1.pow hsz.1.2
      have pw1 := hwy.1.pow hsz.2.1.2
      obtain ⟨xx, hxx, rfl⟩ := bl_ex (by omega) h1
      obtain ⟨yy, hyy, rfl⟩ := bl_ex (by omega) h2
      obtain ⟨zz, hzz, rfl⟩ := bl_ex (by omega) h3
      rw [nn_ci (n := xx) (by omega), nn_ci (n := yy) (by omega), nn_ci (n := zz) (by omega)]
      refine ⟨S, ?_, zRes.rd hK hin (kpL.rf hcl)⟩
      unfold fX5_result
      rw [cN, zbT_l]
      show zbT (zcl S (ad 10) 5 (fX5_needFactors (ad 10) (ad (200 + 4 * w)) (ci xx) (ci yy) (ci zz) S)) _ = _
      rw [c_needFactors hhd hwy, if_pos hj, zbT_l]
      show Option.bind (zcl S (ad (200 + 4 * w)) 4 (fX4_multiplied (ad (200 + 4 * w)) (ci xx) (ci yy) (ci zz) S)) _ = _
      rw [zcl_ob hwy.wa, c_multiplied hwy (by omega) (by omega) hzz, Option.bind_some]
    · rw [if_neg (fun hh => hj hh.2)]
      refine ⟨_, ask_nm (p := p) (a := WA w 0) (b := WA w 1) (d := WA w 2) (x := a2) (y := a3) (z := a4), ?_⟩
      unfold fX5_result
      rw [cN, zbT_l]
      show zbT (zcl S (ad 10) 5 (fX5_needFactors (ad 10) (ad (200 + 4 * w)) a2 a3 a4 S)) _ = _
      rw [c_needFactors hhd hwy, if_neg hj, zbT_r]
theorem op_rbc {S : ZS} {ad : Nat → Nat} {T : TZ} (h : zQ S ad T) (a1 a2 a3 a4 : Int32) : zOpF ["java/lang/IndexOutOfBoundsException", "java/lang/IllegalArgumentException"] (aRbc T a1 a2 a3 a4) (fX5_resultByCube (ad 10) a1 a2 a3 a4 S) S (zRes S ad T.2.1 T.2.2.1) := by
  obtain ⟨p, cc, wc, CA, CG, WA, WG, WV⟩ := T
  obtain ⟨hK, hin, hcl⟩ := h
  have hwc := hK.2.2.1
  have hhd := hcl.1
  unfold aRbc
  simp only []
  cases hb : bl wc a1 with
  | false =>
    rw [if_neg (fun hh => by cases hh.1)]
    refine ⟨"java/lang/IndexOutOfBoundsException", by simp, ?_⟩
    unfold fX5_resultByCube
    rw [zcl_ob hhd.1, c_noWay hhd hwc hb, zbT_r]
  | true =>
    obtain ⟨w, hw, rfl⟩ := bl_ex (by omega) hb
    rw [nn_ci (n := w) (by omega)]
    have hwb := hcl.2.2.2 w hw
    have hwy := hwb.1
    have hsz := hwy.2.1
    unfold szOK at hsz
    have cN : zcl S (ad 10) 5 (fX5_needWay (ad 10) (ci w) S) = some (.inl (ad (200 + 4 * w), S)) := by rw [zcl_ob hhd.1]; exact c_needWay hhd hwc hw
    by_cases hj : ask p (WA w 0) (WA w 1) (WA w 2) a2 a3 a4 = 0
    · rw [if_pos ⟨rfl, hj⟩]
      obtain ⟨h1, h2, h3⟩ := ask_0 hj
      have pw0 := hwy.1.pow hsz.1.2
      have pw1 := hwy.1.pow hsz.2.1.2
      obtain ⟨xx, hxx, rfl⟩ := bl_ex (by omega) h1
      obtain ⟨yy, hyy, rfl⟩ := bl_ex (by omega) h2
      obtain ⟨zz, hzz, rfl⟩ := bl_ex (by omega) h3
      rw [nn_ci (n := xx) (by omega), nn_ci (n := yy) (by omega), nn_ci (n := zz) (by omega)]
      refine ⟨S, ?_, zRes.rd hK hin (kpL.rf hcl)⟩
      unfold fX5_resultByCube
      rw [cN, zbT_l]
      show zbT (zcl S (ad 10) 5 (fX5_needFactors (ad 10) (ad (200 + 4 * w)) (ci xx) (ci yy) (ci zz) S)) _ = _
      rw [c_needFactors hhd hwy, if_pos hj, zbT_l]
      show Option.bind (zcl S (ad (200 + 4 * w)) 4 (fX4_multipliedByCube (ad (200 + 4 * w)) (ci xx) (ci yy) (ci zz) S)) _ = _
      rw [zcl_ob hwy.wa, c_mbc hwy hwb.2.1 (by omega) (by omega) hzz, Option.bind_some]
    · rw [if_neg (fun hh => hj hh.2)]
      refine ⟨_, ask_nm (p := p) (a := WA w 0) (b := WA w 1) (d := WA w 2) (x := a2) (y := a3) (z := a4), ?_⟩
      unfold fX5_resultByCube
      rw [cN, zbT_l]
      show zbT (zcl S (ad 10) 5 (fX5_needFactors (ad 10) (ad (200 + 4 * w)) a2 a3 a4 S)) _ = _
      rw [c_needFactors hhd hwy, if_neg hj, zbT_r]
def aLev (T : TZ) (a1 a2 a3 : Int32) : Option (Int64 × TZ) := match T with
  | (p, cc, wc, CA, CG, WA, WG, WV) => if bl wc a1 = true ∧ bl 7 a2 = true ∧ 2 ≤ WA (nn a1) 3 then some ((if a3 = 0 then lvM (WA (nn a1) 4) (nn a2) else lvA (WA (nn a1) 4) (WA (nn a1) 3) (Int32.toInt64 (ci (sm 3 (adS (WA (nn a1) 0) (WA (nn a1) 1) (WA (nn a1) 2) (WA (nn a1) 4) (WV (nn a1)) false)))) (nn a2)), (p, cc, wc, CA, CG, WA, WG, WV)) else none
theorem op_lev {S : ZS} {ad : Nat → Nat} {T : TZ} (h : zQ S ad T) (a1 a2 a3 : Int32) : zOpF ["java/lang/IndexOutOfBoundsException", "java/lang/IllegalArgumentException", "java/lang/IllegalStateException"] (aLev T a1 a2 a3) (fX5_levels (ad 10) a1 a2 a3 S) S (zRes S ad T.2.1 T.2.2.1) := by
  obtain ⟨p, cc, wc, CA, CG, WA, WG, WV⟩ := T
  obtain ⟨hK, hin, hcl⟩ := h
  have hcc := hK.2.1
  have hwc := hK.2.2.1
  have hhd := hcl.1
  have htl := hcl.2.1
  unfold aLev
  simp only []
  cases hb : bl wc a1 with
  | false =>
    rw [if_neg (fun hh => by cases hh.1)]
    refine ⟨"java/lang/IndexOutOfBoundsException", by simp, ?_⟩
    unfold fX5_levels
    rw [zcl_ob hhd.1, c_noWay hhd hwc hb, zbT_r]
  | true =>
    obtain ⟨w, hw, rfl⟩ := bl_ex (by omega) hb
    rw [nn_ci (n := w) (by omega)]
    have hwb := hcl.2.2.2 w hw
    have hwy := hwb.1
    have hcu := hwy.2.2.2.2.1
    have hsq := hwb.2.2
    have cN : zcl S (ad 10) 5 (fX5_needWay (ad 10) (ci w) S) = some (.inl (ad (200 + 4 * w), S)) := by rw [zcl_ob hhd.1]; exact c_needWay hhd hwc hw
    cases hq : bl 7 a2 with
    | false =>
      rw [if_neg (fun hh => by cases hh.2.1)]
      refine ⟨"java/lang/IllegalArgumentException", by simp, ?_⟩
      unfold fX5_levels fX5_levels_J17
      rw [cN, zbT_l]
      by_cases h0 : a2 < 0
      · rw [if_pos h0]
      · rw [if_neg h0]
        obtain ⟨q, hq', rfl⟩ := ci_of (Int32.not_lt.mp h0)
        rw [bl_ci (by omega) hq', decide_eq_false_iff_not] at hq
        rw [if_neg (by rw [cl_6, ci_le hq' (by omega)]; omega)]
    | true =>
      obtain ⟨L, hL, rfl⟩ := bl_ex (by omega) hq
      rw [nn_ci (n := L) (by omega)]
      by_cases hs2 : 2 ≤ WA w 3
      · rw [if_pos ⟨rfl, rfl, hs2⟩]
        have e0 : fX5_levels (ad 10) (ci w) (ci L) a3 S = (if a3 = 0 then Option.bind (fX5_multiplicationsInLevels (ad (200 + 4 * w)) (ci L) S) fun x4 => fX5_levels_J76 x4 S else Option.bind (zcl S (ad 10) 5 (fX5_countAdditions (ad 10) (ad (200 + 4 * w)) (0 : Int32) S)) fun x5 => Option.bind (fX5_additionsInLevels (ad (200 + 4 * w)) (ci L) (Int32.toInt64 x5.1) x5.2) fun x6 => fX5_levels_J76 x6 x5.2) := by
          unfold fX5_levels
          rw [cN, zbT_l, if_neg (ci_nneg (by omega)), if_pos (by rw [cl_6, ci_le (by omega) (by omega)]; omega)]
          show Option.bind (zgR S (ad (200 + 4 * w)) 4 0) _ = _
          rw [zgR_ob hwy.wa rfl, Option.bind_some]
          show Option.bind (zgI S (ad (201 + 4 * w)) 0 4) _ = _
          rw [zgI_ob hcu.1 rfl, Option.bind_some, if_pos (by rw [cl_2, ci_le (by omega) (by omega)]; omega)]
        by_cases h3 : a3 = 0
        · rw [if_pos h3]
          refine ⟨S, ?_, zRes.rd hK hin (kpL.rf hcl)⟩
          rw [e0, if_pos h3, c_lvM hwy (by omega), Option.bind_some]
          rfl
        · rw [if_neg h3]
          obtain ⟨c6, ho6⟩ := htl.2.2.2.2.2.1
          obtain ⟨f7, hJ7⟩ := htl.2.2.2.2.2.2.1
          obtain ⟨S1, x1, F1, b1, b2, b3, b4, b5⟩ := c_additions (sh := false) hhd hwy ho6 hJ7
          have hk9 : kpL S S1 ad p cc wc CA CG WA WG WV := zCl.tl hcc hin hcl (b5.wk (fun b hb => hb.elim (fun e => ⟨4, by omega, e⟩) (fun e => ⟨9, by omega, e⟩))) (tl_sm hin htl b5 b2 b3)
          refine ⟨S1, ?_, zRes.rd hK hin hk9⟩
          rw [e0, if_neg h3, zcl_ob hhd.1]
          show Option.bind (fX5_countAdditions (ad 10) (ad (200 + 4 * w)) (bI false) S) _ = _
          rw [b1, Option.bind_some]
          show Option.bind (fX5_additionsInLevels (ad (200 + 4 * w)) (ci L) (Int32.toInt64 (ci (sm 3 (adS (WA w 0) (WA w 1) (WA w 2) (WA w 4) (WV w) false)))) S1) _ = _
          rw [c_lvA b4 (by omega), Option.bind_some]
          rfl
      · rw [if_neg (fun hh => hs2 hh.2.2)]
        refine ⟨"java/lang/IllegalStateException", by simp, ?_⟩
        unfold fX5_levels
        rw [cN, zbT_l, if_neg (ci_nneg (by omega)), if_pos (by rw [cl_6, ci_le (by omega) (by omega)]; omega)]
        show Option.bind (zgR S (ad (200 + 4 * w)) 4 0) _ = _
        rw [zgR_ob hwy.wa rfl, Option.bind_some]
        show Option.bind (zgI S (ad (201 + 4 * w)) 0 4) _ = _
        rw [zgI_ob hcu.1 rfl, Option.bind_some, if_neg (by rw [cl_2, ci_le (by omega) (by omega)]; omega)]
