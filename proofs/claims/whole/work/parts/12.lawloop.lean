/-- what the pure part owes: every call of the script keeps the invariant, class and reference answering alike -/
def zStep (I : Nat → Nat → Nat → ZS → Prop) (x m out : Nat) (S : ZS) : Prop :=
  (∀ a1 : Int32, ok_0 x m out a1 S (I x m out)) ∧
  (∀ a1 a2 a3 : Int32, ok_1 x m out a1 a2 a3 S (I x m out)) ∧
  (∀ a1 a2 a3 : Int32, ok_2 x m out a1 a2 a3 S (I x m out)) ∧
  (∀ a1 a2 : Int32, ok_3 x m out a1 a2 S (I x m out)) ∧
  (∀ a1 : Int32, ok_4 x m out a1 S (I x m out)) ∧
  (∀ a1 a2 a3 a4 a5 : Int32, ok_5 x m out a1 a2 a3 a4 a5 S (I x m out)) ∧
  (∀ a1 a2 a3 a4 a5 : Int32, ok_6 x m out a1 a2 a3 a4 a5 S (I x m out)) ∧
  (∀ a1 a2 : Int32, ok_7 x m out a1 a2 S (I x m out)) ∧
  (∀ a1 a2 : Int32, ok_8 x m out a1 a2 S (I x m out)) ∧
  (∀ a1 : Int32, ok_9 x m out a1 S (I x m out)) ∧
  (∀ a1 a2 a3 a4 : Int32, ok_10 x m out a1 a2 a3 a4 S (I x m out)) ∧
  (∀ a1 : Int32, ok_11 x m out a1 S (I x m out)) ∧
  (∀ a1 a2 a3 a4 : Int32, ok_12 x m out a1 a2 a3 a4 S (I x m out)) ∧
  (∀ a1 : Int32, ok_13 x m out a1 S (I x m out)) ∧
  (∀ a1 a2 a3 : Int32, ok_14 x m out a1 a2 a3 S (I x m out)) ∧
  (∀ a1 a2 a3 a4 : Int32, ok_15 x m out a1 a2 a3 a4 S (I x m out)) ∧
  (∀ a1 a2 : Int32, ok_16 x m out a1 a2 S (I x m out)) ∧
  (∀ a1 : Int32, ok_17 x m out a1 S (I x m out)) ∧
  (∀ a1 : Int32, ok_18 x m out a1 S (I x m out)) ∧
  (∀ a1 : Int32, ok_19 x m out a1 S (I x m out)) ∧
  (∀ a1 a2 : Int32, ok_20 x m out a1 a2 S (I x m out)) ∧
  (∀ a1 a2 a3 : Int32, ok_21 x m out a1 a2 a3 S (I x m out)) ∧
  (∀ a1 a2 a3 a4 : Int32, ok_22 x m out a1 a2 a3 a4 S (I x m out)) ∧
  (∀ a1 a2 a3 a4 : Int32, ok_23 x m out a1 a2 a3 a4 S (I x m out)) ∧
  (∀ a1 a2 a3 : Int32, ok_24 x m out a1 a2 (if a3 = 0 then (0 : Int32) else 1) S (I x m out))
def zOwed (I : Nat → Nat → Nat → ZS → Prop) : Prop := (∀ (x m out : Nat) (S : ZS), I x m out S → zFr S.1 S.2 → zStep I x m out S) ∧ ∀ n0 : Nat, ∃ S1 S2 : ZS, fX5_init n0 (zno ((fun _ => none), n0) 5 [.null, .null, .null, .null, .null, .null, .int 0, .int 0, .int 0]) = some S1 ∧ fX6_init S1.2 (zno S1 6 [.int 0, .int 0, .int 0, .null, .null, .null, .int 0, .null, .null, .null, .null, .null, .null, .null, .null, .int 0, .null, .int 0, .int 0]) = some S2 ∧ I n0 S1.2 S2.2 (zna S2 1 1)
theorem zi6 {k L : Nat} (hL : L ≤ 3072) (hk : 6 * k ≤ 3078) : (Int32.ofNat L - 6 < Int32.ofNat (6 * k)) ↔ L < 6 * k + 6 := by
  have e1 : (Int32.ofNat L).toInt = (L : Int) := by
    rw [Int32.toInt_ofNat_of_lt (by omega)]
  have e2 : (Int32.ofNat (6 * k)).toInt = ((6 * k : Nat) : Int) := by
    rw [Int32.toInt_ofNat_of_lt (by omega)]
  rw [Int32.lt_iff_toInt_lt, Int32.toInt_sub, e1, e2, show (6 : Int32).toInt = 6 from rfl]
  rw [Int.bmod_eq_of_le (by omega) (by omega)]
  omega
theorem zin6 {k L : Nat} (hL : L ≤ 3072) (hk : 6 * k + 6 ≤ L) (j : Int32) (hj : 0 ≤ j.toInt ∧ j.toInt ≤ 5) : vp_in (Int32.ofNat (6 * k) + j) L := by
  have e2 : (Int32.ofNat (6 * k)).toInt = ((6 * k : Nat) : Int) := by
    rw [Int32.toInt_ofNat_of_lt (by omega)]
  have e3 : (Int32.ofNat (6 * k) + j).toInt = ((6 * k : Nat) : Int) + j.toInt := by
    rw [Int32.toInt_add, e2, Int.bmod_eq_of_le (by omega) (by omega)]
  intro h
  rcases h with h | h
  · rw [Int32.lt_iff_toInt_lt, e3] at h
    have : (0 : Int32).toInt = 0 := rfl
    omega
  · unfold Int32.toNatClampNeg at h
    rw [e3] at h
    omega
theorem zand31 (x : Int32) : 0 ≤ (x &&& 31).toInt := by
  have h : (x &&& 31).toBitVec.toNat ≤ 31 := by
    rw [Int32.toBitVec_and, BitVec.toNat_and]
    exact Nat.and_le_right
  show 0 ≤ (x &&& 31).toBitVec.toInt
  rw [BitVec.toInt_eq_toNat_of_lt (by omega)]
  omega
set_option maxHeartbeats 4000000 in
set_option maxRecDepth 100000 in
theorem zlaw_loop {G : ZG} {b L x m out : Nat} {xs : Nat → Int32} {c0 s0 : Nat} {I : Nat → Nat → Nat → ZS → Prop} (h0 : zFix G code RL 8 (some .boolean) room_1) (hfl : zFlag G) (hS : zScr G b L xs) (hL : L ≤ 3072) (hI : ∀ (x m out : Nat) (S : ZS), I x m out S → zFr S.1 S.2 → zStep I x m out S) (hc : c0 + 8 * 513 ≤ 601024) (hs : s0 + 119 * 513 ≤ 7293034) (hend : ∀ (S : ZS) (ce sl : Nat) (lv : List (Nat × Value)), ce ≤ 601024 → sl ≤ 7293034 → zV G 8 S ce sl 2014 lv [.int 1] True) :
    ∀ (n k : Nat) (S : ZS), k ≤ 512 → 513 ≤ k + n → 6 * k ≤ L + 6 → I x m out S → zV G 8 S (c0 + 8 * k) (s0 + 119 * k) 23 [(0, .ref b), (1, .ref x), (2, .ref m), (3, .ref out), (4, .int (Int32.ofNat (6 * k)))] [] True := by
  intro n
  induction n with
  | zero => intro k S h1 h2; omega
  | succ n ih =>
    intro k S hk hn h6 hi
    refine zv_fr (fun hfr => ?_)

    refine zr_iload h0 dL_law_23 rfl (n := 25) rfl ?_
    refine zr_aload_n h0 dL_law_25 rfl (n := 26) rfl ?_
    refine zr_slen h0 hS dL_law_26 (n := 27) rfl ?_
    refine zr_bipush (6 : Int32) h0 (by decide) dL_law_27 (n := 29) rfl ?_
    refine zr_isub h0 dL_law_29 (n := 30) rfl ?_
    by_cases hlt : L < 6 * k + 6
    · refine zr_icmp_gtY (tgt := 2013) h0 ((zi6 hL (by omega)).mpr hlt) dL_law_30 (by decide) ?_
      refine zr_iconst (1 : Int32) h0 (by decide) dL_law_2013 (n := 2014) rfl ?_
      exact hend S _ _ _ (by omega) (by omega)
    · refine zr_icmp_gtN (tgt := 2013) h0 (fun h => hlt ((zi6 hL (by omega)).mp h)) dL_law_30 (by decide) ?_
      have hin : ∀ j : Int32, (0 ≤ j.toInt ∧ j.toInt ≤ 5) → vp_in (Int32.ofNat (6 * k) + j) L := fun j hj => zin6 hL (by omega) j hj
      have hin0 : vp_in (Int32.ofNat (6 * k)) L := by
        have h := hin 0 (by decide)
        rw [Int32.add_zero] at h
        exact h
      have next : ∀ S1 : ZS, I x m out S1 → zV G 8 S1 (c0 + 8 * k + 8) (s0 + 119 * k + 119) 2007 [(0, .ref b), (1, .ref x), (2, .ref m), (3, .ref out), (4, .int (Int32.ofNat (6 * k)))] [] True := by
        intro S1 h1
        refine zr_iinc (6 : Int32) [(0, .ref b), (1, .ref x), (2, .ref m), (3, .ref out), (4, .int (Int32.ofNat (6 * k) + 6))] h0 dL_law_2007 rfl (by decide) rfl rfl (n := 2010) rfl ?_
        refine zr_goto (tgt := 23) h0 dL_law_2010 (by decide) ?_
        have h2 := ih (k + 1) S1 (by omega) (by omega) (by omega) h1
        rw [show Int32.ofNat (6 * (k + 1)) = Int32.ofNat (6 * k) + 6 by rw [show 6 * (k + 1) = 6 * k + 6 by omega, Int32.ofNat_add]; rfl] at h2
        exact h2
      refine zr_aload_n h0 dL_law_33 rfl (n := 34) rfl ?_
      refine zr_iload h0 dL_law_34 rfl (n := 36) rfl ?_
      refine zr_sld h0 hS hin0 dL_law_36 (n := 37) rfl ?_
      refine zr_bipush (31 : Int32) h0 (by decide) dL_law_37 (n := 39) rfl ?_
      refine zr_iand h0 dL_law_39 (n := 40) rfl ?_
      have h31 := zand31 (xs (Int32.ofNat (6 * k)).toNatClampNeg)
      generalize xs (Int32.ofNat (6 * k)).toNatClampNeg &&& 31 = v at h31 ⊢
      have hst := hI x m out S hi hfr
      obtain ⟨p0, p1, p2, p3, p4, p5, p6, p7, p8, p9, p10, p11, p12, p13, p14, p15, p16, p17, p18, p19, p20, p21, p22, p23, p24⟩ := hst
      by_cases hv0 : v.toInt = 0
      · exact zr_switchK 156 0 h0 hv0 dL_law_40 (by decide) (by decide) (lc_0 (I := I x m out) h0 hfl hS hin (p0 _) (by omega) (by omega) next)
      by_cases hv1 : v.toInt = 1
      · exact zr_switchK 212 1 h0 hv1 dL_law_40 (by decide) (by decide) (lc_1 (I := I x m out) h0 hfl hS hin (p1 _ _ _) (by omega) (by omega) next)
      by_cases hv2 : v.toInt = 2
      · exact zr_switchK 292 2 h0 hv2 dL_law_40 (by decide) (by decide) (lc_2 (I := I x m out) h0 hfl hS hin (p2 _ _ _) (by omega) (by omega) next)
      by_cases hv3 : v.toInt = 3
      · exact zr_switchK 372 3 h0 hv3 dL_law_40 (by decide) (by decide) (lc_3 (I := I x m out) h0 hfl hS hin (p3 _ _) (by omega) (by omega) next)
      by_cases hv4 : v.toInt = 4
      · exact zr_switchK 440 4 h0 hv4 dL_law_40 (by decide) (by decide) (lc_4 (I := I x m out) h0 hfl hS hin (p4 _) (by omega) (by omega) next)
      by_cases hv5 : v.toInt = 5
      · exact zr_switchK 496 5 h0 hv5 dL_law_40 (by decide) (by decide) (lc_5 (I := I x m out) h0 hfl hS hin (p5 _ _ _ _ _) (by omega) (by omega) next)
      by_cases hv6 : v.toInt = 6
      · exact zr_switchK 600 6 h0 hv6 dL_law_40 (by decide) (by decide) (lc_6 (I := I x m out) h0 hfl hS hin (p6 _ _ _ _ _) (by omega) (by omega) next)
      by_cases hv7 : v.toInt = 7
      · exact zr_switchK 704 7 h0 hv7 dL_law_40 (by decide) (by decide) (lc_7 (I := I x m out) h0 hfl hS hin (p7 _ _) (by omega) (by omega) next)
      by_cases hv8 : v.toInt = 8
      · exact zr_switchK 772 8 h0 hv8 dL_law_40 (by decide) (by decide) (lc_8 (I := I x m out) h0 hfl hS hin (p8 _ _) (by omega) (by omega) next)
      by_cases hv9 : v.toInt = 9
      · exact zr_switchK 840 9 h0 hv9 dL_law_40 (by decide) (by decide) (lc_9 (I := I x m out) h0 hfl hS hin (p9 _) (by omega) (by omega) next)
      by_cases hv10 : v.toInt = 10
      · exact zr_switchK 896 10 h0 hv10 dL_law_40 (by decide) (by decide) (lc_10 (I := I x m out) h0 hfl hS hin (p10 _ _ _ _) (by omega) (by omega) next)
      by_cases hv11 : v.toInt = 11
      · exact zr_switchK 988 11 h0 hv11 dL_law_40 (by decide) (by decide) (lc_11 (I := I x m out) h0 hfl hS hin (p11 _) (by omega) (by omega) next)
      by_cases hv12 : v.toInt = 12
      · exact zr_switchK 1044 12 h0 hv12 dL_law_40 (by decide) (by decide) (lc_12 (I := I x m out) h0 hfl hS hin (p12 _ _ _ _) (by omega) (by omega) next)
      by_cases hv13 : v.toInt = 13
      · exact zr_switchK 1116 13 h0 hv13 dL_law_40 (by decide) (by decide) (lc_13 (I := I x m out) h0 hfl hS hin (p13 _) (by omega) (by omega) next)
      by_cases hv14 : v.toInt = 14
      · exact zr_switchK 1172 14 h0 hv14 dL_law_40 (by decide) (by decide) (lc_14 (I := I x m out) h0 hfl hS hin (p14 _ _ _) (by omega) (by omega) next)
      by_cases hv15 : v.toInt = 15
      · exact zr_switchK 1252 15 h0 hv15 dL_law_40 (by decide) (by decide) (lc_15 (I := I x m out) h0 hfl hS hin (p15 _ _ _ _) (by omega) (by omega) next)
      by_cases hv16 : v.toInt = 16
      · exact zr_switchK 1344 16 h0 hv16 dL_law_40 (by decide) (by decide) (lc_16 (I := I x m out) h0 hfl hS hin (p16 _ _) (by omega) (by omega) next)
      by_cases hv17 : v.toInt = 17
      · exact zr_switchK 1412 17 h0 hv17 dL_law_40 (by decide) (by decide) (lc_17 (I := I x m out) h0 hfl hS hin (p17 _) (by omega) (by omega) next)
      by_cases hv18 : v.toInt = 18
      · exact zr_switchK 1468 18 h0 hv18 dL_law_40 (by decide) (by decide) (lc_18 (I := I x m out) h0 hfl hS hin (p18 _) (by omega) (by omega) next)
      by_cases hv19 : v.toInt = 19
      · exact zr_switchK 1524 19 h0 hv19 dL_law_40 (by decide) (by decide) (lc_19 (I := I x m out) h0 hfl hS hin (p19 _) (by omega) (by omega) next)
      by_cases hv20 : v.toInt = 20
      · exact zr_switchK 1580 20 h0 hv20 dL_law_40 (by decide) (by decide) (lc_20 (I := I x m out) h0 hfl hS hin (p20 _ _) (by omega) (by omega) next)
      by_cases hv21 : v.toInt = 21
      · exact zr_switchK 1648 21 h0 hv21 dL_law_40 (by decide) (by decide) (lc_21 (I := I x m out) h0 hfl hS hin (p21 _ _ _) (by omega) (by omega) next)
      by_cases hv22 : v.toInt = 22
      · exact zr_switchK 1728 22 h0 hv22 dL_law_40 (by decide) (by decide) (lc_22 (I := I x m out) h0 hfl hS hin (p22 _ _ _ _) (by omega) (by omega) next)
      by_cases hv23 : v.toInt = 23
      · exact zr_switchK 1820 23 h0 hv23 dL_law_40 (by decide) (by decide) (lc_23 (I := I x m out) h0 hfl hS hin (p23 _ _ _ _) (by omega) (by omega) next)
      by_cases hv24 : v.toInt = 24
      · exact zr_switchK 1912 24 h0 hv24 dL_law_40 (by decide) (by decide) (lc_24 (I := I x m out) h0 hfl hS hin (p24 _ _ _) (by omega) (by omega) next)
      refine zr_switchD 2007 h0 (by omega) dL_law_40 (by decide) ?_
      exact zv_wide (next S hi) (by omega) (by omega)
