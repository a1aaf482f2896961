/-! THE CALLS over the value of a foundry: ways -/
def aMul (T : TZ) (a1 a2 a3 a4 : Int32) : Option (Int32 × TZ) := match T with
  | (p, cc, wc, CA, CG, WA, WG, WV) => if bl wc a1 = true ∧ (bl (p ^ WA (nn a1) 0) a2 && (bl (p ^ WA (nn a1) 1) a3 && bl (p ^ WA (nn a1) 2) a4)) = true ∧ WA (nn a1) 4 ≠ 40 then some (ci (WA (nn a1) 4 + 1), (p, cc, wc, CA, CG, upW WA (nn a1) (WA (nn a1) 4 + 1), WG, upV WV (nn a1) (vapp (WV (nn a1)) (WA (nn a1) 4) (fun s => if s = 0 then dg p (WA (nn a1) 0) (nn a2) else if s = 1 then dg p (WA (nn a1) 1) (nn a3) else dg p (WA (nn a1) 2) (nn a4))))) else none
theorem op_mul {S : ZS} {ad : Nat → Nat} {T : TZ} (h : zQ S ad T) (a1 a2 a3 a4 : Int32) : zOpF ["java/lang/IndexOutOfBoundsException", "java/lang/IllegalArgumentException", "java/lang/IllegalStateException"] (aMul T a1 a2 a3 a4) (fX5_multiply (ad 10) a1 a2 a3 a4 S) S (zRes S ad T.2.1 T.2.2.1) := by
  obtain ⟨p, cc, wc, CA, CG, WA, WG, WV⟩ := T
  obtain ⟨hK, hin, hcl⟩ := h
  have hcc := hK.2.1
  have hwc := hK.2.2.1
  have hhd := hcl.1
  unfold aMul
  simp only []
  cases hb : bl wc a1 with
  | false =>
    rw [if_neg (fun hh => by cases hh.1)]
    refine ⟨"java/lang/IndexOutOfBoundsException", by simp, ?_⟩
    unfold fX5_multiply
    rw [zcl_ob hhd.1, c_noWay hhd hwc hb, zbT_r]
  | true =>
    obtain ⟨i, hi, rfl⟩ := bl_ex (by omega) hb
    rw [nn_ci (n := i) (by omega)]
    have hwy := (hcl.2.2.2 i hi).1
    have hkk := hwy.kk
    have hsz := hwy.2.1
    unfold szOK at hsz
    have hp := hK.1
    have cN : zcl S (ad 10) 5 (fX5_needWay (ad 10) (ci i) S) = some (.inl (ad (200 + 4 * i), S)) := by rw [zcl_ob hhd.1]; exact c_needWay hhd hwc hi
    have c1 : fX5_multiply (ad 10) (ci i) a2 a3 a4 S = if (bl (p ^ WA i 0) a2 && (bl (p ^ WA i 1) a3 && bl (p ^ WA i 2) a4)) = true then (zbT (fX5_needRoom (ad (200 + 4 * i)) (1 : Int32) S) fun x11 => Option.bind (zcl x11.2 (ad (200 + 4 * i)) 4 (fX4_append (ad (200 + 4 * i)) a2 a3 a4 x11.2)) fun x12 => Option.bind (zgI x12 (ad (200 + 4 * i)) 4 3) fun v13 => some (.inl (v13, x12))) else some (.inr ("java/lang/IllegalArgumentException", S.1)) := by
      unfold fX5_multiply
      rw [cN, zbT_l, zgR_ob hwy.wa rfl, Option.bind_some, zgI_ob hwy.cu.1 rfl, Option.bind_some, c_needCode hhd hp (by omega)]
      cases bl (p ^ WA i 0) a2 with
      | false => rfl
      | true =>
        rw [if_pos rfl, zbT_l, zgR_ob hwy.wa rfl, Option.bind_some, zgI_ob hwy.cu.1 rfl, Option.bind_some, c_needCode hhd hp (by omega)]
        cases bl (p ^ WA i 1) a3 with
        | false => rfl
        | true =>
          rw [if_pos rfl, zbT_l, zgR_ob hwy.wa rfl, Option.bind_some, zgI_ob hwy.cu.1 rfl, Option.bind_some, c_needCode hhd hp (by omega)]
          cases bl (p ^ WA i 2) a4 with
          | false => rfl
          | true => rfl
    cases hc : (bl (p ^ WA i 0) a2 && (bl (p ^ WA i 1) a3 && bl (p ^ WA i 2) a4)) with
    | false =>
      rw [if_neg (fun hh => by cases hh.2.1)]
      refine ⟨"java/lang/IllegalArgumentException", by simp, ?_⟩
      rw [c1, hc]; rfl
    | true =>
      rw [hc, if_pos rfl] at c1
      by_cases h40 : WA i 4 = 40
      · rw [if_neg (fun hh => hh.2.2 h40)]
        refine ⟨"java/lang/IllegalStateException", by simp, ?_⟩
        rw [c1, cl_1, c_needRoom hwy (by omega), if_neg (by omega)]
        rfl
      · rw [if_pos ⟨rfl, rfl, h40⟩]
        rw [Bool.and_eq_true, Bool.and_eq_true] at hc
        have b0 := hp.pow hsz.1.2
        have b1 := hp.pow hsz.2.1.2
        have b2 := hp.pow hsz.2.2.2
        obtain ⟨c0, hc0, rfl⟩ := bl_ex (by omega) hc.1
        obtain ⟨c1', hc1, rfl⟩ := bl_ex (by omega) hc.2.1
        obtain ⟨c2, hc2, rfl⟩ := bl_ex (by omega) hc.2.2
        rw [nn_ci (n := c0) (by omega), nn_ci (n := c1') (by omega), nn_ci (n := c2) (by omega)]
        have hpb := hp.b
        obtain ⟨S1, f1, f2, f3⟩ := g_append (e := fun s => if s = 0 then dg p (WA i 0) c0 else if s = 1 then dg p (WA i 1) c1' else dg p (WA i 2) c2) (c0 := c0) (c1 := c1') (c2 := c2) hwy (by omega) (fun s _ j _ => by
          show (if s = 0 then dg p (WA i 0) c0 else if s = 1 then dg p (WA i 1) c1' else dg p (WA i 2) c2) j < p
          split
          · exact dg_lt (by omega)
          · split
            · exact dg_lt (by omega)
            · exact dg_lt (by omega)) (enc_dg (by omega) hc0).symm (enc_dg (by omega) hc1).symm (enc_dg (by omega) hc2).symm
        obtain ⟨g1, kp⟩ := way_cl hcc hin hcl hi f3 f2
        refine ⟨S1, ?_, zRes.wy hK hin hi g1 f3⟩
        rw [c1, cl_1, c_needRoom hwy (by omega), if_pos (by omega), zbT_l]
        show Option.bind (zcl S (ad (200 + 4 * i)) 4 (fX4_append (ad (200 + 4 * i)) (ci c0) (ci c1') (ci c2) S)) _ = _
        rw [zcl_ob hwy.wa, f1, Option.bind_some, zgI_ob f2.wa rfl, Option.bind_some]
def aPlain (T : TZ) (a1 : Int32) : Option (Int32 × TZ) := match T with
  | (p, cc, wc, CA, CG, WA, WG, WV) => if bl wc a1 = true ∧ WA (nn a1) 4 + nz (WG (nn a1)) 64 ≤ 40 then some (ci (vpl (WG (nn a1)) (WA (nn a1) 4) (WV (nn a1)) 64).1, (p, cc, wc, CA, CG, upW WA (nn a1) (vpl (WG (nn a1)) (WA (nn a1) 4) (WV (nn a1)) 64).1, WG, upV WV (nn a1) (vpl (WG (nn a1)) (WA (nn a1) 4) (WV (nn a1)) 64).2)) else none
theorem op_plain {S : ZS} {ad : Nat → Nat} {T : TZ} (h : zQ S ad T) (a1 : Int32) : zOpF ["java/lang/IndexOutOfBoundsException", "java/lang/IllegalStateException"] (aPlain T a1) (fX5_plain (ad 10) a1 S) S (zRes S ad T.2.1 T.2.2.1) := by
  obtain ⟨p, cc, wc, CA, CG, WA, WG, WV⟩ := T
  obtain ⟨hK, hin, hcl⟩ := h
  have hcc := hK.2.1
  have hwc := hK.2.2.1
  have hhd := hcl.1
  unfold aPlain
  simp only []
  cases hb : bl wc a1 with
  | false =>
    rw [if_neg (fun hh => by cases hh.1)]
    refine ⟨"java/lang/IndexOutOfBoundsException", by simp, ?_⟩
    unfold fX5_plain
    rw [zcl_ob hhd.1, c_noWay hhd hwc hb, zbT_r]
  | true =>
    obtain ⟨i, hi, rfl⟩ := bl_ex (by omega) hb
    rw [nn_ci (by omega)]
    have hwy := (hcl.2.2.2 i hi).1
    have hgo := (hcl.2.2.2 i hi).2.1
    have hkk := hwy.kk
    have hp := hK.1
    have hnz := nz_le (WG i) 64
    have cN : zcl S (ad 10) 5 (fX5_needWay (ad 10) (ci i) S) = some (.inl (ad (200 + 4 * i), S)) := by rw [zcl_ob hhd.1]; exact c_needWay hhd hwc hi
    have c1 : fX5_plain (ad 10) (ci i) S = if WA i 4 + nz (WG i) 64 ≤ 40 then (Option.bind (zcl S (ad (200 + 4 * i)) 4 (fX4_appendPlaces (ad (200 + 4 * i)) S)) fun x5 => Option.bind (zgI x5 (ad (200 + 4 * i)) 4 3) fun v6 => some (.inl (v6, x5))) else some (.inr ("java/lang/IllegalStateException", S.1)) := by
      unfold fX5_plain
      rw [cN, zbT_l, zgR_ob hwy.wa rfl, Option.bind_some, zcl_cu hwy.cu, g_count hwy.cu hp hgo, Option.bind_some, c_needRoom hwy hnz]
      by_cases hh : WA i 4 + nz (WG i) 64 ≤ 40
      · rw [if_pos hh, if_pos hh]; rfl
      · rw [if_neg hh, if_neg hh]; rfl
    by_cases hh : WA i 4 + nz (WG i) 64 ≤ 40
    · rw [if_pos ⟨rfl, hh⟩]
      obtain ⟨S1, f1, f2, f3⟩ := g_appendPlaces hgo hh hwy
      obtain ⟨g1, kp⟩ := way_cl hcc hin hcl hi f3 f2
      refine ⟨S1, ?_, zRes.wy hK hin hi g1 f3⟩
      rw [c1, if_pos hh, zcl_ob hwy.wa, f1, Option.bind_some, zgI_ob f2.wa rfl, Option.bind_some]
    · rw [if_neg (fun q => hh q.2)]
      exact ⟨"java/lang/IllegalStateException", by simp, by rw [c1, if_neg hh]⟩
def aFlip (T : TZ) (a1 a2 a3 a4 : Int32) : Option (Int32 × TZ) := match T with
  | (p, cc, wc, CA, CG, WA, WG, WV) => if bl wc a1 = true ∧ (bl (WA (nn a1) 4) a2 && (bl (WA (nn a1) 4) a3 && bl 3 a4)) = true ∧ nn a2 ≠ nn a3 ∧ al (WA (nn a1) 0) (WA (nn a1) 1) (WA (nn a1) 2) (WV (nn a1)) (nn a2) (nn a3) (nn a4) = true then some (0, (p, cc, wc, CA, CG, upW WA (nn a1) (WA (nn a1) 4), WG, upV WV (nn a1) (vturn p (WV (nn a1)) (nn a2) (nn a3) (nn a4)))) else none
theorem op_flip {S : ZS} {ad : Nat → Nat} {T : TZ} (h : zQ S ad T) (a1 a2 a3 a4 : Int32) : zOpU ["java/lang/IndexOutOfBoundsException", "java/lang/IllegalArgumentException", "java/lang/IllegalStateException"] (aFlip T a1 a2 a3 a4) (fX5_flip (ad 10) a1 a2 a3 a4 S) S (zRes S ad T.2.1 T.2.2.1) := by
  obtain ⟨p, cc, wc, CA, CG, WA, WG, WV⟩ := T
  obtain ⟨hK, hin, hcl⟩ := h
  have hcc := hK.2.1
  have hwc := hK.2.2.1
  have hhd := hcl.1
  unfold aFlip
  simp only []
  cases hb : bl wc a1 with
  | false =>
    rw [if_neg (fun hh => by cases hh.1)]
    refine ⟨"java/lang/IndexOutOfBoundsException", by simp, ?_⟩
    unfold fX5_flip
    rw [zcl_ob hhd.1, c_noWay hhd hwc hb]
    rfl
  | true =>
    obtain ⟨i, hi, rfl⟩ := bl_ex (by omega) hb
    rw [nn_ci (n := i) (by omega)]
    have hwy := (hcl.2.2.2 i hi).1
    have hkk := hwy.kk
    have cN : zcl S (ad 10) 5 (fX5_needWay (ad 10) (ci i) S) = some (.inl (ad (200 + 4 * i), S)) := by rw [zcl_ob hhd.1]; exact c_needWay hhd hwc hi
    cases hb2 : bl (WA i 4) a2 with
    | false =>
      rw [if_neg (fun hh => by cases hh.2.1)]
      refine ⟨"java/lang/IndexOutOfBoundsException", by simp, ?_⟩
      unfold fX5_flip
      rw [cN, zbT_l, c_needProduct hwy, hb2]
      rfl
    | true =>
      cases hb3 : bl (WA i 4) a3 with
      | false =>
        rw [if_neg (fun hh => by cases hh.2.1)]
        refine ⟨"java/lang/IndexOutOfBoundsException", by simp, ?_⟩
        unfold fX5_flip
        rw [cN, zbT_l, c_needProduct hwy, hb2, if_pos rfl, zbT_l, c_needProduct hwy, hb3]
        rfl
      | true =>
        cases hb4 : bl 3 a4 with
        | false =>
          rw [if_neg (fun hh => by cases hh.2.1)]
          refine ⟨"java/lang/IndexOutOfBoundsException", by simp, ?_⟩
          unfold fX5_flip
          rw [cN, zbT_l, c_needProduct hwy, hb2, if_pos rfl, zbT_l, c_needProduct hwy, hb3, if_pos rfl, zbT_l, c_needSide, hb4]
          rfl
        | true =>
          obtain ⟨q, hq, rfl⟩ := bl_ex (by omega) hb2
          obtain ⟨r, hr, rfl⟩ := bl_ex (by omega) hb3
          obtain ⟨s, hs, rfl⟩ := bl_ex (by omega) hb4
          rw [nn_ci (n := q) (by omega), nn_ci (n := r) (by omega), nn_ci (n := s) (by omega)]
          have cF : fX5_flip (ad 10) (ci i) (ci q) (ci r) (ci s) S = (if ci q = ci r then some (.inr ("java/lang/IllegalArgumentException", S.1)) else Option.bind (zcl S (ad (200 + 4 * i)) 4 (fX4_isSame (ad (200 + 4 * i)) (ci q) (ci r) (ci s) S)) fun x5 => if x5 = 0 then some (.inr ("java/lang/IllegalStateException", S.1)) else Option.bind (zcl S (ad (200 + 4 * i)) 4 (fX4_turn (ad (200 + 4 * i)) (ci q) (ci r) (ci s) S)) fun x6 => some (.inl ((), x6))) := by
            unfold fX5_flip
            rw [cN, zbT_l, c_needProduct hwy, hb2, if_pos rfl, zbT_l, c_needProduct hwy, hb3, if_pos rfl, zbT_l, c_needSide, hb4]
            rfl
          by_cases hqr : q = r
          · subst hqr
            rw [if_neg (fun hh => hh.2.2.1 rfl)]
            exact ⟨"java/lang/IllegalArgumentException", by simp, by rw [cF, if_pos rfl]⟩
          · have hne : ¬ ci q = ci r := by rw [ci_eq (by omega) (by omega)]; exact hqr
            cases hal : al (WA i 0) (WA i 1) (WA i 2) (WV i) q r s with
            | false =>
              rw [if_neg (fun hh => by cases hh.2.2.2)]
              exact ⟨"java/lang/IllegalStateException", by simp, by rw [cF, if_neg hne, zcl_ob hwy.wa, g_isSame hwy hq hr hs, Option.bind_some, hal, if_pos bI_f]⟩
            | true =>
              rw [if_pos ⟨rfl, rfl, hqr, rfl⟩]
              obtain ⟨S1, f1, f2, f3⟩ := g_turn hwy hq hr hs
              have f4 := f3.wk (Q := fun b => b = ad (200 + 4 * i) ∨ b = ad (203 + 4 * i)) (fun _ => Or.inr)
              obtain ⟨g1, kp⟩ := way_cl hcc hin hcl hi f4 f2
              refine ⟨rfl, S1, ?_, zRes.wy hK hin hi g1 f4⟩
              rw [cF, if_neg hne, zcl_ob hwy.wa, g_isSame hwy hq hr hs, Option.bind_some, hal, if_neg (show ¬ bI true = 0 by decide), zcl_ob hwy.wa, f1, Option.bind_some]
def aRed (T : TZ) (a1 : Int32) : Option (Int32 × TZ) := match T with
  | (p, cc, wc, CA, CG, WA, WG, WV) => if bl wc a1 = true then some (ci (WA (nn a1) 4 - (red p (WA (nn a1) 0) (WA (nn a1) 1) (WA (nn a1) 2) (WA (nn a1) 4) (WV (nn a1))).1), (p, cc, wc, CA, CG, upW WA (nn a1) (red p (WA (nn a1) 0) (WA (nn a1) 1) (WA (nn a1) 2) (WA (nn a1) 4) (WV (nn a1))).1, WG, upV WV (nn a1) (red p (WA (nn a1) 0) (WA (nn a1) 1) (WA (nn a1) 2) (WA (nn a1) 4) (WV (nn a1))).2)) else none
theorem op_red {S : ZS} {ad : Nat → Nat} {T : TZ} (h : zQ S ad T) (a1 : Int32) : zOpF ["java/lang/IndexOutOfBoundsException"] (aRed T a1) (fX5_reduce (ad 10) a1 S) S (zRes S ad T.2.1 T.2.2.1) := by
  obtain ⟨p, cc, wc, CA, CG, WA, WG, WV⟩ := T
  obtain ⟨hK, hin, hcl⟩ := h
  have hcc := hK.2.1
  have hwc := hK.2.2.1
  have hhd := hcl.1
  unfold aRed
  simp only []
  cases hb : bl wc a1 with
  | false =>
    rw [if_neg (by decide)]
    refine ⟨"java/lang/IndexOutOfBoundsException", by simp, ?_⟩
    unfold fX5_reduce
    rw [zcl_ob hhd.1, c_noWay hhd hwc hb, zbT_r]
  | true =>
    rw [if_pos rfl]
    obtain ⟨i, hi, rfl⟩ := bl_ex (by omega) hb
    rw [nn_ci (by omega)]
    have hwy := (hcl.2.2.2 i hi).1
    obtain ⟨S1, f1, f2, f3⟩ := g_shrink hwy
    obtain ⟨g1, kp⟩ := way_cl hcc hin hcl hi f3 f2
    refine ⟨S1, ?_, zRes.wy hK hin hi g1 f3⟩
    unfold fX5_reduce
    rw [zcl_ob hhd.1, c_needWay hhd hwc hi, zbT_l]
    show Option.bind (zcl S (ad (200 + 4 * i)) 4 (fX4_shrink (ad (200 + 4 * i)) S)) _ = _
    rw [zcl_ob hwy.wa, f1, Option.bind_some]
def aWalk (T : TZ) (a1 a2 a3 : Int32) : Option (Int32 × TZ) := match T with
  | (p, cc, wc, CA, CG, WA, WG, WV) => if bl wc a1 = true ∧ bl 65536 a2 = true ∧ decide (1 ≤ a3 ∧ a3 ≤ 200) = true then some (ci (wlk p (WA (nn a1) 0) (WA (nn a1) 1) (WA (nn a1) 2) (nn a3) (nn a2) (WA (nn a1) 4) (WV (nn a1))).1, (p, cc, wc, CA, CG, upW WA (nn a1) (wlk p (WA (nn a1) 0) (WA (nn a1) 1) (WA (nn a1) 2) (nn a3) (nn a2) (WA (nn a1) 4) (WV (nn a1))).2.1, WG, upV WV (nn a1) (wlk p (WA (nn a1) 0) (WA (nn a1) 1) (WA (nn a1) 2) (nn a3) (nn a2) (WA (nn a1) 4) (WV (nn a1))).2.2)) else none
theorem op_walk {S : ZS} {ad : Nat → Nat} {T : TZ} (h : zQ S ad T) (a1 a2 a3 : Int32) : zOpF ["java/lang/IndexOutOfBoundsException", "java/lang/IllegalArgumentException"] (aWalk T a1 a2 a3) (fX5_walk (ad 10) a1 a2 a3 S) S (zRes S ad T.2.1 T.2.2.1) := by
  obtain ⟨p, cc, wc, CA, CG, WA, WG, WV⟩ := T
  obtain ⟨hK, hin, hcl⟩ := h
  have hcc := hK.2.1
  have hwc := hK.2.2.1
  have hhd := hcl.1
  unfold aWalk
  simp only []
  cases hb : bl wc a1 with
  | false =>
    rw [if_neg (fun hh => by cases hh.1)]
    refine ⟨"java/lang/IndexOutOfBoundsException", by simp, ?_⟩
    unfold fX5_walk
    rw [zcl_ob hhd.1, c_noWay hhd hwc hb, zbT_r]
  | true =>
    obtain ⟨i, hi, rfl⟩ := bl_ex (by omega) hb
    rw [nn_ci (n := i) (by omega)]
    have hwy := (hcl.2.2.2 i hi).1
    by_cases hg : bl 65536 a2 = true ∧ decide (1 ≤ a3 ∧ a3 ≤ 200) = true
    · rw [if_pos ⟨rfl, hg.1, hg.2⟩]
      obtain ⟨s, hs, rfl⟩ := bl_ex (by omega) hg.1
      have h3 := of_decide_eq_true hg.2
      obtain ⟨L, hL0, rfl⟩ := ci_of (x := a3) (Int32.le_trans (by decide) h3.1)
      rw [nn_ci (n := s) (by omega), nn_ci (n := L) hL0]
      have hL : L ≤ 200 := (ci_le hL0 (by omega)).mp h3.2
      have hL1 : 1 ≤ L := (ci_le (a := 1) (by omega) hL0).mp h3.1
      obtain ⟨S1, f1, f2, f3⟩ := g_wander hwy hs hL
      obtain ⟨g1, kp⟩ := way_cl hcc hin hcl hi f3 f2
      refine ⟨S1, ?_, zRes.wy hK hin hi g1 f3⟩
      unfold fX5_walk
      rw [zcl_ob hhd.1, c_needWay hhd hwc hi, zbT_l]
      rw [if_neg (ci_nneg (by omega)), if_pos (show ci s < 65536 from (ci_lt (b := 65536) (by omega) (by omega)).mpr hs), if_neg (show ¬ ci L < 1 from fun hh => by have := (ci_lt (b := 1) hL0 (by omega)).mp hh; omega), if_pos h3.2]
      show Option.bind (zcl S (ad (200 + 4 * i)) 4 (fX4_wander (ad (200 + 4 * i)) (ci s) (ci L) S)) _ = _
      rw [zcl_ob hwy.wa, f1, Option.bind_some]
    · rw [if_neg (fun hh => hg hh.2)]
      exact ⟨"java/lang/IllegalArgumentException", by simp, c_walk_bad (by rw [zcl_ob hhd.1]; exact c_needWay hhd hwc hi) hg⟩
