/-! LAW CASES 22, 23: whole -/
theorem ok22 {x m out : Nat} {a1 a2 a3 a4 : Int32} {S : ZS} (h : zI x m out S) : ok_22 x m out a1 a2 a3 a4 S (zI x m out) := by
  obtain ⟨ad, p, cc, wc, CA, CG, WA, WG, WV, X, A, fo, hx, hK, hin, hcl, hmo, hrl, hout⟩ := h
  have hx' := hx
  obtain ⟨rfl, rfl, rfl⟩ := hx'
  have hwc := hK.2.2.1
  have hhd := hcl.1
  have thr : ∀ (j : Nat) (nm : String), 0 < j → j < 100 → fX5_result (ad 10) a1 a2 a3 a4 S = some (.inr (nm, S.1)) → zcatchN nm S.1 1 ["java/lang/IndexOutOfBoundsException", "java/lang/IllegalArgumentException"] = some (ci j, S.1) → (∀ S0, zMo S0 (ad 11) (mR ad) X A → ∃ T1, fX6_result (ad 11) a1 a2 a3 a4 S0 = some ((0 : Int32), T1) ∧ zMo T1 (ad 11) (mR ad) (mX X 0 (ci j)) A ∧ zFrm S0 T1 (mP (ad 11) (mR ad))) → ok_22 (ad 10) (ad 11) (ad 12) a1 a2 a3 a4 S (zI (ad 10) (ad 11) (ad 12)) := by
    intro j nm hj0 hj h1 h2 h3
    refine ⟨ci j, S.1, ?_, fun n _ => ?_⟩
    · unfold fL_result
      rw [zcl_ob hhd.1, h1]
      exact h2
    · obtain ⟨r, r1, r2, r3⟩ := zthr (j := j) (f := fX6_result (ad 11) a1 a2 a3 a4) hx hK hin hcl hmo hrl hout (fun S0 hS0 => by
        obtain ⟨S1, s1, s2, s3⟩ := h3 S0 hS0
        exact ⟨0, S1, s1, s2, s3⟩) n
      exact ⟨r, r1, r2, fun hh => absurd hh (by rw [cl_0, ci_eq (by omega) (by omega)]; omega), r3⟩
  cases hb : bl wc a1 with
  | false =>
    refine thr 1 "java/lang/IndexOutOfBoundsException" (by omega) (by omega) ?_ rfl (fun S0 hS0 => ?_)
    · unfold fX5_result
      rw [zcl_ob hhd.1, c_noWay hhd hwc hb, zbT_r]
    · obtain ⟨T1, s1, s2, s3⟩ := m_askJ hS0 (j := 1) (by omega)
      refine ⟨T1, ?_, s2, s3⟩
      unfold fX6_result fX6_canAsk fX6_canAsk_J33 fX6_canAsk_J34
      rw [hS0.cl, hS0.cl, m_isWay hS0 hrl.2.2.1 hwc, Option.bind_some, hb, if_pos bI_f, if_pos rfl, cl_1, s1, Option.bind_some]
      rfl
  | true =>
    obtain ⟨w, hw, rfl⟩ := bl_ex (by omega) hb
    have hwb := hcl.2.2.2 w hw
    have hwy := hwb.1
    have hmw := (hrl.2.2.2.2 w hw).1
    have hpb := hwy.1.b
    have hsz := hwy.2.1
    unfold szOK at hsz
    have cN : zcl S (ad 10) 5 (fX5_needWay (ad 10) (ci w) S) = some (.inl (ad (200 + 4 * w), S)) := by rw [zcl_ob hhd.1]; exact c_needWay hhd hwc hw
    have hask := ask_lt (p := p) (a := WA w 0) (b := WA w 1) (d := WA w 2) (x := a2) (y := a3) (z := a4)
    by_cases hj : ask p (WA w 0) (WA w 1) (WA w 2) a2 a3 a4 = 0
    · have hj' := hj
      unfold ask at hj'
      have hz1 : bl (WA w 2) a4 = true := by
        cases q : bl (WA w 2) a4 with
        | true => rfl
        | false => rw [q] at hj'; cases hj'
      rw [hz1, if_pos rfl] at hj'
      have hxy : (bl (p ^ WA w 0) a2 && bl (p ^ WA w 1) a3) = true := by
        cases q : (bl (p ^ WA w 0) a2 && bl (p ^ WA w 1) a3) with
        | true => rfl
        | false => rw [q] at hj'; cases hj'
      rw [Bool.and_eq_true] at hxy
      have pw0 := hwy.1.pow hsz.1.2
      have pw1 := hwy.1.pow hsz.2.1.2
      obtain ⟨xx, hxx, rfl⟩ := bl_ex (by omega) hxy.1
      obtain ⟨yy, hyy, rfl⟩ := bl_ex (by omega) hxy.2
      obtain ⟨zz, hzz, rfl⟩ := bl_ex (by omega) hz1
      obtain ⟨S2, e1, e2⟩ := zfin (f := fX6_result (ad 11) (ci w) (ci xx) (ci yy) (ci zz)) (rv := ci (rsF p (WA w 0) (WA w 1) xx yy zz (WV w) (WA w 4) % p)) (val := Int32.toInt64 (ci (rsF p (WA w 0) (WA w 1) xx yy zz (WV w) (WA w 4) % p))) hx hK hin hcl hmo hout (fun S0 hS0 => by
        obtain ⟨T1, s1, s2, s3⟩ := m_canAsk (x := ci xx) (y := ci yy) (z := ci zz) hS0 hrl.2.2.1 hwc hw hmw
        rw [hj] at s1 s2
        refine ⟨T1, _, A, ?_, s2, rfl, hrl, s3⟩
        unfold fX6_result
        rw [hS0.cl, s1, Option.bind_some, if_neg (show ¬ bI (decide (0 = 0)) = 0 by decide)]
        exact m_result s2 hmw (by omega) (by omega) hzz)
      refine ⟨0, S2.1, ?_, fun n _ => ?_⟩
      · unfold fL_result fX5_result
        rw [zcl_ob hhd.1, cN, zbT_l]
        show zcatch (zbT (zcl S (ad 10) 5 (fX5_needFactors (ad 10) (ad (200 + 4 * w)) (ci xx) (ci yy) (ci zz) S)) _) _ _ = _
        rw [c_needFactors hhd hwy, if_pos hj, zbT_l]
        show zcatch (Option.bind (zcl S (ad (200 + 4 * w)) 4 (fX4_multiplied (ad (200 + 4 * w)) (ci xx) (ci yy) (ci zz) S)) _) _ _ = _
        rw [zcl_ob hwy.wa, c_multiplied hwy (by omega) (by omega) hzz, Option.bind_some]
        show Option.bind (zsJ _ (ad 12) 0 _) _ = _
        rw [e1, Option.bind_some]
      · obtain ⟨r, r1, r2, r3, r4, r5⟩ := e2 n
        exact ⟨r, r1, r2, fun _ => by rw [r3, r4], r5⟩
    · refine thr (ask p (WA w 0) (WA w 1) (WA w 2) a2 a3 a4) (if ask p (WA w 0) (WA w 1) (WA w 2) a2 a3 a4 = 1 then "java/lang/IndexOutOfBoundsException" else "java/lang/IllegalArgumentException") (by omega) (by omega) ?_ ?_ (fun S0 hS0 => ?_)
      · unfold fX5_result
        rw [cN, zbT_l]
        show zbT (zcl S (ad 10) 5 (fX5_needFactors (ad 10) (ad (200 + 4 * w)) a2 a3 a4 S)) _ = _
        rw [c_needFactors hhd hwy, if_neg hj, zbT_r]
      · have h2 : ask p (WA w 0) (WA w 1) (WA w 2) a2 a3 a4 = 1 ∨ ask p (WA w 0) (WA w 1) (WA w 2) a2 a3 a4 = 2 := by omega
        rcases h2 with h2 | h2
        · rw [h2]; rfl
        · rw [h2]; rfl
      · obtain ⟨T1, s1, s2, s3⟩ := m_canAsk (x := a2) (y := a3) (z := a4) hS0 hrl.2.2.1 hwc hw hmw
        refine ⟨T1, ?_, s2, s3⟩
        unfold fX6_result
        rw [hS0.cl, s1, Option.bind_some, decide_eq_false hj, if_pos bI_f]
theorem ok23 {x m out : Nat} {a1 a2 a3 a4 : Int32} {S : ZS} (h : zI x m out S) : ok_23 x m out a1 a2 a3 a4 S (zI x m out) := by
  obtain ⟨ad, p, cc, wc, CA, CG, WA, WG, WV, X, A, fo, hx, hK, hin, hcl, hmo, hrl, hout⟩ := h
  have hx' := hx
  obtain ⟨rfl, rfl, rfl⟩ := hx'
  have hwc := hK.2.2.1
  have hhd := hcl.1
  have thr : ∀ (j : Nat) (nm : String), 0 < j → j < 100 → fX5_resultByCube (ad 10) a1 a2 a3 a4 S = some (.inr (nm, S.1)) → zcatchN nm S.1 1 ["java/lang/IndexOutOfBoundsException", "java/lang/IllegalArgumentException"] = some (ci j, S.1) → (∀ S0, zMo S0 (ad 11) (mR ad) X A → ∃ T1, fX6_resultByCube (ad 11) a1 a2 a3 a4 S0 = some ((0 : Int32), T1) ∧ zMo T1 (ad 11) (mR ad) (mX X 0 (ci j)) A ∧ zFrm S0 T1 (mP (ad 11) (mR ad))) → ok_23 (ad 10) (ad 11) (ad 12) a1 a2 a3 a4 S (zI (ad 10) (ad 11) (ad 12)) := by
    intro j nm hj0 hj h1 h2 h3
    refine ⟨ci j, S.1, ?_, fun n _ => ?_⟩
    · unfold fL_resultByCube
      rw [zcl_ob hhd.1, h1]
      exact h2
    · obtain ⟨r, r1, r2, r3⟩ := zthr (j := j) (f := fX6_resultByCube (ad 11) a1 a2 a3 a4) hx hK hin hcl hmo hrl hout (fun S0 hS0 => by
        obtain ⟨S1, s1, s2, s3⟩ := h3 S0 hS0
        exact ⟨0, S1, s1, s2, s3⟩) n
      exact ⟨r, r1, r2, fun hh => absurd hh (by rw [cl_0, ci_eq (by omega) (by omega)]; omega), r3⟩
  cases hb : bl wc a1 with
  | false =>
    refine thr 1 "java/lang/IndexOutOfBoundsException" (by omega) (by omega) ?_ rfl (fun S0 hS0 => ?_)
    · unfold fX5_resultByCube
      rw [zcl_ob hhd.1, c_noWay hhd hwc hb, zbT_r]
    · obtain ⟨T1, s1, s2, s3⟩ := m_askJ hS0 (j := 1) (by omega)
      refine ⟨T1, ?_, s2, s3⟩
      unfold fX6_resultByCube fX6_canAsk fX6_canAsk_J33 fX6_canAsk_J34
      rw [hS0.cl, hS0.cl, m_isWay hS0 hrl.2.2.1 hwc, Option.bind_some, hb, if_pos bI_f, if_pos rfl, cl_1, s1, Option.bind_some]
      rfl
  | true =>
    obtain ⟨w, hw, rfl⟩ := bl_ex (by omega) hb
    have hwb := hcl.2.2.2 w hw
    have hwy := hwb.1
    have hmw := (hrl.2.2.2.2 w hw).1
    have hpb := hwy.1.b
    have hsz := hwy.2.1
    unfold szOK at hsz
    have cN : zcl S (ad 10) 5 (fX5_needWay (ad 10) (ci w) S) = some (.inl (ad (200 + 4 * w), S)) := by rw [zcl_ob hhd.1]; exact c_needWay hhd hwc hw
    have hask := ask_lt (p := p) (a := WA w 0) (b := WA w 1) (d := WA w 2) (x := a2) (y := a3) (z := a4)
    by_cases hj : ask p (WA w 0) (WA w 1) (WA w 2) a2 a3 a4 = 0
    · have hj' := hj
      unfold ask at hj'
      have hz1 : bl (WA w 2) a4 = true := by
        cases q : bl (WA w 2) a4 with
        | true => rfl
        | false => rw [q] at hj'; cases hj'
      rw [hz1, if_pos rfl] at hj'
      have hxy : (bl (p ^ WA w 0) a2 && bl (p ^ WA w 1) a3) = true := by
        cases q : (bl (p ^ WA w 0) a2 && bl (p ^ WA w 1) a3) with
        | true => rfl
        | false => rw [q] at hj'; cases hj'
      rw [Bool.and_eq_true] at hxy
      have pw0 := hwy.1.pow hsz.1.2
      have pw1 := hwy.1.pow hsz.2.1.2
      obtain ⟨xx, hxx, rfl⟩ := bl_ex (by omega) hxy.1
      obtain ⟨yy, hyy, rfl⟩ := bl_ex (by omega) hxy.2
      obtain ⟨zz, hzz, rfl⟩ := bl_ex (by omega) hz1
      obtain ⟨S2, e1, e2⟩ := zfin (f := fX6_resultByCube (ad 11) (ci w) (ci xx) (ci yy) (ci zz)) (rv := ci (rbF p (WA w 0) (WA w 1) xx yy zz (WG w) (WA w 0) % p)) (val := Int32.toInt64 (ci (rbF p (WA w 0) (WA w 1) xx yy zz (WG w) (WA w 0) % p))) hx hK hin hcl hmo hout (fun S0 hS0 => by
        obtain ⟨T1, s1, s2, s3⟩ := m_canAsk (x := ci xx) (y := ci yy) (z := ci zz) hS0 hrl.2.2.1 hwc hw hmw
        rw [hj] at s1 s2
        refine ⟨T1, _, A, ?_, s2, rfl, hrl, s3⟩
        unfold fX6_resultByCube
        rw [hS0.cl, s1, Option.bind_some, if_neg (show ¬ bI (decide (0 = 0)) = 0 by decide)]
        exact m_rbc s2 hmw (hrl.2.2.2.2 w hw).2.1 hwb.2.1 (by omega) (by omega) hzz)
      refine ⟨0, S2.1, ?_, fun n _ => ?_⟩
      · unfold fL_resultByCube fX5_resultByCube
        rw [zcl_ob hhd.1, cN, zbT_l]
        show zcatch (zbT (zcl S (ad 10) 5 (fX5_needFactors (ad 10) (ad (200 + 4 * w)) (ci xx) (ci yy) (ci zz) S)) _) _ _ = _
        rw [c_needFactors hhd hwy, if_pos hj, zbT_l]
        show zcatch (Option.bind (zcl S (ad (200 + 4 * w)) 4 (fX4_multipliedByCube (ad (200 + 4 * w)) (ci xx) (ci yy) (ci zz) S)) _) _ _ = _
        rw [zcl_ob hwy.wa, c_mbc hwy hwb.2.1 (by omega) (by omega) hzz, Option.bind_some]
        show Option.bind (zsJ _ (ad 12) 0 _) _ = _
        rw [e1, Option.bind_some]
      · obtain ⟨r, r1, r2, r3, r4, r5⟩ := e2 n
        exact ⟨r, r1, r2, fun _ => by rw [r3, r4], r5⟩
    · refine thr (ask p (WA w 0) (WA w 1) (WA w 2) a2 a3 a4) (if ask p (WA w 0) (WA w 1) (WA w 2) a2 a3 a4 = 1 then "java/lang/IndexOutOfBoundsException" else "java/lang/IllegalArgumentException") (by omega) (by omega) ?_ ?_ (fun S0 hS0 => ?_)
      · unfold fX5_resultByCube
        rw [cN, zbT_l]
        show zbT (zcl S (ad 10) 5 (fX5_needFactors (ad 10) (ad (200 + 4 * w)) a2 a3 a4 S)) _ = _
        rw [c_needFactors hhd hwy, if_neg hj, zbT_r]
      · have h2 : ask p (WA w 0) (WA w 1) (WA w 2) a2 a3 a4 = 1 ∨ ask p (WA w 0) (WA w 1) (WA w 2) a2 a3 a4 = 2 := by omega
        rcases h2 with h2 | h2
        · rw [h2]; rfl
        · rw [h2]; rfl
      · obtain ⟨T1, s1, s2, s3⟩ := m_canAsk (x := a2) (y := a3) (z := a4) hS0 hrl.2.2.1 hwc hw hmw
        refine ⟨T1, ?_, s2, s3⟩
        unfold fX6_resultByCube
        rw [hS0.cl, s1, Option.bind_some, decide_eq_false hj, if_pos bI_f]
