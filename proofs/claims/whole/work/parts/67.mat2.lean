/-! LAW CASE 2: matrices, whole -/
theorem m_matPick {S : ZS} {m : Nat} {a1 a2 a3 : Int32} : fX6_matrices m a1 a2 a3 S = if s43 a1 a2 a3 = true then fX6_matrices_J71 m a1 a2 a3 m (a1 * a2) (a2 * a3) (a1 * a3) S else fX6_matrices_J71 m a1 a2 a3 m (0 : Int32) (0 : Int32) (0 : Int32) S := by
  unfold fX6_matrices fX6_matrices_J31 fX6_matrices_J32 fX6_matrices_J47 fX6_matrices_J59 s43
  rw [m_in4, Option.bind_some, m_in4, Option.bind_some, m_in4, Option.bind_some]
  cases s4 a1 <;> cases s4 a2 <;> cases s4 a3 <;> rfl
theorem ok2 {x m out : Nat} {a1 a2 a3 : Int32} {S : ZS} (h : zI x m out S) (hfr : zFr S.1 S.2) : ok_2 x m out a1 a2 a3 S (zI x m out) := by
  obtain ⟨ad, p, cc, wc, CA, CG, WA, WG, WV, X, A, fo, hx, hK, hin, hcl, hmo, hrl, hout⟩ := h
  have hx' := hx
  obtain ⟨rfl, rfl, rfl⟩ := hx'
  have hcc := hK.2.1
  have hhd := hcl.1
  have hlt := lt_of hcl hmo hout hfr
  have thr : ∀ (j : Nat) (nm : String), 0 < j → j < 100 → fX5_matrices (ad 10) a1 a2 a3 S = some (.inr (nm, S.1)) → zcatchN nm S.1 1 ["java/lang/IllegalArgumentException", "java/lang/IllegalStateException"] = some (ci j, S.1) → (∀ S0, zMo S0 (ad 11) (mR ad) X A → ∃ T1, fX6_matrices (ad 11) a1 a2 a3 S0 = some ((0 : Int32), T1) ∧ zMo T1 (ad 11) (mR ad) (mX X 0 (ci j)) A ∧ zFrm S0 T1 (mP (ad 11) (mR ad))) → ok_2 (ad 10) (ad 11) (ad 12) a1 a2 a3 S (zI (ad 10) (ad 11) (ad 12)) := by
    intro j nm hj0 hj h1 h2 h3
    refine ⟨ci j, S.1, ?_, fun n _ => ?_⟩
    · unfold fL_matrices
      rw [zcl_ob hhd.1, h1]
      exact h2
    · obtain ⟨r, r1, r2, r3⟩ := zthr (j := j) (f := fX6_matrices (ad 11) a1 a2 a3) hx hK hin hcl hmo hrl hout (fun S0 hS0 => by
        obtain ⟨S1, s1, s2, s3⟩ := h3 S0 hS0
        exact ⟨0, S1, s1, s2, s3⟩) n
      exact ⟨r, r1, r2, fun hh => absurd hh (by rw [cl_0, ci_eq (by omega) (by omega)]; omega), r3⟩
  cases hab : s43 a1 a2 a3 with
  | false =>
    refine thr 1 "java/lang/IllegalArgumentException" (by omega) (by omega) ?_ rfl (fun S0 hS0 => ?_)
    · unfold s43 at hab
      unfold fX5_matrices
      rw [c_needSize]
      cases h1 : s4 a1 with
      | false => rfl
      | true =>
        rw [h1] at hab
        rw [if_pos rfl, zbT_l, c_needSize]
        cases h2 : s4 a2 with
        | false => rfl
        | true =>
          rw [h2] at hab
          rw [if_pos rfl, zbT_l, c_needSize]
          cases h3 : s4 a3 with
          | false => rfl
          | true => rw [h3] at hab; cases hab
    · rw [m_matPick, hab, if_neg (by decide)]
      obtain ⟨T1, s1, s2, s3⟩ := m_canMake (a := 0) (b := 0) (d := 0) hS0 hrl.2.1 hcc
      rw [cmk_000] at s1 s2
      refine ⟨T1, ?_, s2, s3⟩
      unfold fX6_matrices_J71
      rw [hS0.cl, s1, Option.bind_some]
      rfl
  | true =>
    have hab' := hab
    unfold s43 at hab'
    rw [Bool.and_eq_true, Bool.and_eq_true] at hab'
    obtain ⟨a, ha, rfl⟩ := s4_ex hab'.1
    obtain ⟨b, hb, rfl⟩ := s4_ex hab'.2.1
    obtain ⟨e, he, rfl⟩ := s4_ex hab'.2.2
    have q1 : a * b ≤ 4 * 4 := Nat.mul_le_mul ha.2 hb.2
    have q2 : b * e ≤ 4 * 4 := Nat.mul_le_mul hb.2 he.2
    have q3 : a * e ≤ 4 * 4 := Nat.mul_le_mul ha.2 he.2
    have p1 : 1 ≤ a * b := Nat.mul_pos ha.1 hb.1
    have p2 : 1 ≤ b * e := Nat.mul_pos hb.1 he.1
    have p3 : 1 ≤ a * e := Nat.mul_pos ha.1 he.1
    by_cases hj : cmk cc (ci (a * b)) (ci (b * e)) (ci (a * e)) = 0
    · obtain ⟨hc, a', b', d', hs', e1, e2, e3⟩ := cmk_0 hcc hj
      unfold szOK at hs'
      have e1' := (ci_eq (a := a * b) (b := a') (by omega) (by omega)).mp e1
      have e2' := (ci_eq (a := b * e) (b := b') (by omega) (by omega)).mp e2
      have e3' := (ci_eq (a := a * e) (b := d') (by omega) (by omega)).mp e3
      have hs1 : a * b ≤ 4 ∧ b * e ≤ 4 ∧ a * e ≤ 4 := by omega
      have hs : szOK (a * b) (b * e) (a * e) := by unfold szOK; omega
      obtain ⟨S1, c1, c2, c3, c4⟩ := c_addCube hK.1 hcl hin hlt hc hs
      have hd1 := c3.1.1
      rw [adN_old (by omega) (by omega)] at hd1
      have hcu : zCu S1 S.2 (S.2 + 1) (a * b) (b * e) (a * e) 0 (gM b e 0) := by
        have := (c3.2.2.1 cc (by omega)).1
        rw [upN_self, upG_self, adN_0, adN_1] at this
        exact this
      have l10 := hlt 10 (Or.inl (Or.inl (by omega)))
      obtain ⟨S1', f1, f2, f3⟩ := c_mat (l0 := ad 10) (cc := cc) hs1 hb.2 he.2 ha.2 hd1 rfl (by omega) (by omega) hcu
      obtain ⟨S2, e1, e2⟩ := fill_fin (f := fX6_matrices (ad 11) (ci a) (ci b) (ci e)) hK hc hmo hrl hout c2 c3 c4 f2 f3 (gM_ok hK.1 hs1 (by omega) (by omega)) (by split <;> omega) (fun S0 hS0 => by
        obtain ⟨T1, T2, A2, s1, s2, s3, t1, t2, t3, t4, t5, t6, t7⟩ := fill_mo hS0 hrl.2.1 hc hj
        obtain ⟨T3, A3, u1, u2, u3, u4, u5, u6⟩ := m_mat (S := T2) (S0 := T2) hc hs1 hb.2 he.2 ha.2 ⟨A2, t2, fun y hy => by rw [t4 y hy]; rfl, mV.rf, rfl, zFrm.rf⟩
        refine ⟨T1, T2, T3, A2, A3, s3, t7, t6, t3, t4, t5, ?_, u2, u3, u4, u5, u6⟩
        rw [m_matPick, hab, if_pos rfl, ci_mul, ci_mul, ci_mul]
        unfold fX6_matrices_J71
        rw [hS0.cl, s1, Option.bind_some, if_neg (show ¬ ((1 : Int32) = 0) by decide), s2.cl, ci_mul, ci_mul, ci_mul, t1, Option.bind_some, cl_0]
        exact u1)
      refine ⟨0, S2.1, ?_, fun n _ => ?_⟩
      · unfold fL_matrices fX5_matrices
        rw [zcl_ob hhd.1, c_size ha, zbT_l, c_size hb, zbT_l, c_size he, zbT_l, ci_mul, ci_mul, ci_mul]
        show zcatch (zbT (zcl S (ad 10) 5 (fX5_addCube (ad 10) (ci (a * b)) (ci (b * e)) (ci (a * e)) S)) _) _ _ = _
        rw [zcl_ob hhd.1, c1, zbT_l]
        show zcatch (ziter (fX5_matrices_B30 (ad 10) (ci a) (ci b) (ci e) S.2) zF (ci 0, S1)) _ _ = _
        rw [f1]
        show Option.bind (zsJ _ (ad 12) 0 _) _ = _
        rw [e1, Option.bind_some]
      · obtain ⟨r, r1, r2, r3, r4, r5⟩ := e2 n
        exact ⟨r, r1, r2, fun _ => by rw [r3, r4], r5⟩
    · refine thr (cmk cc (ci (a * b)) (ci (b * e)) (ci (a * e))) _ (by omega) (by have := cmk_lt (cc := cc) (a := ci (a * b)) (b := ci (b * e)) (d := ci (a * e)); omega) ?_ (cmk_nm hj S.1) (fun S0 hS0 => ?_)
      · unfold fX5_matrices
        rw [c_size ha, zbT_l, c_size hb, zbT_l, c_size he, zbT_l, ci_mul, ci_mul, ci_mul]
        show zbT (zcl S (ad 10) 5 (fX5_addCube (ad 10) (ci (a * b)) (ci (b * e)) (ci (a * e)) S)) _ = _
        rw [zcl_ob hhd.1, c_addBad hhd hcc hj, zbT_r]
      · rw [m_matPick, hab, if_pos rfl, ci_mul, ci_mul, ci_mul]
        obtain ⟨T1, s1, s2, s3⟩ := m_canMake (a := ci (a * b)) (b := ci (b * e)) (d := ci (a * e)) hS0 hrl.2.1 hcc
        refine ⟨T1, ?_, s2, s3⟩
        unfold fX6_matrices_J71
        rw [hS0.cl, s1, Option.bind_some, decide_eq_false hj, if_pos bI_f]
