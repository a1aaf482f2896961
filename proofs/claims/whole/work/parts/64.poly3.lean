/-! LAW CASE 3: polynomials, whole -/
theorem m_polyPick {S : ZS} {m : Nat} {a1 a2 : Int32} : fX6_polynomials m a1 a2 S = if (s4 a1 && s4 a2) = true then fX6_polynomials_J56 m a1 a2 m a1 a2 ((a1 + a2) - (1 : Int32)) S else fX6_polynomials_J56 m a1 a2 m (0 : Int32) (0 : Int32) (0 : Int32) S := by
  unfold fX6_polynomials fX6_polynomials_J22 fX6_polynomials_J23 fX6_polynomials_J34 fX6_polynomials_J43
  rw [m_in4, Option.bind_some, m_in4, Option.bind_some]
  cases s4 a1 <;> cases s4 a2 <;> rfl
theorem cmk_lt {cc : Nat} {a b d : Int32} : cmk cc a b d < 3 := by unfold cmk; split <;> (try split) <;> omega
theorem cmk_nm {cc : Nat} {a b d : Int32} (h : cmk cc a b d ≠ 0) (H : ZH) : zcatchN (if cmk cc a b d = 1 then "java/lang/IllegalArgumentException" else "java/lang/IllegalStateException") H 1 ["java/lang/IllegalArgumentException", "java/lang/IllegalStateException"] = some (ci (cmk cc a b d), H) := by
  have := cmk_lt (cc := cc) (a := a) (b := b) (d := d)
  have h2 : cmk cc a b d = 1 ∨ cmk cc a b d = 2 := by omega
  rcases h2 with h2 | h2
  · rw [h2]; rfl
  · rw [h2]; rfl
theorem cmk_000 (cc : Nat) : cmk cc 0 0 0 = 1 := rfl
theorem ok3 {x m out : Nat} {a1 a2 : Int32} {S : ZS} (h : zI x m out S) (hfr : zFr S.1 S.2) : ok_3 x m out a1 a2 S (zI x m out) := by
  obtain ⟨ad, p, cc, wc, CA, CG, WA, WG, WV, X, A, fo, hx, hK, hin, hcl, hmo, hrl, hout⟩ := h
  have hx' := hx
  obtain ⟨rfl, rfl, rfl⟩ := hx'
  have hcc := hK.2.1
  have hhd := hcl.1
  have hlt := lt_of hcl hmo hout hfr
  have thr : ∀ (j : Nat) (nm : String), 0 < j → j < 100 → fX5_polynomials (ad 10) a1 a2 S = some (.inr (nm, S.1)) → zcatchN nm S.1 1 ["java/lang/IllegalArgumentException", "java/lang/IllegalStateException"] = some (ci j, S.1) → (∀ S0, zMo S0 (ad 11) (mR ad) X A → ∃ T1, fX6_polynomials (ad 11) a1 a2 S0 = some ((0 : Int32), T1) ∧ zMo T1 (ad 11) (mR ad) (mX X 0 (ci j)) A ∧ zFrm S0 T1 (mP (ad 11) (mR ad))) → ok_3 (ad 10) (ad 11) (ad 12) a1 a2 S (zI (ad 10) (ad 11) (ad 12)) := by
    intro j nm hj0 hj h1 h2 h3
    refine ⟨ci j, S.1, ?_, fun n _ => ?_⟩
    · unfold fL_polynomials
      rw [zcl_ob hhd.1, h1]
      exact h2
    · obtain ⟨r, r1, r2, r3⟩ := zthr (j := j) (f := fX6_polynomials (ad 11) a1 a2) hx hK hin hcl hmo hrl hout (fun S0 hS0 => by
        obtain ⟨S1, s1, s2, s3⟩ := h3 S0 hS0
        exact ⟨0, S1, s1, s2, s3⟩) n
      exact ⟨r, r1, r2, fun hh => absurd hh (by rw [cl_0, ci_eq (by omega) (by omega)]; omega), r3⟩
  cases hab : (s4 a1 && s4 a2) with
  | false =>
    refine thr 1 "java/lang/IllegalArgumentException" (by omega) (by omega) ?_ rfl (fun S0 hS0 => ?_)
    · unfold fX5_polynomials
      rw [c_needSize]
      cases h1 : s4 a1 with
      | false => rfl
      | true =>
        rw [h1] at hab
        rw [if_pos rfl, zbT_l, c_needSize]
        cases h2 : s4 a2 with
        | false => rfl
        | true => rw [h2] at hab; cases hab
    · rw [m_polyPick, hab, if_neg (by decide)]
      obtain ⟨T1, s1, s2, s3⟩ := m_canMake (a := 0) (b := 0) (d := 0) hS0 hrl.2.1 hcc
      rw [cmk_000] at s1 s2
      refine ⟨T1, ?_, s2, s3⟩
      unfold fX6_polynomials_J56
      rw [hS0.cl, s1, Option.bind_some]
      rfl
  | true =>
    have hab' := hab
    rw [Bool.and_eq_true] at hab'
    obtain ⟨a, ha, rfl⟩ := s4_ex hab'.1
    obtain ⟨b, hb, rfl⟩ := s4_ex hab'.2
    have h3 : (ci a + ci b) - (1 : Int32) = ci (a + b - 1) := by rw [ci_add, cl_1, ci_sub (by omega)]
    by_cases hj : cmk cc (ci a) (ci b) (ci (a + b - 1)) = 0
    · obtain ⟨hc, a', b', d', hs', e1, e2, e3⟩ := cmk_0 hcc hj
      unfold szOK at hs'
      have e3' := (ci_eq (a := a + b - 1) (b := d') (by omega) (by omega)).mp e3
      have hs1 : a ≤ 4 ∧ b ≤ 4 ∧ a + b - 1 ≤ 4 := by omega
      have hs : szOK a b (a + b - 1) := by unfold szOK; omega
      obtain ⟨S1, c1, c2, c3, c4⟩ := c_addCube hK.1 hcl hin hlt hc hs
      have hd1 := c3.1.1
      rw [adN_old (by omega) (by omega)] at hd1
      have hcu : zCu S1 S.2 (S.2 + 1) a b (a + b - 1) 0 (pG a b 0) := by
        have := (c3.2.2.1 cc (by omega)).1
        rw [upN_self, upG_self, adN_0, adN_1] at this
        rw [pG_0]
        exact this
      obtain ⟨S1', f1, f2, f3⟩ := c_poly (l0 := ad 10) (cc := cc) hs1 hd1 rfl (by have := hlt 10 (Or.inl (Or.inl (by omega))); omega) hcu
      obtain ⟨S2, e1, e2⟩ := fill_fin (f := fX6_polynomials (ad 11) (ci a) (ci b)) hK hc hmo hrl hout c2 c3 c4 f2 (f3.wk (fun b hb => Or.inr hb)) (pG_ok hK.1) (by omega) (fun S0 hS0 => by
        obtain ⟨T1, T2, A2, s1, s2, s3, t1, t2, t3, t4, t5, t6, t7⟩ := fill_mo hS0 hrl.2.1 hc hj
        obtain ⟨T3, u1, A3, u2, u3, u4, u5, u6⟩ := m_poly (S := T2) (S0 := T2) hc hs1 ⟨A2, t2, fun y hy => by rw [t4 y hy, pG_0]; rfl, mV.rf, rfl, zFrm.rf⟩
        refine ⟨T1, T2, T3, A2, A3, s3, t7, t6, t3, t4, t5, ?_, u2, u3, u4, by rw [u5, t5]; rfl, u6⟩
        rw [m_polyPick, hab, if_pos rfl]
        unfold fX6_polynomials_J56
        rw [hS0.cl, h3, s1, Option.bind_some, if_neg (show ¬ ((1 : Int32) = 0) by decide), s2.cl, t1, Option.bind_some, cl_0]
        exact u1)
      refine ⟨0, S2.1, ?_, fun n _ => ?_⟩
      · unfold fL_polynomials fX5_polynomials
        rw [zcl_ob hhd.1, c_size ha, zbT_l, c_size hb, zbT_l, h3]
        show zcatch (zbT (zcl S (ad 10) 5 (fX5_addCube (ad 10) (ci a) (ci b) (ci (a + b - 1)) S)) _) _ _ = _
        rw [zcl_ob hhd.1, c1, zbT_l]
        show zcatch (ziter (fX5_polynomials_B23 (ad 10) (ci a) (ci b) S.2) zF (ci 0, S1)) _ _ = _
        rw [f1]
        show Option.bind (zsJ _ (ad 12) 0 _) _ = _
        rw [e1, Option.bind_some]
      · obtain ⟨r, r1, r2, r3, r4, r5⟩ := e2 n
        exact ⟨r, r1, r2, fun _ => by rw [r3, r4], r5⟩
    · refine thr (cmk cc (ci a) (ci b) (ci (a + b - 1))) _ (by omega) (by have := cmk_lt (cc := cc) (a := ci a) (b := ci b) (d := ci (a + b - 1)); omega) ?_ (cmk_nm hj S.1) (fun S0 hS0 => ?_)
      · unfold fX5_polynomials
        rw [c_size ha, zbT_l, c_size hb, zbT_l, h3]
        show zbT (zcl S (ad 10) 5 (fX5_addCube (ad 10) (ci a) (ci b) (ci (a + b - 1)) S)) _ = _
        rw [zcl_ob hhd.1, c_addBad hhd hcc hj, zbT_r]
      · rw [m_polyPick, hab, if_pos rfl, h3]
        obtain ⟨T1, s1, s2, s3⟩ := m_canMake (a := ci a) (b := ci b) (d := ci (a + b - 1)) hS0 hrl.2.1 hcc
        refine ⟨T1, ?_, s2, s3⟩
        unfold fX6_polynomials_J56
        rw [hS0.cl, s1, Option.bind_some, decide_eq_false hj, if_pos bI_f]
