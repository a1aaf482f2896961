/-! LAW CASE 1: cube, whole -/
theorem cmk_0 {cc : Nat} {a1 a2 a3 : Int32} (hc : cc ≤ 16) (h : cmk cc a1 a2 a3 = 0) : cc < 16 ∧ ∃ a b d, szOK a b d ∧ a1 = ci a ∧ a2 = ci b ∧ a3 = ci d := by
  unfold cmk at h
  by_cases h1 : s43 a1 a2 a3 = true
  · rw [if_pos h1] at h
    unfold s43 at h1
    rw [Bool.and_eq_true, Bool.and_eq_true] at h1
    obtain ⟨a, ha, rfl⟩ := s4_ex h1.1
    obtain ⟨b, hb, rfl⟩ := s4_ex h1.2.1
    obtain ⟨d, hd, rfl⟩ := s4_ex h1.2.2
    refine ⟨?_, a, b, d, ⟨ha, hb, hd⟩, rfl, rfl, rfl⟩
    by_cases h2 : cc = 16
    · rw [if_pos h2] at h; omega
    · omega
  · rw [if_neg h1] at h; omega
theorem ok1 {x m out : Nat} {a1 a2 a3 : Int32} {S : ZS} (h : zI x m out S) (hfr : zFr S.1 S.2) : ok_1 x m out a1 a2 a3 S (zI x m out) := by
  obtain ⟨ad, p, cc, wc, CA, CG, WA, WG, WV, X, A, fo, hx, hK, hin, hcl, hmo, hrl, hout⟩ := h
  have hx' := hx
  obtain ⟨rfl, rfl, rfl⟩ := hx'
  have hcc := hK.2.1
  have hhd := hcl.1
  have hlt : ∀ t, live cc wc t → ad t < S.2 := fun t ht => by
    obtain ⟨e, he⟩ := live_some hcl hmo hout ht
    apply Classical.byContradiction
    intro hh
    have := hfr (ad t) (by omega)
    rw [he] at this; cases this
  by_cases hj : cmk cc a1 a2 a3 = 0
  · obtain ⟨hc, a, b, d, hs, rfl, rfl, rfl⟩ := cmk_0 hcc hj
    obtain ⟨S1, c1, c2, c3, c4⟩ := c_addCube hK.1 hcl hin hlt hc hs
    have v10 : adN ad cc S.2 10 = ad 10 := adN_old (by omega) (by omega)
    have v11 : adN ad cc S.2 11 = ad 11 := adN_old (by omega) (by omega)
    have v12 : adN ad cc S.2 12 = ad 12 := adN_old (by omega) (by omega)
    have hmo1 : zMo S1 (ad 11) (mR ad) X A := hmo.kp (fun b hb => by
      obtain ⟨t, ht, rfl⟩ := mP_mT hb
      exact (c4 t (Or.inl ht)).2)
    have hmo2 : zMo S1 (adN ad cc S.2 11) (mR (adN ad cc S.2)) X A := by
      rw [v11]
      exact hmo1.cg (fun i hi => adN_old (by omega) (by omega))
    have ho : zJA S1 (adN ad cc S.2 12) 1 fo := by
      rw [v12]; exact (c4 12 (Or.inr rfl)).2.trans hout
    obtain ⟨S2, e1, e2⟩ := zfin (x := ad 10) (m := ad 11) (out := ad 12) (f := fX6_cube (ad 11) (ci a) (ci b) (ci d)) (rv := ci cc) (val := Int32.toInt64 (ci cc)) (ad := adN ad cc S.2) ⟨v10.symm, v11.symm, v12.symm⟩ ⟨hK.1, by omega, hK.2.2.1, fun _ => by omega⟩ c2 c3 hmo2 ho (fun S0 hS0 => by
      rw [v11] at hS0 ⊢
      obtain ⟨T1, s1, s2, s3⟩ := m_canMake (a := ci a) (b := ci b) (d := ci d) hS0 hrl.2.1 hcc
      obtain ⟨T2, A2, t1, t2, t3, t4, t5, t6, t7⟩ := m_make (a := a) (b := b) (d := d) s2 (cc := cc) hrl.2.1 hc
      refine ⟨T2, _, A2, ?_, t2, ?_, add_rl hrl rfl rfl rfl t6 t3 t4 t5, s3.tr t7⟩
      · unfold fX6_cube fX6_cube_J21
        rw [hS0.cl, s1, Option.bind_some, decide_eq_true hj, if_neg (show ¬ bI true = 0 by decide), s2.cl, t1, Option.bind_some]
      · show mX (mX X 0 (ci (cmk cc (ci a) (ci b) (ci d)))) 2 (ci (cc + 1)) 0 = 0
        rw [hj]; rfl)
    refine ⟨0, S2.1, ?_, fun n _ => ?_⟩
    · have hd1 := c3.1.1
      rw [v10] at hd1
      unfold fL_cube fX5_cube
      rw [zcl_ob hhd.1, zcl_ob hhd.1, c1, zbT_l]
      show zcatch (Option.bind (zgI S1 (ad 10) 5 7) _) _ _ = _
      rw [zgI_ob hd1 rfl, Option.bind_some, cl_1, ci_sub (by omega), Nat.add_sub_cancel]
      show Option.bind (zsJ _ (ad 12) 0 _) _ = _
      rw [e1, Option.bind_some]
    · obtain ⟨r, r1, r2, r3, r4, r5⟩ := e2 n
      exact ⟨r, r1, r2, fun _ => by rw [r3, r4], r5⟩
  · have hj3 : cmk cc a1 a2 a3 = 1 ∨ cmk cc a1 a2 a3 = 2 := by
      have : cmk cc a1 a2 a3 < 3 := by unfold cmk; split <;> (try split) <;> omega
      omega
    refine ⟨ci (cmk cc a1 a2 a3), S.1, ?_, fun n _ => ?_⟩
    · unfold fL_cube fX5_cube
      rw [zcl_ob hhd.1, zcl_ob hhd.1, c_addBad hhd hcc hj, zbT_r]
      rcases hj3 with hj3 | hj3
      · rw [hj3]; rfl
      · rw [hj3]; rfl
    · obtain ⟨r, r1, r2, r3⟩ := zthr (j := cmk cc a1 a2 a3) (f := fX6_cube (ad 11) a1 a2 a3) hx hK hin hcl hmo hrl hout (fun S0 hS0 => by
        obtain ⟨T1, s1, s2, s3⟩ := m_canMake (a := a1) (b := a2) (d := a3) hS0 hrl.2.1 hcc
        refine ⟨0, T1, ?_, s2, s3⟩
        unfold fX6_cube fX6_cube_J21
        rw [hS0.cl, s1, Option.bind_some, decide_eq_false hj, if_pos bI_f]) n
      exact ⟨r, r1, r2, fun hh => absurd hh (by rw [cl_0, ci_eq (by omega) (by omega)]; omega), r3⟩
