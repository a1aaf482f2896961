/-! LAW CASE 4: group, whole -/
theorem upN_self {CA : Nat → Nat → Nat} {cc a b d sq : Nat} : upN CA cc a b d sq cc = (fun s => if s = 0 then a else if s = 1 then b else if s = 2 then d else sq) := if_pos rfl
theorem gG_ok {p n t : Nat} (hp : isP p) : cOK p n n n (gG n t) := by
  have := hp.b
  refine ⟨fun x _ => ?_, fun i j k hi hj hk hn => ?_⟩
  · unfold gG; split <;> omega
  · have hd := ix_16 (i := i) hj hk
    unfold gG
    rw [hd.1, hd.2.1, hd.2.2]
    by_cases h0 : n = 0
    · rw [if_neg (by omega)]
    · have hm : (i + j) % n < n := Nat.mod_lt _ (by omega)
      rw [if_neg (by omega)]
theorem ok4 {x m out : Nat} {a1 : Int32} {S : ZS} (h : zI x m out S) (hfr : zFr S.1 S.2) : ok_4 x m out a1 S (zI x m out) := by
  obtain ⟨ad, p, cc, wc, CA, CG, WA, WG, WV, X, A, fo, hx, hK, hin, hcl, hmo, hrl, hout⟩ := h
  have hx' := hx
  obtain ⟨rfl, rfl, rfl⟩ := hx'
  have hcc := hK.2.1
  have hhd := hcl.1
  have hlt : ∀ t, live cc wc t → ad t < S.2 := fun t ht => by
    obtain ⟨e, he⟩ := live_some hcl hmo hout ht
    apply Classical.byContradiction
    intro hh
    have := hfr (ad t) (by omega)
    rw [he] at this; cases this
  by_cases hj : cmk cc a1 a1 a1 = 0
  · obtain ⟨hc, n, b, d, hs, rfl, hb, hd⟩ := cmk_0 hcc hj
    have hs1 := hs.1
    obtain ⟨S1, c1, c2, c3, c4⟩ := c_addCube hK.1 hcl hin hlt hc (⟨hs1, hs1, hs1⟩ : szOK n n n)
    have v10 : adN ad cc S.2 10 = ad 10 := adN_old (by omega) (by omega)
    have v11 : adN ad cc S.2 11 = ad 11 := adN_old (by omega) (by omega)
    have v12 : adN ad cc S.2 12 = ad 12 := adN_old (by omega) (by omega)
    have hd1 := c3.1.1
    rw [v10] at hd1
    have hcu : zCu S1 S.2 (S.2 + 1) n n n 0 (gG n 0) := by
      have := (c3.2.2.1 cc (by omega)).1
      rw [upN_self, upG_self, adN_0, adN_1] at this
      rw [gG_0]
      exact this
    obtain ⟨S1', f1, f2, f3⟩ := c_group (l0 := ad 10) (cc := cc) hs1 hd1 rfl (by have := hlt 10 (Or.inl (Or.inl (by omega))); omega) hcu
    obtain ⟨g1, kp⟩ := cube_cl (i := cc) (sq := 0) (g := gG n (n * 4)) (by omega) c2 c3 (by omega) (S1 := S1') (f3.wk (fun b hb => Or.inr (by rw [hb, adN_1]))) (by
      rw [upN_self, adN_0, adN_1]; exact f2) (by rw [upN_self]; exact gG_ok hK.1) (by omega)
    have hmo1 : zMo S1 (ad 11) (mR ad) X A := hmo.kp (fun b hb => by
      obtain ⟨t, ht, rfl⟩ := mP_mT hb
      exact (c4 t (Or.inl ht)).2)
    have hmo2 : zMo S1 (adN ad cc S.2 11) (mR (adN ad cc S.2)) X A := by
      rw [v11]
      exact hmo1.cg (fun i hi => adN_old (by omega) (by omega))
    have hmo3 := cube_mo (cc := cc + 1) (by omega) (show cc < cc + 1 by omega) hmo2 kp
    have ho : zJA S1' (adN ad cc S.2 12) 1 fo := (kp 12 (Or.inr (Or.inr rfl)) (by omega) (by omega)).trans (by
      rw [v12]; exact (c4 12 (Or.inr rfl)).2.trans hout)
    obtain ⟨S2, e1, e2⟩ := zfin (x := ad 10) (m := ad 11) (out := ad 12) (f := fX6_group (ad 11) (ci n)) (rv := ci cc) (val := Int32.toInt64 (ci cc)) (ad := adN ad cc S.2) ⟨v10.symm, v11.symm, v12.symm⟩ ⟨hK.1, by omega, hK.2.2.1, fun _ => by omega⟩ c2 g1 hmo3 ho (fun S0 hS0 => by
      rw [v11] at hS0 ⊢
      obtain ⟨T1, s1, s2, s3⟩ := m_canMake (a := ci n) (b := ci n) (d := ci n) hS0 hrl.2.1 hcc
      obtain ⟨T2, A2, t1, t2, t3, t4, t5, t6, t7⟩ := m_make (a := n) (b := n) (d := n) s2 (cc := cc) hrl.2.1 hc
      obtain ⟨T3, u1, A3, u2, u3, u4, u5, u6⟩ := m_group (S := T2) (S0 := T2) hc hs1 ⟨A2, t2, fun y hy => by rw [t4 y hy, gG_0]; rfl, mV.rf, rfl, zFrm.rf⟩
      refine ⟨T3, _, A3, ?_, u2, ?_, cube_rl (show cc < cc + 1 by omega) (add_rl (X' := mX (mX X 0 (ci (cmk cc (ci n) (ci n) (ci n)))) 2 (ci (cc + 1))) hrl rfl rfl rfl t6 t3 t4 t5) rfl rfl rfl u4 u3 (by rw [u5, t5]; rfl), (s3.tr t7).tr u6⟩
      · unfold fX6_group
        rw [hS0.cl, s1, Option.bind_some, decide_eq_true hj, if_neg (show ¬ bI true = 0 by decide), s2.cl, t1, Option.bind_some, cl_0]
        exact u1
      · show mX (mX X 0 (ci (cmk cc (ci n) (ci n) (ci n)))) 2 (ci (cc + 1)) 0 = 0
        rw [hj]; rfl)
    refine ⟨0, S2.1, ?_, fun n _ => ?_⟩
    · unfold fL_group fX5_group
      rw [zcl_ob hhd.1, zcl_ob hhd.1, c1, zbT_l]
      show zcatch (ziter (fX5_group_B10 (ad 10) (ci n) S.2) zF (ci 0, S1)) _ _ = _
      rw [f1]
      show Option.bind (zsJ _ (ad 12) 0 _) _ = _
      rw [e1, Option.bind_some]
    · obtain ⟨r, r1, r2, r3, r4, r5⟩ := e2 n
      exact ⟨r, r1, r2, fun _ => by rw [r3, r4], r5⟩
  · have hj3 : cmk cc a1 a1 a1 = 1 ∨ cmk cc a1 a1 a1 = 2 := by
      have : cmk cc a1 a1 a1 < 3 := by unfold cmk; split <;> (try split) <;> omega
      omega
    refine ⟨ci (cmk cc a1 a1 a1), S.1, ?_, fun n _ => ?_⟩
    · unfold fL_group fX5_group
      rw [zcl_ob hhd.1, zcl_ob hhd.1, c_addBad hhd hcc hj, zbT_r]
      rcases hj3 with hj3 | hj3
      · rw [hj3]; rfl
      · rw [hj3]; rfl
    · obtain ⟨r, r1, r2, r3⟩ := zthr (j := cmk cc a1 a1 a1) (f := fX6_group (ad 11) a1) hx hK hin hcl hmo hrl hout (fun S0 hS0 => by
        obtain ⟨T1, s1, s2, s3⟩ := m_canMake (a := a1) (b := a1) (d := a1) hS0 hrl.2.1 hcc
        refine ⟨0, T1, ?_, s2, s3⟩
        unfold fX6_group
        rw [hS0.cl, s1, Option.bind_some, decide_eq_false hj, if_pos bI_f]) n
      exact ⟨r, r1, r2, fun hh => absurd hh (by rw [cl_0, ci_eq (by omega) (by omega)]; omega), r3⟩
