/-! LAW CASES 18, 19: whole -/
theorem tl_se {S S1 : ZS} {ad : Nat → Nat} {cc wc : Nat} {x : Int32} {F : Nat → Int32} {G : Nat → Int64} (hin : zInj ad cc wc) (h : zTl S ad) (hf : zFrm S S1 (pSe (ad 3) (ad 7) (ad 8))) (h1 : zOb S1 (ad 3) 2 [.ref (ad 7), .ref (ad 8), .int x]) (h2 : zIA S1 (ad 7) 105 F) (h3 : zJA S1 (ad 8) 64 G) : zTl S1 ad := by
  have kp : ∀ t, t ≤ 9 → t ≠ 3 → t ≠ 7 → t ≠ 8 → S1.1 (ad t) = S.1 (ad t) := fun t ht n3 n7 n8 => hf.2 _ (fun hh => hh.elim (ad_ne hin (by omega) (by omega) n3) (fun hh => hh.elim (ad_ne hin (by omega) (by omega) n7) (ad_ne hin (by omega) (by omega) n8)))
  obtain ⟨⟨r, q, a1⟩, ⟨f2, a2⟩, ⟨c, a3⟩, ⟨f4, a4⟩, ⟨f5, a5⟩, ⟨c6, a6⟩, ⟨f7, a7⟩, f8, a8⟩ := h
  exact ⟨⟨r, q, (kp 2 (by omega) (by omega) (by omega) (by omega)).trans a1⟩, ⟨f2, (kp 6 (by omega) (by omega) (by omega) (by omega)).trans a2⟩, ⟨x, h1⟩, ⟨F, h2⟩, ⟨G, h3⟩, ⟨c6, (kp 4 (by omega) (by omega) (by omega) (by omega)).trans a6⟩, ⟨f7, (kp 9 (by omega) (by omega) (by omega) (by omega)).trans a7⟩, f8, (kp 5 (by omega) (by omega) (by omega) (by omega)).trans a8⟩
theorem c_small {S : ZS} {ad : Nat → Nat} {p cc wc lim c n a b d q : Nat} {g : Nat → Nat} (h : zHd S ad p cc wc) (hp : p ≤ 5) (y : zCu S c n a b d q g) (hN : a * b * d ≤ 16 * 4) (hl : lim ≤ 12) : fX5_needSmall (ad 10) c (ci lim) S = if p = 2 ∧ a * b * d ≤ lim then some (.inl ((), S)) else some (.inr ("java/lang/IllegalStateException", S.1)) := by
  unfold fX5_needSmall fX5_needSmall_J26
  rw [zgI_ob h.1 rfl, Option.bind_some]
  by_cases h2 : p = 2
  · rw [if_pos (show ci p = (2 : Int32) by rw [h2]; rfl), zgI_ob y.1 rfl, Option.bind_some, zgI_ob y.1 rfl, Option.bind_some, zgI_ob y.1 rfl, Option.bind_some, ci_mul, ci_mul]
    by_cases h3 : a * b * d ≤ lim
    · rw [if_pos ((ci_le (by omega) (by omega)).mpr h3), if_pos ⟨h2, h3⟩]
    · rw [if_neg (fun hh => h3 ((ci_le (by omega) (by omega)).mp hh)), if_neg (fun hh => h3 hh.2)]
  · rw [if_neg (show ¬ (ci p = (2 : Int32)) by rw [cl_2, ci_eq (by omega) (by omega)]; exact h2), if_neg (fun hh => h2 hh.1)]
theorem m_lsBad {S : ZS} {m j : Nat} {a1 : Int32} {R : Nat → Nat} {X : Nat → Int32} {A : Nat → Nat → Int32} (h : zMo S m R X A) (hj : j < 2147483648) (h0 : 0 < j) : ∃ S1, fX6_leastOf_J78 m a1 m (ci j) S = some ((0 : Int32), S1) ∧ zMo S1 m R (mX X 0 (ci j)) A ∧ zFrm S S1 (mP m R) := by
  obtain ⟨S1, h1, h2, h3⟩ := m_badP h hj h0
  refine ⟨S1, ?_, h2, h3⟩
  unfold fX6_leastOf_J78 fX6_leastOf_J93
  rw [h1, Option.bind_some, if_pos rfl]
theorem m_lsOf {S : ZS} {m i p cc lim : Nat} {R : Nat → Nat} {X : Nat → Int32} {A : Nat → Nat → Int32} {c g : Nat → Nat} (h : zMo S m R X A) (hX : X 1 = ci p) (hX2 : X 2 = ci cc) (hcc : cc ≤ 16) (hi : i < cc) (hp : p ≤ 5) (y : mCu A i c g) (hN : c 0 * c 1 * c 2 ≤ 16 * 4) (hl : lim ≤ 12) : fX6_leastOf m (ci i) (ci lim) S = fX6_leastOf_J78 m (ci i) m (ci (if p = 2 ∧ c 0 * c 1 * c 2 ≤ lim then 0 else 2)) S := by
  have hb : bl cc (ci i) = true := by rw [bl_ci (by omega) (by omega)]; exact decide_eq_true hi
  have j57 : ∀ s0 : Int32, fX6_leastOf_J57 m (ci i) (bI true) s0 S = if s0 = 0 then fX6_leastOf_J78 m (ci i) m (2 : Int32) S else fX6_leastOf_J78 m (ci i) m (0 : Int32) S := fun s0 => by
    unfold fX6_leastOf_J57
    rw [if_neg (show ¬ bI true = 0 by decide)]
  have r0 := m_cs0 h y (show i < 16 by omega)
  have r1 := m_cs1 h y (show i < 16 by omega)
  have r2 := m_cs2 h y (show i < 16 by omega)
  unfold fX6_leastOf fX6_leastOf_J56
  rw [h.cl, m_isCube h hX2 hcc, Option.bind_some, hb, if_neg (show ¬ bI true = 0 by decide), zgI_ob h.1 rfl, Option.bind_some, hX, j57, j57, if_pos rfl, if_neg (show ¬ ((1 : Int32) = 0) by decide)]
  by_cases h2 : p = 2
  · rw [if_pos (show ci p = (2 : Int32) by rw [h2]; rfl), zgR_ob h.1 rfl, Option.bind_some, r0, Option.bind_some, Option.bind_some, r1, Option.bind_some, Option.bind_some, r2, Option.bind_some, ci_mul, ci_mul]
    by_cases h3 : c 0 * c 1 * c 2 ≤ lim
    · rw [if_neg (show ¬ (ci lim < ci (c 0 * c 1 * c 2)) by rw [ci_lt (by omega) (by omega)]; omega), if_pos ⟨h2, h3⟩]
      rfl
    · rw [if_pos ((ci_lt (by omega) (by omega)).mpr (by omega)), if_neg (fun hh => h3 hh.2)]
      rfl
  · rw [if_neg (show ¬ (ci p = (2 : Int32)) by rw [cl_2, ci_eq (by omega) (by omega)]; exact h2), if_neg (fun hh => h2 hh.1)]
    rfl
theorem c_few {S : ZS} {ad : Nat → Nat} {cc wc i lo D : Nat} {CA CG WA WG : Nat → Nat → Nat} {WV : Nat → Nat → Nat → Nat → Nat} (hcc : cc ≤ 16) (hin : zInj ad cc wc) (hcl : zCl S ad 2 cc wc CA CG WA WG WV) (hi : i < cc) (hN : CA i 0 * CA i 1 * CA i 2 ≤ 12) (hD : Rch (CA i 0) (CA i 1) (CA i 2) D (tGc (CA i 1) (CA i 2) (CG i))) (hmin : ∀ k, Rch (CA i 0) (CA i 1) (CA i 2) k (tGc (CA i 1) (CA i 2) (CG i)) → D ≤ k) (hlo : lo ≤ D) (hD12 : D ≤ 12) : ∃ S1, zcl S (ad 3) 2 (fX2_fewest (ad 3) (ad (100 + 2 * i)) (ci lo) S) = some (ci D, S1) ∧ kpL S S1 ad 2 cc wc CA CG WA WG WV := by
  have htl := hcl.2.1
  obtain ⟨_, _, ⟨c, a3⟩, ⟨f4, a4⟩, ⟨f5, a5⟩, _⟩ := id htl
  have hcb := hcl.2.2.1 i hi
  obtain ⟨S1, x1, F1, G1, b1, b2, b3, b4, b5⟩ := c_fewest hcb.2.1 hN a3 a4 a5 hcb.1 hcb.2.2.1 hD hmin hlo hD12
  exact ⟨S1, by rw [zcl_ob a3, b1], zCl.tl hcc hin hcl (b5.wk (fun b hb => hb.elim (fun e => ⟨3, by omega, e⟩) (fun hb => hb.elim (fun e => ⟨7, by omega, e⟩) (fun e => ⟨8, by omega, e⟩)))) (tl_se hin htl b5 b2 b3 b4)⟩
theorem ok18 {x m out : Nat} {a1 : Int32} {S : ZS} (h : zI x m out S) : ok_18 x m out a1 S (zI x m out) := by
  obtain ⟨ad, p, cc, wc, CA, CG, WA, WG, WV, X, A, fo, hx, hK, hin, hcl, hmo, hrl, hout⟩ := h
  have hx' := hx
  obtain ⟨rfl, rfl, rfl⟩ := hx'
  have hcc := hK.2.1
  have hhd := hcl.1
  have hpb := hK.1.b
  have thr : ∀ j : Nat, 0 < j → j < 3 → fL_least (ad 10) a1 (ad 12) S = some (ci j, S.1) → (∀ S0, zMo S0 (ad 11) (mR ad) X A → fX6_leastOf (ad 11) a1 (12 : Int32) S0 = fX6_leastOf_J78 (ad 11) a1 (ad 11) (ci j) S0) → ok_18 (ad 10) (ad 11) (ad 12) a1 S (zI (ad 10) (ad 11) (ad 12)) := by
    intro j j0 j3 h1 h3
    refine ⟨ci j, S.1, h1, fun n _ => ?_⟩
    obtain ⟨r, r1, r2, r3⟩ := zthr (j := j) (f := fX6_least (ad 11) a1) hx hK hin hcl hmo hrl hout (fun S0 hS0 => by
      obtain ⟨S1, s1, s2, s3⟩ := m_lsBad (a1 := a1) hS0 (j := j) (by omega) j0
      refine ⟨0, S1, ?_, s2, s3⟩
      unfold fX6_least
      rw [hS0.cl, h3 S0 hS0, s1, Option.bind_some]) n
    refine ⟨r, r1, r2, fun hh => ?_, r3⟩
    rw [cl_0, ci_eq (by omega) (by omega)] at hh
    omega
  cases hb : bl cc a1 with
  | false =>
    refine thr 1 (by omega) (by omega) ?_ (fun S0 hS0 => ?_)
    · unfold fL_least fX5_least
      rw [zcl_ob hhd.1, zcl_ob hhd.1, c_noCube hhd hcc hb, zbT_r]
      rfl
    · unfold fX6_leastOf fX6_leastOf_J56 fX6_leastOf_J57
      rw [hS0.cl, m_isCube hS0 hrl.2.1 hcc, Option.bind_some, hb, if_pos bI_f, if_pos bI_f]
      rfl
  | true =>
    obtain ⟨i, hi, rfl⟩ := bl_ex (by omega) hb
    have hcb := hcl.2.2.1 i hi
    have hmc := hrl.2.2.2.1 i hi
    have hz := hcb.2.1
    have hz' := hz
    unfold szOK at hz'
    have hN1 : CA i 0 * CA i 1 ≤ 4 * 4 := Nat.mul_le_mul (by omega) (by omega)
    have hN2 : CA i 0 * CA i 1 * CA i 2 ≤ 16 * 4 := Nat.mul_le_mul hN1 (by omega)
    have cN : zcl S (ad 10) 5 (fX5_needCube (ad 10) (ci i) S) = some (.inl (ad (100 + 2 * i), S)) := by rw [zcl_ob hhd.1]; exact c_needCube hhd hcc hi
    have cS : zcl S (ad 10) 5 (fX5_needSmall (ad 10) (ad (100 + 2 * i)) (12 : Int32) S) = if p = 2 ∧ CA i 0 * CA i 1 * CA i 2 ≤ 12 then some (.inl ((), S)) else some (.inr ("java/lang/IllegalStateException", S.1)) := by
      rw [zcl_ob hhd.1]; exact c_small (lim := 12) hhd hpb.2 hcb.1 hN2 (by omega)
    have mN : ∀ S0, zMo S0 (ad 11) (mR ad) X A → fX6_leastOf (ad 11) (ci i) (12 : Int32) S0 = fX6_leastOf_J78 (ad 11) (ci i) (ad 11) (ci (if p = 2 ∧ CA i 0 * CA i 1 * CA i 2 ≤ 12 then 0 else 2)) S0 := fun S0 hS0 => m_lsOf (lim := 12) hS0 hrl.1 hrl.2.1 hcc hi hpb.2 hmc hN2 (by omega)
    by_cases hsm : p = 2 ∧ CA i 0 * CA i 1 * CA i 2 ≤ 12
    · obtain ⟨rfl, hN⟩ := hsm
      obtain ⟨D, d1, d2, d3⟩ := Rch_min (a := CA i 0) (b := CA i 1) (d := CA i 2) (T := tGc (CA i 1) (CA i 2) (CG i)) (by omega) (by omega)
      obtain ⟨S1, g1, g2⟩ := c_bd hcc hK.1 hin hcl hi
      obtain ⟨S3, c1, c23⟩ := c_few hcc hin g2.1 hi (by omega) d2 d3 (bd_fewest hz hcb.2.2.1 d2) (by omega)
      obtain ⟨c2, c3⟩ := g2.tr c23
      obtain ⟨S2, e1, e2⟩ := zfin (f := fX6_least (ad 11) (ci i)) (rv := ci D) (val := Int32.toInt64 (ci D)) hx hK hin c2 (tl_mo hmo c3) ((c3 12 (Or.inr (Or.inr rfl)) (by omega)).trans hout) (fun S0 hS0 => by
        obtain ⟨T1, s1, s2, s3⟩ := m_good hS0
        obtain ⟨T2, D', A2, X2, t1, t2, t3, t4, t5, t6, t7⟩ := m_fewest s2 hmc (by omega) hz (by omega) hcb.2.2.1
        have hDD : D' = D := Nat.le_antisymm (t3 D d2) (d3 D' t2)
        subst hDD
        refine ⟨T2, X2, A2, ?_, t4, t5 0 (by omega), zRl.sc hrl (t5 1 (by omega)) (t5 2 (by omega)) (t5 6 (by omega)) (fun j hj => t6 j (by omega) (by omega)), s3.tr t7⟩
        unfold fX6_least
        rw [hS0.cl, mN S0 hS0, if_pos ⟨rfl, hN⟩]
        unfold fX6_leastOf_J78 fX6_leastOf_J93
        rw [hS0.cl]
        show Option.bind (Option.bind (fX6_goesWell (ad 11) (0 : Int32) S0) _) _ = _
        rw [s1, Option.bind_some, if_neg (show ¬ ((1 : Int32) = 0) by decide), s2.cl, t1, Option.bind_some, Option.bind_some])
      refine ⟨0, S2.1, ?_, fun n _ => ?_⟩
      · unfold fL_least fX5_least
        rw [zcl_ob hhd.1, cN, zbT_l]
        show zcatch (zbT (zcl S (ad 10) 5 (fX5_needSmall (ad 10) (ad (100 + 2 * i)) (12 : Int32) S)) _) _ _ = _
        rw [cS, if_pos ⟨rfl, hN⟩, zbT_l]
        show zcatch (Option.bind (zgR S (ad 10) 5 3) _) _ _ = _
        rw [zgR_ob hhd.1 rfl, Option.bind_some]
        show zcatch (Option.bind (zcl S (ad 10) 5 (fX5_greatestRank (ad 10) (ad (100 + 2 * i)) S)) _) _ _ = _
        rw [zcl_ob hhd.1, g1, Option.bind_some]
        show zcatch (Option.bind (zcl S1 (ad 3) 2 (fX2_fewest (ad 3) (ad (100 + 2 * i)) (ci (bdF 2 (CA i 0) (CA i 1) (CA i 2) (CG i))) S1)) _) _ _ = _
        rw [c1, Option.bind_some]
        show Option.bind (zsJ _ (ad 12) 0 _) _ = _
        rw [e1, Option.bind_some]
      · obtain ⟨r, r1, r2, r3, r4, r5⟩ := e2 n
        exact ⟨r, r1, r2, fun _ => by rw [r3, r4], r5⟩
    · refine thr 2 (by omega) (by omega) ?_ (fun S0 hS0 => by rw [mN S0 hS0, if_neg hsm])
      unfold fL_least fX5_least
      rw [zcl_ob hhd.1, cN, zbT_l]
      show zcatch (zbT (zcl S (ad 10) 5 (fX5_needSmall (ad 10) (ad (100 + 2 * i)) (12 : Int32) S)) _) _ _ = _
      rw [cS, if_neg hsm, zbT_r]
      rfl
theorem ok19 {x m out : Nat} {a1 : Int32} {S : ZS} (h : zI x m out S) : ok_19 x m out a1 S (zI x m out) := by
  obtain ⟨ad, p, cc, wc, CA, CG, WA, WG, WV, X, A, fo, hx, hK, hin, hcl, hmo, hrl, hout⟩ := h
  have hx' := hx
  obtain ⟨rfl, rfl, rfl⟩ := hx'
  have hcc := hK.2.1
  have hhd := hcl.1
  have hpb := hK.1.b
  have thr : ∀ j : Nat, 0 < j → j < 3 → fL_leastAnew (ad 10) a1 (ad 12) S = some (ci j, S.1) → (∀ S0, zMo S0 (ad 11) (mR ad) X A → fX6_leastOf (ad 11) a1 (8 : Int32) S0 = fX6_leastOf_J78 (ad 11) a1 (ad 11) (ci j) S0) → ok_19 (ad 10) (ad 11) (ad 12) a1 S (zI (ad 10) (ad 11) (ad 12)) := by
    intro j j0 j3 h1 h3
    refine ⟨ci j, S.1, h1, fun n _ => ?_⟩
    obtain ⟨r, r1, r2, r3⟩ := zthr (j := j) (f := fX6_leastAnew (ad 11) a1) hx hK hin hcl hmo hrl hout (fun S0 hS0 => by
      obtain ⟨S1, s1, s2, s3⟩ := m_lsBad (a1 := a1) hS0 (j := j) (by omega) j0
      refine ⟨0, S1, ?_, s2, s3⟩
      unfold fX6_leastAnew
      rw [hS0.cl, h3 S0 hS0, s1, Option.bind_some]) n
    refine ⟨r, r1, r2, fun hh => ?_, r3⟩
    rw [cl_0, ci_eq (by omega) (by omega)] at hh
    omega
  cases hb : bl cc a1 with
  | false =>
    refine thr 1 (by omega) (by omega) ?_ (fun S0 hS0 => ?_)
    · unfold fL_leastAnew fX5_leastAnew
      rw [zcl_ob hhd.1, zcl_ob hhd.1, c_noCube hhd hcc hb, zbT_r]
      rfl
    · unfold fX6_leastOf fX6_leastOf_J56 fX6_leastOf_J57
      rw [hS0.cl, m_isCube hS0 hrl.2.1 hcc, Option.bind_some, hb, if_pos bI_f, if_pos bI_f]
      rfl
  | true =>
    obtain ⟨i, hi, rfl⟩ := bl_ex (by omega) hb
    have hcb := hcl.2.2.1 i hi
    have hmc := hrl.2.2.2.1 i hi
    have hz := hcb.2.1
    have hz' := hz
    unfold szOK at hz'
    have hN1 : CA i 0 * CA i 1 ≤ 4 * 4 := Nat.mul_le_mul (by omega) (by omega)
    have hN2 : CA i 0 * CA i 1 * CA i 2 ≤ 16 * 4 := Nat.mul_le_mul hN1 (by omega)
    have cN : zcl S (ad 10) 5 (fX5_needCube (ad 10) (ci i) S) = some (.inl (ad (100 + 2 * i), S)) := by rw [zcl_ob hhd.1]; exact c_needCube hhd hcc hi
    have cS : zcl S (ad 10) 5 (fX5_needSmall (ad 10) (ad (100 + 2 * i)) (8 : Int32) S) = if p = 2 ∧ CA i 0 * CA i 1 * CA i 2 ≤ 8 then some (.inl ((), S)) else some (.inr ("java/lang/IllegalStateException", S.1)) := by
      rw [zcl_ob hhd.1]; exact c_small (lim := 8) hhd hpb.2 hcb.1 hN2 (by omega)
    have mN : ∀ S0, zMo S0 (ad 11) (mR ad) X A → fX6_leastOf (ad 11) (ci i) (8 : Int32) S0 = fX6_leastOf_J78 (ad 11) (ci i) (ad 11) (ci (if p = 2 ∧ CA i 0 * CA i 1 * CA i 2 ≤ 8 then 0 else 2)) S0 := fun S0 hS0 => m_lsOf (lim := 8) hS0 hrl.1 hrl.2.1 hcc hi hpb.2 hmc hN2 (by omega)
    by_cases hsm : p = 2 ∧ CA i 0 * CA i 1 * CA i 2 ≤ 8
    · obtain ⟨rfl, hN⟩ := hsm
      obtain ⟨D, d1, d2, d3⟩ := Rch_min (a := CA i 0) (b := CA i 1) (d := CA i 2) (T := tGc (CA i 1) (CA i 2) (CG i)) (by omega) (by omega)
      obtain ⟨S3, c1, c2, c3⟩ := c_few hcc hin hcl hi (by omega) d2 d3 (Nat.zero_le D) (by omega)
      obtain ⟨S2, e1, e2⟩ := zfin (f := fX6_leastAnew (ad 11) (ci i)) (rv := ci D) (val := Int32.toInt64 (ci D)) hx hK hin c2 (tl_mo hmo c3) ((c3 12 (Or.inr (Or.inr rfl)) (by omega)).trans hout) (fun S0 hS0 => by
        obtain ⟨T1, s1, s2, s3⟩ := m_good hS0
        obtain ⟨T2, D', A2, X2, t1, t2, t3, t4, t5, t6, t7⟩ := m_fewest s2 hmc (by omega) hz (by omega) hcb.2.2.1
        have hDD : D' = D := Nat.le_antisymm (t3 D d2) (d3 D' t2)
        subst hDD
        refine ⟨T2, X2, A2, ?_, t4, t5 0 (by omega), zRl.sc hrl (t5 1 (by omega)) (t5 2 (by omega)) (t5 6 (by omega)) (fun j hj => t6 j (by omega) (by omega)), s3.tr t7⟩
        unfold fX6_leastAnew
        rw [hS0.cl, mN S0 hS0, if_pos ⟨rfl, hN⟩]
        unfold fX6_leastOf_J78 fX6_leastOf_J93
        rw [hS0.cl]
        show Option.bind (Option.bind (fX6_goesWell (ad 11) (0 : Int32) S0) _) _ = _
        rw [s1, Option.bind_some, if_neg (show ¬ ((1 : Int32) = 0) by decide), s2.cl, t1, Option.bind_some, Option.bind_some])
      refine ⟨0, S2.1, ?_, fun n _ => ?_⟩
      · unfold fL_leastAnew fX5_leastAnew
        rw [zcl_ob hhd.1, cN, zbT_l]
        show zcatch (zbT (zcl S (ad 10) 5 (fX5_needSmall (ad 10) (ad (100 + 2 * i)) (8 : Int32) S)) _) _ _ = _
        rw [cS, if_pos ⟨rfl, hN⟩, zbT_l]
        show zcatch (Option.bind (zgR S (ad 10) 5 3) _) _ _ = _
        rw [zgR_ob hhd.1 rfl, Option.bind_some]
        show zcatch (Option.bind (zcl S (ad 3) 2 (fX2_fewest (ad 3) (ad (100 + 2 * i)) (ci 0) S)) _) _ _ = _
        rw [c1, Option.bind_some]
        show Option.bind (zsJ _ (ad 12) 0 _) _ = _
        rw [e1, Option.bind_some]
      · obtain ⟨r, r1, r2, r3, r4, r5⟩ := e2 n
        exact ⟨r, r1, r2, fun _ => by rw [r3, r4], r5⟩
    · refine thr 2 (by omega) (by omega) ?_ (fun S0 hS0 => by rw [mN S0 hS0, if_neg hsm])
      unfold fL_leastAnew fX5_leastAnew
      rw [zcl_ob hhd.1, cN, zbT_l]
      show zcatch (zbT (zcl S (ad 10) 5 (fX5_needSmall (ad 10) (ad (100 + 2 * i)) (8 : Int32) S)) _) _ _ = _
      rw [cS, if_neg hsm, zbT_r]
      rfl
