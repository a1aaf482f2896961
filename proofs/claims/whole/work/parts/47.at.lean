/-! LAW CASE 15: at -/
theorem m_noPlace {S : ZS} {m cc : Nat} {a x1 x2 x3 : Int32} {R : Nat → Nat} {X : Nat → Int32} {A : Nat → Nat → Int32} (h : zMo S m R X A) (hX : X 2 = ci cc) (hc : cc ≤ 16) (hb : bl cc a = false) : fX6_isPlace m a x1 x2 x3 S = some 0 := by
  unfold fX6_isPlace fX6_isPlace_J71 fX6_isPlace_J72
  rw [h.cl, m_isCube h hX hc, Option.bind_some, hb, if_pos bI_f]
  rfl
theorem m_num {S : ZS} {m i x : Nat} {R : Nat → Nat} {X : Nat → Int32} {A : Nat → Nat → Int32} {c g : Nat → Nat} (h : zMo S m R X A) (y : mCu A i c g) (hi : i < 16) (hx : x < 64) : zaI S (R 4) 0 ((64 : Int32) * ci i + ci x) = some (ci (g x)) := by
  rw [cl_64, ci_mul, ci_add, h.rd A4i (by rw [N4]; omega), y.2.1 x hx]
theorem m_place (i j k : Nat) : fX6_place (ci i) (ci j) (ci k) = some (ci (ix i j k)) := by
  unfold fX6_place
  rw [cl_16, cl_4, ci_mul, ci_mul, ci_add, ci_add]
  congr 2
  unfold ix; omega
theorem ok15 {x m out : Nat} {a1 a2 a3 a4 : Int32} {S : ZS} (h : zI x m out S) : ok_15 x m out a1 a2 a3 a4 S (zI x m out) := by
  obtain ⟨ad, p, cc, wc, CA, CG, WA, WG, WV, X, A, fo, hx, hK, hin, hcl, hmo, hrl, hout⟩ := h
  have hx' := hx
  obtain ⟨rfl, rfl, rfl⟩ := hx'
  have hcc := hK.2.1
  have hhd := hcl.1
  have thr : fX5_at (ad 10) a1 a2 a3 a4 S = some (.inr ("java/lang/IndexOutOfBoundsException", S.1)) → (∀ S0, zMo S0 (ad 11) (mR ad) X A → fX6_isPlace (ad 11) a1 a2 a3 a4 S0 = some 0) → ok_15 (ad 10) (ad 11) (ad 12) a1 a2 a3 a4 S (zI (ad 10) (ad 11) (ad 12)) := by
    intro h1 h3
    refine ⟨1, S.1, ?_, fun n _ => ?_⟩
    · unfold fL_at
      rw [zcl_ob hhd.1, h1]
      rfl
    · obtain ⟨r, r1, r2, r3⟩ := zthr (j := 1) (f := fX6_at (ad 11) a1 a2 a3 a4) hx hK hin hcl hmo hrl hout (fun S0 hS0 => by
        obtain ⟨S1, s1, s2, s3⟩ := m_badP hS0 (j := 1) (by omega) (by omega)
        refine ⟨0, S1, ?_, s2, s3⟩
        unfold fX6_at fX6_at_J18 fX6_at_J45
        rw [hS0.cl, h3 S0 hS0, Option.bind_some, if_pos rfl, cl_1, s1, Option.bind_some, if_pos rfl]) n
      exact ⟨r, r1, r2, fun hh => absurd hh (by decide), r3⟩
  cases hb : bl cc a1 with
  | false =>
    refine thr ?_ (fun S0 hS0 => m_noPlace hS0 hrl.2.1 hcc hb)
    unfold fX5_at
    rw [zcl_ob hhd.1, c_noCube hhd hcc hb, zbT_r]
  | true =>
    obtain ⟨i, hi, rfl⟩ := bl_ex (by omega) hb
    have hcb := hcl.2.2.1 i hi
    have hmc := hrl.2.2.2.1 i hi
    have hsz := hcb.2.1
    have hsz' := hsz
    unfold szOK at hsz'
    have cN : zcl S (ad 10) 5 (fX5_needCube (ad 10) (ci i) S) = some (.inl (ad (100 + 2 * i), S)) := by rw [zcl_ob hhd.1]; exact c_needCube hhd hcc hi
    cases hp : (bl (CA i 0) a2 && (bl (CA i 1) a3 && bl (CA i 2) a4)) with
    | false =>
      refine thr ?_ (fun S0 hS0 => by rw [m_isPlace hS0 hrl.2.1 hcc hi hmc hsz, hp]; rfl)
      unfold fX5_at
      rw [cN, zbT_l, c_needPlace hcb.1 hsz, hp]
      rfl
    | true =>
      have hp' := hp
      rw [Bool.and_eq_true, Bool.and_eq_true] at hp'
      obtain ⟨i1, h1, rfl⟩ := bl_ex (by omega) hp'.1
      obtain ⟨i2, h2, rfl⟩ := bl_ex (by omega) hp'.2.1
      obtain ⟨i3, h3, rfl⟩ := bl_ex (by omega) hp'.2.2
      obtain ⟨S2, e1, e2⟩ := zfin (f := fX6_at (ad 11) (ci i) (ci i1) (ci i2) (ci i3)) (rv := ci (CG i (ix i1 i2 i3))) (val := Int32.toInt64 (ci (CG i (ix i1 i2 i3)))) hx hK hin hcl hmo hout (fun S0 hS0 => by
        obtain ⟨T1, s1, s2, s3⟩ := m_good hS0
        refine ⟨T1, _, A, ?_, s2, rfl, hrl, s3⟩
        unfold fX6_at fX6_at_J18 fX6_at_J45
        rw [hS0.cl, m_isPlace hS0 hrl.2.1 hcc hi hmc hsz, hp, Option.bind_some, if_neg (show ¬ bI true = 0 by decide), hS0.cl, s1, Option.bind_some, if_neg (show ¬ ((1 : Int32) = 0) by decide), zgR_ob s2.1 rfl, Option.bind_some, m_place, Option.bind_some, m_num s2 hmc (by omega) (ix_lt (by omega) (by omega) (by omega)), Option.bind_some])
      refine ⟨0, S2.1, ?_, fun n _ => ?_⟩
      · unfold fL_at fX5_at
        rw [zcl_ob hhd.1, cN, zbT_l, c_needPlace hcb.1 hsz, hp, if_pos rfl, zbT_l]
        show zcatch (Option.bind (zcl S (ad (100 + 2 * i)) 0 (fX0_numberAt (ad (100 + 2 * i)) (ci i1) (ci i2) (ci i3) S)) _) _ _ = _
        rw [zcl_cu hcb.1, g_numberAt hcb.1 (by omega) (by omega) (by omega), Option.bind_some]
        show Option.bind (zsJ _ (ad 12) 0 _) _ = _
        rw [e1, Option.bind_some]
      · obtain ⟨r, r1, r2, r3, r4, r5⟩ := e2 n
        exact ⟨r, r1, r2, fun _ => by rw [r3, r4], r5⟩
