/-! LAW CASES 21, 15: vector, at -/
theorem ok21 {x m out : Nat} {a1 a2 a3 : Int32} {S : ZS} (h : zI x m out S) : ok_21 x m out a1 a2 a3 S (zI x m out) := by
  obtain ⟨ad, p, cc, wc, CA, CG, WA, WG, WV, X, A, fo, hx, hK, hin, hcl, hmo, hrl, hout⟩ := h
  have hx' := hx
  obtain ⟨rfl, rfl, rfl⟩ := hx'
  have hcc := hK.2.1
  have hwc := hK.2.2.1
  have hhd := hcl.1
  have thr : fX5_vector (ad 10) a1 a2 a3 S = some (.inr ("java/lang/IndexOutOfBoundsException", S.1)) → (∀ S0, zMo S0 (ad 11) (mR ad) X A → fX6_vector (ad 11) a1 a2 a3 S0 = fX6_vector_J22 (ad 11) a1 a2 a3 (ad 11) (1 : Int32) S0) → ok_21 (ad 10) (ad 11) (ad 12) a1 a2 a3 S (zI (ad 10) (ad 11) (ad 12)) := by
    intro h1 h3
    refine ⟨1, S.1, ?_, fun n _ => ?_⟩
    · unfold fL_vector
      rw [zcl_ob hhd.1, h1]
      rfl
    · obtain ⟨r, r1, r2, r3⟩ := zthr (j := 1) (f := fX6_vector (ad 11) a1 a2 a3) hx hK hin hcl hmo hrl hout (fun S0 hS0 => by
        obtain ⟨S1, s1, s2, s3⟩ := m_badP hS0 (j := 1) (by omega) (by omega)
        refine ⟨0, S1, ?_, s2, s3⟩
        rw [h3 S0 hS0]
        unfold fX6_vector_J22
        rw [cl_1, s1, Option.bind_some, if_pos rfl]) n
      exact ⟨r, r1, r2, fun hh => absurd hh (by decide), r3⟩
  cases hb : bl wc a1 with
  | false =>
    refine thr ?_ (fun S0 hS0 => ?_)
    · unfold fX5_vector
      rw [zcl_ob hhd.1, c_noWay hhd hwc hb, zbT_r]
    · unfold fX6_vector fX6_vector_J21
      rw [hS0.cl, m_noProduct hS0 hrl.2.2.1 hwc hb, Option.bind_some, if_pos rfl]
  | true =>
    obtain ⟨i, hi, rfl⟩ := bl_ex (by omega) hb
    have hwy := (hcl.2.2.2 i hi).1
    have hmw := (hrl.2.2.2.2 i hi).1
    have hkk := hwy.kk
    have hpb := hwy.1.b
    have cN : zcl S (ad 10) 5 (fX5_needWay (ad 10) (ci i) S) = some (.inl (ad (200 + 4 * i), S)) := by rw [zcl_ob hhd.1]; exact c_needWay hhd hwc hi
    cases hb2 : bl (WA i 4) a2 with
    | false =>
      refine thr ?_ (fun S0 hS0 => ?_)
      · unfold fX5_vector
        rw [cN, zbT_l, c_needProduct hwy, hb2]
        rfl
      · unfold fX6_vector fX6_vector_J21
        rw [hS0.cl, m_isProduct hS0 hrl.2.2.1 hwc hi hmw, Option.bind_some, hb2, if_pos bI_f]
    | true =>
      cases hb3 : bl 3 a3 with
      | false =>
        refine thr ?_ (fun S0 hS0 => ?_)
        · unfold fX5_vector
          rw [cN, zbT_l, c_needProduct hwy, hb2, if_pos rfl, zbT_l, c_needSide, hb3]
          rfl
        · unfold fX6_vector fX6_vector_J21
          rw [hS0.cl, m_isProduct hS0 hrl.2.2.1 hwc hi hmw, Option.bind_some, hb2, if_neg (show ¬ bI true = 0 by decide), m_isSide, Option.bind_some, hb3, if_pos bI_f]
      | true =>
        obtain ⟨q, hq, rfl⟩ := bl_ex (by omega) hb2
        obtain ⟨s, hs, rfl⟩ := bl_ex (by omega) hb3
        obtain ⟨S2, e1, e2⟩ := zfin (f := fX6_vector (ad 11) (ci i) (ci q) (ci s)) (rv := ci (enc p (sz3 (WA i 0) (WA i 1) (WA i 2) s) (WV i q s))) (val := Int32.toInt64 (ci (enc p (sz3 (WA i 0) (WA i 1) (WA i 2) s) (WV i q s)))) hx hK hin hcl hmo hout (fun S0 hS0 => by
          obtain ⟨T1, s1, s2, s3⟩ := m_good hS0
          refine ⟨T1, _, A, ?_, s2, rfl, hrl, s3⟩
          have hn := hmw.s4 (s := s)
          unfold fX6_vector
          rw [hS0.cl, m_isProduct hS0 hrl.2.2.1 hwc hi hmw, Option.bind_some, hb2, if_neg (show ¬ bI true = 0 by decide), m_isSide, Option.bind_some, hb3, if_neg (show ¬ bI true = 0 by decide)]
          unfold fX6_vector_J22
          rw [hS0.cl, s1, Option.bind_some, if_neg (show ¬ ((1 : Int32) = 0) by decide)]
          refine ziter_seq (fun j => (ci (enc p j (WV i q s)), ci j)) _ (sz3 (WA i 0) (WA i 1) (WA i 2) s) zF (by rw [zF_eq]; omega) ?_ ?_
          · intro j hj
            unfold fX6_vector_B36
            simp only []
            rw [zgR_ob s2.1 rfl, Option.bind_some, m_size s2 hmw hs, Option.bind_some, if_neg (by rw [ci_le (by omega) (by omega)]; omega), zgI_ob s2.1 rfl, Option.bind_some, zgR_ob s2.1 rfl, Option.bind_some, m_from, Option.bind_some, m_dig s2 hmw hq hs hj, Option.bind_some, show mX X 0 0 1 = ci p from hrl.1, ci_mul, ci_add, cl_1, ci_add, Nat.mul_comm]
            rfl
          · unfold fX6_vector_B36
            simp only []
            rw [zgR_ob s2.1 rfl, Option.bind_some, m_size s2 hmw hs, Option.bind_some, if_pos (by rw [ci_le (by omega) (by omega)]; omega), zex_some])
        refine ⟨0, S2.1, ?_, fun n _ => ?_⟩
        · unfold fL_vector fX5_vector
          rw [zcl_ob hhd.1, cN, zbT_l, c_needProduct hwy, hb2, if_pos rfl, zbT_l, c_needSide, hb3, if_pos rfl, zbT_l]
          show zcatch (Option.bind (zcl S (ad (200 + 4 * i)) 4 (fX4_code (ad (200 + 4 * i)) (ci q) (ci s) S)) _) _ _ = _
          rw [zcl_ob hwy.wa, g_code hwy hq hs, Option.bind_some]
          show Option.bind (zsJ _ (ad 12) 0 _) _ = _
          rw [e1, Option.bind_some]
        · obtain ⟨r, r1, r2, r3, r4, r5⟩ := e2 n
          exact ⟨r, r1, r2, fun _ => by rw [r3, r4], r5⟩
theorem A3i : isA 3 := Or.inl ⟨by omega, by omega⟩
theorem A4i : isA 4 := Or.inl ⟨by omega, by omega⟩
theorem A5i : isA 5 := Or.inl ⟨by omega, by omega⟩
theorem N3 : mN 3 = 48 := rfl
theorem N4 : mN 4 = 1024 := rfl
theorem N5 : mN 5 = 16 := rfl
theorem c_needPlace {S : ZS} {c n a b d q : Nat} {g : Nat → Nat} {x1 x2 x3 : Int32} (h : zCu S c n a b d q g) (hs : szOK a b d) : fX5_needPlace c x1 x2 x3 S = if (bl a x1 && (bl b x2 && bl d x3)) = true then some (.inl ((), S)) else some (.inr ("java/lang/IndexOutOfBoundsException", S.1)) := by
  unfold szOK at hs
  unfold fX5_needPlace fX5_needPlace_J33
  rw [zgI_ob h.1 rfl, Option.bind_some, c_isBelow (by omega), Option.bind_some, zgI_ob h.1 rfl, Option.bind_some, c_isBelow (by omega), Option.bind_some, zgI_ob h.1 rfl, Option.bind_some, c_isBelow (by omega), Option.bind_some]
  cases bl a x1 <;> cases bl b x2 <;> cases bl d x3 <;> rfl
theorem m_csize {S : ZS} {m i s : Nat} {R : Nat → Nat} {X : Nat → Int32} {A : Nat → Nat → Int32} {c g : Nat → Nat} (h : zMo S m R X A) (y : mCu A i c g) (hi : i < 16) (hs : s < 3) : zaI S (R 3) 0 ((3 : Int32) * ci i + ci s) = some (ci (sz3 (c 0) (c 1) (c 2) s)) := by
  rw [cl_3, ci_mul, ci_add, h.rd A3i (by rw [N3]; omega), y.1 s hs]
theorem m_isPlace {S : ZS} {m cc i : Nat} {x1 x2 x3 : Int32} {R : Nat → Nat} {X : Nat → Int32} {A : Nat → Nat → Int32} {c g : Nat → Nat} (h : zMo S m R X A) (hX : X 2 = ci cc) (hc : cc ≤ 16) (hi : i < cc) (y : mCu A i c g) (hs : szOK (c 0) (c 1) (c 2)) : fX6_isPlace m (ci i) x1 x2 x3 S = some (bI (bl (c 0) x1 && (bl (c 1) x2 && bl (c 2) x3))) := by
  unfold szOK at hs
  have e0 : zaI S (R 3) 0 ((3 : Int32) * ci i) = some (ci (c 0)) := by
    rw [cl_3, ci_mul, h.rd A3i (by rw [N3]; omega)]
    have := y.1 0 (by omega)
    rw [Nat.add_zero] at this
    rw [this]; rfl
  have e1 := m_csize h y (s := 1) (by omega) (by omega)
  have e2 := m_csize h y (s := 2) (by omega) (by omega)
  unfold fX6_isPlace fX6_isPlace_J71 fX6_isPlace_J72
  rw [h.cl, m_isCube h hX hc, Option.bind_some, bl_ci (by omega) (by omega), decide_eq_true hi, if_neg (show ¬ bI true = 0 by decide)]
  rw [zgR_ob h.1 rfl, Option.bind_some, e0, Option.bind_some, m_in (by omega), Option.bind_some, Option.bind_some, cl_1, e1, Option.bind_some, ← cl_1, m_in (show sz3 (c 0) (c 1) (c 2) 1 < 2147483648 by show c 1 < _; omega), Option.bind_some, Option.bind_some, cl_2, e2, Option.bind_some, m_in (show sz3 (c 0) (c 1) (c 2) 2 < 2147483648 by show c 2 < _; omega), Option.bind_some]
  show _ = some (bI (bl (c 0) x1 && (bl (sz3 (c 0) (c 1) (c 2) 1) x2 && bl (sz3 (c 0) (c 1) (c 2) 2) x3)))
  cases bl (c 0) x1 <;> cases bl (sz3 (c 0) (c 1) (c 2) 1) x2 <;> cases bl (sz3 (c 0) (c 1) (c 2) 2) x3 <;> rfl
