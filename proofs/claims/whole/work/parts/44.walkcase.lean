/-! LAW CASES 14, 12: walk, flip -/
theorem m_badP {S : ZS} {m j : Nat} {R : Nat → Nat} {X : Nat → Int32} {A : Nat → Nat → Int32} (h : zMo S m R X A) (hj : j < 2147483648) (h0 : 0 < j) : ∃ S1, zcl S m 6 (fX6_goesWell m (ci j) S) = some (0, S1) ∧ zMo S1 m R (mX X 0 (ci j)) A ∧ zFrm S S1 (mP m R) := by
  obtain ⟨S1, h1, h2, h3⟩ := m_bad h hj h0
  exact ⟨S1, by rw [h.cl, h1], h2, h3⟩
theorem mw43 {S : ZS} {m j : Nat} {a1 a2 a3 : Int32} {R : Nat → Nat} {X : Nat → Int32} {A : Nat → Nat → Int32} (h : zMo S m R X A) (hj : j < 2147483648) (h0 : 0 < j) : ∃ S1, fX6_walk_J43 m a1 a2 a3 m (ci j) S = some ((0 : Int32), S1) ∧ zMo S1 m R (mX X 0 (ci j)) A ∧ zFrm S S1 (mP m R) := by
  obtain ⟨S1, h1, h2, h3⟩ := m_badP h hj h0
  refine ⟨S1, ?_, h2, h3⟩
  unfold fX6_walk_J43
  rw [h1, Option.bind_some, if_pos rfl]
theorem in_state {a : Int32} : fX6_in a (0 : Int32) (65535 : Int32) = some (bI (bl 65536 a)) := by
  rw [show (65535 : Int32) = ci 65536 - 1 from rfl]
  exact m_in (by omega)
theorem in_steps {a : Int32} : fX6_in a (1 : Int32) (200 : Int32) = some (bI (decide (1 ≤ a ∧ a ≤ 200))) := by
  unfold fX6_in fX6_in_J14 fX6_in_J15
  by_cases h1 : a < 1
  · rw [if_pos h1, decide_eq_false (fun hh => Int32.not_lt.mpr hh.1 h1)]; rfl
  · rw [if_neg h1]
    by_cases h2 : 200 < a
    · rw [if_pos h2, decide_eq_false (fun hh => Int32.not_lt.mpr hh.2 h2)]; rfl
    · rw [if_neg h2, decide_eq_true ⟨Int32.not_lt.mp h1, Int32.not_lt.mp h2⟩]; rfl
theorem c_walk_bad {x w : Nat} {a1 a2 a3 : Int32} {S : ZS} (hw : zcl S x 5 (fX5_needWay x a1 S) = some (.inl (w, S))) (h : ¬ (bl 65536 a2 = true ∧ decide (1 ≤ a3 ∧ a3 ≤ 200) = true)) : fX5_walk x a1 a2 a3 S = some (.inr ("java/lang/IllegalArgumentException", S.1)) := by
  unfold fX5_walk fX5_walk_J17 fX5_walk_J39
  rw [hw]
  unfold zbT
  simp only []
  by_cases h0 : a2 < 0
  · rw [if_pos h0]
  · rw [if_neg h0]
    by_cases h1 : a2 < 65536
    · rw [if_pos h1]
      have hb : bl 65536 a2 = true := by
        unfold bl
        exact decide_eq_true ⟨Int32.not_lt.mp h0, h1⟩
      by_cases h2 : a3 < 1
      · rw [if_pos h2]
      · rw [if_neg h2]
        by_cases h3 : a3 ≤ 200
        · exact absurd ⟨hb, decide_eq_true ⟨Int32.not_lt.mp h2, h3⟩⟩ h
        · rw [if_neg h3]
    · rw [if_neg h1]
theorem ok14 {x m out : Nat} {a1 a2 a3 : Int32} {S : ZS} (h : zI x m out S) : ok_14 x m out a1 a2 a3 S (zI x m out) := by
  obtain ⟨ad, p, cc, wc, CA, CG, WA, WG, WV, X, A, fo, hx, hK, hin, hcl, hmo, hrl, hout⟩ := h
  have hx' := hx
  obtain ⟨rfl, rfl, rfl⟩ := hx'
  have hcc := hK.2.1
  have hwc := hK.2.2.1
  have hhd := hcl.1
  cases hb : bl wc a1 with
  | false =>
    refine ⟨1, S.1, ?_, fun n _ => ?_⟩
    · unfold fL_walk fX5_walk
      rw [zcl_ob hhd.1, zcl_ob hhd.1, c_noWay hhd hwc hb]
      rfl
    · obtain ⟨r, r1, r2, r3⟩ := zthr (j := 1) (f := fX6_walk (ad 11) a1 a2 a3) hx hK hin hcl hmo hrl hout (fun S0 hS0 => by
        obtain ⟨S1, s1, s2, s3⟩ := mw43 (a1 := a1) (a2 := a2) (a3 := a3) hS0 (j := 1) (by omega) (by omega)
        refine ⟨0, S1, ?_, s2, s3⟩
        unfold fX6_walk
        rw [hS0.cl, m_isWay hS0 hrl.2.2.1 hwc, Option.bind_some, hb, if_pos bI_f]
        exact s1) n
      exact ⟨r, r1, r2, fun hh => absurd hh (by decide), r3⟩
  | true =>
    obtain ⟨i, hi, rfl⟩ := bl_ex (by omega) hb
    have hwy := (hcl.2.2.2 i hi).1
    have hmw := (hrl.2.2.2.2 i hi).1
    by_cases hg : bl 65536 a2 = true ∧ decide (1 ≤ a3 ∧ a3 ≤ 200) = true
    · obtain ⟨s, hs, rfl⟩ := bl_ex (by omega) hg.1
      have h3 := of_decide_eq_true hg.2
      obtain ⟨L, hL0, rfl⟩ := ci_of (x := a3) (Int32.le_trans (by decide) h3.1)
      have hL : L ≤ 200 := (ci_le hL0 (by omega)).mp h3.2
      have hL1 : 1 ≤ L := (ci_le (a := 1) (by omega) hL0).mp h3.1
      obtain ⟨S1, f1, f2, f3⟩ := g_wander hwy hs hL
      obtain ⟨g1, kp⟩ := way_cl hcc hin hcl hi f3 f2
      obtain ⟨S2, e1, e2⟩ := zfin (f := fX6_walk (ad 11) (ci i) (ci s) (ci L)) (rv := ci (wlk p (WA i 0) (WA i 1) (WA i 2) L s (WA i 4) (WV i)).1) (val := Int32.toInt64 (ci (wlk p (WA i 0) (WA i 1) (WA i 2) L s (WA i 4) (WV i)).1)) hx hK hin g1 (way_mo hi hmo kp) ((kp 12 (Or.inr (Or.inr rfl)) (by omega) (by omega)).trans hout) (fun S0 hS0 => by
        obtain ⟨T1, s1, s2, s3⟩ := m_good hS0
        obtain ⟨T2, A2, t1, t2, t3, t4, t5⟩ := mwalk_loop (L := L) hL L s (WA i 4) (WV i) T1 A zF 0 (by rw [zF_eq]; omega) (Nat.le_refl _) hs s2 hmw
        rw [Nat.sub_self] at t1
        refine ⟨T2, _, A2, ?_, t2, rfl, way_rl hi hrl rfl rfl rfl t4 t3, s3.tr (t5.wk (fun _ => mQ_mP))⟩
        unfold fX6_walk fX6_walk_J43
        rw [hS0.cl, m_isWay hS0 hrl.2.2.1 hwc, Option.bind_some, hb, if_neg (show ¬ bI true = 0 by decide), in_state, Option.bind_some, hg.1, if_neg (show ¬ bI true = 0 by decide), in_steps, Option.bind_some, hg.2, if_neg (show ¬ bI true = 0 by decide)]
        rw [hS0.cl, s1, Option.bind_some, if_neg (show ¬ ((1 : Int32) = 0) by decide)]
        exact t1)
      refine ⟨0, S2.1, ?_, fun n _ => ?_⟩
      · unfold fL_walk fX5_walk
        rw [zcl_ob hhd.1, zcl_ob hhd.1, c_needWay hhd hwc hi]
        unfold zbT
        simp only []
        rw [if_neg (ci_nneg (by omega)), if_pos (show ci s < 65536 from (ci_lt (b := 65536) (by omega) (by omega)).mpr hs), if_neg (show ¬ ci L < 1 from fun hh => by have := (ci_lt (b := 1) hL0 (by omega)).mp hh; omega), if_pos h3.2]
        rw [zcl_ob hwy.wa, f1, Option.bind_some]
        show Option.bind (zsJ _ (ad 12) 0 _) _ = _
        rw [e1, Option.bind_some]
      · obtain ⟨r, r1, r2, r3, r4, r5⟩ := e2 n
        exact ⟨r, r1, r2, fun _ => by rw [r3, r4], r5⟩
    · refine ⟨2, S.1, ?_, fun n _ => ?_⟩
      · unfold fL_walk
        rw [zcl_ob hhd.1, c_walk_bad (by rw [zcl_ob hhd.1]; exact c_needWay hhd hwc hi) hg]
        rfl
      · obtain ⟨r, r1, r2, r3⟩ := zthr (j := 2) (f := fX6_walk (ad 11) (ci i) a2 a3) hx hK hin hcl hmo hrl hout (fun S0 hS0 => by
          obtain ⟨S1, s1, s2, s3⟩ := mw43 (a1 := ci i) (a2 := a2) (a3 := a3) hS0 (j := 2) (by omega) (by omega)
          refine ⟨0, S1, ?_, s2, s3⟩
          unfold fX6_walk fX6_walk_J42
          rw [hS0.cl, m_isWay hS0 hrl.2.2.1 hwc, Option.bind_some, hb, if_neg (show ¬ bI true = 0 by decide), in_state, Option.bind_some]
          cases h2 : bl 65536 a2 with
          | false => rw [if_pos bI_f]; exact s1
          | true =>
            rw [if_neg (show ¬ bI true = 0 by decide), in_steps, Option.bind_some]
            cases h3 : decide (1 ≤ a3 ∧ a3 ≤ 200) with
            | false => rw [if_pos bI_f]; exact s1
            | true => exact absurd ⟨h2, h3⟩ hg) n
        exact ⟨r, r1, r2, fun hh => absurd hh (by decide), r3⟩
/-- a call that answers nothing, or throws -/
theorem zvoid {x m out j : Nat} {S1 : ZS} {ad : Nat → Nat} {p cc wc : Nat} {CA CG WA WG : Nat → Nat → Nat} {WV : Nat → Nat → Nat → Nat → Nat} {X : Nat → Int32} {A : Nat → Nat → Int32} {fo : Nat → Int64} {f : ZS → Option ZS}
    (hx : x = ad 10 ∧ m = ad 11 ∧ out = ad 12) (hK : zK p cc wc) (hin : zInj ad cc wc) (hcl : zCl S1 ad p cc wc CA CG WA WG WV) (hmo : zMo S1 (ad 11) (mR ad) X A) (hout : zJA S1 (ad 12) 1 fo)
    (hm : ∀ S0, zMo S0 (ad 11) (mR ad) X A → ∃ S' X' A', f S0 = some S' ∧ zMo S' (ad 11) (mR ad) X' A' ∧ X' 0 = ci j ∧ zRl p cc wc CA CG WA WG WV X' A' ∧ zFrm S0 S' (mP (ad 11) (mR ad))) (n : Nat) :
    ∃ r, zcl ((S1.1, n) : ZS) m 6 (f (S1.1, n)) = some r ∧ zcl r m 6 (fX6_thrown m r) = some (ci j) ∧ zI x m out r := by
  obtain ⟨rfl, rfl, rfl⟩ := hx
  have hmo2 : zMo (S1.1, n) (ad 11) (mR ad) X A := hmo.kp (fun b hb => rfl)
  obtain ⟨S', X', A', f1, f2, f3, f4, f5⟩ := hm _ hmo2
  have kp3 : ∀ t, cT cc wc t ∨ t = 12 → S'.1 (ad t) = S1.1 (ad t) := fun t ht => f5.2 _ (fun hb => by
    obtain ⟨u, hu, hh⟩ := mP_mT hb
    have := hin t u (by rcases ht with ht | ht; exact Or.inl ht; exact Or.inr (Or.inr ht)) (Or.inr (Or.inl hu)) hh
    subst this
    rcases ht with ht | ht
    · exact mT_cT hK.2.1 hu ht
    · exact mT_12 hu ht)
  refine ⟨S', ?_, ?_, ad, p, cc, wc, CA, CG, WA, WG, WV, X', A', fo, ⟨rfl, rfl, rfl⟩, hK, hin, ?_, f2, f4, (kp3 12 (Or.inr rfl)).trans hout⟩
  · rw [hmo2.cl, f1]
  · rw [f2.cl]
    unfold fX6_thrown
    rw [zgI_ob f2.1 rfl, Option.bind_some, f3]
  · exact hcl.kp (fun t ht => kp3 t (Or.inl ht))
