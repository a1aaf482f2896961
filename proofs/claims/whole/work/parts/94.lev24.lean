/-! LAW CASE 24: levels -/
def lvM (k : Nat) : Nat → Int64
  | 0 => 1
  | i + 1 => lvM k i * Int32.toInt64 (ci k)
def lvN (sq : Nat) : Nat → Int64
  | 0 => 1
  | i + 1 => lvN sq i * (Int32.toInt64 (ci sq) * Int32.toInt64 (ci sq))
def lvA (k sq : Nat) (own : Int64) : Nat → Int64
  | 0 => 0
  | i + 1 => lvA k sq own i * Int32.toInt64 (ci k) + own * lvN sq i
theorem c_lvM {S : ZS} {w c n t p a b d sq k L : Nat} {g : Nat → Nat} {v : Nat → Nat → Nat → Nat} (h : zWy S w c n t p a b d sq k g v) (hL : L ≤ 6) : fX5_multiplicationsInLevels w (ci L) S = some (lvM k L) := by
  unfold fX5_multiplicationsInLevels
  refine ziter_seq (fun i => (lvM k i, ci (1 + i))) _ L zF (by rw [zF_eq]; omega) (fun i hi => ?_) ?_
  · unfold fX5_multiplicationsInLevels_B5
    simp only []
    rw [if_neg (by rw [ci_lt (by omega) (by omega)]; omega), zgI_ob h.wa rfl, Option.bind_some, show ci (1 + i) + (1 : Int32) = ci (1 + (i + 1)) by rw [cl_1, ci_add]; rfl]
    rfl
  · unfold fX5_multiplicationsInLevels_B5
    simp only []
    rw [if_pos (by rw [ci_lt (by omega) (by omega)]; omega), zex_some]
theorem c_lvA {S : ZS} {w c n t p a b d sq k L : Nat} {own : Int64} {g : Nat → Nat} {v : Nat → Nat → Nat → Nat} (h : zWy S w c n t p a b d sq k g v) (hL : L ≤ 6) : fX5_additionsInLevels w (ci L) own S = some (lvA k sq own L) := by
  unfold fX5_additionsInLevels
  rw [zgR_ob h.wa rfl, Option.bind_some, zgI_ob h.2.2.2.2.1.1 rfl, Option.bind_some, Option.bind_some, zgI_ob h.2.2.2.2.1.1 rfl, Option.bind_some]
  refine ziter_seq (fun i => (lvN sq i, lvA k sq own i, ci (1 + i))) _ L zF (by rw [zF_eq]; omega) (fun i hi => ?_) ?_
  · unfold fX5_additionsInLevels_B28
    simp only []
    rw [if_neg (by rw [ci_lt (by omega) (by omega)]; omega), zgI_ob h.wa rfl, Option.bind_some, show ci (1 + i) + (1 : Int32) = ci (1 + (i + 1)) by rw [cl_1, ci_add]; rfl]
    rfl
  · unfold fX5_additionsInLevels_B28
    simp only []
    rw [if_pos (by rw [ci_lt (by omega) (by omega)]; omega), zex_some]
theorem m_lv {S : ZS} {m w p a b d k L sq : Nat} {own : Int64} {ad : Bool} {R : Nat → Nat} {X : Nat → Int32} {A : Nat → Nat → Int32} {v : Nat → Nat → Nat → Nat} (h : zMo S m R X A) (y : mWy X A w p a b d k v) (h9 : A 9 w = ci sq) (hL : L ≤ 6) : ziter (fX6_levels_B74 m (ci w) (ci L) (bI ad) own S) zF ((1 : Int64), (0 : Int64), (1 : Int64), (0 : Int32)) = some (if ad = true then lvA k sq own L else lvM k L, S) := by
  have hw := y.1
  have r9 : zaI S (R 9) 0 (ci w) = some (ci sq) := by
    rw [h.rd A9i (by rw [N9]; omega), h9]
  refine ziter_seq (fun i => (lvM k i, lvA k sq own i, lvN sq i, ci i)) _ L zF (by rw [zF_eq]; omega) (fun i hi => ?_) ?_
  · unfold fX6_levels_B74
    simp only []
    rw [if_neg (by rw [ci_le (by omega) (by omega)]; omega), zgR_ob h.1 rfl, Option.bind_some, m_ct h y, Option.bind_some, Option.bind_some, m_ct h y, Option.bind_some, zgR_ob h.1 rfl, Option.bind_some, r9, Option.bind_some, Option.bind_some, r9, Option.bind_some, show ci i + (1 : Int32) = ci (i + 1) by rw [cl_1, ci_add]]
    rfl
  · unfold fX6_levels_B74 fX6_levels_J147
    simp only []
    rw [if_pos (by rw [ci_le (by omega) (by omega)]; omega)]
    cases ad with
    | false => rw [if_pos bI_f, zex_some]; rfl
    | true => rw [if_neg (show ¬ bI true = 0 by decide), zex_some]; rfl
theorem m_lvBad {S : ZS} {m j : Nat} {a1 a2 a3 : Int32} {R : Nat → Nat} {X : Nat → Int32} {A : Nat → Nat → Int32} (h : zMo S m R X A) (hj : j < 2147483648) (h0 : 0 < j) : ∃ S1, fX6_levels_J45 m a1 a2 a3 m (ci j) S = some ((0 : Int64), S1) ∧ zMo S1 m R (mX X 0 (ci j)) A ∧ zFrm S S1 (mP m R) := by
  obtain ⟨S1, h1, h2, h3⟩ := m_badP h hj h0
  refine ⟨S1, ?_, h2, h3⟩
  unfold fX6_levels_J45
  rw [h1, Option.bind_some, if_pos rfl]
theorem ok24b {x m out : Nat} {a1 a2 : Int32} {ad3 : Bool} {S : ZS} (h : zI x m out S) : ok_24 x m out a1 a2 (bI ad3) S (zI x m out) := by
  obtain ⟨ad, p, cc, wc, CA, CG, WA, WG, WV, X, A, fo, hx, hK, hin, hcl, hmo, hrl, hout⟩ := h
  have hx' := hx
  obtain ⟨rfl, rfl, rfl⟩ := hx'
  have hcc := hK.2.1
  have hwc := hK.2.2.1
  have hhd := hcl.1
  have htl := hcl.2.1
  have thr : ∀ (j : Nat) (nm : String), 0 < j → j < 100 → fX5_levels (ad 10) a1 a2 (bI ad3) S = some (.inr (nm, S.1)) → zcatchN nm S.1 1 ["java/lang/IndexOutOfBoundsException", "java/lang/IllegalArgumentException", "java/lang/IllegalStateException"] = some (ci j, S.1) → (∀ S0, zMo S0 (ad 11) (mR ad) X A → fX6_levels (ad 11) a1 a2 (bI ad3) S0 = fX6_levels_J45 (ad 11) a1 a2 (bI ad3) (ad 11) (ci j) S0) → ok_24 (ad 10) (ad 11) (ad 12) a1 a2 (bI ad3) S (zI (ad 10) (ad 11) (ad 12)) := by
    intro j nm hj0 hj h1 h2 h3
    refine ⟨ci j, S.1, ?_, fun n _ => ?_⟩
    · unfold fL_levels
      rw [zcl_ob hhd.1, h1]
      exact h2
    · obtain ⟨r, r1, r2, r3⟩ := zthr (j := j) (f := fX6_levels (ad 11) a1 a2 (bI ad3)) hx hK hin hcl hmo hrl hout (fun S0 hS0 => by
        obtain ⟨S1, s1, s2, s3⟩ := m_lvBad (a1 := a1) (a2 := a2) (a3 := bI ad3) hS0 (j := j) (by omega) hj0
        exact ⟨0, S1, by rw [h3 S0 hS0, s1], s2, s3⟩) n
      exact ⟨r, r1, r2, fun hh => absurd hh (by rw [cl_0, ci_eq (by omega) (by omega)]; omega), r3⟩
  cases hb : bl wc a1 with
  | false =>
    refine thr 1 "java/lang/IndexOutOfBoundsException" (by omega) (by omega) ?_ rfl (fun S0 hS0 => ?_)
    · unfold fX5_levels
      rw [zcl_ob hhd.1, c_noWay hhd hwc hb, zbT_r]
    · unfold fX6_levels
      rw [hS0.cl, m_isWay hS0 hrl.2.2.1 hwc, Option.bind_some, hb, if_pos bI_f]
      rfl
  | true =>
    obtain ⟨w, hw, rfl⟩ := bl_ex (by omega) hb
    have hwb := hcl.2.2.2 w hw
    have hwy := hwb.1
    have hmw := hrl.2.2.2.2 w hw
    have hcu := hwy.2.2.2.2.1
    have hsq := hwb.2.2
    have cN : zcl S (ad 10) 5 (fX5_needWay (ad 10) (ci w) S) = some (.inl (ad (200 + 4 * w), S)) := by rw [zcl_ob hhd.1]; exact c_needWay hhd hwc hw
    have r9 : ∀ S0, zMo S0 (ad 11) (mR ad) X A → zaI S0 (mR ad 9) 0 (ci w) = some (ci (msq (WA w 3))) := fun S0 hS0 => by
      rw [hS0.rd A9i (by rw [N9]; omega), hmw.2.2]
    have mN : ∀ S0, zMo S0 (ad 11) (mR ad) X A → fX6_levels (ad 11) (ci w) a2 (bI ad3) S0 = if bI (bl 7 a2) = 0 then fX6_levels_J45 (ad 11) (ci w) a2 (bI ad3) (ad 11) (2 : Int32) S0 else if ci (msq (WA w 3)) = 0 then fX6_levels_J45 (ad 11) (ci w) a2 (bI ad3) (ad 11) (3 : Int32) S0 else fX6_levels_J45 (ad 11) (ci w) a2 (bI ad3) (ad 11) (0 : Int32) S0 := fun S0 hS0 => by
      unfold fX6_levels
      rw [hS0.cl, m_isWay hS0 hrl.2.2.1 hwc, Option.bind_some, hb, if_neg (show ¬ bI true = 0 by decide), show (6 : Int32) = ci 7 - 1 from rfl, m_in (by omega), Option.bind_some, zgR_ob hS0.1 rfl, Option.bind_some, r9 S0 hS0, Option.bind_some]
    cases hq : bl 7 a2 with
    | false =>
      refine thr 2 "java/lang/IllegalArgumentException" (by omega) (by omega) ?_ rfl (fun S0 hS0 => by rw [mN S0 hS0, hq, if_pos bI_f]; rfl)
      unfold fX5_levels fX5_levels_J17
      rw [cN, zbT_l]
      by_cases h0 : a2 < 0
      · rw [if_pos h0]
      · rw [if_neg h0]
        obtain ⟨q, hq', rfl⟩ := ci_of (Int32.not_lt.mp h0)
        rw [bl_ci (by omega) hq', decide_eq_false_iff_not] at hq
        rw [if_neg (by rw [cl_6, ci_le hq' (by omega)]; omega)]
    | true =>
      obtain ⟨L, hL, rfl⟩ := bl_ex (by omega) hq
      by_cases hs2 : 2 ≤ WA w 3
      · have hms : msq (WA w 3) = WA w 3 := if_pos hs2
        have own : ∀ S0, zMo S0 (ad 11) (mR ad) X A → ∃ S' X' A', fX6_levels (ad 11) (ci w) (ci L) (bI ad3) S0 = some (if ad3 = true then lvA (WA w 4) (WA w 3) (Int32.toInt64 (ci (sm 3 (adS (WA w 0) (WA w 1) (WA w 2) (WA w 4) (WV w) false)))) L else lvM (WA w 4) L, S') ∧ zMo S' (ad 11) (mR ad) X' A' ∧ X' 0 = 0 ∧ zRl p cc wc CA CG WA WG WV X' A' ∧ zFrm S0 S' (mP (ad 11) (mR ad)) := fun S0 hS0 => by
          obtain ⟨T1, s1, s2, s3⟩ := m_good hS0
          have y1 : mWy (mX X 0 0) A w p (WA w 0) (WA w 1) (WA w 2) (WA w 4) (WV w) := hmw.1
          obtain ⟨T2, X2, A2, t1, t2, t3, t4⟩ := m_additions (sh := false) s2 y1
          refine ⟨T2, X2, A2, ?_, t2, (t3.1 0 (by omega) (by omega)).trans rfl, zRl.t6 (show zRl p cc wc CA CG WA WG WV (mX X 0 0) A from hrl) t3, s3.tr t4⟩
          rw [mN S0 hS0, hq, if_neg (show ¬ bI true = 0 by decide), hms, if_neg (by rw [cl_0, ci_eq (by omega) (by omega)]; omega)]
          unfold fX6_levels_J45
          rw [hS0.cl, s1, Option.bind_some, if_neg (show ¬ ((1 : Int32) = 0) by decide), s2.cl]
          show Option.bind (fX6_additions (ad 11) (ci w) (bI false) T1) _ = _
          rw [t1, Option.bind_some]
          exact m_lv t2 (y1.t6 t3) (by rw [t3.2 9 (by omega), hmw.2.2, hms]) (by omega)
        have cls : ∃ S1, fX5_levels (ad 10) (ci w) (ci L) (bI ad3) S = some (.inl (if ad3 = true then lvA (WA w 4) (WA w 3) (Int32.toInt64 (ci (sm 3 (adS (WA w 0) (WA w 1) (WA w 2) (WA w 4) (WV w) false)))) L else lvM (WA w 4) L, S1)) ∧ zCl S1 ad p cc wc CA CG WA WG WV ∧ ∀ t, live cc wc t → ¬ (2 ≤ t ∧ t ≤ 9) → S1.1 (ad t) = S.1 (ad t) := by
          have e0 : fX5_levels (ad 10) (ci w) (ci L) (bI ad3) S = (if bI ad3 = 0 then Option.bind (fX5_multiplicationsInLevels (ad (200 + 4 * w)) (ci L) S) fun x4 => fX5_levels_J76 x4 S else Option.bind (zcl S (ad 10) 5 (fX5_countAdditions (ad 10) (ad (200 + 4 * w)) (0 : Int32) S)) fun x5 => Option.bind (fX5_additionsInLevels (ad (200 + 4 * w)) (ci L) (Int32.toInt64 x5.1) x5.2) fun x6 => fX5_levels_J76 x6 x5.2) := by
            unfold fX5_levels
            rw [cN, zbT_l, if_neg (ci_nneg (by omega)), if_pos (by rw [cl_6, ci_le (by omega) (by omega)]; omega)]
            show Option.bind (zgR S (ad (200 + 4 * w)) 4 0) _ = _
            rw [zgR_ob hwy.wa rfl, Option.bind_some]
            show Option.bind (zgI S (ad (201 + 4 * w)) 0 4) _ = _
            rw [zgI_ob hcu.1 rfl, Option.bind_some, if_pos (by rw [cl_2, ci_le (by omega) (by omega)]; omega)]
          cases ad3 with
          | false =>
            refine ⟨S, ?_, hcl, fun _ _ _ => rfl⟩
            rw [e0, if_pos bI_f, c_lvM hwy (by omega), Option.bind_some]
            rfl
          | true =>
            obtain ⟨c6, ho6⟩ := htl.2.2.2.2.2.1
            obtain ⟨f7, hJ7⟩ := htl.2.2.2.2.2.2.1
            obtain ⟨S1, x1, F1, b1, b2, b3, b4, b5⟩ := c_additions (sh := false) hhd hwy ho6 hJ7
            refine ⟨S1, ?_, zCl.tl hcc hin hcl (b5.wk (fun b hb => hb.elim (fun e => ⟨4, by omega, e⟩) (fun e => ⟨9, by omega, e⟩))) (tl_sm hin htl b5 b2 b3)⟩
            rw [e0, if_neg (show ¬ bI true = 0 by decide), zcl_ob hhd.1]
            show Option.bind (fX5_countAdditions (ad 10) (ad (200 + 4 * w)) (bI false) S) _ = _
            rw [b1, Option.bind_some]
            show Option.bind (fX5_additionsInLevels (ad (200 + 4 * w)) (ci L) (Int32.toInt64 (ci (sm 3 (adS (WA w 0) (WA w 1) (WA w 2) (WA w 4) (WV w) false)))) S1) _ = _
            rw [c_lvA b4 (by omega), Option.bind_some]
            rfl
        obtain ⟨S1, c1, c2, c3⟩ := cls
        obtain ⟨S2, e1, e2⟩ := zfin (f := fX6_levels (ad 11) (ci w) (ci L) (bI ad3)) (rv := if ad3 = true then lvA (WA w 4) (WA w 3) (Int32.toInt64 (ci (sm 3 (adS (WA w 0) (WA w 1) (WA w 2) (WA w 4) (WV w) false)))) L else lvM (WA w 4) L) (val := if ad3 = true then lvA (WA w 4) (WA w 3) (Int32.toInt64 (ci (sm 3 (adS (WA w 0) (WA w 1) (WA w 2) (WA w 4) (WV w) false)))) L else lvM (WA w 4) L) hx hK hin c2 (tl_mo hmo c3) ((c3 12 (Or.inr (Or.inr rfl)) (by omega)).trans hout) own
        refine ⟨0, S2.1, ?_, fun n _ => ?_⟩
        · unfold fL_levels
          rw [zcl_ob hhd.1, c1]
          show Option.bind (zsJ _ (ad 12) 0 _) _ = _
          rw [e1, Option.bind_some]
        · obtain ⟨r, r1, r2, r3, r4, r5⟩ := e2 n
          exact ⟨r, r1, r2, fun _ => by rw [r3, r4], r5⟩
      · have hms : msq (WA w 3) = 0 := if_neg hs2
        refine thr 3 "java/lang/IllegalStateException" (by omega) (by omega) ?_ rfl (fun S0 hS0 => by rw [mN S0 hS0, hq, if_neg (show ¬ bI true = 0 by decide), hms, if_pos (show ci 0 = 0 from rfl)]; rfl)
        unfold fX5_levels
        rw [cN, zbT_l, if_neg (ci_nneg (by omega)), if_pos (by rw [cl_6, ci_le (by omega) (by omega)]; omega)]
        show Option.bind (zgR S (ad (200 + 4 * w)) 4 0) _ = _
        rw [zgR_ob hwy.wa rfl, Option.bind_some]
        show Option.bind (zgI S (ad (201 + 4 * w)) 0 4) _ = _
        rw [zgI_ob hcu.1 rfl, Option.bind_some, if_neg (by rw [cl_2, ci_le (by omega) (by omega)]; omega)]
theorem ok24 {x m out : Nat} {a1 a2 a3 : Int32} {S : ZS} (h : zI x m out S) : ok_24 x m out a1 a2 (if a3 = 0 then (0 : Int32) else 1) S (zI x m out) := by
  by_cases h0 : a3 = 0
  · rw [if_pos h0]; exact ok24b (ad3 := false) h
  · rw [if_neg h0]; exact ok24b (ad3 := true) h
