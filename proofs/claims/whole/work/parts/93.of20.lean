/-! LAW CASE 20: ofWay, whole -/
/-- the lent rooms alone have changed -/
theorem zCl.tl {S S1 : ZS} {ad : Nat → Nat} {p cc wc : Nat} {CA CG WA WG : Nat → Nat → Nat} {WV : Nat → Nat → Nat → Nat → Nat} (hcc : cc ≤ 16) (hin : zInj ad cc wc) (hcl : zCl S ad p cc wc CA CG WA WG WV) (hf : zFrm S S1 (fun b => ∃ t, (2 ≤ t ∧ t ≤ 9) ∧ b = ad t)) (ht : zTl S1 ad) : zCl S1 ad p cc wc CA CG WA WG WV ∧ ∀ t, live cc wc t → ¬ (2 ≤ t ∧ t ≤ 9) → S1.1 (ad t) = S.1 (ad t) := by
  have kp : ∀ t, live cc wc t → ¬ (2 ≤ t ∧ t ≤ 9) → S1.1 (ad t) = S.1 (ad t) := fun t hl hn => hf.2 _ (fun ⟨u, hu, hh⟩ => hn (by
    have := hin t u hl (Or.inl (Or.inl (by omega))) hh
    omega))
  obtain ⟨⟨a1, a2, a3⟩, b1, c1, d1⟩ := hcl
  refine ⟨⟨⟨(kp 10 (Or.inl (Or.inl (by omega))) (by omega)).trans a1, (kp 0 (Or.inl (Or.inl (by omega))) (by omega)).trans a2, (kp 1 (Or.inl (Or.inl (by omega))) (by omega)).trans a3⟩, ht, fun j hj => (c1 j hj).kp (kp _ (Or.inl (Or.inr (Or.inl (by omega)))) (by omega)) (kp _ (Or.inl (Or.inr (Or.inl (by omega)))) (by omega)), fun j hj => (d1 j hj).kp (fun l hl => kp _ (Or.inl (Or.inr (Or.inr (by omega)))) (by omega))⟩, kp⟩
theorem tl_mo {S S1 : ZS} {ad : Nat → Nat} {cc wc : Nat} {X : Nat → Int32} {A : Nat → Nat → Int32} (h : zMo S (ad 11) (mR ad) X A) (kp : ∀ t, live cc wc t → ¬ (2 ≤ t ∧ t ≤ 9) → S1.1 (ad t) = S.1 (ad t)) : zMo S1 (ad 11) (mR ad) X A := h.kp (fun b hb => by
  obtain ⟨t, ht, rfl⟩ := mP_mT hb
  exact kp t (Or.inr (Or.inl ht)) (by unfold mT isA at ht; omega))
theorem ad_ne {ad : Nat → Nat} {cc wc t u : Nat} (hin : zInj ad cc wc) (ht : t ≤ 12) (hu : u ≤ 12) (h : t ≠ u) : ad t ≠ ad u := fun hh => h (hin t u (by
  by_cases h1 : t ≤ 10
  · exact Or.inl (Or.inl h1)
  · by_cases h2 : t = 11
    · exact Or.inr (Or.inl (Or.inl h2))
    · exact Or.inr (Or.inr (by omega))) (by
  by_cases h1 : u ≤ 10
  · exact Or.inl (Or.inl h1)
  · by_cases h2 : u = 11
    · exact Or.inr (Or.inl (Or.inl h2))
    · exact Or.inr (Or.inr (by omega))) hh)
theorem tl_sm {S S1 : ZS} {ad : Nat → Nat} {cc wc : Nat} {x : Int32} {F : Nat → Int64} (hin : zInj ad cc wc) (h : zTl S ad) (hf : zFrm S S1 (pSm (ad 4) (ad 9))) (h1 : zOb S1 (ad 4) 3 [.ref (ad 9), .int x]) (h2 : zJA S1 (ad 9) 120 F) : zTl S1 ad := by
  have kp : ∀ t, t ≤ 9 → t ≠ 4 → t ≠ 9 → S1.1 (ad t) = S.1 (ad t) := fun t ht n4 n9 => hf.2 _ (fun hh => hh.elim (ad_ne hin (by omega) (by omega) n4) (ad_ne hin (by omega) (by omega) n9))
  obtain ⟨⟨r, q, a1⟩, ⟨f2, a2⟩, ⟨c, a3⟩, ⟨f4, a4⟩, ⟨f5, a5⟩, ⟨c6, a6⟩, ⟨f7, a7⟩, f8, a8⟩ := h
  exact ⟨⟨r, q, (kp 2 (by omega) (by omega) (by omega)).trans a1⟩, ⟨f2, (kp 6 (by omega) (by omega) (by omega)).trans a2⟩, ⟨c, (kp 3 (by omega) (by omega) (by omega)).trans a3⟩, ⟨f4, (kp 7 (by omega) (by omega) (by omega)).trans a4⟩, ⟨f5, (kp 8 (by omega) (by omega) (by omega)).trans a5⟩, ⟨x, h1⟩, ⟨F, h2⟩, f8, (kp 5 (by omega) (by omega) (by omega)).trans a8⟩
theorem tl_en {S S1 : ZS} {ad : Nat → Nat} {cc wc : Nat} {F : Nat → Int32} (hin : zInj ad cc wc) (h : zTl S ad) (hf : zFrm S S1 (fun b => b = ad 5)) (h1 : zIA S1 (ad 5) 64 F) : zTl S1 ad := by
  have kp : ∀ t, t ≤ 9 → t ≠ 5 → S1.1 (ad t) = S.1 (ad t) := fun t ht n5 => hf.2 _ (ad_ne hin (by omega) (by omega) n5)
  obtain ⟨⟨r, q, a1⟩, ⟨f2, a2⟩, ⟨c, a3⟩, ⟨f4, a4⟩, ⟨f5, a5⟩, ⟨c6, a6⟩, ⟨f7, a7⟩, f8, a8⟩ := h
  exact ⟨⟨r, q, (kp 2 (by omega) (by omega)).trans a1⟩, ⟨f2, (kp 6 (by omega) (by omega)).trans a2⟩, ⟨c, (kp 3 (by omega) (by omega)).trans a3⟩, ⟨f4, (kp 7 (by omega) (by omega)).trans a4⟩, ⟨f5, (kp 8 (by omega) (by omega)).trans a5⟩, ⟨c6, (kp 4 (by omega) (by omega)).trans a6⟩, ⟨f7, (kp 9 (by omega) (by omega)).trans a7⟩, F, h1⟩
/-- what ofWay answers -/
def ofV (p a b d k : Nat) (g : Nat → Nat) (v : Nat → Nat → Nat → Nat) (q : Nat) : Nat := if q = 0 then k else if q = 1 then wrF p (enF a b d v k) g 64 else if q = 2 then sm 3 (adS a b d k v false) else if q = 3 then sm 3 (adS a b d k v true) else mxF v a b k d
theorem c_ofWay {S : ZS} {ad : Nat → Nat} {p cc wc w q : Nat} {CA CG WA WG : Nat → Nat → Nat} {WV : Nat → Nat → Nat → Nat → Nat} (hcc : cc ≤ 16) (hwc : wc ≤ 16) (hin : zInj ad cc wc) (hcl : zCl S ad p cc wc CA CG WA WG WV) (hw : w < wc) (hq : q < 5) : ∃ S1, fX5_ofWay (ad 10) (ci w) (ci q) S = some (.inl (ci (ofV p (WA w 0) (WA w 1) (WA w 2) (WA w 4) (WG w) (WV w) q), S1)) ∧ zCl S1 ad p cc wc CA CG WA WG WV ∧ ∀ t, live cc wc t → ¬ (2 ≤ t ∧ t ≤ 9) → S1.1 (ad t) = S.1 (ad t) := by
  have hhd := hcl.1
  have htl := hcl.2.1
  have hwb := hcl.2.2.2 w hw
  have hwy := hwb.1
  have cN : zcl S (ad 10) 5 (fX5_needWay (ad 10) (ci w) S) = some (.inl (ad (200 + 4 * w), S)) := by rw [zcl_ob hhd.1]; exact c_needWay hhd hwc hw
  have hd : ∀ o, (zsw (ci q) 0 [Option.bind (zgI S (ad (200 + 4 * w)) 4 3) fun v2 => some (.inl (v2, S)), Option.bind (zgR S (ad 10) 5 5) fun v3 => Option.bind (zcl S (ad (200 + 4 * w)) 4 (fX4_countWrongPlaces (ad (200 + 4 * w)) v3 S)) fun x4 => some (.inl (x4.1, x4.2)), Option.bind (zcl S (ad 10) 5 (fX5_countAdditions (ad 10) (ad (200 + 4 * w)) (0 : Int32) S)) fun x5 => some (.inl (x5.1, x5.2)), Option.bind (zcl S (ad 10) 5 (fX5_countAdditions (ad 10) (ad (200 + 4 * w)) (1 : Int32) S)) fun x6 => some (.inl (x6.1, x6.2))] (Option.bind (zcl S (ad (200 + 4 * w)) 4 (fX4_greatestGrowth (ad (200 + 4 * w)) S)) fun x7 => some (.inl (x7, S))) : Option ((Int32 × ZS) ⊕ ZX)) = o → fX5_ofWay (ad 10) (ci w) (ci q) S = o := fun o ho => by
    rw [← ho]
    unfold fX5_ofWay
    rw [cN, zbT_l, if_neg (ci_nneg (by omega)), if_pos (by rw [cl_4, ci_le (by omega) (by omega)]; omega)]
  have kk0 : zCl S ad p cc wc CA CG WA WG WV ∧ ∀ t, live cc wc t → ¬ (2 ≤ t ∧ t ≤ 9) → S.1 (ad t) = S.1 (ad t) := ⟨hcl, fun _ _ _ => rfl⟩
  have hsumOb : ∃ c, zOb S (ad 4) 3 [.ref (ad 9), .int c] := htl.2.2.2.2.2.1
  have hsumJ : ∃ f, zJA S (ad 9) 120 f := htl.2.2.2.2.2.2.1
  have hen : ∃ f, zIA S (ad 5) 64 f := htl.2.2.2.2.2.2.2
  obtain ⟨c6, ho6⟩ := hsumOb
  obtain ⟨f7, hJ7⟩ := hsumJ
  obtain ⟨f8, hI8⟩ := hen
  have hsh : ∀ sh : Bool, ∃ S1, fX5_countAdditions (ad 10) (ad (200 + 4 * w)) (bI sh) S = some (ci (sm 3 (adS (WA w 0) (WA w 1) (WA w 2) (WA w 4) (WV w) sh)), S1) ∧ zCl S1 ad p cc wc CA CG WA WG WV ∧ ∀ t, live cc wc t → ¬ (2 ≤ t ∧ t ≤ 9) → S1.1 (ad t) = S.1 (ad t) := fun sh => by
    obtain ⟨S1, x1, F1, a1, a2, a3, a4, a5⟩ := c_additions (sh := sh) hhd hwy ho6 hJ7
    exact ⟨S1, a1, zCl.tl hcc hin hcl (a5.wk (fun b hb => hb.elim (fun e => ⟨4, by omega, e⟩) (fun e => ⟨9, by omega, e⟩))) (tl_sm hin htl a5 a2 a3)⟩
  have h5 : q = 0 ∨ q = 1 ∨ q = 2 ∨ q = 3 ∨ q = 4 := by omega
  rcases h5 with rfl | rfl | rfl | rfl | rfl
  · refine ⟨S, hd _ ?_, kk0⟩
    show Option.bind (zgI S (ad (200 + 4 * w)) 4 3) _ = _
    rw [zgI_ob hwy.wa rfl, Option.bind_some]
    rfl
  · have l0 : live cc wc 5 := Or.inl (Or.inl (by omega))
    have l1 : live cc wc (202 + 4 * w) := Or.inl (Or.inr (Or.inr (by omega)))
    obtain ⟨S1, a1, a2, a3, F', a4⟩ := c_wrong hwy hI8 (fun hh => by have := hin _ _ l0 l1 hh; omega) hwb.2.1
    refine ⟨S1, hd _ ?_, zCl.tl hcc hin hcl (a3.wk (fun b hb => ⟨5, by omega, hb⟩)) (tl_en hin htl a3 a4)⟩
    show Option.bind (zgR S (ad 10) 5 5) _ = _
    rw [zgR_ob hhd.1 rfl, Option.bind_some, zcl_ob hwy.wa, a1, Option.bind_some]
    rfl
  · obtain ⟨S1, a1, a2⟩ := hsh false
    refine ⟨S1, hd _ ?_, a2⟩
    show Option.bind (zcl S (ad 10) 5 (fX5_countAdditions (ad 10) (ad (200 + 4 * w)) (bI false) S)) _ = _
    rw [zcl_ob hhd.1, a1, Option.bind_some]
    rfl
  · obtain ⟨S1, a1, a2⟩ := hsh true
    refine ⟨S1, hd _ ?_, a2⟩
    show Option.bind (zcl S (ad 10) 5 (fX5_countAdditions (ad 10) (ad (200 + 4 * w)) (bI true) S)) _ = _
    rw [zcl_ob hhd.1, a1, Option.bind_some]
    rfl
  · refine ⟨S, hd _ ?_, kk0⟩
    show Option.bind (zcl S (ad (200 + 4 * w)) 4 (fX4_greatestGrowth (ad (200 + 4 * w)) S)) _ = _
    rw [zcl_ob hwy.wa, c_growth hwy, Option.bind_some]
    rfl
theorem m_ofBad {S : ZS} {m j : Nat} {a1 a2 : Int32} {R : Nat → Nat} {X : Nat → Int32} {A : Nat → Nat → Int32} (h : zMo S m R X A) (hj : j < 2147483648) (h0 : 0 < j) : ∃ S1, fX6_ofWay_J29 m a1 a2 m (ci j) S = some ((0 : Int32), S1) ∧ zMo S1 m R (mX X 0 (ci j)) A ∧ zFrm S S1 (mP m R) := by
  obtain ⟨S1, h1, h2, h3⟩ := m_badP h hj h0
  refine ⟨S1, ?_, h2, h3⟩
  unfold fX6_ofWay_J29
  rw [h1, Option.bind_some, if_pos rfl]
theorem m_ofWay {S : ZS} {m w p a b d k q : Nat} {R : Nat → Nat} {X : Nat → Int32} {A : Nat → Nat → Int32} {g : Nat → Nat} {v : Nat → Nat → Nat → Nat} (h : zMo S m R X A) (y : mWy X A w p a b d k v) (hg : mWg A w g) (hok : cOK p a b d g) (hq : q < 5) : ∃ S1 X1 A1, fX6_ofWay_J29 m (ci w) (ci q) m (0 : Int32) S = some (ci (ofV p a b d k g v q), S1) ∧ zMo S1 m R X1 A1 ∧ mT6 (mX X 0 0) X1 A A1 ∧ zFrm S S1 (mP m R) := by
  obtain ⟨T1, s1, s2, s3⟩ := m_good h
  have y1 : mWy (mX X 0 0) A w p a b d k v := y
  have e0 : fX6_ofWay_J29 m (ci w) (ci q) m (0 : Int32) S = (if ci q = 0 then Option.bind (zgR T1 m 6 10) fun v3 => Option.bind (zaI T1 v3 0 (ci w)) fun v4 => fX6_ofWay_J91 v4 T1 else if ci q = (1 : Int32) then Option.bind (zcl T1 m 6 (fX6_wrong m (ci w) T1)) fun x5 => fX6_ofWay_J91 x5 T1 else if ci q = (4 : Int32) then Option.bind (zcl T1 m 6 (fX6_growth m (ci w) T1)) fun x6 => fX6_ofWay_J91 x6 T1 else if ci q = (3 : Int32) then fX6_ofWay_J88 m (ci w) (1 : Int32) T1 else fX6_ofWay_J88 m (ci w) (0 : Int32) T1) := by
    unfold fX6_ofWay_J29
    rw [h.cl, s1, Option.bind_some, if_neg (show ¬ ((1 : Int32) = 0) by decide)]
  have hsh : ∀ sh : Bool, ∃ S1 X1 A1, fX6_ofWay_J88 m (ci w) (bI sh) T1 = some (ci (sm 3 (adS a b d k v sh)), S1) ∧ zMo S1 m R X1 A1 ∧ mT6 (mX X 0 0) X1 A A1 ∧ zFrm S S1 (mP m R) := fun sh => by
    obtain ⟨S1, X1, A1, a1, a2, a3, a4⟩ := m_additions (sh := sh) s2 y1
    refine ⟨S1, X1, A1, ?_, a2, a3, s3.tr a4⟩
    unfold fX6_ofWay_J88 fX6_ofWay_J91
    rw [s2.cl, a1, Option.bind_some]
  have h5 : q = 0 ∨ q = 1 ∨ q = 2 ∨ q = 3 ∨ q = 4 := by omega
  rcases h5 with rfl | rfl | rfl | rfl | rfl
  · refine ⟨T1, _, A, ?_, s2, mT6.rf, s3⟩
    rw [e0, if_pos (show ci 0 = 0 from rfl), zgR_ob s2.1 rfl, Option.bind_some, m_ct s2 y1, Option.bind_some]
    rfl
  · refine ⟨T1, _, A, ?_, s2, mT6.rf, s3⟩
    rw [e0, if_neg (show ¬ ci 1 = 0 by decide), if_pos (show ci 1 = 1 from rfl), s2.cl, m_wrong s2 y1 hg hok, Option.bind_some]
    rfl
  · obtain ⟨S1, X1, A1, a1, a2⟩ := hsh false
    refine ⟨S1, X1, A1, ?_, a2⟩
    rw [e0, if_neg (show ¬ ci 2 = 0 by decide), if_neg (show ¬ ci 2 = 1 by decide), if_neg (show ¬ ci 2 = 4 by decide), if_neg (show ¬ ci 2 = 3 by decide)]
    exact a1
  · obtain ⟨S1, X1, A1, a1, a2⟩ := hsh true
    refine ⟨S1, X1, A1, ?_, a2⟩
    rw [e0, if_neg (show ¬ ci 3 = 0 by decide), if_neg (show ¬ ci 3 = 1 by decide), if_neg (show ¬ ci 3 = 4 by decide), if_pos (show ci 3 = 3 from rfl)]
    exact a1
  · refine ⟨T1, _, A, ?_, s2, mT6.rf, s3⟩
    rw [e0, if_neg (show ¬ ci 4 = 0 by decide), if_neg (show ¬ ci 4 = 1 by decide), if_pos (show ci 4 = 4 from rfl), s2.cl, m_growth s2 y1, Option.bind_some]
    rfl
theorem ok20 {x m out : Nat} {a1 a2 : Int32} {S : ZS} (h : zI x m out S) : ok_20 x m out a1 a2 S (zI x m out) := by
  obtain ⟨ad, p, cc, wc, CA, CG, WA, WG, WV, X, A, fo, hx, hK, hin, hcl, hmo, hrl, hout⟩ := h
  have hx' := hx
  obtain ⟨rfl, rfl, rfl⟩ := hx'
  have hcc := hK.2.1
  have hwc := hK.2.2.1
  have hhd := hcl.1
  have thr : ∀ (j : Nat) (nm : String), 0 < j → j < 100 → fX5_ofWay (ad 10) a1 a2 S = some (.inr (nm, S.1)) → zcatchN nm S.1 1 ["java/lang/IndexOutOfBoundsException", "java/lang/IllegalArgumentException"] = some (ci j, S.1) → (∀ S0, zMo S0 (ad 11) (mR ad) X A → fX6_ofWay (ad 11) a1 a2 S0 = fX6_ofWay_J29 (ad 11) a1 a2 (ad 11) (ci j) S0) → ok_20 (ad 10) (ad 11) (ad 12) a1 a2 S (zI (ad 10) (ad 11) (ad 12)) := by
    intro j nm hj0 hj h1 h2 h3
    refine ⟨ci j, S.1, ?_, fun n _ => ?_⟩
    · unfold fL_ofWay
      rw [zcl_ob hhd.1, h1]
      exact h2
    · obtain ⟨r, r1, r2, r3⟩ := zthr (j := j) (f := fX6_ofWay (ad 11) a1 a2) hx hK hin hcl hmo hrl hout (fun S0 hS0 => by
        obtain ⟨S1, s1, s2, s3⟩ := m_ofBad (a1 := a1) (a2 := a2) hS0 (j := j) (by omega) hj0
        exact ⟨0, S1, by rw [h3 S0 hS0, s1], s2, s3⟩) n
      exact ⟨r, r1, r2, fun hh => absurd hh (by rw [cl_0, ci_eq (by omega) (by omega)]; omega), r3⟩
  cases hb : bl wc a1 with
  | false =>
    refine thr 1 "java/lang/IndexOutOfBoundsException" (by omega) (by omega) ?_ rfl (fun S0 hS0 => ?_)
    · unfold fX5_ofWay
      rw [zcl_ob hhd.1, c_noWay hhd hwc hb, zbT_r]
    · unfold fX6_ofWay
      rw [hS0.cl, m_isWay hS0 hrl.2.2.1 hwc, Option.bind_some, hb, if_pos bI_f]
      rfl
  | true =>
    obtain ⟨w, hw, rfl⟩ := bl_ex (by omega) hb
    have hwb := hcl.2.2.2 w hw
    have hmw := hrl.2.2.2.2 w hw
    have cN : zcl S (ad 10) 5 (fX5_needWay (ad 10) (ci w) S) = some (.inl (ad (200 + 4 * w), S)) := by rw [zcl_ob hhd.1]; exact c_needWay hhd hwc hw
    have mN : ∀ S0, zMo S0 (ad 11) (mR ad) X A → fX6_ofWay (ad 11) (ci w) a2 S0 = if bI (bl 5 a2) = 0 then fX6_ofWay_J29 (ad 11) (ci w) a2 (ad 11) (2 : Int32) S0 else fX6_ofWay_J29 (ad 11) (ci w) a2 (ad 11) (0 : Int32) S0 := fun S0 hS0 => by
      unfold fX6_ofWay
      rw [hS0.cl, m_isWay hS0 hrl.2.2.1 hwc, Option.bind_some, hb, if_neg (show ¬ bI true = 0 by decide), show (4 : Int32) = ci 5 - 1 from rfl, m_in (by omega), Option.bind_some]
    cases hq : bl 5 a2 with
    | false =>
      refine thr 2 "java/lang/IllegalArgumentException" (by omega) (by omega) ?_ rfl (fun S0 hS0 => by rw [mN S0 hS0, hq, if_pos bI_f]; rfl)
      unfold fX5_ofWay fX5_ofWay_J15
      rw [cN, zbT_l]
      by_cases h0 : a2 < 0
      · rw [if_pos h0]
      · rw [if_neg h0]
        obtain ⟨q, hq', rfl⟩ := ci_of (Int32.not_lt.mp h0)
        rw [bl_ci (by omega) hq', decide_eq_false_iff_not] at hq
        rw [if_neg (by rw [cl_4, ci_le hq' (by omega)]; omega)]
    | true =>
      obtain ⟨q, hq', rfl⟩ := bl_ex (by omega) hq
      obtain ⟨S1, c1, c2, c3⟩ := c_ofWay hcc hwc hin hcl hw hq'
      obtain ⟨S2, e1, e2⟩ := zfin (f := fX6_ofWay (ad 11) (ci w) (ci q)) (rv := ci (ofV p (WA w 0) (WA w 1) (WA w 2) (WA w 4) (WG w) (WV w) q)) (val := Int32.toInt64 (ci (ofV p (WA w 0) (WA w 1) (WA w 2) (WA w 4) (WG w) (WV w) q))) hx hK hin c2 (tl_mo hmo c3) ((c3 12 (Or.inr (Or.inr rfl)) (by omega)).trans hout) (fun S0 hS0 => by
        obtain ⟨T1, X1, A1, t1, t2, t3, t4⟩ := m_ofWay hS0 hmw.1 hmw.2.1 hwb.2.1 hq'
        refine ⟨T1, X1, A1, ?_, t2, (t3.1 0 (by omega) (by omega)).trans rfl, zRl.t6 (show zRl p cc wc CA CG WA WG WV (mX X 0 0) A from hrl) t3, t4⟩
        rw [mN S0 hS0, hq, if_neg (show ¬ bI true = 0 by decide), t1])
      refine ⟨0, S2.1, ?_, fun n _ => ?_⟩
      · unfold fL_ofWay
        rw [zcl_ob hhd.1, c1]
        show Option.bind (zsJ _ (ad 12) 0 _) _ = _
        rw [e1, Option.bind_some]
      · obtain ⟨r, r1, r2, r3, r4, r5⟩ := e2 n
        exact ⟨r, r1, r2, fun _ => by rw [r3, r4], r5⟩
