/-! LAW CASES 16, 17: whole -/
theorem zRl.sc {p cc wc : Nat} {CA CG WA WG : Nat → Nat → Nat} {WV : Nat → Nat → Nat → Nat → Nat} {X X' : Nat → Int32} {A A' : Nat → Nat → Int32} (h : zRl p cc wc CA CG WA WG WV X A) (h1 : X' 1 = X 1) (h2 : X' 2 = X 2) (h6 : X' 6 = X 6) (t : ∀ j, j ≤ 11 → A' j = A j) : zRl p cc wc CA CG WA WG WV X' A' := by
  obtain ⟨a1, a2, a3, a4, a5⟩ := h
  refine ⟨h1.trans a1, h2.trans a2, h6.trans a3, fun j hj => ?_, fun j hj => ?_⟩
  · obtain ⟨b1, b2, b3⟩ := a4 j hj
    exact ⟨fun s hs => by rw [t 3 (by omega)]; exact b1 s hs, fun x hx => by rw [t 4 (by omega)]; exact b2 x hx, by rw [t 5 (by omega)]; exact b3⟩
  · obtain ⟨⟨c1, c2, c3, c4, c5, c6, c7, c8, c9⟩, b2, b3⟩ := a5 j hj
    exact ⟨⟨c1, c2, c3, c4, h1.trans a1, fun s hs => by rw [t 7 (by omega)]; exact c6 s hs, by rw [t 10 (by omega)]; exact c7, c8, fun q hq s hs j' hj' => by rw [t 11 (by omega)]; exact c9 q hq s hs j' hj'⟩, fun x hx => by rw [t 8 (by omega)]; exact b2 x hx, by rw [t 9 (by omega)]; exact b3⟩
theorem tl_fl {S S1 : ZS} {ad : Nat → Nat} {cc wc : Nat} {x y : Int32} {F : Nat → Int32} (hin : zInj ad cc wc) (h : zTl S ad) (hf : zFrm S S1 (pFt (ad 2) (ad 6))) (h1 : zOb S1 (ad 2) 1 [.ref (ad 6), .int x, .int y]) (h2 : zIA S1 (ad 6) 64 F) : zTl S1 ad := by
  have kp : ∀ t, t ≤ 9 → t ≠ 2 → t ≠ 6 → S1.1 (ad t) = S.1 (ad t) := fun t ht n4 n9 => hf.2 _ (fun hh => hh.elim (ad_ne hin (by omega) (by omega) n4) (ad_ne hin (by omega) (by omega) n9))
  obtain ⟨⟨r, q, a1⟩, ⟨f2, a2⟩, ⟨c, a3⟩, ⟨f4, a4⟩, ⟨f5, a5⟩, ⟨c6, a6⟩, ⟨f7, a7⟩, f8, a8⟩ := h
  exact ⟨⟨x, y, h1⟩, ⟨F, h2⟩, ⟨c, (kp 3 (by omega) (by omega) (by omega)).trans a3⟩, ⟨f4, (kp 7 (by omega) (by omega) (by omega)).trans a4⟩, ⟨f5, (kp 8 (by omega) (by omega) (by omega)).trans a5⟩, ⟨c6, (kp 4 (by omega) (by omega) (by omega)).trans a6⟩, ⟨f7, (kp 9 (by omega) (by omega) (by omega)).trans a7⟩, f8, (kp 5 (by omega) (by omega) (by omega)).trans a8⟩
/-- what the class's lent rooms may change -/
def kpL (S S1 : ZS) (ad : Nat → Nat) (p cc wc : Nat) (CA CG WA WG : Nat → Nat → Nat) (WV : Nat → Nat → Nat → Nat → Nat) : Prop := zCl S1 ad p cc wc CA CG WA WG WV ∧ ∀ t, live cc wc t → ¬ (2 ≤ t ∧ t ≤ 9) → S1.1 (ad t) = S.1 (ad t)
theorem kpL.tr {S S1 S2 : ZS} {ad : Nat → Nat} {p cc wc : Nat} {CA CG WA WG : Nat → Nat → Nat} {WV : Nat → Nat → Nat → Nat → Nat} (h1 : kpL S S1 ad p cc wc CA CG WA WG WV) (h2 : kpL S1 S2 ad p cc wc CA CG WA WG WV) : kpL S S2 ad p cc wc CA CG WA WG WV := ⟨h2.1, fun t a b => (h2.2 t a b).trans (h1.2 t a b)⟩
theorem c_rk {S : ZS} {ad : Nat → Nat} {p cc wc i s : Nat} {CA CG WA WG : Nat → Nat → Nat} {WV : Nat → Nat → Nat → Nat → Nat} (hcc : cc ≤ 16) (hp : isP p) (hin : zInj ad cc wc) (hcl : zCl S ad p cc wc CA CG WA WG WV) (hi : i < cc) (hs : s < 3) : ∃ S1, zcl S (ad 2) 1 (fX1_rankOf (ad 2) (ad (100 + 2 * i)) (ci s) (ci p) S) = some (ci (rkF p (CA i 0) (CA i 1) (CA i 2) (CG i) s), S1) ∧ kpL S S1 ad p cc wc CA CG WA WG WV := by
  have htl := hcl.2.1
  obtain ⟨⟨r, q, a1⟩, ⟨f2, a2⟩, _⟩ := id htl
  have hcb := hcl.2.2.1 i hi
  have l0 : live cc wc 6 := Or.inl (Or.inl (by omega))
  have l1 : live cc wc (101 + 2 * i) := Or.inl (Or.inr (Or.inl (by omega)))
  obtain ⟨S1, y1, y2, F', b1, b2, b3, b4⟩ := c_rankOf a1 a2 hcb.1 (fun hh => by have := hin _ _ l1 l0 hh; omega) hs hcb.2.1 hp hcb.2.2.1
  exact ⟨S1, by rw [zcl_ob a1, b1], zCl.tl hcc hin hcl (b4.wk (fun b hb => hb.elim (fun e => ⟨2, by omega, e⟩) (fun e => ⟨6, by omega, e⟩))) (tl_fl hin htl b4 b2 b3)⟩
def bdS (p a b d : Nat) (g : Nat → Nat) (t s : Nat) : Nat := if t < rkF p a b d g s then rkF p a b d g s else t
def bdF (p a b d : Nat) (g : Nat → Nat) : Nat := bdS p a b d g (bdS p a b d g (bdS p a b d g 0 0) 1) 2
theorem rkF_le {p a b d s : Nat} {g : Nat → Nat} (hz : szOK a b d) : rkF p a b d g s ≤ 4 := by
  have := rkM_le (p := p) (R := sz3 a b d s) (M := fun i k => g (px s i k)) 16
  have := sz3_b hz (s := s)
  unfold rkF
  omega
theorem bdS_le {p a b d t s : Nat} {g : Nat → Nat} (hz : szOK a b d) (ht : t ≤ 4) : bdS p a b d g t s ≤ 4 := by
  have := rkF_le (p := p) (s := s) (g := g) hz
  unfold bdS
  split <;> omega
theorem c_bd {S : ZS} {ad : Nat → Nat} {p cc wc i : Nat} {CA CG WA WG : Nat → Nat → Nat} {WV : Nat → Nat → Nat → Nat → Nat} (hcc : cc ≤ 16) (hp : isP p) (hin : zInj ad cc wc) (hcl : zCl S ad p cc wc CA CG WA WG WV) (hi : i < cc) : ∃ S1, fX5_greatestRank (ad 10) (ad (100 + 2 * i)) S = some (ci (bdF p (CA i 0) (CA i 1) (CA i 2) (CG i)), S1) ∧ kpL S S1 ad p cc wc CA CG WA WG WV := by
  have hz := (hcl.2.2.1 i hi).2.1
  have st : ∀ (S : ZS) (t s : Nat), zCl S ad p cc wc CA CG WA WG WV → s < 3 → t ≤ 4 → ∃ S1, fX5_greatestRank_B4 (ad 10) (ad (100 + 2 * i)) (ci t, ci s, S) = some (.inl (ci (bdS p (CA i 0) (CA i 1) (CA i 2) (CG i) t s), ci (s + 1), S1)) ∧ kpL S S1 ad p cc wc CA CG WA WG WV := by
    intro S t s hcl hs ht
    obtain ⟨S1, a1, a2⟩ := c_rk hcc hp hin hcl hi hs
    have hr := rkF_le (p := p) (s := s) (g := CG i) hz
    refine ⟨S1, ?_, a2⟩
    unfold fX5_greatestRank_B4 bdS
    simp only []
    rw [if_neg (by rw [cl_3, ci_le (by omega) (by omega)]; omega), zgR_ob hcl.1.1 rfl, Option.bind_some, zgI_ob hcl.1.1 rfl, Option.bind_some, a1, Option.bind_some, cl_1, ci_add]
    by_cases hl : t < rkF p (CA i 0) (CA i 1) (CA i 2) (CG i) s
    · rw [if_pos hl, if_pos ((ci_lt (by omega) (by omega)).mpr hl)]
    · rw [if_neg hl, if_neg (fun hh => hl ((ci_lt (by omega) (by omega)).mp hh))]
  obtain ⟨S1, a1, a2⟩ := st S 0 0 hcl (by omega) (by omega)
  obtain ⟨S2, b1, b2⟩ := st S1 (bdS p (CA i 0) (CA i 1) (CA i 2) (CG i) 0 0) 1 a2.1 (by omega) (bdS_le hz (by omega))
  obtain ⟨S3, c1, c2⟩ := st S2 (bdS p (CA i 0) (CA i 1) (CA i 2) (CG i) (bdS p (CA i 0) (CA i 1) (CA i 2) (CG i) 0 0) 1) 2 b2.1 (by omega) (bdS_le hz (bdS_le hz (by omega)))
  refine ⟨S3, ?_, (a2.tr b2).tr c2⟩
  unfold fX5_greatestRank
  show ziter _ (9996 + 1 + 1 + 1 + 1) (ci 0, ci 0, S) = _
  rw [ziter_1 a1, ziter_1 b1, ziter_1 c1, ziter_0]
  unfold fX5_greatestRank_B4
  simp only []
  rw [if_pos (by rw [cl_3, ci_le (by omega) (by omega)]; omega), zex_some]
  rfl
theorem m_flBad {S : ZS} {m j : Nat} {a1 a2 : Int32} {R : Nat → Nat} {X : Nat → Int32} {A : Nat → Nat → Int32} (h : zMo S m R X A) (hj : j < 2147483648) (h0 : 0 < j) : ∃ S1, fX6_flattening_J21 m a1 a2 m (ci j) S = some ((0 : Int32), S1) ∧ zMo S1 m R (mX X 0 (ci j)) A ∧ zFrm S S1 (mP m R) := by
  obtain ⟨S1, h1, h2, h3⟩ := m_badP h hj h0
  refine ⟨S1, ?_, h2, h3⟩
  unfold fX6_flattening_J21 fX6_flattening_J37
  rw [h1, Option.bind_some, if_pos rfl]
theorem ok16 {x m out : Nat} {a1 a2 : Int32} {S : ZS} (h : zI x m out S) : ok_16 x m out a1 a2 S (zI x m out) := by
  obtain ⟨ad, p, cc, wc, CA, CG, WA, WG, WV, X, A, fo, hx, hK, hin, hcl, hmo, hrl, hout⟩ := h
  have hx' := hx
  obtain ⟨rfl, rfl, rfl⟩ := hx'
  have hcc := hK.2.1
  have hhd := hcl.1
  have thr : fX5_flattening (ad 10) a1 a2 S = some (.inr ("java/lang/IndexOutOfBoundsException", S.1)) → (∀ S0, zMo S0 (ad 11) (mR ad) X A → fX6_flattening (ad 11) a1 a2 S0 = fX6_flattening_J21 (ad 11) a1 a2 (ad 11) (ci 1) S0) → ok_16 (ad 10) (ad 11) (ad 12) a1 a2 S (zI (ad 10) (ad 11) (ad 12)) := by
    intro h1 h3
    refine ⟨ci 1, S.1, ?_, fun n _ => ?_⟩
    · unfold fL_flattening
      rw [zcl_ob hhd.1, h1]
      rfl
    · obtain ⟨r, r1, r2, r3⟩ := zthr (j := 1) (f := fX6_flattening (ad 11) a1 a2) hx hK hin hcl hmo hrl hout (fun S0 hS0 => by
        obtain ⟨S1, s1, s2, s3⟩ := m_flBad (a1 := a1) (a2 := a2) hS0 (j := 1) (by omega) (by omega)
        exact ⟨0, S1, by rw [h3 S0 hS0, s1], s2, s3⟩) n
      exact ⟨r, r1, r2, fun hh => absurd hh (by decide), r3⟩
  cases hb : bl cc a1 with
  | false =>
    refine thr ?_ (fun S0 hS0 => ?_)
    · unfold fX5_flattening
      rw [zcl_ob hhd.1, c_noCube hhd hcc hb, zbT_r]
    · unfold fX6_flattening
      rw [hS0.cl, m_isCube hS0 hrl.2.1 hcc, Option.bind_some, hb, if_pos bI_f]
      rfl
  | true =>
    obtain ⟨i, hi, rfl⟩ := bl_ex (by omega) hb
    have hcb := hcl.2.2.1 i hi
    have hmc := hrl.2.2.2.1 i hi
    have cN : zcl S (ad 10) 5 (fX5_needCube (ad 10) (ci i) S) = some (.inl (ad (100 + 2 * i), S)) := by rw [zcl_ob hhd.1]; exact c_needCube hhd hcc hi
    have mN : ∀ S0, zMo S0 (ad 11) (mR ad) X A → fX6_flattening (ad 11) (ci i) a2 S0 = if bI (bl 3 a2) = 0 then fX6_flattening_J20 (ad 11) (ci i) a2 (ad 11) S0 else fX6_flattening_J21 (ad 11) (ci i) a2 (ad 11) (0 : Int32) S0 := fun S0 hS0 => by
      unfold fX6_flattening
      rw [hS0.cl, m_isCube hS0 hrl.2.1 hcc, Option.bind_some, hb, if_neg (show ¬ bI true = 0 by decide), m_isSide, Option.bind_some]
    cases hs : bl 3 a2 with
    | false =>
      refine thr ?_ (fun S0 hS0 => by rw [mN S0 hS0, hs, if_pos bI_f]; rfl)
      unfold fX5_flattening
      rw [cN, zbT_l]
      show zbT (fX5_needSide a2 S) _ = _
      rw [c_needSide, hs]
      rfl
    | true =>
      obtain ⟨s, hs', rfl⟩ := bl_ex (by omega) hs
      obtain ⟨S1, c1, c2, c3⟩ := c_rk hcc hK.1 hin hcl hi hs'
      obtain ⟨S2, e1, e2⟩ := zfin (f := fX6_flattening (ad 11) (ci i) (ci s)) (rv := ci (rkF p (CA i 0) (CA i 1) (CA i 2) (CG i) s)) (val := Int32.toInt64 (ci (rkF p (CA i 0) (CA i 1) (CA i 2) (CG i) s))) hx hK hin c2 (tl_mo hmo c3) ((c3 12 (Or.inr (Or.inr rfl)) (by omega)).trans hout) (fun S0 hS0 => by
        obtain ⟨T1, s1, s2, s3⟩ := m_good hS0
        obtain ⟨T2, A2, t1, t2, t3, t4⟩ := m_flat (cc := cc) s2 (show mX X 0 0 1 = ci p from hrl.1) hK.1 (by omega) hmc hcb.2.1 hcb.2.2.1 hs' hcc
        refine ⟨T2, _, A2, ?_, t2, rfl, zRl.sc hrl rfl rfl rfl (fun j hj => t3 j (by omega)), s3.tr t4⟩
        rw [mN S0 hS0, hs, if_neg (show ¬ bI true = 0 by decide)]
        unfold fX6_flattening_J21 fX6_flattening_J37
        rw [hS0.cl, s1, Option.bind_some, if_neg (show ¬ ((1 : Int32) = 0) by decide), s2.cl, t1, Option.bind_some])
      refine ⟨0, S2.1, ?_, fun n _ => ?_⟩
      · unfold fL_flattening fX5_flattening
        rw [zcl_ob hhd.1, cN, zbT_l]
        show zcatch (zbT (fX5_needSide (ci s) S) _) _ _ = _
        rw [c_needSide, hs, if_pos rfl, zbT_l]
        show zcatch (Option.bind (zgR S (ad 10) 5 2) _) _ _ = _
        rw [zgR_ob hhd.1 rfl, Option.bind_some]
        show zcatch (Option.bind (zgI S (ad 10) 5 6) _) _ _ = _
        rw [zgI_ob hhd.1 rfl, Option.bind_some]
        show zcatch (Option.bind (zcl S (ad 2) 1 (fX1_rankOf (ad 2) (ad (100 + 2 * i)) (ci s) (ci p) S)) _) _ _ = _
        rw [c1, Option.bind_some]
        show Option.bind (zsJ _ (ad 12) 0 _) _ = _
        rw [e1, Option.bind_some]
      · obtain ⟨r, r1, r2, r3, r4, r5⟩ := e2 n
        exact ⟨r, r1, r2, fun _ => by rw [r3, r4], r5⟩
theorem m_bd {S : ZS} {m i p cc : Nat} {R : Nat → Nat} {X : Nat → Int32} {A : Nat → Nat → Int32} {c g : Nat → Nat} (h : zMo S m R X A) (hX : X 1 = ci p) (hp : isP p) (hi : i < 16) (y : mCu A i c g) (hz : szOK (c 0) (c 1) (c 2)) (hg : cOK p (c 0) (c 1) (c 2) g) (hcc : cc ≤ 16) : ∃ S1 A1, fX6_bound_J14 m (ci i) m (0 : Int32) S = some (ci (bdF p (c 0) (c 1) (c 2) g), S1) ∧ zMo S1 m R (mX X 0 0) A1 ∧ (∀ j, j ≠ 12 → A1 j = A j) ∧ zFrm S S1 (mP m R) := by
  obtain ⟨T1, s1, s2, s3⟩ := m_good h
  have ml : ∀ (T : ZS) (A' : Nat → Nat → Int32) (s : Nat), zMo T m R (mX X 0 0) A' → (∀ j, j ≠ 12 → A' j = A j) → s < 3 → ∃ S1 A1, fX6_flat m (ci i) (ci s) T = some (ci (rkF p (c 0) (c 1) (c 2) g s), S1) ∧ zMo S1 m R (mX X 0 0) A1 ∧ (∀ j, j ≠ 12 → A1 j = A j) ∧ zFrm T S1 (mP m R) := fun T A' s hT hA hs => by
    have y' : mCu A' i c g := ⟨fun s hs => by rw [hA 3 (by omega)]; exact y.1 s hs, fun x hx => by rw [hA 4 (by omega)]; exact y.2.1 x hx, by rw [hA 5 (by omega)]; exact y.2.2⟩
    obtain ⟨S1, A1, t1, t2, t3, t4⟩ := m_flat (cc := cc) hT (show mX X 0 0 1 = ci p from hX) hp hi y' hz hg hs hcc
    exact ⟨S1, A1, t1, t2, fun j hj => (t3 j hj).trans (hA j hj), t4⟩
  have r0 := rkF_le (p := p) (s := 0) (g := g) hz
  have r1 := rkF_le (p := p) (s := 1) (g := g) hz
  have r2 := rkF_le (p := p) (s := 2) (g := g) hz
  obtain ⟨Ta, Aa, a1, a2, a3, a4⟩ := ml T1 A 0 s2 (fun _ _ => rfl) (by omega)
  obtain ⟨Tb, Ab, b1, b2, b3, b4⟩ := ml Ta Aa 1 a2 a3 (by omega)
  have e0 : bdS p (c 0) (c 1) (c 2) g 0 0 = rkF p (c 0) (c 1) (c 2) g 0 := by
    unfold bdS
    by_cases h0 : 0 < rkF p (c 0) (c 1) (c 2) g 0
    · rw [if_pos h0]
    · rw [if_neg h0]; omega
  have j49 : ∀ (T : ZS) (A' : Nat → Nat → Int32) (t : Nat), t ≤ 4 → zMo T m R (mX X 0 0) A' → (∀ j, j ≠ 12 → A' j = A j) → ∃ S1 A1, fX6_bound_J49 m (ci i) (ci t) T = some (ci (bdS p (c 0) (c 1) (c 2) g t 2), S1) ∧ zMo S1 m R (mX X 0 0) A1 ∧ (∀ j, j ≠ 12 → A1 j = A j) ∧ zFrm T S1 (mP m R) := fun T A' t ht hT hA => by
    obtain ⟨Tc, Ac, c1, c2, c3, c4⟩ := ml T A' 2 hT hA (by omega)
    unfold fX6_bound_J49 fX6_bound_J70 bdS
    by_cases hl : t < rkF p (c 0) (c 1) (c 2) g 2
    · obtain ⟨Td, Ad, d1, d2, d3, d4⟩ := ml Tc Ac 2 c2 c3 (by omega)
      refine ⟨Td, Ad, ?_, d2, d3, c4.tr d4⟩
      rw [hT.cl, cl_2, c1, Option.bind_some, if_neg (by rw [ci_le (by omega) (by omega)]; omega), c2.cl, d1, Option.bind_some, if_pos hl]
    · refine ⟨Tc, Ac, ?_, c2, c3, c4⟩
      rw [hT.cl, cl_2, c1, Option.bind_some, if_pos (by rw [ci_le (by omega) (by omega)]; omega), if_neg hl]
  have hj : fX6_bound_J14 m (ci i) m (0 : Int32) S = (if ci (rkF p (c 0) (c 1) (c 2) g 1) ≤ ci (rkF p (c 0) (c 1) (c 2) g 0) then fX6_bound_J49 m (ci i) (ci (rkF p (c 0) (c 1) (c 2) g 0)) Tb else Option.bind (zcl Tb m 6 (fX6_flat m (ci i) (1 : Int32) Tb)) fun x7 => fX6_bound_J49 m (ci i) x7.1 x7.2) := by
    unfold fX6_bound_J14
    rw [h.cl, s1, Option.bind_some, if_neg (show ¬ ((1 : Int32) = 0) by decide), s2.cl]
    show Option.bind (fX6_flat m (ci i) (ci 0) T1) _ = _
    rw [a1, Option.bind_some, a2.cl]
    show Option.bind (fX6_flat m (ci i) (ci 1) Ta) _ = _
    rw [b1, Option.bind_some]
  unfold bdF
  rw [e0, hj]
  by_cases hl : rkF p (c 0) (c 1) (c 2) g 0 < rkF p (c 0) (c 1) (c 2) g 1
  · obtain ⟨Tc, Ac, c1, c2, c3, c4⟩ := ml Tb Ab 1 b2 b3 (by omega)
    obtain ⟨Td, Ad, d1, d2, d3, d4⟩ := j49 Tc Ac (rkF p (c 0) (c 1) (c 2) g 1) r1 c2 c3
    refine ⟨Td, Ad, ?_, d2, d3, (((s3.tr a4).tr b4).tr c4).tr d4⟩
    rw [if_neg (by rw [ci_le (by omega) (by omega)]; omega), b2.cl, cl_1, c1, Option.bind_some, show bdS p (c 0) (c 1) (c 2) g (rkF p (c 0) (c 1) (c 2) g 0) 1 = rkF p (c 0) (c 1) (c 2) g 1 from if_pos hl]
    exact d1
  · obtain ⟨Td, Ad, d1, d2, d3, d4⟩ := j49 Tb Ab (rkF p (c 0) (c 1) (c 2) g 0) r0 b2 b3
    refine ⟨Td, Ad, ?_, d2, d3, ((s3.tr a4).tr b4).tr d4⟩
    rw [if_pos (by rw [ci_le (by omega) (by omega)]; omega), show bdS p (c 0) (c 1) (c 2) g (rkF p (c 0) (c 1) (c 2) g 0) 1 = rkF p (c 0) (c 1) (c 2) g 0 from if_neg hl]
    exact d1
theorem m_bdBad {S : ZS} {m j : Nat} {a1 : Int32} {R : Nat → Nat} {X : Nat → Int32} {A : Nat → Nat → Int32} (h : zMo S m R X A) (hj : j < 2147483648) (h0 : 0 < j) : ∃ S1, fX6_bound_J14 m a1 m (ci j) S = some ((0 : Int32), S1) ∧ zMo S1 m R (mX X 0 (ci j)) A ∧ zFrm S S1 (mP m R) := by
  obtain ⟨S1, h1, h2, h3⟩ := m_badP h hj h0
  refine ⟨S1, ?_, h2, h3⟩
  unfold fX6_bound_J14
  rw [h1, Option.bind_some, if_pos rfl]
theorem ok17 {x m out : Nat} {a1 : Int32} {S : ZS} (h : zI x m out S) : ok_17 x m out a1 S (zI x m out) := by
  obtain ⟨ad, p, cc, wc, CA, CG, WA, WG, WV, X, A, fo, hx, hK, hin, hcl, hmo, hrl, hout⟩ := h
  have hx' := hx
  obtain ⟨rfl, rfl, rfl⟩ := hx'
  have hcc := hK.2.1
  have hhd := hcl.1
  cases hb : bl cc a1 with
  | false =>
    refine ⟨ci 1, S.1, ?_, fun n _ => ?_⟩
    · unfold fL_bound fX5_bound
      rw [zcl_ob hhd.1, zcl_ob hhd.1, c_noCube hhd hcc hb, zbT_r]
      rfl
    · obtain ⟨r, r1, r2, r3⟩ := zthr (j := 1) (f := fX6_bound (ad 11) a1) hx hK hin hcl hmo hrl hout (fun S0 hS0 => by
        obtain ⟨S1, s1, s2, s3⟩ := m_bdBad (a1 := a1) hS0 (j := 1) (by omega) (by omega)
        refine ⟨0, S1, ?_, s2, s3⟩
        unfold fX6_bound
        rw [hS0.cl, m_isCube hS0 hrl.2.1 hcc, Option.bind_some, hb, if_pos bI_f]
        exact s1) n
      exact ⟨r, r1, r2, fun hh => absurd hh (by decide), r3⟩
  | true =>
    obtain ⟨i, hi, rfl⟩ := bl_ex (by omega) hb
    have hcb := hcl.2.2.1 i hi
    have hmc := hrl.2.2.2.1 i hi
    have cN : zcl S (ad 10) 5 (fX5_needCube (ad 10) (ci i) S) = some (.inl (ad (100 + 2 * i), S)) := by rw [zcl_ob hhd.1]; exact c_needCube hhd hcc hi
    obtain ⟨S1, c1, c2, c3⟩ := c_bd hcc hK.1 hin hcl hi
    obtain ⟨S2, e1, e2⟩ := zfin (f := fX6_bound (ad 11) (ci i)) (rv := ci (bdF p (CA i 0) (CA i 1) (CA i 2) (CG i))) (val := Int32.toInt64 (ci (bdF p (CA i 0) (CA i 1) (CA i 2) (CG i)))) hx hK hin c2 (tl_mo hmo c3) ((c3 12 (Or.inr (Or.inr rfl)) (by omega)).trans hout) (fun S0 hS0 => by
      obtain ⟨T2, A2, t1, t2, t3, t4⟩ := m_bd (cc := cc) hS0 hrl.1 hK.1 (by omega) hmc hcb.2.1 hcb.2.2.1 hcc
      refine ⟨T2, _, A2, ?_, t2, rfl, zRl.sc hrl rfl rfl rfl (fun j hj => t3 j (by omega)), t4⟩
      unfold fX6_bound
      rw [hS0.cl, m_isCube hS0 hrl.2.1 hcc, Option.bind_some, hb, if_neg (show ¬ bI true = 0 by decide)]
      exact t1)
    refine ⟨0, S2.1, ?_, fun n _ => ?_⟩
    · unfold fL_bound fX5_bound
      rw [zcl_ob hhd.1, cN, zbT_l]
      show zcatch (Option.bind (zcl S (ad 10) 5 (fX5_greatestRank (ad 10) (ad (100 + 2 * i)) S)) _) _ _ = _
      rw [zcl_ob hhd.1, c1, Option.bind_some]
      show Option.bind (zsJ _ (ad 12) 0 _) _ = _
      rw [e1, Option.bind_some]
    · obtain ⟨r, r1, r2, r3, r4, r5⟩ := e2 n
      exact ⟨r, r1, r2, fun _ => by rw [r3, r4], r5⟩
