/-! LAW CASES 13, 14: reduce, walk -/
def upW (WA : Nat → Nat → Nat) (i k : Nat) : Nat → Nat → Nat := fun j => if j = i then (fun s => if s = 4 then k else WA i s) else WA j
def upV (WV : Nat → Nat → Nat → Nat → Nat) (i : Nat) (v : Nat → Nat → Nat → Nat) : Nat → Nat → Nat → Nat → Nat := fun j => if j = i then v else WV j
theorem upW_ne {WA : Nat → Nat → Nat} {i k j : Nat} (h : j ≠ i) : upW WA i k j = WA j := if_neg h
theorem upV_ne {WV : Nat → Nat → Nat → Nat → Nat} {i j : Nat} {v : Nat → Nat → Nat → Nat} (h : j ≠ i) : upV WV i v j = WV j := if_neg h
theorem upV_self {WV : Nat → Nat → Nat → Nat → Nat} {i : Nat} {v : Nat → Nat → Nat → Nat} : upV WV i v i = v := if_pos rfl
theorem upW_self {WA : Nat → Nat → Nat} {i k : Nat} : upW WA i k i = (fun s => if s = 4 then k else WA i s) := if_pos rfl
theorem mQ_mP {m : Nat} {R : Nat → Nat} {b : Nat} (hb : mQ R b) : mP m R b := by
  rcases hb with hb | hb
  · exact Or.inr (Or.inr ⟨10, A10, hb⟩)
  · exact Or.inr (Or.inr ⟨11, A11, hb⟩)
theorem way_cl {S S1 : ZS} {ad : Nat → Nat} {p cc wc i k : Nat} {CA CG WA WG : Nat → Nat → Nat} {WV : Nat → Nat → Nat → Nat → Nat} {v : Nat → Nat → Nat → Nat} (hcc : cc ≤ 16) (hin : zInj ad cc wc) (hcl : zCl S ad p cc wc CA CG WA WG WV) (hi : i < wc)
    (hf : zFrm S S1 (fun b => b = ad (200 + 4 * i) ∨ b = ad (203 + 4 * i))) (hw : zWy S1 (ad (200 + 4 * i)) (ad (201 + 4 * i)) (ad (202 + 4 * i)) (ad (203 + 4 * i)) p (WA i 0) (WA i 1) (WA i 2) (WA i 3) k (WG i) v) :
    zCl S1 ad p cc wc CA CG (upW WA i k) WG (upV WV i v) ∧ ∀ t, live cc wc t → t ≠ 200 + 4 * i → t ≠ 203 + 4 * i → S1.1 (ad t) = S.1 (ad t) := by
  have l0 : live cc wc (200 + 4 * i) := Or.inl (Or.inr (Or.inr (by omega)))
  have l3 : live cc wc (203 + 4 * i) := Or.inl (Or.inr (Or.inr (by omega)))
  have kp : ∀ t, live cc wc t → t ≠ 200 + 4 * i → t ≠ 203 + 4 * i → S1.1 (ad t) = S.1 (ad t) := fun t ht h1 h2 => hf.2 _ (fun hh => by
    rcases hh with hh | hh
    · exact h1 (hin _ _ ht l0 hh)
    · exact h2 (hin _ _ ht l3 hh))
  have kl : ∀ t, t ≤ 10 → S1.1 (ad t) = S.1 (ad t) := fun t ht => kp t (Or.inl (Or.inl ht)) (by omega) (by omega)
  obtain ⟨⟨a1, a2, a3⟩, b1, c1, d1⟩ := hcl
  refine ⟨⟨⟨(kl 10 (by omega)).trans a1, (kl 0 (by omega)).trans a2, (kl 1 (by omega)).trans a3⟩, b1.kp (fun t ht => kl t (by omega)), fun j hj => (c1 j hj).kp (kp _ (Or.inl (Or.inr (Or.inl (by omega)))) (by omega) (by omega)) (kp _ (Or.inl (Or.inr (Or.inl (by omega)))) (by omega) (by omega)), fun j hj => ?_⟩, kp⟩
  by_cases hji : j = i
  · subst hji
    rw [upV_self, upW_self]
    exact ⟨hw, (d1 j hj).2⟩
  · rw [upV_ne hji, upW_ne hji]
    exact (d1 j hj).kp (fun l hl => kp _ (Or.inl (Or.inr (Or.inr (by omega)))) (by omega) (by omega))
theorem way_rl {p cc wc i k : Nat} {CA CG WA WG : Nat → Nat → Nat} {WV : Nat → Nat → Nat → Nat → Nat} {v : Nat → Nat → Nat → Nat} {X X' : Nat → Int32} {A A' : Nat → Nat → Int32} (hi : i < wc) (h : zRl p cc wc CA CG WA WG WV X A) (h1 : X' 1 = X 1) (h2 : X' 2 = X 2) (h6 : X' 6 = X 6) (hu : mU i A A')
    (hw : mWy X' A' i p (WA i 0) (WA i 1) (WA i 2) k v) : zRl p cc wc CA CG (upW WA i k) WG (upV WV i v) X' A' := by
  obtain ⟨a1, a2, a3, a4, a5⟩ := h
  refine ⟨h1.trans a1, h2.trans a2, h6.trans a3, fun j hj => (a4 j hj).kp hu, fun j hj => ?_⟩
  by_cases hji : j = i
  · subst hji
    rw [upV_self, upW_self]
    refine ⟨hw, fun x hx => ?_, ?_⟩
    · rw [hu.1 8 (by omega) (by omega)]; exact (a5 j hj).2.1 x hx
    · rw [hu.1 9 (by omega) (by omega)]; exact (a5 j hj).2.2
  · rw [upV_ne hji, upW_ne hji]
    exact (a5 j hj).kp h1 hu hji
theorem way_mo {S S1 : ZS} {ad : Nat → Nat} {cc wc i : Nat} {X : Nat → Int32} {A : Nat → Nat → Int32} (hi : i < wc) (h : zMo S (ad 11) (mR ad) X A) (kp : ∀ t, live cc wc t → t ≠ 200 + 4 * i → t ≠ 203 + 4 * i → S1.1 (ad t) = S.1 (ad t)) : zMo S1 (ad 11) (mR ad) X A := h.kp (fun b hb => by
  obtain ⟨t, ht, rfl⟩ := mP_mT hb
  exact kp t (Or.inr (Or.inl ht)) (by unfold mT isA at ht; omega) (by unfold mT isA at ht; omega))
theorem ok13 {x m out : Nat} {a1 : Int32} {S : ZS} (h : zI x m out S) : ok_13 x m out a1 S (zI x m out) := by
  obtain ⟨ad, p, cc, wc, CA, CG, WA, WG, WV, X, A, fo, hx, hK, hin, hcl, hmo, hrl, hout⟩ := h
  have hx' := hx
  obtain ⟨rfl, rfl, rfl⟩ := hx'
  have hcc := hK.2.1
  have hwc := hK.2.2.1
  have hhd := hcl.1
  cases hb : bl wc a1 with
  | false =>
    refine ⟨1, S.1, ?_, fun n _ => ?_⟩
    · unfold fL_reduce fX5_reduce
      rw [zcl_ob hhd.1, zcl_ob hhd.1, c_noWay hhd hwc hb]
      rfl
    · obtain ⟨r, r1, r2, r3⟩ := zthr (j := 1) (f := fX6_reduce (ad 11) a1) hx hK hin hcl hmo hrl hout (fun S0 hS0 => by
        obtain ⟨S1, s1, s2, s3⟩ := m_bad hS0 (j := 1) (by omega) (by omega)
        refine ⟨0, S1, ?_, s2, s3⟩
        unfold fX6_reduce fX6_reduce_J14 fX6_reduce_J29
        rw [hS0.cl, m_isWay hS0 hrl.2.2.1 hwc, Option.bind_some, hb, if_pos bI_f, cl_1, hS0.cl, s1, Option.bind_some, if_pos rfl]) n
      exact ⟨r, r1, r2, fun hh => absurd hh (by decide), r3⟩
  | true =>
    obtain ⟨i, hi, rfl⟩ := bl_ex (by omega) hb
    have hwy := (hcl.2.2.2 i hi).1
    have hmw := (hrl.2.2.2.2 i hi).1
    obtain ⟨S1, f1, f2, f3⟩ := g_shrink hwy
    obtain ⟨g1, kp⟩ := way_cl hcc hin hcl hi f3 f2
    obtain ⟨S2, e1, e2⟩ := zfin (f := fX6_reduce (ad 11) (ci i)) (rv := ci (WA i 4 - (red p (WA i 0) (WA i 1) (WA i 2) (WA i 4) (WV i)).1)) (val := Int32.toInt64 (ci (WA i 4 - (red p (WA i 0) (WA i 1) (WA i 2) (WA i 4) (WV i)).1))) hx hK hin g1 (way_mo hi hmo kp) ((kp 12 (Or.inr (Or.inr rfl)) (by omega) (by omega)).trans hout) (fun S0 hS0 => by
      obtain ⟨T1, s1, s2, s3⟩ := m_good hS0
      obtain ⟨T2, A2, t1, t2, t3, t4, t5⟩ := m_reduceAll s2 hmw
      refine ⟨T2, _, A2, ?_, t2, rfl, way_rl hi hrl rfl rfl rfl t4 t3, s3.tr (t5.wk (fun _ => mQ_mP))⟩
      unfold fX6_reduce fX6_reduce_J14 fX6_reduce_J29
      rw [hS0.cl, m_isWay hS0 hrl.2.2.1 hwc, Option.bind_some, hb, if_neg (show ¬ bI true = 0 by decide), hS0.cl, s1, Option.bind_some, if_neg (show ¬ ((1 : Int32) = 0) by decide), s2.cl, t1, Option.bind_some])
    refine ⟨0, S2.1, ?_, fun n _ => ?_⟩
    · unfold fL_reduce fX5_reduce
      rw [zcl_ob hhd.1, zcl_ob hhd.1, c_needWay hhd hwc hi]
      unfold zbT
      simp only []
      rw [zcl_ob hwy.wa, f1, Option.bind_some]
      show Option.bind (zsJ _ (ad 12) 0 _) _ = _
      rw [e1, Option.bind_some]
    · obtain ⟨r, r1, r2, r3, r4, r5⟩ := e2 n
      exact ⟨r, r1, r2, fun _ => by rw [r3, r4], r5⟩
