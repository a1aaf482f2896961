/-! LAW CASES 12, 21: flip, vector -/
theorem zbT_l {α β : Type} {y : α} {k : α → Option (β ⊕ ZX)} : zbT (some (.inl y)) k = k y := rfl
theorem zbT_r {α β : Type} {z : ZX} {k : α → Option (β ⊕ ZX)} : zbT (some (.inr z)) k = some (.inr z) := rfl
theorem mf69 {S : ZS} {m j : Nat} {a1 a2 a3 a4 : Int32} {R : Nat → Nat} {X : Nat → Int32} {A : Nat → Nat → Int32} (h : zMo S m R X A) (hj : j < 2147483648) (h0 : 0 < j) : ∃ S1, fX6_flip_J69 m a1 a2 a3 a4 m (ci j) S = some S1 ∧ zMo S1 m R (mX X 0 (ci j)) A ∧ zFrm S S1 (mP m R) := by
  obtain ⟨S1, h1, h2, h3⟩ := m_badP h hj h0
  refine ⟨S1, ?_, h2, h3⟩
  unfold fX6_flip_J69 fX6_flip_J84
  rw [h1, Option.bind_some, if_pos rfl]
/-- what fails in a flip before the vectors are looked at -/
def flBad (wc k : Nat) (a1 a2 a3 a4 : Int32) : Bool := !(bl wc a1 && (bl k a2 && (bl k a3 && bl 3 a4)))
theorem ok12 {x m out : Nat} {a1 a2 a3 a4 : Int32} {S : ZS} (h : zI x m out S) : ok_12 x m out a1 a2 a3 a4 S (zI x m out) := by
  obtain ⟨ad, p, cc, wc, CA, CG, WA, WG, WV, X, A, fo, hx, hK, hin, hcl, hmo, hrl, hout⟩ := h
  have hx' := hx
  obtain ⟨rfl, rfl, rfl⟩ := hx'
  have hcc := hK.2.1
  have hwc := hK.2.2.1
  have hhd := hcl.1
  -- a throw of number j + 1
  have thr : ∀ (j : Nat) (nm : String) (o : Option ((Unit × ZS) ⊕ ZX)), 0 < j → j < 100 → fX5_flip (ad 10) a1 a2 a3 a4 S = some (.inr (nm, S.1)) → zcatchN nm S.1 1 ["java/lang/IndexOutOfBoundsException", "java/lang/IllegalArgumentException", "java/lang/IllegalStateException"] = some (ci j, S.1) → (∀ S0, zMo S0 (ad 11) (mR ad) X A → fX6_flip (ad 11) a1 a2 a3 a4 S0 = fX6_flip_J69 (ad 11) a1 a2 a3 a4 (ad 11) (ci j) S0) → ok_12 (ad 10) (ad 11) (ad 12) a1 a2 a3 a4 S (zI (ad 10) (ad 11) (ad 12)) := by
    intro j nm o hj0 hj h1 h2 h3
    refine ⟨ci j, S.1, ?_, fun n _ => ?_⟩
    · unfold fL_flip
      rw [zcl_ob hhd.1, h1]
      exact h2
    · exact zvoid (j := j) (f := fX6_flip (ad 11) a1 a2 a3 a4) hx hK hin hcl hmo hout (fun S0 hS0 => by
        obtain ⟨S1, s1, s2, s3⟩ := mf69 (a1 := a1) (a2 := a2) (a3 := a3) (a4 := a4) hS0 (j := j) (by omega) hj0
        exact ⟨S1, _, A, by rw [h3 S0 hS0, s1], s2, rfl, hrl, s3⟩) n
  cases hb : bl wc a1 with
  | false =>
    refine thr 1 "java/lang/IndexOutOfBoundsException" none (by omega) (by omega) ?_ rfl (fun S0 hS0 => ?_)
    · unfold fX5_flip
      rw [zcl_ob hhd.1, c_noWay hhd hwc hb]
      rfl
    · unfold fX6_flip fX6_flip_J30 fX6_flip_J31
      rw [hS0.cl, m_noProduct hS0 hrl.2.2.1 hwc hb, Option.bind_some, if_pos rfl, if_pos rfl]
      rfl
  | true =>
    obtain ⟨i, hi, rfl⟩ := bl_ex (by omega) hb
    have hwy := (hcl.2.2.2 i hi).1
    have hmw := (hrl.2.2.2.2 i hi).1
    have hkk := hwy.kk
    have cN : zcl S (ad 10) 5 (fX5_needWay (ad 10) (ci i) S) = some (.inl (ad (200 + 4 * i), S)) := by rw [zcl_ob hhd.1]; exact c_needWay hhd hwc hi
    cases hb2 : bl (WA i 4) a2 with
    | false =>
      refine thr 1 "java/lang/IndexOutOfBoundsException" none (by omega) (by omega) ?_ rfl (fun S0 hS0 => ?_)
      · unfold fX5_flip
        rw [cN, zbT_l, c_needProduct hwy, hb2]
        rfl
      · unfold fX6_flip fX6_flip_J30 fX6_flip_J31
        rw [hS0.cl, m_isProduct hS0 hrl.2.2.1 hwc hi hmw, Option.bind_some, hb2, if_pos bI_f, if_pos rfl]
        rfl
    | true =>
      cases hb3 : bl (WA i 4) a3 with
      | false =>
        refine thr 1 "java/lang/IndexOutOfBoundsException" none (by omega) (by omega) ?_ rfl (fun S0 hS0 => ?_)
        · unfold fX5_flip
          rw [cN, zbT_l, c_needProduct hwy, hb2, if_pos rfl, zbT_l, c_needProduct hwy, hb3]
          rfl
        · unfold fX6_flip fX6_flip_J30 fX6_flip_J31
          rw [hS0.cl, m_isProduct hS0 hrl.2.2.1 hwc hi hmw, Option.bind_some, hb2, if_neg (show ¬ bI true = 0 by decide), hS0.cl, m_isProduct hS0 hrl.2.2.1 hwc hi hmw, Option.bind_some, hb3, if_pos bI_f, if_pos rfl]
          rfl
      | true =>
        cases hb4 : bl 3 a4 with
        | false =>
          refine thr 1 "java/lang/IndexOutOfBoundsException" none (by omega) (by omega) ?_ rfl (fun S0 hS0 => ?_)
          · unfold fX5_flip
            rw [cN, zbT_l, c_needProduct hwy, hb2, if_pos rfl, zbT_l, c_needProduct hwy, hb3, if_pos rfl, zbT_l, c_needSide, hb4]
            rfl
          · unfold fX6_flip fX6_flip_J30 fX6_flip_J31
            rw [hS0.cl, m_isProduct hS0 hrl.2.2.1 hwc hi hmw, Option.bind_some, hb2, if_neg (show ¬ bI true = 0 by decide), hS0.cl, m_isProduct hS0 hrl.2.2.1 hwc hi hmw, Option.bind_some, hb3, if_neg (show ¬ bI true = 0 by decide), m_isSide, Option.bind_some, hb4, if_pos bI_f, if_pos rfl]
            rfl
        | true =>
          obtain ⟨q, hq, rfl⟩ := bl_ex (by omega) hb2
          obtain ⟨r, hr, rfl⟩ := bl_ex (by omega) hb3
          obtain ⟨s, hs, rfl⟩ := bl_ex (by omega) hb4
          have cF : fX5_flip (ad 10) (ci i) (ci q) (ci r) (ci s) S = (if ci q = ci r then some (.inr ("java/lang/IllegalArgumentException", S.1)) else Option.bind (zcl S (ad (200 + 4 * i)) 4 (fX4_isSame (ad (200 + 4 * i)) (ci q) (ci r) (ci s) S)) fun x5 => if x5 = 0 then some (.inr ("java/lang/IllegalStateException", S.1)) else Option.bind (zcl S (ad (200 + 4 * i)) 4 (fX4_turn (ad (200 + 4 * i)) (ci q) (ci r) (ci s) S)) fun x6 => some (.inl ((), x6))) := by
            unfold fX5_flip
            rw [cN, zbT_l, c_needProduct hwy, hb2, if_pos rfl, zbT_l, c_needProduct hwy, hb3, if_pos rfl, zbT_l, c_needSide, hb4]
            rfl
          have mF9 : ∀ S0, zMo S0 (ad 11) (mR ad) X A → fX6_flip (ad 11) (ci i) (ci q) (ci r) (ci s) S0 = fX6_flip_J31 (ad 11) (ci i) (ci q) (ci r) (ci s) (1 : Int32) S0 := fun S0 hS0 => by
            unfold fX6_flip
            rw [hS0.cl, m_isProduct hS0 hrl.2.2.1 hwc hi hmw, Option.bind_some, hb2, if_neg (show ¬ bI true = 0 by decide), hS0.cl, m_isProduct hS0 hrl.2.2.1 hwc hi hmw, Option.bind_some, hb3, if_neg (show ¬ bI true = 0 by decide), m_isSide, Option.bind_some, hb4, if_neg (show ¬ bI true = 0 by decide)]
          by_cases hqr : q = r
          · subst hqr
            refine thr 2 "java/lang/IllegalArgumentException" none (by omega) (by omega) ?_ rfl (fun S0 hS0 => ?_)
            · rw [cF, if_pos rfl]
            · rw [mF9 S0 hS0]
              unfold fX6_flip_J31
              rw [if_neg (show ¬ (1 : Int32) = 0 by decide), if_pos rfl]
              rfl
          · have hne : ¬ ci q = ci r := by rw [ci_eq (by omega) (by omega)]; exact hqr
            cases hal : al (WA i 0) (WA i 1) (WA i 2) (WV i) q r s with
            | false =>
              refine thr 3 "java/lang/IllegalStateException" none (by omega) (by omega) ?_ rfl (fun S0 hS0 => ?_)
              · rw [cF, if_neg hne, zcl_ob hwy.wa, g_isSame hwy hq hr hs, Option.bind_some, hal, if_pos bI_f]
              · rw [mF9 S0 hS0]
                unfold fX6_flip_J31
                rw [if_neg (show ¬ (1 : Int32) = 0 by decide), if_neg hne, hS0.cl, m_areAlike hS0 hmw hq hr hs, Option.bind_some, hal, if_pos bI_f]
                rfl
            | true =>
              obtain ⟨S1, f1, f2, f3⟩ := g_turn hwy hq hr hs
              obtain ⟨g1, kp⟩ := way_cl hcc hin hcl hi (f3.wk (fun _ => Or.inr)) f2
              refine ⟨0, S1.1, ?_, fun n _ => ?_⟩
              · unfold fL_flip
                rw [zcl_ob hhd.1, cF, if_neg hne, zcl_ob hwy.wa, g_isSame hwy hq hr hs, Option.bind_some, hal, if_neg (show ¬ bI true = 0 by decide), zcl_ob hwy.wa, f1, Option.bind_some]
                rfl
              · exact zvoid (j := 0) (f := fX6_flip (ad 11) (ci i) (ci q) (ci r) (ci s)) hx hK hin g1 (way_mo hi hmo kp) ((kp 12 (Or.inr (Or.inr rfl)) (by omega) (by omega)).trans hout) (fun S0 hS0 => by
                  obtain ⟨T1, s1, s2, s3⟩ := m_good hS0
                  obtain ⟨T2, A2, t1, t2, t3, t4, t5⟩ := m_turn s2 hmw hq hr hqr hs
                  refine ⟨T2, _, A2, ?_, t2, rfl, way_rl hi hrl rfl rfl rfl t4 t3, s3.tr (t5.wk (fun _ => mQ_mP))⟩
                  rw [mF9 S0 hS0]
                  unfold fX6_flip_J31
                  rw [if_neg (show ¬ (1 : Int32) = 0 by decide), if_neg hne, hS0.cl, m_areAlike hS0 hmw hq hr hs, Option.bind_some, hal, if_neg (show ¬ bI true = 0 by decide)]
                  unfold fX6_flip_J69 fX6_flip_J84
                  rw [hS0.cl, s1, Option.bind_some, if_neg (show ¬ ((1 : Int32) = 0) by decide), s2.cl, t1, Option.bind_some]) n
