/-! LAW CASE 5: set -/
def upC (CA : Nat → Nat → Nat) (i sq : Nat) : Nat → Nat → Nat := fun j => if j = i then (fun s => if s = 3 then sq else CA i s) else CA j
def upG (CG : Nat → Nat → Nat) (i : Nat) (g : Nat → Nat) : Nat → Nat → Nat := fun j => if j = i then g else CG j
theorem upC_ne {CA : Nat → Nat → Nat} {i q j : Nat} (h : j ≠ i) : upC CA i q j = CA j := if_neg h
theorem upC_self {CA : Nat → Nat → Nat} {i q : Nat} : upC CA i q i = (fun s => if s = 3 then q else CA i s) := if_pos rfl
theorem upG_ne {CG : Nat → Nat → Nat} {i j : Nat} {g : Nat → Nat} (h : j ≠ i) : upG CG i g j = CG j := if_neg h
theorem upG_self {CG : Nat → Nat → Nat} {i : Nat} {g : Nat → Nat} : upG CG i g i = g := if_pos rfl
/-- but for cube i's numbers and square nothing is otherwise -/
def mV (i : Nat) (A A' : Nat → Nat → Int32) : Prop := (∀ j, j ≠ 4 → j ≠ 5 → A' j = A j) ∧ (∀ x, x ≠ i → A' 5 x = A 5 x) ∧ ∀ x, ¬ (64 * i ≤ x ∧ x < 64 * i + 64) → A' 4 x = A 4 x
theorem cube_cl {S S1 : ZS} {ad : Nat → Nat} {p cc wc i sq : Nat} {CA CG WA WG : Nat → Nat → Nat} {WV : Nat → Nat → Nat → Nat → Nat} {g : Nat → Nat} (hcc : cc ≤ 16) (hin : zInj ad cc wc) (hcl : zCl S ad p cc wc CA CG WA WG WV) (hi : i < cc)
    (hf : zFrm S S1 (fun b => b = ad (100 + 2 * i) ∨ b = ad (101 + 2 * i))) (hc : zCu S1 (ad (100 + 2 * i)) (ad (101 + 2 * i)) (CA i 0) (CA i 1) (CA i 2) sq g) (hg : cOK p (CA i 0) (CA i 1) (CA i 2) g) (hq : sq ≤ 4) :
    zCl S1 ad p cc wc (upC CA i sq) (upG CG i g) WA WG WV ∧ ∀ t, live cc wc t → t ≠ 100 + 2 * i → t ≠ 101 + 2 * i → S1.1 (ad t) = S.1 (ad t) := by
  have l0 : live cc wc (100 + 2 * i) := Or.inl (Or.inr (Or.inl (by omega)))
  have l3 : live cc wc (101 + 2 * i) := Or.inl (Or.inr (Or.inl (by omega)))
  have kp : ∀ t, live cc wc t → t ≠ 100 + 2 * i → t ≠ 101 + 2 * i → S1.1 (ad t) = S.1 (ad t) := fun t ht h1 h2 => hf.2 _ (fun hh => by
    rcases hh with hh | hh
    · exact h1 (hin _ _ ht l0 hh)
    · exact h2 (hin _ _ ht l3 hh))
  have kl : ∀ t, t ≤ 10 → S1.1 (ad t) = S.1 (ad t) := fun t ht => kp t (Or.inl (Or.inl ht)) (by omega) (by omega)
  obtain ⟨⟨a1, a2, a3⟩, b1, c1, d1⟩ := hcl
  refine ⟨⟨⟨(kl 10 (by omega)).trans a1, (kl 0 (by omega)).trans a2, (kl 1 (by omega)).trans a3⟩, b1.kp (fun t ht => kl t (by omega)), fun j hj => ?_, fun j hj => (d1 j hj).kp (fun l hl => kp _ (Or.inl (Or.inr (Or.inr (by omega)))) (by omega) (by omega))⟩, kp⟩
  by_cases hji : j = i
  · subst hji
    rw [upC_self, upG_self]
    exact ⟨hc, (c1 j hj).2.1, hg, hq⟩
  · rw [upC_ne hji, upG_ne hji]
    exact (c1 j hj).kp (kp _ (Or.inl (Or.inr (Or.inl (by omega)))) (by omega) (by omega)) (kp _ (Or.inl (Or.inr (Or.inl (by omega)))) (by omega) (by omega))
theorem mWw.kv {X X' : Nat → Int32} {A A' : Nat → Nat → Int32} {p i w : Nat} {c g : Nat → Nat} {v : Nat → Nat → Nat → Nat} (h : mWw X A p i c g v) (hX : X' 1 = X 1) (hu : mV w A A') : mWw X' A' p i c g v := by
  obtain ⟨⟨h1, h2, h3, h4, h5, h6, h7, h8, h9⟩, h10, h11⟩ := h
  refine ⟨⟨h1, h2, h3, h4, hX.trans h5, fun s hs => ?_, ?_, h8, fun q hq s hs j hj => ?_⟩, fun x hx => ?_, ?_⟩
  · rw [hu.1 7 (by omega) (by omega)]; exact h6 s hs
  · rw [hu.1 10 (by omega) (by omega)]; exact h7
  · rw [hu.1 11 (by omega) (by omega)]; exact h9 q hq s hs j hj
  · rw [hu.1 8 (by omega) (by omega)]; exact h10 x hx
  · rw [hu.1 9 (by omega) (by omega)]; exact h11
theorem cube_rl {p cc wc i sq : Nat} {CA CG WA WG : Nat → Nat → Nat} {WV : Nat → Nat → Nat → Nat → Nat} {g : Nat → Nat} {X X' : Nat → Int32} {A A' : Nat → Nat → Int32} (hi : i < cc) (h : zRl p cc wc CA CG WA WG WV X A) (h1 : X' 1 = X 1) (h2 : X' 2 = X 2) (h6 : X' 6 = X 6) (hu : mV i A A')
    (hg : ∀ x, x < 64 → A' 4 (64 * i + x) = ci (g x)) (hq : A' 5 i = ci (msq sq)) : zRl p cc wc (upC CA i sq) (upG CG i g) WA WG WV X' A' := by
  obtain ⟨a1, a2, a3, a4, a5⟩ := h
  refine ⟨h1.trans a1, h2.trans a2, h6.trans a3, fun j hj => ?_, fun j hj => (a5 j hj).kv h1 hu⟩
  by_cases hji : j = i
  · subst hji
    rw [upC_self, upG_self]
    exact ⟨fun s hs => by rw [hu.1 3 (by omega) (by omega)]; exact (a4 j hj).1 s hs, hg, hq⟩
  · rw [upC_ne hji, upG_ne hji]
    obtain ⟨b1, b2, b3⟩ := a4 j hj
    exact ⟨fun s hs => by rw [hu.1 3 (by omega) (by omega)]; exact b1 s hs, fun x hx => by rw [hu.2.2 _ (by omega)]; exact b2 x hx, by rw [hu.2.1 j hji]; exact b3⟩
theorem cube_mo {S S1 : ZS} {ad : Nat → Nat} {cc wc i : Nat} {X : Nat → Int32} {A : Nat → Nat → Int32} (hc : cc ≤ 16) (hi : i < cc) (h : zMo S (ad 11) (mR ad) X A) (kp : ∀ t, live cc wc t → t ≠ 100 + 2 * i → t ≠ 101 + 2 * i → S1.1 (ad t) = S.1 (ad t)) : zMo S1 (ad 11) (mR ad) X A := h.kp (fun b hb => by
  obtain ⟨t, ht, rfl⟩ := mP_mT hb
  exact kp t (Or.inr (Or.inl ht)) (by unfold mT isA at ht; omega) (by unfold mT isA at ht; omega))
theorem zwO_cu {S : ZS} {c n a b d q : Nat} {g : Nat → Nat} (q' : Nat) (h : zCu S c n a b d q g) : ∃ S1, zpF S c 0 4 (.int (ci q')) = some S1 ∧ zCu S1 c n a b d q' g ∧ zFrm S S1 (fun b => b = c) := by
  have hf : zFrm S (zwO S c 0 [.int (ci a), .int (ci b), .int (ci d), .ref n, .int (ci q')]) (fun b => b = c) := zFrm.wO
  exact ⟨_, zpF_ob _ h.1 (by simp), ⟨zwO_self, hf.ia (fun hh => ne_oi h.1 h.2 hh.symm) h.2⟩, hf⟩
theorem ms41 {S : ZS} {m j : Nat} {a1 a2 a3 a4 a5 : Int32} {R : Nat → Nat} {X : Nat → Int32} {A : Nat → Nat → Int32} (h : zMo S m R X A) (hj : j < 2147483648) (h0 : 0 < j) : ∃ S1, fX6_set_J41 m a1 a2 a3 a4 a5 m (ci j) S = some ((0 : Int32), S1) ∧ zMo S1 m R (mX X 0 (ci j)) A ∧ zFrm S S1 (mP m R) := by
  obtain ⟨S1, h1, h2, h3⟩ := m_badP h hj h0
  refine ⟨S1, ?_, h2, h3⟩
  unfold fX6_set_J41
  rw [h1, Option.bind_some, if_pos rfl]
theorem ok5 {x m out : Nat} {a1 a2 a3 a4 a5 : Int32} {S : ZS} (h : zI x m out S) : ok_5 x m out a1 a2 a3 a4 a5 S (zI x m out) := by
  obtain ⟨ad, p, cc, wc, CA, CG, WA, WG, WV, X, A, fo, hx, hK, hin, hcl, hmo, hrl, hout⟩ := h
  have hx' := hx
  obtain ⟨rfl, rfl, rfl⟩ := hx'
  have hcc := hK.2.1
  have hhd := hcl.1
  have hpb := hK.1.b
  have thr : ∀ (j : Nat) (nm : String), 0 < j → j < 100 → fX5_set (ad 10) a1 a2 a3 a4 a5 S = some (.inr (nm, S.1)) → zcatchN nm S.1 1 ["java/lang/IndexOutOfBoundsException", "java/lang/IllegalArgumentException"] = some (ci j, S.1) → (∀ S0, zMo S0 (ad 11) (mR ad) X A → fX6_set (ad 11) a1 a2 a3 a4 a5 S0 = fX6_set_J41 (ad 11) a1 a2 a3 a4 a5 (ad 11) (ci j) S0) → ok_5 (ad 10) (ad 11) (ad 12) a1 a2 a3 a4 a5 S (zI (ad 10) (ad 11) (ad 12)) := by
    intro j nm hj0 hj h1 h2 h3
    refine ⟨ci j, S.1, ?_, fun n _ => ?_⟩
    · unfold fL_set
      rw [zcl_ob hhd.1, h1]
      exact h2
    · obtain ⟨r, r1, r2, r3⟩ := zthr (j := j) (f := fX6_set (ad 11) a1 a2 a3 a4 a5) hx hK hin hcl hmo hrl hout (fun S0 hS0 => by
        obtain ⟨S1, s1, s2, s3⟩ := ms41 (a1 := a1) (a2 := a2) (a3 := a3) (a4 := a4) (a5 := a5) hS0 (j := j) (by omega) hj0
        exact ⟨0, S1, by rw [h3 S0 hS0, s1], s2, s3⟩) n
      exact ⟨r, r1, r2, fun hh => absurd hh (by rw [cl_0, ci_eq (by omega) (by omega)]; omega), r3⟩
  cases hb : bl cc a1 with
  | false =>
    refine thr 1 "java/lang/IndexOutOfBoundsException" (by omega) (by omega) ?_ rfl (fun S0 hS0 => ?_)
    · unfold fX5_set
      rw [zcl_ob hhd.1, c_noCube hhd hcc hb, zbT_r]
    · unfold fX6_set
      rw [hS0.cl, m_noPlace hS0 hrl.2.1 hcc hb, Option.bind_some, if_pos rfl]
      rfl
  | true =>
    obtain ⟨i, hi, rfl⟩ := bl_ex (by omega) hb
    have hcb := hcl.2.2.1 i hi
    have hmc := hrl.2.2.2.1 i hi
    have hsz := hcb.2.1
    have hsz' := hsz
    unfold szOK at hsz'
    have cN : zcl S (ad 10) 5 (fX5_needCube (ad 10) (ci i) S) = some (.inl (ad (100 + 2 * i), S)) := by rw [zcl_ob hhd.1]; exact c_needCube hhd hcc hi
    cases hp : (bl (CA i 0) a2 && (bl (CA i 1) a3 && bl (CA i 2) a4)) with
    | false =>
      refine thr 1 "java/lang/IndexOutOfBoundsException" (by omega) (by omega) ?_ rfl (fun S0 hS0 => ?_)
      · unfold fX5_set
        rw [cN, zbT_l, c_needPlace hcb.1 hsz, hp]
        rfl
      · unfold fX6_set
        rw [hS0.cl, m_isPlace hS0 hrl.2.1 hcc hi hmc hsz, hp, Option.bind_some, if_pos bI_f]
        rfl
    | true =>
      cases hv : bl p a5 with
      | false =>
        refine thr 2 "java/lang/IllegalArgumentException" (by omega) (by omega) ?_ rfl (fun S0 hS0 => ?_)
        · unfold fX5_set fX5_set_J30
          rw [cN, zbT_l, c_needPlace hcb.1 hsz, hp, if_pos rfl, zbT_l]
          by_cases h0 : a5 < 0
          · rw [if_pos h0]
          · rw [if_neg h0, zgI_ob hhd.1 rfl, Option.bind_some, if_neg]
            intro hlt
            unfold bl at hv
            exact (of_decide_eq_false hv) ⟨Int32.not_lt.mp h0, hlt⟩
        · unfold fX6_set
          rw [hS0.cl, m_isPlace hS0 hrl.2.1 hcc hi hmc hsz, hp, Option.bind_some, if_neg (show ¬ bI true = 0 by decide), zgI_ob hS0.1 rfl, Option.bind_some, hrl.1, m_in (by omega), Option.bind_some, hv, if_pos bI_f]
          rfl
      | true =>
        have hp' := hp
        rw [Bool.and_eq_true, Bool.and_eq_true] at hp'
        obtain ⟨i1, h1, rfl⟩ := bl_ex (by omega) hp'.1
        obtain ⟨i2, h2, rfl⟩ := bl_ex (by omega) hp'.2.1
        obtain ⟨i3, h3, rfl⟩ := bl_ex (by omega) hp'.2.2
        obtain ⟨v, hvp, rfl⟩ := bl_ex (by omega) hv
        have hix := ix_lt (i := i1) (j := i2) (k := i3) (by omega) (by omega) (by omega)
        obtain ⟨S1, f1, f2, f3⟩ := g_enter (v := v) hcb.1 (i := i1) (j := i2) (k := i3) (by omega) (by omega) (by omega)
        obtain ⟨S1', f1', f2', f3'⟩ := zwO_cu 0 f2
        have hf : zFrm S S1' (fun b => b = ad (100 + 2 * i) ∨ b = ad (101 + 2 * i)) := (f3.wk (fun _ => Or.inr)).tr (f3'.wk (fun _ => Or.inl))
        obtain ⟨g1, kp⟩ := cube_cl hcc hin hcl hi hf f2' (by
          refine ⟨fun x hx => ?_, fun j1 j2 j3 k1 k2 k3 hn => ?_⟩
          · unfold va_up
            split
            · exact hvp
            · exact hcb.2.2.1.1 x hx
          · have hne : ix j1 j2 j3 ≠ ix i1 i2 i3 := fun hh => by
              have := (ix_inj (by omega) (by omega) (by omega) (by omega)).mp hh
              omega
            rw [va_up_ne _ _ hne]
            exact hcb.2.2.1.2 j1 j2 j3 k1 k2 k3 hn) (by omega)
        obtain ⟨S2, e1, e2⟩ := zfin (f := fX6_set (ad 11) (ci i) (ci i1) (ci i2) (ci i3) (ci v)) (rv := ci (CG i (ix i1 i2 i3))) (val := Int32.toInt64 (ci (CG i (ix i1 i2 i3)))) hx hK hin g1 (cube_mo hcc hi hmo kp) ((kp 12 (Or.inr (Or.inr rfl)) (by omega) (by omega)).trans hout) (fun S0 hS0 => by
          obtain ⟨T1, s1, s2, s3⟩ := m_good hS0
          have t1 := s2.set A4i (va_up (A 4) (64 * i + ix i1 i2 i3) (ci v))
          have t2 := t1.1.set A5i (va_up (A 5) i 0)
          refine ⟨_, _, _, ?_, t2.1, rfl, cube_rl hi hrl rfl rfl rfl ⟨fun j k1 k2 => by rw [mS_ne k2, mS_ne k1], fun x hx => by rw [mS_self, va_up_ne _ _ hx], fun x hx => by rw [mS_ne (by omega), mS_self, va_up_ne _ _ (by omega)]⟩ (fun x hx => ?_) ?_, (s3.tr (t1.2.wk (fun b hb => Or.inr (Or.inr ⟨4, A4i, hb⟩)))).tr (t2.2.wk (fun b hb => Or.inr (Or.inr ⟨5, A5i, hb⟩)))⟩
          · unfold fX6_set
            rw [hS0.cl, m_isPlace hS0 hrl.2.1 hcc hi hmc hsz, hp, Option.bind_some, if_neg (show ¬ bI true = 0 by decide), zgI_ob hS0.1 rfl, Option.bind_some, hrl.1, m_in (by omega), Option.bind_some, hv, if_neg (show ¬ bI true = 0 by decide)]
            unfold fX6_set_J41
            rw [hS0.cl, s1, Option.bind_some, if_neg (show ¬ ((1 : Int32) = 0) by decide), m_place, Option.bind_some, zgR_ob s2.1 rfl, Option.bind_some, m_num s2 hmc (by omega) hix, Option.bind_some, Option.bind_some, cl_64, ci_mul, ci_add, s2.wr A4i (by rw [N4]; omega), Option.bind_some, zgR_ob t1.1.1 rfl, Option.bind_some, t1.1.wr A5i (by rw [N5]; omega), mS_ne (by omega), Option.bind_some]
          · rw [mS_ne (by omega), mS_self]
            unfold va_up
            by_cases hxx : x = ix i1 i2 i3
            · rw [if_pos (by omega), if_pos hxx]
            · rw [if_neg (by omega), if_neg hxx]; exact hmc.2.1 x hx
          · rw [mS_self, va_up_self]; rfl)
        refine ⟨0, S2.1, ?_, fun n _ => ?_⟩
        · unfold fL_set fX5_set
          rw [zcl_ob hhd.1, cN, zbT_l, c_needPlace hcb.1 hsz, hp, if_pos rfl, zbT_l, if_neg (ci_nneg (by omega)), zgI_ob hhd.1 rfl, Option.bind_some, if_pos ((ci_lt (by omega) (by omega)).mpr hvp)]
          show zcatch (Option.bind (zcl S (ad (100 + 2 * i)) 0 (fX0_numberAt (ad (100 + 2 * i)) (ci i1) (ci i2) (ci i3) S)) _) _ _ = _
          rw [zcl_cu hcb.1, g_numberAt hcb.1 (by omega) (by omega) (by omega), Option.bind_some]
          show zcatch (Option.bind (zcl S (ad (100 + 2 * i)) 0 (fX0_enter (ad (100 + 2 * i)) (ci i1) (ci i2) (ci i3) (ci v) S)) _) _ _ = _
          rw [zcl_cu hcb.1, f1, Option.bind_some, cl_0, f1', Option.bind_some]
          show Option.bind (zsJ _ (ad 12) 0 _) _ = _
          rw [e1, Option.bind_some]
        · obtain ⟨r, r1, r2, r3, r4, r5⟩ := e2 n
          exact ⟨r, r1, r2, fun _ => by rw [r3, r4], r5⟩
