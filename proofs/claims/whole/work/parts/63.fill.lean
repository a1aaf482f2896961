/-! A FILLED CUBE: what all its cases share -/
theorem lt_of {S : ZS} {ad : Nat → Nat} {p cc wc : Nat} {CA CG WA WG : Nat → Nat → Nat} {WV : Nat → Nat → Nat → Nat → Nat} {X : Nat → Int32} {A : Nat → Nat → Int32} {fo : Nat → Int64} (hcl : zCl S ad p cc wc CA CG WA WG WV) (hmo : zMo S (ad 11) (mR ad) X A) (hout : zJA S (ad 12) 1 fo) (hfr : zFr S.1 S.2) : ∀ t, live cc wc t → ad t < S.2 := fun t ht => by
  obtain ⟨e, he⟩ := live_some hcl hmo hout ht
  apply Classical.byContradiction
  intro hh
  have := hfr (ad t) (by omega)
  rw [he] at this; cases this
/-- the model makes cube cc, and fills it -/
def mFil (m cc a b d sq : Nat) (R : Nat → Nat) (X : Nat → Int32) (A : Nat → Nat → Int32) (g : Nat → Nat) (f : ZS → Option (Int32 × ZS)) (S0 : ZS) : Prop :=
  ∃ T0 T1 T2 A1 A2, zFrm S0 T0 (mP m R) ∧ zFrm T0 T1 (mP m R) ∧ mZ cc A A1 ∧ (∀ s, s < 3 → A1 3 (3 * cc + s) = ci (sz3 a b d s)) ∧ (∀ x, x < 64 → A1 4 (64 * cc + x) = 0) ∧ A1 5 cc = 0 ∧ f S0 = some (ci cc, T2) ∧ zMo T2 m R (mX (mX X 0 (ci 0)) 2 (ci (cc + 1))) A2 ∧ (∀ y, y < 64 → A2 4 (64 * cc + y) = ci (g y)) ∧ mV cc A1 A2 ∧ A2 5 cc = ci (msq sq) ∧ zFrm T1 T2 (mP m R)
/-- the cube is made and filled in the class, and so in the model -/
theorem fill_fin {S S1 S1' : ZS} {ad : Nat → Nat} {p cc wc a b d sq : Nat} {CA CG WA WG : Nat → Nat → Nat} {WV : Nat → Nat → Nat → Nat → Nat} {X : Nat → Int32} {A : Nat → Nat → Int32} {fo : Nat → Int64} {g : Nat → Nat} {f : ZS → Option (Int32 × ZS)}
    (hK : zK p cc wc) (hc : cc < 16) (hmo : zMo S (ad 11) (mR ad) X A) (hrl : zRl p cc wc CA CG WA WG WV X A) (hout : zJA S (ad 12) 1 fo)
    (c2 : zInj (adN ad cc S.2) (cc + 1) wc) (c3 : zCl S1 (adN ad cc S.2) p (cc + 1) wc (upN CA cc a b d 0) (upG CG cc (fun _ => 0)) WA WG WV) (c4 : ∀ t, mT t ∨ t = 12 → adN ad cc S.2 t = ad t ∧ S1.1 (ad t) = S.1 (ad t))
    (f2 : zCu S1' S.2 (S.2 + 1) a b d sq g) (f3 : zFrm S1 S1' (fun b => b = S.2 ∨ b = S.2 + 1)) (hok : cOK p a b d g) (hsq : sq ≤ 4)
    (hm : ∀ S0, zMo S0 (ad 11) (mR ad) X A → mFil (ad 11) cc a b d sq (mR ad) X A g f S0) :
    ∃ S2, zsJ S1' (ad 12) 0 (Int32.toInt64 (ci cc)) = some S2 ∧ ∀ n : Nat, ∃ r, zcl ((S2.1, n) : ZS) (ad 11) 6 (f (S2.1, n)) = some r ∧ zcl r.2 (ad 11) 6 (fX6_thrown (ad 11) r.2) = some 0 ∧ zaJ r.2 (ad 12) 0 = some (Int32.toInt64 (ci cc)) ∧ r.1 = ci cc ∧ zI (ad 10) (ad 11) (ad 12) r.2 := by
  have v10 : adN ad cc S.2 10 = ad 10 := adN_old (by omega) (by omega)
  have v11 : adN ad cc S.2 11 = ad 11 := adN_old (by omega) (by omega)
  have v12 : adN ad cc S.2 12 = ad 12 := adN_old (by omega) (by omega)
  obtain ⟨g1, kp⟩ := cube_cl (i := cc) (sq := sq) (g := g) (by omega) c2 c3 (by omega) (S1 := S1') (f3.wk (fun b hb => by
    rw [adN_0, adN_1]; exact hb)) (by
    rw [upN_self, adN_0, adN_1]; exact f2) (by rw [upN_self]; exact hok) hsq
  have hmo1 : zMo S1 (ad 11) (mR ad) X A := hmo.kp (fun b hb => by
    obtain ⟨t, ht, rfl⟩ := mP_mT hb
    exact (c4 t (Or.inl ht)).2)
  have hmo2 : zMo S1 (adN ad cc S.2 11) (mR (adN ad cc S.2)) X A := by
    rw [v11]
    exact hmo1.cg (fun i hi => adN_old (by omega) (by omega))
  have hmo3 := cube_mo (cc := cc + 1) (by omega) (show cc < cc + 1 by omega) hmo2 kp
  have ho : zJA S1' (adN ad cc S.2 12) 1 fo := (kp 12 (Or.inr (Or.inr rfl)) (by omega) (by omega)).trans (by
    rw [v12]; exact (c4 12 (Or.inr rfl)).2.trans hout)
  have := zfin (x := ad 10) (m := ad 11) (out := ad 12) (f := f) (rv := ci cc) (val := Int32.toInt64 (ci cc)) (ad := adN ad cc S.2) ⟨v10.symm, v11.symm, v12.symm⟩ ⟨hK.1, by omega, hK.2.2.1, fun _ => by omega⟩ c2 g1 hmo3 ho (fun S0 hS0 => by
    rw [v11] at hS0 ⊢
    have hS1 := hS0.cg (R' := mR ad) (fun i hi => Eq.symm (adN_old (t := 20 + i) (by omega) (by omega)))
    obtain ⟨T0, T1, T2, A1, A2, u1, u2, t6, t3, t4, t5, u3, u4, u5, u6, u7, u8⟩ := hm S0 hS1
    have hPP : ∀ b, mP (ad 11) (mR ad) b → mP (ad 11) (mR (adN ad cc S.2)) b := fun b hb => by
      rcases hb with hb | hb | ⟨i, hi, hb⟩
      · exact Or.inl hb
      · exact Or.inr (Or.inl (hb.trans (Eq.symm (adN_old (t := 20 + 16) (by omega) (by omega)))))
      · exact Or.inr (Or.inr ⟨i, hi, hb.trans (Eq.symm (adN_old (t := 20 + i) (by unfold isA at hi; omega) (by unfold isA at hi; omega)))⟩)
    refine ⟨T2, _, A2, u3, u4.cg (fun i hi => adN_old (by omega) (by omega)), rfl, cube_rl (show cc < cc + 1 by omega) (add_rl (X' := mX (mX X 0 (ci 0)) 2 (ci (cc + 1))) hrl rfl rfl rfl t6 t3 t4 t5) rfl rfl rfl u6 u5 u7, ((u1.tr u2).tr u8).wk hPP⟩)
  exact this
/-- the model's start of a filled cube -/
theorem fill_mo {S0 : ZS} {m cc a b d : Nat} {R : Nat → Nat} {X : Nat → Int32} {A : Nat → Nat → Int32} (hS0 : zMo S0 m R X A) (hX : X 2 = ci cc) (hc : cc < 16) (hj : cmk cc (ci a) (ci b) (ci d) = 0) : ∃ T1 T2 A2, fX6_canMake m (ci a) (ci b) (ci d) S0 = some (1, T1) ∧ zMo T1 m R (mX X 0 (ci 0)) A ∧ zFrm S0 T1 (mP m R) ∧ fX6_make m (ci a) (ci b) (ci d) T1 = some (ci cc, T2) ∧ zMo T2 m R (mX (mX X 0 (ci 0)) 2 (ci (cc + 1))) A2 ∧ (∀ s, s < 3 → A2 3 (3 * cc + s) = ci (sz3 a b d s)) ∧ (∀ x, x < 64 → A2 4 (64 * cc + x) = 0) ∧ A2 5 cc = 0 ∧ mZ cc A A2 ∧ zFrm T1 T2 (mP m R) := by
  obtain ⟨T1, s1, s2, s3⟩ := m_canMake (a := ci a) (b := ci b) (d := ci d) hS0 hX (by omega)
  rw [hj] at s1 s2
  obtain ⟨T2, A2, t1, t2, t3, t4, t5, t6, t7⟩ := m_make (a := a) (b := b) (d := d) s2 (cc := cc) hX hc
  exact ⟨T1, T2, A2, s1, s2, s3, t1, t2, t3, t4, t5, t6, t7⟩
