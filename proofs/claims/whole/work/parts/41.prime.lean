/-! LAW CASE 0: prime -/
theorem m_bad {S : ZS} {m j : Nat} {R : Nat → Nat} {X : Nat → Int32} {A : Nat → Nat → Int32} (h : zMo S m R X A) (hj : j < 2147483648) (h0 : 0 < j) : ∃ S1, fX6_goesWell m (ci j) S = some (0, S1) ∧ zMo S1 m R (mX X 0 (ci j)) A ∧ zFrm S S1 (mP m R) := by
  obtain ⟨S1, h1, h2, h3⟩ := m_goesWell h hj
  refine ⟨S1, ?_, h2, h3.wk (fun _ => Or.inl)⟩
  rw [h1, decide_eq_false (by omega)]
  rfl
theorem m_good {S : ZS} {m : Nat} {R : Nat → Nat} {X : Nat → Int32} {A : Nat → Nat → Int32} (h : zMo S m R X A) : ∃ S1, fX6_goesWell m (0 : Int32) S = some (1, S1) ∧ zMo S1 m R (mX X 0 0) A ∧ zFrm S S1 (mP m R) := by
  obtain ⟨S1, h1, h2, h3⟩ := m_goesWell h (j := 0) (by omega)
  exact ⟨S1, h1, h2, h3.wk (fun _ => Or.inl)⟩
theorem mpJ {S : ZS} {m j : Nat} {a1 : Int32} {R : Nat → Nat} {X : Nat → Int32} {A : Nat → Nat → Int32} (h : zMo S m R X A) (hj : j < 2147483648) (h0 : 0 < j) : ∃ S1, fX6_prime_J42 m a1 m (ci j) S = some ((0 : Int32), S1) ∧ zMo S1 m R (mX X 0 (ci j)) A ∧ zFrm S S1 (mP m R) := by
  obtain ⟨S1, h1, h2, h3⟩ := m_bad h hj h0
  refine ⟨S1, ?_, h2, h3⟩
  unfold fX6_prime_J42
  rw [h.cl, h1, Option.bind_some, if_pos rfl]
theorem zRl.p {p cc wc : Nat} {CA CG WA WG : Nat → Nat → Nat} {WV : Nat → Nat → Nat → Nat → Nat} {X : Nat → Int32} {A : Nat → Nat → Int32} (h : zRl p cc wc CA CG WA WG WV X A) (y : Int32) : zRl p cc wc CA CG WA WG WV (mX X 0 y) A := h
theorem ok0 {x m out : Nat} {a1 : Int32} {S : ZS} (h : zI x m out S) : ok_0 x m out a1 S (zI x m out) := by
  obtain ⟨ad, p, cc, wc, CA, CG, WA, WG, WV, X, A, fo, hx, hK, hin, hcl, hmo, hrl, hout⟩ := h
  have hx' := hx
  obtain ⟨rfl, rfl, rfl⟩ := hx'
  have hcc := hK.2.1
  have hhd := hcl.1.1
  by_cases ha : a1 = 2 ∨ a1 = 3 ∨ a1 = 5
  · -- a prime
    have mJ : ∀ S0, fX6_prime (ad 11) a1 S0 = fX6_prime_J20 (ad 11) a1 (1 : Int32) S0 := by
      intro S0
      unfold fX6_prime fX6_prime_J15
      rcases ha with rfl | rfl | rfl
      · rw [if_pos rfl]
      · rw [if_neg (by decide), if_pos rfl]
      · rw [if_neg (by decide), if_neg (by decide), if_pos rfl]
    have cJ : fX5_prime (ad 10) a1 S = fX5_prime_J25 (ad 10) a1 S := by
      unfold fX5_prime
      rcases ha with rfl | rfl | rfl
      · rw [if_pos rfl]
      · rw [if_neg (by decide), if_pos rfl]
      · rw [if_neg (by decide), if_neg (by decide), if_pos rfl]
    obtain ⟨p', hp', rfl⟩ : ∃ p', isP p' ∧ a1 = ci p' := by
      rcases ha with rfl | rfl | rfl
      · exact ⟨2, Or.inl rfl, rfl⟩
      · exact ⟨3, Or.inr (Or.inl rfl), rfl⟩
      · exact ⟨5, Or.inr (Or.inr rfl), rfl⟩
    by_cases h0 : cc = 0
    · have hw0 : wc = 0 := by have := hK.2.2.2; omega
      subst h0 hw0
      -- the class
      have hf : zFrm S (zwO S (ad 10) 5 [.ref (ad 0), .ref (ad 1), .ref (ad 2), .ref (ad 3), .ref (ad 4), .ref (ad 5), .int (ci p'), .int (ci 0), .int (ci 0)]) (fun b => b = ad 10) := zFrm.wO
      have kp : ∀ t, live 0 0 t → t ≠ 10 → (zwO S (ad 10) 5 [.ref (ad 0), .ref (ad 1), .ref (ad 2), .ref (ad 3), .ref (ad 4), .ref (ad 5), .int (ci p'), .int (ci 0), .int (ci 0)]).1 (ad t) = S.1 (ad t) := fun t ht h10 => hf.2 _ (fun hh => h10 (hin t 10 ht (Or.inl (Or.inl (by omega))) hh))
      have c1 : fX5_prime (ad 10) (ci p') S = some (.inl (ci p, zwO S (ad 10) 5 [.ref (ad 0), .ref (ad 1), .ref (ad 2), .ref (ad 3), .ref (ad 4), .ref (ad 5), .int (ci p'), .int (ci 0), .int (ci 0)])) := by
        rw [cJ]
        unfold fX5_prime_J25
        rw [zgI_ob hhd rfl, Option.bind_some, if_pos (by decide), zgI_ob hhd rfl, Option.bind_some, zpF_ob _ hhd (by simp), Option.bind_some]
        rfl
      have hcl' : zCl (zwO S (ad 10) 5 [.ref (ad 0), .ref (ad 1), .ref (ad 2), .ref (ad 3), .ref (ad 4), .ref (ad 5), .int (ci p'), .int (ci 0), .int (ci 0)]) ad p' 0 0 CA CG WA WG WV :=
        ⟨⟨zwO_self, (kp 0 (Or.inl (Or.inl (by omega))) (by omega)).trans hcl.1.2.1, (kp 1 (Or.inl (Or.inl (by omega))) (by omega)).trans hcl.1.2.2⟩, hcl.2.1.kp (fun t ht => kp t (Or.inl (Or.inl (by omega))) (by omega)), fun i hi => absurd hi (Nat.not_lt_zero _), fun i hi => absurd hi (Nat.not_lt_zero _)⟩
      have hmo' := hmo.kp (S1 := zwO S (ad 10) 5 [.ref (ad 0), .ref (ad 1), .ref (ad 2), .ref (ad 3), .ref (ad 4), .ref (ad 5), .int (ci p'), .int (ci 0), .int (ci 0)]) (fun b hb => by
        obtain ⟨t, ht, rfl⟩ := mP_mT hb
        exact kp t (Or.inr (Or.inl ht)) (by unfold mT isA at ht; omega))
      obtain ⟨S2, e1, e2⟩ := zfin (f := fX6_prime (ad 11) (ci p')) (rv := ci p) (val := Int32.toInt64 (ci p)) hx (p := p') ⟨hp', hK.2.1, hK.2.2.1, hK.2.2.2⟩ hin hcl' hmo' ((kp 12 (Or.inr (Or.inr rfl)) (by omega)).trans hout) (fun S0 hS0 => by
        obtain ⟨S1, s1, s2, s3⟩ := m_good hS0
        have s4 := s2.sx (X' := mX (mX X 0 0) 1 (ci p'))
        refine ⟨_, _, A, ?_, s4.1, rfl, ⟨rfl, hrl.2.1, hrl.2.2.1, fun i hi => absurd hi (Nat.not_lt_zero _), fun i hi => absurd hi (Nat.not_lt_zero _)⟩, s3.tr (s4.2.wk (fun _ => Or.inl))⟩
        rw [mJ]
        unfold fX6_prime_J20
        rw [if_neg (by decide), zgI_ob hS0.1 rfl, Option.bind_some, hrl.2.1, if_pos (by decide)]
        unfold fX6_prime_J42
        rw [hS0.cl, s1, Option.bind_some, if_neg (show ¬ ((1 : Int32) = 0) by decide), zgI_ob s2.1 rfl, Option.bind_some, zpF_ob _ s2.1 (show 1 < (mF (mR ad) (mX X 0 0)).length by unfold mF; simp), Option.bind_some]
        rw [show mX X 0 0 1 = ci p from hrl.1]
        rfl)
      refine ⟨0, S2.1, ?_, fun n _ => ?_⟩
      · unfold fL_prime
        rw [zcl_ob hhd, c1]
        show Option.bind (zsJ _ (ad 12) 0 (Int32.toInt64 (ci p))) _ = _
        rw [e1, Option.bind_some]
      · obtain ⟨r, r1, r2, r3, r4, r5⟩ := e2 n
        exact ⟨r, r1, r2, fun _ => by rw [r3, r4], r5⟩
    · -- there are cubes
      have c1 : fX5_prime (ad 10) (ci p') S = some (.inr ("java/lang/IllegalStateException", S.1)) := by
        rw [cJ]
        unfold fX5_prime_J25
        rw [zgI_ob hhd rfl, Option.bind_some, if_neg (by rw [ci_le0 (by omega)]; exact h0)]
      refine ⟨2, S.1, ?_, fun n _ => ?_⟩
      · unfold fL_prime
        rw [zcl_ob hhd, c1]
        rfl
      · obtain ⟨r, r1, r2, r3⟩ := zthr (j := 2) (f := fX6_prime (ad 11) (ci p')) hx hK hin hcl hmo hrl hout (fun S0 hS0 => by
          obtain ⟨S1, s1, s2, s3⟩ := mpJ (a1 := ci p') hS0 (j := 2) (by omega) (by omega)
          refine ⟨0, S1, ?_, s2, s3⟩
          rw [mJ]
          unfold fX6_prime_J20
          rw [if_neg (by decide), zgI_ob hS0.1 rfl, Option.bind_some, hrl.2.1, if_neg (by rw [ci_le0 (by omega)]; exact h0)]
          exact s1) n
        exact ⟨r, r1, r2, fun hh => absurd hh (by decide), r3⟩
  · have n2 : ¬ a1 = 2 := fun hh => ha (Or.inl hh)
    have n3 : ¬ a1 = 3 := fun hh => ha (Or.inr (Or.inl hh))
    have n5 : ¬ a1 = 5 := fun hh => ha (Or.inr (Or.inr hh))
    have c1 : fX5_prime (ad 10) a1 S = some (.inr ("java/lang/IllegalArgumentException", S.1)) := by
      unfold fX5_prime
      rw [if_neg n2, if_neg n3, if_neg n5]
    refine ⟨1, S.1, ?_, fun n _ => ?_⟩
    · unfold fL_prime
      rw [zcl_ob hhd, c1]
      rfl
    · obtain ⟨r, r1, r2, r3⟩ := zthr (j := 1) (f := fX6_prime (ad 11) a1) hx hK hin hcl hmo hrl hout (fun S0 hS0 => by
        obtain ⟨S1, s1, s2, s3⟩ := mpJ (a1 := a1) hS0 (j := 1) (by omega) (by omega)
        refine ⟨0, S1, ?_, s2, s3⟩
        unfold fX6_prime fX6_prime_J20
        rw [if_neg n2, if_neg n3, if_neg n5, if_pos rfl]
        exact s1) n
      exact ⟨r, r1, r2, fun hh => absurd hh (by decide), r3⟩
