/-! THE CALLS over the value of a foundry: prime, cubes -/
def aPrime (T : TZ) (a1 : Int32) : Option (Int32 × TZ) := match T with
  | (p, cc, wc, CA, CG, WA, WG, WV) => if (a1 = 2 ∨ a1 = 3 ∨ a1 = 5) ∧ cc = 0 then some (ci p, (nn a1, cc, wc, CA, CG, WA, WG, WV)) else none
theorem op_prime {S : ZS} {ad : Nat → Nat} {T : TZ} (h : zQ S ad T) (a1 : Int32) : zOpF ["java/lang/IllegalArgumentException", "java/lang/IllegalStateException"] (aPrime T a1) (fX5_prime (ad 10) a1 S) S (zRes S ad T.2.1 T.2.2.1) := by
  obtain ⟨p, cc, wc, CA, CG, WA, WG, WV⟩ := T
  obtain ⟨hK, hin, hcl⟩ := h
  have hcc := hK.2.1
  have hhd := hcl.1.1
  unfold aPrime
  simp only []
  by_cases ha : a1 = 2 ∨ a1 = 3 ∨ a1 = 5
  · have cJ : fX5_prime (ad 10) a1 S = fX5_prime_J25 (ad 10) a1 S := by
      unfold fX5_prime
      rcases ha with rfl | rfl | rfl
      · rw [if_pos rfl]
      · rw [if_neg (by decide), if_pos rfl]
      · rw [if_neg (by decide), if_neg (by decide), if_pos rfl]
    obtain ⟨p', hp', rfl⟩ : ∃ p', isP p' ∧ a1 = ci p' := by
      rcases ha with rfl | rfl | rfl
      · exact ⟨2, Or.inl rfl, rfl⟩
      · exact ⟨3, Or.inr (Or.inl rfl), rfl⟩
      · exact ⟨5, Or.inr (Or.inr rfl), rfl⟩
    have hpb := hp'.b
    by_cases h0 : cc = 0
    · have hw0 : wc = 0 := by have := hK.2.2.2; omega
      subst h0 hw0
      rw [if_pos ⟨ha, rfl⟩, nn_ci (by omega)]
      have hf : zFrm S (zwO S (ad 10) 5 [.ref (ad 0), .ref (ad 1), .ref (ad 2), .ref (ad 3), .ref (ad 4), .ref (ad 5), .int (ci p'), .int (ci 0), .int (ci 0)]) (fun b => b = ad 10) := zFrm.wO
      have kp : ∀ t, live 0 0 t → t ≠ 10 → (zwO S (ad 10) 5 [.ref (ad 0), .ref (ad 1), .ref (ad 2), .ref (ad 3), .ref (ad 4), .ref (ad 5), .int (ci p'), .int (ci 0), .int (ci 0)]).1 (ad t) = S.1 (ad t) := fun t ht h10 => hf.2 _ (fun hh => h10 (hin t 10 ht (Or.inl (Or.inl (by omega))) hh))
      have c1 : fX5_prime (ad 10) (ci p') S = some (.inl (ci p, zwO S (ad 10) 5 [.ref (ad 0), .ref (ad 1), .ref (ad 2), .ref (ad 3), .ref (ad 4), .ref (ad 5), .int (ci p'), .int (ci 0), .int (ci 0)])) := by
        rw [cJ]
        unfold fX5_prime_J25
        rw [zgI_ob hhd rfl, Option.bind_some, if_pos (by decide), zgI_ob hhd rfl, Option.bind_some, zpF_ob _ hhd (by simp), Option.bind_some]
        rfl
      have hcl' : zCl (zwO S (ad 10) 5 [.ref (ad 0), .ref (ad 1), .ref (ad 2), .ref (ad 3), .ref (ad 4), .ref (ad 5), .int (ci p'), .int (ci 0), .int (ci 0)]) ad p' 0 0 CA CG WA WG WV :=
        ⟨⟨zwO_self, (kp 0 (Or.inl (Or.inl (by omega))) (by omega)).trans hcl.1.2.1, (kp 1 (Or.inl (Or.inl (by omega))) (by omega)).trans hcl.1.2.2⟩, hcl.2.1.kp (fun t ht => kp t (Or.inl (Or.inl (by omega))) (by omega)), fun i hi => absurd hi (Nat.not_lt_zero _), fun i hi => absurd hi (Nat.not_lt_zero _)⟩
      exact ⟨_, c1, zRes.old ⟨hp', hK.2.1, hK.2.2.1, hK.2.2.2⟩ hin hcl' hf (fun b hb => ⟨10, Or.inl (by omega), hb⟩)⟩
    · rw [if_neg (fun hh => h0 hh.2)]
      refine ⟨"java/lang/IllegalStateException", by simp, ?_⟩
      rw [cJ]
      unfold fX5_prime_J25
      rw [zgI_ob hhd rfl, Option.bind_some, if_neg (by rw [ci_le0 (by omega)]; exact h0)]
  · rw [if_neg (fun hh => ha hh.1)]
    refine ⟨"java/lang/IllegalArgumentException", by simp, ?_⟩
    have n2 : ¬ a1 = 2 := fun hh => ha (Or.inl hh)
    have n3 : ¬ a1 = 3 := fun hh => ha (Or.inr (Or.inl hh))
    have n5 : ¬ a1 = 5 := fun hh => ha (Or.inr (Or.inr hh))
    unfold fX5_prime
    rw [if_neg n2, if_neg n3, if_neg n5]
theorem cmk_nm2 {cc : Nat} {a b d : Int32} : (if cmk cc a b d = 1 then "java/lang/IllegalArgumentException" else "java/lang/IllegalStateException") ∈ ["java/lang/IllegalArgumentException", "java/lang/IllegalStateException"] := by
  split <;> simp
theorem cmk_nm3 {cc : Nat} {a b d : Int32} : (if cmk cc a b d = 1 then "java/lang/IllegalArgumentException" else "java/lang/IllegalStateException") ∈ ["java/lang/IndexOutOfBoundsException", "java/lang/IllegalArgumentException", "java/lang/IllegalStateException"] := by
  split <;> simp
def aCube (T : TZ) (a1 a2 a3 : Int32) : Option (Int32 × TZ) := match T with
  | (p, cc, wc, CA, CG, WA, WG, WV) => if cmk cc a1 a2 a3 = 0 then some (ci cc, (p, cc + 1, wc, upN CA cc (nn a1) (nn a2) (nn a3) 0, upG CG cc (fun _ => 0), WA, WG, WV)) else none
theorem op_cube {S : ZS} {ad : Nat → Nat} {T : TZ} (h : zQ S ad T) (hfr : zFr S.1 S.2) (a1 a2 a3 : Int32) : zOpF ["java/lang/IllegalArgumentException", "java/lang/IllegalStateException"] (aCube T a1 a2 a3) (fX5_cube (ad 10) a1 a2 a3 S) S (zRes S ad T.2.1 T.2.2.1) := by
  obtain ⟨p, cc, wc, CA, CG, WA, WG, WV⟩ := T
  obtain ⟨hK, hin, hcl⟩ := h
  have hcc := hK.2.1
  have hhd := hcl.1
  have hlt := lt_of hcl hfr
  unfold aCube
  simp only []
  by_cases hj : cmk cc a1 a2 a3 = 0
  · rw [if_pos hj]
    obtain ⟨hc, a, b, d, hs, rfl, rfl, rfl⟩ := cmk_0 hcc hj
    have hsz := hs
    unfold szOK at hsz
    rw [nn_ci (by omega), nn_ci (by omega), nn_ci (by omega)]
    obtain ⟨S1, c1, c2, c3, c4⟩ := c_addCube hK.1 hcl hin hlt hc hs
    have hd1 := c3.1.1
    rw [adN_old (by omega) (by omega)] at hd1
    refine ⟨S1, ?_, zRes.nc hK hc c2 c3 c4⟩
    unfold fX5_cube
    rw [zcl_ob hhd.1, c1, zbT_l]
    show Option.bind (zgI S1 (ad 10) 5 7) _ = _
    rw [zgI_ob hd1 rfl, Option.bind_some, cl_1, ci_sub (by omega), Nat.add_sub_cancel]
  · rw [if_neg hj]
    refine ⟨_, cmk_nm2 (cc := cc) (a := a1) (b := a2) (d := a3), ?_⟩
    unfold fX5_cube
    rw [zcl_ob hhd.1, c_addBad hhd hcc hj, zbT_r]
def aGroup (T : TZ) (a1 : Int32) : Option (Int32 × TZ) := match T with
  | (p, cc, wc, CA, CG, WA, WG, WV) => if cmk cc a1 a1 a1 = 0 then some (ci cc, (p, cc + 1, wc, upC (upN CA cc (nn a1) (nn a1) (nn a1) 0) cc 0, upG (upG CG cc (fun _ => 0)) cc (gG (nn a1) (nn a1 * 4)), WA, WG, WV)) else none
theorem op_group {S : ZS} {ad : Nat → Nat} {T : TZ} (h : zQ S ad T) (hfr : zFr S.1 S.2) (a1 : Int32) : zOpF ["java/lang/IllegalArgumentException", "java/lang/IllegalStateException"] (aGroup T a1) (fX5_group (ad 10) a1 S) S (zRes S ad T.2.1 T.2.2.1) := by
  obtain ⟨p, cc, wc, CA, CG, WA, WG, WV⟩ := T
  obtain ⟨hK, hin, hcl⟩ := h
  have hcc := hK.2.1
  have hhd := hcl.1
  have hlt := lt_of hcl hfr
  unfold aGroup
  simp only []
  by_cases hj : cmk cc a1 a1 a1 = 0
  · rw [if_pos hj]
    obtain ⟨hc, n, b, d, hs, rfl, hb, hd⟩ := cmk_0 hcc hj
    have hs1 := hs.1
    rw [nn_ci (by omega)]
    obtain ⟨S1, c1, c2, c3, c4⟩ := c_addCube hK.1 hcl hin hlt hc (⟨hs1, hs1, hs1⟩ : szOK n n n)
    have hd1 := c3.1.1
    rw [adN_old (by omega) (by omega)] at hd1
    have hcu : zCu S1 S.2 (S.2 + 1) n n n 0 (gG n 0) := by
      have := (c3.2.2.1 cc (by omega)).1
      rw [upN_self, upG_self, adN_0, adN_1] at this
      rw [gG_0]
      exact this
    obtain ⟨S1', f1, f2, f3⟩ := c_group (l0 := ad 10) (cc := cc) hs1 hd1 rfl (by have := hlt 10 (Or.inl (Or.inl (by omega))); omega) hcu
    refine ⟨S1', ?_, zRes.fill hK hc hlt c2 c3 c4 f2 (f3.wk (fun b hb => Or.inr hb)) (gG_ok hK.1) (by omega)⟩
    unfold fX5_group
    rw [zcl_ob hhd.1, c1, zbT_l]
    show ziter (fX5_group_B10 (ad 10) (ci n) S.2) zF (ci 0, S1) = _
    exact f1
  · rw [if_neg hj]
    refine ⟨_, cmk_nm2 (cc := cc) (a := a1) (b := a1) (d := a1), ?_⟩
    unfold fX5_group
    rw [zcl_ob hhd.1, c_addBad hhd hcc hj, zbT_r]
def aPoly (T : TZ) (a1 a2 : Int32) : Option (Int32 × TZ) := match T with
  | (p, cc, wc, CA, CG, WA, WG, WV) => if (s4 a1 && s4 a2) = true ∧ cmk cc a1 a2 (a1 + a2 - 1) = 0 then some (ci cc, (p, cc + 1, wc, upC (upN CA cc (nn a1) (nn a2) (nn a1 + nn a2 - 1) 0) cc 0, upG (upG CG cc (fun _ => 0)) cc (pG (nn a1) (nn a2) (nn a1 * 4)), WA, WG, WV)) else none
theorem op_poly {S : ZS} {ad : Nat → Nat} {T : TZ} (h : zQ S ad T) (hfr : zFr S.1 S.2) (a1 a2 : Int32) : zOpF ["java/lang/IllegalArgumentException", "java/lang/IllegalStateException"] (aPoly T a1 a2) (fX5_polynomials (ad 10) a1 a2 S) S (zRes S ad T.2.1 T.2.2.1) := by
  obtain ⟨p, cc, wc, CA, CG, WA, WG, WV⟩ := T
  obtain ⟨hK, hin, hcl⟩ := h
  have hcc := hK.2.1
  have hhd := hcl.1
  have hlt := lt_of hcl hfr
  unfold aPoly
  simp only []
  cases hab : (s4 a1 && s4 a2) with
  | false =>
    rw [if_neg (fun hh => by cases hh.1)]
    refine ⟨"java/lang/IllegalArgumentException", by simp, ?_⟩
    unfold fX5_polynomials
    rw [c_needSize]
    cases h1 : s4 a1 with
    | false => rfl
    | true =>
      rw [h1] at hab
      rw [if_pos rfl, zbT_l, c_needSize]
      cases h2 : s4 a2 with
      | false => rfl
      | true => rw [h2] at hab; cases hab
  | true =>
    have hab' := hab
    rw [Bool.and_eq_true] at hab'
    obtain ⟨a, ha, rfl⟩ := s4_ex hab'.1
    obtain ⟨b, hb, rfl⟩ := s4_ex hab'.2
    have h3 : (ci a + ci b) - (1 : Int32) = ci (a + b - 1) := by rw [ci_add, cl_1, ci_sub (by omega)]
    rw [h3, nn_ci (by omega), nn_ci (by omega)]
    by_cases hj : cmk cc (ci a) (ci b) (ci (a + b - 1)) = 0
    · rw [if_pos ⟨rfl, hj⟩]
      obtain ⟨hc, a', b', d', hs', e1, e2, e3⟩ := cmk_0 hcc hj
      unfold szOK at hs'
      have e3' := (ci_eq (a := a + b - 1) (b := d') (by omega) (by omega)).mp e3
      have hs1 : a ≤ 4 ∧ b ≤ 4 ∧ a + b - 1 ≤ 4 := by omega
      have hs : szOK a b (a + b - 1) := by unfold szOK; omega
      obtain ⟨S1, c1, c2, c3, c4⟩ := c_addCube hK.1 hcl hin hlt hc hs
      have hd1 := c3.1.1
      rw [adN_old (by omega) (by omega)] at hd1
      have hcu : zCu S1 S.2 (S.2 + 1) a b (a + b - 1) 0 (pG a b 0) := by
        have := (c3.2.2.1 cc (by omega)).1
        rw [upN_self, upG_self, adN_0, adN_1] at this
        rw [pG_0]
        exact this
      obtain ⟨S1', f1, f2, f3⟩ := c_poly (l0 := ad 10) (cc := cc) hs1 hd1 rfl (by have := hlt 10 (Or.inl (Or.inl (by omega))); omega) hcu
      refine ⟨S1', ?_, zRes.fill hK hc hlt c2 c3 c4 f2 (f3.wk (fun b hb => Or.inr hb)) (pG_ok hK.1) (by omega)⟩
      unfold fX5_polynomials
      rw [c_size ha, zbT_l, c_size hb, zbT_l, h3]
      show zbT (zcl S (ad 10) 5 (fX5_addCube (ad 10) (ci a) (ci b) (ci (a + b - 1)) S)) _ = _
      rw [zcl_ob hhd.1, c1, zbT_l]
      show ziter (fX5_polynomials_B23 (ad 10) (ci a) (ci b) S.2) zF (ci 0, S1) = _
      exact f1
    · rw [if_neg (fun hh => hj hh.2)]
      refine ⟨_, cmk_nm2 (cc := cc) (a := ci a) (b := ci b) (d := ci (a + b - 1)), ?_⟩
      unfold fX5_polynomials
      rw [c_size ha, zbT_l, c_size hb, zbT_l, h3]
      show zbT (zcl S (ad 10) 5 (fX5_addCube (ad 10) (ci a) (ci b) (ci (a + b - 1)) S)) _ = _
      rw [zcl_ob hhd.1, c_addBad hhd hcc hj, zbT_r]
def aMat (T : TZ) (a1 a2 a3 : Int32) : Option (Int32 × TZ) := match T with
  | (p, cc, wc, CA, CG, WA, WG, WV) => if s43 a1 a2 a3 = true ∧ cmk cc (a1 * a2) (a2 * a3) (a1 * a3) = 0 then some (ci cc, (p, cc + 1, wc, upC (upN CA cc (nn a1 * nn a2) (nn a2 * nn a3) (nn a1 * nn a3) 0) cc (if nn a1 = nn a2 ∧ nn a2 = nn a3 then nn a1 else 0), upG (upG CG cc (fun _ => 0)) cc (gM (nn a2) (nn a3) ((nn a1 * nn a2) * nn a3)), WA, WG, WV)) else none
theorem op_mat {S : ZS} {ad : Nat → Nat} {T : TZ} (h : zQ S ad T) (hfr : zFr S.1 S.2) (a1 a2 a3 : Int32) : zOpF ["java/lang/IllegalArgumentException", "java/lang/IllegalStateException"] (aMat T a1 a2 a3) (fX5_matrices (ad 10) a1 a2 a3 S) S (zRes S ad T.2.1 T.2.2.1) := by
  obtain ⟨p, cc, wc, CA, CG, WA, WG, WV⟩ := T
  obtain ⟨hK, hin, hcl⟩ := h
  have hcc := hK.2.1
  have hhd := hcl.1
  have hlt := lt_of hcl hfr
  unfold aMat
  simp only []
  cases hab : s43 a1 a2 a3 with
  | false =>
    rw [if_neg (fun hh => by cases hh.1)]
    refine ⟨"java/lang/IllegalArgumentException", by simp, ?_⟩
    unfold s43 at hab
    unfold fX5_matrices
    rw [c_needSize]
    cases h1 : s4 a1 with
    | false => rfl
    | true =>
      rw [h1] at hab
      rw [if_pos rfl, zbT_l, c_needSize]
      cases h2 : s4 a2 with
      | false => rfl
      | true =>
        rw [h2] at hab
        rw [if_pos rfl, zbT_l, c_needSize]
        cases h3 : s4 a3 with
        | false => rfl
        | true => rw [h3] at hab; cases hab
  | true =>
    have hab' := hab
    unfold s43 at hab'
    rw [Bool.and_eq_true, Bool.and_eq_true] at hab'
    obtain ⟨a, ha, rfl⟩ := s4_ex hab'.1
    obtain ⟨b, hb, rfl⟩ := s4_ex hab'.2.1
    obtain ⟨e, he, rfl⟩ := s4_ex hab'.2.2
    have q1 : a * b ≤ 4 * 4 := Nat.mul_le_mul ha.2 hb.2
    have q2 : b * e ≤ 4 * 4 := Nat.mul_le_mul hb.2 he.2
    have q3 : a * e ≤ 4 * 4 := Nat.mul_le_mul ha.2 he.2
    have p1 : 1 ≤ a * b := Nat.mul_pos ha.1 hb.1
    have p2 : 1 ≤ b * e := Nat.mul_pos hb.1 he.1
    have p3 : 1 ≤ a * e := Nat.mul_pos ha.1 he.1
    rw [ci_mul, ci_mul, ci_mul, nn_ci (by omega), nn_ci (by omega), nn_ci (by omega)]
    by_cases hj : cmk cc (ci (a * b)) (ci (b * e)) (ci (a * e)) = 0
    · rw [if_pos ⟨rfl, hj⟩]
      obtain ⟨hc, a', b', d', hs', e1, e2, e3⟩ := cmk_0 hcc hj
      unfold szOK at hs'
      have e1' := (ci_eq (a := a * b) (b := a') (by omega) (by omega)).mp e1
      have e2' := (ci_eq (a := b * e) (b := b') (by omega) (by omega)).mp e2
      have e3' := (ci_eq (a := a * e) (b := d') (by omega) (by omega)).mp e3
      have hs1 : a * b ≤ 4 ∧ b * e ≤ 4 ∧ a * e ≤ 4 := by omega
      have hs : szOK (a * b) (b * e) (a * e) := by unfold szOK; omega
      obtain ⟨S1, c1, c2, c3, c4⟩ := c_addCube hK.1 hcl hin hlt hc hs
      have hd1 := c3.1.1
      rw [adN_old (by omega) (by omega)] at hd1
      have hcu : zCu S1 S.2 (S.2 + 1) (a * b) (b * e) (a * e) 0 (gM b e 0) := by
        have := (c3.2.2.1 cc (by omega)).1
        rw [upN_self, upG_self, adN_0, adN_1] at this
        exact this
      have l10 := hlt 10 (Or.inl (Or.inl (by omega)))
      obtain ⟨S1', f1, f2, f3⟩ := c_mat (l0 := ad 10) (cc := cc) hs1 hb.2 he.2 ha.2 hd1 rfl (by omega) (by omega) hcu
      refine ⟨S1', ?_, zRes.fill hK hc hlt c2 c3 c4 f2 f3 (gM_ok hK.1 hs1 (by omega) (by omega)) (by split <;> omega)⟩
      unfold fX5_matrices
      rw [c_size ha, zbT_l, c_size hb, zbT_l, c_size he, zbT_l, ci_mul, ci_mul, ci_mul]
      show zbT (zcl S (ad 10) 5 (fX5_addCube (ad 10) (ci (a * b)) (ci (b * e)) (ci (a * e)) S)) _ = _
      rw [zcl_ob hhd.1, c1, zbT_l]
      show ziter (fX5_matrices_B30 (ad 10) (ci a) (ci b) (ci e) S.2) zF (ci 0, S1) = _
      exact f1
    · rw [if_neg (fun hh => hj hh.2)]
      refine ⟨_, cmk_nm2 (cc := cc) (a := ci (a * b)) (b := ci (b * e)) (d := ci (a * e)), ?_⟩
      unfold fX5_matrices
      rw [c_size ha, zbT_l, c_size hb, zbT_l, c_size he, zbT_l, ci_mul, ci_mul, ci_mul]
      show zbT (zcl S (ad 10) 5 (fX5_addCube (ad 10) (ci (a * b)) (ci (b * e)) (ci (a * e)) S)) _ = _
      rw [zcl_ob hhd.1, c_addBad hhd hcc hj, zbT_r]
