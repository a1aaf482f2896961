/-! LAW CASE 6: move, whole -/
def tm (p : Nat) (a : Int32) : Bool := decide (1 ≤ a ∧ a < ci p)
theorem tm_ex {p : Nat} {a : Int32} (hp : p < 2147483648) (h : tm p a = true) : ∃ t, 1 ≤ t ∧ t < p ∧ a = ci t := by
  unfold tm at h
  rw [decide_eq_true_eq] at h
  obtain ⟨t, ht, rfl⟩ := ci_of (x := a) (Int32.le_trans (by decide) h.1)
  exact ⟨t, (ci_le (a := 1) (by omega) ht).mp h.1, (ci_lt ht hp).mp h.2, rfl⟩
theorem m_in1 {p : Nat} {a : Int32} (hp : 2 ≤ p ∧ p ≤ 5) : fX6_in a (1 : Int32) (ci p - (1 : Int32)) = some (bI (tm p a)) := by
  unfold fX6_in fX6_in_J14 fX6_in_J15 tm
  by_cases h1 : a < 1
  · rw [if_pos h1, decide_eq_false (fun hh => Int32.not_lt.mpr hh.1 h1)]; rfl
  · rw [if_neg h1]
    obtain ⟨t, ht, rfl⟩ := ci_of (x := a) (Int32.le_trans (by decide) (Int32.not_lt.mp h1))
    rw [show (ci p - (1 : Int32)) = ci (p - 1) by rw [cl_1, ci_sub (by omega)]]
    by_cases h2 : t < p
    · rw [if_neg (by rw [ci_lt (by omega) ht]; omega), decide_eq_true ⟨Int32.not_lt.mp h1, (ci_lt ht (by omega)).mpr h2⟩]; rfl
    · rw [if_pos (by rw [ci_lt (by omega) ht]; omega), decide_eq_false (fun hh => h2 ((ci_lt ht (by omega)).mp hh.2))]; rfl
theorem c_needSlice {S : ZS} {c n a b d q s : Nat} {g : Nat → Nat} {x : Int32} (h : zCu S c n a b d q g) (hs : s < 3) (hz : szOK a b d) : fX5_needSlice c (ci s) x S = if bl (sz3 a b d s) x = true then some (.inl ((), S)) else some (.inr ("java/lang/IndexOutOfBoundsException", S.1)) := by
  have := sz3_b hz (s := s)
  unfold fX5_needSlice
  rw [zcl_cu h, g_sizeOf h hs, Option.bind_some, c_isBelow (by omega), Option.bind_some]
  cases bl (sz3 a b d s) x <;> rfl
/-- the class's move up to its exceptions -/
theorem c_mvPick {S : ZS} {ad : Nat → Nat} {p cc wc i : Nat} {a2 a3 a4 a5 : Int32} {c g : Nat → Nat} (hhd : zHd S ad p cc wc) (hcc : cc ≤ 16) (hi : i < cc) (hcb : zCb S ad p i c g) (hpb : 2 ≤ p ∧ p ≤ 5) {s : Nat} (hs : s < 3) (h2 : a2 = ci s) (h3 : bl (sz3 (c 0) (c 1) (c 2) s) a3 = true) (h4 : bl (sz3 (c 0) (c 1) (c 2) s) a4 = true) :
    fX5_move (ad 10) (ci i) a2 a3 a4 a5 S = if a3 = a4 ∨ tm p a5 = false then some (.inr ("java/lang/IllegalArgumentException", S.1)) else
      Option.bind (fX0_addSlice (ad (100 + 2 * i)) a2 a3 a4 a5 (ci p) S) fun x7 => Option.bind (zpF x7 (ad (100 + 2 * i)) 0 4 (.int (0 : Int32))) fun S8 => Option.bind (zcl S8 (ad (100 + 2 * i)) 0 (fX0_countOthersThanZero (ad (100 + 2 * i)) S8)) fun x9 => some (.inl (x9, S8)) := by
  subst h2
  unfold fX5_move fX5_move_J57
  rw [zcl_ob hhd.1, c_needCube hhd hcc hi, zbT_l]
  show zbT (fX5_needSide (ci s) S) _ = _
  rw [c_needSide, if_pos (by rw [bl_ci (by omega) (by omega)]; exact decide_eq_true hs), zbT_l]
  show zbT (fX5_needSlice (ad (100 + 2 * i)) (ci s) a3 S) _ = _
  rw [c_needSlice hcb.1 hs hcb.2.1, if_pos h3, zbT_l]
  show zbT (fX5_needSlice (ad (100 + 2 * i)) (ci s) a4 S) _ = _
  rw [c_needSlice hcb.1 hs hcb.2.1, if_pos h4, zbT_l]
  by_cases q : a3 = a4
  · rw [if_pos q, if_pos (Or.inl q)]
  · rw [if_neg q]
    by_cases l1 : a5 < 1
    · rw [if_pos l1, if_pos (Or.inr (show tm p a5 = false from decide_eq_false (fun hh => Int32.not_lt.mpr hh.1 l1)))]
    · rw [if_neg l1]
      show Option.bind (zgI S (ad 10) 5 6) _ = _
      rw [zgI_ob hhd.1 rfl, Option.bind_some]
      by_cases l2 : a5 < ci p
      · have ht : tm p a5 = true := decide_eq_true ⟨Int32.not_lt.mp l1, l2⟩
        rw [if_pos l2, if_neg (fun hh => hh.elim q (by rw [ht]; exact Bool.noConfusion))]
        rw [Option.bind_some]
        show Option.bind (zcl S (ad (100 + 2 * i)) 0 (fX0_addSlice (ad (100 + 2 * i)) (ci s) a3 a4 a5 (ci p) S)) _ = _
        rw [zcl_cu hcb.1]
      · rw [if_neg l2, if_pos (Or.inr (show tm p a5 = false from decide_eq_false (fun hh => l2 hh.2)))]
theorem c_mvNo {S : ZS} {ad : Nat → Nat} {p cc wc i : Nat} {a2 a3 a4 a5 : Int32} {c g : Nat → Nat} (hhd : zHd S ad p cc wc) (hcc : cc ≤ 16) (hi : i < cc) (hcb : zCb S ad p i c g) (h : bl 3 a2 = false ∨ ∃ s, s < 3 ∧ a2 = ci s ∧ (bl (sz3 (c 0) (c 1) (c 2) s) a3 && bl (sz3 (c 0) (c 1) (c 2) s) a4) = false) : fX5_move (ad 10) (ci i) a2 a3 a4 a5 S = some (.inr ("java/lang/IndexOutOfBoundsException", S.1)) := by
  unfold fX5_move
  rw [zcl_ob hhd.1, c_needCube hhd hcc hi, zbT_l]
  show zbT (fX5_needSide a2 S) _ = _
  rw [c_needSide]
  rcases h with h | ⟨s, hs, rfl, h⟩
  · rw [h]; rfl
  · rw [if_pos (by rw [bl_ci (by omega) (by omega)]; exact decide_eq_true hs), zbT_l]
    show zbT (fX5_needSlice (ad (100 + 2 * i)) (ci s) a3 S) _ = _
    rw [c_needSlice hcb.1 hs hcb.2.1]
    cases h3 : bl (sz3 (c 0) (c 1) (c 2) s) a3 with
    | false => rfl
    | true =>
      rw [h3, Bool.true_and] at h
      rw [if_pos rfl, zbT_l]
      show zbT (fX5_needSlice (ad (100 + 2 * i)) (ci s) a4 S) _ = _
      rw [c_needSlice hcb.1 hs hcb.2.1, h]
      rfl
theorem m_mvBad {S : ZS} {m j : Nat} {a1 a2 a3 a4 a5 : Int32} {R : Nat → Nat} {X : Nat → Int32} {A : Nat → Nat → Int32} (h : zMo S m R X A) (hj : j < 2147483648) (h0 : 0 < j) : ∃ S1, fX6_move_J99 m a1 a2 a3 a4 a5 m (ci j) S = some ((0 : Int32), S1) ∧ zMo S1 m R (mX X 0 (ci j)) A ∧ zFrm S S1 (mP m R) := by
  obtain ⟨S1, h1, h2, h3⟩ := m_badP h hj h0
  refine ⟨S1, ?_, h2, h3⟩
  unfold fX6_move_J99
  rw [h1, Option.bind_some, if_pos rfl]
theorem m_mvNo0 {S : ZS} {m cc : Nat} {a1 a2 a3 a4 a5 : Int32} {R : Nat → Nat} {X : Nat → Int32} {A : Nat → Nat → Int32} (h : zMo S m R X A) (hX : X 2 = ci cc) (hc : cc ≤ 16) (hb : bl cc a1 = false) : fX6_move m a1 a2 a3 a4 a5 S = fX6_move_J99 m a1 a2 a3 a4 a5 m (1 : Int32) S := by
  unfold fX6_move
  rw [h.cl, m_isCube h hX hc, Option.bind_some, hb, if_pos bI_f]
  rfl
theorem m_mvNo {S : ZS} {m cc i : Nat} {a2 a3 a4 a5 : Int32} {R : Nat → Nat} {X : Nat → Int32} {A : Nat → Nat → Int32} {c g : Nat → Nat} (h : zMo S m R X A) (hX : X 2 = ci cc) (hc : cc ≤ 16) (hi : i < cc) (y : mCu A i c g) (hz : szOK (c 0) (c 1) (c 2)) (hb : bl 3 a2 = false ∨ ∃ s, s < 3 ∧ a2 = ci s ∧ (bl (sz3 (c 0) (c 1) (c 2) s) a3 && bl (sz3 (c 0) (c 1) (c 2) s) a4) = false) : fX6_move m (ci i) a2 a3 a4 a5 S = fX6_move_J99 m (ci i) a2 a3 a4 a5 m (1 : Int32) S := by
  unfold fX6_move
  rw [h.cl, m_isCube h hX hc, Option.bind_some, bl_ci (by omega) (by omega), decide_eq_true hi, if_neg (show ¬ bI true = 0 by decide), m_isSide, Option.bind_some]
  rcases hb with hb | ⟨s, hs, rfl, hb⟩
  · rw [hb]; rfl
  · have := sz3_b hz (s := s)
    rw [bl_ci (by omega) (by omega), decide_eq_true hs, if_neg (show ¬ bI true = 0 by decide), zgR_ob h.1 rfl, Option.bind_some, m_csize h y (by omega) hs, Option.bind_some, m_in (by omega), Option.bind_some]
    cases h3 : bl (sz3 (c 0) (c 1) (c 2) s) a3 with
    | false => rfl
    | true =>
      rw [h3, Bool.true_and] at hb
      rw [if_neg (show ¬ bI true = 0 by decide), Option.bind_some, m_csize h y (by omega) hs, Option.bind_some, m_in (by omega), Option.bind_some, hb]
      rfl
theorem m_mvPick {S : ZS} {m cc i s p : Nat} {a3 a4 a5 : Int32} {R : Nat → Nat} {X : Nat → Int32} {A : Nat → Nat → Int32} {c g : Nat → Nat} (h : zMo S m R X A) (hX : X 2 = ci cc) (hp : X 1 = ci p) (hpb : 2 ≤ p ∧ p ≤ 5) (hc : cc ≤ 16) (hi : i < cc) (y : mCu A i c g) (hz : szOK (c 0) (c 1) (c 2)) (hs : s < 3) (h3 : bl (sz3 (c 0) (c 1) (c 2) s) a3 = true) (h4 : bl (sz3 (c 0) (c 1) (c 2) s) a4 = true) : fX6_move m (ci i) (ci s) a3 a4 a5 S = if a3 = a4 ∨ tm p a5 = false then fX6_move_J99 m (ci i) (ci s) a3 a4 a5 m (2 : Int32) S else fX6_move_J99 m (ci i) (ci s) a3 a4 a5 m (0 : Int32) S := by
  have := sz3_b hz (s := s)
  unfold fX6_move fX6_move_J61
  rw [h.cl, m_isCube h hX hc, Option.bind_some, bl_ci (by omega) (by omega), decide_eq_true hi, if_neg (show ¬ bI true = 0 by decide), m_isSide, Option.bind_some, bl_ci (by omega) (by omega), decide_eq_true hs, if_neg (show ¬ bI true = 0 by decide), zgR_ob h.1 rfl, Option.bind_some, m_csize h y (by omega) hs, Option.bind_some, m_in (by omega), Option.bind_some, h3, if_neg (show ¬ bI true = 0 by decide), Option.bind_some, m_csize h y (by omega) hs, Option.bind_some, m_in (by omega), Option.bind_some, h4, if_neg (show ¬ bI true = 0 by decide), if_neg (show ¬ (1 : Int32) = 0 by decide)]
  by_cases q : a3 = a4
  · rw [if_pos q, if_pos (Or.inl q)]; rfl
  · rw [if_neg q, zgI_ob h.1 rfl, Option.bind_some, hp, m_in1 hpb, Option.bind_some]
    cases ht : tm p a5 with
    | false => rw [if_pos bI_f, if_pos (Or.inr rfl)]; rfl
    | true => rw [if_neg (show ¬ bI true = 0 by decide), if_neg (fun hh => hh.elim q (fun x => Bool.noConfusion x))]
theorem ok6 {x m out : Nat} {a1 a2 a3 a4 a5 : Int32} {S : ZS} (h : zI x m out S) : ok_6 x m out a1 a2 a3 a4 a5 S (zI x m out) := by
  obtain ⟨ad, p, cc, wc, CA, CG, WA, WG, WV, X, A, fo, hx, hK, hin, hcl, hmo, hrl, hout⟩ := h
  have hx' := hx
  obtain ⟨rfl, rfl, rfl⟩ := hx'
  have hcc := hK.2.1
  have hhd := hcl.1
  have hpb := hK.1.b
  have thr : ∀ (j : Nat) (nm : String), 0 < j → j < 100 → fX5_move (ad 10) a1 a2 a3 a4 a5 S = some (.inr (nm, S.1)) → zcatchN nm S.1 1 ["java/lang/IndexOutOfBoundsException", "java/lang/IllegalArgumentException"] = some (ci j, S.1) → (∀ S0, zMo S0 (ad 11) (mR ad) X A → fX6_move (ad 11) a1 a2 a3 a4 a5 S0 = fX6_move_J99 (ad 11) a1 a2 a3 a4 a5 (ad 11) (ci j) S0) → ok_6 (ad 10) (ad 11) (ad 12) a1 a2 a3 a4 a5 S (zI (ad 10) (ad 11) (ad 12)) := by
    intro j nm hj0 hj h1 h2 h3
    refine ⟨ci j, S.1, ?_, fun n _ => ?_⟩
    · unfold fL_move
      rw [zcl_ob hhd.1, h1]
      exact h2
    · obtain ⟨r, r1, r2, r3⟩ := zthr (j := j) (f := fX6_move (ad 11) a1 a2 a3 a4 a5) hx hK hin hcl hmo hrl hout (fun S0 hS0 => by
        obtain ⟨S1, s1, s2, s3⟩ := m_mvBad (a1 := a1) (a2 := a2) (a3 := a3) (a4 := a4) (a5 := a5) hS0 (j := j) (by omega) hj0
        exact ⟨0, S1, by rw [h3 S0 hS0, s1], s2, s3⟩) n
      exact ⟨r, r1, r2, fun hh => absurd hh (by rw [cl_0, ci_eq (by omega) (by omega)]; omega), r3⟩
  cases hb : bl cc a1 with
  | false =>
    refine thr 1 "java/lang/IndexOutOfBoundsException" (by omega) (by omega) ?_ rfl (fun S0 hS0 => m_mvNo0 hS0 hrl.2.1 hcc hb)
    unfold fX5_move
    rw [zcl_ob hhd.1, c_noCube hhd hcc hb, zbT_r]
  | true =>
    obtain ⟨i, hi, rfl⟩ := bl_ex (by omega) hb
    have hcb := hcl.2.2.1 i hi
    have hmc := hrl.2.2.2.1 i hi
    have hsz := hcb.2.1
    by_cases hno : bl 3 a2 = false ∨ ∃ s, s < 3 ∧ a2 = ci s ∧ (bl (sz3 (CA i 0) (CA i 1) (CA i 2) s) a3 && bl (sz3 (CA i 0) (CA i 1) (CA i 2) s) a4) = false
    · exact thr 1 "java/lang/IndexOutOfBoundsException" (by omega) (by omega) (c_mvNo hhd hcc hi hcb hno) rfl (fun S0 hS0 => m_mvNo hS0 hrl.2.1 hcc hi hmc hsz hno)
    · have h2 : bl 3 a2 = true := by
        cases q : bl 3 a2 with
        | false => exact absurd (Or.inl q) hno
        | true => rfl
      obtain ⟨s, hs, rfl⟩ := bl_ex (by omega) h2
      have h34 : (bl (sz3 (CA i 0) (CA i 1) (CA i 2) s) a3 && bl (sz3 (CA i 0) (CA i 1) (CA i 2) s) a4) = true := by
        cases q : (bl (sz3 (CA i 0) (CA i 1) (CA i 2) s) a3 && bl (sz3 (CA i 0) (CA i 1) (CA i 2) s) a4) with
        | false => exact absurd (Or.inr ⟨s, hs, rfl, q⟩) hno
        | true => rfl
      rw [Bool.and_eq_true] at h34
      have hsb := sz3_b hsz (s := s)
      obtain ⟨h3, h4⟩ := h34
      have cP := c_mvPick (a5 := a5) hhd hcc hi hcb hpb hs rfl h3 h4
      have mP' := fun S0 (hS0 : zMo S0 (ad 11) (mR ad) X A) => m_mvPick (a5 := a5) hS0 hrl.2.1 hrl.1 hpb hcc hi hmc hsz hs h3 h4
      by_cases hbad : a3 = a4 ∨ tm p a5 = false
      · rw [if_pos hbad] at cP
        exact thr 2 "java/lang/IllegalArgumentException" (by omega) (by omega) cP rfl (fun S0 hS0 => by rw [mP' S0 hS0, if_pos hbad]; rfl)
      · rw [if_neg hbad] at cP
        obtain ⟨f, hf, rfl⟩ := bl_ex (by omega) h3
        obtain ⟨e, he, rfl⟩ := bl_ex (by omega) h4
        have ht : tm p a5 = true := by
          cases q : tm p a5 with
          | false => exact absurd (Or.inr q) hbad
          | true => rfl
        obtain ⟨ti, ht1, ht2, rfl⟩ := tm_ex (by omega) ht
        have mok := mv_ok (c := ti) hK.1 hcb.2.2.1 hs he hf hsz (n := 16) (by omega)
        obtain ⟨S1, f1, f2, f3⟩ := c_addSlice hK.1 hcb.2.2.1 hs he hf hsz ht2 hcb.1
        obtain ⟨S1', f1', f2', f3'⟩ := zwO_cu 0 f2
        have hfr : zFrm S S1' (fun b => b = ad (100 + 2 * i) ∨ b = ad (101 + 2 * i)) := (f3.wk (fun _ => Or.inr)).tr (f3'.wk (fun _ => Or.inl))
        obtain ⟨g1, kp⟩ := cube_cl hcc hin hcl hi hfr f2' mok (by omega)
        obtain ⟨S2, e1, e2⟩ := zfin (f := fX6_move (ad 11) (ci i) (ci s) (ci f) (ci e) (ci ti)) (rv := ci (nz (mv s f e ti p (CG i) 16) 64)) (val := Int32.toInt64 (ci (nz (mv s f e ti p (CG i) 16) 64))) hx hK hin g1 (cube_mo hcc hi hmo kp) ((kp 12 (Or.inr (Or.inr rfl)) (by omega) (by omega)).trans hout) (fun S0 hS0 => by
          obtain ⟨T1, s1, s2, s3⟩ := m_good hS0
          obtain ⟨T2, A2, t1, t2, t3, t4, t5, t6⟩ := m_mv (S := T1) (S0 := T1) (X := mX X 0 0) (⟨by omega, hK.1, hrl.1, hcb.2.2.1, hs, he, hf, hsz, ht2⟩ : mvB (mX X 0 0) i s f e ti p (CA i 0) (CA i 1) (CA i 2) (CG i)) ⟨A, s2, hmc.2.1, mV.rf, rfl, zFrm.rf⟩
          refine ⟨T2, _, A2, ?_, t2, rfl, cube_rl hi hrl rfl rfl rfl t4 t3 (by rw [t5]; rfl), s3.tr t6⟩
          rw [mP' S0 hS0, if_neg hbad]
          unfold fX6_move_J99
          rw [hS0.cl, s1, Option.bind_some, if_neg (show ¬ ((1 : Int32) = 0) by decide), cl_64, ci_mul, cl_0]
          exact t1)
        refine ⟨0, S2.1, ?_, fun n _ => ?_⟩
        · unfold fL_move
          rw [zcl_ob hhd.1, cP, f1, Option.bind_some, cl_0, f1', Option.bind_some, zcl_cu f2', g_count f2' hK.1 mok, Option.bind_some]
          show Option.bind (zsJ _ (ad 12) 0 _) _ = _
          rw [e1, Option.bind_some]
        · obtain ⟨r, r1, r2, r3, r4, r5⟩ := e2 n
          exact ⟨r, r1, r2, fun _ => by rw [r3, r4], r5⟩
