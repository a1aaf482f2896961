/-! LAW CASE 7: sum, whole -/
theorem s4_ci {n : Nat} (hn : n < 2147483648) : s4 (ci n) = decide (1 ≤ n ∧ n ≤ 4) := by
  unfold s4
  congr 1
  rw [cl_1, cl_4, ci_le (by omega) hn, ci_le hn (by omega)]
theorem cmk_ok {cc a b d : Nat} (h : szOK a b d) : cmk cc (ci a) (ci b) (ci d) = if cc = 16 then 2 else 0 := by
  unfold szOK at h
  unfold cmk s43
  rw [s4_ci (by omega), s4_ci (by omega), s4_ci (by omega), decide_eq_true h.1, decide_eq_true h.2.1, decide_eq_true h.2.2]
  rfl
theorem cmk_no {cc a b d : Nat} (ha : a < 2147483648) (hb : b < 2147483648) (hd : d < 2147483648) (h : ¬ szOK a b d) : cmk cc (ci a) (ci b) (ci d) = 1 := by
  unfold szOK at h
  unfold cmk s43
  rw [s4_ci ha, s4_ci hb, s4_ci hd, if_neg]
  intro hh
  rw [Bool.and_eq_true, Bool.and_eq_true, decide_eq_true_eq, decide_eq_true_eq, decide_eq_true_eq] at hh
  exact h hh
theorem old_cu {S1 : ZS} {ad : Nat → Nat} {p cc wc a b d n i : Nat} {CA CG WA WG : Nat → Nat → Nat} {WV : Nat → Nat → Nat → Nat → Nat} {g : Nat → Nat} (hi : i < cc) (c3 : zCl S1 (adN ad cc n) p (cc + 1) wc (upN CA cc a b d 0) (upG CG cc g) WA WG WV) : zCu S1 (ad (100 + 2 * i)) (ad (101 + 2 * i)) (CA i 0) (CA i 1) (CA i 2) (CA i 3) (CG i) := by
  have := (c3.2.2.1 i (by omega)).1
  rw [upG_ne (by omega), show upN CA cc a b d 0 i = CA i from if_neg (by omega), adN_old (by omega) (by omega), adN_old (by omega) (by omega)] at this
  exact this
theorem c_isLike {S : ZS} {lc ln la lb ld lq rc rn ra rb rd rq : Nat} {gl gr : Nat → Nat} (h1 : zCu S lc ln la lb ld lq gl) (h2 : zCu S rc rn ra rb rd rq gr) (s1 : szOK la lb ld) (s2 : szOK ra rb rd) : fX0_isLike lc rc S = some (bI (decide (la = ra ∧ lb = rb ∧ ld = rd))) := by
  unfold szOK at s1 s2
  unfold fX0_isLike fX0_isLike_J37 fX0_isLike_J38
  rw [zgI_ob h1.1 rfl, Option.bind_some, zgI_ob h2.1 rfl, Option.bind_some]
  by_cases q1 : la = ra
  · rw [if_pos (by rw [q1]), zgI_ob h1.1 rfl, Option.bind_some, zgI_ob h2.1 rfl, Option.bind_some]
    by_cases q2 : lb = rb
    · rw [if_pos (by rw [q2]), zgI_ob h1.1 rfl, Option.bind_some, zgI_ob h2.1 rfl, Option.bind_some]
      by_cases q3 : ld = rd
      · rw [if_pos (by rw [q3]), decide_eq_true ⟨q1, q2, q3⟩]; rfl
      · rw [if_neg (by rw [ci_eq (by omega) (by omega)]; exact q3), decide_eq_false (fun hh => q3 hh.2.2)]; rfl
    · rw [if_neg (by rw [ci_eq (by omega) (by omega)]; exact q2), decide_eq_false (fun hh => q2 hh.2.1)]; rfl
  · rw [if_neg (by rw [ci_eq (by omega) (by omega)]; exact q1), decide_eq_false (fun hh => q1 hh.1)]; rfl
theorem m_sumPick {S : ZS} {m cc i j : Nat} {R : Nat → Nat} {X : Nat → Int32} {A : Nat → Nat → Int32} {ca cb ga gb : Nat → Nat} (h : zMo S m R X A) (hX : X 2 = ci cc) (hc : cc ≤ 16) (hi : i < cc) (hj : j < cc) (yi : mCu A i ca ga) (yj : mCu A j cb gb) (s1 : szOK (ca 0) (ca 1) (ca 2)) (s2 : szOK (cb 0) (cb 1) (cb 2)) : fX6_sum m (ci i) (ci j) S = fX6_sum_J96 m (ci i) (ci j) 1 (bI (decide (ca 0 = cb 0 ∧ ca 1 = cb 1 ∧ ca 2 = cb 2))) S := by
  unfold szOK at s1 s2
  unfold fX6_sum fX6_sum_J20 fX6_sum_J21
  rw [h.cl, m_isCube h hX hc, Option.bind_some, bl_ci (by omega) (by omega), decide_eq_true hi, if_neg (show ¬ bI true = 0 by decide), h.cl, m_isCube h hX hc, Option.bind_some, bl_ci (by omega) (by omega), decide_eq_true hj, if_neg (show ¬ bI true = 0 by decide), if_neg (show ¬ (1 : Int32) = 0 by decide)]
  rw [zgR_ob h.1 rfl, Option.bind_some, m_cs0 h yi (by omega), Option.bind_some, Option.bind_some, m_cs0 h yj (by omega), Option.bind_some]
  unfold fX6_sum_J95
  by_cases q1 : ca 0 = cb 0
  · rw [if_pos (by rw [q1]), Option.bind_some, m_cs1 h yi (by omega), Option.bind_some, Option.bind_some, m_cs1 h yj (by omega), Option.bind_some]
    by_cases q2 : ca 1 = cb 1
    · rw [if_pos (by rw [q2]), Option.bind_some, m_cs2 h yi (by omega), Option.bind_some, Option.bind_some, m_cs2 h yj (by omega), Option.bind_some]
      by_cases q3 : ca 2 = cb 2
      · rw [if_pos (by rw [q3]), decide_eq_true ⟨q1, q2, q3⟩]; rfl
      · rw [if_neg (by rw [ci_eq (by omega) (by omega)]; exact q3), decide_eq_false (fun hh => q3 hh.2.2)]; rfl
    · rw [if_neg (by rw [ci_eq (by omega) (by omega)]; exact q2), decide_eq_false (fun hh => q2 hh.2.1)]; rfl
  · rw [if_neg (by rw [ci_eq (by omega) (by omega)]; exact q1), decide_eq_false (fun hh => q1 hh.1)]; rfl
theorem m_sumNo {S : ZS} {m cc : Nat} {a1 a2 : Int32} {R : Nat → Nat} {X : Nat → Int32} {A : Nat → Nat → Int32} (h : zMo S m R X A) (hX : X 2 = ci cc) (hc : cc ≤ 16) (hb : (bl cc a1 && bl cc a2) = false) : fX6_sum m a1 a2 S = fX6_sum_J130 m a1 a2 m (1 : Int32) S := by
  unfold fX6_sum fX6_sum_J20 fX6_sum_J21
  rw [h.cl, m_isCube h hX hc, Option.bind_some]
  cases h1 : bl cc a1 with
  | false => rfl
  | true =>
    rw [h1] at hb
    rw [if_neg (show ¬ bI true = 0 by decide), h.cl, m_isCube h hX hc, Option.bind_some]
    cases h2 : bl cc a2 with
    | false => rfl
    | true => rw [h2] at hb; cases hb
theorem m_sumBad {S : ZS} {m j : Nat} {a1 a2 : Int32} {R : Nat → Nat} {X : Nat → Int32} {A : Nat → Nat → Int32} (h : zMo S m R X A) (hj : j < 2147483648) (h0 : 0 < j) : ∃ S1, fX6_sum_J130 m a1 a2 m (ci j) S = some ((0 : Int32), S1) ∧ zMo S1 m R (mX X 0 (ci j)) A ∧ zFrm S S1 (mP m R) := by
  obtain ⟨S1, h1, h2, h3⟩ := m_badP h hj h0
  refine ⟨S1, ?_, h2, h3⟩
  unfold fX6_sum_J130
  rw [h1, Option.bind_some, if_pos rfl]
theorem ok7 {x m out : Nat} {a1 a2 : Int32} {S : ZS} (h : zI x m out S) (hfr : zFr S.1 S.2) : ok_7 x m out a1 a2 S (zI x m out) := by
  obtain ⟨ad, p, cc, wc, CA, CG, WA, WG, WV, X, A, fo, hx, hK, hin, hcl, hmo, hrl, hout⟩ := h
  have hx' := hx
  obtain ⟨rfl, rfl, rfl⟩ := hx'
  have hcc := hK.2.1
  have hhd := hcl.1
  have hlt := lt_of hcl hmo hout hfr
  have thr : ∀ (j : Nat) (nm : String), 0 < j → j < 100 → fX5_sum (ad 10) a1 a2 S = some (.inr (nm, S.1)) → zcatchN nm S.1 1 ["java/lang/IndexOutOfBoundsException", "java/lang/IllegalArgumentException", "java/lang/IllegalStateException"] = some (ci j, S.1) → (∀ S0, zMo S0 (ad 11) (mR ad) X A → fX6_sum (ad 11) a1 a2 S0 = fX6_sum_J130 (ad 11) a1 a2 (ad 11) (ci j) S0) → ok_7 (ad 10) (ad 11) (ad 12) a1 a2 S (zI (ad 10) (ad 11) (ad 12)) := by
    intro j nm hj0 hj h1 h2 h3
    refine ⟨ci j, S.1, ?_, fun n _ => ?_⟩
    · unfold fL_sum
      rw [zcl_ob hhd.1, h1]
      exact h2
    · obtain ⟨r, r1, r2, r3⟩ := zthr (j := j) (f := fX6_sum (ad 11) a1 a2) hx hK hin hcl hmo hrl hout (fun S0 hS0 => by
        obtain ⟨S1, s1, s2, s3⟩ := m_sumBad (a1 := a1) (a2 := a2) hS0 (j := j) (by omega) hj0
        exact ⟨0, S1, by rw [h3 S0 hS0, s1], s2, s3⟩) n
      exact ⟨r, r1, r2, fun hh => absurd hh (by rw [cl_0, ci_eq (by omega) (by omega)]; omega), r3⟩
  cases hb : (bl cc a1 && bl cc a2) with
  | false =>
    refine thr 1 "java/lang/IndexOutOfBoundsException" (by omega) (by omega) ?_ rfl (fun S0 hS0 => m_sumNo hS0 hrl.2.1 hcc hb)
    unfold fX5_sum
    cases h1 : bl cc a1 with
    | false => rw [zcl_ob hhd.1, c_noCube hhd hcc h1, zbT_r]
    | true =>
      obtain ⟨i, hi, rfl⟩ := bl_ex (by omega) h1
      rw [h1] at hb
      rw [zcl_ob hhd.1, c_needCube hhd hcc hi, zbT_l]
      show zbT (zcl S (ad 10) 5 (fX5_needCube (ad 10) a2 S)) _ = _
      rw [zcl_ob hhd.1, c_noCube hhd hcc (by rw [Bool.true_and] at hb; exact hb), zbT_r]
  | true =>
    rw [Bool.and_eq_true] at hb
    obtain ⟨i, hi, rfl⟩ := bl_ex (by omega) hb.1
    obtain ⟨j, hj, rfl⟩ := bl_ex (by omega) hb.2
    have hci := hcl.2.2.1 i hi
    have hcj := hcl.2.2.1 j hj
    have hmi := hrl.2.2.2.1 i hi
    have hmj := hrl.2.2.2.1 j hj
    have cN : ∀ q, q < cc → zcl S (ad 10) 5 (fX5_needCube (ad 10) (ci q) S) = some (.inl (ad (100 + 2 * q), S)) := fun q hq => by rw [zcl_ob hhd.1]; exact c_needCube hhd hcc hq
    have hd0 : fX5_sum (ad 10) (ci i) (ci j) S = if bI (decide (CA i 0 = CA j 0 ∧ CA i 1 = CA j 1 ∧ CA i 2 = CA j 2)) = 0 then some (.inr ("java/lang/IllegalArgumentException", S.1)) else zbT (fX5_addCube (ad 10) (ci (CA i 0)) (ci (CA i 1)) (ci (CA i 2)) S) (fun x7 => ziter (fX5_sum_B53 (ad 10) (ad (100 + 2 * i)) (ad (100 + 2 * j)) x7.1) zF ((0 : Int32), x7.2)) := by
      unfold fX5_sum
      rw [cN i hi, zbT_l]
      show zbT (zcl S (ad 10) 5 (fX5_needCube (ad 10) (ci j) S)) _ = _
      rw [cN j hj, zbT_l]
      show Option.bind (zcl S (ad (100 + 2 * i)) 0 (fX0_isLike (ad (100 + 2 * i)) (ad (100 + 2 * j)) S)) _ = _
      rw [zcl_cu hci.1, c_isLike hci.1 hcj.1 hci.2.1 hcj.2.1, Option.bind_some, zgI_ob hci.1.1 rfl, Option.bind_some, zgI_ob hci.1.1 rfl, Option.bind_some, zgI_ob hci.1.1 rfl, Option.bind_some, zcl_ob hhd.1]
    by_cases hlk : CA i 0 = CA j 0 ∧ CA i 1 = CA j 1 ∧ CA i 2 = CA j 2
    · rw [decide_eq_true hlk, if_neg (show ¬ bI true = 0 by decide)] at hd0
      by_cases h16 : cc = 16
      · refine thr 3 "java/lang/IllegalStateException" (by omega) (by omega) ?_ rfl (fun S0 hS0 => ?_)
        · rw [hd0, c_addBad hhd hcc (by rw [cmk_ok hci.2.1, if_pos h16]; omega), zbT_r, cmk_ok hci.2.1, if_pos h16]
          rfl
        · rw [m_sumPick hS0 hrl.2.1 hcc hi hj hmi hmj hci.2.1 hcj.2.1, decide_eq_true hlk]
          unfold fX6_sum_J96
          rw [if_neg (show ¬ (1 : Int32) = 0 by decide), if_neg (show ¬ bI true = 0 by decide), zgI_ob hS0.1 rfl, Option.bind_some, hrl.2.1, if_pos (by rw [h16]; rfl)]
          rfl
      · have hc : cc < 16 := by omega
        have hs := hci.2.1
        obtain ⟨S1, c1, c2, c3, c4⟩ := c_addCube hK.1 hcl hin hlt hc hs
        have hd1 := c3.1.1
        rw [adN_old (by omega) (by omega)] at hd1
        have hcu : zCu S1 S.2 (S.2 + 1) (CA i 0) (CA i 1) (CA i 2) 0 (gF (CA i 0) (CA i 1) (CA i 2) (sF p (CG i) (CG j)) 0) := by
          have := (c3.2.2.1 cc (by omega)).1
          rw [upN_self, upG_self, adN_0, adN_1] at this
          rw [gF_0]
          exact this
        have lv : ∀ t, t = 10 ∨ t = 100 + 2 * i ∨ t = 101 + 2 * i ∨ t = 100 + 2 * j ∨ t = 101 + 2 * j → ad t ≠ S.2 + 1 := fun t ht => by
          have := hlt t (Or.inl (by unfold cT; omega))
          omega
        have hsz := hs
        unfold szOK at hsz
        have B : fBasesum S1 (ad 10) (ad (100 + 2 * i)) (ad (101 + 2 * i)) (ad (100 + 2 * j)) (ad (101 + 2 * j)) (S.2 + 1) p (CA i 0) (CA i 1) (CA i 2) (CA i 0) (CA i 1) (CA i 2) (CA i 3) (CA j 0) (CA j 1) (CA j 2) (CA j 3) _ (CG i) (CG j) := ⟨⟨hsz.1.1, hsz.1.2, hsz.2.1.1, hsz.2.1.2, hsz.2.2.1, hsz.2.2.2⟩, hd1, rfl, old_cu hi c3, old_cu hj c3, ⟨lv _ (by omega), lv _ (by omega), lv _ (by omega), lv _ (by omega), lv _ (by omega)⟩, hK.1, hci.2.2.1, hcj.2.2.1, rfl, rfl, rfl, hlk⟩
        obtain ⟨S1', f1, f2, f3⟩ := c_sum1 (c := S.2) (q := 0) (cc := cc) B rfl hcu
        have olr : cOK p (CA i 0) (CA i 1) (CA i 2) (CG j) := by rw [hlk.1, hlk.2.1, hlk.2.2]; exact hcj.2.2.1
        obtain ⟨S2, e1, e2⟩ := fill_fin (f := fX6_sum (ad 11) (ci i) (ci j)) hK hc hmo hrl hout c2 c3 c4 f2 (f3.wk (fun b hb => Or.inr hb)) (gF_ok hK.1 (sF_lt hK.1)) (by omega) (fun S0 hS0 => by
          obtain ⟨T1, s1, s2, s3⟩ := m_good hS0
          obtain ⟨T2, A2, t1, t2, t3, t4, t5, t6, t7⟩ := m_make (a := CA i 0) (b := CA i 1) (d := CA i 2) s2 (cc := cc) hrl.2.1 hc
          have hmi' : mNum A2 i (CG i) := (show mNum A i (CG i) from hmi.2.1).z hi t6
          have hmj' : mNum A2 j (CG j) := (show mNum A j (CG j) from hmj.2.1).z hj t6
          obtain ⟨T3, u1, A3, u2, u3, u4, u5, u6⟩ := m_sum (S := T2) (S0 := T2) hc hi hj hK.1 (X := mX (mX X 0 0) 2 (ci (cc + 1))) hrl.1 hmi' hmj' hci.2.2.1 olr ⟨A2, t2, fun y hy => by rw [t4 y hy]; rfl, mV.rf, rfl, zFrm.rf⟩
          refine ⟨T1, T2, T3, A2, A3, s3, t7, t6, t3, t4, t5, ?_, u2, u3, u4, by rw [u5, t5]; rfl, u6⟩
          rw [m_sumPick hS0 hrl.2.1 hcc hi hj hmi hmj hci.2.1 hcj.2.1, decide_eq_true hlk]
          unfold fX6_sum_J96
          rw [if_neg (show ¬ (1 : Int32) = 0 by decide), if_neg (show ¬ bI true = 0 by decide), zgI_ob hS0.1 rfl, Option.bind_some, hrl.2.1, if_neg (by rw [cl_16, ci_eq (by omega) (by omega)]; exact h16)]
          unfold fX6_sum_J130
          rw [hS0.cl, s1, Option.bind_some, if_neg (show ¬ ((1 : Int32) = 0) by decide), zgR_ob s2.1 rfl, Option.bind_some, m_cs0 s2 hmi (by omega), Option.bind_some, Option.bind_some, m_cs1 s2 hmi (by omega), Option.bind_some, Option.bind_some, m_cs2 s2 hmi (by omega), Option.bind_some, s2.cl, t1, Option.bind_some, cl_0]
          exact u1)
        refine ⟨0, S2.1, ?_, fun n _ => ?_⟩
        · unfold fL_sum
          rw [zcl_ob hhd.1, hd0, c1, zbT_l]
          show zcatch (ziter (fX5_sum_B53 (ad 10) (ad (100 + 2 * i)) (ad (100 + 2 * j)) S.2) zF (ci 0, S1)) _ _ = _
          rw [f1]
          show Option.bind (zsJ _ (ad 12) 0 _) _ = _
          rw [e1, Option.bind_some]
        · obtain ⟨r, r1, r2, r3, r4, r5⟩ := e2 n
          exact ⟨r, r1, r2, fun _ => by rw [r3, r4], r5⟩
    · rw [decide_eq_false hlk, if_pos bI_f] at hd0
      refine thr 2 "java/lang/IllegalArgumentException" (by omega) (by omega) hd0 rfl (fun S0 hS0 => ?_)
      rw [m_sumPick hS0 hrl.2.1 hcc hi hj hmi hmj hci.2.1 hcj.2.1, decide_eq_false hlk]
      unfold fX6_sum_J96
      rw [if_neg (show ¬ (1 : Int32) = 0 by decide), if_pos bI_f]
      rfl
