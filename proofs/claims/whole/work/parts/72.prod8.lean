/-! LAW CASE 8: product, whole -/
theorem ziter_x {σ ρ : Type} {body : σ → Option (σ ⊕ ρ)} {x : σ} {o : Option ρ} {n : Nat} (h : body x = zex o) : ziter body (n + 1) x = o := by
  rw [ziter, h]
  cases o <;> rfl
theorem m_fit {S : ZS} {m i j s : Nat} {R : Nat → Nat} {X : Nat → Int32} {A : Nat → Nat → Int32} {ca cb ga gb : Nat → Nat} (h : zMo S m R X A) (hi : i < 16) (hj : j < 16) (yi : mCu A i ca ga) (yj : mCu A j cb gb) (s1 : szOK (ca 0) (ca 1) (ca 2)) (s2 : szOK (cb 0) (cb 1) (cb 2)) (hs : s < 3) : fX6_product_B28 m (ci i) (ci j) 1 S ((1 : Int32), ci s) = some (.inl (bI (decide (sz3 (ca 0) (ca 1) (ca 2) s * sz3 (cb 0) (cb 1) (cb 2) s ≤ 4)), ci (s + 1))) := by
  have b1 := sz3_b s1 (s := s)
  have b2 := sz3_b s2 (s := s)
  have b3 : sz3 (ca 0) (ca 1) (ca 2) s * sz3 (cb 0) (cb 1) (cb 2) s ≤ 4 * 4 := Nat.mul_le_mul b1.2 b2.2
  unfold fX6_product_B28 fX6_product_J71
  simp only []
  rw [if_neg (by rw [cl_3, ci_le (by omega) (by omega)]; omega), if_neg (show ¬ (1 : Int32) = 0 by decide), zgR_ob h.1 rfl, Option.bind_some, m_csize h yi hi hs, Option.bind_some, Option.bind_some, m_csize h yj hj hs, Option.bind_some, ci_mul]
  by_cases q : sz3 (ca 0) (ca 1) (ca 2) s * sz3 (cb 0) (cb 1) (cb 2) s ≤ 4
  · rw [if_neg (by rw [cl_4, ci_lt (by omega) (by omega)]; omega), decide_eq_true q, cl_1, ci_add]; rfl
  · rw [if_pos (by rw [cl_4, ci_lt (by omega) (by omega)]; omega), decide_eq_false q, cl_1, ci_add]; rfl
theorem m_fit0 {S : ZS} {m i j s : Nat} : fX6_product_B28 m (ci i) (ci j) 1 S ((0 : Int32), ci s) = zex (fX6_product_J79 m (ci i) (ci j) 1 0 S) := by
  unfold fX6_product_B28
  simp only []
  by_cases h : (3 : Int32) ≤ ci s
  · rw [if_pos h]
  · rw [if_neg h, if_pos trivial]
theorem m_fit3 {S : ZS} {m i j : Nat} : fX6_product_B28 m (ci i) (ci j) 1 S ((1 : Int32), ci 3) = zex (fX6_product_J79 m (ci i) (ci j) 1 1 S) := by
  unfold fX6_product_B28
  simp only []
  rw [if_pos (by rw [cl_3, ci_le (by omega) (by omega)]; omega)]
theorem zF_s : zF = 9999 + 1 := rfl
theorem m_prodPick {S : ZS} {m cc i j : Nat} {R : Nat → Nat} {X : Nat → Int32} {A : Nat → Nat → Int32} {ca cb ga gb : Nat → Nat} (h : zMo S m R X A) (hX : X 2 = ci cc) (hc : cc ≤ 16) (hi : i < cc) (hj : j < cc) (yi : mCu A i ca ga) (yj : mCu A j cb gb) (s1 : szOK (ca 0) (ca 1) (ca 2)) (s2 : szOK (cb 0) (cb 1) (cb 2)) : fX6_product m (ci i) (ci j) S = fX6_product_J79 m (ci i) (ci j) 1 (bI (decide (ca 0 * cb 0 ≤ 4 ∧ ca 1 * cb 1 ≤ 4 ∧ ca 2 * cb 2 ≤ 4))) S := by
  unfold fX6_product fX6_product_J20 fX6_product_J21
  rw [h.cl, m_isCube h hX hc, Option.bind_some, bl_ci (by omega) (by omega), decide_eq_true hi, if_neg (show ¬ bI true = 0 by decide), h.cl, m_isCube h hX hc, Option.bind_some, bl_ci (by omega) (by omega), decide_eq_true hj, if_neg (show ¬ bI true = 0 by decide)]
  have f0 := m_fit (s := 0) h (by omega) (by omega) yi yj s1 s2 (by omega)
  have f1 := m_fit (s := 1) h (by omega) (by omega) yi yj s1 s2 (by omega)
  have f2 := m_fit (s := 2) h (by omega) (by omega) yi yj s1 s2 (by omega)
  rw [show sz3 (ca 0) (ca 1) (ca 2) 0 = ca 0 from rfl, show sz3 (cb 0) (cb 1) (cb 2) 0 = cb 0 from rfl] at f0
  rw [show sz3 (ca 0) (ca 1) (ca 2) 1 = ca 1 from rfl, show sz3 (cb 0) (cb 1) (cb 2) 1 = cb 1 from rfl] at f1
  rw [show sz3 (ca 0) (ca 1) (ca 2) 2 = ca 2 from rfl, show sz3 (cb 0) (cb 1) (cb 2) 2 = cb 2 from rfl] at f2
  show ziter (fX6_product_B28 m (ci i) (ci j) 1 S) (9996 + 1 + 1 + 1 + 1) ((1 : Int32), ci 0) = _
  rw [ziter_1 f0]
  by_cases q0 : ca 0 * cb 0 ≤ 4
  · rw [decide_eq_true q0]
    show ziter (fX6_product_B28 m (ci i) (ci j) 1 S) (9996 + 1 + 1 + 1) ((1 : Int32), ci 1) = _
    rw [ziter_1 f1]
    by_cases q1 : ca 1 * cb 1 ≤ 4
    · rw [decide_eq_true q1]
      show ziter (fX6_product_B28 m (ci i) (ci j) 1 S) (9996 + 1 + 1) ((1 : Int32), ci 2) = _
      rw [ziter_1 f2]
      by_cases q2 : ca 2 * cb 2 ≤ 4
      · rw [decide_eq_true q2, decide_eq_true ⟨q0, q1, q2⟩]
        exact ziter_x m_fit3
      · rw [decide_eq_false q2, decide_eq_false (fun hh => q2 hh.2.2)]
        exact ziter_x m_fit0
    · rw [decide_eq_false q1, decide_eq_false (fun hh => q1 hh.2.1)]
      exact ziter_x m_fit0
  · rw [decide_eq_false q0, decide_eq_false (fun hh => q0 hh.1)]
    exact ziter_x m_fit0
theorem m_prodNo {S : ZS} {m cc : Nat} {a1 a2 : Int32} {R : Nat → Nat} {X : Nat → Int32} {A : Nat → Nat → Int32} (h : zMo S m R X A) (hX : X 2 = ci cc) (hc : cc ≤ 16) (hb : (bl cc a1 && bl cc a2) = false) : fX6_product m a1 a2 S = fX6_product_J111 m a1 a2 m (1 : Int32) S := by
  have no : fX6_product_J20 m a1 a2 S = fX6_product_J111 m a1 a2 m (1 : Int32) S := by
    unfold fX6_product_J20 fX6_product_J21
    rw [zF_s]
    refine ziter_x ?_
    unfold fX6_product_B28 fX6_product_J79
    rfl
  unfold fX6_product
  rw [h.cl, m_isCube h hX hc, Option.bind_some]
  cases h1 : bl cc a1 with
  | false => exact no
  | true =>
    rw [h1] at hb
    rw [if_neg (show ¬ bI true = 0 by decide), h.cl, m_isCube h hX hc, Option.bind_some]
    cases h2 : bl cc a2 with
    | false => exact no
    | true => rw [h2] at hb; cases hb
theorem m_prodBad {S : ZS} {m j : Nat} {a1 a2 : Int32} {R : Nat → Nat} {X : Nat → Int32} {A : Nat → Nat → Int32} (h : zMo S m R X A) (hj : j < 2147483648) (h0 : 0 < j) : ∃ S1, fX6_product_J111 m a1 a2 m (ci j) S = some ((0 : Int32), S1) ∧ zMo S1 m R (mX X 0 (ci j)) A ∧ zFrm S S1 (mP m R) := by
  obtain ⟨S1, h1, h2, h3⟩ := m_badP h hj h0
  refine ⟨S1, ?_, h2, h3⟩
  unfold fX6_product_J111
  rw [h1, Option.bind_some, if_pos rfl]
theorem ok8 {x m out : Nat} {a1 a2 : Int32} {S : ZS} (h : zI x m out S) (hfr : zFr S.1 S.2) : ok_8 x m out a1 a2 S (zI x m out) := by
  obtain ⟨ad, p, cc, wc, CA, CG, WA, WG, WV, X, A, fo, hx, hK, hin, hcl, hmo, hrl, hout⟩ := h
  have hx' := hx
  obtain ⟨rfl, rfl, rfl⟩ := hx'
  have hcc := hK.2.1
  have hhd := hcl.1
  have hlt := lt_of hcl hmo hout hfr
  have thr : ∀ (j : Nat) (nm : String), 0 < j → j < 100 → fX5_product (ad 10) a1 a2 S = some (.inr (nm, S.1)) → zcatchN nm S.1 1 ["java/lang/IndexOutOfBoundsException", "java/lang/IllegalArgumentException", "java/lang/IllegalStateException"] = some (ci j, S.1) → (∀ S0, zMo S0 (ad 11) (mR ad) X A → fX6_product (ad 11) a1 a2 S0 = fX6_product_J111 (ad 11) a1 a2 (ad 11) (ci j) S0) → ok_8 (ad 10) (ad 11) (ad 12) a1 a2 S (zI (ad 10) (ad 11) (ad 12)) := by
    intro j nm hj0 hj h1 h2 h3
    refine ⟨ci j, S.1, ?_, fun n _ => ?_⟩
    · unfold fL_product
      rw [zcl_ob hhd.1, h1]
      exact h2
    · obtain ⟨r, r1, r2, r3⟩ := zthr (j := j) (f := fX6_product (ad 11) a1 a2) hx hK hin hcl hmo hrl hout (fun S0 hS0 => by
        obtain ⟨S1, s1, s2, s3⟩ := m_prodBad (a1 := a1) (a2 := a2) hS0 (j := j) (by omega) hj0
        exact ⟨0, S1, by rw [h3 S0 hS0, s1], s2, s3⟩) n
      exact ⟨r, r1, r2, fun hh => absurd hh (by rw [cl_0, ci_eq (by omega) (by omega)]; omega), r3⟩
  cases hb : (bl cc a1 && bl cc a2) with
  | false =>
    refine thr 1 "java/lang/IndexOutOfBoundsException" (by omega) (by omega) ?_ rfl (fun S0 hS0 => m_prodNo hS0 hrl.2.1 hcc hb)
    unfold fX5_product
    cases h1 : bl cc a1 with
    | false => rw [zcl_ob hhd.1, c_noCube hhd hcc h1, zbT_r]
    | true =>
      obtain ⟨i, hi, rfl⟩ := bl_ex (by omega) h1
      rw [h1] at hb
      rw [zcl_ob hhd.1, c_needCube hhd hcc hi, zbT_l]
      show zbT (zcl S (ad 10) 5 (fX5_needCube (ad 10) a2 S)) _ = _
      rw [zcl_ob hhd.1, c_noCube hhd hcc (by rw [Bool.true_and] at hb; exact hb), zbT_r]
  | true =>
    rw [Bool.and_eq_true] at hb
    obtain ⟨i, hi, rfl⟩ := bl_ex (by omega) hb.1
    obtain ⟨j, hj, rfl⟩ := bl_ex (by omega) hb.2
    have hci := hcl.2.2.1 i hi
    have hcj := hcl.2.2.1 j hj
    have hmi := hrl.2.2.2.1 i hi
    have hmj := hrl.2.2.2.1 j hj
    have cN : ∀ q, q < cc → zcl S (ad 10) 5 (fX5_needCube (ad 10) (ci q) S) = some (.inl (ad (100 + 2 * q), S)) := fun q hq => by rw [zcl_ob hhd.1]; exact c_needCube hhd hcc hq
    have hsi := hci.2.1
    have hsj := hcj.2.1
    unfold szOK at hsi hsj
    have q1 : CA i 0 * CA j 0 ≤ 4 * 4 := Nat.mul_le_mul hsi.1.2 hsj.1.2
    have q2 : CA i 1 * CA j 1 ≤ 4 * 4 := Nat.mul_le_mul hsi.2.1.2 hsj.2.1.2
    have q3 : CA i 2 * CA j 2 ≤ 4 * 4 := Nat.mul_le_mul hsi.2.2.2 hsj.2.2.2
    have p1 : 1 ≤ CA i 0 * CA j 0 := Nat.mul_pos hsi.1.1 hsj.1.1
    have p2 : 1 ≤ CA i 1 * CA j 1 := Nat.mul_pos hsi.2.1.1 hsj.2.1.1
    have p3 : 1 ≤ CA i 2 * CA j 2 := Nat.mul_pos hsi.2.2.1 hsj.2.2.1
    have hd0 : fX5_product (ad 10) (ci i) (ci j) S = zbT (fX5_addCube (ad 10) (ci (CA i 0 * CA j 0)) (ci (CA i 1 * CA j 1)) (ci (CA i 2 * CA j 2)) S) (fun x9 => ziter (fX5_product_B52 (ad 10) (ad (100 + 2 * i)) (ad (100 + 2 * j)) x9.1) zF ((0 : Int32), x9.2)) := by
      unfold fX5_product
      rw [cN i hi, zbT_l]
      show zbT (zcl S (ad 10) 5 (fX5_needCube (ad 10) (ci j) S)) _ = _
      rw [cN j hj, zbT_l]
      show Option.bind (zgI S (ad (100 + 2 * i)) 0 0) _ = _
      rw [zgI_ob hci.1.1 rfl, Option.bind_some]
      show Option.bind (zgI S (ad (100 + 2 * j)) 0 0) _ = _
      rw [zgI_ob hcj.1.1 rfl, Option.bind_some]
      show Option.bind (zgI S (ad (100 + 2 * i)) 0 1) _ = _
      rw [zgI_ob hci.1.1 rfl, Option.bind_some]
      show Option.bind (zgI S (ad (100 + 2 * j)) 0 1) _ = _
      rw [zgI_ob hcj.1.1 rfl, Option.bind_some]
      show Option.bind (zgI S (ad (100 + 2 * i)) 0 2) _ = _
      rw [zgI_ob hci.1.1 rfl, Option.bind_some]
      show Option.bind (zgI S (ad (100 + 2 * j)) 0 2) _ = _
      rw [zgI_ob hcj.1.1 rfl, Option.bind_some]
      show zbT (zcl S (ad 10) 5 (fX5_addCube (ad 10) (ci (CA i 0) * ci (CA j 0)) (ci (CA i 1) * ci (CA j 1)) (ci (CA i 2) * ci (CA j 2)) S)) _ = _
      rw [zcl_ob hhd.1, ci_mul, ci_mul, ci_mul]
    by_cases hft : CA i 0 * CA j 0 ≤ 4 ∧ CA i 1 * CA j 1 ≤ 4 ∧ CA i 2 * CA j 2 ≤ 4
    · have hs : szOK (CA i 0 * CA j 0) (CA i 1 * CA j 1) (CA i 2 * CA j 2) := by unfold szOK; omega
      by_cases h16 : cc = 16
      · refine thr 3 "java/lang/IllegalStateException" (by omega) (by omega) ?_ rfl (fun S0 hS0 => ?_)
        · rw [hd0, c_addBad hhd hcc (by rw [cmk_ok hs, if_pos h16]; omega), zbT_r, cmk_ok hs, if_pos h16]
          rfl
        · rw [m_prodPick hS0 hrl.2.1 hcc hi hj hmi hmj hci.2.1 hcj.2.1, decide_eq_true hft]
          unfold fX6_product_J79
          rw [if_neg (show ¬ (1 : Int32) = 0 by decide), if_neg (show ¬ bI true = 0 by decide), zgI_ob hS0.1 rfl, Option.bind_some, hrl.2.1, if_pos (by rw [h16]; rfl)]
          rfl
      · have hc : cc < 16 := by omega
        obtain ⟨S1, c1, c2, c3, c4⟩ := c_addCube hK.1 hcl hin hlt hc hs
        have hd1 := c3.1.1
        rw [adN_old (by omega) (by omega)] at hd1
        have hcu : zCu S1 S.2 (S.2 + 1) (CA i 0 * CA j 0) (CA i 1 * CA j 1) (CA i 2 * CA j 2) 0 (gF (CA i 0 * CA j 0) (CA i 1 * CA j 1) (CA i 2 * CA j 2) (pF p (CA j 0) (CA j 1) (CA j 2) (CG i) (CG j)) 0) := by
          have := (c3.2.2.1 cc (by omega)).1
          rw [upN_self, upG_self, adN_0, adN_1] at this
          rw [gF_0]
          exact this
        have lv : ∀ t, t = 10 ∨ t = 100 + 2 * i ∨ t = 101 + 2 * i ∨ t = 100 + 2 * j ∨ t = 101 + 2 * j → ad t ≠ S.2 + 1 := fun t ht => by
          have := hlt t (Or.inl (by unfold cT; omega))
          omega
        have hsz := hs
        unfold szOK at hsz
        have B : fBaseproduct S1 (ad 10) (ad (100 + 2 * i)) (ad (101 + 2 * i)) (ad (100 + 2 * j)) (ad (101 + 2 * j)) (S.2 + 1) p (CA i 0 * CA j 0) (CA i 1 * CA j 1) (CA i 2 * CA j 2) (CA i 0) (CA i 1) (CA i 2) (CA i 3) (CA j 0) (CA j 1) (CA j 2) (CA j 3) _ (CG i) (CG j) := ⟨⟨hsz.1.1, hsz.1.2, hsz.2.1.1, hsz.2.1.2, hsz.2.2.1, hsz.2.2.2⟩, hd1, rfl, old_cu hi c3, old_cu hj c3, ⟨lv _ (by omega), lv _ (by omega), lv _ (by omega), lv _ (by omega), lv _ (by omega)⟩, hK.1, hci.2.2.1, hcj.2.2.1, ⟨⟨hsj.1.1, hsj.1.2, hsj.2.1.1, hsj.2.1.2, hsj.2.2.1, hsj.2.2.2⟩, hsi.1.2, hsi.2.1.2, hsi.2.2.2⟩, rfl, rfl, rfl⟩
        obtain ⟨S1', f1, f2, f3⟩ := c_product1 (c := S.2) (q := 0) (cc := cc) B rfl hcu
        obtain ⟨S2, e1, e2⟩ := fill_fin (f := fX6_product (ad 11) (ci i) (ci j)) hK hc hmo hrl hout c2 c3 c4 f2 (f3.wk (fun b hb => Or.inr hb)) (gF_ok hK.1 (pF_lt hK.1)) (by omega) (fun S0 hS0 => by
          obtain ⟨T1, s1, s2, s3⟩ := m_good hS0
          obtain ⟨T2, A2, t1, t2, t3, t4, t5, t6, t7⟩ := m_make (a := CA i 0 * CA j 0) (b := CA i 1 * CA j 1) (d := CA i 2 * CA j 2) s2 (cc := cc) hrl.2.1 hc
          have hmi' : mNum A2 i (CG i) := (show mNum A i (CG i) from hmi.2.1).z hi t6
          have hmj' : mNum A2 j (CG j) := (show mNum A j (CG j) from hmj.2.1).z hj t6
          have MB : mpB A2 (mX (mX X 0 0) 2 (ci (cc + 1))) cc i j p (CA i 0) (CA i 1) (CA i 2) (CA j 0) (CA j 1) (CA j 2) (CG i) (CG j) := ⟨hc, hi, hj, hK.1, hrl.1, hmi', hmj', hci.2.2.1, hcj.2.2.1, ⟨hsj.1.1, hsj.1.2, hsj.2.1.1, hsj.2.1.2, hsj.2.2.1, hsj.2.2.2⟩, ⟨hsi.1.2, hsi.2.1.2, hsi.2.2.2⟩, hft, t3⟩
          obtain ⟨T3, u1, A3, u2, u3, u4, u5, u6⟩ := m_prod (S := T2) (S0 := T2) MB ⟨A2, t2, fun y hy => by rw [t4 y hy, gF_0]; rfl, mV.rf, rfl, zFrm.rf⟩
          refine ⟨T1, T2, T3, A2, A3, s3, t7, t6, t3, t4, t5, ?_, u2, u3, u4, by rw [u5, t5]; rfl, u6⟩
          rw [m_prodPick hS0 hrl.2.1 hcc hi hj hmi hmj hci.2.1 hcj.2.1, decide_eq_true hft]
          unfold fX6_product_J79
          rw [if_neg (show ¬ (1 : Int32) = 0 by decide), if_neg (show ¬ bI true = 0 by decide), zgI_ob hS0.1 rfl, Option.bind_some, hrl.2.1, if_neg (by rw [cl_16, ci_eq (by omega) (by omega)]; exact h16)]
          unfold fX6_product_J111
          rw [hS0.cl, s1, Option.bind_some, if_neg (show ¬ ((1 : Int32) = 0) by decide)]
          show Option.bind (zgR T1 (ad 11) 6 3) _ = _
          rw [zgR_ob s2.1 rfl, Option.bind_some, m_cs0 s2 hmj (by omega), Option.bind_some, Option.bind_some, m_cs1 s2 hmj (by omega), Option.bind_some, Option.bind_some, m_cs2 s2 hmj (by omega), Option.bind_some, Option.bind_some]
          show Option.bind (zaI T1 (mR ad 3) 0 ((3 : Int32) * ci i)) _ = _
          rw [m_cs0 s2 hmi (by omega), Option.bind_some, Option.bind_some]
          show Option.bind (zaI T1 (mR ad 3) 0 ((3 : Int32) * ci i + (1 : Int32))) _ = _
          rw [m_cs1 s2 hmi (by omega), Option.bind_some, Option.bind_some]
          show Option.bind (zaI T1 (mR ad 3) 0 ((3 : Int32) * ci i + (2 : Int32))) _ = _
          rw [m_cs2 s2 hmi (by omega), Option.bind_some, s2.cl, ci_mul, ci_mul, ci_mul, t1, Option.bind_some, cl_0]
          exact u1)
        refine ⟨0, S2.1, ?_, fun n _ => ?_⟩
        · unfold fL_product
          rw [zcl_ob hhd.1, hd0, c1, zbT_l]
          show zcatch (ziter (fX5_product_B52 (ad 10) (ad (100 + 2 * i)) (ad (100 + 2 * j)) S.2) zF (ci 0, S1)) _ _ = _
          rw [f1]
          show Option.bind (zsJ _ (ad 12) 0 _) _ = _
          rw [e1, Option.bind_some]
        · obtain ⟨r, r1, r2, r3, r4, r5⟩ := e2 n
          exact ⟨r, r1, r2, fun _ => by rw [r3, r4], r5⟩
    · have hns : ¬ szOK (CA i 0 * CA j 0) (CA i 1 * CA j 1) (CA i 2 * CA j 2) := fun hh => by
        unfold szOK at hh
        exact hft ⟨hh.1.2, hh.2.1.2, hh.2.2.2⟩
      have hno := cmk_no (cc := cc) (show CA i 0 * CA j 0 < 2147483648 by omega) (show CA i 1 * CA j 1 < 2147483648 by omega) (show CA i 2 * CA j 2 < 2147483648 by omega) hns
      refine thr 2 "java/lang/IllegalArgumentException" (by omega) (by omega) ?_ rfl (fun S0 hS0 => ?_)
      · rw [hd0, c_addBad hhd hcc (by rw [hno]; omega), zbT_r, hno]
        rfl
      · rw [m_prodPick hS0 hrl.2.1 hcc hi hj hmi hmj hci.2.1 hcj.2.1, decide_eq_false hft]
        unfold fX6_product_J79
        rw [if_neg (show ¬ (1 : Int32) = 0 by decide), if_pos bI_f]
        rfl
