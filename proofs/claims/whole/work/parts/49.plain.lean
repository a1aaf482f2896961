/-! LAW CASE 11: plain -/
theorem mp78 {S : ZS} {m j : Nat} {a1 : Int32} {R : Nat → Nat} {X : Nat → Int32} {A : Nat → Nat → Int32} (h : zMo S m R X A) (hj : j < 2147483648) (h0 : 0 < j) : ∃ S1, fX6_plain_J78 m a1 m (ci j) S = some ((0 : Int32), S1) ∧ zMo S1 m R (mX X 0 (ci j)) A ∧ zFrm S S1 (mP m R) := by
  obtain ⟨S1, h1, h2, h3⟩ := m_badP h hj h0
  refine ⟨S1, ?_, h2, h3⟩
  unfold fX6_plain_J78
  rw [h1, Option.bind_some, if_pos rfl]
theorem m_plainCount {S : ZS} {m w p a b d : Nat} {R : Nat → Nat} {X : Nat → Int32} {A : Nat → Nat → Int32} {g : Nat → Nat} (h : zMo S m R X A) (hw : w < 16) (hp : isP p) (hg : mWg A w g) (hc : cOK p a b d g) {r : Int32 × ZS} (hr : fX6_plain_J51 m (ci w) (bI true) (ci (nz g 64)) S = some r) : ziter (fX6_plain_B11 m (ci w) (bI true) S) zF ((0 : Int32), (0 : Int32)) = some r := by
  have hpb := hp.b
  refine ziter_seq (fun i => (ci (nz g i), ci i)) _ 64 zF (by rw [zF_eq]; omega) ?_ ?_
  · intro i hi
    have hlt := hc.1 i hi
    unfold fX6_plain_B11 fX6_plain_J43
    simp only []
    rw [if_neg (show ¬ (64 : Int32) ≤ ci i by rw [cl_64, ci_le (by omega) (by omega)]; omega), if_neg (show ¬ bI true = 0 by decide), zgR_ob h.1 rfl, Option.bind_some, m_wg h hg hw hi, Option.bind_some]
    have e : nz g (i + 1) = nz g i + (if g i = 0 then 0 else 1) := rfl
    by_cases h0 : g i = 0
    · rw [if_pos (by rw [h0]; rfl), cl_0, cl_1, ci_add, ci_add, e, if_pos h0]
    · rw [if_neg (by rw [cl_0, ci_eq (by omega) (by omega)]; exact h0), cl_1, ci_add, ci_add, e, if_neg h0]
  · unfold fX6_plain_B11
    simp only []
    rw [if_pos (show (64 : Int32) ≤ ci 64 by decide), hr, zex_some]
theorem ok11 {x m out : Nat} {a1 : Int32} {S : ZS} (h : zI x m out S) : ok_11 x m out a1 S (zI x m out) := by
  obtain ⟨ad, p, cc, wc, CA, CG, WA, WG, WV, X, A, fo, hx, hK, hin, hcl, hmo, hrl, hout⟩ := h
  have hx' := hx
  obtain ⟨rfl, rfl, rfl⟩ := hx'
  have hcc := hK.2.1
  have hwc := hK.2.2.1
  have hhd := hcl.1
  have thr : ∀ (j : Nat) (nm : String), 0 < j → j < 100 → fX5_plain (ad 10) a1 S = some (.inr (nm, S.1)) → zcatchN nm S.1 1 ["java/lang/IndexOutOfBoundsException", "java/lang/IllegalStateException"] = some (ci j, S.1) → (∀ S0, zMo S0 (ad 11) (mR ad) X A → ∀ r, fX6_plain_J78 (ad 11) a1 (ad 11) (ci j) S0 = some r → fX6_plain (ad 11) a1 S0 = some r) → ok_11 (ad 10) (ad 11) (ad 12) a1 S (zI (ad 10) (ad 11) (ad 12)) := by
    intro j nm hj0 hj h1 h2 h3
    refine ⟨ci j, S.1, ?_, fun n _ => ?_⟩
    · unfold fL_plain
      rw [zcl_ob hhd.1, h1]
      exact h2
    · obtain ⟨r, r1, r2, r3⟩ := zthr (j := j) (f := fX6_plain (ad 11) a1) hx hK hin hcl hmo hrl hout (fun S0 hS0 => by
        obtain ⟨S1, s1, s2, s3⟩ := mp78 (a1 := a1) hS0 (j := j) (by omega) hj0
        exact ⟨0, S1, h3 S0 hS0 _ s1, s2, s3⟩) n
      exact ⟨r, r1, r2, fun hh => absurd hh (by rw [cl_0, ci_eq (by omega) (by omega)]; omega), r3⟩
  cases hb : bl wc a1 with
  | false =>
    refine thr 1 "java/lang/IndexOutOfBoundsException" (by omega) (by omega) ?_ rfl (fun S0 hS0 r hr => ?_)
    · unfold fX5_plain
      rw [zcl_ob hhd.1, c_noWay hhd hwc hb, zbT_r]
    · unfold fX6_plain
      rw [hS0.cl, m_isWay hS0 hrl.2.2.1 hwc, Option.bind_some, hb, zF_eq]
      refine ziter_0 ?_
      unfold fX6_plain_B11
      simp only []
      rw [if_neg (show ¬ (64 : Int32) ≤ 0 by decide), if_pos bI_f]
      unfold fX6_plain_J51
      rw [if_pos bI_f, cl_1, hr, zex_some]
  | true =>
    obtain ⟨i, hi, rfl⟩ := bl_ex (by omega) hb
    have hwy := (hcl.2.2.2 i hi).1
    have hgo := (hcl.2.2.2 i hi).2.1
    have hmw := (hrl.2.2.2.2 i hi).1
    have hmg := (hrl.2.2.2.2 i hi).2.1
    have hkk := hwy.kk
    have hp := hK.1
    have hnz := nz_le (WG i) 64
    have cN : zcl S (ad 10) 5 (fX5_needWay (ad 10) (ci i) S) = some (.inl (ad (200 + 4 * i), S)) := by rw [zcl_ob hhd.1]; exact c_needWay hhd hwc hi
    have c1 : fX5_plain (ad 10) (ci i) S = if WA i 4 + nz (WG i) 64 ≤ 40 then (Option.bind (zcl S (ad (200 + 4 * i)) 4 (fX4_appendPlaces (ad (200 + 4 * i)) S)) fun x5 => Option.bind (zgI x5 (ad (200 + 4 * i)) 4 3) fun v6 => some (.inl (v6, x5))) else some (.inr ("java/lang/IllegalStateException", S.1)) := by
      unfold fX5_plain
      rw [cN, zbT_l, zgR_ob hwy.wa rfl, Option.bind_some, zcl_cu hwy.cu, g_count hwy.cu hp hgo, Option.bind_some, c_needRoom hwy hnz]
      by_cases hh : WA i 4 + nz (WG i) 64 ≤ 40
      · rw [if_pos hh, if_pos hh]; rfl
      · rw [if_neg hh, if_neg hh]; rfl
    have m1 : ∀ S0, zMo S0 (ad 11) (mR ad) X A → ∀ r, (if WA i 4 + nz (WG i) 64 ≤ 40 then fX6_plain_J78 (ad 11) (ci i) (ad 11) (0 : Int32) S0 else fX6_plain_J78 (ad 11) (ci i) (ad 11) (ci 2) S0) = some r → fX6_plain (ad 11) (ci i) S0 = some r := fun S0 hS0 r hr => by
      unfold fX6_plain
      rw [hS0.cl, m_isWay hS0 hrl.2.2.1 hwc, Option.bind_some, hb]
      refine m_plainCount hS0 (by omega) hp hmg hgo ?_
      unfold fX6_plain_J51
      rw [if_neg (show ¬ bI true = 0 by decide), zgR_ob hS0.1 rfl, Option.bind_some, m_ct hS0 hmw, Option.bind_some, ci_add, cl_40]
      by_cases hh : WA i 4 + nz (WG i) 64 ≤ 40
      · rw [if_pos hh] at hr
        rw [if_pos ((ci_le (by omega) (by omega)).mpr hh)]
        exact hr
      · rw [if_neg hh] at hr
        rw [if_neg (fun q => hh ((ci_le (by omega) (by omega)).mp q)), cl_2]
        exact hr
    by_cases hh : WA i 4 + nz (WG i) 64 ≤ 40
    · obtain ⟨S1, f1, f2, f3⟩ := g_appendPlaces hgo hh hwy
      obtain ⟨g1, kp⟩ := way_cl hcc hin hcl hi f3 f2
      obtain ⟨S2, e1, e2⟩ := zfin (f := fX6_plain (ad 11) (ci i)) (rv := ci (vpl (WG i) (WA i 4) (WV i) 64).1) (val := Int32.toInt64 (ci (vpl (WG i) (WA i 4) (WV i) 64).1)) hx hK hin g1 (way_mo hi hmo kp) ((kp 12 (Or.inr (Or.inr rfl)) (by omega) (by omega)).trans hout) (fun S0 hS0 => by
        obtain ⟨T1, s1, s2, s3⟩ := m_good hS0
        obtain ⟨r0, r1, T2, A2, rfl, t2, t3, t4, t5⟩ := m_plainLoop s2 hmw hmg hgo hh
        refine ⟨T2, _, A2, m1 S0 hS0 _ ?_, t2, rfl, way_rl hi hrl rfl rfl rfl t4 t3, s3.tr (t5.wk (fun _ => mQ_mP))⟩
        rw [if_pos hh]
        unfold fX6_plain_J78
        rw [hS0.cl, s1, Option.bind_some, if_neg (show ¬ ((1 : Int32) = 0) by decide)]
        exact r1)
      refine ⟨0, S2.1, ?_, fun n _ => ?_⟩
      · unfold fL_plain
        rw [zcl_ob hhd.1, c1, if_pos hh, zcl_ob hwy.wa, f1, Option.bind_some, zgI_ob f2.wa rfl, Option.bind_some]
        show Option.bind (zsJ _ (ad 12) 0 _) _ = _
        rw [e1, Option.bind_some]
      · obtain ⟨r, r1, r2, r3, r4, r5⟩ := e2 n
        exact ⟨r, r1, r2, fun _ => by rw [r3, r4], r5⟩
    · refine thr 2 "java/lang/IllegalStateException" (by omega) (by omega) ?_ rfl (fun S0 hS0 r hr => m1 S0 hS0 r ?_)
      · rw [c1, if_neg hh]
      · rw [if_neg hh]; exact hr
