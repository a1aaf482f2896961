/-! LAW CASES 10, 11: multiply, plain -/
theorem c_needCode {S : ZS} {ad : Nat → Nat} {p cc wc n : Nat} {a : Int32} (h : zHd S ad p cc wc) (hp : isP p) (hn : n ≤ 4) : zcl S (ad 10) 5 (fX5_needCode (ad 10) a (ci n) S) = if bl (p ^ n) a = true then some (.inl ((), S)) else some (.inr ("java/lang/IllegalArgumentException", S.1)) := by
  have := hp.pow hn
  unfold fX5_needCode
  rw [zcl_ob h.1, zgI_ob h.1 rfl, Option.bind_some, g_power (by omega), Option.bind_some, c_isBelow (by omega), Option.bind_some]
  cases bl (p ^ n) a <;> rfl
theorem m_isCode {S : ZS} {m w p a b d k s : Nat} {x : Int32} {R : Nat → Nat} {X : Nat → Int32} {A : Nat → Nat → Int32} {v : Nat → Nat → Nat → Nat} (h : zMo S m R X A) (y : mWy X A w p a b d k v) (hs : s < 3) : fX6_isCode m (ci w) (ci s) x S = some (bI (bl (p ^ sz3 a b d s) x)) := by
  have := y.2.1.pow (y.s4 (s := s)).2
  unfold fX6_isCode
  rw [h.cl, m_codes h y hs, Option.bind_some, m_in (by omega), Option.bind_some, zbl_bI, Option.bind_some]
theorem c_needRoom {S : ZS} {w c n t p a b d sq k r : Nat} {g : Nat → Nat} {v : Nat → Nat → Nat → Nat} (h : zWy S w c n t p a b d sq k g v) (hr : r ≤ 64) : fX5_needRoom w (ci r) S = if k + r ≤ 40 then some (.inl ((), S)) else some (.inr ("java/lang/IllegalStateException", S.1)) := by
  have := h.kk
  unfold fX5_needRoom
  rw [zgI_ob h.wa rfl, Option.bind_some, ci_add, cl_40]
  by_cases hh : k + r ≤ 40
  · rw [if_pos ((ci_le (by omega) (by omega)).mpr hh), if_pos hh]
  · rw [if_neg (fun q => hh ((ci_le (by omega) (by omega)).mp q)), if_neg hh]
theorem g_count {S : ZS} {c n a b d q : Nat} {g : Nat → Nat} {p : Nat} (h : zCu S c n a b d q g) (hp : isP p) (hg : cOK p a b d g) : fX0_countOthersThanZero c S = some (ci (nz g 64)) := by
  have hpb := hp.b
  unfold fX0_countOthersThanZero
  refine ziter_seq (fun i => (ci (nz g i), ci i)) _ 64 zF (by rw [zF_eq]; omega) ?_ ?_
  · intro i hi
    have hlt := hg.1 i hi
    unfold fX0_countOthersThanZero_B4 fX0_countOthersThanZero_J27
    simp only []
    rw [if_neg (show ¬ (64 : Int32) ≤ ci i by rw [cl_64, ci_le (by omega) (by omega)]; omega), zgR_ob h.1 rfl, Option.bind_some, g_get h.2 (by omega) (by omega), if_pos hi, Option.bind_some]
    have e : nz g (i + 1) = nz g i + (if g i = 0 then 0 else 1) := rfl
    by_cases h0 : g i = 0
    · rw [if_pos (by rw [h0]; rfl), cl_0, cl_1, ci_add, ci_add, e, if_pos h0]
    · rw [if_neg (by rw [cl_0, ci_eq (by omega) (by omega)]; exact h0), cl_1, ci_add, ci_add, e, if_neg h0]
  · unfold fX0_countOthersThanZero_B4
    simp only []
    rw [if_pos (show (64 : Int32) ≤ ci 64 by decide), zex_some]
theorem mm85 {S : ZS} {m j : Nat} {a1 a2 a3 a4 : Int32} {R : Nat → Nat} {X : Nat → Int32} {A : Nat → Nat → Int32} (h : zMo S m R X A) (hj : j < 2147483648) (h0 : 0 < j) : ∃ S1, fX6_multiply_J85 m a1 a2 a3 a4 m (ci j) S = some ((0 : Int32), S1) ∧ zMo S1 m R (mX X 0 (ci j)) A ∧ zFrm S S1 (mP m R) := by
  obtain ⟨S1, h1, h2, h3⟩ := m_badP h hj h0
  refine ⟨S1, ?_, h2, h3⟩
  unfold fX6_multiply_J85
  rw [h1, Option.bind_some, if_pos rfl]
theorem ok10 {x m out : Nat} {a1 a2 a3 a4 : Int32} {S : ZS} (h : zI x m out S) : ok_10 x m out a1 a2 a3 a4 S (zI x m out) := by
  obtain ⟨ad, p, cc, wc, CA, CG, WA, WG, WV, X, A, fo, hx, hK, hin, hcl, hmo, hrl, hout⟩ := h
  have hx' := hx
  obtain ⟨rfl, rfl, rfl⟩ := hx'
  have hcc := hK.2.1
  have hwc := hK.2.2.1
  have hhd := hcl.1
  have thr : ∀ (j : Nat) (nm : String), 0 < j → j < 100 → fX5_multiply (ad 10) a1 a2 a3 a4 S = some (.inr (nm, S.1)) → zcatchN nm S.1 1 ["java/lang/IndexOutOfBoundsException", "java/lang/IllegalArgumentException", "java/lang/IllegalStateException"] = some (ci j, S.1) → (∀ S0, zMo S0 (ad 11) (mR ad) X A → fX6_multiply (ad 11) a1 a2 a3 a4 S0 = fX6_multiply_J85 (ad 11) a1 a2 a3 a4 (ad 11) (ci j) S0) → ok_10 (ad 10) (ad 11) (ad 12) a1 a2 a3 a4 S (zI (ad 10) (ad 11) (ad 12)) := by
    intro j nm hj0 hj h1 h2 h3
    refine ⟨ci j, S.1, ?_, fun n _ => ?_⟩
    · unfold fL_multiply
      rw [zcl_ob hhd.1, h1]
      exact h2
    · obtain ⟨r, r1, r2, r3⟩ := zthr (j := j) (f := fX6_multiply (ad 11) a1 a2 a3 a4) hx hK hin hcl hmo hrl hout (fun S0 hS0 => by
        obtain ⟨S1, s1, s2, s3⟩ := mm85 (a1 := a1) (a2 := a2) (a3 := a3) (a4 := a4) hS0 (j := j) (by omega) hj0
        exact ⟨0, S1, by rw [h3 S0 hS0, s1], s2, s3⟩) n
      exact ⟨r, r1, r2, fun hh => absurd hh (by rw [cl_0, ci_eq (by omega) (by omega)]; omega), r3⟩
  cases hb : bl wc a1 with
  | false =>
    refine thr 1 "java/lang/IndexOutOfBoundsException" (by omega) (by omega) ?_ rfl (fun S0 hS0 => ?_)
    · unfold fX5_multiply
      rw [zcl_ob hhd.1, c_noWay hhd hwc hb, zbT_r]
    · unfold fX6_multiply fX6_multiply_J47 fX6_multiply_J48
      rw [hS0.cl, m_isWay hS0 hrl.2.2.1 hwc, Option.bind_some, hb, if_pos bI_f, if_pos bI_f]
      rfl
  | true =>
    obtain ⟨i, hi, rfl⟩ := bl_ex (by omega) hb
    have hwy := (hcl.2.2.2 i hi).1
    have hmw := (hrl.2.2.2.2 i hi).1
    have hkk := hwy.kk
    have hsz := hwy.2.1
    unfold szOK at hsz
    have hp := hK.1
    have cN : zcl S (ad 10) 5 (fX5_needWay (ad 10) (ci i) S) = some (.inl (ad (200 + 4 * i), S)) := by rw [zcl_ob hhd.1]; exact c_needWay hhd hwc hi
    have m2 : ∀ S0, zMo S0 (ad 11) (mR ad) X A → fX6_multiply_J47 (ad 11) (ci i) a2 a3 a4 (bI true) S0 = fX6_multiply_J85 (ad 11) (ci i) a2 a3 a4 (ad 11) (ci 2) S0 := fun S0 _ => by
      unfold fX6_multiply_J47 fX6_multiply_J48
      rw [if_neg (show ¬ bI true = 0 by decide), if_pos rfl]
      rfl
    have m1 : ∀ S0, zMo S0 (ad 11) (mR ad) X A → fX6_multiply (ad 11) (ci i) a2 a3 a4 S0 = if (bl (p ^ WA i 0) a2 && (bl (p ^ WA i 1) a3 && bl (p ^ WA i 2) a4)) = true then fX6_multiply_J48 (ad 11) (ci i) a2 a3 a4 (bI true) (1 : Int32) S0 else fX6_multiply_J47 (ad 11) (ci i) a2 a3 a4 (bI true) S0 := fun S0 hS0 => by
      unfold fX6_multiply
      rw [hS0.cl, m_isWay hS0 hrl.2.2.1 hwc, Option.bind_some, hb, if_neg (show ¬ bI true = 0 by decide), cl_0, cl_1, cl_2, hS0.cl, m_isCode hS0 hmw (by omega), Option.bind_some, hS0.cl, m_isCode hS0 hmw (by omega), Option.bind_some, hS0.cl, m_isCode hS0 hmw (by omega), Option.bind_some]
      show _ = if (bl (p ^ sz3 (WA i 0) (WA i 1) (WA i 2) 0) a2 && (bl (p ^ sz3 (WA i 0) (WA i 1) (WA i 2) 1) a3 && bl (p ^ sz3 (WA i 0) (WA i 1) (WA i 2) 2) a4)) = true then _ else _
      cases bl (p ^ sz3 (WA i 0) (WA i 1) (WA i 2) 0) a2 <;> cases bl (p ^ sz3 (WA i 0) (WA i 1) (WA i 2) 1) a3 <;> cases bl (p ^ sz3 (WA i 0) (WA i 1) (WA i 2) 2) a4 <;> rfl
    have c1 : fX5_multiply (ad 10) (ci i) a2 a3 a4 S = if (bl (p ^ WA i 0) a2 && (bl (p ^ WA i 1) a3 && bl (p ^ WA i 2) a4)) = true then (zbT (fX5_needRoom (ad (200 + 4 * i)) (1 : Int32) S) fun x11 => Option.bind (zcl x11.2 (ad (200 + 4 * i)) 4 (fX4_append (ad (200 + 4 * i)) a2 a3 a4 x11.2)) fun x12 => Option.bind (zgI x12 (ad (200 + 4 * i)) 4 3) fun v13 => some (.inl (v13, x12))) else some (.inr ("java/lang/IllegalArgumentException", S.1)) := by
      unfold fX5_multiply
      rw [cN, zbT_l, zgR_ob hwy.wa rfl, Option.bind_some, zgI_ob hwy.cu.1 rfl, Option.bind_some, c_needCode hhd hp (by omega)]
      cases bl (p ^ WA i 0) a2 with
      | false => rfl
      | true =>
        rw [if_pos rfl, zbT_l, zgR_ob hwy.wa rfl, Option.bind_some, zgI_ob hwy.cu.1 rfl, Option.bind_some, c_needCode hhd hp (by omega)]
        cases bl (p ^ WA i 1) a3 with
        | false => rfl
        | true =>
          rw [if_pos rfl, zbT_l, zgR_ob hwy.wa rfl, Option.bind_some, zgI_ob hwy.cu.1 rfl, Option.bind_some, c_needCode hhd hp (by omega)]
          cases bl (p ^ WA i 2) a4 with
          | false => rfl
          | true => rfl
    cases hc : (bl (p ^ WA i 0) a2 && (bl (p ^ WA i 1) a3 && bl (p ^ WA i 2) a4)) with
    | false =>
      refine thr 2 "java/lang/IllegalArgumentException" (by omega) (by omega) ?_ rfl (fun S0 hS0 => ?_)
      · rw [c1, hc]; rfl
      · rw [m1 S0 hS0, hc, if_neg (by decide), m2 S0 hS0]
    | true =>
      rw [hc, if_pos rfl] at c1
      have m3 : ∀ S0, zMo S0 (ad 11) (mR ad) X A → fX6_multiply (ad 11) (ci i) a2 a3 a4 S0 = if WA i 4 = 40 then fX6_multiply_J85 (ad 11) (ci i) a2 a3 a4 (ad 11) (ci 3) S0 else fX6_multiply_J85 (ad 11) (ci i) a2 a3 a4 (ad 11) (0 : Int32) S0 := fun S0 hS0 => by
        rw [m1 S0 hS0, hc, if_pos rfl]
        unfold fX6_multiply_J48
        rw [if_neg (show ¬ bI true = 0 by decide), if_neg (show ¬ (1 : Int32) = 0 by decide), zgR_ob hS0.1 rfl, Option.bind_some, m_ct hS0 hmw, Option.bind_some]
        by_cases h40 : WA i 4 = 40
        · rw [if_pos (by rw [h40]; rfl), if_pos h40]; rfl
        · rw [if_neg (by rw [cl_40, ci_eq (by omega) (by omega)]; exact h40), if_neg h40]
      by_cases h40 : WA i 4 = 40
      · refine thr 3 "java/lang/IllegalStateException" (by omega) (by omega) ?_ rfl (fun S0 hS0 => ?_)
        · rw [c1, cl_1, c_needRoom hwy (by omega), if_neg (by omega)]
          rfl
        · rw [m3 S0 hS0, if_pos h40]
      · rw [Bool.and_eq_true, Bool.and_eq_true] at hc
        have b0 := hp.pow hsz.1.2
        have b1 := hp.pow hsz.2.1.2
        have b2 := hp.pow hsz.2.2.2
        obtain ⟨c0, hc0, rfl⟩ := bl_ex (by omega) hc.1
        obtain ⟨c1', hc1, rfl⟩ := bl_ex (by omega) hc.2.1
        obtain ⟨c2, hc2, rfl⟩ := bl_ex (by omega) hc.2.2
        have hpb := hp.b
        let e : Nat → Nat → Nat := fun s => if s = 0 then dg p (WA i 0) c0 else if s = 1 then dg p (WA i 1) c1' else dg p (WA i 2) c2
        obtain ⟨S1, f1, f2, f3⟩ := g_append (e := e) (c0 := c0) (c1 := c1') (c2 := c2) hwy (by omega) (fun s _ j _ => by
          show (if s = 0 then dg p (WA i 0) c0 else if s = 1 then dg p (WA i 1) c1' else dg p (WA i 2) c2) j < p
          split
          · exact dg_lt (by omega)
          · split
            · exact dg_lt (by omega)
            · exact dg_lt (by omega)) (enc_dg (by omega) hc0).symm (enc_dg (by omega) hc1).symm (enc_dg (by omega) hc2).symm
        obtain ⟨g1, kp⟩ := way_cl hcc hin hcl hi f3 f2
        obtain ⟨S2, e1, e2⟩ := zfin (f := fX6_multiply (ad 11) (ci i) (ci c0) (ci c1') (ci c2)) (rv := ci (WA i 4 + 1)) (val := Int32.toInt64 (ci (WA i 4 + 1))) hx hK hin g1 (way_mo hi hmo kp) ((kp 12 (Or.inr (Or.inr rfl)) (by omega) (by omega)).trans hout) (fun S0 hS0 => by
          obtain ⟨T2, A2, t1, t2, t3, t4, t5⟩ := m_multiply hS0 hmw (by omega) hc0 hc1 hc2 e rfl rfl rfl
          refine ⟨T2, _, A2, ?_, t2, rfl, way_rl hi hrl rfl rfl rfl t4 t3, t5⟩
          rw [m3 S0 hS0, if_neg h40]
          exact t1)
        refine ⟨0, S2.1, ?_, fun n _ => ?_⟩
        · unfold fL_multiply
          rw [zcl_ob hhd.1, c1, cl_1, c_needRoom hwy (by omega), if_pos (by omega), zbT_l]
          show zcatch (Option.bind (zcl S (ad (200 + 4 * i)) 4 (fX4_append (ad (200 + 4 * i)) (ci c0) (ci c1') (ci c2) S)) _) _ _ = _
          rw [zcl_ob hwy.wa, f1, Option.bind_some, zgI_ob f2.wa rfl, Option.bind_some]
          show Option.bind (zsJ _ (ad 12) 0 _) _ = _
          rw [e1, Option.bind_some]
        · obtain ⟨r, r1, r2, r3, r4, r5⟩ := e2 n
          exact ⟨r, r1, r2, fun _ => by rw [r3, r4], r5⟩
