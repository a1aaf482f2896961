/-! THE CALLS over the value of a foundry: set, move, sum, product, way -/
def aSet (T : TZ) (a1 a2 a3 a4 a5 : Int32) : Option (Int32 × TZ) := match T with
  | (p, cc, wc, CA, CG, WA, WG, WV) => if bl cc a1 = true ∧ (bl (CA (nn a1) 0) a2 && (bl (CA (nn a1) 1) a3 && bl (CA (nn a1) 2) a4)) = true ∧ bl p a5 = true then some (ci (CG (nn a1) (ix (nn a2) (nn a3) (nn a4))), (p, cc, wc, upC CA (nn a1) 0, upG CG (nn a1) (va_up (CG (nn a1)) (ix (nn a2) (nn a3) (nn a4)) (nn a5)), WA, WG, WV)) else none
theorem op_set {S : ZS} {ad : Nat → Nat} {T : TZ} (h : zQ S ad T) (a1 a2 a3 a4 a5 : Int32) : zOpF ["java/lang/IndexOutOfBoundsException", "java/lang/IllegalArgumentException"] (aSet T a1 a2 a3 a4 a5) (fX5_set (ad 10) a1 a2 a3 a4 a5 S) S (zRes S ad T.2.1 T.2.2.1) := by
  obtain ⟨p, cc, wc, CA, CG, WA, WG, WV⟩ := T
  obtain ⟨hK, hin, hcl⟩ := h
  have hcc := hK.2.1
  have hhd := hcl.1
  have hpb := hK.1.b
  unfold aSet
  simp only []
  cases hb : bl cc a1 with
  | false =>
    rw [if_neg (fun hh => by cases hh.1)]
    refine ⟨"java/lang/IndexOutOfBoundsException", by simp, ?_⟩
    unfold fX5_set
    rw [zcl_ob hhd.1, c_noCube hhd hcc hb, zbT_r]
  | true =>
    obtain ⟨i, hi, rfl⟩ := bl_ex (by omega) hb
    rw [nn_ci (by omega)]
    have hcb := hcl.2.2.1 i hi
    have hsz := hcb.2.1
    have hsz' := hsz
    unfold szOK at hsz'
    have cN : zcl S (ad 10) 5 (fX5_needCube (ad 10) (ci i) S) = some (.inl (ad (100 + 2 * i), S)) := by rw [zcl_ob hhd.1]; exact c_needCube hhd hcc hi
    cases hp : (bl (CA i 0) a2 && (bl (CA i 1) a3 && bl (CA i 2) a4)) with
    | false =>
      rw [if_neg (fun hh => by cases hh.2.1)]
      refine ⟨"java/lang/IndexOutOfBoundsException", by simp, ?_⟩
      unfold fX5_set
      rw [cN, zbT_l, c_needPlace hcb.1 hsz, hp]
      rfl
    | true =>
      cases hv : bl p a5 with
      | false =>
        rw [if_neg (fun hh => by cases hh.2.2)]
        refine ⟨"java/lang/IllegalArgumentException", by simp, ?_⟩
        unfold fX5_set fX5_set_J30
        rw [cN, zbT_l, c_needPlace hcb.1 hsz, hp, if_pos rfl, zbT_l]
        by_cases h0 : a5 < 0
        · rw [if_pos h0]
        · rw [if_neg h0, zgI_ob hhd.1 rfl, Option.bind_some, if_neg]
          intro hlt
          unfold bl at hv
          exact (of_decide_eq_false hv) ⟨Int32.not_lt.mp h0, hlt⟩
      | true =>
        rw [if_pos ⟨rfl, rfl, rfl⟩]
        have hp' := hp
        rw [Bool.and_eq_true, Bool.and_eq_true] at hp'
        obtain ⟨i1, h1, rfl⟩ := bl_ex (by omega) hp'.1
        obtain ⟨i2, h2, rfl⟩ := bl_ex (by omega) hp'.2.1
        obtain ⟨i3, h3, rfl⟩ := bl_ex (by omega) hp'.2.2
        obtain ⟨v, hvp, rfl⟩ := bl_ex (by omega) hv
        rw [nn_ci (by omega), nn_ci (by omega), nn_ci (by omega), nn_ci (by omega)]
        have hix := ix_lt (i := i1) (j := i2) (k := i3) (by omega) (by omega) (by omega)
        obtain ⟨S1, f1, f2, f3⟩ := g_enter (v := v) hcb.1 (i := i1) (j := i2) (k := i3) (by omega) (by omega) (by omega)
        obtain ⟨S1', f1', f2', f3'⟩ := zwO_cu 0 f2
        have hf : zFrm S S1' (fun b => b = ad (100 + 2 * i) ∨ b = ad (101 + 2 * i)) := (f3.wk (fun _ => Or.inr)).tr (f3'.wk (fun _ => Or.inl))
        obtain ⟨g1, kp⟩ := cube_cl hcc hin hcl hi hf f2' (by
          refine ⟨fun x hx => ?_, fun j1 j2 j3 k1 k2 k3 hn => ?_⟩
          · unfold va_up
            split
            · exact hvp
            · exact hcb.2.2.1.1 x hx
          · have hne : ix j1 j2 j3 ≠ ix i1 i2 i3 := fun hh => by
              have := (ix_inj (by omega) (by omega) (by omega) (by omega)).mp hh
              omega
            rw [va_up_ne _ _ hne]
            exact hcb.2.2.1.2 j1 j2 j3 k1 k2 k3 hn) (by omega)
        refine ⟨S1', ?_, zRes.cb hK hin hi g1 hf⟩
        unfold fX5_set
        rw [cN, zbT_l, c_needPlace hcb.1 hsz, hp, if_pos rfl, zbT_l, if_neg (ci_nneg (by omega)), zgI_ob hhd.1 rfl, Option.bind_some, if_pos ((ci_lt (by omega) (by omega)).mpr hvp)]
        show Option.bind (zcl S (ad (100 + 2 * i)) 0 (fX0_numberAt (ad (100 + 2 * i)) (ci i1) (ci i2) (ci i3) S)) _ = _
        rw [zcl_cu hcb.1, g_numberAt hcb.1 (by omega) (by omega) (by omega), Option.bind_some]
        show Option.bind (zcl S (ad (100 + 2 * i)) 0 (fX0_enter (ad (100 + 2 * i)) (ci i1) (ci i2) (ci i3) (ci v) S)) _ = _
        rw [zcl_cu hcb.1, f1, Option.bind_some, cl_0, f1', Option.bind_some]
/-- a move that is answered -/
def mvGo (p : Nat) (c : Nat → Nat) (a2 a3 a4 a5 : Int32) : Bool := bl 3 a2 && ((bl (sz3 (c 0) (c 1) (c 2) (nn a2)) a3 && bl (sz3 (c 0) (c 1) (c 2) (nn a2)) a4) && (decide (a3 ≠ a4) && tm p a5))
def aMove (T : TZ) (a1 a2 a3 a4 a5 : Int32) : Option (Int32 × TZ) := match T with
  | (p, cc, wc, CA, CG, WA, WG, WV) => if bl cc a1 = true ∧ mvGo p (CA (nn a1)) a2 a3 a4 a5 = true then some (ci (nz (mv (nn a2) (nn a3) (nn a4) (nn a5) p (CG (nn a1)) 16) 64), (p, cc, wc, upC CA (nn a1) 0, upG CG (nn a1) (mv (nn a2) (nn a3) (nn a4) (nn a5) p (CG (nn a1)) 16), WA, WG, WV)) else none
theorem op_move {S : ZS} {ad : Nat → Nat} {T : TZ} (h : zQ S ad T) (a1 a2 a3 a4 a5 : Int32) : zOpF ["java/lang/IndexOutOfBoundsException", "java/lang/IllegalArgumentException"] (aMove T a1 a2 a3 a4 a5) (fX5_move (ad 10) a1 a2 a3 a4 a5 S) S (zRes S ad T.2.1 T.2.2.1) := by
  obtain ⟨p, cc, wc, CA, CG, WA, WG, WV⟩ := T
  obtain ⟨hK, hin, hcl⟩ := h
  have hcc := hK.2.1
  have hhd := hcl.1
  have hpb := hK.1.b
  unfold aMove
  simp only []
  cases hb : bl cc a1 with
  | false =>
    rw [if_neg (fun hh => by cases hh.1)]
    refine ⟨"java/lang/IndexOutOfBoundsException", by simp, ?_⟩
    unfold fX5_move
    rw [zcl_ob hhd.1, c_noCube hhd hcc hb, zbT_r]
  | true =>
    obtain ⟨i, hi, rfl⟩ := bl_ex (by omega) hb
    rw [nn_ci (n := i) (by omega)]
    have hcb := hcl.2.2.1 i hi
    have hsz := hcb.2.1
    by_cases hno : bl 3 a2 = false ∨ ∃ s, s < 3 ∧ a2 = ci s ∧ (bl (sz3 (CA i 0) (CA i 1) (CA i 2) s) a3 && bl (sz3 (CA i 0) (CA i 1) (CA i 2) s) a4) = false
    · rw [if_neg]
      · exact ⟨"java/lang/IndexOutOfBoundsException", by simp, c_mvNo hhd hcc hi hcb hno⟩
      · rintro ⟨-, hh⟩
        unfold mvGo at hh
        rcases hno with h1 | ⟨s, hs, rfl, h1⟩
        · rw [h1] at hh; cases hh
        · rw [nn_ci (by omega), h1] at hh
          rw [Bool.false_and, Bool.and_false] at hh
          cases hh
    · have h2 : bl 3 a2 = true := by
        cases q : bl 3 a2 with
        | false => exact absurd (Or.inl q) hno
        | true => rfl
      obtain ⟨s, hs, rfl⟩ := bl_ex (by omega) h2
      have h34 : (bl (sz3 (CA i 0) (CA i 1) (CA i 2) s) a3 && bl (sz3 (CA i 0) (CA i 1) (CA i 2) s) a4) = true := by
        cases q : (bl (sz3 (CA i 0) (CA i 1) (CA i 2) s) a3 && bl (sz3 (CA i 0) (CA i 1) (CA i 2) s) a4) with
        | false => exact absurd (Or.inr ⟨s, hs, rfl, q⟩) hno
        | true => rfl
      have h34' := h34
      rw [Bool.and_eq_true] at h34
      have hsb := sz3_b hsz (s := s)
      obtain ⟨h3, h4⟩ := h34
      have cP := c_mvPick (a5 := a5) hhd hcc hi hcb hpb hs rfl h3 h4
      unfold mvGo
      rw [nn_ci (n := s) (by omega), h2, h34', Bool.true_and, Bool.true_and]
      by_cases hbad : a3 = a4 ∨ tm p a5 = false
      · rw [if_pos hbad] at cP
        rw [if_neg]
        · exact ⟨"java/lang/IllegalArgumentException", by simp, cP⟩
        · rintro ⟨-, hh⟩
          rw [Bool.and_eq_true, decide_eq_true_eq] at hh
          rcases hbad with h1 | h1
          · exact hh.1 h1
          · rw [h1] at hh; cases hh.2
      · rw [if_neg hbad] at cP
        have hne : a3 ≠ a4 := fun hh => hbad (Or.inl hh)
        have ht : tm p a5 = true := by
          cases q : tm p a5 with
          | false => exact absurd (Or.inr q) hbad
          | true => rfl
        rw [if_pos ⟨rfl, by rw [decide_eq_true hne, ht]; rfl⟩]
        obtain ⟨f, hf, rfl⟩ := bl_ex (by omega) h3
        obtain ⟨e, he, rfl⟩ := bl_ex (by omega) h4
        obtain ⟨ti, ht1, ht2, rfl⟩ := tm_ex (by omega) ht
        rw [nn_ci (n := f) (by omega), nn_ci (n := e) (by omega), nn_ci (n := ti) (by omega)]
        have mok := mv_ok (c := ti) hK.1 hcb.2.2.1 hs he hf hsz (n := 16) (by omega)
        obtain ⟨S1, f1, f2, f3⟩ := c_addSlice hK.1 hcb.2.2.1 hs he hf hsz ht2 hcb.1
        obtain ⟨S1', f1', f2', f3'⟩ := zwO_cu 0 f2
        have hfr : zFrm S S1' (fun b => b = ad (100 + 2 * i) ∨ b = ad (101 + 2 * i)) := (f3.wk (fun _ => Or.inr)).tr (f3'.wk (fun _ => Or.inl))
        obtain ⟨g1, kp⟩ := cube_cl hcc hin hcl hi hfr f2' mok (by omega)
        refine ⟨S1', ?_, zRes.cb hK hin hi g1 hfr⟩
        rw [cP, f1, Option.bind_some, cl_0, f1', Option.bind_some, zcl_cu f2', g_count f2' hK.1 mok, Option.bind_some]
def sumGo (cc : Nat) (CA : Nat → Nat → Nat) (a1 a2 : Int32) : Prop := bl cc a1 = true ∧ bl cc a2 = true ∧ (CA (nn a1) 0 = CA (nn a2) 0 ∧ CA (nn a1) 1 = CA (nn a2) 1 ∧ CA (nn a1) 2 = CA (nn a2) 2) ∧ cc < 16
def aSumT (p cc wc : Nat) (CA CG WA WG : Nat → Nat → Nat) (WV : Nat → Nat → Nat → Nat → Nat) (i j : Nat) : TZ := (p, cc + 1, wc, upC (upN CA cc (CA i 0) (CA i 1) (CA i 2) 0) cc 0, upG (upG CG cc (fun _ => 0)) cc (gF (CA i 0) (CA i 1) (CA i 2) (sF p (CG i) (CG j)) 64), WA, WG, WV)
noncomputable def aSum (T : TZ) (a1 a2 : Int32) : Option (Int32 × TZ) := match T with
  | (p, cc, wc, CA, CG, WA, WG, WV) => if bl cc a1 = true ∧ bl cc a2 = true ∧ (CA (nn a1) 0 = CA (nn a2) 0 ∧ CA (nn a1) 1 = CA (nn a2) 1 ∧ CA (nn a1) 2 = CA (nn a2) 2) ∧ cc < 16 then some (ci cc, aSumT p cc wc CA CG WA WG WV (nn a1) (nn a2)) else none
theorem op_sum {S : ZS} {ad : Nat → Nat} {T : TZ} (h : zQ S ad T) (hfr : zFr S.1 S.2) (a1 a2 : Int32) : zOpF ["java/lang/IndexOutOfBoundsException", "java/lang/IllegalArgumentException", "java/lang/IllegalStateException"] (aSum T a1 a2) (fX5_sum (ad 10) a1 a2 S) S (zRes S ad T.2.1 T.2.2.1) := by
  obtain ⟨p, cc, wc, CA, CG, WA, WG, WV⟩ := T
  obtain ⟨hK, hin, hcl⟩ := h
  have hcc := hK.2.1
  have hhd := hcl.1
  have hlt := lt_of hcl hfr
  unfold aSum
  simp only []
  cases hb : (bl cc a1 && bl cc a2) with
  | false =>
    rw [if_neg (fun hh => by rw [hh.1, hh.2.1] at hb; cases hb)]
    refine ⟨"java/lang/IndexOutOfBoundsException", by simp, ?_⟩
    unfold fX5_sum
    cases h1 : bl cc a1 with
    | false => rw [zcl_ob hhd.1, c_noCube hhd hcc h1, zbT_r]
    | true =>
      obtain ⟨i, hi, rfl⟩ := bl_ex (by omega) h1
      rw [h1] at hb
      rw [zcl_ob hhd.1, c_needCube hhd hcc hi, zbT_l]
      show zbT (zcl S (ad 10) 5 (fX5_needCube (ad 10) a2 S)) _ = _
      rw [zcl_ob hhd.1, c_noCube hhd hcc (by rw [Bool.true_and] at hb; exact hb), zbT_r]
  | true =>
    rw [Bool.and_eq_true] at hb
    rw [hb.1, hb.2]
    obtain ⟨i, hi, rfl⟩ := bl_ex (by omega) hb.1
    obtain ⟨j, hj, rfl⟩ := bl_ex (by omega) hb.2
    rw [nn_ci (by omega), nn_ci (by omega)]
    have hci := hcl.2.2.1 i hi
    have hcj := hcl.2.2.1 j hj
    have cN : ∀ q, q < cc → zcl S (ad 10) 5 (fX5_needCube (ad 10) (ci q) S) = some (.inl (ad (100 + 2 * q), S)) := fun q hq => by rw [zcl_ob hhd.1]; exact c_needCube hhd hcc hq
    have hd0 : fX5_sum (ad 10) (ci i) (ci j) S = if bI (decide (CA i 0 = CA j 0 ∧ CA i 1 = CA j 1 ∧ CA i 2 = CA j 2)) = 0 then some (.inr ("java/lang/IllegalArgumentException", S.1)) else zbT (fX5_addCube (ad 10) (ci (CA i 0)) (ci (CA i 1)) (ci (CA i 2)) S) (fun x7 => ziter (fX5_sum_B53 (ad 10) (ad (100 + 2 * i)) (ad (100 + 2 * j)) x7.1) zF ((0 : Int32), x7.2)) := by
      unfold fX5_sum
      rw [cN i hi, zbT_l]
      show zbT (zcl S (ad 10) 5 (fX5_needCube (ad 10) (ci j) S)) _ = _
      rw [cN j hj, zbT_l]
      show Option.bind (zcl S (ad (100 + 2 * i)) 0 (fX0_isLike (ad (100 + 2 * i)) (ad (100 + 2 * j)) S)) _ = _
      rw [zcl_cu hci.1, c_isLike hci.1 hcj.1 hci.2.1 hcj.2.1, Option.bind_some, zgI_ob hci.1.1 rfl, Option.bind_some, zgI_ob hci.1.1 rfl, Option.bind_some, zgI_ob hci.1.1 rfl, Option.bind_some, zcl_ob hhd.1]
    by_cases hlk : CA i 0 = CA j 0 ∧ CA i 1 = CA j 1 ∧ CA i 2 = CA j 2
    · rw [decide_eq_true hlk, if_neg (show ¬ bI true = 0 by decide)] at hd0
      by_cases h16 : cc = 16
      · rw [if_neg (fun hh => by have := hh.2.2.2; omega)]
        refine ⟨_, cmk_nm3 (cc := cc) (a := ci (CA i 0)) (b := ci (CA i 1)) (d := ci (CA i 2)), ?_⟩
        rw [hd0, c_addBad hhd hcc (by rw [cmk_ok hci.2.1, if_pos h16]; omega), zbT_r]
      · have hc : cc < 16 := by omega
        rw [if_pos ⟨rfl, rfl, hlk, hc⟩]
        have hs := hci.2.1
        obtain ⟨S1, c1, c2, c3, c4⟩ := c_addCube hK.1 hcl hin hlt hc hs
        have hd1 := c3.1.1
        rw [adN_old (by omega) (by omega)] at hd1
        have hcu : zCu S1 S.2 (S.2 + 1) (CA i 0) (CA i 1) (CA i 2) 0 (gF (CA i 0) (CA i 1) (CA i 2) (sF p (CG i) (CG j)) 0) := by
          have := (c3.2.2.1 cc (by omega)).1
          rw [upN_self, upG_self, adN_0, adN_1] at this
          rw [gF_0]
          exact this
        have lv : ∀ t, t = 10 ∨ t = 100 + 2 * i ∨ t = 101 + 2 * i ∨ t = 100 + 2 * j ∨ t = 101 + 2 * j → ad t ≠ S.2 + 1 := fun t ht => by
          have := hlt t (Or.inl (by unfold cT; omega))
          omega
        have hsz := hs
        unfold szOK at hsz
        have B : fBasesum S1 (ad 10) (ad (100 + 2 * i)) (ad (101 + 2 * i)) (ad (100 + 2 * j)) (ad (101 + 2 * j)) (S.2 + 1) p (CA i 0) (CA i 1) (CA i 2) (CA i 0) (CA i 1) (CA i 2) (CA i 3) (CA j 0) (CA j 1) (CA j 2) (CA j 3) _ (CG i) (CG j) := ⟨⟨hsz.1.1, hsz.1.2, hsz.2.1.1, hsz.2.1.2, hsz.2.2.1, hsz.2.2.2⟩, hd1, rfl, old_cu hi c3, old_cu hj c3, ⟨lv _ (by omega), lv _ (by omega), lv _ (by omega), lv _ (by omega), lv _ (by omega)⟩, hK.1, hci.2.2.1, hcj.2.2.1, rfl, rfl, rfl, hlk⟩
        obtain ⟨S1', f1, f2, f3⟩ := c_sum1 (c := S.2) (q := 0) (cc := cc) B rfl hcu
        refine ⟨S1', ?_, zRes.fill hK hc hlt c2 c3 c4 f2 (f3.wk (fun b hb => Or.inr hb)) (gF_ok hK.1 (sF_lt hK.1)) (by omega)⟩
        rw [hd0, c1, zbT_l]
        show ziter (fX5_sum_B53 (ad 10) (ad (100 + 2 * i)) (ad (100 + 2 * j)) S.2) zF (ci 0, S1) = _
        exact f1
    · rw [decide_eq_false hlk, if_pos bI_f] at hd0
      rw [if_neg (fun hh => hlk hh.2.2.1)]
      exact ⟨"java/lang/IllegalArgumentException", by simp, hd0⟩
noncomputable def aProd (T : TZ) (a1 a2 : Int32) : Option (Int32 × TZ) := match T with
  | (p, cc, wc, CA, CG, WA, WG, WV) => if bl cc a1 = true ∧ bl cc a2 = true ∧ (CA (nn a1) 0 * CA (nn a2) 0 ≤ 4 ∧ CA (nn a1) 1 * CA (nn a2) 1 ≤ 4 ∧ CA (nn a1) 2 * CA (nn a2) 2 ≤ 4) ∧ cc < 16 then some (ci cc, (p, cc + 1, wc, upC (upN CA cc (CA (nn a1) 0 * CA (nn a2) 0) (CA (nn a1) 1 * CA (nn a2) 1) (CA (nn a1) 2 * CA (nn a2) 2) 0) cc 0, upG (upG CG cc (fun _ => 0)) cc (gF (CA (nn a1) 0 * CA (nn a2) 0) (CA (nn a1) 1 * CA (nn a2) 1) (CA (nn a1) 2 * CA (nn a2) 2) (pF p (CA (nn a2) 0) (CA (nn a2) 1) (CA (nn a2) 2) (CG (nn a1)) (CG (nn a2))) 64), WA, WG, WV)) else none
theorem op_prod {S : ZS} {ad : Nat → Nat} {T : TZ} (h : zQ S ad T) (hfr : zFr S.1 S.2) (a1 a2 : Int32) : zOpF ["java/lang/IndexOutOfBoundsException", "java/lang/IllegalArgumentException", "java/lang/IllegalStateException"] (aProd T a1 a2) (fX5_product (ad 10) a1 a2 S) S (zRes S ad T.2.1 T.2.2.1) := by
  obtain ⟨p, cc, wc, CA, CG, WA, WG, WV⟩ := T
  obtain ⟨hK, hin, hcl⟩ := h
  have hcc := hK.2.1
  have hhd := hcl.1
  have hlt := lt_of hcl hfr
  unfold aProd
  simp only []
  cases hb : (bl cc a1 && bl cc a2) with
  | false =>
    rw [if_neg (fun hh => by rw [hh.1, hh.2.1] at hb; cases hb)]
    refine ⟨"java/lang/IndexOutOfBoundsException", by simp, ?_⟩
    unfold fX5_product
    cases h1 : bl cc a1 with
    | false => rw [zcl_ob hhd.1, c_noCube hhd hcc h1, zbT_r]
    | true =>
      obtain ⟨i, hi, rfl⟩ := bl_ex (by omega) h1
      rw [h1] at hb
      rw [zcl_ob hhd.1, c_needCube hhd hcc hi, zbT_l]
      show zbT (zcl S (ad 10) 5 (fX5_needCube (ad 10) a2 S)) _ = _
      rw [zcl_ob hhd.1, c_noCube hhd hcc (by rw [Bool.true_and] at hb; exact hb), zbT_r]
  | true =>
    rw [Bool.and_eq_true] at hb
    rw [hb.1, hb.2]
    obtain ⟨i, hi, rfl⟩ := bl_ex (by omega) hb.1
    obtain ⟨j, hj, rfl⟩ := bl_ex (by omega) hb.2
    rw [nn_ci (by omega), nn_ci (by omega)]
    have hci := hcl.2.2.1 i hi
    have hcj := hcl.2.2.1 j hj
    have cN : ∀ q, q < cc → zcl S (ad 10) 5 (fX5_needCube (ad 10) (ci q) S) = some (.inl (ad (100 + 2 * q), S)) := fun q hq => by rw [zcl_ob hhd.1]; exact c_needCube hhd hcc hq
    have hsi := hci.2.1
    have hsj := hcj.2.1
    unfold szOK at hsi hsj
    have q1 : CA i 0 * CA j 0 ≤ 4 * 4 := Nat.mul_le_mul hsi.1.2 hsj.1.2
    have q2 : CA i 1 * CA j 1 ≤ 4 * 4 := Nat.mul_le_mul hsi.2.1.2 hsj.2.1.2
    have q3 : CA i 2 * CA j 2 ≤ 4 * 4 := Nat.mul_le_mul hsi.2.2.2 hsj.2.2.2
    have p1 : 1 ≤ CA i 0 * CA j 0 := Nat.mul_pos hsi.1.1 hsj.1.1
    have p2 : 1 ≤ CA i 1 * CA j 1 := Nat.mul_pos hsi.2.1.1 hsj.2.1.1
    have p3 : 1 ≤ CA i 2 * CA j 2 := Nat.mul_pos hsi.2.2.1 hsj.2.2.1
    have hd0 : fX5_product (ad 10) (ci i) (ci j) S = zbT (fX5_addCube (ad 10) (ci (CA i 0 * CA j 0)) (ci (CA i 1 * CA j 1)) (ci (CA i 2 * CA j 2)) S) (fun x9 => ziter (fX5_product_B52 (ad 10) (ad (100 + 2 * i)) (ad (100 + 2 * j)) x9.1) zF ((0 : Int32), x9.2)) := by
      unfold fX5_product
      rw [cN i hi, zbT_l]
      show zbT (zcl S (ad 10) 5 (fX5_needCube (ad 10) (ci j) S)) _ = _
      rw [cN j hj, zbT_l]
      show Option.bind (zgI S (ad (100 + 2 * i)) 0 0) _ = _
      rw [zgI_ob hci.1.1 rfl, Option.bind_some]
      show Option.bind (zgI S (ad (100 + 2 * j)) 0 0) _ = _
      rw [zgI_ob hcj.1.1 rfl, Option.bind_some]
      show Option.bind (zgI S (ad (100 + 2 * i)) 0 1) _ = _
      rw [zgI_ob hci.1.1 rfl, Option.bind_some]
      show Option.bind (zgI S (ad (100 + 2 * j)) 0 1) _ = _
      rw [zgI_ob hcj.1.1 rfl, Option.bind_some]
      show Option.bind (zgI S (ad (100 + 2 * i)) 0 2) _ = _
      rw [zgI_ob hci.1.1 rfl, Option.bind_some]
      show Option.bind (zgI S (ad (100 + 2 * j)) 0 2) _ = _
      rw [zgI_ob hcj.1.1 rfl, Option.bind_some]
      show zbT (zcl S (ad 10) 5 (fX5_addCube (ad 10) (ci (CA i 0) * ci (CA j 0)) (ci (CA i 1) * ci (CA j 1)) (ci (CA i 2) * ci (CA j 2)) S)) _ = _
      rw [zcl_ob hhd.1, ci_mul, ci_mul, ci_mul]
    by_cases hft : CA i 0 * CA j 0 ≤ 4 ∧ CA i 1 * CA j 1 ≤ 4 ∧ CA i 2 * CA j 2 ≤ 4
    · have hs : szOK (CA i 0 * CA j 0) (CA i 1 * CA j 1) (CA i 2 * CA j 2) := by unfold szOK; omega
      by_cases h16 : cc = 16
      · rw [if_neg (fun hh => by have := hh.2.2.2; omega)]
        refine ⟨_, cmk_nm3 (cc := cc) (a := ci (CA i 0 * CA j 0)) (b := ci (CA i 1 * CA j 1)) (d := ci (CA i 2 * CA j 2)), ?_⟩
        rw [hd0, c_addBad hhd hcc (by rw [cmk_ok hs, if_pos h16]; omega), zbT_r]
      · have hc : cc < 16 := by omega
        rw [if_pos ⟨rfl, rfl, hft, hc⟩]
        obtain ⟨S1, c1, c2, c3, c4⟩ := c_addCube hK.1 hcl hin hlt hc hs
        have hd1 := c3.1.1
        rw [adN_old (by omega) (by omega)] at hd1
        have hcu : zCu S1 S.2 (S.2 + 1) (CA i 0 * CA j 0) (CA i 1 * CA j 1) (CA i 2 * CA j 2) 0 (gF (CA i 0 * CA j 0) (CA i 1 * CA j 1) (CA i 2 * CA j 2) (pF p (CA j 0) (CA j 1) (CA j 2) (CG i) (CG j)) 0) := by
          have := (c3.2.2.1 cc (by omega)).1
          rw [upN_self, upG_self, adN_0, adN_1] at this
          rw [gF_0]
          exact this
        have lv : ∀ t, t = 10 ∨ t = 100 + 2 * i ∨ t = 101 + 2 * i ∨ t = 100 + 2 * j ∨ t = 101 + 2 * j → ad t ≠ S.2 + 1 := fun t ht => by
          have := hlt t (Or.inl (by unfold cT; omega))
          omega
        have hsz := hs
        unfold szOK at hsz
        have B : fBaseproduct S1 (ad 10) (ad (100 + 2 * i)) (ad (101 + 2 * i)) (ad (100 + 2 * j)) (ad (101 + 2 * j)) (S.2 + 1) p (CA i 0 * CA j 0) (CA i 1 * CA j 1) (CA i 2 * CA j 2) (CA i 0) (CA i 1) (CA i 2) (CA i 3) (CA j 0) (CA j 1) (CA j 2) (CA j 3) _ (CG i) (CG j) := ⟨⟨hsz.1.1, hsz.1.2, hsz.2.1.1, hsz.2.1.2, hsz.2.2.1, hsz.2.2.2⟩, hd1, rfl, old_cu hi c3, old_cu hj c3, ⟨lv _ (by omega), lv _ (by omega), lv _ (by omega), lv _ (by omega), lv _ (by omega)⟩, hK.1, hci.2.2.1, hcj.2.2.1, ⟨⟨hsj.1.1, hsj.1.2, hsj.2.1.1, hsj.2.1.2, hsj.2.2.1, hsj.2.2.2⟩, hsi.1.2, hsi.2.1.2, hsi.2.2.2⟩, rfl, rfl, rfl⟩
        obtain ⟨S1', f1, f2, f3⟩ := c_product1 (c := S.2) (q := 0) (cc := cc) B rfl hcu
        refine ⟨S1', ?_, zRes.fill hK hc hlt c2 c3 c4 f2 (f3.wk (fun b hb => Or.inr hb)) (gF_ok hK.1 (pF_lt hK.1)) (by omega)⟩
        rw [hd0, c1, zbT_l]
        show ziter (fX5_product_B52 (ad 10) (ad (100 + 2 * i)) (ad (100 + 2 * j)) S.2) zF (ci 0, S1) = _
        exact f1
    · have hns : ¬ szOK (CA i 0 * CA j 0) (CA i 1 * CA j 1) (CA i 2 * CA j 2) := fun hh => by
        unfold szOK at hh
        exact hft ⟨hh.1.2, hh.2.1.2, hh.2.2.2⟩
      have hno := cmk_no (cc := cc) (show CA i 0 * CA j 0 < 2147483648 by omega) (show CA i 1 * CA j 1 < 2147483648 by omega) (show CA i 2 * CA j 2 < 2147483648 by omega) hns
      rw [if_neg (fun hh => hft hh.2.2.1)]
      refine ⟨_, cmk_nm3 (cc := cc) (a := ci (CA i 0 * CA j 0)) (b := ci (CA i 1 * CA j 1)) (d := ci (CA i 2 * CA j 2)), ?_⟩
      rw [hd0, c_addBad hhd hcc (by rw [hno]; omega), zbT_r]
def aWay (T : TZ) (a1 : Int32) : Option (Int32 × TZ) := match T with
  | (p, cc, wc, CA, CG, WA, WG, WV) => if bl cc a1 = true ∧ wc < 16 then some (ci wc, (p, cc, wc + 1, CA, CG, nwW WA wc (CA (nn a1) 0) (CA (nn a1) 1) (CA (nn a1) 2) (CA (nn a1) 3), upG WG wc (cpF (CG (nn a1)) 64), WV)) else none
theorem op_way {S : ZS} {ad : Nat → Nat} {T : TZ} (h : zQ S ad T) (hfr : zFr S.1 S.2) (a1 : Int32) : zOpF ["java/lang/IndexOutOfBoundsException", "java/lang/IllegalStateException"] (aWay T a1) (fX5_way (ad 10) a1 S) S (zRes S ad T.2.1 T.2.2.1) := by
  obtain ⟨p, cc, wc, CA, CG, WA, WG, WV⟩ := T
  obtain ⟨hK, hin, hcl⟩ := h
  have hcc := hK.2.1
  have hwc := hK.2.2.1
  have hhd := hcl.1
  have hlt := lt_of hcl hfr
  unfold aWay
  simp only []
  cases hb : bl cc a1 with
  | false =>
    rw [if_neg (fun hh => by cases hh.1)]
    refine ⟨"java/lang/IndexOutOfBoundsException", by simp, ?_⟩
    unfold fX5_way
    rw [zcl_ob hhd.1, c_noCube hhd hcc hb, zbT_r]
  | true =>
    obtain ⟨i, hi, rfl⟩ := bl_ex (by omega) hb
    rw [nn_ci (by omega)]
    by_cases h16 : wc = 16
    · rw [if_neg (fun hh => by have := hh.2; omega)]
      refine ⟨"java/lang/IllegalStateException", by simp, ?_⟩
      unfold fX5_way fX5_way_J25
      rw [zcl_ob hhd.1, c_needCube hhd hcc hi, zbT_l]
      show Option.bind (zgI S (ad 10) 5 8) _ = _
      rw [zgI_ob hhd.1 rfl, Option.bind_some, if_neg (ci_nneg (by omega)), Option.bind_some, zgR_ob hhd.1 rfl, Option.bind_some, zalQ hhd.2.2 (by omega), Option.bind_some, if_neg (by rw [ci_lt (by omega) (by omega)]; omega)]
    · have hw : wc < 16 := by omega
      rw [if_pos ⟨rfl, hw⟩]
      obtain ⟨S1, c1, c2, c3, c4⟩ := c_way hK.1 hcl hin hlt hcc hw hi
      exact ⟨S1, c1, zRes.nw hK (by omega) hw c2 c3 c4⟩
