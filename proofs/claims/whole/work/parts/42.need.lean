/-! WHAT CALLS NEED -/
def bl (n : Nat) (a : Int32) : Bool := decide (0 ≤ a ∧ a < ci n)
theorem bl_ex {n : Nat} {a : Int32} (hn : n < 2147483648) (h : bl n a = true) : ∃ i, i < n ∧ a = ci i := by
  unfold bl at h
  rw [decide_eq_true_eq] at h
  obtain ⟨i, hi, rfl⟩ := ci_of h.1
  exact ⟨i, (ci_lt hi hn).mp h.2, rfl⟩
theorem bl_ci {n i : Nat} (hn : n < 2147483648) (hi : i < 2147483648) : bl n (ci i) = decide (i < n) := by
  unfold bl
  congr 1
  rw [ci_lt hi hn]
  exact propext ⟨fun h => h.2, fun h => ⟨Int32.not_lt.mp (ci_nneg hi), h⟩⟩
theorem bl_neg {n : Nat} {a : Int32} (h : a < 0) : bl n a = false := by
  unfold bl
  exact decide_eq_false (fun hh => (Int32.not_lt.mpr hh.1) h)
theorem c_isBelow {n : Nat} {a : Int32} (hn : n < 2147483648) : fX5_isBelow a (ci n) = some (bI (bl n a)) := by
  unfold fX5_isBelow fX5_isBelow_J13 fX5_isBelow_J14
  by_cases h : a < 0
  · rw [if_pos h, bl_neg h]; rfl
  · rw [if_neg h]
    obtain ⟨i, hi, rfl⟩ := ci_of (Int32.not_lt.mp h)
    rw [bl_ci hn hi]
    by_cases h2 : i < n
    · rw [if_neg (by rw [ci_le hn hi]; omega), decide_eq_true h2]; rfl
    · rw [if_pos (by rw [ci_le hn hi]; omega), decide_eq_false h2]; rfl
theorem m_in {n : Nat} {a : Int32} (hn : n < 2147483648) : fX6_in a (0 : Int32) (ci n - 1) = some (bI (bl n a)) := by
  unfold fX6_in fX6_in_J14 fX6_in_J15
  by_cases h : a < 0
  · rw [if_pos h, bl_neg h]; rfl
  · rw [if_neg h]
    obtain ⟨i, hi, rfl⟩ := ci_of (Int32.not_lt.mp h)
    rw [bl_ci hn hi]
    by_cases h0 : n = 0
    · subst h0
      rw [if_pos, decide_eq_false (by omega)]
      · rfl
      · refine Int32.lt_of_lt_of_le (b := 0) (by decide) (Int32.not_lt.mp h)
    · rw [cl_1, ci_sub (by omega)]
      by_cases h2 : i < n
      · rw [if_neg (by rw [ci_lt (by omega) hi]; omega), decide_eq_true h2]; rfl
      · rw [if_pos (by rw [ci_lt (by omega) hi]; omega), decide_eq_false h2]; rfl
theorem zaQ_ci {S : ZS} {a t N i : Nat} {F : Nat → Option Nat} (h : zRA S a t N F) (hi : i < N) (hN : N < 2147483648) : zaQ S a t (ci i) = some (F i) := by
  have hn : (ci i).toNatClampNeg = i := ci_nat (by omega)
  unfold zaQ
  rw [show S.1 a = _ from h]
  simp only [hn]
  rw [if_pos ⟨trivial, fun q => q.elim (ci_nneg (by omega)) (by omega)⟩]
theorem zalQ {S : ZS} {a t N : Nat} {F : Nat → Option Nat} (h : zRA S a t N F) (ht : t < 5) : zal S a = some (ci N) := by
  unfold zal
  rw [show S.1 a = _ from h]
  exact if_pos ht
theorem c_needCube {S : ZS} {ad : Nat → Nat} {p cc wc i : Nat} (h : zHd S ad p cc wc) (hc : cc ≤ 16) (hi : i < cc) : fX5_needCube (ad 10) (ci i) S = some (.inl (ad (100 + 2 * i), S)) := by
  unfold fX5_needCube fX5_needCube_J23
  rw [if_neg (ci_nneg (by omega)), zgR_ob h.1 rfl, Option.bind_some, zalQ h.2.1 (by omega), Option.bind_some, if_neg (by rw [ci_le (by omega) (by omega)]; omega), Option.bind_some, zaQ_ci h.2.1 (by omega) (by omega), Option.bind_some, if_pos hi]
  rfl
theorem c_noCube {S : ZS} {ad : Nat → Nat} {p cc wc : Nat} {a : Int32} (h : zHd S ad p cc wc) (hc : cc ≤ 16) (hb : bl cc a = false) : fX5_needCube (ad 10) a S = some (.inr ("java/lang/IndexOutOfBoundsException", S.1)) := by
  unfold fX5_needCube fX5_needCube_J22 fX5_needCube_J23
  by_cases hl : a < 0
  · rw [if_pos hl]; rfl
  · rw [if_neg hl]
    obtain ⟨i, hi, rfl⟩ := ci_of (Int32.not_lt.mp hl)
    rw [bl_ci (by omega) hi, decide_eq_false_iff_not] at hb
    rw [zgR_ob h.1 rfl, Option.bind_some, zalQ h.2.1 (by omega), Option.bind_some]
    by_cases h16 : 16 ≤ i
    · rw [if_pos (by rw [ci_le (by omega) (by omega)]; omega)]; rfl
    · rw [if_neg (by rw [ci_le (by omega) (by omega)]; omega), Option.bind_some, zaQ_ci h.2.1 (by omega) (by omega), Option.bind_some, if_neg hb]; rfl
theorem c_needWay {S : ZS} {ad : Nat → Nat} {p cc wc i : Nat} (h : zHd S ad p cc wc) (hc : wc ≤ 16) (hi : i < wc) : fX5_needWay (ad 10) (ci i) S = some (.inl (ad (200 + 4 * i), S)) := by
  unfold fX5_needWay fX5_needWay_J23
  rw [if_neg (ci_nneg (by omega)), zgR_ob h.1 rfl, Option.bind_some, zalQ h.2.2 (by omega), Option.bind_some, if_neg (by rw [ci_le (by omega) (by omega)]; omega), Option.bind_some, zaQ_ci h.2.2 (by omega) (by omega), Option.bind_some, if_pos hi]
  rfl
theorem c_noWay {S : ZS} {ad : Nat → Nat} {p cc wc : Nat} {a : Int32} (h : zHd S ad p cc wc) (hc : wc ≤ 16) (hb : bl wc a = false) : fX5_needWay (ad 10) a S = some (.inr ("java/lang/IndexOutOfBoundsException", S.1)) := by
  unfold fX5_needWay fX5_needWay_J22 fX5_needWay_J23
  by_cases hl : a < 0
  · rw [if_pos hl]; rfl
  · rw [if_neg hl]
    obtain ⟨i, hi, rfl⟩ := ci_of (Int32.not_lt.mp hl)
    rw [bl_ci (by omega) hi, decide_eq_false_iff_not] at hb
    rw [zgR_ob h.1 rfl, Option.bind_some, zalQ h.2.2 (by omega), Option.bind_some]
    by_cases h16 : 16 ≤ i
    · rw [if_pos (by rw [ci_le (by omega) (by omega)]; omega)]; rfl
    · rw [if_neg (by rw [ci_le (by omega) (by omega)]; omega), Option.bind_some, zaQ_ci h.2.2 (by omega) (by omega), Option.bind_some, if_neg hb]; rfl
theorem m_isCube {S : ZS} {m cc : Nat} {a : Int32} {R : Nat → Nat} {X : Nat → Int32} {A : Nat → Nat → Int32} (h : zMo S m R X A) (hX : X 2 = ci cc) (hc : cc ≤ 16) : fX6_isCube m a S = some (bI (bl cc a)) := by
  unfold fX6_isCube
  rw [zgI_ob h.1 rfl, Option.bind_some, hX, m_in (by omega), Option.bind_some, zbl_bI, Option.bind_some]
theorem m_isWay {S : ZS} {m wc : Nat} {a : Int32} {R : Nat → Nat} {X : Nat → Int32} {A : Nat → Nat → Int32} (h : zMo S m R X A) (hX : X 6 = ci wc) (hc : wc ≤ 16) : fX6_isWay m a S = some (bI (bl wc a)) := by
  unfold fX6_isWay
  rw [zgI_ob h.1 rfl, Option.bind_some, hX, m_in (by omega), Option.bind_some, zbl_bI, Option.bind_some]
theorem m_isSide {a : Int32} : fX6_isSide a = some (bI (bl 3 a)) := by
  unfold fX6_isSide
  rw [show (2 : Int32) = ci 3 - 1 from rfl, m_in (by omega), Option.bind_some, zbl_bI, Option.bind_some]
theorem c_needSide {S : ZS} {a : Int32} : fX5_needSide a S = if bl 3 a = true then some (.inl ((), S)) else some (.inr ("java/lang/IndexOutOfBoundsException", S.1)) := by
  unfold fX5_needSide
  rw [cl_3, c_isBelow (by omega), Option.bind_some]
  cases bl 3 a <;> rfl
theorem c_needProduct {S : ZS} {w c n t p a b d sq k : Nat} {g : Nat → Nat} {v : Nat → Nat → Nat → Nat} {x : Int32} (h : zWy S w c n t p a b d sq k g v) : fX5_needProduct w x S = if bl k x = true then some (.inl ((), S)) else some (.inr ("java/lang/IndexOutOfBoundsException", S.1)) := by
  have := h.kk
  unfold fX5_needProduct
  rw [zgI_ob h.wa rfl, Option.bind_some, c_isBelow (by omega), Option.bind_some]
  cases bl k x <;> rfl
theorem m_isProduct {S : ZS} {m wc w p a b d k : Nat} {x : Int32} {R : Nat → Nat} {X : Nat → Int32} {A : Nat → Nat → Int32} {v : Nat → Nat → Nat → Nat} (h : zMo S m R X A) (hX : X 6 = ci wc) (hc : wc ≤ 16) (hw : w < wc) (y : mWy X A w p a b d k v) : fX6_isProduct m (ci w) x S = some (bI (bl k x)) := by
  have := y.kk
  unfold fX6_isProduct fX6_isProduct_J28 fX6_isProduct_J29
  rw [h.cl, m_isWay h hX hc, Option.bind_some, bl_ci (by omega) (by omega), decide_eq_true hw, if_neg (show ¬ bI true = 0 by decide), zgR_ob h.1 rfl, Option.bind_some, m_ct h y, Option.bind_some, m_in (by omega), Option.bind_some]
  cases bl k x <;> rfl
theorem m_noProduct {S : ZS} {m wc : Nat} {a x : Int32} {R : Nat → Nat} {X : Nat → Int32} {A : Nat → Nat → Int32} (h : zMo S m R X A) (hX : X 6 = ci wc) (hc : wc ≤ 16) (hb : bl wc a = false) : fX6_isProduct m a x S = some 0 := by
  unfold fX6_isProduct fX6_isProduct_J28 fX6_isProduct_J29
  rw [h.cl, m_isWay h hX hc, Option.bind_some, hb, if_pos bI_f]
  rfl
theorem mWw.kp {X X' : Nat → Int32} {A A' : Nat → Nat → Int32} {p i w : Nat} {c g : Nat → Nat} {v : Nat → Nat → Nat → Nat} (h : mWw X A p i c g v) (hX : X' 1 = X 1) (hu : mU w A A') (hi : i ≠ w) : mWw X' A' p i c g v := by
  obtain ⟨⟨h1, h2, h3, h4, h5, h6, h7, h8, h9⟩, h10, h11⟩ := h
  refine ⟨⟨h1, h2, h3, h4, hX.trans h5, fun s hs => ?_, ?_, h8, fun q hq s hs j hj => ?_⟩, fun x hx => ?_, ?_⟩
  · rw [hu.1 7 (by omega) (by omega)]; exact h6 s hs
  · rw [hu.2.1 i hi]; exact h7
  · have := sz3_b h3 (s := s)
    rw [hu.2.2 _ (by omega)]; exact h9 q hq s hs j hj
  · rw [hu.1 8 (by omega) (by omega)]; exact h10 x hx
  · rw [hu.1 9 (by omega) (by omega)]; exact h11
theorem mCu.kp {A A' : Nat → Nat → Int32} {i w : Nat} {c g : Nat → Nat} (h : mCu A i c g) (hu : mU w A A') : mCu A' i c g := by
  obtain ⟨h1, h2, h3⟩ := h
  exact ⟨fun s hs => by rw [hu.1 3 (by omega) (by omega)]; exact h1 s hs, fun x hx => by rw [hu.1 4 (by omega) (by omega)]; exact h2 x hx, by rw [hu.1 5 (by omega) (by omega)]; exact h3⟩
