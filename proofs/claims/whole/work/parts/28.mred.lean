/-! THE MODEL'S WAYS: add, turn, take out, reduce, walk -/
theorem m_from0 (w q : Nat) : fX6_from (ci w) (ci q) (0 : Int32) = some (ci (480 * w + 12 * q)) := m_from w q 0
def mQ (R : Nat → Nat) (b : Nat) : Prop := b = R 10 ∨ b = R 11
theorem m_add {S : ZS} {m w p a b d k q r s t : Nat} {R : Nat → Nat} {X : Nat → Int32} {A : Nat → Nat → Int32} {v : Nat → Nat → Nat → Nat} (h : zMo S m R X A) (y : mWy X A w p a b d k v) (hq : q < k) (hr : r < k) (hqr : q ≠ r) (hs : s < 3) (ht : t < p) :
    ∃ S1 A1, fX6_add m (ci w) (ci q) (ci r) (ci s) (ci t) S = some S1 ∧ zMo S1 m R X A1 ∧ mWy X A1 w p a b d k (vadd p v q r s t) ∧ mU w A A1 ∧ zFrm S S1 (mQ R) := by
  have hn := y.s4 (s := s)
  have hp := y.2.1.b
  have hw := y.1
  have hk := y.kk
  obtain ⟨B, hB⟩ : ∃ B, B = 480 * w + 12 * q + 4 * s := ⟨_, rfl⟩
  let fi : Nat → Nat → Int32 := fun i x => if B ≤ x ∧ x < B + i then ci ((v q s (x - B) + t * v r s (x - B)) % p) else A 11 x
  let st : Nat → ZS := fun i => zwI S (R 11) (mN 11) (fi i)
  have hst : ∀ i, zMo (st i) m R X (mS A 11 (fi i)) := fun i => (h.set A11 (fi i)).1
  have hin : ∀ i x, B ≤ x ∧ x < B + i → fi i x = ci ((v q s (x - B) + t * v r s (x - B)) % p) := fun i x hx => if_pos hx
  have hou : ∀ i x, ¬ (B ≤ x ∧ x < B + i) → fi i x = A 11 x := fun i x hx => if_neg hx
  have h0 : st 0 = S := by
    show zwI S (R 11) (mN 11) (fi 0) = S
    rw [show fi 0 = A 11 from by funext x; exact hou 0 x (by omega)]
    exact zwI_same (h.2.1 11 A11)
  have hsz : ∀ i, zaI (st i) (R 7) 0 ((3 : Int32) * ci w + ci s) = some (ci (sz3 a b d s)) := fun i => by
    rw [cl_3, ci_mul, ci_add, (hst i).rd A7 (by rw [N7]; omega), mS_ne (by omega), y.si hs]
  refine ⟨st (sz3 a b d s), mS A 11 (fi (sz3 a b d s)), ?_, hst _, ?_, ?_, (h.set A11 _).2.wk (fun _ => Or.inr)⟩
  · unfold fX6_add
    have h9 : ((0 : Int32), S) = (ci 0, st 0) := by rw [h0]; rfl
    rw [h9]
    refine ziter_seq (fun i => (ci i, st i)) _ (sz3 a b d s) zF (by rw [zF_eq]; omega) ?_ ?_
    · intro i hi
      have l1 := y.lt hq hs hi
      have l2 := y.lt hr hs hi
      have l3 : t * v r s i ≤ 4 * 4 := Nat.mul_le_mul (by omega) (by omega)
      unfold fX6_add_B3
      rw [zgR_ob (hst i).1 rfl, Option.bind_some, hsz i, Option.bind_some, if_neg (by rw [ci_le (by omega) (by omega)]; omega)]
      rw [zgR_ob (hst i).1 rfl, Option.bind_some, m_from, Option.bind_some, Option.bind_some, Option.bind_some]
      rw [ci_add, (hst i).rd A11 (by rw [N11]; omega), mS_self, hou i _ (by omega), y.at hq hs hi, Option.bind_some, Option.bind_some, m_from, Option.bind_some]
      rw [ci_add, (hst i).rd A11 (by rw [N11]; omega), mS_self, hou i _ (by omega), y.at hr hs hi, Option.bind_some]
      rw [zgI_ob (hst i).1 rfl, Option.bind_some, y.2.2.2.2.1, ci_mul, ci_add, z_rem (by omega) (by omega) (by omega), Option.bind_some]
      rw [(hst i).wr A11 (by rw [N11]; omega), Option.bind_some, cl_1, ci_add, mS_self]
      congr 3
      show zwI (zwI S (R 11) (mN 11) (fi i)) (R 11) (mN 11) _ = zwI S (R 11) (mN 11) (fi (i + 1))
      rw [zwI_2]
      congr 1
      funext x
      unfold va_up
      by_cases hx : x = 480 * w + 12 * q + 4 * s + i
      · rw [if_pos hx, hin (i + 1) x (by omega), show x - B = i by omega]
      · rw [if_neg hx]
        by_cases h8 : B ≤ x ∧ x < B + i
        · rw [hin i x h8, hin (i + 1) x (by omega)]
        · rw [hou i x h8, hou (i + 1) x (by omega)]
    · unfold fX6_add_B3
      rw [zgR_ob (hst _).1 rfl, Option.bind_some, hsz _, Option.bind_some, if_pos (by rw [ci_le (by omega) (by omega)]; omega), zex_some]
  · refine ⟨hw, y.2.1, y.2.2.1, hk, y.2.2.2.2.1, fun s' hs' => ?_, ?_, ?_, ?_⟩
    · rw [mS_ne (by omega)]; exact y.si hs'
    · rw [mS_ne (by omega)]; exact y.n
    · intro q' hq' s' hs' j hj
      unfold vadd
      by_cases hc : q' = q ∧ s' = s
      · obtain ⟨rfl, rfl⟩ := hc
        rw [vset_self]; exact Nat.mod_lt _ (by omega)
      · rw [vset_ne hc]; exact y.lt hq' hs' hj
    · intro q' hq' s' hs' j hj
      have hn' := y.s4 (s := s')
      rw [mS_self]
      unfold vadd
      by_cases hc : q' = q ∧ s' = s
      · obtain ⟨rfl, rfl⟩ := hc
        rw [vset_self, hin _ _ (by omega), show 480 * w + 12 * q' + 4 * s' + j - B = j by omega]
      · rw [vset_ne hc, hou _ _ (by omega)]; exact y.at hq' hs' hj
  · refine ⟨fun i h1 h2 => mS_ne h2, fun x hx => by rw [mS_ne (by omega)], fun x hx => ?_⟩
    rw [mS_self]; exact hou _ _ (by omega)
theorem m_turn {S : ZS} {m w p a b d k q r s : Nat} {R : Nat → Nat} {X : Nat → Int32} {A : Nat → Nat → Int32} {v : Nat → Nat → Nat → Nat} (h : zMo S m R X A) (y : mWy X A w p a b d k v) (hq : q < k) (hr : r < k) (hqr : q ≠ r) (hs : s < 3) :
    ∃ S1 A1, fX6_turn m (ci w) (ci q) (ci r) (ci s) S = some S1 ∧ zMo S1 m R X A1 ∧ mWy X A1 w p a b d k (vturn p v q r s) ∧ mU w A A1 ∧ zFrm S S1 (mQ R) := by
  have hp := y.2.1.b
  have hl : lowS s < 3 := by unfold lowS; split <;> omega
  have hh : highS s < 3 := by unfold highS; split <;> omega
  obtain ⟨S1, A1, f1, f2, f3, f4, f5⟩ := m_add h y hq hr hqr hl (t := 1) (by omega)
  obtain ⟨S2, A2, g1, g2, g3, g4, g5⟩ := m_add f2 f3 hr hq (Ne.symm hqr) hh (t := p - 1) (by omega)
  refine ⟨S2, A2, ?_, g2, g3, f4.tr g4, f5.tr g5⟩
  have k2 : fX6_turn_J23 m (ci w) (ci q) (ci r) (ci (lowS s)) (ci (highS s)) S = some S2 := by
    unfold fX6_turn_J23
    rw [cl_1, h.cl, f1, Option.bind_some, zgI_ob f2.1 rfl, Option.bind_some, y.2.2.2.2.1, ci_sub (by omega), f2.cl, g1, Option.bind_some]
  have key : fX6_turn_J10 m (ci w) (ci q) (ci r) (ci s) (ci (lowS s)) S = some S2 := by
    unfold fX6_turn_J10
    unfold highS at k2
    by_cases h2 : s = 2
    · rw [if_pos h2] at k2
      rw [if_pos (by rw [h2]; rfl)]
      exact k2
    · rw [if_neg h2] at k2
      rw [if_neg (by rw [cl_2, ci_eq (by omega) (by omega)]; exact h2)]
      exact k2
  unfold fX6_turn
  unfold lowS at key
  by_cases h0 : s = 0
  · rw [if_pos h0] at key
    rw [if_pos (by rw [h0]; rfl)]
    exact key
  · rw [if_neg h0] at key
    rw [if_neg (by rw [cl_0, ci_eq (by omega) (by omega)]; exact h0)]
    exact key
theorem m_takeOut {S : ZS} {m w p a b d k q : Nat} {R : Nat → Nat} {X : Nat → Int32} {A : Nat → Nat → Int32} {v : Nat → Nat → Nat → Nat} (h : zMo S m R X A) (y : mWy X A w p a b d k v) (hq : q < k) :
    ∃ S1 A1, fX6_takeOut m (ci w) (ci q) S = some S1 ∧ zMo S1 m R X A1 ∧ mWy X A1 w p a b d (k - 1) (vdel v q) ∧ mU w A A1 ∧ zFrm S S1 (mQ R) := by
  have hp := y.2.1.b
  have hw := y.1
  have hk := y.kk
  have hx1 := h.set A10 (va_up (A 10) w (ci (k - 1)))
  obtain ⟨S3, hS3⟩ : ∃ S3, S3 = zwI S (R 10) (mN 10) (va_up (A 10) w (ci (k - 1))) := ⟨_, rfl⟩
  obtain ⟨A3, hA3⟩ : ∃ A3, A3 = mS A 10 (va_up (A 10) w (ci (k - 1))) := ⟨_, rfl⟩
  rw [← hS3, ← hA3] at hx1
  have e10 : A3 10 w = ci (k - 1) := by rw [hA3, mS_self, va_up_self]
  have e11 : A3 11 = A 11 := by rw [hA3, mS_ne (by omega)]
  obtain ⟨B, hB⟩ : ∃ B, B = 480 * w + 12 * q := ⟨_, rfl⟩
  let fi : Nat → Nat → Int32 := fun i x => if B ≤ x ∧ x < B + i then A 11 (x + 12) else A 11 x
  let st : Nat → ZS := fun i => zwI S3 (R 11) (mN 11) (fi i)
  have hst : ∀ i, zMo (st i) m R X (mS A3 11 (fi i)) := fun i => (hx1.1.set A11 (fi i)).1
  have hin : ∀ i x, B ≤ x ∧ x < B + i → fi i x = A 11 (x + 12) := fun i x hx => if_pos hx
  have hou : ∀ i x, ¬ (B ≤ x ∧ x < B + i) → fi i x = A 11 x := fun i x hx => if_neg hx
  have h0 : st 0 = S3 := by
    show zwI S3 (R 11) (mN 11) (fi 0) = S3
    rw [show fi 0 = A3 11 from by rw [e11]; funext x; exact hou 0 x (by omega)]
    exact zwI_same (hx1.1.2.1 11 A11)
  have hct : ∀ i, zaI (st i) (R 10) 0 (ci w) = some (ci (k - 1)) := fun i => by
    rw [(hst i).rd A10 (by rw [N10]; omega), mS_ne (by omega), e10]
  obtain ⟨n, hn⟩ : ∃ n, n = 12 * (k - 1 - q) := ⟨_, rfl⟩
  refine ⟨st n, mS A3 11 (fi n), ?_, hst _, ?_, ?_, (hx1.2.wk (fun _ => Or.inl)).tr ((hx1.1.set A11 _).2.wk (fun _ => Or.inr))⟩
  · unfold fX6_takeOut
    rw [zgR_ob h.1 rfl, Option.bind_some, h.rd A10 (by rw [N10]; omega), y.n, Option.bind_some, cl_1, ci_sub (by omega), h.wr A10 (by rw [N10]; omega), Option.bind_some, m_from0, Option.bind_some, ← hS3, ← hB]
    have h9 : (ci B, S3) = (ci (B + 0), st 0) := by rw [h0]; rfl
    rw [h9]
    refine ziter_seq (fun i => (ci (B + i), st i)) _ n zF (by rw [zF_eq]; omega) ?_ ?_
    · intro i hi
      unfold fX6_takeOut_B17
      rw [zgR_ob (hst i).1 rfl, Option.bind_some, hct i, Option.bind_some, m_from0, Option.bind_some, if_neg (by rw [ci_le (by omega) (by omega)]; omega)]
      rw [zgR_ob (hst i).1 rfl, Option.bind_some, Option.bind_some, cl_12, ci_add, (hst i).rd A11 (by rw [N11]; omega), mS_self, hou i _ (by omega), Option.bind_some]
      rw [(hst i).wr A11 (by rw [N11]; omega), Option.bind_some, cl_1, ci_add, mS_self]
      congr 3
      show zwI (zwI S3 (R 11) (mN 11) (fi i)) (R 11) (mN 11) _ = zwI S3 (R 11) (mN 11) (fi (i + 1))
      rw [zwI_2]
      congr 1
      funext x
      unfold va_up
      by_cases hx : x = B + i
      · rw [if_pos hx, hin (i + 1) x (by omega), hx]
      · rw [if_neg hx]
        by_cases h8 : B ≤ x ∧ x < B + i
        · rw [hin i x h8, hin (i + 1) x (by omega)]
        · rw [hou i x h8, hou (i + 1) x (by omega)]
    · unfold fX6_takeOut_B17
      rw [zgR_ob (hst _).1 rfl, Option.bind_some, hct _, Option.bind_some, m_from0, Option.bind_some, if_pos (by rw [ci_le (by omega) (by omega)]; omega), zex_some]
  · refine ⟨hw, y.2.1, y.2.2.1, by omega, y.2.2.2.2.1, fun s' hs' => ?_, ?_, ?_, ?_⟩
    · rw [mS_ne (by omega), hA3, mS_ne (by omega)]; exact y.si hs'
    · rw [mS_ne (by omega)]; exact e10
    · intro q' hq' s' hs' j hj
      unfold vdel
      by_cases hc : q' < q
      · rw [if_pos hc]; exact y.lt (by omega) hs' hj
      · rw [if_neg hc]; exact y.lt (by omega) hs' hj
    · intro q' hq' s' hs' j hj
      have hn' := y.s4 (s := s')
      rw [mS_self]
      unfold vdel
      by_cases hc : q' < q
      · rw [if_pos hc, hou _ _ (by omega)]; exact y.at (by omega) hs' hj
      · rw [if_neg hc, hin _ _ (by omega), show 480 * w + 12 * q' + 4 * s' + j + 12 = 480 * w + 12 * (q' + 1) + 4 * s' + j by omega]; exact y.at (by omega) hs' hj
  · refine ⟨fun i h1 h2 => by rw [mS_ne h2, hA3, mS_ne h1], fun x hx => by rw [mS_ne (by omega), hA3, mS_self, va_up_ne _ _ hx], fun x hx => ?_⟩
    rw [mS_self]; exact hou _ _ (by omega)
