/-! THE MODEL'S WAYS: codes, decode, multiply, plain -/
theorem A8 : isA 8 := Or.inr ⟨by omega, by omega⟩
theorem N8 : mN 8 = 1024 := rfl
theorem m_goesWell {S : ZS} {m j : Nat} {R : Nat → Nat} {X : Nat → Int32} {A : Nat → Nat → Int32} (h : zMo S m R X A) (hj : j < 2147483648) : ∃ S1, fX6_goesWell m (ci j) S = some (bI (decide (j = 0)), S1) ∧ zMo S1 m R (mX X 0 (ci j)) A ∧ zFrm S S1 (fun b => b = m) := by
  have hs := h.sx (X' := mX X 0 (ci j))
  refine ⟨_, ?_, hs.1, hs.2⟩
  unfold fX6_goesWell
  rw [zpF_ob _ h.1 (show 0 < (mF R X).length from by unfold mF; simp), Option.bind_some]
  have e : zwO S m 6 ((mF R X).set 0 (.int (ci j))) = zwO S m 6 (mF R (mX X 0 (ci j))) := rfl
  rw [e]
  unfold fX6_goesWell_J14
  by_cases h0 : j = 0
  · rw [if_pos (by rw [h0]; rfl), decide_eq_true h0, ← bI_t, zbl_bI, Option.bind_some]
  · rw [if_neg (by rw [cl_0, ci_eq hj (by omega)]; exact h0), decide_eq_false h0, ← bI_f, zbl_bI, Option.bind_some]
theorem m_codes {S : ZS} {m w p a b d k s : Nat} {R : Nat → Nat} {X : Nat → Int32} {A : Nat → Nat → Int32} {v : Nat → Nat → Nat → Nat} (h : zMo S m R X A) (y : mWy X A w p a b d k v) (hs : s < 3) : fX6_codes m (ci w) (ci s) S = some (ci (p ^ sz3 a b d s)) := by
  have hn := y.s4 (s := s)
  unfold fX6_codes
  refine ziter_seq (fun i => (ci (p ^ i), ci i)) _ (sz3 a b d s) zF (by rw [zF_eq]; omega) ?_ ?_
  · intro i hi
    unfold fX6_codes_B5
    rw [zgR_ob h.1 rfl, Option.bind_some, m_size h y hs, Option.bind_some, if_neg (by rw [ci_le (by omega) (by omega)]; omega), zgI_ob h.1 rfl, Option.bind_some, y.2.2.2.2.1, ci_mul, cl_1, ci_add]
    rfl
  · unfold fX6_codes_B5
    rw [zgR_ob h.1 rfl, Option.bind_some, m_size h y hs, Option.bind_some, if_pos (by rw [ci_le (by omega) (by omega)]; omega), zex_some]
theorem addm1 (x : Int32) : x + (-1 : Int32) = x - 1 := (Int32.sub_eq_add_neg ..).symm
theorem m_decode {S : ZS} {m w p q s n c : Nat} {R : Nat → Nat} {X : Nat → Int32} {A : Nat → Nat → Int32} (h : zMo S m R X A) (hw : w < 16) (hq : q < 40) (hs : s < 3) (hX : X 1 = ci p) (hp : isP p) (hn : n ≤ 4) (hA : A 7 (3 * w + s) = ci n) (hc : c < 2147483648) :
    ∃ S1 f, fX6_decode m (ci w) (ci q) (ci s) (ci c) S = some S1 ∧ zMo S1 m R X (mS A 11 f) ∧ (∀ j, j < n → f (480 * w + 12 * q + 4 * s + j) = ci (dg p n c j)) ∧ (∀ x, ¬ (480 * w + 12 * q + 4 * s ≤ x ∧ x < 480 * w + 12 * q + 4 * s + n) → f x = A 11 x) ∧ zFrm S S1 (mQ R) := by
  have hpb := hp.b
  obtain ⟨B, hB⟩ : ∃ B, B = 480 * w + 12 * q + 4 * s := ⟨_, rfl⟩
  rw [← hB]
  let fi : Nat → Nat → Int32 := fun i x => if B + (n - i) ≤ x ∧ x < B + n then ci (dg p n c (x - B)) else A 11 x
  let st : Nat → ZS := fun i => zwI S (R 11) (mN 11) (fi i)
  have hst : ∀ i, zMo (st i) m R X (mS A 11 (fi i)) := fun i => (h.set A11 (fi i)).1
  have hin : ∀ i x, B + (n - i) ≤ x ∧ x < B + n → fi i x = ci (dg p n c (x - B)) := fun i x hx => if_pos hx
  have hou : ∀ i x, ¬ (B + (n - i) ≤ x ∧ x < B + n) → fi i x = A 11 x := fun i x hx => if_neg hx
  have h0 : st 0 = S := by
    show zwI S (R 11) (mN 11) (fi 0) = S
    rw [show fi 0 = A 11 from by funext x; exact hou 0 x (by omega)]
    exact zwI_same (h.2.1 11 A11)
  refine ⟨st n, fi n, ?_, hst n, fun j hj => ?_, fun x hx => hou n x (by omega), (h.set A11 _).2.wk (fun _ => Or.inr)⟩
  · unfold fX6_decode
    rw [zgR_ob h.1 rfl, Option.bind_some, cl_3, ci_mul, ci_add, h.rd A7 (by rw [N7]; omega), hA, Option.bind_some]
    have h9 : (ci c, ci n - 1, S) = (ci (c / p ^ 0), ci (n - 0) - 1, st 0) := by rw [h0, Nat.pow_zero, Nat.div_one]; rfl
    rw [h9]
    refine ziter_seq (fun i => (ci (c / p ^ i), ci (n - i) - 1, st i)) _ n zF (by rw [zF_eq]; omega) ?_ ?_
    · intro i hi
      have hd : c / p ^ i ≤ c := Nat.div_le_self _ _
      have e1 : ci (n - i) - 1 = ci (n - i - 1) := by rw [cl_1, ci_sub (by omega)]
      unfold fX6_decode_B18
      simp only []
      rw [e1, if_neg (ci_nneg (by omega)), zgR_ob (hst i).1 rfl, Option.bind_some, m_from, Option.bind_some, zgI_ob (hst i).1 rfl, Option.bind_some, hX, z_rem (by omega) (by omega) (by omega), Option.bind_some, ci_add, ← hB]
      rw [(hst i).wr A11 (by rw [N11]; omega), Option.bind_some, mS_self]
      have e2 : zwI (st i) (R 11) (mN 11) (va_up (fi i) (B + (n - i - 1)) (ci (c / p ^ i % p))) = st (i + 1) := by
        show zwI (zwI S (R 11) (mN 11) (fi i)) (R 11) (mN 11) _ = zwI S (R 11) (mN 11) (fi (i + 1))
        rw [zwI_2]
        congr 1
        funext x
        unfold va_up
        by_cases hx : x = B + (n - i - 1)
        · rw [if_pos hx, hin (i + 1) x (by omega), hx]
          unfold dg
          rw [show n - 1 - (B + (n - i - 1) - B) = i by omega]
        · rw [if_neg hx]
          by_cases h8 : B + (n - i) ≤ x ∧ x < B + n
          · rw [hin i x h8, hin (i + 1) x (by omega)]
          · rw [hou i x h8, hou (i + 1) x (by omega)]
      rw [e2, zgI_ob (hst (i + 1)).1 rfl, Option.bind_some, hX]
      unfold zdiv
      rw [if_neg (by rw [cl_0, ci_eq (by omega) (by omega)]; omega), ci_div (by omega) (by omega), Option.bind_some, Nat.div_div_eq_div_mul, ← Nat.pow_succ, addm1]
      rfl
    · unfold fX6_decode_B18
      simp only []
      rw [Nat.sub_self, if_pos (show ci 0 - 1 < 0 by decide), zex_some]
  · rw [hin n _ (by omega), show B + j - B = j by omega]
theorem m_multiply {S : ZS} {m w p a b d k c0 c1 c2 : Nat} {R : Nat → Nat} {X : Nat → Int32} {A : Nat → Nat → Int32} {v : Nat → Nat → Nat → Nat} (h : zMo S m R X A) (y : mWy X A w p a b d k v) (hk : k < 40) (h0 : c0 < p ^ a) (h1 : c1 < p ^ b) (h2 : c2 < p ^ d) (e : Nat → Nat → Nat) (he0 : e 0 = dg p a c0) (he1 : e 1 = dg p b c1) (he2 : e 2 = dg p d c2) :
    ∃ S1 A1, fX6_multiply_J85 m (ci w) (ci c0) (ci c1) (ci c2) m (0 : Int32) S = some (ci (k + 1), S1) ∧ zMo S1 m R (mX X 0 (ci 0)) A1 ∧ mWy (mX X 0 (ci 0)) A1 w p a b d (k + 1) (vapp v k e) ∧ mU w A A1 ∧ zFrm S S1 (mP m R) := by
  have hw := y.1
  have hp := y.2.1
  have hpb := hp.b
  have b0 := hp.pow (y.s4 (s := 0)).2
  have b1 := hp.pow (y.s4 (s := 1)).2
  have b2 := hp.pow (y.s4 (s := 2)).2
  have z0 : sz3 a b d 0 = a := rfl
  have z1 : sz3 a b d 1 = b := rfl
  have z2 : sz3 a b d 2 = d := rfl
  have n0 := y.s4 (s := 0)
  have n1 := y.s4 (s := 1)
  have n2 := y.s4 (s := 2)
  rw [z0] at n0 b0; rw [z1] at n1 b1; rw [z2] at n2 b2
  obtain ⟨S0, g1, g2, g3⟩ := m_goesWell h (j := 0) (by omega)
  have hX : mX X 0 (ci 0) 1 = ci p := y.2.2.2.2.1
  have hs3 := g2.set A10 (va_up (A 10) w (ci (k + 1)))
  obtain ⟨S3, hS3⟩ : ∃ S3, S3 = zwI S0 (R 10) (mN 10) (va_up (A 10) w (ci (k + 1))) := ⟨_, rfl⟩
  obtain ⟨A3, hA3⟩ : ∃ A3, A3 = mS A 10 (va_up (A 10) w (ci (k + 1))) := ⟨_, rfl⟩
  rw [← hS3, ← hA3] at hs3
  have a3 : ∀ i, i ≠ 10 → A3 i = A i := fun i hi => by rw [hA3, mS_ne hi]
  obtain ⟨S4, f4, p1, p2, p3, p4, p5⟩ := m_decode hs3.1 hw hk (s := 0) (n := a) (c := c0) (by omega) hX hp (by omega) (by rw [a3 7 (by omega)]; exact y.si (by omega)) (by omega)
  obtain ⟨S5, f5, q1, q2, q3, q4, q5⟩ := m_decode p2 hw hk (s := 1) (n := b) (c := c1) (by omega) hX hp (by omega) (by rw [mS_ne (by omega), a3 7 (by omega)]; exact y.si (by omega)) (by omega)
  obtain ⟨S6, f6, r1, r2, r3, r4, r5⟩ := m_decode q2 hw hk (s := 2) (n := d) (c := c2) (by omega) hX hp (by omega) (by rw [mS_ne (by omega), mS_ne (by omega), a3 7 (by omega)]; exact y.si (by omega)) (by omega)
  have toP : ∀ b, mQ R b → mP m R b := fun b hb => by
    rcases hb with hb | hb
    · exact Or.inr (Or.inr ⟨10, A10, hb⟩)
    · exact Or.inr (Or.inr ⟨11, A11, hb⟩)
  have e10 : mS (mS (mS A3 11 f4) 11 f5) 11 f6 10 w = ci (k + 1) := by rw [mS_ne (by omega), mS_ne (by omega), mS_ne (by omega), hA3, mS_self, va_up_self]
  have e11 : ∀ x, ¬ (480 * w + 12 * k ≤ x ∧ x < 480 * w + 12 * k + 12) → f6 x = A 11 x := fun x hx => by
    rw [r4 x (by omega), mS_self, q4 x (by omega), mS_self, p4 x (by omega), a3 11 (by omega)]
  refine ⟨S6, _, ?_, r2, ?_, ?_, ((g3.wk (fun b hb => Or.inl hb)).tr ((hs3.2.wk (fun b hb => Or.inr (Or.inr ⟨10, A10, hb⟩))).tr ((p5.wk toP).tr ((q5.wk toP).tr (r5.wk toP)))))⟩
  · unfold fX6_multiply_J85
    rw [cl_0, h.cl, g1, Option.bind_some, if_neg (by simp only []; decide)]
    simp only []
    rw [zgR_ob g2.1 rfl, Option.bind_some, g2.rd A10 (by rw [N10]; omega), y.n, Option.bind_some, Option.bind_some, g2.rd A10 (by rw [N10]; omega), y.n, Option.bind_some, cl_1, ci_add, g2.wr A10 (by rw [N10]; omega), Option.bind_some, ← hS3]
    rw [hs3.1.cl, p1, Option.bind_some, p2.cl, q1, Option.bind_some, cl_2, q2.cl, r1, Option.bind_some, zgR_ob r2.1 rfl, Option.bind_some, r2.rd A10 (by rw [N10]; omega), e10, Option.bind_some]
  · refine ⟨hw, hp, y.2.2.1, by omega, hX, fun s hs => ?_, e10, ?_, ?_⟩
    · rw [mS_ne (by omega), mS_ne (by omega), mS_ne (by omega), a3 7 (by omega)]; exact y.si hs
    · intro q hq s hs j hj
      unfold vapp
      by_cases hqk : q = k
      · rw [if_pos hqk]
        have h3 : s = 0 ∨ s = 1 ∨ s = 2 := by omega
        rcases h3 with rfl | rfl | rfl
        · rw [he0]; exact dg_lt (by omega)
        · rw [he1]; exact dg_lt (by omega)
        · rw [he2]; exact dg_lt (by omega)
      · rw [if_neg hqk]; exact y.lt (by omega) hs hj
    · intro q hq s hs j hj
      have hn' := y.s4 (s := s)
      rw [mS_self]
      unfold vapp
      by_cases hqk : q = k
      · rw [if_pos hqk, hqk]
        have h3 : s = 0 ∨ s = 1 ∨ s = 2 := by omega
        rcases h3 with rfl | rfl | rfl
        · rw [z0] at hj
          rw [r4 _ (by omega), mS_self, q4 _ (by omega), mS_self, p3 j hj, he0]
        · rw [z1] at hj
          rw [r4 _ (by omega), mS_self, q3 j hj, he1]
        · rw [z2] at hj
          rw [r3 j hj, he2]
      · rw [if_neg hqk, e11 _ (by omega)]; exact y.at (by omega) hs hj
  · refine ⟨fun i h1 h2 => by rw [mS_ne h2, mS_ne h2, mS_ne h2, a3 i h1], fun x hx => by rw [mS_ne (by omega), mS_ne (by omega), mS_ne (by omega), hA3, mS_self, va_up_ne _ _ hx], fun x hx => ?_⟩
    rw [mS_self]; exact e11 x (by omega)
