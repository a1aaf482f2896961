/-! LAW CASE 3: polynomials, the class's loops -/
theorem c_pin {S : ZS} {l0 c nn a b i q : Nat} (hs : a ≤ 4 ∧ b ≤ 4 ∧ a + b - 1 ≤ 4) (hi : i < a) (h : zCu S c nn a b (a + b - 1) q (pG a b (i * 4))) : ∃ S1, ziter (fX5_polynomials_B32 l0 (ci a) (ci b) c (ci i)) zF (ci 0, S) = some (.inl (ci (i + 1), S1)) ∧ zCu S1 c nn a b (a + b - 1) q (pG a b ((i + 1) * 4)) ∧ zFrm S S1 (fun b => b = nn) := by
  have := ziter_for (body := fX5_polynomials_B32 l0 (ci a) (ci b) c (ci i)) (fun j S' => zCu S' c nn a b (a + b - 1) q (pG a b (i * 4 + j)) ∧ zFrm S S' (fun b => b = nn)) (fun r => ∃ S1, r = .inl (ci (i + 1), S1) ∧ zCu S1 c nn a b (a + b - 1) q (pG a b ((i + 1) * 4)) ∧ zFrm S S1 (fun b => b = nn)) b ?_ ?_ b 0 zF S (by omega) (by rw [zF_eq]; omega) ⟨h, zFrm.rf⟩
  · obtain ⟨r, h1, S1, rfl, h2, h3⟩ := this
    exact ⟨S1, h1, h2, h3⟩
  · rintro j S' hj ⟨y, hf⟩
    obtain ⟨S1, f1, f2, f3⟩ := g_enter (v := 1) y (i := i) (j := j) (k := i + j) (by omega) (by omega) (by omega)
    rw [pG_step (by omega) (by omega) (by omega) hi hj] at f2
    refine ⟨S1, ?_, f2, hf.tr f3⟩
    unfold fX5_polynomials_B32
    simp only []
    rw [if_neg (by rw [ci_le (by omega) (by omega)]; omega), ci_add, zcl_cu y, cl_1, f1, Option.bind_some, ci_add]
  · rintro S' ⟨y, hf⟩
    refine ⟨.inl (ci (i + 1), S'), ?_, S', rfl, ?_, hf⟩
    · unfold fX5_polynomials_B32
      simp only []
      rw [if_pos (by rw [ci_le (by omega) (by omega)]; omega), cl_1, ci_add, zex_some]
    · rw [← pG_row hs.2.1]; exact y
theorem c_poly {S : ZS} {l0 c nn a b q cc : Nat} {fs : List Value} (hs : a ≤ 4 ∧ b ≤ 4 ∧ a + b - 1 ≤ 4) (ho : zOb S l0 5 fs) (hv : fs[7]? = some (.int (ci (cc + 1)))) (hne : l0 ≠ nn) (h : zCu S c nn a b (a + b - 1) q (pG a b 0)) : ∃ S1, ziter (fX5_polynomials_B23 l0 (ci a) (ci b) c) zF (ci 0, S) = some (.inl (ci cc, S1)) ∧ zCu S1 c nn a b (a + b - 1) q (pG a b (a * 4)) ∧ zFrm S S1 (fun b => b = nn) := by
  have := ziter_for (body := fX5_polynomials_B23 l0 (ci a) (ci b) c) (fun i S' => zCu S' c nn a b (a + b - 1) q (pG a b (i * 4)) ∧ zFrm S S' (fun b => b = nn)) (fun r => ∃ S1, r = .inl (ci cc, S1) ∧ zCu S1 c nn a b (a + b - 1) q (pG a b (a * 4)) ∧ zFrm S S1 (fun b => b = nn)) a ?_ ?_ a 0 zF S (by omega) (by rw [zF_eq]; omega) ⟨by rw [Nat.zero_mul]; exact h, zFrm.rf⟩
  · obtain ⟨r, h1, S1, rfl, h2, h3⟩ := this
    exact ⟨S1, h1, h2, h3⟩
  · rintro i S' hi ⟨y, hf⟩
    obtain ⟨S1, f1, f2, f3⟩ := c_pin (l0 := l0) hs hi y
    refine ⟨S1, ?_, f2, hf.tr f3⟩
    unfold fX5_polynomials_B23
    simp only []
    rw [if_neg (by rw [ci_le (by omega) (by omega)]; omega), cl_0]
    exact f1
  · rintro S' ⟨y, hf⟩
    refine ⟨.inl (ci cc, S'), ?_, S', rfl, y, hf⟩
    unfold fX5_polynomials_B23
    simp only []
    rw [if_pos (by rw [ci_le (by omega) (by omega)]; omega), zgI_ob (hf.ob hne ho) hv, Option.bind_some, cl_1, ci_sub (by omega), Nat.add_sub_cancel, zex_some]
/-! LAW CASE 3: polynomials, the model's loops -/
theorem m_pin {S S0 : ZS} {m cc a b i : Nat} {R : Nat → Nat} {X : Nat → Int32} {A : Nat → Nat → Int32} (hc : cc < 16) (hs : a ≤ 4 ∧ b ≤ 4 ∧ a + b - 1 ≤ 4) (hi : i < a) (h : mgP m cc R X A S0 (pG a b (i * 4)) S) : ∃ S1, ziter (fX6_polynomials_B89 m (ci a) (ci b) (ci cc) (ci i)) zF (ci 0, S) = some (.inl (ci (i + 1), S1)) ∧ mgP m cc R X A S0 (pG a b ((i + 1) * 4)) S1 := by
  have := ziter_for (body := fX6_polynomials_B89 m (ci a) (ci b) (ci cc) (ci i)) (fun j S' => mgP m cc R X A S0 (pG a b (i * 4 + j)) S') (fun r => ∃ S1, r = .inl (ci (i + 1), S1) ∧ mgP m cc R X A S0 (pG a b ((i + 1) * 4)) S1) b ?_ ?_ b 0 zF S (by omega) (by rw [zF_eq]; omega) h
  · obtain ⟨r, h1, S1, rfl, h2⟩ := this
    exact ⟨S1, h1, h2⟩
  · rintro j S' hj ⟨A', y1, y2, y3, y4, y5⟩
    obtain ⟨S1, A1, f1, f2, f3, f4, f5, f6⟩ := m_put (v := 1) y1 hc (x := ix i j (i + j)) (ix_lt (by omega) (by omega) (by omega)) y2
    rw [pG_step (by omega) (by omega) (by omega) hi hj] at f3
    refine ⟨S1, ?_, A1, f2, f3, y3.tr f4, f5.trans y4, y5.tr f6⟩
    unfold fX6_polynomials_B89
    simp only []
    rw [if_neg (by rw [ci_le (by omega) (by omega)]; omega), zgR_ob y1.1 rfl, Option.bind_some, ci_add, m_place, Option.bind_some, cl_64, ci_mul, ci_add, cl_1, f1, Option.bind_some, ci_add]
  · rintro S' y
    refine ⟨.inl (ci (i + 1), S'), ?_, S', rfl, ?_⟩
    · unfold fX6_polynomials_B89
      simp only []
      rw [if_pos (by rw [ci_le (by omega) (by omega)]; omega), cl_1, ci_add, zex_some]
    · rw [← pG_row hs.2.1]; exact y
theorem m_poly {S S0 : ZS} {m cc a b : Nat} {R : Nat → Nat} {X : Nat → Int32} {A : Nat → Nat → Int32} (hc : cc < 16) (hs : a ≤ 4 ∧ b ≤ 4 ∧ a + b - 1 ≤ 4) (h : mgP m cc R X A S0 (pG a b 0) S) : ∃ S1, ziter (fX6_polynomials_B80 m (ci a) (ci b) (ci cc)) zF (ci 0, S) = some (ci cc, S1) ∧ mgP m cc R X A S0 (pG a b (a * 4)) S1 := by
  have := ziter_for (body := fX6_polynomials_B80 m (ci a) (ci b) (ci cc)) (fun i S' => mgP m cc R X A S0 (pG a b (i * 4)) S') (fun r => ∃ S1, r = (ci cc, S1) ∧ mgP m cc R X A S0 (pG a b (a * 4)) S1) a ?_ ?_ a 0 zF S (by omega) (by rw [zF_eq]; omega) (by rw [Nat.zero_mul]; exact h)
  · obtain ⟨r, h1, S1, rfl, h2⟩ := this
    exact ⟨S1, h1, h2⟩
  · rintro i S' hi y
    obtain ⟨S1, f1, f2⟩ := m_pin hc hs hi y
    refine ⟨S1, ?_, f2⟩
    unfold fX6_polynomials_B80
    simp only []
    rw [if_neg (by rw [ci_le (by omega) (by omega)]; omega), cl_0]
    exact f1
  · rintro S' y
    refine ⟨(ci cc, S'), ?_, S', rfl, y⟩
    unfold fX6_polynomials_B80
    simp only []
    rw [if_pos (by rw [ci_le (by omega) (by omega)]; omega), zex_some]
