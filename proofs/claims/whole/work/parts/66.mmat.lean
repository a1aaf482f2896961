/-! LAW CASE 2: matrices, the model's loops -/
theorem m_mat3 {S S0 : ZS} {m cc a b e r s : Nat} {R : Nat → Nat} {X : Nat → Int32} {A : Nat → Nat → Int32} (hc : cc < 16) (h4 : a * b ≤ 4 ∧ b * e ≤ 4 ∧ a * e ≤ 4) (he4 : e ≤ 4) (hr : r < a) (hs : s < b) (h : mgP m cc R X A S0 (gM b e ((r * b + s) * e + 0)) S) : ∃ S1, ziter (fX6_matrices_B115 m (ci a) (ci b) (ci e) (ci cc) (ci r) (ci s)) zF (ci 0, S) = some (.inl (ci (s + 1), S1)) ∧ mgP m cc R X A S0 (gM b e ((r * b + (s + 1)) * e + 0)) S1 := by
  have := ziter_for (body := fX6_matrices_B115 m (ci a) (ci b) (ci e) (ci cc) (ci r) (ci s)) (fun t S' => mgP m cc R X A S0 (gM b e ((r * b + s) * e + t)) S') (fun x => ∃ S1, x = .inl (ci (s + 1), S1) ∧ mgP m cc R X A S0 (gM b e ((r * b + (s + 1)) * e + 0)) S1) e ?_ ?_ e 0 zF S (by omega) (by rw [zF_eq]; omega) h
  · obtain ⟨x, h1, S1, rfl, h2⟩ := this
    exact ⟨S1, h1, h2⟩
  · rintro t S' ht ⟨A', y1, y2, y3, y4, y5⟩
    have b1 := lt_mul hr hs
    have b2 := lt_mul hs ht
    have b3 := lt_mul hr ht
    obtain ⟨S1, A1, f1, f2, f3, f4, f5, f6⟩ := m_put (v := 1) y1 hc (x := ix (r * b + s) (s * e + t) (r * e + t)) (ix_lt (by omega) (by omega) (by omega)) y2
    rw [gM_step hs ht] at f3
    refine ⟨S1, ?_, A1, f2, f3, y3.tr f4, f5.trans y4, y5.tr f6⟩
    unfold fX6_matrices_B115
    simp only []
    rw [if_neg (by rw [ci_le (by omega) (by omega)]; omega), zgR_ob y1.1 rfl, Option.bind_some, cl_1, cl_64]
    simp only [ci_mul, ci_add]
    rw [m_place, Option.bind_some, ci_add, f1, Option.bind_some]
  · rintro S' y
    refine ⟨.inl (ci (s + 1), S'), ?_, S', rfl, ?_⟩
    · unfold fX6_matrices_B115
      simp only []
      rw [if_pos (by rw [ci_le (by omega) (by omega)]; omega), cl_1, ci_add, zex_some]
    · rw [← gM_row]; exact y
theorem m_mat2 {S S0 : ZS} {m cc a b e r : Nat} {R : Nat → Nat} {X : Nat → Int32} {A : Nat → Nat → Int32} (hc : cc < 16) (h4 : a * b ≤ 4 ∧ b * e ≤ 4 ∧ a * e ≤ 4) (hb4 : b ≤ 4) (he4 : e ≤ 4) (ha4 : a ≤ 4) (hr : r < a) (h : mgP m cc R X A S0 (gM b e ((r * b + 0) * e + 0)) S) : ∃ S1, ziter (fX6_matrices_B106 m (ci a) (ci b) (ci e) (ci cc) (ci r)) zF (ci 0, S) = some (.inl (ci (r + 1), S1)) ∧ mgP m cc R X A S0 (gM b e (((r + 1) * b + 0) * e + 0)) S1 := by
  have := ziter_for (body := fX6_matrices_B106 m (ci a) (ci b) (ci e) (ci cc) (ci r)) (fun s S' => mgP m cc R X A S0 (gM b e ((r * b + s) * e + 0)) S') (fun x => ∃ S1, x = .inl (ci (r + 1), S1) ∧ mgP m cc R X A S0 (gM b e (((r + 1) * b + 0) * e + 0)) S1) b ?_ ?_ b 0 zF S (by omega) (by rw [zF_eq]; omega) h
  · obtain ⟨x, h1, S1, rfl, h2⟩ := this
    exact ⟨S1, h1, h2⟩
  · rintro s S' hs y
    obtain ⟨S1, f1, f2⟩ := m_mat3 hc h4 he4 hr hs y
    refine ⟨S1, ?_, f2⟩
    unfold fX6_matrices_B106
    simp only []
    rw [if_neg (by rw [ci_le (by omega) (by omega)]; omega), cl_0]
    exact f1
  · rintro S' y
    refine ⟨.inl (ci (r + 1), S'), ?_, S', rfl, ?_⟩
    · unfold fX6_matrices_B106
      simp only []
      rw [if_pos (by rw [ci_le (by omega) (by omega)]; omega), cl_1, ci_add, zex_some]
    · rw [← gM_rows]; exact y
/-- the model's square written -/
theorem m_sq {S S0 : ZS} {m cc v : Nat} {R : Nat → Nat} {X : Nat → Int32} {A : Nat → Nat → Int32} {g : Nat → Nat} (hc : cc < 16) (h : mgP m cc R X A S0 g S) : ∃ S1 A1, zsI S (R 5) 0 (ci cc) (ci v) = some S1 ∧ zMo S1 m R X A1 ∧ (∀ y, y < 64 → A1 4 (64 * cc + y) = ci (g y)) ∧ mV cc A A1 ∧ A1 5 cc = ci v ∧ zFrm S0 S1 (mP m R) := by
  obtain ⟨A', y1, y2, y3, y4, y5⟩ := h
  have t := y1.set A5i (va_up (A' 5) cc (ci v))
  refine ⟨_, _, y1.wr A5i (by rw [N5]; omega) _, t.1, fun y hy => by rw [mS_ne (by omega)]; exact y2 y hy, ⟨fun j a b => by rw [mS_ne b]; exact y3.1 j a b, fun x hx => by rw [mS_self, va_up_ne _ _ hx]; exact y3.2.1 x hx, fun x hx => by rw [mS_ne (by omega)]; exact y3.2.2 x hx⟩, by rw [mS_self, va_up_self], y5.tr (t.2.wk (fun b hb => Or.inr (Or.inr ⟨5, A5i, hb⟩)))⟩
theorem m_mat {S S0 : ZS} {m cc a b e : Nat} {R : Nat → Nat} {X : Nat → Int32} {A : Nat → Nat → Int32} (hc : cc < 16) (h4 : a * b ≤ 4 ∧ b * e ≤ 4 ∧ a * e ≤ 4) (hb4 : b ≤ 4) (he4 : e ≤ 4) (ha4 : a ≤ 4) (h : mgP m cc R X A S0 (gM b e 0) S) : ∃ S1 A1, ziter (fX6_matrices_B97 m (ci a) (ci b) (ci e) (ci cc)) zF (ci 0, S) = some (ci cc, S1) ∧ zMo S1 m R X A1 ∧ (∀ y, y < 64 → A1 4 (64 * cc + y) = ci (gM b e ((a * b) * e) y)) ∧ mV cc A A1 ∧ A1 5 cc = ci (msq (if a = b ∧ b = e then a else 0)) ∧ zFrm S0 S1 (mP m R) := by
  have := ziter_for (body := fX6_matrices_B97 m (ci a) (ci b) (ci e) (ci cc)) (fun r S' => mgP m cc R X A S0 (gM b e ((r * b + 0) * e + 0)) S') (fun x => ∃ S1 A1, x = (ci cc, S1) ∧ zMo S1 m R X A1 ∧ (∀ y, y < 64 → A1 4 (64 * cc + y) = ci (gM b e ((a * b) * e) y)) ∧ mV cc A A1 ∧ A1 5 cc = ci (msq (if a = b ∧ b = e then a else 0)) ∧ zFrm S0 S1 (mP m R)) a ?_ ?_ a 0 zF S (by omega) (by rw [zF_eq]; omega) (by rw [Nat.zero_mul, Nat.zero_mul]; exact h)
  · obtain ⟨x, h1, S1, A1, rfl, h2⟩ := this
    exact ⟨S1, A1, h1, h2⟩
  · rintro r S' hr y
    obtain ⟨S1, f1, f2⟩ := m_mat2 hc h4 hb4 he4 ha4 hr y
    refine ⟨S1, ?_, f2⟩
    unfold fX6_matrices_B97
    simp only []
    rw [if_neg (by rw [ci_le (by omega) (by omega)]; omega), cl_0]
    exact f1
  · rintro S' y
    obtain ⟨S1, A1, f1, f2⟩ := m_sq (v := msq (if a = b ∧ b = e then a else 0)) hc y
    refine ⟨(ci cc, S1), ?_, S1, A1, rfl, f2⟩
    unfold fX6_matrices_B97
    simp only []
    rw [if_pos (by rw [ci_le (by omega) (by omega)]; omega), zgR_ob y.choose_spec.1.1 rfl, Option.bind_some]
    unfold fX6_matrices_J200 fX6_matrices_J201
    by_cases h1 : a = b
    · rw [if_pos (by rw [h1])]
      by_cases h2 : b = e
      · rw [if_pos (by rw [h2])]
        rw [if_pos (⟨h1, h2⟩ : a = b ∧ b = e)] at f1
        unfold msq at f1
        by_cases h3 : 2 ≤ a
        · rw [if_neg (by rw [cl_1, ci_le (by omega) (by omega)]; omega)]
          rw [if_pos h3] at f1
          rw [f1, Option.bind_some, zex_some]
        · rw [if_pos (by rw [cl_1, ci_le (by omega) (by omega)]; omega)]
          rw [if_neg h3] at f1
          rw [cl_0, f1, Option.bind_some, zex_some]
      · rw [if_neg (by rw [ci_eq (by omega) (by omega)]; exact h2)]
        rw [if_neg (fun hh : a = b ∧ b = e => h2 hh.2)] at f1
        unfold msq at f1
        rw [if_neg (by omega)] at f1
        rw [cl_0, f1, Option.bind_some, zex_some]
    · rw [if_neg (by rw [ci_eq (by omega) (by omega)]; exact h1)]
      rw [if_neg (fun hh : a = b ∧ b = e => h1 hh.1)] at f1
      unfold msq at f1
      rw [if_neg (by omega)] at f1
      rw [cl_0, f1, Option.bind_some, zex_some]
