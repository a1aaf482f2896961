/-! LAW CASE 4: group, the model's loops -/
def mgP (m cc : Nat) (R : Nat → Nat) (X : Nat → Int32) (A : Nat → Nat → Int32) (S : ZS) (g : Nat → Nat) (S' : ZS) : Prop := ∃ A', zMo S' m R X A' ∧ (∀ y, y < 64 → A' 4 (64 * cc + y) = ci (g y)) ∧ mV cc A A' ∧ A' 5 = A 5 ∧ zFrm S S' (mP m R)
theorem m_gin {S S0 : ZS} {m cc n i : Nat} {R : Nat → Nat} {X : Nat → Int32} {A : Nat → Nat → Int32} (hc : cc < 16) (hn : n ≤ 4) (hi : i < n) (h : mgP m cc R X A S0 (gG n (i * 4)) S) : ∃ S1, ziter (fX6_group_B30 m (ci n) (ci cc) (ci i)) zF (ci 0, S) = some (.inl (ci (i + 1), S1)) ∧ mgP m cc R X A S0 (gG n ((i + 1) * 4)) S1 := by
  have := ziter_for (body := fX6_group_B30 m (ci n) (ci cc) (ci i)) (fun j S' => mgP m cc R X A S0 (gG n (i * 4 + j)) S') (fun r => ∃ S1, r = .inl (ci (i + 1), S1) ∧ mgP m cc R X A S0 (gG n ((i + 1) * 4)) S1) n ?_ ?_ n 0 zF S (by omega) (by rw [zF_eq]; omega) h
  · obtain ⟨r, h1, S1, rfl, h2⟩ := this
    exact ⟨S1, h1, h2⟩
  · rintro j S' hj ⟨A', y1, y2, y3, y4, y5⟩
    have hk : (i + j) % n < n := Nat.mod_lt _ (by omega)
    obtain ⟨S1, A1, f1, f2, f3, f4, f5, f6⟩ := m_put (v := 1) y1 hc (x := ix i j ((i + j) % n)) (ix_lt (by omega) (by omega) (by omega)) y2
    rw [gG_step hn hi hj] at f3
    refine ⟨S1, ?_, A1, f2, f3, y3.tr f4, f5.trans y4, y5.tr f6⟩
    unfold fX6_group_B30
    simp only []
    rw [if_neg (by rw [ci_le (by omega) (by omega)]; omega), zgR_ob y1.1 rfl, Option.bind_some, ci_add, z_rem (by omega) (by omega) (by omega), Option.bind_some, m_place, Option.bind_some, cl_64, ci_mul, ci_add, cl_1, f1, Option.bind_some, ci_add]
  · rintro S' y
    refine ⟨.inl (ci (i + 1), S'), ?_, S', rfl, ?_⟩
    · unfold fX6_group_B30
      simp only []
      rw [if_pos (by rw [ci_le (by omega) (by omega)]; omega), cl_1, ci_add, zex_some]
    · rw [← (gG_row (n := n) (i := i)).resolve_right (by omega)]; exact y
theorem m_group {S S0 : ZS} {m cc n : Nat} {R : Nat → Nat} {X : Nat → Int32} {A : Nat → Nat → Int32} (hc : cc < 16) (hn : 1 ≤ n ∧ n ≤ 4) (h : mgP m cc R X A S0 (gG n 0) S) : ∃ S1, ziter (fX6_group_B22 m (ci n) (ci cc)) zF (ci 0, S) = some (ci cc, S1) ∧ mgP m cc R X A S0 (gG n (n * 4)) S1 := by
  have := ziter_for (body := fX6_group_B22 m (ci n) (ci cc)) (fun i S' => mgP m cc R X A S0 (gG n (i * 4)) S') (fun r => ∃ S1, r = (ci cc, S1) ∧ mgP m cc R X A S0 (gG n (n * 4)) S1) n ?_ ?_ n 0 zF S (by omega) (by rw [zF_eq]; omega) (by rw [Nat.zero_mul]; exact h)
  · obtain ⟨r, h1, S1, rfl, h2⟩ := this
    exact ⟨S1, h1, h2⟩
  · rintro i S' hi y
    obtain ⟨S1, f1, f2⟩ := m_gin hc hn.2 hi y
    refine ⟨S1, ?_, f2⟩
    unfold fX6_group_B22
    simp only []
    rw [if_neg (by rw [ci_le (by omega) (by omega)]; omega), cl_0]
    exact f1
  · rintro S' y
    refine ⟨(ci cc, S'), ?_, S', rfl, y⟩
    unfold fX6_group_B22
    simp only []
    rw [if_pos (by rw [ci_le (by omega) (by omega)]; omega), zex_some]
