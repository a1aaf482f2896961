/-! LAW CASE 4: group, the class's loops -/
theorem c_gin {S : ZS} {l0 c nn n i q : Nat} (hn : n ≤ 4) (hi : i < n) (h : zCu S c nn n n n q (gG n (i * 4))) : ∃ S1, ziter (fX5_group_B18 l0 (ci n) c (ci i)) zF (ci 0, S) = some (.inl (ci (i + 1), S1)) ∧ zCu S1 c nn n n n q (gG n ((i + 1) * 4)) ∧ zFrm S S1 (fun b => b = nn) := by
  have := ziter_for (body := fX5_group_B18 l0 (ci n) c (ci i)) (fun j S' => zCu S' c nn n n n q (gG n (i * 4 + j)) ∧ zFrm S S' (fun b => b = nn)) (fun r => ∃ S1, r = .inl (ci (i + 1), S1) ∧ zCu S1 c nn n n n q (gG n ((i + 1) * 4)) ∧ zFrm S S1 (fun b => b = nn)) n ?_ ?_ n 0 zF S (by omega) (by rw [zF_eq]; omega) ⟨h, zFrm.rf⟩
  · obtain ⟨r, h1, S1, rfl, h2, h3⟩ := this
    exact ⟨S1, h1, h2, h3⟩
  · rintro j S' hj ⟨y, hf⟩
    have hk : (i + j) % n < n := Nat.mod_lt _ (by omega)
    obtain ⟨S1, f1, f2, f3⟩ := g_enter (v := 1) y (i := i) (j := j) (k := (i + j) % n) (by omega) (by omega) (by omega)
    rw [gG_step hn hi hj] at f2
    refine ⟨S1, ?_, f2, hf.tr f3⟩
    unfold fX5_group_B18
    simp only []
    rw [if_neg (by rw [ci_le (by omega) (by omega)]; omega), ci_add, g_rem (by omega) (by omega) (by omega), Option.bind_some, zcl_cu y, cl_1, f1, Option.bind_some, ci_add]
  · rintro S' ⟨y, hf⟩
    refine ⟨.inl (ci (i + 1), S'), ?_, S', rfl, ?_, hf⟩
    · unfold fX5_group_B18
      simp only []
      rw [if_pos (by rw [ci_le (by omega) (by omega)]; omega), cl_1, ci_add, zex_some]
    · rw [← (gG_row (n := n) (i := i)).resolve_right (by omega)]; exact y
theorem c_group {S : ZS} {l0 c nn n q cc : Nat} {fs : List Value} (hn : 1 ≤ n ∧ n ≤ 4) (ho : zOb S l0 5 fs) (hv : fs[7]? = some (.int (ci (cc + 1)))) (hne : l0 ≠ nn) (h : zCu S c nn n n n q (gG n 0)) : ∃ S1, ziter (fX5_group_B10 l0 (ci n) c) zF (ci 0, S) = some (.inl (ci cc, S1)) ∧ zCu S1 c nn n n n q (gG n (n * 4)) ∧ zFrm S S1 (fun b => b = nn) := by
  have := ziter_for (body := fX5_group_B10 l0 (ci n) c) (fun i S' => zCu S' c nn n n n q (gG n (i * 4)) ∧ zFrm S S' (fun b => b = nn)) (fun r => ∃ S1, r = .inl (ci cc, S1) ∧ zCu S1 c nn n n n q (gG n (n * 4)) ∧ zFrm S S1 (fun b => b = nn)) n ?_ ?_ n 0 zF S (by omega) (by rw [zF_eq]; omega) ⟨by rw [Nat.zero_mul]; exact h, zFrm.rf⟩
  · obtain ⟨r, h1, S1, rfl, h2, h3⟩ := this
    exact ⟨S1, h1, h2, h3⟩
  · rintro i S' hi ⟨y, hf⟩
    obtain ⟨S1, f1, f2, f3⟩ := c_gin (l0 := l0) hn.2 hi y
    refine ⟨S1, ?_, f2, hf.tr f3⟩
    unfold fX5_group_B10
    simp only []
    rw [if_neg (by rw [ci_le (by omega) (by omega)]; omega), cl_0]
    exact f1
  · rintro S' ⟨y, hf⟩
    refine ⟨.inl (ci cc, S'), ?_, S', rfl, y, hf⟩
    unfold fX5_group_B10
    simp only []
    rw [if_pos (by rw [ci_le (by omega) (by omega)]; omega), zgI_ob (hf.ob hne ho) hv, Option.bind_some, cl_1, ci_sub (by omega), Nat.add_sub_cancel, zex_some]
