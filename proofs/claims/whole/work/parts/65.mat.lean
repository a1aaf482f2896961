/-! LAW CASE 2: matrices, the numbers -/
def gMp (b e n : Nat) : Nat := ix (n / e) (n / e % b * e + n % e) (n / e / b * e + n % e)
def gM (b e : Nat) : Nat → Nat → Nat
  | 0 => fun _ => 0
  | n + 1 => va_up (gM b e n) (gMp b e n) 1
theorem md_div {x e t : Nat} (ht : t < e) : (x * e + t) / e = x := by
  rw [Nat.mul_comm, Nat.mul_add_div (by omega), Nat.div_eq_of_lt ht, Nat.add_zero]
theorem md_mod {x e t : Nat} (ht : t < e) : (x * e + t) % e = t := by
  rw [Nat.mul_comm, Nat.mul_add_mod, Nat.mod_eq_of_lt ht]
theorem lt_mul {r s a b : Nat} (hr : r < a) (hs : s < b) : r * b + s < a * b := by
  have : (r + 1) * b ≤ a * b := Nat.mul_le_mul_right b hr
  rw [Nat.succ_mul] at this
  omega
theorem gMp_at {b e r s t : Nat} (hs : s < b) (ht : t < e) : gMp b e ((r * b + s) * e + t) = ix (r * b + s) (s * e + t) (r * e + t) := by
  unfold gMp
  rw [md_div ht, md_mod ht, md_div hs, md_mod hs]
theorem gM_step {b e r s t : Nat} (hs : s < b) (ht : t < e) : va_up (gM b e ((r * b + s) * e + t)) (ix (r * b + s) (s * e + t) (r * e + t)) 1 = gM b e ((r * b + s) * e + (t + 1)) := by
  rw [← gMp_at hs ht]
  rfl
theorem gM_row {b e r s : Nat} : gM b e ((r * b + s) * e + e) = gM b e ((r * b + (s + 1)) * e + 0) := by
  rw [Nat.add_zero, ← Nat.succ_mul]
  rfl
theorem gM_rows {b e r : Nat} : gM b e ((r * b + b) * e + 0) = gM b e (((r + 1) * b + 0) * e + 0) := by
  rw [Nat.add_zero ((r + 1) * b), Nat.succ_mul r b]
theorem ix_lt3 {a b d i j k : Nat} (ha : a ≤ 4) (hi : i < a) (hj : j < b) (hk : k < d) (hb : b ≤ 4) (hd : d ≤ 4) : ix i j k < 64 := ix_lt (by omega) (by omega) (by omega)
theorem gM_le {b e n x : Nat} : gM b e n x ≤ 1 := by
  induction n with
  | zero => exact Nat.zero_le 1
  | succ n ih =>
    show va_up (gM b e n) (gMp b e n) 1 x ≤ 1
    unfold va_up
    split
    · exact Nat.le_refl 1
    · exact ih
theorem gM_out {a b e n : Nat} (h : a * b ≤ 4 ∧ b * e ≤ 4 ∧ a * e ≤ 4) (hb : 0 < b) (he : 0 < e) (hn : n ≤ (a * b) * e) {i j k : Nat} (hi : i < 4) (hj : j < 4) (hk : k < 4) (hne : ¬ (i < a * b ∧ j < b * e ∧ k < a * e)) : gM b e n (ix i j k) = 0 := by
  induction n with
  | zero => rfl
  | succ n ih =>
    show va_up (gM b e n) (gMp b e n) 1 (ix i j k) = 0
    have h1 : n / e < a * b := Nat.div_lt_of_lt_mul (by rw [Nat.mul_comm]; omega)
    have h2 : n / e / b < a := Nat.div_lt_of_lt_mul (by rw [Nat.mul_comm]; exact h1)
    have h3 : n / e % b < b := Nat.mod_lt _ hb
    have h4 : n % e < e := Nat.mod_lt _ he
    have h5 := lt_mul h3 h4
    have h6 := lt_mul h2 h4
    have hne2 : ix i j k ≠ gMp b e n := fun hh => by
      unfold gMp at hh
      have := (ix_inj hj hk (show n / e % b * e + n % e < 4 by omega) (show n / e / b * e + n % e < 4 by omega)).mp hh
      omega
    rw [va_up_ne _ _ hne2]
    exact ih (by omega)
theorem gM_ok {p a b e : Nat} (hp : isP p) (h : a * b ≤ 4 ∧ b * e ≤ 4 ∧ a * e ≤ 4) (hb : 0 < b) (he : 0 < e) : cOK p (a * b) (b * e) (a * e) (gM b e ((a * b) * e)) := by
  have := hp.b
  refine ⟨fun x _ => ?_, fun i j k hi hj hk hn => gM_out h hb he (Nat.le_refl _) hi hj hk hn⟩
  have := gM_le (b := b) (e := e) (n := a * b * e) (x := x)
  omega
/-! LAW CASE 2: matrices, the class's loops -/
theorem c_mat3 {S : ZS} {l0 c nn a b e r s A B D q : Nat} (h4 : a * b ≤ 4 ∧ b * e ≤ 4 ∧ a * e ≤ 4) (he4 : e ≤ 4) (hr : r < a) (hs : s < b) (h : zCu S c nn A B D q (gM b e ((r * b + s) * e + 0))) : ∃ S1, ziter (fX5_matrices_B48 l0 (ci a) (ci b) (ci e) c (ci r) (ci s)) zF (ci 0, S) = some (.inl (ci (s + 1), S1)) ∧ zCu S1 c nn A B D q (gM b e ((r * b + (s + 1)) * e + 0)) ∧ zFrm S S1 (fun b => b = nn) := by
  have := ziter_for (body := fX5_matrices_B48 l0 (ci a) (ci b) (ci e) c (ci r) (ci s)) (fun t S' => zCu S' c nn A B D q (gM b e ((r * b + s) * e + t)) ∧ zFrm S S' (fun b => b = nn)) (fun x => ∃ S1, x = .inl (ci (s + 1), S1) ∧ zCu S1 c nn A B D q (gM b e ((r * b + (s + 1)) * e + 0)) ∧ zFrm S S1 (fun b => b = nn)) e ?_ ?_ e 0 zF S (by omega) (by rw [zF_eq]; omega) ⟨h, zFrm.rf⟩
  · obtain ⟨x, h1, S1, rfl, h2, h3⟩ := this
    exact ⟨S1, h1, h2, h3⟩
  · rintro t S' ht ⟨y, hf⟩
    have b1 := lt_mul hr hs
    have b2 := lt_mul hs ht
    have b3 := lt_mul hr ht
    obtain ⟨S1, f1, f2, f3⟩ := g_enter (v := 1) y (i := r * b + s) (j := s * e + t) (k := r * e + t) (by omega) (by omega) (by omega)
    rw [gM_step hs ht] at f2
    refine ⟨S1, ?_, f2, hf.tr f3⟩
    unfold fX5_matrices_B48
    simp only []
    rw [if_neg (by rw [ci_le (by omega) (by omega)]; omega), cl_1]
    simp only [ci_mul, ci_add]
    rw [zcl_cu y, f1, Option.bind_some]
  · rintro S' ⟨y, hf⟩
    refine ⟨.inl (ci (s + 1), S'), ?_, S', rfl, ?_, hf⟩
    · unfold fX5_matrices_B48
      simp only []
      rw [if_pos (by rw [ci_le (by omega) (by omega)]; omega), cl_1, ci_add, zex_some]
    · rw [← gM_row]; exact y
theorem c_mat2 {S : ZS} {l0 c nn a b e r A B D q : Nat} (h4 : a * b ≤ 4 ∧ b * e ≤ 4 ∧ a * e ≤ 4) (hb4 : b ≤ 4) (he4 : e ≤ 4) (ha4 : a ≤ 4) (hr : r < a) (h : zCu S c nn A B D q (gM b e ((r * b + 0) * e + 0))) : ∃ S1, ziter (fX5_matrices_B39 l0 (ci a) (ci b) (ci e) c (ci r)) zF (ci 0, S) = some (.inl (ci (r + 1), S1)) ∧ zCu S1 c nn A B D q (gM b e (((r + 1) * b + 0) * e + 0)) ∧ zFrm S S1 (fun b => b = nn) := by
  have := ziter_for (body := fX5_matrices_B39 l0 (ci a) (ci b) (ci e) c (ci r)) (fun s S' => zCu S' c nn A B D q (gM b e ((r * b + s) * e + 0)) ∧ zFrm S S' (fun b => b = nn)) (fun x => ∃ S1, x = .inl (ci (r + 1), S1) ∧ zCu S1 c nn A B D q (gM b e (((r + 1) * b + 0) * e + 0)) ∧ zFrm S S1 (fun b => b = nn)) b ?_ ?_ b 0 zF S (by omega) (by rw [zF_eq]; omega) ⟨h, zFrm.rf⟩
  · obtain ⟨x, h1, S1, rfl, h2, h3⟩ := this
    exact ⟨S1, h1, h2, h3⟩
  · rintro s S' hs ⟨y, hf⟩
    obtain ⟨S1, f1, f2, f3⟩ := c_mat3 (l0 := l0) h4 he4 hr hs y
    refine ⟨S1, ?_, f2, hf.tr f3⟩
    unfold fX5_matrices_B39
    simp only []
    rw [if_neg (by rw [ci_le (by omega) (by omega)]; omega), cl_0]
    exact f1
  · rintro S' ⟨y, hf⟩
    refine ⟨.inl (ci (r + 1), S'), ?_, S', rfl, ?_, hf⟩
    · unfold fX5_matrices_B39
      simp only []
      rw [if_pos (by rw [ci_le (by omega) (by omega)]; omega), cl_1, ci_add, zex_some]
    · rw [← gM_rows]; exact y
theorem c_mat {S : ZS} {l0 c nn a b e A B D q cc : Nat} {fs : List Value} (h4 : a * b ≤ 4 ∧ b * e ≤ 4 ∧ a * e ≤ 4) (hb4 : b ≤ 4) (he4 : e ≤ 4) (ha4 : a ≤ 4) (ho : zOb S l0 5 fs) (hv : fs[7]? = some (.int (ci (cc + 1)))) (hne : l0 ≠ nn) (hnc : l0 ≠ c) (h : zCu S c nn A B D q (gM b e 0)) : ∃ S1, ziter (fX5_matrices_B30 l0 (ci a) (ci b) (ci e) c) zF (ci 0, S) = some (.inl (ci cc, S1)) ∧ zCu S1 c nn A B D (if a = b ∧ b = e then a else 0) (gM b e ((a * b) * e)) ∧ zFrm S S1 (fun b => b = c ∨ b = nn) := by
  have := ziter_for (body := fX5_matrices_B30 l0 (ci a) (ci b) (ci e) c) (fun r S' => zCu S' c nn A B D q (gM b e ((r * b + 0) * e + 0)) ∧ zFrm S S' (fun b => b = nn)) (fun x => ∃ S1, x = .inl (ci cc, S1) ∧ zCu S1 c nn A B D (if a = b ∧ b = e then a else 0) (gM b e ((a * b) * e)) ∧ zFrm S S1 (fun b => b = c ∨ b = nn)) a ?_ ?_ a 0 zF S (by omega) (by rw [zF_eq]; omega) ⟨by rw [Nat.zero_mul, Nat.zero_mul]; exact h, zFrm.rf⟩
  · obtain ⟨x, h1, S1, rfl, h2, h3⟩ := this
    exact ⟨S1, h1, h2, h3⟩
  · rintro r S' hr ⟨y, hf⟩
    obtain ⟨S1, f1, f2, f3⟩ := c_mat2 (l0 := l0) h4 hb4 he4 ha4 hr y
    refine ⟨S1, ?_, f2, hf.tr f3⟩
    unfold fX5_matrices_B30
    simp only []
    rw [if_neg (by rw [ci_le (by omega) (by omega)]; omega), cl_0]
    exact f1
  · rintro S' ⟨y, hf⟩
    have fin : ∀ sq, ∃ S1, fX5_matrices_J116 l0 c (ci sq) S' = some (.inl (ci cc, S1)) ∧ zCu S1 c nn A B D sq (gM b e ((a * b) * e)) ∧ zFrm S S1 (fun b => b = c ∨ b = nn) := fun sq => by
      obtain ⟨S1, f1, f2, f3⟩ := zwO_cu sq y
      refine ⟨S1, ?_, f2, (hf.wk (fun _ => Or.inr)).tr (f3.wk (fun _ => Or.inl))⟩
      unfold fX5_matrices_J116
      rw [f1, Option.bind_some, zgI_ob (f3.ob hnc (hf.ob hne ho)) hv, Option.bind_some, cl_1, ci_sub (by omega), Nat.add_sub_cancel]
    obtain ⟨S1, f1, f2, f3⟩ := fin (if a = b ∧ b = e then a else 0)
    refine ⟨.inl (ci cc, S1), ?_, S1, rfl, f2, f3⟩
    unfold fX5_matrices_B30
    simp only []
    rw [if_pos (by rw [ci_le (by omega) (by omega)]; omega)]
    by_cases h1 : a = b
    · rw [if_pos (by rw [h1])]
      by_cases h2 : b = e
      · rw [if_pos (by rw [h2])]
        rw [if_pos ⟨h1, h2⟩] at f1
        rw [f1, zex_some]
      · rw [if_neg (by rw [ci_eq (by omega) (by omega)]; exact h2)]
        rw [if_neg (fun hh => h2 hh.2)] at f1
        unfold fX5_matrices_J115
        rw [cl_0, f1, zex_some]
    · rw [if_neg (by rw [ci_eq (by omega) (by omega)]; exact h1)]
      rw [if_neg (fun hh => h1 hh.1)] at f1
      unfold fX5_matrices_J115
      rw [cl_0, f1, zex_some]
