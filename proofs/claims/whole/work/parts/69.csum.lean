/-! LAW CASES 7 AND 8: the class's loops -/
/-- what the class's sum finds ahead of its loops -/
def fBasesum (S : ZS) (l0 lc ln rc rn nn p a b d la lb ld lq ra rb rd rq : Nat) (fs : List Value) (gl gr : Nat → Nat) : Prop :=
  (1 ≤ a ∧ a ≤ 4 ∧ 1 ≤ b ∧ b ≤ 4 ∧ 1 ≤ d ∧ d ≤ 4) ∧ zOb S l0 5 fs ∧ fs[6]? = some (.int (ci p)) ∧ zCu S lc ln la lb ld lq gl ∧ zCu S rc rn ra rb rd rq gr ∧ (l0 ≠ nn ∧ lc ≠ nn ∧ ln ≠ nn ∧ rc ≠ nn ∧ rn ≠ nn) ∧ isP p ∧ cOK p la lb ld gl ∧ cOK p ra rb rd gr ∧ a = la ∧ b = lb ∧ d = ld ∧ la = ra ∧ lb = rb ∧ ld = rd
theorem fBasesum.fr {S S' : ZS} {l0 lc ln rc rn nn p a b d la lb ld lq ra rb rd rq : Nat} {fs : List Value} {gl gr : Nat → Nat} (B : fBasesum S l0 lc ln rc rn nn p a b d la lb ld lq ra rb rd rq fs gl gr) (hf : zFrm S S' (fun b => b = nn)) : fBasesum S' l0 lc ln rc rn nn p a b d la lb ld lq ra rb rd rq fs gl gr :=
  ⟨B.1, hf.ob B.2.2.2.2.2.1.1 B.2.1, B.2.2.1, hf.cu B.2.2.2.2.2.1.2.1 B.2.2.2.2.2.1.2.2.1 B.2.2.2.1, hf.cu B.2.2.2.2.2.1.2.2.2.1 B.2.2.2.2.2.1.2.2.2.2 B.2.2.2.2.1, B.2.2.2.2.2⟩
theorem c_sum3 {S : ZS} {l0 lc ln rc rn c nn p a b d q i j la lb ld lq ra rb rd rq : Nat} {fs : List Value} {gl gr : Nat → Nat} (B : fBasesum S l0 lc ln rc rn nn p a b d la lb ld lq ra rb rd rq fs gl gr) (hi : i < a) (hj : j < b) (h : zCu S c nn a b d q (gF a b d (sF p gl gr) (ix i j 0))) : ∃ S1, ziter (fX5_sum_B79 l0 lc rc c (ci i) (ci j)) zF (ci 0, S) = some (.inl (ci (j + 1), S1)) ∧ zCu S1 c nn a b d q (gF a b d (sF p gl gr) (ix i (j + 1) 0)) ∧ zFrm S S1 (fun b => b = nn) := by
  have hs := B.1
  have := ziter_for (body := fX5_sum_B79 l0 lc rc c (ci i) (ci j)) (fun k S' => zCu S' c nn a b d q (gF a b d (sF p gl gr) (ix i j k)) ∧ zFrm S S' (fun b => b = nn)) (fun r => ∃ S1, r = .inl (ci (j + 1), S1) ∧ zCu S1 c nn a b d q (gF a b d (sF p gl gr) (ix i (j + 1) 0)) ∧ zFrm S S1 (fun b => b = nn)) d ?_ ?_ d 0 zF S (by omega) (by rw [zF_eq]; omega) ⟨h, zFrm.rf⟩
  · obtain ⟨r, h1, S1, rfl, h2, h3⟩ := this
    exact ⟨S1, h1, h2, h3⟩
  · rintro k S' hk ⟨y, hf⟩
    have B' := B.fr hf
    obtain ⟨_, b1, b2, b3, b4, _, b5, b6, b7, rfl, rfl, rfl, rfl, rfl, rfl⟩ := B'
    have l1 := b6.lt (ix_lt (i := i) (j := j) (k := k) (by omega) (by omega) (by omega))
    have l2 := b7.lt (ix_lt (i := i) (j := j) (k := k) (by omega) (by omega) (by omega))
    have hpb := b5.b
    obtain ⟨S1, f1, f2, f3⟩ := g_enter (v := sF p gl gr (ix i j k)) y (i := i) (j := j) (k := k) (by omega) (by omega) (by omega)
    rw [gF_step hi hj hk (by omega) (by omega) rfl] at f2
    refine ⟨S1, ?_, f2, hf.tr f3⟩
    unfold fX5_sum_B79
    simp only []
    rw [zgI_ob y.1 rfl, Option.bind_some, if_neg (by rw [ci_le (by omega) (by omega)]; omega), zcl_cu b3, g_numberAt b3 (by omega) (by omega) (by omega), Option.bind_some, zcl_cu b4, g_numberAt b4 (by omega) (by omega) (by omega), Option.bind_some, zgI_ob b1 b2, Option.bind_some, ci_add, g_rem (by omega) (by omega) (by omega), Option.bind_some, zcl_cu y]
    show Option.bind (fX0_enter c (ci i) (ci j) (ci k) (ci (sF p gl gr (ix i j k))) S') _ = _
    rw [f1, Option.bind_some, cl_1, ci_add]
  · rintro S' ⟨y, hf⟩
    refine ⟨.inl (ci (j + 1), S'), ?_, S', rfl, ?_, hf⟩
    · unfold fX5_sum_B79
      simp only []
      rw [zgI_ob y.1 rfl, Option.bind_some, if_pos (by rw [ci_le (by omega) (by omega)]; omega), cl_1, ci_add, zex_some]
    · rw [← gF_row (by omega)]; exact y
theorem c_sum2 {S : ZS} {l0 lc ln rc rn c nn p a b d q i la lb ld lq ra rb rd rq : Nat} {fs : List Value} {gl gr : Nat → Nat} (B : fBasesum S l0 lc ln rc rn nn p a b d la lb ld lq ra rb rd rq fs gl gr) (hi : i < a) (h : zCu S c nn a b d q (gF a b d (sF p gl gr) (ix i 0 0))) : ∃ S1, ziter (fX5_sum_B66 l0 lc rc c (ci i)) zF (ci 0, S) = some (.inl (ci (i + 1), S1)) ∧ zCu S1 c nn a b d q (gF a b d (sF p gl gr) (ix (i + 1) 0 0)) ∧ zFrm S S1 (fun b => b = nn) := by
  have hs := B.1
  have := ziter_for (body := fX5_sum_B66 l0 lc rc c (ci i)) (fun j S' => zCu S' c nn a b d q (gF a b d (sF p gl gr) (ix i j 0)) ∧ zFrm S S' (fun b => b = nn)) (fun r => ∃ S1, r = .inl (ci (i + 1), S1) ∧ zCu S1 c nn a b d q (gF a b d (sF p gl gr) (ix (i + 1) 0 0)) ∧ zFrm S S1 (fun b => b = nn)) b ?_ ?_ b 0 zF S (by omega) (by rw [zF_eq]; omega) ⟨h, zFrm.rf⟩
  · obtain ⟨r, h1, S1, rfl, h2, h3⟩ := this
    exact ⟨S1, h1, h2, h3⟩
  · rintro j S' hj ⟨y, hf⟩
    obtain ⟨S1, f1, f2, f3⟩ := c_sum3 (B.fr hf) hi hj y
    refine ⟨S1, ?_, f2, hf.tr f3⟩
    unfold fX5_sum_B66
    simp only []
    rw [zgI_ob y.1 rfl, Option.bind_some, if_neg (by rw [ci_le (by omega) (by omega)]; omega), cl_0]
    exact f1
  · rintro S' ⟨y, hf⟩
    refine ⟨.inl (ci (i + 1), S'), ?_, S', rfl, ?_, hf⟩
    · unfold fX5_sum_B66
      simp only []
      rw [zgI_ob y.1 rfl, Option.bind_some, if_pos (by rw [ci_le (by omega) (by omega)]; omega), cl_1, ci_add, zex_some]
    · rw [← gF_rows (by omega)]; exact y
theorem c_sum1 {S : ZS} {l0 lc ln rc rn c nn p a b d q cc la lb ld lq ra rb rd rq : Nat} {fs : List Value} {gl gr : Nat → Nat} (B : fBasesum S l0 lc ln rc rn nn p a b d la lb ld lq ra rb rd rq fs gl gr) (hv : fs[7]? = some (.int (ci (cc + 1)))) (h : zCu S c nn a b d q (gF a b d (sF p gl gr) 0)) : ∃ S1, ziter (fX5_sum_B53 l0 lc rc c) zF (ci 0, S) = some (.inl (ci cc, S1)) ∧ zCu S1 c nn a b d q (gF a b d (sF p gl gr) 64) ∧ zFrm S S1 (fun b => b = nn) := by
  have hs := B.1
  have := ziter_for (body := fX5_sum_B53 l0 lc rc c) (fun i S' => zCu S' c nn a b d q (gF a b d (sF p gl gr) (ix i 0 0)) ∧ zFrm S S' (fun b => b = nn)) (fun r => ∃ S1, r = .inl (ci cc, S1) ∧ zCu S1 c nn a b d q (gF a b d (sF p gl gr) 64) ∧ zFrm S S1 (fun b => b = nn)) a ?_ ?_ a 0 zF S (by omega) (by rw [zF_eq]; omega) ⟨h, zFrm.rf⟩
  · obtain ⟨r, h1, S1, rfl, h2, h3⟩ := this
    exact ⟨S1, h1, h2, h3⟩
  · rintro i S' hi ⟨y, hf⟩
    obtain ⟨S1, f1, f2, f3⟩ := c_sum2 (B.fr hf) hi y
    refine ⟨S1, ?_, f2, hf.tr f3⟩
    unfold fX5_sum_B53
    simp only []
    rw [zgI_ob y.1 rfl, Option.bind_some, if_neg (by rw [ci_le (by omega) (by omega)]; omega), cl_0]
    exact f1
  · rintro S' ⟨y, hf⟩
    refine ⟨.inl (ci cc, S'), ?_, S', rfl, ?_, hf⟩
    · unfold fX5_sum_B53
      simp only []
      rw [zgI_ob y.1 rfl, Option.bind_some, if_pos (by rw [ci_le (by omega) (by omega)]; omega), zgI_ob (B.fr hf).2.1 hv, Option.bind_some, cl_1, ci_sub (by omega), Nat.add_sub_cancel, zex_some]
    · rw [← gF_end (by omega)]; exact y
/-- what the class's product finds ahead of its loops -/
def fBaseproduct (S : ZS) (l0 lc ln rc rn nn p a b d la lb ld lq ra rb rd rq : Nat) (fs : List Value) (gl gr : Nat → Nat) : Prop :=
  (1 ≤ a ∧ a ≤ 4 ∧ 1 ≤ b ∧ b ≤ 4 ∧ 1 ≤ d ∧ d ≤ 4) ∧ zOb S l0 5 fs ∧ fs[6]? = some (.int (ci p)) ∧ zCu S lc ln la lb ld lq gl ∧ zCu S rc rn ra rb rd rq gr ∧ (l0 ≠ nn ∧ lc ≠ nn ∧ ln ≠ nn ∧ rc ≠ nn ∧ rn ≠ nn) ∧ isP p ∧ cOK p la lb ld gl ∧ cOK p ra rb rd gr ∧ (((1 ≤ ra ∧ ra ≤ 4 ∧ 1 ≤ rb ∧ rb ≤ 4 ∧ 1 ≤ rd ∧ rd ≤ 4) ∧ la ≤ 4 ∧ lb ≤ 4 ∧ ld ≤ 4) ∧ a = la * ra ∧ b = lb * rb ∧ d = ld * rd)
theorem fBaseproduct.fr {S S' : ZS} {l0 lc ln rc rn nn p a b d la lb ld lq ra rb rd rq : Nat} {fs : List Value} {gl gr : Nat → Nat} (B : fBaseproduct S l0 lc ln rc rn nn p a b d la lb ld lq ra rb rd rq fs gl gr) (hf : zFrm S S' (fun b => b = nn)) : fBaseproduct S' l0 lc ln rc rn nn p a b d la lb ld lq ra rb rd rq fs gl gr :=
  ⟨B.1, hf.ob B.2.2.2.2.2.1.1 B.2.1, B.2.2.1, hf.cu B.2.2.2.2.2.1.2.1 B.2.2.2.2.2.1.2.2.1 B.2.2.2.1, hf.cu B.2.2.2.2.2.1.2.2.2.1 B.2.2.2.2.2.1.2.2.2.2 B.2.2.2.2.1, B.2.2.2.2.2⟩
theorem c_product3 {S : ZS} {l0 lc ln rc rn c nn p a b d q i j la lb ld lq ra rb rd rq : Nat} {fs : List Value} {gl gr : Nat → Nat} (B : fBaseproduct S l0 lc ln rc rn nn p a b d la lb ld lq ra rb rd rq fs gl gr) (hi : i < a) (hj : j < b) (h : zCu S c nn a b d q (gF a b d (pF p ra rb rd gl gr) (ix i j 0))) : ∃ S1, ziter (fX5_product_B78 l0 lc rc c (ci i) (ci j)) zF (ci 0, S) = some (.inl (ci (j + 1), S1)) ∧ zCu S1 c nn a b d q (gF a b d (pF p ra rb rd gl gr) (ix i (j + 1) 0)) ∧ zFrm S S1 (fun b => b = nn) := by
  have hs := B.1
  have := ziter_for (body := fX5_product_B78 l0 lc rc c (ci i) (ci j)) (fun k S' => zCu S' c nn a b d q (gF a b d (pF p ra rb rd gl gr) (ix i j k)) ∧ zFrm S S' (fun b => b = nn)) (fun r => ∃ S1, r = .inl (ci (j + 1), S1) ∧ zCu S1 c nn a b d q (gF a b d (pF p ra rb rd gl gr) (ix i (j + 1) 0)) ∧ zFrm S S1 (fun b => b = nn)) d ?_ ?_ d 0 zF S (by omega) (by rw [zF_eq]; omega) ⟨h, zFrm.rf⟩
  · obtain ⟨r, h1, S1, rfl, h2, h3⟩ := this
    exact ⟨S1, h1, h2, h3⟩
  · rintro k S' hk ⟨y, hf⟩
    have B' := B.fr hf
    obtain ⟨_, b1, b2, b3, b4, _, b5, b6, b7, ⟨⟨r1, r2, r3, r4, r5, r6⟩, la4, lb4, ld4⟩, rfl, rfl, rfl⟩ := B'
    have i1 := q_lt hi la4
    have i2 := q_lt hj lb4
    have i3 := q_lt hk ld4
    have m1 := Nat.mod_lt i (show 0 < ra by omega)
    have m2 := Nat.mod_lt j (show 0 < rb by omega)
    have m3 := Nat.mod_lt k (show 0 < rd by omega)
    have l1 := b6.lt (ix_lt i1 i2 i3)
    have l2 := b7.lt (ix_lt (i := i % ra) (j := j % rb) (k := k % rd) (by omega) (by omega) (by omega))
    have hpb := b5.b
    have l3 : gl (ix (i / ra) (j / rb) (k / rd)) * gr (ix (i % ra) (j % rb) (k % rd)) ≤ 5 * 5 := Nat.mul_le_mul (by omega) (by omega)
    obtain ⟨S1, f1, f2, f3⟩ := g_enter (v := pF p ra rb rd gl gr (ix i j k)) y (i := i) (j := j) (k := k) (by omega) (by omega) (by omega)
    rw [gF_step hi hj hk (by omega) (by omega) rfl] at f2
    refine ⟨S1, ?_, f2, hf.tr f3⟩
    rw [pF_at (by omega) (by omega)] at f1
    unfold fX5_product_B78
    simp only []
    rw [zgI_ob y.1 rfl, Option.bind_some, if_neg (by rw [ci_le (by omega) (by omega)]; omega)]
    unfold fX5_numberOfProduct
    rw [zgI_ob b4.1 rfl, Option.bind_some, g_quo (by omega) (by omega) (by omega), Option.bind_some, zgI_ob b4.1 rfl, Option.bind_some, g_quo (by omega) (by omega) (by omega), Option.bind_some, zgI_ob b4.1 rfl, Option.bind_some, g_quo (by omega) (by omega) (by omega), Option.bind_some, zcl_cu b3, g_numberAt b3 i1 i2 i3, Option.bind_some, Option.bind_some, g_rem (by omega) (by omega) (by omega), Option.bind_some, Option.bind_some, g_rem (by omega) (by omega) (by omega), Option.bind_some, Option.bind_some, g_rem (by omega) (by omega) (by omega), Option.bind_some, zcl_cu b4, g_numberAt b4 (by omega) (by omega) (by omega), Option.bind_some, Option.bind_some, zgI_ob b1 b2, Option.bind_some, ci_mul, g_rem (by omega) (by omega) (by omega), Option.bind_some, zcl_cu y, f1, Option.bind_some, cl_1, ci_add]
  · rintro S' ⟨y, hf⟩
    refine ⟨.inl (ci (j + 1), S'), ?_, S', rfl, ?_, hf⟩
    · unfold fX5_product_B78
      simp only []
      rw [zgI_ob y.1 rfl, Option.bind_some, if_pos (by rw [ci_le (by omega) (by omega)]; omega), cl_1, ci_add, zex_some]
    · rw [← gF_row (by omega)]; exact y
theorem c_product2 {S : ZS} {l0 lc ln rc rn c nn p a b d q i la lb ld lq ra rb rd rq : Nat} {fs : List Value} {gl gr : Nat → Nat} (B : fBaseproduct S l0 lc ln rc rn nn p a b d la lb ld lq ra rb rd rq fs gl gr) (hi : i < a) (h : zCu S c nn a b d q (gF a b d (pF p ra rb rd gl gr) (ix i 0 0))) : ∃ S1, ziter (fX5_product_B65 l0 lc rc c (ci i)) zF (ci 0, S) = some (.inl (ci (i + 1), S1)) ∧ zCu S1 c nn a b d q (gF a b d (pF p ra rb rd gl gr) (ix (i + 1) 0 0)) ∧ zFrm S S1 (fun b => b = nn) := by
  have hs := B.1
  have := ziter_for (body := fX5_product_B65 l0 lc rc c (ci i)) (fun j S' => zCu S' c nn a b d q (gF a b d (pF p ra rb rd gl gr) (ix i j 0)) ∧ zFrm S S' (fun b => b = nn)) (fun r => ∃ S1, r = .inl (ci (i + 1), S1) ∧ zCu S1 c nn a b d q (gF a b d (pF p ra rb rd gl gr) (ix (i + 1) 0 0)) ∧ zFrm S S1 (fun b => b = nn)) b ?_ ?_ b 0 zF S (by omega) (by rw [zF_eq]; omega) ⟨h, zFrm.rf⟩
  · obtain ⟨r, h1, S1, rfl, h2, h3⟩ := this
    exact ⟨S1, h1, h2, h3⟩
  · rintro j S' hj ⟨y, hf⟩
    obtain ⟨S1, f1, f2, f3⟩ := c_product3 (B.fr hf) hi hj y
    refine ⟨S1, ?_, f2, hf.tr f3⟩
    unfold fX5_product_B65
    simp only []
    rw [zgI_ob y.1 rfl, Option.bind_some, if_neg (by rw [ci_le (by omega) (by omega)]; omega), cl_0]
    exact f1
  · rintro S' ⟨y, hf⟩
    refine ⟨.inl (ci (i + 1), S'), ?_, S', rfl, ?_, hf⟩
    · unfold fX5_product_B65
      simp only []
      rw [zgI_ob y.1 rfl, Option.bind_some, if_pos (by rw [ci_le (by omega) (by omega)]; omega), cl_1, ci_add, zex_some]
    · rw [← gF_rows (by omega)]; exact y
theorem c_product1 {S : ZS} {l0 lc ln rc rn c nn p a b d q cc la lb ld lq ra rb rd rq : Nat} {fs : List Value} {gl gr : Nat → Nat} (B : fBaseproduct S l0 lc ln rc rn nn p a b d la lb ld lq ra rb rd rq fs gl gr) (hv : fs[7]? = some (.int (ci (cc + 1)))) (h : zCu S c nn a b d q (gF a b d (pF p ra rb rd gl gr) 0)) : ∃ S1, ziter (fX5_product_B52 l0 lc rc c) zF (ci 0, S) = some (.inl (ci cc, S1)) ∧ zCu S1 c nn a b d q (gF a b d (pF p ra rb rd gl gr) 64) ∧ zFrm S S1 (fun b => b = nn) := by
  have hs := B.1
  have := ziter_for (body := fX5_product_B52 l0 lc rc c) (fun i S' => zCu S' c nn a b d q (gF a b d (pF p ra rb rd gl gr) (ix i 0 0)) ∧ zFrm S S' (fun b => b = nn)) (fun r => ∃ S1, r = .inl (ci cc, S1) ∧ zCu S1 c nn a b d q (gF a b d (pF p ra rb rd gl gr) 64) ∧ zFrm S S1 (fun b => b = nn)) a ?_ ?_ a 0 zF S (by omega) (by rw [zF_eq]; omega) ⟨h, zFrm.rf⟩
  · obtain ⟨r, h1, S1, rfl, h2, h3⟩ := this
    exact ⟨S1, h1, h2, h3⟩
  · rintro i S' hi ⟨y, hf⟩
    obtain ⟨S1, f1, f2, f3⟩ := c_product2 (B.fr hf) hi y
    refine ⟨S1, ?_, f2, hf.tr f3⟩
    unfold fX5_product_B52
    simp only []
    rw [zgI_ob y.1 rfl, Option.bind_some, if_neg (by rw [ci_le (by omega) (by omega)]; omega), cl_0]
    exact f1
  · rintro S' ⟨y, hf⟩
    refine ⟨.inl (ci cc, S'), ?_, S', rfl, ?_, hf⟩
    · unfold fX5_product_B52
      simp only []
      rw [zgI_ob y.1 rfl, Option.bind_some, if_pos (by rw [ci_le (by omega) (by omega)]; omega), zgI_ob (B.fr hf).2.1 hv, Option.bind_some, cl_1, ci_sub (by omega), Nat.add_sub_cancel, zex_some]
    · rw [← gF_end (by omega)]; exact y
