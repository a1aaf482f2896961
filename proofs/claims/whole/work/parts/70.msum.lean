/-! LAW CASES 7 AND 8: the model's loops -/
theorem m_cs0 {S : ZS} {m i : Nat} {R : Nat → Nat} {X : Nat → Int32} {A : Nat → Nat → Int32} {c g : Nat → Nat} (h : zMo S m R X A) (y : mCu A i c g) (hi : i < 16) : zaI S (R 3) 0 ((3 : Int32) * ci i) = some (ci (c 0)) := by
  rw [cl_3, ci_mul, h.rd A3i (by rw [N3]; omega)]
  exact congrArg some (y.1 0 (by omega))
theorem m_cs1 {S : ZS} {m i : Nat} {R : Nat → Nat} {X : Nat → Int32} {A : Nat → Nat → Int32} {c g : Nat → Nat} (h : zMo S m R X A) (y : mCu A i c g) (hi : i < 16) : zaI S (R 3) 0 ((3 : Int32) * ci i + (1 : Int32)) = some (ci (c 1)) := by
  rw [cl_3, cl_1, ci_mul, ci_add, h.rd A3i (by rw [N3]; omega)]
  exact congrArg some (y.1 1 (by omega))
theorem m_cs2 {S : ZS} {m i : Nat} {R : Nat → Nat} {X : Nat → Int32} {A : Nat → Nat → Int32} {c g : Nat → Nat} (h : zMo S m R X A) (y : mCu A i c g) (hi : i < 16) : zaI S (R 3) 0 ((3 : Int32) * ci i + (2 : Int32)) = some (ci (c 2)) := by
  rw [cl_3, cl_2, ci_mul, ci_add, h.rd A3i (by rw [N3]; omega)]
  exact congrArg some (y.1 2 (by omega))
/-- a cube's numbers in the model, as another one is filled -/
def mNum (A : Nat → Nat → Int32) (i : Nat) (g : Nat → Nat) : Prop := ∀ x, x < 64 → A 4 (64 * i + x) = ci (g x)
theorem mNum.v {A A' : Nat → Nat → Int32} {i cc : Nat} {g : Nat → Nat} (h : mNum A i g) (hi : i < cc) (hv : mV cc A A') : mNum A' i g := fun x hx => by
  rw [hv.2.2 _ (by omega)]; exact h x hx
theorem mNum.z {A A' : Nat → Nat → Int32} {i cc : Nat} {g : Nat → Nat} (h : mNum A i g) (hi : i < cc) (hv : mZ cc A A') : mNum A' i g := fun x hx => by
  rw [hv.2.2.1 _ (by omega)]; exact h x hx
theorem mNum.rd {S : ZS} {m i x : Nat} {R : Nat → Nat} {X : Nat → Int32} {A : Nat → Nat → Int32} {g : Nat → Nat} (y : mNum A i g) (h : zMo S m R X A) (hi : i < 16) (hx : x < 64) : zaI S (R 4) 0 (ci (64 * i + x)) = some (ci (g x)) := by
  rw [h.rd A4i (by rw [N4]; omega), y x hx]
theorem m_sum {S S0 : ZS} {m cc i j p a b d : Nat} {R : Nat → Nat} {X : Nat → Int32} {A : Nat → Nat → Int32} {gl gr : Nat → Nat} (hc : cc < 16) (hi : i < cc) (hj : j < cc) (hp : isP p) (hX : X 1 = ci p) (hl : mNum A i gl) (hr : mNum A j gr) (ol : cOK p a b d gl) (or : cOK p a b d gr) (h : mgP m cc R X A S0 (fun _ => 0) S) : ∃ S1, ziter (fX6_sum_B175 m (ci i) (ci j) (ci cc)) zF (ci 0, S) = some (ci cc, S1) ∧ mgP m cc R X A S0 (gF a b d (sF p gl gr) 64) S1 := by
  have hpb := hp.b
  have := ziter_for (body := fX6_sum_B175 m (ci i) (ci j) (ci cc)) (fun k S' => mgP m cc R X A S0 (fun x => if x < k then sF p gl gr x else 0) S') (fun r => ∃ S1, r = (ci cc, S1) ∧ mgP m cc R X A S0 (gF a b d (sF p gl gr) 64) S1) 64 ?_ ?_ 64 0 zF S (by omega) (by rw [zF_eq]; omega) h
  · obtain ⟨r, h1, S1, rfl, h2⟩ := this
    exact ⟨S1, h1, h2⟩
  · rintro k S' hk ⟨A', y1, y2, y3, y4, y5⟩
    have l1 := ol.lt hk
    have l2 := or.lt hk
    obtain ⟨S1, A1, f1, f2, f3, f4, f5, f6⟩ := m_put (v := sF p gl gr k) y1 hc hk y2
    have e : va_up (fun x => if x < k then sF p gl gr x else 0) k (sF p gl gr k) = (fun x => if x < k + 1 then sF p gl gr x else 0) := by
      funext x
      unfold va_up
      by_cases hx : x = k
      · rw [if_pos hx, if_pos (by omega), hx]
      · rw [if_neg hx]
        show (if x < k then sF p gl gr x else 0) = _
        by_cases h2 : x < k
        · rw [if_pos h2, if_pos (by omega)]
        · rw [if_neg h2, if_neg (by omega)]
    rw [e] at f3
    refine ⟨S1, ?_, A1, f2, f3, y3.tr f4, f5.trans y4, y5.tr f6⟩
    unfold fX6_sum_B175
    simp only []
    rw [if_neg (by rw [cl_64, ci_le (by omega) (by omega)]; omega), zgR_ob y1.1 rfl, Option.bind_some, Option.bind_some, cl_64, ci_mul, ci_add, (hl.v hi y3).rd y1 (by omega) hk, Option.bind_some, Option.bind_some, ci_mul, ci_add, (hr.v hj y3).rd y1 (by omega) hk, Option.bind_some, zgI_ob y1.1 rfl, Option.bind_some, hX, ci_add, z_rem (by omega) (by omega) (by omega), Option.bind_some, ci_mul, ci_add]
    show Option.bind (zsI S' (R 4) 0 (ci (64 * cc + k)) (ci (sF p gl gr k))) _ = _
    rw [f1, Option.bind_some, cl_1, ci_add]
  · rintro S' ⟨A', y1, y2, y3⟩
    refine ⟨(ci cc, S'), ?_, S', rfl, A', y1, fun y hy => ?_, y3⟩
    · unfold fX6_sum_B175
      simp only []
      rw [if_pos (by rw [cl_64, ci_le (by omega) (by omega)]; omega), zex_some]
    · rw [y2 y hy, sF_all ol or hy]
      show ci (if y < 64 then sF p gl gr y else 0) = _
      rw [if_pos hy]
/-- what the model's product finds ahead of its loops -/
def mpB (A : Nat → Nat → Int32) (X : Nat → Int32) (cc i j p la lb ld ra rb rd : Nat) (gl gr : Nat → Nat) : Prop :=
  cc < 16 ∧ i < cc ∧ j < cc ∧ isP p ∧ X 1 = ci p ∧ mNum A i gl ∧ mNum A j gr ∧ cOK p la lb ld gl ∧ cOK p ra rb rd gr ∧ (1 ≤ ra ∧ ra ≤ 4 ∧ 1 ≤ rb ∧ rb ≤ 4 ∧ 1 ≤ rd ∧ rd ≤ 4) ∧ (la ≤ 4 ∧ lb ≤ 4 ∧ ld ≤ 4) ∧ (la * ra ≤ 4 ∧ lb * rb ≤ 4 ∧ ld * rd ≤ 4) ∧ ∀ s, s < 3 → A 3 (3 * cc + s) = ci (sz3 (la * ra) (lb * rb) (ld * rd) s)
theorem mp_3 {S : ZS} {m : Nat} {R : Nat → Nat} {A' A : Nat → Nat → Int32} {X : Nat → Int32} {cc i j p la lb ld ra rb rd : Nat} {gl gr : Nat → Nat} (B : mpB A X cc i j p la lb ld ra rb rd gl gr) (h : zMo S m R X A') (hv : mV cc A A') : zaI S (R 3) 0 ((3 : Int32) * ci cc) = some (ci (la * ra)) ∧ zaI S (R 3) 0 ((3 : Int32) * ci cc + (1 : Int32)) = some (ci (lb * rb)) ∧ zaI S (R 3) 0 ((3 : Int32) * ci cc + (2 : Int32)) = some (ci (ld * rd)) := by
  obtain ⟨hc, _, _, _, _, _, _, _, _, _, _, _, h3⟩ := B
  refine ⟨?_, ?_, ?_⟩
  · rw [cl_3, ci_mul, h.rd A3i (by rw [N3]; omega), hv.1 3 (by omega) (by omega)]
    exact congrArg some (h3 0 (by omega))
  · rw [cl_3, cl_1, ci_mul, ci_add, h.rd A3i (by rw [N3]; omega), hv.1 3 (by omega) (by omega)]
    exact congrArg some (h3 1 (by omega))
  · rw [cl_3, cl_2, ci_mul, ci_add, h.rd A3i (by rw [N3]; omega), hv.1 3 (by omega) (by omega)]
    exact congrArg some (h3 2 (by omega))
theorem z_div {x y : Nat} (hx : x < 2147483648) (hy : y < 2147483648) (h0 : 0 < y) : zdiv (ci x) (ci y) = some (ci (x / y)) := by
  unfold zdiv
  rw [if_neg (by rw [cl_0, ci_eq hy (by omega)]; omega), ci_div hx hy]
theorem m_prod3 {S S0 : ZS} {m cc i j p la lb ld ra rb rd i1 i2 : Nat} {R : Nat → Nat} {X : Nat → Int32} {A : Nat → Nat → Int32} {gl gr : Nat → Nat} (B : mpB A X cc i j p la lb ld ra rb rd gl gr) (h1 : i1 < la * ra) (h2 : i2 < lb * rb) (h : mgP m cc R X A S0 (gF (la * ra) (lb * rb) (ld * rd) (pF p ra rb rd gl gr) (ix i1 i2 0)) S) : ∃ S1, ziter (fX6_product_B235 m (ci i) (ci j) (ci ra) (ci rb) (ci rd) (ci cc) (ci i1) (ci i2)) zF (ci 0, S) = some (.inl (ci (i2 + 1), S1)) ∧ mgP m cc R X A S0 (gF (la * ra) (lb * rb) (ld * rd) (pF p ra rb rd gl gr) (ix i1 (i2 + 1) 0)) S1 := by
  have := ziter_for (body := fX6_product_B235 m (ci i) (ci j) (ci ra) (ci rb) (ci rd) (ci cc) (ci i1) (ci i2)) (fun k S' => mgP m cc R X A S0 (gF (la * ra) (lb * rb) (ld * rd) (pF p ra rb rd gl gr) (ix i1 i2 k)) S') (fun r => ∃ S1, r = .inl (ci (i2 + 1), S1) ∧ mgP m cc R X A S0 (gF (la * ra) (lb * rb) (ld * rd) (pF p ra rb rd gl gr) (ix i1 (i2 + 1) 0)) S1) (ld * rd) ?_ ?_ (ld * rd) 0 zF S (by omega) (by rw [zF_eq]; have := B.2.2.2.2.2.2.2.2.2.2.2.1; omega) h
  · obtain ⟨r, h1, S1, rfl, h2⟩ := this
    exact ⟨S1, h1, h2⟩
  · rintro k S' hk ⟨A', y1, y2, y3, y4, y5⟩
    have h3 := mp_3 B y1 y3
    obtain ⟨hc, hi, hj, hp, hX, hl, hr, ol, or, r4, l4, q4, _⟩ := B
    have hpb := hp.b
    have j1 := q_lt h1 l4.1
    have j2 := q_lt h2 l4.2.1
    have j3 := q_lt hk l4.2.2
    have m1 := Nat.mod_lt i1 (show 0 < ra by omega)
    have m2 := Nat.mod_lt i2 (show 0 < rb by omega)
    have m3 := Nat.mod_lt k (show 0 < rd by omega)
    have x1 := ix_lt j1 j2 j3
    have x2 := ix_lt (i := i1 % ra) (j := i2 % rb) (k := k % rd) (by omega) (by omega) (by omega)
    have x3 := ix_lt (i := i1) (j := i2) (k := k) (by omega) (by omega) (by omega)
    have l1 := ol.lt x1
    have l2 := or.lt x2
    have l3 : gl (ix (i1 / ra) (i2 / rb) (k / rd)) * gr (ix (i1 % ra) (i2 % rb) (k % rd)) ≤ 5 * 5 := Nat.mul_le_mul (by omega) (by omega)
    obtain ⟨S1, A1, f1, f2, f3, f4, f5, f6⟩ := m_put (v := pF p ra rb rd gl gr (ix i1 i2 k)) y1 hc x3 y2
    rw [gF_step h1 h2 hk (by omega) (by omega) rfl] at f3
    rw [pF_at (by omega) (by omega)] at f1
    refine ⟨S1, ?_, A1, f2, f3, y3.tr f4, f5.trans y4, y5.tr f6⟩
    unfold fX6_product_B235
    simp only []
    rw [zgR_ob y1.1 rfl, Option.bind_some, h3.2.2, Option.bind_some, if_neg (by rw [ci_le (by omega) (by omega)]; omega), zgR_ob y1.1 rfl, Option.bind_some, z_div (by omega) (by omega) (by omega), Option.bind_some, z_div (by omega) (by omega) (by omega), Option.bind_some, z_div (by omega) (by omega) (by omega), Option.bind_some, m_place, Option.bind_some, cl_64, ci_mul, ci_add, (hl.v hi y3).rd y1 (by omega) x1, Option.bind_some, Option.bind_some, z_rem (by omega) (by omega) (by omega), Option.bind_some, z_rem (by omega) (by omega) (by omega), Option.bind_some, z_rem (by omega) (by omega) (by omega), Option.bind_some, m_place, Option.bind_some, ci_mul, ci_add, (hr.v hj y3).rd y1 (by omega) x2, Option.bind_some, Option.bind_some, m_place, Option.bind_some, zgI_ob y1.1 rfl, Option.bind_some, hX, ci_mul, z_rem (by omega) (by omega) (by omega), Option.bind_some, ci_mul, ci_add, f1, Option.bind_some, cl_1, ci_add]
  · rintro S' ⟨A', y1, y2, y3, y4, y5⟩
    have h3 := mp_3 B y1 y3
    have q4 := B.2.2.2.2.2.2.2.2.2.2.2.1
    refine ⟨.inl (ci (i2 + 1), S'), ?_, S', rfl, A', y1, ?_, y3, y4, y5⟩
    · unfold fX6_product_B235
      simp only []
      rw [zgR_ob y1.1 rfl, Option.bind_some, h3.2.2, Option.bind_some, if_pos (by rw [ci_le (by omega) (by omega)]; omega), cl_1, ci_add, zex_some]
    · rw [← gF_row (by omega)]; exact y2
theorem m_prod2 {S S0 : ZS} {m cc i j p la lb ld ra rb rd i1 : Nat} {R : Nat → Nat} {X : Nat → Int32} {A : Nat → Nat → Int32} {gl gr : Nat → Nat} (B : mpB A X cc i j p la lb ld ra rb rd gl gr) (h1 : i1 < la * ra) (h : mgP m cc R X A S0 (gF (la * ra) (lb * rb) (ld * rd) (pF p ra rb rd gl gr) (ix i1 0 0)) S) : ∃ S1, ziter (fX6_product_B216 m (ci i) (ci j) (ci ra) (ci rb) (ci rd) (ci cc) (ci i1)) zF (ci 0, S) = some (.inl (ci (i1 + 1), S1)) ∧ mgP m cc R X A S0 (gF (la * ra) (lb * rb) (ld * rd) (pF p ra rb rd gl gr) (ix (i1 + 1) 0 0)) S1 := by
  have q4 := B.2.2.2.2.2.2.2.2.2.2.2.1
  have := ziter_for (body := fX6_product_B216 m (ci i) (ci j) (ci ra) (ci rb) (ci rd) (ci cc) (ci i1)) (fun i2 S' => mgP m cc R X A S0 (gF (la * ra) (lb * rb) (ld * rd) (pF p ra rb rd gl gr) (ix i1 i2 0)) S') (fun r => ∃ S1, r = .inl (ci (i1 + 1), S1) ∧ mgP m cc R X A S0 (gF (la * ra) (lb * rb) (ld * rd) (pF p ra rb rd gl gr) (ix (i1 + 1) 0 0)) S1) (lb * rb) ?_ ?_ (lb * rb) 0 zF S (by omega) (by rw [zF_eq]; omega) h
  · obtain ⟨r, h1, S1, rfl, h2⟩ := this
    exact ⟨S1, h1, h2⟩
  · rintro i2 S' h2 y
    obtain ⟨S1, f1, f2⟩ := m_prod3 B h1 h2 y
    refine ⟨S1, ?_, f2⟩
    obtain ⟨A', y1, y2, y3, y4, y5⟩ := y
    have h3 := mp_3 B y1 y3
    unfold fX6_product_B216
    simp only []
    rw [zgR_ob y1.1 rfl, Option.bind_some, h3.2.1, Option.bind_some, if_neg (by rw [ci_le (by omega) (by omega)]; omega), cl_0]
    exact f1
  · rintro S' ⟨A', y1, y2, y3, y4, y5⟩
    have h3 := mp_3 B y1 y3
    refine ⟨.inl (ci (i1 + 1), S'), ?_, S', rfl, A', y1, ?_, y3, y4, y5⟩
    · unfold fX6_product_B216
      simp only []
      rw [zgR_ob y1.1 rfl, Option.bind_some, h3.2.1, Option.bind_some, if_pos (by rw [ci_le (by omega) (by omega)]; omega), cl_1, ci_add, zex_some]
    · rw [← gF_rows (by omega)]; exact y2
theorem m_prod {S S0 : ZS} {m cc i j p la lb ld ra rb rd : Nat} {R : Nat → Nat} {X : Nat → Int32} {A : Nat → Nat → Int32} {gl gr : Nat → Nat} (B : mpB A X cc i j p la lb ld ra rb rd gl gr) (h : mgP m cc R X A S0 (gF (la * ra) (lb * rb) (ld * rd) (pF p ra rb rd gl gr) 0) S) : ∃ S1, ziter (fX6_product_B199 m (ci i) (ci j) (ci ra) (ci rb) (ci rd) (ci cc)) zF (ci 0, S) = some (ci cc, S1) ∧ mgP m cc R X A S0 (gF (la * ra) (lb * rb) (ld * rd) (pF p ra rb rd gl gr) 64) S1 := by
  have q4 := B.2.2.2.2.2.2.2.2.2.2.2.1
  have := ziter_for (body := fX6_product_B199 m (ci i) (ci j) (ci ra) (ci rb) (ci rd) (ci cc)) (fun i1 S' => mgP m cc R X A S0 (gF (la * ra) (lb * rb) (ld * rd) (pF p ra rb rd gl gr) (ix i1 0 0)) S') (fun r => ∃ S1, r = (ci cc, S1) ∧ mgP m cc R X A S0 (gF (la * ra) (lb * rb) (ld * rd) (pF p ra rb rd gl gr) 64) S1) (la * ra) ?_ ?_ (la * ra) 0 zF S (by omega) (by rw [zF_eq]; omega) h
  · obtain ⟨r, h1, S1, rfl, h2⟩ := this
    exact ⟨S1, h1, h2⟩
  · rintro i1 S' h1 y
    obtain ⟨S1, f1, f2⟩ := m_prod2 B h1 y
    refine ⟨S1, ?_, f2⟩
    obtain ⟨A', y1, y2, y3, y4, y5⟩ := y
    have h3 := mp_3 B y1 y3
    unfold fX6_product_B199
    simp only []
    rw [zgR_ob y1.1 rfl, Option.bind_some, h3.1, Option.bind_some, if_neg (by rw [ci_le (by omega) (by omega)]; omega), cl_0]
    exact f1
  · rintro S' ⟨A', y1, y2, y3, y4, y5⟩
    have h3 := mp_3 B y1 y3
    refine ⟨(ci cc, S'), ?_, S', rfl, A', y1, ?_, y3, y4, y5⟩
    · unfold fX6_product_B199
      simp only []
      rw [zgR_ob y1.1 rfl, Option.bind_some, h3.1, Option.bind_some, if_pos (by rw [ci_le (by omega) (by omega)]; omega), zex_some]
    · rw [← gF_end (by omega)]; exact y2
