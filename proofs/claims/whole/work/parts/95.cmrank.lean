/-! LAW CASES 16, 17: the rank in the model -/
theorem A12i : isA 12 := Or.inr ⟨by omega, by omega⟩
theorem N12 : mN 12 = 64 := rfl
/-- the matrix of the model: nothing else has changed -/
def mMx (m p : Nat) (R : Nat → Nat) (X : Nat → Int32) (A : Nat → Nat → Int32) (M : Nat → Nat → Nat) (S0 S : ZS) : Prop := ∃ A', zMo S m R X A' ∧ X 1 = ci p ∧ isP p ∧ (∀ j, j ≠ 12 → A' j = A j) ∧ (∀ i, i < 4 → ∀ k, k < 16 → A' 12 (16 * i + k) = ci (M i k) ∧ M i k < p) ∧ zFrm S0 S (mP m R)
theorem mMx.rd {m p i k : Nat} {R : Nat → Nat} {X : Nat → Int32} {A : Nat → Nat → Int32} {M : Nat → Nat → Nat} {S0 S : ZS} (h : mMx m p R X A M S0 S) (hi : i < 4) (hk : k < 16) : zaI S (R 12) 0 ((16 : Int32) * ci i + ci k) = some (ci (M i k)) := by
  obtain ⟨A', h1, h2, h3, h4, h5, h6⟩ := h
  rw [cl_16, ci_mul, ci_add, h1.rd A12i (by rw [N12]; omega), (h5 i hi k hk).1]
theorem mMx.lt {m p i k : Nat} {R : Nat → Nat} {X : Nat → Int32} {A : Nat → Nat → Int32} {M : Nat → Nat → Nat} {S0 S : ZS} (h : mMx m p R X A M S0 S) (hi : i < 4) (hk : k < 16) : M i k < p := by
  obtain ⟨A', h1, h2, h3, h4, h5, h6⟩ := h
  exact (h5 i hi k hk).2
theorem mMx.ob {m p : Nat} {R : Nat → Nat} {X : Nat → Int32} {A : Nat → Nat → Int32} {M : Nat → Nat → Nat} {S0 S : ZS} (h : mMx m p R X A M S0 S) : zOb S m 6 (mF R X) := h.choose_spec.1.1
theorem mMx.pr {m p : Nat} {R : Nat → Nat} {X : Nat → Int32} {A : Nat → Nat → Int32} {M : Nat → Nat → Nat} {S0 S : ZS} (h : mMx m p R X A M S0 S) : X 1 = ci p ∧ isP p := ⟨h.choose_spec.2.1, h.choose_spec.2.2.1⟩
theorem mMx.put {m p i k v : Nat} {R : Nat → Nat} {X : Nat → Int32} {A : Nat → Nat → Int32} {M : Nat → Nat → Nat} {S0 S : ZS} (h : mMx m p R X A M S0 S) (hi : i < 4) (hk : k < 16) (hv : v < p) : ∃ S1, zsI S (R 12) 0 ((16 : Int32) * ci i + ci k) (ci v) = some S1 ∧ mMx m p R X A (upM M i k v) S0 S1 := by
  obtain ⟨A', h1, h2, h3, h4, h5, h6⟩ := h
  have t := h1.set A12i (va_up (A' 12) (16 * i + k) (ci v))
  refine ⟨_, by rw [cl_16, ci_mul, ci_add]; exact h1.wr A12i (by rw [N12]; omega) _, _, t.1, h2, h3, fun j hj => (mS_ne hj).trans (h4 j hj), fun i' hi' k' hk' => ?_, h6.tr (t.2.wk (fun b hb => Or.inr (Or.inr ⟨12, A12i, hb⟩)))⟩
  rw [mS_self]
  unfold va_up upM
  by_cases hh : i' = i ∧ k' = k
  · rw [if_pos (by omega), if_pos hh]; exact ⟨rfl, hv⟩
  · rw [if_neg (by omega), if_neg hh]; exact h5 i' hi' k' hk'
theorem mMx.cg {m p : Nat} {R : Nat → Nat} {X : Nat → Int32} {A : Nat → Nat → Int32} {M M' : Nat → Nat → Nat} {S0 S : ZS} (h : mMx m p R X A M S0 S) (e : ∀ i, i < 4 → ∀ k, k < 16 → M i k = M' i k) : mMx m p R X A M' S0 S := by
  obtain ⟨A', h1, h2, h3, h4, h5, h6⟩ := h
  exact ⟨A', h1, h2, h3, h4, fun i hi k hk => by rw [← e i hi k hk]; exact h5 i hi k hk, h6⟩
theorem m_inverse {m p v : Nat} {R : Nat → Nat} {X : Nat → Int32} {A : Nat → Nat → Int32} {M : Nat → Nat → Nat} {S0 S : ZS} (h : mMx m p R X A M S0 S) (hv : v < p) : fX6_inverse m (ci v) S = some (ci (inv p v)) := by
  have hpb := h.pr.2.b
  unfold fX6_inverse
  refine ziter_seq (fun i => (ci (ivF p v i), ci (1 + i))) _ (p - 1) zF (by rw [zF_eq]; omega) (fun i hi => ?_) ?_
  · have hm : (1 + i) * v ≤ 5 * 5 := Nat.mul_le_mul (by omega) (by omega)
    have e : ivF p v (i + 1) = if (1 + i) * v % p = 1 then 1 + i else ivF p v i := rfl
    have hl := Nat.mod_lt ((1 + i) * v) (show 0 < p by omega)
    unfold fX6_inverse_B4 fX6_inverse_J29
    simp only []
    rw [zgI_ob h.ob rfl, Option.bind_some, h.pr.1, if_neg (by rw [ci_le (by omega) (by omega)]; omega), Option.bind_some, ci_mul, z_rem (by omega) (by omega) (by omega), Option.bind_some, e]
    by_cases h1 : (1 + i) * v % p = 1
    · rw [if_pos (by rw [h1]; rfl), if_pos h1, cl_1, ci_add]; rfl
    · rw [if_neg (by rw [cl_1, ci_eq (by omega) (by omega)]; exact h1), if_neg h1, cl_1, ci_add]; rfl
  · unfold fX6_inverse_B4
    simp only []
    rw [zgI_ob h.ob rfl, Option.bind_some, h.pr.1, if_pos (by rw [ci_le (by omega) (by omega)]; omega), zex_some]
    rfl
theorem mcl_lt {p x mi mr y : Nat} (hp : isP p) : mcl p x mi mr y < p := Nat.mod_lt _ (by have := hp.b; omega)
def mlk (p : Nat) (M : Nat → Nat → Nat) (r c i at' : Nat) : Nat → Nat → Nat := fun i' k' => if (r < i' ∧ i' < i) ∨ (i' = i ∧ k' < at') then mcl p (M i' k') (M i' c) (M r c) (M r k') else M i' k'
theorem m_clr2 {m p q r c i : Nat} {R : Nat → Nat} {X : Nat → Int32} {A : Nat → Nat → Int32} {M : Nat → Nat → Nat} {S0 S : ZS} (hM : ∀ i, i < 4 → ∀ k, k < 16 → M i k < p) (hr : r < i) (hi : i < 4) (hc : c < 16) (h : mMx m p R X A (mlk p M r c i 0) S0 S) : ∃ S1, ziter (fX6_rank_B193 m (ci q) (ci r) (ci c) (ci (inv p (M r c))) (ci i) (ci (p - M i c * inv p (M r c) % p))) zF (ci 0, S) = some (.inl (ci (i + 1), S1)) ∧ mMx m p R X A (mlk p M r c (i + 1) 0) S0 S1 := by
  have hpb := h.pr.2.b
  have := ziter_for (body := fX6_rank_B193 m (ci q) (ci r) (ci c) (ci (inv p (M r c))) (ci i) (ci (p - M i c * inv p (M r c) % p))) (fun k S' => mMx m p R X A (mlk p M r c i k) S0 S') (fun x => ∃ S1, x = .inl (ci (i + 1), S1) ∧ mMx m p R X A (mlk p M r c (i + 1) 0) S0 S1) 16 ?_ ?_ 16 0 zF S (by omega) (by rw [zF_eq]; omega) h
  · obtain ⟨x, h1, S1, rfl, h2⟩ := this
    exact ⟨S1, h1, h2⟩
  · rintro k S' hk y
    have l1 := hM i hi k hk
    have l2 := hM r (by omega) k hk
    have m2 : (p - M i c * inv p (M r c) % p) * M r k ≤ 5 * 5 := Nat.mul_le_mul (by omega) (by omega)
    have v1 : mlk p M r c i k i k = M i k := if_neg (by omega)
    have v2 : mlk p M r c i k r k = M r k := if_neg (by omega)
    obtain ⟨S1, a1, a2⟩ := y.put (i := i) (k := k) (v := mcl p (M i k) (M i c) (M r c) (M r k)) hi hk (mcl_lt h.pr.2)
    refine ⟨S1, ?_, a2.cg (fun i' _ k' _ => ?_)⟩
    · unfold fX6_rank_B193
      simp only []
      rw [if_neg (by rw [cl_16, ci_le (by omega) (by omega)]; omega), zgR_ob y.ob rfl, Option.bind_some, Option.bind_some, y.rd hi hk, Option.bind_some, Option.bind_some, y.rd (by omega) hk, Option.bind_some, v1, v2, zgI_ob y.ob rfl, Option.bind_some, h.pr.1, ci_mul, ci_add, z_rem (by omega) (by omega) (by omega), Option.bind_some]
      show Option.bind (zsI S' (R 12) 0 ((16 : Int32) * ci i + ci k) (ci (mcl p (M i k) (M i c) (M r c) (M r k)))) _ = _
      rw [a1, Option.bind_some, cl_1, ci_add]
    · unfold upM mlk
      by_cases hh : i' = i ∧ k' = k
      · rw [if_pos hh, if_pos (by omega), hh.1, hh.2]
      · rw [if_neg hh]
        by_cases h2 : (r < i' ∧ i' < i) ∨ (i' = i ∧ k' < k)
        · rw [if_pos h2, if_pos (by omega)]
        · rw [if_neg h2, if_neg (by omega)]
  · rintro S' y
    refine ⟨.inl (ci (i + 1), S'), ?_, S', rfl, y.cg (fun i' _ k' hk' => ?_)⟩
    · unfold fX6_rank_B193
      simp only []
      rw [if_pos (by rw [cl_16, ci_le (by omega) (by omega)]; omega), cl_1, ci_add, zex_some]
    · unfold mlk
      by_cases hh : (r < i' ∧ i' < i) ∨ (i' = i ∧ k' < 16)
      · rw [if_pos hh, if_pos (by omega)]
      · rw [if_neg hh, if_neg (by omega)]
theorem m_clr1 {m p q r c : Nat} {R : Nat → Nat} {X : Nat → Int32} {A : Nat → Nat → Int32} {M : Nat → Nat → Nat} {S0 S : ZS} (h : mMx m p R X A M S0 S) (hq : q ≤ 4) (hr : r < q) (hc : c < 16) : ∃ S1, ziter (fX6_rank_B157 m (ci q) (ci r) (ci c) (ci (inv p (M r c)))) zF (ci (r + 1), S) = some (.inl (ci (r + 1), ci (c + 1), S1)) ∧ mMx m p R X A (clr p q M r c) S0 S1 := by
  have hpb := h.pr.2.b
  have hM : ∀ i, i < 4 → ∀ k, k < 16 → M i k < p := fun i hi k hk => h.lt hi hk
  have iv5 : ∀ n v, ivF p v n ≤ n + 1 := fun n v => by
    induction n with
    | zero => exact Nat.le_refl 1
    | succ n ih =>
      show (if (1 + n) * v % p = 1 then 1 + n else ivF p v n) ≤ n + 1 + 1
      split <;> omega
  have key : ∀ (n i N : Nat) (S' : ZS), i + n = q → r < i → n < N → mMx m p R X A (mlk p M r c i 0) S0 S' → ∃ S1, ziter (fX6_rank_B157 m (ci q) (ci r) (ci c) (ci (inv p (M r c)))) N (ci i, S') = some (.inl (ci (r + 1), ci (c + 1), S1)) ∧ mMx m p R X A (clr p q M r c) S0 S1 := by
    intro n
    induction n with
    | zero =>
      intro i N S' hi hri hN y
      obtain ⟨N, rfl⟩ : ∃ M, N = M + 1 := ⟨N - 1, by omega⟩
      refine ⟨S', ?_, y.cg (fun i' hi' k _ => ?_)⟩
      · rw [ziter_0]
        unfold fX6_rank_B157 fX6_rank_J262
        simp only []
        rw [if_pos (by rw [ci_le (by omega) (by omega)]; omega), cl_1, ci_add, ci_add, zex_some]
      · unfold mlk clr
        by_cases hh : r < i' ∧ i' < q
        · rw [if_pos (by omega), if_pos hh]
        · rw [if_neg (by omega), if_neg hh]
    | succ n ih =>
      intro i N S' hi hri hN y
      obtain ⟨N, rfl⟩ : ∃ M, N = M + 1 := ⟨N - 1, by omega⟩
      have l4 := hM i (by omega) c hc
      have v1 : mlk p M r c i 0 i c = M i c := if_neg (by omega)
      have hiv : inv p (M r c) ≤ p - 1 + 1 := iv5 (p - 1) (M r c)
      have hmm : M i c * inv p (M r c) ≤ 5 * 5 := Nat.mul_le_mul (by omega) (by omega)
      have hml := Nat.mod_lt (M i c * inv p (M r c)) (show 0 < p by omega)
      obtain ⟨S1, a1, a2⟩ := m_clr2 (q := q) hM hri (by omega) hc y
      have st : fX6_rank_B157 m (ci q) (ci r) (ci c) (ci (inv p (M r c))) (ci i, S') = some (.inl (ci (i + 1), S1)) := by
        unfold fX6_rank_B157
        simp only []
        rw [if_neg (by rw [ci_le (by omega) (by omega)]; omega), zgI_ob y.ob rfl, Option.bind_some, zgR_ob y.ob rfl, Option.bind_some, y.rd (by omega) hc, Option.bind_some, Option.bind_some, v1, h.pr.1, ci_mul, z_rem (by omega) (by omega) (by omega), Option.bind_some, ci_sub (by omega)]
        exact a1
      rw [ziter_1 st]
      exact ih (i + 1) N S1 (by omega) (by omega) (by omega) a2
  exact key (q - (r + 1)) (r + 1) zF S (by omega) (by omega) (by rw [zF_eq]; omega) (h.cg (fun i _ k _ => by
    unfold mlk
    rw [if_neg (by omega)]))
theorem swk_step2 {C : Nat → Nat → Nat} {q r k : Nat} : upM (upM (swk C q r k) r k (C q k)) q k (C r k) = if q = r then swk C q r (k + 1) else swk C q r (k + 1) := by
  have : upM (upM (swk C q r k) r k (C q k)) q k (C r k) = swk C q r (k + 1) := by
    funext i k'
    unfold upM swk swp
    by_cases hk : k' = k
    · subst hk
      by_cases h2 : i = q
      · rw [if_pos ⟨h2, rfl⟩, if_pos (by omega)]
        by_cases h1 : i = r
        · rw [if_pos h1, ← h1, h2]
        · rw [if_neg h1, if_pos h2]
      · rw [if_neg (fun hh => h2 hh.1)]
        by_cases h1 : i = r
        · rw [if_pos ⟨h1, rfl⟩, if_pos (by omega), if_pos h1]
        · rw [if_neg (fun hh => h1 hh.1), if_neg (by omega), if_pos (by omega), if_neg h1, if_neg h2]
    · rw [if_neg (fun hh => hk hh.2), if_neg (fun hh => hk hh.2)]
      by_cases h3 : k' < k
      · rw [if_pos h3, if_pos (show k' < k + 1 by omega)]
      · rw [if_neg h3, if_neg (by omega)]
  rw [this]
  split <;> rfl
theorem m_swap {m p q r c w : Nat} {R : Nat → Nat} {X : Nat → Int32} {A : Nat → Nat → Int32} {M : Nat → Nat → Nat} {S0 S : ZS} (h : mMx m p R X A M S0 S) (hq : q ≤ 4) (hr : r < q) (hw : w < q) (hc : c < 16) : ∃ S1, ziter (fX6_rank_B68 m (ci q) (ci r) (ci c) (ci w)) zF (ci 0, S) = some (.inl (ci (r + 1), ci (c + 1), S1)) ∧ mMx m p R X A (clr p q (swp M w r) r c) S0 S1 := by
  have := ziter_for (body := fX6_rank_B68 m (ci q) (ci r) (ci c) (ci w)) (fun k S' => mMx m p R X A (swk M w r k) S0 S') (fun x => ∃ S1, x = .inl (ci (r + 1), ci (c + 1), S1) ∧ mMx m p R X A (clr p q (swp M w r) r c) S0 S1) 16 ?_ ?_ 16 0 zF S (by omega) (by rw [zF_eq]; omega) (h.cg (fun i _ k _ => (if_neg (by omega)).symm))
  · obtain ⟨x, h1, S1, rfl, h2⟩ := this
    exact ⟨S1, h1, h2⟩
  · rintro k S' hk y
    have l1 := h.lt (i := w) (by omega) hk
    have l2 := h.lt (i := r) (by omega) hk
    obtain ⟨S1, a1, a2⟩ := y.put (i := r) (v := M w k) (by omega) hk l1
    obtain ⟨S2, b1, b2⟩ := a2.put (i := w) (v := M r k) (by omega) hk l2
    rw [swk_step2] at b2
    refine ⟨S2, ?_, by split at b2 <;> exact b2⟩
    unfold fX6_rank_B68
    simp only []
    rw [if_neg (by rw [cl_16, ci_le (by omega) (by omega)]; omega), zgR_ob y.ob rfl, Option.bind_some, y.rd (by omega) hk, Option.bind_some, Option.bind_some, Option.bind_some, y.rd (by omega) hk, Option.bind_some, swk_at, swk_at, a1, Option.bind_some, zgR_ob a2.ob rfl, Option.bind_some, b1, Option.bind_some, cl_1, ci_add]
  · rintro S' y
    have y1 : mMx m p R X A (swp M w r) S0 S' := y.cg (fun i _ k hk => if_pos hk)
    obtain ⟨S1, a1, a2⟩ := m_clr1 y1 hq hr hc
    refine ⟨.inl (ci (r + 1), ci (c + 1), S1), ?_, S1, rfl, a2⟩
    unfold fX6_rank_B68
    simp only []
    rw [if_pos (by rw [cl_16, ci_le (by omega) (by omega)]; omega), zgR_ob y.ob rfl, Option.bind_some, y1.rd (by omega) hc, Option.bind_some, zcl_ob y.ob, m_inverse y1 (y1.lt (by omega) hc), Option.bind_some, cl_1, ci_add, a1, zex_some]
theorem m_col {m p q r c : Nat} {R : Nat → Nat} {X : Nat → Int32} {A : Nat → Nat → Int32} {M : Nat → Nat → Nat} {S0 S : ZS} (h : mMx m p R X A M S0 S) (hq : q ≤ 4) (hr : r < q) (hc : c < 16) : ∃ S1, fX6_rank_B4 m (ci q) (ci r, ci c, S) = some (.inl (ci (stM1 p q c (r, M)).1, ci (c + 1), S1)) ∧ mMx m p R X A (stM1 p q c (r, M)).2 S0 S1 := by
  have hpb := h.pr.2.b
  have hb := pv_b (M := M) (c := c) (q - r) r
  have hend : ∃ S1, fX6_rank_B23 m (ci q) (ci r) (ci c) S (if pv M c (q - r) r < q then ci (pv M c (q - r) r) else (-1 : Int32), ci r - 1) = some (.inr (.inl (ci (stM1 p q c (r, M)).1, ci (c + 1), S1))) ∧ mMx m p R X A (stM1 p q c (r, M)).2 S0 S1 := by
    have hlt : (ci r - (1 : Int32)) < ci r := by
      by_cases h0 : r = 0
      · rw [h0]; decide
      · rw [cl_1, ci_sub (by omega), ci_lt (by omega) (by omega)]; omega
    unfold stM1 fX6_rank_B23 fX6_rank_J262
    simp only []
    rw [if_pos hlt]
    by_cases hf : pv M c (q - r) r < q
    · obtain ⟨S1, a1, a2⟩ := m_swap (w := pv M c (q - r) r) h hq hr hf hc
      refine ⟨S1, ?_, by rw [if_pos hf]; exact a2⟩
      rw [if_pos hf, if_neg (ci_m1ne (by omega)), cl_0, a1, if_pos hf, zex_some]
    · refine ⟨S, ?_, by rw [if_neg hf]; exact h⟩
      rw [if_neg hf, if_pos rfl, if_neg hf, cl_1, ci_add, zex_some]
  obtain ⟨S1, e1, e2⟩ := hend
  refine ⟨S1, ?_, e2⟩
  unfold fX6_rank_B4
  simp only []
  rw [if_neg (by rw [cl_16, ci_le (by omega) (by omega)]; omega), if_neg (by rw [ci_le (by omega) (by omega)]; omega)]
  have h0 : ((-1 : Int32), ci q - (1 : Int32)) = (if pv M c 0 (q - 0) < q then ci (pv M c 0 (q - 0)) else (-1 : Int32), ci (q - 0) - 1) := by
    rw [if_neg (show ¬ pv M c 0 (q - 0) < q from Nat.lt_irrefl q)]; rfl
  rw [h0]
  refine ziter_seq (fun j => (if pv M c j (q - j) < q then ci (pv M c j (q - j)) else (-1 : Int32), ci (q - j) - 1)) _ (q - r) zF (by rw [zF_eq]; omega) (fun j hj => ?_) (by
    show fX6_rank_B23 m (ci q) (ci r) (ci c) S (if pv M c (q - r) (q - (q - r)) < q then ci (pv M c (q - r) (q - (q - r))) else (-1 : Int32), ci (q - (q - r)) - 1) = _
    rw [show q - (q - r) = r by omega]
    exact e1)
  have hl := h.lt (i := q - (j + 1)) (by omega) hc
  have e : pv M c (j + 1) (q - (j + 1)) = if M (q - (j + 1)) c = 0 then pv M c j (q - j) else q - (j + 1) := by
    show (if M (q - (j + 1)) c = 0 then pv M c j (q - (j + 1) + 1) else q - (j + 1)) = _
    rw [show q - (j + 1) + 1 = q - j by omega]
  have e3 : ci (q - j) - (1 : Int32) = ci (q - (j + 1)) := by
    rw [cl_1, ci_sub (by omega)]
    rfl
  unfold fX6_rank_B23 fX6_rank_J51
  simp only []
  rw [e3, if_neg (by rw [ci_lt (by omega) (by omega)]; omega), zgR_ob h.ob rfl, Option.bind_some, h.rd (by omega) hc, Option.bind_some, addm1, e]
  by_cases h1 : M (q - (j + 1)) c = 0
  · rw [if_pos (by rw [h1]; rfl), if_pos h1]
  · rw [if_neg (by rw [cl_0, ci_eq (by omega) (by omega)]; exact h1), if_neg h1, if_pos (show q - (j + 1) < q by omega)]
theorem stM1_stay {p R c : Nat} {t : Nat × (Nat → Nat → Nat)} (h : t.1 = R) : stM1 p R c t = t := by
  unfold stM1
  rw [h, Nat.sub_self]
  exact if_neg (Nat.lt_irrefl R)
theorem rkM_stay {p R c : Nat} {M : Nat → Nat → Nat} (h : (rkM p R M c).1 = R) : ∀ n, rkM p R M (c + n) = rkM p R M c := by
  intro n
  induction n with
  | zero => rfl
  | succ n ih =>
    show stM1 p R (c + n) (rkM p R M (c + n)) = _
    rw [ih]
    exact stM1_stay h
theorem rkM_le {p R : Nat} {M : Nat → Nat → Nat} : ∀ c, (rkM p R M c).1 ≤ R := by
  intro c
  induction c with
  | zero => exact Nat.zero_le _
  | succ c ih =>
    show (stM1 p R c (rkM p R M c)).1 ≤ R
    have hb := pv_b (M := (rkM p R M c).2) (c := c) (R - (rkM p R M c).1) (rkM p R M c).1
    unfold stM1
    split
    · show (rkM p R M c).1 + 1 ≤ R
      omega
    · exact ih
theorem m_rank {m p q : Nat} {R : Nat → Nat} {X : Nat → Int32} {A : Nat → Nat → Int32} {M : Nat → Nat → Nat} {S0 S : ZS} (h : mMx m p R X A M S0 S) (hq : q ≤ 4) : ∃ S1 M', fX6_rank m (ci q) S = some (ci (rkM p q M 16).1, S1) ∧ mMx m p R X A M' S0 S1 := by
  have key : ∀ (n c N : Nat) (S' : ZS), c + n = 16 → n < N → mMx m p R X A (rkM p q M c).2 S0 S' → ∃ S1 M', ziter (fX6_rank_B4 m (ci q)) N (ci (rkM p q M c).1, ci c, S') = some (ci (rkM p q M 16).1, S1) ∧ mMx m p R X A M' S0 S1 := by
    intro n
    induction n with
    | zero =>
      intro c N S' hc hN y
      obtain ⟨N, rfl⟩ : ∃ M, N = M + 1 := ⟨N - 1, by omega⟩
      obtain rfl : c = 16 := by omega
      refine ⟨S', _, ?_, y⟩
      rw [ziter_0]
      unfold fX6_rank_B4 fX6_rank_J268
      simp only []
      rw [if_pos (by rw [cl_16, ci_le (by omega) (by omega)]; omega), zex_some]
    | succ n ih =>
      intro c N S' hc hN y
      obtain ⟨N, rfl⟩ : ∃ M, N = M + 1 := ⟨N - 1, by omega⟩
      have hle := rkM_le (p := p) (R := q) (M := M) c
      by_cases hr : (rkM p q M c).1 = q
      · have hs := rkM_stay hr (n + 1)
        rw [show c + (n + 1) = 16 by omega] at hs
        refine ⟨S', _, ?_, y⟩
        rw [ziter_0]
        unfold fX6_rank_B4 fX6_rank_J268
        simp only []
        rw [if_neg (by rw [cl_16, ci_le (by omega) (by omega)]; omega), if_pos (by rw [ci_le (by omega) (by omega)]; omega), zex_some, hs]
      · obtain ⟨S1, a1, a2⟩ := m_col (c := c) y hq (show (rkM p q M c).1 < q by omega) (by omega)
        rw [ziter_1 a1]
        exact ih (c + 1) N S1 (by omega) (by omega) a2
  unfold fX6_rank
  exact key 16 0 zF S (by omega) (by rw [zF_eq]; omega) h
theorem m_flat {S : ZS} {m i s p cc : Nat} {R : Nat → Nat} {X : Nat → Int32} {A : Nat → Nat → Int32} {c g : Nat → Nat} (h : zMo S m R X A) (hX : X 1 = ci p) (hp : isP p) (hi : i < 16) (y : mCu A i c g) (hz : szOK (c 0) (c 1) (c 2)) (hg : cOK p (c 0) (c 1) (c 2) g) (hs : s < 3) (hcc : cc ≤ 16) : ∃ S1 A1, fX6_flat m (ci i) (ci s) S = some (ci (rkF p (c 0) (c 1) (c 2) g s), S1) ∧ zMo S1 m R X A1 ∧ (∀ j, j ≠ 12 → A1 j = A j) ∧ zFrm S S1 (mP m R) := by
  have hb := sz3_b hz (s := s)
  have := ziter_for (body := fX6_flat_B2 m (ci i) (ci s)) (fun t S' => ∃ A', zMo S' m R X A' ∧ (∀ j, j ≠ 12 → A' j = A j) ∧ (∀ i', i' < t → ∀ k, k < 16 → A' 12 (16 * i' + k) = ci (g (px s i' k))) ∧ zFrm S S' (mP m R)) (fun x => ∃ S1 A1, x = (ci (rkF p (c 0) (c 1) (c 2) g s), S1) ∧ zMo S1 m R X A1 ∧ (∀ j, j ≠ 12 → A1 j = A j) ∧ zFrm S S1 (mP m R)) 4 ?_ ?_ 4 0 zF S (by omega) (by rw [zF_eq]; omega) ⟨A, h, fun _ _ => rfl, fun i' hi' => absurd hi' (Nat.not_lt_zero _), zFrm.rf⟩
  · obtain ⟨x, h1, S1, A1, rfl, h2⟩ := this
    exact ⟨S1, A1, h1, h2⟩
  · rintro t S' ht ⟨A', y1, y2, y3, y4⟩
    have := ziter_for (body := fX6_flat_B10 m (ci i) (ci s) (ci t)) (fun k S' => ∃ A', zMo S' m R X A' ∧ (∀ j, j ≠ 12 → A' j = A j) ∧ (∀ i' k', k' < 16 → (i' < t ∨ (i' = t ∧ k' < k)) → A' 12 (16 * i' + k') = ci (g (px s i' k'))) ∧ zFrm S S' (mP m R)) (fun x => ∃ S1, x = .inl (ci (t + 1), S1) ∧ ∃ A', zMo S1 m R X A' ∧ (∀ j, j ≠ 12 → A' j = A j) ∧ (∀ i', i' < t + 1 → ∀ k, k < 16 → A' 12 (16 * i' + k) = ci (g (px s i' k))) ∧ zFrm S S1 (mP m R)) 16 ?_ ?_ 16 0 zF S' (by omega) (by rw [zF_eq]; omega) ⟨A', y1, y2, fun i' k' hk' hh => y3 i' (by omega) k' hk', y4⟩
    · obtain ⟨x, h1, S1, rfl, h2⟩ := this
      refine ⟨S1, ?_, h2⟩
      unfold fX6_flat_B2
      simp only []
      rw [if_neg (by rw [cl_4, ci_le (by omega) (by omega)]; omega), cl_0]
      exact h1
    · rintro k S'' hk ⟨A'', z1, z2, z3, z4⟩
      have tt := z1.set A12i (va_up (A'' 12) (16 * t + k) (ci (g (px s t k))))
      have rd : zaI S'' (R 4) 0 ((64 : Int32) * ci i + ci (px s t k)) = some (ci (g (px s t k))) := by
        rw [cl_64, ci_mul, ci_add, z1.rd A4i (by rw [N4]; have := px_lt (s := s) (x := t) ht hk; omega), z2 4 (by omega), y.2.1 _ (px_lt ht hk)]
      refine ⟨_, ?_, _, tt.1, fun j hj => (mS_ne hj).trans (z2 j hj), fun i' k' hk' hh => ?_, z4.tr (tt.2.wk (fun b hb => Or.inr (Or.inr ⟨12, A12i, hb⟩)))⟩
      · unfold fX6_flat_B10
        simp only []
        rw [if_neg (by rw [cl_16, ci_le (by omega) (by omega)]; omega), zgR_ob z1.1 rfl, Option.bind_some, zgR_ob z1.1 rfl, Option.bind_some, cl_4, ci_div (by omega) (by omega), ci_mod (by omega) (by omega), m_px hs (by omega), Option.bind_some, show 4 * (k / 4) + k % 4 = k by omega, rd, Option.bind_some, cl_16, ci_mul, ci_add, z1.wr A12i (by rw [N12]; omega), Option.bind_some, cl_1, ci_add]
      · rw [mS_self]
        unfold va_up
        by_cases hx : i' = t ∧ k' = k
        · rw [if_pos (by omega), hx.1, hx.2]
        · rw [if_neg (by omega)]; exact z3 i' k' hk' (by omega)
    · rintro S'' ⟨A'', z1, z2, z3, z4⟩
      refine ⟨.inl (ci (t + 1), S''), ?_, S'', rfl, A'', z1, z2, fun i' hi' k hk => z3 i' k hk (by omega), z4⟩
      unfold fX6_flat_B10
      simp only []
      rw [if_pos (by rw [cl_16, ci_le (by omega) (by omega)]; omega), cl_1, ci_add, zex_some]
  · rintro S' ⟨A', y1, y2, y3, y4⟩
    have mx : mMx m p R X A (fun i k => g (px s i k)) S S' := ⟨A', y1, hX, hp, y2, fun i' hi' k hk => ⟨y3 i' hi' k hk, hg.lt (px_lt hi' hk)⟩, y4⟩
    obtain ⟨S1, M', a1, A1, a2, _, _, a3, _, a4⟩ := m_rank (q := sz3 (c 0) (c 1) (c 2) s) mx hb.2
    refine ⟨(ci (rkF p (c 0) (c 1) (c 2) g s), S1), ?_, S1, A1, rfl, a2, a3, a4⟩
    have rd : zaI S' (R 3) 0 ((3 : Int32) * ci i + ci s) = some (ci (sz3 (c 0) (c 1) (c 2) s)) := by
      rw [cl_3, ci_mul, ci_add, y1.rd A3i (by rw [N3]; omega), y2 3 (by omega), y.1 s hs]
    unfold fX6_flat_B2
    simp only []
    rw [if_pos (by rw [cl_4, ci_le (by omega) (by omega)]; omega), zgR_ob y1.1 rfl, Option.bind_some, rd, Option.bind_some, y1.cl, a1, Option.bind_some, zex_some]
    rfl
