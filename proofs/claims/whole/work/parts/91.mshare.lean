/-! LAW CASE 20: shared pairs in the model -/
theorem sh_no {H : Nat → Nat → Bool} {E f g t e : Nat} (hf : f < g) (hg : g < E) (hb : (H f t && H g t) = false) : (decide (e < E + 1) && shH H E f g e t) = (decide (e < E) && H e t) := by
  unfold shH
  rw [hb]
  by_cases h1 : e = f
  · rw [if_pos h1, h1, decide_eq_true (show f < E + 1 by omega), decide_eq_true (show f < E by omega)]; cases H f t <;> rfl
  · rw [if_neg h1]
    by_cases h2 : e = g
    · rw [if_pos h2, h2, decide_eq_true (show g < E + 1 by omega), decide_eq_true (show g < E by omega)]; cases H g t <;> rfl
    · rw [if_neg h2]
      by_cases h3 : e = E
      · rw [if_pos h3, decide_eq_false (show ¬ e < E by omega), Bool.and_false]; rfl
      · rw [if_neg h3]
        by_cases h4 : e < E
        · rw [decide_eq_true h4, decide_eq_true (show e < E + 1 by omega)]
        · rw [decide_eq_false h4, decide_eq_false (show ¬ e < E + 1 by omega)]
theorem sh_yes {H : Nat → Nat → Bool} {E f g t e : Nat} (hf : f < g) (hg : g < E) (hb : (H f t && H g t) = true) : (decide (e < E + 1) && shH H E f g e t) = if e = E then true else if e = g then false else if e = f then false else (decide (e < E) && H e t) := by
  have hb' := hb
  rw [Bool.and_eq_true] at hb'
  unfold shH
  rw [hb]
  by_cases h1 : e = f
  · rw [if_pos h1, if_neg (show ¬ e = E by omega), if_neg (show ¬ e = g by omega), if_pos h1, hb'.1]; cases decide (e < E + 1) <;> rfl
  · rw [if_neg h1]
    by_cases h2 : e = g
    · rw [if_pos h2, if_neg (show ¬ e = E by omega), if_pos h2, hb'.2]; cases decide (e < E + 1) <;> rfl
    · rw [if_neg h2]
      by_cases h3 : e = E
      · rw [if_pos h3, if_pos h3, decide_eq_true (show e < E + 1 by omega)]; rfl
      · rw [if_neg h3, if_neg h3, if_neg h2, if_neg h1]
        by_cases h4 : e < E
        · rw [decide_eq_true h4, decide_eq_true (show e < E + 1 by omega)]
        · rw [decide_eq_false h4, decide_eq_false (show ¬ e < E + 1 by omega)]
def mMid (A' : Nat → Nat → Int32) (E ns f g T : Nat) (H : Nat → Nat → Bool) : Prop := ∀ u, u < ns → ∀ e, e < 128 → A' 16 (128 * u + e) = if u < T then bI (decide (e < E + 1) && shH H E f g e u) else bI (decide (e < E) && H e u)
def mShP (m E ns f g : Nat) (R : Nat → Nat) (X : Nat → Int32) (A : Nat → Nat → Int32) (H : Nat → Nat → Bool) (S0 : ZS) (T : Nat) (S : ZS) : Prop := ∃ A', zMo S m R X A' ∧ (∀ j, j ≠ 16 → A' j = A j) ∧ mMid A' E ns f g T H ∧ zFrm S0 S (mP m R)
theorem m_put16 {S : ZS} {m x : Nat} {R : Nat → Nat} {X : Nat → Int32} {A : Nat → Nat → Int32} (h : zMo S m R X A) (hx : x < 5120) (b : Bool) : ∃ S1 A1, zsI S (R 16) 2 (ci x) (znar (bI b)) = some S1 ∧ zMo S1 m R X A1 ∧ (∀ j, j ≠ 16 → A1 j = A j) ∧ (∀ z, A1 16 z = if z = x then bI b else A 16 z) ∧ zFrm S S1 (mP m R) := by
  have t := h.s16 (va_up (A 16) x (bI b))
  refine ⟨_, _, by rw [znar_b]; exact h.w16 hx _, t.1, fun j hj => mS_ne hj, fun z => ?_, t.2.wk (fun b hb => Or.inr (Or.inl hb))⟩
  rw [mS_self]
  rfl
theorem m_sh73 {S S0 : ZS} {m E ns f g : Nat} {R : Nat → Nat} {X : Nat → Int32} {A : Nat → Nat → Int32} {H : Nat → Nat → Bool} (hf : f < g) (hg : g < E) (hE : E < 128) (hns : ns ≤ 40) (hX : X 17 = ci ns ∧ X 18 = ci E) (h : mShP m E ns f g R X A H S0 0 S) : ∃ S1 A1, ziter (fX6_shares_B73 m (ci f) (ci g)) zF (ci 0, S) = some (1, S1) ∧ zMo S1 m R (mX X 18 (ci (E + 1))) A1 ∧ (∀ j, j ≠ 16 → A1 j = A j) ∧ mMid A1 E ns f g ns H ∧ zFrm S0 S1 (mP m R) := by
  have := ziter_for (body := fX6_shares_B73 m (ci f) (ci g)) (fun T S' => mShP m E ns f g R X A H S0 T S') (fun r => ∃ S1 A1, r = (1, S1) ∧ zMo S1 m R (mX X 18 (ci (E + 1))) A1 ∧ (∀ j, j ≠ 16 → A1 j = A j) ∧ mMid A1 E ns f g ns H ∧ zFrm S0 S1 (mP m R)) ns ?_ ?_ ns 0 zF S (by omega) (by rw [zF_eq]; omega) h
  · obtain ⟨r, h1, S1, A1, rfl, h2⟩ := this
    exact ⟨S1, A1, h1, h2⟩
  · rintro T S' hT ⟨A', y1, y2, y3, y4⟩
    have rf : zaI S' (R 16) 2 ((128 : Int32) * ci T + ci f) = some (bI (H f T)) := by
      rw [cl_128, ci_mul, ci_add, y1.r16 (by omega), y3 T hT f (by omega), if_neg (by omega), decide_eq_true (show f < E by omega), Bool.true_and]
    have rg : zaI S' (R 16) 2 ((128 : Int32) * ci T + ci g) = some (bI (H g T)) := by
      rw [cl_128, ci_mul, ci_add, y1.r16 (by omega), y3 T hT g (by omega), if_neg (by omega), decide_eq_true hg, Bool.true_and]
    have nos : (H f T && H g T) = false → mShP m E ns f g R X A H S0 (T + 1) S' := fun hb => ⟨A', y1, y2, fun u hu e he => by
      by_cases huT : u = T
      · rw [y3 u hu e he, if_neg (by omega), if_pos (by omega), huT, sh_no hf hg hb]
      · rw [y3 u hu e he]
        by_cases h2 : u < T
        · rw [if_pos h2, if_pos (by omega)]
        · rw [if_neg h2, if_neg (by omega)], y4⟩
    have e0 : fX6_shares_B73 m (ci f) (ci g) (ci T, S') = (if bI (H f T) = 0 then fX6_shares_J164 m (ci f) (ci g) (ci T) S' else (if bI (H g T) = 0 then fX6_shares_J164 m (ci f) (ci g) (ci T) S' else Option.bind (zsI S' (R 16) 2 (ci (128 * T + f)) (znar (bI false))) fun S10 => Option.bind (zgR S10 m 6 16) fun v11 => Option.bind (zsI S10 v11 2 (ci (128 * T + g)) (znar (bI false))) fun S12 => Option.bind (zgR S12 m 6 16) fun v13 => Option.bind (zgI S12 m 6 18) fun v14 => Option.bind (zsI S12 v13 2 (ci (128 * T) + v14) (znar (bI true))) fun S15 => fX6_shares_J164 m (ci f) (ci g) (ci T) S15)) := by
      unfold fX6_shares_B73
      simp only []
      rw [zgI_ob y1.1 rfl, Option.bind_some, hX.1, if_neg (by rw [ci_le (by omega) (by omega)]; omega), if_neg (ci_m1ne (by omega)), zgR_ob y1.1 rfl, Option.bind_some, rf, Option.bind_some, Option.bind_some, rg, Option.bind_some, Option.bind_some, cl_128, ci_mul, ci_add, ci_add]
      rfl
    cases h1 : H f T with
    | false =>
      refine ⟨S', ?_, nos (by rw [h1]; rfl)⟩
      rw [e0, h1, if_pos bI_f]
      unfold fX6_shares_J164
      rw [cl_1, ci_add]
    | true =>
      cases h2 : H g T with
      | false =>
        refine ⟨S', ?_, nos (by rw [h1, h2]; rfl)⟩
        rw [e0, h1, if_neg (show ¬ bI true = 0 by decide), h2, if_pos bI_f]
        unfold fX6_shares_J164
        rw [cl_1, ci_add]
      | true =>
        obtain ⟨S1, A1, a1, a2, a3, a4, a5⟩ := m_put16 (x := 128 * T + f) y1 (by omega) false
        obtain ⟨S2, A2, b1, b2, b3, b4, b5⟩ := m_put16 (x := 128 * T + g) a2 (by omega) false
        obtain ⟨S3, A3, c1, c2, c3, c4, c5⟩ := m_put16 (x := 128 * T + E) b2 (by omega) true
        refine ⟨S3, ?_, A3, c2, fun j hj => (c3 j hj).trans ((b3 j hj).trans ((a3 j hj).trans (y2 j hj))), fun u hu e he => ?_, ((y4.tr a5).tr b5).tr c5⟩
        · rw [e0, h1, if_neg (show ¬ bI true = 0 by decide), h2, if_neg (show ¬ bI true = 0 by decide), a1, Option.bind_some, zgR_ob a2.1 rfl, Option.bind_some, b1, Option.bind_some, zgR_ob b2.1 rfl, Option.bind_some, zgI_ob b2.1 rfl, Option.bind_some, hX.2, ci_add, c1, Option.bind_some]
          unfold fX6_shares_J164
          rw [cl_1, ci_add]
        · rw [c4, b4, a4, y3 u hu e he]
          by_cases huT : u = T
          · subst huT
            rw [if_neg (show ¬ u < u by omega), if_pos (show u < u + 1 by omega), sh_yes hf hg (by rw [h1, h2]; rfl)]
            by_cases q1 : e = E
            · rw [if_pos (by omega), if_pos q1]
            · rw [if_neg (by omega), if_neg q1]
              by_cases q2 : e = g
              · rw [if_pos (by omega), if_pos q2]
              · rw [if_neg (by omega), if_neg q2]
                by_cases q3 : e = f
                · rw [if_pos (by omega), if_pos q3]
                · rw [if_neg (by omega), if_neg q3]
          · rw [if_neg (by omega), if_neg (by omega), if_neg (by omega)]
            by_cases h3 : u < T
            · rw [if_pos h3, if_pos (by omega)]
            · rw [if_neg h3, if_neg (by omega)]
  · rintro S' ⟨A', y1, y2, y3, y4⟩
    have t := y1.sx (X' := mX X 18 (ci (E + 1)))
    refine ⟨(1, _), ?_, _, A', rfl, t.1, y2, y3, y4.tr (t.2.wk (fun _ => Or.inl))⟩
    unfold fX6_shares_B73 fX6_shares_J170 fX6_shares_J185
    simp only []
    rw [zgI_ob y1.1 rfl, Option.bind_some, hX.1, if_pos (by rw [ci_le (by omega) (by omega)]; omega), zgI_ob y1.1 rfl, Option.bind_some, hX.2, if_neg (ci_m1ne (show f < 2147483648 by omega)), show ci E + (1 : Int32) = ci (E + 1) by rw [cl_1, ci_add], zpF_ob _ y1.1 (show 18 < (mF R X).length by unfold mF; simp), Option.bind_some, if_neg (ci_m1ne (show f < 2147483648 by omega))]
    rfl
theorem m_sh0 {S : ZS} {m E ns : Nat} {R : Nat → Nat} {X : Nat → Int32} {A : Nat → Nat → Int32} {H : Nat → Nat → Bool} {z : Int32} (h : zMo S m R X A) (y : mSm X A E ns H) : ∃ S1, ziter (fX6_shares_B73 m (-1 : Int32) z) zF (ci 0, S) = some (0, S1) ∧ zMo S1 m R (mX X 18 (ci E)) A ∧ zFrm S S1 (mP m R) := by
  have t := h.sx (X' := mX X 18 (ci E))
  have j : fX6_shares_J170 m (-1 : Int32) S = some (0, zwO S m 6 (mF R (mX X 18 (ci E)))) := by
    unfold fX6_shares_J170 fX6_shares_J185
    rw [zgI_ob h.1 rfl, Option.bind_some, y.2.1, if_pos rfl, cl_0, ci_add, zpF_ob _ h.1 (show 18 < (mF R X).length by unfold mF; simp), Option.bind_some, if_pos rfl]
    rfl
  refine ⟨_, ?_, t.1, t.2.wk (fun _ => Or.inl)⟩
  rw [zF_s]
  refine ziter_x ?_
  unfold fX6_shares_B73
  simp only []
  rw [zgI_ob h.1 rfl, Option.bind_some, y.1]
  by_cases h0 : ci ns ≤ ci 0
  · rw [if_pos h0, j]
  · rw [if_neg h0, if_pos trivial, j]
theorem m_shares {S : ZS} {m E ns : Nat} {R : Nat → Nat} {X : Nat → Int32} {A : Nat → Nat → Int32} {H : Nat → Nat → Bool} (h : zMo S m R X A) (y : mSm X A E ns H) (hE : E < 128) : ∃ S1 X1 A1, fX6_shares m S = some (bI (decide (1 < (bst ns H E).1)), S1) ∧ zMo S1 m R X1 A1 ∧ mT6 X X1 A A1 ∧ (if 1 < (bst ns H E).1 then mSm X1 A1 (E + 1) ns (shH H E (bst ns H E).2.1 (bst ns H E).2.2) else mSm X1 A1 E ns H) ∧ zFrm S S1 (mP m R) := by
  have hns := y.2.2.1
  have hb := bst_gd (ns := ns) (E := E) (H := H)
  have hend : ∃ S1 X1 A1, fX6_shares_B9 m S (ci (bst ns H E).1, tF (bst ns H E), tG (bst ns H E), ci E) = some (.inr (bI (decide (1 < (bst ns H E).1)), S1)) ∧ zMo S1 m R X1 A1 ∧ mT6 X X1 A A1 ∧ (if 1 < (bst ns H E).1 then mSm X1 A1 (E + 1) ns (shH H E (bst ns H E).2.1 (bst ns H E).2.2) else mSm X1 A1 E ns H) ∧ zFrm S S1 (mP m R) := by
    unfold fX6_shares_B9
    simp only []
    by_cases hl : 1 < (bst ns H E).1
    · obtain ⟨h1, h2, h3⟩ := hb.2.2.2.2 hl
      obtain ⟨S1, A1, f1, f2, f3, f4, f5⟩ := m_sh73 (S := S) (S0 := S) (A := A) (H := H) h1 h2 hE hns ⟨y.1, y.2.1⟩ ⟨A, h, fun _ _ => rfl, fun u hu e he => by rw [if_neg (by omega)]; exact y.2.2.2.2 u hu e he, zFrm.rf⟩
      refine ⟨S1, _, A1, ?_, f2, ⟨fun i a b => if_neg b, f3⟩, ?_, f5⟩
      · rw [zgI_ob h.1 rfl, Option.bind_some, y.2.1, if_pos (by rw [ci_le (by omega) (by omega)]; omega), tF_some hl, tG_some hl, cl_0, f1, zex_some, decide_eq_true hl]
        rfl
      · rw [if_pos hl]
        exact ⟨y.1, rfl, hns, by omega, fun t ht e he => by rw [f4 t ht e he, if_pos ht]⟩
    · obtain ⟨S1, f1, f2, f3⟩ := m_sh0 (z := tG (bst ns H E)) h y
      refine ⟨S1, _, A, ?_, f2, ⟨fun i a b => if_neg b, fun _ _ => rfl⟩, ?_, f3⟩
      · rw [zgI_ob h.1 rfl, Option.bind_some, y.2.1, if_pos (by rw [ci_le (by omega) (by omega)]; omega), tF_none hl, cl_0, f1, zex_some, decide_eq_false hl]
        rfl
      · rw [if_neg hl]
        exact ⟨y.1, rfl, hns, by omega, y.2.2.2.2⟩
  obtain ⟨S1, X1, A1, e1, e2, e3, e4, e5⟩ := hend
  refine ⟨S1, X1, A1, ?_, e2, e3, e4, e5⟩
  unfold fX6_shares
  refine ziter_seq (fun i => (ci (out ns H E i).1, tF (out ns H E i), tG (out ns H E i), ci i)) _ E zF (by rw [zF_eq]; omega) (fun i hi => ?_) e1
  have hc := m_inn h y hi (out_gd i (by omega))
  unfold fX6_shares_B9
  simp only []
  rw [zgI_ob h.1 rfl, Option.bind_some, y.2.1, if_neg (by rw [ci_le (by omega) (by omega)]; omega), cl_1, ci_add]
  exact hc
