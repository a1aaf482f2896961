/-! THE CLASS'S WAYS: the walk -/
def draw (x : Nat) : Nat := (x * 25173 + 13849) % 65536
theorem draw_lt (x : Nat) : draw x < 65536 := Nat.mod_lt _ (by omega)
theorem g_draw {x : Nat} (h : x < 65536) : fX4_draw (ci x) = some (ci (draw x)) := by
  unfold fX4_draw
  rw [cl_25173, cl_13849, cl_65536, ci_mul, ci_add, g_rem (by omega) (by omega) (by omega)]
  rfl
theorem red1_none {p a b d k : Nat} {v : Nat → Nat → Nat → Nat} : red1 p a b d k v = none ↔ (∀ q, q < k → hz a b d v q = false) ∧ (∀ q r, q < r → r < k → th a b d v q r = 3) := by
  have hle : fz a b d k v ≤ k := lf_le _ _
  have hle2 : fj a b d k v ≤ k := lf_le _ _
  have hler : ∀ q, fr a b d k v q ≤ k := fun q => lf_le _ _
  constructor
  · intro h
    unfold red1 at h
    by_cases h1 : fz a b d k v < k
    · rw [if_pos h1] at h; cases h
    · rw [if_neg h1] at h
      by_cases h2 : fj a b d k v < k
      · rw [if_pos h2] at h; cases h
      · refine ⟨fun q hq => lf_no (P := fun q => hz a b d v q) (n := k) (show q < fz a b d k v by omega), fun q r hqr hr => ?_⟩
        have h3 := lf_no (P := fun q => decide (fr a b d k v q < k)) (n := k) (show q < fj a b d k v by omega)
        have h4 : ¬ fr a b d k v q < k := of_decide_eq_false h3
        have h5 := lf_no (P := fun r => decide (q < r) && decide (th a b d v q r ≠ 3)) (n := k) (show r < fr a b d k v q by have := hler q; omega)
        simp only [decide_eq_true hqr, Bool.true_and, decide_eq_false_iff_not, Decidable.not_not] at h5
        exact h5
  · rintro ⟨h1, h2⟩
    unfold red1
    have e1 : fz a b d k v = k := lf_eq (Nat.le_refl _) (fun j hj => h1 j hj) (fun h => absurd h (by omega))
    have e2 : fj a b d k v = k := by
      refine lf_eq (Nat.le_refl _) (fun j hj => ?_) (fun h => absurd h (by omega))
      have : fr a b d k v j = k := by
        refine lf_eq (Nat.le_refl _) (fun r hr => ?_) (fun h => absurd h (by omega))
        by_cases hjr : j < r
        · simp [h2 j r hjr hr]
        · simp [hjr]
      rw [this]; simp
    rw [e1, e2, if_neg (by omega), if_neg (by omega)]
theorem red_none {p a b d k : Nat} {v : Nat → Nat → Nat → Nat} (h : red1 p a b d k v = none) : red p a b d k v = (k, v) := by
  cases k with
  | zero => rfl
  | succ k => rw [red, h]
theorem red_fin (p a b d : Nat) : ∀ (k : Nat) (v : Nat → Nat → Nat → Nat), red1 p a b d (red p a b d k v).1 (red p a b d k v).2 = none := by
  intro k
  induction k with
  | zero => intro v; rw [red1_none]; exact ⟨fun q hq => absurd hq (Nat.not_lt_zero _), fun q r _ hr => absurd hr (Nat.not_lt_zero _)⟩
  | succ k ih =>
    intro v
    cases h : red1 p a b d (k + 1) v with
    | none => rw [red_none h]; exact h
    | some v' => rw [red, h]; exact ih v'
def rdx (a b d k : Nat) (v : Nat → Nat → Nat → Nat) (q : Nat) : Bool := hz a b d v q || decide (lf (fun r => decide (r ≠ q) && decide (th a b d v q r ≠ 3)) k < k)
theorem g_isReducible {S : ZS} {w c n t p a b d sq k q : Nat} {g : Nat → Nat} {v : Nat → Nat → Nat → Nat} (h : zWy S w c n t p a b d sq k g v) (hq : q < k) : fX4_isReducible w (ci q) S = some (bI (rdx a b d k v q)) := by
  have hk := h.kk
  have hle : lf (fun r => decide (r ≠ q) && decide (th a b d v q r ≠ 3)) k ≤ k := lf_le _ _
  unfold fX4_isReducible
  rw [zcl_ob h.wa, g_hasZeros h hq]
  simp only [Option.bind_some, Option.bind_none]
  unfold rdx
  cases hz0 : hz a b d v q with
  | true => rw [if_neg (by rw [bI_0]; intro hh; cases hh)]; rfl
  | false =>
    rw [if_pos ((bI_0 _).mpr rfl), cl_0, Bool.false_or]
    have stp : ∀ j, 0 ≤ j → j < lf (fun r => decide (r ≠ q) && decide (th a b d v q r ≠ 3)) k → fX4_isReducible_B12 w (ci q) S (ci j) = some (.inl (ci (j + 1))) := by
      intro j _ hj
      have h9 := lf_no hj
      unfold fX4_isReducible_B12
      rw [zgI_ob h.wa rfl]
      simp only [Option.bind_some, Option.bind_none]
      rw [if_neg (by rw [ci_le (by omega) (by omega)]; omega)]
      unfold fX4_isReducible_J37
      by_cases hjq : j = q
      · rw [if_pos (by rw [hjq]), cl_1, ci_add]
      · have h8 : th a b d v q j = 3 := by
          simp only [decide_eq_true (show j ≠ q from hjq), Bool.true_and, decide_eq_false_iff_not, Decidable.not_not] at h9
          exact h9
        rw [if_neg (by rw [ci_eq (by omega) (by omega)]; exact hjq), zcl_ob h.wa, g_sideToJoin h hq (by omega)]
        simp only [Option.bind_some, Option.bind_none]
        rw [if_pos ((tI_3 (th_le _ _ _ _ _ _)).mpr h8), cl_1, ci_add]
    by_cases hlt : lf (fun r => decide (r ≠ q) && decide (th a b d v q r ≠ 3)) k < k
    · have hy := lf_yes hlt
      rw [decide_eq_true hlt]
      refine ziter_up 0 _ (by omega) (by rw [zF_eq]; omega) stp ?_
      rw [Bool.and_eq_true, decide_eq_true_eq, decide_eq_true_eq] at hy
      unfold fX4_isReducible_B12
      rw [zgI_ob h.wa rfl]
      simp only [Option.bind_some, Option.bind_none]
      rw [if_neg (by rw [ci_le (by omega) (by omega)]; omega), if_neg (by rw [ci_eq (by omega) (by omega)]; exact hy.1), zcl_ob h.wa, g_sideToJoin h hq (by omega)]
      simp only [Option.bind_some, Option.bind_none]
      rw [if_neg (by rw [tI_3 (th_le _ _ _ _ _ _)]; exact hy.2)]
      rfl
    · rw [decide_eq_false hlt]
      refine ziter_up 0 _ (by omega) (by rw [zF_eq]; omega) stp ?_
      unfold fX4_isReducible_B12
      rw [zgI_ob h.wa rfl]
      simp only [Option.bind_some, Option.bind_none]
      rw [if_pos (by rw [ci_le (by omega) (by omega)]; omega)]
      rfl
theorem rdx_no {a b d k q : Nat} {v : Nat → Nat → Nat → Nat} (h : rdx a b d k v q = false) : hz a b d v q = false ∧ ∀ r, r < k → r ≠ q → th a b d v q r = 3 := by
  unfold rdx at h
  rw [Bool.or_eq_false_iff, decide_eq_false_iff_not] at h
  refine ⟨h.1, fun r hr hrq => ?_⟩
  have hle : lf (fun r => decide (r ≠ q) && decide (th a b d v q r ≠ 3)) k ≤ k := lf_le _ _
  have := lf_no (P := fun r => decide (r ≠ q) && decide (th a b d v q r ≠ 3)) (n := k) (j := r) (by have := h.2; omega)
  simp only [decide_eq_true (show r ≠ q from hrq), Bool.true_and, decide_eq_false_iff_not, Decidable.not_not] at this
  exact this
theorem al_comm (a b d : Nat) (v : Nat → Nat → Nat → Nat) (q r s : Nat) : al a b d v q r s = al a b d v r q s := by
  unfold al
  congr 1
  exact propext ⟨fun h j hj => (h j hj).symm, fun h j hj => (h j hj).symm⟩
theorem th_comm (a b d : Nat) (v : Nat → Nat → Nat → Nat) (q r : Nat) : th a b d v q r = th a b d v r q := by
  unfold th
  rw [al_comm a b d v q r 0, al_comm a b d v q r 1, al_comm a b d v q r 2]
theorem al_row {a b d : Nat} {v v' : Nat → Nat → Nat → Nat} {q r s : Nat} (h1 : v' q = v q) (h2 : v' r = v r) : al a b d v' q r s = al a b d v q r s := by
  unfold al; rw [h1, h2]
theorem th_row {a b d : Nat} {v v' : Nat → Nat → Nat → Nat} {q r : Nat} (h1 : v' q = v q) (h2 : v' r = v r) : th a b d v' q r = th a b d v q r := by
  unfold th; rw [al_row h1 h2, al_row h1 h2, al_row h1 h2]
theorem hz_row {a b d : Nat} {v v' : Nat → Nat → Nat → Nat} {q : Nat} (h1 : v' q = v q) : hz a b d v' q = hz a b d v q := by
  unfold hz zv; rw [h1]
theorem vadd_row {p : Nat} {v : Nat → Nat → Nat → Nat} {q r s t x : Nat} (h : x ≠ q) : vadd p v q r s t x = v x := by
  unfold vadd
  funext s'
  exact vset_ne (fun hh => h hh.1)
theorem vturn_row {p : Nat} {v : Nat → Nat → Nat → Nat} {q r s x : Nat} (h1 : x ≠ q) (h2 : x ≠ r) : vturn p v q r s x = v x := by
  unfold vturn
  rw [vadd_row h2, vadd_row h1]
theorem red1_keep {p a b d k i j s : Nat} {v : Nat → Nat → Nat → Nat} (h : red1 p a b d k v = none) (h1 : rdx a b d k (vturn p v i j s) i = false) (h2 : rdx a b d k (vturn p v i j s) j = false) : red1 p a b d k (vturn p v i j s) = none := by
  rw [red1_none] at h ⊢
  have r1 := rdx_no h1
  have r2 := rdx_no h2
  constructor
  · intro q hq
    by_cases hi : q = i
    · subst hi; exact r1.1
    · by_cases hj : q = j
      · subst hj; exact r2.1
      · rw [hz_row (vturn_row hi hj)]; exact h.1 q hq
  · intro q r hqr hr
    by_cases hi : q = i
    · subst hi; exact r1.2 r hr (by omega)
    · by_cases hj : q = j
      · subst hj; exact r2.2 r hr (by omega)
      · by_cases hi' : r = i
        · subst hi'; rw [th_comm]; exact r1.2 q (by omega) (by omega)
        · by_cases hj' : r = j
          · subst hj'; rw [th_comm]; exact r2.2 q (by omega) (by omega)
          · rw [th_row (vturn_row hi hj) (vturn_row hi' hj')]; exact h.2 q r hqr hr
def wfl (p a b d k : Nat) (v : Nat → Nat → Nat → Nat) (x : Nat) : Nat → Nat → Nat → Nat :=
  if draw x % k ≠ draw (draw x) % k ∧ al a b d v (draw x % k) (draw (draw x) % k) (draw (draw (draw x)) % 3) = true then vturn p v (draw x % k) (draw (draw x) % k) (draw (draw (draw x)) % 3) else v
def wlk (p a b d : Nat) : Nat → Nat → Nat → (Nat → Nat → Nat → Nat) → Nat × Nat × (Nat → Nat → Nat → Nat)
  | 0, x, k, v => (x, k, v)
  | n + 1, x, k, v => if k = 0 then (x, k, v) else wlk p a b d n (draw (draw (draw x))) (red p a b d k (wfl p a b d k v x)).1 (red p a b d k (wfl p a b d k v x)).2
theorem wlk_s0 {p a b d i x k : Nat} {v : Nat → Nat → Nat → Nat} (h : k = 0) : wlk p a b d (i + 1) x k v = (x, k, v) := by
  unfold wlk; exact if_pos h
theorem wlk_s {p a b d i x k : Nat} {v : Nat → Nat → Nat → Nat} (h : ¬ k = 0) : wlk p a b d (i + 1) x k v = wlk p a b d i (draw (draw (draw x))) (red p a b d k (wfl p a b d k v x)).1 (red p a b d k (wfl p a b d k v x)).2 := if_neg h
theorem ci_le0 {k : Nat} (h : k < 2147483648) : ci k ≤ 0 ↔ k = 0 := by
  rw [cl_0, ci_le h (by omega)]; omega
theorem bI_f : bI false = 0 := rfl
theorem bI_t : bI true = 1 := rfl
theorem wlk_0 {p a b d x k : Nat} {v : Nat → Nat → Nat → Nat} : wlk p a b d 0 x k v = (x, k, v) := by rw [wlk]
theorem wander_loop {w c n t p a b d sq L : Nat} {g : Nat → Nat} (hL : L ≤ 200) : ∀ (i x k : Nat) (v : Nat → Nat → Nat → Nat) (fl : Bool) (S : ZS) (N : Nat), i < N → i ≤ L → x < 65536 → (fl = true → red1 p a b d k v = none) → zWy S w c n t p a b d sq k g v → ∃ S1, ziter (fX4_wander_B8 w (ci L)) N (ci x, bI fl, ci (L - i), S) = some (ci (wlk p a b d i x k v).1, S1) ∧ zWy S1 w c n t p a b d sq (wlk p a b d i x k v).2.1 g (wlk p a b d i x k v).2.2 ∧ zFrm S S1 (fun b => b = w ∨ b = t) := by
  intro i
  induction i with
  | zero =>
    intro x k v fl S N hN _ hx hfl h
    obtain ⟨N', rfl⟩ : ∃ N', N = N' + 1 := ⟨N - 1, by omega⟩
    rw [wlk_0]
    refine ⟨S, ziter_0 ?_, h, zFrm.rf⟩
    unfold fX4_wander_B8 fX4_wander_J142
    simp only []
    rw [if_pos (by rw [ci_le (by omega) (by omega)]; omega), zex_some]
  | succ i ih =>
    intro x k v fl S N hN hiL hx hfl h
    have hk := h.kk
    obtain ⟨N', rfl⟩ : ∃ N', N = N' + 1 := ⟨N - 1, by omega⟩
    by_cases hk0 : k = 0
    · rw [wlk_s0 hk0]
      refine ⟨S, ziter_0 ?_, h, zFrm.rf⟩
      unfold fX4_wander_B8 fX4_wander_J142
      simp only []
      rw [if_neg (by rw [ci_le (by omega) (by omega)]; omega), zgI_ob h.wa rfl, Option.bind_some]
      rw [if_pos ((ci_le0 (by omega)).mpr hk0), zex_some]
    · rw [wlk_s hk0]
      have d1 := draw_lt x
      have d2 := draw_lt (draw x)
      have d3 := draw_lt (draw (draw x))
      have m1 : draw x % k < k := Nat.mod_lt _ (by omega)
      have m2 : draw (draw x) % k < k := Nat.mod_lt _ (by omega)
      have m3 : draw (draw (draw x)) % 3 < 3 := Nat.mod_lt _ (by omega)
      -- what the step does from a state whose flip is done
      have fin : ∀ (v' : Nat → Nat → Nat → Nat) (fl' : Bool) (S' : ZS), v' = wfl p a b d k v x → (fl' = true → red1 p a b d k v' = none) → zWy S' w c n t p a b d sq k g v' → zFrm S S' (fun b => b = w ∨ b = t) → ∀ o, o = fX4_wander_J123 w (ci L) (ci (draw (draw (draw x)))) (bI fl') (ci (L - (i + 1))) S' → ∃ S1 fl1, o = some (.inl (ci (draw (draw (draw x))), bI fl1, ci (L - i), S1)) ∧ (fl1 = true → red1 p a b d (red p a b d k (wfl p a b d k v x)).1 (red p a b d k (wfl p a b d k v x)).2 = none) ∧ zWy S1 w c n t p a b d sq (red p a b d k (wfl p a b d k v x)).1 g (red p a b d k (wfl p a b d k v x)).2 ∧ zFrm S S1 (fun b => b = w ∨ b = t) := by
        intro v' fl' S' hv' hfl' h' hf' o ho
        subst ho
        unfold fX4_wander_J123 fX4_wander_J136
        cases fl' with
        | false =>
          rw [if_pos bI_f, zcl_ob h'.wa]
          obtain ⟨S1, s1, s2, s3⟩ := g_shrink h'
          refine ⟨S1, true, ?_, fun _ => red_fin _ _ _ _ _ _, ?_, hf'.tr s3⟩
          · rw [s1]
            simp only [Option.bind_some, Option.bind_none]
            rw [cl_1, ci_add, show L - (i + 1) + 1 = L - i by omega, bI_t, cl_1]
          · rw [← hv']; exact s2
        | true =>
          rw [if_neg (by rw [bI_t]; decide)]
          have hr := red_none (hfl' rfl)
          rw [← hv', hr]
          refine ⟨S', true, ?_, fun _ => hfl' rfl, h', hf'⟩
          rw [cl_1, ci_add, show L - (i + 1) + 1 = L - i by omega]
      have step : ∃ S1 fl1, fX4_wander_B8 w (ci L) (ci x, bI fl, ci (L - (i + 1)), S) = some (.inl (ci (draw (draw (draw x))), bI fl1, ci (L - i), S1)) ∧ (fl1 = true → red1 p a b d (red p a b d k (wfl p a b d k v x)).1 (red p a b d k (wfl p a b d k v x)).2 = none) ∧ zWy S1 w c n t p a b d sq (red p a b d k (wfl p a b d k v x)).1 g (red p a b d k (wfl p a b d k v x)).2 ∧ zFrm S S1 (fun b => b = w ∨ b = t) := by
        unfold fX4_wander_B8
        simp only []
        rw [if_neg (by rw [ci_le (by omega) (by omega)]; omega), zgI_ob h.wa rfl, Option.bind_some]
        rw [if_neg (by rw [ci_le0 (by omega)]; exact hk0), g_draw hx, Option.bind_some, Option.bind_some]
        rw [g_rem (by omega) (by omega) (by omega), Option.bind_some, g_draw d1, Option.bind_some, Option.bind_some]
        rw [g_rem (by omega) (by omega) (by omega), Option.bind_some, g_draw d2, Option.bind_some, cl_3]
        rw [g_rem (by omega) (by omega) (by omega), Option.bind_some]
        by_cases e1 : draw x % k = draw (draw x) % k
        · rw [if_pos (by rw [e1])]
          exact fin v fl S (by unfold wfl; rw [if_neg (fun hh => hh.1 e1)]) hfl h zFrm.rf _ rfl
        · rw [if_neg (by rw [ci_eq (by omega) (by omega)]; exact e1), zcl_ob h.wa, g_isSame h m1 m2 m3]
          rw [Option.bind_some]
          cases e2 : al a b d v (draw x % k) (draw (draw x) % k) (draw (draw (draw x)) % 3) with
          | false =>
            rw [if_pos (by rw [bI_0])]
            exact fin v fl S (by unfold wfl; rw [if_neg (fun hh => by rw [e2] at hh; cases hh.2)]) hfl h zFrm.rf _ rfl
          | true =>
            rw [if_neg (by rw [bI_0]; intro hh; cases hh), zcl_ob h.wa]
            obtain ⟨S1, f1, f2, f3⟩ := g_turn h m1 m2 m3
            rw [f1]
            rw [Option.bind_some]
            have hv' : vturn p v (draw x % k) (draw (draw x) % k) (draw (draw (draw x)) % 3) = wfl p a b d k v x := by
              unfold wfl; rw [if_pos ⟨e1, e2⟩]
            have f3' := f3.wk (Q := fun b => b = w ∨ b = t) (fun _ => Or.inr)
            cases fl with
            | false =>
              rw [if_pos (by rw [bI_0])]
              exact fin _ false S1 hv' (fun hh => by cases hh) f2 f3' _ (by unfold fX4_wander_J120 fX4_wander_J121; rw [bI_f])
            | true =>
              rw [if_neg (by rw [bI_0]; intro hh; cases hh), zcl_ob f2.wa, g_isReducible f2 m1]
              rw [Option.bind_some]
              cases e3 : rdx a b d k (vturn p v (draw x % k) (draw (draw x) % k) (draw (draw (draw x)) % 3)) (draw x % k) with
              | true =>
                rw [if_neg (by rw [bI_0]; intro hh; cases hh)]
                exact fin _ false S1 hv' (fun hh => by cases hh) f2 f3' _ (by unfold fX4_wander_J120 fX4_wander_J121; rw [bI_f])
              | false =>
                rw [if_pos (by rw [bI_0]), zcl_ob f2.wa, g_isReducible f2 m2]
                rw [Option.bind_some]
                cases e4 : rdx a b d k (vturn p v (draw x % k) (draw (draw x) % k) (draw (draw (draw x)) % 3)) (draw (draw x) % k) with
                | true =>
                  rw [if_neg (by rw [bI_0]; intro hh; cases hh)]
                  exact fin _ false S1 hv' (fun hh => by cases hh) f2 f3' _ (by unfold fX4_wander_J120 fX4_wander_J121; rw [bI_f])
                | false =>
                  rw [if_pos (by rw [bI_0])]
                  exact fin _ true S1 hv' (fun _ => red1_keep (hfl rfl) e3 e4) f2 f3' _ (by unfold fX4_wander_J121; rw [bI_t])
      obtain ⟨S1, fl1, s1, s2, s3, s4⟩ := step
      obtain ⟨S2, t1, t2, t3⟩ := ih (draw (draw (draw x))) _ _ fl1 S1 N' (by omega) (by omega) d3 s2 s3
      refine ⟨S2, ?_, t2, s4.tr t3⟩
      rw [ziter_1 s1]
      exact t1
theorem g_wander {S : ZS} {w c n t p a b d sq k x L : Nat} {g : Nat → Nat} {v : Nat → Nat → Nat → Nat} (h : zWy S w c n t p a b d sq k g v) (hx : x < 65536) (hL : L ≤ 200) : ∃ S1, fX4_wander w (ci x) (ci L) S = some (ci (wlk p a b d L x k v).1, S1) ∧ zWy S1 w c n t p a b d sq (wlk p a b d L x k v).2.1 g (wlk p a b d L x k v).2.2 ∧ zFrm S S1 (fun b => b = w ∨ b = t) := by
  obtain ⟨S1, f1, f2, f3⟩ := wander_loop hL L x k v false S zF (by rw [zF_eq]; omega) (Nat.le_refl _) hx (fun hh => by cases hh) h
  rw [Nat.sub_self] at f1
  exact ⟨S1, f1, f2, f3⟩
