/-! THE MODEL'S WAYS: reduce, walk -/
theorem m_ct {S : ZS} {m w p a b d k : Nat} {R : Nat → Nat} {X : Nat → Int32} {A : Nat → Nat → Int32} {v : Nat → Nat → Nat → Nat} (h : zMo S m R X A) (y : mWy X A w p a b d k v) : zaI S (R 10) 0 (ci w) = some (ci k) := by
  have := y.1
  rw [h.rd A10 (by rw [N10]; omega), y.n]
theorem m_once {S : ZS} {m w p a b d k : Nat} {R : Nat → Nat} {X : Nat → Int32} {A : Nat → Nat → Int32} {v : Nat → Nat → Nat → Nat} (h : zMo S m R X A) (y : mWy X A w p a b d k v) :
    (∀ v', red1 p a b d k v = some v' → ∃ S1 A1, fX6_reducesOnce m (ci w) S = some (1, S1) ∧ zMo S1 m R X A1 ∧ mWy X A1 w p a b d (k - 1) v' ∧ mU w A A1 ∧ zFrm S S1 (mQ R)) ∧ (red1 p a b d k v = none → fX6_reducesOnce m (ci w) S = some (0, S)) := by
  have hk := y.kk
  have hp := y.2.1.b
  have hw := y.1
  have hle : fz a b d k v ≤ k := lf_le _ _
  have hle2 : fj a b d k v ≤ k := lf_le _ _
  have hler : ∀ q, fr a b d k v q ≤ k := fun q => lf_le _ _
  have stp : ∀ j, 0 ≤ j → j < fz a b d k v → fX6_reducesOnce_B2 m (ci w) S (ci j) = some (.inl (ci (j + 1))) := by
    intro j _ hj
    unfold fX6_reducesOnce_B2
    rw [zgR_ob h.1 rfl, Option.bind_some, m_ct h y, Option.bind_some, if_neg (by rw [ci_le (by omega) (by omega)]; omega), h.cl, m_isNothing h y (by omega), Option.bind_some]
    have := lf_no hj
    rw [if_pos ((bI_0 _).mpr this), cl_1, ci_add]
  have inn : ∀ q, q < k → ∀ j, q + 1 ≤ j → j < fr a b d k v q → fX6_reducesOnce_B51 m (ci w) (ci q) S (ci j) = some (.inl (ci (j + 1))) := by
    intro q hq j hj0 hj
    have hr := hler q
    unfold fX6_reducesOnce_B51
    rw [zgR_ob h.1 rfl, Option.bind_some, m_ct h y, Option.bind_some, if_neg (by rw [ci_le (by omega) (by omega)]; omega), h.cl, m_third h y (by omega) (by omega), Option.bind_some]
    have h9 := lf_no hj
    have h8 : th a b d v q j = 3 := by
      simp only [decide_eq_true (show q < j by omega), Bool.true_and, decide_eq_false_iff_not, Decidable.not_not] at h9
      exact h9
    rw [if_pos ((tI_3 (th_le _ _ _ _ _ _)).mpr h8), cl_1, ci_add]
  have stp2 : ∀ q, 0 ≤ q → q < fj a b d k v → fX6_reducesOnce_B37 m (ci w) S (ci q) = some (.inl (ci (q + 1))) := by
    intro q _ hq
    have hnr : ¬ fr a b d k v q < k := by
      have := lf_no hq
      simp only [decide_eq_false_iff_not] at this
      exact this
    have hr := hler q
    unfold fX6_reducesOnce_B37
    rw [zgR_ob h.1 rfl, Option.bind_some, m_ct h y, Option.bind_some, if_neg (by rw [ci_le (by omega) (by omega)]; omega), cl_1, ci_add]
    refine ziter_up (q + 1) k (by omega) (by rw [zF_eq]; omega) (fun j h1 h2 => inn q (by omega) j h1 (by omega)) ?_
    unfold fX6_reducesOnce_B51
    rw [zgR_ob h.1 rfl, Option.bind_some, m_ct h y, Option.bind_some, if_pos (by rw [ci_le (by omega) (by omega)]; omega), cl_1, ci_add, zex_some]
  have hend : ¬ fz a b d k v < k → ∀ r, ziter (fX6_reducesOnce_B37 m (ci w) S) zF (0 : Int32) = some r → fX6_reducesOnce m (ci w) S = some r := by
    intro hz r hr
    unfold fX6_reducesOnce
    rw [cl_0]
    refine ziter_up 0 (fz a b d k v) (by omega) (by rw [zF_eq]; omega) stp ?_
    unfold fX6_reducesOnce_B2
    rw [zgR_ob h.1 rfl, Option.bind_some, m_ct h y, Option.bind_some, if_pos (by rw [ci_le (by omega) (by omega)]; omega), hr, zex_some]
  by_cases hzz : fz a b d k v < k
  · have hr1 : red1 p a b d k v = some (vdel v (fz a b d k v)) := by unfold red1; rw [if_pos hzz]
    rw [hr1]
    refine ⟨fun v' hv' => ?_, fun hh => by cases hh⟩
    cases hv'
    obtain ⟨S1, A1, f1, f2, f3, f4, f5⟩ := m_takeOut h y hzz
    refine ⟨S1, A1, ?_, f2, f3, f4, f5⟩
    unfold fX6_reducesOnce
    rw [cl_0]
    refine ziter_up 0 (fz a b d k v) (by omega) (by rw [zF_eq]; omega) stp ?_
    unfold fX6_reducesOnce_B2
    rw [zgR_ob h.1 rfl, Option.bind_some, m_ct h y, Option.bind_some, if_neg (by rw [ci_le (by omega) (by omega)]; omega), h.cl, m_isNothing h y hzz, Option.bind_some]
    have := lf_yes (P := fun q => hz a b d v q) hzz
    rw [if_neg (by rw [bI_0]; intro hh; exact absurd (this.symm.trans hh) (by decide)), h.cl, f1, Option.bind_some, zex_some]
  · by_cases hj : fj a b d k v < k
    · have hr1 : red1 p a b d k v = some (vjoin p a b d k v) := by unfold red1; rw [if_neg hzz, if_pos hj]
      rw [hr1]
      refine ⟨fun v' hv' => ?_, fun hh => by cases hh⟩
      cases hv'
      have hy := lf_yes (P := fun q => decide (fr a b d k v q < k)) hj
      have hyr : fr a b d k v (fj a b d k v) < k := of_decide_eq_true hy
      have hz2 := lf_yes (P := fun r => decide (fj a b d k v < r) && decide (th a b d v (fj a b d k v) r ≠ 3)) hyr
      rw [Bool.and_eq_true, decide_eq_true_eq, decide_eq_true_eq] at hz2
      have hz3 : fj a b d k v < fr a b d k v (fj a b d k v) := hz2.1
      have hz4 : th a b d v (fj a b d k v) (fr a b d k v (fj a b d k v)) ≠ 3 := hz2.2
      have hth := th_le a b d v (fj a b d k v) (fr a b d k v (fj a b d k v))
      obtain ⟨S1, A1, f1, f2, f3, f4, f5⟩ := m_add h y hj hyr (by omega) (s := th a b d v (fj a b d k v) (fr a b d k v (fj a b d k v))) (t := 1) (by omega) (by omega)
      obtain ⟨S2, A2, g1, g2, g3, g4, g5⟩ := m_takeOut f2 f3 hyr
      refine ⟨S2, A2, hend hzz _ ?_, g2, g3, f4.tr g4, f5.tr g5⟩
      rw [cl_0]
      refine ziter_up 0 (fj a b d k v) (by omega) (by rw [zF_eq]; omega) stp2 ?_
      unfold fX6_reducesOnce_B37
      rw [zgR_ob h.1 rfl, Option.bind_some, m_ct h y, Option.bind_some, if_neg (by rw [ci_le (by omega) (by omega)]; omega), cl_1, ci_add]
      refine ziter_up (fj a b d k v + 1) (fr a b d k v (fj a b d k v)) (by omega) (by rw [zF_eq]; omega) (fun j h1 h2 => inn _ hj j h1 (by omega)) ?_
      unfold fX6_reducesOnce_B51
      rw [zgR_ob h.1 rfl, Option.bind_some, m_ct h y, Option.bind_some, if_neg (by rw [ci_le (by omega) (by omega)]; omega), h.cl, m_third h y hj hyr, Option.bind_some, if_neg (by rw [tI_3 hth]; exact hz4), h.cl, cl_1]
      rw [show tI (th a b d v (fj a b d k v) (fr a b d k v (fj a b d k v))) = ci (th a b d v (fj a b d k v) (fr a b d k v (fj a b d k v))) from by unfold tI; rw [if_neg hz4], f1, Option.bind_some, f2.cl, g1, Option.bind_some, zex_some]
      rfl
    · have hr1 : red1 p a b d k v = none := by unfold red1; rw [if_neg hzz, if_neg hj]
      rw [hr1]
      refine ⟨fun v' hv' => (by cases hv'), fun _ => hend hzz _ ?_⟩
      rw [cl_0]
      refine ziter_up 0 (fj a b d k v) (by omega) (by rw [zF_eq]; omega) stp2 ?_
      unfold fX6_reducesOnce_B37
      rw [zgR_ob h.1 rfl, Option.bind_some, m_ct h y, Option.bind_some, if_pos (by rw [ci_le (by omega) (by omega)]; omega), zex_some]
      rfl
theorem reduceAll_loop {m w p a b d : Nat} {R : Nat → Nat} {X : Nat → Int32} : ∀ (k : Nat) (v : Nat → Nat → Nat → Nat) (S : ZS) (A : Nat → Nat → Int32) (N c : Nat), k < N → zMo S m R X A → mWy X A w p a b d k v → ∃ S1 A1, ziter (fX6_reduceAll_B2 m (ci w)) N (ci c, S) = some (ci (c + (k - (red p a b d k v).1)), S1) ∧ zMo S1 m R X A1 ∧ mWy X A1 w p a b d (red p a b d k v).1 (red p a b d k v).2 ∧ mU w A A1 ∧ zFrm S S1 (mQ R) := by
  intro k
  induction k with
  | zero =>
    intro v S A N c hN h y
    obtain ⟨N', rfl⟩ : ∃ N', N = N' + 1 := ⟨N - 1, by omega⟩
    refine ⟨S, A, ziter_0 ?_, h, y, mU.rf, zFrm.rf⟩
    unfold fX6_reduceAll_B2
    simp only []
    rw [h.cl, (m_once h y).2 (red1_none.mpr ⟨fun q hq => absurd hq (Nat.not_lt_zero _), fun q r _ hr => absurd hr (Nat.not_lt_zero _)⟩), Option.bind_some, if_pos rfl, zex_some]
    rfl
  | succ k ih =>
    intro v S A N c hN h y
    obtain ⟨N', rfl⟩ : ∃ N', N = N' + 1 := ⟨N - 1, by omega⟩
    obtain ⟨o1, o2⟩ := m_once h y
    cases hr : red1 p a b d (k + 1) v with
    | none =>
      rw [red_none hr]
      refine ⟨S, A, ziter_0 ?_, h, y, mU.rf, zFrm.rf⟩
      unfold fX6_reduceAll_B2
      simp only []
      rw [h.cl, o2 hr, Option.bind_some, if_pos rfl, zex_some, Nat.sub_self, Nat.add_zero]
    | some v' =>
      obtain ⟨S1, A1, f1, f2, f3, f4, f5⟩ := o1 v' hr
      have hrr : red p a b d (k + 1) v = red p a b d k v' := by rw [red, hr]
      rw [hrr]
      obtain ⟨S2, A2, g1, g2, g3, g4, g5⟩ := ih v' S1 A1 N' (c + 1) (by omega) f2 f3
      refine ⟨S2, A2, ?_, g2, g3, f4.tr g4, f5.tr g5⟩
      rw [ziter_1 (y := (ci (c + 1), S1)), g1]
      · have := red_le p a b d k v'
        rw [show c + 1 + (k - (red p a b d k v').1) = c + (k + 1 - (red p a b d k v').1) by omega]
      · unfold fX6_reduceAll_B2
        simp only []
        rw [h.cl, f1, Option.bind_some, if_neg (show ¬ ((1 : Int32) = 0) by decide), cl_1, ci_add]
theorem m_reduceAll {S : ZS} {m w p a b d k : Nat} {R : Nat → Nat} {X : Nat → Int32} {A : Nat → Nat → Int32} {v : Nat → Nat → Nat → Nat} (h : zMo S m R X A) (y : mWy X A w p a b d k v) : ∃ S1 A1, fX6_reduceAll m (ci w) S = some (ci (k - (red p a b d k v).1), S1) ∧ zMo S1 m R X A1 ∧ mWy X A1 w p a b d (red p a b d k v).1 (red p a b d k v).2 ∧ mU w A A1 ∧ zFrm S S1 (mQ R) := by
  have hk := y.kk
  obtain ⟨S1, A1, f1, f2, f3, f4, f5⟩ := reduceAll_loop k v S A zF 0 (by rw [zF_eq]; omega) h y
  rw [Nat.zero_add] at f1
  exact ⟨S1, A1, f1, f2, f3, f4, f5⟩
theorem m_draw (x : Nat) : fX6_draw (ci x) = some (ci (draw x)) ∨ 65536 ≤ x := by
  by_cases h : x < 65536
  · left
    unfold fX6_draw draw
    rw [cl_25173, cl_13849, cl_65536, ci_mul, ci_add, ci_mod (by omega) (by omega), Nat.mul_comm]
  · right; omega
theorem m_draw' {x : Nat} (h : x < 65536) : fX6_draw (ci x) = some (ci (draw x)) := (m_draw x).resolve_right (by omega)
theorem mwalk_loop {m w p a b d L : Nat} {R : Nat → Nat} {X : Nat → Int32} (hL : L ≤ 200) : ∀ (i x k : Nat) (v : Nat → Nat → Nat → Nat) (S : ZS) (A : Nat → Nat → Int32) (N : Nat) (z : Int32), i < N → i ≤ L → x < 65536 → zMo S m R X A → mWy X A w p a b d k v → ∃ S1 A1, ziter (fX6_walk_B60 m (ci w) (ci L)) N (ci x, z, ci (L - i), S) = some (ci (wlk p a b d i x k v).1, S1) ∧ zMo S1 m R X A1 ∧ mWy X A1 w p a b d (wlk p a b d i x k v).2.1 (wlk p a b d i x k v).2.2 ∧ mU w A A1 ∧ zFrm S S1 (mQ R) := by
  intro i
  induction i with
  | zero =>
    intro x k v S A N z hN _ hx h y
    obtain ⟨N', rfl⟩ : ∃ N', N = N' + 1 := ⟨N - 1, by omega⟩
    rw [wlk_0]
    refine ⟨S, A, ziter_0 ?_, h, y, mU.rf, zFrm.rf⟩
    unfold fX6_walk_B60 fX6_walk_J170
    simp only []
    rw [if_pos (by rw [ci_le (by omega) (by omega)]; omega), zex_some]
  | succ i ih =>
    intro x k v S A N z hN hiL hx h y
    have hk := y.kk
    obtain ⟨N', rfl⟩ : ∃ N', N = N' + 1 := ⟨N - 1, by omega⟩
    by_cases hk0 : k = 0
    · rw [wlk_s0 hk0]
      refine ⟨S, A, ziter_0 ?_, h, y, mU.rf, zFrm.rf⟩
      unfold fX6_walk_B60 fX6_walk_J170
      simp only []
      rw [if_neg (by rw [ci_le (by omega) (by omega)]; omega), zgR_ob h.1 rfl, Option.bind_some, m_ct h y, Option.bind_some, if_pos ((ci_le0 (by omega)).mpr hk0), zex_some]
    · rw [wlk_s hk0]
      have d1 := draw_lt x
      have d2 := draw_lt (draw x)
      have d3 := draw_lt (draw (draw x))
      have m1 : draw x % k < k := Nat.mod_lt _ (by omega)
      have m2 : draw (draw x) % k < k := Nat.mod_lt _ (by omega)
      have m3 : draw (draw (draw x)) % 3 < 3 := Nat.mod_lt _ (by omega)
      have fin : ∀ (v' : Nat → Nat → Nat → Nat) (S' : ZS) (A' : Nat → Nat → Int32), v' = wfl p a b d k v x → zMo S' m R X A' → mWy X A' w p a b d k v' → mU w A A' → zFrm S S' (mQ R) → ∃ S1 A1 z1, fX6_walk_J154 m (ci w) (ci L) (ci (draw (draw (draw x)))) z (ci (L - (i + 1))) S' = some (.inl (ci (draw (draw (draw x))), z1, ci (L - i), S1)) ∧ zMo S1 m R X A1 ∧ mWy X A1 w p a b d (red p a b d k (wfl p a b d k v x)).1 (red p a b d k (wfl p a b d k v x)).2 ∧ mU w A A1 ∧ zFrm S S1 (mQ R) := by
        intro v' S' A' hv' h' y' u' f'
        obtain ⟨S1, A1, s1, s2, s3, s4, s5⟩ := m_reduceAll h' y'
        refine ⟨S1, A1, z + ci (k - (red p a b d k v').1), ?_, s2, ?_, u'.tr s4, f'.tr s5⟩
        · unfold fX6_walk_J154
          rw [h'.cl, s1, Option.bind_some, cl_1, ci_add, show L - (i + 1) + 1 = L - i by omega]
        · rw [← hv']; exact s3
      have step : ∃ S1 A1 z1, fX6_walk_B60 m (ci w) (ci L) (ci x, z, ci (L - (i + 1)), S) = some (.inl (ci (draw (draw (draw x))), z1, ci (L - i), S1)) ∧ zMo S1 m R X A1 ∧ mWy X A1 w p a b d (red p a b d k (wfl p a b d k v x)).1 (red p a b d k (wfl p a b d k v x)).2 ∧ mU w A A1 ∧ zFrm S S1 (mQ R) := by
        unfold fX6_walk_B60
        simp only []
        rw [if_neg (by rw [ci_le (by omega) (by omega)]; omega), zgR_ob h.1 rfl, Option.bind_some, m_ct h y, Option.bind_some]
        rw [if_neg (by rw [ci_le0 (by omega)]; exact hk0), Option.bind_some, m_ct h y, Option.bind_some, m_draw' hx, Option.bind_some, z_rem (by omega) (by omega) (by omega), Option.bind_some, m_draw' d1, Option.bind_some, z_rem (by omega) (by omega) (by omega), Option.bind_some, m_draw' d2, Option.bind_some, cl_3, ci_mod (by omega) (by omega)]
        by_cases e1 : draw x % k = draw (draw x) % k
        · rw [if_pos (by rw [e1])]
          exact fin v S A (by unfold wfl; rw [if_neg (fun hh => hh.1 e1)]) h y mU.rf zFrm.rf
        · rw [if_neg (by rw [ci_eq (by omega) (by omega)]; exact e1), h.cl, m_areAlike h y m1 m2 m3, Option.bind_some]
          cases e2 : al a b d v (draw x % k) (draw (draw x) % k) (draw (draw (draw x)) % 3) with
          | false =>
            rw [if_pos bI_f]
            exact fin v S A (by unfold wfl; rw [if_neg (fun hh => by rw [e2] at hh; cases hh.2)]) h y mU.rf zFrm.rf
          | true =>
            obtain ⟨S1, A1, f1, f2, f3, f4, f5⟩ := m_turn h y m1 m2 e1 m3
            rw [if_neg (show ¬ bI true = 0 by decide), h.cl, f1, Option.bind_some]
            exact fin _ S1 A1 (by unfold wfl; rw [if_pos ⟨e1, e2⟩]) f2 f3 f4 f5
      obtain ⟨S1, A1, z1, s1, s2, s3, s4, s5⟩ := step
      obtain ⟨S2, A2, t1, t2, t3, t4, t5⟩ := ih (draw (draw (draw x))) _ _ S1 A1 N' z1 (by omega) (by omega) d3 s2 s3
      refine ⟨S2, A2, ?_, t2, t3, s4.tr t4, s5.tr t5⟩
      rw [ziter_1 s1]
      exact t1
