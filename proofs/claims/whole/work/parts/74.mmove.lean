/-! LAW CASE 6: move, the model's loops -/
/-- what the model's move finds ahead of its loops -/
def mvB (X : Nat → Int32) (i s f e ti p a b d : Nat) (g : Nat → Nat) : Prop := i < 16 ∧ isP p ∧ X 1 = ci p ∧ cOK p a b d g ∧ s < 3 ∧ e < sz3 a b d s ∧ f < sz3 a b d s ∧ szOK a b d ∧ ti < p
theorem m_mv2 {S S0 : ZS} {m i s f e ti p a b d o : Nat} {R : Nat → Nat} {X : Nat → Int32} {A : Nat → Nat → Int32} {g : Nat → Nat} (B : mvB X i s f e ti p a b d g) (ho : o < 4) (h : mgP m i R X A S0 (mv s f e ti p g (4 * o)) S) : ∃ S1, ziter (fX6_move_B125 m (ci i) (ci s) (ci f) (ci e) (ci ti) (ci (64 * i)) (ci o)) zF (ci 0, S) = some (.inl (ci (o + 1), S1)) ∧ mgP m i R X A S0 (mv s f e ti p g (4 * (o + 1))) S1 := by
  obtain ⟨hi, hp, hX, hok, hs, he, hf, hz, ht⟩ := B
  have hpb := hp.b
  have hb := sz3_b hz (s := s)
  have := ziter_for (body := fX6_move_B125 m (ci i) (ci s) (ci f) (ci e) (ci ti) (ci (64 * i)) (ci o)) (fun t S' => mgP m i R X A S0 (mv s f e ti p g (4 * o + t)) S') (fun r => ∃ S1, r = .inl (ci (o + 1), S1) ∧ mgP m i R X A S0 (mv s f e ti p g (4 * (o + 1))) S1) 4 ?_ ?_ 4 0 zF S (by omega) (by rw [zF_eq]; omega) h
  · obtain ⟨r, h1, S1, rfl, h2⟩ := this
    exact ⟨S1, h1, h2⟩
  · rintro t S' hl ⟨A', y1, y2, y3, y4, y5⟩
    have hl16 : 4 * o + t < 16 := by omega
    have l1 := px_lt (s := s) (x := e) (by omega) hl16
    have l2 := px_lt (s := s) (x := f) (by omega) hl16
    have mm := mv_ok (c := ti) hp hok hs he hf hz (n := 4 * o + t) (by omega)
    have v1 := mm.1 _ l1
    have v2 := mm.1 _ l2
    have v3 : ti * mv s f e ti p g (4 * o + t) (px s f (4 * o + t)) ≤ 5 * 5 := Nat.mul_le_mul (by omega) (by omega)
    have yn : mNum A' i (mv s f e ti p g (4 * o + t)) := y2
    obtain ⟨S1, A1, f1, f2, f3, f4, f5, f6⟩ := m_put (v := (mv s f e ti p g (4 * o + t) (px s e (4 * o + t)) + ti * mv s f e ti p g (4 * o + t) (px s f (4 * o + t))) % p) y1 hi l1 y2
    refine ⟨S1, ?_, A1, f2, f3, y3.tr f4, f5.trans y4, y5.tr f6⟩
    unfold fX6_move_B125
    simp only []
    rw [if_neg (by rw [cl_4, ci_le (by omega) (by omega)]; omega), zgR_ob y1.1 rfl, Option.bind_some, m_px hs (by omega), Option.bind_some, ci_add, yn.rd y1 hi l2, Option.bind_some, Option.bind_some, m_px hs (by omega), Option.bind_some, ci_add, yn.rd y1 hi l1, Option.bind_some, Option.bind_some, Option.bind_some, zgI_ob y1.1 rfl, Option.bind_some, hX, ci_mul, ci_add, z_rem (by omega) (by omega) (by omega), Option.bind_some, ci_add]
    rw [f1, Option.bind_some, cl_1, ci_add]
  · rintro S' y
    refine ⟨.inl (ci (o + 1), S'), ?_, S', rfl, y⟩
    unfold fX6_move_B125
    simp only []
    rw [if_pos (by rw [cl_4, ci_le (by omega) (by omega)]; omega), cl_1, ci_add, zex_some]
theorem m_cnt {S : ZS} {m i p : Nat} {R : Nat → Nat} {X : Nat → Int32} {A : Nat → Nat → Int32} {g : Nat → Nat} (h : zMo S m R X A) (hi : i < 16) (hp : isP p) (hg : ∀ x, x < 64 → g x < p) (y : mNum A i g) : ziter (fX6_move_B226 m (ci (64 * i)) S) zF ((0 : Int32), (0 : Int32)) = some (ci (nz g 64), S) := by
  have hpb := hp.b
  show ziter (fX6_move_B226 m (ci (64 * i)) S) zF (ci (nz g 0), ci 0) = _
  refine ziter_seq (fun x => (ci (nz g x), ci x)) _ 64 zF (by rw [zF_eq]; omega) ?_ ?_
  · intro x hx
    have hlt := hg x hx
    unfold fX6_move_B226 fX6_move_J253
    simp only []
    rw [if_neg (show ¬ (64 : Int32) ≤ ci x by rw [cl_64, ci_le (by omega) (by omega)]; omega), zgR_ob h.1 rfl, Option.bind_some, ci_add, y.rd h hi hx, Option.bind_some]
    have e : nz g (x + 1) = nz g x + (if g x = 0 then 0 else 1) := rfl
    by_cases h0 : g x = 0
    · rw [if_pos (by rw [h0]; rfl), cl_0, cl_1, ci_add, ci_add, e, if_pos h0]
    · rw [if_neg (by rw [cl_0, ci_eq (by omega) (by omega)]; exact h0), cl_1, ci_add, ci_add, e, if_neg h0]
  · unfold fX6_move_B226
    simp only []
    rw [if_pos (show (64 : Int32) ≤ ci 64 by decide), zex_some]
theorem m_mv {S S0 : ZS} {m i s f e ti p a b d : Nat} {R : Nat → Nat} {X : Nat → Int32} {A : Nat → Nat → Int32} {g : Nat → Nat} (B : mvB X i s f e ti p a b d g) (h : mgP m i R X A S0 g S) : ∃ S1 A1, ziter (fX6_move_B116 m (ci i) (ci s) (ci f) (ci e) (ci ti) (ci (64 * i))) zF (ci 0, S) = some (ci (nz (mv s f e ti p g 16) 64), S1) ∧ zMo S1 m R X A1 ∧ (∀ y, y < 64 → A1 4 (64 * i + y) = ci (mv s f e ti p g 16 y)) ∧ mV i A A1 ∧ A1 5 i = ci 0 ∧ zFrm S0 S1 (mP m R) := by
  have := ziter_for (body := fX6_move_B116 m (ci i) (ci s) (ci f) (ci e) (ci ti) (ci (64 * i))) (fun o S' => mgP m i R X A S0 (mv s f e ti p g (4 * o)) S') (fun r => ∃ S1 A1, r = (ci (nz (mv s f e ti p g 16) 64), S1) ∧ zMo S1 m R X A1 ∧ (∀ y, y < 64 → A1 4 (64 * i + y) = ci (mv s f e ti p g 16 y)) ∧ mV i A A1 ∧ A1 5 i = ci 0 ∧ zFrm S0 S1 (mP m R)) 4 ?_ ?_ 4 0 zF S (by omega) (by rw [zF_eq]; omega) h
  · obtain ⟨r, h1, S1, A1, rfl, h2⟩ := this
    exact ⟨S1, A1, h1, h2⟩
  · rintro o S' ho y
    obtain ⟨S1, f1, f2⟩ := m_mv2 B ho y
    refine ⟨S1, ?_, f2⟩
    unfold fX6_move_B116
    simp only []
    rw [if_neg (by rw [cl_4, ci_le (by omega) (by omega)]; omega), cl_0]
    exact f1
  · rintro S' y
    obtain ⟨hi, hp, hX, hok, hs, he, hf, hz, ht⟩ := B
    obtain ⟨S1, A1, f1, f2, f3, f4, f5, f6⟩ := m_sq (v := 0) hi y
    refine ⟨(ci (nz (mv s f e ti p g 16) 64), S1), ?_, S1, A1, rfl, f2, f3, f4, f5, f6⟩
    unfold fX6_move_B116
    simp only []
    rw [if_pos (by rw [cl_4, ci_le (by omega) (by omega)]; omega), zgR_ob y.choose_spec.1.1 rfl, Option.bind_some]
    show zex (Option.bind (zsI S' (R 5) 0 (ci i) (ci 0)) _) = _
    rw [f1, Option.bind_some, m_cnt f2 hi hp (mv_ok (c := ti) hp hok hs he hf hz (n := 16) (by omega)).1 f3, zex_some]
