/-! A NEW CUBE: the model's -/
def mZ (cc : Nat) (A A' : Nat → Nat → Int32) : Prop := (∀ j, j ≠ 3 → j ≠ 4 → j ≠ 5 → A' j = A j) ∧ (∀ x, x < 3 * cc → A' 3 x = A 3 x) ∧ (∀ x, x < 64 * cc → A' 4 x = A 4 x) ∧ ∀ x, x < cc → A' 5 x = A 5 x
theorem m_make {S : ZS} {m cc a b d : Nat} {R : Nat → Nat} {X : Nat → Int32} {A : Nat → Nat → Int32} (h : zMo S m R X A) (hX : X 2 = ci cc) (hc : cc < 16) :
    ∃ S1 A1, fX6_make m (ci a) (ci b) (ci d) S = some (ci cc, S1) ∧ zMo S1 m R (mX X 2 (ci (cc + 1))) A1 ∧ (∀ s, s < 3 → A1 3 (3 * cc + s) = ci (sz3 a b d s)) ∧ (∀ x, x < 64 → A1 4 (64 * cc + x) = 0) ∧ A1 5 cc = 0 ∧ mZ cc A A1 ∧ zFrm S S1 (mP m R) := by
  have t1 := h.set A3i (va_up (A 3) (3 * cc) (ci a))
  have t2 := t1.1.set A3i (va_up (va_up (A 3) (3 * cc) (ci a)) (3 * cc + 1) (ci b))
  have t3 := t2.1.set A3i (va_up (va_up (va_up (A 3) (3 * cc) (ci a)) (3 * cc + 1) (ci b)) (3 * cc + 2) (ci d))
  have f3 := t1.2.tr (t2.2.tr t3.2)
  have s1 : zsI S (R 3) 0 (ci (3 * cc)) (ci a) = some (zwI S (R 3) (mN 3) (va_up (A 3) (3 * cc) (ci a))) := h.wr A3i (by rw [N3]; omega) _
  have s2 : zsI (zwI S (R 3) (mN 3) (va_up (A 3) (3 * cc) (ci a))) (R 3) 0 (ci (3 * cc + 1)) (ci b) = some (zwI (zwI S (R 3) (mN 3) (va_up (A 3) (3 * cc) (ci a))) (R 3) (mN 3) (va_up (va_up (A 3) (3 * cc) (ci a)) (3 * cc + 1) (ci b))) := by
    rw [t1.1.wr A3i (by rw [N3]; omega), mS_self]
  have s3 : zsI (zwI (zwI S (R 3) (mN 3) (va_up (A 3) (3 * cc) (ci a))) (R 3) (mN 3) (va_up (va_up (A 3) (3 * cc) (ci a)) (3 * cc + 1) (ci b))) (R 3) 0 (ci (3 * cc + 2)) (ci d) = some (zwI (zwI (zwI S (R 3) (mN 3) (va_up (A 3) (3 * cc) (ci a))) (R 3) (mN 3) (va_up (va_up (A 3) (3 * cc) (ci a)) (3 * cc + 1) (ci b))) (R 3) (mN 3) (va_up (va_up (va_up (A 3) (3 * cc) (ci a)) (3 * cc + 1) (ci b)) (3 * cc + 2) (ci d))) := by
    rw [t2.1.wr A3i (by rw [N3]; omega), mS_self]
  obtain ⟨S3, hS3⟩ : ∃ S3, S3 = zwI (zwI (zwI S (R 3) (mN 3) (va_up (A 3) (3 * cc) (ci a))) (R 3) (mN 3) (va_up (va_up (A 3) (3 * cc) (ci a)) (3 * cc + 1) (ci b))) (R 3) (mN 3) (va_up (va_up (va_up (A 3) (3 * cc) (ci a)) (3 * cc + 1) (ci b)) (3 * cc + 2) (ci d)) := ⟨_, rfl⟩
  rw [← hS3] at t3 s3 f3
  obtain ⟨A3, hA3⟩ : ∃ A3, A3 = mS (mS (mS A 3 (va_up (A 3) (3 * cc) (ci a))) 3 (va_up (va_up (A 3) (3 * cc) (ci a)) (3 * cc + 1) (ci b))) 3 (va_up (va_up (va_up (A 3) (3 * cc) (ci a)) (3 * cc + 1) (ci b)) (3 * cc + 2) (ci d)) := ⟨_, rfl⟩
  rw [← hA3] at t3
  have a3 : ∀ i, i ≠ 3 → A3 i = A i := fun i hi => by rw [hA3, mS_ne hi, mS_ne hi, mS_ne hi]
  have a33 : A3 3 = va_up (va_up (va_up (A 3) (3 * cc) (ci a)) (3 * cc + 1) (ci b)) (3 * cc + 2) (ci d) := by rw [hA3, mS_self]
  let fi : Nat → Nat → Int32 := fun i x => if 64 * cc ≤ x ∧ x < 64 * cc + i then ci 0 else A 4 x
  let st : Nat → ZS := fun i => zwI S3 (R 4) (mN 4) (fi i)
  have hst : ∀ i, zMo (st i) m R X (mS A3 4 (fi i)) := fun i => (t3.1.set A4i (fi i)).1
  have hin : ∀ i x, 64 * cc ≤ x ∧ x < 64 * cc + i → fi i x = ci 0 := fun i x hx => if_pos hx
  have hou : ∀ i x, ¬ (64 * cc ≤ x ∧ x < 64 * cc + i) → fi i x = A 4 x := fun i x hx => if_neg hx
  have h0 : st 0 = S3 := by
    show zwI S3 (R 4) (mN 4) (fi 0) = S3
    rw [show fi 0 = A3 4 from by rw [a3 4 (by omega)]; funext x; exact hou 0 x (by omega)]
    exact zwI_same (t3.1.2.1 4 A4i)
  have t5 := (hst 64).set A5i (va_up (A 5) cc (ci 0))
  have t6 := t5.1.sx (X' := mX X 2 (ci (cc + 1)))
  refine ⟨_, _, ?_, t6.1, fun s hs => ?_, fun x hx => ?_, ?_, ⟨fun j k1 k2 k3 => ?_, fun x hx => ?_, fun x hx => ?_, fun x hx => ?_⟩, ((((f3.wk (fun b hb => Or.inr (Or.inr ⟨3, A3i, hb⟩))).tr ((t3.1.set A4i (fi 64)).2.wk (fun b hb => Or.inr (Or.inr ⟨4, A4i, hb⟩)))).tr (t5.2.wk (fun b hb => Or.inr (Or.inr ⟨5, A5i, hb⟩)))).tr (t6.2.wk (fun _ => Or.inl)))⟩
  · unfold fX6_make
    rw [zgR_ob h.1 rfl, Option.bind_some, zgI_ob h.1 rfl, Option.bind_some, hX, cl_3, ci_mul, s1, Option.bind_some]
    rw [zgR_ob t1.1.1 rfl, Option.bind_some, zgI_ob t1.1.1 rfl, Option.bind_some, hX, ci_mul, cl_1, ci_add, s2, Option.bind_some]
    rw [zgR_ob t2.1.1 rfl, Option.bind_some, zgI_ob t2.1.1 rfl, Option.bind_some, hX, ci_mul, cl_2, ci_add, s3, Option.bind_some]
    have h9 : ((0 : Int32), S3) = (ci 0, st 0) := by rw [h0]; rfl
    rw [h9]
    refine ziter_seq (fun i => (ci i, st i)) _ 64 zF (by rw [zF_eq]; omega) ?_ ?_
    · intro i hi
      unfold fX6_make_B43
      simp only []
      rw [if_neg (show ¬ (64 : Int32) ≤ ci i by rw [cl_64, ci_le (by omega) (by omega)]; omega), zgR_ob (hst i).1 rfl, Option.bind_some, zgI_ob (hst i).1 rfl, Option.bind_some, hX, cl_64, ci_mul, ci_add, (hst i).wr A4i (by rw [N4]; omega), Option.bind_some, cl_1, ci_add, mS_self]
      congr 3
      show zwI (zwI S3 (R 4) (mN 4) (fi i)) (R 4) (mN 4) _ = zwI S3 (R 4) (mN 4) (fi (i + 1))
      rw [zwI_2]
      congr 1
      funext x
      unfold va_up
      by_cases hx : x = 64 * cc + i
      · rw [if_pos hx, hin (i + 1) x (by omega)]; rfl
      · rw [if_neg hx]
        by_cases h8 : 64 * cc ≤ x ∧ x < 64 * cc + i
        · rw [hin i x h8, hin (i + 1) x (by omega)]
        · rw [hou i x h8, hou (i + 1) x (by omega)]
    · unfold fX6_make_B43
      simp only []
      rw [if_pos (show (64 : Int32) ≤ ci 64 by decide), zgR_ob (hst 64).1 rfl, Option.bind_some, zgI_ob (hst 64).1 rfl, Option.bind_some, hX, (hst 64).wr A5i (by rw [N5]; omega), mS_ne (by omega), a3 5 (by omega), Option.bind_some, cl_0, zgI_ob t5.1.1 rfl, Option.bind_some, hX, cl_1, ci_add, zpF_ob _ t5.1.1 (show 2 < (mF R X).length by unfold mF; simp), Option.bind_some]
      rw [show zwO (zwI (st 64) (R 5) (mN 5) (va_up (A 5) cc (ci 0))) m 6 ((mF R X).set 2 (.int (ci (cc + 1)))) = zwO (zwI (st 64) (R 5) (mN 5) (va_up (A 5) cc (ci 0))) m 6 (mF R (mX X 2 (ci (cc + 1)))) from rfl, zgI_ob t6.1.1 rfl, Option.bind_some, show mX X 2 (ci (cc + 1)) 2 = ci (cc + 1) from rfl, ci_sub (by omega), Nat.add_sub_cancel, zex_some]
  · rw [mS_ne (by omega), mS_ne (by omega), a33]
    have h3 : s = 0 ∨ s = 1 ∨ s = 2 := by omega
    rcases h3 with rfl | rfl | rfl
    · rw [va_up_ne _ _ (by omega), va_up_ne _ _ (by omega), Nat.add_zero, va_up_self]; rfl
    · rw [va_up_ne _ _ (by omega), va_up_self]; rfl
    · rw [va_up_self]; rfl
  · rw [mS_ne (by omega), mS_self, hin 64 _ (by omega)]; rfl
  · rw [mS_self, va_up_self]; rfl
  · rw [mS_ne k3, mS_ne k2, a3 j k1]
  · rw [mS_ne (by omega), mS_ne (by omega), a33, va_up_ne _ _ (by omega), va_up_ne _ _ (by omega), va_up_ne _ _ (by omega)]
  · rw [mS_ne (by omega), mS_self, hou 64 _ (by omega)]
  · rw [mS_self, va_up_ne _ _ (by omega)]
