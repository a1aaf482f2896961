/-! THE MODEL'S WAYS: plain -/
theorem cl_M1 : (-1 : Int32) < 0 := by decide
/-- the cube of way w of the model -/
def mWg (A : Nat → Nat → Int32) (w : Nat) (g : Nat → Nat) : Prop := ∀ x, x < 64 → A 8 (64 * w + x) = ci (g x)
theorem m_wg {S : ZS} {m w x : Nat} {R : Nat → Nat} {X : Nat → Int32} {A : Nat → Nat → Int32} {g : Nat → Nat} (h : zMo S m R X A) (hg : mWg A w g) (hw : w < 16) (hx : x < 64) : zaI S (R 8) 0 ((64 : Int32) * ci w + ci x) = some (ci (g x)) := by
  rw [cl_64, ci_mul, ci_add, h.rd A8 (by rw [N8]; omega), hg x hx]
theorem nz_le (g : Nat → Nat) (i : Nat) : nz g i ≤ i := by
  induction i with
  | zero => exact Nat.le_refl _
  | succ i ih =>
    unfold nz at ih ⊢
    rw [sm_succ]
    split <;> omega
theorem m_plainStep {S : ZS} {m w p a b d k x its : Nat} {R : Nat → Nat} {X : Nat → Int32} {A : Nat → Nat → Int32} {v : Nat → Nat → Nat → Nat} (h : zMo S m R X A) (y : mWy X A w p a b d k v) (hk : k < 40) (hx : x < 64) (hits : its < p) (hxa : x / 16 < a) (hxb : x / 4 % 4 < b) (hxd : x % 4 < d) :
    ∃ S1 A1, (Option.bind (zsI S (R 10) 0 (ci w) (ci (k + 1))) fun S11 => ziter (fX6_plain_B136 m (ci w) (ci x) (ci its) (ci k)) zF ((0 : Int32), S11)) = some (.inl (ci (x + 1), S1)) ∧ zMo S1 m R X A1 ∧ mWy X A1 w p a b d (k + 1) (vapp v k (pe its x)) ∧ mU w A A1 ∧ zFrm S S1 (mQ R) := by
  have hw := y.1
  have hp := y.2.1
  have hpb := hp.b
  have n0 : 1 ≤ a ∧ a ≤ 4 := y.s4 (s := 0)
  have n1 : 1 ≤ b ∧ b ≤ 4 := y.s4 (s := 1)
  have n2 : 1 ≤ d ∧ d ≤ 4 := y.s4 (s := 2)
  have hs3 := h.set A10 (va_up (A 10) w (ci (k + 1)))
  obtain ⟨S3, hS3⟩ : ∃ S3, S3 = zwI S (R 10) (mN 10) (va_up (A 10) w (ci (k + 1))) := ⟨_, rfl⟩
  obtain ⟨A3, hA3⟩ : ∃ A3, A3 = mS A 10 (va_up (A 10) w (ci (k + 1))) := ⟨_, rfl⟩
  rw [← hS3, ← hA3] at hs3
  have a3 : ∀ i, i ≠ 10 → A3 i = A i := fun i hi => by rw [hA3, mS_ne hi]
  obtain ⟨B, hB⟩ : ∃ B, B = 480 * w + 12 * k := ⟨_, rfl⟩
  let fi : Nat → Nat → Int32 := fun i z => if B ≤ z ∧ z < B + i then ci 0 else A 11 z
  let st : Nat → ZS := fun i => zwI S3 (R 11) (mN 11) (fi i)
  have hst : ∀ i, zMo (st i) m R X (mS A3 11 (fi i)) := fun i => (hs3.1.set A11 (fi i)).1
  have hin : ∀ i z, B ≤ z ∧ z < B + i → fi i z = ci 0 := fun i z hz => if_pos hz
  have hou : ∀ i z, ¬ (B ≤ z ∧ z < B + i) → fi i z = A 11 z := fun i z hz => if_neg hz
  have h0 : st 0 = S3 := by
    show zwI S3 (R 11) (mN 11) (fi 0) = S3
    rw [show fi 0 = A3 11 from by rw [a3 11 (by omega)]; funext z; exact hou 0 z (by omega)]
    exact zwI_same (hs3.1.2.1 11 A11)
  -- the three numbers
  let F : Nat → Int32 := va_up (va_up (va_up (fi 12) (B + x / 16) (ci its)) (B + 4 + x / 4 % 4) (ci 1)) (B + 8 + x % 4) (ci 1)
  have F0 : ∀ j, j < 4 → F (B + j) = ci (pe its x 0 j) := by
    intro j hj
    show (if B + j = B + 8 + x % 4 then ci 1 else if B + j = B + 4 + x / 4 % 4 then ci 1 else if B + j = B + x / 16 then ci its else fi 12 (B + j)) = ci (if j = x / 16 then its else 0)
    rw [if_neg (by omega), if_neg (by omega)]
    by_cases hj' : j = x / 16
    · rw [if_pos (by omega), if_pos hj']
    · rw [if_neg (by omega), if_neg hj', hin 12 _ (by omega)]
  have F1 : ∀ j, j < 4 → F (B + 4 + j) = ci (pe its x 1 j) := by
    intro j hj
    show (if B + 4 + j = B + 8 + x % 4 then ci 1 else if B + 4 + j = B + 4 + x / 4 % 4 then ci 1 else if B + 4 + j = B + x / 16 then ci its else fi 12 (B + 4 + j)) = ci (if j = x / 4 % 4 then 1 else 0)
    rw [if_neg (by omega)]
    by_cases hj' : j = x / 4 % 4
    · rw [if_pos (by omega), if_pos hj']
    · rw [if_neg (by omega), if_neg (by omega), if_neg hj', hin 12 _ (by omega)]
  have F2 : ∀ j, j < 4 → F (B + 8 + j) = ci (pe its x 2 j) := by
    intro j hj
    show (if B + 8 + j = B + 8 + x % 4 then ci 1 else if B + 8 + j = B + 4 + x / 4 % 4 then ci 1 else if B + 8 + j = B + x / 16 then ci its else fi 12 (B + 8 + j)) = ci (if j = x % 4 then 1 else 0)
    by_cases hj' : j = x % 4
    · rw [if_pos (by omega), if_pos hj']
    · rw [if_neg (by omega), if_neg (by omega), if_neg (by omega), if_neg hj', hin 12 _ (by omega)]
  have hF : zMo (zwI S3 (R 11) (mN 11) F) m R X (mS A3 11 F) := (hs3.1.set A11 F).1
  have hFf := (hs3.1.set A11 F).2
  refine ⟨zwI S3 (R 11) (mN 11) F, mS A3 11 F, ?_, hF, ?_, ?_, (hs3.2.wk (fun _ => Or.inl)).tr (hFf.wk (fun _ => Or.inr))⟩
  · rw [h.wr A10 (by rw [N10]; omega), Option.bind_some, ← hS3]
    have h9 : ((0 : Int32), S3) = (ci 0, st 0) := by rw [h0]; rfl
    rw [h9]
    refine ziter_seq (fun i => (ci i, st i)) _ 12 zF (by rw [zF_eq]; omega) ?_ ?_
    · intro i hi
      unfold fX6_plain_B136
      simp only []
      rw [cl_12, if_neg (by rw [ci_le (by omega) (by omega)]; omega), zgR_ob (hst i).1 rfl, Option.bind_some, m_from0, Option.bind_some, ci_add, ← hB, (hst i).wr A11 (by rw [N11]; omega), Option.bind_some, cl_1, ci_add, mS_self]
      congr 3
      show zwI (zwI S3 (R 11) (mN 11) (fi i)) (R 11) (mN 11) _ = zwI S3 (R 11) (mN 11) (fi (i + 1))
      rw [zwI_2]
      congr 1
      funext z
      unfold va_up
      by_cases hz : z = B + i
      · rw [if_pos hz, hin (i + 1) z (by omega)]; rfl
      · rw [if_neg hz]
        by_cases h8 : B ≤ z ∧ z < B + i
        · rw [hin i z h8, hin (i + 1) z (by omega)]
        · rw [hou i z h8, hou (i + 1) z (by omega)]
    · have t1 := (hst 12).set A11 (va_up (fi 12) (B + x / 16) (ci its))
      have t2 := t1.1.set A11 (va_up (va_up (fi 12) (B + x / 16) (ci its)) (B + 4 + x / 4 % 4) (ci 1))
      have s1 : zsI (st 12) (R 11) 0 (ci (B + x / 16)) (ci its) = some (zwI (st 12) (R 11) (mN 11) (va_up (fi 12) (B + x / 16) (ci its))) := by
        rw [(hst 12).wr A11 (by rw [N11]; omega), mS_self]
      have s2 : zsI (zwI (st 12) (R 11) (mN 11) (va_up (fi 12) (B + x / 16) (ci its))) (R 11) 0 (ci (B + 4 + x / 4 % 4)) (ci 1) = some (zwI (zwI (st 12) (R 11) (mN 11) (va_up (fi 12) (B + x / 16) (ci its))) (R 11) (mN 11) (va_up (va_up (fi 12) (B + x / 16) (ci its)) (B + 4 + x / 4 % 4) (ci 1))) := by
        rw [t1.1.wr A11 (by rw [N11]; omega), mS_self]
      have s3 : zsI (zwI (zwI (st 12) (R 11) (mN 11) (va_up (fi 12) (B + x / 16) (ci its))) (R 11) (mN 11) (va_up (va_up (fi 12) (B + x / 16) (ci its)) (B + 4 + x / 4 % 4) (ci 1))) (R 11) 0 (ci (B + 8 + x % 4)) (ci 1) = some (zwI S3 (R 11) (mN 11) F) := by
        rw [t2.1.wr A11 (by rw [N11]; omega), mS_self, zwI_2, zwI_2]
        show some (zwI (zwI S3 (R 11) (mN 11) (fi 12)) (R 11) (mN 11) F) = _
        rw [zwI_2]
      unfold fX6_plain_B136 fX6_plain_J223
      simp only []
      rw [cl_12, if_pos (by rw [ci_le (by omega) (by omega)]; omega), zgR_ob (hst 12).1 rfl, Option.bind_some, m_from0, Option.bind_some, cl_16, ci_div (by omega) (by omega), ci_add, ← hB, s1, Option.bind_some]
      rw [zgR_ob t1.1.1 rfl, Option.bind_some, cl_1, m_from, Option.bind_some, cl_4, ci_div (by omega) (by omega), ci_mod (by omega) (by omega), ci_add, ← hB, s2, Option.bind_some]
      rw [zgR_ob t2.1.1 rfl, Option.bind_some, cl_2, m_from, Option.bind_some, ci_mod (by omega) (by omega), ci_add, ← hB, s3, Option.bind_some, ci_add, zex_some]
  · refine ⟨hw, hp, y.2.2.1, by omega, y.2.2.2.2.1, fun s hs => ?_, ?_, ?_, ?_⟩
    · rw [mS_ne (by omega), a3 7 (by omega)]; exact y.si hs
    · rw [mS_ne (by omega), hA3, mS_self, va_up_self]
    · intro q hq s hs j hj
      unfold vapp
      by_cases hqk : q = k
      · rw [if_pos hqk]; exact pe_lt (a := a) (b := b) (d := d) hp hits
      · rw [if_neg hqk]; exact y.lt (by omega) hs hj
    · intro q hq s hs j hj
      have hn' := y.s4 (s := s)
      rw [mS_self]
      unfold vapp
      by_cases hqk : q = k
      · rw [if_pos hqk, hqk]
        have h3 : s = 0 ∨ s = 1 ∨ s = 2 := by omega
        rcases h3 with rfl | rfl | rfl
        · rw [show 480 * w + 12 * k + 4 * 0 + j = B + j by omega]; exact F0 j (by omega)
        · rw [show 480 * w + 12 * k + 4 * 1 + j = B + 4 + j by omega]; exact F1 j (by omega)
        · rw [show 480 * w + 12 * k + 4 * 2 + j = B + 8 + j by omega]; exact F2 j (by omega)
      · rw [if_neg hqk]
        show va_up (va_up (va_up (fi 12) (B + x / 16) (ci its)) (B + 4 + x / 4 % 4) (ci 1)) (B + 8 + x % 4) (ci 1) _ = _
        rw [va_up_ne _ _ (by omega), va_up_ne _ _ (by omega), va_up_ne _ _ (by omega), hou 12 _ (by omega)]
        exact y.at (by omega) hs hj
  · refine ⟨fun i h1 h2 => by rw [mS_ne h2, a3 i h1], fun z hz => by rw [mS_ne (by omega), hA3, mS_self, va_up_ne _ _ hz], fun z hz => ?_⟩
    rw [mS_self]
    show va_up (va_up (va_up (fi 12) (B + x / 16) (ci its)) (B + 4 + x / 4 % 4) (ci 1)) (B + 8 + x % 4) (ci 1) _ = _
    rw [va_up_ne _ _ (by omega), va_up_ne _ _ (by omega), va_up_ne _ _ (by omega), hou 12 _ (by omega)]
theorem m_plainLoop {S : ZS} {m w p a b d k : Nat} {R : Nat → Nat} {X : Nat → Int32} {A : Nat → Nat → Int32} {v : Nat → Nat → Nat → Nat} {g : Nat → Nat} (h : zMo S m R X A) (y : mWy X A w p a b d k v) (hg : mWg A w g) (hc : cOK p a b d g) (hk : k + nz g 64 ≤ 40) :
    ∃ r, ziter (fX6_plain_B89 m (ci w)) zF (ci 0, S) = some r ∧ ∃ S1 A1, r = (ci (vpl g k v 64).1, S1) ∧ zMo S1 m R X A1 ∧ mWy X A1 w p a b d (vpl g k v 64).1 (vpl g k v 64).2 ∧ mU w A A1 ∧ zFrm S S1 (mQ R) := by
  have hw := y.1
  have hpb := y.2.1.b
  refine ziter_for (body := fX6_plain_B89 m (ci w)) (fun i S' => ∃ A', zMo S' m R X A' ∧ mWy X A' w p a b d (vpl g k v i).1 (vpl g k v i).2 ∧ mU w A A' ∧ zFrm S S' (mQ R)) _ 64 ?_ ?_ 64 0 zF S (by omega) (by rw [zF_eq]; omega) ⟨A, h, y, mU.rf, zFrm.rf⟩
  · rintro i S' hi ⟨A', h', y', u', f'⟩
    have hg' : mWg A' w g := fun x hx => by rw [u'.1 8 (by omega) (by omega)]; exact hg x hx
    have hlt := hc.1 i hi
    unfold fX6_plain_B89 fX6_plain_J223
    simp only []
    rw [if_neg (show ¬ (64 : Int32) ≤ ci i by rw [cl_64, ci_le (by omega) (by omega)]; omega), zgR_ob h'.1 rfl, Option.bind_some, m_wg h' hg' hw hi, Option.bind_some]
    by_cases h0 : g i = 0
    · rw [if_pos (by rw [h0]; rfl), cl_1, ci_add]
      refine ⟨S', rfl, A', h', ?_, u', f'⟩
      rw [vpl, if_pos h0]; exact y'
    · have e9 : vpl g k v (i + 1) = ((vpl g k v i).1 + 1, vapp (vpl g k v i).2 (vpl g k v i).1 (pe (g i) i)) := by rw [vpl, if_neg h0]
      have hcnt : (vpl g k v i).1 < 40 := by
        have := vpl_1 (g := g) (k := k) (v := v) (i + 1)
        rw [e9] at this
        have := nz_mono (g := g) (show i + 1 ≤ 64 by omega)
        simp only [] at *
        omega
      have hplace : i / 16 < a ∧ i / 4 % 4 < b ∧ i % 4 < d := by
        apply Classical.byContradiction
        intro hh
        refine h0 ?_
        have := hc.2 (i / 16) (i / 4 % 4) (i % 4) (by omega) (by omega) (by omega) hh
        rw [show ix (i / 16) (i / 4 % 4) (i % 4) = i from by unfold ix; omega] at this
        exact this
      rw [if_neg (by rw [cl_0, ci_eq (by omega) (by omega)]; exact h0)]
      rw [zgR_ob h'.1 rfl, Option.bind_some, m_ct h' y', Option.bind_some, Option.bind_some, m_ct h' y', Option.bind_some, cl_1, ci_add]
      obtain ⟨S1, A1, f1, f2, f3, f4, f5⟩ := m_plainStep h' y' hcnt hi hlt hplace.1 hplace.2.1 hplace.2.2
      rw [f1]
      refine ⟨S1, rfl, A1, f2, ?_, u'.tr f4, f'.tr f5⟩
      rw [e9]; exact f3
  · rintro S' ⟨A', h', y', u', f'⟩
    refine ⟨(ci (vpl g k v 64).1, S'), ?_, S', A', rfl, h', y', u', f'⟩
    unfold fX6_plain_B89
    simp only []
    rw [if_pos (show (64 : Int32) ≤ ci 64 by decide), zgR_ob h'.1 rfl, Option.bind_some, m_ct h' y', Option.bind_some, zex_some]
