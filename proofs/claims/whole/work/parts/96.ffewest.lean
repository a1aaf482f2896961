/-! LAW CASES 18, 19: the fewest in the model -/
theorem and_pm {x n : Nat} : x &&& (2 ^ n - 1) = x % 2 ^ n := Nat.and_two_pow_sub_one_eq_mod x n
theorem ci_lz0 {x : Nat} (hx : x < 2147483648) : (ci x ≤ 0) ↔ x = 0 := by
  rw [cl_0, ci_le hx (by omega)]; omega
theorem ci_p2 {n : Nat} (hn : n < 31) : (1 : Int32) <<< (ci n &&& 31) = ci (2 ^ n) := by
  rw [cl_1, ci_shl (by omega), Nat.one_shiftLeft]
/-- the codes below n are done at the head -/
def dnC (a b d Q D n : Nat) (fr : Nat → Nat) : Prop := ∀ code, code < n → 0 < code % 2 ^ a → 0 < code / 2 ^ a % 2 ^ b → 0 < code / 2 ^ (a + b) → fr (Q ^^^ sgN a b d (code % 2 ^ a) (code / 2 ^ a % 2 ^ b) (code / 2 ^ (a + b))) ≠ 0 ∧ fr (Q ^^^ sgN a b d (code % 2 ^ a) (code / 2 ^ a % 2 ^ b) (code / 2 ^ (a + b))) ≤ D + 2
theorem dn_all {a b d Q D : Nat} {fr : Nat → Nat} (h : dnC a b d Q D (2 ^ (a + b + d)) fr) : ∀ s, SG a b d s → fr (Q ^^^ s) ≠ 0 ∧ fr (Q ^^^ s) ≤ D + 2 := by
  rintro s ⟨one, two, three, h1, h2, h3, rfl⟩
  have e2 : 2 ^ (a + b) = 2 ^ a * 2 ^ b := Nat.pow_add 2 a b
  have e3 : 2 ^ (a + b + d) = 2 ^ (a + b) * 2 ^ d := Nat.pow_add 2 (a + b) d
  have l1 : three * 2 ^ b + two < 2 ^ d * 2 ^ b := lt_mul h3.2 h2.2
  have l2 : (three * 2 ^ b + two) * 2 ^ a + one < 2 ^ d * 2 ^ b * 2 ^ a := lt_mul l1 h1.2
  have lc : (three * 2 ^ b + two) * 2 ^ a + one < 2 ^ (a + b + d) := by
    rw [e3, e2]
    have : 2 ^ a * 2 ^ b * 2 ^ d = 2 ^ d * 2 ^ b * 2 ^ a := by
      rw [Nat.mul_comm (2 ^ a * 2 ^ b), Nat.mul_comm (2 ^ a), Nat.mul_assoc]
    rw [this]; exact l2
  have c1 : ((three * 2 ^ b + two) * 2 ^ a + one) % 2 ^ a = one := md_mod h1.2
  have c2 : ((three * 2 ^ b + two) * 2 ^ a + one) / 2 ^ a = three * 2 ^ b + two := md_div h1.2
  have c3 : ((three * 2 ^ b + two) * 2 ^ a + one) / 2 ^ a % 2 ^ b = two := by rw [c2]; exact md_mod h2.2
  have c4 : ((three * 2 ^ b + two) * 2 ^ a + one) / 2 ^ (a + b) = three := by
    rw [e2, ← Nat.div_div_eq_div_mul, c2]; exact md_div h2.2
  have := h _ lc (by rw [c1]; exact h1.1) (by rw [c3]; exact h2.1) (by rw [c4]; exact h3.1)
  rw [c1, c3, c4] at this
  exact this
theorem m_codes2 {S S0 : ZS} {m c a b d L h aim : Nat} {R : Nat → Nat} {X : Nat → Int32} {A : Nat → Nat → Int32} {fr q dd g cs : Nat → Nat} (hz : szOK a b d) (hN : a * b * d ≤ 12) (ha : cs 0 = a) (hb : cs 1 = b) (hd : cs 2 = d) (hc : c < 16) (y : mCu A c cs g) (B : BI a b d fr q dd L h) (hL : h < L) (F : mBf m (a * b * d) R X A fr q L S0 S) : ∃ S1 fr' q' dd' L', ziter (fX6_fewest_B170 m (ci c) (ci a) (ci b) (ci d) (ci aim) (ci h)) zF (ci 0, S) = some (.inl (ci (h + 1), S1)) ∧ BI a b d fr' q' dd' L' (h + 1) ∧ h + 1 ≤ L' ∧ mBf m (a * b * d) R X A fr' q' L' S0 S1 := by
  have hz' := hz
  unfold szOK at hz'
  have h12 := p12 hN
  have hs : 2 ^ (a + b + d) ≤ 4096 := Nat.pow_le_pow_right (by omega) (show a + b + d ≤ 12 by omega)
  have hsa : 2 ^ a ≤ 625 := p2_le hz'.1.2
  have hsb : 2 ^ b ≤ 625 := p2_le hz'.2.1.2
  have pa : 0 < 2 ^ a := Nat.pow_pos (by omega)
  have pb : 0 < 2 ^ b := Nat.pow_pos (by omega)
  have := ziter_for (body := fX6_fewest_B170 m (ci c) (ci a) (ci b) (ci d) (ci aim) (ci h)) (fun n S' => ∃ fr' q' dd' L', BI a b d fr' q' dd' L' h ∧ h < L' ∧ q' h = q h ∧ dd' h = dd h ∧ mBf m (a * b * d) R X A fr' q' L' S0 S' ∧ dnC a b d (q h) (dd h) n fr') (fun r => ∃ S1 fr' q' dd' L', r = .inl (ci (h + 1), S1) ∧ BI a b d fr' q' dd' L' (h + 1) ∧ h + 1 ≤ L' ∧ mBf m (a * b * d) R X A fr' q' L' S0 S1) (2 ^ (a + b + d)) ?_ ?_ (2 ^ (a + b + d)) 0 zF S (by omega) (by rw [zF_eq]; omega) ⟨fr, q, dd, L, B, hL, rfl, rfl, F, fun code hcd => absurd hcd (Nat.not_lt_zero _)⟩
  · obtain ⟨r, h1, S1, fr', q', dd', L', rfl, h2⟩ := this
    exact ⟨S1, fr', q', dd', L', h1, h2⟩
  · rintro code S' hcd ⟨fr', q', dd', L', B', hL', hq', hd', F', dn⟩
    have e3 : 2 ^ (a + b + d) = 2 ^ (a + b) * 2 ^ d := Nat.pow_add 2 (a + b) d
    have m1 := Nat.mod_lt code pa
    have m2 := Nat.mod_lt (code / 2 ^ a) pb
    have m3 : code / 2 ^ (a + b) < 2 ^ d := Nat.div_lt_of_lt_mul (by rw [← e3]; exact hcd)
    have c1 : ci code &&& ((1 : Int32) <<< (ci a &&& 31) - (1 : Int32)) = ci (code % 2 ^ a) := by
      rw [ci_p2 (by omega), cl_1, ci_sub (by omega), ci_and, and_pm]
    have c2 : (ci code >>> (ci a &&& 31)) &&& ((1 : Int32) <<< (ci b &&& 31) - (1 : Int32)) = ci (code / 2 ^ a % 2 ^ b) := by
      rw [ci_p2 (by omega), cl_1, ci_sub (by omega), ci_sshr (by omega) (by omega), ci_and, and_pm, Nat.shiftRight_eq_div_pow]
    have c3 : ci code >>> ((ci a + ci b) &&& 31) = ci (code / 2 ^ (a + b)) := by
      rw [ci_add, ci_sshr (by omega) (by omega), Nat.shiftRight_eq_div_pow]
    have c4 : (1 : Int32) <<< (((ci a + ci b) + ci d) &&& 31) = ci (2 ^ (a + b + d)) := by
      rw [ci_add, ci_add, ci_p2 (by omega)]
    have l1 := Nat.div_le_self code (2 ^ a)
    have skip : ∀ (hn : ¬ (0 < code % 2 ^ a ∧ 0 < code / 2 ^ a % 2 ^ b ∧ 0 < code / 2 ^ (a + b))), dnC a b d (q h) (dd h) (code + 1) fr' := fun hn cd hcd2 g1 g2 g3 => by
      by_cases hh : cd = code
      · subst hh; exact absurd ⟨g1, g2, g3⟩ hn
      · exact dn cd (by omega) g1 g2 g3
    by_cases z1 : code % 2 ^ a = 0
    · refine ⟨S', ?_, fr', q', dd', L', B', hL', hq', hd', F', skip (by omega)⟩
      unfold fX6_fewest_B170 fX6_fewest_J258
      simp only []
      rw [c4, if_neg (by rw [ci_le (by omega) (by omega)]; omega), c1, if_pos ((ci_lz0 (by omega)).mpr z1), cl_1, ci_add]
    · by_cases z2 : code / 2 ^ a % 2 ^ b = 0
      · refine ⟨S', ?_, fr', q', dd', L', B', hL', hq', hd', F', skip (by omega)⟩
        unfold fX6_fewest_B170 fX6_fewest_J258
        simp only []
        rw [c4, if_neg (by rw [ci_le (by omega) (by omega)]; omega), c1, if_neg (fun hh => z1 ((ci_lz0 (by omega)).mp hh)), c2, if_pos ((ci_lz0 (by omega)).mpr z2), cl_1, ci_add]
      · by_cases z3 : code / 2 ^ (a + b) = 0
        · refine ⟨S', ?_, fr', q', dd', L', B', hL', hq', hd', F', skip (by omega)⟩
          unfold fX6_fewest_B170 fX6_fewest_J258
          simp only []
          rw [c4, if_neg (by rw [ci_le (by omega) (by omega)]; omega), c1, if_neg (fun hh => z1 ((ci_lz0 (by omega)).mp hh)), c2, if_neg (fun hh => z2 ((ci_lz0 (by omega)).mp hh)), c3, if_pos ((ci_lz0 (by omega)).mpr z3), cl_1, ci_add]
        · have p1 : 0 < code % 2 ^ a := Nat.pos_of_ne_zero z1
          have p2 : 0 < code / 2 ^ a % 2 ^ b := Nat.pos_of_ne_zero z2
          have p3 : 0 < code / 2 ^ (a + b) := Nat.pos_of_ne_zero z3
          have l3 := Nat.div_le_self code (2 ^ (a + b))
          obtain ⟨S1, fr2, q2, dd2, L2, k1, k2, k3, k4, k5, k6, k7, k8⟩ := m_learn (one := code % 2 ^ a) (two := code / 2 ^ a % 2 ^ b) (three := code / 2 ^ (a + b)) hz'.2.1.1 hz'.2.2.1 hN B' hL' F' ⟨p1, m1⟩ ⟨p2, m2⟩ ⟨p3, m3⟩
          rw [hq'] at k1 k4 k7
          rw [hd'] at k5 k7
          refine ⟨S1, ?_, fr2, q2, dd2, L2, k2, k3, k4, k5, k6, fun cd hcd2 g1 g2 g3 => ?_⟩
          · obtain ⟨A', f1, f2, f3, f4, f5⟩ := F'
            have y' : mCu A' c cs g := ⟨fun s hs => by rw [f2 3 (by omega) (by omega)]; exact y.1 s hs, fun x hx => by rw [f2 4 (by omega) (by omega)]; exact y.2.1 x hx, by rw [f2 5 (by omega) (by omega)]; exact y.2.2⟩
            have hLl : L' ≤ 2 ^ (a * b * d) := by
              have := sm_le (n := 2 ^ (a * b * d)) (b := 1) (f := kn fr') (fun k _ => by unfold kn; split <;> omega)
              have := B'.1
              omega
            have rq : zaI S' (R 14) 0 (ci h) = some (ci (q h)) := by
              rw [f1.rd A14i (by rw [N14]; omega), f4 h hL', hq']
            have sg := m_single (one := code % 2 ^ a) (two := code / 2 ^ a % 2 ^ b) (three := code / 2 ^ (a + b)) f1 y' hc (by rw [ha, hb, hd]; exact hz) (by rw [ha, hb, hd]; exact hN) (by rw [ha]; exact m1) (by rw [hb]; exact m2) (by rw [hd]; exact m3)
            rw [ha, hb, hd] at sg
            unfold fX6_fewest_B170 fX6_fewest_J258
            simp only []
            rw [c4, if_neg (by rw [ci_le (by omega) (by omega)]; omega), c1, if_neg (fun hh => z1 ((ci_lz0 (by omega)).mp hh)), c2, if_neg (fun hh => z2 ((ci_lz0 (by omega)).mp hh)), c3, if_neg (fun hh => z3 ((ci_lz0 (by omega)).mp hh)), zgR_ob f1.1 rfl, Option.bind_some, rq, Option.bind_some, Option.bind_some, rq, Option.bind_some, f1.cl, sg, Option.bind_some, f1.cl, ci_xor, k1, Option.bind_some, cl_1, ci_add]
          · by_cases hh : cd = code
            · subst hh; exact k7
            · obtain ⟨w1, w2⟩ := dn cd (by omega) g1 g2 g3
              rw [k8 _ w1]; exact ⟨w1, w2⟩
  · rintro S' ⟨fr', q', dd', L', B', hL', hq', hd', F', dn⟩
    have c4 : (1 : Int32) <<< (((ci a + ci b) + ci d) &&& 31) = ci (2 ^ (a + b + d)) := by
      rw [ci_add, ci_add, ci_p2 (by omega)]
    refine ⟨.inl (ci (h + 1), S'), ?_, S', fr', q', dd', L', rfl, BI_next B' hL' (by rw [hq', hd']; exact dn_all dn), hL', F'⟩
    unfold fX6_fewest_B170
    simp only []
    rw [c4, if_pos (by rw [ci_le (by omega) (by omega)]; omega), cl_1, ci_add, zex_some]
theorem m_heads {S0 : ZS} {m c a b d aim : Nat} {R : Nat → Nat} {X : Nat → Int32} {A : Nat → Nat → Int32} {g cs : Nat → Nat} (hz : szOK a b d) (hN : a * b * d ≤ 12) (ha : cs 0 = a) (hb : cs 1 = b) (hd : cs 2 = d) (hc : c < 16) (y : mCu A c cs g) (haim : aim < 2 ^ (a * b * d)) : ∀ (r h M : Nat) (S : ZS) (fr q dd : Nat → Nat) (L : Nat), h + r = 2 ^ (a * b * d) → r < M → BI a b d fr q dd L h → h ≤ L → mBf m (a * b * d) R X A fr q L S0 S → ∃ S1 D A1 X1, ziter (fX6_fewest_B147 m (ci c) (ci a) (ci b) (ci d) (ci aim)) M (ci h, S) = some (ci D, S1) ∧ Rch a b d D (tb aim) ∧ (∀ k, Rch a b d k (tb aim) → D ≤ k) ∧ zMo S1 m R X1 A1 ∧ (∀ i, i ≠ 15 → X1 i = X i) ∧ (∀ j, j ≠ 13 → j ≠ 14 → A1 j = A j) ∧ zFrm S0 S1 (mP m R) := by
  have hz' := hz
  unfold szOK at hz'
  have h12 := p12 hN
  have hre : ∃ n, Rch a b d n (tb aim) := by
    obtain ⟨n, _, n2⟩ := Rch_ex (T := tb aim) hz'.2.1.1 hz'.2.2.1 (a * b * d) (Nat.le_refl _) (fun t h1 h2 => by omega)
    exact ⟨n, n2⟩
  have stop : ∀ (h : Nat) (S : ZS) (fr q dd : Nat → Nat) (L : Nat), BI a b d fr q dd L h → mBf m (a * b * d) R X A fr q L S0 S → (L ≤ h ∨ fr aim ≠ 0) → ∃ D A1 X1, fX6_fewest_J270 m (ci aim) S = some (ci D, S) ∧ Rch a b d D (tb aim) ∧ (∀ k, Rch a b d k (tb aim) → D ≤ k) ∧ zMo S m R X1 A1 ∧ (∀ i, i ≠ 15 → X1 i = X i) ∧ (∀ j, j ≠ 13 → j ≠ 14 → A1 j = A j) ∧ zFrm S0 S (mP m R) := by
    intro h S fr q dd L B F hst
    obtain ⟨D, d1, d2, d3⟩ := BI_end hz'.2.1.1 hz'.2.2.1 B haim hst hre
    obtain ⟨A', f1, f2, f3, f4, f5⟩ := F
    refine ⟨D, A', _, ?_, d2, d3, f1, fun i hi => if_neg hi, f2, f5⟩
    unfold fX6_fewest_J270
    rw [zgR_ob f1.1 rfl, Option.bind_some, f1.rd A13i (by rw [N13]; omega), f3 _ haim, d1, Option.bind_some]
    show some (if D + 1 = 0 then (-1 : Int32) else ci (D + 1 - 1), S) = _
    rw [if_neg (by omega), Nat.add_sub_cancel]
  intro r
  induction r with
  | zero =>
    intro h M S fr q dd L hr hM B hL F
    obtain ⟨M, rfl⟩ : ∃ M', M = M' + 1 := ⟨M - 1, by omega⟩
    have hLl : L ≤ 2 ^ (a * b * d) := by
      have := sm_le (n := 2 ^ (a * b * d)) (b := 1) (f := kn fr) (fun k _ => by unfold kn; split <;> omega)
      have := B.1
      omega
    obtain ⟨D, A1, X1, s1, s2⟩ := stop h S fr q dd L B F (Or.inl (by omega))
    refine ⟨S, D, A1, X1, ?_, s2⟩
    rw [ziter_0]
    obtain ⟨A', f1, _⟩ := F
    unfold fX6_fewest_B147
    simp only []
    rw [zgI_ob f1.1 rfl, Option.bind_some, show mX X 15 (ci L) 15 = ci L from rfl, if_pos (by rw [ci_le (by omega) (by omega)]; omega), s1, zex_some]
  | succ r ih =>
    intro h M S fr q dd L hr hM B hL F
    obtain ⟨M, rfl⟩ : ∃ M', M = M' + 1 := ⟨M - 1, by omega⟩
    have hLl : L ≤ 2 ^ (a * b * d) := by
      have := sm_le (n := 2 ^ (a * b * d)) (b := 1) (f := kn fr) (fun k _ => by unfold kn; split <;> omega)
      have := B.1
      omega
    have F' := F
    obtain ⟨A', f1, f2, f3, f4, f5⟩ := F'
    by_cases h1 : L ≤ h
    · obtain ⟨D, A1, X1, s1, s2⟩ := stop h S fr q dd L B F (Or.inl h1)
      refine ⟨S, D, A1, X1, ?_, s2⟩
      rw [ziter_0]
      unfold fX6_fewest_B147
      simp only []
      rw [zgI_ob f1.1 rfl, Option.bind_some, show mX X 15 (ci L) 15 = ci L from rfl, if_pos (by rw [ci_le (by omega) (by omega)]; omega), s1, zex_some]
    · have rd : zaI S (R 13) 0 (ci aim) = some (fI (fr aim)) := by
        rw [f1.rd A13i (by rw [N13]; omega), f3 _ haim]
      by_cases h2 : fr aim = 0
      · obtain ⟨S1, fr', q', dd', L', k1, k2, k3, k4⟩ := m_codes2 (aim := aim) hz hN ha hb hd hc y B (by omega) F
        have st : fX6_fewest_B147 m (ci c) (ci a) (ci b) (ci d) (ci aim) (ci h, S) = some (.inl (ci (h + 1), S1)) := by
          unfold fX6_fewest_B147
          simp only []
          rw [zgI_ob f1.1 rfl, Option.bind_some, show mX X 15 (ci L) 15 = ci L from rfl, if_neg (by rw [ci_le (by omega) (by omega)]; omega), zgR_ob f1.1 rfl, Option.bind_some, rd, Option.bind_some, h2, if_pos (show fI 0 = (-1 : Int32) from rfl), cl_0]
          exact k1
        rw [ziter_1 st]
        exact ih (h + 1) M S1 fr' q' dd' L' (by omega) (by omega) k2 k3 k4
      · obtain ⟨D, A1, X1, s1, s2⟩ := stop h S fr q dd L B F (Or.inr h2)
        have hdd : fr aim < 2147483648 := by
          obtain ⟨i, i1, i2⟩ := B.2.2.1 aim haim h2
          have := (B.2.1 i i1).2
          have := BI_dd hz'.2.1.1 hz'.2.2.1 B i1
          rw [i2] at *
          omega
        refine ⟨S, D, A1, X1, ?_, s2⟩
        rw [ziter_0]
        unfold fX6_fewest_B147
        simp only []
        rw [zgI_ob f1.1 rfl, Option.bind_some, show mX X 15 (ci L) 15 = ci L from rfl, if_neg (by rw [ci_le (by omega) (by omega)]; omega), zgR_ob f1.1 rfl, Option.bind_some, rd, Option.bind_some, show fI (fr aim) = ci (fr aim - 1) from if_neg h2, if_neg (ci_m1ne (by omega)), s1, zex_some]
theorem BI_0 {a b d : Nat} : BI a b d (fun x => if x = 0 then 1 else 0) (fun _ => 0) (fun _ => 0) 1 0 := by
  have hp : 0 < 2 ^ (a * b * d) := Nat.pow_pos (by omega)
  refine ⟨?_, fun i hi => ⟨hp, if_pos rfl⟩, fun x hx hf => ⟨0, by omega, ?_⟩, fun i j _ _ => Nat.le_refl 0, fun i hi t ht => ?_, ⟨by omega, rfl, rfl⟩, fun i hi => absurd hi (Nat.not_lt_zero _), fun _ i hi => by show 0 ≤ 0 + 1; omega⟩
  · have : sm (2 ^ (a * b * d)) (kn (fun x => if x = 0 then 1 else 0)) = sm (2 ^ (a * b * d)) (fun e => if e = 0 then 1 else 0) := sm_congr (fun k _ => by
      unfold kn
      by_cases hk : k = 0
      · subst hk; rfl
      · simp [hk])
    rw [this, sm_single hp]
  · apply Classical.byContradiction
    intro hh
    exact hf (if_neg (fun e => hh e.symm))
  · unfold tb; rw [Nat.zero_testBit]
theorem m_fewest {S : ZS} {m c : Nat} {R : Nat → Nat} {X : Nat → Int32} {A : Nat → Nat → Int32} {cs g : Nat → Nat} (h : zMo S m R X A) (y : mCu A c cs g) (hc : c < 16) (hz : szOK (cs 0) (cs 1) (cs 2)) (hN : cs 0 * cs 1 * cs 2 ≤ 12) (hg : cOK 2 (cs 0) (cs 1) (cs 2) g) : ∃ S1 D A1 X1, fX6_fewest m (ci c) S = some (ci D, S1) ∧ Rch (cs 0) (cs 1) (cs 2) D (tGc (cs 1) (cs 2) g) ∧ (∀ k, Rch (cs 0) (cs 1) (cs 2) k (tGc (cs 1) (cs 2) g) → D ≤ k) ∧ zMo S1 m R X1 A1 ∧ (∀ i, i ≠ 15 → X1 i = X i) ∧ (∀ j, j ≠ 13 → j ≠ 14 → A1 j = A j) ∧ zFrm S S1 (mP m R) := by
  obtain ⟨a, ha⟩ : ∃ a, cs 0 = a := ⟨_, rfl⟩
  obtain ⟨b, hb⟩ : ∃ b, cs 1 = b := ⟨_, rfl⟩
  obtain ⟨d, hd⟩ : ∃ d, cs 2 = d := ⟨_, rfl⟩
  have r0 := m_cs0 h y hc
  have r1 := m_cs1 h y hc
  have r2 := m_cs2 h y hc
  rw [ha] at hz hN hg r0 ⊢
  rw [hb] at hz hN hg r1 ⊢
  rw [hd] at hz hN hg r2 ⊢
  have hz' := hz
  unfold szOK at hz'
  have h12 := p12 hN
  have hp0 : 0 < 2 ^ (a * b * d) := Nat.pow_pos (by omega)
  have haim : msk (a * b * d) (tGc b d g) < 2 ^ (a * b * d) := msk_lt
  have rcg : ∀ n, Rch a b d n (tb (msk (a * b * d) (tGc b d g))) ↔ Rch a b d n (tGc b d g) := fun n => ⟨fun hh => Rch_cg n _ _ (fun t ht => tb_msk ht) hh, fun hh => Rch_cg n _ _ (fun t ht => (tb_msk ht).symm) hh⟩
  have e1 : (1 : Int32) <<< ((ci a * ci b * ci d) &&& 31) = ci (2 ^ (a * b * d)) := by
    rw [ci_mul, ci_mul, ci_p2 (by omega)]
  -- far, and the search
  have l2 : ∃ S1 D A1 X1, ziter (fX6_fewest_B98 m (ci c) (ci a) (ci b) (ci d) (ci (msk (a * b * d) (tGc b d g)))) zF (ci 0, S) = some (ci D, S1) ∧ Rch a b d D (tGc b d g) ∧ (∀ k, Rch a b d k (tGc b d g) → D ≤ k) ∧ zMo S1 m R X1 A1 ∧ (∀ i, i ≠ 15 → X1 i = X i) ∧ (∀ j, j ≠ 13 → j ≠ 14 → A1 j = A j) ∧ zFrm S S1 (mP m R) := by
    have := ziter_for (body := fX6_fewest_B98 m (ci c) (ci a) (ci b) (ci d) (ci (msk (a * b * d) (tGc b d g)))) (fun k S' => ∃ A', zMo S' m R X A' ∧ (∀ j, j ≠ 13 → j ≠ 14 → A' j = A j) ∧ (∀ x, x < k → A' 13 x = (-1 : Int32)) ∧ zFrm S S' (mP m R)) (fun r => ∃ S1 D A1 X1, r = (ci D, S1) ∧ Rch a b d D (tGc b d g) ∧ (∀ k, Rch a b d k (tGc b d g) → D ≤ k) ∧ zMo S1 m R X1 A1 ∧ (∀ i, i ≠ 15 → X1 i = X i) ∧ (∀ j, j ≠ 13 → j ≠ 14 → A1 j = A j) ∧ zFrm S S1 (mP m R)) (2 ^ (a * b * d)) ?_ ?_ (2 ^ (a * b * d)) 0 zF S (by omega) (by rw [zF_eq]; omega) ⟨A, h, fun _ _ _ => rfl, fun x hx => absurd hx (Nat.not_lt_zero _), zFrm.rf⟩
    · obtain ⟨r, h1, S1, D, A1, X1, rfl, h2⟩ := this
      exact ⟨S1, D, A1, X1, h1, h2⟩
    · rintro k S' hk ⟨A', f1, f2, f3, f4⟩
      have t1 := f1.set A13i (va_up (A' 13) k (-1 : Int32))
      refine ⟨_, ?_, _, t1.1, fun j j1 j2 => (mS_ne j1).trans (f2 j j1 j2), fun x hx => ?_, f4.tr (t1.2.wk (fun b hb => Or.inr (Or.inr ⟨13, A13i, hb⟩)))⟩
      · unfold fX6_fewest_B98
        simp only []
        rw [e1, if_neg (by rw [ci_le (by omega) (by omega)]; omega), zgR_ob f1.1 rfl, Option.bind_some, f1.wr A13i (by rw [N13]; omega), Option.bind_some, show ci k + (1 : Int32) = ci (k + 1) by rw [cl_1, ci_add]]
      · rw [mS_self]
        unfold va_up
        by_cases hxk : x = k
        · rw [if_pos hxk]
        · rw [if_neg hxk]; exact f3 x (by omega)
    · rintro S' ⟨A', f1, f2, f3, f4⟩
      have t1 := f1.set A13i (va_up (A' 13) 0 (ci 0))
      have t2 := t1.1.set A14i (va_up (A' 14) 0 (ci 0))
      have t3 := t2.1.sx (X' := mX X 15 (ci 1))
      have F0 : mBf m (a * b * d) R X A (fun x => if x = 0 then 1 else 0) (fun _ => 0) 1 S (zwO (zwI (zwI S' (R 13) (mN 13) (va_up (A' 13) 0 (ci 0))) (R 14) (mN 14) (va_up (A' 14) 0 (ci 0))) m 6 (mF R (mX X 15 (ci 1)))) := ⟨_, t3.1, fun j j1 j2 => by rw [mS_ne j2, mS_ne j1]; exact f2 j j1 j2, fun x hx => by
        rw [mS_ne (by omega), mS_self]
        unfold va_up
        by_cases hx0 : x = 0
        · rw [if_pos hx0]
          show _ = fI (if x = 0 then 1 else 0)
          rw [if_pos hx0]; rfl
        · rw [if_neg hx0, f3 x hx]
          show _ = fI (if x = 0 then 1 else 0)
          rw [if_neg hx0]; rfl, fun i hi => by
        rw [mS_self]
        unfold va_up
        rw [if_pos (by omega)], ((f4.tr (t1.2.wk (fun b hb => Or.inr (Or.inr ⟨13, A13i, hb⟩)))).tr (t2.2.wk (fun b hb => Or.inr (Or.inr ⟨14, A14i, hb⟩)))).tr (t3.2.wk (fun _ => Or.inl))⟩
      obtain ⟨S1, D, A1, X1, k1, k2, k3, k4⟩ := m_heads (S0 := S) hz hN ha hb hd hc y haim (2 ^ (a * b * d)) 0 zF _ _ _ _ 1 (by omega) (by rw [zF_eq]; omega) BI_0 (by omega) F0
      refine ⟨(ci D, S1), ?_, S1, D, A1, X1, rfl, (rcg D).mp k2, fun k hk => k3 k ((rcg k).mpr hk), k4⟩
      unfold fX6_fewest_B98
      simp only []
      rw [e1, if_pos (by rw [ci_le (by omega) (by omega)]; omega), zgR_ob f1.1 rfl, Option.bind_some, cl_0, f1.wr A13i (by rw [N13]; omega), Option.bind_some, zgR_ob t1.1.1 rfl, Option.bind_some, t1.1.wr A14i (by rw [N14]; omega), mS_ne (by omega), Option.bind_some, zpF_ob _ t2.1.1 (show 15 < (mF R X).length by unfold mF; simp), Option.bind_some]
      show zex (ziter (fX6_fewest_B147 m (ci c) (ci a) (ci b) (ci d) (ci (msk (a * b * d) (tGc b d g)))) zF (ci 0, zwO (zwI (zwI S' (R 13) (mN 13) (va_up (A' 13) 0 (ci 0))) (R 14) (mN 14) (va_up (A' 14) 0 (ci 0))) m 6 (mF R (mX X 15 (ci 1))))) = _
      rw [k1, zex_some]
  obtain ⟨S1, D, A1, X1, k1, k2⟩ := l2
  refine ⟨S1, D, A1, X1, ?_, k2⟩
  unfold fX6_fewest
  rw [zgR_ob h.1 rfl, Option.bind_some, r0, Option.bind_some, Option.bind_some, r1, Option.bind_some, Option.bind_some, r2, Option.bind_some]
  show ziter _ zF (ci (msk 0 (tGc b d g)), ci 0) = _
  refine ziter_seq (fun t => (ci (msk t (tGc b d g)), ci t)) _ (a * b * d) zF (by rw [zF_eq]; omega) (fun t ht => ?_) ?_
  · have hi : t / d / b < a := Nat.div_lt_of_lt_mul (Nat.div_lt_of_lt_mul (by
      rw [Nat.mul_comm d, Nat.mul_comm b]
      exact ht))
    have hj := Nat.mod_lt (t / d) (show 0 < b by omega)
    have hk := Nat.mod_lt t (show 0 < d by omega)
    have l1 := Nat.div_le_self t d
    have l2 := Nat.div_le_self (t / d) b
    have hx := ix_lt (i := t / d / b) (j := t / d % b) (k := t % d) (by omega) (by omega) (by omega)
    have hgl := hg.lt hx
    have rd : zaI S (R 4) 0 ((64 : Int32) * ci c + ci (ix (t / d / b) (t / d % b) (t % d))) = some (ci (g (ix (t / d / b) (t / d % b) (t % d)))) := m_num h y hc hx
    unfold fX6_fewest_B38
    simp only []
    rw [ci_mul, ci_mul, if_neg (by rw [ci_le (by omega) (by omega)]; omega), zgR_ob h.1 rfl, Option.bind_some, z_div (by omega) (by omega) (by omega), Option.bind_some, z_div (by omega) (by omega) (by omega), Option.bind_some, Option.bind_some, z_rem (by omega) (by omega) (by omega), Option.bind_some, z_rem (by omega) (by omega) (by omega), Option.bind_some, m_place, Option.bind_some, rd, Option.bind_some, ci_shl (by omega), ci_or, cl_1, ci_add]
    have e : g (ix (t / d / b) (t / d % b) (t % d)) <<< t = if tGc b d g t = true then 2 ^ t else 0 := by
      unfold tGc
      by_cases h1 : g (ix (t / d / b) (t / d % b) (t % d)) = 1
      · rw [decide_eq_true h1, if_pos rfl, h1, Nat.one_shiftLeft]
      · rw [decide_eq_false h1, if_neg (by decide), show g (ix (t / d / b) (t / d % b) (t % d)) = 0 by omega, Nat.zero_shiftLeft]
    rw [e, msk_snoc]
  · unfold fX6_fewest_B38
    simp only []
    rw [ci_mul, ci_mul, if_pos (by rw [ci_le (by omega) (by omega)]; omega), cl_0, k1, zex_some]
