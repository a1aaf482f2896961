/-! LAW CASES 18, 19: the class gathers the singles, and searches -/
def cn5 : Bool := allB 5 (fun a => allB 5 (fun b => allB 5 (fun d => decide (12 < a * b * d) || decide (cnF a b d ≤ 105))))
theorem cn5_t : cn5 = true := by decide +kernel
theorem cnF_le {a b d : Nat} (hz : szOK a b d) (hN : a * b * d ≤ 12) : cnF a b d ≤ 105 := by
  unfold szOK at hz
  have h := allB_at (allB_at (allB_at (show allB 5 _ = true from cn5_t) (show a < 5 by omega)) (show b < 5 by omega)) (show d < 5 by omega)
  rw [decide_eq_false (show ¬ 12 < a * b * d by omega), Bool.false_or, decide_eq_true_eq] at h
  exact h
theorem zCu.se {S S1 : ZS} {c n a b d q se sg mk N e : Nat} {g : Nat → Nat} {K : Nat → Nat → Bool} (h : zCu S c n a b d q g) (z : zSe S se sg mk N K e) (hf : zFrm S S1 (pSe se sg mk)) : zCu S1 c n a b d q g := by
  obtain ⟨h1, ⟨F, h2, _⟩, G, h4, _⟩ := z
  exact h.kp (hf.2 _ (fun hh => by
    rcases hh with hh | hh | hh
    · exact ne_oo h.1 h1 (by omega) hh
    · exact ne_oi h.1 h2 hh
    · exact ne_oj h.1 h4 hh)) (hf.2 _ (fun hh => by
    rcases hh with hh | hh | hh
    · exact ne_oi h1 h.2 hh.symm
    · exact ne_ii h.2 h2 (by omega) hh
    · exact ne_ij h.2 h4 hh))
theorem p2_le {n : Nat} (hn : n ≤ 4) : 2 ^ n ≤ 625 := isP.pow (Or.inl rfl) hn
theorem c_ga3 {S : ZS} {se sg mk c n a b d q f s : Nat} {g : Nat → Nat} (hz : szOK a b d) (hN : a * b * d ≤ 12) (hf : f < 2 ^ a - 1) (hs : s < 2 ^ b - 1) (z : zSe S se sg mk (a * b * d) (Kc a b d) ((f * (2 ^ b - 1) + s) * (2 ^ d - 1) + 0)) (h : zCu S c n a b d q g) : ∃ S1, ziter (fX2_gatherSingles_B59 se c (ci (f + 1)) (ci (s + 1))) zF (ci 1, S) = some (.inl (ci (s + 1 + 1), S1)) ∧ zSe S1 se sg mk (a * b * d) (Kc a b d) ((f * (2 ^ b - 1) + (s + 1)) * (2 ^ d - 1) + 0) ∧ zCu S1 c n a b d q g ∧ zFrm S S1 (pSe se sg mk) := by
  have hz' := hz
  unfold szOK at hz'
  have p3 := pow1 hz'.2.2.1
  have q1 := p2_le hz'.1.2
  have q2 := p2_le hz'.2.1.2
  have q3 := p2_le hz'.2.2.2
  have hc := cnF_le hz hN
  have := ziter_for (body := fX2_gatherSingles_B59 se c (ci (f + 1)) (ci (s + 1))) (fun u S' => (1 ≤ u ∧ u ≤ 2 ^ d) ∧ (zSe S' se sg mk (a * b * d) (Kc a b d) ((f * (2 ^ b - 1) + s) * (2 ^ d - 1) + (u - 1)) ∧ zCu S' c n a b d q g) ∧ zFrm S S' (pSe se sg mk)) (fun r => ∃ S1, r = .inl (ci (s + 1 + 1), S1) ∧ zSe S1 se sg mk (a * b * d) (Kc a b d) ((f * (2 ^ b - 1) + (s + 1)) * (2 ^ d - 1) + 0) ∧ zCu S1 c n a b d q g ∧ zFrm S S1 (pSe se sg mk)) (2 ^ d) ?_ ?_ (2 ^ d - 1) 1 zF S (by omega) (by rw [zF_eq]; omega) ⟨⟨Nat.le_refl 1, by omega⟩, ⟨z, h⟩, zFrm.rf⟩
  · obtain ⟨r, h1, S1, rfl, h2⟩ := this
    exact ⟨S1, h1, h2⟩
  · rintro u S' hu ⟨⟨u1, _⟩, ⟨y, hcu⟩, hfr⟩
    have l1 := lt_mul (r := f) (s := s) (a := 2 ^ a - 1) (b := 2 ^ b - 1) hf hs
    have l2 := lt_mul (r := f * (2 ^ b - 1) + s) (s := u - 1) (a := (2 ^ a - 1) * (2 ^ b - 1)) (b := 2 ^ d - 1) l1 (by omega)
    have l3 : (f * (2 ^ b - 1) + s) * (2 ^ d - 1) + (u - 1) < 105 := Nat.lt_of_lt_of_le l2 hc
    have hb := c_bits1 hcu hz (f := f + 1) (s := s + 1) (u := u) (by omega) (by omega) hu
    have hk := Kc_at (a := a) (b := b) (d := d) (f := f) (s := s) (t := u - 1) hs (by omega)
    rw [show u - 1 + 1 = u by omega] at hk
    rw [← hk] at hb
    obtain ⟨S1, a1, a2, a3⟩ := c_addSingle y hN l3
    refine ⟨S1, ?_, ⟨by omega, by omega⟩, ⟨?_, hcu.se y a3⟩, hfr.tr a3⟩
    · unfold fX2_gatherSingles_B59
      simp only []
      rw [zgI_ob hcu.1 rfl, Option.bind_some, cl_2, g_power (by omega), Option.bind_some, if_neg (by rw [ci_le (by omega) (by omega)]; omega), hb, Option.bind_some, a1, Option.bind_some, cl_1, ci_add]
    · rw [show u + 1 - 1 = u - 1 + 1 by omega]; exact a2
  · rintro S' ⟨_, ⟨y, hcu⟩, hfr⟩
    refine ⟨.inl (ci (s + 1 + 1), S'), ?_, S', rfl, ?_, hcu, hfr⟩
    · unfold fX2_gatherSingles_B59
      simp only []
      rw [zgI_ob hcu.1 rfl, Option.bind_some, cl_2, g_power (by omega), Option.bind_some, if_pos (by rw [ci_le (by omega) (by omega)]; omega), cl_1, ci_add, zex_some]
    · rw [Nat.add_zero, show (f * (2 ^ b - 1) + (s + 1)) * (2 ^ d - 1) = (f * (2 ^ b - 1) + s) * (2 ^ d - 1) + (2 ^ d - 1) by rw [← Nat.succ_mul]; rfl]; exact y
theorem c_ga2 {S : ZS} {se sg mk c n a b d q f : Nat} {g : Nat → Nat} (hz : szOK a b d) (hN : a * b * d ≤ 12) (hf : f < 2 ^ a - 1) (z : zSe S se sg mk (a * b * d) (Kc a b d) ((f * (2 ^ b - 1) + 0) * (2 ^ d - 1) + 0)) (h : zCu S c n a b d q g) : ∃ S1, ziter (fX2_gatherSingles_B44 se c (ci (f + 1))) zF (ci 1, S) = some (.inl (ci (f + 1 + 1), S1)) ∧ zSe S1 se sg mk (a * b * d) (Kc a b d) (((f + 1) * (2 ^ b - 1) + 0) * (2 ^ d - 1) + 0) ∧ zCu S1 c n a b d q g ∧ zFrm S S1 (pSe se sg mk) := by
  have hz' := hz
  unfold szOK at hz'
  have p2 := pow1 hz'.2.1.1
  have q1 := p2_le hz'.1.2
  have q2 := p2_le hz'.2.1.2
  have := ziter_for (body := fX2_gatherSingles_B44 se c (ci (f + 1))) (fun s S' => (1 ≤ s ∧ s ≤ 2 ^ b) ∧ (zSe S' se sg mk (a * b * d) (Kc a b d) ((f * (2 ^ b - 1) + (s - 1)) * (2 ^ d - 1) + 0) ∧ zCu S' c n a b d q g) ∧ zFrm S S' (pSe se sg mk)) (fun r => ∃ S1, r = .inl (ci (f + 1 + 1), S1) ∧ zSe S1 se sg mk (a * b * d) (Kc a b d) (((f + 1) * (2 ^ b - 1) + 0) * (2 ^ d - 1) + 0) ∧ zCu S1 c n a b d q g ∧ zFrm S S1 (pSe se sg mk)) (2 ^ b) ?_ ?_ (2 ^ b - 1) 1 zF S (by omega) (by rw [zF_eq]; omega) ⟨⟨Nat.le_refl 1, by omega⟩, ⟨z, h⟩, zFrm.rf⟩
  · obtain ⟨r, h1, S1, rfl, h2⟩ := this
    exact ⟨S1, h1, h2⟩
  · rintro s S' hs ⟨⟨s1, _⟩, ⟨y, hcu⟩, hfr⟩
    obtain ⟨S1, a1, a2, a3, a4⟩ := c_ga3 (s := s - 1) hz hN hf (by omega) y hcu
    rw [show s - 1 + 1 = s by omega] at a1 a2
    refine ⟨S1, ?_, ⟨by omega, by omega⟩, ⟨?_, a3⟩, hfr.tr a4⟩
    · unfold fX2_gatherSingles_B44
      simp only []
      rw [zgI_ob hcu.1 rfl, Option.bind_some, cl_2, g_power (by omega), Option.bind_some, if_neg (by rw [ci_le (by omega) (by omega)]; omega), cl_1]
      exact a1
    · rw [show s + 1 - 1 = s by omega]; exact a2
  · rintro S' ⟨_, ⟨y, hcu⟩, hfr⟩
    refine ⟨.inl (ci (f + 1 + 1), S'), ?_, S', rfl, ?_, hcu, hfr⟩
    · unfold fX2_gatherSingles_B44
      simp only []
      rw [zgI_ob hcu.1 rfl, Option.bind_some, cl_2, g_power (by omega), Option.bind_some, if_pos (by rw [ci_le (by omega) (by omega)]; omega), cl_1, ci_add, zex_some]
    · rw [show (f + 1) * (2 ^ b - 1) + 0 = f * (2 ^ b - 1) + (2 ^ b - 1) by rw [Nat.add_zero, Nat.succ_mul]]; exact y
theorem c_ga1 {S : ZS} {se sg mk c n a b d q : Nat} {g : Nat → Nat} (hz : szOK a b d) (hN : a * b * d ≤ 12) (z : zSe S se sg mk (a * b * d) (Kc a b d) 0) (h : zCu S c n a b d q g) : ∃ S1, ziter (fX2_gatherSingles_B30 se c) zF (ci 1, S) = some S1 ∧ zSe S1 se sg mk (a * b * d) (Kc a b d) (cnF a b d) ∧ zCu S1 c n a b d q g ∧ zFrm S S1 (pSe se sg mk) := by
  have hz' := hz
  unfold szOK at hz'
  have p1 := pow1 hz'.1.1
  have q1 := p2_le hz'.1.2
  have := ziter_for (body := fX2_gatherSingles_B30 se c) (fun f S' => (1 ≤ f ∧ f ≤ 2 ^ a) ∧ (zSe S' se sg mk (a * b * d) (Kc a b d) (((f - 1) * (2 ^ b - 1) + 0) * (2 ^ d - 1) + 0) ∧ zCu S' c n a b d q g) ∧ zFrm S S' (pSe se sg mk)) (fun r => zSe r se sg mk (a * b * d) (Kc a b d) (cnF a b d) ∧ zCu r c n a b d q g ∧ zFrm S r (pSe se sg mk)) (2 ^ a) ?_ ?_ (2 ^ a - 1) 1 zF S (by omega) (by rw [zF_eq]; omega) ⟨⟨Nat.le_refl 1, by omega⟩, ⟨by rw [Nat.sub_self, Nat.zero_mul, Nat.zero_mul]; exact z, h⟩, zFrm.rf⟩
  · exact this
  · rintro f S' hf ⟨⟨f1, _⟩, ⟨y, hcu⟩, hfr⟩
    obtain ⟨S1, a1, a2, a3, a4⟩ := c_ga2 (f := f - 1) hz hN (by omega) y hcu
    rw [show f - 1 + 1 = f by omega] at a1 a2
    refine ⟨S1, ?_, ⟨by omega, by omega⟩, ⟨?_, a3⟩, hfr.tr a4⟩
    · unfold fX2_gatherSingles_B30
      simp only []
      rw [zgI_ob hcu.1 rfl, Option.bind_some, cl_2, g_power (by omega), Option.bind_some, if_neg (by rw [ci_le (by omega) (by omega)]; omega), cl_1]
      exact a1
    · rw [show f + 1 - 1 = f by omega]; exact a2
  · rintro S' ⟨_, ⟨y, hcu⟩, hfr⟩
    refine ⟨S', ?_, ?_, hcu, hfr⟩
    · unfold fX2_gatherSingles_B30
      simp only []
      rw [zgI_ob hcu.1 rfl, Option.bind_some, cl_2, g_power (by omega), Option.bind_some, if_pos (by rw [ci_le (by omega) (by omega)]; omega), zex_some]
    · exact y
theorem c_gather {S : ZS} {se sg mk c n a b d q : Nat} {g : Nat → Nat} {x : Int32} {F : Nat → Int32} {G : Nat → Int64} (hz : szOK a b d) (hN : a * b * d ≤ 12) (h1 : zOb S se 2 [.ref sg, .ref mk, .int x]) (h2 : zIA S sg 105 F) (h4 : zJA S mk 64 G) (h : zCu S c n a b d q g) : ∃ S1, fX2_gatherSingles se c S = some S1 ∧ zSe S1 se sg mk (a * b * d) (Kc a b d) (cnF a b d) ∧ zCu S1 c n a b d q g ∧ zFrm S S1 (pSe se sg mk) := by
  have cu : ∀ {S S1 : ZS} {x : Int32} {G : Nat → Int64}, zOb S se 2 [.ref sg, .ref mk, .int x] → zIA S sg 105 F → zJA S mk 64 G → zCu S c n a b d q g → zFrm S S1 (pSe se sg mk) → zCu S1 c n a b d q g := by
    intro S S1 x G h1 h2 h4 h hf
    exact h.kp (hf.2 _ (fun hh => by
      rcases hh with hh | hh | hh
      · exact ne_oo h.1 h1 (by omega) hh
      · exact ne_oi h.1 h2 hh
      · exact ne_oj h.1 h4 hh)) (hf.2 _ (fun hh => by
      rcases hh with hh | hh | hh
      · exact ne_oi h1 h.2 hh.symm
      · exact ne_ii h.2 h2 (by omega) hh
      · exact ne_ij h.2 h4 hh))
  have := ziter_for (body := fX2_gatherSingles_B2 se c) (fun t S' => (zOb S' se 2 [.ref sg, .ref mk, .int x] ∧ zIA S' sg 105 F ∧ ∃ G', zJA S' mk 64 G' ∧ ∀ r, r < t → G' r = cj 0) ∧ zFrm S S' (pSe se sg mk)) (fun r => zSe r se sg mk (a * b * d) (Kc a b d) (cnF a b d) ∧ zCu r c n a b d q g ∧ zFrm S r (pSe se sg mk)) 64 ?_ ?_ 64 0 zF S (by omega) (by rw [zF_eq]; omega) ⟨⟨h1, h2, G, h4, fun r hr => absurd hr (Nat.not_lt_zero _)⟩, zFrm.rf⟩
  · exact this
  · rintro t S' ht ⟨⟨y1, y2, G', y4, y5⟩, hf⟩
    have f3 : zFrm S' (zwJ S' mk 64 (va_up G' t (cj 0))) (fun b => b = mk) := zFrm.wJ
    refine ⟨zwJ S' mk 64 (va_up G' t (cj 0)), ?_, ⟨f3.ob (ne_oj y1 y4) y1, f3.ia (ne_ij y2 y4) y2, _, zwJ_self, fun r hr => ?_⟩, hf.tr (f3.wk (fun _ hb => Or.inr (Or.inr hb)))⟩
    · unfold fX2_gatherSingles_B2
      simp only []
      rw [if_neg (by rw [cl_64, ci_le (by omega) (by omega)]; omega), zgR_ob y1 rfl, Option.bind_some, cj_0, g_putJ _ y4 ht (by omega), Option.bind_some, cl_1, ci_add]
    · unfold va_up
      by_cases hh : r = t
      · rw [if_pos hh]
      · rw [if_neg hh]; exact y5 r (by omega)
  · rintro S' ⟨⟨y1, y2, G', y4, y5⟩, hf⟩
    have f2 : zFrm S' (zwO S' se 2 [.ref sg, .ref mk, .int (ci 0)]) (fun b => b = se) := zFrm.wO
    have z0 : zSe (zwO S' se 2 [.ref sg, .ref mk, .int (ci 0)]) se sg mk (a * b * d) (Kc a b d) 0 := ⟨zwO_self, ⟨F, f2.ia (fun hh => ne_oi y1 y2 hh.symm) y2, fun e' he' => absurd he' (Nat.not_lt_zero _)⟩, G', f2.ja (fun hh => ne_oj y1 y4 hh.symm) y4, fun r hr => by
      rw [y5 r hr]
      show cj 0 = cj (msk 64 (fun _ => false))
      rw [msk_0]⟩
    have hcu := cu y1 y2 y4 (cu h1 h2 h4 h hf) (f2.wk (fun _ => Or.inl))
    obtain ⟨S1, a1, a2, a3, a4⟩ := c_ga1 hz hN z0 hcu
    refine ⟨S1, ?_, a2, a3, (hf.tr (f2.wk (fun _ => Or.inl))).tr a4⟩
    unfold fX2_gatherSingles_B2
    simp only []
    rw [if_pos (by rw [cl_64, ci_le (by omega) (by omega)]; omega), zpF_ob _ y1 (by simp), Option.bind_some]
    show zex (ziter (fX2_gatherSingles_B30 se c) zF (ci 1, zwO S' se 2 [.ref sg, .ref mk, .int (ci 0)])) = _
    rw [a1, zex_some]
theorem c_fewest {S : ZS} {se sg mk c n a b d q lo D : Nat} {g : Nat → Nat} {x : Int32} {F : Nat → Int32} {G : Nat → Int64} (hz : szOK a b d) (hN : a * b * d ≤ 12) (h1 : zOb S se 2 [.ref sg, .ref mk, .int x]) (h2 : zIA S sg 105 F) (h4 : zJA S mk 64 G) (h : zCu S c n a b d q g) (hg : cOK 2 a b d g) (hD : Rch a b d D (tGc b d g)) (hmin : ∀ k, Rch a b d k (tGc b d g) → D ≤ k) (hlo : lo ≤ D) (hD12 : D ≤ 12) : ∃ S1 x1 F1 G1, fX2_fewest se c (ci lo) S = some (ci D, S1) ∧ zOb S1 se 2 [.ref sg, .ref mk, .int x1] ∧ zIA S1 sg 105 F1 ∧ zJA S1 mk 64 G1 ∧ zFrm S S1 (pSe se sg mk) := by
  have hz' := hz
  unfold szOK at hz'
  have hcnt := cnF_le hz hN
  obtain ⟨S1, a1, a2, a3, a4⟩ := c_gather hz hN h1 h2 h4 h
  have hbits := c_bitsOf a3 hz hg
  have a2' := a2
  obtain ⟨b1, ⟨F1, b2, _⟩, G1, b4, _⟩ := a2'
  refine ⟨S1, _, F1, G1, ?_, b1, b2, b4, a4⟩
  unfold fX2_fewest
  rw [zcl_ob h1, a1, Option.bind_some, hbits, Option.bind_some]
  have key : ∀ (r m M : Nat), m + r = D → r < M → ziter (fX2_fewest_B13 se (ci (enC (a * b * d) (tGc b d g))) S1) M (ci m) = some (ci D, S1) := by
    intro r
    induction r with
    | zero =>
      intro m M hm hM
      obtain ⟨M, rfl⟩ : ∃ M', M = M' + 1 := ⟨M - 1, by omega⟩
      obtain rfl : m = D := by omega
      rw [ziter_0]
      unfold fX2_fewest_B13
      by_cases h12 : m = 12
      · subst h12
        rw [if_pos (show (12 : Int32) ≤ ci 12 by decide), zex_some]
        rfl
      · obtain ⟨bb, c1, c2⟩ := c_isMade a2 hN hcnt m 13 0 (tGc b d g) (by omega) (by omega) (Nat.zero_le _)
        have hb : bb = true := c2.mpr (Rch_Md hz'.1.1 hz'.2.1.1 hz'.2.2.1 hD hmin)
        rw [hb] at c1
        rw [if_neg (by rw [cl_12, ci_le (by omega) (by omega)]; omega), zcl_ob b1, cl_0, c1, Option.bind_some, if_neg (show ¬ bI true = ci 0 by decide), zex_some]
    | succ r ih =>
      intro m M hm hM
      obtain ⟨M, rfl⟩ : ∃ M', M = M' + 1 := ⟨M - 1, by omega⟩
      obtain ⟨bb, c1, c2⟩ := c_isMade a2 hN hcnt m 13 0 (tGc b d g) (by omega) (by omega) (Nat.zero_le _)
      have hb : bb = false := by
        cases hbb : bb with
        | false => rfl
        | true =>
          have := hmin m (Md_Rch hz'.1.1 hz'.2.1.1 hz'.2.2.1 m 0 _ (c2.mp hbb))
          omega
      rw [hb] at c1
      have st : fX2_fewest_B13 se (ci (enC (a * b * d) (tGc b d g))) S1 (ci m) = some (.inl (ci (m + 1))) := by
        unfold fX2_fewest_B13
        rw [if_neg (by rw [cl_12, ci_le (by omega) (by omega)]; omega), zcl_ob b1, cl_0, c1, Option.bind_some, if_pos (show bI false = ci 0 from rfl), cl_1, ci_add]
      rw [ziter_1 st]
      exact ih (m + 1) M (by omega) (by omega)
  exact key (D - lo) lo zF (by omega) (by rw [zF_eq]; omega)
