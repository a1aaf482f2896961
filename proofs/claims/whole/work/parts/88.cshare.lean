/-! LAW CASE 20: shared pairs in the class -/
def tF (t : Nat × Nat × Nat) : Int32 := if 1 < t.1 then ci t.2.1 else (-1 : Int32)
def tG (t : Nat × Nat × Nat) : Int32 := if 1 < t.1 then ci t.2.2 else (-1 : Int32)
theorem ci_m1ne {n : Nat} (h : n < 2147483648) : ¬ ci n = (-1 : Int32) := fun hh => ci_nneg h (by rw [hh]; decide)
theorem tF_none {t : Nat × Nat × Nat} (h : ¬ 1 < t.1) : tF t = (-1 : Int32) := if_neg h
theorem tF_some {t : Nat × Nat × Nat} (h : 1 < t.1) : tF t = ci t.2.1 := if_pos h
theorem tG_some {t : Nat × Nat × Nat} (h : 1 < t.1) : tG t = ci t.2.2 := if_pos h
theorem stp_F {ns n o : Nat} {H : Nat → Nat → Bool} {t : Nat × Nat × Nat} (h1 : 1 ≤ t.1) (h : t.1 < cmF ns H n o) : tF (stp ns H n o t) = ci n ∧ tG (stp ns H n o t) = ci o ∧ (stp ns H n o t).1 = cmF ns H n o := by
  unfold stp
  rw [if_pos h]
  exact ⟨if_pos (by show 1 < cmF ns H n o; omega), if_pos (by show 1 < cmF ns H n o; omega), rfl⟩
theorem g_bitsP {ns o : Nat} {H : Nat → Nat → Bool} (hn : ns ≤ 40) : fJ13_bitCount_95d88 (cj (msk ns (H o))) = some (ci (pcF ns H o)) := g_bits hn
theorem g_bitsC {ns o r : Nat} {H : Nat → Nat → Bool} (hn : ns ≤ 40) : fJ13_bitCount_95d88 (cj (msk ns (H o)) &&& cj (msk ns (H r))) = some (ci (cmF ns H o r)) := by
  rw [cj_and, msk_and]; exact g_bits hn
theorem c_inn {S : ZS} {sm hd E ns n : Nat} {H : Nat → Nat → Bool} {t : Nat × Nat × Nat} (h : zSm S sm hd E ns H) (hn : n < E) (ht : gdT ns H E t) : ∀ (r j N : Nat), n + 1 + j + r = E → r < N → ziter (fX3_shareBestPair_B35 sm (ci n) (cj (msk ns (H n))) S) N (tF (inn ns H n j t), tG (inn ns H n j t), ci (inn ns H n j t).1, ci (n + 1 + j)) = some (.inl (tF (inn ns H n (E - (n + 1)) t), tG (inn ns H n (E - (n + 1)) t), ci (inn ns H n (E - (n + 1)) t).1, ci (n + 1))) := by
  have hns := h.2.1
  have hE := h.2.2.1
  intro r
  induction r with
  | zero =>
    intro j N hj hN
    obtain ⟨N, rfl⟩ : ∃ M, N = M + 1 := ⟨N - 1, by omega⟩
    rw [show E - (n + 1) = j by omega, ziter_0]
    unfold fX3_shareBestPair_B35 fX3_shareBestPair_J91
    simp only []
    rw [zgI_ob h.1 rfl, Option.bind_some, if_pos (by rw [ci_le (by omega) (by omega)]; omega), cl_1, ci_add, zex_some]
  | succ r ih =>
    intro j N hj hN
    obtain ⟨N, rfl⟩ : ∃ M, N = M + 1 := ⟨N - 1, by omega⟩
    have hg := inn_gd (n := n) ht j (by omega)
    have hpc := pcF_le (ns := ns) (H := H) (o := n)
    have hcm := cmF_le (ns := ns) (H := H) (o := n) (r := n + 1 + j)
    by_cases hp : pcF ns H n ≤ (inn ns H n j t).1
    · have hpr := inn_prune hp (r + 1)
      rw [show E - (n + 1) = j + (r + 1) by omega, hpr, ziter_0]
      unfold fX3_shareBestPair_B35 fX3_shareBestPair_J91
      simp only []
      have hp' : (ci (pcF ns H n) ≤ ci (inn ns H n j t).1) := by
        have := hg.2.1
        rw [ci_le (by omega) (by omega)]
        exact hp
      rw [zgI_ob h.1 rfl, Option.bind_some, if_neg (by rw [ci_le (by omega) (by omega)]; omega), g_bitsP hns, Option.bind_some, if_pos hp', cl_1, ci_add, zex_some]
    · have hp' : ¬ (ci (pcF ns H n) ≤ ci (inn ns H n j t).1) := by
        have := hg.2.1
        rw [ci_le (by omega) (by omega)]
        exact hp
      have st : fX3_shareBestPair_B35 sm (ci n) (cj (msk ns (H n))) S (tF (inn ns H n j t), tG (inn ns H n j t), ci (inn ns H n j t).1, ci (n + 1 + j)) = some (.inl (tF (inn ns H n (j + 1) t), tG (inn ns H n (j + 1) t), ci (inn ns H n (j + 1) t).1, ci (n + 1 + (j + 1)))) := by
        have := hg.2.1
        unfold fX3_shareBestPair_B35 fX3_shareBestPair_J85
        simp only []
        rw [zgI_ob h.1 rfl, Option.bind_some, if_neg (by rw [ci_le (by omega) (by omega)]; omega), g_bitsP hns, Option.bind_some, if_neg hp', zgR_ob h.1 rfl, Option.bind_some, h.get (by omega), Option.bind_some, g_bitsC hns, Option.bind_some]
        show (if ci (cmF ns H n (n + 1 + j)) ≤ _ then _ else _) = some (Sum.inl (tF (stp ns H n (n + 1 + j) (inn ns H n j t)), tG (stp ns H n (n + 1 + j) (inn ns H n j t)), ci (stp ns H n (n + 1 + j) (inn ns H n j t)).1, ci (n + 1 + (j + 1))))
        by_cases hc : (inn ns H n j t).1 < cmF ns H n (n + 1 + j)
        · obtain ⟨q1, q2, q3⟩ := stp_F hg.1 hc
          rw [if_neg (by rw [ci_le (by omega) (by omega)]; omega), q1, q2, q3, cl_1, ci_add]
          rfl
        · rw [if_pos (by rw [ci_le (by omega) (by omega)]; omega), cl_1, ci_add]
          unfold stp
          rw [if_neg hc]
          rfl
      rw [ziter_1 st]
      exact ih (j + 1) N (by omega) (by omega)
theorem c_replace {S : ZS} {sm hd E ns f g : Nat} {H : Nat → Nat → Bool} (h : zSm S sm hd E ns H) (hf : f < g) (hg : g < E) (hE : E < 120) : ∃ S1, fX3_replace sm (ci f) (ci g) S = some S1 ∧ zSm S1 sm hd (E + 1) ns (shH H E f g) ∧ zFrm S S1 (pSm sm hd) := by
  have hns := h.2.1
  obtain ⟨S1, a1, a2, a3⟩ := zSm.put (e := f) (x := fun t => H f t && !(H f t && H g t)) h (by omega)
  obtain ⟨S2, b1, b2, b3⟩ := zSm.put (e := g) (x := fun t => H g t && !(H f t && H g t)) a2 (by omega)
  obtain ⟨S3, c1, c2, c3⟩ := c_append2 (x := fun t => H f t && H g t) b2 hE
  have hgg : fX5_getLong hd (ci g) S1 = some (cj (msk ns (H g))) := by
    rw [a2.get hg, if_neg (by omega)]
  refine ⟨S3, ?_, c2.cg (fun o ho t _ => ?_), (a3.tr b3).tr c3⟩
  · unfold fX3_replace
    rw [zgR_ob h.1 rfl, Option.bind_some, h.get (by omega), Option.bind_some, Option.bind_some, h.get hg, Option.bind_some, Option.bind_some, Option.bind_some, h.get (by omega), Option.bind_some, cj_and, msk_and, cj_m1, cj_xor, cj_and, msk_andn hns, a1, Option.bind_some, zgR_ob a2.1 rfl, Option.bind_some, Option.bind_some, hgg, Option.bind_some, cj_and, msk_andn hns, b1, Option.bind_some, zcl_ob b2.1, c1, Option.bind_some]
  · show (if o = E then (fun t => H f t && H g t) else (if o = g then (fun t => H g t && !(H f t && H g t)) else (if o = f then (fun t => H f t && !(H f t && H g t)) else H o))) t = shH H E f g o t
    unfold shH
    by_cases q1 : o = f
    · rw [if_neg (by omega), if_neg (by omega), if_pos q1, if_pos q1]
    · by_cases q2 : o = g
      · rw [if_neg (by omega), if_pos q2, if_neg q1, if_pos q2]
      · by_cases q3 : o = E
        · rw [if_pos q3, if_neg q1, if_neg q2, if_pos q3]
        · rw [if_neg q3, if_neg q2, if_neg q1, if_neg q1, if_neg q2, if_neg q3]
theorem c_sbp {S : ZS} {sm hd E ns : Nat} {H : Nat → Nat → Bool} (h : zSm S sm hd E ns H) (hE : E < 120) : ∃ S1, fX3_shareBestPair sm S = some (bI (decide (1 < (bst ns H E).1)), S1) ∧ (if 1 < (bst ns H E).1 then zSm S1 sm hd (E + 1) ns (shH H E (bst ns H E).2.1 (bst ns H E).2.2) else S1 = S) ∧ zFrm S S1 (pSm sm hd) := by
  have hb := bst_gd (ns := ns) (E := E) (H := H)
  have hend : ∃ S1, fX3_shareBestPair_B9 sm S (tF (bst ns H E), tG (bst ns H E), ci (bst ns H E).1, ci E) = some (.inr (bI (decide (1 < (bst ns H E).1)), S1)) ∧ (if 1 < (bst ns H E).1 then zSm S1 sm hd (E + 1) ns (shH H E (bst ns H E).2.1 (bst ns H E).2.2) else S1 = S) ∧ zFrm S S1 (pSm sm hd) := by
    unfold fX3_shareBestPair_B9
    simp only []
    by_cases hl : 1 < (bst ns H E).1
    · obtain ⟨h1, h2, h3⟩ := hb.2.2.2.2 hl
      obtain ⟨S1, f1, f2, f3⟩ := c_replace h h1 h2 hE
      refine ⟨S1, ?_, by rw [if_pos hl]; exact f2, f3⟩
      rw [zgI_ob h.1 rfl, Option.bind_some, if_pos (by rw [ci_le (by omega) (by omega)]; omega), tF_some hl, tG_some hl, if_neg (ci_m1ne (by omega)), zcl_ob h.1, f1, Option.bind_some, decide_eq_true hl, zex_some]
      rfl
    · refine ⟨S, ?_, by rw [if_neg hl], zFrm.rf⟩
      rw [zgI_ob h.1 rfl, Option.bind_some, if_pos (by rw [ci_le (by omega) (by omega)]; omega), tF_none hl, if_pos rfl, decide_eq_false hl, zex_some]
      rfl
  obtain ⟨S1, e1, e2, e3⟩ := hend
  refine ⟨S1, ?_, e2, e3⟩
  unfold fX3_shareBestPair
  refine ziter_seq (fun i => (tF (out ns H E i), tG (out ns H E i), ci (out ns H E i).1, ci i)) _ E zF (by rw [zF_eq]; omega) (fun i hi => ?_) e1
  have hc := c_inn (n := i) h hi (out_gd i (by omega)) (E - (i + 1)) 0 zF (by omega) (by rw [zF_eq]; omega)
  unfold fX3_shareBestPair_B9
  simp only []
  rw [zgI_ob h.1 rfl, Option.bind_some, if_neg (by rw [ci_le (by omega) (by omega)]; omega), zgR_ob h.1 rfl, Option.bind_some, h.get hi, Option.bind_some, cl_1, ci_add]
  exact hc
theorem c_sharePairs {sm hd ns : Nat} : ∀ (n N E q : Nat) (S : ZS) (H : Nat → Nat → Bool), q + n = 80 → n < N → zSm S sm hd E ns H → E + n ≤ 120 → ∃ S1, ziter (fX3_sharePairs_B2 sm) N (ci q, S) = some (ci (q + (shl ns n E H).1), S1) ∧ zSm S1 sm hd (shl ns n E H).2.1 ns (shl ns n E H).2.2 ∧ zFrm S S1 (pSm sm hd) := by
  intro n
  induction n with
  | zero =>
    intro N E q S H hq hN h hE
    obtain ⟨N, rfl⟩ : ∃ M, N = M + 1 := ⟨N - 1, by omega⟩
    refine ⟨S, ?_, h, zFrm.rf⟩
    rw [ziter_0]
    unfold fX3_sharePairs_B2 fX3_sharePairs_J21
    simp only []
    rw [if_pos (by rw [cl_80, ci_le (by omega) (by omega)]; omega), zex_some]
    rfl
  | succ n ih =>
    intro N E q S H hq hN h hE
    obtain ⟨N, rfl⟩ : ∃ M, N = M + 1 := ⟨N - 1, by omega⟩
    obtain ⟨S1, f1, f2, f3⟩ := c_sbp h (by omega)
    by_cases hb : 1 < (bst ns H E).1
    · rw [if_pos hb] at f2
      obtain ⟨S2, g1, g2, g3⟩ := ih N (E + 1) (q + 1) S1 _ (by omega) (by omega) f2 (by omega)
      have st : fX3_sharePairs_B2 sm (ci q, S) = some (.inl (ci (q + 1), S1)) := by
        unfold fX3_sharePairs_B2
        simp only []
        rw [if_neg (by rw [cl_80, ci_le (by omega) (by omega)]; omega), zcl_ob h.1, f1, Option.bind_some, decide_eq_true hb, if_neg (show ¬ bI true = 0 by decide), cl_1, ci_add]
      unfold shl
      rw [if_pos hb]
      refine ⟨S2, ?_, g2, f3.tr g3⟩
      rw [ziter_1 st, g1]
      show some (ci (q + 1 + (shl ns n (E + 1) _).1), S2) = some (ci (q + ((shl ns n (E + 1) _).1 + 1)), S2)
      rw [show ∀ y, q + 1 + y = q + (y + 1) from fun y => by omega]
    · rw [if_neg hb] at f2
      subst f2
      unfold shl
      rw [if_neg hb]
      refine ⟨S1, ?_, h, f3⟩
      rw [ziter_0]
      unfold fX3_sharePairs_B2 fX3_sharePairs_J21
      simp only []
      rw [if_neg (by rw [cl_80, ci_le (by omega) (by omega)]; omega), zcl_ob h.1, f1, Option.bind_some, decide_eq_false hb, if_pos bI_f, zex_some]
      rfl
