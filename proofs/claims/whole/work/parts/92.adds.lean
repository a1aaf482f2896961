/-! LAW CASES 20, 24: additions -/
def mLay (m E ns : Nat) (R : Nat → Nat) (X : Nat → Int32) (A : Nat → Nat → Int32) (H : Nat → Nat → Bool) (S0 : ZS) (T e : Nat) (S : ZS) : Prop := ∃ A', zMo S m R X A' ∧ (∀ j, j ≠ 16 → A' j = A j) ∧ (∀ u e', e' < 128 → (u < T ∨ (u = T ∧ e' < e)) → A' 16 (128 * u + e') = bI (decide (e' < E) && H e' u)) ∧ zFrm S0 S (mP m R)
theorem HS_2 {v : Nat → Nat → Nat → Nat} {e t : Nat} : HS v 2 e t = nzd v e 2 t := rfl
theorem HS_n {v : Nat → Nat → Nat → Nat} {s e t : Nat} (h : s ≠ 2) : HS v s e t = nzd v t s e := if_neg h
theorem bI_nzd {v : Nat → Nat → Nat → Nat} {q s j : Nat} : bI (nzd v q s j) = if v q s j = 0 then 0 else 1 := by
  by_cases h : v q s j = 0
  · rw [nzd_f h, if_pos h]; rfl
  · rw [nzd_t h, if_neg h]; rfl
theorem m_lay2 {S S0 : ZS} {m w p a b d k s T : Nat} {R : Nat → Nat} {X : Nat → Int32} {A : Nat → Nat → Int32} {v : Nat → Nat → Nat → Nat} (y : mWy X A w p a b d k v) (hs : s < 3) (hX : X 17 = ci (nS d k s) ∧ X 18 = ci (eS a b d k s)) (hT : T < nS d k s) (h : mLay m (eS a b d k s) (nS d k s) R X A (HS v s) S0 T 0 S) : ∃ S1, ziter (fX6_laySets_B69 m (ci w) (ci s) (ci T)) zF (ci 0, S) = some (.inl (ci (T + 1), S1)) ∧ mLay m (eS a b d k s) (nS d k s) R X A (HS v s) S0 (T + 1) 0 S1 := by
  have hk := y.kk
  have hsz := y.2.2.1
  have hb := sz3_b hsz (s := s)
  have hpb := y.2.1.b
  unfold szOK at hsz
  have hns : nS d k s ≤ 40 := by unfold nS; split <;> omega
  have hE : eS a b d k s ≤ 40 := by unfold eS; split <;> omega
  have := ziter_for (body := fX6_laySets_B69 m (ci w) (ci s) (ci T)) (fun e S' => mLay m (eS a b d k s) (nS d k s) R X A (HS v s) S0 T e S') (fun r => ∃ S1, r = .inl (ci (T + 1), S1) ∧ mLay m (eS a b d k s) (nS d k s) R X A (HS v s) S0 (T + 1) 0 S1) 128 ?_ ?_ 128 0 zF S (by omega) (by rw [zF_eq]; omega) h
  · obtain ⟨r, h1, S1, rfl, h2⟩ := this
    exact ⟨S1, h1, h2⟩
  · rintro e S' he ⟨A', y1, y2, y3, y4⟩
    have y' : mWy X A' w p a b d k v := y.t6 ⟨fun _ _ _ => rfl, y2⟩
    have wr : ∀ bb, bb = (decide (e < eS a b d k s) && HS v s e T) → ∃ S1, Option.bind (zsI S' (R 16) 2 (ci (128 * T + e)) (znar (bI bb))) (fun S10 => (some (.inl (ci e + (1 : Int32), S10)) : Option ((Int32 × ZS) ⊕ ((Int32 × ZS) ⊕ ZS)))) = some (.inl (ci (e + 1), S1)) ∧ mLay m (eS a b d k s) (nS d k s) R X A (HS v s) S0 T (e + 1) S1 := fun bb hbb => by
      obtain ⟨S1, A1, a1, a2, a3, a4, a5⟩ := m_put16 (x := 128 * T + e) y1 (by omega) bb
      refine ⟨S1, by rw [a1, Option.bind_some, cl_1, ci_add], A1, a2, fun j hj => (a3 j hj).trans (y2 j hj), fun u e' he' hu => ?_, y4.tr a5⟩
      rw [a4]
      by_cases hq : u = T ∧ e' = e
      · rw [if_pos (by omega), hq.1, hq.2, hbb]
      · rw [if_neg (by omega)]
        exact y3 u e' he' (by omega)
    by_cases hlt : e < eS a b d k s
    · obtain ⟨S1, s1, s2⟩ := wr (HS v s e T) (by rw [decide_eq_true hlt, Bool.true_and])
      refine ⟨S1, ?_, s2⟩
      rw [← s1]
      unfold fX6_laySets_B69 fX6_laySets_J91
      simp only []
      rw [if_neg (by rw [cl_128, ci_le (by omega) (by omega)]; omega), zgI_ob y1.1 rfl, Option.bind_some, hX.2, if_neg (by rw [ci_le (by omega) (by omega)]; omega), zgR_ob y1.1 rfl, Option.bind_some, if_neg (show ¬ (1 : Int32) = 0 by decide), zgR_ob y1.1 rfl, Option.bind_some, cl_128, ci_mul, ci_add]
      unfold fX6_laySets_J140 fX6_laySets_J148 fX6_laySets_J149
      by_cases h2 : s = 2
      · subst h2
        have he2 : e < k := hlt
        have hT2 : T < d := hT
        have hv : v e 2 T < p := y.lt he2 (by omega) hT2
        rw [if_pos (show (2 : Int32) ≤ ci 2 by decide), m_from, Option.bind_some, m_dig y1 y' he2 (by omega) hT2, Option.bind_some, HS_2, bI_nzd]
        by_cases h0 : v e 2 T = 0
        · rw [if_pos (by rw [h0]; rfl), if_pos h0]
        · rw [if_neg (by rw [cl_0, ci_eq (by omega) (by omega)]; exact h0), if_neg h0]
      · have he2 : e < sz3 a b d s := by unfold eS at hlt; rw [if_neg h2] at hlt; exact hlt
        have hT2 : T < k := by unfold nS at hT; rw [if_neg h2] at hT; exact hT
        have hv : v T s e < p := y.lt hT2 hs he2
        rw [if_neg (by rw [cl_2, ci_le (by omega) (by omega)]; omega), m_from, Option.bind_some, m_dig y1 y' hT2 hs he2, Option.bind_some, HS_n h2, bI_nzd]
        by_cases h0 : v T s e = 0
        · rw [if_pos (by rw [h0]; rfl), if_pos h0]
        · rw [if_neg (by rw [cl_0, ci_eq (by omega) (by omega)]; exact h0), if_neg h0]
    · obtain ⟨S1, s1, s2⟩ := wr false (by rw [decide_eq_false hlt, Bool.false_and])
      refine ⟨S1, ?_, s2⟩
      rw [← s1]
      unfold fX6_laySets_B69 fX6_laySets_J91 fX6_laySets_J148 fX6_laySets_J149
      simp only []
      rw [if_neg (by rw [cl_128, ci_le (by omega) (by omega)]; omega), zgI_ob y1.1 rfl, Option.bind_some, hX.2, if_pos (by rw [ci_le (by omega) (by omega)]; omega), zgR_ob y1.1 rfl, Option.bind_some, if_pos trivial, cl_128, ci_mul, ci_add]
      rfl
  · rintro S' ⟨A', y1, y2, y3, y4⟩
    refine ⟨.inl (ci (T + 1), S'), ?_, S', rfl, A', y1, y2, fun u e' he' hu => y3 u e' he' (by omega), y4⟩
    unfold fX6_laySets_B69
    simp only []
    rw [if_pos (by rw [cl_128, ci_le (by omega) (by omega)]; omega), cl_1, ci_add, zex_some]
theorem m_lay1 {S S0 : ZS} {m w p a b d k s : Nat} {R : Nat → Nat} {X : Nat → Int32} {A : Nat → Nat → Int32} {v : Nat → Nat → Nat → Nat} (y : mWy X A w p a b d k v) (hs : s < 3) (hX : X 17 = ci (nS d k s) ∧ X 18 = ci (eS a b d k s)) (h : mLay m (eS a b d k s) (nS d k s) R X A (HS v s) S0 0 0 S) : ∃ S1, ziter (fX6_laySets_B58 m (ci w) (ci s)) zF (ci 0, S) = some S1 ∧ mLay m (eS a b d k s) (nS d k s) R X A (HS v s) S0 (nS d k s) 0 S1 := by
  have hk := y.kk
  have hsz := y.2.2.1
  unfold szOK at hsz
  have hns : nS d k s ≤ 40 := by unfold nS; split <;> omega
  have := ziter_for (body := fX6_laySets_B58 m (ci w) (ci s)) (fun T S' => mLay m (eS a b d k s) (nS d k s) R X A (HS v s) S0 T 0 S') (fun r => mLay m (eS a b d k s) (nS d k s) R X A (HS v s) S0 (nS d k s) 0 r) (nS d k s) ?_ ?_ (nS d k s) 0 zF S (by omega) (by rw [zF_eq]; omega) h
  · exact this
  · rintro T S' hT z
    obtain ⟨S1, f1, f2⟩ := m_lay2 y hs hX hT z
    refine ⟨S1, ?_, f2⟩
    unfold fX6_laySets_B58
    simp only []
    rw [zgI_ob z.choose_spec.1.1 rfl, Option.bind_some, hX.1, if_neg (by rw [ci_le (by omega) (by omega)]; omega), cl_0]
    exact f1
  · rintro S' z
    refine ⟨S', ?_, z⟩
    unfold fX6_laySets_B58
    simp only []
    rw [zgI_ob z.choose_spec.1.1 rfl, Option.bind_some, hX.1, if_pos (by rw [ci_le (by omega) (by omega)]; omega), zex_some]
theorem m_laySets {S : ZS} {m w p a b d k s : Nat} {R : Nat → Nat} {X : Nat → Int32} {A : Nat → Nat → Int32} {v : Nat → Nat → Nat → Nat} (h : zMo S m R X A) (y : mWy X A w p a b d k v) (hs : s < 3) : ∃ S1 X1 A1, fX6_laySets m (ci w) (ci s) S = some S1 ∧ zMo S1 m R X1 A1 ∧ mT6 X X1 A A1 ∧ mSm X1 A1 (eS a b d k s) (nS d k s) (HS v s) ∧ zFrm S S1 (mP m R) := by
  have hk := y.kk
  have hsz := y.2.2.1
  have hb := sz3_b hsz (s := s)
  unfold szOK at hsz
  have hns : nS d k s ≤ 40 := by unfold nS; split <;> omega
  have hE : eS a b d k s ≤ 40 := by unfold eS; split <;> omega
  have t1 := h.sx (X' := mX X 17 (ci (nS d k s)))
  have t2 := t1.1.sx (X' := mX (mX X 17 (ci (nS d k s))) 18 (ci (eS a b d k s)))
  have y2 : mWy (mX (mX X 17 (ci (nS d k s))) 18 (ci (eS a b d k s))) A w p a b d k v := y.t6 ⟨fun i a b => by
    show mX (mX X 17 _) 18 _ i = X i
    unfold mX
    rw [if_neg b, if_neg a], fun _ _ => rfl⟩
  obtain ⟨S1, f1, A', f2, f3, f4, f5⟩ := m_lay1 (S := zwO (zwO S m 6 (mF R (mX X 17 (ci (nS d k s))))) m 6 (mF R (mX (mX X 17 (ci (nS d k s))) 18 (ci (eS a b d k s))))) (S0 := S) (m := m) y2 hs ⟨rfl, rfl⟩ ⟨A, t2.1, fun _ _ => rfl, fun u e' _ hu => by omega, (t1.2.tr t2.2).wk (fun _ => Or.inl)⟩
  refine ⟨S1, _, A', ?_, f2, ⟨fun i a b => by
    show mX (mX X 17 _) 18 _ i = X i
    unfold mX
    rw [if_neg b, if_neg a], f3⟩, ⟨rfl, rfl, hns, by omega, fun t ht e he => f4 t e he (Or.inl ht)⟩, f5⟩
  have l17 : 17 < (mF R X).length := by unfold mF; simp
  have l18 : 18 < (mF R (mX X 17 (ci (nS d k s)))).length := by unfold mF; simp
  have z1 : zpF S m 6 17 (.int (ci (nS d k s))) = some (zwO S m 6 (mF R (mX X 17 (ci (nS d k s))))) := zpF_ob _ h.1 l17
  have z2 : zpF (zwO S m 6 (mF R (mX X 17 (ci (nS d k s))))) m 6 18 (.int (ci (eS a b d k s))) = some (zwO (zwO S m 6 (mF R (mX X 17 (ci (nS d k s))))) m 6 (mF R (mX (mX X 17 (ci (nS d k s))) 18 (ci (eS a b d k s))))) := zpF_ob _ t1.1.1 l18
  have y1 : mWy (mX X 17 (ci (nS d k s))) A w p a b d k v := y.t6 ⟨fun i a b => if_neg a, fun _ _ => rfl⟩
  unfold fX6_laySets fX6_laySets_J25 fX6_laySets_J53
  by_cases h2 : s = 2
  · subst h2
    rw [if_pos (show (2 : Int32) ≤ ci 2 by decide), zgR_ob h.1 rfl, Option.bind_some, m_size2 h y, Option.bind_some]
    show Option.bind (zpF S m 6 17 (.int (ci (nS d k 2)))) _ = _
    rw [z1, Option.bind_some, if_pos (show (2 : Int32) ≤ ci 2 by decide), zgR_ob t1.1.1 rfl, Option.bind_some, m_ct t1.1 y1, Option.bind_some]
    show Option.bind (zpF _ m 6 18 (.int (ci (eS a b d k 2)))) _ = _
    rw [z2, Option.bind_some, cl_0]
    exact f1
  · have e1 : eS a b d k s = sz3 a b d s := if_neg h2
    have e2 : nS d k s = k := if_neg h2
    have n2 : ¬ (2 : Int32) ≤ ci s := by rw [cl_2, ci_le (by omega) (by omega)]; omega
    rw [if_neg n2, zgR_ob h.1 rfl, Option.bind_some, m_ct h y, Option.bind_some, ← e2, z1, Option.bind_some, if_neg n2, zgR_ob t1.1.1 rfl, Option.bind_some, m_size t1.1 y1 hs, Option.bind_some, ← e1, z2, Option.bind_some, cl_0]
    exact f1
theorem shl_s {ns n E : Nat} {H : Nat → Nat → Bool} (hb : 1 < (bst ns H E).1) : shl ns (n + 1) E H = ((shl ns n (E + 1) (shH H E (bst ns H E).2.1 (bst ns H E).2.2)).1 + 1, (shl ns n (E + 1) (shH H E (bst ns H E).2.1 (bst ns H E).2.2)).2) := if_pos hb
theorem m_while {m w s ns : Nat} {R : Nat → Nat} : ∀ (n N E T : Nat) (S : ZS) (X : Nat → Int32) (A : Nat → Nat → Int32) (H : Nat → Nat → Bool), n < N → zMo S m R X A → mSm X A E ns H → TT ns E H ≤ 2 * n → E + n < 128 → ∃ S1 X1 A1, ziter (fX6_additions_B18 m (ci w) 1 (ci s)) N (ci T, S) = some (.inl (ci (T + ((shl ns n E H).1 + adO ns (shl ns n E H).2.1 (shl ns n E H).2.2)), ci (s + 1), S1)) ∧ zMo S1 m R X1 A1 ∧ mT6 X X1 A A1 ∧ zFrm S S1 (mP m R) := by
  intro n
  induction n with
  | zero =>
    intro N E T S X A H hN h y hT hE
    obtain ⟨N, rfl⟩ : ∃ M, N = M + 1 := ⟨N - 1, by omega⟩
    obtain ⟨S1, X1, A1, f1, f2, f3, f4, f5⟩ := m_shares h y (by omega)
    have hb : ¬ 1 < (bst ns H E).1 := shl_end 0 E H hT
    rw [if_neg hb] at f4
    refine ⟨S1, X1, A1, ?_, f2, f3, f5⟩
    rw [ziter_0]
    unfold fX6_additions_B18 fX6_additions_J35
    simp only []
    rw [if_neg (show ¬ (1 : Int32) = 0 by decide), h.cl, f1, Option.bind_some, decide_eq_false hb, if_pos bI_f, f2.cl, m_additionsOf f2 f4, Option.bind_some, ci_add, cl_1, ci_add, zex_some]
    show some (Sum.inr (Sum.inl (ci (T + adO ns E H), ci (s + 1), S1))) = some (Sum.inr (Sum.inl (ci (T + (0 + adO ns E H)), ci (s + 1), S1)))
    rw [Nat.zero_add]
  | succ n ih =>
    intro N E T S X A H hN h y hT hE
    obtain ⟨N, rfl⟩ : ∃ M, N = M + 1 := ⟨N - 1, by omega⟩
    obtain ⟨S1, X1, A1, f1, f2, f3, f4, f5⟩ := m_shares h y (by omega)
    by_cases hb : 1 < (bst ns H E).1
    · rw [if_pos hb] at f4
      have hg := bst_gd (ns := ns) (E := E) (H := H)
      obtain ⟨h1, h2, h3⟩ := hg.2.2.2.2 hb
      have h4 := TT_sh (ns := ns) (H := H) h1 h2
      obtain ⟨S2, X2, A2, g1, g2, g3, g4⟩ := ih N (E + 1) (T + 1) S1 X1 A1 _ (by omega) f2 f4 (by omega) (by omega)
      have st : fX6_additions_B18 m (ci w) 1 (ci s) (ci T, S) = some (.inl (ci (T + 1), S1)) := by
        unfold fX6_additions_B18
        simp only []
        rw [if_neg (show ¬ (1 : Int32) = 0 by decide), h.cl, f1, Option.bind_some, decide_eq_true hb, if_neg (show ¬ bI true = 0 by decide), cl_1, ci_add]
      refine ⟨S2, X2, A2, ?_, g2, f3.tr g3, f5.tr g4⟩
      rw [ziter_1 st, g1, shl_s hb]
      obtain ⟨r, hr⟩ : ∃ r, r = shl ns n (E + 1) (shH H E (bst ns H E).2.1 (bst ns H E).2.2) := ⟨_, rfl⟩
      rw [← hr]
      congr 4
      show T + 1 + (r.1 + adO ns r.2.1 r.2.2) = T + (r.1 + 1 + adO ns r.2.1 r.2.2)
      omega
    · rw [if_neg hb] at f4
      refine ⟨S1, X1, A1, ?_, f2, f3, f5⟩
      unfold shl
      rw [if_neg hb, ziter_0]
      unfold fX6_additions_B18 fX6_additions_J35
      simp only []
      rw [if_neg (show ¬ (1 : Int32) = 0 by decide), h.cl, f1, Option.bind_some, decide_eq_false hb, if_pos bI_f, f2.cl, m_additionsOf f2 f4, Option.bind_some, ci_add, cl_1, ci_add, zex_some, Nat.zero_add]
/-- the additions of a side -/
def adS (a b d k : Nat) (v : Nat → Nat → Nat → Nat) (sh : Bool) (s : Nat) : Nat := if sh = true then (shl (nS d k s) 80 (eS a b d k s) (HS v s)).1 + adO (nS d k s) (shl (nS d k s) 80 (eS a b d k s) (HS v s)).2.1 (shl (nS d k s) 80 (eS a b d k s) (HS v s)).2.2 else adO (nS d k s) (eS a b d k s) (HS v s)
theorem TT_S {a b d k s : Nat} {v : Nat → Nat → Nat → Nat} (hsz : szOK a b d) (hk : k ≤ 40) (hs : s < 3) : TT (nS d k s) (eS a b d k s) (HS v s) ≤ 2 * 80 := by
  have h := TT_le (ns := nS d k s) (E := eS a b d k s) (H := HS v s)
  have hb := sz3_b hsz (s := s)
  unfold szOK at hsz
  have : eS a b d k s * nS d k s ≤ 160 := by
    unfold eS nS
    split
    · have : k * d ≤ 40 * 4 := Nat.mul_le_mul hk hsz.2.2.2
      omega
    · have : sz3 a b d s * k ≤ 4 * 40 := Nat.mul_le_mul hb.2 hk
      omega
  omega
theorem eS_b {a b d k s : Nat} (hsz : szOK a b d) (hk : k ≤ 40) : eS a b d k s ≤ 40 := by
  have hb := sz3_b hsz (s := s)
  unfold eS; split <;> omega
theorem m_adSide {S : ZS} {m w p a b d k s T : Nat} {R : Nat → Nat} {X : Nat → Int32} {A : Nat → Nat → Int32} {v : Nat → Nat → Nat → Nat} {sh : Bool} (h : zMo S m R X A) (y : mWy X A w p a b d k v) (hs : s < 3) : ∃ S1 X1 A1, fX6_additions_B5 m (ci w) (bI sh) (ci T, ci s, S) = some (.inl (ci (T + adS a b d k v sh s), ci (s + 1), S1)) ∧ zMo S1 m R X1 A1 ∧ mT6 X X1 A A1 ∧ zFrm S S1 (mP m R) := by
  have hk := y.kk
  have hsz := y.2.2.1
  have hE := eS_b (s := s) hsz hk
  obtain ⟨S1, X1, A1, f1, f2, f3, f4, f5⟩ := m_laySets h y hs
  unfold fX6_additions_B5
  simp only []
  rw [if_neg (by rw [cl_3, ci_le (by omega) (by omega)]; omega), h.cl, f1, Option.bind_some]
  cases sh with
  | true =>
    obtain ⟨S2, X2, A2, g1, g2, g3, g4⟩ := m_while (w := w) (s := s) 80 zF (eS a b d k s) T S1 X1 A1 (HS v s) (by rw [zF_eq]; omega) f2 f4 (TT_S hsz hk hs) (by omega)
    exact ⟨S2, X2, A2, g1, g2, f3.tr g3, f5.tr g4⟩
  | false =>
    refine ⟨S1, X1, A1, ?_, f2, f3, f5⟩
    rw [zF_s, ziter_0]
    unfold fX6_additions_B18 fX6_additions_J35
    simp only []
    rw [if_pos bI_f, f2.cl, m_additionsOf f2 f4, Option.bind_some, ci_add, cl_1, ci_add, zex_some]
    rfl
theorem m_additions {S : ZS} {m w p a b d k : Nat} {R : Nat → Nat} {X : Nat → Int32} {A : Nat → Nat → Int32} {v : Nat → Nat → Nat → Nat} {sh : Bool} (h : zMo S m R X A) (y : mWy X A w p a b d k v) : ∃ S1 X1 A1, fX6_additions m (ci w) (bI sh) S = some (ci (sm 3 (adS a b d k v sh)), S1) ∧ zMo S1 m R X1 A1 ∧ mT6 X X1 A A1 ∧ zFrm S S1 (mP m R) := by
  obtain ⟨S1, X1, A1, a1, a2, a3, a4⟩ := m_adSide (s := 0) (T := 0) (sh := sh) h y (by omega)
  obtain ⟨S2, X2, A2, b1, b2, b3, b4⟩ := m_adSide (s := 1) (T := 0 + adS a b d k v sh 0) (sh := sh) a2 (y.t6 a3) (by omega)
  obtain ⟨S3, X3, A3, c1, c2, c3, c4⟩ := m_adSide (s := 2) (T := 0 + adS a b d k v sh 0 + adS a b d k v sh 1) (sh := sh) b2 (y.t6 (a3.tr b3)) (by omega)
  refine ⟨S3, X3, A3, ?_, c2, (a3.tr b3).tr c3, (a4.tr b4).tr c4⟩
  unfold fX6_additions
  show ziter _ (9996 + 1 + 1 + 1 + 1) (ci 0, ci 0, S) = _
  rw [ziter_1 a1, ziter_1 b1, ziter_1 c1, ziter_0]
  unfold fX6_additions_B5
  simp only []
  rw [if_pos (by rw [cl_3, ci_le (by omega) (by omega)]; omega), zex_some]
  rfl
theorem c_adSide {S : ZS} {ad : Nat → Nat} {p cc wc : Nat} {w c n t a b d sq k s T : Nat} {g : Nat → Nat} {v : Nat → Nat → Nat → Nat} {x : Int32} {F : Nat → Int64} {sh : Bool} (hd : zHd S ad p cc wc) (h : zWy S w c n t p a b d sq k g v) (hs : s < 3) (ho : zOb S (ad 4) 3 [.ref (ad 9), .int x]) (hF : zJA S (ad 9) 120 F) : ∃ S1 x1 F1, fX5_countAdditions_B5 (ad 10) w (bI sh) (ci T, ci s, S) = some (.inl (ci (T + adS a b d k v sh s), ci (s + 1), S1)) ∧ zOb S1 (ad 4) 3 [.ref (ad 9), .int x1] ∧ zJA S1 (ad 9) 120 F1 ∧ zWy S1 w c n t p a b d sq k g v ∧ zFrm S S1 (pSm (ad 4) (ad 9)) := by
  have hk := h.kk
  have hE := eS_b (s := s) h.2.1 hk
  obtain ⟨S1, f1, f2, f3, f4⟩ := c_tellSums h hs ho hF
  have hd1 : zOb S1 (ad 10) 5 _ := (f4.2 _ (fun hh => hh.elim (ne_oo hd.1 ho (by omega)) (ne_oj hd.1 hF))).trans hd.1
  unfold fX5_countAdditions_B5 fX5_countAdditions_J37
  simp only []
  rw [if_neg (by rw [cl_3, ci_le (by omega) (by omega)]; omega), zgR_ob hd.1 rfl, Option.bind_some, zcl_ob h.wa, f1, Option.bind_some]
  cases sh with
  | true =>
    obtain ⟨S2, g1, g2, g3⟩ := c_sharePairs 80 zF (eS a b d k s) 0 S1 (HS v s) (by omega) (by rw [zF_eq]; omega) f2 (by omega)
    have hd2 : zOb S2 (ad 10) 5 _ := (g3.2 _ (fun hh => hh.elim (ne_oo hd1 f2.1 (by omega)) (fun q => by obtain ⟨_, _, _, F', hF', _⟩ := f2; exact ne_oj hd1 hF' q))).trans hd1
    have g2' := g2
    obtain ⟨q1, _, _, F2, q2, _⟩ := g2'
    refine ⟨S2, _, F2, ?_, q1, q2, f3.sm f2 g3, f4.tr g3⟩
    rw [if_neg (show ¬ bI true = 0 by decide), zgR_ob hd1 rfl, Option.bind_some, zcl_ob f2.1]
    unfold fX3_sharePairs
    rw [cl_0, g1, Option.bind_some]
    show Option.bind (zgR S2 (ad 10) 5 4) _ = _
    rw [zgR_ob hd2 rfl, Option.bind_some, zcl_ob q1, c_countAdd g2, Option.bind_some, ci_add, ci_add, cl_1, ci_add, Nat.zero_add, Nat.add_assoc]
    rfl
  | false =>
    have f2' := f2
    obtain ⟨q1, _, _, F2, q2, _⟩ := f2'
    refine ⟨S1, _, F2, ?_, q1, q2, f3, f4⟩
    rw [if_pos bI_f, zgR_ob hd1 rfl, Option.bind_some, zcl_ob q1, c_countAdd f2, Option.bind_some, cl_0, ci_add, ci_add, cl_1, ci_add, Nat.add_zero]
    rfl
theorem c_additions {S : ZS} {ad : Nat → Nat} {p cc wc : Nat} {w c n t a b d sq k : Nat} {g : Nat → Nat} {v : Nat → Nat → Nat → Nat} {x : Int32} {F : Nat → Int64} {sh : Bool} (hd : zHd S ad p cc wc) (h : zWy S w c n t p a b d sq k g v) (ho : zOb S (ad 4) 3 [.ref (ad 9), .int x]) (hF : zJA S (ad 9) 120 F) : ∃ S1 x1 F1, fX5_countAdditions (ad 10) w (bI sh) S = some (ci (sm 3 (adS a b d k v sh)), S1) ∧ zOb S1 (ad 4) 3 [.ref (ad 9), .int x1] ∧ zJA S1 (ad 9) 120 F1 ∧ zWy S1 w c n t p a b d sq k g v ∧ zFrm S S1 (pSm (ad 4) (ad 9)) := by
  have kp : ∀ {S1 : ZS} {x : Int32} {F : Nat → Int64}, zHd S ad p cc wc → zOb S (ad 4) 3 [.ref (ad 9), .int x] → zJA S (ad 9) 120 F → zFrm S S1 (pSm (ad 4) (ad 9)) → zHd S1 ad p cc wc := fun hd ho hF hf => ⟨(hf.2 _ (fun hh => hh.elim (ne_oo hd.1 ho (by omega)) (ne_oj hd.1 hF))).trans hd.1, (hf.2 _ (fun hh => hh.elim (fun q => by
    have := (show S.1 (ad 0) = _ from hd.2.1)
    rw [q, show S.1 (ad 4) = _ from ho] at this
    simp at this) (fun q => by
    have := (show S.1 (ad 0) = _ from hd.2.1)
    rw [q, show S.1 (ad 9) = _ from hF] at this
    simp at this))).trans hd.2.1, (hf.2 _ (fun hh => hh.elim (fun q => by
    have := (show S.1 (ad 1) = _ from hd.2.2)
    rw [q, show S.1 (ad 4) = _ from ho] at this
    simp at this) (fun q => by
    have := (show S.1 (ad 1) = _ from hd.2.2)
    rw [q, show S.1 (ad 9) = _ from hF] at this
    simp at this))).trans hd.2.2⟩
  obtain ⟨S1, x1, F1, a1, a2, a3, a4, a5⟩ := c_adSide (s := 0) (T := 0) (sh := sh) hd h (by omega) ho hF
  have hd1 := kp hd ho hF a5
  obtain ⟨S2, x2, F2, b1, b2, b3, b4, b5⟩ := c_adSide (s := 1) (T := 0 + adS a b d k v sh 0) (sh := sh) hd1 a4 (by omega) a2 a3
  have hd2 := kp hd ho hF (a5.tr b5)
  obtain ⟨S3, x3, F3, c1, c2, c3, c4, c5⟩ := c_adSide (s := 2) (T := 0 + adS a b d k v sh 0 + adS a b d k v sh 1) (sh := sh) hd2 b4 (by omega) b2 b3
  refine ⟨S3, x3, F3, ?_, c2, c3, c4, (a5.tr b5).tr c5⟩
  unfold fX5_countAdditions
  show ziter _ (9996 + 1 + 1 + 1 + 1) (ci 0, ci 0, S) = _
  rw [ziter_1 a1, ziter_1 b1, ziter_1 c1, ziter_0]
  unfold fX5_countAdditions_B5
  simp only []
  rw [if_pos (by rw [cl_3, ci_le (by omega) (by omega)]; omega), zex_some]
  rfl
