/-! LAW CASE 20: growth -/
def nuF (v : Nat → Nat → Nat → Nat) (q s n : Nat) : Nat := sm n (fun j => bn (nzd v q s j))
theorem nuF_le {v : Nat → Nat → Nat → Nat} {q s n : Nat} : nuF v q s n ≤ n := by
  have := sm_le (n := n) (b := 1) (f := fun j => bn (nzd v q s j)) (fun j _ => bn_le _)
  rw [Nat.mul_one] at this
  exact this
def grA (v : Nat → Nat → Nat → Nat) (a b z i : Nat) : Nat := sm i (fun q => if v q 2 z = 0 then 0 else nuF v q 0 a * nuF v q 1 b)
theorem grA_b {v : Nat → Nat → Nat → Nat} {a b z i : Nat} (ha : a ≤ 4) (hb : b ≤ 4) : grA v a b z i ≤ i * 16 := sm_le (fun q _ => by
  have h1 := nuF_le (v := v) (q := q) (s := 0) (n := a)
  have h2 := nuF_le (v := v) (q := q) (s := 1) (n := b)
  split
  · omega
  · exact Nat.mul_le_mul (show _ ≤ 4 by omega) (show _ ≤ 4 by omega))
def mxF (v : Nat → Nat → Nat → Nat) (a b k : Nat) : Nat → Nat
  | 0 => 0
  | z + 1 => if mxF v a b k z < grA v a b z k then grA v a b z k else mxF v a b k z
theorem mxF_b {v : Nat → Nat → Nat → Nat} {a b k z : Nat} (ha : a ≤ 4) (hb : b ≤ 4) : mxF v a b k z ≤ k * 16 := by
  induction z with
  | zero => exact Nat.zero_le _
  | succ z ih =>
    show (if mxF v a b k z < grA v a b z k then grA v a b z k else mxF v a b k z) ≤ _
    split
    · exact grA_b ha hb
    · exact ih
theorem c_growthAt {S : ZS} {w c n t p a b d sq k z : Nat} {g : Nat → Nat} {v : Nat → Nat → Nat → Nat} (h : zWy S w c n t p a b d sq k g v) (hz : z < d) : fX4_growthAt w (ci z) S = some (ci (grA v a b z k)) := by
  have hsz := h.2.1
  unfold szOK at hsz
  have hk := h.kk
  have hpb := h.1.b
  unfold fX4_growthAt
  refine ziter_seq (fun i => (ci (grA v a b z i), ci i)) _ k zF (by rw [zF_eq]; omega) (fun q hq => ?_) ?_
  · have hv : v q 2 z < p := h.2.2.2.2.2.1 q hq 2 (by omega) z hz
    have p0 := g_filledPlaces (s := 0) h hq (by omega)
    have p1 := g_filledPlaces (s := 1) h hq (by omega)
    have e : grA v a b z (q + 1) = grA v a b z q + (if v q 2 z = 0 then 0 else nuF v q 0 a * nuF v q 1 b) := rfl
    unfold fX4_growthAt_B4 fX4_growthAt_J52
    simp only []
    rw [zgI_ob h.wa rfl, Option.bind_some, if_neg (by rw [ci_le (by omega) (by omega)]; omega), zcl_ob h.wa, cl_2, g_number h hq (by omega) hz, Option.bind_some]
    by_cases h0 : v q 2 z = 0
    · rw [if_pos (by rw [h0]; rfl), cl_1, ci_add, e, if_pos h0]; rfl
    · rw [if_neg (by rw [cl_0, ci_eq (by omega) (by omega)]; exact h0), zcl_ob h.wa, cl_0, p0, Option.bind_some, g_bits (Nat.le_trans (sz3_b h.2.1 (s := 0)).2 (by omega)), Option.bind_some, zcl_ob h.wa, cl_1, p1, Option.bind_some, g_bits (Nat.le_trans (sz3_b h.2.1 (s := 1)).2 (by omega)), Option.bind_some, ci_mul, ci_add, ci_add, e, if_neg h0]
      rfl
  · unfold fX4_growthAt_B4
    simp only []
    rw [zgI_ob h.wa rfl, Option.bind_some, if_pos (by rw [ci_le (by omega) (by omega)]; omega), zex_some]
theorem c_growth {S : ZS} {w c n t p a b d sq k : Nat} {g : Nat → Nat} {v : Nat → Nat → Nat → Nat} (h : zWy S w c n t p a b d sq k g v) : fX4_greatestGrowth w S = some (ci (mxF v a b k d)) := by
  have hsz := h.2.1
  unfold szOK at hsz
  have hk := h.kk
  unfold fX4_greatestGrowth
  refine ziter_seq (fun z => (ci (mxF v a b k z), ci z)) _ d zF (by rw [zF_eq]; omega) (fun z hz => ?_) ?_
  · have b1 := mxF_b (v := v) (a := a) (b := b) (k := k) (z := z) hsz.1.2 hsz.2.1.2
    have b2 := grA_b (v := v) (a := a) (b := b) (z := z) (i := k) hsz.1.2 hsz.2.1.2
    have e : mxF v a b k (z + 1) = if mxF v a b k z < grA v a b z k then grA v a b z k else mxF v a b k z := rfl
    unfold fX4_greatestGrowth_B4
    simp only []
    rw [zgR_ob h.wa rfl, Option.bind_some, zgI_ob h.2.2.2.2.1.1 rfl, Option.bind_some, if_neg (by rw [ci_le (by omega) (by omega)]; omega), zcl_ob h.wa, c_growthAt h hz, Option.bind_some, cl_1, ci_add, e]
    by_cases hl : mxF v a b k z < grA v a b z k
    · rw [if_pos hl, if_pos ((ci_lt (by omega) (by omega)).mpr hl)]
    · rw [if_neg hl, if_neg (fun hh => hl ((ci_lt (by omega) (by omega)).mp hh))]
  · unfold fX4_greatestGrowth_B4
    simp only []
    rw [zgR_ob h.wa rfl, Option.bind_some, zgI_ob h.2.2.2.2.1.1 rfl, Option.bind_some, if_pos (by rw [ci_le (by omega) (by omega)]; omega), zex_some]
theorem m_numbers {S : ZS} {m w p a b d k q s : Nat} {R : Nat → Nat} {X : Nat → Int32} {A : Nat → Nat → Int32} {v : Nat → Nat → Nat → Nat} (h : zMo S m R X A) (y : mWy X A w p a b d k v) (hq : q < k) (hs : s < 3) : fX6_numbers m (ci w) (ci q) (ci s) S = some (ci (nuF v q s (sz3 a b d s))) := by
  have hn := y.s4 (s := s)
  have hpb := y.2.1.b
  unfold fX6_numbers
  refine ziter_seq (fun j => (ci (nuF v q s j), ci j)) _ (sz3 a b d s) zF (by rw [zF_eq]; omega) (fun j hj => ?_) ?_
  · have hv := y.lt hq hs hj
    have e : nuF v q s (j + 1) = nuF v q s j + bn (nzd v q s j) := rfl
    unfold fX6_numbers_B6 fX6_numbers_J45
    simp only []
    rw [zgR_ob h.1 rfl, Option.bind_some, m_size h y hs, Option.bind_some, if_neg (by rw [ci_le (by omega) (by omega)]; omega), zgR_ob h.1 rfl, Option.bind_some, m_from, Option.bind_some, m_dig h y hq hs hj, Option.bind_some]
    by_cases h0 : v q s j = 0
    · rw [if_pos (by rw [h0]; rfl), cl_0, cl_1, ci_add, ci_add, e, nzd_f h0]; rfl
    · rw [if_neg (by rw [cl_0, ci_eq (by omega) (by omega)]; exact h0), cl_1, ci_add, ci_add, e, nzd_t h0]; rfl
  · unfold fX6_numbers_B6
    simp only []
    rw [zgR_ob h.1 rfl, Option.bind_some, m_size h y hs, Option.bind_some, if_pos (by rw [ci_le (by omega) (by omega)]; omega), zex_some]
theorem m_growth {S : ZS} {m w p a b d k : Nat} {R : Nat → Nat} {X : Nat → Int32} {A : Nat → Nat → Int32} {v : Nat → Nat → Nat → Nat} (h : zMo S m R X A) (y : mWy X A w p a b d k v) : fX6_growth m (ci w) S = some (ci (mxF v a b k d)) := by
  have hsz := y.2.2.1
  unfold szOK at hsz
  have hk := y.kk
  have hpb := y.2.1.b
  unfold fX6_growth
  refine ziter_seq (fun z => (ci (mxF v a b k z), ci z)) _ d zF (by rw [zF_eq]; omega) (fun z hz => ?_) ?_
  · have b1 := mxF_b (v := v) (a := a) (b := b) (k := k) (z := z) hsz.1.2 hsz.2.1.2
    have b2 := grA_b (v := v) (a := a) (b := b) (z := z) (i := k) hsz.1.2 hsz.2.1.2
    have e : mxF v a b k (z + 1) = if mxF v a b k z < grA v a b z k then grA v a b z k else mxF v a b k z := rfl
    unfold fX6_growth_B4
    simp only []
    rw [zgR_ob h.1 rfl, Option.bind_some, m_size2 h y, Option.bind_some, if_neg (by rw [ci_le (by omega) (by omega)]; omega)]
    refine ziter_seq (fun i => (ci (grA v a b z i), ci i)) _ k zF (by rw [zF_eq]; omega) (fun q hq => ?_) ?_
    · have hv : v q 2 z < p := y.lt hq (s := 2) (by omega) hz
      have n0 := m_numbers (s := 0) h y hq (by omega)
      have n1 := m_numbers (s := 1) h y hq (by omega)
      have e2 : grA v a b z (q + 1) = grA v a b z q + (if v q 2 z = 0 then 0 else nuF v q 0 a * nuF v q 1 b) := rfl
      unfold fX6_growth_B24 fX6_growth_J75
      simp only []
      rw [zgR_ob h.1 rfl, Option.bind_some, m_ct h y, Option.bind_some, if_neg (by rw [ci_le (by omega) (by omega)]; omega), zgR_ob h.1 rfl, Option.bind_some, cl_2, m_from, Option.bind_some, m_dig h y hq (by omega) hz, Option.bind_some]
      by_cases h0 : v q 2 z = 0
      · rw [if_pos (by rw [h0]; rfl), cl_0, cl_1, ci_add, ci_add, e2, if_pos h0]
      · rw [if_neg (by rw [cl_0, ci_eq (by omega) (by omega)]; exact h0), h.cl, cl_0, n0, Option.bind_some, h.cl, cl_1, n1, Option.bind_some, ci_mul, ci_add, ci_add, e2, if_neg h0]
        rfl
    · unfold fX6_growth_B24 fX6_growth_J96
      simp only []
      rw [zgR_ob h.1 rfl, Option.bind_some, m_ct h y, Option.bind_some, if_pos (by rw [ci_le (by omega) (by omega)]; omega), e]
      by_cases hl : mxF v a b k z < grA v a b z k
      · rw [if_neg (by rw [ci_le (by omega) (by omega)]; omega), if_pos hl, cl_1, ci_add, zex_some]
      · rw [if_pos (by rw [ci_le (by omega) (by omega)]; omega), if_neg hl, cl_1, ci_add, zex_some]
  · unfold fX6_growth_B4
    simp only []
    rw [zgR_ob h.1 rfl, Option.bind_some, m_size2 h y, Option.bind_some, if_pos (by rw [ci_le (by omega) (by omega)]; omega), zex_some]
