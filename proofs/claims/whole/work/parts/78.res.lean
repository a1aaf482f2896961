/-! LAW CASES 22, 23: result, resultByCube -/
theorem g_number {S : ZS} {w c n t p a b d sq k q s j : Nat} {g : Nat → Nat} {v : Nat → Nat → Nat → Nat} (h : zWy S w c n t p a b d sq k g v) (hq : q < k) (hs : s < 3) (hj : j < sz3 a b d s) : fX4_number w (ci q) (ci s) (ci j) S = some (ci (v q s j)) := by
  have hb := sz3_b h.2.1 (s := s)
  have he := h.eb hq hs
  have hpb := h.1.b
  have hv := h.2.2.2.2.2.1 q hq s hs
  unfold fX4_number
  rw [zcl_ob h.wa, g_code h hq hs, Option.bind_some, zgR_ob h.wa rfl, Option.bind_some, zcl_cu h.2.2.2.2.1, g_sizeOf h.2.2.2.2.1 hs, Option.bind_some, zgI_ob h.wa rfl, Option.bind_some, g_numberIn h.1 hb.2 hj (by omega), Option.bind_some, dg_enc (by omega) hv hj]
theorem m_digit {S : ZS} {m w p a b d k s j e : Nat} {R : Nat → Nat} {X : Nat → Int32} {A : Nat → Nat → Int32} {v : Nat → Nat → Nat → Nat} (h : zMo S m R X A) (y : mWy X A w p a b d k v) (hs : s < 3) (hj : j < sz3 a b d s) (he : e < 2147483648) : fX6_digit m (ci w) (ci s) (ci e) (ci j) S = some (ci (dg p (sz3 a b d s) e j)) := by
  have hn := y.s4 (s := s)
  have hpb := y.2.1.b
  obtain ⟨n, hne⟩ : ∃ n, n = sz3 a b d s := ⟨_, rfl⟩
  have hst : ∀ i, e / p ^ i ≤ e := fun i => Nat.div_le_self _ _
  unfold fX6_digit
  rw [zgR_ob h.1 rfl, Option.bind_some, m_size h y hs, Option.bind_some, ← hne]
  rw [← hne] at hn hj
  have := ziter_seq (body := fX6_digit_B17 m (ci j) S) (fun i => (ci (e / p ^ i), ci (n - 1 - i))) (ci (dg p n e j)) (n - 1 - j) 10000 (by omega) (fun i hi => ?_) ?_
  · simp only [Nat.pow_zero, Nat.div_one, Nat.sub_zero] at this
    rw [cl_1, ci_sub (by omega), zF_eq]
    exact this
  · unfold fX6_digit_B17
    have := hst i
    simp only []
    rw [if_neg (by rw [ci_le (by omega) (by omega)]; omega), zgI_ob h.1 rfl, Option.bind_some, y.2.2.2.2.1, z_div (by omega) (by omega) (by omega), Option.bind_some, addm1, cl_1, ci_sub (by omega), Nat.pow_succ, Nat.div_div_eq_div_mul]
    rfl
  · unfold fX6_digit_B17
    have := hst (n - 1 - j)
    simp only []
    rw [if_pos (by rw [ci_le (by omega) (by omega)]; omega), zgI_ob h.1 rfl, Option.bind_some, y.2.2.2.2.1, z_rem (by omega) (by omega) (by omega), Option.bind_some, zex_some]
    rfl
/-- a vector's product with a code -/
def vxp (p n e : Nat) (u : Nat → Nat) : Nat := sm n (fun j => u j * dg p n e j) % p
theorem vxp_b {p n e i : Nat} {u : Nat → Nat} (hp : isP p) (hi : i ≤ n) (hu : ∀ j, j < n → u j < p) : sm i (fun j => u j * dg p n e j) ≤ i * 25 := sm_le (fun j hj => by
  have hpb := hp.b
  have h1 := hu j (by omega)
  have h2 : dg p n e j < p := dg_lt (by omega)
  exact Nat.mul_le_mul (show u j ≤ 5 by omega) (show dg p n e j ≤ 5 by omega))
theorem vxp_lt {p n e : Nat} {u : Nat → Nat} (hp : isP p) : vxp p n e u < p := Nat.mod_lt _ (by have := hp.b; omega)
theorem m_times {S : ZS} {m w p a b d k q s e : Nat} {R : Nat → Nat} {X : Nat → Int32} {A : Nat → Nat → Int32} {v : Nat → Nat → Nat → Nat} (h : zMo S m R X A) (y : mWy X A w p a b d k v) (hq : q < k) (hs : s < 3) (he : e < 2147483648) : fX6_times m (ci w) (ci q) (ci s) (ci e) S = some (ci (vxp p (sz3 a b d s) e (v q s))) := by
  have hn := y.s4 (s := s)
  have hpb := y.2.1.b
  have hu : ∀ j, j < sz3 a b d s → v q s j < p := fun j hj => y.lt hq hs hj
  unfold fX6_times
  rw [zF_eq]
  refine ziter_seq (fun i => (ci (sm i (fun j => v q s j * dg p (sz3 a b d s) e j)), ci i)) _ (sz3 a b d s) 10000 (by omega) (fun i hi => ?_) ?_
  · unfold fX6_times_B6
    simp only []
    rw [zgR_ob h.1 rfl, Option.bind_some, m_size h y hs, Option.bind_some, if_neg (by rw [ci_le (by omega) (by omega)]; omega), zgR_ob h.1 rfl, Option.bind_some, m_from, Option.bind_some, m_dig h y hq hs hi, Option.bind_some, h.cl, m_digit h y hs hi he, Option.bind_some, ci_mul, ci_add, cl_1, ci_add]
    rfl
  · have hb := vxp_b (e := e) y.2.1 (Nat.le_refl _) hu
    unfold fX6_times_B6
    simp only []
    rw [zgR_ob h.1 rfl, Option.bind_some, m_size h y hs, Option.bind_some, if_pos (by rw [ci_le (by omega) (by omega)]; omega), zgI_ob h.1 rfl, Option.bind_some, y.2.2.2.2.1, z_rem (by omega) (by omega) (by omega), Option.bind_some, zex_some]
    rfl
theorem g_vx {p n e : Nat} {u : Nat → Nat} (hp : isP p) (hn : n ≤ 4) (hu : ∀ j, j < n → u j < p) (he : e < 2147483648) : fX5_multipliedCodes (ci (enc p n u)) (ci e) (ci n) (ci p) = some (ci (vxp p n e u)) := by
  have h2 := enc_b hp hn hu
  have hpb := hp.b
  rw [g_multipliedCodes hp hn (by omega) he]
  unfold vxp
  rw [sm_congr (fun j hj => by rw [dg_enc (by omega) hu hj])]
/-- what result answers -/
def rsF (p a b x y z : Nat) (v : Nat → Nat → Nat → Nat) (k : Nat) : Nat := sm k (fun q => v q 2 z * vxp p a x (v q 0) * vxp p b y (v q 1))
theorem rsF_b {p a b d x y z k i : Nat} {v : Nat → Nat → Nat → Nat} (hp : isP p) (hz : z < d) (hi : i ≤ k) (hv : vOK p a b d k v) : rsF p a b x y z v i ≤ i * 125 := sm_le (fun q hq => by
  have hpb := hp.b
  have h1 : v q 2 z < p := hv q (by omega) 2 (by omega) z hz
  have h2 := vxp_lt (n := a) (e := x) (u := v q 0) hp
  have h3 := vxp_lt (n := b) (e := y) (u := v q 1) hp
  exact Nat.mul_le_mul (Nat.mul_le_mul (show v q 2 z ≤ 5 by omega) (show _ ≤ 5 by omega)) (show _ ≤ 5 by omega))
theorem c_multiplied {S : ZS} {w c n t p a b d sq k x y z : Nat} {g : Nat → Nat} {v : Nat → Nat → Nat → Nat} (h : zWy S w c n t p a b d sq k g v) (hx : x < 2147483648) (hy : y < 2147483648) (hz : z < d) : fX4_multiplied w (ci x) (ci y) (ci z) S = some (ci (rsF p a b x y z v k % p)) := by
  have hpb := h.1.b
  have hk := h.kk
  have hsz := h.2.1
  unfold szOK at hsz
  have hv := h.2.2.2.2.2.1
  unfold fX4_multiplied
  rw [zF_eq]
  refine ziter_seq (fun i => (ci (rsF p a b x y z v i), ci i)) _ k 10000 (by omega) (fun i hi => ?_) ?_
  · have c0 := g_code (s := 0) h hi (by omega)
    have c1 := g_code (s := 1) h hi (by omega)
    have c2 := g_number (s := 2) (j := z) h hi (by omega) hz
    have m0 := g_vx (e := x) h.1 hsz.1.2 (hv i hi 0 (by omega)) hx
    have m1 := g_vx (e := y) h.1 hsz.2.1.2 (hv i hi 1 (by omega)) hy
    unfold fX4_multiplied_B6
    simp only []
    rw [zgI_ob h.wa rfl, Option.bind_some, if_neg (by rw [ci_le (by omega) (by omega)]; omega), zcl_ob h.wa]
    rw [cl_0, c0, Option.bind_some, zgR_ob h.wa rfl, Option.bind_some, zgI_ob h.2.2.2.2.1.1 rfl, Option.bind_some, zgI_ob h.wa rfl, Option.bind_some]
    show Option.bind (fX5_multipliedCodes (ci (enc p a (v i 0))) (ci x) (ci a) (ci p)) _ = _
    rw [m0, Option.bind_some, cl_1, zcl_ob h.wa, c1, Option.bind_some, Option.bind_some, zgI_ob h.2.2.2.2.1.1 rfl, Option.bind_some, Option.bind_some]
    show Option.bind (fX5_multipliedCodes (ci (enc p b (v i 1))) (ci y) (ci b) (ci p)) _ = _
    rw [m1, Option.bind_some, zcl_ob h.wa, cl_2, c2, Option.bind_some, ci_mul, ci_mul, ci_add, ci_add]
    rfl
  · have hb := rsF_b (x := x) (y := y) h.1 hz (Nat.le_refl _) hv
    unfold fX4_multiplied_B6
    simp only []
    rw [zgI_ob h.wa rfl, Option.bind_some, if_pos (by rw [ci_le (by omega) (by omega)]; omega), zgI_ob h.wa rfl, Option.bind_some, g_rem (by omega) (by omega) (by omega), Option.bind_some, zex_some]
theorem m_result {S : ZS} {m w p a b d k x y z : Nat} {R : Nat → Nat} {X : Nat → Int32} {A : Nat → Nat → Int32} {v : Nat → Nat → Nat → Nat} (h : zMo S m R X A) (wy : mWy X A w p a b d k v) (hx : x < 2147483648) (hy : y < 2147483648) (hz : z < d) : ziter (fX6_result_B20 m (ci w) (ci x) (ci y) (ci z) S) zF ((0 : Int32), (0 : Int32)) = some (ci (rsF p a b x y z v k % p), S) := by
  have hpb := wy.2.1.b
  have hk := wy.kk
  have hv := wy.2.2.2.2.2.2.2.1
  rw [zF_eq]
  refine ziter_seq (fun i => (ci (rsF p a b x y z v i), ci i)) _ k 10000 (by omega) (fun i hi => ?_) ?_
  · have t0 := m_times (s := 0) h wy hi (by omega) hx
    have t1 := m_times (s := 1) h wy hi (by omega) hy
    unfold fX6_result_B20
    simp only []
    rw [zgR_ob h.1 rfl, Option.bind_some, m_ct h wy, Option.bind_some, if_neg (by rw [ci_le (by omega) (by omega)]; omega), zgR_ob h.1 rfl, Option.bind_some, cl_2, m_from, Option.bind_some, m_dig h wy hi (by omega) hz, Option.bind_some, h.cl, cl_0, t0, Option.bind_some, h.cl, cl_1, t1, Option.bind_some, ci_mul, ci_mul, ci_add, ci_add]
    rfl
  · have hb := rsF_b (x := x) (y := y) wy.2.1 hz (Nat.le_refl _) hv
    unfold fX6_result_B20
    simp only []
    rw [zgR_ob h.1 rfl, Option.bind_some, m_ct h wy, Option.bind_some, if_pos (by rw [ci_le (by omega) (by omega)]; omega), zgI_ob h.1 rfl, Option.bind_some, wy.2.2.2.2.1, z_rem (by omega) (by omega) (by omega), Option.bind_some, zex_some]
