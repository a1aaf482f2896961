/-! LAW CASE 23: resultByCube -/
def rbT (p a b x y z : Nat) (g : Nat → Nat) (i j : Nat) : Nat := g (ix i j z) * dg p a x i * dg p b y j
def rbF (p a b x y z : Nat) (g : Nat → Nat) (i : Nat) : Nat := sm i (fun i => sm b (rbT p a b x y z g i))
theorem rbF_b {p a b d x y z i : Nat} {g : Nat → Nat} (hp : isP p) (hg : cOK p a b d g) (hi : i ≤ 4) (hb : b ≤ 4) (hz : z < 4) : rbF p a b x y z g i ≤ i * 500 := sm_le (fun i' hi' => by
  have hpb := hp.b
  have : sm b (rbT p a b x y z g i') ≤ b * 125 := sm_le (fun j hj => by
    have h1 := hg.lt (ix_lt (i := i') (j := j) (k := z) (by omega) (by omega) hz)
    have h2 : dg p a x i' < p := dg_lt (by omega)
    have h3 : dg p b y j < p := dg_lt (by omega)
    exact Nat.mul_le_mul (Nat.mul_le_mul (show _ ≤ 5 by omega) (show _ ≤ 5 by omega)) (show _ ≤ 5 by omega))
  omega)
theorem c_mbc2 {S : ZS} {w c n t p a b d sq k x y z i T : Nat} {g : Nat → Nat} {v : Nat → Nat → Nat → Nat} (h : zWy S w c n t p a b d sq k g v) (hy : y < 2147483648) (hi : i < a) (hz : z < d) : ziter (fX4_multipliedByCube_B40 w (ci x) (ci y) (ci z) (ci i) (ci (dg p a x i)) S) zF (ci T, (0 : Int32)) = some (.inl (ci (T + sm b (rbT p a b x y z g i)), ci (i + 1))) := by
  have hsz := h.2.1
  unfold szOK at hsz
  have hc := h.2.2.2.2.1
  rw [zF_eq]
  refine ziter_seq (fun j => (ci (T + sm j (rbT p a b x y z g i)), ci j)) _ b 10000 (by omega) (fun j hj => ?_) ?_
  · unfold fX4_multipliedByCube_B40
    simp only []
    rw [zgR_ob h.wa rfl, Option.bind_some, zgI_ob hc.1 rfl, Option.bind_some, if_neg (by rw [ci_le (by omega) (by omega)]; omega), Option.bind_some, zgI_ob hc.1 rfl, Option.bind_some, zgI_ob h.wa rfl, Option.bind_some, g_numberIn h.1 hsz.2.1.2 hj hy, Option.bind_some, Option.bind_some, zcl_cu hc, g_numberAt hc (by omega) (by omega) (by omega), Option.bind_some, ci_mul, ci_mul, ci_add, cl_1, ci_add, Nat.add_assoc]
    rfl
  · unfold fX4_multipliedByCube_B40
    simp only []
    rw [zgR_ob h.wa rfl, Option.bind_some, zgI_ob hc.1 rfl, Option.bind_some, if_pos (by rw [ci_le (by omega) (by omega)]; omega), cl_1, ci_add, zex_some]
theorem c_mbc {S : ZS} {w c n t p a b d sq k x y z : Nat} {g : Nat → Nat} {v : Nat → Nat → Nat → Nat} (h : zWy S w c n t p a b d sq k g v) (hg : cOK p a b d g) (hx : x < 2147483648) (hy : y < 2147483648) (hz : z < d) : fX4_multipliedByCube w (ci x) (ci y) (ci z) S = some (ci (rbF p a b x y z g a % p)) := by
  have hsz := h.2.1
  have hpb := h.1.b
  unfold szOK at hsz
  have hc := h.2.2.2.2.1
  unfold fX4_multipliedByCube
  refine ziter_seq (fun i => (ci (rbF p a b x y z g i), ci i)) _ a zF (by rw [zF_eq]; omega) (fun i hi => ?_) ?_
  · have := c_mbc2 (x := x) (T := rbF p a b x y z g i) h hy hi hz
    unfold fX4_multipliedByCube_B6
    simp only []
    rw [zgR_ob h.wa rfl, Option.bind_some, zgI_ob hc.1 rfl, Option.bind_some, if_neg (by rw [ci_le (by omega) (by omega)]; omega), Option.bind_some, zgI_ob hc.1 rfl, Option.bind_some, zgI_ob h.wa rfl, Option.bind_some, g_numberIn h.1 hsz.1.2 hi hx, Option.bind_some]
    exact this
  · have hb := rbF_b (x := x) (y := y) h.1 hg (show a ≤ 4 by omega) (show b ≤ 4 by omega) (show z < 4 by omega)
    unfold fX4_multipliedByCube_B6
    simp only []
    rw [zgR_ob h.wa rfl, Option.bind_some, zgI_ob hc.1 rfl, Option.bind_some, if_pos (by rw [ci_le (by omega) (by omega)]; omega), zgI_ob h.wa rfl, Option.bind_some, g_rem (by omega) (by omega) (by omega), Option.bind_some, zex_some]
theorem m_size0 {S : ZS} {m w p a b d k : Nat} {R : Nat → Nat} {X : Nat → Int32} {A : Nat → Nat → Int32} {v : Nat → Nat → Nat → Nat} (h : zMo S m R X A) (y : mWy X A w p a b d k v) : zaI S (R 7) 0 ((3 : Int32) * ci w) = some (ci a) := by
  have := y.1
  rw [cl_3, ci_mul, h.rd A7 (by rw [N7]; omega)]
  exact congrArg some (y.si (s := 0) (by omega))
theorem m_size1 {S : ZS} {m w p a b d k : Nat} {R : Nat → Nat} {X : Nat → Int32} {A : Nat → Nat → Int32} {v : Nat → Nat → Nat → Nat} (h : zMo S m R X A) (y : mWy X A w p a b d k v) : zaI S (R 7) 0 ((3 : Int32) * ci w + (1 : Int32)) = some (ci b) := m_size (s := 1) h y (by omega)
theorem m_size2 {S : ZS} {m w p a b d k : Nat} {R : Nat → Nat} {X : Nat → Int32} {A : Nat → Nat → Int32} {v : Nat → Nat → Nat → Nat} (h : zMo S m R X A) (y : mWy X A w p a b d k v) : zaI S (R 7) 0 ((3 : Int32) * ci w + (2 : Int32)) = some (ci d) := m_size (s := 2) h y (by omega)
theorem m_rbc2 {S : ZS} {m w p a b d k x y z i T : Nat} {R : Nat → Nat} {X : Nat → Int32} {A : Nat → Nat → Int32} {g : Nat → Nat} {v : Nat → Nat → Nat → Nat} (h : zMo S m R X A) (wy : mWy X A w p a b d k v) (hg : mWg A w g) (hx : x < 2147483648) (hy : y < 2147483648) (hi : i < a) (hz : z < d) : ziter (fX6_resultByCube_B36 m (ci w) (ci x) (ci y) (ci z) (ci i) S) zF (ci T, (0 : Int32)) = some (.inl (ci (T + sm b (rbT p a b x y z g i)), ci (i + 1))) := by
  have hsz := wy.2.2.1
  unfold szOK at hsz
  have hw := wy.1
  rw [zF_eq]
  refine ziter_seq (fun j => (ci (T + sm j (rbT p a b x y z g i)), ci j)) _ b 10000 (by omega) (fun j hj => ?_) ?_
  · have d0 := m_digit (s := 0) (j := i) h wy (by omega) hi hx
    have d1 := m_digit (s := 1) (j := j) h wy (by omega) hj hy
    unfold fX6_resultByCube_B36
    simp only []
    rw [zgR_ob h.1 rfl, Option.bind_some, m_size1 h wy, Option.bind_some, if_neg (by rw [ci_le (by omega) (by omega)]; omega), zgR_ob h.1 rfl, Option.bind_some, m_place, Option.bind_some, m_wg h hg hw (ix_lt (by omega) (by omega) (by omega)), Option.bind_some, h.cl, cl_0, d0, Option.bind_some, h.cl, cl_1, d1, Option.bind_some, ci_mul, ci_mul, ci_add, ci_add, Nat.add_assoc]
    rfl
  · unfold fX6_resultByCube_B36
    simp only []
    rw [zgR_ob h.1 rfl, Option.bind_some, m_size1 h wy, Option.bind_some, if_pos (by rw [ci_le (by omega) (by omega)]; omega), cl_1, ci_add, zex_some]
theorem m_rbc {S : ZS} {m w p a b d k x y z : Nat} {R : Nat → Nat} {X : Nat → Int32} {A : Nat → Nat → Int32} {g : Nat → Nat} {v : Nat → Nat → Nat → Nat} (h : zMo S m R X A) (wy : mWy X A w p a b d k v) (hg : mWg A w g) (hok : cOK p a b d g) (hx : x < 2147483648) (hy : y < 2147483648) (hz : z < d) : ziter (fX6_resultByCube_B20 m (ci w) (ci x) (ci y) (ci z) S) zF ((0 : Int32), (0 : Int32)) = some (ci (rbF p a b x y z g a % p), S) := by
  have hsz := wy.2.2.1
  have hpb := wy.2.1.b
  unfold szOK at hsz
  refine ziter_seq (fun i => (ci (rbF p a b x y z g i), ci i)) _ a zF (by rw [zF_eq]; omega) (fun i hi => ?_) ?_
  · have := m_rbc2 (T := rbF p a b x y z g i) h wy hg hx hy hi hz
    unfold fX6_resultByCube_B20
    simp only []
    rw [zgR_ob h.1 rfl, Option.bind_some, m_size0 h wy, Option.bind_some, if_neg (by rw [ci_le (by omega) (by omega)]; omega)]
    exact this
  · have hb := rbF_b (x := x) (y := y) wy.2.1 hok (show a ≤ 4 by omega) (show b ≤ 4 by omega) (show z < 4 by omega)
    unfold fX6_resultByCube_B20
    simp only []
    rw [zgR_ob h.1 rfl, Option.bind_some, m_size0 h wy, Option.bind_some, if_pos (by rw [ci_le (by omega) (by omega)]; omega), zgI_ob h.1 rfl, Option.bind_some, wy.2.2.2.2.1, z_rem (by omega) (by omega) (by omega), Option.bind_some, zex_some]
/-- the exception of asking; 0 for none -/
def ask (p a b d : Nat) (x y z : Int32) : Nat := if bl d z = true then (if (bl (p ^ a) x && bl (p ^ b) y) = true then 0 else 2) else 1
theorem ask_lt {p a b d : Nat} {x y z : Int32} : ask p a b d x y z < 3 := by unfold ask; split <;> (try split) <;> omega
theorem c_needFactors {S : ZS} {ad : Nat → Nat} {p cc wc : Nat} {w c n t a b d sq k : Nat} {g : Nat → Nat} {v : Nat → Nat → Nat → Nat} {x y z : Int32} (hd : zHd S ad p cc wc) (h : zWy S w c n t p a b d sq k g v) : zcl S (ad 10) 5 (fX5_needFactors (ad 10) w x y z S) = if ask p a b d x y z = 0 then some (.inl ((), S)) else some (.inr (if ask p a b d x y z = 1 then "java/lang/IndexOutOfBoundsException" else "java/lang/IllegalArgumentException", S.1)) := by
  have hsz := h.2.1
  unfold szOK at hsz
  have hc := h.2.2.2.2.1
  unfold fX5_needFactors ask
  rw [zcl_ob hd.1, zgR_ob h.wa rfl, Option.bind_some, zgI_ob hc.1 rfl, Option.bind_some, c_isBelow (by omega), Option.bind_some]
  cases bl d z with
  | false => rfl
  | true =>
    rw [if_neg (show ¬ bI true = 0 by decide), Option.bind_some, zgI_ob hc.1 rfl, Option.bind_some, c_needCode hd h.1 hsz.1.2]
    cases bl (p ^ a) x with
    | false => rfl
    | true =>
      rw [if_pos rfl, zbT_l]
      show Option.bind (zgR S w 4 0) _ = _
      rw [zgR_ob h.wa rfl, Option.bind_some]
      show Option.bind (zgI S c 0 1) _ = _
      rw [zgI_ob hc.1 rfl, Option.bind_some]
      show zbT (zcl S (ad 10) 5 (fX5_needCode (ad 10) y (ci b) S)) _ = _
      rw [c_needCode hd h.1 hsz.2.1.2]
      cases bl (p ^ b) y <;> rfl
theorem m_askJ {S : ZS} {m j : Nat} {R : Nat → Nat} {X : Nat → Int32} {A : Nat → Nat → Int32} (h : zMo S m R X A) (hj : j < 3) : ∃ S1, fX6_canAsk_J71 m (ci j) S = some (bI (decide (j = 0)), S1) ∧ zMo S1 m R (mX X 0 (ci j)) A ∧ zFrm S S1 (mP m R) := by
  obtain ⟨S1, g1, g2, g3⟩ := m_goesWell h (j := j) (by omega)
  refine ⟨S1, ?_, g2, g3.wk (fun _ => Or.inl)⟩
  unfold fX6_canAsk_J71
  rw [h.cl, g1, Option.bind_some, zbl_bI, Option.bind_some]
theorem m_canAsk {S : ZS} {m wc w p a b d k : Nat} {x y z : Int32} {R : Nat → Nat} {X : Nat → Int32} {A : Nat → Nat → Int32} {v : Nat → Nat → Nat → Nat} (h : zMo S m R X A) (hX : X 6 = ci wc) (hc : wc ≤ 16) (hw : w < wc) (wy : mWy X A w p a b d k v) : ∃ S1, fX6_canAsk m (ci w) x y z S = some (bI (decide (ask p a b d x y z = 0)), S1) ∧ zMo S1 m R (mX X 0 (ci (ask p a b d x y z))) A ∧ zFrm S S1 (mP m R) := by
  have hsz := wy.2.2.1
  unfold szOK at hsz
  obtain ⟨S1, g1, g2, g3⟩ := m_askJ h (ask_lt (p := p) (a := a) (b := b) (d := d) (x := x) (y := y) (z := z))
  refine ⟨S1, ?_, g2, g3⟩
  rw [← g1]
  have c0 := m_isCode (s := 0) (x := x) h wy (by omega)
  have c1 := m_isCode (s := 1) (x := y) h wy (by omega)
  unfold fX6_canAsk fX6_canAsk_J33 fX6_canAsk_J34 fX6_canAsk_J70 ask
  rw [h.cl, m_isWay h hX hc, Option.bind_some, bl_ci (by omega) (by omega), decide_eq_true hw, if_neg (show ¬ bI true = 0 by decide), zgR_ob h.1 rfl, Option.bind_some, m_size2 h wy, Option.bind_some, m_in (by omega), Option.bind_some, h.cl, cl_0, c0, Option.bind_some, h.cl, ← cl_0, cl_1, c1, Option.bind_some, ← cl_1]
  show _ = fX6_canAsk_J71 m (ci (if bl d z = true then (if (bl (p ^ a) x && bl (p ^ b) y) = true then 0 else 2) else 1)) S
  show (if bI (bl d z) = 0 then _ else (if (1 : Int32) = 0 then _ else (if bI (bl (p ^ a) x) = 0 then _ else (if bI (bl (p ^ b) y) = 0 then _ else _)))) = _
  cases bl d z <;> cases bl (p ^ a) x <;> cases bl (p ^ b) y <;> rfl
