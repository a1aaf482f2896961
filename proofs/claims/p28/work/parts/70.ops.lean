-- 70.msum.lean.txt
/-- a cube's numbers in the model, as another one is filled -/
def mNum (A : Nat → Nat → Int32) (i : Nat) (g : Nat → Nat) : Prop := ∀ x, x < 64 → A 4 (64 * i + x) = ci (g x)
theorem mNum.v {A A' : Nat → Nat → Int32} {i cc : Nat} {g : Nat → Nat} (h : mNum A i g) (hi : i < cc) (hv : mV cc A A') : mNum A' i g := fun x hx => by
  rw [hv.2.2 _ (by omega)]; exact h x hx
theorem mNum.z {A A' : Nat → Nat → Int32} {i cc : Nat} {g : Nat → Nat} (h : mNum A i g) (hi : i < cc) (hv : mZ cc A A') : mNum A' i g := fun x hx => by
  rw [hv.2.2.1 _ (by omega)]; exact h x hx
/-- what the model's product finds ahead of its loops -/
def mpB (A : Nat → Nat → Int32) (X : Nat → Int32) (cc i j p la lb ld ra rb rd : Nat) (gl gr : Nat → Nat) : Prop :=
  cc < 16 ∧ i < cc ∧ j < cc ∧ isP p ∧ X 1 = ci p ∧ mNum A i gl ∧ mNum A j gr ∧ cOK p la lb ld gl ∧ cOK p ra rb rd gr ∧ (1 ≤ ra ∧ ra ≤ 4 ∧ 1 ≤ rb ∧ rb ≤ 4 ∧ 1 ≤ rd ∧ rd ≤ 4) ∧ (la ≤ 4 ∧ lb ≤ 4 ∧ ld ≤ 4) ∧ (la * ra ≤ 4 ∧ lb * rb ≤ 4 ∧ ld * rd ≤ 4) ∧ ∀ s, s < 3 → A 3 (3 * cc + s) = ci (sz3 (la * ra) (lb * rb) (ld * rd) s)
theorem z_div {x y : Nat} (hx : x < 2147483648) (hy : y < 2147483648) (h0 : 0 < y) : zdiv (ci x) (ci y) = some (ci (x / y)) := by
  unfold zdiv
  rw [if_neg (by rw [cl_0, ci_eq hy (by omega)]; omega), ci_div hx hy]
-- 71.sum7.lean.txt
/-! LAW CASE 7: sum, whole -/
theorem s4_ci {n : Nat} (hn : n < 2147483648) : s4 (ci n) = decide (1 ≤ n ∧ n ≤ 4) := by
  unfold s4
  congr 1
  rw [cl_1, cl_4, ci_le (by omega) hn, ci_le hn (by omega)]
theorem cmk_ok {cc a b d : Nat} (h : szOK a b d) : cmk cc (ci a) (ci b) (ci d) = if cc = 16 then 2 else 0 := by
  unfold szOK at h
  unfold cmk s43
  rw [s4_ci (by omega), s4_ci (by omega), s4_ci (by omega), decide_eq_true h.1, decide_eq_true h.2.1, decide_eq_true h.2.2]
  rfl
theorem cmk_no {cc a b d : Nat} (ha : a < 2147483648) (hb : b < 2147483648) (hd : d < 2147483648) (h : ¬ szOK a b d) : cmk cc (ci a) (ci b) (ci d) = 1 := by
  unfold szOK at h
  unfold cmk s43
  rw [s4_ci ha, s4_ci hb, s4_ci hd, if_neg]
  intro hh
  rw [Bool.and_eq_true, Bool.and_eq_true, decide_eq_true_eq, decide_eq_true_eq, decide_eq_true_eq] at hh
  exact h hh
theorem old_cu {S1 : ZS} {ad : Nat → Nat} {p cc wc a b d n i : Nat} {CA CG WA WG : Nat → Nat → Nat} {WV : Nat → Nat → Nat → Nat → Nat} {g : Nat → Nat} (hi : i < cc) (c3 : zCl S1 (adN ad cc n) p (cc + 1) wc (upN CA cc a b d 0) (upG CG cc g) WA WG WV) : zCu S1 (ad (100 + 2 * i)) (ad (101 + 2 * i)) (CA i 0) (CA i 1) (CA i 2) (CA i 3) (CG i) := by
  have := (c3.2.2.1 i (by omega)).1
  rw [upG_ne (by omega), show upN CA cc a b d 0 i = CA i from if_neg (by omega), adN_old (by omega) (by omega), adN_old (by omega) (by omega)] at this
  exact this
theorem c_isLike {S : ZS} {lc ln la lb ld lq rc rn ra rb rd rq : Nat} {gl gr : Nat → Nat} (h1 : zCu S lc ln la lb ld lq gl) (h2 : zCu S rc rn ra rb rd rq gr) (s1 : szOK la lb ld) (s2 : szOK ra rb rd) : fX0_isLike lc rc S = some (bI (decide (la = ra ∧ lb = rb ∧ ld = rd))) := by
  unfold szOK at s1 s2
  unfold fX0_isLike fX0_isLike_J37 fX0_isLike_J38
  rw [zgI_ob h1.1 rfl, Option.bind_some, zgI_ob h2.1 rfl, Option.bind_some]
  by_cases q1 : la = ra
  · rw [if_pos (by rw [q1]), zgI_ob h1.1 rfl, Option.bind_some, zgI_ob h2.1 rfl, Option.bind_some]
    by_cases q2 : lb = rb
    · rw [if_pos (by rw [q2]), zgI_ob h1.1 rfl, Option.bind_some, zgI_ob h2.1 rfl, Option.bind_some]
      by_cases q3 : ld = rd
      · rw [if_pos (by rw [q3]), decide_eq_true ⟨q1, q2, q3⟩]; rfl
      · rw [if_neg (by rw [ci_eq (by omega) (by omega)]; exact q3), decide_eq_false (fun hh => q3 hh.2.2)]; rfl
    · rw [if_neg (by rw [ci_eq (by omega) (by omega)]; exact q2), decide_eq_false (fun hh => q2 hh.2.1)]; rfl
  · rw [if_neg (by rw [ci_eq (by omega) (by omega)]; exact q1), decide_eq_false (fun hh => q1 hh.1)]; rfl
-- 72.prod8.lean.txt
/-! LAW CASE 8: product, whole -/
theorem ziter_x {σ ρ : Type} {body : σ → Option (σ ⊕ ρ)} {x : σ} {o : Option ρ} {n : Nat} (h : body x = zex o) : ziter body (n + 1) x = o := by
  rw [ziter, h]
  cases o <;> rfl
theorem zF_s : zF = 9999 + 1 := rfl
-- 73.mv.lean.txt
/-! LAW CASE 6: move, the numbers -/
def px (s x t : Nat) : Nat := if s = 0 then ix x (t / 4) (t % 4) else if s = 1 then ix (t / 4) x (t % 4) else ix (t / 4) (t % 4) x
def mv (s f e c p : Nat) (g : Nat → Nat) : Nat → (Nat → Nat)
  | 0 => g
  | n + 1 => va_up (mv s f e c p g n) (px s e n) ((mv s f e c p g n (px s e n) + c * mv s f e c p g n (px s f n)) % p)
theorem px_lt {s x t : Nat} (hx : x < 4) (ht : t < 16) : px s x t < 64 := by
  unfold px
  split
  · exact ix_lt hx (by omega) (by omega)
  · split
    · exact ix_lt (by omega) hx (by omega)
    · exact ix_lt (by omega) (by omega) hx
theorem px_out {p a b d s f e t : Nat} {h : Nat → Nat} (hok : cOK p a b d h) (hs : s < 3) (he : e < sz3 a b d s) (hf : f < sz3 a b d s) (hz : szOK a b d) (ht : t < 16) {i j k : Nat} (hi : i < 4) (hj : j < 4) (hk : k < 4) (hn : ¬ (i < a ∧ j < b ∧ k < d)) (hx : ix i j k = px s e t) : h (px s f t) = 0 := by
  have hb := sz3_b hz (s := s)
  have h3 : s = 0 ∨ s = 1 ∨ s = 2 := by omega
  rcases h3 with rfl | rfl | rfl
  · have hx' : ix i j k = ix e (t / 4) (t % 4) := hx
    rw [ix_inj hj hk (by omega) (by omega)] at hx'
    have he' : e < a := he
    exact hok.2 f (t / 4) (t % 4) (by omega) (by omega) (by omega) (by omega)
  · have hx' : ix i j k = ix (t / 4) e (t % 4) := hx
    rw [ix_inj hj hk (by omega) (by omega)] at hx'
    have he' : e < b := he
    exact hok.2 (t / 4) f (t % 4) (by omega) (by omega) (by omega) (by omega)
  · have hx' : ix i j k = ix (t / 4) (t % 4) e := hx
    rw [ix_inj hj hk (by omega) (by omega)] at hx'
    have he' : e < d := he
    exact hok.2 (t / 4) (t % 4) f (by omega) (by omega) (by omega) (by omega)
theorem mv_ok {p a b d s f e c : Nat} {g : Nat → Nat} (hp : isP p) (hok : cOK p a b d g) (hs : s < 3) (he : e < sz3 a b d s) (hf : f < sz3 a b d s) (hz : szOK a b d) {n : Nat} (hn : n ≤ 16) : cOK p a b d (mv s f e c p g n) := by
  have hpb := hp.b
  induction n with
  | zero => exact hok
  | succ n ih =>
    have ih := ih (by omega)
    refine ⟨fun x hx => ?_, fun i j k hi hj hk hno => ?_⟩
    · show va_up (mv s f e c p g n) _ _ x < p
      unfold va_up
      split
      · exact Nat.mod_lt _ (by omega)
      · exact ih.1 x hx
    · show va_up (mv s f e c p g n) (px s e n) ((mv s f e c p g n (px s e n) + c * mv s f e c p g n (px s f n)) % p) (ix i j k) = 0
      unfold va_up
      by_cases hx : ix i j k = px s e n
      · rw [if_pos hx, px_out ih hs he hf hz (by omega) hi hj hk hno hx, px_out ih hs he he hz (by omega) hi hj hk hno hx, Nat.mul_zero, Nat.add_zero, Nat.zero_mod]
      · rw [if_neg hx]; exact ih.2 i j k hi hj hk hno
theorem g_px {s x t : Nat} (hs : s < 3) (ht : t < 16) : fX0_indexInSlice (ci s) (ci x) (ci t) = some (ci (px s x t)) := by
  unfold fX0_indexInSlice fX0_indexInSlice_J45
  rw [cl_4, ci_div (by omega) (by omega), ci_mod (by omega) (by omega)]
  have h3 : s = 0 ∨ s = 1 ∨ s = 2 := by omega
  rcases h3 with rfl | rfl | rfl
  · rw [if_pos (show ci 0 = 0 from rfl), g_idx', Option.bind_some]; rfl
  · rw [if_neg (show ¬ ci 1 = 0 by decide), if_pos (show ci 1 = 1 from rfl), g_idx', Option.bind_some]; rfl
  · rw [if_neg (show ¬ ci 2 = 0 by decide), if_neg (show ¬ ci 2 = 1 by decide), g_idx', Option.bind_some]; rfl
theorem c_putAt {S : ZS} {c n a b d q x v : Nat} {g : Nat → Nat} (h : zCu S c n a b d q g) (hx : x < 64) : ∃ S1, fX5_put n (ci x) (ci v) S = some S1 ∧ zCu S1 c n a b d q (va_up g x v) ∧ zFrm S S1 (fun b => b = n) := by
  refine ⟨_, g_put (ci v) h.2 hx (by omega), ⟨zFrm.wI.ob (ne_oi h.1 h.2) h.1, ?_⟩, zFrm.wI⟩
  show zIA _ n 64 (fun i => ci (va_up g x v i))
  rw [ci_w]
  exact zwI_self
theorem c_getAt {S : ZS} {c n a b d q x : Nat} {g : Nat → Nat} (h : zCu S c n a b d q g) (hx : x < 64) : fX5_get n (ci x) S = some (ci (g x)) := by
  rw [g_get h.2 (by omega) (by omega), if_pos hx]
theorem c_addSlice {S : ZS} {c nn a b d q s f e ti p : Nat} {g : Nat → Nat} (hp : isP p) (hok : cOK p a b d g) (hs : s < 3) (he : e < sz3 a b d s) (hf : f < sz3 a b d s) (hz : szOK a b d) (ht : ti < p) (h : zCu S c nn a b d q g) : ∃ S1, fX0_addSlice c (ci s) (ci f) (ci e) (ci ti) (ci p) S = some S1 ∧ zCu S1 c nn a b d q (mv s f e ti p g 16) ∧ zFrm S S1 (fun b => b = nn) := by
  have hpb := hp.b
  have hb := sz3_b hz (s := s)
  have := ziter_for (body := fX0_addSlice_B3 c (ci s) (ci f) (ci e) (ci ti) (ci p)) (fun t S' => zCu S' c nn a b d q (mv s f e ti p g t) ∧ zFrm S S' (fun b => b = nn)) (fun r => zCu r c nn a b d q (mv s f e ti p g 16) ∧ zFrm S r (fun b => b = nn)) 16 ?_ ?_ 16 0 zF S (by omega) (by rw [zF_eq]; omega) ⟨h, zFrm.rf⟩
  · exact this
  · rintro t S' hl ⟨y, hf'⟩
    have l1 := px_lt (s := s) (x := e) (by omega) hl
    have l2 := px_lt (s := s) (x := f) (by omega) hl
    have m := mv_ok (c := ti) hp hok hs he hf hz (n := t) (by omega)
    have v1 := m.1 _ l1
    have v2 := m.1 _ l2
    have v3 : ti * mv s f e ti p g t (px s f t) ≤ 5 * 5 := Nat.mul_le_mul (by omega) (by omega)
    obtain ⟨S1, f1, f2, f3⟩ := c_putAt (v := (mv s f e ti p g t (px s e t) + ti * mv s f e ti p g t (px s f t)) % p) y l1
    refine ⟨S1, ?_, f2, hf'.tr f3⟩
    unfold fX0_addSlice_B3
    simp only []
    rw [if_neg (by rw [cl_16, ci_le (by omega) (by omega)]; omega), g_px hs hl, Option.bind_some, zgR_ob y.1 rfl, Option.bind_some, c_getAt y l1, Option.bind_some, Option.bind_some, g_px hs hl, Option.bind_some, c_getAt y l2, Option.bind_some, Option.bind_some, ci_mul, ci_add, g_rem (by omega) (by omega) (by omega), Option.bind_some, f1, Option.bind_some, cl_1, ci_add]
  · rintro S' ⟨y, hf'⟩
    refine ⟨S', ?_, y, hf'⟩
    unfold fX0_addSlice_B3
    simp only []
    rw [if_pos (by rw [cl_16, ci_le (by omega) (by omega)]; omega), zex_some]
-- 74.mmove.lean.txt
/-! LAW CASE 6: move, the model's loops -/
/-- what the model's move finds ahead of its loops -/
def mvB (X : Nat → Int32) (i s f e ti p a b d : Nat) (g : Nat → Nat) : Prop := i < 16 ∧ isP p ∧ X 1 = ci p ∧ cOK p a b d g ∧ s < 3 ∧ e < sz3 a b d s ∧ f < sz3 a b d s ∧ szOK a b d ∧ ti < p
-- 75.move6.lean.txt
/-! LAW CASE 6: move, whole -/
def tm (p : Nat) (a : Int32) : Bool := decide (1 ≤ a ∧ a < ci p)
theorem tm_ex {p : Nat} {a : Int32} (hp : p < 2147483648) (h : tm p a = true) : ∃ t, 1 ≤ t ∧ t < p ∧ a = ci t := by
  unfold tm at h
  rw [decide_eq_true_eq] at h
  obtain ⟨t, ht, rfl⟩ := ci_of (x := a) (Int32.le_trans (by decide) h.1)
  exact ⟨t, (ci_le (a := 1) (by omega) ht).mp h.1, (ci_lt ht hp).mp h.2, rfl⟩
theorem c_needSlice {S : ZS} {c n a b d q s : Nat} {g : Nat → Nat} {x : Int32} (h : zCu S c n a b d q g) (hs : s < 3) (hz : szOK a b d) : fX5_needSlice c (ci s) x S = if bl (sz3 a b d s) x = true then some (.inl ((), S)) else some (.inr ("java/lang/IndexOutOfBoundsException", S.1)) := by
  have := sz3_b hz (s := s)
  unfold fX5_needSlice
  rw [zcl_cu h, g_sizeOf h hs, Option.bind_some, c_isBelow (by omega), Option.bind_some]
  cases bl (sz3 a b d s) x <;> rfl
/-- the class's move up to its exceptions -/
theorem c_mvPick {S : ZS} {ad : Nat → Nat} {p cc wc i : Nat} {a2 a3 a4 a5 : Int32} {c g : Nat → Nat} (hhd : zHd S ad p cc wc) (hcc : cc ≤ 16) (hi : i < cc) (hcb : zCb S ad p i c g) (hpb : 2 ≤ p ∧ p ≤ 5) {s : Nat} (hs : s < 3) (h2 : a2 = ci s) (h3 : bl (sz3 (c 0) (c 1) (c 2) s) a3 = true) (h4 : bl (sz3 (c 0) (c 1) (c 2) s) a4 = true) :
    fX5_move (ad 10) (ci i) a2 a3 a4 a5 S = if a3 = a4 ∨ tm p a5 = false then some (.inr ("java/lang/IllegalArgumentException", S.1)) else
      Option.bind (fX0_addSlice (ad (100 + 2 * i)) a2 a3 a4 a5 (ci p) S) fun x7 => Option.bind (zpF x7 (ad (100 + 2 * i)) 0 4 (.int (0 : Int32))) fun S8 => Option.bind (zcl S8 (ad (100 + 2 * i)) 0 (fX0_countOthersThanZero (ad (100 + 2 * i)) S8)) fun x9 => some (.inl (x9, S8)) := by
  subst h2
  unfold fX5_move fX5_move_J57
  rw [zcl_ob hhd.1, c_needCube hhd hcc hi, zbT_l]
  show zbT (fX5_needSide (ci s) S) _ = _
  rw [c_needSide, if_pos (by rw [bl_ci (by omega) (by omega)]; exact decide_eq_true hs), zbT_l]
  show zbT (fX5_needSlice (ad (100 + 2 * i)) (ci s) a3 S) _ = _
  rw [c_needSlice hcb.1 hs hcb.2.1, if_pos h3, zbT_l]
  show zbT (fX5_needSlice (ad (100 + 2 * i)) (ci s) a4 S) _ = _
  rw [c_needSlice hcb.1 hs hcb.2.1, if_pos h4, zbT_l]
  by_cases q : a3 = a4
  · rw [if_pos q, if_pos (Or.inl q)]
  · rw [if_neg q]
    by_cases l1 : a5 < 1
    · rw [if_pos l1, if_pos (Or.inr (show tm p a5 = false from decide_eq_false (fun hh => Int32.not_lt.mpr hh.1 l1)))]
    · rw [if_neg l1]
      show Option.bind (zgI S (ad 10) 5 6) _ = _
      rw [zgI_ob hhd.1 rfl, Option.bind_some]
      by_cases l2 : a5 < ci p
      · have ht : tm p a5 = true := decide_eq_true ⟨Int32.not_lt.mp l1, l2⟩
        rw [if_pos l2, if_neg (fun hh => hh.elim q (by rw [ht]; exact Bool.noConfusion))]
        rw [Option.bind_some]
        show Option.bind (zcl S (ad (100 + 2 * i)) 0 (fX0_addSlice (ad (100 + 2 * i)) (ci s) a3 a4 a5 (ci p) S)) _ = _
        rw [zcl_cu hcb.1]
      · rw [if_neg l2, if_pos (Or.inr (show tm p a5 = false from decide_eq_false (fun hh => l2 hh.2)))]
theorem c_mvNo {S : ZS} {ad : Nat → Nat} {p cc wc i : Nat} {a2 a3 a4 a5 : Int32} {c g : Nat → Nat} (hhd : zHd S ad p cc wc) (hcc : cc ≤ 16) (hi : i < cc) (hcb : zCb S ad p i c g) (h : bl 3 a2 = false ∨ ∃ s, s < 3 ∧ a2 = ci s ∧ (bl (sz3 (c 0) (c 1) (c 2) s) a3 && bl (sz3 (c 0) (c 1) (c 2) s) a4) = false) : fX5_move (ad 10) (ci i) a2 a3 a4 a5 S = some (.inr ("java/lang/IndexOutOfBoundsException", S.1)) := by
  unfold fX5_move
  rw [zcl_ob hhd.1, c_needCube hhd hcc hi, zbT_l]
  show zbT (fX5_needSide a2 S) _ = _
  rw [c_needSide]
  rcases h with h | ⟨s, hs, rfl, h⟩
  · rw [h]; rfl
  · rw [if_pos (by rw [bl_ci (by omega) (by omega)]; exact decide_eq_true hs), zbT_l]
    show zbT (fX5_needSlice (ad (100 + 2 * i)) (ci s) a3 S) _ = _
    rw [c_needSlice hcb.1 hs hcb.2.1]
    cases h3 : bl (sz3 (c 0) (c 1) (c 2) s) a3 with
    | false => rfl
    | true =>
      rw [h3, Bool.true_and] at h
      rw [if_pos rfl, zbT_l]
      show zbT (fX5_needSlice (ad (100 + 2 * i)) (ci s) a4 S) _ = _
      rw [c_needSlice hcb.1 hs hcb.2.1, h]
      rfl
-- 76.copy.lean.txt
/-! LAW CASE 9: way, the class's new objects -/
def cpF (g : Nat → Nat) (t x : Nat) : Nat := if x < t then g x else 0
theorem cpF_step {g : Nat → Nat} {t : Nat} : va_up (cpF g t) t (g t) = cpF g (t + 1) := by
  funext x
  unfold va_up cpF
  by_cases hx : x = t
  · rw [if_pos hx, if_pos (by omega), hx]
  · rw [if_neg hx]
    by_cases h2 : x < t
    · rw [if_pos h2, if_pos (by omega)]
    · rw [if_neg h2, if_neg (by omega)]
theorem c_copied {S : ZS} {c n a b d sq : Nat} {g : Nat → Nat} (h : zCu S c n a b d sq g) (h1 : c ≠ S.2 ∧ c ≠ S.2 + 1) (h2 : n ≠ S.2 ∧ n ≠ S.2 + 1) : ∃ S1, fX0_copied c S = some (S.2, S1) ∧ zCu S1 S.2 (S.2 + 1) a b d sq (cpF g 64) ∧ S1.2 = S.2 + 2 ∧ ∀ x, x ≠ S.2 → x ≠ S.2 + 1 → S1.1 x = S.1 x := by
  obtain ⟨T1, n1, n2, n3, n4⟩ := c_new (S := S) (a := a) (b := b) (d := d)
  have hc1 : zOb (zno S 0 [.int 0, .int 0, .int 0, .null, .int 0]) c 0 _ := (va_up_ne _ _ h1.1).trans h.1
  have k1 : zCu T1 c n a b d sq g := h.kp (n4 c h1.1 h1.2) (n4 n h2.1 h2.2)
  have := ziter_for (body := fX0_copied_B22 c S.2) (fun t S' => zCu S' S.2 (S.2 + 1) a b d 0 (cpF g t) ∧ zFrm T1 S' (fun b => b = S.2 + 1)) (fun r => ∃ S1, r = (S.2, S1) ∧ zCu S1 S.2 (S.2 + 1) a b d sq (cpF g 64) ∧ zFrm T1 S1 (fun b => b = S.2 ∨ b = S.2 + 1)) 64 ?_ ?_ 64 0 zF T1 (by omega) (by rw [zF_eq]; omega) ⟨n2, zFrm.rf⟩
  · obtain ⟨r, q1, S1, rfl, q2, q3⟩ := this
    refine ⟨S1, ?_, q2, q3.1.trans n3, fun x hx1 hx2 => (q3.2 x (by omega)).trans (n4 x hx1 hx2)⟩
    unfold fX0_copied
    rw [zgI_ob hc1 rfl, Option.bind_some, zgI_ob hc1 rfl, Option.bind_some, zgI_ob hc1 rfl, Option.bind_some, n1, Option.bind_some, cl_0]
    exact q1
  · rintro t S' ht ⟨y, hf⟩
    have k := hf.cu (show ¬ c = S.2 + 1 from h1.2) (show ¬ n = S.2 + 1 from h2.2) k1
    obtain ⟨S1, f1, f2, f3⟩ := c_putAt (v := g t) y ht
    rw [cpF_step] at f2
    refine ⟨S1, ?_, f2, hf.tr f3⟩
    unfold fX0_copied_B22
    simp only []
    rw [if_neg (by rw [cl_64, ci_le (by omega) (by omega)]; omega), zgR_ob y.1 rfl, Option.bind_some, zgR_ob k.1 rfl, Option.bind_some, c_getAt k ht, Option.bind_some, f1, Option.bind_some, cl_1, ci_add]
  · rintro S' ⟨y, hf⟩
    have k := hf.cu (show ¬ c = S.2 + 1 from h1.2) (show ¬ n = S.2 + 1 from h2.2) k1
    obtain ⟨S1, f1, f2, f3⟩ := zwO_cu sq y
    refine ⟨(S.2, S1), ?_, S1, rfl, f2, (hf.wk (fun _ => Or.inr)).tr (f3.wk (fun _ => Or.inl))⟩
    unfold fX0_copied_B22
    simp only []
    rw [if_pos (by rw [cl_64, ci_le (by omega) (by omega)]; omega), zgI_ob k.1 rfl, Option.bind_some, f1, Option.bind_some, zex_some]
theorem c_wayInit {S : ZS} {w c p : Nat} {f0 : Value} {f1 f2 f3 : Value} (h : zOb S w 4 [f0, f1, f2, f3]) (hw : w ≠ S.2) : ∃ S1, fX4_init w c (ci p) S = some S1 ∧ zOb S1 w 4 [.ref c, .int (ci p), .ref S.2, .int (ci 0)] ∧ zIA S1 S.2 40 (fun _ => ci 0) ∧ S1.2 = S.2 + 1 ∧ ∀ x, x ≠ w → x ≠ S.2 → S1.1 x = S.1 x := by
  obtain ⟨T2, hT2⟩ : ∃ T2, T2 = zwO (zwO S w 4 [.ref c, f1, f2, f3]) w 4 [.ref c, .int (ci p), f2, f3] := ⟨_, rfl⟩
  have g2 : zOb T2 w 4 [.ref c, .int (ci p), f2, f3] := by rw [hT2]; exact zwO_self
  have g22 : T2.2 = S.2 := by rw [hT2]; rfl
  have k2 : ∀ x, x ≠ w → T2.1 x = S.1 x := fun x hx => by rw [hT2, zwO_ne hx, zwO_ne hx]
  have g3 : zOb (zna T2 0 40) w 4 [.ref c, .int (ci p), f2, f3] := (va_up_ne _ _ (by omega)).trans g2
  have g4 : zIA (zna T2 0 40) S.2 40 (fun _ => ci 0) := by
    show (va_up T2.1 T2.2 (some (zn0 0 40))) S.2 = _
    rw [g22, va_up_self]; rfl
  have f6 : zFrm (zna T2 0 40) (zwO (zwO (zna T2 0 40) w 4 [.ref c, .int (ci p), .ref S.2, f3]) w 4 [.ref c, .int (ci p), .ref S.2, .int (ci 0)]) (fun x => x = w) := zFrm.wO.tr zFrm.wO
  refine ⟨zwO (zwO (zna T2 0 40) w 4 [.ref c, .int (ci p), .ref S.2, f3]) w 4 [.ref c, .int (ci p), .ref S.2, .int (ci 0)], ?_, zwO_self, f6.ia (fun hh => hw hh.symm) g4, ?_, fun x h1 h2 => ?_⟩
  · unfold fX4_init
    rw [zpF_ob _ h (by simp), Option.bind_some]
    show Option.bind (zpF (zwO S w 4 [.ref c, f1, f2, f3]) w 4 1 (.int (ci p))) _ = _
    rw [zpF_ob _ zwO_self (by simp), Option.bind_some]
    show Option.bind (zpF (zna (zwO (zwO S w 4 [.ref c, f1, f2, f3]) w 4 [.ref c, .int (ci p), f2, f3]) 0 40) w 4 2 (.ref (zwO (zwO S w 4 [.ref c, f1, f2, f3]) w 4 [.ref c, .int (ci p), f2, f3]).2)) _ = _
    rw [← hT2, g22, zpF_ob _ g3 (by simp), Option.bind_some]
    show Option.bind (zpF (zwO (zna T2 0 40) w 4 [.ref c, .int (ci p), .ref S.2, f3]) w 4 3 (.int 0)) _ = _
    rw [zpF_ob _ zwO_self (by simp), Option.bind_some]
    rfl
  · show T2.2 + 1 = S.2 + 1
    rw [g22]
  · rw [zwO_ne h1, zwO_ne h1]
    show (va_up T2.1 T2.2 (some (zn0 0 40))) x = _
    rw [g22, va_up_ne _ _ h2]
    exact k2 x h1
def adW (ad : Nat → Nat) (wc n : Nat) : Nat → Nat := fun t => if 200 + 4 * wc ≤ t ∧ t < 204 + 4 * wc then n + (t - (200 + 4 * wc)) else ad t
theorem adW_old {ad : Nat → Nat} {wc n t : Nat} (h : t < 200 + 4 * wc) : adW ad wc n t = ad t := by
  unfold adW
  rw [if_neg (by omega)]
theorem adW_new {ad : Nat → Nat} {wc n t j : Nat} (h : t = 200 + 4 * wc + j) (hj : j < 4) : adW ad wc n t = n + j := by
  unfold adW
  rw [if_pos (by omega)]
  omega
theorem liveW_old {cc wc t : Nat} (hc : cc ≤ 16) (h : live cc wc t) : t < 200 + 4 * wc := by
  rcases h with h | h
  · unfold cT at h
    omega
  · exact h.elim
theorem liveW_new {cc wc t : Nat} (h : live cc (wc + 1) t) : live cc wc t ∨ ∃ j, j < 4 ∧ t = 200 + 4 * wc + j := by
  rcases h with (h | h | h) | h
  · exact Or.inl (Or.inl (Or.inl h))
  · exact Or.inl (Or.inl (Or.inr (Or.inl h)))
  · by_cases h9 : t < 200 + 4 * wc
    · exact Or.inl (Or.inl (Or.inr (Or.inr ⟨h.1, h9⟩)))
    · exact Or.inr ⟨t - (200 + 4 * wc), by omega, by omega⟩
  · exact h.elim
theorem adW_inj {ad : Nat → Nat} {cc wc n : Nat} (hcc : cc ≤ 16) (hin : zInj ad cc wc) (hlt : ∀ t, live cc wc t → ad t < n) : zInj (adW ad wc n) cc (wc + 1) := by
  intro t u ht hu hh
  have vt : ∀ t, live cc wc t → adW ad wc n t = ad t := fun t ht => adW_old (liveW_old hcc ht)
  rcases liveW_new ht with h1 | ⟨j, hj, h1⟩
  · rcases liveW_new hu with h2 | ⟨i, hi, h2⟩
    · rw [vt t h1, vt u h2] at hh; exact hin t u h1 h2 hh
    · rw [vt t h1, adW_new h2 hi] at hh; have := hlt t h1; omega
  · rcases liveW_new hu with h2 | ⟨i, hi, h2⟩
    · rw [vt u h2, adW_new h1 hj] at hh; have := hlt u h2; omega
    · rw [adW_new h1 hj, adW_new h2 hi] at hh; omega
def nwW (WA : Nat → Nat → Nat) (wc a b d sq : Nat) : Nat → Nat → Nat := fun j => if j = wc then (fun s => if s = 0 then a else if s = 1 then b else if s = 2 then d else if s = 3 then sq else 0) else WA j
theorem nwW_ne {WA : Nat → Nat → Nat} {wc a b d sq j : Nat} (h : j ≠ wc) : nwW WA wc a b d sq j = WA j := if_neg h
theorem nwW_self {WA : Nat → Nat → Nat} {wc a b d sq : Nat} : nwW WA wc a b d sq wc = (fun s => if s = 0 then a else if s = 1 then b else if s = 2 then d else if s = 3 then sq else 0) := if_pos rfl
/-- the class's way() -/
theorem c_way {S : ZS} {ad : Nat → Nat} {p cc wc i : Nat} {CA CG WA WG : Nat → Nat → Nat} {WV : Nat → Nat → Nat → Nat → Nat} (hp : isP p) (hcl : zCl S ad p cc wc CA CG WA WG WV) (hin : zInj ad cc wc) (hlt : ∀ t, live cc wc t → ad t < S.2) (hc : cc ≤ 16) (hw : wc < 16) (hi : i < cc) :
    ∃ S1, fX5_way (ad 10) (ci i) S = some (.inl (ci wc, S1)) ∧ zInj (adW ad wc S.2) cc (wc + 1) ∧ zCl S1 (adW ad wc S.2) p cc (wc + 1) CA CG (nwW WA wc (CA i 0) (CA i 1) (CA i 2) (CA i 3)) (upG WG wc (cpF (CG i) 64)) WV ∧ (∀ b, b < S.2 → b ≠ ad 10 → b ≠ ad 1 → S1.1 b = S.1 b) := by
  have hi2 := adW_inj hc hin hlt
  have vt : ∀ t, live cc wc t → adW ad wc S.2 t = ad t := fun t ht => adW_old (liveW_old hc ht)
  have li0 : live cc wc (100 + 2 * i) := Or.inl (Or.inr (Or.inl (by omega)))
  have li1 : live cc wc (101 + 2 * i) := Or.inl (Or.inr (Or.inl (by omega)))
  have hci := hcl.2.2.1 i hi
  have l10 : live cc wc 10 := Or.inl (Or.inl (by omega))
  have l0 : live cc wc 0 := Or.inl (Or.inl (by omega))
  have l1 : live cc wc 1 := Or.inl (Or.inl (by omega))
  obtain ⟨U, hU⟩ : ∃ U, U = zno S 4 [.null, .int 0, .null, .int 0] := ⟨_, rfl⟩
  have hU2 : U.2 = S.2 + 1 := by rw [hU]; rfl
  have hUw : zOb U S.2 4 [.null, .int 0, .null, .int 0] := by rw [hU]; exact va_up_self _ _ _
  have hUk : ∀ x, x ≠ S.2 → U.1 x = S.1 x := fun x hx => by rw [hU]; exact va_up_ne _ _ hx
  have q0 := hlt _ li0
  have q1 := hlt _ li1
  have cU : zCu U (ad (100 + 2 * i)) (ad (101 + 2 * i)) (CA i 0) (CA i 1) (CA i 2) (CA i 3) (CG i) := hci.1.kp (hUk _ (by omega)) (hUk _ (by omega))
  obtain ⟨T1, m1, m2, m3, m4⟩ := c_copied cU (by omega) (by omega)
  rw [hU2] at m1 m2 m3 m4
  have w1 : zOb T1 S.2 4 [.null, .int 0, .null, .int 0] := (m4 S.2 (by omega) (by omega)).trans hUw
  obtain ⟨T2, r1, r2, r3, r4, r5⟩ := c_wayInit (c := S.2 + 1) (p := p) w1 (by omega)
  rw [m3] at r2 r3 r4 r5
  have kT : ∀ x, x < S.2 → T2.1 x = S.1 x := fun x hx => (r5 x (by omega) (by omega)).trans ((m4 x (by omega) (by omega)).trans (hUk x (by omega)))
  have kT1 : ∀ x, x < S.2 → T1.1 x = S.1 x := fun x hx => (m4 x (by omega) (by omega)).trans (hUk x (by omega))
  have cT2 : zCu T2 (S.2 + 1) (S.2 + 2) (CA i 0) (CA i 1) (CA i 2) (CA i 3) (cpF (CG i) 64) := m2.kp (r5 _ (by omega) (by omega)) (r5 _ (by omega) (by omega))
  obtain ⟨⟨a1, a2, a3⟩, b1, c1, d1⟩ := hcl
  have e10 : zOb T2 (ad 10) 5 _ := (kT _ (hlt 10 l10)).trans a1
  have f10 : zOb T1 (ad 10) 5 _ := (kT1 _ (hlt 10 l10)).trans a1
  have e1 : zRA T2 (ad 1) 4 16 _ := (kT _ (hlt 1 l1)).trans a3
  obtain ⟨T3, hT3⟩ : ∃ T3, T3 = zwQ T2 (ad 1) 4 16 (va_up (fun i => if i < wc then some (ad (200 + 4 * i)) else none) wc (some S.2)) := ⟨_, rfl⟩
  have kT3 : ∀ x, x ≠ ad 1 → T3.1 x = T2.1 x := fun x hx => by rw [hT3]; exact va_up_ne _ _ hx
  have n10 : ad 10 ≠ ad 1 := fun hh => by have := hin 10 1 l10 l1 hh; omega
  have g10 : zOb T3 (ad 10) 5 _ := (kT3 _ n10).trans e10
  have s1 : zsQ T2 (ad 1) 4 4 (ci wc) S.2 = some T3 := by rw [hT3]; exact zsQ_ci e1 r2 (by omega) (by omega)
  obtain ⟨T4, hT4⟩ : ∃ T4, T4 = zwO T3 (ad 10) 5 [.ref (ad 0), .ref (ad 1), .ref (ad 2), .ref (ad 3), .ref (ad 4), .ref (ad 5), .int (ci p), .int (ci cc), .int (ci (wc + 1))] := ⟨_, rfl⟩
  have s2 : zpF T3 (ad 10) 5 8 (.int (ci (wc + 1))) = some T4 := by rw [hT4, zpF_ob _ g10 (by simp)]; rfl
  have h10 : zOb T4 (ad 10) 5 [.ref (ad 0), .ref (ad 1), .ref (ad 2), .ref (ad 3), .ref (ad 4), .ref (ad 5), .int (ci p), .int (ci cc), .int (ci (wc + 1))] := by rw [hT4]; exact zwO_self
  have kT4 : ∀ x, x ≠ ad 10 → x ≠ ad 1 → T4.1 x = T2.1 x := fun x h1 h2 => by rw [hT4, zwO_ne h1]; exact kT3 x h2
  have kl : ∀ t, live cc wc t → t ≠ 10 → t ≠ 1 → T4.1 (ad t) = S.1 (ad t) := fun t ht h1 h2 => (kT4 _ (fun hh => h1 (hin t 10 ht l10 hh)) (fun hh => h2 (hin t 1 ht l1 hh))).trans (kT _ (hlt t ht))
  have kk : ∀ t, live cc wc t → t ≠ 10 → t ≠ 1 → T4.1 (adW ad wc S.2 t) = S.1 (ad t) := fun t ht h1 h2 => by rw [vt t ht]; exact kl t ht h1 h2
  have kn : ∀ j, T4.1 (S.2 + j) = T2.1 (S.2 + j) := fun j => kT4 _ (by have := hlt 10 l10; omega) (by have := hlt 1 l1; omega)
  refine ⟨T4, ?_, hi2, ⟨⟨?_, ?_, ?_⟩, ?_, fun j hj => ?_, fun j hj => ?_⟩, fun b hb h1 h2 => (kT4 b h1 h2).trans (kT b hb)⟩
  · have hcN : zcl S (ad 10) 5 (fX5_needCube (ad 10) (ci i) S) = some (.inl (ad (100 + 2 * i), S)) := by
      rw [zcl_ob a1]
      exact c_needCube ⟨a1, a2, a3⟩ hc hi
    unfold fX5_way
    rw [hcN, zbT_l]
    show Option.bind (zgI S (ad 10) 5 8) _ = _
    rw [zgI_ob a1 rfl, Option.bind_some, if_neg (ci_nneg (by omega)), Option.bind_some, zgR_ob a1 rfl, Option.bind_some, zalQ a3 (by omega), Option.bind_some, if_pos ((ci_lt (by omega) (by omega)).mpr hw), Option.bind_some, Option.bind_some]
    show Option.bind (zcl (zno S 4 [.null, .int 0, .null, .int 0]) (ad (100 + 2 * i)) 0 (fX0_copied (ad (100 + 2 * i)) (zno S 4 [.null, .int 0, .null, .int 0]))) _ = _
    rw [← hU, zcl_cu cU, m1, Option.bind_some]
    show Option.bind (zgI T1 (ad 10) 5 6) _ = _
    rw [zgI_ob f10 rfl, Option.bind_some]
    show Option.bind (fX4_init S.2 (S.2 + 1) (ci p) T1) _ = _
    rw [r1, Option.bind_some]
    show Option.bind (zsQ T2 (ad 1) 4 4 (ci wc) S.2) _ = _
    rw [s1, Option.bind_some, zgI_ob g10 rfl, Option.bind_some, cl_1, ci_add, s2, Option.bind_some, zgI_ob h10 rfl, Option.bind_some, ci_sub (by omega), Nat.add_sub_cancel]
  · rw [vt 10 l10, vt 0 l0, vt 1 l1, vt 2 (Or.inl (Or.inl (by omega))), vt 3 (Or.inl (Or.inl (by omega))), vt 4 (Or.inl (Or.inl (by omega))), vt 5 (Or.inl (Or.inl (by omega)))]
    exact h10
  · refine (kk 0 l0 (by omega) (by omega)).trans (a2.trans ?_)
    congr 8
    funext j
    by_cases h2 : j < cc
    · rw [if_pos h2, if_pos h2, vt (100 + 2 * j) (Or.inl (Or.inr (Or.inl (by omega))))]
    · rw [if_neg h2, if_neg h2]
  · rw [vt 1 l1]
    have : T4.1 (ad 1) = T3.1 (ad 1) := by rw [hT4, zwO_ne (Ne.symm n10)]
    refine this.trans ?_
    rw [hT3]
    show va_up T2.1 (ad 1) _ (ad 1) = _
    rw [va_up_self]
    congr 8
    funext j
    unfold va_up
    by_cases h1 : j = wc
    · rw [if_pos h1, if_pos (by omega), h1, adW_new (j := 0) (by omega) (by omega), Nat.add_zero]
    · rw [if_neg h1]
      show (if j < wc then some (ad (200 + 4 * j)) else none) = _
      by_cases h2 : j < wc
      · rw [if_pos h2, if_pos (by omega), vt (200 + 4 * j) (Or.inl (Or.inr (Or.inr (by omega))))]
      · rw [if_neg h2, if_neg (by omega)]
  · have vl : ∀ t, t ≤ 9 → adW ad wc S.2 t = ad t := fun t ht => vt t (Or.inl (Or.inl (by omega)))
    unfold zTl
    rw [vl 2 (by omega), vl 3 (by omega), vl 4 (by omega), vl 5 (by omega), vl 6 (by omega), vl 7 (by omega), vl 8 (by omega), vl 9 (by omega)]
    obtain ⟨⟨r, q, h1⟩, ⟨f2, h2⟩, ⟨c, h3⟩, ⟨f4, h4⟩, ⟨f5, h5⟩, ⟨c6, h6⟩, ⟨f7, h7⟩, f8, h8⟩ := b1
    have kt : ∀ t, t ≤ 9 → t ≠ 1 → T4.1 (ad t) = S.1 (ad t) := fun t ht h0 => kl t (Or.inl (Or.inl (by omega))) (by omega) h0
    exact ⟨⟨r, q, (kt 2 (by omega) (by omega)).trans h1⟩, ⟨f2, (kt 6 (by omega) (by omega)).trans h2⟩, ⟨c, (kt 3 (by omega) (by omega)).trans h3⟩, ⟨f4, (kt 7 (by omega) (by omega)).trans h4⟩, ⟨f5, (kt 8 (by omega) (by omega)).trans h5⟩, ⟨c6, (kt 4 (by omega) (by omega)).trans h6⟩, ⟨f7, (kt 9 (by omega) (by omega)).trans h7⟩, f8, (kt 5 (by omega) (by omega)).trans h8⟩
  · have h1 : live cc wc (100 + 2 * j) := Or.inl (Or.inr (Or.inl (by omega)))
    have h2 : live cc wc (101 + 2 * j) := Or.inl (Or.inr (Or.inl (by omega)))
    unfold zCb
    rw [vt _ h1, vt _ h2]
    exact (c1 j hj).kp (kl _ h1 (by omega) (by omega)) (kl _ h2 (by omega) (by omega))
  · by_cases hjw : j = wc
    · subst hjw
      unfold zWb
      rw [adW_new (t := 200 + 4 * j) (j := 0) (by omega) (by omega), adW_new (t := 201 + 4 * j) (j := 1) (by omega) (by omega), adW_new (t := 202 + 4 * j) (j := 2) (by omega) (by omega), adW_new (t := 203 + 4 * j) (j := 3) (by omega) (by omega), upG_self, nwW_self, Nat.add_zero]
      have hz := hci.2.1
      have ho := hci.2.2.1
      refine ⟨⟨hp, hz, (by show 0 ≤ 40; omega), ?_, ?_, fun q hq => absurd hq (Nat.not_lt_zero _), fun _ => 0, ?_, fun q hq => absurd hq (Nat.not_lt_zero _)⟩, ⟨fun x hx => ?_, fun k1 k2 k3 x1 x2 x3 hn => ?_⟩, hci.2.2.2⟩
      · exact (kn 0).trans r2
      · exact cT2.kp (kn 1) (kn 2)
      · exact (kn 3).trans r3
      · unfold cpF; rw [if_pos hx]; exact ho.1 x hx
      · unfold cpF; rw [if_pos (ix_lt x1 x2 x3)]; exact ho.2 k1 k2 k3 x1 x2 x3 hn
    · have h1 : ∀ l, l < 4 → live cc wc (200 + 4 * j + l) := fun l hl => Or.inl (Or.inr (Or.inr (by omega)))
      unfold zWb
      have v0 := vt _ (h1 0 (by omega))
      have v1 := vt _ (h1 1 (by omega))
      have v2 := vt _ (h1 2 (by omega))
      have v3 := vt _ (h1 3 (by omega))
      rw [Nat.add_zero] at v0
      rw [show 200 + 4 * j + 1 = 201 + 4 * j by omega] at v1
      rw [show 200 + 4 * j + 2 = 202 + 4 * j by omega] at v2
      rw [show 200 + 4 * j + 3 = 203 + 4 * j by omega] at v3
      rw [v0, v1, v2, v3, upG_ne hjw, nwW_ne hjw]
      exact (d1 j (by omega)).kp (fun l hl => kl _ (h1 l hl) (by omega) (by omega))
-- 77.mway.lean.txt
theorem N9 : mN 9 = 16 := rfl
/-- but for way wc's own nothing is otherwise -/
def mY (wc : Nat) (A A' : Nat → Nat → Int32) : Prop := (∀ j, j ≠ 7 → j ≠ 8 → j ≠ 9 → j ≠ 10 → A' j = A j) ∧ (∀ x, x < 3 * wc → A' 7 x = A 7 x) ∧ (∀ x, x < 64 * wc → A' 8 x = A 8 x) ∧ (∀ x, x ≠ wc → A' 9 x = A 9 x) ∧ ∀ x, x ≠ wc → A' 10 x = A 10 x
theorem mY.rf {wc : Nat} {A : Nat → Nat → Int32} : mY wc A A := ⟨fun _ _ _ _ _ => rfl, fun _ _ => rfl, fun _ _ => rfl, fun _ _ => rfl, fun _ _ => rfl⟩
theorem mY.tr {wc : Nat} {A B C : Nat → Nat → Int32} (h1 : mY wc A B) (h2 : mY wc B C) : mY wc A C := ⟨fun j a b c d => (h2.1 j a b c d).trans (h1.1 j a b c d), fun x a => (h2.2.1 x a).trans (h1.2.1 x a), fun x a => (h2.2.2.1 x a).trans (h1.2.2.1 x a), fun x a => (h2.2.2.2.1 x a).trans (h1.2.2.2.1 x a), fun x a => (h2.2.2.2.2 x a).trans (h1.2.2.2.2 x a)⟩
theorem mY.s7 {wc s : Nat} {A : Nat → Nat → Int32} {v : Int32} : mY wc A (mS A 7 (va_up (A 7) (3 * wc + s) v)) := ⟨fun j a _ _ _ => mS_ne a, fun x hx => by rw [mS_self, va_up_ne _ _ (by omega)], fun x _ => by rw [mS_ne (by omega)], fun x _ => by rw [mS_ne (by omega)], fun x _ => by rw [mS_ne (by omega)]⟩
theorem mY.s8 {wc s : Nat} {A : Nat → Nat → Int32} {v : Int32} : mY wc A (mS A 8 (va_up (A 8) (64 * wc + s) v)) := ⟨fun j _ b _ _ => mS_ne b, fun x _ => by rw [mS_ne (by omega)], fun x hx => by rw [mS_self, va_up_ne _ _ (by omega)], fun x _ => by rw [mS_ne (by omega)], fun x _ => by rw [mS_ne (by omega)]⟩
theorem mY.s9 {wc : Nat} {A : Nat → Nat → Int32} {v : Int32} : mY wc A (mS A 9 (va_up (A 9) wc v)) := ⟨fun j _ _ c _ => mS_ne c, fun x _ => by rw [mS_ne (by omega)], fun x _ => by rw [mS_ne (by omega)], fun x hx => by rw [mS_self, va_up_ne _ _ hx], fun x _ => by rw [mS_ne (by omega)]⟩
theorem mY.s10 {wc : Nat} {A : Nat → Nat → Int32} {v : Int32} : mY wc A (mS A 10 (va_up (A 10) wc v)) := ⟨fun j _ _ _ d => mS_ne d, fun x _ => by rw [mS_ne (by omega)], fun x _ => by rw [mS_ne (by omega)], fun x _ => by rw [mS_ne (by omega)], fun x hx => by rw [mS_self, va_up_ne _ _ hx]⟩
-- 78.res.lean.txt
/-! LAW CASES 22, 23: result, resultByCube -/
theorem g_number {S : ZS} {w c n t p a b d sq k q s j : Nat} {g : Nat → Nat} {v : Nat → Nat → Nat → Nat} (h : zWy S w c n t p a b d sq k g v) (hq : q < k) (hs : s < 3) (hj : j < sz3 a b d s) : fX4_number w (ci q) (ci s) (ci j) S = some (ci (v q s j)) := by
  have hb := sz3_b h.2.1 (s := s)
  have he := h.eb hq hs
  have hpb := h.1.b
  have hv := h.2.2.2.2.2.1 q hq s hs
  unfold fX4_number
  rw [zcl_ob h.wa, g_code h hq hs, Option.bind_some, zgR_ob h.wa rfl, Option.bind_some, zcl_cu h.2.2.2.2.1, g_sizeOf h.2.2.2.2.1 hs, Option.bind_some, zgI_ob h.wa rfl, Option.bind_some, g_numberIn h.1 hb.2 hj (by omega), Option.bind_some, dg_enc (by omega) hv hj]
/-- a vector's product with a code -/
def vxp (p n e : Nat) (u : Nat → Nat) : Nat := sm n (fun j => u j * dg p n e j) % p
theorem vxp_b {p n e i : Nat} {u : Nat → Nat} (hp : isP p) (hi : i ≤ n) (hu : ∀ j, j < n → u j < p) : sm i (fun j => u j * dg p n e j) ≤ i * 25 := sm_le (fun j hj => by
  have hpb := hp.b
  have h1 := hu j (by omega)
  have h2 : dg p n e j < p := dg_lt (by omega)
  exact Nat.mul_le_mul (show u j ≤ 5 by omega) (show dg p n e j ≤ 5 by omega))
theorem vxp_lt {p n e : Nat} {u : Nat → Nat} (hp : isP p) : vxp p n e u < p := Nat.mod_lt _ (by have := hp.b; omega)
theorem g_vx {p n e : Nat} {u : Nat → Nat} (hp : isP p) (hn : n ≤ 4) (hu : ∀ j, j < n → u j < p) (he : e < 2147483648) : fX5_multipliedCodes (ci (enc p n u)) (ci e) (ci n) (ci p) = some (ci (vxp p n e u)) := by
  have h2 := enc_b hp hn hu
  have hpb := hp.b
  rw [g_multipliedCodes hp hn (by omega) he]
  unfold vxp
  rw [sm_congr (fun j hj => by rw [dg_enc (by omega) hu hj])]
/-- what result answers -/
def rsF (p a b x y z : Nat) (v : Nat → Nat → Nat → Nat) (k : Nat) : Nat := sm k (fun q => v q 2 z * vxp p a x (v q 0) * vxp p b y (v q 1))
theorem rsF_b {p a b d x y z k i : Nat} {v : Nat → Nat → Nat → Nat} (hp : isP p) (hz : z < d) (hi : i ≤ k) (hv : vOK p a b d k v) : rsF p a b x y z v i ≤ i * 125 := sm_le (fun q hq => by
  have hpb := hp.b
  have h1 : v q 2 z < p := hv q (by omega) 2 (by omega) z hz
  have h2 := vxp_lt (n := a) (e := x) (u := v q 0) hp
  have h3 := vxp_lt (n := b) (e := y) (u := v q 1) hp
  exact Nat.mul_le_mul (Nat.mul_le_mul (show v q 2 z ≤ 5 by omega) (show _ ≤ 5 by omega)) (show _ ≤ 5 by omega))
theorem c_multiplied {S : ZS} {w c n t p a b d sq k x y z : Nat} {g : Nat → Nat} {v : Nat → Nat → Nat → Nat} (h : zWy S w c n t p a b d sq k g v) (hx : x < 2147483648) (hy : y < 2147483648) (hz : z < d) : fX4_multiplied w (ci x) (ci y) (ci z) S = some (ci (rsF p a b x y z v k % p)) := by
  have hpb := h.1.b
  have hk := h.kk
  have hsz := h.2.1
  unfold szOK at hsz
  have hv := h.2.2.2.2.2.1
  unfold fX4_multiplied
  rw [zF_eq]
  refine ziter_seq (fun i => (ci (rsF p a b x y z v i), ci i)) _ k 10000 (by omega) (fun i hi => ?_) ?_
  · have c0 := g_code (s := 0) h hi (by omega)
    have c1 := g_code (s := 1) h hi (by omega)
    have c2 := g_number (s := 2) (j := z) h hi (by omega) hz
    have m0 := g_vx (e := x) h.1 hsz.1.2 (hv i hi 0 (by omega)) hx
    have m1 := g_vx (e := y) h.1 hsz.2.1.2 (hv i hi 1 (by omega)) hy
    unfold fX4_multiplied_B6
    simp only []
    rw [zgI_ob h.wa rfl, Option.bind_some, if_neg (by rw [ci_le (by omega) (by omega)]; omega), zcl_ob h.wa]
    rw [cl_0, c0, Option.bind_some, zgR_ob h.wa rfl, Option.bind_some, zgI_ob h.2.2.2.2.1.1 rfl, Option.bind_some, zgI_ob h.wa rfl, Option.bind_some]
    show Option.bind (fX5_multipliedCodes (ci (enc p a (v i 0))) (ci x) (ci a) (ci p)) _ = _
    rw [m0, Option.bind_some, cl_1, zcl_ob h.wa, c1, Option.bind_some, Option.bind_some, zgI_ob h.2.2.2.2.1.1 rfl, Option.bind_some, Option.bind_some]
    show Option.bind (fX5_multipliedCodes (ci (enc p b (v i 1))) (ci y) (ci b) (ci p)) _ = _
    rw [m1, Option.bind_some, zcl_ob h.wa, cl_2, c2, Option.bind_some, ci_mul, ci_mul, ci_add, ci_add]
    rfl
  · have hb := rsF_b (x := x) (y := y) h.1 hz (Nat.le_refl _) hv
    unfold fX4_multiplied_B6
    simp only []
    rw [zgI_ob h.wa rfl, Option.bind_some, if_pos (by rw [ci_le (by omega) (by omega)]; omega), zgI_ob h.wa rfl, Option.bind_some, g_rem (by omega) (by omega) (by omega), Option.bind_some, zex_some]
-- 79.resc.lean.txt
/-! LAW CASE 23: resultByCube -/
def rbT (p a b x y z : Nat) (g : Nat → Nat) (i j : Nat) : Nat := g (ix i j z) * dg p a x i * dg p b y j
def rbF (p a b x y z : Nat) (g : Nat → Nat) (i : Nat) : Nat := sm i (fun i => sm b (rbT p a b x y z g i))
theorem rbF_b {p a b d x y z i : Nat} {g : Nat → Nat} (hp : isP p) (hg : cOK p a b d g) (hi : i ≤ 4) (hb : b ≤ 4) (hz : z < 4) : rbF p a b x y z g i ≤ i * 500 := sm_le (fun i' hi' => by
  have hpb := hp.b
  have : sm b (rbT p a b x y z g i') ≤ b * 125 := sm_le (fun j hj => by
    have h1 := hg.lt (ix_lt (i := i') (j := j) (k := z) (by omega) (by omega) hz)
    have h2 : dg p a x i' < p := dg_lt (by omega)
    have h3 : dg p b y j < p := dg_lt (by omega)
    exact Nat.mul_le_mul (Nat.mul_le_mul (show _ ≤ 5 by omega) (show _ ≤ 5 by omega)) (show _ ≤ 5 by omega))
  omega)
theorem c_mbc2 {S : ZS} {w c n t p a b d sq k x y z i T : Nat} {g : Nat → Nat} {v : Nat → Nat → Nat → Nat} (h : zWy S w c n t p a b d sq k g v) (hy : y < 2147483648) (hi : i < a) (hz : z < d) : ziter (fX4_multipliedByCube_B40 w (ci x) (ci y) (ci z) (ci i) (ci (dg p a x i)) S) zF (ci T, (0 : Int32)) = some (.inl (ci (T + sm b (rbT p a b x y z g i)), ci (i + 1))) := by
  have hsz := h.2.1
  unfold szOK at hsz
  have hc := h.2.2.2.2.1
  rw [zF_eq]
  refine ziter_seq (fun j => (ci (T + sm j (rbT p a b x y z g i)), ci j)) _ b 10000 (by omega) (fun j hj => ?_) ?_
  · unfold fX4_multipliedByCube_B40
    simp only []
    rw [zgR_ob h.wa rfl, Option.bind_some, zgI_ob hc.1 rfl, Option.bind_some, if_neg (by rw [ci_le (by omega) (by omega)]; omega), Option.bind_some, zgI_ob hc.1 rfl, Option.bind_some, zgI_ob h.wa rfl, Option.bind_some, g_numberIn h.1 hsz.2.1.2 hj hy, Option.bind_some, Option.bind_some, zcl_cu hc, g_numberAt hc (by omega) (by omega) (by omega), Option.bind_some, ci_mul, ci_mul, ci_add, cl_1, ci_add, Nat.add_assoc]
    rfl
  · unfold fX4_multipliedByCube_B40
    simp only []
    rw [zgR_ob h.wa rfl, Option.bind_some, zgI_ob hc.1 rfl, Option.bind_some, if_pos (by rw [ci_le (by omega) (by omega)]; omega), cl_1, ci_add, zex_some]
theorem c_mbc {S : ZS} {w c n t p a b d sq k x y z : Nat} {g : Nat → Nat} {v : Nat → Nat → Nat → Nat} (h : zWy S w c n t p a b d sq k g v) (hg : cOK p a b d g) (hx : x < 2147483648) (hy : y < 2147483648) (hz : z < d) : fX4_multipliedByCube w (ci x) (ci y) (ci z) S = some (ci (rbF p a b x y z g a % p)) := by
  have hsz := h.2.1
  have hpb := h.1.b
  unfold szOK at hsz
  have hc := h.2.2.2.2.1
  unfold fX4_multipliedByCube
  refine ziter_seq (fun i => (ci (rbF p a b x y z g i), ci i)) _ a zF (by rw [zF_eq]; omega) (fun i hi => ?_) ?_
  · have := c_mbc2 (x := x) (T := rbF p a b x y z g i) h hy hi hz
    unfold fX4_multipliedByCube_B6
    simp only []
    rw [zgR_ob h.wa rfl, Option.bind_some, zgI_ob hc.1 rfl, Option.bind_some, if_neg (by rw [ci_le (by omega) (by omega)]; omega), Option.bind_some, zgI_ob hc.1 rfl, Option.bind_some, zgI_ob h.wa rfl, Option.bind_some, g_numberIn h.1 hsz.1.2 hi hx, Option.bind_some]
    exact this
  · have hb := rbF_b (x := x) (y := y) h.1 hg (show a ≤ 4 by omega) (show b ≤ 4 by omega) (show z < 4 by omega)
    unfold fX4_multipliedByCube_B6
    simp only []
    rw [zgR_ob h.wa rfl, Option.bind_some, zgI_ob hc.1 rfl, Option.bind_some, if_pos (by rw [ci_le (by omega) (by omega)]; omega), zgI_ob h.wa rfl, Option.bind_some, g_rem (by omega) (by omega) (by omega), Option.bind_some, zex_some]
/-- the exception of asking; 0 for none -/
def ask (p a b d : Nat) (x y z : Int32) : Nat := if bl d z = true then (if (bl (p ^ a) x && bl (p ^ b) y) = true then 0 else 2) else 1
theorem ask_lt {p a b d : Nat} {x y z : Int32} : ask p a b d x y z < 3 := by unfold ask; split <;> (try split) <;> omega
theorem c_needFactors {S : ZS} {ad : Nat → Nat} {p cc wc : Nat} {w c n t a b d sq k : Nat} {g : Nat → Nat} {v : Nat → Nat → Nat → Nat} {x y z : Int32} (hd : zHd S ad p cc wc) (h : zWy S w c n t p a b d sq k g v) : zcl S (ad 10) 5 (fX5_needFactors (ad 10) w x y z S) = if ask p a b d x y z = 0 then some (.inl ((), S)) else some (.inr (if ask p a b d x y z = 1 then "java/lang/IndexOutOfBoundsException" else "java/lang/IllegalArgumentException", S.1)) := by
  have hsz := h.2.1
  unfold szOK at hsz
  have hc := h.2.2.2.2.1
  unfold fX5_needFactors ask
  rw [zcl_ob hd.1, zgR_ob h.wa rfl, Option.bind_some, zgI_ob hc.1 rfl, Option.bind_some, c_isBelow (by omega), Option.bind_some]
  cases bl d z with
  | false => rfl
  | true =>
    rw [if_neg (show ¬ bI true = 0 by decide), Option.bind_some, zgI_ob hc.1 rfl, Option.bind_some, c_needCode hd h.1 hsz.1.2]
    cases bl (p ^ a) x with
    | false => rfl
    | true =>
      rw [if_pos rfl, zbT_l]
      show Option.bind (zgR S w 4 0) _ = _
      rw [zgR_ob h.wa rfl, Option.bind_some]
      show Option.bind (zgI S c 0 1) _ = _
      rw [zgI_ob hc.1 rfl, Option.bind_some]
      show zbT (zcl S (ad 10) 5 (fX5_needCode (ad 10) y (ci b) S)) _ = _
      rw [c_needCode hd h.1 hsz.2.1.2]
      cases bl (p ^ b) y <;> rfl
