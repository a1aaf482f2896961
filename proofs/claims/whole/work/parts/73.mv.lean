/-! LAW CASE 6: move, the numbers -/
def px (s x t : Nat) : Nat := if s = 0 then ix x (t / 4) (t % 4) else if s = 1 then ix (t / 4) x (t % 4) else ix (t / 4) (t % 4) x
def mv (s f e c p : Nat) (g : Nat → Nat) : Nat → (Nat → Nat)
  | 0 => g
  | n + 1 => va_up (mv s f e c p g n) (px s e n) ((mv s f e c p g n (px s e n) + c * mv s f e c p g n (px s f n)) % p)
theorem px_lt {s x t : Nat} (hx : x < 4) (ht : t < 16) : px s x t < 64 := by
  unfold px
  split
  · exact ix_lt hx (by omega) (by omega)
  · split
    · exact ix_lt (by omega) hx (by omega)
    · exact ix_lt (by omega) (by omega) hx
theorem px_out {p a b d s f e t : Nat} {h : Nat → Nat} (hok : cOK p a b d h) (hs : s < 3) (he : e < sz3 a b d s) (hf : f < sz3 a b d s) (hz : szOK a b d) (ht : t < 16) {i j k : Nat} (hi : i < 4) (hj : j < 4) (hk : k < 4) (hn : ¬ (i < a ∧ j < b ∧ k < d)) (hx : ix i j k = px s e t) : h (px s f t) = 0 := by
  have hb := sz3_b hz (s := s)
  have h3 : s = 0 ∨ s = 1 ∨ s = 2 := by omega
  rcases h3 with rfl | rfl | rfl
  · have hx' : ix i j k = ix e (t / 4) (t % 4) := hx
    rw [ix_inj hj hk (by omega) (by omega)] at hx'
    have he' : e < a := he
    exact hok.2 f (t / 4) (t % 4) (by omega) (by omega) (by omega) (by omega)
  · have hx' : ix i j k = ix (t / 4) e (t % 4) := hx
    rw [ix_inj hj hk (by omega) (by omega)] at hx'
    have he' : e < b := he
    exact hok.2 (t / 4) f (t % 4) (by omega) (by omega) (by omega) (by omega)
  · have hx' : ix i j k = ix (t / 4) (t % 4) e := hx
    rw [ix_inj hj hk (by omega) (by omega)] at hx'
    have he' : e < d := he
    exact hok.2 (t / 4) (t % 4) f (by omega) (by omega) (by omega) (by omega)
theorem mv_ok {p a b d s f e c : Nat} {g : Nat → Nat} (hp : isP p) (hok : cOK p a b d g) (hs : s < 3) (he : e < sz3 a b d s) (hf : f < sz3 a b d s) (hz : szOK a b d) {n : Nat} (hn : n ≤ 16) : cOK p a b d (mv s f e c p g n) := by
  have hpb := hp.b
  induction n with
  | zero => exact hok
  | succ n ih =>
    have ih := ih (by omega)
    refine ⟨fun x hx => ?_, fun i j k hi hj hk hno => ?_⟩
    · show va_up (mv s f e c p g n) _ _ x < p
      unfold va_up
      split
      · exact Nat.mod_lt _ (by omega)
      · exact ih.1 x hx
    · show va_up (mv s f e c p g n) (px s e n) ((mv s f e c p g n (px s e n) + c * mv s f e c p g n (px s f n)) % p) (ix i j k) = 0
      unfold va_up
      by_cases hx : ix i j k = px s e n
      · rw [if_pos hx, px_out ih hs he hf hz (by omega) hi hj hk hno hx, px_out ih hs he he hz (by omega) hi hj hk hno hx, Nat.mul_zero, Nat.add_zero, Nat.zero_mod]
      · rw [if_neg hx]; exact ih.2 i j k hi hj hk hno
theorem g_px {s x t : Nat} (hs : s < 3) (ht : t < 16) : fX0_indexInSlice (ci s) (ci x) (ci t) = some (ci (px s x t)) := by
  unfold fX0_indexInSlice fX0_indexInSlice_J45
  rw [cl_4, ci_div (by omega) (by omega), ci_mod (by omega) (by omega)]
  have h3 : s = 0 ∨ s = 1 ∨ s = 2 := by omega
  rcases h3 with rfl | rfl | rfl
  · rw [if_pos (show ci 0 = 0 from rfl), g_idx', Option.bind_some]; rfl
  · rw [if_neg (show ¬ ci 1 = 0 by decide), if_pos (show ci 1 = 1 from rfl), g_idx', Option.bind_some]; rfl
  · rw [if_neg (show ¬ ci 2 = 0 by decide), if_neg (show ¬ ci 2 = 1 by decide), g_idx', Option.bind_some]; rfl
theorem m_px {s x i j : Nat} (hs : s < 3) (hj : j < 4) : fX6_placeBy (ci s) (ci x) (ci i) (ci j) = some (ci (px s x (4 * i + j))) := by
  have e1 : (4 * i + j) / 4 = i := by omega
  have e2 : (4 * i + j) % 4 = j := by omega
  unfold fX6_placeBy fX6_placeBy_J33 px
  rw [e1, e2]
  have h3 : s = 0 ∨ s = 1 ∨ s = 2 := by omega
  rcases h3 with rfl | rfl | rfl
  · rw [if_pos (show ci 0 = 0 from rfl), m_place, Option.bind_some]; rfl
  · rw [if_neg (show ¬ ci 1 = 0 by decide), if_pos (show ci 1 = 1 from rfl), m_place, Option.bind_some]; rfl
  · rw [if_neg (show ¬ ci 2 = 0 by decide), if_neg (show ¬ ci 2 = 1 by decide), m_place, Option.bind_some]; rfl
theorem c_putAt {S : ZS} {c n a b d q x v : Nat} {g : Nat → Nat} (h : zCu S c n a b d q g) (hx : x < 64) : ∃ S1, fX5_put n (ci x) (ci v) S = some S1 ∧ zCu S1 c n a b d q (va_up g x v) ∧ zFrm S S1 (fun b => b = n) := by
  refine ⟨_, g_put (ci v) h.2 hx (by omega), ⟨zFrm.wI.ob (ne_oi h.1 h.2) h.1, ?_⟩, zFrm.wI⟩
  show zIA _ n 64 (fun i => ci (va_up g x v i))
  rw [ci_w]
  exact zwI_self
theorem c_getAt {S : ZS} {c n a b d q x : Nat} {g : Nat → Nat} (h : zCu S c n a b d q g) (hx : x < 64) : fX5_get n (ci x) S = some (ci (g x)) := by
  rw [g_get h.2 (by omega) (by omega), if_pos hx]
theorem c_addSlice {S : ZS} {c nn a b d q s f e ti p : Nat} {g : Nat → Nat} (hp : isP p) (hok : cOK p a b d g) (hs : s < 3) (he : e < sz3 a b d s) (hf : f < sz3 a b d s) (hz : szOK a b d) (ht : ti < p) (h : zCu S c nn a b d q g) : ∃ S1, fX0_addSlice c (ci s) (ci f) (ci e) (ci ti) (ci p) S = some S1 ∧ zCu S1 c nn a b d q (mv s f e ti p g 16) ∧ zFrm S S1 (fun b => b = nn) := by
  have hpb := hp.b
  have hb := sz3_b hz (s := s)
  have := ziter_for (body := fX0_addSlice_B3 c (ci s) (ci f) (ci e) (ci ti) (ci p)) (fun t S' => zCu S' c nn a b d q (mv s f e ti p g t) ∧ zFrm S S' (fun b => b = nn)) (fun r => zCu r c nn a b d q (mv s f e ti p g 16) ∧ zFrm S r (fun b => b = nn)) 16 ?_ ?_ 16 0 zF S (by omega) (by rw [zF_eq]; omega) ⟨h, zFrm.rf⟩
  · exact this
  · rintro t S' hl ⟨y, hf'⟩
    have l1 := px_lt (s := s) (x := e) (by omega) hl
    have l2 := px_lt (s := s) (x := f) (by omega) hl
    have m := mv_ok (c := ti) hp hok hs he hf hz (n := t) (by omega)
    have v1 := m.1 _ l1
    have v2 := m.1 _ l2
    have v3 : ti * mv s f e ti p g t (px s f t) ≤ 5 * 5 := Nat.mul_le_mul (by omega) (by omega)
    obtain ⟨S1, f1, f2, f3⟩ := c_putAt (v := (mv s f e ti p g t (px s e t) + ti * mv s f e ti p g t (px s f t)) % p) y l1
    refine ⟨S1, ?_, f2, hf'.tr f3⟩
    unfold fX0_addSlice_B3
    simp only []
    rw [if_neg (by rw [cl_16, ci_le (by omega) (by omega)]; omega), g_px hs hl, Option.bind_some, zgR_ob y.1 rfl, Option.bind_some, c_getAt y l1, Option.bind_some, Option.bind_some, g_px hs hl, Option.bind_some, c_getAt y l2, Option.bind_some, Option.bind_some, ci_mul, ci_add, g_rem (by omega) (by omega) (by omega), Option.bind_some, f1, Option.bind_some, cl_1, ci_add]
  · rintro S' ⟨y, hf'⟩
    refine ⟨S', ?_, y, hf'⟩
    unfold fX0_addSlice_B3
    simp only []
    rw [if_pos (by rw [cl_16, ci_le (by omega) (by omega)]; omega), zex_some]
