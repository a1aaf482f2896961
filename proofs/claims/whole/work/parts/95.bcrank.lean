/-! LAW CASES 16, 17: the rank in the class -/
def zFt (S : ZS) (fl fn R p : Nat) (C : Nat → Nat → Nat) : Prop := zOb S fl 1 [.ref fn, .int (ci R), .int (ci p)] ∧ (1 ≤ R ∧ R ≤ 4) ∧ isP p ∧ ∃ F, zIA S fn 64 F ∧ ∀ i, i < R → ∀ k, k < 16 → F (16 * i + k) = ci (C i k) ∧ C i k < p
def pFt (fl fn : Nat) : Nat → Prop := fun b => b = fl ∨ b = fn
def upM (C : Nat → Nat → Nat) (i k v : Nat) : Nat → Nat → Nat := fun i' k' => if i' = i ∧ k' = k then v else C i' k'
theorem zFt.get {S : ZS} {fl fn R p i k : Nat} {C : Nat → Nat → Nat} (h : zFt S fl fn R p C) (hi : i < R) (hk : k < 16) : zcl S fl 1 (fX1_number fl (ci i) (ci k) S) = some (ci (C i k)) := by
  obtain ⟨h1, h2, h3, F, h4, h5⟩ := h
  rw [zcl_ob h1]
  unfold fX1_number
  rw [zgR_ob h1 rfl, Option.bind_some, cl_16, ci_mul, ci_add, Nat.mul_comm, g_get h4 (by omega) (by omega), if_pos (by omega), Option.bind_some, (h5 i hi k hk).1]
theorem zFt.lt {S : ZS} {fl fn R p i k : Nat} {C : Nat → Nat → Nat} (h : zFt S fl fn R p C) (hi : i < R) (hk : k < 16) : C i k < p := by
  obtain ⟨h1, h2, h3, F, h4, h5⟩ := h
  exact (h5 i hi k hk).2
theorem zFt.put {S : ZS} {fl fn R p i k v : Nat} {C : Nat → Nat → Nat} (h : zFt S fl fn R p C) (hi : i < R) (hk : k < 16) (hv : v < p) : ∃ S1, zcl S fl 1 (fX1_enter fl (ci i) (ci k) (ci v) S) = some S1 ∧ zFt S1 fl fn R p (upM C i k v) ∧ zFrm S S1 (pFt fl fn) := by
  obtain ⟨h1, h2, h3, F, h4, h5⟩ := h
  have hf : zFrm S (zwI S fn 64 (va_up F (16 * i + k) (ci v))) (fun b => b = fn) := zFrm.wI
  refine ⟨_, ?_, ⟨hf.ob (ne_oi h1 h4) h1, h2, h3, _, zwI_self, fun i' hi' k' hk' => ?_⟩, hf.wk (fun _ => Or.inr)⟩
  · rw [zcl_ob h1]
    unfold fX1_enter
    rw [zgR_ob h1 rfl, Option.bind_some, cl_16, ci_mul, ci_add, Nat.mul_comm, g_put (ci v) h4 (by omega) (by omega), Option.bind_some]
  · unfold va_up upM
    by_cases hh : i' = i ∧ k' = k
    · rw [if_pos (by omega), if_pos hh]; exact ⟨rfl, hv⟩
    · rw [if_neg (by omega), if_neg hh]; exact h5 i' hi' k' hk'
theorem zFt.cg {S : ZS} {fl fn R p : Nat} {C C' : Nat → Nat → Nat} (h : zFt S fl fn R p C) (e : ∀ i, i < R → ∀ k, k < 16 → C i k = C' i k) : zFt S fl fn R p C' := by
  obtain ⟨h1, h2, h3, F, h4, h5⟩ := h
  exact ⟨h1, h2, h3, F, h4, fun i hi k hk => by rw [← e i hi k hk]; exact h5 i hi k hk⟩
theorem ci_m1i (z : Nat) : (-1 : Int32) = ci z → z < 2147483648 → False := fun h hz => ci_m1ne hz h.symm
theorem c_row {S : ZS} {fl fn R p c r : Nat} {C : Nat → Nat → Nat} (h : zFt S fl fn R p C) (hc : c < 16) (hr : r ≤ R) : fX1_rowWithNumber fl (ci c) (ci r) S = some (if pv C c (R - r) r < R then ci (pv C c (R - r) r) else (-1 : Int32)) := by
  have hR := h.2.1
  have hpb := h.2.2.1.b
  unfold fX1_rowWithNumber
  rw [zF_eq]
  have key : ∀ (n i N : Nat), i + n = R → n < N → ziter (fX1_rowWithNumber_B2 fl (ci c) S) N (ci i) = some (if pv C c n i < R then ci (pv C c n i) else (-1 : Int32)) := by
    intro n
    induction n with
    | zero =>
      intro i N hi hN
      obtain ⟨N, rfl⟩ : ∃ M, N = M + 1 := ⟨N - 1, by omega⟩
      rw [ziter_0]
      unfold fX1_rowWithNumber_B2
      rw [zgI_ob h.1 rfl, Option.bind_some, if_pos (by rw [ci_le (by omega) (by omega)]; omega), zex_some]
      show some (Sum.inr (-1 : Int32)) = some (Sum.inr (if i < R then ci i else (-1 : Int32)))
      rw [if_neg (by omega)]
    | succ n ih =>
      intro i N hi hN
      obtain ⟨N, rfl⟩ : ∃ M, N = M + 1 := ⟨N - 1, by omega⟩
      have hlt := h.lt (i := i) (by omega) hc
      have e : pv C c (n + 1) i = if C i c = 0 then pv C c n (i + 1) else i := rfl
      rw [e]
      by_cases h0 : C i c = 0
      · have st : fX1_rowWithNumber_B2 fl (ci c) S (ci i) = some (.inl (ci (i + 1))) := by
          unfold fX1_rowWithNumber_B2
          rw [zgI_ob h.1 rfl, Option.bind_some, if_neg (by rw [ci_le (by omega) (by omega)]; omega), h.get (by omega) hc, Option.bind_some, if_pos (by rw [h0]; rfl), cl_1, ci_add]
        rw [ziter_1 st, if_pos h0]
        exact ih (i + 1) N (by omega) (by omega)
      · rw [if_neg h0, if_pos (show i < R by omega), ziter_0]
        unfold fX1_rowWithNumber_B2
        rw [zgI_ob h.1 rfl, Option.bind_some, if_neg (by rw [ci_le (by omega) (by omega)]; omega), h.get (by omega) hc, Option.bind_some, if_neg (by rw [cl_0, ci_eq (by omega) (by omega)]; exact h0), zex_some]
  exact key (R - r) r 10000 (by omega) (by omega)
def swk (C : Nat → Nat → Nat) (q r k : Nat) : Nat → Nat → Nat := fun i k' => if k' < k then swp C q r i k' else C i k'
theorem swk_step {C : Nat → Nat → Nat} {q r k : Nat} : upM (upM (swk C q r k) q k (C r k)) r k (C q k) = swk C q r (k + 1) := by
  funext i k'
  unfold upM swk swp
  by_cases hk : k' = k
  · subst hk
    by_cases h1 : i = r
    · rw [if_pos ⟨h1, rfl⟩, if_pos (by omega), if_pos h1]
    · rw [if_neg (fun hh => h1 hh.1)]
      by_cases h2 : i = q
      · rw [if_pos ⟨h2, rfl⟩, if_pos (by omega), if_neg h1, if_pos h2]
      · rw [if_neg (fun hh => h2 hh.1), if_neg (by omega), if_pos (by omega), if_neg h1, if_neg h2]
  · rw [if_neg (fun hh => hk hh.2), if_neg (fun hh => hk hh.2)]
    by_cases h3 : k' < k
    · rw [if_pos h3, if_pos (show k' < k + 1 by omega)]
    · rw [if_neg h3, if_neg (by omega)]
theorem swk_at {C : Nat → Nat → Nat} {q r k i : Nat} : swk C q r k i k = C i k := if_neg (by omega)
theorem c_swap {S : ZS} {fl fn R p q r : Nat} {C : Nat → Nat → Nat} (h : zFt S fl fn R p C) (hq : q < R) (hr : r < R) : ∃ S1, fX1_swapRows fl (ci q) (ci r) S = some S1 ∧ zFt S1 fl fn R p (swp C q r) ∧ zFrm S S1 (pFt fl fn) := by
  have := ziter_for (body := fX1_swapRows_B2 fl (ci q) (ci r)) (fun k S' => zFt S' fl fn R p (swk C q r k) ∧ zFrm S S' (pFt fl fn)) (fun x => zFt x fl fn R p (swp C q r) ∧ zFrm S x (pFt fl fn)) 16 ?_ ?_ 16 0 zF S (by omega) (by rw [zF_eq]; omega) ⟨h.cg (fun i _ k _ => (if_neg (by omega)).symm), zFrm.rf⟩
  · exact this
  · rintro k S' hk ⟨y, hf⟩
    have l1 := h.lt hq hk
    have l2 := h.lt hr hk
    obtain ⟨S1, a1, a2, a3⟩ := y.put (v := C r k) hq hk l2
    obtain ⟨S2, b1, b2, b3⟩ := a2.put (v := C q k) hr hk l1
    rw [swk_step] at b2
    refine ⟨S2, ?_, b2, (hf.tr a3).tr b3⟩
    unfold fX1_swapRows_B2
    simp only []
    rw [if_neg (by rw [cl_16, ci_le (by omega) (by omega)]; omega), y.get hq hk, Option.bind_some, y.get hr hk, Option.bind_some, swk_at, swk_at, a1, Option.bind_some, b1, Option.bind_some, cl_1, ci_add]
  · rintro S' ⟨y, hf⟩
    refine ⟨S', ?_, y.cg (fun i _ k hk => if_pos hk), hf⟩
    unfold fX1_swapRows_B2
    simp only []
    rw [if_pos (by rw [cl_16, ci_le (by omega) (by omega)]; omega), zex_some]
def clk (p : Nat) (C : Nat → Nat → Nat) (r c i at' : Nat) : Nat → Nat → Nat := fun i' k' => if (r < i' ∧ i' < i ∧ c ≤ k') ∨ (i' = i ∧ c ≤ k' ∧ k' < at') then ccl p (C i' k') (C i' c) (C r c) (C r k') else C i' k'
theorem ccl_lt {p x ci' cr y : Nat} (hp : isP p) : ccl p x ci' cr y < p := Nat.mod_lt _ (by have := hp.b; omega)
theorem c_clr2 {S : ZS} {fl fn R p r c i : Nat} {C : Nat → Nat → Nat} (hC : ∀ i, i < R → ∀ k, k < 16 → C i k < p) (hr : r < i) (hi : i < R) (hc : c < 16) (h : zFt S fl fn R p (clk p C r c i c)) : ∃ S1, ziter (fX1_clearBelow_B38 fl (ci c) (ci r) (ci (C r c)) (ci i) (ci (p - C i c))) zF (ci c, S) = some (.inl (ci (i + 1), S1)) ∧ zFt S1 fl fn R p (clk p C r c (i + 1) c) ∧ zFrm S S1 (pFt fl fn) := by
  have hR := h.2.1
  have hpb := h.2.2.1.b
  have key : ∀ (n a N : Nat) (S' : ZS), a + n = 16 → c ≤ a → n < N → zFt S' fl fn R p (clk p C r c i a) → zFrm S S' (pFt fl fn) → ∃ S1, ziter (fX1_clearBelow_B38 fl (ci c) (ci r) (ci (C r c)) (ci i) (ci (p - C i c))) N (ci a, S') = some (.inl (ci (i + 1), S1)) ∧ zFt S1 fl fn R p (clk p C r c (i + 1) c) ∧ zFrm S S1 (pFt fl fn) := by
    intro n
    induction n with
    | zero =>
      intro a N S' ha hca hN y hf
      obtain ⟨N, rfl⟩ : ∃ M, N = M + 1 := ⟨N - 1, by omega⟩
      refine ⟨S', ?_, y.cg (fun i' _ k hk => ?_), hf⟩
      · rw [ziter_0]
        unfold fX1_clearBelow_B38
        simp only []
        rw [if_pos (by rw [cl_16, ci_le (by omega) (by omega)]; omega), cl_1, ci_add, zex_some]
      · unfold clk
        by_cases hh : (r < i' ∧ i' < i ∧ c ≤ k) ∨ (i' = i ∧ c ≤ k ∧ k < a)
        · rw [if_pos hh, if_pos (by omega)]
        · rw [if_neg hh, if_neg (by omega)]
    | succ n ih =>
      intro a N S' ha hca hN y hf
      obtain ⟨N, rfl⟩ : ∃ M, N = M + 1 := ⟨N - 1, by omega⟩
      have l1 := hC i hi a (by omega)
      have l2 := hC r (by omega) a (by omega)
      have l3 := hC r (by omega) c hc
      have l4 := hC i hi c hc
      have m1 : C r c * C i a ≤ 5 * 5 := Nat.mul_le_mul (by omega) (by omega)
      have m2 : (p - C i c) * C r a ≤ 5 * 5 := Nat.mul_le_mul (by omega) (by omega)
      have v1 : clk p C r c i a i a = C i a := if_neg (by omega)
      have v2 : clk p C r c i a r a = C r a := if_neg (by omega)
      obtain ⟨S1, a1, a2, a3⟩ := y.put (k := a) (v := ccl p (C i a) (C i c) (C r c) (C r a)) hi (by omega) (ccl_lt h.2.2.1)
      have st : fX1_clearBelow_B38 fl (ci c) (ci r) (ci (C r c)) (ci i) (ci (p - C i c)) (ci a, S') = some (.inl (ci (a + 1), S1)) := by
        unfold fX1_clearBelow_B38
        simp only []
        rw [if_neg (by rw [cl_16, ci_le (by omega) (by omega)]; omega), y.get hi (by omega), Option.bind_some, y.get (i := r) (by omega) (by omega), Option.bind_some, v1, v2, zgI_ob y.1 rfl, Option.bind_some, ci_mul, ci_mul, ci_add, g_rem (by omega) (by omega) (by omega), Option.bind_some]
        show Option.bind (zcl S' fl 1 (fX1_enter fl (ci i) (ci a) (ci (ccl p (C i a) (C i c) (C r c) (C r a))) S')) _ = _
        rw [a1, Option.bind_some, cl_1, ci_add]
      rw [ziter_1 st]
      refine ih (a + 1) N S1 (by omega) (by omega) (by omega) (a2.cg (fun i' _ k _ => ?_)) (hf.tr a3)
      unfold upM clk
      by_cases hh : i' = i ∧ k = a
      · rw [if_pos hh, if_pos (by omega), hh.1, hh.2]
      · rw [if_neg hh]
        by_cases h2 : (r < i' ∧ i' < i ∧ c ≤ k) ∨ (i' = i ∧ c ≤ k ∧ k < a)
        · rw [if_pos h2, if_pos (by omega)]
        · rw [if_neg h2, if_neg (by omega)]
  exact key (16 - c) c zF S (by omega) (Nat.le_refl c) (by rw [zF_eq]; omega) h zFrm.rf
theorem c_clr1 {S : ZS} {fl fn R p r c : Nat} {C : Nat → Nat → Nat} (h : zFt S fl fn R p C) (hr : r < R) (hc : c < 16) : ∃ S1, fX1_clearBelow fl (ci c) (ci r) S = some S1 ∧ zFt S1 fl fn R p (clc p R C r c) ∧ zFrm S S1 (pFt fl fn) := by
  have hR := h.2.1
  have hpb := h.2.2.1.b
  have hC : ∀ i, i < R → ∀ k, k < 16 → C i k < p := fun i hi k hk => h.lt hi hk
  have key : ∀ (n i N : Nat) (S' : ZS), i + n = R → r < i → n < N → zFt S' fl fn R p (clk p C r c i c) → zFrm S S' (pFt fl fn) → ∃ S1, ziter (fX1_clearBelow_B12 fl (ci c) (ci r) (ci (C r c))) N (ci i, S') = some S1 ∧ zFt S1 fl fn R p (clc p R C r c) ∧ zFrm S S1 (pFt fl fn) := by
    intro n
    induction n with
    | zero =>
      intro i N S' hi hri hN y hf
      obtain ⟨N, rfl⟩ : ∃ M, N = M + 1 := ⟨N - 1, by omega⟩
      refine ⟨S', ?_, y.cg (fun i' hi' k _ => ?_), hf⟩
      · rw [ziter_0]
        unfold fX1_clearBelow_B12
        simp only []
        rw [zgI_ob y.1 rfl, Option.bind_some, if_pos (by rw [ci_le (by omega) (by omega)]; omega), zex_some]
      · unfold clk clc
        by_cases hh : r < i' ∧ i' < R ∧ c ≤ k
        · rw [if_pos (by omega), if_pos hh]
        · rw [if_neg (by omega), if_neg hh]
    | succ n ih =>
      intro i N S' hi hri hN y hf
      obtain ⟨N, rfl⟩ : ∃ M, N = M + 1 := ⟨N - 1, by omega⟩
      have l4 := hC i (by omega) c hc
      have v1 : clk p C r c i c i c = C i c := if_neg (by omega)
      obtain ⟨S1, a1, a2, a3⟩ := c_clr2 hC hri (by omega) hc y
      have st : fX1_clearBelow_B12 fl (ci c) (ci r) (ci (C r c)) (ci i, S') = some (.inl (ci (i + 1), S1)) := by
        unfold fX1_clearBelow_B12
        simp only []
        rw [zgI_ob y.1 rfl, Option.bind_some, if_neg (by rw [ci_le (by omega) (by omega)]; omega), zgI_ob y.1 rfl, Option.bind_some, y.get (i := i) (by omega) hc, Option.bind_some, v1, ci_sub (by omega)]
        exact a1
      rw [ziter_1 st]
      exact ih (i + 1) N S1 (by omega) (by omega) (by omega) a2 (hf.tr a3)
  unfold fX1_clearBelow
  rw [h.get hr hc, Option.bind_some, cl_1, ci_add]
  exact key (R - (r + 1)) (r + 1) zF S (by omega) (by omega) (by rw [zF_eq]; omega) (h.cg (fun i _ k _ => by
    unfold clk
    rw [if_neg (by omega)])) zFrm.rf
theorem rkC_le {p R : Nat} {M : Nat → Nat → Nat} : ∀ c, (rkC p R M c).1 ≤ R := by
  intro c
  induction c with
  | zero => exact Nat.zero_le _
  | succ c ih =>
    show (stC1 p R c (rkC p R M c)).1 ≤ R
    have hb := pv_b (M := (rkC p R M c).2) (c := c) (R - (rkC p R M c).1) (rkC p R M c).1
    unfold stC1
    split
    · show (rkC p R M c).1 + 1 ≤ R
      omega
    · exact ih
theorem c_rankLoop {S : ZS} {fl fn R p : Nat} {M : Nat → Nat → Nat} (h : zFt S fl fn R p M) : ∃ S1, ziter (fX1_rankOf_B13 fl) zF ((0 : Int32), (0 : Int32), S) = some (ci (rkC p R M 16).1, S1) ∧ zFt S1 fl fn R p (rkC p R M 16).2 ∧ zFrm S S1 (pFt fl fn) := by
  have hR := h.2.1
  have key : ∀ (n c N : Nat) (S' : ZS), c + n = 16 → n < N → zFt S' fl fn R p (rkC p R M c).2 → zFrm S S' (pFt fl fn) → ∃ S1, ziter (fX1_rankOf_B13 fl) N (ci (rkC p R M c).1, ci c, S') = some (ci (rkC p R M 16).1, S1) ∧ zFt S1 fl fn R p (rkC p R M 16).2 ∧ zFrm S S1 (pFt fl fn) := by
    intro n
    induction n with
    | zero =>
      intro c N S' hc hN y hf
      obtain ⟨N, rfl⟩ : ∃ M, N = M + 1 := ⟨N - 1, by omega⟩
      obtain rfl : c = 16 := by omega
      refine ⟨S', ?_, y, hf⟩
      rw [ziter_0]
      unfold fX1_rankOf_B13
      simp only []
      rw [if_pos (by rw [cl_16, ci_le (by omega) (by omega)]; omega), zex_some]
    | succ n ih =>
      intro c N S' hc hN y hf
      obtain ⟨N, rfl⟩ : ∃ M, N = M + 1 := ⟨N - 1, by omega⟩
      have hle := rkC_le (p := p) (R := R) (M := M) c
      have e : rkC p R M (c + 1) = stC1 p R c (rkC p R M c) := rfl
      have row := c_row y (c := c) (by omega) hle
      have st : ∃ S1, fX1_rankOf_B13 fl (ci (rkC p R M c).1, ci c, S') = some (.inl (ci (rkC p R M (c + 1)).1, ci (c + 1), S1)) ∧ zFt S1 fl fn R p (rkC p R M (c + 1)).2 ∧ zFrm S' S1 (pFt fl fn) := by
        rw [e]
        unfold stC1 fX1_rankOf_B13 fX1_rankOf_J55
        simp only []
        rw [if_neg (by rw [cl_16, ci_le (by omega) (by omega)]; omega), zcl_ob y.1, row, Option.bind_some]
        have hb := pv_b (M := (rkC p R M c).2) (c := c) (R - (rkC p R M c).1) (rkC p R M c).1
        by_cases hq : pv (rkC p R M c).2 c (R - (rkC p R M c).1) (rkC p R M c).1 < R
        · obtain ⟨S1, a1, a2, a3⟩ := c_swap (q := pv (rkC p R M c).2 c (R - (rkC p R M c).1) (rkC p R M c).1) (r := (rkC p R M c).1) y hq (by omega)
          obtain ⟨S2, b1, b2, b3⟩ := c_clr1 (r := (rkC p R M c).1) (c := c) a2 (by omega) (by omega)
          refine ⟨S2, ?_, by rw [if_pos hq]; exact b2, a3.tr b3⟩
          rw [if_pos hq, if_neg (ci_m1ne (by omega)), zcl_ob y.1, a1, Option.bind_some, zcl_ob a2.1, b1, Option.bind_some, if_pos hq, cl_1, ci_add, ci_add]
        · refine ⟨S', ?_, by rw [if_neg hq]; exact y, zFrm.rf⟩
          rw [if_neg hq, if_pos rfl, if_neg hq, cl_1, ci_add]
      obtain ⟨S1, s1, s2, s3⟩ := st
      rw [ziter_1 s1]
      exact ih (c + 1) N S1 (by omega) (by omega) s2 (hf.tr s3)
  exact key 16 0 zF S (by omega) (by rw [zF_eq]; omega) h zFrm.rf
theorem c_take {S : ZS} {fl fn c n a b d q s p : Nat} {g : Nat → Nat} {x1 x2 : Int32} {F : Nat → Int32} (ho : zOb S fl 1 [.ref fn, .int x1, .int x2]) (hF : zIA S fn 64 F) (h : zCu S c n a b d q g) (hn : n ≠ fn) (hs : s < 3) (hz : szOK a b d) (hp : isP p) (hg : cOK p a b d g) : ∃ S1, fX1_take fl c (ci s) (ci p) S = some S1 ∧ zFt S1 fl fn (sz3 a b d s) p (fun i k => g (px s i k)) ∧ zFrm S S1 (pFt fl fn) := by
  have hb := sz3_b hz (s := s)
  obtain ⟨T, hT⟩ : ∃ T, T = zwO (zwO S fl 1 [.ref fn, .int (ci (sz3 a b d s)), .int x2]) fl 1 [.ref fn, .int (ci (sz3 a b d s)), .int (ci p)] := ⟨_, rfl⟩
  have fT : zFrm S T (fun b => b = fl) := by rw [hT]; exact zFrm.wO.tr zFrm.wO
  have oT : zOb T fl 1 [.ref fn, .int (ci (sz3 a b d s)), .int (ci p)] := by rw [hT]; exact zwO_self
  have iT : zIA T fn 64 F := fT.ia (fun hh => ne_oi ho hF hh.symm) hF
  have cT' : zCu T c n a b d q g := fT.cu (ne_oo h.1 ho (by omega)) (fun hh => ne_oi ho h.2 hh.symm) h
  have key : ∀ (S' : ZS) (i k : Nat) (F' : Nat → Int32), zFrm T S' (fun b => b = fn) → zIA S' fn 64 F' → i < sz3 a b d s → k < 16 → ∃ S1, (Option.bind (zcl S' c 0 (fX0_numberInSlice c (ci s) (ci i) (ci k) S')) fun x5 => zcl S' fl 1 (fX1_enter fl (ci i) (ci k) x5 S')) = some S1 ∧ zIA S1 fn 64 (va_up F' (16 * i + k) (ci (g (px s i k)))) ∧ zFrm S' S1 (fun b => b = fn) := by
    intro S' i k F' hf hI hi hk
    have o' := hf.ob (ne_oi oT iT) oT
    have c' := hf.cu (ne_oi cT'.1 iT) hn cT'
    refine ⟨_, ?_, zwI_self, zFrm.wI⟩
    · unfold fX0_numberInSlice
      rw [zcl_cu c', zgR_ob c'.1 rfl, Option.bind_some, g_px hs hk, Option.bind_some, c_getAt c' (px_lt (by omega) hk), Option.bind_some, Option.bind_some, zcl_ob o']
      unfold fX1_enter
      rw [zgR_ob o' rfl, Option.bind_some, cl_16, ci_mul, ci_add, Nat.mul_comm, g_put _ hI (by omega) (by omega), Option.bind_some]
  have := ziter_for (body := fX1_take_B17 fl c (ci s)) (fun i S' => (∃ F', zIA S' fn 64 F' ∧ ∀ i', i' < i → ∀ k, k < 16 → F' (16 * i' + k) = ci (g (px s i' k))) ∧ zFrm T S' (fun b => b = fn)) (fun r => (∃ F', zIA r fn 64 F' ∧ ∀ i', i' < sz3 a b d s → ∀ k, k < 16 → F' (16 * i' + k) = ci (g (px s i' k))) ∧ zFrm T r (fun b => b = fn)) (sz3 a b d s) ?_ ?_ (sz3 a b d s) 0 zF T (by omega) (by rw [zF_eq]; omega) ⟨⟨F, iT, fun i' hi' => absurd hi' (Nat.not_lt_zero _)⟩, zFrm.rf⟩
  · obtain ⟨S1, q1, ⟨F', q2, q3⟩, q4⟩ := this
    refine ⟨S1, ?_, ⟨q4.ob (ne_oi oT iT) oT, hb, hp, F', q2, fun i hi k hk => ⟨q3 i hi k hk, hg.lt (px_lt (by omega) hk)⟩⟩, (fT.wk (fun _ => Or.inl)).tr (q4.wk (fun _ => Or.inr))⟩
    unfold fX1_take
    rw [zcl_cu h, g_sizeOf h hs, Option.bind_some, zpF_ob _ ho (by simp), Option.bind_some]
    show Option.bind (zpF (zwO S fl 1 [.ref fn, .int (ci (sz3 a b d s)), .int x2]) fl 1 2 (.int (ci p))) _ = _
    rw [zpF_ob _ zwO_self (by simp), Option.bind_some]
    show ziter (fX1_take_B17 fl c (ci s)) zF (ci 0, zwO (zwO S fl 1 [.ref fn, .int (ci (sz3 a b d s)), .int x2]) fl 1 [.ref fn, .int (ci (sz3 a b d s)), .int (ci p)]) = _
    rw [← hT]
    exact q1
  · rintro i S' hi ⟨⟨F', hI, hv⟩, hf⟩
    have := ziter_for (body := fX1_take_B29 fl c (ci s) (ci i)) (fun k S' => (∃ F', zIA S' fn 64 F' ∧ ∀ i', i' < sz3 a b d s → ∀ k', k' < 16 → (i' < i ∨ (i' = i ∧ k' < k)) → F' (16 * i' + k') = ci (g (px s i' k'))) ∧ zFrm T S' (fun b => b = fn)) (fun r => ∃ S1, r = .inl (ci (i + 1), S1) ∧ (∃ F', zIA S1 fn 64 F' ∧ ∀ i', i' < i + 1 → ∀ k, k < 16 → F' (16 * i' + k) = ci (g (px s i' k))) ∧ zFrm T S1 (fun b => b = fn)) 16 ?_ ?_ 16 0 zF S' (by omega) (by rw [zF_eq]; omega) ⟨⟨F', hI, fun i' _ k' hk' hh => hv i' (by omega) k' hk'⟩, hf⟩
    · obtain ⟨r, q1, S1, rfl, q2⟩ := this
      refine ⟨S1, ?_, q2⟩
      unfold fX1_take_B17
      simp only []
      rw [zgI_ob (hf.ob (ne_oi oT iT) oT) rfl, Option.bind_some, if_neg (by rw [ci_le (by omega) (by omega)]; omega), cl_0]
      exact q1
    · rintro k S'' hk ⟨⟨F'', hI'', hv''⟩, hf''⟩
      obtain ⟨S1, a1, a2, a3⟩ := key S'' i k F'' hf'' hI'' hi hk
      refine ⟨S1, ?_, ⟨_, a2, fun i' hi' k' hk' hh => ?_⟩, hf''.tr a3⟩
      · unfold fX1_take_B29
        simp only []
        have o'' := hf''.ob (ne_oi oT iT) oT
        have c'' := hf''.cu (ne_oi cT'.1 iT) hn cT'
        have x5 : zcl S'' c 0 (fX0_numberInSlice c (ci s) (ci i) (ci k) S'') = some (ci (g (px s i k))) := by
          unfold fX0_numberInSlice
          rw [zcl_cu c'', zgR_ob c''.1 rfl, Option.bind_some, g_px hs hk, Option.bind_some, c_getAt c'' (px_lt (by omega) hk), Option.bind_some]
        rw [x5, Option.bind_some] at a1
        rw [if_neg (by rw [cl_16, ci_le (by omega) (by omega)]; omega), x5, Option.bind_some, a1, Option.bind_some, cl_1, ci_add]
      · unfold va_up
        by_cases hx : i' = i ∧ k' = k
        · rw [if_pos (by omega), hx.1, hx.2]
        · rw [if_neg (by omega)]; exact hv'' i' hi' k' hk' (by omega)
    · rintro S'' ⟨⟨F'', hI'', hv''⟩, hf''⟩
      refine ⟨.inl (ci (i + 1), S''), ?_, S'', rfl, ⟨F'', hI'', fun i' hi' k hk => hv'' i' (by omega) k hk (by omega)⟩, hf''⟩
      unfold fX1_take_B29
      simp only []
      rw [if_pos (by rw [cl_16, ci_le (by omega) (by omega)]; omega), cl_1, ci_add, zex_some]
  · rintro S' ⟨q, hf⟩
    refine ⟨S', ?_, q, hf⟩
    unfold fX1_take_B17
    simp only []
    rw [zgI_ob (hf.ob (ne_oi oT iT) oT) rfl, Option.bind_some, if_pos (by rw [ci_le (by omega) (by omega)]; omega), zex_some]
/-- the rank of a flattening -/
def rkF (p a b d : Nat) (g : Nat → Nat) (s : Nat) : Nat := (rkM p (sz3 a b d s) (fun i k => g (px s i k)) 16).1
theorem c_rankOf {S : ZS} {fl fn c n a b d q s p : Nat} {g : Nat → Nat} {x1 x2 : Int32} {F : Nat → Int32} (ho : zOb S fl 1 [.ref fn, .int x1, .int x2]) (hF : zIA S fn 64 F) (h : zCu S c n a b d q g) (hn : n ≠ fn) (hs : s < 3) (hz : szOK a b d) (hp : isP p) (hg : cOK p a b d g) : ∃ S1 y1 y2 F', fX1_rankOf fl c (ci s) (ci p) S = some (ci (rkF p a b d g s), S1) ∧ zOb S1 fl 1 [.ref fn, .int y1, .int y2] ∧ zIA S1 fn 64 F' ∧ zFrm S S1 (pFt fl fn) := by
  have hb := sz3_b hz (s := s)
  obtain ⟨S1, a1, a2, a3⟩ := c_take ho hF h hn hs hz hp hg
  obtain ⟨S2, b1, b2, b3⟩ := c_rankLoop a2
  have hr := (rel_all hp (M := fun i k => g (px s i k)) (R := sz3 a b d s) (fun i k hi hk => hg.lt (px_lt (by omega) hk)) 16 (Nat.le_refl 16)).1
  rw [hr] at b1
  obtain ⟨c1, _, _, F', c2, _⟩ := b2
  refine ⟨S2, _, _, F', ?_, c1, c2, a3.tr b3⟩
  unfold fX1_rankOf
  rw [zcl_ob ho, a1, Option.bind_some, b1]
  rfl
