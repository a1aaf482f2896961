/-! THE CLASS'S WAYS: taken out, joined, shrunk -/
theorem ziter_1 {σ ρ : Type} {body : σ → Option (σ ⊕ ρ)} {x y : σ} {n : Nat} (h : body x = some (.inl y)) : ziter body (n + 1) x = ziter body n y := by
  rw [ziter, h]
theorem ziter_0 {σ ρ : Type} {body : σ → Option (σ ⊕ ρ)} {x : σ} {r : ρ} {n : Nat} (h : body x = some (.inr r)) : ziter body (n + 1) x = some r := by
  rw [ziter, h]
theorem ziter_up {ρ : Type} {body : Int32 → Option (Int32 ⊕ ρ)} {r : ρ} {N : Nat} (i m : Nat) (him : i ≤ m) (hN : m - i < N) (h : ∀ j, i ≤ j → j < m → body (ci j) = some (.inl (ci (j + 1)))) (hm : body (ci m) = some (.inr r)) : ziter body N (ci i) = some r := by
  have := ziter_seq (body := body) (fun k => ci (i + k)) r (m - i) N hN (fun k hk => h (i + k) (by omega) (by omega)) (by rw [show i + (m - i) = m by omega]; exact hm)
  exact this
/-- the first below n that P holds of, else n -/
def lf (P : Nat → Bool) : Nat → Nat
  | 0 => 0
  | n + 1 => if lf P n < n then lf P n else if P n = true then n else n + 1
theorem lf_le (P : Nat → Bool) (n : Nat) : lf P n ≤ n := by
  induction n with
  | zero => exact Nat.le_refl _
  | succ n ih => unfold lf; split <;> (try split) <;> omega
theorem lf_no {P : Nat → Bool} {n j : Nat} (h : j < lf P n) : P j = false := by
  induction n with
  | zero => cases h
  | succ n ih =>
    unfold lf at h
    have hl := lf_le P n
    by_cases h1 : lf P n < n
    · rw [if_pos h1] at h; exact ih h
    · rw [if_neg h1] at h
      by_cases h2 : P n = true
      · rw [if_pos h2] at h; exact ih (by omega)
      · rw [if_neg h2] at h
        by_cases h3 : j < n
        · exact ih (by omega)
        · have : j = n := by omega
          subst this; exact (Bool.not_eq_true _).mp h2
theorem lf_yes {P : Nat → Bool} {n : Nat} (h : lf P n < n) : P (lf P n) = true := by
  induction n with
  | zero => cases h
  | succ n ih =>
    unfold lf at h ⊢
    by_cases h1 : lf P n < n
    · rw [if_pos h1]; exact ih h1
    · rw [if_neg h1] at h ⊢
      by_cases h2 : P n = true
      · rw [if_pos h2]; exact h2
      · rw [if_neg h2] at h; omega
theorem lf_eq {P : Nat → Bool} {n m : Nat} (hm : m ≤ n) (h0 : ∀ j, j < m → P j = false) (h1 : m < n → P m = true) : lf P n = m := by
  have hl := lf_le P n
  rcases Nat.lt_trichotomy (lf P n) m with h | h | h
  · have := lf_yes (P := P) (n := n) (by omega)
    rw [h0 _ h] at this; cases this
  · exact h
  · have := lf_no h
    rw [h1 (by omega)] at this; cases this
theorem lf_congr {P Q : Nat → Bool} {n : Nat} (h : ∀ j, j < n → P j = Q j) : lf P n = lf Q n := by
  have hl := lf_le Q n
  refine lf_eq hl (fun j hj => ?_) (fun hj => ?_)
  · rw [h j (by omega)]; exact lf_no hj
  · rw [h _ hj]; exact lf_yes hj
def fz (a b d k : Nat) (v : Nat → Nat → Nat → Nat) : Nat := lf (fun q => hz a b d v q) k
def fr (a b d k : Nat) (v : Nat → Nat → Nat → Nat) (q : Nat) : Nat := lf (fun r => decide (q < r) && decide (th a b d v q r ≠ 3)) k
def fj (a b d k : Nat) (v : Nat → Nat → Nat → Nat) : Nat := lf (fun q => decide (fr a b d k v q < k)) k
def vjoin (p a b d k : Nat) (v : Nat → Nat → Nat → Nat) : Nat → Nat → Nat → Nat :=
  vdel (vadd p v (fj a b d k v) (fr a b d k v (fj a b d k v)) (th a b d v (fj a b d k v) (fr a b d k v (fj a b d k v))) 1) (fr a b d k v (fj a b d k v))
def red1 (p a b d k : Nat) (v : Nat → Nat → Nat → Nat) : Option (Nat → Nat → Nat → Nat) :=
  if fz a b d k v < k then some (vdel v (fz a b d k v)) else if fj a b d k v < k then some (vjoin p a b d k v) else none
def red (p a b d : Nat) : Nat → (Nat → Nat → Nat → Nat) → Nat × (Nat → Nat → Nat → Nat)
  | 0, v => (0, v)
  | k + 1, v => match red1 p a b d (k + 1) v with
    | some v' => red p a b d k v'
    | none => (k + 1, v)
theorem g_takeOut {S : ZS} {w c n t p a b d sq k q : Nat} {g : Nat → Nat} {v : Nat → Nat → Nat → Nat} (h : zWy S w c n t p a b d sq k g v) (hq : q < k) : ∃ S1, fX4_takeOut w (ci q) S = some S1 ∧ zWy S1 w c n t p a b d sq (k - 1) g (vdel v q) ∧ zFrm S S1 (fun b => b = w ∨ b = t) := by
  obtain ⟨hp, hsz, hk, hw, hc, hv, W, hW, hWv⟩ := h
  let st : Nat → ZS := fun i => zwI S t 40 (fun x => ci (if q ≤ x ∧ x < q + i then W (x + 1) else W x))
  have hst : ∀ i, zIA (st i) t 40 (fun x => ci (if q ≤ x ∧ x < q + i then W (x + 1) else W x)) := fun i => zwI_self
  have hfr : ∀ i, zFrm S (st i) (fun b => b = t) := fun i => zFrm.wI
  have hwi : ∀ i, zOb (st i) w 4 [.ref c, .int (ci p), .ref t, .int (ci k)] := fun i => (hfr i).ob (ne_oi hw hW) hw
  have h0 : st 0 = S := by
    show zwI S t 40 _ = S
    rw [show (fun x => ci (if q ≤ x ∧ x < q + 0 then W (x + 1) else W x)) = fun x => ci (W x) from by funext x; rw [if_neg (by omega)]]
    exact zwI_same hW
  have hf1 : zFrm (st (k - 1 - q)) (zwO (st (k - 1 - q)) w 4 [.ref c, .int (ci p), .ref t, .int (ci (k - 1))]) (fun b => b = w) := zFrm.wO
  have hf2 : zFrm S (zwO (st (k - 1 - q)) w 4 [.ref c, .int (ci p), .ref t, .int (ci (k - 1))]) (fun b => b = w ∨ b = t) := ((hfr _).wk (fun _ => Or.inr)).tr (hf1.wk (fun _ => Or.inl))
  refine ⟨zwO (st (k - 1 - q)) w 4 [.ref c, .int (ci p), .ref t, .int (ci (k - 1))], ?_, ⟨hp, hsz, by omega, zwO_self, ?_, ?_, ?_⟩, hf2⟩
  · unfold fX4_takeOut
    have := ziter_seq (body := fX4_takeOut_B4 w) (fun i => (ci (q + 1 + i), st i)) (zwO (st (k - 1 - q)) w 4 [.ref c, .int (ci p), .ref t, .int (ci (k - 1))]) (k - 1 - q) zF (by rw [zF_eq]; omega) ?_ ?_
    · rw [cl_1, ci_add]
      have h9 : ((ci (q + 1), S) : Int32 × ZS) = (ci (q + 1 + 0), st 0) := by rw [h0]
      rw [h9]; exact this
    · intro i hi
      unfold fX4_takeOut_B4
      simp only []
      rw [zgI_ob (hwi i) rfl]
      simp only [Option.bind_some, Option.bind_none]
      rw [if_neg (by rw [ci_le (by omega) (by omega)]; omega), zgR_ob (hwi i) rfl]
      simp only [Option.bind_some, Option.bind_none]
      rw [g_get (hst i) (by omega) (by omega), if_pos (by omega), if_neg (by omega)]
      simp only [Option.bind_some, Option.bind_none]
      rw [cl_1, ci_sub (by omega), g_put _ (hst i) (by omega) (by omega), ci_add]
      simp only [Option.bind_some, Option.bind_none]
      congr 3
      show zwI (zwI S t 40 _) t 40 _ = zwI S t 40 _
      rw [zwI_2]
      congr 1
      funext x
      unfold va_up
      by_cases hx : x = q + 1 + i - 1
      · rw [if_pos hx, if_pos (by omega), show x + 1 = q + 1 + i by omega]
      · rw [if_neg hx]
        show ci (if q ≤ x ∧ x < q + i then W (x + 1) else W x) = _
        by_cases h8 : q ≤ x ∧ x < q + i
        · rw [if_pos h8, if_pos (by omega)]
        · rw [if_neg h8, if_neg (by omega)]
    · unfold fX4_takeOut_B4
      simp only []
      rw [zgI_ob (hwi _) rfl]
      simp only [Option.bind_some, Option.bind_none]
      rw [if_pos (by rw [ci_le (by omega) (by omega)]; omega), cl_1, ci_sub (by omega), zpF_ob _ (hwi _) (by simp)]
      rfl
  · exact hf2.cu (by rintro (hh | hh); exact ne_oo hc.1 hw (by omega) hh; exact ne_oi hc.1 hW hh) (by rintro (hh | hh); exact (ne_oi hw hc.2) hh.symm; exact ne_ii hc.2 hW (by omega) hh) hc
  · intro q' hq' s hs j hj
    unfold vdel
    by_cases h1 : q' < q
    · rw [if_pos h1]; exact hv q' (by omega) s hs j hj
    · rw [if_neg h1]; exact hv (q' + 1) (by omega) s hs j hj
  · refine ⟨_, hf1.ia (fun hh => ne_oi hw hW hh.symm) (hst _), ?_⟩
    intro q' hq'
    unfold vdel
    by_cases h1 : q' < q
    · rw [if_neg (by omega), if_pos h1]; exact hWv q' (by omega)
    · rw [if_pos (by omega), if_neg h1]; exact hWv (q' + 1) (by omega)
theorem zWy.kk {S : ZS} {w c n t p a b d sq k : Nat} {g : Nat → Nat} {v : Nat → Nat → Nat → Nat} (h : zWy S w c n t p a b d sq k g v) : k ≤ 40 := h.2.2.1
theorem g_takeOutZeros {S : ZS} {w c n t p a b d sq k : Nat} {g : Nat → Nat} {v : Nat → Nat → Nat → Nat} (h : zWy S w c n t p a b d sq k g v) :
    (fz a b d k v < k → ∃ S1, fX4_takeOutZeros w S = some (1, S1) ∧ zWy S1 w c n t p a b d sq (k - 1) g (vdel v (fz a b d k v)) ∧ zFrm S S1 (fun b => b = w ∨ b = t)) ∧ (¬ fz a b d k v < k → fX4_takeOutZeros w S = some (0, S)) := by
  have hk := h.kk
  have hle : fz a b d k v ≤ k := lf_le _ _
  have stp : ∀ j, 0 ≤ j → j < fz a b d k v → fX4_takeOutZeros_B2 w S (ci j) = some (.inl (ci (j + 1))) := by
    intro j _ hj
    unfold fX4_takeOutZeros_B2
    rw [zgI_ob h.wa rfl]
    simp only [Option.bind_some, Option.bind_none]
    rw [if_neg (by rw [ci_le (by omega) (by omega)]; omega), zcl_ob h.wa, g_hasZeros h (by omega)]
    have := lf_no hj
    simp only [Option.bind_some, Option.bind_none]
    rw [if_pos ((bI_0 _).mpr this), cl_1, ci_add]
  unfold fX4_takeOutZeros
  rw [cl_0]
  constructor
  · intro hlt
    obtain ⟨S1, f1, f2, f3⟩ := g_takeOut h hlt
    refine ⟨S1, ziter_up 0 (fz a b d k v) (by omega) (by rw [zF_eq]; omega) stp ?_, f2, f3⟩
    unfold fX4_takeOutZeros_B2
    rw [zgI_ob h.wa rfl]
    simp only [Option.bind_some, Option.bind_none]
    rw [if_neg (by rw [ci_le (by omega) (by omega)]; omega), zcl_ob h.wa, g_hasZeros h hlt]
    have := lf_yes (P := fun q => hz a b d v q) hlt
    simp only [Option.bind_some, Option.bind_none]
    rw [if_neg (by rw [bI_0]; intro hh; rw [show hz a b d v (fz a b d k v) = true from this] at hh; cases hh), zcl_ob h.wa, f1]
    rfl
  · intro hlt
    refine ziter_up 0 (fz a b d k v) (by omega) (by rw [zF_eq]; omega) stp ?_
    unfold fX4_takeOutZeros_B2
    rw [zgI_ob h.wa rfl]
    simp only [Option.bind_some, Option.bind_none]
    rw [if_pos (by rw [ci_le (by omega) (by omega)]; omega)]
    rfl
theorem tI_3 {x : Nat} (h : x ≤ 3) : tI x = (-1 : Int32) ↔ x = 3 := by
  have : x = 0 ∨ x = 1 ∨ x = 2 ∨ x = 3 := by omega
  rcases this with rfl | rfl | rfl | rfl <;> decide
theorem th_le (a b d : Nat) (v : Nat → Nat → Nat → Nat) (q r : Nat) : th a b d v q r ≤ 3 := by
  unfold th; split <;> (try split) <;> (try split) <;> omega
theorem g_joinProducts {S : ZS} {w c n t p a b d sq k : Nat} {g : Nat → Nat} {v : Nat → Nat → Nat → Nat} (h : zWy S w c n t p a b d sq k g v) :
    (fj a b d k v < k → ∃ S1, fX4_joinProducts w S = some (1, S1) ∧ zWy S1 w c n t p a b d sq (k - 1) g (vjoin p a b d k v) ∧ zFrm S S1 (fun b => b = w ∨ b = t)) ∧ (¬ fj a b d k v < k → fX4_joinProducts w S = some (0, S)) := by
  have hk := h.kk
  have hp := h.1.b
  have hle : fj a b d k v ≤ k := lf_le _ _
  have hler : ∀ q, fr a b d k v q ≤ k := fun q => lf_le _ _
  have inn : ∀ q, q < k → ∀ j, q + 1 ≤ j → j < fr a b d k v q → fX4_joinProducts_B14 w (ci q) S (ci j) = some (.inl (ci (j + 1))) := by
    intro q hq j hj0 hj
    have hr := hler q
    unfold fX4_joinProducts_B14
    rw [zgI_ob h.wa rfl]
    simp only [Option.bind_some, Option.bind_none]
    rw [if_neg (by rw [ci_le (by omega) (by omega)]; omega), zcl_ob h.wa, g_sideToJoin h (by omega) (by omega)]
    have h9 := lf_no hj
    have h8 : th a b d v q j = 3 := by
      simp only [decide_eq_true (show q < j by omega), Bool.true_and, decide_eq_false_iff_not, Decidable.not_not] at h9
      exact h9
    simp only [Option.bind_some, Option.bind_none]
    rw [if_pos ((tI_3 (th_le _ _ _ _ _ _)).mpr h8), cl_1, ci_add]
  have stp : ∀ q, 0 ≤ q → q < fj a b d k v → fX4_joinProducts_B2 w S (ci q) = some (.inl (ci (q + 1))) := by
    intro q _ hq
    have hnr : ¬ fr a b d k v q < k := by
      have := lf_no hq
      simp only [decide_eq_false_iff_not] at this
      exact this
    have hr := hler q
    unfold fX4_joinProducts_B2
    rw [zgI_ob h.wa rfl]
    simp only [Option.bind_some, Option.bind_none]
    rw [if_neg (by rw [ci_le (by omega) (by omega)]; omega), cl_1, ci_add]
    refine ziter_up (q + 1) k (by omega) (by rw [zF_eq]; omega) (fun j h1 h2 => inn q (by omega) j h1 (by omega)) ?_
    unfold fX4_joinProducts_B14
    rw [zgI_ob h.wa rfl]
    simp only [Option.bind_some, Option.bind_none]
    rw [if_pos (by rw [ci_le (by omega) (by omega)]; omega), cl_1, ci_add]
    rfl
  unfold fX4_joinProducts
  rw [cl_0]
  constructor
  · intro hlt
    have hy := lf_yes (P := fun q => decide (fr a b d k v q < k)) hlt
    have hyr : fr a b d k v (fj a b d k v) < k := of_decide_eq_true hy
    have hz2 := lf_yes (P := fun r => decide (fj a b d k v < r) && decide (th a b d v (fj a b d k v) r ≠ 3)) hyr
    rw [Bool.and_eq_true, decide_eq_true_eq, decide_eq_true_eq] at hz2
    have hz3 : fj a b d k v < fr a b d k v (fj a b d k v) := hz2.1
    have hz4 : th a b d v (fj a b d k v) (fr a b d k v (fj a b d k v)) ≠ 3 := hz2.2
    have hth := th_le a b d v (fj a b d k v) (fr a b d k v (fj a b d k v))
    obtain ⟨S1, f1, f2, f3⟩ := g_addVector h hlt hyr (s := th a b d v (fj a b d k v) (fr a b d k v (fj a b d k v))) (m := 1) (by omega) (by omega)
    obtain ⟨S2, g1, g2, g3⟩ := g_takeOut f2 hyr
    refine ⟨S2, ziter_up 0 (fj a b d k v) (by omega) (by rw [zF_eq]; omega) stp ?_, g2, (f3.wk (fun _ => Or.inr)).tr g3⟩
    unfold fX4_joinProducts_B2
    rw [zgI_ob h.wa rfl]
    simp only [Option.bind_some, Option.bind_none]
    rw [if_neg (by rw [ci_le (by omega) (by omega)]; omega), cl_1, ci_add]
    refine ziter_up (fj a b d k v + 1) (fr a b d k v (fj a b d k v)) (by omega) (by rw [zF_eq]; omega) (fun j h1 h2 => inn _ hlt j h1 (by omega)) ?_
    unfold fX4_joinProducts_B14
    rw [zgI_ob h.wa rfl]
    simp only [Option.bind_some, Option.bind_none]
    rw [if_neg (by rw [ci_le (by omega) (by omega)]; omega), zcl_ob h.wa, g_sideToJoin h (by omega) (by omega)]
    simp only [Option.bind_some, Option.bind_none]
    rw [if_neg (by rw [tI_3 hth]; exact hz4), zcl_ob h.wa, cl_1]
    rw [show tI (th a b d v (fj a b d k v) (fr a b d k v (fj a b d k v))) = ci (th a b d v (fj a b d k v) (fr a b d k v (fj a b d k v))) from by unfold tI; rw [if_neg hz4], f1]
    simp only [Option.bind_some, Option.bind_none]
    rw [zcl_ob f2.wa, g1]
    rfl
  · intro hlt
    refine ziter_up 0 (fj a b d k v) (by omega) (by rw [zF_eq]; omega) stp ?_
    unfold fX4_joinProducts_B2
    rw [zgI_ob h.wa rfl]
    simp only [Option.bind_some, Option.bind_none]
    rw [if_pos (by rw [ci_le (by omega) (by omega)]; omega)]
    rfl
theorem red_le (p a b d : Nat) : ∀ (k : Nat) (v : Nat → Nat → Nat → Nat), (red p a b d k v).1 ≤ k
  | 0, v => Nat.le_refl _
  | k + 1, v => by
    unfold red
    split
    · exact Nat.le_trans (red_le p a b d k _) (by omega)
    · exact Nat.le_refl _
theorem shrink_loop {w c n t p a b d sq B : Nat} {g : Nat → Nat} (hB : B ≤ 40) : ∀ (k : Nat) (v : Nat → Nat → Nat → Nat) (S : ZS) (N : Nat), k < N → k ≤ B → zWy S w c n t p a b d sq k g v → ∃ S1, ziter (fX4_shrink_B7 w (ci B)) N (ci (B - k), S) = some (ci (B - (red p a b d k v).1), S1) ∧ zWy S1 w c n t p a b d sq (red p a b d k v).1 g (red p a b d k v).2 ∧ zFrm S S1 (fun b => b = w ∨ b = t) := by
  intro k
  induction k with
  | zero =>
    intro v S N hN hkB h
    obtain ⟨N', rfl⟩ : ∃ N', N = N' + 1 := ⟨N - 1, by omega⟩
    refine ⟨S, ziter_0 ?_, h, zFrm.rf⟩
    unfold fX4_shrink_B7
    simp only []
    rw [if_pos (by rw [ci_le (by omega) (by omega)]; omega)]
    unfold fX4_shrink_J35
    rw [zgI_ob h.wa rfl]
    simp only [Option.bind_some, Option.bind_none]
    rw [ci_sub (by omega)]
    rfl
  | succ k ih =>
    intro v S N hN hkB h
    obtain ⟨N', rfl⟩ : ∃ N', N = N' + 1 := ⟨N - 1, by omega⟩
    obtain ⟨z1, z2⟩ := g_takeOutZeros h
    by_cases hz1 : fz a b d (k + 1) v < k + 1
    · obtain ⟨S1, f1, f2, f3⟩ := z1 hz1
      have hr : red p a b d (k + 1) v = red p a b d k (vdel v (fz a b d (k + 1) v)) := by
        rw [red]; unfold red1; rw [if_pos hz1]
      rw [hr]
      obtain ⟨S2, g1, g2, g3⟩ := ih _ S1 N' (by omega) (by omega) f2
      refine ⟨S2, ?_, g2, f3.tr g3⟩
      rw [ziter_1 (y := (ci (B - k), S1)), g1]
      unfold fX4_shrink_B7
      simp only []
      rw [if_neg (by rw [ci_le (by omega) (by omega)]; omega), zcl_ob h.wa, f1]
      simp only [Option.bind_some, Option.bind_none]
      rw [if_neg (by decide)]
      unfold fX4_shrink_J29
      rw [cl_1, ci_add, show B - (k + 1) + 1 = B - k by omega]
    · have f1 := z2 hz1
      obtain ⟨j1, j2⟩ := g_joinProducts h
      by_cases hj : fj a b d (k + 1) v < k + 1
      · obtain ⟨S1, e1, e2, e3⟩ := j1 hj
        have hr : red p a b d (k + 1) v = red p a b d k (vjoin p a b d (k + 1) v) := by
          rw [red]; unfold red1; rw [if_neg hz1, if_pos hj]
        rw [hr]
        obtain ⟨S2, g1, g2, g3⟩ := ih _ S1 N' (by omega) (by omega) e2
        refine ⟨S2, ?_, g2, e3.tr g3⟩
        rw [ziter_1 (y := (ci (B - k), S1)), g1]
        unfold fX4_shrink_B7
        simp only []
        rw [if_neg (by rw [ci_le (by omega) (by omega)]; omega), zcl_ob h.wa, f1]
        simp only [Option.bind_some, Option.bind_none]
        rw [if_pos trivial, zcl_ob h.wa, e1]
        simp only [Option.bind_some, Option.bind_none]
        rw [if_neg (by decide)]
        unfold fX4_shrink_J29
        rw [cl_1, ci_add, show B - (k + 1) + 1 = B - k by omega]
      · have e1 := j2 hj
        have hr : red p a b d (k + 1) v = (k + 1, v) := by
          rw [red]; unfold red1; rw [if_neg hz1, if_neg hj]
        rw [hr]
        refine ⟨S, ziter_0 ?_, h, zFrm.rf⟩
        unfold fX4_shrink_B7
        simp only []
        rw [if_neg (by rw [ci_le (by omega) (by omega)]; omega), zcl_ob h.wa, f1]
        simp only [Option.bind_some, Option.bind_none]
        rw [if_pos trivial, zcl_ob h.wa, e1]
        simp only [Option.bind_some, Option.bind_none]
        rw [if_pos trivial]
        unfold fX4_shrink_J35
        rw [zgI_ob h.wa rfl]
        simp only [Option.bind_some, Option.bind_none]
        rw [ci_sub (by omega)]
        rfl
theorem g_shrink {S : ZS} {w c n t p a b d sq k : Nat} {g : Nat → Nat} {v : Nat → Nat → Nat → Nat} (h : zWy S w c n t p a b d sq k g v) : ∃ S1, fX4_shrink w S = some (ci (k - (red p a b d k v).1), S1) ∧ zWy S1 w c n t p a b d sq (red p a b d k v).1 g (red p a b d k v).2 ∧ zFrm S S1 (fun b => b = w ∨ b = t) := by
  have hk := h.kk
  obtain ⟨S1, f1, f2, f3⟩ := shrink_loop (B := k) hk k v S zF (by rw [zF_eq]; omega) (Nat.le_refl _) h
  refine ⟨S1, ?_, f2, f3⟩
  unfold fX4_shrink
  rw [zgI_ob h.wa rfl]
  simp only [Option.bind_some, Option.bind_none]
  rw [Nat.sub_self] at f1
  rw [cl_0]
  exact f1
