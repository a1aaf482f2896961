/-! LAW CASES 18, 19: no rank is more than the fewest -/
theorem xr_cg {K K' : Nat → Nat → Bool} {c c' : Nat → Bool} {t : Nat} : ∀ n, (∀ e, e < n → (c e && K e t) = (c' e && K' e t)) → xr K c n t = xr K' c' n t := by
  intro n
  induction n with
  | zero => intro _; rfl
  | succ n ih =>
    intro h
    show xor (xr K c n t) (c n && K n t) = xor (xr K' c' n t) (c' n && K' n t)
    rw [ih (fun e he => h e (by omega)), h n (by omega)]
theorem xr_lin {K : Nat → Nat → Bool} {c c' : Nat → Bool} {u : Bool} {t : Nat} : ∀ n, xr K (fun e => xor (c e) (u && c' e)) n t = xor (xr K c n t) (u && xr K c' n t) := by
  intro n
  induction n with
  | zero => show false = xor false (u && false); cases u <;> rfl
  | succ n ih =>
    show xor (xr K (fun e => xor (c e) (u && c' e)) n t) (xor (c n) (u && c' n) && K n t) = xor (xor (xr K c n t) (c n && K n t)) (u && xor (xr K c' n t) (c' n && K n t))
    rw [ih]
    cases xr K c n t <;> cases xr K c' n t <;> cases u <;> cases c n <;> cases c' n <;> cases K n t <;> rfl
theorem xr_red {V : Nat → Nat → Bool} {v : Nat → Bool} {c : Nat → Bool} {k t : Nat} : ∀ n, xr (fun e t => xor (V e t) (V e k && v t)) c n t = xor (xr V c n t) (xr V c n k && v t) := by
  intro n
  induction n with
  | zero => show false = xor false (false && v t); cases v t <;> rfl
  | succ n ih =>
    show xor (xr (fun e t => xor (V e t) (V e k && v t)) c n t) (c n && xor (V n t) (V n k && v t)) = xor (xor (xr V c n t) (c n && V n t)) (xor (xr V c n k) (c n && V n k) && v t)
    rw [ih]
    cases xr V c n t <;> cases xr V c n k <;> cases v t <;> cases c n <;> cases V n t <;> cases V n k <;> rfl
theorem xr_has {V : Nat → Nat → Bool} {c : Nat → Bool} {k : Nat} : ∀ n, xr V c n k = true → ∃ j, j < n ∧ V j k = true := by
  intro n
  induction n with
  | zero => intro h; exact absurd (show false = true from h) (by decide)
  | succ n ih =>
    intro h
    have h' : xor (xr V c n k) (c n && V n k) = true := h
    by_cases h1 : V n k = true
    · exact ⟨n, by omega, h1⟩
    · have h2 : V n k = false := by revert h1; cases V n k <;> decide
      rw [h2, Bool.and_false, Bool.xor_false] at h'
      obtain ⟨j, j1, j2⟩ := ih h'
      exact ⟨j, by omega, j2⟩
theorem xr_upd {K K' : Nat → Nat → Bool} {c c' : Nat → Bool} {j t : Nat} (h : ∀ e, e ≠ j → c e = c' e ∧ K e t = K' e t) : ∀ n, j < n → xr K' c' n t = xor (xor (xr K c n t) (c j && K j t)) (c' j && K' j t) := by
  intro n
  induction n with
  | zero => intro hj; omega
  | succ n ih =>
    intro hj
    show xor (xr K' c' n t) (c' n && K' n t) = xor (xor (xor (xr K c n t) (c n && K n t)) (c j && K j t)) (c' j && K' j t)
    by_cases hn : n = j
    · subst hn
      rw [xr_cg (K := K') (c := c') (K' := K) (c' := c) n (fun e he => by obtain ⟨e1, e2⟩ := h e (by omega); rw [e1, e2])]
      cases xr K c n t <;> cases (c n && K n t) <;> cases (c' n && K' n t) <;> rfl
    · rw [ih (by omega)]
      obtain ⟨e1, e2⟩ := h n hn
      rw [e1, e2]
      cases xr K c n t <;> cases (c' n && K' n t) <;> cases (c j && K j t) <;> cases (c' j && K' j t) <;> rfl
/-- one vector that is none is left out -/
theorem xr_drop {V : Nat → Nat → Bool} {j n : Nat} (hj : j ≤ n) (h0 : ∀ t, V j t = false) (c : Nat → Bool) (t : Nat) : xr V c (n + 1) t = xr (fun e => if e = j then V n else V e) (fun e => if e = j then c n else c e) n t := by
  show xor (xr V c n t) (c n && V n t) = _
  by_cases hn : j = n
  · subst hn
    rw [h0, Bool.and_false, Bool.xor_false]
    exact xr_cg j (fun e he => by
      show (c e && V e t) = ((if e = j then c j else c e) && (if e = j then V j else V e) t)
      rw [if_neg (by omega), if_neg (by omega)])
  · rw [xr_upd (K := V) (c := c) (K' := fun e => if e = j then V n else V e) (c' := fun e => if e = j then c n else c e) (j := j) (fun e he => by
      show c e = (if e = j then c n else c e) ∧ V e t = (if e = j then V n else V e) t
      rw [if_neg he, if_neg he]; exact ⟨rfl, rfl⟩) n (by omega)]
    show _ = xor (xor (xr V c n t) (c j && V j t)) ((if j = j then c n else c j) && (if j = j then V n else V j) t)
    rw [h0, Bool.and_false, Bool.xor_false, if_pos rfl, if_pos rfl]
/-- the rows from r on are sums of m vectors -/
def SpR (R r m : Nat) (N : Nat → Nat → Nat) : Prop := ∃ V : Nat → Nat → Bool, ∀ i, r ≤ i → i < R → ∃ e : Nat → Bool, ∀ k, k < 16 → N i k < 2 ∧ decide (N i k = 1) = xr V e m k
theorem mcl2 : ∀ x, x < 2 → ∀ mi, mi < 2 → ∀ y, y < 2 → mcl 2 x mi 1 y < 2 ∧ decide (mcl 2 x mi 1 y = 1) = xor (decide (x = 1)) (decide (mi = 1) && decide (y = 1)) := by decide
theorem sp_step {R r c m D : Nat} {N : Nat → Nat → Nat} (hc : c < 16) (hr : r ≤ R) (hm : m + r = D) (h : SpR R r m N) : ∃ m', m' + (stM1 2 R c (r, N)).1 = D ∧ SpR R (stM1 2 R c (r, N)).1 m' (stM1 2 R c (r, N)).2 := by
  obtain ⟨V, hV⟩ := h
  obtain ⟨q1, q2, q3, q4⟩ := pv_b (M := N) (c := c) (R - r) r
  unfold stM1
  simp only []
  obtain ⟨q, hqe⟩ : ∃ q, q = pv N c (R - r) r := ⟨_, rfl⟩
  rw [← hqe] at q1 q2 q3 q4 ⊢
  by_cases hf : q < R
  · rw [if_pos hf]
    have hM := q3 (by omega)
    obtain ⟨eq, hq⟩ := hV q q1 hf
    have l0 := (hq c hc).1
    have l1 : N q c = 1 := by omega
    have hx : xr V eq m c = true := by rw [← (hq c hc).2, l1]; rfl
    obtain ⟨j, hj, hjc⟩ := xr_has m hx
    obtain ⟨n, rfl⟩ : ∃ n, m = n + 1 := ⟨m - 1, by omega⟩
    refine ⟨n, by show n + (r + 1) = D; omega, fun e => if e = j then (fun t => xor (V n t) (V n c && V j t)) else (fun t => xor (V e t) (V e c && V j t)), fun i h1 h2 => ?_⟩
    have h1' : r + 1 ≤ i := h1
    have gen : ∀ row : Nat → Nat, (∃ e : Nat → Bool, ∀ k, k < 16 → row k < 2 ∧ decide (row k = 1) = xr V e (n + 1) k) → ∃ e : Nat → Bool, ∀ k, k < 16 → mcl 2 (row k) (row c) (N q c) (N q k) < 2 ∧ decide (mcl 2 (row k) (row c) (N q c) (N q k) = 1) = xr (fun e => if e = j then (fun t => xor (V n t) (V n c && V j t)) else (fun t => xor (V e t) (V e c && V j t))) e n k := by
      rintro row ⟨er, hrow⟩
      have sum : ∀ k, k < 16 → xr V (fun e => xor (er e) (decide (row c = 1) && eq e)) (n + 1) k = xor (decide (row k = 1)) (decide (row c = 1) && decide (N q k = 1)) := fun k hk => by
        rw [xr_lin, ← (hrow k hk).2, ← (hq k hk).2]
      have s0 := sum c hc
      rw [show decide (N q c = 1) = true by rw [l1]; rfl] at s0
      have s1 : xr V (fun e => xor (er e) (decide (row c = 1) && eq e)) (n + 1) c = false := by
        rw [s0]; cases decide (row c = 1) <;> rfl
      refine ⟨fun e => if e = j then xor (er n) (decide (row c = 1) && eq n) else xor (er e) (decide (row c = 1) && eq e), fun k hk => ?_⟩
      have m2 := mcl2 (row k) (hrow k hk).1 (row c) (hrow c hc).1 (N q k) (hq k hk).1
      rw [l1]
      refine ⟨m2.1, ?_⟩
      rw [m2.2, ← sum k hk]
      have d := xr_drop (V := fun e t => xor (V e t) (V e c && V j t)) (j := j) (n := n) (by omega) (fun t => by
        show xor (V j t) (V j c && V j t) = false
        rw [hjc]; cases V j t <;> rfl) (fun e => xor (er e) (decide (row c = 1) && eq e)) k
      rw [xr_red, s1, Bool.false_and, Bool.xor_false] at d
      exact d
    have row : ∀ k, clr 2 R (swp N q r) r c i k = mcl 2 (swp N q r i k) (swp N q r i c) (N q c) (N q k) := fun k => by
      have s2 : swp N q r r = N q := by funext k; exact if_pos rfl
      unfold clr
      rw [s2, if_pos ⟨by omega, h2⟩]
    by_cases hiq : i = q
    · have w2 : swp N q r i = N r := by funext k; unfold swp; rw [if_neg (by omega), if_pos hiq]
      obtain ⟨e, he⟩ := gen (N r) (hV r (Nat.le_refl r) (by omega))
      exact ⟨e, fun k hk => by
        show clr 2 R (swp N q r) r c i k < 2 ∧ decide (clr 2 R (swp N q r) r c i k = 1) = _
        rw [row k, w2]; exact he k hk⟩
    · have w2 : swp N q r i = N i := by funext k; unfold swp; rw [if_neg (by omega), if_neg hiq]
      obtain ⟨e, he⟩ := gen (N i) (hV i (by omega) h2)
      exact ⟨e, fun k hk => by
        show clr 2 R (swp N q r) r c i k < 2 ∧ decide (clr 2 R (swp N q r) r c i k = 1) = _
        rw [row k, w2]; exact he k hk⟩
  · rw [if_neg hf]
    exact ⟨m, hm, V, hV⟩
theorem sp_all {R D : Nat} {M : Nat → Nat → Nat} (h : SpR R 0 D M) : ∀ c, c ≤ 16 → ∃ m, m + (rkM 2 R M c).1 = D ∧ SpR R (rkM 2 R M c).1 m (rkM 2 R M c).2 := by
  intro c
  induction c with
  | zero => intro _; exact ⟨D, rfl, h⟩
  | succ c ih =>
    intro hc
    obtain ⟨m, h1, h2⟩ := ih (by omega)
    exact sp_step (show c < 16 by omega) (rkM_le c) h1 h2
/-- the cube's number at i, j, k, or none -/
def cell (a b d : Nat) (T : Nat → Bool) (i j k : Nat) : Bool := (decide (i < a) && (decide (j < b) && decide (k < d))) && T ((i * b + j) * d + k)
def rowT (a b d s : Nat) (T : Nat → Bool) (x t : Nat) : Bool := if s = 0 then cell a b d T x (t / 4) (t % 4) else if s = 1 then cell a b d T (t / 4) x (t % 4) else cell a b d T (t / 4) (t % 4) x
theorem cell_xt {a b d i j k : Nat} {T U : Nat → Bool} : cell a b d (xt T U) i j k = xor (cell a b d T i j k) (cell a b d U i j k) := by
  unfold cell xt
  cases (decide (i < a) && (decide (j < b) && decide (k < d))) <;> cases T ((i * b + j) * d + k) <;> cases U ((i * b + j) * d + k) <;> rfl
theorem rowT_xt {a b d s x t : Nat} {T U : Nat → Bool} : rowT a b d s (xt T U) x t = xor (rowT a b d s T x t) (rowT a b d s U x t) := by
  unfold rowT
  split
  · exact cell_xt
  · split
    · exact cell_xt
    · exact cell_xt
theorem cell_sT {a b d i j k : Nat} {x y z : Nat → Bool} : cell a b d (sT b d x y z) i j k = ((decide (i < a) && x i) && ((decide (j < b) && y j) && (decide (k < d) && z k))) := by
  unfold cell
  by_cases h2 : j < b
  · by_cases h3 : k < d
    · unfold sT
      rw [md_div h3, md_mod h3, md_div h2, md_mod h2, decide_eq_true h2, decide_eq_true h3]
      cases decide (i < a) <;> cases x i <;> cases y j <;> cases z k <;> rfl
    · rw [decide_eq_false h3]
      cases decide (i < a) <;> cases decide (j < b) <;> cases x i <;> cases y j <;> rfl
  · rw [decide_eq_false h2]
    cases decide (i < a) <;> cases decide (k < d) <;> cases x i <;> rfl
theorem rowT_sT {a b d s : Nat} {x y z : Nat → Bool} : ∃ u v : Nat → Bool, ∀ i t, rowT a b d s (sT b d x y z) i t = (u i && v t) := by
  by_cases h0 : s = 0
  · refine ⟨fun i => decide (i < a) && x i, fun t => (decide (t / 4 < b) && y (t / 4)) && (decide (t % 4 < d) && z (t % 4)), fun i t => ?_⟩
    unfold rowT
    rw [if_pos h0, cell_sT]
  · by_cases h1 : s = 1
    · refine ⟨fun i => decide (i < b) && y i, fun t => (decide (t / 4 < a) && x (t / 4)) && (decide (t % 4 < d) && z (t % 4)), fun i t => ?_⟩
      unfold rowT
      rw [if_neg h0, if_pos h1, cell_sT]
      show (decide (t / 4 < a) && x (t / 4) && (decide (i < b) && y i && (decide (t % 4 < d) && z (t % 4)))) = (decide (i < b) && y i && (decide (t / 4 < a) && x (t / 4) && (decide (t % 4 < d) && z (t % 4))))
      cases (decide (t / 4 < a) && x (t / 4)) <;> cases (decide (i < b) && y i) <;> cases (decide (t % 4 < d) && z (t % 4)) <;> rfl
    · refine ⟨fun i => decide (i < d) && z i, fun t => (decide (t / 4 < a) && x (t / 4)) && (decide (t % 4 < b) && y (t % 4)), fun i t => ?_⟩
      unfold rowT
      rw [if_neg h0, if_neg h1, cell_sT]
      show (decide (t / 4 < a) && x (t / 4) && (decide (t % 4 < b) && y (t % 4) && (decide (i < d) && z i))) = (decide (i < d) && z i && (decide (t / 4 < a) && x (t / 4) && (decide (t % 4 < b) && y (t % 4))))
      cases (decide (t / 4 < a) && x (t / 4)) <;> cases (decide (i < d) && z i) <;> cases (decide (t % 4 < b) && y (t % 4)) <;> rfl
theorem cell_0 {a b d i j k : Nat} {T : Nat → Bool} (h : ∀ t, t < a * b * d → T t = false) : cell a b d T i j k = false := by
  unfold cell
  by_cases h1 : i < a
  · by_cases h2 : j < b
    · by_cases h3 : k < d
      · rw [h _ (lt_mul (lt_mul h1 h2) h3), Bool.and_false]
      · rw [decide_eq_false h3, Bool.and_false, Bool.and_false, Bool.false_and]
    · rw [decide_eq_false h2, Bool.false_and, Bool.and_false, Bool.false_and]
  · rw [decide_eq_false h1, Bool.false_and, Bool.false_and]
theorem rowT_0 {a b d s x t : Nat} {T : Nat → Bool} (h : ∀ t, t < a * b * d → T t = false) : rowT a b d s T x t = false := by
  unfold rowT
  split
  · exact cell_0 h
  · split
    · exact cell_0 h
    · exact cell_0 h
theorem rows_of {a b d s : Nat} : ∀ n T, Rch a b d n T → ∃ V : Nat → Nat → Bool, ∀ i, ∃ e : Nat → Bool, ∀ k, rowT a b d s T i k = xr V e n k := by
  intro n
  induction n with
  | zero => intro T h; exact ⟨fun _ _ => false, fun i => ⟨fun _ => false, fun k => rowT_0 h⟩⟩
  | succ n ih =>
    rintro T ⟨x, y, z, _, _, _, h⟩
    obtain ⟨V, hV⟩ := ih _ h
    obtain ⟨u, v, huv⟩ := rowT_sT (a := a) (b := b) (d := d) (s := s) (x := x) (y := y) (z := z)
    refine ⟨fun e => if e = n then v else V e, fun i => ?_⟩
    obtain ⟨e, he⟩ := hV i
    refine ⟨fun e' => if e' = n then u i else e e', fun k => ?_⟩
    show _ = xor (xr (fun e => if e = n then v else V e) (fun e' => if e' = n then u i else e e') n k) ((if n = n then u i else e n) && (if n = n then v else V n) k)
    rw [if_pos rfl, if_pos rfl, xr_cg (K := fun e => if e = n then v else V e) (c := fun e' => if e' = n then u i else e e') (K' := V) (c' := e) n (fun e' he' => by
      show ((if e' = n then u i else e e') && (if e' = n then v else V e') k) = _
      rw [if_neg (by omega), if_neg (by omega)]), ← he k, rowT_xt, huv]
    cases rowT a b d s T i k <;> cases (u i && v k) <;> rfl
theorem cell_g {a b d i j k : Nat} {g : Nat → Nat} (hg : cOK 2 a b d g) (hi : i < 4) (hj : j < 4) (hk : k < 4) : cell a b d (tGc b d g) i j k = decide (g (ix i j k) = 1) := by
  unfold cell
  by_cases h : i < a ∧ j < b ∧ k < d
  · obtain ⟨h1, h2, h3⟩ := h
    rw [tGc_at h2 h3, decide_eq_true h1, decide_eq_true h2, decide_eq_true h3]; rfl
  · rw [hg.2 i j k hi hj hk h]
    have : (decide (i < a) && (decide (j < b) && decide (k < d))) = false := by
      apply Bool.eq_false_iff.mpr
      intro hh
      rw [Bool.and_eq_true, Bool.and_eq_true, decide_eq_true_eq, decide_eq_true_eq, decide_eq_true_eq] at hh
      exact h hh
    rw [this]; rfl
theorem rowT_g {a b d s x t : Nat} {g : Nat → Nat} (hg : cOK 2 a b d g) (hx : x < 4) (ht : t < 16) : rowT a b d s (tGc b d g) x t = decide (g (px s x t) = 1) := by
  have t1 : t / 4 < 4 := by omega
  have t2 : t % 4 < 4 := by omega
  unfold rowT px
  split
  · exact cell_g hg hx t1 t2
  · split
    · exact cell_g hg t1 hx t2
    · exact cell_g hg t1 t2 hx
theorem rk_fewest {a b d D s : Nat} {g : Nat → Nat} (hz : szOK a b d) (hg : cOK 2 a b d g) (h : Rch a b d D (tGc b d g)) : rkF 2 a b d g s ≤ D := by
  have hb := sz3_b hz (s := s)
  obtain ⟨V, hV⟩ := rows_of (s := s) D _ h
  have sp : SpR (sz3 a b d s) 0 D (fun i k => g (px s i k)) := ⟨V, fun i _ h2 => by
    obtain ⟨e, he⟩ := hV i
    exact ⟨e, fun k hk => ⟨hg.1 _ (px_lt (by omega) hk), by
      show decide (g (px s i k) = 1) = _
      rw [← he k, rowT_g hg (by omega) hk]⟩⟩⟩
  obtain ⟨m, h1, _⟩ := sp_all sp 16 (Nat.le_refl _)
  show (rkM 2 (sz3 a b d s) (fun i k => g (px s i k)) 16).1 ≤ D
  omega
theorem bd_fewest {a b d D : Nat} {g : Nat → Nat} (hz : szOK a b d) (hg : cOK 2 a b d g) (h : Rch a b d D (tGc b d g)) : bdF 2 a b d g ≤ D := by
  have st : ∀ t s, t ≤ D → bdS 2 a b d g t s ≤ D := fun t s ht => by
    have := rk_fewest (s := s) hz hg h
    unfold bdS
    split <;> omega
  exact st _ 2 (st _ 1 (st 0 0 (Nat.zero_le _)))
