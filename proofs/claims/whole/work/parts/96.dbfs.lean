/-! LAW CASES 18, 19: the breadth-first search, abstractly -/
def tb (x : Nat) : Nat → Bool := fun i => x.testBit i
theorem tb_msk {N : Nat} {T : Nat → Bool} {t : Nat} (ht : t < N) : tb (msk N T) t = T t := by
  unfold tb
  rw [msk_bit, decide_eq_true ht, Bool.true_and]
theorem tb_hi {N x : Nat} (hx : x < 2 ^ N) {t : Nat} (ht : N ≤ t) : tb x t = false := Nat.testBit_lt_two_pow (Nat.lt_of_lt_of_le hx (Nat.pow_le_pow_right (by omega) ht))
theorem tb_zero {N x : Nat} (hx : x < 2 ^ N) (h : ∀ t, t < N → tb x t = false) : x = 0 := Nat.eq_of_testBit_eq (fun i => by
  rw [Nat.zero_testBit]
  by_cases hi : i < N
  · exact h i hi
  · exact tb_hi hx (by omega))
theorem tb_nz {n x : Nat} (h0 : 0 < x) (hx : x < 2 ^ n) : nzv n (tb x) := by
  apply Classical.byContradiction
  intro hh
  have := tb_zero hx (fun t ht => by
    cases hb : tb x t with
    | false => rfl
    | true => exact absurd ⟨t, ht, hb⟩ hh)
  omega
/-- the singles, as numbers -/
def sgN (a b d one two three : Nat) : Nat := msk (a * b * d) (sT b d (tb one) (tb two) (tb three))
def SG (a b d s : Nat) : Prop := ∃ one two three, (0 < one ∧ one < 2 ^ a) ∧ (0 < two ∧ two < 2 ^ b) ∧ (0 < three ∧ three < 2 ^ d) ∧ s = sgN a b d one two three
theorem SG_of {a b d : Nat} {x y z : Nat → Bool} (hb : 1 ≤ b) (hd : 1 ≤ d) (h1 : nzv a x) (h2 : nzv b y) (h3 : nzv d z) : SG a b d (msk (a * b * d) (sT b d x y z)) := by
  have pos : ∀ n (u : Nat → Bool), nzv n u → 0 < msk n u := fun n u ⟨i, hi, hu⟩ => by
    apply Classical.byContradiction
    intro hh
    have h0 : msk n u = 0 := by omega
    have := tb_msk (N := n) (T := u) hi
    rw [h0, hu] at this
    unfold tb at this
    rw [Nat.zero_testBit] at this
    cases this
  refine ⟨msk a x, msk b y, msk d z, ⟨pos a x h1, msk_lt⟩, ⟨pos b y h2, msk_lt⟩, ⟨pos d z h3, msk_lt⟩, ?_⟩
  exact msk_congr (sT_cg hb hd (fun i hi => (tb_msk hi).symm) (fun i hi => (tb_msk hi).symm) (fun i hi => (tb_msk hi).symm))
theorem xor_lt {N x y : Nat} (hx : x < 2 ^ N) (hy : y < 2 ^ N) : x ^^^ y < 2 ^ N := Nat.xor_lt_two_pow hx hy
theorem sgN_lt {a b d one two three : Nat} : sgN a b d one two three < 2 ^ (a * b * d) := msk_lt
theorem tb_xor {x s : Nat} : tb (x ^^^ s) = xt (tb x) (tb s) := by
  funext t
  unfold tb xt
  rw [Nat.testBit_xor]
theorem Rch_step {a b d n x one two three : Nat} (h1 : 0 < one ∧ one < 2 ^ a) (h2 : 0 < two ∧ two < 2 ^ b) (h3 : 0 < three ∧ three < 2 ^ d) (h : Rch a b d n (tb x)) : Rch a b d (n + 1) (tb (x ^^^ sgN a b d one two three)) := by
  refine ⟨tb one, tb two, tb three, tb_nz h1.1 h1.2, tb_nz h2.1 h2.2, tb_nz h3.1 h3.2, Rch_cg n _ _ (fun t ht => ?_) h⟩
  rw [tb_xor]
  unfold xt sgN
  rw [tb_msk ht]
  cases tb x t <;> cases sT b d (tb one) (tb two) (tb three) t <;> rfl
def kn (fr : Nat → Nat) (x : Nat) : Nat := if fr x = 0 then 0 else 1
/-- the search's invariant: what is behind head h is closed -/
def BI (a b d : Nat) (fr q dd : Nat → Nat) (L h : Nat) : Prop :=
  L = sm (2 ^ (a * b * d)) (kn fr) ∧ (∀ i, i < L → q i < 2 ^ (a * b * d) ∧ fr (q i) = dd i + 1) ∧ (∀ x, x < 2 ^ (a * b * d) → fr x ≠ 0 → ∃ i, i < L ∧ q i = x) ∧ (∀ i j, i ≤ j → j < L → dd i ≤ dd j) ∧ (∀ i, i < L → Rch a b d (dd i) (tb (q i))) ∧ (0 < L ∧ q 0 = 0 ∧ dd 0 = 0) ∧ (∀ i, i < h → i < L → ∀ s, SG a b d s → fr (q i ^^^ s) ≠ 0 ∧ fr (q i ^^^ s) ≤ dd i + 2) ∧ (h < L → ∀ i, i < L → dd i ≤ dd h + 1)
theorem BI_L {a b d L h : Nat} {fr q dd : Nat → Nat} (B : BI a b d fr q dd L h) {x : Nat} (hx : x < 2 ^ (a * b * d)) (h0 : fr x = 0) : L < 2 ^ (a * b * d) := by
  rw [B.1]
  have h1 : ∀ n, x < n → sm n (kn fr) + 1 ≤ n := by
    intro n
    induction n with
    | zero => intro h; omega
    | succ n ih =>
      intro h
      have e : sm (n + 1) (kn fr) = sm n (kn fr) + kn fr n := rfl
      have hk : ∀ y, kn fr y ≤ 1 := fun y => by unfold kn; split <;> omega
      rw [e]
      by_cases hn : x = n
      · have hs := sm_le (n := n) (b := 1) (f := kn fr) (fun k _ => hk k)
        have : kn fr n = 0 := by unfold kn; rw [← hn, if_pos h0]
        omega
      · have := ih (by omega)
        have := hk n
        omega
  have := h1 _ hx
  omega
theorem sm_upd {n x : Nat} {f g : Nat → Nat} (hx : x < n) (h0 : f x = 0) (h1 : g x = 1) (hg : ∀ y, y ≠ x → g y = f y) : sm n g = sm n f + 1 := by
  have e : sm n g = sm n (fun k => f k + (if k = x then 1 else 0)) := sm_congr (fun k _ => by
    by_cases hk : k = x
    · rw [hk, h1, h0, if_pos rfl]
    · rw [hg k hk, if_neg hk, Nat.add_zero])
  rw [e, sm_add, sm_single hx]
/-- learning of a neighbour of head h -/
theorem BI_learn {a b d L h one two three : Nat} {fr q dd : Nat → Nat} (B : BI a b d fr q dd L h) (hL : h < L) (h1 : 0 < one ∧ one < 2 ^ a) (h2 : 0 < two ∧ two < 2 ^ b) (h3 : 0 < three ∧ three < 2 ^ d) (h0 : fr (q h ^^^ sgN a b d one two three) = 0) : BI a b d (va_up fr (q h ^^^ sgN a b d one two three) (dd h + 2)) (va_up q L (q h ^^^ sgN a b d one two three)) (va_up dd L (dd h + 1)) (L + 1) h := by
  obtain ⟨j1, j2, j3, j4, j5, j6, j7, j8⟩ := B
  have hto := xor_lt (j2 h hL).1 (sgN_lt (a := a) (b := b) (d := d) (one := one) (two := two) (three := three))
  have hr := Rch_step h1 h2 h3 (j5 h hL)
  obtain ⟨w, hw⟩ : ∃ w, w = q h ^^^ sgN a b d one two three := ⟨_, rfl⟩
  rw [← hw] at hto hr h0 ⊢
  have qne : ∀ i, i < L → q i ≠ w := fun i hi hh => by
    have := (j2 i hi).2
    rw [hh, h0] at this; omega
  have qo : ∀ i, i < L → va_up q L w i = q i := fun i hi => va_up_ne _ _ (by omega)
  have do' : ∀ i, i < L → va_up dd L (dd h + 1) i = dd i := fun i hi => va_up_ne _ _ (by omega)
  refine ⟨?_, fun i hi => ?_, fun x hx hfx => ?_, fun i j hij hj => ?_, fun i hi => ?_, ⟨by omega, by rw [qo 0 j6.1]; exact j6.2.1, by rw [do' 0 j6.1]; exact j6.2.2⟩, fun i hi hiL s hs => ?_, fun _ i hi => ?_⟩
  · rw [j1]
    refine (sm_upd hto ?_ ?_ (fun y hy => ?_)).symm
    · unfold kn; rw [if_pos h0]
    · unfold kn; rw [va_up_self, if_neg (by omega)]
    · unfold kn; rw [va_up_ne _ _ hy]
  · by_cases hiL : i = L
    · subst hiL
      rw [va_up_self, va_up_self, va_up_self]
      exact ⟨hto, rfl⟩
    · rw [qo i (by omega), do' i (by omega), va_up_ne _ _ (qne i (by omega))]
      exact j2 i (by omega)
  · by_cases hxw : x = w
    · exact ⟨L, by omega, by rw [va_up_self, hxw]⟩
    · rw [va_up_ne _ _ hxw] at hfx
      obtain ⟨i, i1, i2⟩ := j3 x hx hfx
      exact ⟨i, by omega, by rw [qo i i1]; exact i2⟩
  · by_cases hjL : j = L
    · subst hjL
      rw [va_up_self]
      by_cases hiL : i = j
      · rw [hiL, va_up_self]; exact Nat.le_refl _
      · rw [do' i (by omega)]; exact j8 hL i (by omega)
    · rw [do' i (by omega), do' j (by omega)]
      exact j4 i j hij (by omega)
  · by_cases hiL : i = L
    · subst hiL
      rw [va_up_self, va_up_self]; exact hr
    · rw [do' i (by omega), qo i (by omega)]
      exact j5 i (by omega)
  · have hiL' : i < L := by omega
    rw [qo i hiL', do' i hiL']
    obtain ⟨e1, e2⟩ := j7 i hi hiL' s hs
    rw [va_up_ne _ _ (fun hh => e1 (by rw [hh, h0]))]
    exact ⟨e1, e2⟩
  · rw [do' h hL]
    by_cases hiL : i = L
    · subst hiL; rw [va_up_self]; exact Nat.le_refl _
    · rw [do' i (by omega)]; exact j8 hL i (by omega)
/-- what is known of a neighbour is low enough -/
theorem BI_known {a b d L h x : Nat} {fr q dd : Nat → Nat} (B : BI a b d fr q dd L h) (hL : h < L) (hx : x < 2 ^ (a * b * d)) (h0 : fr x ≠ 0) : fr x ≤ dd h + 2 := by
  obtain ⟨i, i1, i2⟩ := B.2.2.1 x hx h0
  have := (B.2.1 i i1).2
  have h8 := B.2.2.2.2.2.2.2 hL i i1
  rw [i2] at this
  omega
theorem BI_next {a b d L h : Nat} {fr q dd : Nat → Nat} (B : BI a b d fr q dd L h) (hL : h < L) (hall : ∀ s, SG a b d s → fr (q h ^^^ s) ≠ 0 ∧ fr (q h ^^^ s) ≤ dd h + 2) : BI a b d fr q dd L (h + 1) := by
  obtain ⟨j1, j2, j3, j4, j5, j6, j7, j8⟩ := B
  refine ⟨j1, j2, j3, j4, j5, j6, fun i hi hiL s hs => ?_, fun h1 i hi => ?_⟩
  · by_cases hih : i = h
    · rw [hih]; exact hall s hs
    · exact j7 i (by omega) hiL s hs
  · have := j8 hL i hi
    have := j4 h (h + 1) (by omega) h1
    omega
theorem BI_all {a b d L h : Nat} {fr q dd : Nat → Nat} (hb : 1 ≤ b) (hd : 1 ≤ d) (B : BI a b d fr q dd L h) : ∀ n x, x < 2 ^ (a * b * d) → Rch a b d n (tb x) → (fr x ≠ 0 ∧ fr x ≤ n + 1) ∨ ∃ i, h ≤ i ∧ i < L ∧ dd i < n := by
  intro n
  induction n with
  | zero =>
    intro x hx hr
    have := tb_zero hx hr
    subst this
    have h2 := (B.2.1 0 B.2.2.2.2.2.1.1).2
    rw [B.2.2.2.2.2.1.2.1, B.2.2.2.2.2.1.2.2] at h2
    exact Or.inl ⟨by omega, by omega⟩
  | succ n ih =>
    rintro x hx ⟨X, Y, Z, n1, n2, n3, hr⟩
    have hs := SG_of hb hd n1 n2 n3
    have hsl : msk (a * b * d) (sT b d X Y Z) < 2 ^ (a * b * d) := msk_lt
    have hr' : Rch a b d n (tb (x ^^^ msk (a * b * d) (sT b d X Y Z))) := Rch_cg n _ _ (fun t ht => by
      rw [tb_xor]
      unfold xt
      rw [tb_msk ht]) hr
    rcases ih _ (xor_lt hx hsl) hr' with ⟨e1, e2⟩ | ⟨i, i1, i2, i3⟩
    · obtain ⟨i, i1, i2⟩ := B.2.2.1 _ (xor_lt hx hsl) e1
      have h2 := (B.2.1 i i1).2
      rw [i2] at h2
      by_cases hi : i < h
      · have h7 := B.2.2.2.2.2.2.1 i hi i1 _ hs
        rw [i2, Nat.xor_assoc, Nat.xor_self, Nat.xor_zero] at h7
        exact Or.inl ⟨h7.1, by omega⟩
      · exact Or.inr ⟨i, by omega, i1, by omega⟩
    · exact Or.inr ⟨i, i1, i2, by omega⟩
theorem BI_end {a b d L h x : Nat} {fr q dd : Nat → Nat} (hb : 1 ≤ b) (hd : 1 ≤ d) (B : BI a b d fr q dd L h) (hx : x < 2 ^ (a * b * d)) (hstop : L ≤ h ∨ fr x ≠ 0) (hre : ∃ n, Rch a b d n (tb x)) : ∃ D, fr x = D + 1 ∧ Rch a b d D (tb x) ∧ ∀ k, Rch a b d k (tb x) → D ≤ k := by
  have hne : fr x ≠ 0 := by
    rcases hstop with h1 | h1
    · obtain ⟨n, hn⟩ := hre
      rcases BI_all hb hd B n x hx hn with h2 | ⟨i, i1, i2, _⟩
      · exact h2.1
      · omega
    · exact h1
  obtain ⟨i, i1, i2⟩ := B.2.2.1 x hx hne
  have h2 := (B.2.1 i i1).2
  have h5 := B.2.2.2.2.1 i i1
  rw [i2] at h2 h5
  refine ⟨dd i, h2, h5, fun k hk => ?_⟩
  rcases BI_all hb hd B k x hx hk with ⟨_, e2⟩ | ⟨j, k1, k2, k3⟩
  · omega
  · have h4 := B.2.2.2.1 h j k1 k2
    have h8 := B.2.2.2.2.2.2.2 (by omega) i i1
    omega
/-- every set of places is a sum of singles -/
theorem Rch_ex {a b d : Nat} (hb : 1 ≤ b) (hd : 1 ≤ d) : ∀ m T, m ≤ a * b * d → (∀ t, m ≤ t → t < a * b * d → T t = false) → ∃ n, n ≤ m ∧ Rch a b d n T := by
  intro m
  induction m with
  | zero => intro T _ h; exact ⟨0, Nat.le_refl 0, fun t ht => h t (Nat.zero_le t) ht⟩
  | succ m ih =>
    intro T hm h
    cases hT : T m with
    | false =>
      obtain ⟨n, n1, n2⟩ := ih T (by omega) (fun t h1 h2 => by
        by_cases htm : t = m
        · rw [htm]; exact hT
        · exact h t (by omega) h2)
      exact ⟨n, by omega, n2⟩
    | true =>
      obtain ⟨x, hx⟩ : ∃ x : Nat → Bool, x = fun i => decide (i = m / d / b) := ⟨_, rfl⟩
      obtain ⟨y, hy⟩ : ∃ y : Nat → Bool, y = fun i => decide (i = m / d % b) := ⟨_, rfl⟩
      obtain ⟨z, hz⟩ : ∃ z : Nat → Bool, z = fun i => decide (i = m % d) := ⟨_, rfl⟩
      have m1 : m / d / b < a := Nat.div_lt_of_lt_mul (Nat.div_lt_of_lt_mul (by
        rw [Nat.mul_comm d, Nat.mul_comm b]
        exact hm))
      have e : ∀ t, sT b d x y z t = decide (t = m) := fun t => by
        unfold sT
        rw [hx, hy, hz]
        show (decide (t / d / b = m / d / b) && (decide (t / d % b = m / d % b) && decide (t % d = m % d))) = decide (t = m)
        by_cases htm : t = m
        · rw [htm, decide_eq_true rfl, decide_eq_true rfl, decide_eq_true rfl, decide_eq_true rfl]; rfl
        · rw [decide_eq_false htm]
          by_cases q1 : t / d / b = m / d / b
          · by_cases q2 : t / d % b = m / d % b
            · by_cases q3 : t % d = m % d
              · exfalso
                have w1 := Nat.div_add_mod (t / d) b
                have w2 := Nat.div_add_mod (m / d) b
                rw [q1, q2, w2] at w1
                have w3 := Nat.div_add_mod t d
                have w4 := Nat.div_add_mod m d
                rw [← w1, q3, w4] at w3
                exact htm w3.symm
              · rw [decide_eq_false q3, Bool.and_false, Bool.and_false]
            · rw [decide_eq_false q2, Bool.false_and, Bool.and_false]
          · rw [decide_eq_false q1, Bool.false_and]
      obtain ⟨n, n1, n2⟩ := ih (xt T (sT b d x y z)) (by omega) (fun t h1 h2 => by
        unfold xt
        rw [e]
        by_cases htm : t = m
        · rw [htm, hT, decide_eq_true rfl]; rfl
        · rw [decide_eq_false htm, h t (by omega) h2]; rfl)
      exact ⟨n + 1, by omega, x, y, z, ⟨_, m1, by rw [hx]; exact decide_eq_true rfl⟩, ⟨_, Nat.mod_lt _ (by omega), by rw [hy]; exact decide_eq_true rfl⟩, ⟨_, Nat.mod_lt _ (by omega), by rw [hz]; exact decide_eq_true rfl⟩, n2⟩
theorem least_ex {P : Nat → Prop} : ∀ n, P n → ∃ D, D ≤ n ∧ P D ∧ ∀ k, P k → D ≤ k := by
  intro n
  induction n using Nat.strongRecOn with
  | ind n ih =>
    intro hn
    by_cases h : ∃ k, k < n ∧ P k
    · obtain ⟨k, k1, k2⟩ := h
      obtain ⟨D, d1, d2, d3⟩ := ih k k1 k2
      exact ⟨D, by omega, d2, d3⟩
    · exact ⟨n, Nat.le_refl n, hn, fun k hk => by
        apply Classical.byContradiction
        intro hh
        exact h ⟨k, by omega, hk⟩⟩
theorem Rch_min {a b d : Nat} {T : Nat → Bool} (hb : 1 ≤ b) (hd : 1 ≤ d) : ∃ D, D ≤ a * b * d ∧ Rch a b d D T ∧ ∀ k, Rch a b d k T → D ≤ k := by
  obtain ⟨n, n1, n2⟩ := Rch_ex hb hd (a * b * d) T (Nat.le_refl _) (fun t h1 h2 => by omega)
  obtain ⟨D, d1, d2, d3⟩ := least_ex (P := fun k => Rch a b d k T) n n2
  exact ⟨D, by omega, d2, d3⟩
