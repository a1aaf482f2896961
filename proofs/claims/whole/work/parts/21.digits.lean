/-! DIGITS: codes of vectors; sums -/
def sm : Nat → (Nat → Nat) → Nat
  | 0, _ => 0
  | n + 1, f => sm n f + f n
theorem sm_congr {n : Nat} {f g : Nat → Nat} (h : ∀ k, k < n → f k = g k) : sm n f = sm n g := by
  induction n with
  | zero => rfl
  | succ n ih =>
    show sm n f + f n = sm n g + g n
    rw [ih (fun k hk => h k (by omega)), h n (by omega)]
theorem sm_le {n b : Nat} {f : Nat → Nat} (h : ∀ k, k < n → f k ≤ b) : sm n f ≤ n * b := by
  induction n with
  | zero => simp [sm]
  | succ n ih =>
    have h1 := ih (fun k hk => h k (by omega))
    have h2 := h n (by omega)
    show sm n f + f n ≤ (n + 1) * b
    rw [Nat.succ_mul]; omega
theorem sm_add {n : Nat} {f g : Nat → Nat} : sm n (fun k => f k + g k) = sm n f + sm n g := by
  induction n with
  | zero => rfl
  | succ n ih =>
    show sm n (fun k => f k + g k) + (f n + g n) = (sm n f + f n) + (sm n g + g n)
    rw [ih]; omega
theorem sm_zero {n : Nat} {f : Nat → Nat} (h : ∀ k, k < n → f k = 0) : sm n f = 0 := by
  have := sm_le (b := 0) (f := f) (n := n) (fun k hk => by rw [h k hk]; exact Nat.le_refl 0)
  omega
theorem sm_swap {n m : Nat} {f : Nat → Nat → Nat} : sm n (fun i => sm m (fun j => f i j)) = sm m (fun j => sm n (fun i => f i j)) := by
  induction n with
  | zero =>
    show 0 = _
    exact (sm_zero (fun k _ => rfl)).symm
  | succ n ih =>
    show sm n (fun i => sm m (fun j => f i j)) + sm m (fun j => f n j) = sm m (fun j => sm n (fun i => f i j) + f n j)
    rw [sm_add, ih]
theorem sm_mul {n c : Nat} {f : Nat → Nat} : sm n (fun k => c * f k) = c * sm n f := by
  induction n with
  | zero => rfl
  | succ n ih =>
    show sm n (fun k => c * f k) + c * f n = c * (sm n f + f n)
    rw [ih, Nat.mul_add]
/-- the digit at place j of a code of size n -/
def dg (p n c j : Nat) : Nat := c / p ^ (n - 1 - j) % p
def enc (p : Nat) : Nat → (Nat → Nat) → Nat
  | 0, _ => 0
  | n + 1, d => enc p n d * p + d n
theorem dg_lt {p n c j : Nat} (hp : 0 < p) : dg p n c j < p := Nat.mod_lt _ hp
theorem enc_congr {p n : Nat} {d e : Nat → Nat} (h : ∀ k, k < n → d k = e k) : enc p n d = enc p n e := by
  induction n with
  | zero => rfl
  | succ n ih =>
    show enc p n d * p + d n = enc p n e * p + e n
    rw [ih (fun k hk => h k (by omega)), h n (by omega)]
theorem enc_lt {p n : Nat} {d : Nat → Nat} (hp : 0 < p) (h : ∀ k, k < n → d k < p) : enc p n d < p ^ n := by
  induction n with
  | zero => exact Nat.one_pos
  | succ n ih =>
    have h1 := ih (fun k hk => h k (by omega))
    have h2 := h n (by omega)
    show enc p n d * p + d n < p ^ (n + 1)
    rw [Nat.pow_succ]
    have : (enc p n d + 1) * p ≤ p ^ n * p := Nat.mul_le_mul_right p h1
    rw [Nat.succ_mul] at this
    omega
theorem dg_enc {p n j : Nat} {d : Nat → Nat} (hp : 0 < p) (h : ∀ k, k < n → d k < p) (hj : j < n) : dg p n (enc p n d) j = d j := by
  induction n with
  | zero => omega
  | succ n ih =>
    unfold dg
    show (enc p n d * p + d n) / p ^ (n + 1 - 1 - j) % p = d j
    have hn := h n (by omega)
    by_cases hjn : j = n
    · subst hjn
      rw [show j + 1 - 1 - j = 0 by omega, Nat.pow_zero, Nat.div_one, Nat.mul_comm, Nat.mul_add_mod, Nat.mod_eq_of_lt hn]
    · have h1 := ih (fun k hk => h k (by omega)) (by omega)
      unfold dg at h1
      rw [show n + 1 - 1 - j = (n - 1 - j) + 1 by omega, Nat.pow_succ, Nat.mul_comm (p ^ _) p, ← Nat.div_div_eq_div_mul]
      rw [show (enc p n d * p + d n) / p = enc p n d by
        rw [Nat.mul_comm, Nat.mul_add_div hp, Nat.div_eq_of_lt hn, Nat.add_zero]]
      exact h1
theorem dg_succ {p n c j : Nat} (hj : j < n) : dg p (n + 1) c j = dg p n (c / p) j := by
  unfold dg
  rw [show n + 1 - 1 - j = (n - 1 - j) + 1 by omega, Nat.pow_succ, Nat.mul_comm (p ^ _) p, ← Nat.div_div_eq_div_mul]
theorem enc_dg {p n c : Nat} (hp : 0 < p) (hc : c < p ^ n) : enc p n (dg p n c) = c := by
  induction n generalizing c with
  | zero =>
    rw [Nat.pow_zero] at hc
    show 0 = c
    omega
  | succ n ih =>
    show enc p n (dg p (n + 1) c) * p + dg p (n + 1) c n = c
    rw [enc_congr (e := dg p n (c / p)) (fun k hk => dg_succ hk)]
    rw [ih (by rw [Nat.div_lt_iff_lt_mul hp, ← Nat.pow_succ]; exact hc)]
    unfold dg
    rw [show n + 1 - 1 - n = 0 by omega, Nat.pow_zero, Nat.div_one, Nat.mul_comm]
    exact Nat.div_add_mod c p
theorem enc_inj {p n : Nat} {d e : Nat → Nat} (hp : 0 < p) (hd : ∀ k, k < n → d k < p) (he : ∀ k, k < n → e k < p) : enc p n d = enc p n e ↔ ∀ k, k < n → d k = e k := by
  constructor
  · intro h k hk
    have h1 := dg_enc hp hd hk
    rw [h, dg_enc hp he hk] at h1
    exact h1.symm
  · exact enc_congr
theorem enc_zero {p n : Nat} {d : Nat → Nat} (hp : 0 < p) (hd : ∀ k, k < n → d k < p) : enc p n d = 0 ↔ ∀ k, k < n → d k = 0 := by
  have h0 : enc p n (fun _ => 0) = 0 := by
    induction n with
    | zero => rfl
    | succ n ih =>
      show enc p n (fun _ => 0) * p + 0 = 0
      rw [ih (fun k hk => hd k (by omega))]; omega
  constructor
  · intro h
    rw [← h0] at h
    exact (enc_inj hp hd (fun _ _ => hp)).mp h
  · intro h
    rw [← h0]
    exact enc_congr h
/-- the prime is 2, 3 or 5 -/
def isP (p : Nat) : Prop := p = 2 ∨ p = 3 ∨ p = 5
theorem isP.b {p : Nat} (h : isP p) : 2 ≤ p ∧ p ≤ 5 := by rcases h with rfl | rfl | rfl <;> omega
theorem isP.pow {p n : Nat} (h : isP p) (hn : n ≤ 4) : p ^ n ≤ 625 := by
  have h2 : p ^ n ≤ p ^ 4 := Nat.pow_le_pow_right (by have := h.b; omega) hn
  rcases h with rfl | rfl | rfl <;> omega
theorem g_numberIn {p n c j : Nat} (hp : isP p) (hn : n ≤ 4) (hj : j < n) (hc : c < 2147483648) : fX5_numberIn (ci c) (ci n) (ci j) (ci p) = some (ci (dg p n c j)) := by
  have hb := hp.b
  unfold fX5_numberIn
  rw [cl_2, if_pos (by rw [ci_le (by omega) (by omega)]; omega), zF_eq]
  have hst : ∀ k, c / p ^ k ≤ c := fun k => Nat.div_le_self _ _
  have h := ziter_seq (body := fX5_numberIn_B15 (ci n) (ci p)) (fun k => (ci (c / p ^ k), ci (j + 1 + k))) (ci (dg p n c j)) (n - 1 - j) 10000 (by omega) (fun k hk => ?_) ?_
  · simp only [Nat.pow_zero, Nat.div_one, Nat.add_zero] at h
    rw [cl_1, ci_add]
    exact h
  · unfold fX5_numberIn_B15
    have := hst k
    simp only [ci_le (show n < 2147483648 by omega) (show j + 1 + k < 2147483648 by omega)]
    rw [if_neg (by omega)]
    unfold zdiv
    rw [cl_0, if_neg (by rw [ci_eq (by omega) (by omega)]; omega), ci_div (by omega) (by omega), cl_1]
    simp only [Option.bind_some, Option.bind_none, ci_add, Nat.pow_succ, Nat.div_div_eq_div_mul]
    rfl
  · unfold fX5_numberIn_B15
    have := hst (n - 1 - j)
    simp only [ci_le (show n < 2147483648 by omega) (show j + 1 + (n - 1 - j) < 2147483648 by omega)]
    rw [if_pos (by omega)]
    unfold zrem
    rw [cl_0, if_neg (by rw [ci_eq (by omega) (by omega)]; omega), ci_mod (by omega) (by omega)]
    rfl
theorem g_codeOf {p n j v : Nat} (hn : n ≤ 4) (hj : j < n) : fX5_codeOf (ci v) (ci n) (ci j) (ci p) = some (ci (v * p ^ (n - 1 - j))) := by
  unfold fX5_codeOf
  rw [cl_1, ci_sub (by omega), ci_sub (by omega), g_power (by omega)]
  simp only [Option.bind_some, Option.bind_none, ci_mul]
theorem enc_single {p n j v : Nat} (hj : j < n) : enc p n (fun k => if k = j then v else 0) = v * p ^ (n - 1 - j) := by
  induction n with
  | zero => omega
  | succ n ih =>
    show enc p n (fun k => if k = j then v else 0) * p + (if n = j then v else 0) = _
    by_cases hjn : j = n
    · subst hjn
      have h0 : ∀ m, m ≤ j → enc p m (fun k => if k = j then v else 0) = 0 := by
        intro m
        induction m with
        | zero => intro _; rfl
        | succ m ihm =>
          intro hm
          show enc p m (fun k => if k = j then v else 0) * p + (if m = j then v else 0) = 0
          rw [ihm (by omega), if_neg (by omega)]; omega
      rw [h0 j (Nat.le_refl _), if_pos rfl, show j + 1 - 1 - j = 0 by omega]; simp
    · rw [ih (by omega), if_neg (by omega), Nat.add_zero, show n + 1 - 1 - j = (n - 1 - j) + 1 by omega, Nat.pow_succ, Nat.mul_assoc]
theorem g_addedCode {p n c e t : Nat} (hp : isP p) (hn : n ≤ 4) (hc : c < 2147483648) (he : e < 2147483648) (ht : t < p) : fX5_addedCode (ci c) (ci e) (ci t) (ci n) (ci p) = some (ci (enc p n (fun j => (dg p n c j + t * dg p n e j) % p))) := by
  have hb := hp.b
  unfold fX5_addedCode
  rw [zF_eq]
  refine ziter_seq (fun k => (ci (enc p k (fun j => (dg p n c j + t * dg p n e j) % p)), ci k)) _ n 10000 (by omega) (fun k hk => ?_) ?_
  · unfold fX5_addedCode_B6
    have h1 : dg p n c k < p := dg_lt (by omega)
    have h2 : dg p n e k < p := dg_lt (by omega)
    have h3 : t * dg p n e k ≤ 5 * 5 := Nat.mul_le_mul (by omega) (by omega)
    simp only [ci_le (show n < 2147483648 by omega) (show k < 2147483648 by omega)]
    rw [if_neg (by omega), g_numberIn hp hn hk hc, g_numberIn hp hn hk he]
    simp only [Option.bind_some, Option.bind_none, ci_mul, ci_add]
    rw [g_rem (by omega) (by omega) (by omega), cl_1]
    simp only [Option.bind_some, Option.bind_none, ci_mul, ci_add]
    rfl
  · unfold fX5_addedCode_B6
    simp only [ci_le (show n < 2147483648 by omega) (show n < 2147483648 by omega)]
    rw [if_pos (Nat.le_refl _)]; rfl
theorem g_multipliedCodes {p n c e : Nat} (hp : isP p) (hn : n ≤ 4) (hc : c < 2147483648) (he : e < 2147483648) : fX5_multipliedCodes (ci c) (ci e) (ci n) (ci p) = some (ci (sm n (fun j => dg p n c j * dg p n e j) % p)) := by
  have hb := hp.b
  have hs : ∀ k, sm k (fun j => dg p n c j * dg p n e j) ≤ k * 25 := fun k => sm_le (fun j _ => by
    have h1 : dg p n c j < p := dg_lt (by omega)
    have h2 : dg p n e j < p := dg_lt (by omega)
    exact Nat.mul_le_mul (show dg p n c j ≤ 5 by omega) (show dg p n e j ≤ 5 by omega))
  unfold fX5_multipliedCodes
  rw [zF_eq]
  refine ziter_seq (fun k => (ci (sm k (fun j => dg p n c j * dg p n e j)), ci k)) _ n 10000 (by omega) (fun k hk => ?_) ?_
  · unfold fX5_multipliedCodes_B6
    simp only [ci_le (show n < 2147483648 by omega) (show k < 2147483648 by omega)]
    rw [if_neg (by omega), g_numberIn hp hn hk hc, g_numberIn hp hn hk he, cl_1]
    simp only [Option.bind_some, Option.bind_none, ci_mul, ci_add]
    rfl
  · unfold fX5_multipliedCodes_B6
    have := hs n
    simp only [ci_le (show n < 2147483648 by omega) (show n < 2147483648 by omega)]
    rw [if_pos (Nat.le_refl _), g_rem (by omega) (by omega) (by omega)]; rfl
