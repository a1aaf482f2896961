-- 20.nums.lean.txt
/-! NUMBERS: Int32 out of Nat; loops; reads and writes -/
def ci (n : Nat) : Int32 := Int32.ofNat n
theorem cl_0 : (0 : Int32) = ci 0 := rfl
theorem cl_1 : (1 : Int32) = ci 1 := rfl
theorem cl_2 : (2 : Int32) = ci 2 := rfl
theorem cl_3 : (3 : Int32) = ci 3 := rfl
theorem cl_4 : (4 : Int32) = ci 4 := rfl
theorem cl_5 : (5 : Int32) = ci 5 := rfl
theorem cl_6 : (6 : Int32) = ci 6 := rfl
theorem cl_7 : (7 : Int32) = ci 7 := rfl
theorem cl_8 : (8 : Int32) = ci 8 := rfl
theorem cl_10 : (10 : Int32) = ci 10 := rfl
theorem cl_11 : (11 : Int32) = ci 11 := rfl
theorem cl_12 : (12 : Int32) = ci 12 := rfl
theorem cl_15 : (15 : Int32) = ci 15 := rfl
theorem cl_16 : (16 : Int32) = ci 16 := rfl
theorem cl_20 : (20 : Int32) = ci 20 := rfl
theorem cl_23 : (23 : Int32) = ci 23 := rfl
theorem cl_31 : (31 : Int32) = ci 31 := rfl
theorem cl_32 : (32 : Int32) = ci 32 := rfl
theorem cl_39 : (39 : Int32) = ci 39 := rfl
theorem cl_40 : (40 : Int32) = ci 40 := rfl
theorem cl_41 : (41 : Int32) = ci 41 := rfl
theorem cl_48 : (48 : Int32) = ci 48 := rfl
theorem cl_63 : (63 : Int32) = ci 63 := rfl
theorem cl_64 : (64 : Int32) = ci 64 := rfl
theorem cl_80 : (80 : Int32) = ci 80 := rfl
theorem cl_105 : (105 : Int32) = ci 105 := rfl
theorem cl_120 : (120 : Int32) = ci 120 := rfl
theorem cl_127 : (127 : Int32) = ci 127 := rfl
theorem cl_128 : (128 : Int32) = ci 128 := rfl
theorem cl_200 : (200 : Int32) = ci 200 := rfl
theorem cl_255 : (255 : Int32) = ci 255 := rfl
theorem cl_480 : (480 : Int32) = ci 480 := rfl
theorem cl_1023 : (1023 : Int32) = ci 1023 := rfl
theorem cl_1024 : (1024 : Int32) = ci 1024 := rfl
theorem cl_4095 : (4095 : Int32) = ci 4095 := rfl
theorem cl_4096 : (4096 : Int32) = ci 4096 := rfl
theorem cl_13849 : (13849 : Int32) = ci 13849 := rfl
theorem cl_25173 : (25173 : Int32) = ci 25173 := rfl
theorem cl_65535 : (65535 : Int32) = ci 65535 := rfl
theorem cl_65536 : (65536 : Int32) = ci 65536 := rfl
theorem cl_m1 : (-1 : Int32) = Int32.ofInt (-1) := rfl
theorem ci_toInt {n : Nat} (h : n < 2147483648) : (ci n).toInt = (n : Int) := Int32.toInt_ofNat_of_lt h
theorem ci_nat {n : Nat} (h : n < 2147483648) : (ci n).toNatClampNeg = n := by
  unfold Int32.toNatClampNeg
  rw [ci_toInt h]
  exact Int.toNat_natCast n
theorem ci_add (a b : Nat) : ci a + ci b = ci (a + b) := (Int32.ofNat_add a b).symm
theorem ci_mul (a b : Nat) : ci a * ci b = ci (a * b) := (Int32.ofNat_mul a b).symm
theorem ci_sub {a b : Nat} (h : b ≤ a) : ci a - ci b = ci (a - b) := by
  have h1 : ci (a - b) + ci b = ci a := by rw [ci_add, Nat.sub_add_cancel h]
  rw [← h1, Int32.add_sub_cancel]
theorem ci_lt {a b : Nat} (ha : a < 2147483648) (hb : b < 2147483648) : (ci a < ci b) ↔ a < b := by
  rw [Int32.lt_iff_toInt_lt, ci_toInt ha, ci_toInt hb]; omega
theorem ci_le {a b : Nat} (ha : a < 2147483648) (hb : b < 2147483648) : (ci a ≤ ci b) ↔ a ≤ b := by
  rw [Int32.le_iff_toInt_le, ci_toInt ha, ci_toInt hb]; omega
theorem ci_eq {a b : Nat} (ha : a < 2147483648) (hb : b < 2147483648) : (ci a = ci b) ↔ a = b := by
  constructor
  · intro h
    have h1 := congrArg Int32.toInt h
    rw [ci_toInt ha, ci_toInt hb] at h1
    omega
  · intro h; rw [h]
theorem ci_of {x : Int32} (h : 0 ≤ x) : ∃ n : Nat, n < 2147483648 ∧ x = ci n := by
  rw [Int32.le_iff_toInt_le] at h
  have h0 : (0 : Int32).toInt = 0 := rfl
  have h2 := Int32.toInt_lt x
  refine ⟨x.toInt.toNat, by omega, ?_⟩
  apply Int32.toInt_inj.mp
  rw [ci_toInt (by omega)]
  omega
theorem ci_div {a b : Nat} (ha : a < 2147483648) (hb : b < 2147483648) : ci a / ci b = ci (a / b) := by
  by_cases h0 : b = 0
  · subst h0
    rw [show ci 0 = 0 from rfl, Int32.div_zero, Nat.div_zero]; rfl
  apply Int32.toInt_inj.mp
  have hd : a / b ≤ a := Nat.div_le_self a b
  rw [ci_toInt (by omega), Int32.toInt_div_of_ne_right, ci_toInt ha, ci_toInt hb]
  · exact (Int.ofNat_tdiv a b).symm ▸ rfl
  · intro h
    have h1 := congrArg Int32.toInt h
    rw [ci_toInt hb] at h1
    have : (-1 : Int32).toInt = -1 := rfl
    omega
theorem ci_mod {a b : Nat} (ha : a < 2147483648) (hb : b < 2147483648) : ci a % ci b = ci (a % b) := by
  apply Int32.toInt_inj.mp
  have hd : a % b ≤ a := Nat.mod_le a b
  rw [Int32.toInt_mod, ci_toInt ha, ci_toInt hb, ci_toInt (by omega)]
  exact (Int.ofNat_tmod a b).symm ▸ rfl
theorem ci_nneg {n : Nat} (h : n < 2147483648) : ¬ ci n < 0 := by
  rw [cl_0, ci_lt h (by omega)]; omega
-- loops
theorem ziter_seq {σ ρ : Type} {body : σ → Option (σ ⊕ ρ)} (st : Nat → σ) (r : ρ) : ∀ (n N : Nat), n < N → (∀ k, k < n → body (st k) = some (.inl (st (k + 1)))) → body (st n) = some (.inr r) → ziter body N (st 0) = some r := by
  have key : ∀ (m n N : Nat), m ≤ n → m < N → (∀ k, k < n → body (st k) = some (.inl (st (k + 1)))) → body (st n) = some (.inr r) → ziter body N (st (n - m)) = some r := by
    intro m
    induction m with
    | zero =>
      intro n N h1 h2 h3 h4
      cases N with
      | zero => omega
      | succ N =>
        unfold ziter
        rw [Nat.sub_zero, h4]
    | succ m ih =>
      intro n N h1 h2 h3 h4
      cases N with
      | zero => omega
      | succ N =>
        unfold ziter
        rw [h3 (n - (m + 1)) (by omega)]
        have := ih n N (by omega) (by omega) h3 h4
        rw [show n - (m + 1) + 1 = n - m by omega]
        exact this
  intro n N h1 h2 h3
  have := key n n N (Nat.le_refl _) h1 h2 h3
  rwa [Nat.sub_self] at this
/-- a loop by an invariant and a measure -/
theorem ziter_inv {σ ρ : Type} {body : σ → Option (σ ⊕ ρ)} (I : σ → Prop) (μ : σ → Nat) (Q : ρ → Prop) (h : ∀ x, I x → (∃ y, body x = some (.inl y) ∧ I y ∧ μ y < μ x) ∨ ∃ r, body x = some (.inr r) ∧ Q r) : ∀ (N : Nat) (x : σ), I x → μ x < N → ∃ r, ziter body N x = some r ∧ Q r := by
  intro N
  induction N with
  | zero => intro x _ h2; omega
  | succ N ih =>
    intro x hx hm
    unfold ziter
    rcases h x hx with ⟨y, h1, h2, h3⟩ | ⟨r, h1, h2⟩
    · rw [h1]; exact ih y h2 (by omega)
    · rw [h1]; exact ⟨r, rfl, h2⟩
theorem zF_eq : zF = 10000 := rfl
theorem zex_some {σ ρ : Type} (r : ρ) : (zex (some r) : Option (σ ⊕ ρ)) = some (.inr r) := rfl
-- arrays
def zIA (S : ZS) (a N : Nat) (f : Nat → Int32) : Prop := S.1 a = some (.inl (0, N, .inl f))
def zJA (S : ZS) (a N : Nat) (f : Nat → Int64) : Prop := S.1 a = some (.inl (1, N, .inr (.inl f)))
def zOb (S : ZS) (a k : Nat) (fs : List Value) : Prop := S.1 a = some (.inr (k, fs))
def zwI (S : ZS) (a N : Nat) (f : Nat → Int32) : ZS := (va_up S.1 a (some (.inl (0, N, .inl f))), S.2)
def zwJ (S : ZS) (a N : Nat) (f : Nat → Int64) : ZS := (va_up S.1 a (some (.inl (1, N, .inr (.inl f)))), S.2)
def zwO (S : ZS) (a k : Nat) (fs : List Value) : ZS := (va_up S.1 a (some (.inr (k, fs))), S.2)
theorem zaI_ci {S : ZS} {a N i : Nat} {f : Nat → Int32} (h : zIA S a N f) (hi : i < N) (hN : N < 2147483648) : zaI S a 0 (ci i) = some (f i) := by
  unfold zaI
  rw [show S.1 a = _ from h]
  simp only [ci_nat (show i < 2147483648 by omega)]
  rw [if_pos ⟨trivial, fun q => q.elim (ci_nneg (by omega)) (by omega)⟩]
theorem zaJ_ci {S : ZS} {a N i : Nat} {f : Nat → Int64} (h : zJA S a N f) (hi : i < N) (hN : N < 2147483648) : zaJ S a (ci i) = some (f i) := by
  unfold zaJ
  rw [show S.1 a = _ from h]
  simp only [ci_nat (show i < 2147483648 by omega)]
  rw [if_pos ⟨trivial, fun q => q.elim (ci_nneg (by omega)) (by omega)⟩]
theorem zsI_ci {S : ZS} {a N i : Nat} {f : Nat → Int32} (v : Int32) (h : zIA S a N f) (hi : i < N) (hN : N < 2147483648) : zsI S a 0 (ci i) v = some (zwI S a N (va_up f i v)) := by
  unfold zsI
  rw [show S.1 a = _ from h]
  simp only [ci_nat (show i < 2147483648 by omega)]
  rw [if_pos ⟨trivial, fun q => q.elim (ci_nneg (by omega)) (by omega)⟩]
  rfl
theorem zsJ_ci {S : ZS} {a N i : Nat} {f : Nat → Int64} (v : Int64) (h : zJA S a N f) (hi : i < N) (hN : N < 2147483648) : zsJ S a (ci i) v = some (zwJ S a N (va_up f i v)) := by
  unfold zsJ
  rw [show S.1 a = _ from h]
  simp only [ci_nat (show i < 2147483648 by omega)]
  rw [if_pos ⟨trivial, fun q => q.elim (ci_nneg (by omega)) (by omega)⟩]
  rfl
theorem zalI {S : ZS} {a N : Nat} {f : Nat → Int32} (h : zIA S a N f) : zal S a = some (ci N) := by
  unfold zal
  rw [show S.1 a = _ from h]
  rfl
theorem zalJ {S : ZS} {a N : Nat} {f : Nat → Int64} (h : zJA S a N f) : zal S a = some (ci N) := by
  unfold zal
  rw [show S.1 a = _ from h]
  rfl
theorem zgI_ob {S : ZS} {a k j : Nat} {fs : List Value} {v : Int32} (h : zOb S a k fs) (hv : fs[j]? = some (.int v)) : zgI S a k j = some v := by
  unfold zgI
  rw [show S.1 a = _ from h]
  simp only [hv, if_true]
theorem zgR_ob {S : ZS} {a k j : Nat} {fs : List Value} {v : Nat} (h : zOb S a k fs) (hv : fs[j]? = some (.ref v)) : zgR S a k j = some v := by
  unfold zgR
  rw [show S.1 a = _ from h]
  simp only [hv, if_true]
theorem zpF_ob {S : ZS} {a k j : Nat} {fs : List Value} (v : Value) (h : zOb S a k fs) (hj : j < fs.length) : zpF S a k j v = some (zwO S a k (fs.set j v)) := by
  unfold zpF
  rw [show S.1 a = _ from h]
  simp only [if_pos hj, if_true]
  rfl
theorem zcl_ob {α : Type} {S : ZS} {a k : Nat} {fs : List Value} {o : Option α} (h : zOb S a k fs) : zcl S a k o = o := by
  unfold zcl
  rw [show S.1 a = _ from h]
  simp only [if_true]
-- reading behind a write
theorem zwI_self {S : ZS} {a N : Nat} {f : Nat → Int32} : zIA (zwI S a N f) a N f := va_up_self _ _ _
theorem zwJ_self {S : ZS} {a N : Nat} {f : Nat → Int64} : zJA (zwJ S a N f) a N f := va_up_self _ _ _
theorem zwO_self {S : ZS} {a k : Nat} {fs : List Value} : zOb (zwO S a k fs) a k fs := va_up_self _ _ _
theorem zwI_ne {S : ZS} {a b N : Nat} {f : Nat → Int32} (h : b ≠ a) : (zwI S a N f).1 b = S.1 b := va_up_ne _ _ h
theorem zwJ_ne {S : ZS} {a b N : Nat} {f : Nat → Int64} (h : b ≠ a) : (zwJ S a N f).1 b = S.1 b := va_up_ne _ _ h
theorem zwO_ne {S : ZS} {a b k : Nat} {fs : List Value} (h : b ≠ a) : (zwO S a k fs).1 b = S.1 b := va_up_ne _ _ h
theorem zwI_2 {S : ZS} {a N : Nat} {f g : Nat → Int32} : zwI (zwI S a N f) a N g = zwI S a N g := by
  unfold zwI
  congr 1
  funext b
  by_cases h : b = a
  · subst h; simp [va_up]
  · simp [va_up, h]
theorem zwI_same {S : ZS} {a N : Nat} {f : Nat → Int32} (h : zIA S a N f) : zwI S a N f = S := by
  unfold zwI
  refine Prod.ext ?_ rfl
  funext b
  by_cases hb : b = a
  · subst hb; rw [show S.1 b = _ from h]; simp [va_up]
  · simp [va_up, hb]
theorem zwJ_2 {S : ZS} {a N : Nat} {f g : Nat → Int64} : zwJ (zwJ S a N f) a N g = zwJ S a N g := by
  unfold zwJ
  congr 1
  funext b
  by_cases h : b = a
  · subst h; simp [va_up]
  · simp [va_up, h]
theorem zwJ_same {S : ZS} {a N : Nat} {f : Nat → Int64} (h : zJA S a N f) : zwJ S a N f = S := by
  unfold zwJ
  refine Prod.ext ?_ rfl
  funext b
  by_cases hb : b = a
  · subst hb; rw [show S.1 b = _ from h]; simp [va_up]
  · simp [va_up, hb]
-- the class's get and put
theorem g_get {S : ZS} {a N i : Nat} {f : Nat → Int32} (h : zIA S a N f) (hi : i < 2147483648) (hN : N < 2147483648) : fX5_get a (ci i) S = some (if i < N then f i else 0) := by
  unfold fX5_get
  rw [if_neg (ci_nneg hi), zalI h]
  simp only [Option.bind_some, Option.bind_none, ci_le hN hi]
  by_cases hc : N ≤ i
  · rw [if_pos hc, if_neg (by omega)]; rfl
  · rw [if_neg hc, zaI_ci h (by omega) hN, if_pos (by omega)]; rfl
theorem g_put {S : ZS} {a N i : Nat} {f : Nat → Int32} (v : Int32) (h : zIA S a N f) (hi : i < N) (hN : N < 2147483648) : fX5_put a (ci i) v S = some (zwI S a N (va_up f i v)) := by
  unfold fX5_put
  rw [if_neg (ci_nneg (by omega)), zalI h]
  simp only [Option.bind_some, Option.bind_none, ci_le hN (show i < 2147483648 by omega)]
  rw [if_neg (by omega), zsI_ci v h hi hN]; rfl
theorem g_getJ {S : ZS} {a N i : Nat} {f : Nat → Int64} (h : zJA S a N f) (hi : i < 2147483648) (hN : N < 2147483648) : fX5_getLong a (ci i) S = some (if i < N then f i else 0) := by
  unfold fX5_getLong
  rw [if_neg (ci_nneg hi), zalJ h]
  simp only [Option.bind_some, Option.bind_none, ci_le hN hi]
  by_cases hc : N ≤ i
  · rw [if_pos hc, if_neg (by omega)]; rfl
  · rw [if_neg hc, zaJ_ci h (by omega) hN, if_pos (by omega)]; rfl
theorem g_putJ {S : ZS} {a N i : Nat} {f : Nat → Int64} (v : Int64) (h : zJA S a N f) (hi : i < N) (hN : N < 2147483648) : fX5_putLong a (ci i) v S = some (zwJ S a N (va_up f i v)) := by
  unfold fX5_putLong
  rw [if_neg (ci_nneg (by omega)), zalJ h]
  simp only [Option.bind_some, Option.bind_none, ci_le hN (show i < 2147483648 by omega)]
  rw [if_neg (by omega), zsJ_ci v h hi hN]; rfl
theorem g_rem {a b : Nat} (ha : a < 2147483648) (hb : b < 2147483648) (h0 : 0 < b) : fX5_remainder (ci a) (ci b) = some (ci (a % b)) := by
  unfold fX5_remainder
  rw [cl_0, if_neg (by rw [ci_le hb (by omega)]; omega)]
  unfold zrem
  rw [cl_0, if_neg (by rw [ci_eq hb (by omega)]; omega), ci_mod ha hb]
  rfl
theorem g_quo {a b : Nat} (ha : a < 2147483648) (hb : b < 2147483648) (h0 : 0 < b) : fX5_quotient (ci a) (ci b) = some (ci (a / b)) := by
  unfold fX5_quotient
  rw [cl_0, if_neg (by rw [ci_le hb (by omega)]; omega)]
  unfold zdiv
  rw [cl_0, if_neg (by rw [ci_eq hb (by omega)]; omega), ci_div ha hb]
  rfl
theorem g_idx (i j k : Nat) : fX0_indexOf (ci i) (ci j) (ci k) = some (ci ((i * 4 + j) * 4 + k)) := by
  unfold fX0_indexOf
  rw [cl_4]
  simp only [ci_add, ci_mul]
theorem g_power {p n : Nat} (hn : n < 10000) : fX5_power (ci p) (ci n) = some (ci (p ^ n)) := by
  unfold fX5_power
  rw [zF_eq]
  refine ziter_seq (fun k => (ci (p ^ k), ci k)) _ n 10000 hn (fun k hk => ?_) ?_
  · unfold fX5_power_B4
    simp only [ci_le (show n < 2147483648 by omega) (show k < 2147483648 by omega)]
    rw [if_neg (by omega), cl_1, ci_mul, ci_add, Nat.pow_succ]
  · unfold fX5_power_B4
    simp only [ci_le (show n < 2147483648 by omega) (show n < 2147483648 by omega)]
    rw [if_pos (Nat.le_refl _)]; rfl
-- 21.digits.lean.txt
/-! DIGITS: codes of vectors; sums -/
def sm : Nat → (Nat → Nat) → Nat
  | 0, _ => 0
  | n + 1, f => sm n f + f n
theorem sm_congr {n : Nat} {f g : Nat → Nat} (h : ∀ k, k < n → f k = g k) : sm n f = sm n g := by
  induction n with
  | zero => rfl
  | succ n ih =>
    show sm n f + f n = sm n g + g n
    rw [ih (fun k hk => h k (by omega)), h n (by omega)]
theorem sm_le {n b : Nat} {f : Nat → Nat} (h : ∀ k, k < n → f k ≤ b) : sm n f ≤ n * b := by
  induction n with
  | zero => simp [sm]
  | succ n ih =>
    have h1 := ih (fun k hk => h k (by omega))
    have h2 := h n (by omega)
    show sm n f + f n ≤ (n + 1) * b
    rw [Nat.succ_mul]; omega
theorem sm_add {n : Nat} {f g : Nat → Nat} : sm n (fun k => f k + g k) = sm n f + sm n g := by
  induction n with
  | zero => rfl
  | succ n ih =>
    show sm n (fun k => f k + g k) + (f n + g n) = (sm n f + f n) + (sm n g + g n)
    rw [ih]; omega
theorem sm_zero {n : Nat} {f : Nat → Nat} (h : ∀ k, k < n → f k = 0) : sm n f = 0 := by
  have := sm_le (b := 0) (f := f) (n := n) (fun k hk => by rw [h k hk]; exact Nat.le_refl 0)
  omega
theorem sm_swap {n m : Nat} {f : Nat → Nat → Nat} : sm n (fun i => sm m (fun j => f i j)) = sm m (fun j => sm n (fun i => f i j)) := by
  induction n with
  | zero =>
    show 0 = _
    exact (sm_zero (fun k _ => rfl)).symm
  | succ n ih =>
    show sm n (fun i => sm m (fun j => f i j)) + sm m (fun j => f n j) = sm m (fun j => sm n (fun i => f i j) + f n j)
    rw [sm_add, ih]
theorem sm_mul {n c : Nat} {f : Nat → Nat} : sm n (fun k => c * f k) = c * sm n f := by
  induction n with
  | zero => rfl
  | succ n ih =>
    show sm n (fun k => c * f k) + c * f n = c * (sm n f + f n)
    rw [ih, Nat.mul_add]
/-- the digit at place j of a code of size n -/
def dg (p n c j : Nat) : Nat := c / p ^ (n - 1 - j) % p
def enc (p : Nat) : Nat → (Nat → Nat) → Nat
  | 0, _ => 0
  | n + 1, d => enc p n d * p + d n
theorem dg_lt {p n c j : Nat} (hp : 0 < p) : dg p n c j < p := Nat.mod_lt _ hp
theorem enc_congr {p n : Nat} {d e : Nat → Nat} (h : ∀ k, k < n → d k = e k) : enc p n d = enc p n e := by
  induction n with
  | zero => rfl
  | succ n ih =>
    show enc p n d * p + d n = enc p n e * p + e n
    rw [ih (fun k hk => h k (by omega)), h n (by omega)]
theorem enc_lt {p n : Nat} {d : Nat → Nat} (hp : 0 < p) (h : ∀ k, k < n → d k < p) : enc p n d < p ^ n := by
  induction n with
  | zero => exact Nat.one_pos
  | succ n ih =>
    have h1 := ih (fun k hk => h k (by omega))
    have h2 := h n (by omega)
    show enc p n d * p + d n < p ^ (n + 1)
    rw [Nat.pow_succ]
    have : (enc p n d + 1) * p ≤ p ^ n * p := Nat.mul_le_mul_right p h1
    rw [Nat.succ_mul] at this
    omega
theorem dg_enc {p n j : Nat} {d : Nat → Nat} (hp : 0 < p) (h : ∀ k, k < n → d k < p) (hj : j < n) : dg p n (enc p n d) j = d j := by
  induction n with
  | zero => omega
  | succ n ih =>
    unfold dg
    show (enc p n d * p + d n) / p ^ (n + 1 - 1 - j) % p = d j
    have hn := h n (by omega)
    by_cases hjn : j = n
    · subst hjn
      rw [show j + 1 - 1 - j = 0 by omega, Nat.pow_zero, Nat.div_one, Nat.mul_comm, Nat.mul_add_mod, Nat.mod_eq_of_lt hn]
    · have h1 := ih (fun k hk => h k (by omega)) (by omega)
      unfold dg at h1
      rw [show n + 1 - 1 - j = (n - 1 - j) + 1 by omega, Nat.pow_succ, Nat.mul_comm (p ^ _) p, ← Nat.div_div_eq_div_mul]
      rw [show (enc p n d * p + d n) / p = enc p n d by
        rw [Nat.mul_comm, Nat.mul_add_div hp, Nat.div_eq_of_lt hn, Nat.add_zero]]
      exact h1
theorem dg_succ {p n c j : Nat} (hj : j < n) : dg p (n + 1) c j = dg p n (c / p) j := by
  unfold dg
  rw [show n + 1 - 1 - j = (n - 1 - j) + 1 by omega, Nat.pow_succ, Nat.mul_comm (p ^ _) p, ← Nat.div_div_eq_div_mul]
theorem enc_dg {p n c : Nat} (hp : 0 < p) (hc : c < p ^ n) : enc p n (dg p n c) = c := by
  induction n generalizing c with
  | zero =>
    rw [Nat.pow_zero] at hc
    show 0 = c
    omega
  | succ n ih =>
    show enc p n (dg p (n + 1) c) * p + dg p (n + 1) c n = c
    rw [enc_congr (e := dg p n (c / p)) (fun k hk => dg_succ hk)]
    rw [ih (by rw [Nat.div_lt_iff_lt_mul hp, ← Nat.pow_succ]; exact hc)]
    unfold dg
    rw [show n + 1 - 1 - n = 0 by omega, Nat.pow_zero, Nat.div_one, Nat.mul_comm]
    exact Nat.div_add_mod c p
theorem enc_inj {p n : Nat} {d e : Nat → Nat} (hp : 0 < p) (hd : ∀ k, k < n → d k < p) (he : ∀ k, k < n → e k < p) : enc p n d = enc p n e ↔ ∀ k, k < n → d k = e k := by
  constructor
  · intro h k hk
    have h1 := dg_enc hp hd hk
    rw [h, dg_enc hp he hk] at h1
    exact h1.symm
  · exact enc_congr
theorem enc_zero {p n : Nat} {d : Nat → Nat} (hp : 0 < p) (hd : ∀ k, k < n → d k < p) : enc p n d = 0 ↔ ∀ k, k < n → d k = 0 := by
  have h0 : enc p n (fun _ => 0) = 0 := by
    induction n with
    | zero => rfl
    | succ n ih =>
      show enc p n (fun _ => 0) * p + 0 = 0
      rw [ih (fun k hk => hd k (by omega))]; omega
  constructor
  · intro h
    rw [← h0] at h
    exact (enc_inj hp hd (fun _ _ => hp)).mp h
  · intro h
    rw [← h0]
    exact enc_congr h
/-- the prime is 2, 3 or 5 -/
def isP (p : Nat) : Prop := p = 2 ∨ p = 3 ∨ p = 5
theorem isP.b {p : Nat} (h : isP p) : 2 ≤ p ∧ p ≤ 5 := by rcases h with rfl | rfl | rfl <;> omega
theorem isP.pow {p n : Nat} (h : isP p) (hn : n ≤ 4) : p ^ n ≤ 625 := by
  have h2 : p ^ n ≤ p ^ 4 := Nat.pow_le_pow_right (by have := h.b; omega) hn
  rcases h with rfl | rfl | rfl <;> omega
theorem g_numberIn {p n c j : Nat} (hp : isP p) (hn : n ≤ 4) (hj : j < n) (hc : c < 2147483648) : fX5_numberIn (ci c) (ci n) (ci j) (ci p) = some (ci (dg p n c j)) := by
  have hb := hp.b
  unfold fX5_numberIn
  rw [cl_2, if_pos (by rw [ci_le (by omega) (by omega)]; omega), zF_eq]
  have hst : ∀ k, c / p ^ k ≤ c := fun k => Nat.div_le_self _ _
  have h := ziter_seq (body := fX5_numberIn_B15 (ci n) (ci p)) (fun k => (ci (c / p ^ k), ci (j + 1 + k))) (ci (dg p n c j)) (n - 1 - j) 10000 (by omega) (fun k hk => ?_) ?_
  · simp only [Nat.pow_zero, Nat.div_one, Nat.add_zero] at h
    rw [cl_1, ci_add]
    exact h
  · unfold fX5_numberIn_B15
    have := hst k
    simp only [ci_le (show n < 2147483648 by omega) (show j + 1 + k < 2147483648 by omega)]
    rw [if_neg (by omega)]
    unfold zdiv
    rw [cl_0, if_neg (by rw [ci_eq (by omega) (by omega)]; omega), ci_div (by omega) (by omega), cl_1]
    simp only [Option.bind_some, Option.bind_none, ci_add, Nat.pow_succ, Nat.div_div_eq_div_mul]
    rfl
  · unfold fX5_numberIn_B15
    have := hst (n - 1 - j)
    simp only [ci_le (show n < 2147483648 by omega) (show j + 1 + (n - 1 - j) < 2147483648 by omega)]
    rw [if_pos (by omega)]
    unfold zrem
    rw [cl_0, if_neg (by rw [ci_eq (by omega) (by omega)]; omega), ci_mod (by omega) (by omega)]
    rfl
theorem g_codeOf {p n j v : Nat} (hn : n ≤ 4) (hj : j < n) : fX5_codeOf (ci v) (ci n) (ci j) (ci p) = some (ci (v * p ^ (n - 1 - j))) := by
  unfold fX5_codeOf
  rw [cl_1, ci_sub (by omega), ci_sub (by omega), g_power (by omega)]
  simp only [Option.bind_some, Option.bind_none, ci_mul]
theorem enc_single {p n j v : Nat} (hj : j < n) : enc p n (fun k => if k = j then v else 0) = v * p ^ (n - 1 - j) := by
  induction n with
  | zero => omega
  | succ n ih =>
    show enc p n (fun k => if k = j then v else 0) * p + (if n = j then v else 0) = _
    by_cases hjn : j = n
    · subst hjn
      have h0 : ∀ m, m ≤ j → enc p m (fun k => if k = j then v else 0) = 0 := by
        intro m
        induction m with
        | zero => intro _; rfl
        | succ m ihm =>
          intro hm
          show enc p m (fun k => if k = j then v else 0) * p + (if m = j then v else 0) = 0
          rw [ihm (by omega), if_neg (by omega)]; omega
      rw [h0 j (Nat.le_refl _), if_pos rfl, show j + 1 - 1 - j = 0 by omega]; simp
    · rw [ih (by omega), if_neg (by omega), Nat.add_zero, show n + 1 - 1 - j = (n - 1 - j) + 1 by omega, Nat.pow_succ, Nat.mul_assoc]
theorem g_addedCode {p n c e t : Nat} (hp : isP p) (hn : n ≤ 4) (hc : c < 2147483648) (he : e < 2147483648) (ht : t < p) : fX5_addedCode (ci c) (ci e) (ci t) (ci n) (ci p) = some (ci (enc p n (fun j => (dg p n c j + t * dg p n e j) % p))) := by
  have hb := hp.b
  unfold fX5_addedCode
  rw [zF_eq]
  refine ziter_seq (fun k => (ci (enc p k (fun j => (dg p n c j + t * dg p n e j) % p)), ci k)) _ n 10000 (by omega) (fun k hk => ?_) ?_
  · unfold fX5_addedCode_B6
    have h1 : dg p n c k < p := dg_lt (by omega)
    have h2 : dg p n e k < p := dg_lt (by omega)
    have h3 : t * dg p n e k ≤ 5 * 5 := Nat.mul_le_mul (by omega) (by omega)
    simp only [ci_le (show n < 2147483648 by omega) (show k < 2147483648 by omega)]
    rw [if_neg (by omega), g_numberIn hp hn hk hc, g_numberIn hp hn hk he]
    simp only [Option.bind_some, Option.bind_none, ci_mul, ci_add]
    rw [g_rem (by omega) (by omega) (by omega), cl_1]
    simp only [Option.bind_some, Option.bind_none, ci_mul, ci_add]
    rfl
  · unfold fX5_addedCode_B6
    simp only [ci_le (show n < 2147483648 by omega) (show n < 2147483648 by omega)]
    rw [if_pos (Nat.le_refl _)]; rfl
theorem g_multipliedCodes {p n c e : Nat} (hp : isP p) (hn : n ≤ 4) (hc : c < 2147483648) (he : e < 2147483648) : fX5_multipliedCodes (ci c) (ci e) (ci n) (ci p) = some (ci (sm n (fun j => dg p n c j * dg p n e j) % p)) := by
  have hb := hp.b
  have hs : ∀ k, sm k (fun j => dg p n c j * dg p n e j) ≤ k * 25 := fun k => sm_le (fun j _ => by
    have h1 : dg p n c j < p := dg_lt (by omega)
    have h2 : dg p n e j < p := dg_lt (by omega)
    exact Nat.mul_le_mul (show dg p n c j ≤ 5 by omega) (show dg p n e j ≤ 5 by omega))
  unfold fX5_multipliedCodes
  rw [zF_eq]
  refine ziter_seq (fun k => (ci (sm k (fun j => dg p n c j * dg p n e j)), ci k)) _ n 10000 (by omega) (fun k hk => ?_) ?_
  · unfold fX5_multipliedCodes_B6
    simp only [ci_le (show n < 2147483648 by omega) (show k < 2147483648 by omega)]
    rw [if_neg (by omega), g_numberIn hp hn hk hc, g_numberIn hp hn hk he, cl_1]
    simp only [Option.bind_some, Option.bind_none, ci_mul, ci_add]
    rfl
  · unfold fX5_multipliedCodes_B6
    have := hs n
    simp only [ci_le (show n < 2147483648 by omega) (show n < 2147483648 by omega)]
    rw [if_pos (Nat.le_refl _), g_rem (by omega) (by omega) (by omega)]; rfl
-- 22.bits.lean.txt
/-! BITS: three codes of ten bits in one number -/
def f3 (a b c : Nat) : Nat := 2 ^ 10 * (2 ^ 10 * c + b) + a
theorem f3_lt {a b c : Nat} (ha : a < 1024) (hb : b < 1024) (hc : c < 1024) : f3 a b c < 1073741824 := by
  unfold f3; omega
theorem f3_bit {a b c : Nat} (ha : a < 2 ^ 10) (hb : b < 2 ^ 10) (j : Nat) : (f3 a b c).testBit j = if j < 10 then a.testBit j else if j - 10 < 10 then b.testBit (j - 10) else c.testBit (j - 10 - 10) := by
  unfold f3
  rw [Nat.testBit_two_pow_mul_add _ ha, Nat.testBit_two_pow_mul_add _ hb]
theorem bit_hi {a j : Nat} (ha : a < 2 ^ 10) (hj : ¬ j < 10) : a.testBit j = false := Nat.testBit_lt_two_pow (Nat.lt_of_lt_of_le ha (Nat.pow_le_pow_right (by omega) (by omega)))
theorem f3_or {a b c : Nat} (ha : a < 2 ^ 10) (hb : b < 2 ^ 10) (hc : c < 2 ^ 10) : (a ||| (b <<< 10)) ||| (c <<< 20) = f3 a b c := by
  apply Nat.eq_of_testBit_eq
  intro j
  rw [f3_bit ha hb, Nat.testBit_or, Nat.testBit_or, Nat.testBit_shiftLeft, Nat.testBit_shiftLeft]
  by_cases h1 : j < 10
  · have h2 : ¬ 10 ≤ j := by omega
    have h3 : ¬ 20 ≤ j := by omega
    simp [h1, h2, h3]
  · by_cases h2 : j - 10 < 10
    · have h3 : ¬ 20 ≤ j := by omega
      have h4 : 10 ≤ j := by omega
      simp [h1, h2, h3, h4, bit_hi ha h1]
    · have h3 : 20 ≤ j := by omega
      have h4 : 10 ≤ j := by omega
      simp [h1, h2, h3, h4, bit_hi ha h1, bit_hi hb h2]
      congr 1
theorem f3_get0 {a b c : Nat} (ha : a < 2 ^ 10) (hb : b < 2 ^ 10) : f3 a b c &&& 1023 = a := by
  rw [show (1023 : Nat) = 2 ^ 10 - 1 from rfl, Nat.and_two_pow_sub_one_eq_mod]
  unfold f3; omega
theorem f3_get1 {a b c : Nat} (ha : a < 2 ^ 10) (hb : b < 2 ^ 10) : (f3 a b c >>> 10) &&& 1023 = b := by
  rw [show (1023 : Nat) = 2 ^ 10 - 1 from rfl, Nat.and_two_pow_sub_one_eq_mod, Nat.shiftRight_eq_div_pow]
  unfold f3; omega
theorem f3_get2 {a b c : Nat} (ha : a < 2 ^ 10) (hb : b < 2 ^ 10) (hc : c < 2 ^ 10) : (f3 a b c >>> 20) &&& 1023 = c := by
  rw [show (1023 : Nat) = 2 ^ 10 - 1 from rfl, Nat.and_two_pow_sub_one_eq_mod, Nat.shiftRight_eq_div_pow]
  unfold f3; omega
theorem f3_top {a b c j : Nat} (ha : a < 2 ^ 10) (hb : b < 2 ^ 10) (hc : c < 2 ^ 10) (hj : 30 ≤ j) : (f3 a b c).testBit j = false := Nat.testBit_lt_two_pow (Nat.lt_of_lt_of_le (f3_lt ha hb hc) (Nat.le_trans (by decide : 1073741824 ≤ 2 ^ 30) (Nat.pow_le_pow_right (by omega) hj)))
theorem mask_bit (k j : Nat) (hk : k ≤ 20) : ((1023 <<< k) ^^^ 4294967295).testBit j = (decide (j < 32) ^^ (decide (k ≤ j) && decide (j - k < 10))) := by
  rw [Nat.testBit_xor, Nat.testBit_shiftLeft, show (1023 : Nat) = 2 ^ 10 - 1 from rfl, show (4294967295 : Nat) = 2 ^ 32 - 1 from rfl, Nat.testBit_two_pow_sub_one, Nat.testBit_two_pow_sub_one, Bool.xor_comm]
theorem f3_set0 {a b c x : Nat} (ha : a < 2 ^ 10) (hb : b < 2 ^ 10) (hc : c < 2 ^ 10) (hx : x < 2 ^ 10) : (f3 a b c &&& ((1023 <<< 0) ^^^ 4294967295)) ||| (x <<< 0) = f3 x b c := by
  apply Nat.eq_of_testBit_eq
  intro j
  rw [Nat.testBit_or, Nat.testBit_and, mask_bit 0 j (by omega), f3_bit ha hb, f3_bit hx hb, Nat.testBit_shiftLeft]
  by_cases h1 : j < 10
  · have h2 : j < 32 := by omega
    simp [h1, h2]
  · have hx2 := bit_hi hx h1
    by_cases h2 : j < 32
    · simp [h1, h2, hx2]
    · have h3 : c.testBit (j - 10 - 10) = false := bit_hi hc (by omega)
      have h4 : ¬ j - 10 < 10 := by omega
      simp [h1, h2, hx2, h3, h4]
theorem f3_set1 {a b c x : Nat} (ha : a < 2 ^ 10) (hb : b < 2 ^ 10) (hc : c < 2 ^ 10) (hx : x < 2 ^ 10) : (f3 a b c &&& ((1023 <<< 10) ^^^ 4294967295)) ||| (x <<< 10) = f3 a x c := by
  apply Nat.eq_of_testBit_eq
  intro j
  rw [Nat.testBit_or, Nat.testBit_and, mask_bit 10 j (by omega), f3_bit ha hb, f3_bit ha hx, Nat.testBit_shiftLeft]
  by_cases h1 : j < 10
  · have h2 : j < 32 := by omega
    have h3 : ¬ 10 ≤ j := by omega
    simp [h1, h2, h3]
  · by_cases h4 : j - 10 < 10
    · have h2 : j < 32 := by omega
      have h3 : 10 ≤ j := by omega
      simp [h1, h2, h3, h4]
    · have hx2 := bit_hi hx h4
      by_cases h2 : j < 32
      · simp [h1, h2, hx2, h4]
      · have h3 : c.testBit (j - 10 - 10) = false := bit_hi hc (by omega)
        simp [h1, h2, hx2, h3, h4]
theorem f3_set2 {a b c x : Nat} (ha : a < 2 ^ 10) (hb : b < 2 ^ 10) (hc : c < 2 ^ 10) (hx : x < 2 ^ 10) : (f3 a b c &&& ((1023 <<< 20) ^^^ 4294967295)) ||| (x <<< 20) = f3 a b x := by
  apply Nat.eq_of_testBit_eq
  intro j
  rw [Nat.testBit_or, Nat.testBit_and, mask_bit 20 j (by omega), f3_bit ha hb, f3_bit ha hb, Nat.testBit_shiftLeft, show j - 20 = j - 10 - 10 by omega]
  by_cases h1 : j < 10
  · have h2 : j < 32 := by omega
    have h3 : ¬ 20 ≤ j := by omega
    simp [h1, h2, h3]
  · by_cases h4 : j - 10 < 10
    · have h2 : j < 32 := by omega
      have h3 : ¬ 20 ≤ j := by omega
      simp [h1, h2, h3, h4]
    · have h3 : 20 ≤ j := by omega
      by_cases h5 : j - 10 - 10 < 10
      · have h2 : j < 32 := by omega
        simp [h1, h2, h3, h4, h5]
      · have h6 : c.testBit (j - 10 - 10) = false := bit_hi hc h5
        simp [h1, h3, h4, h5, h6]
theorem f3_xor0 {a b c d e f : Nat} (ha : a < 2 ^ 10) (hb : b < 2 ^ 10) (hd : d < 2 ^ 10) (he : e < 2 ^ 10) : (f3 a b c ^^^ f3 d e f) &&& (1023 <<< 0) = 0 ↔ a = d := by
  constructor
  · intro h
    apply Nat.eq_of_testBit_eq
    intro j
    by_cases h1 : j < 10
    · have h2 := congrArg (fun n => n.testBit j) h
      simp only [Nat.testBit_and, Nat.testBit_xor, Nat.testBit_shiftLeft, f3_bit ha hb, f3_bit hd he, Nat.zero_testBit, show (1023 : Nat) = 2 ^ 10 - 1 from rfl, Nat.testBit_two_pow_sub_one] at h2
      simp [h1] at h2
      exact h2
    · rw [bit_hi ha h1, bit_hi hd h1]
  · intro h
    subst h
    apply Nat.eq_of_testBit_eq
    intro j
    rw [Nat.testBit_and, Nat.testBit_xor, Nat.testBit_shiftLeft, f3_bit ha hb, f3_bit ha he, Nat.zero_testBit, show (1023 : Nat) = 2 ^ 10 - 1 from rfl, Nat.testBit_two_pow_sub_one]
    by_cases h1 : j < 10
    · simp [h1]
    · simp [h1]
theorem f3_xor1 {a b c d e f : Nat} (ha : a < 2 ^ 10) (hb : b < 2 ^ 10) (hd : d < 2 ^ 10) (he : e < 2 ^ 10) : (f3 a b c ^^^ f3 d e f) &&& (1023 <<< 10) = 0 ↔ b = e := by
  constructor
  · intro h
    apply Nat.eq_of_testBit_eq
    intro j
    by_cases h1 : j < 10
    · have h2 := congrArg (fun n => n.testBit (j + 10)) h
      simp only [Nat.testBit_and, Nat.testBit_xor, Nat.testBit_shiftLeft, f3_bit ha hb, f3_bit hd he, Nat.zero_testBit, show (1023 : Nat) = 2 ^ 10 - 1 from rfl, Nat.testBit_two_pow_sub_one] at h2
      simp [h1] at h2
      exact h2
    · rw [bit_hi hb h1, bit_hi he h1]
  · intro h
    subst h
    apply Nat.eq_of_testBit_eq
    intro j
    rw [Nat.testBit_and, Nat.testBit_xor, Nat.testBit_shiftLeft, f3_bit ha hb, f3_bit hd hb, Nat.zero_testBit, show (1023 : Nat) = 2 ^ 10 - 1 from rfl, Nat.testBit_two_pow_sub_one]
    by_cases h1 : j < 10
    · have h2 : ¬ 10 ≤ j := by omega
      simp [h2]
    · by_cases h2 : j - 10 < 10
      · simp [h1, h2]
      · simp [h2]
theorem f3_xor2 {a b c d e f : Nat} (ha : a < 2 ^ 10) (hb : b < 2 ^ 10) (hc : c < 2 ^ 10) (hd : d < 2 ^ 10) (he : e < 2 ^ 10) (hf : f < 2 ^ 10) : (f3 a b c ^^^ f3 d e f) &&& (1023 <<< 20) = 0 ↔ c = f := by
  constructor
  · intro h
    apply Nat.eq_of_testBit_eq
    intro j
    by_cases h1 : j < 10
    · have h2 := congrArg (fun n => n.testBit (j + 20)) h
      simp only [Nat.testBit_and, Nat.testBit_xor, Nat.testBit_shiftLeft, f3_bit ha hb, f3_bit hd he, Nat.zero_testBit, show (1023 : Nat) = 2 ^ 10 - 1 from rfl, Nat.testBit_two_pow_sub_one] at h2
      rw [show j + 20 - 10 - 10 = j by omega] at h2
      have h3 : ¬ j + 20 < 10 := by omega
      have h4 : ¬ j + 20 - 10 < 10 := by omega
      simp [h1, h3, h4] at h2
      exact h2
    · rw [bit_hi hc h1, bit_hi hf h1]
  · intro h
    subst h
    apply Nat.eq_of_testBit_eq
    intro j
    rw [Nat.testBit_and, Nat.testBit_xor, Nat.testBit_shiftLeft, f3_bit ha hb, f3_bit hd he, Nat.zero_testBit, show (1023 : Nat) = 2 ^ 10 - 1 from rfl, Nat.testBit_two_pow_sub_one]
    by_cases h1 : 20 ≤ j
    · have h3 : ¬ j < 10 := by omega
      have h4 : ¬ j - 10 < 10 := by omega
      simp [h3, h4]
    · simp [h1]
-- Int32 and bits
theorem ci_bv (n : Nat) : (ci n).toBitVec = BitVec.ofNat 32 n := rfl
theorem ci_and (a b : Nat) : ci a &&& ci b = ci (a &&& b) := by
  apply Int32.toBitVec_inj.mp
  rw [Int32.toBitVec_and, ci_bv, ci_bv, ci_bv, BitVec.ofNat_and]
theorem ci_or (a b : Nat) : ci a ||| ci b = ci (a ||| b) := by
  apply Int32.toBitVec_inj.mp
  rw [Int32.toBitVec_or, ci_bv, ci_bv, ci_bv, BitVec.ofNat_or]
theorem ci_xor (a b : Nat) : ci a ^^^ ci b = ci (a ^^^ b) := by
  apply Int32.toBitVec_inj.mp
  rw [Int32.toBitVec_xor, ci_bv, ci_bv, ci_bv, BitVec.ofNat_xor]
theorem ci_m1 : (-1 : Int32) = ci 4294967295 := by decide
theorem ci_shl {a k : Nat} (hk : k < 32) : ci a <<< (ci k &&& 31) = ci (a <<< k) := by
  have h1 : ci k &&& 31 = ci k := by
    rw [cl_31, ci_and, show (31 : Nat) = 2 ^ 5 - 1 from rfl, Nat.and_two_pow_sub_one_eq_mod, Nat.mod_eq_of_lt (by omega)]
  rw [h1]
  apply Int32.toBitVec_inj.mp
  rw [Int32.toBitVec_shiftLeft, ci_bv, ci_bv, ci_bv]
  have h2 : (BitVec.ofNat 32 k).smod 32 = BitVec.ofNat 32 k := by
    apply BitVec.eq_of_toInt_eq
    rw [BitVec.toInt_smod]
    have e1 : (BitVec.ofNat 32 k).toInt = (k : Int) := by
      rw [BitVec.toInt_eq_toNat_of_lt (by rw [BitVec.toNat_ofNat]; omega), BitVec.toNat_ofNat, Nat.mod_eq_of_lt (by omega)]
    rw [e1]
    have e2 : (32 : BitVec 32).toInt = 32 := by decide
    rw [e2]
    exact Int.fmod_eq_of_lt (by omega) (by omega)
  rw [h2]
  apply BitVec.eq_of_toNat_eq
  rw [BitVec.shiftLeft_eq', BitVec.toNat_shiftLeft, BitVec.toNat_ofNat, BitVec.toNat_ofNat, BitVec.toNat_ofNat, Nat.mod_eq_of_lt (show k < 2 ^ 32 by omega), Nat.shiftLeft_eq, Nat.shiftLeft_eq, Nat.mod_mul_mod]
theorem ci_ushr {a k : Nat} (ha : a < 4294967296) (hk : k < 32) : ((ci a).toUInt32 >>> ((ci k).toUInt32 &&& Int32.toUInt32 31)).toInt32 = ci (a >>> k) := by
  apply Int32.toBitVec_inj.mp
  apply BitVec.eq_of_toNat_eq
  show ((ci a).toUInt32 >>> ((ci k).toUInt32 &&& Int32.toUInt32 31)).toNat = (BitVec.ofNat 32 (a >>> k)).toNat
  have e1 : (ci a).toUInt32.toNat = a := by
    show (BitVec.ofNat 32 a).toNat = a
    rw [BitVec.toNat_ofNat, Nat.mod_eq_of_lt (by omega)]
  have e2 : (ci k).toUInt32.toNat = k := by
    show (BitVec.ofNat 32 k).toNat = k
    rw [BitVec.toNat_ofNat, Nat.mod_eq_of_lt (by omega)]
  have e3 : (Int32.toUInt32 31).toNat = 2 ^ 5 - 1 := by decide
  rw [UInt32.toNat_shiftRight, UInt32.toNat_and, e1, e2, e3, Nat.and_two_pow_sub_one_eq_mod, Nat.mod_eq_of_lt (show k < 2 ^ 5 by omega), Nat.mod_eq_of_lt hk, BitVec.toNat_ofNat]
  exact (Nat.mod_eq_of_lt (Nat.lt_of_le_of_lt (Nat.shiftRight_le a k) (by omega))).symm
