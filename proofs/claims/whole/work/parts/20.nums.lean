/-! NUMBERS: Int32 out of Nat; loops; reads and writes -/
def ci (n : Nat) : Int32 := Int32.ofNat n
theorem cl_0 : (0 : Int32) = ci 0 := rfl
theorem cl_1 : (1 : Int32) = ci 1 := rfl
theorem cl_2 : (2 : Int32) = ci 2 := rfl
theorem cl_3 : (3 : Int32) = ci 3 := rfl
theorem cl_4 : (4 : Int32) = ci 4 := rfl
theorem cl_5 : (5 : Int32) = ci 5 := rfl
theorem cl_6 : (6 : Int32) = ci 6 := rfl
theorem cl_7 : (7 : Int32) = ci 7 := rfl
theorem cl_8 : (8 : Int32) = ci 8 := rfl
theorem cl_10 : (10 : Int32) = ci 10 := rfl
theorem cl_11 : (11 : Int32) = ci 11 := rfl
theorem cl_12 : (12 : Int32) = ci 12 := rfl
theorem cl_15 : (15 : Int32) = ci 15 := rfl
theorem cl_16 : (16 : Int32) = ci 16 := rfl
theorem cl_20 : (20 : Int32) = ci 20 := rfl
theorem cl_23 : (23 : Int32) = ci 23 := rfl
theorem cl_31 : (31 : Int32) = ci 31 := rfl
theorem cl_32 : (32 : Int32) = ci 32 := rfl
theorem cl_39 : (39 : Int32) = ci 39 := rfl
theorem cl_40 : (40 : Int32) = ci 40 := rfl
theorem cl_41 : (41 : Int32) = ci 41 := rfl
theorem cl_48 : (48 : Int32) = ci 48 := rfl
theorem cl_63 : (63 : Int32) = ci 63 := rfl
theorem cl_64 : (64 : Int32) = ci 64 := rfl
theorem cl_80 : (80 : Int32) = ci 80 := rfl
theorem cl_105 : (105 : Int32) = ci 105 := rfl
theorem cl_120 : (120 : Int32) = ci 120 := rfl
theorem cl_127 : (127 : Int32) = ci 127 := rfl
theorem cl_128 : (128 : Int32) = ci 128 := rfl
theorem cl_200 : (200 : Int32) = ci 200 := rfl
theorem cl_255 : (255 : Int32) = ci 255 := rfl
theorem cl_480 : (480 : Int32) = ci 480 := rfl
theorem cl_1023 : (1023 : Int32) = ci 1023 := rfl
theorem cl_1024 : (1024 : Int32) = ci 1024 := rfl
theorem cl_4095 : (4095 : Int32) = ci 4095 := rfl
theorem cl_4096 : (4096 : Int32) = ci 4096 := rfl
theorem cl_13849 : (13849 : Int32) = ci 13849 := rfl
theorem cl_25173 : (25173 : Int32) = ci 25173 := rfl
theorem cl_65535 : (65535 : Int32) = ci 65535 := rfl
theorem cl_65536 : (65536 : Int32) = ci 65536 := rfl
theorem cl_m1 : (-1 : Int32) = Int32.ofInt (-1) := rfl
theorem ci_toInt {n : Nat} (h : n < 2147483648) : (ci n).toInt = (n : Int) := Int32.toInt_ofNat_of_lt h
theorem ci_nat {n : Nat} (h : n < 2147483648) : (ci n).toNatClampNeg = n := by
  unfold Int32.toNatClampNeg
  rw [ci_toInt h]
  exact Int.toNat_natCast n
theorem ci_add (a b : Nat) : ci a + ci b = ci (a + b) := (Int32.ofNat_add a b).symm
theorem ci_mul (a b : Nat) : ci a * ci b = ci (a * b) := (Int32.ofNat_mul a b).symm
theorem ci_sub {a b : Nat} (h : b ≤ a) : ci a - ci b = ci (a - b) := by
  have h1 : ci (a - b) + ci b = ci a := by rw [ci_add, Nat.sub_add_cancel h]
  rw [← h1, Int32.add_sub_cancel]
theorem ci_lt {a b : Nat} (ha : a < 2147483648) (hb : b < 2147483648) : (ci a < ci b) ↔ a < b := by
  rw [Int32.lt_iff_toInt_lt, ci_toInt ha, ci_toInt hb]; omega
theorem ci_le {a b : Nat} (ha : a < 2147483648) (hb : b < 2147483648) : (ci a ≤ ci b) ↔ a ≤ b := by
  rw [Int32.le_iff_toInt_le, ci_toInt ha, ci_toInt hb]; omega
theorem ci_eq {a b : Nat} (ha : a < 2147483648) (hb : b < 2147483648) : (ci a = ci b) ↔ a = b := by
  constructor
  · intro h
    have h1 := congrArg Int32.toInt h
    rw [ci_toInt ha, ci_toInt hb] at h1
    omega
  · intro h; rw [h]
theorem ci_of {x : Int32} (h : 0 ≤ x) : ∃ n : Nat, n < 2147483648 ∧ x = ci n := by
  rw [Int32.le_iff_toInt_le] at h
  have h0 : (0 : Int32).toInt = 0 := rfl
  have h2 := Int32.toInt_lt x
  refine ⟨x.toInt.toNat, by omega, ?_⟩
  apply Int32.toInt_inj.mp
  rw [ci_toInt (by omega)]
  omega
theorem ci_div {a b : Nat} (ha : a < 2147483648) (hb : b < 2147483648) : ci a / ci b = ci (a / b) := by
  by_cases h0 : b = 0
  · subst h0
    rw [show ci 0 = 0 from rfl, Int32.div_zero, Nat.div_zero]; rfl
  apply Int32.toInt_inj.mp
  have hd : a / b ≤ a := Nat.div_le_self a b
  rw [ci_toInt (by omega), Int32.toInt_div_of_ne_right, ci_toInt ha, ci_toInt hb]
  · exact (Int.ofNat_tdiv a b).symm ▸ rfl
  · intro h
    have h1 := congrArg Int32.toInt h
    rw [ci_toInt hb] at h1
    have : (-1 : Int32).toInt = -1 := rfl
    omega
theorem ci_mod {a b : Nat} (ha : a < 2147483648) (hb : b < 2147483648) : ci a % ci b = ci (a % b) := by
  apply Int32.toInt_inj.mp
  have hd : a % b ≤ a := Nat.mod_le a b
  rw [Int32.toInt_mod, ci_toInt ha, ci_toInt hb, ci_toInt (by omega)]
  exact (Int.ofNat_tmod a b).symm ▸ rfl
theorem ci_nneg {n : Nat} (h : n < 2147483648) : ¬ ci n < 0 := by
  rw [cl_0, ci_lt h (by omega)]; omega
-- loops
theorem ziter_seq {σ ρ : Type} {body : σ → Option (σ ⊕ ρ)} (st : Nat → σ) (r : ρ) : ∀ (n N : Nat), n < N → (∀ k, k < n → body (st k) = some (.inl (st (k + 1)))) → body (st n) = some (.inr r) → ziter body N (st 0) = some r := by
  have key : ∀ (m n N : Nat), m ≤ n → m < N → (∀ k, k < n → body (st k) = some (.inl (st (k + 1)))) → body (st n) = some (.inr r) → ziter body N (st (n - m)) = some r := by
    intro m
    induction m with
    | zero =>
      intro n N h1 h2 h3 h4
      cases N with
      | zero => omega
      | succ N =>
        unfold ziter
        rw [Nat.sub_zero, h4]
    | succ m ih =>
      intro n N h1 h2 h3 h4
      cases N with
      | zero => omega
      | succ N =>
        unfold ziter
        rw [h3 (n - (m + 1)) (by omega)]
        have := ih n N (by omega) (by omega) h3 h4
        rw [show n - (m + 1) + 1 = n - m by omega]
        exact this
  intro n N h1 h2 h3
  have := key n n N (Nat.le_refl _) h1 h2 h3
  rwa [Nat.sub_self] at this
/-- a loop by an invariant and a measure -/
theorem ziter_inv {σ ρ : Type} {body : σ → Option (σ ⊕ ρ)} (I : σ → Prop) (μ : σ → Nat) (Q : ρ → Prop) (h : ∀ x, I x → (∃ y, body x = some (.inl y) ∧ I y ∧ μ y < μ x) ∨ ∃ r, body x = some (.inr r) ∧ Q r) : ∀ (N : Nat) (x : σ), I x → μ x < N → ∃ r, ziter body N x = some r ∧ Q r := by
  intro N
  induction N with
  | zero => intro x _ h2; omega
  | succ N ih =>
    intro x hx hm
    unfold ziter
    rcases h x hx with ⟨y, h1, h2, h3⟩ | ⟨r, h1, h2⟩
    · rw [h1]; exact ih y h2 (by omega)
    · rw [h1]; exact ⟨r, rfl, h2⟩
theorem zF_eq : zF = 10000 := rfl
theorem zex_some {σ ρ : Type} (r : ρ) : (zex (some r) : Option (σ ⊕ ρ)) = some (.inr r) := rfl
-- arrays
def zIA (S : ZS) (a N : Nat) (f : Nat → Int32) : Prop := S.1 a = some (.inl (0, N, .inl f))
def zJA (S : ZS) (a N : Nat) (f : Nat → Int64) : Prop := S.1 a = some (.inl (1, N, .inr (.inl f)))
def zZA (S : ZS) (a N : Nat) (f : Nat → Int32) : Prop := S.1 a = some (.inl (2, N, .inl f))
def zOb (S : ZS) (a k : Nat) (fs : List Value) : Prop := S.1 a = some (.inr (k, fs))
def zwI (S : ZS) (a N : Nat) (f : Nat → Int32) : ZS := (va_up S.1 a (some (.inl (0, N, .inl f))), S.2)
def zwJ (S : ZS) (a N : Nat) (f : Nat → Int64) : ZS := (va_up S.1 a (some (.inl (1, N, .inr (.inl f)))), S.2)
def zwZ (S : ZS) (a N : Nat) (f : Nat → Int32) : ZS := (va_up S.1 a (some (.inl (2, N, .inl f))), S.2)
def zwO (S : ZS) (a k : Nat) (fs : List Value) : ZS := (va_up S.1 a (some (.inr (k, fs))), S.2)
theorem zaI_ci {S : ZS} {a N i : Nat} {f : Nat → Int32} (h : zIA S a N f) (hi : i < N) (hN : N < 2147483648) : zaI S a 0 (ci i) = some (f i) := by
  unfold zaI
  rw [show S.1 a = _ from h]
  simp only [ci_nat (show i < 2147483648 by omega)]
  rw [if_pos ⟨trivial, fun q => q.elim (ci_nneg (by omega)) (by omega)⟩]
theorem zaZ_ci {S : ZS} {a N i : Nat} {f : Nat → Int32} (h : zZA S a N f) (hi : i < N) (hN : N < 2147483648) : zaI S a 2 (ci i) = some (f i) := by
  unfold zaI
  rw [show S.1 a = _ from h]
  simp only [ci_nat (show i < 2147483648 by omega)]
  rw [if_pos ⟨trivial, fun q => q.elim (ci_nneg (by omega)) (by omega)⟩]
theorem zaJ_ci {S : ZS} {a N i : Nat} {f : Nat → Int64} (h : zJA S a N f) (hi : i < N) (hN : N < 2147483648) : zaJ S a (ci i) = some (f i) := by
  unfold zaJ
  rw [show S.1 a = _ from h]
  simp only [ci_nat (show i < 2147483648 by omega)]
  rw [if_pos ⟨trivial, fun q => q.elim (ci_nneg (by omega)) (by omega)⟩]
theorem zsI_ci {S : ZS} {a N i : Nat} {f : Nat → Int32} (v : Int32) (h : zIA S a N f) (hi : i < N) (hN : N < 2147483648) : zsI S a 0 (ci i) v = some (zwI S a N (va_up f i v)) := by
  unfold zsI
  rw [show S.1 a = _ from h]
  simp only [ci_nat (show i < 2147483648 by omega)]
  rw [if_pos ⟨trivial, fun q => q.elim (ci_nneg (by omega)) (by omega)⟩]
  rfl
theorem zsZ_ci {S : ZS} {a N i : Nat} {f : Nat → Int32} (v : Int32) (h : zZA S a N f) (hi : i < N) (hN : N < 2147483648) : zsI S a 2 (ci i) v = some (zwZ S a N (va_up f i v)) := by
  unfold zsI
  rw [show S.1 a = _ from h]
  simp only [ci_nat (show i < 2147483648 by omega)]
  rw [if_pos ⟨trivial, fun q => q.elim (ci_nneg (by omega)) (by omega)⟩]
  rfl
theorem zsJ_ci {S : ZS} {a N i : Nat} {f : Nat → Int64} (v : Int64) (h : zJA S a N f) (hi : i < N) (hN : N < 2147483648) : zsJ S a (ci i) v = some (zwJ S a N (va_up f i v)) := by
  unfold zsJ
  rw [show S.1 a = _ from h]
  simp only [ci_nat (show i < 2147483648 by omega)]
  rw [if_pos ⟨trivial, fun q => q.elim (ci_nneg (by omega)) (by omega)⟩]
  rfl
theorem zalI {S : ZS} {a N : Nat} {f : Nat → Int32} (h : zIA S a N f) : zal S a = some (ci N) := by
  unfold zal
  rw [show S.1 a = _ from h]
  rfl
theorem zalJ {S : ZS} {a N : Nat} {f : Nat → Int64} (h : zJA S a N f) : zal S a = some (ci N) := by
  unfold zal
  rw [show S.1 a = _ from h]
  rfl
theorem zgI_ob {S : ZS} {a k j : Nat} {fs : List Value} {v : Int32} (h : zOb S a k fs) (hv : fs[j]? = some (.int v)) : zgI S a k j = some v := by
  unfold zgI
  rw [show S.1 a = _ from h]
  simp only [hv, if_true]
theorem zgR_ob {S : ZS} {a k j : Nat} {fs : List Value} {v : Nat} (h : zOb S a k fs) (hv : fs[j]? = some (.ref v)) : zgR S a k j = some v := by
  unfold zgR
  rw [show S.1 a = _ from h]
  simp only [hv, if_true]
theorem zpF_ob {S : ZS} {a k j : Nat} {fs : List Value} (v : Value) (h : zOb S a k fs) (hj : j < fs.length) : zpF S a k j v = some (zwO S a k (fs.set j v)) := by
  unfold zpF
  rw [show S.1 a = _ from h]
  simp only [if_pos hj, if_true]
  rfl
theorem zcl_ob {α : Type} {S : ZS} {a k : Nat} {fs : List Value} {o : Option α} (h : zOb S a k fs) : zcl S a k o = o := by
  unfold zcl
  rw [show S.1 a = _ from h]
  simp only [if_true]
-- reading behind a write
theorem zwI_self {S : ZS} {a N : Nat} {f : Nat → Int32} : zIA (zwI S a N f) a N f := va_up_self _ _ _
theorem zwJ_self {S : ZS} {a N : Nat} {f : Nat → Int64} : zJA (zwJ S a N f) a N f := va_up_self _ _ _
theorem zwZ_self {S : ZS} {a N : Nat} {f : Nat → Int32} : zZA (zwZ S a N f) a N f := va_up_self _ _ _
theorem zwO_self {S : ZS} {a k : Nat} {fs : List Value} : zOb (zwO S a k fs) a k fs := va_up_self _ _ _
theorem zwI_ne {S : ZS} {a b N : Nat} {f : Nat → Int32} (h : b ≠ a) : (zwI S a N f).1 b = S.1 b := va_up_ne _ _ h
theorem zwJ_ne {S : ZS} {a b N : Nat} {f : Nat → Int64} (h : b ≠ a) : (zwJ S a N f).1 b = S.1 b := va_up_ne _ _ h
theorem zwZ_ne {S : ZS} {a b N : Nat} {f : Nat → Int32} (h : b ≠ a) : (zwZ S a N f).1 b = S.1 b := va_up_ne _ _ h
theorem zwO_ne {S : ZS} {a b k : Nat} {fs : List Value} (h : b ≠ a) : (zwO S a k fs).1 b = S.1 b := va_up_ne _ _ h
theorem zwI_2 {S : ZS} {a N : Nat} {f g : Nat → Int32} : zwI (zwI S a N f) a N g = zwI S a N g := by
  unfold zwI
  congr 1
  funext b
  by_cases h : b = a
  · subst h; simp [va_up]
  · simp [va_up, h]
theorem zwI_same {S : ZS} {a N : Nat} {f : Nat → Int32} (h : zIA S a N f) : zwI S a N f = S := by
  unfold zwI
  refine Prod.ext ?_ rfl
  funext b
  by_cases hb : b = a
  · subst hb; rw [show S.1 b = _ from h]; simp [va_up]
  · simp [va_up, hb]
theorem zwJ_2 {S : ZS} {a N : Nat} {f g : Nat → Int64} : zwJ (zwJ S a N f) a N g = zwJ S a N g := by
  unfold zwJ
  congr 1
  funext b
  by_cases h : b = a
  · subst h; simp [va_up]
  · simp [va_up, h]
theorem zwJ_same {S : ZS} {a N : Nat} {f : Nat → Int64} (h : zJA S a N f) : zwJ S a N f = S := by
  unfold zwJ
  refine Prod.ext ?_ rfl
  funext b
  by_cases hb : b = a
  · subst hb; rw [show S.1 b = _ from h]; simp [va_up]
  · simp [va_up, hb]
theorem zwZ_2 {S : ZS} {a N : Nat} {f g : Nat → Int32} : zwZ (zwZ S a N f) a N g = zwZ S a N g := by
  unfold zwZ
  congr 1
  funext b
  by_cases h : b = a
  · subst h; simp [va_up]
  · simp [va_up, h]
theorem zwZ_same {S : ZS} {a N : Nat} {f : Nat → Int32} (h : zZA S a N f) : zwZ S a N f = S := by
  unfold zwZ
  refine Prod.ext ?_ rfl
  funext b
  by_cases hb : b = a
  · subst hb; rw [show S.1 b = _ from h]; simp [va_up]
  · simp [va_up, hb]
-- the class's get and put
theorem g_get {S : ZS} {a N i : Nat} {f : Nat → Int32} (h : zIA S a N f) (hi : i < 2147483648) (hN : N < 2147483648) : fX5_get a (ci i) S = some (if i < N then f i else 0) := by
  unfold fX5_get
  rw [if_neg (ci_nneg hi), zalI h]
  simp only [Option.bind_some, Option.bind_none, ci_le hN hi]
  by_cases hc : N ≤ i
  · rw [if_pos hc, if_neg (by omega)]; rfl
  · rw [if_neg hc, zaI_ci h (by omega) hN, if_pos (by omega)]; rfl
theorem g_put {S : ZS} {a N i : Nat} {f : Nat → Int32} (v : Int32) (h : zIA S a N f) (hi : i < N) (hN : N < 2147483648) : fX5_put a (ci i) v S = some (zwI S a N (va_up f i v)) := by
  unfold fX5_put
  rw [if_neg (ci_nneg (by omega)), zalI h]
  simp only [Option.bind_some, Option.bind_none, ci_le hN (show i < 2147483648 by omega)]
  rw [if_neg (by omega), zsI_ci v h hi hN]; rfl
theorem g_getJ {S : ZS} {a N i : Nat} {f : Nat → Int64} (h : zJA S a N f) (hi : i < 2147483648) (hN : N < 2147483648) : fX5_getLong a (ci i) S = some (if i < N then f i else 0) := by
  unfold fX5_getLong
  rw [if_neg (ci_nneg hi), zalJ h]
  simp only [Option.bind_some, Option.bind_none, ci_le hN hi]
  by_cases hc : N ≤ i
  · rw [if_pos hc, if_neg (by omega)]; rfl
  · rw [if_neg hc, zaJ_ci h (by omega) hN, if_pos (by omega)]; rfl
theorem g_putJ {S : ZS} {a N i : Nat} {f : Nat → Int64} (v : Int64) (h : zJA S a N f) (hi : i < N) (hN : N < 2147483648) : fX5_putLong a (ci i) v S = some (zwJ S a N (va_up f i v)) := by
  unfold fX5_putLong
  rw [if_neg (ci_nneg (by omega)), zalJ h]
  simp only [Option.bind_some, Option.bind_none, ci_le hN (show i < 2147483648 by omega)]
  rw [if_neg (by omega), zsJ_ci v h hi hN]; rfl
theorem g_rem {a b : Nat} (ha : a < 2147483648) (hb : b < 2147483648) (h0 : 0 < b) : fX5_remainder (ci a) (ci b) = some (ci (a % b)) := by
  unfold fX5_remainder
  rw [cl_0, if_neg (by rw [ci_le hb (by omega)]; omega)]
  unfold zrem
  rw [cl_0, if_neg (by rw [ci_eq hb (by omega)]; omega), ci_mod ha hb]
  rfl
theorem g_quo {a b : Nat} (ha : a < 2147483648) (hb : b < 2147483648) (h0 : 0 < b) : fX5_quotient (ci a) (ci b) = some (ci (a / b)) := by
  unfold fX5_quotient
  rw [cl_0, if_neg (by rw [ci_le hb (by omega)]; omega)]
  unfold zdiv
  rw [cl_0, if_neg (by rw [ci_eq hb (by omega)]; omega), ci_div ha hb]
  rfl
theorem g_idx (i j k : Nat) : fX0_indexOf (ci i) (ci j) (ci k) = some (ci ((i * 4 + j) * 4 + k)) := by
  unfold fX0_indexOf
  rw [cl_4]
  simp only [ci_add, ci_mul]
theorem g_power {p n : Nat} (hn : n < 10000) : fX5_power (ci p) (ci n) = some (ci (p ^ n)) := by
  unfold fX5_power
  rw [zF_eq]
  refine ziter_seq (fun k => (ci (p ^ k), ci k)) _ n 10000 hn (fun k hk => ?_) ?_
  · unfold fX5_power_B4
    simp only [ci_le (show n < 2147483648 by omega) (show k < 2147483648 by omega)]
    rw [if_neg (by omega), cl_1, ci_mul, ci_add, Nat.pow_succ]
  · unfold fX5_power_B4
    simp only [ci_le (show n < 2147483648 by omega) (show n < 2147483648 by omega)]
    rw [if_pos (Nat.le_refl _)]; rfl
