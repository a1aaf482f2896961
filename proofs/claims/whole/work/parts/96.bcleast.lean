/-! LAW CASES 18, 19: the least in the class -/
def enC (N : Nat) (T : Nat → Bool) : Nat := msk N (fun s => T (N - 1 - s))
theorem enC_bit {N : Nat} {T : Nat → Bool} (i : Nat) : (enC N T).testBit i = (decide (i < N) && T (N - 1 - i)) := msk_bit i
theorem enC_lt {N : Nat} {T : Nat → Bool} : enC N T < 2 ^ N := msk_lt
theorem enC_12 {N : Nat} {T : Nat → Bool} (hN : N ≤ 12) : enC N T < 4096 := by
  have h1 := enC_lt (N := N) (T := T)
  have h2 : 2 ^ N ≤ 2 ^ 12 := Nat.pow_le_pow_right (by omega) hN
  have h3 : (2 : Nat) ^ 12 = 4096 := rfl
  omega
theorem enC_inj {N : Nat} {T U : Nat → Bool} : enC N T = enC N U ↔ ∀ t, t < N → T t = U t := by
  constructor
  · intro h t ht
    have := congrArg (fun x => x.testBit (N - 1 - t)) h
    simp only [enC_bit] at this
    rw [decide_eq_true (show N - 1 - t < N by omega), show N - 1 - (N - 1 - t) = t by omega, Bool.true_and, Bool.true_and] at this
    exact this
  · intro h
    exact msk_congr (fun i hi => h _ (by omega))
theorem enC_xor {N : Nat} {T U : Nat → Bool} : enC N T ^^^ enC N U = enC N (xt T U) := Nat.eq_of_testBit_eq (fun i => by
  rw [Nat.testBit_xor, enC_bit, enC_bit, enC_bit]
  unfold xt
  cases decide (i < N) <;> cases T (N - 1 - i) <;> cases U (N - 1 - i) <;> rfl)
theorem enC_app {n k : Nat} {T : Nat → Bool} : (enC n T) <<< k ||| enC k (fun t => T (n + t)) = enC (n + k) T := Nat.eq_of_testBit_eq (fun i => by
  rw [Nat.testBit_or, Nat.testBit_shiftLeft, enC_bit, enC_bit, enC_bit]
  by_cases h1 : i < k
  · rw [decide_eq_false (show ¬ i ≥ k by omega), decide_eq_true h1, decide_eq_true (show i < n + k by omega), Bool.false_and, Bool.false_or, Bool.true_and, Bool.true_and, show n + (k - 1 - i) = n + k - 1 - i by omega]
  · rw [decide_eq_true (show i ≥ k by omega), decide_eq_false h1, Bool.true_and, Bool.false_and, Bool.or_false]
    by_cases h2 : i < n + k
    · rw [decide_eq_true h2, decide_eq_true (show i - k < n by omega), show n - 1 - (i - k) = n + k - 1 - i by omega]
    · rw [decide_eq_false h2, decide_eq_false (show ¬ i - k < n by omega)]; rfl)
theorem enC_code {n f : Nat} (hf : f < 2 ^ n) : enC n (vcF n f) = f := Nat.eq_of_testBit_eq (fun i => by
  rw [enC_bit]
  by_cases h1 : i < n
  · rw [decide_eq_true h1, Bool.true_and, Nat.testBit_eq_decide_div_mod_eq]
    unfold vcF dg
    rw [show n - 1 - (n - 1 - i) = i by omega]
  · rw [decide_eq_false h1, Bool.false_and]
    exact (Nat.testBit_lt_two_pow (Nat.lt_of_lt_of_le hf (Nat.pow_le_pow_right (by omega) (by omega)))).symm)
theorem enC_false {n : Nat} : enC n (fun _ => false) = 0 := msk_0
theorem ci_shl' {a k : Nat} (hk : k < 32) : ci a <<< (ci k &&& 31) = ci (a <<< k) := ci_shl hk
theorem dg2 {n f i : Nat} : dg 2 n f i = bn (vcF n f i) := by
  have hl : dg 2 n f i < 2 := dg_lt (by omega)
  unfold vcF
  by_cases h : dg 2 n f i = 1
  · rw [decide_eq_true h, h]; rfl
  · rw [decide_eq_false h]; show _ = 0; omega
theorem sT_row {b d m k : Nat} {x y z : Nat → Bool} (hk : k < d) : sT b d x y z (m * d + k) = (x (m / b) && (y (m % b) && z k)) := by
  unfold sT
  rw [md_div hk, md_mod hk]
theorem c_bits2 {S : ZS} {c n a b d q f s u i : Nat} {g : Nat → Nat} (h : zCu S c n a b d q g) (hz : szOK a b d) (hs : s < 2 ^ b) (hu : u < 2 ^ d) (hi : i < a) : ziter (fX2_bitsOfSingle_B31 c (ci f) (ci s) (ci u) (ci i) (ci (dg 2 a f i)) S) zF (ci (enC ((i * b + 0) * d) (sT b d (vcF a f) (vcF b s) (vcF d u))), ci 0) = some (.inl (ci (enC ((i * b + b) * d) (sT b d (vcF a f) (vcF b s) (vcF d u))), ci (i + 1))) := by
  unfold szOK at hz
  have hp2 : isP 2 := Or.inl rfl
  have hsl := hp2.pow (n := b) (by omega)
  refine ziter_seq (fun j => (ci (enC ((i * b + j) * d) (sT b d (vcF a f) (vcF b s) (vcF d u))), ci j)) _ b zF (by rw [zF_eq]; omega) (fun j hj => ?_) ?_
  · unfold fX2_bitsOfSingle_B31
    simp only []
    rw [zgI_ob h.1 rfl, Option.bind_some, if_neg (by rw [ci_le (by omega) (by omega)]; omega), Option.bind_some, cl_2, g_numberIn hp2 hz.2.1.2 hj (by omega), Option.bind_some, zgI_ob h.1 rfl, Option.bind_some, ci_shl (by omega), ci_mul, ci_mul, ci_or, cl_1, ci_add]
    have e : dg 2 a f i * dg 2 b s j * u = enC d (fun t => sT b d (vcF a f) (vcF b s) (vcF d u) ((i * b + j) * d + t)) := by
      have e1 : enC d (fun t => sT b d (vcF a f) (vcF b s) (vcF d u) ((i * b + j) * d + t)) = enC d (fun t => vcF a f i && (vcF b s j && vcF d u t)) := enC_inj.mpr (fun t ht => by
        rw [sT_row ht, md_div hj, md_mod hj])
      rw [e1, dg2, dg2]
      cases vcF a f i <;> cases vcF b s j
      · show 0 * 0 * u = enC d (fun _ => false); rw [enC_false]; omega
      · show 0 * 1 * u = enC d (fun _ => false); rw [enC_false]; omega
      · show 1 * 0 * u = enC d (fun _ => false); rw [enC_false]; omega
      · show 1 * 1 * u = enC d (vcF d u); rw [enC_code hu]; omega
    rw [e, enC_app, show (i * b + j) * d + d = (i * b + (j + 1)) * d by rw [← Nat.succ_mul]; rfl]
  · unfold fX2_bitsOfSingle_B31
    simp only []
    rw [zgI_ob h.1 rfl, Option.bind_some, if_pos (by rw [ci_le (by omega) (by omega)]; omega), cl_1, ci_add, zex_some]
theorem c_bits1 {S : ZS} {c n a b d q f s u : Nat} {g : Nat → Nat} (h : zCu S c n a b d q g) (hz : szOK a b d) (hf : f < 2 ^ a) (hs : s < 2 ^ b) (hu : u < 2 ^ d) : fX2_bitsOfSingle c (ci f) (ci s) (ci u) S = some (ci (enC (a * b * d) (sT b d (vcF a f) (vcF b s) (vcF d u)))) := by
  have hz' := hz
  unfold szOK at hz'
  have hp2 : isP 2 := Or.inl rfl
  have hfl := hp2.pow (n := a) (by omega)
  unfold fX2_bitsOfSingle
  have e0 : enC ((0 * b + 0) * d) (sT b d (vcF a f) (vcF b s) (vcF d u)) = 0 := by rw [Nat.zero_mul, Nat.zero_mul]; rfl
  show ziter _ zF (ci 0, ci 0) = _
  rw [← e0]
  have := ziter_seq (body := fX2_bitsOfSingle_B6 c (ci f) (ci s) (ci u) S) (fun i => (ci (enC ((i * b + 0) * d) (sT b d (vcF a f) (vcF b s) (vcF d u))), ci i)) (ci (enC (a * b * d) (sT b d (vcF a f) (vcF b s) (vcF d u)))) a zF (by rw [zF_eq]; omega) (fun i hi => ?_) ?_
  · rw [e0] at this ⊢
    exact this
  · have h2 := c_bits2 (f := f) h hz hs hu hi
    unfold fX2_bitsOfSingle_B6
    simp only []
    rw [zgI_ob h.1 rfl, Option.bind_some, if_neg (by rw [ci_le (by omega) (by omega)]; omega), Option.bind_some, cl_2, g_numberIn hp2 hz'.1.2 hi (by omega), Option.bind_some, cl_0]
    rw [show (i + 1) * b + 0 = i * b + b by rw [Nat.add_zero, Nat.succ_mul]]
    exact h2
  · unfold fX2_bitsOfSingle_B6
    simp only []
    rw [zgI_ob h.1 rfl, Option.bind_some, if_pos (by rw [ci_le (by omega) (by omega)]; omega), zex_some, Nat.add_zero]
/-- the cube as a set of places -/
def tGc (b d : Nat) (g : Nat → Nat) : Nat → Bool := fun t => decide (g (ix (t / d / b) (t / d % b) (t % d)) = 1)
theorem tGc_at {b d i j k : Nat} {g : Nat → Nat} (hj : j < b) (hk : k < d) : tGc b d g ((i * b + j) * d + k) = decide (g (ix i j k) = 1) := by
  unfold tGc
  rw [md_div hk, md_mod hk, md_div hj, md_mod hj]
theorem c_bitsOf {S : ZS} {c n a b d q : Nat} {g : Nat → Nat} (h : zCu S c n a b d q g) (hz : szOK a b d) (hg : cOK 2 a b d g) : fX2_bitsOf c S = some (ci (enC (a * b * d) (tGc b d g))) := by
  have hz' := hz
  unfold szOK at hz'
  have l3 : ∀ i j, i < a → j < b → ziter (fX2_bitsOf_B25 c (ci i) (ci j) S) zF (ci (enC ((i * b + j) * d + 0) (tGc b d g)), ci 0) = some (.inl (ci (enC ((i * b + j) * d + d) (tGc b d g)), ci (j + 1))) := fun i j hi hj => by
    refine ziter_seq (fun k => (ci (enC ((i * b + j) * d + k) (tGc b d g)), ci k)) _ d zF (by rw [zF_eq]; omega) (fun k hk => ?_) ?_
    · have hlt := hg.lt (ix_lt (i := i) (j := j) (k := k) (by omega) (by omega) (by omega))
      have e : g (ix i j k) = enC 1 (fun t => tGc b d g ((i * b + j) * d + k + t)) := by
        show _ = 0 + (if tGc b d g ((i * b + j) * d + k + 0) = true then 2 ^ 0 else 0)
        rw [Nat.add_zero, tGc_at hj hk]
        by_cases h1 : g (ix i j k) = 1
        · rw [decide_eq_true h1, if_pos rfl, h1]
        · rw [decide_eq_false h1, if_neg (by decide)]; omega
      unfold fX2_bitsOf_B25
      simp only []
      rw [zgI_ob h.1 rfl, Option.bind_some, if_neg (by rw [ci_le (by omega) (by omega)]; omega), zcl_cu h, g_numberAt h (by omega) (by omega) (by omega), Option.bind_some, cl_1, ci_shl (by omega), ci_or, ci_add, e, enC_app]
      rfl
    · unfold fX2_bitsOf_B25
      simp only []
      rw [zgI_ob h.1 rfl, Option.bind_some, if_pos (by rw [ci_le (by omega) (by omega)]; omega), cl_1, ci_add, zex_some]
  have l2 : ∀ i, i < a → ziter (fX2_bitsOf_B14 c (ci i) S) zF (ci (enC ((i * b + 0) * d) (tGc b d g)), ci 0) = some (.inl (ci (enC ((i * b + b) * d) (tGc b d g)), ci (i + 1))) := fun i hi => by
    refine ziter_seq (fun j => (ci (enC ((i * b + j) * d) (tGc b d g)), ci j)) _ b zF (by rw [zF_eq]; omega) (fun j hj => ?_) ?_
    · have := l3 i j hi hj
      unfold fX2_bitsOf_B14
      simp only []
      rw [zgI_ob h.1 rfl, Option.bind_some, if_neg (by rw [ci_le (by omega) (by omega)]; omega), cl_0]
      rw [show (i * b + (j + 1)) * d = (i * b + j) * d + d by rw [← Nat.succ_mul]; rfl]
      exact this
    · unfold fX2_bitsOf_B14
      simp only []
      rw [zgI_ob h.1 rfl, Option.bind_some, if_pos (by rw [ci_le (by omega) (by omega)]; omega), cl_1, ci_add, zex_some]
  unfold fX2_bitsOf
  have e0 : enC ((0 * b + 0) * d) (tGc b d g) = 0 := by rw [Nat.zero_mul, Nat.zero_mul]; rfl
  have := ziter_seq (body := fX2_bitsOf_B4 c S) (fun i => (ci (enC ((i * b + 0) * d) (tGc b d g)), ci i)) (ci (enC (a * b * d) (tGc b d g))) a zF (by rw [zF_eq]; omega) (fun i hi => ?_) ?_
  · rw [e0] at this
    exact this
  · have h2 := l2 i hi
    unfold fX2_bitsOf_B4
    simp only []
    rw [zgI_ob h.1 rfl, Option.bind_some, if_neg (by rw [ci_le (by omega) (by omega)]; omega), cl_0]
    rw [show (i + 1) * b + 0 = i * b + b by rw [Nat.add_zero, Nat.succ_mul]]
    exact h2
  · unfold fX2_bitsOf_B4
    simp only []
    rw [zgI_ob h.1 rfl, Option.bind_some, if_pos (by rw [ci_le (by omega) (by omega)]; omega), zex_some, Nat.add_zero]
/-- the singles that have been gathered, as marks -/
def mkF (N : Nat) (K : Nat → Nat → Bool) : Nat → Nat → Bool
  | 0, _ => false
  | e + 1, x => mkF N K e x || decide (enC N (K e) = x)
theorem mkF_iff {N x : Nat} {K : Nat → Nat → Bool} : ∀ e, mkF N K e x = true ↔ ∃ e', e' < e ∧ enC N (K e') = x := by
  intro e
  induction e with
  | zero => exact ⟨fun h => absurd h (by show ¬ false = true; decide), fun ⟨e', h, _⟩ => absurd h (Nat.not_lt_zero _)⟩
  | succ e ih =>
    show (mkF N K e x || decide (enC N (K e) = x)) = true ↔ _
    rw [Bool.or_eq_true, ih, decide_eq_true_eq]
    constructor
    · rintro (⟨e', h1, h2⟩ | h)
      · exact ⟨e', by omega, h2⟩
      · exact ⟨e, by omega, h⟩
    · rintro ⟨e', h1, h2⟩
      by_cases hh : e' = e
      · right; rw [← hh]; exact h2
      · left; exact ⟨e', by omega, h2⟩
def pSe (se sg mk : Nat) : Nat → Prop := fun b => b = se ∨ b = sg ∨ b = mk
def zSe (S : ZS) (se sg mk N : Nat) (K : Nat → Nat → Bool) (e : Nat) : Prop := zOb S se 2 [.ref sg, .ref mk, .int (ci e)] ∧ (∃ F, zIA S sg 105 F ∧ ∀ e', e' < e → F e' = ci (enC N (K e'))) ∧ ∃ G, zJA S mk 64 G ∧ ∀ r, r < 64 → G r = cj (msk 64 (fun s => mkF N K e (64 * r + s)))
theorem c_addSingle {S : ZS} {se sg mk N e : Nat} {K : Nat → Nat → Bool} (h : zSe S se sg mk N K e) (hN : N ≤ 12) (he : e < 105) : ∃ S1, zcl S se 2 (fX2_addSingle se (ci (enC N (K e))) S) = some S1 ∧ zSe S1 se sg mk N K (e + 1) ∧ zFrm S S1 (pSe se sg mk) := by
  obtain ⟨h1, ⟨F, h2, h3⟩, G, h4, h5⟩ := h
  have hx := enC_12 (N := N) (T := K e) hN
  obtain ⟨x, hxe⟩ : ∃ x, x = enC N (K e) := ⟨_, rfl⟩
  rw [← hxe] at hx ⊢
  have f1 : zFrm S (zwI S sg 105 (va_up F e (ci x))) (fun b => b = sg) := zFrm.wI
  obtain ⟨S1, hS1⟩ : ∃ S1, S1 = zwI S sg 105 (va_up F e (ci x)) := ⟨_, rfl⟩
  rw [← hS1] at f1
  have a1 := f1.ob (ne_oi h1 h2) h1
  have a2 : zIA S1 sg 105 (va_up F e (ci x)) := by rw [hS1]; exact zwI_self
  have a3 := f1.ja (fun hh => ne_ij h2 h4 hh.symm) h4
  have f2 : zFrm S1 (zwO S1 se 2 [.ref sg, .ref mk, .int (ci (e + 1))]) (fun b => b = se) := zFrm.wO
  obtain ⟨S2, hS2⟩ : ∃ S2, S2 = zwO S1 se 2 [.ref sg, .ref mk, .int (ci (e + 1))] := ⟨_, rfl⟩
  rw [← hS2] at f2
  have b1 : zOb S2 se 2 [.ref sg, .ref mk, .int (ci (e + 1))] := by rw [hS2]; exact zwO_self
  have b2 := f2.ia (fun hh => ne_oi a1 a2 hh.symm) a2
  have b3 := f2.ja (fun hh => ne_oj a1 a3 hh.symm) a3
  have f3 : zFrm S2 (zwJ S2 mk 64 (va_up G (x / 64) (cj (msk 64 (fun s => mkF N K (e + 1) (64 * (x / 64) + s)))))) (fun b => b = mk) := zFrm.wJ
  refine ⟨_, ?_, ⟨f3.ob (ne_oj b1 b3) b1, ⟨_, f3.ia (ne_ij b2 b3) b2, fun e' he' => ?_⟩, _, zwJ_self, fun r hr => ?_⟩, ((f1.wk (fun _ hb => Or.inr (Or.inl hb))).tr (f2.wk (fun _ => Or.inl))).tr (f3.wk (fun _ hb => Or.inr (Or.inr hb)))⟩
  · rw [zcl_ob h1]
    unfold fX2_addSingle
    rw [zgR_ob h1 rfl, Option.bind_some, zgI_ob h1 rfl, Option.bind_some, g_put (ci x) h2 he (by omega), ← hS1, Option.bind_some, zgI_ob a1 rfl, Option.bind_some, show ci e + (1 : Int32) = ci (e + 1) by rw [cl_1, ci_add], show zpF S1 se 2 2 (.int (ci (e + 1))) = some S2 by rw [hS2, zpF_ob _ a1 (by simp)]; rfl, Option.bind_some, zgR_ob b1 rfl, Option.bind_some, Option.bind_some, cl_64, ci_div (by omega) (by omega), g_getJ b3 (by omega) (by omega), if_pos (by omega), Option.bind_some, ci_mod (by omega) (by omega), g_shl1 (by omega), h5 _ (by omega), cj_or]
    have e1 : msk 64 (fun s => mkF N K e (64 * (x / 64) + s)) ||| 2 ^ (x % 64) = msk 64 (fun s => mkF N K (e + 1) (64 * (x / 64) + s)) := msk_eq (fun i => by
      rw [Nat.testBit_or, msk_bit, Nat.testBit_two_pow]
      show _ = (decide (i < 64) && (mkF N K e (64 * (x / 64) + i) || decide (enC N (K e) = 64 * (x / 64) + i)))
      rw [← hxe]
      by_cases h6 : i < 64
      · rw [decide_eq_true h6, Bool.true_and, Bool.true_and]
        by_cases h7 : x % 64 = i
        · rw [decide_eq_true h7, decide_eq_true (show x = 64 * (x / 64) + i by omega)]
        · rw [decide_eq_false h7, decide_eq_false (show ¬ x = 64 * (x / 64) + i by omega)]
      · rw [decide_eq_false h6, decide_eq_false (show ¬ x % 64 = i by omega)]; rfl)
    rw [e1, g_putJ _ b3 (by omega) (by omega), Option.bind_some]
  · unfold va_up
    by_cases hh : e' = e
    · rw [if_pos hh, hh, hxe]
    · rw [if_neg hh]; exact h3 e' (by omega)
  · unfold va_up
    by_cases hh : r = x / 64
    · rw [if_pos hh, hh]
    · rw [if_neg hh, h5 r hr]
      congr 1
      refine msk_congr (fun i hi => ?_)
      show mkF N K e (64 * r + i) = (mkF N K e (64 * r + i) || decide (enC N (K e) = 64 * r + i))
      rw [← hxe, decide_eq_false (show ¬ x = 64 * r + i by omega), Bool.or_false]
theorem enC_dec {N : Nat} {T : Nat → Bool} : enC N T = 0 ↔ ∀ t, t < N → T t = false := by
  rw [← enC_false (n := N), enC_inj]
theorem c_isSingle {S : ZS} {se sg mk N e : Nat} {K : Nat → Nat → Bool} {T : Nat → Bool} (h : zSe S se sg mk N K e) (hN : N ≤ 12) : fX2_isSingle se (ci (enC N T)) S = some (bI (mkF N K e (enC N T))) := by
  obtain ⟨h1, _, G, h4, h5⟩ := h
  have hx := enC_12 (N := N) (T := T) hN
  obtain ⟨x, hxe⟩ : ∃ x, x = enC N T := ⟨_, rfl⟩
  rw [← hxe] at hx ⊢
  have hb := msk_lt (n := 64) (h := fun s => mkF N K e (64 * (x / 64) + s))
  have h64 : (2 : Nat) ^ 64 = 18446744073709551616 := rfl
  have hu : (Int64.toUInt64 (Int32.toInt64 (ci (x % 64)))).toNat = x % 64 := by
    rw [ci_cj (by omega)]
    show (BitVec.ofNat 64 (x % 64)).toNat = x % 64
    rw [BitVec.toNat_ofNat, Nat.mod_eq_of_lt (by omega)]
  unfold fX2_isSingle fX2_isSingle_J28
  rw [zgR_ob h1 rfl, Option.bind_some, cl_64, ci_div (by omega) (by omega), ci_mod (by omega) (by omega), g_getJ h4 (by omega) (by omega), if_pos (by omega), h5 _ (by omega), Option.bind_some, cj_sh (by omega) hu (by omega), cj_1, cj_and, Nat.and_one_is_mod, cj_0]
  have e1 : (msk 64 (fun s => mkF N K e (64 * (x / 64) + s)) >>> (x % 64)) % 2 = bn (mkF N K e x) := by
    have := Nat.testBit_shiftRight (msk 64 (fun s => mkF N K e (64 * (x / 64) + s))) (i := x % 64) (j := 0)
    rw [msk_bit, decide_eq_true (show x % 64 + 0 < 64 by omega), Bool.true_and, show 64 * (x / 64) + (x % 64 + 0) = x by omega, Nat.testBit_eq_decide_div_mod_eq, Nat.pow_zero, Nat.div_one] at this
    rw [← this]
    have hm := Nat.mod_lt (msk 64 (fun s => mkF N K e (64 * (x / 64) + s)) >>> (x % 64)) (show 0 < 2 by omega)
    by_cases h0 : msk 64 (fun s => mkF N K e (64 * (x / 64) + s)) >>> (x % 64) % 2 = 1
    · rw [decide_eq_true h0, h0]; rfl
    · rw [decide_eq_false h0]; show _ = 0; omega
  rw [e1]
  cases mkF N K e x <;> rfl
theorem c_isMade {S : ZS} {se sg mk N cnt : Nat} {K : Nat → Nat → Bool} (h : zSe S se sg mk N K cnt) (hN : N ≤ 12) (hcnt : cnt ≤ 105) : ∀ (n fu from' : Nat) (T : Nat → Bool), n < fu → n ≤ 12 → from' ≤ cnt → ∃ bb, fX2_isMade fu se (ci (enC N T)) (ci n) (ci from') S = some (bI bb) ∧ (bb = true ↔ Md N cnt K n from' T) := by
  intro n
  induction n with
  | zero =>
    intro fu from' T hfu hn hfr
    obtain ⟨fu, rfl⟩ : ∃ M, fu = M + 1 := ⟨fu - 1, by omega⟩
    have hx := enC_12 (N := N) (T := T) hN
    refine ⟨decide (enC N T = 0), ?_, by rw [decide_eq_true_eq]; exact enC_dec⟩
    show fX2_isMade_F (fX2_isMade fu) se (ci (enC N T)) (ci 0) (ci from') S = _
    unfold fX2_isMade_F fX2_isMade_J14
    rw [if_neg (show ¬ (1 : Int32) ≤ ci 0 by decide)]
    by_cases h0 : enC N T = 0
    · rw [if_pos (by rw [h0]; rfl), decide_eq_true h0]; rfl
    · rw [if_neg (by rw [cl_0, ci_eq (by omega) (by omega)]; exact h0), decide_eq_false h0]; rfl
  | succ n ih =>
    intro fu from' T hfu hn hfr
    obtain ⟨fu, rfl⟩ : ∃ M, fu = M + 1 := ⟨fu - 1, by omega⟩
    have hx := enC_12 (N := N) (T := T) hN
    cases n with
    | zero =>
      refine ⟨mkF N K cnt (enC N T), ?_, ?_⟩
      · show fX2_isMade_F (fX2_isMade fu) se (ci (enC N T)) (ci 1) (ci from') S = _
        unfold fX2_isMade_F
        rw [if_pos (show (1 : Int32) ≤ ci 1 by decide), if_pos (show ci 1 = 1 from rfl), zcl_ob h.1, c_isSingle h hN, Option.bind_some, zbl_bI, Option.bind_some]
      · rw [mkF_iff]
        constructor
        · rintro ⟨e, e1, e2⟩
          exact ⟨e, e1, fun t ht => (enC_inj.mp e2 t ht).symm⟩
        · rintro ⟨e, e1, e2⟩
          exact ⟨e, e1, enC_inj.mpr (fun t ht => (e2 t ht).symm)⟩
    | succ n =>
      have key : ∀ (r e M : Nat), e + r = cnt → r < M → ∃ bb, ziter (fX2_isMade_B29 (fX2_isMade fu) se (ci (enC N T)) (ci (n + 1 + 1)) S) M (ci e) = some (bI bb) ∧ (bb = true ↔ Md N cnt K (n + 1 + 1) e T) := by
        intro r
        induction r with
        | zero =>
          intro e M he hM
          obtain ⟨M, rfl⟩ : ∃ M', M = M' + 1 := ⟨M - 1, by omega⟩
          refine ⟨false, ?_, ⟨fun hh => Bool.noConfusion hh, fun ⟨q, q1, q2, _⟩ => absurd q2 (by omega)⟩⟩
          rw [ziter_0]
          unfold fX2_isMade_B29
          rw [zgI_ob h.1 rfl, Option.bind_some, if_pos (by rw [ci_le (by omega) (by omega)]; omega), zex_some]
          rfl
        | succ r ihr =>
          intro e M he hM
          obtain ⟨M, rfl⟩ : ∃ M', M = M' + 1 := ⟨M - 1, by omega⟩
          obtain ⟨F, hF, hFe⟩ := h.2.1
          obtain ⟨b1, c1, c2⟩ := ih fu (e + 1) (xt T (K e)) (by omega) (by omega) (by omega)
          have st : fX2_isMade_B29 (fX2_isMade fu) se (ci (enC N T)) (ci (n + 1 + 1)) S (ci e) = if bI b1 = 0 then some (.inl (ci (e + 1))) else some (.inr 1) := by
            unfold fX2_isMade_B29
            rw [zgI_ob h.1 rfl, Option.bind_some, if_neg (by rw [ci_le (by omega) (by omega)]; omega), zgR_ob h.1 rfl, Option.bind_some, g_get hF (by omega) (by omega), if_pos (by omega), Option.bind_some, hFe e (by omega), ci_xor, enC_xor, zcl_ob h.1, show ci (n + 1 + 1) - (1 : Int32) = ci (n + 1) by rw [cl_1, ci_sub (by omega)]; rfl, show ci e + (1 : Int32) = ci (e + 1) by rw [cl_1, ci_add], c1, Option.bind_some, zex_some]
          cases hb : b1 with
          | true =>
            refine ⟨true, ?_, ⟨fun _ => ⟨e, Nat.le_refl e, by omega, c2.mp hb⟩, fun _ => rfl⟩⟩
            rw [hb, if_neg (show ¬ bI true = 0 by decide)] at st
            rw [ziter_0 st]
            rfl
          | false =>
            obtain ⟨b2, d1, d2⟩ := ihr (e + 1) M (by omega) (by omega)
            rw [hb, if_pos bI_f] at st
            refine ⟨b2, by rw [ziter_1 st]; exact d1, ?_⟩
            rw [d2]
            constructor
            · rintro ⟨q, q1, q2, q3⟩
              exact ⟨q, by omega, q2, q3⟩
            · rintro ⟨q, q1, q2, q3⟩
              by_cases hq : q = e
              · subst hq
                have := c2.mpr q3
                rw [hb] at this; cases this
              · exact ⟨q, by omega, q2, q3⟩
      obtain ⟨bb, k1, k2⟩ := key (cnt - from') from' zF (by omega) (by rw [zF_eq]; omega)
      refine ⟨bb, ?_, k2⟩
      show fX2_isMade_F (fX2_isMade fu) se (ci (enC N T)) (ci (n + 1 + 1)) (ci from') S = _
      unfold fX2_isMade_F
      rw [if_pos (by rw [cl_1, ci_le (by omega) (by omega)]; omega), if_neg (by rw [cl_1, ci_eq (by omega) (by omega)]; omega)]
      exact k1
