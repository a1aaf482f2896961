-- 96.aleast.lean.txt
/-! LAW CASES 18, 19: the least, abstractly -/
/-- the single of three vectors -/
def sT (b d : Nat) (x y z : Nat → Bool) : Nat → Bool := fun t => x (t / d / b) && (y (t / d % b) && z (t % d))
def nzv (n : Nat) (x : Nat → Bool) : Prop := ∃ i, i < n ∧ x i = true
def xt (T U : Nat → Bool) : Nat → Bool := fun t => xor (T t) (U t)
/-- T is the sum of n singles -/
def Rch (a b d : Nat) : Nat → (Nat → Bool) → Prop
  | 0, T => ∀ t, t < a * b * d → T t = false
  | n + 1, T => ∃ x y z, nzv a x ∧ nzv b y ∧ nzv d z ∧ Rch a b d n (xt T (sT b d x y z))
theorem Rch_cg {a b d : Nat} : ∀ n (T U : Nat → Bool), (∀ t, t < a * b * d → T t = U t) → Rch a b d n T → Rch a b d n U := by
  intro n
  induction n with
  | zero => intro T U e h t ht; rw [← e t ht]; exact h t ht
  | succ n ih =>
    rintro T U e ⟨x, y, z, h1, h2, h3, h4⟩
    exact ⟨x, y, z, h1, h2, h3, ih _ _ (fun t ht => by unfold xt; rw [e t ht]) h4⟩
/-- the sum of the singles of a set -/
def xr (K : Nat → Nat → Bool) (c : Nat → Bool) : Nat → Nat → Bool
  | 0, _ => false
  | e + 1, t => xor (xr K c e t) (c e && K e t)
def sz (c : Nat → Bool) (n : Nat) : Nat := sm n (fun e => bn (c e))
def tog (c : Nat → Bool) (e : Nat) : Nat → Bool := fun e' => if e' = e then !c e else c e'
theorem xr_tog {K : Nat → Nat → Bool} {c : Nat → Bool} {e t : Nat} : ∀ n, xr K (tog c e) n t = if e < n then xor (xr K c n t) (K e t) else xr K c n t := by
  intro n
  induction n with
  | zero => rfl
  | succ n ih =>
    show xor (xr K (tog c e) n t) (tog c e n && K n t) = if e < n + 1 then xor (xor (xr K c n t) (c n && K n t)) (K e t) else xor (xr K c n t) (c n && K n t)
    rw [ih]
    unfold tog
    by_cases h1 : e < n
    · rw [if_pos h1, if_pos (show e < n + 1 by omega), if_neg (show ¬ n = e by omega)]
      cases xr K c n t <;> cases K e t <;> cases c n <;> cases K n t <;> rfl
    · rw [if_neg h1]
      by_cases h2 : n = e
      · subst h2
        rw [if_pos (show n < n + 1 by omega), if_pos rfl]
        cases xr K c n t <;> cases c n <;> cases K n t <;> rfl
      · rw [if_neg (show ¬ e < n + 1 by omega), if_neg h2]
theorem sz_tog {c : Nat → Bool} {e : Nat} : ∀ n, sz (tog c e) n + (if e < n then 2 * bn (c e) else 0) = sz c n + (if e < n then 1 else 0) := by
  intro n
  induction n with
  | zero => rfl
  | succ n ih =>
    have e1 : sz (tog c e) (n + 1) = sz (tog c e) n + bn (tog c e n) := rfl
    have e2 : sz c (n + 1) = sz c n + bn (c n) := rfl
    rw [e1, e2]
    by_cases h1 : e < n
    · rw [if_pos h1, if_pos h1] at ih
      rw [if_pos (show e < n + 1 by omega), if_pos (show e < n + 1 by omega), show tog c e n = c n from if_neg (by omega)]
      omega
    · rw [if_neg h1, if_neg h1] at ih
      by_cases h2 : n = e
      · subst h2
        rw [if_pos (show n < n + 1 by omega), if_pos (show n < n + 1 by omega), show tog c n n = !c n from if_pos rfl]
        cases hc : c n
        · show _ + 1 + 2 * 0 = _ + 0 + 1; omega
        · show _ + 0 + 2 * 1 = _ + 1 + 1; omega
      · rw [if_neg (show ¬ e < n + 1 by omega), if_neg (show ¬ e < n + 1 by omega), show tog c e n = c n from if_neg h2]
        omega
theorem sz_0 {c : Nat → Bool} : ∀ n, sz c n = 0 → ∀ e, e < n → c e = false := by
  intro n
  induction n with
  | zero => intro _ e he; omega
  | succ n ih =>
    intro h e he
    have e2 : sz c (n + 1) = sz c n + bn (c n) := rfl
    rw [e2] at h
    by_cases hn : e = n
    · subst hn
      cases hc : c e with
      | false => rfl
      | true => rw [hc] at h; exact absurd h (by show ¬ _ + 1 = 0; omega)
    · exact ih (by omega) e (by omega)
theorem xr_0 {K : Nat → Nat → Bool} {c : Nat → Bool} {t : Nat} : ∀ n, (∀ e, e < n → c e = false) → xr K c n t = false := by
  intro n
  induction n with
  | zero => intro _; rfl
  | succ n ih =>
    intro h
    show xor (xr K c n t) (c n && K n t) = false
    rw [ih (fun e he => h e (by omega)), h n (by omega)]; rfl
/-- the class's search: ascending singles, the last one any -/
def Md (N cnt : Nat) (K : Nat → Nat → Bool) : Nat → Nat → (Nat → Bool) → Prop
  | 0, _, T => ∀ t, t < N → T t = false
  | 1, _, T => ∃ e, e < cnt ∧ ∀ t, t < N → T t = K e t
  | n + 2, from', T => ∃ e, from' ≤ e ∧ e < cnt ∧ Md N cnt K (n + 1) (e + 1) (xt T (K e))
theorem Md_cg {N cnt : Nat} {K : Nat → Nat → Bool} : ∀ n f (T U : Nat → Bool), (∀ t, t < N → T t = U t) → Md N cnt K n f T → Md N cnt K n f U := by
  intro n
  induction n with
  | zero => intro f T U e h t ht; rw [← e t ht]; exact h t ht
  | succ n ih =>
    intro f T U e h
    cases n with
    | zero =>
      obtain ⟨q, h1, h2⟩ := h
      exact ⟨q, h1, fun t ht => by rw [← e t ht]; exact h2 t ht⟩
    | succ n =>
      obtain ⟨q, h1, h2, h3⟩ := h
      exact ⟨q, h1, h2, ih (q + 1) _ _ (fun t ht => by unfold xt; rw [e t ht]) h3⟩
theorem Md_mono {N cnt f : Nat} {K : Nat → Nat → Bool} {T : Nat → Bool} : ∀ n, Md N cnt K n (f + 1) T → Md N cnt K n f T := by
  intro n h
  cases n with
  | zero => exact h
  | succ n =>
    cases n with
    | zero => exact h
    | succ n =>
      obtain ⟨q, h1, h2, h3⟩ := h
      exact ⟨q, by omega, h2, h3⟩
theorem Md_of {N cnt : Nat} {K : Nat → Nat → Bool} : ∀ (r f n : Nat) (c T : Nat → Bool), f + r = cnt → (∀ e, e < f → c e = false) → sz c cnt = n → (∀ t, t < N → T t = xr K c cnt t) → Md N cnt K n f T := by
  intro r
  induction r with
  | zero =>
    intro f n c T hf hc hn hT
    have h0 : ∀ e, e < cnt → c e = false := fun e he => hc e (by omega)
    have : n = 0 := by
      rw [← hn]
      exact sm_zero (fun e he => by rw [h0 e he]; rfl)
    subst this
    intro t ht
    rw [hT t ht, xr_0 cnt h0]
  | succ r ih =>
    intro f n c T hf hc hn hT
    cases hcf : c f with
    | false =>
      refine Md_mono n (ih (f + 1) n c T (by omega) (fun e he => ?_) hn hT)
      by_cases h : e = f
      · rw [h]; exact hcf
      · exact hc e (by omega)
    | true =>
      have hs := sz_tog (c := c) (e := f) cnt
      rw [if_pos (show f < cnt by omega), if_pos (show f < cnt by omega), hcf] at hs
      have hs' : sz (tog c f) cnt + 2 = sz c cnt + 1 := hs
      have hc' : ∀ e, e < f + 1 → tog c f e = false := fun e he => by
        unfold tog
        by_cases h : e = f
        · rw [if_pos h, hcf]; rfl
        · rw [if_neg h]; exact hc e (by omega)
      have hx : ∀ t, t < N → xt T (K f) t = xr K (tog c f) cnt t := fun t ht => by
        rw [xr_tog cnt, if_pos (show f < cnt by omega)]
        unfold xt
        rw [hT t ht]
      cases n with
      | zero => omega
      | succ n =>
        cases n with
        | zero =>
          refine ⟨f, by omega, fun t ht => ?_⟩
          have h0 := sz_0 cnt (show sz (tog c f) cnt = 0 by omega)
          have h1 := hx t ht
          rw [xr_0 cnt h0] at h1
          unfold xt at h1
          revert h1
          cases T t <;> cases K f t <;> intro h1 <;> first | rfl | cases h1
        | succ n => exact ⟨f, Nat.le_refl f, by omega, ih (f + 1) (n + 1) (tog c f) _ (by omega) hc' (by omega) hx⟩
/-- the class's singles -/
def vcF (n f : Nat) : Nat → Bool := fun i => decide (dg 2 n f i = 1)
def cnF (a b d : Nat) : Nat := (2 ^ a - 1) * (2 ^ b - 1) * (2 ^ d - 1)
def Kc (a b d e : Nat) : Nat → Bool := sT b d (vcF a (e / (2 ^ d - 1) / (2 ^ b - 1) + 1)) (vcF b (e / (2 ^ d - 1) % (2 ^ b - 1) + 1)) (vcF d (e % (2 ^ d - 1) + 1))
theorem vcF_nz {n f : Nat} (h0 : 1 ≤ f) (hf : f < 2 ^ n) : nzv n (vcF n f) := by
  apply Classical.byContradiction
  intro hh
  have hz : ∀ i, i < n → dg 2 n f i = 0 := fun i hi => by
    have hl : dg 2 n f i < 2 := dg_lt (by omega)
    apply Classical.byContradiction
    intro h1
    exact hh ⟨i, hi, decide_eq_true (by omega)⟩
  have e1 := enc_dg (p := 2) (by omega) hf
  have e2 := (enc_zero (p := 2) (n := n) (d := dg 2 n f) (by omega) (fun k _ => dg_lt (by omega))).mpr hz
  omega
theorem vcF_of {n : Nat} {x : Nat → Bool} (h : nzv n x) : ∃ f, 1 ≤ f ∧ f < 2 ^ n ∧ ∀ i, i < n → vcF n f i = x i := by
  have hd : ∀ k, k < n → (fun i => bn (x i)) k < 2 := fun k _ => by have := bn_le (x k); show bn (x k) < 2; omega
  refine ⟨enc 2 n (fun i => bn (x i)), ?_, enc_lt (by omega) hd, fun i hi => ?_⟩
  · apply Classical.byContradiction
    intro hh
    have h0 : enc 2 n (fun i => bn (x i)) = 0 := by omega
    have hz := (enc_zero (by omega) hd).mp h0
    obtain ⟨i, hi, hx⟩ := h
    have := hz i hi
    simp only [hx] at this
    exact absurd this (by decide)
  · unfold vcF
    rw [dg_enc (by omega) hd hi]
    cases x i <;> rfl
theorem pow1 {n : Nat} (h : 1 ≤ n) : 1 ≤ 2 ^ n - 1 := by
  have : 2 ^ 1 ≤ 2 ^ n := Nat.pow_le_pow_right (by omega) h
  omega
theorem Kc_nz {a b d e : Nat} (ha : 1 ≤ a) (hb : 1 ≤ b) (hd : 1 ≤ d) (he : e < cnF a b d) : nzv a (vcF a (e / (2 ^ d - 1) / (2 ^ b - 1) + 1)) ∧ nzv b (vcF b (e / (2 ^ d - 1) % (2 ^ b - 1) + 1)) ∧ nzv d (vcF d (e % (2 ^ d - 1) + 1)) := by
  have p1 := pow1 ha
  have p2 := pow1 hb
  have p3 := pow1 hd
  have m2 := Nat.mod_lt (e / (2 ^ d - 1)) (show 0 < 2 ^ b - 1 by omega)
  have m3 := Nat.mod_lt e (show 0 < 2 ^ d - 1 by omega)
  have m1 : e / (2 ^ d - 1) / (2 ^ b - 1) < 2 ^ a - 1 := Nat.div_lt_of_lt_mul (Nat.div_lt_of_lt_mul (by
    unfold cnF at he
    rw [Nat.mul_comm (2 ^ d - 1), Nat.mul_comm (2 ^ b - 1)]
    exact he))
  exact ⟨vcF_nz (Nat.le_add_left 1 _) (by omega), vcF_nz (Nat.le_add_left 1 _) (by omega), vcF_nz (Nat.le_add_left 1 _) (by omega)⟩
theorem Kc_at {a b d f s t : Nat} (hs : s < 2 ^ b - 1) (ht : t < 2 ^ d - 1) : Kc a b d ((f * (2 ^ b - 1) + s) * (2 ^ d - 1) + t) = sT b d (vcF a (f + 1)) (vcF b (s + 1)) (vcF d (t + 1)) := by
  unfold Kc
  rw [md_div ht, md_mod ht, md_div hs, md_mod hs]
theorem sT_cg {a b d : Nat} {x x' y y' z z' : Nat → Bool} (hb : 1 ≤ b) (hd : 1 ≤ d) (h1 : ∀ i, i < a → x i = x' i) (h2 : ∀ i, i < b → y i = y' i) (h3 : ∀ i, i < d → z i = z' i) : ∀ t, t < a * b * d → sT b d x y z t = sT b d x' y' z' t := fun t ht => by
  unfold sT
  have m1 : t / d / b < a := Nat.div_lt_of_lt_mul (Nat.div_lt_of_lt_mul (by
    rw [Nat.mul_comm d, Nat.mul_comm b]
    exact ht))
  rw [h1 _ m1, h2 _ (Nat.mod_lt _ (by omega)), h3 _ (Nat.mod_lt _ (by omega))]
theorem Kc_of {a b d : Nat} {x y z : Nat → Bool} (hb : 1 ≤ b) (hd : 1 ≤ d) (h1 : nzv a x) (h2 : nzv b y) (h3 : nzv d z) : ∃ e, e < cnF a b d ∧ ∀ t, t < a * b * d → Kc a b d e t = sT b d x y z t := by
  obtain ⟨f, f1, f2, f3⟩ := vcF_of h1
  obtain ⟨s, s1, s2, s3⟩ := vcF_of h2
  obtain ⟨u, u1, u2, u3⟩ := vcF_of h3
  have l1 := lt_mul (r := f - 1) (s := s - 1) (a := 2 ^ a - 1) (b := 2 ^ b - 1) (by omega) (by omega)
  have l2 := lt_mul (r := (f - 1) * (2 ^ b - 1) + (s - 1)) (s := u - 1) (a := (2 ^ a - 1) * (2 ^ b - 1)) (b := 2 ^ d - 1) l1 (by omega)
  refine ⟨((f - 1) * (2 ^ b - 1) + (s - 1)) * (2 ^ d - 1) + (u - 1), l2, fun t ht => ?_⟩
  rw [Kc_at (by omega) (by omega), show f - 1 + 1 = f by omega, show s - 1 + 1 = s by omega, show u - 1 + 1 = u by omega]
  exact sT_cg hb hd f3 s3 u3 t ht
theorem Md_Rch {a b d : Nat} (ha : 1 ≤ a) (hb : 1 ≤ b) (hd : 1 ≤ d) : ∀ n f T, Md (a * b * d) (cnF a b d) (Kc a b d) n f T → Rch a b d n T := by
  intro n
  induction n with
  | zero => intro f T h; exact h
  | succ n ih =>
    intro f T h
    cases n with
    | zero =>
      obtain ⟨e, h1, h2⟩ := h
      obtain ⟨n1, n2, n3⟩ := Kc_nz ha hb hd h1
      refine ⟨_, _, _, n1, n2, n3, fun t ht => ?_⟩
      show xor (T t) (Kc a b d e t) = false
      rw [h2 t ht]
      cases Kc a b d e t <;> rfl
    | succ n =>
      obtain ⟨e, h1, h2, h3⟩ := h
      obtain ⟨n1, n2, n3⟩ := Kc_nz ha hb hd h2
      exact ⟨_, _, _, n1, n2, n3, ih (e + 1) _ h3⟩
theorem Rch_set {a b d : Nat} (hb : 1 ≤ b) (hd : 1 ≤ d) : ∀ n T, Rch a b d n T → ∃ c, sz c (cnF a b d) ≤ n ∧ ∀ t, t < a * b * d → T t = xr (Kc a b d) c (cnF a b d) t := by
  intro n
  induction n with
  | zero =>
    intro T h
    exact ⟨fun _ => false, Nat.le_of_eq (sm_zero (fun _ _ => rfl)), fun t ht => by rw [h t ht, xr_0 _ (fun _ _ => rfl)]⟩
  | succ n ih =>
    rintro T ⟨x, y, z, h1, h2, h3, h4⟩
    obtain ⟨c, c1, c2⟩ := ih _ h4
    obtain ⟨e, e1, e2⟩ := Kc_of hb hd h1 h2 h3
    refine ⟨tog c e, ?_, fun t ht => ?_⟩
    · have hs := sz_tog (c := c) (e := e) (cnF a b d)
      rw [if_pos e1, if_pos e1] at hs
      omega
    · rw [xr_tog, if_pos e1, ← c2 t ht, e2 t ht]
      unfold xt
      cases T t <;> cases sT b d x y z t <;> rfl
theorem set_Rch {a b d : Nat} (ha : 1 ≤ a) (hb : 1 ≤ b) (hd : 1 ≤ d) : ∀ n (c T : Nat → Bool), n ≤ cnF a b d → (∀ e, n ≤ e → c e = false) → (∀ t, t < a * b * d → T t = xr (Kc a b d) c n t) → Rch a b d (sz c n) T := by
  intro n
  induction n with
  | zero => intro c T _ _ h t ht; rw [h t ht]; rfl
  | succ n ih =>
    intro c T hn hc h
    have e2 : sz c (n + 1) = sz c n + bn (c n) := rfl
    have hx : ∀ c' : Nat → Bool, (∀ e, e < n → c' e = c e) → ∀ t, xr (Kc a b d) c' n t = xr (Kc a b d) c n t := by
      intro c' hc' t
      have : ∀ m, m ≤ n → xr (Kc a b d) c' m t = xr (Kc a b d) c m t := by
        intro m
        induction m with
        | zero => intro _; rfl
        | succ m ihm =>
          intro hm
          show xor (xr (Kc a b d) c' m t) (c' m && Kc a b d m t) = xor (xr (Kc a b d) c m t) (c m && Kc a b d m t)
          rw [ihm (by omega), hc' m (by omega)]
      exact this n (Nat.le_refl n)
    obtain ⟨c', hc'⟩ : ∃ c' : Nat → Bool, c' = fun e => if e < n then c e else false := ⟨_, rfl⟩
    have c1 : ∀ e, e < n → c' e = c e := fun e he => by rw [hc']; exact if_pos he
    have c2 : ∀ e, n ≤ e → c' e = false := fun e he => by rw [hc']; exact if_neg (by omega)
    have c3 : sz c' n = sz c n := sm_congr (fun e he => by rw [c1 e he])
    cases hcn : c n with
    | false =>
      rw [e2, hcn]
      show Rch a b d (sz c n + 0) T
      rw [Nat.add_zero, ← c3]
      refine ih c' T (by omega) c2 (fun t ht => ?_)
      rw [h t ht, hx c' c1 t]
      show xor (xr (Kc a b d) c n t) (c n && Kc a b d n t) = _
      rw [hcn]
      cases xr (Kc a b d) c n t <;> rfl
    | true =>
      rw [e2, hcn]
      show Rch a b d (sz c n + 1) T
      obtain ⟨n1, n2, n3⟩ := Kc_nz ha hb hd (show n < cnF a b d by omega)
      refine ⟨_, _, _, n1, n2, n3, ?_⟩
      show Rch a b d (sz c n) (xt T (Kc a b d n))
      rw [← c3]
      refine ih c' _ (by omega) c2 (fun t ht => ?_)
      rw [hx c' c1 t]
      unfold xt
      rw [h t ht]
      show xor (xor (xr (Kc a b d) c n t) (c n && Kc a b d n t)) (Kc a b d n t) = _
      rw [hcn]
      cases xr (Kc a b d) c n t <;> cases Kc a b d n t <;> rfl
theorem Rch_Md {a b d n : Nat} {T : Nat → Bool} (ha : 1 ≤ a) (hb : 1 ≤ b) (hd : 1 ≤ d) (h : Rch a b d n T) (hmin : ∀ k, Rch a b d k T → n ≤ k) : Md (a * b * d) (cnF a b d) (Kc a b d) n 0 T := by
  obtain ⟨c, c1, c2⟩ := Rch_set hb hd n T h
  obtain ⟨c', hc'⟩ : ∃ c' : Nat → Bool, c' = fun e => if e < cnF a b d then c e else false := ⟨_, rfl⟩
  have d1 : ∀ e, e < cnF a b d → c' e = c e := fun e he => by rw [hc']; exact if_pos he
  have d2 : ∀ e, cnF a b d ≤ e → c' e = false := fun e he => by rw [hc']; exact if_neg (by omega)
  have d3 : sz c' (cnF a b d) = sz c (cnF a b d) := sm_congr (fun e he => by rw [d1 e he])
  have dx : ∀ t, xr (Kc a b d) c' (cnF a b d) t = xr (Kc a b d) c (cnF a b d) t := by
    intro t
    have : ∀ m, m ≤ cnF a b d → xr (Kc a b d) c' m t = xr (Kc a b d) c m t := by
      intro m
      induction m with
      | zero => intro _; rfl
      | succ m ihm =>
        intro hm
        show xor (xr (Kc a b d) c' m t) (c' m && Kc a b d m t) = xor (xr (Kc a b d) c m t) (c m && Kc a b d m t)
        rw [ihm (by omega), d1 m (by omega)]
    exact this _ (Nat.le_refl _)
  have hr := set_Rch ha hb hd (cnF a b d) c' T (Nat.le_refl _) d2 (fun t ht => by rw [dx t]; exact c2 t ht)
  have := hmin _ hr
  exact Md_of (cnF a b d) 0 n c T (by omega) (fun e he => absurd he (Nat.not_lt_zero _)) (by omega) c2
-- 96.bcleast.lean.txt
/-! LAW CASES 18, 19: the least in the class -/
def enC (N : Nat) (T : Nat → Bool) : Nat := msk N (fun s => T (N - 1 - s))
theorem enC_bit {N : Nat} {T : Nat → Bool} (i : Nat) : (enC N T).testBit i = (decide (i < N) && T (N - 1 - i)) := msk_bit i
theorem enC_lt {N : Nat} {T : Nat → Bool} : enC N T < 2 ^ N := msk_lt
theorem enC_12 {N : Nat} {T : Nat → Bool} (hN : N ≤ 12) : enC N T < 4096 := by
  have h1 := enC_lt (N := N) (T := T)
  have h2 : 2 ^ N ≤ 2 ^ 12 := Nat.pow_le_pow_right (by omega) hN
  have h3 : (2 : Nat) ^ 12 = 4096 := rfl
  omega
theorem enC_inj {N : Nat} {T U : Nat → Bool} : enC N T = enC N U ↔ ∀ t, t < N → T t = U t := by
  constructor
  · intro h t ht
    have := congrArg (fun x => x.testBit (N - 1 - t)) h
    simp only [enC_bit] at this
    rw [decide_eq_true (show N - 1 - t < N by omega), show N - 1 - (N - 1 - t) = t by omega, Bool.true_and, Bool.true_and] at this
    exact this
  · intro h
    exact msk_congr (fun i hi => h _ (by omega))
theorem enC_xor {N : Nat} {T U : Nat → Bool} : enC N T ^^^ enC N U = enC N (xt T U) := Nat.eq_of_testBit_eq (fun i => by
  rw [Nat.testBit_xor, enC_bit, enC_bit, enC_bit]
  unfold xt
  cases decide (i < N) <;> cases T (N - 1 - i) <;> cases U (N - 1 - i) <;> rfl)
theorem enC_app {n k : Nat} {T : Nat → Bool} : (enC n T) <<< k ||| enC k (fun t => T (n + t)) = enC (n + k) T := Nat.eq_of_testBit_eq (fun i => by
  rw [Nat.testBit_or, Nat.testBit_shiftLeft, enC_bit, enC_bit, enC_bit]
  by_cases h1 : i < k
  · rw [decide_eq_false (show ¬ i ≥ k by omega), decide_eq_true h1, decide_eq_true (show i < n + k by omega), Bool.false_and, Bool.false_or, Bool.true_and, Bool.true_and, show n + (k - 1 - i) = n + k - 1 - i by omega]
  · rw [decide_eq_true (show i ≥ k by omega), decide_eq_false h1, Bool.true_and, Bool.false_and, Bool.or_false]
    by_cases h2 : i < n + k
    · rw [decide_eq_true h2, decide_eq_true (show i - k < n by omega), show n - 1 - (i - k) = n + k - 1 - i by omega]
    · rw [decide_eq_false h2, decide_eq_false (show ¬ i - k < n by omega)]; rfl)
theorem enC_code {n f : Nat} (hf : f < 2 ^ n) : enC n (vcF n f) = f := Nat.eq_of_testBit_eq (fun i => by
  rw [enC_bit]
  by_cases h1 : i < n
  · rw [decide_eq_true h1, Bool.true_and, Nat.testBit_eq_decide_div_mod_eq]
    unfold vcF dg
    rw [show n - 1 - (n - 1 - i) = i by omega]
  · rw [decide_eq_false h1, Bool.false_and]
    exact (Nat.testBit_lt_two_pow (Nat.lt_of_lt_of_le hf (Nat.pow_le_pow_right (by omega) (by omega)))).symm)
theorem enC_false {n : Nat} : enC n (fun _ => false) = 0 := msk_0
theorem ci_shl' {a k : Nat} (hk : k < 32) : ci a <<< (ci k &&& 31) = ci (a <<< k) := ci_shl hk
theorem dg2 {n f i : Nat} : dg 2 n f i = bn (vcF n f i) := by
  have hl : dg 2 n f i < 2 := dg_lt (by omega)
  unfold vcF
  by_cases h : dg 2 n f i = 1
  · rw [decide_eq_true h, h]; rfl
  · rw [decide_eq_false h]; show _ = 0; omega
theorem sT_row {b d m k : Nat} {x y z : Nat → Bool} (hk : k < d) : sT b d x y z (m * d + k) = (x (m / b) && (y (m % b) && z k)) := by
  unfold sT
  rw [md_div hk, md_mod hk]
theorem c_bits2 {S : ZS} {c n a b d q f s u i : Nat} {g : Nat → Nat} (h : zCu S c n a b d q g) (hz : szOK a b d) (hs : s < 2 ^ b) (hu : u < 2 ^ d) (hi : i < a) : ziter (fX2_bitsOfSingle_B31 c (ci f) (ci s) (ci u) (ci i) (ci (dg 2 a f i)) S) zF (ci (enC ((i * b + 0) * d) (sT b d (vcF a f) (vcF b s) (vcF d u))), ci 0) = some (.inl (ci (enC ((i * b + b) * d) (sT b d (vcF a f) (vcF b s) (vcF d u))), ci (i + 1))) := by
  unfold szOK at hz
  have hp2 : isP 2 := Or.inl rfl
  have hsl := hp2.pow (n := b) (by omega)
  refine ziter_seq (fun j => (ci (enC ((i * b + j) * d) (sT b d (vcF a f) (vcF b s) (vcF d u))), ci j)) _ b zF (by rw [zF_eq]; omega) (fun j hj => ?_) ?_
  · unfold fX2_bitsOfSingle_B31
    simp only []
    rw [zgI_ob h.1 rfl, Option.bind_some, if_neg (by rw [ci_le (by omega) (by omega)]; omega), Option.bind_some, cl_2, g_numberIn hp2 hz.2.1.2 hj (by omega), Option.bind_some, zgI_ob h.1 rfl, Option.bind_some, ci_shl (by omega), ci_mul, ci_mul, ci_or, cl_1, ci_add]
    have e : dg 2 a f i * dg 2 b s j * u = enC d (fun t => sT b d (vcF a f) (vcF b s) (vcF d u) ((i * b + j) * d + t)) := by
      have e1 : enC d (fun t => sT b d (vcF a f) (vcF b s) (vcF d u) ((i * b + j) * d + t)) = enC d (fun t => vcF a f i && (vcF b s j && vcF d u t)) := enC_inj.mpr (fun t ht => by
        rw [sT_row ht, md_div hj, md_mod hj])
      rw [e1, dg2, dg2]
      cases vcF a f i <;> cases vcF b s j
      · show 0 * 0 * u = enC d (fun _ => false); rw [enC_false]; omega
      · show 0 * 1 * u = enC d (fun _ => false); rw [enC_false]; omega
      · show 1 * 0 * u = enC d (fun _ => false); rw [enC_false]; omega
      · show 1 * 1 * u = enC d (vcF d u); rw [enC_code hu]; omega
    rw [e, enC_app, show (i * b + j) * d + d = (i * b + (j + 1)) * d by rw [← Nat.succ_mul]; rfl]
  · unfold fX2_bitsOfSingle_B31
    simp only []
    rw [zgI_ob h.1 rfl, Option.bind_some, if_pos (by rw [ci_le (by omega) (by omega)]; omega), cl_1, ci_add, zex_some]
theorem c_bits1 {S : ZS} {c n a b d q f s u : Nat} {g : Nat → Nat} (h : zCu S c n a b d q g) (hz : szOK a b d) (hf : f < 2 ^ a) (hs : s < 2 ^ b) (hu : u < 2 ^ d) : fX2_bitsOfSingle c (ci f) (ci s) (ci u) S = some (ci (enC (a * b * d) (sT b d (vcF a f) (vcF b s) (vcF d u)))) := by
  have hz' := hz
  unfold szOK at hz'
  have hp2 : isP 2 := Or.inl rfl
  have hfl := hp2.pow (n := a) (by omega)
  unfold fX2_bitsOfSingle
  have e0 : enC ((0 * b + 0) * d) (sT b d (vcF a f) (vcF b s) (vcF d u)) = 0 := by rw [Nat.zero_mul, Nat.zero_mul]; rfl
  show ziter _ zF (ci 0, ci 0) = _
  rw [← e0]
  have := ziter_seq (body := fX2_bitsOfSingle_B6 c (ci f) (ci s) (ci u) S) (fun i => (ci (enC ((i * b + 0) * d) (sT b d (vcF a f) (vcF b s) (vcF d u))), ci i)) (ci (enC (a * b * d) (sT b d (vcF a f) (vcF b s) (vcF d u)))) a zF (by rw [zF_eq]; omega) (fun i hi => ?_) ?_
  · rw [e0] at this ⊢
    exact this
  · have h2 := c_bits2 (f := f) h hz hs hu hi
    unfold fX2_bitsOfSingle_B6
    simp only []
    rw [zgI_ob h.1 rfl, Option.bind_some, if_neg (by rw [ci_le (by omega) (by omega)]; omega), Option.bind_some, cl_2, g_numberIn hp2 hz'.1.2 hi (by omega), Option.bind_some, cl_0]
    rw [show (i + 1) * b + 0 = i * b + b by rw [Nat.add_zero, Nat.succ_mul]]
    exact h2
  · unfold fX2_bitsOfSingle_B6
    simp only []
    rw [zgI_ob h.1 rfl, Option.bind_some, if_pos (by rw [ci_le (by omega) (by omega)]; omega), zex_some, Nat.add_zero]
/-- the cube as a set of places -/
def tGc (b d : Nat) (g : Nat → Nat) : Nat → Bool := fun t => decide (g (ix (t / d / b) (t / d % b) (t % d)) = 1)
theorem tGc_at {b d i j k : Nat} {g : Nat → Nat} (hj : j < b) (hk : k < d) : tGc b d g ((i * b + j) * d + k) = decide (g (ix i j k) = 1) := by
  unfold tGc
  rw [md_div hk, md_mod hk, md_div hj, md_mod hj]
theorem c_bitsOf {S : ZS} {c n a b d q : Nat} {g : Nat → Nat} (h : zCu S c n a b d q g) (hz : szOK a b d) (hg : cOK 2 a b d g) : fX2_bitsOf c S = some (ci (enC (a * b * d) (tGc b d g))) := by
  have hz' := hz
  unfold szOK at hz'
  have l3 : ∀ i j, i < a → j < b → ziter (fX2_bitsOf_B25 c (ci i) (ci j) S) zF (ci (enC ((i * b + j) * d + 0) (tGc b d g)), ci 0) = some (.inl (ci (enC ((i * b + j) * d + d) (tGc b d g)), ci (j + 1))) := fun i j hi hj => by
    refine ziter_seq (fun k => (ci (enC ((i * b + j) * d + k) (tGc b d g)), ci k)) _ d zF (by rw [zF_eq]; omega) (fun k hk => ?_) ?_
    · have hlt := hg.lt (ix_lt (i := i) (j := j) (k := k) (by omega) (by omega) (by omega))
      have e : g (ix i j k) = enC 1 (fun t => tGc b d g ((i * b + j) * d + k + t)) := by
        show _ = 0 + (if tGc b d g ((i * b + j) * d + k + 0) = true then 2 ^ 0 else 0)
        rw [Nat.add_zero, tGc_at hj hk]
        by_cases h1 : g (ix i j k) = 1
        · rw [decide_eq_true h1, if_pos rfl, h1]
        · rw [decide_eq_false h1, if_neg (by decide)]; omega
      unfold fX2_bitsOf_B25
      simp only []
      rw [zgI_ob h.1 rfl, Option.bind_some, if_neg (by rw [ci_le (by omega) (by omega)]; omega), zcl_cu h, g_numberAt h (by omega) (by omega) (by omega), Option.bind_some, cl_1, ci_shl (by omega), ci_or, ci_add, e, enC_app]
      rfl
    · unfold fX2_bitsOf_B25
      simp only []
      rw [zgI_ob h.1 rfl, Option.bind_some, if_pos (by rw [ci_le (by omega) (by omega)]; omega), cl_1, ci_add, zex_some]
  have l2 : ∀ i, i < a → ziter (fX2_bitsOf_B14 c (ci i) S) zF (ci (enC ((i * b + 0) * d) (tGc b d g)), ci 0) = some (.inl (ci (enC ((i * b + b) * d) (tGc b d g)), ci (i + 1))) := fun i hi => by
    refine ziter_seq (fun j => (ci (enC ((i * b + j) * d) (tGc b d g)), ci j)) _ b zF (by rw [zF_eq]; omega) (fun j hj => ?_) ?_
    · have := l3 i j hi hj
      unfold fX2_bitsOf_B14
      simp only []
      rw [zgI_ob h.1 rfl, Option.bind_some, if_neg (by rw [ci_le (by omega) (by omega)]; omega), cl_0]
      rw [show (i * b + (j + 1)) * d = (i * b + j) * d + d by rw [← Nat.succ_mul]; rfl]
      exact this
    · unfold fX2_bitsOf_B14
      simp only []
      rw [zgI_ob h.1 rfl, Option.bind_some, if_pos (by rw [ci_le (by omega) (by omega)]; omega), cl_1, ci_add, zex_some]
  unfold fX2_bitsOf
  have e0 : enC ((0 * b + 0) * d) (tGc b d g) = 0 := by rw [Nat.zero_mul, Nat.zero_mul]; rfl
  have := ziter_seq (body := fX2_bitsOf_B4 c S) (fun i => (ci (enC ((i * b + 0) * d) (tGc b d g)), ci i)) (ci (enC (a * b * d) (tGc b d g))) a zF (by rw [zF_eq]; omega) (fun i hi => ?_) ?_
  · rw [e0] at this
    exact this
  · have h2 := l2 i hi
    unfold fX2_bitsOf_B4
    simp only []
    rw [zgI_ob h.1 rfl, Option.bind_some, if_neg (by rw [ci_le (by omega) (by omega)]; omega), cl_0]
    rw [show (i + 1) * b + 0 = i * b + b by rw [Nat.add_zero, Nat.succ_mul]]
    exact h2
  · unfold fX2_bitsOf_B4
    simp only []
    rw [zgI_ob h.1 rfl, Option.bind_some, if_pos (by rw [ci_le (by omega) (by omega)]; omega), zex_some, Nat.add_zero]
/-- the singles that have been gathered, as marks -/
def mkF (N : Nat) (K : Nat → Nat → Bool) : Nat → Nat → Bool
  | 0, _ => false
  | e + 1, x => mkF N K e x || decide (enC N (K e) = x)
theorem mkF_iff {N x : Nat} {K : Nat → Nat → Bool} : ∀ e, mkF N K e x = true ↔ ∃ e', e' < e ∧ enC N (K e') = x := by
  intro e
  induction e with
  | zero => exact ⟨fun h => absurd h (by show ¬ false = true; decide), fun ⟨e', h, _⟩ => absurd h (Nat.not_lt_zero _)⟩
  | succ e ih =>
    show (mkF N K e x || decide (enC N (K e) = x)) = true ↔ _
    rw [Bool.or_eq_true, ih, decide_eq_true_eq]
    constructor
    · rintro (⟨e', h1, h2⟩ | h)
      · exact ⟨e', by omega, h2⟩
      · exact ⟨e, by omega, h⟩
    · rintro ⟨e', h1, h2⟩
      by_cases hh : e' = e
      · right; rw [← hh]; exact h2
      · left; exact ⟨e', by omega, h2⟩
def pSe (se sg mk : Nat) : Nat → Prop := fun b => b = se ∨ b = sg ∨ b = mk
def zSe (S : ZS) (se sg mk N : Nat) (K : Nat → Nat → Bool) (e : Nat) : Prop := zOb S se 2 [.ref sg, .ref mk, .int (ci e)] ∧ (∃ F, zIA S sg 105 F ∧ ∀ e', e' < e → F e' = ci (enC N (K e'))) ∧ ∃ G, zJA S mk 64 G ∧ ∀ r, r < 64 → G r = cj (msk 64 (fun s => mkF N K e (64 * r + s)))
theorem c_addSingle {S : ZS} {se sg mk N e : Nat} {K : Nat → Nat → Bool} (h : zSe S se sg mk N K e) (hN : N ≤ 12) (he : e < 105) : ∃ S1, zcl S se 2 (fX2_addSingle se (ci (enC N (K e))) S) = some S1 ∧ zSe S1 se sg mk N K (e + 1) ∧ zFrm S S1 (pSe se sg mk) := by
  obtain ⟨h1, ⟨F, h2, h3⟩, G, h4, h5⟩ := h
  have hx := enC_12 (N := N) (T := K e) hN
  obtain ⟨x, hxe⟩ : ∃ x, x = enC N (K e) := ⟨_, rfl⟩
  rw [← hxe] at hx ⊢
  have f1 : zFrm S (zwI S sg 105 (va_up F e (ci x))) (fun b => b = sg) := zFrm.wI
  obtain ⟨S1, hS1⟩ : ∃ S1, S1 = zwI S sg 105 (va_up F e (ci x)) := ⟨_, rfl⟩
  rw [← hS1] at f1
  have a1 := f1.ob (ne_oi h1 h2) h1
  have a2 : zIA S1 sg 105 (va_up F e (ci x)) := by rw [hS1]; exact zwI_self
  have a3 := f1.ja (fun hh => ne_ij h2 h4 hh.symm) h4
  have f2 : zFrm S1 (zwO S1 se 2 [.ref sg, .ref mk, .int (ci (e + 1))]) (fun b => b = se) := zFrm.wO
  obtain ⟨S2, hS2⟩ : ∃ S2, S2 = zwO S1 se 2 [.ref sg, .ref mk, .int (ci (e + 1))] := ⟨_, rfl⟩
  rw [← hS2] at f2
  have b1 : zOb S2 se 2 [.ref sg, .ref mk, .int (ci (e + 1))] := by rw [hS2]; exact zwO_self
  have b2 := f2.ia (fun hh => ne_oi a1 a2 hh.symm) a2
  have b3 := f2.ja (fun hh => ne_oj a1 a3 hh.symm) a3
  have f3 : zFrm S2 (zwJ S2 mk 64 (va_up G (x / 64) (cj (msk 64 (fun s => mkF N K (e + 1) (64 * (x / 64) + s)))))) (fun b => b = mk) := zFrm.wJ
  refine ⟨_, ?_, ⟨f3.ob (ne_oj b1 b3) b1, ⟨_, f3.ia (ne_ij b2 b3) b2, fun e' he' => ?_⟩, _, zwJ_self, fun r hr => ?_⟩, ((f1.wk (fun _ hb => Or.inr (Or.inl hb))).tr (f2.wk (fun _ => Or.inl))).tr (f3.wk (fun _ hb => Or.inr (Or.inr hb)))⟩
  · rw [zcl_ob h1]
    unfold fX2_addSingle
    rw [zgR_ob h1 rfl, Option.bind_some, zgI_ob h1 rfl, Option.bind_some, g_put (ci x) h2 he (by omega), ← hS1, Option.bind_some, zgI_ob a1 rfl, Option.bind_some, show ci e + (1 : Int32) = ci (e + 1) by rw [cl_1, ci_add], show zpF S1 se 2 2 (.int (ci (e + 1))) = some S2 by rw [hS2, zpF_ob _ a1 (by simp)]; rfl, Option.bind_some, zgR_ob b1 rfl, Option.bind_some, Option.bind_some, cl_64, ci_div (by omega) (by omega), g_getJ b3 (by omega) (by omega), if_pos (by omega), Option.bind_some, ci_mod (by omega) (by omega), g_shl1 (by omega), h5 _ (by omega), cj_or]
    have e1 : msk 64 (fun s => mkF N K e (64 * (x / 64) + s)) ||| 2 ^ (x % 64) = msk 64 (fun s => mkF N K (e + 1) (64 * (x / 64) + s)) := msk_eq (fun i => by
      rw [Nat.testBit_or, msk_bit, Nat.testBit_two_pow]
      show _ = (decide (i < 64) && (mkF N K e (64 * (x / 64) + i) || decide (enC N (K e) = 64 * (x / 64) + i)))
      rw [← hxe]
      by_cases h6 : i < 64
      · rw [decide_eq_true h6, Bool.true_and, Bool.true_and]
        by_cases h7 : x % 64 = i
        · rw [decide_eq_true h7, decide_eq_true (show x = 64 * (x / 64) + i by omega)]
        · rw [decide_eq_false h7, decide_eq_false (show ¬ x = 64 * (x / 64) + i by omega)]
      · rw [decide_eq_false h6, decide_eq_false (show ¬ x % 64 = i by omega)]; rfl)
    rw [e1, g_putJ _ b3 (by omega) (by omega), Option.bind_some]
  · unfold va_up
    by_cases hh : e' = e
    · rw [if_pos hh, hh, hxe]
    · rw [if_neg hh]; exact h3 e' (by omega)
  · unfold va_up
    by_cases hh : r = x / 64
    · rw [if_pos hh, hh]
    · rw [if_neg hh, h5 r hr]
      congr 1
      refine msk_congr (fun i hi => ?_)
      show mkF N K e (64 * r + i) = (mkF N K e (64 * r + i) || decide (enC N (K e) = 64 * r + i))
      rw [← hxe, decide_eq_false (show ¬ x = 64 * r + i by omega), Bool.or_false]
theorem enC_dec {N : Nat} {T : Nat → Bool} : enC N T = 0 ↔ ∀ t, t < N → T t = false := by
  rw [← enC_false (n := N), enC_inj]
theorem c_isSingle {S : ZS} {se sg mk N e : Nat} {K : Nat → Nat → Bool} {T : Nat → Bool} (h : zSe S se sg mk N K e) (hN : N ≤ 12) : fX2_isSingle se (ci (enC N T)) S = some (bI (mkF N K e (enC N T))) := by
  obtain ⟨h1, _, G, h4, h5⟩ := h
  have hx := enC_12 (N := N) (T := T) hN
  obtain ⟨x, hxe⟩ : ∃ x, x = enC N T := ⟨_, rfl⟩
  rw [← hxe] at hx ⊢
  have hb := msk_lt (n := 64) (h := fun s => mkF N K e (64 * (x / 64) + s))
  have h64 : (2 : Nat) ^ 64 = 18446744073709551616 := rfl
  have hu : (Int64.toUInt64 (Int32.toInt64 (ci (x % 64)))).toNat = x % 64 := by
    rw [ci_cj (by omega)]
    show (BitVec.ofNat 64 (x % 64)).toNat = x % 64
    rw [BitVec.toNat_ofNat, Nat.mod_eq_of_lt (by omega)]
  unfold fX2_isSingle fX2_isSingle_J28
  rw [zgR_ob h1 rfl, Option.bind_some, cl_64, ci_div (by omega) (by omega), ci_mod (by omega) (by omega), g_getJ h4 (by omega) (by omega), if_pos (by omega), h5 _ (by omega), Option.bind_some, cj_sh (by omega) hu (by omega), cj_1, cj_and, Nat.and_one_is_mod, cj_0]
  have e1 : (msk 64 (fun s => mkF N K e (64 * (x / 64) + s)) >>> (x % 64)) % 2 = bn (mkF N K e x) := by
    have := Nat.testBit_shiftRight (msk 64 (fun s => mkF N K e (64 * (x / 64) + s))) (i := x % 64) (j := 0)
    rw [msk_bit, decide_eq_true (show x % 64 + 0 < 64 by omega), Bool.true_and, show 64 * (x / 64) + (x % 64 + 0) = x by omega, Nat.testBit_eq_decide_div_mod_eq, Nat.pow_zero, Nat.div_one] at this
    rw [← this]
    have hm := Nat.mod_lt (msk 64 (fun s => mkF N K e (64 * (x / 64) + s)) >>> (x % 64)) (show 0 < 2 by omega)
    by_cases h0 : msk 64 (fun s => mkF N K e (64 * (x / 64) + s)) >>> (x % 64) % 2 = 1
    · rw [decide_eq_true h0, h0]; rfl
    · rw [decide_eq_false h0]; show _ = 0; omega
  rw [e1]
  cases mkF N K e x <;> rfl
theorem c_isMade {S : ZS} {se sg mk N cnt : Nat} {K : Nat → Nat → Bool} (h : zSe S se sg mk N K cnt) (hN : N ≤ 12) (hcnt : cnt ≤ 105) : ∀ (n fu from' : Nat) (T : Nat → Bool), n < fu → n ≤ 12 → from' ≤ cnt → ∃ bb, fX2_isMade fu se (ci (enC N T)) (ci n) (ci from') S = some (bI bb) ∧ (bb = true ↔ Md N cnt K n from' T) := by
  intro n
  induction n with
  | zero =>
    intro fu from' T hfu hn hfr
    obtain ⟨fu, rfl⟩ : ∃ M, fu = M + 1 := ⟨fu - 1, by omega⟩
    have hx := enC_12 (N := N) (T := T) hN
    refine ⟨decide (enC N T = 0), ?_, by rw [decide_eq_true_eq]; exact enC_dec⟩
    show fX2_isMade_F (fX2_isMade fu) se (ci (enC N T)) (ci 0) (ci from') S = _
    unfold fX2_isMade_F fX2_isMade_J14
    rw [if_neg (show ¬ (1 : Int32) ≤ ci 0 by decide)]
    by_cases h0 : enC N T = 0
    · rw [if_pos (by rw [h0]; rfl), decide_eq_true h0]; rfl
    · rw [if_neg (by rw [cl_0, ci_eq (by omega) (by omega)]; exact h0), decide_eq_false h0]; rfl
  | succ n ih =>
    intro fu from' T hfu hn hfr
    obtain ⟨fu, rfl⟩ : ∃ M, fu = M + 1 := ⟨fu - 1, by omega⟩
    have hx := enC_12 (N := N) (T := T) hN
    cases n with
    | zero =>
      refine ⟨mkF N K cnt (enC N T), ?_, ?_⟩
      · show fX2_isMade_F (fX2_isMade fu) se (ci (enC N T)) (ci 1) (ci from') S = _
        unfold fX2_isMade_F
        rw [if_pos (show (1 : Int32) ≤ ci 1 by decide), if_pos (show ci 1 = 1 from rfl), zcl_ob h.1, c_isSingle h hN, Option.bind_some, zbl_bI, Option.bind_some]
      · rw [mkF_iff]
        constructor
        · rintro ⟨e, e1, e2⟩
          exact ⟨e, e1, fun t ht => (enC_inj.mp e2 t ht).symm⟩
        · rintro ⟨e, e1, e2⟩
          exact ⟨e, e1, enC_inj.mpr (fun t ht => (e2 t ht).symm)⟩
    | succ n =>
      have key : ∀ (r e M : Nat), e + r = cnt → r < M → ∃ bb, ziter (fX2_isMade_B29 (fX2_isMade fu) se (ci (enC N T)) (ci (n + 1 + 1)) S) M (ci e) = some (bI bb) ∧ (bb = true ↔ Md N cnt K (n + 1 + 1) e T) := by
        intro r
        induction r with
        | zero =>
          intro e M he hM
          obtain ⟨M, rfl⟩ : ∃ M', M = M' + 1 := ⟨M - 1, by omega⟩
          refine ⟨false, ?_, ⟨fun hh => Bool.noConfusion hh, fun ⟨q, q1, q2, _⟩ => absurd q2 (by omega)⟩⟩
          rw [ziter_0]
          unfold fX2_isMade_B29
          rw [zgI_ob h.1 rfl, Option.bind_some, if_pos (by rw [ci_le (by omega) (by omega)]; omega), zex_some]
          rfl
        | succ r ihr =>
          intro e M he hM
          obtain ⟨M, rfl⟩ : ∃ M', M = M' + 1 := ⟨M - 1, by omega⟩
          obtain ⟨F, hF, hFe⟩ := h.2.1
          obtain ⟨b1, c1, c2⟩ := ih fu (e + 1) (xt T (K e)) (by omega) (by omega) (by omega)
          have st : fX2_isMade_B29 (fX2_isMade fu) se (ci (enC N T)) (ci (n + 1 + 1)) S (ci e) = if bI b1 = 0 then some (.inl (ci (e + 1))) else some (.inr 1) := by
            unfold fX2_isMade_B29
            rw [zgI_ob h.1 rfl, Option.bind_some, if_neg (by rw [ci_le (by omega) (by omega)]; omega), zgR_ob h.1 rfl, Option.bind_some, g_get hF (by omega) (by omega), if_pos (by omega), Option.bind_some, hFe e (by omega), ci_xor, enC_xor, zcl_ob h.1, show ci (n + 1 + 1) - (1 : Int32) = ci (n + 1) by rw [cl_1, ci_sub (by omega)]; rfl, show ci e + (1 : Int32) = ci (e + 1) by rw [cl_1, ci_add], c1, Option.bind_some, zex_some]
          cases hb : b1 with
          | true =>
            refine ⟨true, ?_, ⟨fun _ => ⟨e, Nat.le_refl e, by omega, c2.mp hb⟩, fun _ => rfl⟩⟩
            rw [hb, if_neg (show ¬ bI true = 0 by decide)] at st
            rw [ziter_0 st]
            rfl
          | false =>
            obtain ⟨b2, d1, d2⟩ := ihr (e + 1) M (by omega) (by omega)
            rw [hb, if_pos bI_f] at st
            refine ⟨b2, by rw [ziter_1 st]; exact d1, ?_⟩
            rw [d2]
            constructor
            · rintro ⟨q, q1, q2, q3⟩
              exact ⟨q, by omega, q2, q3⟩
            · rintro ⟨q, q1, q2, q3⟩
              by_cases hq : q = e
              · subst hq
                have := c2.mpr q3
                rw [hb] at this; cases this
              · exact ⟨q, by omega, q2, q3⟩
      obtain ⟨bb, k1, k2⟩ := key (cnt - from') from' zF (by omega) (by rw [zF_eq]; omega)
      refine ⟨bb, ?_, k2⟩
      show fX2_isMade_F (fX2_isMade fu) se (ci (enC N T)) (ci (n + 1 + 1)) (ci from') S = _
      unfold fX2_isMade_F
      rw [if_pos (by rw [cl_1, ci_le (by omega) (by omega)]; omega), if_neg (by rw [cl_1, ci_eq (by omega) (by omega)]; omega)]
      exact k1
-- 96.cgather.lean.txt
/-! LAW CASES 18, 19: the class gathers the singles, and searches -/
def cn5 : Bool := allB 5 (fun a => allB 5 (fun b => allB 5 (fun d => decide (12 < a * b * d) || decide (cnF a b d ≤ 105))))
theorem cn5_t : cn5 = true := by decide +kernel
theorem cnF_le {a b d : Nat} (hz : szOK a b d) (hN : a * b * d ≤ 12) : cnF a b d ≤ 105 := by
  unfold szOK at hz
  have h := allB_at (allB_at (allB_at (show allB 5 _ = true from cn5_t) (show a < 5 by omega)) (show b < 5 by omega)) (show d < 5 by omega)
  rw [decide_eq_false (show ¬ 12 < a * b * d by omega), Bool.false_or, decide_eq_true_eq] at h
  exact h
theorem zCu.se {S S1 : ZS} {c n a b d q se sg mk N e : Nat} {g : Nat → Nat} {K : Nat → Nat → Bool} (h : zCu S c n a b d q g) (z : zSe S se sg mk N K e) (hf : zFrm S S1 (pSe se sg mk)) : zCu S1 c n a b d q g := by
  obtain ⟨h1, ⟨F, h2, _⟩, G, h4, _⟩ := z
  exact h.kp (hf.2 _ (fun hh => by
    rcases hh with hh | hh | hh
    · exact ne_oo h.1 h1 (by omega) hh
    · exact ne_oi h.1 h2 hh
    · exact ne_oj h.1 h4 hh)) (hf.2 _ (fun hh => by
    rcases hh with hh | hh | hh
    · exact ne_oi h1 h.2 hh.symm
    · exact ne_ii h.2 h2 (by omega) hh
    · exact ne_ij h.2 h4 hh))
theorem p2_le {n : Nat} (hn : n ≤ 4) : 2 ^ n ≤ 625 := isP.pow (Or.inl rfl) hn
theorem c_ga3 {S : ZS} {se sg mk c n a b d q f s : Nat} {g : Nat → Nat} (hz : szOK a b d) (hN : a * b * d ≤ 12) (hf : f < 2 ^ a - 1) (hs : s < 2 ^ b - 1) (z : zSe S se sg mk (a * b * d) (Kc a b d) ((f * (2 ^ b - 1) + s) * (2 ^ d - 1) + 0)) (h : zCu S c n a b d q g) : ∃ S1, ziter (fX2_gatherSingles_B59 se c (ci (f + 1)) (ci (s + 1))) zF (ci 1, S) = some (.inl (ci (s + 1 + 1), S1)) ∧ zSe S1 se sg mk (a * b * d) (Kc a b d) ((f * (2 ^ b - 1) + (s + 1)) * (2 ^ d - 1) + 0) ∧ zCu S1 c n a b d q g ∧ zFrm S S1 (pSe se sg mk) := by
  have hz' := hz
  unfold szOK at hz'
  have p3 := pow1 hz'.2.2.1
  have q1 := p2_le hz'.1.2
  have q2 := p2_le hz'.2.1.2
  have q3 := p2_le hz'.2.2.2
  have hc := cnF_le hz hN
  have := ziter_for (body := fX2_gatherSingles_B59 se c (ci (f + 1)) (ci (s + 1))) (fun u S' => (1 ≤ u ∧ u ≤ 2 ^ d) ∧ (zSe S' se sg mk (a * b * d) (Kc a b d) ((f * (2 ^ b - 1) + s) * (2 ^ d - 1) + (u - 1)) ∧ zCu S' c n a b d q g) ∧ zFrm S S' (pSe se sg mk)) (fun r => ∃ S1, r = .inl (ci (s + 1 + 1), S1) ∧ zSe S1 se sg mk (a * b * d) (Kc a b d) ((f * (2 ^ b - 1) + (s + 1)) * (2 ^ d - 1) + 0) ∧ zCu S1 c n a b d q g ∧ zFrm S S1 (pSe se sg mk)) (2 ^ d) ?_ ?_ (2 ^ d - 1) 1 zF S (by omega) (by rw [zF_eq]; omega) ⟨⟨Nat.le_refl 1, by omega⟩, ⟨z, h⟩, zFrm.rf⟩
  · obtain ⟨r, h1, S1, rfl, h2⟩ := this
    exact ⟨S1, h1, h2⟩
  · rintro u S' hu ⟨⟨u1, _⟩, ⟨y, hcu⟩, hfr⟩
    have l1 := lt_mul (r := f) (s := s) (a := 2 ^ a - 1) (b := 2 ^ b - 1) hf hs
    have l2 := lt_mul (r := f * (2 ^ b - 1) + s) (s := u - 1) (a := (2 ^ a - 1) * (2 ^ b - 1)) (b := 2 ^ d - 1) l1 (by omega)
    have l3 : (f * (2 ^ b - 1) + s) * (2 ^ d - 1) + (u - 1) < 105 := Nat.lt_of_lt_of_le l2 hc
    have hb := c_bits1 hcu hz (f := f + 1) (s := s + 1) (u := u) (by omega) (by omega) hu
    have hk := Kc_at (a := a) (b := b) (d := d) (f := f) (s := s) (t := u - 1) hs (by omega)
    rw [show u - 1 + 1 = u by omega] at hk
    rw [← hk] at hb
    obtain ⟨S1, a1, a2, a3⟩ := c_addSingle y hN l3
    refine ⟨S1, ?_, ⟨by omega, by omega⟩, ⟨?_, hcu.se y a3⟩, hfr.tr a3⟩
    · unfold fX2_gatherSingles_B59
      simp only []
      rw [zgI_ob hcu.1 rfl, Option.bind_some, cl_2, g_power (by omega), Option.bind_some, if_neg (by rw [ci_le (by omega) (by omega)]; omega), hb, Option.bind_some, a1, Option.bind_some, cl_1, ci_add]
    · rw [show u + 1 - 1 = u - 1 + 1 by omega]; exact a2
  · rintro S' ⟨_, ⟨y, hcu⟩, hfr⟩
    refine ⟨.inl (ci (s + 1 + 1), S'), ?_, S', rfl, ?_, hcu, hfr⟩
    · unfold fX2_gatherSingles_B59
      simp only []
      rw [zgI_ob hcu.1 rfl, Option.bind_some, cl_2, g_power (by omega), Option.bind_some, if_pos (by rw [ci_le (by omega) (by omega)]; omega), cl_1, ci_add, zex_some]
    · rw [Nat.add_zero, show (f * (2 ^ b - 1) + (s + 1)) * (2 ^ d - 1) = (f * (2 ^ b - 1) + s) * (2 ^ d - 1) + (2 ^ d - 1) by rw [← Nat.succ_mul]; rfl]; exact y
theorem c_ga2 {S : ZS} {se sg mk c n a b d q f : Nat} {g : Nat → Nat} (hz : szOK a b d) (hN : a * b * d ≤ 12) (hf : f < 2 ^ a - 1) (z : zSe S se sg mk (a * b * d) (Kc a b d) ((f * (2 ^ b - 1) + 0) * (2 ^ d - 1) + 0)) (h : zCu S c n a b d q g) : ∃ S1, ziter (fX2_gatherSingles_B44 se c (ci (f + 1))) zF (ci 1, S) = some (.inl (ci (f + 1 + 1), S1)) ∧ zSe S1 se sg mk (a * b * d) (Kc a b d) (((f + 1) * (2 ^ b - 1) + 0) * (2 ^ d - 1) + 0) ∧ zCu S1 c n a b d q g ∧ zFrm S S1 (pSe se sg mk) := by
  have hz' := hz
  unfold szOK at hz'
  have p2 := pow1 hz'.2.1.1
  have q1 := p2_le hz'.1.2
  have q2 := p2_le hz'.2.1.2
  have := ziter_for (body := fX2_gatherSingles_B44 se c (ci (f + 1))) (fun s S' => (1 ≤ s ∧ s ≤ 2 ^ b) ∧ (zSe S' se sg mk (a * b * d) (Kc a b d) ((f * (2 ^ b - 1) + (s - 1)) * (2 ^ d - 1) + 0) ∧ zCu S' c n a b d q g) ∧ zFrm S S' (pSe se sg mk)) (fun r => ∃ S1, r = .inl (ci (f + 1 + 1), S1) ∧ zSe S1 se sg mk (a * b * d) (Kc a b d) (((f + 1) * (2 ^ b - 1) + 0) * (2 ^ d - 1) + 0) ∧ zCu S1 c n a b d q g ∧ zFrm S S1 (pSe se sg mk)) (2 ^ b) ?_ ?_ (2 ^ b - 1) 1 zF S (by omega) (by rw [zF_eq]; omega) ⟨⟨Nat.le_refl 1, by omega⟩, ⟨z, h⟩, zFrm.rf⟩
  · obtain ⟨r, h1, S1, rfl, h2⟩ := this
    exact ⟨S1, h1, h2⟩
  · rintro s S' hs ⟨⟨s1, _⟩, ⟨y, hcu⟩, hfr⟩
    obtain ⟨S1, a1, a2, a3, a4⟩ := c_ga3 (s := s - 1) hz hN hf (by omega) y hcu
    rw [show s - 1 + 1 = s by omega] at a1 a2
    refine ⟨S1, ?_, ⟨by omega, by omega⟩, ⟨?_, a3⟩, hfr.tr a4⟩
    · unfold fX2_gatherSingles_B44
      simp only []
      rw [zgI_ob hcu.1 rfl, Option.bind_some, cl_2, g_power (by omega), Option.bind_some, if_neg (by rw [ci_le (by omega) (by omega)]; omega), cl_1]
      exact a1
    · rw [show s + 1 - 1 = s by omega]; exact a2
  · rintro S' ⟨_, ⟨y, hcu⟩, hfr⟩
    refine ⟨.inl (ci (f + 1 + 1), S'), ?_, S', rfl, ?_, hcu, hfr⟩
    · unfold fX2_gatherSingles_B44
      simp only []
      rw [zgI_ob hcu.1 rfl, Option.bind_some, cl_2, g_power (by omega), Option.bind_some, if_pos (by rw [ci_le (by omega) (by omega)]; omega), cl_1, ci_add, zex_some]
    · rw [show (f + 1) * (2 ^ b - 1) + 0 = f * (2 ^ b - 1) + (2 ^ b - 1) by rw [Nat.add_zero, Nat.succ_mul]]; exact y
theorem c_ga1 {S : ZS} {se sg mk c n a b d q : Nat} {g : Nat → Nat} (hz : szOK a b d) (hN : a * b * d ≤ 12) (z : zSe S se sg mk (a * b * d) (Kc a b d) 0) (h : zCu S c n a b d q g) : ∃ S1, ziter (fX2_gatherSingles_B30 se c) zF (ci 1, S) = some S1 ∧ zSe S1 se sg mk (a * b * d) (Kc a b d) (cnF a b d) ∧ zCu S1 c n a b d q g ∧ zFrm S S1 (pSe se sg mk) := by
  have hz' := hz
  unfold szOK at hz'
  have p1 := pow1 hz'.1.1
  have q1 := p2_le hz'.1.2
  have := ziter_for (body := fX2_gatherSingles_B30 se c) (fun f S' => (1 ≤ f ∧ f ≤ 2 ^ a) ∧ (zSe S' se sg mk (a * b * d) (Kc a b d) (((f - 1) * (2 ^ b - 1) + 0) * (2 ^ d - 1) + 0) ∧ zCu S' c n a b d q g) ∧ zFrm S S' (pSe se sg mk)) (fun r => zSe r se sg mk (a * b * d) (Kc a b d) (cnF a b d) ∧ zCu r c n a b d q g ∧ zFrm S r (pSe se sg mk)) (2 ^ a) ?_ ?_ (2 ^ a - 1) 1 zF S (by omega) (by rw [zF_eq]; omega) ⟨⟨Nat.le_refl 1, by omega⟩, ⟨by rw [Nat.sub_self, Nat.zero_mul, Nat.zero_mul]; exact z, h⟩, zFrm.rf⟩
  · exact this
  · rintro f S' hf ⟨⟨f1, _⟩, ⟨y, hcu⟩, hfr⟩
    obtain ⟨S1, a1, a2, a3, a4⟩ := c_ga2 (f := f - 1) hz hN (by omega) y hcu
    rw [show f - 1 + 1 = f by omega] at a1 a2
    refine ⟨S1, ?_, ⟨by omega, by omega⟩, ⟨?_, a3⟩, hfr.tr a4⟩
    · unfold fX2_gatherSingles_B30
      simp only []
      rw [zgI_ob hcu.1 rfl, Option.bind_some, cl_2, g_power (by omega), Option.bind_some, if_neg (by rw [ci_le (by omega) (by omega)]; omega), cl_1]
      exact a1
    · rw [show f + 1 - 1 = f by omega]; exact a2
  · rintro S' ⟨_, ⟨y, hcu⟩, hfr⟩
    refine ⟨S', ?_, ?_, hcu, hfr⟩
    · unfold fX2_gatherSingles_B30
      simp only []
      rw [zgI_ob hcu.1 rfl, Option.bind_some, cl_2, g_power (by omega), Option.bind_some, if_pos (by rw [ci_le (by omega) (by omega)]; omega), zex_some]
    · exact y
theorem c_gather {S : ZS} {se sg mk c n a b d q : Nat} {g : Nat → Nat} {x : Int32} {F : Nat → Int32} {G : Nat → Int64} (hz : szOK a b d) (hN : a * b * d ≤ 12) (h1 : zOb S se 2 [.ref sg, .ref mk, .int x]) (h2 : zIA S sg 105 F) (h4 : zJA S mk 64 G) (h : zCu S c n a b d q g) : ∃ S1, fX2_gatherSingles se c S = some S1 ∧ zSe S1 se sg mk (a * b * d) (Kc a b d) (cnF a b d) ∧ zCu S1 c n a b d q g ∧ zFrm S S1 (pSe se sg mk) := by
  have cu : ∀ {S S1 : ZS} {x : Int32} {G : Nat → Int64}, zOb S se 2 [.ref sg, .ref mk, .int x] → zIA S sg 105 F → zJA S mk 64 G → zCu S c n a b d q g → zFrm S S1 (pSe se sg mk) → zCu S1 c n a b d q g := by
    intro S S1 x G h1 h2 h4 h hf
    exact h.kp (hf.2 _ (fun hh => by
      rcases hh with hh | hh | hh
      · exact ne_oo h.1 h1 (by omega) hh
      · exact ne_oi h.1 h2 hh
      · exact ne_oj h.1 h4 hh)) (hf.2 _ (fun hh => by
      rcases hh with hh | hh | hh
      · exact ne_oi h1 h.2 hh.symm
      · exact ne_ii h.2 h2 (by omega) hh
      · exact ne_ij h.2 h4 hh))
  have := ziter_for (body := fX2_gatherSingles_B2 se c) (fun t S' => (zOb S' se 2 [.ref sg, .ref mk, .int x] ∧ zIA S' sg 105 F ∧ ∃ G', zJA S' mk 64 G' ∧ ∀ r, r < t → G' r = cj 0) ∧ zFrm S S' (pSe se sg mk)) (fun r => zSe r se sg mk (a * b * d) (Kc a b d) (cnF a b d) ∧ zCu r c n a b d q g ∧ zFrm S r (pSe se sg mk)) 64 ?_ ?_ 64 0 zF S (by omega) (by rw [zF_eq]; omega) ⟨⟨h1, h2, G, h4, fun r hr => absurd hr (Nat.not_lt_zero _)⟩, zFrm.rf⟩
  · exact this
  · rintro t S' ht ⟨⟨y1, y2, G', y4, y5⟩, hf⟩
    have f3 : zFrm S' (zwJ S' mk 64 (va_up G' t (cj 0))) (fun b => b = mk) := zFrm.wJ
    refine ⟨zwJ S' mk 64 (va_up G' t (cj 0)), ?_, ⟨f3.ob (ne_oj y1 y4) y1, f3.ia (ne_ij y2 y4) y2, _, zwJ_self, fun r hr => ?_⟩, hf.tr (f3.wk (fun _ hb => Or.inr (Or.inr hb)))⟩
    · unfold fX2_gatherSingles_B2
      simp only []
      rw [if_neg (by rw [cl_64, ci_le (by omega) (by omega)]; omega), zgR_ob y1 rfl, Option.bind_some, cj_0, g_putJ _ y4 ht (by omega), Option.bind_some, cl_1, ci_add]
    · unfold va_up
      by_cases hh : r = t
      · rw [if_pos hh]
      · rw [if_neg hh]; exact y5 r (by omega)
  · rintro S' ⟨⟨y1, y2, G', y4, y5⟩, hf⟩
    have f2 : zFrm S' (zwO S' se 2 [.ref sg, .ref mk, .int (ci 0)]) (fun b => b = se) := zFrm.wO
    have z0 : zSe (zwO S' se 2 [.ref sg, .ref mk, .int (ci 0)]) se sg mk (a * b * d) (Kc a b d) 0 := ⟨zwO_self, ⟨F, f2.ia (fun hh => ne_oi y1 y2 hh.symm) y2, fun e' he' => absurd he' (Nat.not_lt_zero _)⟩, G', f2.ja (fun hh => ne_oj y1 y4 hh.symm) y4, fun r hr => by
      rw [y5 r hr]
      show cj 0 = cj (msk 64 (fun _ => false))
      rw [msk_0]⟩
    have hcu := cu y1 y2 y4 (cu h1 h2 h4 h hf) (f2.wk (fun _ => Or.inl))
    obtain ⟨S1, a1, a2, a3, a4⟩ := c_ga1 hz hN z0 hcu
    refine ⟨S1, ?_, a2, a3, (hf.tr (f2.wk (fun _ => Or.inl))).tr a4⟩
    unfold fX2_gatherSingles_B2
    simp only []
    rw [if_pos (by rw [cl_64, ci_le (by omega) (by omega)]; omega), zpF_ob _ y1 (by simp), Option.bind_some]
    show zex (ziter (fX2_gatherSingles_B30 se c) zF (ci 1, zwO S' se 2 [.ref sg, .ref mk, .int (ci 0)])) = _
    rw [a1, zex_some]
theorem c_fewest {S : ZS} {se sg mk c n a b d q lo D : Nat} {g : Nat → Nat} {x : Int32} {F : Nat → Int32} {G : Nat → Int64} (hz : szOK a b d) (hN : a * b * d ≤ 12) (h1 : zOb S se 2 [.ref sg, .ref mk, .int x]) (h2 : zIA S sg 105 F) (h4 : zJA S mk 64 G) (h : zCu S c n a b d q g) (hg : cOK 2 a b d g) (hD : Rch a b d D (tGc b d g)) (hmin : ∀ k, Rch a b d k (tGc b d g) → D ≤ k) (hlo : lo ≤ D) (hD12 : D ≤ 12) : ∃ S1 x1 F1 G1, fX2_fewest se c (ci lo) S = some (ci D, S1) ∧ zOb S1 se 2 [.ref sg, .ref mk, .int x1] ∧ zIA S1 sg 105 F1 ∧ zJA S1 mk 64 G1 ∧ zFrm S S1 (pSe se sg mk) := by
  have hz' := hz
  unfold szOK at hz'
  have hcnt := cnF_le hz hN
  obtain ⟨S1, a1, a2, a3, a4⟩ := c_gather hz hN h1 h2 h4 h
  have hbits := c_bitsOf a3 hz hg
  have a2' := a2
  obtain ⟨b1, ⟨F1, b2, _⟩, G1, b4, _⟩ := a2'
  refine ⟨S1, _, F1, G1, ?_, b1, b2, b4, a4⟩
  unfold fX2_fewest
  rw [zcl_ob h1, a1, Option.bind_some, hbits, Option.bind_some]
  have key : ∀ (r m M : Nat), m + r = D → r < M → ziter (fX2_fewest_B13 se (ci (enC (a * b * d) (tGc b d g))) S1) M (ci m) = some (ci D, S1) := by
    intro r
    induction r with
    | zero =>
      intro m M hm hM
      obtain ⟨M, rfl⟩ : ∃ M', M = M' + 1 := ⟨M - 1, by omega⟩
      obtain rfl : m = D := by omega
      rw [ziter_0]
      unfold fX2_fewest_B13
      by_cases h12 : m = 12
      · subst h12
        rw [if_pos (show (12 : Int32) ≤ ci 12 by decide), zex_some]
        rfl
      · obtain ⟨bb, c1, c2⟩ := c_isMade a2 hN hcnt m 13 0 (tGc b d g) (by omega) (by omega) (Nat.zero_le _)
        have hb : bb = true := c2.mpr (Rch_Md hz'.1.1 hz'.2.1.1 hz'.2.2.1 hD hmin)
        rw [hb] at c1
        rw [if_neg (by rw [cl_12, ci_le (by omega) (by omega)]; omega), zcl_ob b1, cl_0, c1, Option.bind_some, if_neg (show ¬ bI true = ci 0 by decide), zex_some]
    | succ r ih =>
      intro m M hm hM
      obtain ⟨M, rfl⟩ : ∃ M', M = M' + 1 := ⟨M - 1, by omega⟩
      obtain ⟨bb, c1, c2⟩ := c_isMade a2 hN hcnt m 13 0 (tGc b d g) (by omega) (by omega) (Nat.zero_le _)
      have hb : bb = false := by
        cases hbb : bb with
        | false => rfl
        | true =>
          have := hmin m (Md_Rch hz'.1.1 hz'.2.1.1 hz'.2.2.1 m 0 _ (c2.mp hbb))
          omega
      rw [hb] at c1
      have st : fX2_fewest_B13 se (ci (enC (a * b * d) (tGc b d g))) S1 (ci m) = some (.inl (ci (m + 1))) := by
        unfold fX2_fewest_B13
        rw [if_neg (by rw [cl_12, ci_le (by omega) (by omega)]; omega), zcl_ob b1, cl_0, c1, Option.bind_some, if_pos (show bI false = ci 0 from rfl), cl_1, ci_add]
      rw [ziter_1 st]
      exact ih (m + 1) M (by omega) (by omega)
  exact key (D - lo) lo zF (by omega) (by rw [zF_eq]; omega)
-- 96.dbfs.lean.txt
/-! LAW CASES 18, 19: the breadth-first search, abstractly -/
def tb (x : Nat) : Nat → Bool := fun i => x.testBit i
theorem tb_msk {N : Nat} {T : Nat → Bool} {t : Nat} (ht : t < N) : tb (msk N T) t = T t := by
  unfold tb
  rw [msk_bit, decide_eq_true ht, Bool.true_and]
theorem tb_hi {N x : Nat} (hx : x < 2 ^ N) {t : Nat} (ht : N ≤ t) : tb x t = false := Nat.testBit_lt_two_pow (Nat.lt_of_lt_of_le hx (Nat.pow_le_pow_right (by omega) ht))
theorem tb_zero {N x : Nat} (hx : x < 2 ^ N) (h : ∀ t, t < N → tb x t = false) : x = 0 := Nat.eq_of_testBit_eq (fun i => by
  rw [Nat.zero_testBit]
  by_cases hi : i < N
  · exact h i hi
  · exact tb_hi hx (by omega))
theorem tb_nz {n x : Nat} (h0 : 0 < x) (hx : x < 2 ^ n) : nzv n (tb x) := by
  apply Classical.byContradiction
  intro hh
  have := tb_zero hx (fun t ht => by
    cases hb : tb x t with
    | false => rfl
    | true => exact absurd ⟨t, ht, hb⟩ hh)
  omega
/-- the singles, as numbers -/
def sgN (a b d one two three : Nat) : Nat := msk (a * b * d) (sT b d (tb one) (tb two) (tb three))
def SG (a b d s : Nat) : Prop := ∃ one two three, (0 < one ∧ one < 2 ^ a) ∧ (0 < two ∧ two < 2 ^ b) ∧ (0 < three ∧ three < 2 ^ d) ∧ s = sgN a b d one two three
theorem SG_of {a b d : Nat} {x y z : Nat → Bool} (hb : 1 ≤ b) (hd : 1 ≤ d) (h1 : nzv a x) (h2 : nzv b y) (h3 : nzv d z) : SG a b d (msk (a * b * d) (sT b d x y z)) := by
  have pos : ∀ n (u : Nat → Bool), nzv n u → 0 < msk n u := fun n u ⟨i, hi, hu⟩ => by
    apply Classical.byContradiction
    intro hh
    have h0 : msk n u = 0 := by omega
    have := tb_msk (N := n) (T := u) hi
    rw [h0, hu] at this
    unfold tb at this
    rw [Nat.zero_testBit] at this
    cases this
  refine ⟨msk a x, msk b y, msk d z, ⟨pos a x h1, msk_lt⟩, ⟨pos b y h2, msk_lt⟩, ⟨pos d z h3, msk_lt⟩, ?_⟩
  exact msk_congr (sT_cg hb hd (fun i hi => (tb_msk hi).symm) (fun i hi => (tb_msk hi).symm) (fun i hi => (tb_msk hi).symm))
theorem xor_lt {N x y : Nat} (hx : x < 2 ^ N) (hy : y < 2 ^ N) : x ^^^ y < 2 ^ N := Nat.xor_lt_two_pow hx hy
theorem sgN_lt {a b d one two three : Nat} : sgN a b d one two three < 2 ^ (a * b * d) := msk_lt
theorem tb_xor {x s : Nat} : tb (x ^^^ s) = xt (tb x) (tb s) := by
  funext t
  unfold tb xt
  rw [Nat.testBit_xor]
theorem Rch_step {a b d n x one two three : Nat} (h1 : 0 < one ∧ one < 2 ^ a) (h2 : 0 < two ∧ two < 2 ^ b) (h3 : 0 < three ∧ three < 2 ^ d) (h : Rch a b d n (tb x)) : Rch a b d (n + 1) (tb (x ^^^ sgN a b d one two three)) := by
  refine ⟨tb one, tb two, tb three, tb_nz h1.1 h1.2, tb_nz h2.1 h2.2, tb_nz h3.1 h3.2, Rch_cg n _ _ (fun t ht => ?_) h⟩
  rw [tb_xor]
  unfold xt sgN
  rw [tb_msk ht]
  cases tb x t <;> cases sT b d (tb one) (tb two) (tb three) t <;> rfl
def kn (fr : Nat → Nat) (x : Nat) : Nat := if fr x = 0 then 0 else 1
/-- the search's invariant: what is behind head h is closed -/
def BI (a b d : Nat) (fr q dd : Nat → Nat) (L h : Nat) : Prop :=
  L = sm (2 ^ (a * b * d)) (kn fr) ∧ (∀ i, i < L → q i < 2 ^ (a * b * d) ∧ fr (q i) = dd i + 1) ∧ (∀ x, x < 2 ^ (a * b * d) → fr x ≠ 0 → ∃ i, i < L ∧ q i = x) ∧ (∀ i j, i ≤ j → j < L → dd i ≤ dd j) ∧ (∀ i, i < L → Rch a b d (dd i) (tb (q i))) ∧ (0 < L ∧ q 0 = 0 ∧ dd 0 = 0) ∧ (∀ i, i < h → i < L → ∀ s, SG a b d s → fr (q i ^^^ s) ≠ 0 ∧ fr (q i ^^^ s) ≤ dd i + 2) ∧ (h < L → ∀ i, i < L → dd i ≤ dd h + 1)
theorem BI_L {a b d L h : Nat} {fr q dd : Nat → Nat} (B : BI a b d fr q dd L h) {x : Nat} (hx : x < 2 ^ (a * b * d)) (h0 : fr x = 0) : L < 2 ^ (a * b * d) := by
  rw [B.1]
  have h1 : ∀ n, x < n → sm n (kn fr) + 1 ≤ n := by
    intro n
    induction n with
    | zero => intro h; omega
    | succ n ih =>
      intro h
      have e : sm (n + 1) (kn fr) = sm n (kn fr) + kn fr n := rfl
      have hk : ∀ y, kn fr y ≤ 1 := fun y => by unfold kn; split <;> omega
      rw [e]
      by_cases hn : x = n
      · have hs := sm_le (n := n) (b := 1) (f := kn fr) (fun k _ => hk k)
        have : kn fr n = 0 := by unfold kn; rw [← hn, if_pos h0]
        omega
      · have := ih (by omega)
        have := hk n
        omega
  have := h1 _ hx
  omega
theorem sm_upd {n x : Nat} {f g : Nat → Nat} (hx : x < n) (h0 : f x = 0) (h1 : g x = 1) (hg : ∀ y, y ≠ x → g y = f y) : sm n g = sm n f + 1 := by
  have e : sm n g = sm n (fun k => f k + (if k = x then 1 else 0)) := sm_congr (fun k _ => by
    by_cases hk : k = x
    · rw [hk, h1, h0, if_pos rfl]
    · rw [hg k hk, if_neg hk, Nat.add_zero])
  rw [e, sm_add, sm_single hx]
/-- learning of a neighbour of head h -/
theorem BI_learn {a b d L h one two three : Nat} {fr q dd : Nat → Nat} (B : BI a b d fr q dd L h) (hL : h < L) (h1 : 0 < one ∧ one < 2 ^ a) (h2 : 0 < two ∧ two < 2 ^ b) (h3 : 0 < three ∧ three < 2 ^ d) (h0 : fr (q h ^^^ sgN a b d one two three) = 0) : BI a b d (va_up fr (q h ^^^ sgN a b d one two three) (dd h + 2)) (va_up q L (q h ^^^ sgN a b d one two three)) (va_up dd L (dd h + 1)) (L + 1) h := by
  obtain ⟨j1, j2, j3, j4, j5, j6, j7, j8⟩ := B
  have hto := xor_lt (j2 h hL).1 (sgN_lt (a := a) (b := b) (d := d) (one := one) (two := two) (three := three))
  have hr := Rch_step h1 h2 h3 (j5 h hL)
  obtain ⟨w, hw⟩ : ∃ w, w = q h ^^^ sgN a b d one two three := ⟨_, rfl⟩
  rw [← hw] at hto hr h0 ⊢
  have qne : ∀ i, i < L → q i ≠ w := fun i hi hh => by
    have := (j2 i hi).2
    rw [hh, h0] at this; omega
  have qo : ∀ i, i < L → va_up q L w i = q i := fun i hi => va_up_ne _ _ (by omega)
  have do' : ∀ i, i < L → va_up dd L (dd h + 1) i = dd i := fun i hi => va_up_ne _ _ (by omega)
  refine ⟨?_, fun i hi => ?_, fun x hx hfx => ?_, fun i j hij hj => ?_, fun i hi => ?_, ⟨by omega, by rw [qo 0 j6.1]; exact j6.2.1, by rw [do' 0 j6.1]; exact j6.2.2⟩, fun i hi hiL s hs => ?_, fun _ i hi => ?_⟩
  · rw [j1]
    refine (sm_upd hto ?_ ?_ (fun y hy => ?_)).symm
    · unfold kn; rw [if_pos h0]
    · unfold kn; rw [va_up_self, if_neg (by omega)]
    · unfold kn; rw [va_up_ne _ _ hy]
  · by_cases hiL : i = L
    · subst hiL
      rw [va_up_self, va_up_self, va_up_self]
      exact ⟨hto, rfl⟩
    · rw [qo i (by omega), do' i (by omega), va_up_ne _ _ (qne i (by omega))]
      exact j2 i (by omega)
  · by_cases hxw : x = w
    · exact ⟨L, by omega, by rw [va_up_self, hxw]⟩
    · rw [va_up_ne _ _ hxw] at hfx
      obtain ⟨i, i1, i2⟩ := j3 x hx hfx
      exact ⟨i, by omega, by rw [qo i i1]; exact i2⟩
  · by_cases hjL : j = L
    · subst hjL
      rw [va_up_self]
      by_cases hiL : i = j
      · rw [hiL, va_up_self]; exact Nat.le_refl _
      · rw [do' i (by omega)]; exact j8 hL i (by omega)
    · rw [do' i (by omega), do' j (by omega)]
      exact j4 i j hij (by omega)
  · by_cases hiL : i = L
    · subst hiL
      rw [va_up_self, va_up_self]; exact hr
    · rw [do' i (by omega), qo i (by omega)]
      exact j5 i (by omega)
  · have hiL' : i < L := by omega
    rw [qo i hiL', do' i hiL']
    obtain ⟨e1, e2⟩ := j7 i hi hiL' s hs
    rw [va_up_ne _ _ (fun hh => e1 (by rw [hh, h0]))]
    exact ⟨e1, e2⟩
  · rw [do' h hL]
    by_cases hiL : i = L
    · subst hiL; rw [va_up_self]; exact Nat.le_refl _
    · rw [do' i (by omega)]; exact j8 hL i (by omega)
/-- what is known of a neighbour is low enough -/
theorem BI_known {a b d L h x : Nat} {fr q dd : Nat → Nat} (B : BI a b d fr q dd L h) (hL : h < L) (hx : x < 2 ^ (a * b * d)) (h0 : fr x ≠ 0) : fr x ≤ dd h + 2 := by
  obtain ⟨i, i1, i2⟩ := B.2.2.1 x hx h0
  have := (B.2.1 i i1).2
  have h8 := B.2.2.2.2.2.2.2 hL i i1
  rw [i2] at this
  omega
theorem BI_next {a b d L h : Nat} {fr q dd : Nat → Nat} (B : BI a b d fr q dd L h) (hL : h < L) (hall : ∀ s, SG a b d s → fr (q h ^^^ s) ≠ 0 ∧ fr (q h ^^^ s) ≤ dd h + 2) : BI a b d fr q dd L (h + 1) := by
  obtain ⟨j1, j2, j3, j4, j5, j6, j7, j8⟩ := B
  refine ⟨j1, j2, j3, j4, j5, j6, fun i hi hiL s hs => ?_, fun h1 i hi => ?_⟩
  · by_cases hih : i = h
    · rw [hih]; exact hall s hs
    · exact j7 i (by omega) hiL s hs
  · have := j8 hL i hi
    have := j4 h (h + 1) (by omega) h1
    omega
theorem BI_all {a b d L h : Nat} {fr q dd : Nat → Nat} (hb : 1 ≤ b) (hd : 1 ≤ d) (B : BI a b d fr q dd L h) : ∀ n x, x < 2 ^ (a * b * d) → Rch a b d n (tb x) → (fr x ≠ 0 ∧ fr x ≤ n + 1) ∨ ∃ i, h ≤ i ∧ i < L ∧ dd i < n := by
  intro n
  induction n with
  | zero =>
    intro x hx hr
    have := tb_zero hx hr
    subst this
    have h2 := (B.2.1 0 B.2.2.2.2.2.1.1).2
    rw [B.2.2.2.2.2.1.2.1, B.2.2.2.2.2.1.2.2] at h2
    exact Or.inl ⟨by omega, by omega⟩
  | succ n ih =>
    rintro x hx ⟨X, Y, Z, n1, n2, n3, hr⟩
    have hs := SG_of hb hd n1 n2 n3
    have hsl : msk (a * b * d) (sT b d X Y Z) < 2 ^ (a * b * d) := msk_lt
    have hr' : Rch a b d n (tb (x ^^^ msk (a * b * d) (sT b d X Y Z))) := Rch_cg n _ _ (fun t ht => by
      rw [tb_xor]
      unfold xt
      rw [tb_msk ht]) hr
    rcases ih _ (xor_lt hx hsl) hr' with ⟨e1, e2⟩ | ⟨i, i1, i2, i3⟩
    · obtain ⟨i, i1, i2⟩ := B.2.2.1 _ (xor_lt hx hsl) e1
      have h2 := (B.2.1 i i1).2
      rw [i2] at h2
      by_cases hi : i < h
      · have h7 := B.2.2.2.2.2.2.1 i hi i1 _ hs
        rw [i2, Nat.xor_assoc, Nat.xor_self, Nat.xor_zero] at h7
        exact Or.inl ⟨h7.1, by omega⟩
      · exact Or.inr ⟨i, by omega, i1, by omega⟩
    · exact Or.inr ⟨i, i1, i2, by omega⟩
theorem BI_end {a b d L h x : Nat} {fr q dd : Nat → Nat} (hb : 1 ≤ b) (hd : 1 ≤ d) (B : BI a b d fr q dd L h) (hx : x < 2 ^ (a * b * d)) (hstop : L ≤ h ∨ fr x ≠ 0) (hre : ∃ n, Rch a b d n (tb x)) : ∃ D, fr x = D + 1 ∧ Rch a b d D (tb x) ∧ ∀ k, Rch a b d k (tb x) → D ≤ k := by
  have hne : fr x ≠ 0 := by
    rcases hstop with h1 | h1
    · obtain ⟨n, hn⟩ := hre
      rcases BI_all hb hd B n x hx hn with h2 | ⟨i, i1, i2, _⟩
      · exact h2.1
      · omega
    · exact h1
  obtain ⟨i, i1, i2⟩ := B.2.2.1 x hx hne
  have h2 := (B.2.1 i i1).2
  have h5 := B.2.2.2.2.1 i i1
  rw [i2] at h2 h5
  refine ⟨dd i, h2, h5, fun k hk => ?_⟩
  rcases BI_all hb hd B k x hx hk with ⟨_, e2⟩ | ⟨j, k1, k2, k3⟩
  · omega
  · have h4 := B.2.2.2.1 h j k1 k2
    have h8 := B.2.2.2.2.2.2.2 (by omega) i i1
    omega
/-- every set of places is a sum of singles -/
theorem Rch_ex {a b d : Nat} (hb : 1 ≤ b) (hd : 1 ≤ d) : ∀ m T, m ≤ a * b * d → (∀ t, m ≤ t → t < a * b * d → T t = false) → ∃ n, n ≤ m ∧ Rch a b d n T := by
  intro m
  induction m with
  | zero => intro T _ h; exact ⟨0, Nat.le_refl 0, fun t ht => h t (Nat.zero_le t) ht⟩
  | succ m ih =>
    intro T hm h
    cases hT : T m with
    | false =>
      obtain ⟨n, n1, n2⟩ := ih T (by omega) (fun t h1 h2 => by
        by_cases htm : t = m
        · rw [htm]; exact hT
        · exact h t (by omega) h2)
      exact ⟨n, by omega, n2⟩
    | true =>
      obtain ⟨x, hx⟩ : ∃ x : Nat → Bool, x = fun i => decide (i = m / d / b) := ⟨_, rfl⟩
      obtain ⟨y, hy⟩ : ∃ y : Nat → Bool, y = fun i => decide (i = m / d % b) := ⟨_, rfl⟩
      obtain ⟨z, hz⟩ : ∃ z : Nat → Bool, z = fun i => decide (i = m % d) := ⟨_, rfl⟩
      have m1 : m / d / b < a := Nat.div_lt_of_lt_mul (Nat.div_lt_of_lt_mul (by
        rw [Nat.mul_comm d, Nat.mul_comm b]
        exact hm))
      have e : ∀ t, sT b d x y z t = decide (t = m) := fun t => by
        unfold sT
        rw [hx, hy, hz]
        show (decide (t / d / b = m / d / b) && (decide (t / d % b = m / d % b) && decide (t % d = m % d))) = decide (t = m)
        by_cases htm : t = m
        · rw [htm, decide_eq_true rfl, decide_eq_true rfl, decide_eq_true rfl, decide_eq_true rfl]; rfl
        · rw [decide_eq_false htm]
          by_cases q1 : t / d / b = m / d / b
          · by_cases q2 : t / d % b = m / d % b
            · by_cases q3 : t % d = m % d
              · exfalso
                have w1 := Nat.div_add_mod (t / d) b
                have w2 := Nat.div_add_mod (m / d) b
                rw [q1, q2, w2] at w1
                have w3 := Nat.div_add_mod t d
                have w4 := Nat.div_add_mod m d
                rw [← w1, q3, w4] at w3
                exact htm w3.symm
              · rw [decide_eq_false q3, Bool.and_false, Bool.and_false]
            · rw [decide_eq_false q2, Bool.false_and, Bool.and_false]
          · rw [decide_eq_false q1, Bool.false_and]
      obtain ⟨n, n1, n2⟩ := ih (xt T (sT b d x y z)) (by omega) (fun t h1 h2 => by
        unfold xt
        rw [e]
        by_cases htm : t = m
        · rw [htm, hT, decide_eq_true rfl]; rfl
        · rw [decide_eq_false htm, h t (by omega) h2]; rfl)
      exact ⟨n + 1, by omega, x, y, z, ⟨_, m1, by rw [hx]; exact decide_eq_true rfl⟩, ⟨_, Nat.mod_lt _ (by omega), by rw [hy]; exact decide_eq_true rfl⟩, ⟨_, Nat.mod_lt _ (by omega), by rw [hz]; exact decide_eq_true rfl⟩, n2⟩
theorem least_ex {P : Nat → Prop} : ∀ n, P n → ∃ D, D ≤ n ∧ P D ∧ ∀ k, P k → D ≤ k := by
  intro n
  induction n using Nat.strongRecOn with
  | ind n ih =>
    intro hn
    by_cases h : ∃ k, k < n ∧ P k
    · obtain ⟨k, k1, k2⟩ := h
      obtain ⟨D, d1, d2, d3⟩ := ih k k1 k2
      exact ⟨D, by omega, d2, d3⟩
    · exact ⟨n, Nat.le_refl n, hn, fun k hk => by
        apply Classical.byContradiction
        intro hh
        exact h ⟨k, by omega, hk⟩⟩
theorem Rch_min {a b d : Nat} {T : Nat → Bool} (hb : 1 ≤ b) (hd : 1 ≤ d) : ∃ D, D ≤ a * b * d ∧ Rch a b d D T ∧ ∀ k, Rch a b d k T → D ≤ k := by
  obtain ⟨n, n1, n2⟩ := Rch_ex hb hd (a * b * d) T (Nat.le_refl _) (fun t h1 h2 => by omega)
  obtain ⟨D, d1, d2, d3⟩ := least_ex (P := fun k => Rch a b d k T) n n2
  exact ⟨D, by omega, d2, d3⟩
-- 96.emodel.lean.txt
/-! LAW CASES 18, 19: the least in the model -/
theorem ci_sshr {x k : Nat} (hx : x < 2147483648) (hk : k < 32) : ci x >>> (ci k &&& 31) = ci (x >>> k) := by
  have h1 : ci k &&& 31 = ci k := by
    rw [cl_31, ci_and, show (31 : Nat) = 2 ^ 5 - 1 from rfl, Nat.and_two_pow_sub_one_eq_mod, Nat.mod_eq_of_lt (by omega)]
  rw [h1]
  apply Int32.toBitVec_inj.mp
  rw [Int32.toBitVec_shiftRight, ci_bv, ci_bv, ci_bv]
  have h2 : (BitVec.ofNat 32 k).smod 32 = BitVec.ofNat 32 k := by
    apply BitVec.eq_of_toInt_eq
    rw [BitVec.toInt_smod]
    have e1 : (BitVec.ofNat 32 k).toInt = (k : Int) := by
      rw [BitVec.toInt_eq_toNat_of_lt (by rw [BitVec.toNat_ofNat]; omega), BitVec.toNat_ofNat, Nat.mod_eq_of_lt (by omega)]
    rw [e1]
    have e2 : (32 : BitVec 32).toInt = 32 := by decide
    rw [e2]
    exact Int.fmod_eq_of_lt (by omega) (by omega)
  rw [h2]
  have hn : (BitVec.ofNat 32 k).toNat = k := by rw [BitVec.toNat_ofNat, Nat.mod_eq_of_lt (by omega)]
  have hxn : (BitVec.ofNat 32 x).toNat = x := by rw [BitVec.toNat_ofNat, Nat.mod_eq_of_lt (by omega)]
  show (BitVec.ofNat 32 x).sshiftRight (BitVec.ofNat 32 k).toNat = _
  rw [hn, BitVec.sshiftRight_eq_of_msb_false (BitVec.msb_eq_false_iff_two_mul_lt.mpr (by rw [hxn]; omega))]
  apply BitVec.eq_of_toNat_eq
  rw [BitVec.toNat_ushiftRight, hxn, BitVec.toNat_ofNat]
  exact (Nat.mod_eq_of_lt (Nat.lt_of_le_of_lt (Nat.shiftRight_le x k) (by omega))).symm
theorem shr_bit {x i : Nat} : (x >>> i) &&& 1 = bn (tb x i) := by
  unfold tb
  rw [Nat.and_one_is_mod, Nat.shiftRight_eq_div_pow, Nat.testBit_eq_decide_div_mod_eq]
  have hl := Nat.mod_lt (x / 2 ^ i) (show 0 < 2 by omega)
  by_cases h : x / 2 ^ i % 2 = 1
  · rw [decide_eq_true h, h]; rfl
  · rw [decide_eq_false h]; show _ = 0; omega
theorem bit_if {x i : Nat} (hx : x < 2147483648) (hi : i < 32) : ((ci x >>> (ci i &&& 31)) &&& (1 : Int32) = (1 : Int32)) ↔ tb x i = true := by
  rw [ci_sshr hx hi, cl_1, ci_and, shr_bit]
  cases tb x i <;> decide
theorem sg_step {b d m three : Nat} {x y : Nat → Bool} (h3 : three < 2 ^ d) : msk (m * d) (sT b d x y (tb three)) ||| (if (x (m / b) && y (m % b)) = true then three <<< (d * m) else 0) = msk (m * d + d) (sT b d x y (tb three)) := msk_eq (fun t => by
  rw [Nat.testBit_or, msk_bit]
  have hdm : d * m = m * d := Nat.mul_comm d m
  by_cases h1 : t < m * d
  · rw [decide_eq_true h1, decide_eq_true (show t < m * d + d by omega), Bool.true_and]
    have : (if (x (m / b) && y (m % b)) = true then three <<< (d * m) else 0).testBit t = false := by
      split
      · rw [Nat.testBit_shiftLeft, decide_eq_false (by omega)]; rfl
      · rw [Nat.zero_testBit]
    rw [this, Bool.or_false]
  · rw [decide_eq_false h1, Bool.false_and, Bool.false_or]
    by_cases h2 : t < m * d + d
    · rw [decide_eq_true h2, Bool.true_and]
      obtain ⟨k, hk, rfl⟩ : ∃ k, k < d ∧ t = m * d + k := ⟨t - m * d, by omega, by omega⟩
      rw [sT_row hk]
      cases hx : x (m / b) <;> cases hy : y (m % b)
      · rw [if_neg (by decide), Nat.zero_testBit]; rfl
      · rw [if_neg (by decide), Nat.zero_testBit]; rfl
      · rw [if_neg (by decide), Nat.zero_testBit]; rfl
      · rw [if_pos (by decide), Nat.testBit_shiftLeft, decide_eq_true (by omega), hdm, Nat.add_sub_cancel_left]; rfl
    · rw [decide_eq_false h2, Bool.false_and]
      split
      · rw [Nat.testBit_shiftLeft, show three.testBit (t - d * m) = tb three (t - d * m) from rfl, tb_hi h3 (by omega), Bool.and_false]
      · rw [Nat.zero_testBit])
theorem N13 : mN 13 = 4096 := rfl
theorem N14 : mN 14 = 4096 := rfl
def fI (v : Nat) : Int32 := if v = 0 then (-1 : Int32) else ci (v - 1)
theorem p12 {N : Nat} (hN : N ≤ 12) : 2 ^ N ≤ 4096 := Nat.pow_le_pow_right (by omega) hN
theorem BI_dd {a b d L h i : Nat} {fr q dd : Nat → Nat} (hb : 1 ≤ b) (hd : 1 ≤ d) (B : BI a b d fr q dd L h) (hi : i < L) : dd i ≤ a * b * d := by
  obtain ⟨n, n1, n2⟩ := Rch_ex (T := tb (q i)) hb hd (a * b * d) (Nat.le_refl _) (fun t h1 h2 => by omega)
  have h2 := B.2.1 i hi
  rcases BI_all hb hd B n (q i) h2.1 n2 with ⟨_, e2⟩ | ⟨j, k1, k2, k3⟩
  · omega
  · have h4 := B.2.2.2.1 h j k1 k2
    have h8 := B.2.2.2.2.2.2.2 (by omega) i hi
    omega
-- 96.ffewest.lean.txt
/-! LAW CASES 18, 19: the fewest in the model -/
theorem and_pm {x n : Nat} : x &&& (2 ^ n - 1) = x % 2 ^ n := Nat.and_two_pow_sub_one_eq_mod x n
theorem ci_lz0 {x : Nat} (hx : x < 2147483648) : (ci x ≤ 0) ↔ x = 0 := by
  rw [cl_0, ci_le hx (by omega)]; omega
theorem ci_p2 {n : Nat} (hn : n < 31) : (1 : Int32) <<< (ci n &&& 31) = ci (2 ^ n) := by
  rw [cl_1, ci_shl (by omega), Nat.one_shiftLeft]
/-- the codes below n are done at the head -/
def dnC (a b d Q D n : Nat) (fr : Nat → Nat) : Prop := ∀ code, code < n → 0 < code % 2 ^ a → 0 < code / 2 ^ a % 2 ^ b → 0 < code / 2 ^ (a + b) → fr (Q ^^^ sgN a b d (code % 2 ^ a) (code / 2 ^ a % 2 ^ b) (code / 2 ^ (a + b))) ≠ 0 ∧ fr (Q ^^^ sgN a b d (code % 2 ^ a) (code / 2 ^ a % 2 ^ b) (code / 2 ^ (a + b))) ≤ D + 2
theorem dn_all {a b d Q D : Nat} {fr : Nat → Nat} (h : dnC a b d Q D (2 ^ (a + b + d)) fr) : ∀ s, SG a b d s → fr (Q ^^^ s) ≠ 0 ∧ fr (Q ^^^ s) ≤ D + 2 := by
  rintro s ⟨one, two, three, h1, h2, h3, rfl⟩
  have e2 : 2 ^ (a + b) = 2 ^ a * 2 ^ b := Nat.pow_add 2 a b
  have e3 : 2 ^ (a + b + d) = 2 ^ (a + b) * 2 ^ d := Nat.pow_add 2 (a + b) d
  have l1 : three * 2 ^ b + two < 2 ^ d * 2 ^ b := lt_mul h3.2 h2.2
  have l2 : (three * 2 ^ b + two) * 2 ^ a + one < 2 ^ d * 2 ^ b * 2 ^ a := lt_mul l1 h1.2
  have lc : (three * 2 ^ b + two) * 2 ^ a + one < 2 ^ (a + b + d) := by
    rw [e3, e2]
    have : 2 ^ a * 2 ^ b * 2 ^ d = 2 ^ d * 2 ^ b * 2 ^ a := by
      rw [Nat.mul_comm (2 ^ a * 2 ^ b), Nat.mul_comm (2 ^ a), Nat.mul_assoc]
    rw [this]; exact l2
  have c1 : ((three * 2 ^ b + two) * 2 ^ a + one) % 2 ^ a = one := md_mod h1.2
  have c2 : ((three * 2 ^ b + two) * 2 ^ a + one) / 2 ^ a = three * 2 ^ b + two := md_div h1.2
  have c3 : ((three * 2 ^ b + two) * 2 ^ a + one) / 2 ^ a % 2 ^ b = two := by rw [c2]; exact md_mod h2.2
  have c4 : ((three * 2 ^ b + two) * 2 ^ a + one) / 2 ^ (a + b) = three := by
    rw [e2, ← Nat.div_div_eq_div_mul, c2]; exact md_div h2.2
  have := h _ lc (by rw [c1]; exact h1.1) (by rw [c3]; exact h2.1) (by rw [c4]; exact h3.1)
  rw [c1, c3, c4] at this
  exact this
theorem BI_0 {a b d : Nat} : BI a b d (fun x => if x = 0 then 1 else 0) (fun _ => 0) (fun _ => 0) 1 0 := by
  have hp : 0 < 2 ^ (a * b * d) := Nat.pow_pos (by omega)
  refine ⟨?_, fun i hi => ⟨hp, if_pos rfl⟩, fun x hx hf => ⟨0, by omega, ?_⟩, fun i j _ _ => Nat.le_refl 0, fun i hi t ht => ?_, ⟨by omega, rfl, rfl⟩, fun i hi => absurd hi (Nat.not_lt_zero _), fun _ i hi => by show 0 ≤ 0 + 1; omega⟩
  · have : sm (2 ^ (a * b * d)) (kn (fun x => if x = 0 then 1 else 0)) = sm (2 ^ (a * b * d)) (fun e => if e = 0 then 1 else 0) := sm_congr (fun k _ => by
      unfold kn
      by_cases hk : k = 0
      · subst hk; rfl
      · simp [hk])
    rw [this, sm_single hp]
  · apply Classical.byContradiction
    intro hh
    exact hf (if_neg (fun e => hh e.symm))
  · unfold tb; rw [Nat.zero_testBit]
-- 96.gbound.lean.txt
/-! LAW CASES 18, 19: no rank is more than the fewest -/
theorem xr_cg {K K' : Nat → Nat → Bool} {c c' : Nat → Bool} {t : Nat} : ∀ n, (∀ e, e < n → (c e && K e t) = (c' e && K' e t)) → xr K c n t = xr K' c' n t := by
  intro n
  induction n with
  | zero => intro _; rfl
  | succ n ih =>
    intro h
    show xor (xr K c n t) (c n && K n t) = xor (xr K' c' n t) (c' n && K' n t)
    rw [ih (fun e he => h e (by omega)), h n (by omega)]
theorem xr_lin {K : Nat → Nat → Bool} {c c' : Nat → Bool} {u : Bool} {t : Nat} : ∀ n, xr K (fun e => xor (c e) (u && c' e)) n t = xor (xr K c n t) (u && xr K c' n t) := by
  intro n
  induction n with
  | zero => show false = xor false (u && false); cases u <;> rfl
  | succ n ih =>
    show xor (xr K (fun e => xor (c e) (u && c' e)) n t) (xor (c n) (u && c' n) && K n t) = xor (xor (xr K c n t) (c n && K n t)) (u && xor (xr K c' n t) (c' n && K n t))
    rw [ih]
    cases xr K c n t <;> cases xr K c' n t <;> cases u <;> cases c n <;> cases c' n <;> cases K n t <;> rfl
theorem xr_red {V : Nat → Nat → Bool} {v : Nat → Bool} {c : Nat → Bool} {k t : Nat} : ∀ n, xr (fun e t => xor (V e t) (V e k && v t)) c n t = xor (xr V c n t) (xr V c n k && v t) := by
  intro n
  induction n with
  | zero => show false = xor false (false && v t); cases v t <;> rfl
  | succ n ih =>
    show xor (xr (fun e t => xor (V e t) (V e k && v t)) c n t) (c n && xor (V n t) (V n k && v t)) = xor (xor (xr V c n t) (c n && V n t)) (xor (xr V c n k) (c n && V n k) && v t)
    rw [ih]
    cases xr V c n t <;> cases xr V c n k <;> cases v t <;> cases c n <;> cases V n t <;> cases V n k <;> rfl
theorem xr_has {V : Nat → Nat → Bool} {c : Nat → Bool} {k : Nat} : ∀ n, xr V c n k = true → ∃ j, j < n ∧ V j k = true := by
  intro n
  induction n with
  | zero => intro h; exact absurd (show false = true from h) (by decide)
  | succ n ih =>
    intro h
    have h' : xor (xr V c n k) (c n && V n k) = true := h
    by_cases h1 : V n k = true
    · exact ⟨n, by omega, h1⟩
    · have h2 : V n k = false := by revert h1; cases V n k <;> decide
      rw [h2, Bool.and_false, Bool.xor_false] at h'
      obtain ⟨j, j1, j2⟩ := ih h'
      exact ⟨j, by omega, j2⟩
theorem xr_upd {K K' : Nat → Nat → Bool} {c c' : Nat → Bool} {j t : Nat} (h : ∀ e, e ≠ j → c e = c' e ∧ K e t = K' e t) : ∀ n, j < n → xr K' c' n t = xor (xor (xr K c n t) (c j && K j t)) (c' j && K' j t) := by
  intro n
  induction n with
  | zero => intro hj; omega
  | succ n ih =>
    intro hj
    show xor (xr K' c' n t) (c' n && K' n t) = xor (xor (xor (xr K c n t) (c n && K n t)) (c j && K j t)) (c' j && K' j t)
    by_cases hn : n = j
    · subst hn
      rw [xr_cg (K := K') (c := c') (K' := K) (c' := c) n (fun e he => by obtain ⟨e1, e2⟩ := h e (by omega); rw [e1, e2])]
      cases xr K c n t <;> cases (c n && K n t) <;> cases (c' n && K' n t) <;> rfl
    · rw [ih (by omega)]
      obtain ⟨e1, e2⟩ := h n hn
      rw [e1, e2]
      cases xr K c n t <;> cases (c' n && K' n t) <;> cases (c j && K j t) <;> cases (c' j && K' j t) <;> rfl
/-- one vector that is none is left out -/
theorem xr_drop {V : Nat → Nat → Bool} {j n : Nat} (hj : j ≤ n) (h0 : ∀ t, V j t = false) (c : Nat → Bool) (t : Nat) : xr V c (n + 1) t = xr (fun e => if e = j then V n else V e) (fun e => if e = j then c n else c e) n t := by
  show xor (xr V c n t) (c n && V n t) = _
  by_cases hn : j = n
  · subst hn
    rw [h0, Bool.and_false, Bool.xor_false]
    exact xr_cg j (fun e he => by
      show (c e && V e t) = ((if e = j then c j else c e) && (if e = j then V j else V e) t)
      rw [if_neg (by omega), if_neg (by omega)])
  · rw [xr_upd (K := V) (c := c) (K' := fun e => if e = j then V n else V e) (c' := fun e => if e = j then c n else c e) (j := j) (fun e he => by
      show c e = (if e = j then c n else c e) ∧ V e t = (if e = j then V n else V e) t
      rw [if_neg he, if_neg he]; exact ⟨rfl, rfl⟩) n (by omega)]
    show _ = xor (xor (xr V c n t) (c j && V j t)) ((if j = j then c n else c j) && (if j = j then V n else V j) t)
    rw [h0, Bool.and_false, Bool.xor_false, if_pos rfl, if_pos rfl]
/-- the rows from r on are sums of m vectors -/
def SpR (R r m : Nat) (N : Nat → Nat → Nat) : Prop := ∃ V : Nat → Nat → Bool, ∀ i, r ≤ i → i < R → ∃ e : Nat → Bool, ∀ k, k < 16 → N i k < 2 ∧ decide (N i k = 1) = xr V e m k
theorem mcl2 : ∀ x, x < 2 → ∀ mi, mi < 2 → ∀ y, y < 2 → mcl 2 x mi 1 y < 2 ∧ decide (mcl 2 x mi 1 y = 1) = xor (decide (x = 1)) (decide (mi = 1) && decide (y = 1)) := by decide
theorem sp_step {R r c m D : Nat} {N : Nat → Nat → Nat} (hc : c < 16) (hr : r ≤ R) (hm : m + r = D) (h : SpR R r m N) : ∃ m', m' + (stM1 2 R c (r, N)).1 = D ∧ SpR R (stM1 2 R c (r, N)).1 m' (stM1 2 R c (r, N)).2 := by
  obtain ⟨V, hV⟩ := h
  obtain ⟨q1, q2, q3, q4⟩ := pv_b (M := N) (c := c) (R - r) r
  unfold stM1
  simp only []
  obtain ⟨q, hqe⟩ : ∃ q, q = pv N c (R - r) r := ⟨_, rfl⟩
  rw [← hqe] at q1 q2 q3 q4 ⊢
  by_cases hf : q < R
  · rw [if_pos hf]
    have hM := q3 (by omega)
    obtain ⟨eq, hq⟩ := hV q q1 hf
    have l0 := (hq c hc).1
    have l1 : N q c = 1 := by omega
    have hx : xr V eq m c = true := by rw [← (hq c hc).2, l1]; rfl
    obtain ⟨j, hj, hjc⟩ := xr_has m hx
    obtain ⟨n, rfl⟩ : ∃ n, m = n + 1 := ⟨m - 1, by omega⟩
    refine ⟨n, by show n + (r + 1) = D; omega, fun e => if e = j then (fun t => xor (V n t) (V n c && V j t)) else (fun t => xor (V e t) (V e c && V j t)), fun i h1 h2 => ?_⟩
    have h1' : r + 1 ≤ i := h1
    have gen : ∀ row : Nat → Nat, (∃ e : Nat → Bool, ∀ k, k < 16 → row k < 2 ∧ decide (row k = 1) = xr V e (n + 1) k) → ∃ e : Nat → Bool, ∀ k, k < 16 → mcl 2 (row k) (row c) (N q c) (N q k) < 2 ∧ decide (mcl 2 (row k) (row c) (N q c) (N q k) = 1) = xr (fun e => if e = j then (fun t => xor (V n t) (V n c && V j t)) else (fun t => xor (V e t) (V e c && V j t))) e n k := by
      rintro row ⟨er, hrow⟩
      have sum : ∀ k, k < 16 → xr V (fun e => xor (er e) (decide (row c = 1) && eq e)) (n + 1) k = xor (decide (row k = 1)) (decide (row c = 1) && decide (N q k = 1)) := fun k hk => by
        rw [xr_lin, ← (hrow k hk).2, ← (hq k hk).2]
      have s0 := sum c hc
      rw [show decide (N q c = 1) = true by rw [l1]; rfl] at s0
      have s1 : xr V (fun e => xor (er e) (decide (row c = 1) && eq e)) (n + 1) c = false := by
        rw [s0]; cases decide (row c = 1) <;> rfl
      refine ⟨fun e => if e = j then xor (er n) (decide (row c = 1) && eq n) else xor (er e) (decide (row c = 1) && eq e), fun k hk => ?_⟩
      have m2 := mcl2 (row k) (hrow k hk).1 (row c) (hrow c hc).1 (N q k) (hq k hk).1
      rw [l1]
      refine ⟨m2.1, ?_⟩
      rw [m2.2, ← sum k hk]
      have d := xr_drop (V := fun e t => xor (V e t) (V e c && V j t)) (j := j) (n := n) (by omega) (fun t => by
        show xor (V j t) (V j c && V j t) = false
        rw [hjc]; cases V j t <;> rfl) (fun e => xor (er e) (decide (row c = 1) && eq e)) k
      rw [xr_red, s1, Bool.false_and, Bool.xor_false] at d
      exact d
    have row : ∀ k, clr 2 R (swp N q r) r c i k = mcl 2 (swp N q r i k) (swp N q r i c) (N q c) (N q k) := fun k => by
      have s2 : swp N q r r = N q := by funext k; exact if_pos rfl
      unfold clr
      rw [s2, if_pos ⟨by omega, h2⟩]
    by_cases hiq : i = q
    · have w2 : swp N q r i = N r := by funext k; unfold swp; rw [if_neg (by omega), if_pos hiq]
      obtain ⟨e, he⟩ := gen (N r) (hV r (Nat.le_refl r) (by omega))
      exact ⟨e, fun k hk => by
        show clr 2 R (swp N q r) r c i k < 2 ∧ decide (clr 2 R (swp N q r) r c i k = 1) = _
        rw [row k, w2]; exact he k hk⟩
    · have w2 : swp N q r i = N i := by funext k; unfold swp; rw [if_neg (by omega), if_neg hiq]
      obtain ⟨e, he⟩ := gen (N i) (hV i (by omega) h2)
      exact ⟨e, fun k hk => by
        show clr 2 R (swp N q r) r c i k < 2 ∧ decide (clr 2 R (swp N q r) r c i k = 1) = _
        rw [row k, w2]; exact he k hk⟩
  · rw [if_neg hf]
    exact ⟨m, hm, V, hV⟩
theorem sp_all {R D : Nat} {M : Nat → Nat → Nat} (h : SpR R 0 D M) : ∀ c, c ≤ 16 → ∃ m, m + (rkM 2 R M c).1 = D ∧ SpR R (rkM 2 R M c).1 m (rkM 2 R M c).2 := by
  intro c
  induction c with
  | zero => intro _; exact ⟨D, rfl, h⟩
  | succ c ih =>
    intro hc
    obtain ⟨m, h1, h2⟩ := ih (by omega)
    exact sp_step (show c < 16 by omega) (rkM_le c) h1 h2
/-- the cube's number at i, j, k, or none -/
def cell (a b d : Nat) (T : Nat → Bool) (i j k : Nat) : Bool := (decide (i < a) && (decide (j < b) && decide (k < d))) && T ((i * b + j) * d + k)
def rowT (a b d s : Nat) (T : Nat → Bool) (x t : Nat) : Bool := if s = 0 then cell a b d T x (t / 4) (t % 4) else if s = 1 then cell a b d T (t / 4) x (t % 4) else cell a b d T (t / 4) (t % 4) x
theorem cell_xt {a b d i j k : Nat} {T U : Nat → Bool} : cell a b d (xt T U) i j k = xor (cell a b d T i j k) (cell a b d U i j k) := by
  unfold cell xt
  cases (decide (i < a) && (decide (j < b) && decide (k < d))) <;> cases T ((i * b + j) * d + k) <;> cases U ((i * b + j) * d + k) <;> rfl
theorem rowT_xt {a b d s x t : Nat} {T U : Nat → Bool} : rowT a b d s (xt T U) x t = xor (rowT a b d s T x t) (rowT a b d s U x t) := by
  unfold rowT
  split
  · exact cell_xt
  · split
    · exact cell_xt
    · exact cell_xt
theorem cell_sT {a b d i j k : Nat} {x y z : Nat → Bool} : cell a b d (sT b d x y z) i j k = ((decide (i < a) && x i) && ((decide (j < b) && y j) && (decide (k < d) && z k))) := by
  unfold cell
  by_cases h2 : j < b
  · by_cases h3 : k < d
    · unfold sT
      rw [md_div h3, md_mod h3, md_div h2, md_mod h2, decide_eq_true h2, decide_eq_true h3]
      cases decide (i < a) <;> cases x i <;> cases y j <;> cases z k <;> rfl
    · rw [decide_eq_false h3]
      cases decide (i < a) <;> cases decide (j < b) <;> cases x i <;> cases y j <;> rfl
  · rw [decide_eq_false h2]
    cases decide (i < a) <;> cases decide (k < d) <;> cases x i <;> rfl
theorem rowT_sT {a b d s : Nat} {x y z : Nat → Bool} : ∃ u v : Nat → Bool, ∀ i t, rowT a b d s (sT b d x y z) i t = (u i && v t) := by
  by_cases h0 : s = 0
  · refine ⟨fun i => decide (i < a) && x i, fun t => (decide (t / 4 < b) && y (t / 4)) && (decide (t % 4 < d) && z (t % 4)), fun i t => ?_⟩
    unfold rowT
    rw [if_pos h0, cell_sT]
  · by_cases h1 : s = 1
    · refine ⟨fun i => decide (i < b) && y i, fun t => (decide (t / 4 < a) && x (t / 4)) && (decide (t % 4 < d) && z (t % 4)), fun i t => ?_⟩
      unfold rowT
      rw [if_neg h0, if_pos h1, cell_sT]
      show (decide (t / 4 < a) && x (t / 4) && (decide (i < b) && y i && (decide (t % 4 < d) && z (t % 4)))) = (decide (i < b) && y i && (decide (t / 4 < a) && x (t / 4) && (decide (t % 4 < d) && z (t % 4))))
      cases (decide (t / 4 < a) && x (t / 4)) <;> cases (decide (i < b) && y i) <;> cases (decide (t % 4 < d) && z (t % 4)) <;> rfl
    · refine ⟨fun i => decide (i < d) && z i, fun t => (decide (t / 4 < a) && x (t / 4)) && (decide (t % 4 < b) && y (t % 4)), fun i t => ?_⟩
      unfold rowT
      rw [if_neg h0, if_neg h1, cell_sT]
      show (decide (t / 4 < a) && x (t / 4) && (decide (t % 4 < b) && y (t % 4) && (decide (i < d) && z i))) = (decide (i < d) && z i && (decide (t / 4 < a) && x (t / 4) && (decide (t % 4 < b) && y (t % 4))))
      cases (decide (t / 4 < a) && x (t / 4)) <;> cases (decide (i < d) && z i) <;> cases (decide (t % 4 < b) && y (t % 4)) <;> rfl
theorem cell_0 {a b d i j k : Nat} {T : Nat → Bool} (h : ∀ t, t < a * b * d → T t = false) : cell a b d T i j k = false := by
  unfold cell
  by_cases h1 : i < a
  · by_cases h2 : j < b
    · by_cases h3 : k < d
      · rw [h _ (lt_mul (lt_mul h1 h2) h3), Bool.and_false]
      · rw [decide_eq_false h3, Bool.and_false, Bool.and_false, Bool.false_and]
    · rw [decide_eq_false h2, Bool.false_and, Bool.and_false, Bool.false_and]
  · rw [decide_eq_false h1, Bool.false_and, Bool.false_and]
theorem rowT_0 {a b d s x t : Nat} {T : Nat → Bool} (h : ∀ t, t < a * b * d → T t = false) : rowT a b d s T x t = false := by
  unfold rowT
  split
  · exact cell_0 h
  · split
    · exact cell_0 h
    · exact cell_0 h
theorem rows_of {a b d s : Nat} : ∀ n T, Rch a b d n T → ∃ V : Nat → Nat → Bool, ∀ i, ∃ e : Nat → Bool, ∀ k, rowT a b d s T i k = xr V e n k := by
  intro n
  induction n with
  | zero => intro T h; exact ⟨fun _ _ => false, fun i => ⟨fun _ => false, fun k => rowT_0 h⟩⟩
  | succ n ih =>
    rintro T ⟨x, y, z, _, _, _, h⟩
    obtain ⟨V, hV⟩ := ih _ h
    obtain ⟨u, v, huv⟩ := rowT_sT (a := a) (b := b) (d := d) (s := s) (x := x) (y := y) (z := z)
    refine ⟨fun e => if e = n then v else V e, fun i => ?_⟩
    obtain ⟨e, he⟩ := hV i
    refine ⟨fun e' => if e' = n then u i else e e', fun k => ?_⟩
    show _ = xor (xr (fun e => if e = n then v else V e) (fun e' => if e' = n then u i else e e') n k) ((if n = n then u i else e n) && (if n = n then v else V n) k)
    rw [if_pos rfl, if_pos rfl, xr_cg (K := fun e => if e = n then v else V e) (c := fun e' => if e' = n then u i else e e') (K' := V) (c' := e) n (fun e' he' => by
      show ((if e' = n then u i else e e') && (if e' = n then v else V e') k) = _
      rw [if_neg (by omega), if_neg (by omega)]), ← he k, rowT_xt, huv]
    cases rowT a b d s T i k <;> cases (u i && v k) <;> rfl
theorem cell_g {a b d i j k : Nat} {g : Nat → Nat} (hg : cOK 2 a b d g) (hi : i < 4) (hj : j < 4) (hk : k < 4) : cell a b d (tGc b d g) i j k = decide (g (ix i j k) = 1) := by
  unfold cell
  by_cases h : i < a ∧ j < b ∧ k < d
  · obtain ⟨h1, h2, h3⟩ := h
    rw [tGc_at h2 h3, decide_eq_true h1, decide_eq_true h2, decide_eq_true h3]; rfl
  · rw [hg.2 i j k hi hj hk h]
    have : (decide (i < a) && (decide (j < b) && decide (k < d))) = false := by
      apply Bool.eq_false_iff.mpr
      intro hh
      rw [Bool.and_eq_true, Bool.and_eq_true, decide_eq_true_eq, decide_eq_true_eq, decide_eq_true_eq] at hh
      exact h hh
    rw [this]; rfl
theorem rowT_g {a b d s x t : Nat} {g : Nat → Nat} (hg : cOK 2 a b d g) (hx : x < 4) (ht : t < 16) : rowT a b d s (tGc b d g) x t = decide (g (px s x t) = 1) := by
  have t1 : t / 4 < 4 := by omega
  have t2 : t % 4 < 4 := by omega
  unfold rowT px
  split
  · exact cell_g hg hx t1 t2
  · split
    · exact cell_g hg t1 hx t2
    · exact cell_g hg t1 t2 hx
theorem rk_fewest {a b d D s : Nat} {g : Nat → Nat} (hz : szOK a b d) (hg : cOK 2 a b d g) (h : Rch a b d D (tGc b d g)) : rkF 2 a b d g s ≤ D := by
  have hb := sz3_b hz (s := s)
  obtain ⟨V, hV⟩ := rows_of (s := s) D _ h
  have sp : SpR (sz3 a b d s) 0 D (fun i k => g (px s i k)) := ⟨V, fun i _ h2 => by
    obtain ⟨e, he⟩ := hV i
    exact ⟨e, fun k hk => ⟨hg.1 _ (px_lt (by omega) hk), by
      show decide (g (px s i k) = 1) = _
      rw [← he k, rowT_g hg (by omega) hk]⟩⟩⟩
  obtain ⟨m, h1, _⟩ := sp_all sp 16 (Nat.le_refl _)
  show (rkM 2 (sz3 a b d s) (fun i k => g (px s i k)) 16).1 ≤ D
  omega
theorem bd_fewest {a b d D : Nat} {g : Nat → Nat} (hz : szOK a b d) (hg : cOK 2 a b d g) (h : Rch a b d D (tGc b d g)) : bdF 2 a b d g ≤ D := by
  have st : ∀ t s, t ≤ D → bdS 2 a b d g t s ≤ D := fun t s ht => by
    have := rk_fewest (s := s) hz hg h
    unfold bdS
    split <;> omega
  exact st _ 2 (st _ 1 (st 0 0 (Nat.zero_le _)))
-- 97.least.lean.txt
/-! LAW CASES 18, 19: whole -/
theorem tl_se {S S1 : ZS} {ad : Nat → Nat} {cc wc : Nat} {x : Int32} {F : Nat → Int32} {G : Nat → Int64} (hin : zInj ad cc wc) (h : zTl S ad) (hf : zFrm S S1 (pSe (ad 3) (ad 7) (ad 8))) (h1 : zOb S1 (ad 3) 2 [.ref (ad 7), .ref (ad 8), .int x]) (h2 : zIA S1 (ad 7) 105 F) (h3 : zJA S1 (ad 8) 64 G) : zTl S1 ad := by
  have kp : ∀ t, t ≤ 9 → t ≠ 3 → t ≠ 7 → t ≠ 8 → S1.1 (ad t) = S.1 (ad t) := fun t ht n3 n7 n8 => hf.2 _ (fun hh => hh.elim (ad_ne hin (by omega) (by omega) n3) (fun hh => hh.elim (ad_ne hin (by omega) (by omega) n7) (ad_ne hin (by omega) (by omega) n8)))
  obtain ⟨⟨r, q, a1⟩, ⟨f2, a2⟩, ⟨c, a3⟩, ⟨f4, a4⟩, ⟨f5, a5⟩, ⟨c6, a6⟩, ⟨f7, a7⟩, f8, a8⟩ := h
  exact ⟨⟨r, q, (kp 2 (by omega) (by omega) (by omega) (by omega)).trans a1⟩, ⟨f2, (kp 6 (by omega) (by omega) (by omega) (by omega)).trans a2⟩, ⟨x, h1⟩, ⟨F, h2⟩, ⟨G, h3⟩, ⟨c6, (kp 4 (by omega) (by omega) (by omega) (by omega)).trans a6⟩, ⟨f7, (kp 9 (by omega) (by omega) (by omega) (by omega)).trans a7⟩, f8, (kp 5 (by omega) (by omega) (by omega) (by omega)).trans a8⟩
theorem c_small {S : ZS} {ad : Nat → Nat} {p cc wc lim c n a b d q : Nat} {g : Nat → Nat} (h : zHd S ad p cc wc) (hp : p ≤ 5) (y : zCu S c n a b d q g) (hN : a * b * d ≤ 16 * 4) (hl : lim ≤ 12) : fX5_needSmall (ad 10) c (ci lim) S = if p = 2 ∧ a * b * d ≤ lim then some (.inl ((), S)) else some (.inr ("java/lang/IllegalStateException", S.1)) := by
  unfold fX5_needSmall fX5_needSmall_J26
  rw [zgI_ob h.1 rfl, Option.bind_some]
  by_cases h2 : p = 2
  · rw [if_pos (show ci p = (2 : Int32) by rw [h2]; rfl), zgI_ob y.1 rfl, Option.bind_some, zgI_ob y.1 rfl, Option.bind_some, zgI_ob y.1 rfl, Option.bind_some, ci_mul, ci_mul]
    by_cases h3 : a * b * d ≤ lim
    · rw [if_pos ((ci_le (by omega) (by omega)).mpr h3), if_pos ⟨h2, h3⟩]
    · rw [if_neg (fun hh => h3 ((ci_le (by omega) (by omega)).mp hh)), if_neg (fun hh => h3 hh.2)]
  · rw [if_neg (show ¬ (ci p = (2 : Int32)) by rw [cl_2, ci_eq (by omega) (by omega)]; exact h2), if_neg (fun hh => h2 hh.1)]
theorem c_few {S : ZS} {ad : Nat → Nat} {cc wc i lo D : Nat} {CA CG WA WG : Nat → Nat → Nat} {WV : Nat → Nat → Nat → Nat → Nat} (hcc : cc ≤ 16) (hin : zInj ad cc wc) (hcl : zCl S ad 2 cc wc CA CG WA WG WV) (hi : i < cc) (hN : CA i 0 * CA i 1 * CA i 2 ≤ 12) (hD : Rch (CA i 0) (CA i 1) (CA i 2) D (tGc (CA i 1) (CA i 2) (CG i))) (hmin : ∀ k, Rch (CA i 0) (CA i 1) (CA i 2) k (tGc (CA i 1) (CA i 2) (CG i)) → D ≤ k) (hlo : lo ≤ D) (hD12 : D ≤ 12) : ∃ S1, zcl S (ad 3) 2 (fX2_fewest (ad 3) (ad (100 + 2 * i)) (ci lo) S) = some (ci D, S1) ∧ kpL S S1 ad 2 cc wc CA CG WA WG WV := by
  have htl := hcl.2.1
  obtain ⟨_, _, ⟨c, a3⟩, ⟨f4, a4⟩, ⟨f5, a5⟩, _⟩ := id htl
  have hcb := hcl.2.2.1 i hi
  obtain ⟨S1, x1, F1, G1, b1, b2, b3, b4, b5⟩ := c_fewest hcb.2.1 hN a3 a4 a5 hcb.1 hcb.2.2.1 hD hmin hlo hD12
  exact ⟨S1, by rw [zcl_ob a3, b1], zCl.tl hcc hin hcl (b5.wk (fun b hb => hb.elim (fun e => ⟨3, by omega, e⟩) (fun hb => hb.elim (fun e => ⟨7, by omega, e⟩) (fun e => ⟨8, by omega, e⟩)))) (tl_se hin htl b5 b2 b3 b4)⟩
