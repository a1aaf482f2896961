/-! LAW CASES 18, 19: the least, abstractly -/
/-- the single of three vectors -/
def sT (b d : Nat) (x y z : Nat → Bool) : Nat → Bool := fun t => x (t / d / b) && (y (t / d % b) && z (t % d))
def nzv (n : Nat) (x : Nat → Bool) : Prop := ∃ i, i < n ∧ x i = true
def xt (T U : Nat → Bool) : Nat → Bool := fun t => xor (T t) (U t)
/-- T is the sum of n singles -/
def Rch (a b d : Nat) : Nat → (Nat → Bool) → Prop
  | 0, T => ∀ t, t < a * b * d → T t = false
  | n + 1, T => ∃ x y z, nzv a x ∧ nzv b y ∧ nzv d z ∧ Rch a b d n (xt T (sT b d x y z))
theorem Rch_cg {a b d : Nat} : ∀ n (T U : Nat → Bool), (∀ t, t < a * b * d → T t = U t) → Rch a b d n T → Rch a b d n U := by
  intro n
  induction n with
  | zero => intro T U e h t ht; rw [← e t ht]; exact h t ht
  | succ n ih =>
    rintro T U e ⟨x, y, z, h1, h2, h3, h4⟩
    exact ⟨x, y, z, h1, h2, h3, ih _ _ (fun t ht => by unfold xt; rw [e t ht]) h4⟩
/-- the sum of the singles of a set -/
def xr (K : Nat → Nat → Bool) (c : Nat → Bool) : Nat → Nat → Bool
  | 0, _ => false
  | e + 1, t => xor (xr K c e t) (c e && K e t)
def sz (c : Nat → Bool) (n : Nat) : Nat := sm n (fun e => bn (c e))
def tog (c : Nat → Bool) (e : Nat) : Nat → Bool := fun e' => if e' = e then !c e else c e'
theorem xr_tog {K : Nat → Nat → Bool} {c : Nat → Bool} {e t : Nat} : ∀ n, xr K (tog c e) n t = if e < n then xor (xr K c n t) (K e t) else xr K c n t := by
  intro n
  induction n with
  | zero => rfl
  | succ n ih =>
    show xor (xr K (tog c e) n t) (tog c e n && K n t) = if e < n + 1 then xor (xor (xr K c n t) (c n && K n t)) (K e t) else xor (xr K c n t) (c n && K n t)
    rw [ih]
    unfold tog
    by_cases h1 : e < n
    · rw [if_pos h1, if_pos (show e < n + 1 by omega), if_neg (show ¬ n = e by omega)]
      cases xr K c n t <;> cases K e t <;> cases c n <;> cases K n t <;> rfl
    · rw [if_neg h1]
      by_cases h2 : n = e
      · subst h2
        rw [if_pos (show n < n + 1 by omega), if_pos rfl]
        cases xr K c n t <;> cases c n <;> cases K n t <;> rfl
      · rw [if_neg (show ¬ e < n + 1 by omega), if_neg h2]
theorem sz_tog {c : Nat → Bool} {e : Nat} : ∀ n, sz (tog c e) n + (if e < n then 2 * bn (c e) else 0) = sz c n + (if e < n then 1 else 0) := by
  intro n
  induction n with
  | zero => rfl
  | succ n ih =>
    have e1 : sz (tog c e) (n + 1) = sz (tog c e) n + bn (tog c e n) := rfl
    have e2 : sz c (n + 1) = sz c n + bn (c n) := rfl
    rw [e1, e2]
    by_cases h1 : e < n
    · rw [if_pos h1, if_pos h1] at ih
      rw [if_pos (show e < n + 1 by omega), if_pos (show e < n + 1 by omega), show tog c e n = c n from if_neg (by omega)]
      omega
    · rw [if_neg h1, if_neg h1] at ih
      by_cases h2 : n = e
      · subst h2
        rw [if_pos (show n < n + 1 by omega), if_pos (show n < n + 1 by omega), show tog c n n = !c n from if_pos rfl]
        cases hc : c n
        · show _ + 1 + 2 * 0 = _ + 0 + 1; omega
        · show _ + 0 + 2 * 1 = _ + 1 + 1; omega
      · rw [if_neg (show ¬ e < n + 1 by omega), if_neg (show ¬ e < n + 1 by omega), show tog c e n = c n from if_neg h2]
        omega
theorem sz_0 {c : Nat → Bool} : ∀ n, sz c n = 0 → ∀ e, e < n → c e = false := by
  intro n
  induction n with
  | zero => intro _ e he; omega
  | succ n ih =>
    intro h e he
    have e2 : sz c (n + 1) = sz c n + bn (c n) := rfl
    rw [e2] at h
    by_cases hn : e = n
    · subst hn
      cases hc : c e with
      | false => rfl
      | true => rw [hc] at h; exact absurd h (by show ¬ _ + 1 = 0; omega)
    · exact ih (by omega) e (by omega)
theorem xr_0 {K : Nat → Nat → Bool} {c : Nat → Bool} {t : Nat} : ∀ n, (∀ e, e < n → c e = false) → xr K c n t = false := by
  intro n
  induction n with
  | zero => intro _; rfl
  | succ n ih =>
    intro h
    show xor (xr K c n t) (c n && K n t) = false
    rw [ih (fun e he => h e (by omega)), h n (by omega)]; rfl
/-- the class's search: ascending singles, the last one any -/
def Md (N cnt : Nat) (K : Nat → Nat → Bool) : Nat → Nat → (Nat → Bool) → Prop
  | 0, _, T => ∀ t, t < N → T t = false
  | 1, _, T => ∃ e, e < cnt ∧ ∀ t, t < N → T t = K e t
  | n + 2, from', T => ∃ e, from' ≤ e ∧ e < cnt ∧ Md N cnt K (n + 1) (e + 1) (xt T (K e))
theorem Md_cg {N cnt : Nat} {K : Nat → Nat → Bool} : ∀ n f (T U : Nat → Bool), (∀ t, t < N → T t = U t) → Md N cnt K n f T → Md N cnt K n f U := by
  intro n
  induction n with
  | zero => intro f T U e h t ht; rw [← e t ht]; exact h t ht
  | succ n ih =>
    intro f T U e h
    cases n with
    | zero =>
      obtain ⟨q, h1, h2⟩ := h
      exact ⟨q, h1, fun t ht => by rw [← e t ht]; exact h2 t ht⟩
    | succ n =>
      obtain ⟨q, h1, h2, h3⟩ := h
      exact ⟨q, h1, h2, ih (q + 1) _ _ (fun t ht => by unfold xt; rw [e t ht]) h3⟩
theorem Md_mono {N cnt f : Nat} {K : Nat → Nat → Bool} {T : Nat → Bool} : ∀ n, Md N cnt K n (f + 1) T → Md N cnt K n f T := by
  intro n h
  cases n with
  | zero => exact h
  | succ n =>
    cases n with
    | zero => exact h
    | succ n =>
      obtain ⟨q, h1, h2, h3⟩ := h
      exact ⟨q, by omega, h2, h3⟩
theorem Md_of {N cnt : Nat} {K : Nat → Nat → Bool} : ∀ (r f n : Nat) (c T : Nat → Bool), f + r = cnt → (∀ e, e < f → c e = false) → sz c cnt = n → (∀ t, t < N → T t = xr K c cnt t) → Md N cnt K n f T := by
  intro r
  induction r with
  | zero =>
    intro f n c T hf hc hn hT
    have h0 : ∀ e, e < cnt → c e = false := fun e he => hc e (by omega)
    have : n = 0 := by
      rw [← hn]
      exact sm_zero (fun e he => by rw [h0 e he]; rfl)
    subst this
    intro t ht
    rw [hT t ht, xr_0 cnt h0]
  | succ r ih =>
    intro f n c T hf hc hn hT
    cases hcf : c f with
    | false =>
      refine Md_mono n (ih (f + 1) n c T (by omega) (fun e he => ?_) hn hT)
      by_cases h : e = f
      · rw [h]; exact hcf
      · exact hc e (by omega)
    | true =>
      have hs := sz_tog (c := c) (e := f) cnt
      rw [if_pos (show f < cnt by omega), if_pos (show f < cnt by omega), hcf] at hs
      have hs' : sz (tog c f) cnt + 2 = sz c cnt + 1 := hs
      have hc' : ∀ e, e < f + 1 → tog c f e = false := fun e he => by
        unfold tog
        by_cases h : e = f
        · rw [if_pos h, hcf]; rfl
        · rw [if_neg h]; exact hc e (by omega)
      have hx : ∀ t, t < N → xt T (K f) t = xr K (tog c f) cnt t := fun t ht => by
        rw [xr_tog cnt, if_pos (show f < cnt by omega)]
        unfold xt
        rw [hT t ht]
      cases n with
      | zero => omega
      | succ n =>
        cases n with
        | zero =>
          refine ⟨f, by omega, fun t ht => ?_⟩
          have h0 := sz_0 cnt (show sz (tog c f) cnt = 0 by omega)
          have h1 := hx t ht
          rw [xr_0 cnt h0] at h1
          unfold xt at h1
          revert h1
          cases T t <;> cases K f t <;> intro h1 <;> first | rfl | cases h1
        | succ n => exact ⟨f, Nat.le_refl f, by omega, ih (f + 1) (n + 1) (tog c f) _ (by omega) hc' (by omega) hx⟩
/-- the class's singles -/
def vcF (n f : Nat) : Nat → Bool := fun i => decide (dg 2 n f i = 1)
def cnF (a b d : Nat) : Nat := (2 ^ a - 1) * (2 ^ b - 1) * (2 ^ d - 1)
def Kc (a b d e : Nat) : Nat → Bool := sT b d (vcF a (e / (2 ^ d - 1) / (2 ^ b - 1) + 1)) (vcF b (e / (2 ^ d - 1) % (2 ^ b - 1) + 1)) (vcF d (e % (2 ^ d - 1) + 1))
theorem vcF_nz {n f : Nat} (h0 : 1 ≤ f) (hf : f < 2 ^ n) : nzv n (vcF n f) := by
  apply Classical.byContradiction
  intro hh
  have hz : ∀ i, i < n → dg 2 n f i = 0 := fun i hi => by
    have hl : dg 2 n f i < 2 := dg_lt (by omega)
    apply Classical.byContradiction
    intro h1
    exact hh ⟨i, hi, decide_eq_true (by omega)⟩
  have e1 := enc_dg (p := 2) (by omega) hf
  have e2 := (enc_zero (p := 2) (n := n) (d := dg 2 n f) (by omega) (fun k _ => dg_lt (by omega))).mpr hz
  omega
theorem vcF_of {n : Nat} {x : Nat → Bool} (h : nzv n x) : ∃ f, 1 ≤ f ∧ f < 2 ^ n ∧ ∀ i, i < n → vcF n f i = x i := by
  have hd : ∀ k, k < n → (fun i => bn (x i)) k < 2 := fun k _ => by have := bn_le (x k); show bn (x k) < 2; omega
  refine ⟨enc 2 n (fun i => bn (x i)), ?_, enc_lt (by omega) hd, fun i hi => ?_⟩
  · apply Classical.byContradiction
    intro hh
    have h0 : enc 2 n (fun i => bn (x i)) = 0 := by omega
    have hz := (enc_zero (by omega) hd).mp h0
    obtain ⟨i, hi, hx⟩ := h
    have := hz i hi
    simp only [hx] at this
    exact absurd this (by decide)
  · unfold vcF
    rw [dg_enc (by omega) hd hi]
    cases x i <;> rfl
theorem pow1 {n : Nat} (h : 1 ≤ n) : 1 ≤ 2 ^ n - 1 := by
  have : 2 ^ 1 ≤ 2 ^ n := Nat.pow_le_pow_right (by omega) h
  omega
theorem Kc_nz {a b d e : Nat} (ha : 1 ≤ a) (hb : 1 ≤ b) (hd : 1 ≤ d) (he : e < cnF a b d) : nzv a (vcF a (e / (2 ^ d - 1) / (2 ^ b - 1) + 1)) ∧ nzv b (vcF b (e / (2 ^ d - 1) % (2 ^ b - 1) + 1)) ∧ nzv d (vcF d (e % (2 ^ d - 1) + 1)) := by
  have p1 := pow1 ha
  have p2 := pow1 hb
  have p3 := pow1 hd
  have m2 := Nat.mod_lt (e / (2 ^ d - 1)) (show 0 < 2 ^ b - 1 by omega)
  have m3 := Nat.mod_lt e (show 0 < 2 ^ d - 1 by omega)
  have m1 : e / (2 ^ d - 1) / (2 ^ b - 1) < 2 ^ a - 1 := Nat.div_lt_of_lt_mul (Nat.div_lt_of_lt_mul (by
    unfold cnF at he
    rw [Nat.mul_comm (2 ^ d - 1), Nat.mul_comm (2 ^ b - 1)]
    exact he))
  exact ⟨vcF_nz (Nat.le_add_left 1 _) (by omega), vcF_nz (Nat.le_add_left 1 _) (by omega), vcF_nz (Nat.le_add_left 1 _) (by omega)⟩
theorem Kc_at {a b d f s t : Nat} (hs : s < 2 ^ b - 1) (ht : t < 2 ^ d - 1) : Kc a b d ((f * (2 ^ b - 1) + s) * (2 ^ d - 1) + t) = sT b d (vcF a (f + 1)) (vcF b (s + 1)) (vcF d (t + 1)) := by
  unfold Kc
  rw [md_div ht, md_mod ht, md_div hs, md_mod hs]
theorem sT_cg {a b d : Nat} {x x' y y' z z' : Nat → Bool} (hb : 1 ≤ b) (hd : 1 ≤ d) (h1 : ∀ i, i < a → x i = x' i) (h2 : ∀ i, i < b → y i = y' i) (h3 : ∀ i, i < d → z i = z' i) : ∀ t, t < a * b * d → sT b d x y z t = sT b d x' y' z' t := fun t ht => by
  unfold sT
  have m1 : t / d / b < a := Nat.div_lt_of_lt_mul (Nat.div_lt_of_lt_mul (by
    rw [Nat.mul_comm d, Nat.mul_comm b]
    exact ht))
  rw [h1 _ m1, h2 _ (Nat.mod_lt _ (by omega)), h3 _ (Nat.mod_lt _ (by omega))]
theorem Kc_of {a b d : Nat} {x y z : Nat → Bool} (hb : 1 ≤ b) (hd : 1 ≤ d) (h1 : nzv a x) (h2 : nzv b y) (h3 : nzv d z) : ∃ e, e < cnF a b d ∧ ∀ t, t < a * b * d → Kc a b d e t = sT b d x y z t := by
  obtain ⟨f, f1, f2, f3⟩ := vcF_of h1
  obtain ⟨s, s1, s2, s3⟩ := vcF_of h2
  obtain ⟨u, u1, u2, u3⟩ := vcF_of h3
  have l1 := lt_mul (r := f - 1) (s := s - 1) (a := 2 ^ a - 1) (b := 2 ^ b - 1) (by omega) (by omega)
  have l2 := lt_mul (r := (f - 1) * (2 ^ b - 1) + (s - 1)) (s := u - 1) (a := (2 ^ a - 1) * (2 ^ b - 1)) (b := 2 ^ d - 1) l1 (by omega)
  refine ⟨((f - 1) * (2 ^ b - 1) + (s - 1)) * (2 ^ d - 1) + (u - 1), l2, fun t ht => ?_⟩
  rw [Kc_at (by omega) (by omega), show f - 1 + 1 = f by omega, show s - 1 + 1 = s by omega, show u - 1 + 1 = u by omega]
  exact sT_cg hb hd f3 s3 u3 t ht
theorem Md_Rch {a b d : Nat} (ha : 1 ≤ a) (hb : 1 ≤ b) (hd : 1 ≤ d) : ∀ n f T, Md (a * b * d) (cnF a b d) (Kc a b d) n f T → Rch a b d n T := by
  intro n
  induction n with
  | zero => intro f T h; exact h
  | succ n ih =>
    intro f T h
    cases n with
    | zero =>
      obtain ⟨e, h1, h2⟩ := h
      obtain ⟨n1, n2, n3⟩ := Kc_nz ha hb hd h1
      refine ⟨_, _, _, n1, n2, n3, fun t ht => ?_⟩
      show xor (T t) (Kc a b d e t) = false
      rw [h2 t ht]
      cases Kc a b d e t <;> rfl
    | succ n =>
      obtain ⟨e, h1, h2, h3⟩ := h
      obtain ⟨n1, n2, n3⟩ := Kc_nz ha hb hd h2
      exact ⟨_, _, _, n1, n2, n3, ih (e + 1) _ h3⟩
theorem Rch_set {a b d : Nat} (hb : 1 ≤ b) (hd : 1 ≤ d) : ∀ n T, Rch a b d n T → ∃ c, sz c (cnF a b d) ≤ n ∧ ∀ t, t < a * b * d → T t = xr (Kc a b d) c (cnF a b d) t := by
  intro n
  induction n with
  | zero =>
    intro T h
    exact ⟨fun _ => false, Nat.le_of_eq (sm_zero (fun _ _ => rfl)), fun t ht => by rw [h t ht, xr_0 _ (fun _ _ => rfl)]⟩
  | succ n ih =>
    rintro T ⟨x, y, z, h1, h2, h3, h4⟩
    obtain ⟨c, c1, c2⟩ := ih _ h4
    obtain ⟨e, e1, e2⟩ := Kc_of hb hd h1 h2 h3
    refine ⟨tog c e, ?_, fun t ht => ?_⟩
    · have hs := sz_tog (c := c) (e := e) (cnF a b d)
      rw [if_pos e1, if_pos e1] at hs
      omega
    · rw [xr_tog, if_pos e1, ← c2 t ht, e2 t ht]
      unfold xt
      cases T t <;> cases sT b d x y z t <;> rfl
theorem set_Rch {a b d : Nat} (ha : 1 ≤ a) (hb : 1 ≤ b) (hd : 1 ≤ d) : ∀ n (c T : Nat → Bool), n ≤ cnF a b d → (∀ e, n ≤ e → c e = false) → (∀ t, t < a * b * d → T t = xr (Kc a b d) c n t) → Rch a b d (sz c n) T := by
  intro n
  induction n with
  | zero => intro c T _ _ h t ht; rw [h t ht]; rfl
  | succ n ih =>
    intro c T hn hc h
    have e2 : sz c (n + 1) = sz c n + bn (c n) := rfl
    have hx : ∀ c' : Nat → Bool, (∀ e, e < n → c' e = c e) → ∀ t, xr (Kc a b d) c' n t = xr (Kc a b d) c n t := by
      intro c' hc' t
      have : ∀ m, m ≤ n → xr (Kc a b d) c' m t = xr (Kc a b d) c m t := by
        intro m
        induction m with
        | zero => intro _; rfl
        | succ m ihm =>
          intro hm
          show xor (xr (Kc a b d) c' m t) (c' m && Kc a b d m t) = xor (xr (Kc a b d) c m t) (c m && Kc a b d m t)
          rw [ihm (by omega), hc' m (by omega)]
      exact this n (Nat.le_refl n)
    obtain ⟨c', hc'⟩ : ∃ c' : Nat → Bool, c' = fun e => if e < n then c e else false := ⟨_, rfl⟩
    have c1 : ∀ e, e < n → c' e = c e := fun e he => by rw [hc']; exact if_pos he
    have c2 : ∀ e, n ≤ e → c' e = false := fun e he => by rw [hc']; exact if_neg (by omega)
    have c3 : sz c' n = sz c n := sm_congr (fun e he => by rw [c1 e he])
    cases hcn : c n with
    | false =>
      rw [e2, hcn]
      show Rch a b d (sz c n + 0) T
      rw [Nat.add_zero, ← c3]
      refine ih c' T (by omega) c2 (fun t ht => ?_)
      rw [h t ht, hx c' c1 t]
      show xor (xr (Kc a b d) c n t) (c n && Kc a b d n t) = _
      rw [hcn]
      cases xr (Kc a b d) c n t <;> rfl
    | true =>
      rw [e2, hcn]
      show Rch a b d (sz c n + 1) T
      obtain ⟨n1, n2, n3⟩ := Kc_nz ha hb hd (show n < cnF a b d by omega)
      refine ⟨_, _, _, n1, n2, n3, ?_⟩
      show Rch a b d (sz c n) (xt T (Kc a b d n))
      rw [← c3]
      refine ih c' _ (by omega) c2 (fun t ht => ?_)
      rw [hx c' c1 t]
      unfold xt
      rw [h t ht]
      show xor (xor (xr (Kc a b d) c n t) (c n && Kc a b d n t)) (Kc a b d n t) = _
      rw [hcn]
      cases xr (Kc a b d) c n t <;> cases Kc a b d n t <;> rfl
theorem Rch_Md {a b d n : Nat} {T : Nat → Bool} (ha : 1 ≤ a) (hb : 1 ≤ b) (hd : 1 ≤ d) (h : Rch a b d n T) (hmin : ∀ k, Rch a b d k T → n ≤ k) : Md (a * b * d) (cnF a b d) (Kc a b d) n 0 T := by
  obtain ⟨c, c1, c2⟩ := Rch_set hb hd n T h
  obtain ⟨c', hc'⟩ : ∃ c' : Nat → Bool, c' = fun e => if e < cnF a b d then c e else false := ⟨_, rfl⟩
  have d1 : ∀ e, e < cnF a b d → c' e = c e := fun e he => by rw [hc']; exact if_pos he
  have d2 : ∀ e, cnF a b d ≤ e → c' e = false := fun e he => by rw [hc']; exact if_neg (by omega)
  have d3 : sz c' (cnF a b d) = sz c (cnF a b d) := sm_congr (fun e he => by rw [d1 e he])
  have dx : ∀ t, xr (Kc a b d) c' (cnF a b d) t = xr (Kc a b d) c (cnF a b d) t := by
    intro t
    have : ∀ m, m ≤ cnF a b d → xr (Kc a b d) c' m t = xr (Kc a b d) c m t := by
      intro m
      induction m with
      | zero => intro _; rfl
      | succ m ihm =>
        intro hm
        show xor (xr (Kc a b d) c' m t) (c' m && Kc a b d m t) = xor (xr (Kc a b d) c m t) (c m && Kc a b d m t)
        rw [ihm (by omega), d1 m (by omega)]
    exact this _ (Nat.le_refl _)
  have hr := set_Rch ha hb hd (cnF a b d) c' T (Nat.le_refl _) d2 (fun t ht => by rw [dx t]; exact c2 t ht)
  have := hmin _ hr
  exact Md_of (cnF a b d) 0 n c T (by omega) (fun e he => absurd he (Nat.not_lt_zero _)) (by omega) c2
