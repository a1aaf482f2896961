-- 27.model.lean.txt
def mN (i : Nat) : Nat := if i = 3 ∨ i = 7 then 48 else if i = 4 ∨ i = 8 then 1024 else if i = 5 ∨ i = 9 ∨ i = 10 then 16 else if i = 11 then 7680 else if i = 12 then 64 else 4096
theorem mN_lt (i : Nat) : mN i < 2147483648 := by unfold mN; split <;> (try split) <;> (try split) <;> (try split) <;> (try split) <;> omega
def mS (A : Nat → Nat → Int32) (i : Nat) (f : Nat → Int32) : Nat → Nat → Int32 := fun j => if j = i then f else A j
theorem mS_self {A : Nat → Nat → Int32} {i : Nat} {f : Nat → Int32} : mS A i f i = f := if_pos rfl
theorem mS_ne {A : Nat → Nat → Int32} {i j : Nat} {f : Nat → Int32} (h : j ≠ i) : mS A i f j = A j := if_neg h
theorem N7 : mN 7 = 48 := rfl
theorem N10 : mN 10 = 16 := rfl
theorem N11 : mN 11 = 7680 := rfl
theorem z_rem {x y : Nat} (hx : x < 2147483648) (hy : y < 2147483648) (h0 : 0 < y) : zrem (ci x) (ci y) = some (ci (x % y)) := by
  unfold zrem
  rw [if_neg (by rw [cl_0, ci_eq hy (by omega)]; omega), ci_mod hx hy]
def alq (v : Nat → Nat → Nat → Nat) (q r s i : Nat) : Bool := decide (∀ j, j < i → v q s j = v r s j)
theorem alq_0 {v : Nat → Nat → Nat → Nat} {q r s : Nat} : alq v q r s 0 = true := decide_eq_true (fun _ hj => absurd hj (Nat.not_lt_zero _))
def zvq (v : Nat → Nat → Nat → Nat) (q s i : Nat) : Bool := decide (∀ j, j < i → v q s j = 0)
theorem zvq_0 {v : Nat → Nat → Nat → Nat} {q s : Nat} : zvq v q s 0 = true := decide_eq_true (fun _ hj => absurd hj (Nat.not_lt_zero _))
-- 30.append.lean.txt
/-! THE CLASS'S WAYS: multiply and plain -/
theorem ziter_for {ρ : Type} {body : Int32 × ZS → Option ((Int32 × ZS) ⊕ ρ)} (P : Nat → ZS → Prop) (Q : ρ → Prop) (n : Nat) (step : ∀ i S, i < n → P i S → ∃ S1, body (ci i, S) = some (.inl (ci (i + 1), S1)) ∧ P (i + 1) S1) (fin : ∀ S, P n S → ∃ r, body (ci n, S) = some (.inr r) ∧ Q r) : ∀ (k i N : Nat) (S : ZS), i + k = n → k < N → P i S → ∃ r, ziter body N (ci i, S) = some r ∧ Q r := by
  intro k
  induction k with
  | zero =>
    intro i N S hi hN hP
    obtain ⟨N', rfl⟩ : ∃ N', N = N' + 1 := ⟨N - 1, by omega⟩
    have : i = n := by omega
    subst this
    obtain ⟨r, h1, h2⟩ := fin S hP
    exact ⟨r, ziter_0 h1, h2⟩
  | succ k ih =>
    intro i N S hi hN hP
    obtain ⟨N', rfl⟩ : ∃ N', N = N' + 1 := ⟨N - 1, by omega⟩
    obtain ⟨S1, h1, h2⟩ := step i S (by omega) hP
    obtain ⟨r, h3, h4⟩ := ih (i + 1) N' S1 (by omega) (by omega) h2
    exact ⟨r, by rw [ziter_1 h1]; exact h3, h4⟩
def cOK (p a b d : Nat) (g : Nat → Nat) : Prop := (∀ x, x < 64 → g x < p) ∧ ∀ i j k, i < 4 → j < 4 → k < 4 → ¬ (i < a ∧ j < b ∧ k < d) → g (ix i j k) = 0
def vapp (v : Nat → Nat → Nat → Nat) (k : Nat) (e : Nat → Nat → Nat) : Nat → Nat → Nat → Nat := fun q => if q = k then e else v q
def pe (x i s j : Nat) : Nat := if s = 0 then (if j = i / 16 then x else 0) else if s = 1 then (if j = i / 4 % 4 then 1 else 0) else (if j = i % 4 then 1 else 0)
def vpl (g : Nat → Nat) (k : Nat) (v : Nat → Nat → Nat → Nat) : Nat → Nat × (Nat → Nat → Nat → Nat)
  | 0 => (k, v)
  | i + 1 => if g i = 0 then vpl g k v i else ((vpl g k v i).1 + 1, vapp (vpl g k v i).2 (vpl g k v i).1 (pe (g i) i))
def nz (g : Nat → Nat) (i : Nat) : Nat := sm i (fun x => if g x = 0 then 0 else 1)
theorem sm_succ {n : Nat} {f : Nat → Nat} : sm (n + 1) f = sm n f + f n := rfl
theorem vpl_1 {g : Nat → Nat} {k : Nat} {v : Nat → Nat → Nat → Nat} (i : Nat) : (vpl g k v i).1 = k + nz g i := by
  induction i with
  | zero => rfl
  | succ i ih =>
    unfold vpl nz
    rw [sm_succ]
    unfold nz at ih
    by_cases h : g i = 0
    · rw [if_pos h, if_pos h, ih]; rfl
    · rw [if_neg h, if_neg h]; simp only []; rw [ih]; omega
theorem nz_mono {g : Nat → Nat} {i j : Nat} (h : i ≤ j) : nz g i ≤ nz g j := by
  induction j with
  | zero => rw [show i = 0 by omega]; exact Nat.le_refl _
  | succ j ih =>
    by_cases hij : i = j + 1
    · rw [hij]; exact Nat.le_refl _
    · have := ih (by omega)
      unfold nz at this ⊢
      rw [sm_succ]; omega
theorem vpl_skip {g : Nat → Nat} {k : Nat} {v : Nat → Nat → Nat → Nat} {i j : Nat} (hij : i ≤ j) (h : ∀ x, i ≤ x → x < j → g x = 0) : vpl g k v j = vpl g k v i := by
  induction j with
  | zero => rw [show i = 0 by omega]
  | succ j ih =>
    by_cases hij : i = j + 1
    · rw [hij]
    · rw [vpl, if_pos (h j (by omega) (by omega))]
      exact ih (by omega) (fun x h1 h2 => h x h1 (by omega))
theorem g_append {S : ZS} {w c n t p a b d sq k c0 c1 c2 : Nat} {g : Nat → Nat} {v : Nat → Nat → Nat → Nat} {e : Nat → Nat → Nat} (h : zWy S w c n t p a b d sq k g v) (hk : k < 40) (he : ∀ s, s < 3 → ∀ j, j < sz3 a b d s → e s j < p) (h0 : c0 = enc p a (e 0)) (h1 : c1 = enc p b (e 1)) (h2 : c2 = enc p d (e 2)) : ∃ S1, fX4_append w (ci c0) (ci c1) (ci c2) S = some S1 ∧ zWy S1 w c n t p a b d sq (k + 1) g (vapp v k e) ∧ zFrm S S1 (fun b => b = w ∨ b = t) := by
  have e0 : enc p a (e 0) < 2 ^ 10 := enc_b h.1 (sz3_b h.2.1 (s := 0)).2 (he 0 (by omega))
  have e1 : enc p b (e 1) < 2 ^ 10 := enc_b h.1 (sz3_b h.2.1 (s := 1)).2 (he 1 (by omega))
  have e2 : enc p d (e 2) < 2 ^ 10 := enc_b h.1 (sz3_b h.2.1 (s := 2)).2 (he 2 (by omega))
  subst h0 h1 h2
  obtain ⟨hp, hsz, hk9, hw, hc, hv, W, hW, hWv⟩ := h
  have hf1 : zFrm S (zwI S t 40 (fun i => ci (va_up W k (w3 p a b d e) i))) (fun b => b = t) := zFrm.wI
  have hw1 := hf1.ob (ne_oi hw hW) hw
  have hf2 : zFrm (zwI S t 40 (fun i => ci (va_up W k (w3 p a b d e) i))) (zwO (zwI S t 40 (fun i => ci (va_up W k (w3 p a b d e) i))) w 4 [.ref c, .int (ci p), .ref t, .int (ci (k + 1))]) (fun b => b = w) := zFrm.wO
  have hf3 := (hf1.wk (Q := fun b => b = w ∨ b = t) (fun _ => Or.inr)).tr (hf2.wk (Q := fun b => b = w ∨ b = t) (fun _ => Or.inl))
  refine ⟨_, ?_, ⟨hp, hsz, by omega, zwO_self (fs := [.ref c, .int (ci p), .ref t, .int (ci (k + 1))]), ?_, ?_, ?_⟩, hf3⟩
  · unfold fX4_append
    rw [zgR_ob hw rfl, Option.bind_some, zgI_ob hw rfl, Option.bind_some, cl_0, cl_1, cl_2, g_shiftOf, Option.bind_some, g_shiftOf, Option.bind_some, g_shiftOf, Option.bind_some]
    rw [ci_shl (by omega), ci_shl (by omega), ci_shl (by omega), ci_or, ci_or, show 0 * 10 = 0 from rfl, show 1 * 10 = 10 from rfl, show 2 * 10 = 20 from rfl, Nat.shiftLeft_zero, f3_or e0 e1 e2]
    rw [g_put _ hW (by omega) (by omega), Option.bind_some]
    rw [show va_up (fun q => ci (W q)) k (ci (f3 (enc p a (e 0)) (enc p b (e 1)) (enc p d (e 2)))) = (fun i => ci (va_up W k (w3 p a b d e) i)) from ci_w.symm]
    rw [zgI_ob hw1 rfl, Option.bind_some, ci_add, zpF_ob _ hw1 (by simp), Option.bind_some]
    rfl
  · exact hf3.cu (by rintro (hh | hh); exact ne_oo hc.1 hw (by omega) hh; exact ne_oi hc.1 hW hh) (by rintro (hh | hh); exact (ne_oi hw hc.2) hh.symm; exact ne_ii hc.2 hW (by omega) hh) hc
  · intro q hq s hs j hj
    unfold vapp
    by_cases hqk : q = k
    · rw [if_pos hqk]; exact he s hs j hj
    · rw [if_neg hqk]; exact hv q (by omega) s hs j hj
  · refine ⟨_, hf2.ia (fun hh => ne_oi hw hW hh.symm) zwI_self, ?_⟩
    intro q hq
    unfold vapp
    by_cases hqk : q = k
    · rw [if_pos hqk, hqk, va_up_self]
    · rw [if_neg hqk, va_up_ne _ _ hqk]; exact hWv q (by omega)
theorem pe_lt {p a b d x i s j : Nat} (hp : isP p) (hx : x < p) : pe x i s j < p := by
  have := hp.b
  unfold pe
  split
  · split <;> omega
  · split
    · split <;> omega
    · split <;> omega
theorem ix_16 {i j k : Nat} (hj : j < 4) (hk : k < 4) : ix i j k / 16 = i ∧ ix i j k / 4 % 4 = j ∧ ix i j k % 4 = k := by unfold ix; omega
theorem pl_inner {w c n t p a b d sq k i j : Nat} {g : Nat → Nat} {v : Nat → Nat → Nat → Nat} {S : ZS} (hg : cOK p a b d g) (hk : k + nz g 64 ≤ 40) (hi : i < a) (hj : j < b) (h : zWy S w c n t p a b d sq (vpl g k v (ix i j 0)).1 g (vpl g k v (ix i j 0)).2) : ∃ S1, ziter (fX4_appendPlaces_B28 w (ci i) (ci j)) zF (ci 0, S) = some (.inl (ci (j + 1), S1)) ∧ zWy S1 w c n t p a b d sq (vpl g k v (ix i (j + 1) 0)).1 g (vpl g k v (ix i (j + 1) 0)).2 ∧ zFrm S S1 (fun b => b = w ∨ b = t) := by
  have hz := h.2.1
  unfold szOK at hz
  have := ziter_for (body := fX4_appendPlaces_B28 w (ci i) (ci j)) (fun kk S' => zWy S' w c n t p a b d sq (vpl g k v (ix i j kk)).1 g (vpl g k v (ix i j kk)).2 ∧ zFrm S S' (fun b => b = w ∨ b = t)) (fun r => ∃ S1, r = .inl (ci (j + 1), S1) ∧ zWy S1 w c n t p a b d sq (vpl g k v (ix i (j + 1) 0)).1 g (vpl g k v (ix i (j + 1) 0)).2 ∧ zFrm S S1 (fun b => b = w ∨ b = t)) d ?_ ?_ d 0 zF S (by omega) (by rw [zF_eq]; omega) ⟨h, zFrm.rf⟩
  · obtain ⟨r, h1, S1, rfl, h2, h3⟩ := this
    exact ⟨S1, h1, h2, h3⟩
  · intro kk S' hkk hS'
    obtain ⟨y, hf⟩ := hS'
    have hxl := ix_lt (show i < 4 by omega) (show j < 4 by omega) (show kk < 4 by omega)
    have hdiv := ix_16 (i := i) (show j < 4 by omega) (show kk < 4 by omega)
    have hlt := hg.1 _ hxl
    have hpb := y.1.b
    have hnx : ix i j (kk + 1) = ix i j kk + 1 := rfl
    unfold fX4_appendPlaces_B28
    simp only []
    rw [zgR_ob y.wa rfl, Option.bind_some, zgI_ob y.cu.1 rfl, Option.bind_some, if_neg (by rw [ci_le (by omega) (by omega)]; omega), Option.bind_some, zcl_cu y.cu, g_numberAt y.cu (by omega) (by omega) (by omega), Option.bind_some]
    unfold fX4_appendPlaces_J109
    by_cases h0 : g (ix i j kk) = 0
    · rw [if_pos (by rw [h0]; rfl)]
      refine ⟨S', by rw [cl_1, ci_add], ?_, hf⟩
      rw [hnx, vpl, if_pos h0]; exact y
    · have e9 : vpl g k v (ix i j (kk + 1)) = ((vpl g k v (ix i j kk)).1 + 1, vapp (vpl g k v (ix i j kk)).2 (vpl g k v (ix i j kk)).1 (pe (g (ix i j kk)) (ix i j kk))) := by rw [hnx, vpl, if_neg h0]
      have hcnt : (vpl g k v (ix i j kk)).1 < 40 := by
        have := vpl_1 (g := g) (k := k) (v := v) (ix i j (kk + 1))
        rw [e9] at this
        have := nz_mono (g := g) (show ix i j (kk + 1) ≤ 64 by omega)
        simp only [] at *
        omega
      rw [if_neg (by rw [cl_0, ci_eq (by omega) (by omega)]; exact h0), cl_1]
      rw [Option.bind_some, zgI_ob y.cu.1 rfl, Option.bind_some, zgI_ob y.wa rfl, Option.bind_some, g_codeOf (by omega) hi, Option.bind_some]
      rw [Option.bind_some, zgI_ob y.cu.1 rfl, Option.bind_some, Option.bind_some, g_codeOf (by omega) hj, Option.bind_some]
      rw [Option.bind_some, zgI_ob y.cu.1 rfl, Option.bind_some, Option.bind_some, g_codeOf (by omega) hkk, Option.bind_some, zcl_ob y.wa]
      obtain ⟨S1, f1, f2, f3⟩ := g_append (e := pe (g (ix i j kk)) (ix i j kk)) y hcnt (fun s hs j _ => pe_lt (a := a) (b := b) (d := d) y.1 hlt) (c0 := g (ix i j kk) * p ^ (a - 1 - i)) (c1 := 1 * p ^ (b - 1 - j)) (c2 := 1 * p ^ (d - 1 - kk)) (by rw [← enc_single hi]; unfold pe; rw [hdiv.1]; rfl) (by rw [← enc_single hj]; unfold pe; rw [hdiv.2.1]; rfl) (by rw [← enc_single hkk]; unfold pe; rw [hdiv.2.2]; rfl)
      rw [f1, Option.bind_some]
      refine ⟨S1, by rw [ci_add], ?_, hf.tr f3⟩
      rw [e9]; exact f2
  · intro S' hS'
    obtain ⟨y, hf⟩ := hS'
    refine ⟨.inl (ci (j + 1), S'), ?_, S', rfl, ?_, hf⟩
    · unfold fX4_appendPlaces_B28
      simp only []
      rw [zgR_ob y.wa rfl, Option.bind_some, zgI_ob y.cu.1 rfl, Option.bind_some, if_pos (by rw [ci_le (by omega) (by omega)]; omega), cl_1, ci_add, zex_some]
    · rw [vpl_skip (i := ix i j d) (j := ix i (j + 1) 0) (by unfold ix; omega) ?_]
      · exact y
      · intro x h1 h2
        have : x = ix i j (x - ix i j 0) := by unfold ix at h1 h2 ⊢; omega
        rw [this]
        refine hg.2 i j _ (by omega) (by omega) (by unfold ix at h1 h2 ⊢; omega) ?_
        unfold ix at h1 h2 ⊢; omega
theorem g_appendPlaces {S : ZS} {w c n t p a b d sq k : Nat} {g : Nat → Nat} {v : Nat → Nat → Nat → Nat} (hg : cOK p a b d g) (hk : k + nz g 64 ≤ 40) (h : zWy S w c n t p a b d sq k g v) : ∃ S1, fX4_appendPlaces w S = some S1 ∧ zWy S1 w c n t p a b d sq (vpl g k v 64).1 g (vpl g k v 64).2 ∧ zFrm S S1 (fun b => b = w ∨ b = t) := by
  have hz := h.2.1
  unfold szOK at hz
  have mid : ∀ i, i < a → ∀ S', zWy S' w c n t p a b d sq (vpl g k v (ix i 0 0)).1 g (vpl g k v (ix i 0 0)).2 → ∃ S1, ziter (fX4_appendPlaces_B15 w (ci i)) zF (ci 0, S') = some (.inl (ci (i + 1), S1)) ∧ zWy S1 w c n t p a b d sq (vpl g k v (ix (i + 1) 0 0)).1 g (vpl g k v (ix (i + 1) 0 0)).2 ∧ zFrm S' S1 (fun b => b = w ∨ b = t) := by
    intro i hi S0 h0
    have := ziter_for (body := fX4_appendPlaces_B15 w (ci i)) (fun j S' => zWy S' w c n t p a b d sq (vpl g k v (ix i j 0)).1 g (vpl g k v (ix i j 0)).2 ∧ zFrm S0 S' (fun b => b = w ∨ b = t)) (fun r => ∃ S1, r = .inl (ci (i + 1), S1) ∧ zWy S1 w c n t p a b d sq (vpl g k v (ix (i + 1) 0 0)).1 g (vpl g k v (ix (i + 1) 0 0)).2 ∧ zFrm S0 S1 (fun b => b = w ∨ b = t)) b ?_ ?_ b 0 zF S0 (by omega) (by rw [zF_eq]; omega) ⟨h0, zFrm.rf⟩
    · obtain ⟨r, h1, S1, rfl, h2, h3⟩ := this
      exact ⟨S1, h1, h2, h3⟩
    · intro j S' hj hS'
      obtain ⟨y, hf⟩ := hS'
      obtain ⟨S1, f1, f2, f3⟩ := pl_inner hg hk hi hj y
      refine ⟨S1, ?_, f2, hf.tr f3⟩
      unfold fX4_appendPlaces_B15
      simp only []
      rw [zgR_ob y.wa rfl, Option.bind_some, zgI_ob y.cu.1 rfl, Option.bind_some, if_neg (by rw [ci_le (by omega) (by omega)]; omega), cl_0]
      exact f1
    · intro S' hS'
      obtain ⟨y, hf⟩ := hS'
      refine ⟨.inl (ci (i + 1), S'), ?_, S', rfl, ?_, hf⟩
      · unfold fX4_appendPlaces_B15
        simp only []
        rw [zgR_ob y.wa rfl, Option.bind_some, zgI_ob y.cu.1 rfl, Option.bind_some, if_pos (by rw [ci_le (by omega) (by omega)]; omega), cl_1, ci_add, zex_some]
      · rw [vpl_skip (i := ix i b 0) (j := ix (i + 1) 0 0) (by unfold ix; omega) ?_]
        · exact y
        · intro x h1 h2
          have : x = ix i ((x - ix i 0 0) / 4) ((x - ix i 0 0) % 4) := by unfold ix at h1 h2 ⊢; omega
          rw [this]
          refine hg.2 i _ _ (by omega) (by unfold ix at h1 h2 ⊢; omega) (by omega) ?_
          unfold ix at h1 h2 ⊢; omega
  have := ziter_for (body := fX4_appendPlaces_B2 w) (fun i S' => zWy S' w c n t p a b d sq (vpl g k v (ix i 0 0)).1 g (vpl g k v (ix i 0 0)).2 ∧ zFrm S S' (fun b => b = w ∨ b = t)) (fun S1 => zWy S1 w c n t p a b d sq (vpl g k v 64).1 g (vpl g k v 64).2 ∧ zFrm S S1 (fun b => b = w ∨ b = t)) a ?_ ?_ a 0 zF S (by omega) (by rw [zF_eq]; omega) ⟨h, zFrm.rf⟩
  · exact this
  · intro i S' hi hS'
    obtain ⟨y, hf⟩ := hS'
    obtain ⟨S1, f1, f2, f3⟩ := mid i hi S' y
    refine ⟨S1, ?_, f2, hf.tr f3⟩
    unfold fX4_appendPlaces_B2
    simp only []
    rw [zgR_ob y.wa rfl, Option.bind_some, zgI_ob y.cu.1 rfl, Option.bind_some, if_neg (by rw [ci_le (by omega) (by omega)]; omega), cl_0]
    exact f1
  · intro S' hS'
    obtain ⟨y, hf⟩ := hS'
    refine ⟨S', ?_, ?_, hf⟩
    · unfold fX4_appendPlaces_B2
      simp only []
      rw [zgR_ob y.wa rfl, Option.bind_some, zgI_ob y.cu.1 rfl, Option.bind_some, if_pos (by rw [ci_le (by omega) (by omega)]; omega), zex_some]
    · rw [vpl_skip (i := ix a 0 0) (j := 64) (by unfold ix; omega) ?_]
      · exact y
      · intro x h1 h2
        have : x = ix (x / 16) (x / 4 % 4) (x % 4) := by unfold ix; omega
        rw [this]
        refine hg.2 _ _ _ (by omega) (by omega) (by omega) ?_
        unfold ix at h1; omega
-- 31.mappend.lean.txt
theorem N8 : mN 8 = 1024 := rfl
theorem addm1 (x : Int32) : x + (-1 : Int32) = x - 1 := (Int32.sub_eq_add_neg ..).symm
-- 32.mplain.lean.txt
/-! THE MODEL'S WAYS: plain -/
theorem cl_M1 : (-1 : Int32) < 0 := by decide
theorem nz_le (g : Nat → Nat) (i : Nat) : nz g i ≤ i := by
  induction i with
  | zero => exact Nat.le_refl _
  | succ i ih =>
    unfold nz at ih ⊢
    rw [sm_succ]
    split <;> omega
-- 40.inv.lean.txt
/-! THE INVARIANT: class and model side by side -/
def zRA (S : ZS) (a t N : Nat) (F : Nat → Option Nat) : Prop := S.1 a = some (.inl (t, N, .inr (.inr (.inr (.inr F)))))
def cT (cc wc t : Nat) : Prop := t ≤ 10 ∨ (100 ≤ t ∧ t < 100 + 2 * cc) ∨ (200 ≤ t ∧ t < 200 + 4 * wc)
def live (cc wc t : Nat) : Prop := cT cc wc t ∨ False
def zInj (ad : Nat → Nat) (cc wc : Nat) : Prop := ∀ t u, live cc wc t → live cc wc u → ad t = ad u → t = u
def zHd (S : ZS) (ad : Nat → Nat) (p cc wc : Nat) : Prop :=
  zOb S (ad 10) 5 [.ref (ad 0), .ref (ad 1), .ref (ad 2), .ref (ad 3), .ref (ad 4), .ref (ad 5), .int (ci p), .int (ci cc), .int (ci wc)] ∧ zRA S (ad 0) 3 16 (fun i => if i < cc then some (ad (100 + 2 * i)) else none) ∧ zRA S (ad 1) 4 16 (fun i => if i < wc then some (ad (200 + 4 * i)) else none)
def zTl (S : ZS) (ad : Nat → Nat) : Prop :=
  (∃ r q, zOb S (ad 2) 1 [.ref (ad 6), .int r, .int q]) ∧ (∃ f, zIA S (ad 6) 64 f) ∧ (∃ c, zOb S (ad 3) 2 [.ref (ad 7), .ref (ad 8), .int c]) ∧ (∃ f, zIA S (ad 7) 105 f) ∧ (∃ f, zJA S (ad 8) 64 f) ∧ (∃ c, zOb S (ad 4) 3 [.ref (ad 9), .int c]) ∧ (∃ f, zJA S (ad 9) 120 f) ∧ ∃ f, zIA S (ad 5) 64 f
def zCb (S : ZS) (ad : Nat → Nat) (p i : Nat) (c : Nat → Nat) (g : Nat → Nat) : Prop := zCu S (ad (100 + 2 * i)) (ad (101 + 2 * i)) (c 0) (c 1) (c 2) (c 3) g ∧ szOK (c 0) (c 1) (c 2) ∧ cOK p (c 0) (c 1) (c 2) g ∧ c 3 ≤ 4
def zWb (S : ZS) (ad : Nat → Nat) (p i : Nat) (c : Nat → Nat) (g : Nat → Nat) (v : Nat → Nat → Nat → Nat) : Prop := zWy S (ad (200 + 4 * i)) (ad (201 + 4 * i)) (ad (202 + 4 * i)) (ad (203 + 4 * i)) p (c 0) (c 1) (c 2) (c 3) (c 4) g v ∧ cOK p (c 0) (c 1) (c 2) g ∧ c 3 ≤ 4
def zCl (S : ZS) (ad : Nat → Nat) (p cc wc : Nat) (CA CG WA WG : Nat → Nat → Nat) (WV : Nat → Nat → Nat → Nat → Nat) : Prop :=
  zHd S ad p cc wc ∧ zTl S ad ∧ (∀ i, i < cc → zCb S ad p i (CA i) (CG i)) ∧ ∀ i, i < wc → zWb S ad p i (WA i) (WG i) (WV i)
def msq (s : Nat) : Nat := if 2 ≤ s then s else 0
def zK (p cc wc : Nat) : Prop := isP p ∧ cc ≤ 16 ∧ wc ≤ 16 ∧ (0 < wc → 0 < cc)
-- what is left as it was
theorem zCu.kp {S S1 : ZS} {c n a b d q : Nat} {g : Nat → Nat} (h : zCu S c n a b d q g) (h1 : S1.1 c = S.1 c) (h2 : S1.1 n = S.1 n) : zCu S1 c n a b d q g := ⟨h1.trans h.1, h2.trans h.2⟩
theorem zWy.kp {S S1 : ZS} {w c n t p a b d sq k : Nat} {g : Nat → Nat} {v : Nat → Nat → Nat → Nat} (h : zWy S w c n t p a b d sq k g v) (h1 : S1.1 w = S.1 w) (h2 : S1.1 c = S.1 c) (h3 : S1.1 n = S.1 n) (h4 : S1.1 t = S.1 t) : zWy S1 w c n t p a b d sq k g v := by
  obtain ⟨hp, hsz, hk, hw, hc, hv, W, hW, hWv⟩ := h
  exact ⟨hp, hsz, hk, h1.trans hw, hc.kp h2 h3, hv, W, h4.trans hW, hWv⟩
theorem zCb.kp {S S1 : ZS} {ad : Nat → Nat} {p i : Nat} {c g : Nat → Nat} (h : zCb S ad p i c g) (h1 : S1.1 (ad (100 + 2 * i)) = S.1 (ad (100 + 2 * i))) (h2 : S1.1 (ad (101 + 2 * i)) = S.1 (ad (101 + 2 * i))) : zCb S1 ad p i c g := ⟨h.1.kp h1 h2, h.2⟩
theorem zWb.kp {S S1 : ZS} {ad : Nat → Nat} {p i : Nat} {c g : Nat → Nat} {v : Nat → Nat → Nat → Nat} (h : zWb S ad p i c g v) (hk : ∀ j, j < 4 → S1.1 (ad (200 + 4 * i + j)) = S.1 (ad (200 + 4 * i + j))) : zWb S1 ad p i c g v :=
  ⟨h.1.kp (hk 0 (by omega)) (by have := hk 1 (by omega); rw [show 200 + 4 * i + 1 = 201 + 4 * i by omega] at this; exact this) (by have := hk 2 (by omega); rw [show 200 + 4 * i + 2 = 202 + 4 * i by omega] at this; exact this) (by have := hk 3 (by omega); rw [show 200 + 4 * i + 3 = 203 + 4 * i by omega] at this; exact this), h.2⟩
theorem zTl.kp {S S1 : ZS} {ad : Nat → Nat} (h : zTl S ad) (hk : ∀ t, t ≤ 9 → S1.1 (ad t) = S.1 (ad t)) : zTl S1 ad := by
  obtain ⟨⟨r, q, h1⟩, ⟨f2, h2⟩, ⟨c, h3⟩, ⟨f4, h4⟩, ⟨f5, h5⟩, ⟨c6, h6⟩, ⟨f7, h7⟩, f8, h8⟩ := h
  exact ⟨⟨r, q, (hk 2 (by omega)).trans h1⟩, ⟨f2, (hk 6 (by omega)).trans h2⟩, ⟨c, (hk 3 (by omega)).trans h3⟩, ⟨f4, (hk 7 (by omega)).trans h4⟩, ⟨f5, (hk 8 (by omega)).trans h5⟩, ⟨c6, (hk 4 (by omega)).trans h6⟩, ⟨f7, (hk 9 (by omega)).trans h7⟩, f8, (hk 5 (by omega)).trans h8⟩
theorem zCl.kp {S S1 : ZS} {ad : Nat → Nat} {p cc wc : Nat} {CA CG WA WG : Nat → Nat → Nat} {WV : Nat → Nat → Nat → Nat → Nat} (h : zCl S ad p cc wc CA CG WA WG WV) (hk : ∀ t, cT cc wc t → S1.1 (ad t) = S.1 (ad t)) : zCl S1 ad p cc wc CA CG WA WG WV := by
  obtain ⟨⟨a1, a2, a3⟩, b1, c1, d1⟩ := h
  refine ⟨⟨(hk 10 (Or.inl (by omega))).trans a1, (hk 0 (Or.inl (by omega))).trans a2, (hk 1 (Or.inl (by omega))).trans a3⟩, b1.kp (fun t ht => hk t (Or.inl (by omega))), fun i hi => (c1 i hi).kp (hk _ (Or.inr (Or.inl (by omega)))) (hk _ (Or.inr (Or.inl (by omega)))), fun i hi => (d1 i hi).kp (fun j hj => hk _ (Or.inr (Or.inr (by omega))))⟩
theorem cT_12 {cc wc t : Nat} (h : cT cc wc t) : t ≠ 12 := by
  unfold cT at h
  omega
theorem zsJ_out {S : ZS} {a : Nat} {f : Nat → Int64} (h : zJA S a 1 f) (v : Int64) : zsJ S a 0 v = some (zwJ S a 1 (va_up f 0 v)) := zsJ_ci (i := 0) v h (by omega) (by omega)
theorem zaJ_out {S : ZS} {a : Nat} {f : Nat → Int64} (h : zJA S a 1 f) : zaJ S a 0 = some (f 0) := zaJ_ci (i := 0) h (by omega) (by omega)
-- 42.need.lean.txt
/-! WHAT CALLS NEED -/
def bl (n : Nat) (a : Int32) : Bool := decide (0 ≤ a ∧ a < ci n)
theorem bl_ex {n : Nat} {a : Int32} (hn : n < 2147483648) (h : bl n a = true) : ∃ i, i < n ∧ a = ci i := by
  unfold bl at h
  rw [decide_eq_true_eq] at h
  obtain ⟨i, hi, rfl⟩ := ci_of h.1
  exact ⟨i, (ci_lt hi hn).mp h.2, rfl⟩
theorem bl_ci {n i : Nat} (hn : n < 2147483648) (hi : i < 2147483648) : bl n (ci i) = decide (i < n) := by
  unfold bl
  congr 1
  rw [ci_lt hi hn]
  exact propext ⟨fun h => h.2, fun h => ⟨Int32.not_lt.mp (ci_nneg hi), h⟩⟩
theorem bl_neg {n : Nat} {a : Int32} (h : a < 0) : bl n a = false := by
  unfold bl
  exact decide_eq_false (fun hh => (Int32.not_lt.mpr hh.1) h)
theorem c_isBelow {n : Nat} {a : Int32} (hn : n < 2147483648) : fX5_isBelow a (ci n) = some (bI (bl n a)) := by
  unfold fX5_isBelow fX5_isBelow_J13 fX5_isBelow_J14
  by_cases h : a < 0
  · rw [if_pos h, bl_neg h]; rfl
  · rw [if_neg h]
    obtain ⟨i, hi, rfl⟩ := ci_of (Int32.not_lt.mp h)
    rw [bl_ci hn hi]
    by_cases h2 : i < n
    · rw [if_neg (by rw [ci_le hn hi]; omega), decide_eq_true h2]; rfl
    · rw [if_pos (by rw [ci_le hn hi]; omega), decide_eq_false h2]; rfl
theorem zaQ_ci {S : ZS} {a t N i : Nat} {F : Nat → Option Nat} (h : zRA S a t N F) (hi : i < N) (hN : N < 2147483648) : zaQ S a t (ci i) = some (F i) := by
  have hn : (ci i).toNatClampNeg = i := ci_nat (by omega)
  unfold zaQ
  rw [show S.1 a = _ from h]
  simp only [hn]
  rw [if_pos ⟨trivial, fun q => q.elim (ci_nneg (by omega)) (by omega)⟩]
theorem zalQ {S : ZS} {a t N : Nat} {F : Nat → Option Nat} (h : zRA S a t N F) (ht : t < 5) : zal S a = some (ci N) := by
  unfold zal
  rw [show S.1 a = _ from h]
  exact if_pos ht
theorem c_needCube {S : ZS} {ad : Nat → Nat} {p cc wc i : Nat} (h : zHd S ad p cc wc) (hc : cc ≤ 16) (hi : i < cc) : fX5_needCube (ad 10) (ci i) S = some (.inl (ad (100 + 2 * i), S)) := by
  unfold fX5_needCube fX5_needCube_J23
  rw [if_neg (ci_nneg (by omega)), zgR_ob h.1 rfl, Option.bind_some, zalQ h.2.1 (by omega), Option.bind_some, if_neg (by rw [ci_le (by omega) (by omega)]; omega), Option.bind_some, zaQ_ci h.2.1 (by omega) (by omega), Option.bind_some, if_pos hi]
  rfl
theorem c_noCube {S : ZS} {ad : Nat → Nat} {p cc wc : Nat} {a : Int32} (h : zHd S ad p cc wc) (hc : cc ≤ 16) (hb : bl cc a = false) : fX5_needCube (ad 10) a S = some (.inr ("java/lang/IndexOutOfBoundsException", S.1)) := by
  unfold fX5_needCube fX5_needCube_J22 fX5_needCube_J23
  by_cases hl : a < 0
  · rw [if_pos hl]; rfl
  · rw [if_neg hl]
    obtain ⟨i, hi, rfl⟩ := ci_of (Int32.not_lt.mp hl)
    rw [bl_ci (by omega) hi, decide_eq_false_iff_not] at hb
    rw [zgR_ob h.1 rfl, Option.bind_some, zalQ h.2.1 (by omega), Option.bind_some]
    by_cases h16 : 16 ≤ i
    · rw [if_pos (by rw [ci_le (by omega) (by omega)]; omega)]; rfl
    · rw [if_neg (by rw [ci_le (by omega) (by omega)]; omega), Option.bind_some, zaQ_ci h.2.1 (by omega) (by omega), Option.bind_some, if_neg hb]; rfl
theorem c_needWay {S : ZS} {ad : Nat → Nat} {p cc wc i : Nat} (h : zHd S ad p cc wc) (hc : wc ≤ 16) (hi : i < wc) : fX5_needWay (ad 10) (ci i) S = some (.inl (ad (200 + 4 * i), S)) := by
  unfold fX5_needWay fX5_needWay_J23
  rw [if_neg (ci_nneg (by omega)), zgR_ob h.1 rfl, Option.bind_some, zalQ h.2.2 (by omega), Option.bind_some, if_neg (by rw [ci_le (by omega) (by omega)]; omega), Option.bind_some, zaQ_ci h.2.2 (by omega) (by omega), Option.bind_some, if_pos hi]
  rfl
theorem c_noWay {S : ZS} {ad : Nat → Nat} {p cc wc : Nat} {a : Int32} (h : zHd S ad p cc wc) (hc : wc ≤ 16) (hb : bl wc a = false) : fX5_needWay (ad 10) a S = some (.inr ("java/lang/IndexOutOfBoundsException", S.1)) := by
  unfold fX5_needWay fX5_needWay_J22 fX5_needWay_J23
  by_cases hl : a < 0
  · rw [if_pos hl]; rfl
  · rw [if_neg hl]
    obtain ⟨i, hi, rfl⟩ := ci_of (Int32.not_lt.mp hl)
    rw [bl_ci (by omega) hi, decide_eq_false_iff_not] at hb
    rw [zgR_ob h.1 rfl, Option.bind_some, zalQ h.2.2 (by omega), Option.bind_some]
    by_cases h16 : 16 ≤ i
    · rw [if_pos (by rw [ci_le (by omega) (by omega)]; omega)]; rfl
    · rw [if_neg (by rw [ci_le (by omega) (by omega)]; omega), Option.bind_some, zaQ_ci h.2.2 (by omega) (by omega), Option.bind_some, if_neg hb]; rfl
theorem c_needSide {S : ZS} {a : Int32} : fX5_needSide a S = if bl 3 a = true then some (.inl ((), S)) else some (.inr ("java/lang/IndexOutOfBoundsException", S.1)) := by
  unfold fX5_needSide
  rw [cl_3, c_isBelow (by omega), Option.bind_some]
  cases bl 3 a <;> rfl
theorem c_needProduct {S : ZS} {w c n t p a b d sq k : Nat} {g : Nat → Nat} {v : Nat → Nat → Nat → Nat} {x : Int32} (h : zWy S w c n t p a b d sq k g v) : fX5_needProduct w x S = if bl k x = true then some (.inl ((), S)) else some (.inr ("java/lang/IndexOutOfBoundsException", S.1)) := by
  have := h.kk
  unfold fX5_needProduct
  rw [zgI_ob h.wa rfl, Option.bind_some, c_isBelow (by omega), Option.bind_some]
  cases bl k x <;> rfl
-- 43.reduce.lean.txt
/-! LAW CASES 13, 14: reduce, walk -/
def upW (WA : Nat → Nat → Nat) (i k : Nat) : Nat → Nat → Nat := fun j => if j = i then (fun s => if s = 4 then k else WA i s) else WA j
def upV (WV : Nat → Nat → Nat → Nat → Nat) (i : Nat) (v : Nat → Nat → Nat → Nat) : Nat → Nat → Nat → Nat → Nat := fun j => if j = i then v else WV j
theorem upW_ne {WA : Nat → Nat → Nat} {i k j : Nat} (h : j ≠ i) : upW WA i k j = WA j := if_neg h
theorem upV_ne {WV : Nat → Nat → Nat → Nat → Nat} {i j : Nat} {v : Nat → Nat → Nat → Nat} (h : j ≠ i) : upV WV i v j = WV j := if_neg h
theorem upV_self {WV : Nat → Nat → Nat → Nat → Nat} {i : Nat} {v : Nat → Nat → Nat → Nat} : upV WV i v i = v := if_pos rfl
theorem upW_self {WA : Nat → Nat → Nat} {i k : Nat} : upW WA i k i = (fun s => if s = 4 then k else WA i s) := if_pos rfl
theorem way_cl {S S1 : ZS} {ad : Nat → Nat} {p cc wc i k : Nat} {CA CG WA WG : Nat → Nat → Nat} {WV : Nat → Nat → Nat → Nat → Nat} {v : Nat → Nat → Nat → Nat} (hcc : cc ≤ 16) (hin : zInj ad cc wc) (hcl : zCl S ad p cc wc CA CG WA WG WV) (hi : i < wc)
    (hf : zFrm S S1 (fun b => b = ad (200 + 4 * i) ∨ b = ad (203 + 4 * i))) (hw : zWy S1 (ad (200 + 4 * i)) (ad (201 + 4 * i)) (ad (202 + 4 * i)) (ad (203 + 4 * i)) p (WA i 0) (WA i 1) (WA i 2) (WA i 3) k (WG i) v) :
    zCl S1 ad p cc wc CA CG (upW WA i k) WG (upV WV i v) ∧ ∀ t, live cc wc t → t ≠ 200 + 4 * i → t ≠ 203 + 4 * i → S1.1 (ad t) = S.1 (ad t) := by
  have l0 : live cc wc (200 + 4 * i) := Or.inl (Or.inr (Or.inr (by omega)))
  have l3 : live cc wc (203 + 4 * i) := Or.inl (Or.inr (Or.inr (by omega)))
  have kp : ∀ t, live cc wc t → t ≠ 200 + 4 * i → t ≠ 203 + 4 * i → S1.1 (ad t) = S.1 (ad t) := fun t ht h1 h2 => hf.2 _ (fun hh => by
    rcases hh with hh | hh
    · exact h1 (hin _ _ ht l0 hh)
    · exact h2 (hin _ _ ht l3 hh))
  have kl : ∀ t, t ≤ 10 → S1.1 (ad t) = S.1 (ad t) := fun t ht => kp t (Or.inl (Or.inl ht)) (by omega) (by omega)
  obtain ⟨⟨a1, a2, a3⟩, b1, c1, d1⟩ := hcl
  refine ⟨⟨⟨(kl 10 (by omega)).trans a1, (kl 0 (by omega)).trans a2, (kl 1 (by omega)).trans a3⟩, b1.kp (fun t ht => kl t (by omega)), fun j hj => (c1 j hj).kp (kp _ (Or.inl (Or.inr (Or.inl (by omega)))) (by omega) (by omega)) (kp _ (Or.inl (Or.inr (Or.inl (by omega)))) (by omega) (by omega)), fun j hj => ?_⟩, kp⟩
  by_cases hji : j = i
  · subst hji
    rw [upV_self, upW_self]
    exact ⟨hw, (d1 j hj).2⟩
  · rw [upV_ne hji, upW_ne hji]
    exact (d1 j hj).kp (fun l hl => kp _ (Or.inl (Or.inr (Or.inr (by omega)))) (by omega) (by omega))
-- 44.walkcase.lean.txt
theorem c_walk_bad {x w : Nat} {a1 a2 a3 : Int32} {S : ZS} (hw : zcl S x 5 (fX5_needWay x a1 S) = some (.inl (w, S))) (h : ¬ (bl 65536 a2 = true ∧ decide (1 ≤ a3 ∧ a3 ≤ 200) = true)) : fX5_walk x a1 a2 a3 S = some (.inr ("java/lang/IllegalArgumentException", S.1)) := by
  unfold fX5_walk fX5_walk_J17 fX5_walk_J39
  rw [hw]
  unfold zbT
  simp only []
  by_cases h0 : a2 < 0
  · rw [if_pos h0]
  · rw [if_neg h0]
    by_cases h1 : a2 < 65536
    · rw [if_pos h1]
      have hb : bl 65536 a2 = true := by
        unfold bl
        exact decide_eq_true ⟨Int32.not_lt.mp h0, h1⟩
      by_cases h2 : a3 < 1
      · rw [if_pos h2]
      · rw [if_neg h2]
        by_cases h3 : a3 ≤ 200
        · exact absurd ⟨hb, decide_eq_true ⟨Int32.not_lt.mp h2, h3⟩⟩ h
        · rw [if_neg h3]
    · rw [if_neg h1]
-- 45.flip.lean.txt
/-! LAW CASES 12, 21: flip, vector -/
theorem zbT_l {α β : Type} {y : α} {k : α → Option (β ⊕ ZX)} : zbT (some (.inl y)) k = k y := rfl
theorem zbT_r {α β : Type} {z : ZX} {k : α → Option (β ⊕ ZX)} : zbT (some (.inr z)) k = some (.inr z) := rfl
/-- what fails in a flip before the vectors are looked at -/
def flBad (wc k : Nat) (a1 a2 a3 a4 : Int32) : Bool := !(bl wc a1 && (bl k a2 && (bl k a3 && bl 3 a4)))
-- 46.vector.lean.txt
theorem N3 : mN 3 = 48 := rfl
theorem N4 : mN 4 = 1024 := rfl
theorem N5 : mN 5 = 16 := rfl
theorem c_needPlace {S : ZS} {c n a b d q : Nat} {g : Nat → Nat} {x1 x2 x3 : Int32} (h : zCu S c n a b d q g) (hs : szOK a b d) : fX5_needPlace c x1 x2 x3 S = if (bl a x1 && (bl b x2 && bl d x3)) = true then some (.inl ((), S)) else some (.inr ("java/lang/IndexOutOfBoundsException", S.1)) := by
  unfold szOK at hs
  unfold fX5_needPlace fX5_needPlace_J33
  rw [zgI_ob h.1 rfl, Option.bind_some, c_isBelow (by omega), Option.bind_some, zgI_ob h.1 rfl, Option.bind_some, c_isBelow (by omega), Option.bind_some, zgI_ob h.1 rfl, Option.bind_some, c_isBelow (by omega), Option.bind_some]
  cases bl a x1 <;> cases bl b x2 <;> cases bl d x3 <;> rfl
-- 48.multiply.lean.txt
/-! LAW CASES 10, 11: multiply, plain -/
theorem c_needCode {S : ZS} {ad : Nat → Nat} {p cc wc n : Nat} {a : Int32} (h : zHd S ad p cc wc) (hp : isP p) (hn : n ≤ 4) : zcl S (ad 10) 5 (fX5_needCode (ad 10) a (ci n) S) = if bl (p ^ n) a = true then some (.inl ((), S)) else some (.inr ("java/lang/IllegalArgumentException", S.1)) := by
  have := hp.pow hn
  unfold fX5_needCode
  rw [zcl_ob h.1, zgI_ob h.1 rfl, Option.bind_some, g_power (by omega), Option.bind_some, c_isBelow (by omega), Option.bind_some]
  cases bl (p ^ n) a <;> rfl
theorem c_needRoom {S : ZS} {w c n t p a b d sq k r : Nat} {g : Nat → Nat} {v : Nat → Nat → Nat → Nat} (h : zWy S w c n t p a b d sq k g v) (hr : r ≤ 64) : fX5_needRoom w (ci r) S = if k + r ≤ 40 then some (.inl ((), S)) else some (.inr ("java/lang/IllegalStateException", S.1)) := by
  have := h.kk
  unfold fX5_needRoom
  rw [zgI_ob h.wa rfl, Option.bind_some, ci_add, cl_40]
  by_cases hh : k + r ≤ 40
  · rw [if_pos ((ci_le (by omega) (by omega)).mpr hh), if_pos hh]
  · rw [if_neg (fun q => hh ((ci_le (by omega) (by omega)).mp q)), if_neg hh]
theorem g_count {S : ZS} {c n a b d q : Nat} {g : Nat → Nat} {p : Nat} (h : zCu S c n a b d q g) (hp : isP p) (hg : cOK p a b d g) : fX0_countOthersThanZero c S = some (ci (nz g 64)) := by
  have hpb := hp.b
  unfold fX0_countOthersThanZero
  refine ziter_seq (fun i => (ci (nz g i), ci i)) _ 64 zF (by rw [zF_eq]; omega) ?_ ?_
  · intro i hi
    have hlt := hg.1 i hi
    unfold fX0_countOthersThanZero_B4 fX0_countOthersThanZero_J27
    simp only []
    rw [if_neg (show ¬ (64 : Int32) ≤ ci i by rw [cl_64, ci_le (by omega) (by omega)]; omega), zgR_ob h.1 rfl, Option.bind_some, g_get h.2 (by omega) (by omega), if_pos hi, Option.bind_some]
    have e : nz g (i + 1) = nz g i + (if g i = 0 then 0 else 1) := rfl
    by_cases h0 : g i = 0
    · rw [if_pos (by rw [h0]; rfl), cl_0, cl_1, ci_add, ci_add, e, if_pos h0]
    · rw [if_neg (by rw [cl_0, ci_eq (by omega) (by omega)]; exact h0), cl_1, ci_add, ci_add, e, if_neg h0]
  · unfold fX0_countOthersThanZero_B4
    simp only []
    rw [if_pos (show (64 : Int32) ≤ ci 64 by decide), zex_some]
