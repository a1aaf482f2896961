/-! THE CLASS'S WAYS: multiply and plain -/
theorem ziter_for {ρ : Type} {body : Int32 × ZS → Option ((Int32 × ZS) ⊕ ρ)} (P : Nat → ZS → Prop) (Q : ρ → Prop) (n : Nat) (step : ∀ i S, i < n → P i S → ∃ S1, body (ci i, S) = some (.inl (ci (i + 1), S1)) ∧ P (i + 1) S1) (fin : ∀ S, P n S → ∃ r, body (ci n, S) = some (.inr r) ∧ Q r) : ∀ (k i N : Nat) (S : ZS), i + k = n → k < N → P i S → ∃ r, ziter body N (ci i, S) = some r ∧ Q r := by
  intro k
  induction k with
  | zero =>
    intro i N S hi hN hP
    obtain ⟨N', rfl⟩ : ∃ N', N = N' + 1 := ⟨N - 1, by omega⟩
    have : i = n := by omega
    subst this
    obtain ⟨r, h1, h2⟩ := fin S hP
    exact ⟨r, ziter_0 h1, h2⟩
  | succ k ih =>
    intro i N S hi hN hP
    obtain ⟨N', rfl⟩ : ∃ N', N = N' + 1 := ⟨N - 1, by omega⟩
    obtain ⟨S1, h1, h2⟩ := step i S (by omega) hP
    obtain ⟨r, h3, h4⟩ := ih (i + 1) N' S1 (by omega) (by omega) h2
    exact ⟨r, by rw [ziter_1 h1]; exact h3, h4⟩
def cOK (p a b d : Nat) (g : Nat → Nat) : Prop := (∀ x, x < 64 → g x < p) ∧ ∀ i j k, i < 4 → j < 4 → k < 4 → ¬ (i < a ∧ j < b ∧ k < d) → g (ix i j k) = 0
def vapp (v : Nat → Nat → Nat → Nat) (k : Nat) (e : Nat → Nat → Nat) : Nat → Nat → Nat → Nat := fun q => if q = k then e else v q
def pe (x i s j : Nat) : Nat := if s = 0 then (if j = i / 16 then x else 0) else if s = 1 then (if j = i / 4 % 4 then 1 else 0) else (if j = i % 4 then 1 else 0)
def vpl (g : Nat → Nat) (k : Nat) (v : Nat → Nat → Nat → Nat) : Nat → Nat × (Nat → Nat → Nat → Nat)
  | 0 => (k, v)
  | i + 1 => if g i = 0 then vpl g k v i else ((vpl g k v i).1 + 1, vapp (vpl g k v i).2 (vpl g k v i).1 (pe (g i) i))
def nz (g : Nat → Nat) (i : Nat) : Nat := sm i (fun x => if g x = 0 then 0 else 1)
theorem sm_succ {n : Nat} {f : Nat → Nat} : sm (n + 1) f = sm n f + f n := rfl
theorem vpl_1 {g : Nat → Nat} {k : Nat} {v : Nat → Nat → Nat → Nat} (i : Nat) : (vpl g k v i).1 = k + nz g i := by
  induction i with
  | zero => rfl
  | succ i ih =>
    unfold vpl nz
    rw [sm_succ]
    unfold nz at ih
    by_cases h : g i = 0
    · rw [if_pos h, if_pos h, ih]; rfl
    · rw [if_neg h, if_neg h]; simp only []; rw [ih]; omega
theorem nz_mono {g : Nat → Nat} {i j : Nat} (h : i ≤ j) : nz g i ≤ nz g j := by
  induction j with
  | zero => rw [show i = 0 by omega]; exact Nat.le_refl _
  | succ j ih =>
    by_cases hij : i = j + 1
    · rw [hij]; exact Nat.le_refl _
    · have := ih (by omega)
      unfold nz at this ⊢
      rw [sm_succ]; omega
theorem vpl_skip {g : Nat → Nat} {k : Nat} {v : Nat → Nat → Nat → Nat} {i j : Nat} (hij : i ≤ j) (h : ∀ x, i ≤ x → x < j → g x = 0) : vpl g k v j = vpl g k v i := by
  induction j with
  | zero => rw [show i = 0 by omega]
  | succ j ih =>
    by_cases hij : i = j + 1
    · rw [hij]
    · rw [vpl, if_pos (h j (by omega) (by omega))]
      exact ih (by omega) (fun x h1 h2 => h x h1 (by omega))
theorem g_append {S : ZS} {w c n t p a b d sq k c0 c1 c2 : Nat} {g : Nat → Nat} {v : Nat → Nat → Nat → Nat} {e : Nat → Nat → Nat} (h : zWy S w c n t p a b d sq k g v) (hk : k < 40) (he : ∀ s, s < 3 → ∀ j, j < sz3 a b d s → e s j < p) (h0 : c0 = enc p a (e 0)) (h1 : c1 = enc p b (e 1)) (h2 : c2 = enc p d (e 2)) : ∃ S1, fX4_append w (ci c0) (ci c1) (ci c2) S = some S1 ∧ zWy S1 w c n t p a b d sq (k + 1) g (vapp v k e) ∧ zFrm S S1 (fun b => b = w ∨ b = t) := by
  have e0 : enc p a (e 0) < 2 ^ 10 := enc_b h.1 (sz3_b h.2.1 (s := 0)).2 (he 0 (by omega))
  have e1 : enc p b (e 1) < 2 ^ 10 := enc_b h.1 (sz3_b h.2.1 (s := 1)).2 (he 1 (by omega))
  have e2 : enc p d (e 2) < 2 ^ 10 := enc_b h.1 (sz3_b h.2.1 (s := 2)).2 (he 2 (by omega))
  subst h0 h1 h2
  obtain ⟨hp, hsz, hk9, hw, hc, hv, W, hW, hWv⟩ := h
  have hf1 : zFrm S (zwI S t 40 (fun i => ci (va_up W k (w3 p a b d e) i))) (fun b => b = t) := zFrm.wI
  have hw1 := hf1.ob (ne_oi hw hW) hw
  have hf2 : zFrm (zwI S t 40 (fun i => ci (va_up W k (w3 p a b d e) i))) (zwO (zwI S t 40 (fun i => ci (va_up W k (w3 p a b d e) i))) w 4 [.ref c, .int (ci p), .ref t, .int (ci (k + 1))]) (fun b => b = w) := zFrm.wO
  have hf3 := (hf1.wk (Q := fun b => b = w ∨ b = t) (fun _ => Or.inr)).tr (hf2.wk (Q := fun b => b = w ∨ b = t) (fun _ => Or.inl))
  refine ⟨_, ?_, ⟨hp, hsz, by omega, zwO_self (fs := [.ref c, .int (ci p), .ref t, .int (ci (k + 1))]), ?_, ?_, ?_⟩, hf3⟩
  · unfold fX4_append
    rw [zgR_ob hw rfl, Option.bind_some, zgI_ob hw rfl, Option.bind_some, cl_0, cl_1, cl_2, g_shiftOf, Option.bind_some, g_shiftOf, Option.bind_some, g_shiftOf, Option.bind_some]
    rw [ci_shl (by omega), ci_shl (by omega), ci_shl (by omega), ci_or, ci_or, show 0 * 10 = 0 from rfl, show 1 * 10 = 10 from rfl, show 2 * 10 = 20 from rfl, Nat.shiftLeft_zero, f3_or e0 e1 e2]
    rw [g_put _ hW (by omega) (by omega), Option.bind_some]
    rw [show va_up (fun q => ci (W q)) k (ci (f3 (enc p a (e 0)) (enc p b (e 1)) (enc p d (e 2)))) = (fun i => ci (va_up W k (w3 p a b d e) i)) from ci_w.symm]
    rw [zgI_ob hw1 rfl, Option.bind_some, ci_add, zpF_ob _ hw1 (by simp), Option.bind_some]
    rfl
  · exact hf3.cu (by rintro (hh | hh); exact ne_oo hc.1 hw (by omega) hh; exact ne_oi hc.1 hW hh) (by rintro (hh | hh); exact (ne_oi hw hc.2) hh.symm; exact ne_ii hc.2 hW (by omega) hh) hc
  · intro q hq s hs j hj
    unfold vapp
    by_cases hqk : q = k
    · rw [if_pos hqk]; exact he s hs j hj
    · rw [if_neg hqk]; exact hv q (by omega) s hs j hj
  · refine ⟨_, hf2.ia (fun hh => ne_oi hw hW hh.symm) zwI_self, ?_⟩
    intro q hq
    unfold vapp
    by_cases hqk : q = k
    · rw [if_pos hqk, hqk, va_up_self]
    · rw [if_neg hqk, va_up_ne _ _ hqk]; exact hWv q (by omega)
theorem pe_lt {p a b d x i s j : Nat} (hp : isP p) (hx : x < p) : pe x i s j < p := by
  have := hp.b
  unfold pe
  split
  · split <;> omega
  · split
    · split <;> omega
    · split <;> omega
theorem ix_16 {i j k : Nat} (hj : j < 4) (hk : k < 4) : ix i j k / 16 = i ∧ ix i j k / 4 % 4 = j ∧ ix i j k % 4 = k := by unfold ix; omega
theorem pl_inner {w c n t p a b d sq k i j : Nat} {g : Nat → Nat} {v : Nat → Nat → Nat → Nat} {S : ZS} (hg : cOK p a b d g) (hk : k + nz g 64 ≤ 40) (hi : i < a) (hj : j < b) (h : zWy S w c n t p a b d sq (vpl g k v (ix i j 0)).1 g (vpl g k v (ix i j 0)).2) : ∃ S1, ziter (fX4_appendPlaces_B28 w (ci i) (ci j)) zF (ci 0, S) = some (.inl (ci (j + 1), S1)) ∧ zWy S1 w c n t p a b d sq (vpl g k v (ix i (j + 1) 0)).1 g (vpl g k v (ix i (j + 1) 0)).2 ∧ zFrm S S1 (fun b => b = w ∨ b = t) := by
  have hz := h.2.1
  unfold szOK at hz
  have := ziter_for (body := fX4_appendPlaces_B28 w (ci i) (ci j)) (fun kk S' => zWy S' w c n t p a b d sq (vpl g k v (ix i j kk)).1 g (vpl g k v (ix i j kk)).2 ∧ zFrm S S' (fun b => b = w ∨ b = t)) (fun r => ∃ S1, r = .inl (ci (j + 1), S1) ∧ zWy S1 w c n t p a b d sq (vpl g k v (ix i (j + 1) 0)).1 g (vpl g k v (ix i (j + 1) 0)).2 ∧ zFrm S S1 (fun b => b = w ∨ b = t)) d ?_ ?_ d 0 zF S (by omega) (by rw [zF_eq]; omega) ⟨h, zFrm.rf⟩
  · obtain ⟨r, h1, S1, rfl, h2, h3⟩ := this
    exact ⟨S1, h1, h2, h3⟩
  · intro kk S' hkk hS'
    obtain ⟨y, hf⟩ := hS'
    have hxl := ix_lt (show i < 4 by omega) (show j < 4 by omega) (show kk < 4 by omega)
    have hdiv := ix_16 (i := i) (show j < 4 by omega) (show kk < 4 by omega)
    have hlt := hg.1 _ hxl
    have hpb := y.1.b
    have hnx : ix i j (kk + 1) = ix i j kk + 1 := rfl
    unfold fX4_appendPlaces_B28
    simp only []
    rw [zgR_ob y.wa rfl, Option.bind_some, zgI_ob y.cu.1 rfl, Option.bind_some, if_neg (by rw [ci_le (by omega) (by omega)]; omega), Option.bind_some, zcl_cu y.cu, g_numberAt y.cu (by omega) (by omega) (by omega), Option.bind_some]
    unfold fX4_appendPlaces_J109
    by_cases h0 : g (ix i j kk) = 0
    · rw [if_pos (by rw [h0]; rfl)]
      refine ⟨S', by rw [cl_1, ci_add], ?_, hf⟩
      rw [hnx, vpl, if_pos h0]; exact y
    · have e9 : vpl g k v (ix i j (kk + 1)) = ((vpl g k v (ix i j kk)).1 + 1, vapp (vpl g k v (ix i j kk)).2 (vpl g k v (ix i j kk)).1 (pe (g (ix i j kk)) (ix i j kk))) := by rw [hnx, vpl, if_neg h0]
      have hcnt : (vpl g k v (ix i j kk)).1 < 40 := by
        have := vpl_1 (g := g) (k := k) (v := v) (ix i j (kk + 1))
        rw [e9] at this
        have := nz_mono (g := g) (show ix i j (kk + 1) ≤ 64 by omega)
        simp only [] at *
        omega
      rw [if_neg (by rw [cl_0, ci_eq (by omega) (by omega)]; exact h0), cl_1]
      rw [Option.bind_some, zgI_ob y.cu.1 rfl, Option.bind_some, zgI_ob y.wa rfl, Option.bind_some, g_codeOf (by omega) hi, Option.bind_some]
      rw [Option.bind_some, zgI_ob y.cu.1 rfl, Option.bind_some, Option.bind_some, g_codeOf (by omega) hj, Option.bind_some]
      rw [Option.bind_some, zgI_ob y.cu.1 rfl, Option.bind_some, Option.bind_some, g_codeOf (by omega) hkk, Option.bind_some, zcl_ob y.wa]
      obtain ⟨S1, f1, f2, f3⟩ := g_append (e := pe (g (ix i j kk)) (ix i j kk)) y hcnt (fun s hs j _ => pe_lt (a := a) (b := b) (d := d) y.1 hlt) (c0 := g (ix i j kk) * p ^ (a - 1 - i)) (c1 := 1 * p ^ (b - 1 - j)) (c2 := 1 * p ^ (d - 1 - kk)) (by rw [← enc_single hi]; unfold pe; rw [hdiv.1]; rfl) (by rw [← enc_single hj]; unfold pe; rw [hdiv.2.1]; rfl) (by rw [← enc_single hkk]; unfold pe; rw [hdiv.2.2]; rfl)
      rw [f1, Option.bind_some]
      refine ⟨S1, by rw [ci_add], ?_, hf.tr f3⟩
      rw [e9]; exact f2
  · intro S' hS'
    obtain ⟨y, hf⟩ := hS'
    refine ⟨.inl (ci (j + 1), S'), ?_, S', rfl, ?_, hf⟩
    · unfold fX4_appendPlaces_B28
      simp only []
      rw [zgR_ob y.wa rfl, Option.bind_some, zgI_ob y.cu.1 rfl, Option.bind_some, if_pos (by rw [ci_le (by omega) (by omega)]; omega), cl_1, ci_add, zex_some]
    · rw [vpl_skip (i := ix i j d) (j := ix i (j + 1) 0) (by unfold ix; omega) ?_]
      · exact y
      · intro x h1 h2
        have : x = ix i j (x - ix i j 0) := by unfold ix at h1 h2 ⊢; omega
        rw [this]
        refine hg.2 i j _ (by omega) (by omega) (by unfold ix at h1 h2 ⊢; omega) ?_
        unfold ix at h1 h2 ⊢; omega
theorem g_appendPlaces {S : ZS} {w c n t p a b d sq k : Nat} {g : Nat → Nat} {v : Nat → Nat → Nat → Nat} (hg : cOK p a b d g) (hk : k + nz g 64 ≤ 40) (h : zWy S w c n t p a b d sq k g v) : ∃ S1, fX4_appendPlaces w S = some S1 ∧ zWy S1 w c n t p a b d sq (vpl g k v 64).1 g (vpl g k v 64).2 ∧ zFrm S S1 (fun b => b = w ∨ b = t) := by
  have hz := h.2.1
  unfold szOK at hz
  have mid : ∀ i, i < a → ∀ S', zWy S' w c n t p a b d sq (vpl g k v (ix i 0 0)).1 g (vpl g k v (ix i 0 0)).2 → ∃ S1, ziter (fX4_appendPlaces_B15 w (ci i)) zF (ci 0, S') = some (.inl (ci (i + 1), S1)) ∧ zWy S1 w c n t p a b d sq (vpl g k v (ix (i + 1) 0 0)).1 g (vpl g k v (ix (i + 1) 0 0)).2 ∧ zFrm S' S1 (fun b => b = w ∨ b = t) := by
    intro i hi S0 h0
    have := ziter_for (body := fX4_appendPlaces_B15 w (ci i)) (fun j S' => zWy S' w c n t p a b d sq (vpl g k v (ix i j 0)).1 g (vpl g k v (ix i j 0)).2 ∧ zFrm S0 S' (fun b => b = w ∨ b = t)) (fun r => ∃ S1, r = .inl (ci (i + 1), S1) ∧ zWy S1 w c n t p a b d sq (vpl g k v (ix (i + 1) 0 0)).1 g (vpl g k v (ix (i + 1) 0 0)).2 ∧ zFrm S0 S1 (fun b => b = w ∨ b = t)) b ?_ ?_ b 0 zF S0 (by omega) (by rw [zF_eq]; omega) ⟨h0, zFrm.rf⟩
    · obtain ⟨r, h1, S1, rfl, h2, h3⟩ := this
      exact ⟨S1, h1, h2, h3⟩
    · intro j S' hj hS'
      obtain ⟨y, hf⟩ := hS'
      obtain ⟨S1, f1, f2, f3⟩ := pl_inner hg hk hi hj y
      refine ⟨S1, ?_, f2, hf.tr f3⟩
      unfold fX4_appendPlaces_B15
      simp only []
      rw [zgR_ob y.wa rfl, Option.bind_some, zgI_ob y.cu.1 rfl, Option.bind_some, if_neg (by rw [ci_le (by omega) (by omega)]; omega), cl_0]
      exact f1
    · intro S' hS'
      obtain ⟨y, hf⟩ := hS'
      refine ⟨.inl (ci (i + 1), S'), ?_, S', rfl, ?_, hf⟩
      · unfold fX4_appendPlaces_B15
        simp only []
        rw [zgR_ob y.wa rfl, Option.bind_some, zgI_ob y.cu.1 rfl, Option.bind_some, if_pos (by rw [ci_le (by omega) (by omega)]; omega), cl_1, ci_add, zex_some]
      · rw [vpl_skip (i := ix i b 0) (j := ix (i + 1) 0 0) (by unfold ix; omega) ?_]
        · exact y
        · intro x h1 h2
          have : x = ix i ((x - ix i 0 0) / 4) ((x - ix i 0 0) % 4) := by unfold ix at h1 h2 ⊢; omega
          rw [this]
          refine hg.2 i _ _ (by omega) (by unfold ix at h1 h2 ⊢; omega) (by omega) ?_
          unfold ix at h1 h2 ⊢; omega
  have := ziter_for (body := fX4_appendPlaces_B2 w) (fun i S' => zWy S' w c n t p a b d sq (vpl g k v (ix i 0 0)).1 g (vpl g k v (ix i 0 0)).2 ∧ zFrm S S' (fun b => b = w ∨ b = t)) (fun S1 => zWy S1 w c n t p a b d sq (vpl g k v 64).1 g (vpl g k v 64).2 ∧ zFrm S S1 (fun b => b = w ∨ b = t)) a ?_ ?_ a 0 zF S (by omega) (by rw [zF_eq]; omega) ⟨h, zFrm.rf⟩
  · exact this
  · intro i S' hi hS'
    obtain ⟨y, hf⟩ := hS'
    obtain ⟨S1, f1, f2, f3⟩ := mid i hi S' y
    refine ⟨S1, ?_, f2, hf.tr f3⟩
    unfold fX4_appendPlaces_B2
    simp only []
    rw [zgR_ob y.wa rfl, Option.bind_some, zgI_ob y.cu.1 rfl, Option.bind_some, if_neg (by rw [ci_le (by omega) (by omega)]; omega), cl_0]
    exact f1
  · intro S' hS'
    obtain ⟨y, hf⟩ := hS'
    refine ⟨S', ?_, ?_, hf⟩
    · unfold fX4_appendPlaces_B2
      simp only []
      rw [zgR_ob y.wa rfl, Option.bind_some, zgI_ob y.cu.1 rfl, Option.bind_some, if_pos (by rw [ci_le (by omega) (by omega)]; omega), zex_some]
    · rw [vpl_skip (i := ix a 0 0) (j := 64) (by unfold ix; omega) ?_]
      · exact y
      · intro x h1 h2
        have : x = ix (x / 16) (x / 4 % 4) (x % 4) := by unfold ix; omega
        rw [this]
        refine hg.2 _ _ _ (by omega) (by omega) (by omega) ?_
        unfold ix at h1; omega
