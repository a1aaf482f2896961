-- 95.arank.lean.txt
/-! LAW CASES 16, 17: the rank, abstractly -/
def pv (M : Nat → Nat → Nat) (c : Nat) : Nat → Nat → Nat
  | 0, i => i
  | n + 1, i => if M i c = 0 then pv M c n (i + 1) else i
theorem pv_b {M : Nat → Nat → Nat} {c : Nat} : ∀ n i, i ≤ pv M c n i ∧ pv M c n i ≤ i + n ∧ (pv M c n i < i + n → M (pv M c n i) c ≠ 0) ∧ ∀ j, i ≤ j → j < pv M c n i → M j c = 0 := by
  intro n
  induction n with
  | zero => intro i; exact ⟨Nat.le_refl i, Nat.le_refl i, fun h => absurd h (Nat.lt_irrefl i), fun j h1 h2 => absurd (Nat.lt_of_le_of_lt h1 h2) (Nat.lt_irrefl i)⟩
  | succ n ih =>
    intro i
    have e : pv M c (n + 1) i = if M i c = 0 then pv M c n (i + 1) else i := rfl
    rw [e]
    by_cases h : M i c = 0
    · rw [if_pos h]
      obtain ⟨h1, h2, h3, h4⟩ := ih (i + 1)
      refine ⟨by omega, by omega, fun hh => h3 (by omega), fun j hj hj2 => ?_⟩
      by_cases hji : j = i
      · rw [hji]; exact h
      · exact h4 j (by omega) hj2
    · rw [if_neg h]
      exact ⟨Nat.le_refl i, by omega, fun _ => h, fun j h1 h2 => by omega⟩
theorem pv_cg {M C : Nat → Nat → Nat} {c : Nat} : ∀ n i, (∀ j, i ≤ j → j < i + n → (C j c = 0 ↔ M j c = 0)) → pv C c n i = pv M c n i := by
  intro n
  induction n with
  | zero => intro i _; rfl
  | succ n ih =>
    intro i h
    show (if C i c = 0 then pv C c n (i + 1) else i) = if M i c = 0 then pv M c n (i + 1) else i
    have h0 := h i (by omega) (by omega)
    by_cases hc : M i c = 0
    · rw [if_pos (h0.mpr hc), if_pos hc]
      exact ih (i + 1) (fun j h1 h2 => h j (by omega) (by omega))
    · rw [if_neg (fun hh => hc (h0.mp hh)), if_neg hc]
def swp (M : Nat → Nat → Nat) (q r : Nat) : Nat → Nat → Nat := fun i k => if i = r then M q k else if i = q then M r k else M i k
def ivF (p v : Nat) : Nat → Nat
  | 0 => 1
  | i + 1 => if (1 + i) * v % p = 1 then 1 + i else ivF p v i
def inv (p v : Nat) : Nat := ivF p v (p - 1)
def mcl (p x mi mr y : Nat) : Nat := (x + (p - mi * inv p mr % p) * y) % p
def clr (p R : Nat) (M : Nat → Nat → Nat) (r c : Nat) : Nat → Nat → Nat := fun i k => if r < i ∧ i < R then mcl p (M i k) (M i c) (M r c) (M r k) else M i k
def ccl (p x ci cr y : Nat) : Nat := (cr * x + (p - ci) * y) % p
def clc (p R : Nat) (C : Nat → Nat → Nat) (r c : Nat) : Nat → Nat → Nat := fun i k => if r < i ∧ i < R ∧ c ≤ k then ccl p (C i k) (C i c) (C r c) (C r k) else C i k
def stM1 (p R c : Nat) (t : Nat × (Nat → Nat → Nat)) : Nat × (Nat → Nat → Nat) := if pv t.2 c (R - t.1) t.1 < R then (t.1 + 1, clr p R (swp t.2 (pv t.2 c (R - t.1) t.1) t.1) t.1 c) else t
def stC1 (p R c : Nat) (t : Nat × (Nat → Nat → Nat)) : Nat × (Nat → Nat → Nat) := if pv t.2 c (R - t.1) t.1 < R then (t.1 + 1, clc p R (swp t.2 (pv t.2 c (R - t.1) t.1) t.1) t.1 c) else t
def rkM (p R : Nat) (M : Nat → Nat → Nat) : Nat → Nat × (Nat → Nat → Nat)
  | 0 => (0, M)
  | c + 1 => stM1 p R c (rkM p R M c)
def rkC (p R : Nat) (M : Nat → Nat → Nat) : Nat → Nat × (Nat → Nat → Nat)
  | 0 => (0, M)
  | c + 1 => stC1 p R c (rkC p R M c)
def allB : Nat → (Nat → Bool) → Bool
  | 0, _ => true
  | n + 1, f => f n && allB n f
theorem allB_at {f : Nat → Bool} {i : Nat} : ∀ {n}, allB n f = true → i < n → f i = true := by
  intro n
  induction n with
  | zero => intro _ h; omega
  | succ n ih =>
    intro h hi
    have h' : (f n && allB n f) = true := h
    rw [Bool.and_eq_true] at h'
    by_cases hn : i = n
    · rw [hn]; exact h'.1
    · exact ih h'.2 (by omega)
def rkB (p ur ui mr mi x y : Nat) : Bool := decide (ur = 0) || (decide (ui = 0) || (decide (mr = 0) || decide (ccl p (ui * x % p) (ui * mi % p) (ur * mr % p) (ur * y % p) = (ur * mr % p * ui % p) * mcl p x mi mr y % p)))
def rkA (p : Nat) : Bool := allB p (fun ur => allB p (fun ui => allB p (fun mr => allB p (fun mi => allB p (fun x => allB p (fun y => rkB p ur ui mr mi x y))))))
theorem rkA_2 : rkA 2 = true := by decide +kernel
theorem rkA_3 : rkA 3 = true := by decide +kernel
theorem rkA_5 : rkA 5 = true := by decide +kernel
theorem rkA_P {p : Nat} (hp : isP p) : rkA p = true := by
  rcases hp with rfl | rfl | rfl
  · exact rkA_2
  · exact rkA_3
  · exact rkA_5
theorem rkP {p ur ui mr mi x y : Nat} (hp : isP p) (h1 : ur < p) (h2 : ui < p) (h3 : mr < p) (h4 : mi < p) (h5 : x < p) (h6 : y < p) (n1 : ur ≠ 0) (n2 : ui ≠ 0) (n3 : mr ≠ 0) : ccl p (ui * x % p) (ui * mi % p) (ur * mr % p) (ur * y % p) = (ur * mr % p * ui % p) * mcl p x mi mr y % p := by
  have h := allB_at (allB_at (allB_at (allB_at (allB_at (allB_at (rkA_P hp) h1) h2) h3) h4) h5) h6
  unfold rkB at h
  rw [decide_eq_false n1, decide_eq_false n2, decide_eq_false n3, Bool.false_or, Bool.false_or, Bool.false_or, decide_eq_true_eq] at h
  exact h
theorem un2 : ∀ u, u < 2 → ∀ x, x < 2 → u ≠ 0 → x ≠ 0 → u * x % 2 ≠ 0 := by decide
theorem un3 : ∀ u, u < 3 → ∀ x, x < 3 → u ≠ 0 → x ≠ 0 → u * x % 3 ≠ 0 := by decide
theorem un5 : ∀ u, u < 5 → ∀ x, x < 5 → u ≠ 0 → x ≠ 0 → u * x % 5 ≠ 0 := by decide
theorem unP {p u x : Nat} (hp : isP p) (h1 : u < p) (h2 : x < p) (n1 : u ≠ 0) (n2 : x ≠ 0) : u * x % p ≠ 0 := by
  rcases hp with rfl | rfl | rfl
  · exact un2 u h1 x h2 n1 n2
  · exact un3 u h1 x h2 n1 n2
  · exact un5 u h1 x h2 n1 n2
def upU (p lead : Nat) (u : Nat → Nat) (q r : Nat) : Nat → Nat := fun i => if i = q then lead * u r % p else lead * u i % p
/-- class and model before column c, the rank being r -/
def Rel (p R r c : Nat) (u : Nat → Nat) (C M : Nat → Nat → Nat) : Prop := ∀ i, r ≤ i → i < R → (u i ≠ 0 ∧ u i < p) ∧ (∀ k, k < 16 → C i k = u i * M i k % p ∧ M i k < p) ∧ ∀ k, k < c → M i k = 0
theorem rel_step {p R r c : Nat} {u : Nat → Nat} {C M : Nat → Nat → Nat} (hp : isP p) (hc : c < 16) (hr : r ≤ R) (h : Rel p R r c u C M) : (stC1 p R c (r, C)).1 = (stM1 p R c (r, M)).1 ∧ (stM1 p R c (r, M)).1 ≤ R ∧ ∃ u', Rel p R (stM1 p R c (r, M)).1 (c + 1) u' (stC1 p R c (r, C)).2 (stM1 p R c (r, M)).2 := by
  have hpb := hp.b
  have hz : ∀ j, r ≤ j → j < r + (R - r) → (C j c = 0 ↔ M j c = 0) := fun j h1 h2 => by
    obtain ⟨⟨u1, u2⟩, h3, h4⟩ := h j h1 (by omega)
    obtain ⟨h5, h6⟩ := h3 c hc
    constructor
    · intro hh
      apply Classical.byContradiction
      intro hm
      exact unP hp u2 h6 u1 hm (by rw [← h5, hh])
    · intro hh; rw [h5, hh, Nat.mul_zero, Nat.zero_mod]
  have hq := pv_cg (M := M) (C := C) (c := c) (R - r) r hz
  obtain ⟨q1, q2, q3, q4⟩ := pv_b (M := M) (c := c) (R - r) r
  unfold stC1 stM1
  simp only []
  rw [hq]
  obtain ⟨q, hqe⟩ : ∃ q, q = pv M c (R - r) r := ⟨_, rfl⟩
  rw [← hqe] at q1 q2 q3 q4 ⊢
  by_cases hf : q < R
  · rw [if_pos hf, if_pos hf]
    have hM := q3 (by omega)
    obtain ⟨⟨a1, a2⟩, a3, a4⟩ := h q q1 hf
    refine ⟨rfl, by show r + 1 ≤ R; omega, upU p (u q * M q c % p) u q r, fun i h1 h2 => ?_⟩
    have h1' : r + 1 ≤ i := h1
    obtain ⟨⟨e1, e2⟩, e3, e4⟩ := h r (by omega) (by omega)
    have lead := unP hp a2 (a3 c hc).2 a1 hM
    have leadp : u q * M q c % p < p := Nat.mod_lt _ (by omega)
    have gen : ∀ (ui : Nat) (rowC rowM : Nat → Nat), (ui ≠ 0 ∧ ui < p) → (∀ k, k < 16 → rowC k = ui * rowM k % p ∧ rowM k < p) → (∀ k, k < c → rowM k = 0) → ((u q * M q c % p) * ui % p ≠ 0 ∧ (u q * M q c % p) * ui % p < p) ∧ (∀ k, k < 16 → (if c ≤ k then ccl p (rowC k) (rowC c) (C q c) (C q k) else rowC k) = (u q * M q c % p) * ui % p * mcl p (rowM k) (rowM c) (M q c) (M q k) % p ∧ mcl p (rowM k) (rowM c) (M q c) (M q k) < p) ∧ ∀ k, k < c + 1 → mcl p (rowM k) (rowM c) (M q c) (M q k) = 0 := by
      intro ui rowC rowM hu hrow hz0
      have big : ∀ k, k < 16 → ccl p (rowC k) (rowC c) (C q c) (C q k) = (u q * M q c % p) * ui % p * mcl p (rowM k) (rowM c) (M q c) (M q k) % p := fun k hk => by
        rw [(hrow k hk).1, (hrow c hc).1, (a3 c hc).1, (a3 k hk).1]
        exact rkP hp a2 hu.2 (a3 c hc).2 (hrow c hc).2 (hrow k hk).2 (a3 k hk).2 a1 hu.1 hM
      have mz : ∀ k, k < c → mcl p (rowM k) (rowM c) (M q c) (M q k) = 0 := fun k hk => by
        unfold mcl
        rw [hz0 k hk, a4 k hk, Nat.mul_zero, Nat.add_zero, Nat.zero_mod]
      refine ⟨⟨unP hp leadp hu.2 lead hu.1, Nat.mod_lt _ (by omega)⟩, fun k hk => ⟨?_, Nat.mod_lt _ (by omega)⟩, fun k hk => ?_⟩
      · by_cases hck : c ≤ k
        · rw [if_pos hck]; exact big k hk
        · rw [if_neg hck, mz k (by omega), (hrow k hk).1, hz0 k (by omega)]
          rw [Nat.mul_zero, Nat.mul_zero]
      · by_cases hkc : k < c
        · exact mz k hkc
        · have : k = c := by omega
          subst this
          have hb := big k hc
          have h0 : ccl p (rowC k) (rowC k) (C q k) (C q k) = 0 := by
            have hl : rowC k < p := by rw [(hrow k hc).1]; exact Nat.mod_lt _ (by omega)
            unfold ccl
            rw [Nat.mul_comm (C q k) (rowC k), ← Nat.add_mul, Nat.add_sub_cancel' (Nat.le_of_lt hl), Nat.mul_mod_right]
          rw [h0] at hb
          apply Classical.byContradiction
          intro hh
          exact unP hp (Nat.mod_lt _ (by omega)) (Nat.mod_lt _ (by omega)) (unP hp leadp hu.2 lead hu.1) hh hb.symm
    have row : ∀ k, clc p R (swp C q r) r c i k = (if c ≤ k then ccl p (swp C q r i k) (swp C q r i c) (C q c) (C q k) else swp C q r i k) ∧ clr p R (swp M q r) r c i k = mcl p (swp M q r i k) (swp M q r i c) (M q c) (M q k) := fun k => by
      have s1 : swp C q r r = C q := by funext k; exact if_pos rfl
      have s2 : swp M q r r = M q := by funext k; exact if_pos rfl
      constructor
      · unfold clc
        rw [s1]
        by_cases hck : c ≤ k
        · rw [if_pos ⟨by omega, h2, hck⟩, if_pos hck]
        · rw [if_neg (fun hh => hck hh.2.2), if_neg hck]
      · unfold clr
        rw [s2, if_pos ⟨by omega, h2⟩]
    by_cases hiq : i = q
    · have g := gen (u r) (C r) (M r) ⟨e1, e2⟩ e3 e4
      have w1 : swp C q r i = C r := by funext k; unfold swp; rw [if_neg (by omega), if_pos hiq]
      have w2 : swp M q r i = M r := by funext k; unfold swp; rw [if_neg (by omega), if_pos hiq]
      rw [show upU p (u q * M q c % p) u q r i = (u q * M q c % p) * u r % p from if_pos hiq]
      refine ⟨g.1, fun k hk => ?_, fun k hk => ?_⟩
      · have rk := row k
        rw [w1, w2] at rk
        show clc p R (swp C q r) r c i k = _ * clr p R (swp M q r) r c i k % p ∧ clr p R (swp M q r) r c i k < p
        rw [rk.1, rk.2]; exact g.2.1 k hk
      · have rk := row k
        rw [w2] at rk
        show clr p R (swp M q r) r c i k = 0
        rw [rk.2]; exact g.2.2 k hk
    · obtain ⟨b1, b2, b3⟩ := h i (by omega) h2
      have g := gen (u i) (C i) (M i) b1 b2 b3
      have w1 : swp C q r i = C i := by funext k; unfold swp; rw [if_neg (by omega), if_neg hiq]
      have w2 : swp M q r i = M i := by funext k; unfold swp; rw [if_neg (by omega), if_neg hiq]
      rw [show upU p (u q * M q c % p) u q r i = (u q * M q c % p) * u i % p from if_neg hiq]
      refine ⟨g.1, fun k hk => ?_, fun k hk => ?_⟩
      · have rk := row k
        rw [w1, w2] at rk
        show clc p R (swp C q r) r c i k = _ * clr p R (swp M q r) r c i k % p ∧ clr p R (swp M q r) r c i k < p
        rw [rk.1, rk.2]; exact g.2.1 k hk
      · have rk := row k
        rw [w2] at rk
        show clr p R (swp M q r) r c i k = 0
        rw [rk.2]; exact g.2.2 k hk
  · rw [if_neg hf, if_neg hf]
    refine ⟨rfl, hr, u, fun i h1 h2 => ?_⟩
    obtain ⟨b1, b2, b3⟩ := h i h1 h2
    refine ⟨b1, b2, fun k hk => ?_⟩
    by_cases hkc : k = c
    · rw [hkc]; exact q4 i h1 (by omega)
    · exact b3 k (by omega)
theorem rel_all {p R : Nat} {M : Nat → Nat → Nat} (hp : isP p) (hM : ∀ i k, i < R → k < 16 → M i k < p) : ∀ c, c ≤ 16 → (rkC p R M c).1 = (rkM p R M c).1 ∧ (rkM p R M c).1 ≤ R ∧ ∃ u, Rel p R (rkM p R M c).1 c u (rkC p R M c).2 (rkM p R M c).2 := by
  have hpb := hp.b
  intro c
  induction c with
  | zero =>
    intro _
    refine ⟨rfl, Nat.zero_le _, fun _ => 1, fun i _ h2 => ⟨⟨(show (1 : Nat) ≠ 0 by decide), (show 1 < p by omega)⟩, fun k hk => ⟨?_, hM i k h2 hk⟩, fun k hk => absurd hk (Nat.not_lt_zero _)⟩⟩
    show M i k = 1 * M i k % p
    rw [Nat.one_mul, Nat.mod_eq_of_lt (hM i k h2 hk)]
  | succ c ih =>
    intro hc
    obtain ⟨h1, h2, u, h3⟩ := ih (by omega)
    have := rel_step hp (show c < 16 by omega) h2 h3
    rw [← h1] at this
    show (stC1 p R c (rkC p R M c)).1 = (stM1 p R c (rkM p R M c)).1 ∧ _
    have e1 : rkC p R M c = ((rkC p R M c).1, (rkC p R M c).2) := rfl
    have e2 : rkM p R M c = ((rkC p R M c).1, (rkM p R M c).2) := by rw [h1]
    show (stC1 p R c (rkC p R M c)).1 = (stM1 p R c (rkM p R M c)).1 ∧ (stM1 p R c (rkM p R M c)).1 ≤ R ∧ ∃ u, Rel p R (stM1 p R c (rkM p R M c)).1 (c + 1) u (stC1 p R c (rkC p R M c)).2 (stM1 p R c (rkM p R M c)).2
    rw [e2]
    exact this
-- 95.bcrank.lean.txt
/-! LAW CASES 16, 17: the rank in the class -/
def zFt (S : ZS) (fl fn R p : Nat) (C : Nat → Nat → Nat) : Prop := zOb S fl 1 [.ref fn, .int (ci R), .int (ci p)] ∧ (1 ≤ R ∧ R ≤ 4) ∧ isP p ∧ ∃ F, zIA S fn 64 F ∧ ∀ i, i < R → ∀ k, k < 16 → F (16 * i + k) = ci (C i k) ∧ C i k < p
def pFt (fl fn : Nat) : Nat → Prop := fun b => b = fl ∨ b = fn
def upM (C : Nat → Nat → Nat) (i k v : Nat) : Nat → Nat → Nat := fun i' k' => if i' = i ∧ k' = k then v else C i' k'
theorem zFt.get {S : ZS} {fl fn R p i k : Nat} {C : Nat → Nat → Nat} (h : zFt S fl fn R p C) (hi : i < R) (hk : k < 16) : zcl S fl 1 (fX1_number fl (ci i) (ci k) S) = some (ci (C i k)) := by
  obtain ⟨h1, h2, h3, F, h4, h5⟩ := h
  rw [zcl_ob h1]
  unfold fX1_number
  rw [zgR_ob h1 rfl, Option.bind_some, cl_16, ci_mul, ci_add, Nat.mul_comm, g_get h4 (by omega) (by omega), if_pos (by omega), Option.bind_some, (h5 i hi k hk).1]
theorem zFt.lt {S : ZS} {fl fn R p i k : Nat} {C : Nat → Nat → Nat} (h : zFt S fl fn R p C) (hi : i < R) (hk : k < 16) : C i k < p := by
  obtain ⟨h1, h2, h3, F, h4, h5⟩ := h
  exact (h5 i hi k hk).2
theorem zFt.put {S : ZS} {fl fn R p i k v : Nat} {C : Nat → Nat → Nat} (h : zFt S fl fn R p C) (hi : i < R) (hk : k < 16) (hv : v < p) : ∃ S1, zcl S fl 1 (fX1_enter fl (ci i) (ci k) (ci v) S) = some S1 ∧ zFt S1 fl fn R p (upM C i k v) ∧ zFrm S S1 (pFt fl fn) := by
  obtain ⟨h1, h2, h3, F, h4, h5⟩ := h
  have hf : zFrm S (zwI S fn 64 (va_up F (16 * i + k) (ci v))) (fun b => b = fn) := zFrm.wI
  refine ⟨_, ?_, ⟨hf.ob (ne_oi h1 h4) h1, h2, h3, _, zwI_self, fun i' hi' k' hk' => ?_⟩, hf.wk (fun _ => Or.inr)⟩
  · rw [zcl_ob h1]
    unfold fX1_enter
    rw [zgR_ob h1 rfl, Option.bind_some, cl_16, ci_mul, ci_add, Nat.mul_comm, g_put (ci v) h4 (by omega) (by omega), Option.bind_some]
  · unfold va_up upM
    by_cases hh : i' = i ∧ k' = k
    · rw [if_pos (by omega), if_pos hh]; exact ⟨rfl, hv⟩
    · rw [if_neg (by omega), if_neg hh]; exact h5 i' hi' k' hk'
theorem zFt.cg {S : ZS} {fl fn R p : Nat} {C C' : Nat → Nat → Nat} (h : zFt S fl fn R p C) (e : ∀ i, i < R → ∀ k, k < 16 → C i k = C' i k) : zFt S fl fn R p C' := by
  obtain ⟨h1, h2, h3, F, h4, h5⟩ := h
  exact ⟨h1, h2, h3, F, h4, fun i hi k hk => by rw [← e i hi k hk]; exact h5 i hi k hk⟩
theorem ci_m1i (z : Nat) : (-1 : Int32) = ci z → z < 2147483648 → False := fun h hz => ci_m1ne hz h.symm
theorem c_row {S : ZS} {fl fn R p c r : Nat} {C : Nat → Nat → Nat} (h : zFt S fl fn R p C) (hc : c < 16) (hr : r ≤ R) : fX1_rowWithNumber fl (ci c) (ci r) S = some (if pv C c (R - r) r < R then ci (pv C c (R - r) r) else (-1 : Int32)) := by
  have hR := h.2.1
  have hpb := h.2.2.1.b
  unfold fX1_rowWithNumber
  rw [zF_eq]
  have key : ∀ (n i N : Nat), i + n = R → n < N → ziter (fX1_rowWithNumber_B2 fl (ci c) S) N (ci i) = some (if pv C c n i < R then ci (pv C c n i) else (-1 : Int32)) := by
    intro n
    induction n with
    | zero =>
      intro i N hi hN
      obtain ⟨N, rfl⟩ : ∃ M, N = M + 1 := ⟨N - 1, by omega⟩
      rw [ziter_0]
      unfold fX1_rowWithNumber_B2
      rw [zgI_ob h.1 rfl, Option.bind_some, if_pos (by rw [ci_le (by omega) (by omega)]; omega), zex_some]
      show some (Sum.inr (-1 : Int32)) = some (Sum.inr (if i < R then ci i else (-1 : Int32)))
      rw [if_neg (by omega)]
    | succ n ih =>
      intro i N hi hN
      obtain ⟨N, rfl⟩ : ∃ M, N = M + 1 := ⟨N - 1, by omega⟩
      have hlt := h.lt (i := i) (by omega) hc
      have e : pv C c (n + 1) i = if C i c = 0 then pv C c n (i + 1) else i := rfl
      rw [e]
      by_cases h0 : C i c = 0
      · have st : fX1_rowWithNumber_B2 fl (ci c) S (ci i) = some (.inl (ci (i + 1))) := by
          unfold fX1_rowWithNumber_B2
          rw [zgI_ob h.1 rfl, Option.bind_some, if_neg (by rw [ci_le (by omega) (by omega)]; omega), h.get (by omega) hc, Option.bind_some, if_pos (by rw [h0]; rfl), cl_1, ci_add]
        rw [ziter_1 st, if_pos h0]
        exact ih (i + 1) N (by omega) (by omega)
      · rw [if_neg h0, if_pos (show i < R by omega), ziter_0]
        unfold fX1_rowWithNumber_B2
        rw [zgI_ob h.1 rfl, Option.bind_some, if_neg (by rw [ci_le (by omega) (by omega)]; omega), h.get (by omega) hc, Option.bind_some, if_neg (by rw [cl_0, ci_eq (by omega) (by omega)]; exact h0), zex_some]
  exact key (R - r) r 10000 (by omega) (by omega)
def swk (C : Nat → Nat → Nat) (q r k : Nat) : Nat → Nat → Nat := fun i k' => if k' < k then swp C q r i k' else C i k'
theorem swk_step {C : Nat → Nat → Nat} {q r k : Nat} : upM (upM (swk C q r k) q k (C r k)) r k (C q k) = swk C q r (k + 1) := by
  funext i k'
  unfold upM swk swp
  by_cases hk : k' = k
  · subst hk
    by_cases h1 : i = r
    · rw [if_pos ⟨h1, rfl⟩, if_pos (by omega), if_pos h1]
    · rw [if_neg (fun hh => h1 hh.1)]
      by_cases h2 : i = q
      · rw [if_pos ⟨h2, rfl⟩, if_pos (by omega), if_neg h1, if_pos h2]
      · rw [if_neg (fun hh => h2 hh.1), if_neg (by omega), if_pos (by omega), if_neg h1, if_neg h2]
  · rw [if_neg (fun hh => hk hh.2), if_neg (fun hh => hk hh.2)]
    by_cases h3 : k' < k
    · rw [if_pos h3, if_pos (show k' < k + 1 by omega)]
    · rw [if_neg h3, if_neg (by omega)]
theorem swk_at {C : Nat → Nat → Nat} {q r k i : Nat} : swk C q r k i k = C i k := if_neg (by omega)
theorem c_swap {S : ZS} {fl fn R p q r : Nat} {C : Nat → Nat → Nat} (h : zFt S fl fn R p C) (hq : q < R) (hr : r < R) : ∃ S1, fX1_swapRows fl (ci q) (ci r) S = some S1 ∧ zFt S1 fl fn R p (swp C q r) ∧ zFrm S S1 (pFt fl fn) := by
  have := ziter_for (body := fX1_swapRows_B2 fl (ci q) (ci r)) (fun k S' => zFt S' fl fn R p (swk C q r k) ∧ zFrm S S' (pFt fl fn)) (fun x => zFt x fl fn R p (swp C q r) ∧ zFrm S x (pFt fl fn)) 16 ?_ ?_ 16 0 zF S (by omega) (by rw [zF_eq]; omega) ⟨h.cg (fun i _ k _ => (if_neg (by omega)).symm), zFrm.rf⟩
  · exact this
  · rintro k S' hk ⟨y, hf⟩
    have l1 := h.lt hq hk
    have l2 := h.lt hr hk
    obtain ⟨S1, a1, a2, a3⟩ := y.put (v := C r k) hq hk l2
    obtain ⟨S2, b1, b2, b3⟩ := a2.put (v := C q k) hr hk l1
    rw [swk_step] at b2
    refine ⟨S2, ?_, b2, (hf.tr a3).tr b3⟩
    unfold fX1_swapRows_B2
    simp only []
    rw [if_neg (by rw [cl_16, ci_le (by omega) (by omega)]; omega), y.get hq hk, Option.bind_some, y.get hr hk, Option.bind_some, swk_at, swk_at, a1, Option.bind_some, b1, Option.bind_some, cl_1, ci_add]
  · rintro S' ⟨y, hf⟩
    refine ⟨S', ?_, y.cg (fun i _ k hk => if_pos hk), hf⟩
    unfold fX1_swapRows_B2
    simp only []
    rw [if_pos (by rw [cl_16, ci_le (by omega) (by omega)]; omega), zex_some]
def clk (p : Nat) (C : Nat → Nat → Nat) (r c i at' : Nat) : Nat → Nat → Nat := fun i' k' => if (r < i' ∧ i' < i ∧ c ≤ k') ∨ (i' = i ∧ c ≤ k' ∧ k' < at') then ccl p (C i' k') (C i' c) (C r c) (C r k') else C i' k'
theorem ccl_lt {p x ci' cr y : Nat} (hp : isP p) : ccl p x ci' cr y < p := Nat.mod_lt _ (by have := hp.b; omega)
theorem c_clr2 {S : ZS} {fl fn R p r c i : Nat} {C : Nat → Nat → Nat} (hC : ∀ i, i < R → ∀ k, k < 16 → C i k < p) (hr : r < i) (hi : i < R) (hc : c < 16) (h : zFt S fl fn R p (clk p C r c i c)) : ∃ S1, ziter (fX1_clearBelow_B38 fl (ci c) (ci r) (ci (C r c)) (ci i) (ci (p - C i c))) zF (ci c, S) = some (.inl (ci (i + 1), S1)) ∧ zFt S1 fl fn R p (clk p C r c (i + 1) c) ∧ zFrm S S1 (pFt fl fn) := by
  have hR := h.2.1
  have hpb := h.2.2.1.b
  have key : ∀ (n a N : Nat) (S' : ZS), a + n = 16 → c ≤ a → n < N → zFt S' fl fn R p (clk p C r c i a) → zFrm S S' (pFt fl fn) → ∃ S1, ziter (fX1_clearBelow_B38 fl (ci c) (ci r) (ci (C r c)) (ci i) (ci (p - C i c))) N (ci a, S') = some (.inl (ci (i + 1), S1)) ∧ zFt S1 fl fn R p (clk p C r c (i + 1) c) ∧ zFrm S S1 (pFt fl fn) := by
    intro n
    induction n with
    | zero =>
      intro a N S' ha hca hN y hf
      obtain ⟨N, rfl⟩ : ∃ M, N = M + 1 := ⟨N - 1, by omega⟩
      refine ⟨S', ?_, y.cg (fun i' _ k hk => ?_), hf⟩
      · rw [ziter_0]
        unfold fX1_clearBelow_B38
        simp only []
        rw [if_pos (by rw [cl_16, ci_le (by omega) (by omega)]; omega), cl_1, ci_add, zex_some]
      · unfold clk
        by_cases hh : (r < i' ∧ i' < i ∧ c ≤ k) ∨ (i' = i ∧ c ≤ k ∧ k < a)
        · rw [if_pos hh, if_pos (by omega)]
        · rw [if_neg hh, if_neg (by omega)]
    | succ n ih =>
      intro a N S' ha hca hN y hf
      obtain ⟨N, rfl⟩ : ∃ M, N = M + 1 := ⟨N - 1, by omega⟩
      have l1 := hC i hi a (by omega)
      have l2 := hC r (by omega) a (by omega)
      have l3 := hC r (by omega) c hc
      have l4 := hC i hi c hc
      have m1 : C r c * C i a ≤ 5 * 5 := Nat.mul_le_mul (by omega) (by omega)
      have m2 : (p - C i c) * C r a ≤ 5 * 5 := Nat.mul_le_mul (by omega) (by omega)
      have v1 : clk p C r c i a i a = C i a := if_neg (by omega)
      have v2 : clk p C r c i a r a = C r a := if_neg (by omega)
      obtain ⟨S1, a1, a2, a3⟩ := y.put (k := a) (v := ccl p (C i a) (C i c) (C r c) (C r a)) hi (by omega) (ccl_lt h.2.2.1)
      have st : fX1_clearBelow_B38 fl (ci c) (ci r) (ci (C r c)) (ci i) (ci (p - C i c)) (ci a, S') = some (.inl (ci (a + 1), S1)) := by
        unfold fX1_clearBelow_B38
        simp only []
        rw [if_neg (by rw [cl_16, ci_le (by omega) (by omega)]; omega), y.get hi (by omega), Option.bind_some, y.get (i := r) (by omega) (by omega), Option.bind_some, v1, v2, zgI_ob y.1 rfl, Option.bind_some, ci_mul, ci_mul, ci_add, g_rem (by omega) (by omega) (by omega), Option.bind_some]
        show Option.bind (zcl S' fl 1 (fX1_enter fl (ci i) (ci a) (ci (ccl p (C i a) (C i c) (C r c) (C r a))) S')) _ = _
        rw [a1, Option.bind_some, cl_1, ci_add]
      rw [ziter_1 st]
      refine ih (a + 1) N S1 (by omega) (by omega) (by omega) (a2.cg (fun i' _ k _ => ?_)) (hf.tr a3)
      unfold upM clk
      by_cases hh : i' = i ∧ k = a
      · rw [if_pos hh, if_pos (by omega), hh.1, hh.2]
      · rw [if_neg hh]
        by_cases h2 : (r < i' ∧ i' < i ∧ c ≤ k) ∨ (i' = i ∧ c ≤ k ∧ k < a)
        · rw [if_pos h2, if_pos (by omega)]
        · rw [if_neg h2, if_neg (by omega)]
  exact key (16 - c) c zF S (by omega) (Nat.le_refl c) (by rw [zF_eq]; omega) h zFrm.rf
theorem c_clr1 {S : ZS} {fl fn R p r c : Nat} {C : Nat → Nat → Nat} (h : zFt S fl fn R p C) (hr : r < R) (hc : c < 16) : ∃ S1, fX1_clearBelow fl (ci c) (ci r) S = some S1 ∧ zFt S1 fl fn R p (clc p R C r c) ∧ zFrm S S1 (pFt fl fn) := by
  have hR := h.2.1
  have hpb := h.2.2.1.b
  have hC : ∀ i, i < R → ∀ k, k < 16 → C i k < p := fun i hi k hk => h.lt hi hk
  have key : ∀ (n i N : Nat) (S' : ZS), i + n = R → r < i → n < N → zFt S' fl fn R p (clk p C r c i c) → zFrm S S' (pFt fl fn) → ∃ S1, ziter (fX1_clearBelow_B12 fl (ci c) (ci r) (ci (C r c))) N (ci i, S') = some S1 ∧ zFt S1 fl fn R p (clc p R C r c) ∧ zFrm S S1 (pFt fl fn) := by
    intro n
    induction n with
    | zero =>
      intro i N S' hi hri hN y hf
      obtain ⟨N, rfl⟩ : ∃ M, N = M + 1 := ⟨N - 1, by omega⟩
      refine ⟨S', ?_, y.cg (fun i' hi' k _ => ?_), hf⟩
      · rw [ziter_0]
        unfold fX1_clearBelow_B12
        simp only []
        rw [zgI_ob y.1 rfl, Option.bind_some, if_pos (by rw [ci_le (by omega) (by omega)]; omega), zex_some]
      · unfold clk clc
        by_cases hh : r < i' ∧ i' < R ∧ c ≤ k
        · rw [if_pos (by omega), if_pos hh]
        · rw [if_neg (by omega), if_neg hh]
    | succ n ih =>
      intro i N S' hi hri hN y hf
      obtain ⟨N, rfl⟩ : ∃ M, N = M + 1 := ⟨N - 1, by omega⟩
      have l4 := hC i (by omega) c hc
      have v1 : clk p C r c i c i c = C i c := if_neg (by omega)
      obtain ⟨S1, a1, a2, a3⟩ := c_clr2 hC hri (by omega) hc y
      have st : fX1_clearBelow_B12 fl (ci c) (ci r) (ci (C r c)) (ci i, S') = some (.inl (ci (i + 1), S1)) := by
        unfold fX1_clearBelow_B12
        simp only []
        rw [zgI_ob y.1 rfl, Option.bind_some, if_neg (by rw [ci_le (by omega) (by omega)]; omega), zgI_ob y.1 rfl, Option.bind_some, y.get (i := i) (by omega) hc, Option.bind_some, v1, ci_sub (by omega)]
        exact a1
      rw [ziter_1 st]
      exact ih (i + 1) N S1 (by omega) (by omega) (by omega) a2 (hf.tr a3)
  unfold fX1_clearBelow
  rw [h.get hr hc, Option.bind_some, cl_1, ci_add]
  exact key (R - (r + 1)) (r + 1) zF S (by omega) (by omega) (by rw [zF_eq]; omega) (h.cg (fun i _ k _ => by
    unfold clk
    rw [if_neg (by omega)])) zFrm.rf
theorem rkC_le {p R : Nat} {M : Nat → Nat → Nat} : ∀ c, (rkC p R M c).1 ≤ R := by
  intro c
  induction c with
  | zero => exact Nat.zero_le _
  | succ c ih =>
    show (stC1 p R c (rkC p R M c)).1 ≤ R
    have hb := pv_b (M := (rkC p R M c).2) (c := c) (R - (rkC p R M c).1) (rkC p R M c).1
    unfold stC1
    split
    · show (rkC p R M c).1 + 1 ≤ R
      omega
    · exact ih
theorem c_rankLoop {S : ZS} {fl fn R p : Nat} {M : Nat → Nat → Nat} (h : zFt S fl fn R p M) : ∃ S1, ziter (fX1_rankOf_B13 fl) zF ((0 : Int32), (0 : Int32), S) = some (ci (rkC p R M 16).1, S1) ∧ zFt S1 fl fn R p (rkC p R M 16).2 ∧ zFrm S S1 (pFt fl fn) := by
  have hR := h.2.1
  have key : ∀ (n c N : Nat) (S' : ZS), c + n = 16 → n < N → zFt S' fl fn R p (rkC p R M c).2 → zFrm S S' (pFt fl fn) → ∃ S1, ziter (fX1_rankOf_B13 fl) N (ci (rkC p R M c).1, ci c, S') = some (ci (rkC p R M 16).1, S1) ∧ zFt S1 fl fn R p (rkC p R M 16).2 ∧ zFrm S S1 (pFt fl fn) := by
    intro n
    induction n with
    | zero =>
      intro c N S' hc hN y hf
      obtain ⟨N, rfl⟩ : ∃ M, N = M + 1 := ⟨N - 1, by omega⟩
      obtain rfl : c = 16 := by omega
      refine ⟨S', ?_, y, hf⟩
      rw [ziter_0]
      unfold fX1_rankOf_B13
      simp only []
      rw [if_pos (by rw [cl_16, ci_le (by omega) (by omega)]; omega), zex_some]
    | succ n ih =>
      intro c N S' hc hN y hf
      obtain ⟨N, rfl⟩ : ∃ M, N = M + 1 := ⟨N - 1, by omega⟩
      have hle := rkC_le (p := p) (R := R) (M := M) c
      have e : rkC p R M (c + 1) = stC1 p R c (rkC p R M c) := rfl
      have row := c_row y (c := c) (by omega) hle
      have st : ∃ S1, fX1_rankOf_B13 fl (ci (rkC p R M c).1, ci c, S') = some (.inl (ci (rkC p R M (c + 1)).1, ci (c + 1), S1)) ∧ zFt S1 fl fn R p (rkC p R M (c + 1)).2 ∧ zFrm S' S1 (pFt fl fn) := by
        rw [e]
        unfold stC1 fX1_rankOf_B13 fX1_rankOf_J55
        simp only []
        rw [if_neg (by rw [cl_16, ci_le (by omega) (by omega)]; omega), zcl_ob y.1, row, Option.bind_some]
        have hb := pv_b (M := (rkC p R M c).2) (c := c) (R - (rkC p R M c).1) (rkC p R M c).1
        by_cases hq : pv (rkC p R M c).2 c (R - (rkC p R M c).1) (rkC p R M c).1 < R
        · obtain ⟨S1, a1, a2, a3⟩ := c_swap (q := pv (rkC p R M c).2 c (R - (rkC p R M c).1) (rkC p R M c).1) (r := (rkC p R M c).1) y hq (by omega)
          obtain ⟨S2, b1, b2, b3⟩ := c_clr1 (r := (rkC p R M c).1) (c := c) a2 (by omega) (by omega)
          refine ⟨S2, ?_, by rw [if_pos hq]; exact b2, a3.tr b3⟩
          rw [if_pos hq, if_neg (ci_m1ne (by omega)), zcl_ob y.1, a1, Option.bind_some, zcl_ob a2.1, b1, Option.bind_some, if_pos hq, cl_1, ci_add, ci_add]
        · refine ⟨S', ?_, by rw [if_neg hq]; exact y, zFrm.rf⟩
          rw [if_neg hq, if_pos rfl, if_neg hq, cl_1, ci_add]
      obtain ⟨S1, s1, s2, s3⟩ := st
      rw [ziter_1 s1]
      exact ih (c + 1) N S1 (by omega) (by omega) s2 (hf.tr s3)
  exact key 16 0 zF S (by omega) (by rw [zF_eq]; omega) h zFrm.rf
theorem c_take {S : ZS} {fl fn c n a b d q s p : Nat} {g : Nat → Nat} {x1 x2 : Int32} {F : Nat → Int32} (ho : zOb S fl 1 [.ref fn, .int x1, .int x2]) (hF : zIA S fn 64 F) (h : zCu S c n a b d q g) (hn : n ≠ fn) (hs : s < 3) (hz : szOK a b d) (hp : isP p) (hg : cOK p a b d g) : ∃ S1, fX1_take fl c (ci s) (ci p) S = some S1 ∧ zFt S1 fl fn (sz3 a b d s) p (fun i k => g (px s i k)) ∧ zFrm S S1 (pFt fl fn) := by
  have hb := sz3_b hz (s := s)
  obtain ⟨T, hT⟩ : ∃ T, T = zwO (zwO S fl 1 [.ref fn, .int (ci (sz3 a b d s)), .int x2]) fl 1 [.ref fn, .int (ci (sz3 a b d s)), .int (ci p)] := ⟨_, rfl⟩
  have fT : zFrm S T (fun b => b = fl) := by rw [hT]; exact zFrm.wO.tr zFrm.wO
  have oT : zOb T fl 1 [.ref fn, .int (ci (sz3 a b d s)), .int (ci p)] := by rw [hT]; exact zwO_self
  have iT : zIA T fn 64 F := fT.ia (fun hh => ne_oi ho hF hh.symm) hF
  have cT' : zCu T c n a b d q g := fT.cu (ne_oo h.1 ho (by omega)) (fun hh => ne_oi ho h.2 hh.symm) h
  have key : ∀ (S' : ZS) (i k : Nat) (F' : Nat → Int32), zFrm T S' (fun b => b = fn) → zIA S' fn 64 F' → i < sz3 a b d s → k < 16 → ∃ S1, (Option.bind (zcl S' c 0 (fX0_numberInSlice c (ci s) (ci i) (ci k) S')) fun x5 => zcl S' fl 1 (fX1_enter fl (ci i) (ci k) x5 S')) = some S1 ∧ zIA S1 fn 64 (va_up F' (16 * i + k) (ci (g (px s i k)))) ∧ zFrm S' S1 (fun b => b = fn) := by
    intro S' i k F' hf hI hi hk
    have o' := hf.ob (ne_oi oT iT) oT
    have c' := hf.cu (ne_oi cT'.1 iT) hn cT'
    refine ⟨_, ?_, zwI_self, zFrm.wI⟩
    · unfold fX0_numberInSlice
      rw [zcl_cu c', zgR_ob c'.1 rfl, Option.bind_some, g_px hs hk, Option.bind_some, c_getAt c' (px_lt (by omega) hk), Option.bind_some, Option.bind_some, zcl_ob o']
      unfold fX1_enter
      rw [zgR_ob o' rfl, Option.bind_some, cl_16, ci_mul, ci_add, Nat.mul_comm, g_put _ hI (by omega) (by omega), Option.bind_some]
  have := ziter_for (body := fX1_take_B17 fl c (ci s)) (fun i S' => (∃ F', zIA S' fn 64 F' ∧ ∀ i', i' < i → ∀ k, k < 16 → F' (16 * i' + k) = ci (g (px s i' k))) ∧ zFrm T S' (fun b => b = fn)) (fun r => (∃ F', zIA r fn 64 F' ∧ ∀ i', i' < sz3 a b d s → ∀ k, k < 16 → F' (16 * i' + k) = ci (g (px s i' k))) ∧ zFrm T r (fun b => b = fn)) (sz3 a b d s) ?_ ?_ (sz3 a b d s) 0 zF T (by omega) (by rw [zF_eq]; omega) ⟨⟨F, iT, fun i' hi' => absurd hi' (Nat.not_lt_zero _)⟩, zFrm.rf⟩
  · obtain ⟨S1, q1, ⟨F', q2, q3⟩, q4⟩ := this
    refine ⟨S1, ?_, ⟨q4.ob (ne_oi oT iT) oT, hb, hp, F', q2, fun i hi k hk => ⟨q3 i hi k hk, hg.lt (px_lt (by omega) hk)⟩⟩, (fT.wk (fun _ => Or.inl)).tr (q4.wk (fun _ => Or.inr))⟩
    unfold fX1_take
    rw [zcl_cu h, g_sizeOf h hs, Option.bind_some, zpF_ob _ ho (by simp), Option.bind_some]
    show Option.bind (zpF (zwO S fl 1 [.ref fn, .int (ci (sz3 a b d s)), .int x2]) fl 1 2 (.int (ci p))) _ = _
    rw [zpF_ob _ zwO_self (by simp), Option.bind_some]
    show ziter (fX1_take_B17 fl c (ci s)) zF (ci 0, zwO (zwO S fl 1 [.ref fn, .int (ci (sz3 a b d s)), .int x2]) fl 1 [.ref fn, .int (ci (sz3 a b d s)), .int (ci p)]) = _
    rw [← hT]
    exact q1
  · rintro i S' hi ⟨⟨F', hI, hv⟩, hf⟩
    have := ziter_for (body := fX1_take_B29 fl c (ci s) (ci i)) (fun k S' => (∃ F', zIA S' fn 64 F' ∧ ∀ i', i' < sz3 a b d s → ∀ k', k' < 16 → (i' < i ∨ (i' = i ∧ k' < k)) → F' (16 * i' + k') = ci (g (px s i' k'))) ∧ zFrm T S' (fun b => b = fn)) (fun r => ∃ S1, r = .inl (ci (i + 1), S1) ∧ (∃ F', zIA S1 fn 64 F' ∧ ∀ i', i' < i + 1 → ∀ k, k < 16 → F' (16 * i' + k) = ci (g (px s i' k))) ∧ zFrm T S1 (fun b => b = fn)) 16 ?_ ?_ 16 0 zF S' (by omega) (by rw [zF_eq]; omega) ⟨⟨F', hI, fun i' _ k' hk' hh => hv i' (by omega) k' hk'⟩, hf⟩
    · obtain ⟨r, q1, S1, rfl, q2⟩ := this
      refine ⟨S1, ?_, q2⟩
      unfold fX1_take_B17
      simp only []
      rw [zgI_ob (hf.ob (ne_oi oT iT) oT) rfl, Option.bind_some, if_neg (by rw [ci_le (by omega) (by omega)]; omega), cl_0]
      exact q1
    · rintro k S'' hk ⟨⟨F'', hI'', hv''⟩, hf''⟩
      obtain ⟨S1, a1, a2, a3⟩ := key S'' i k F'' hf'' hI'' hi hk
      refine ⟨S1, ?_, ⟨_, a2, fun i' hi' k' hk' hh => ?_⟩, hf''.tr a3⟩
      · unfold fX1_take_B29
        simp only []
        have o'' := hf''.ob (ne_oi oT iT) oT
        have c'' := hf''.cu (ne_oi cT'.1 iT) hn cT'
        have x5 : zcl S'' c 0 (fX0_numberInSlice c (ci s) (ci i) (ci k) S'') = some (ci (g (px s i k))) := by
          unfold fX0_numberInSlice
          rw [zcl_cu c'', zgR_ob c''.1 rfl, Option.bind_some, g_px hs hk, Option.bind_some, c_getAt c'' (px_lt (by omega) hk), Option.bind_some]
        rw [x5, Option.bind_some] at a1
        rw [if_neg (by rw [cl_16, ci_le (by omega) (by omega)]; omega), x5, Option.bind_some, a1, Option.bind_some, cl_1, ci_add]
      · unfold va_up
        by_cases hx : i' = i ∧ k' = k
        · rw [if_pos (by omega), hx.1, hx.2]
        · rw [if_neg (by omega)]; exact hv'' i' hi' k' hk' (by omega)
    · rintro S'' ⟨⟨F'', hI'', hv''⟩, hf''⟩
      refine ⟨.inl (ci (i + 1), S''), ?_, S'', rfl, ⟨F'', hI'', fun i' hi' k hk => hv'' i' (by omega) k hk (by omega)⟩, hf''⟩
      unfold fX1_take_B29
      simp only []
      rw [if_pos (by rw [cl_16, ci_le (by omega) (by omega)]; omega), cl_1, ci_add, zex_some]
  · rintro S' ⟨q, hf⟩
    refine ⟨S', ?_, q, hf⟩
    unfold fX1_take_B17
    simp only []
    rw [zgI_ob (hf.ob (ne_oi oT iT) oT) rfl, Option.bind_some, if_pos (by rw [ci_le (by omega) (by omega)]; omega), zex_some]
/-- the rank of a flattening -/
def rkF (p a b d : Nat) (g : Nat → Nat) (s : Nat) : Nat := (rkM p (sz3 a b d s) (fun i k => g (px s i k)) 16).1
theorem c_rankOf {S : ZS} {fl fn c n a b d q s p : Nat} {g : Nat → Nat} {x1 x2 : Int32} {F : Nat → Int32} (ho : zOb S fl 1 [.ref fn, .int x1, .int x2]) (hF : zIA S fn 64 F) (h : zCu S c n a b d q g) (hn : n ≠ fn) (hs : s < 3) (hz : szOK a b d) (hp : isP p) (hg : cOK p a b d g) : ∃ S1 y1 y2 F', fX1_rankOf fl c (ci s) (ci p) S = some (ci (rkF p a b d g s), S1) ∧ zOb S1 fl 1 [.ref fn, .int y1, .int y2] ∧ zIA S1 fn 64 F' ∧ zFrm S S1 (pFt fl fn) := by
  have hb := sz3_b hz (s := s)
  obtain ⟨S1, a1, a2, a3⟩ := c_take ho hF h hn hs hz hp hg
  obtain ⟨S2, b1, b2, b3⟩ := c_rankLoop a2
  have hr := (rel_all hp (M := fun i k => g (px s i k)) (R := sz3 a b d s) (fun i k hi hk => hg.lt (px_lt (by omega) hk)) 16 (Nat.le_refl 16)).1
  rw [hr] at b1
  obtain ⟨c1, _, _, F', c2, _⟩ := b2
  refine ⟨S2, _, _, F', ?_, c1, c2, a3.tr b3⟩
  unfold fX1_rankOf
  rw [zcl_ob ho, a1, Option.bind_some, b1]
  rfl
-- 95.cmrank.lean.txt
theorem N12 : mN 12 = 64 := rfl
theorem mcl_lt {p x mi mr y : Nat} (hp : isP p) : mcl p x mi mr y < p := Nat.mod_lt _ (by have := hp.b; omega)
def mlk (p : Nat) (M : Nat → Nat → Nat) (r c i at' : Nat) : Nat → Nat → Nat := fun i' k' => if (r < i' ∧ i' < i) ∨ (i' = i ∧ k' < at') then mcl p (M i' k') (M i' c) (M r c) (M r k') else M i' k'
theorem swk_step2 {C : Nat → Nat → Nat} {q r k : Nat} : upM (upM (swk C q r k) r k (C q k)) q k (C r k) = if q = r then swk C q r (k + 1) else swk C q r (k + 1) := by
  have : upM (upM (swk C q r k) r k (C q k)) q k (C r k) = swk C q r (k + 1) := by
    funext i k'
    unfold upM swk swp
    by_cases hk : k' = k
    · subst hk
      by_cases h2 : i = q
      · rw [if_pos ⟨h2, rfl⟩, if_pos (by omega)]
        by_cases h1 : i = r
        · rw [if_pos h1, ← h1, h2]
        · rw [if_neg h1, if_pos h2]
      · rw [if_neg (fun hh => h2 hh.1)]
        by_cases h1 : i = r
        · rw [if_pos ⟨h1, rfl⟩, if_pos (by omega), if_pos h1]
        · rw [if_neg (fun hh => h1 hh.1), if_neg (by omega), if_pos (by omega), if_neg h1, if_neg h2]
    · rw [if_neg (fun hh => hk hh.2), if_neg (fun hh => hk hh.2)]
      by_cases h3 : k' < k
      · rw [if_pos h3, if_pos (show k' < k + 1 by omega)]
      · rw [if_neg h3, if_neg (by omega)]
  rw [this]
  split <;> rfl
theorem stM1_stay {p R c : Nat} {t : Nat × (Nat → Nat → Nat)} (h : t.1 = R) : stM1 p R c t = t := by
  unfold stM1
  rw [h, Nat.sub_self]
  exact if_neg (Nat.lt_irrefl R)
theorem rkM_stay {p R c : Nat} {M : Nat → Nat → Nat} (h : (rkM p R M c).1 = R) : ∀ n, rkM p R M (c + n) = rkM p R M c := by
  intro n
  induction n with
  | zero => rfl
  | succ n ih =>
    show stM1 p R (c + n) (rkM p R M (c + n)) = _
    rw [ih]
    exact stM1_stay h
theorem rkM_le {p R : Nat} {M : Nat → Nat → Nat} : ∀ c, (rkM p R M c).1 ≤ R := by
  intro c
  induction c with
  | zero => exact Nat.zero_le _
  | succ c ih =>
    show (stM1 p R c (rkM p R M c)).1 ≤ R
    have hb := pv_b (M := (rkM p R M c).2) (c := c) (R - (rkM p R M c).1) (rkM p R M c).1
    unfold stM1
    split
    · show (rkM p R M c).1 + 1 ≤ R
      omega
    · exact ih
-- 95.drank16.lean.txt
theorem tl_fl {S S1 : ZS} {ad : Nat → Nat} {cc wc : Nat} {x y : Int32} {F : Nat → Int32} (hin : zInj ad cc wc) (h : zTl S ad) (hf : zFrm S S1 (pFt (ad 2) (ad 6))) (h1 : zOb S1 (ad 2) 1 [.ref (ad 6), .int x, .int y]) (h2 : zIA S1 (ad 6) 64 F) : zTl S1 ad := by
  have kp : ∀ t, t ≤ 9 → t ≠ 2 → t ≠ 6 → S1.1 (ad t) = S.1 (ad t) := fun t ht n4 n9 => hf.2 _ (fun hh => hh.elim (ad_ne hin (by omega) (by omega) n4) (ad_ne hin (by omega) (by omega) n9))
  obtain ⟨⟨r, q, a1⟩, ⟨f2, a2⟩, ⟨c, a3⟩, ⟨f4, a4⟩, ⟨f5, a5⟩, ⟨c6, a6⟩, ⟨f7, a7⟩, f8, a8⟩ := h
  exact ⟨⟨x, y, h1⟩, ⟨F, h2⟩, ⟨c, (kp 3 (by omega) (by omega) (by omega)).trans a3⟩, ⟨f4, (kp 7 (by omega) (by omega) (by omega)).trans a4⟩, ⟨f5, (kp 8 (by omega) (by omega) (by omega)).trans a5⟩, ⟨c6, (kp 4 (by omega) (by omega) (by omega)).trans a6⟩, ⟨f7, (kp 9 (by omega) (by omega) (by omega)).trans a7⟩, f8, (kp 5 (by omega) (by omega) (by omega)).trans a8⟩
/-- what the class's lent rooms may change -/
def kpL (S S1 : ZS) (ad : Nat → Nat) (p cc wc : Nat) (CA CG WA WG : Nat → Nat → Nat) (WV : Nat → Nat → Nat → Nat → Nat) : Prop := zCl S1 ad p cc wc CA CG WA WG WV ∧ zFrm S S1 (fun b => ∃ t, (2 ≤ t ∧ t ≤ 9) ∧ b = ad t)
theorem kpL.tr {S S1 S2 : ZS} {ad : Nat → Nat} {p cc wc : Nat} {CA CG WA WG : Nat → Nat → Nat} {WV : Nat → Nat → Nat → Nat → Nat} (h1 : kpL S S1 ad p cc wc CA CG WA WG WV) (h2 : kpL S1 S2 ad p cc wc CA CG WA WG WV) : kpL S S2 ad p cc wc CA CG WA WG WV := ⟨h2.1, h1.2.tr h2.2⟩
theorem c_rk {S : ZS} {ad : Nat → Nat} {p cc wc i s : Nat} {CA CG WA WG : Nat → Nat → Nat} {WV : Nat → Nat → Nat → Nat → Nat} (hcc : cc ≤ 16) (hp : isP p) (hin : zInj ad cc wc) (hcl : zCl S ad p cc wc CA CG WA WG WV) (hi : i < cc) (hs : s < 3) : ∃ S1, zcl S (ad 2) 1 (fX1_rankOf (ad 2) (ad (100 + 2 * i)) (ci s) (ci p) S) = some (ci (rkF p (CA i 0) (CA i 1) (CA i 2) (CG i) s), S1) ∧ kpL S S1 ad p cc wc CA CG WA WG WV := by
  have htl := hcl.2.1
  obtain ⟨⟨r, q, a1⟩, ⟨f2, a2⟩, _⟩ := id htl
  have hcb := hcl.2.2.1 i hi
  have l0 : live cc wc 6 := Or.inl (Or.inl (by omega))
  have l1 : live cc wc (101 + 2 * i) := Or.inl (Or.inr (Or.inl (by omega)))
  obtain ⟨S1, y1, y2, F', b1, b2, b3, b4⟩ := c_rankOf a1 a2 hcb.1 (fun hh => by have := hin _ _ l1 l0 hh; omega) hs hcb.2.1 hp hcb.2.2.1
  exact ⟨S1, by rw [zcl_ob a1, b1], zCl.tl hcc hin hcl (b4.wk (fun b hb => hb.elim (fun e => ⟨2, by omega, e⟩) (fun e => ⟨6, by omega, e⟩))) (tl_fl hin htl b4 b2 b3)⟩
def bdS (p a b d : Nat) (g : Nat → Nat) (t s : Nat) : Nat := if t < rkF p a b d g s then rkF p a b d g s else t
def bdF (p a b d : Nat) (g : Nat → Nat) : Nat := bdS p a b d g (bdS p a b d g (bdS p a b d g 0 0) 1) 2
theorem rkF_le {p a b d s : Nat} {g : Nat → Nat} (hz : szOK a b d) : rkF p a b d g s ≤ 4 := by
  have := rkM_le (p := p) (R := sz3 a b d s) (M := fun i k => g (px s i k)) 16
  have := sz3_b hz (s := s)
  unfold rkF
  omega
theorem bdS_le {p a b d t s : Nat} {g : Nat → Nat} (hz : szOK a b d) (ht : t ≤ 4) : bdS p a b d g t s ≤ 4 := by
  have := rkF_le (p := p) (s := s) (g := g) hz
  unfold bdS
  split <;> omega
theorem c_bd {S : ZS} {ad : Nat → Nat} {p cc wc i : Nat} {CA CG WA WG : Nat → Nat → Nat} {WV : Nat → Nat → Nat → Nat → Nat} (hcc : cc ≤ 16) (hp : isP p) (hin : zInj ad cc wc) (hcl : zCl S ad p cc wc CA CG WA WG WV) (hi : i < cc) : ∃ S1, fX5_greatestRank (ad 10) (ad (100 + 2 * i)) S = some (ci (bdF p (CA i 0) (CA i 1) (CA i 2) (CG i)), S1) ∧ kpL S S1 ad p cc wc CA CG WA WG WV := by
  have hz := (hcl.2.2.1 i hi).2.1
  have st : ∀ (S : ZS) (t s : Nat), zCl S ad p cc wc CA CG WA WG WV → s < 3 → t ≤ 4 → ∃ S1, fX5_greatestRank_B4 (ad 10) (ad (100 + 2 * i)) (ci t, ci s, S) = some (.inl (ci (bdS p (CA i 0) (CA i 1) (CA i 2) (CG i) t s), ci (s + 1), S1)) ∧ kpL S S1 ad p cc wc CA CG WA WG WV := by
    intro S t s hcl hs ht
    obtain ⟨S1, a1, a2⟩ := c_rk hcc hp hin hcl hi hs
    have hr := rkF_le (p := p) (s := s) (g := CG i) hz
    refine ⟨S1, ?_, a2⟩
    unfold fX5_greatestRank_B4 bdS
    simp only []
    rw [if_neg (by rw [cl_3, ci_le (by omega) (by omega)]; omega), zgR_ob hcl.1.1 rfl, Option.bind_some, zgI_ob hcl.1.1 rfl, Option.bind_some, a1, Option.bind_some, cl_1, ci_add]
    by_cases hl : t < rkF p (CA i 0) (CA i 1) (CA i 2) (CG i) s
    · rw [if_pos hl, if_pos ((ci_lt (by omega) (by omega)).mpr hl)]
    · rw [if_neg hl, if_neg (fun hh => hl ((ci_lt (by omega) (by omega)).mp hh))]
  obtain ⟨S1, a1, a2⟩ := st S 0 0 hcl (by omega) (by omega)
  obtain ⟨S2, b1, b2⟩ := st S1 (bdS p (CA i 0) (CA i 1) (CA i 2) (CG i) 0 0) 1 a2.1 (by omega) (bdS_le hz (by omega))
  obtain ⟨S3, c1, c2⟩ := st S2 (bdS p (CA i 0) (CA i 1) (CA i 2) (CG i) (bdS p (CA i 0) (CA i 1) (CA i 2) (CG i) 0 0) 1) 2 b2.1 (by omega) (bdS_le hz (bdS_le hz (by omega)))
  refine ⟨S3, ?_, (a2.tr b2).tr c2⟩
  unfold fX5_greatestRank
  show ziter _ (9996 + 1 + 1 + 1 + 1) (ci 0, ci 0, S) = _
  rw [ziter_1 a1, ziter_1 b1, ziter_1 c1, ziter_0]
  unfold fX5_greatestRank_B4
  simp only []
  rw [if_pos (by rw [cl_3, ci_le (by omega) (by omega)]; omega), zex_some]
  rfl
