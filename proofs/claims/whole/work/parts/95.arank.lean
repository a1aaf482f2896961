/-! LAW CASES 16, 17: the rank, abstractly -/
def pv (M : Nat → Nat → Nat) (c : Nat) : Nat → Nat → Nat
  | 0, i => i
  | n + 1, i => if M i c = 0 then pv M c n (i + 1) else i
theorem pv_b {M : Nat → Nat → Nat} {c : Nat} : ∀ n i, i ≤ pv M c n i ∧ pv M c n i ≤ i + n ∧ (pv M c n i < i + n → M (pv M c n i) c ≠ 0) ∧ ∀ j, i ≤ j → j < pv M c n i → M j c = 0 := by
  intro n
  induction n with
  | zero => intro i; exact ⟨Nat.le_refl i, Nat.le_refl i, fun h => absurd h (Nat.lt_irrefl i), fun j h1 h2 => absurd (Nat.lt_of_le_of_lt h1 h2) (Nat.lt_irrefl i)⟩
  | succ n ih =>
    intro i
    have e : pv M c (n + 1) i = if M i c = 0 then pv M c n (i + 1) else i := rfl
    rw [e]
    by_cases h : M i c = 0
    · rw [if_pos h]
      obtain ⟨h1, h2, h3, h4⟩ := ih (i + 1)
      refine ⟨by omega, by omega, fun hh => h3 (by omega), fun j hj hj2 => ?_⟩
      by_cases hji : j = i
      · rw [hji]; exact h
      · exact h4 j (by omega) hj2
    · rw [if_neg h]
      exact ⟨Nat.le_refl i, by omega, fun _ => h, fun j h1 h2 => by omega⟩
theorem pv_cg {M C : Nat → Nat → Nat} {c : Nat} : ∀ n i, (∀ j, i ≤ j → j < i + n → (C j c = 0 ↔ M j c = 0)) → pv C c n i = pv M c n i := by
  intro n
  induction n with
  | zero => intro i _; rfl
  | succ n ih =>
    intro i h
    show (if C i c = 0 then pv C c n (i + 1) else i) = if M i c = 0 then pv M c n (i + 1) else i
    have h0 := h i (by omega) (by omega)
    by_cases hc : M i c = 0
    · rw [if_pos (h0.mpr hc), if_pos hc]
      exact ih (i + 1) (fun j h1 h2 => h j (by omega) (by omega))
    · rw [if_neg (fun hh => hc (h0.mp hh)), if_neg hc]
def swp (M : Nat → Nat → Nat) (q r : Nat) : Nat → Nat → Nat := fun i k => if i = r then M q k else if i = q then M r k else M i k
def ivF (p v : Nat) : Nat → Nat
  | 0 => 1
  | i + 1 => if (1 + i) * v % p = 1 then 1 + i else ivF p v i
def inv (p v : Nat) : Nat := ivF p v (p - 1)
def mcl (p x mi mr y : Nat) : Nat := (x + (p - mi * inv p mr % p) * y) % p
def clr (p R : Nat) (M : Nat → Nat → Nat) (r c : Nat) : Nat → Nat → Nat := fun i k => if r < i ∧ i < R then mcl p (M i k) (M i c) (M r c) (M r k) else M i k
def ccl (p x ci cr y : Nat) : Nat := (cr * x + (p - ci) * y) % p
def clc (p R : Nat) (C : Nat → Nat → Nat) (r c : Nat) : Nat → Nat → Nat := fun i k => if r < i ∧ i < R ∧ c ≤ k then ccl p (C i k) (C i c) (C r c) (C r k) else C i k
def stM1 (p R c : Nat) (t : Nat × (Nat → Nat → Nat)) : Nat × (Nat → Nat → Nat) := if pv t.2 c (R - t.1) t.1 < R then (t.1 + 1, clr p R (swp t.2 (pv t.2 c (R - t.1) t.1) t.1) t.1 c) else t
def stC1 (p R c : Nat) (t : Nat × (Nat → Nat → Nat)) : Nat × (Nat → Nat → Nat) := if pv t.2 c (R - t.1) t.1 < R then (t.1 + 1, clc p R (swp t.2 (pv t.2 c (R - t.1) t.1) t.1) t.1 c) else t
def rkM (p R : Nat) (M : Nat → Nat → Nat) : Nat → Nat × (Nat → Nat → Nat)
  | 0 => (0, M)
  | c + 1 => stM1 p R c (rkM p R M c)
def rkC (p R : Nat) (M : Nat → Nat → Nat) : Nat → Nat × (Nat → Nat → Nat)
  | 0 => (0, M)
  | c + 1 => stC1 p R c (rkC p R M c)
def allB : Nat → (Nat → Bool) → Bool
  | 0, _ => true
  | n + 1, f => f n && allB n f
theorem allB_at {f : Nat → Bool} {i : Nat} : ∀ {n}, allB n f = true → i < n → f i = true := by
  intro n
  induction n with
  | zero => intro _ h; omega
  | succ n ih =>
    intro h hi
    have h' : (f n && allB n f) = true := h
    rw [Bool.and_eq_true] at h'
    by_cases hn : i = n
    · rw [hn]; exact h'.1
    · exact ih h'.2 (by omega)
def rkB (p ur ui mr mi x y : Nat) : Bool := decide (ur = 0) || (decide (ui = 0) || (decide (mr = 0) || decide (ccl p (ui * x % p) (ui * mi % p) (ur * mr % p) (ur * y % p) = (ur * mr % p * ui % p) * mcl p x mi mr y % p)))
def rkA (p : Nat) : Bool := allB p (fun ur => allB p (fun ui => allB p (fun mr => allB p (fun mi => allB p (fun x => allB p (fun y => rkB p ur ui mr mi x y))))))
theorem rkA_2 : rkA 2 = true := by decide +kernel
theorem rkA_3 : rkA 3 = true := by decide +kernel
theorem rkA_5 : rkA 5 = true := by decide +kernel
theorem rkA_P {p : Nat} (hp : isP p) : rkA p = true := by
  rcases hp with rfl | rfl | rfl
  · exact rkA_2
  · exact rkA_3
  · exact rkA_5
theorem rkP {p ur ui mr mi x y : Nat} (hp : isP p) (h1 : ur < p) (h2 : ui < p) (h3 : mr < p) (h4 : mi < p) (h5 : x < p) (h6 : y < p) (n1 : ur ≠ 0) (n2 : ui ≠ 0) (n3 : mr ≠ 0) : ccl p (ui * x % p) (ui * mi % p) (ur * mr % p) (ur * y % p) = (ur * mr % p * ui % p) * mcl p x mi mr y % p := by
  have h := allB_at (allB_at (allB_at (allB_at (allB_at (allB_at (rkA_P hp) h1) h2) h3) h4) h5) h6
  unfold rkB at h
  rw [decide_eq_false n1, decide_eq_false n2, decide_eq_false n3, Bool.false_or, Bool.false_or, Bool.false_or, decide_eq_true_eq] at h
  exact h
theorem un2 : ∀ u, u < 2 → ∀ x, x < 2 → u ≠ 0 → x ≠ 0 → u * x % 2 ≠ 0 := by decide
theorem un3 : ∀ u, u < 3 → ∀ x, x < 3 → u ≠ 0 → x ≠ 0 → u * x % 3 ≠ 0 := by decide
theorem un5 : ∀ u, u < 5 → ∀ x, x < 5 → u ≠ 0 → x ≠ 0 → u * x % 5 ≠ 0 := by decide
theorem unP {p u x : Nat} (hp : isP p) (h1 : u < p) (h2 : x < p) (n1 : u ≠ 0) (n2 : x ≠ 0) : u * x % p ≠ 0 := by
  rcases hp with rfl | rfl | rfl
  · exact un2 u h1 x h2 n1 n2
  · exact un3 u h1 x h2 n1 n2
  · exact un5 u h1 x h2 n1 n2
def upU (p lead : Nat) (u : Nat → Nat) (q r : Nat) : Nat → Nat := fun i => if i = q then lead * u r % p else lead * u i % p
/-- class and model before column c, the rank being r -/
def Rel (p R r c : Nat) (u : Nat → Nat) (C M : Nat → Nat → Nat) : Prop := ∀ i, r ≤ i → i < R → (u i ≠ 0 ∧ u i < p) ∧ (∀ k, k < 16 → C i k = u i * M i k % p ∧ M i k < p) ∧ ∀ k, k < c → M i k = 0
theorem rel_step {p R r c : Nat} {u : Nat → Nat} {C M : Nat → Nat → Nat} (hp : isP p) (hc : c < 16) (hr : r ≤ R) (h : Rel p R r c u C M) : (stC1 p R c (r, C)).1 = (stM1 p R c (r, M)).1 ∧ (stM1 p R c (r, M)).1 ≤ R ∧ ∃ u', Rel p R (stM1 p R c (r, M)).1 (c + 1) u' (stC1 p R c (r, C)).2 (stM1 p R c (r, M)).2 := by
  have hpb := hp.b
  have hz : ∀ j, r ≤ j → j < r + (R - r) → (C j c = 0 ↔ M j c = 0) := fun j h1 h2 => by
    obtain ⟨⟨u1, u2⟩, h3, h4⟩ := h j h1 (by omega)
    obtain ⟨h5, h6⟩ := h3 c hc
    constructor
    · intro hh
      apply Classical.byContradiction
      intro hm
      exact unP hp u2 h6 u1 hm (by rw [← h5, hh])
    · intro hh; rw [h5, hh, Nat.mul_zero, Nat.zero_mod]
  have hq := pv_cg (M := M) (C := C) (c := c) (R - r) r hz
  obtain ⟨q1, q2, q3, q4⟩ := pv_b (M := M) (c := c) (R - r) r
  unfold stC1 stM1
  simp only []
  rw [hq]
  obtain ⟨q, hqe⟩ : ∃ q, q = pv M c (R - r) r := ⟨_, rfl⟩
  rw [← hqe] at q1 q2 q3 q4 ⊢
  by_cases hf : q < R
  · rw [if_pos hf, if_pos hf]
    have hM := q3 (by omega)
    obtain ⟨⟨a1, a2⟩, a3, a4⟩ := h q q1 hf
    refine ⟨rfl, by show r + 1 ≤ R; omega, upU p (u q * M q c % p) u q r, fun i h1 h2 => ?_⟩
    have h1' : r + 1 ≤ i := h1
    obtain ⟨⟨e1, e2⟩, e3, e4⟩ := h r (by omega) (by omega)
    have lead := unP hp a2 (a3 c hc).2 a1 hM
    have leadp : u q * M q c % p < p := Nat.mod_lt _ (by omega)
    have gen : ∀ (ui : Nat) (rowC rowM : Nat → Nat), (ui ≠ 0 ∧ ui < p) → (∀ k, k < 16 → rowC k = ui * rowM k % p ∧ rowM k < p) → (∀ k, k < c → rowM k = 0) → ((u q * M q c % p) * ui % p ≠ 0 ∧ (u q * M q c % p) * ui % p < p) ∧ (∀ k, k < 16 → (if c ≤ k then ccl p (rowC k) (rowC c) (C q c) (C q k) else rowC k) = (u q * M q c % p) * ui % p * mcl p (rowM k) (rowM c) (M q c) (M q k) % p ∧ mcl p (rowM k) (rowM c) (M q c) (M q k) < p) ∧ ∀ k, k < c + 1 → mcl p (rowM k) (rowM c) (M q c) (M q k) = 0 := by
      intro ui rowC rowM hu hrow hz0
      have big : ∀ k, k < 16 → ccl p (rowC k) (rowC c) (C q c) (C q k) = (u q * M q c % p) * ui % p * mcl p (rowM k) (rowM c) (M q c) (M q k) % p := fun k hk => by
        rw [(hrow k hk).1, (hrow c hc).1, (a3 c hc).1, (a3 k hk).1]
        exact rkP hp a2 hu.2 (a3 c hc).2 (hrow c hc).2 (hrow k hk).2 (a3 k hk).2 a1 hu.1 hM
      have mz : ∀ k, k < c → mcl p (rowM k) (rowM c) (M q c) (M q k) = 0 := fun k hk => by
        unfold mcl
        rw [hz0 k hk, a4 k hk, Nat.mul_zero, Nat.add_zero, Nat.zero_mod]
      refine ⟨⟨unP hp leadp hu.2 lead hu.1, Nat.mod_lt _ (by omega)⟩, fun k hk => ⟨?_, Nat.mod_lt _ (by omega)⟩, fun k hk => ?_⟩
      · by_cases hck : c ≤ k
        · rw [if_pos hck]; exact big k hk
        · rw [if_neg hck, mz k (by omega), (hrow k hk).1, hz0 k (by omega)]
          rw [Nat.mul_zero, Nat.mul_zero]
      · by_cases hkc : k < c
        · exact mz k hkc
        · have : k = c := by omega
          subst this
          have hb := big k hc
          have h0 : ccl p (rowC k) (rowC k) (C q k) (C q k) = 0 := by
            have hl : rowC k < p := by rw [(hrow k hc).1]; exact Nat.mod_lt _ (by omega)
            unfold ccl
            rw [Nat.mul_comm (C q k) (rowC k), ← Nat.add_mul, Nat.add_sub_cancel' (Nat.le_of_lt hl), Nat.mul_mod_right]
          rw [h0] at hb
          apply Classical.byContradiction
          intro hh
          exact unP hp (Nat.mod_lt _ (by omega)) (Nat.mod_lt _ (by omega)) (unP hp leadp hu.2 lead hu.1) hh hb.symm
    have row : ∀ k, clc p R (swp C q r) r c i k = (if c ≤ k then ccl p (swp C q r i k) (swp C q r i c) (C q c) (C q k) else swp C q r i k) ∧ clr p R (swp M q r) r c i k = mcl p (swp M q r i k) (swp M q r i c) (M q c) (M q k) := fun k => by
      have s1 : swp C q r r = C q := by funext k; exact if_pos rfl
      have s2 : swp M q r r = M q := by funext k; exact if_pos rfl
      constructor
      · unfold clc
        rw [s1]
        by_cases hck : c ≤ k
        · rw [if_pos ⟨by omega, h2, hck⟩, if_pos hck]
        · rw [if_neg (fun hh => hck hh.2.2), if_neg hck]
      · unfold clr
        rw [s2, if_pos ⟨by omega, h2⟩]
    by_cases hiq : i = q
    · have g := gen (u r) (C r) (M r) ⟨e1, e2⟩ e3 e4
      have w1 : swp C q r i = C r := by funext k; unfold swp; rw [if_neg (by omega), if_pos hiq]
      have w2 : swp M q r i = M r := by funext k; unfold swp; rw [if_neg (by omega), if_pos hiq]
      rw [show upU p (u q * M q c % p) u q r i = (u q * M q c % p) * u r % p from if_pos hiq]
      refine ⟨g.1, fun k hk => ?_, fun k hk => ?_⟩
      · have rk := row k
        rw [w1, w2] at rk
        show clc p R (swp C q r) r c i k = _ * clr p R (swp M q r) r c i k % p ∧ clr p R (swp M q r) r c i k < p
        rw [rk.1, rk.2]; exact g.2.1 k hk
      · have rk := row k
        rw [w2] at rk
        show clr p R (swp M q r) r c i k = 0
        rw [rk.2]; exact g.2.2 k hk
    · obtain ⟨b1, b2, b3⟩ := h i (by omega) h2
      have g := gen (u i) (C i) (M i) b1 b2 b3
      have w1 : swp C q r i = C i := by funext k; unfold swp; rw [if_neg (by omega), if_neg hiq]
      have w2 : swp M q r i = M i := by funext k; unfold swp; rw [if_neg (by omega), if_neg hiq]
      rw [show upU p (u q * M q c % p) u q r i = (u q * M q c % p) * u i % p from if_neg hiq]
      refine ⟨g.1, fun k hk => ?_, fun k hk => ?_⟩
      · have rk := row k
        rw [w1, w2] at rk
        show clc p R (swp C q r) r c i k = _ * clr p R (swp M q r) r c i k % p ∧ clr p R (swp M q r) r c i k < p
        rw [rk.1, rk.2]; exact g.2.1 k hk
      · have rk := row k
        rw [w2] at rk
        show clr p R (swp M q r) r c i k = 0
        rw [rk.2]; exact g.2.2 k hk
  · rw [if_neg hf, if_neg hf]
    refine ⟨rfl, hr, u, fun i h1 h2 => ?_⟩
    obtain ⟨b1, b2, b3⟩ := h i h1 h2
    refine ⟨b1, b2, fun k hk => ?_⟩
    by_cases hkc : k = c
    · rw [hkc]; exact q4 i h1 (by omega)
    · exact b3 k (by omega)
theorem rel_all {p R : Nat} {M : Nat → Nat → Nat} (hp : isP p) (hM : ∀ i k, i < R → k < 16 → M i k < p) : ∀ c, c ≤ 16 → (rkC p R M c).1 = (rkM p R M c).1 ∧ (rkM p R M c).1 ≤ R ∧ ∃ u, Rel p R (rkM p R M c).1 c u (rkC p R M c).2 (rkM p R M c).2 := by
  have hpb := hp.b
  intro c
  induction c with
  | zero =>
    intro _
    refine ⟨rfl, Nat.zero_le _, fun _ => 1, fun i _ h2 => ⟨⟨(show (1 : Nat) ≠ 0 by decide), (show 1 < p by omega)⟩, fun k hk => ⟨?_, hM i k h2 hk⟩, fun k hk => absurd hk (Nat.not_lt_zero _)⟩⟩
    show M i k = 1 * M i k % p
    rw [Nat.one_mul, Nat.mod_eq_of_lt (hM i k h2 hk)]
  | succ c ih =>
    intro hc
    obtain ⟨h1, h2, u, h3⟩ := ih (by omega)
    have := rel_step hp (show c < 16 by omega) h2 h3
    rw [← h1] at this
    show (stC1 p R c (rkC p R M c)).1 = (stM1 p R c (rkM p R M c)).1 ∧ _
    have e1 : rkC p R M c = ((rkC p R M c).1, (rkC p R M c).2) := rfl
    have e2 : rkM p R M c = ((rkC p R M c).1, (rkM p R M c).2) := by rw [h1]
    show (stC1 p R c (rkC p R M c)).1 = (stM1 p R c (rkM p R M c)).1 ∧ (stM1 p R c (rkM p R M c)).1 ≤ R ∧ ∃ u, Rel p R (stM1 p R c (rkM p R M c)).1 (c + 1) u (stC1 p R c (rkC p R M c)).2 (stM1 p R c (rkM p R M c)).2
    rw [e2]
    exact this
