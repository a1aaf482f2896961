/-! LAW CASE 20: shared pairs, the sets -/
def cmF (ns : Nat) (H : Nat → Nat → Bool) (o r : Nat) : Nat := sm ns (fun t => bn (H o t && H r t))
def pcF (ns : Nat) (H : Nat → Nat → Bool) (o : Nat) : Nat := sm ns (fun t => bn (H o t))
theorem sm_mono {n : Nat} {f g : Nat → Nat} (h : ∀ k, k < n → f k ≤ g k) : sm n f ≤ sm n g := by
  induction n with
  | zero => exact Nat.le_refl 0
  | succ n ih =>
    have h1 := ih (fun k hk => h k (by omega))
    have h2 := h n (by omega)
    show sm n f + f n ≤ sm n g + g n
    omega
theorem sm_single {n f c : Nat} (hf : f < n) : sm n (fun e => if e = f then c else 0) = c := by
  induction n with
  | zero => omega
  | succ n ih =>
    show sm n (fun e => if e = f then c else 0) + (if n = f then c else 0) = c
    by_cases h : n = f
    · rw [if_pos h, sm_zero (fun k hk => if_neg (by omega)), Nat.zero_add]
    · rw [if_neg h, ih (by omega), Nat.add_zero]
theorem sm_one {n e : Nat} {f : Nat → Nat} (he : e < n) : f e ≤ sm n f := by
  induction n with
  | zero => omega
  | succ n ih =>
    show f e ≤ sm n f + f n
    by_cases h : e = n
    · rw [h]; omega
    · have := ih (by omega); omega
theorem cmF_le {ns : Nat} {H : Nat → Nat → Bool} {o r : Nat} : cmF ns H o r ≤ pcF ns H o := sm_mono (fun t _ => by
  cases H o t <;> cases H r t <;> decide)
theorem pcF_le {ns : Nat} {H : Nat → Nat → Bool} {o : Nat} : pcF ns H o ≤ ns := by
  have := sm_le (n := ns) (b := 1) (f := fun t => bn (H o t)) (fun t _ => bn_le _)
  rw [Nat.mul_one] at this
  exact this
def stp (ns : Nat) (H : Nat → Nat → Bool) (n o : Nat) (t : Nat × Nat × Nat) : Nat × Nat × Nat := if t.1 < cmF ns H n o then (cmF ns H n o, n, o) else t
def inn (ns : Nat) (H : Nat → Nat → Bool) (n : Nat) : Nat → Nat × Nat × Nat → Nat × Nat × Nat
  | 0, t => t
  | j + 1, t => stp ns H n (n + 1 + j) (inn ns H n j t)
def out (ns : Nat) (H : Nat → Nat → Bool) (E : Nat) : Nat → Nat × Nat × Nat
  | 0 => (1, 0, 0)
  | i + 1 => inn ns H i (E - (i + 1)) (out ns H E i)
def bst (ns : Nat) (H : Nat → Nat → Bool) (E : Nat) : Nat × Nat × Nat := out ns H E E
def gdT (ns : Nat) (H : Nat → Nat → Bool) (E : Nat) (t : Nat × Nat × Nat) : Prop := 1 ≤ t.1 ∧ t.1 ≤ 1 + ns ∧ t.2.1 ≤ E ∧ t.2.2 ≤ E ∧ (1 < t.1 → t.2.1 < t.2.2 ∧ t.2.2 < E ∧ t.1 = cmF ns H t.2.1 t.2.2)
theorem stp_gd {ns E n o : Nat} {H : Nat → Nat → Bool} {t : Nat × Nat × Nat} (h : gdT ns H E t) (hn : n < o) (ho : o < E) : gdT ns H E (stp ns H n o t) := by
  have h1 := cmF_le (ns := ns) (H := H) (o := n) (r := o)
  have h2 := pcF_le (ns := ns) (H := H) (o := n)
  unfold stp
  by_cases hh : t.1 < cmF ns H n o
  · rw [if_pos hh]
    have := h.1
    exact ⟨by show 1 ≤ cmF ns H n o; omega, by show cmF ns H n o ≤ _; omega, by show n ≤ E; omega, by show o ≤ E; omega, fun _ => ⟨hn, ho, rfl⟩⟩
  · rw [if_neg hh]; exact h
theorem inn_gd {ns E n : Nat} {H : Nat → Nat → Bool} {t : Nat × Nat × Nat} (h : gdT ns H E t) : ∀ j, n + 1 + j ≤ E → gdT ns H E (inn ns H n j t) := by
  intro j
  induction j with
  | zero => intro _; exact h
  | succ j ih => intro hj; exact stp_gd (ih (by omega)) (by omega) (by omega)
theorem out_gd {ns E : Nat} {H : Nat → Nat → Bool} : ∀ i, i ≤ E → gdT ns H E (out ns H E i) := by
  intro i
  induction i with
  | zero => intro _; exact ⟨Nat.le_refl 1, by show 1 ≤ 1 + ns; omega, Nat.zero_le _, Nat.zero_le _, fun hh => absurd hh (show ¬ (1 : Nat) < 1 by decide)⟩
  | succ i ih => intro hi; exact inn_gd (ih (by omega)) _ (by omega)
theorem bst_gd {ns E : Nat} {H : Nat → Nat → Bool} : gdT ns H E (bst ns H E) := out_gd E (Nat.le_refl E)
theorem inn_prune {ns n j : Nat} {H : Nat → Nat → Bool} {t : Nat × Nat × Nat} (h : pcF ns H n ≤ (inn ns H n j t).1) : ∀ m, inn ns H n (j + m) t = inn ns H n j t := by
  intro m
  induction m with
  | zero => rfl
  | succ m ih =>
    show stp ns H n (n + 1 + (j + m)) (inn ns H n (j + m) t) = _
    rw [ih]
    unfold stp
    have := cmF_le (ns := ns) (H := H) (o := n) (r := n + 1 + (j + m))
    rw [if_neg (by omega)]
def shH (H : Nat → Nat → Bool) (E f g : Nat) : Nat → Nat → Bool := fun e t => if e = f then (H f t && !(H f t && H g t)) else if e = g then (H g t && !(H f t && H g t)) else if e = E then (H f t && H g t) else H e t
def shl (ns : Nat) : Nat → Nat → (Nat → Nat → Bool) → Nat × Nat × (Nat → Nat → Bool)
  | 0, E, H => (0, E, H)
  | n + 1, E, H => if 1 < (bst ns H E).1 then ((shl ns n (E + 1) (shH H E (bst ns H E).2.1 (bst ns H E).2.2)).1 + 1, (shl ns n (E + 1) (shH H E (bst ns H E).2.1 (bst ns H E).2.2)).2) else (0, E, H)
def TT (ns E : Nat) (H : Nat → Nat → Bool) : Nat := sm E (fun e => pcF ns H e)
theorem TT_sh {ns E f g : Nat} {H : Nat → Nat → Bool} (hf : f < g) (hg : g < E) : TT ns (E + 1) (shH H E f g) + cmF ns H f g = TT ns E H := by
  have eE : pcF ns (shH H E f g) E = cmF ns H f g := sm_congr (fun t _ => by
    unfold shH
    rw [if_neg (by omega), if_neg (by omega), if_pos rfl])
  have ef : pcF ns H f = pcF ns (shH H E f g) f + cmF ns H f g := by
    unfold pcF cmF
    rw [← sm_add]
    refine sm_congr (fun t _ => ?_)
    unfold shH
    rw [if_pos rfl]
    cases H f t <;> cases H g t <;> rfl
  have eg : pcF ns H g = pcF ns (shH H E f g) g + cmF ns H f g := by
    unfold pcF cmF
    rw [← sm_add]
    refine sm_congr (fun t _ => ?_)
    unfold shH
    rw [if_neg (by omega), if_pos rfl]
    cases H f t <;> cases H g t <;> rfl
  have eo : ∀ e, e < E → pcF ns H e = (pcF ns (shH H E f g) e + (if e = f then cmF ns H f g else 0)) + (if e = g then cmF ns H f g else 0) := fun e he => by
    by_cases h1 : e = f
    · rw [if_pos h1, if_neg (by omega), h1, Nat.add_zero]; exact ef
    · rw [if_neg h1, Nat.add_zero]
      by_cases h2 : e = g
      · rw [if_pos h2, h2]; exact eg
      · rw [if_neg h2, Nat.add_zero]
        refine sm_congr (fun t _ => ?_)
        unfold shH
        rw [if_neg h1, if_neg h2, if_neg (by omega)]
  show sm E (fun e => pcF ns (shH H E f g) e) + pcF ns (shH H E f g) E + cmF ns H f g = sm E (fun e => pcF ns H e)
  rw [sm_congr (g := fun e => (pcF ns (shH H E f g) e + (if e = f then cmF ns H f g else 0)) + (if e = g then cmF ns H f g else 0)) eo, sm_add, sm_add, sm_single (by omega), sm_single hg, eE]
theorem shl_end {ns : Nat} : ∀ (n E : Nat) (H : Nat → Nat → Bool), TT ns E H ≤ 2 * n → ¬ 1 < (bst ns (shl ns n E H).2.2 (shl ns n E H).2.1).1 := by
  intro n
  induction n with
  | zero =>
    intro E H hT hb
    have hb' : 1 < (bst ns H E).1 := hb
    have hg := bst_gd (ns := ns) (E := E) (H := H)
    obtain ⟨h1, h2, h3⟩ := hg.2.2.2.2 hb'
    have h4 := cmF_le (ns := ns) (H := H) (o := (bst ns H E).2.1) (r := (bst ns H E).2.2)
    have h5 := sm_one (n := E) (e := (bst ns H E).2.1) (f := fun e => pcF ns H e) (by omega)
    have h6 : pcF ns H (bst ns H E).2.1 ≤ TT ns E H := h5
    omega
  | succ n ih =>
    intro E H hT
    by_cases hb : 1 < (bst ns H E).1
    · have hg := bst_gd (ns := ns) (E := E) (H := H)
      obtain ⟨h1, h2, h3⟩ := hg.2.2.2.2 hb
      have h4 := TT_sh (ns := ns) (H := H) h1 h2
      have := ih (E + 1) (shH H E (bst ns H E).2.1 (bst ns H E).2.2) (by omega)
      unfold shl
      rw [if_pos hb]
      exact this
    · unfold shl
      rw [if_neg hb]
      exact hb
theorem shl_b {ns : Nat} : ∀ (n E : Nat) (H : Nat → Nat → Bool), (shl ns n E H).1 ≤ n ∧ (shl ns n E H).2.1 = E + (shl ns n E H).1 := by
  intro n
  induction n with
  | zero => intro E H; exact ⟨Nat.le_refl 0, rfl⟩
  | succ n ih =>
    intro E H
    by_cases hb : 1 < (bst ns H E).1
    · have := ih (E + 1) (shH H E (bst ns H E).2.1 (bst ns H E).2.2)
      unfold shl
      rw [if_pos hb]
      show (shl ns n (E + 1) _).1 + 1 ≤ n + 1 ∧ (shl ns n (E + 1) _).2.1 = E + ((shl ns n (E + 1) _).1 + 1)
      omega
    · unfold shl
      rw [if_neg hb]
      exact ⟨Nat.zero_le _, rfl⟩
theorem TT_le {ns E : Nat} {H : Nat → Nat → Bool} : TT ns E H ≤ E * ns := sm_le (fun _ _ => pcF_le)
/-- the additions of the sets -/
def anyE (H : Nat → Nat → Bool) : Nat → Nat → Bool
  | 0, _ => false
  | e + 1, t => anyE H e t || H e t
def nE (H : Nat → Nat → Bool) (E t : Nat) : Nat := sm E (fun e => bn (H e t))
def adO (ns E : Nat) (H : Nat → Nat → Bool) : Nat := sm ns (fun t => nE H E t - 1)
theorem any_n {H : Nat → Nat → Bool} {t : Nat} : ∀ E, (anyE H E t = true ∧ 1 ≤ nE H E t) ∨ (anyE H E t = false ∧ nE H E t = 0) := by
  intro E
  induction E with
  | zero => exact Or.inr ⟨rfl, rfl⟩
  | succ E ih =>
    have e1 : anyE H (E + 1) t = (anyE H E t || H E t) := rfl
    have e2 : nE H (E + 1) t = nE H E t + bn (H E t) := rfl
    rw [e1, e2]
    rcases ih with ⟨h1, h2⟩ | ⟨h1, h2⟩
    · left; rw [h1]; exact ⟨by cases H E t <;> rfl, by omega⟩
    · rw [h1, h2]
      cases H E t with
      | false => right; exact ⟨rfl, rfl⟩
      | true => left; exact ⟨rfl, Nat.le_refl 1⟩
theorem adO_eq {ns E : Nat} {H : Nat → Nat → Bool} : adO ns E H + sm ns (fun t => bn (anyE H E t)) = TT ns E H := by
  unfold adO TT pcF
  rw [sm_swap, ← sm_add]
  refine sm_congr (fun t _ => ?_)
  show nE H E t - 1 + bn (anyE H E t) = nE H E t
  rcases any_n (H := H) (t := t) E with ⟨h1, h2⟩ | ⟨h1, h2⟩
  · rw [h1]; show _ - 1 + 1 = _; omega
  · rw [h1, h2]; rfl
