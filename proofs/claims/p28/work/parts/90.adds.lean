-- 90.start.lean.txt
/-! THE START: both objects made, and the answers' row -/
/-- from n0 on the heap holds L and nothing is ahead -/
def hp (n0 : Nat) (L : List ZE) (S : ZS) : Prop := S.2 = n0 + L.length ∧ ∀ i e, L[i]? = some e → S.1 (n0 + i) = some e
theorem hp_new {n0 : Nat} {L : List ZE} {S : ZS} (k : Nat) (fs : List Value) (h : hp n0 L S) : hp n0 (L ++ [.inr (k, fs)]) (zno S k fs) := by
  refine ⟨by show S.2 + 1 = _; rw [h.1, List.length_append]; rfl, fun i e hi => ?_⟩
  show va_up S.1 S.2 (some (.inr (k, fs))) (n0 + i) = some e
  by_cases hx : i = L.length
  · subst hx
    rw [List.getElem?_append_right (Nat.le_refl _), Nat.sub_self] at hi
    rw [h.1, va_up_self]
    exact hi
  · rw [va_up_ne _ _ (by rw [h.1]; omega)]
    by_cases hl : i < L.length
    · rw [List.getElem?_append_left hl] at hi
      exact h.2 i e hi
    · rw [List.getElem?_eq_none (by rw [List.length_append]; simp; omega)] at hi
      cases hi
theorem hp_na {n0 : Nat} {L : List ZE} {S : ZS} (t N : Nat) (h : hp n0 L S) : hp n0 (L ++ [zn0 t N]) (zna S t N) := by
  refine ⟨by show S.2 + 1 = _; rw [h.1, List.length_append]; rfl, fun i e hi => ?_⟩
  show va_up S.1 S.2 (some (zn0 t N)) (n0 + i) = some e
  by_cases hx : i = L.length
  · subst hx
    rw [List.getElem?_append_right (Nat.le_refl _), Nat.sub_self] at hi
    rw [h.1, va_up_self]
    exact hi
  · rw [va_up_ne _ _ (by rw [h.1]; omega)]
    by_cases hl : i < L.length
    · rw [List.getElem?_append_left hl] at hi
      exact h.2 i e hi
    · rw [List.getElem?_eq_none (by rw [List.length_append]; simp; omega)] at hi
      cases hi
theorem hp_set {n0 : Nat} {L : List ZE} {S : ZS} {a i k j : Nat} {fs : List Value} (v : Value) (h : hp n0 L S) (ha : a = n0 + i) (hi : L[i]? = some (.inr (k, fs))) (hj : j < fs.length) : ∃ S', zpF S a k j v = some S' ∧ hp n0 (L.set i (.inr (k, fs.set j v))) S' := by
  subst ha
  have ho : zOb S (n0 + i) k fs := h.2 i _ hi
  refine ⟨_, zpF_ob v ho hj, by rw [List.length_set]; exact h.1, fun x e hx => ?_⟩
  by_cases hxi : x = i
  · subst hxi
    have hl : x < L.length := by
      apply Classical.byContradiction
      intro hh
      rw [List.getElem?_eq_none (by omega)] at hi
      cases hi
    rw [List.getElem?_set_self hl] at hx
    show va_up S.1 (n0 + x) _ (n0 + x) = some e
    rw [va_up_self]
    exact hx
  · rw [List.getElem?_set_ne (fun hh => hxi hh.symm)] at hx
    show va_up S.1 (n0 + i) _ (n0 + x) = some e
    rw [va_up_ne _ _ (by omega)]
    exact h.2 x e hx
theorem hp_arr {n0 : Nat} {L : List ZE} {S : ZS} {a i k j t N q : Nat} {fs : List Value} (h : hp n0 L S) (hq : L.length = q) (ha : a = n0 + i) (hi : (L ++ [zn0 t N])[i]? = some (.inr (k, fs))) (hj : j < fs.length) : ∃ S', zpF (zna S t N) a k j (.ref S.2) = some S' ∧ hp n0 ((L ++ [zn0 t N]).set i (.inr (k, fs.set j (.ref (n0 + q))))) S' := by
  rw [h.1, hq]
  exact hp_set _ (hp_na t N h) ha hi hj
def stX (n0 : Nat) : List ZE := [.inr (5, [.ref (n0 + 1), .ref (n0 + 2), .ref (n0 + 3), .ref (n0 + 5), .ref (n0 + 8), .ref (n0 + 10), .int (2 : Int32), .int (0 : Int32), .int (0 : Int32)]), zn0 3 16, zn0 4 16, .inr (1, [.ref (n0 + 4), .int 0, .int 0]), zn0 0 64, .inr (2, [.ref (n0 + 6), .ref (n0 + 7), .int 0]), zn0 0 105, zn0 1 64, .inr (3, [.ref (n0 + 9), .int 0]), zn0 1 120, zn0 0 64]
theorem init5 (n0 : Nat) : ∃ S1, fX5_init n0 (zno ((fun _ => none), n0) 5 [.null, .null, .null, .null, .null, .null, .int 0, .int 0, .int 0]) = some S1 ∧ hp n0 (stX n0) S1 := by
  have e0 : hp n0 [] (((fun _ => none), n0) : ZS) := ⟨rfl, fun i e hi => by cases hi⟩
  have h0 : hp n0 [.inr (5, [.null, .null, .null, .null, .null, .null, .int 0, .int 0, .int 0])] _ := hp_new 5 [.null, .null, .null, .null, .null, .null, .int 0, .int 0, .int 0] e0
  obtain ⟨S0, hS0⟩ : ∃ S0, S0 = zno ((fun _ => none), n0) 5 [.null, .null, .null, .null, .null, .null, .int 0, .int 0, .int 0] := ⟨_, rfl⟩
  rw [← hS0] at h0 ⊢
  unfold fX5_init
  obtain ⟨S1, q1, h1⟩ := hp_arr (a := n0) (i := 0) (k := 5) (fs := [.null, .null, .null, .null, .null, .null, .int 0, .int 0, .int 0]) (j := 0) (t := 3) (N := 16) (q := 1) h0 rfl rfl rfl (Nat.le_of_ble_eq_true rfl)
  have h1 : hp n0 [.inr (5, [.ref (n0 + 1), .null, .null, .null, .null, .null, .int 0, .int 0, .int 0]), zn0 3 16] S1 := h1
  rw [q1, Option.bind_some]
  obtain ⟨S2, q2, h2⟩ := hp_arr (a := n0) (i := 0) (k := 5) (fs := [.ref (n0 + 1), .null, .null, .null, .null, .null, .int 0, .int 0, .int 0]) (j := 1) (t := 4) (N := 16) (q := 2) h1 rfl rfl rfl (Nat.le_of_ble_eq_true rfl)
  have h2 : hp n0 [.inr (5, [.ref (n0 + 1), .ref (n0 + 2), .null, .null, .null, .null, .int 0, .int 0, .int 0]), zn0 3 16, zn0 4 16] S2 := h2
  rw [q2, Option.bind_some]
  have a2 : S2.2 = n0 + 3 := h2.1
  have h3 : hp n0 [.inr (5, [.ref (n0 + 1), .ref (n0 + 2), .null, .null, .null, .null, .int 0, .int 0, .int 0]), zn0 3 16, zn0 4 16, .inr (1, [.null, .int 0, .int 0])] _ := hp_new 1 [.null, .int 0, .int 0] h2
  obtain ⟨S3, hS3⟩ : ∃ U, U = zno S2 1 [.null, .int 0, .int 0] := ⟨_, rfl⟩
  rw [← hS3] at h3 ⊢
  unfold fX1_init
  rw [a2]
  obtain ⟨S4, q4, h4⟩ := hp_arr (a := n0 + 3) (i := 3) (k := 1) (fs := [.null, .int 0, .int 0]) (j := 0) (t := 0) (N := 64) (q := 4) h3 rfl rfl rfl (Nat.le_of_ble_eq_true rfl)
  have h4 : hp n0 [.inr (5, [.ref (n0 + 1), .ref (n0 + 2), .null, .null, .null, .null, .int 0, .int 0, .int 0]), zn0 3 16, zn0 4 16, .inr (1, [.ref (n0 + 4), .int 0, .int 0]), zn0 0 64] S4 := h4
  rw [q4, Option.bind_some]
  rw [Option.bind_some]
  obtain ⟨S5, q5, h5⟩ := hp_set (a := n0) (i := 0) (k := 5) (fs := [.ref (n0 + 1), .ref (n0 + 2), .null, .null, .null, .null, .int 0, .int 0, .int 0]) (j := 2) (.ref (n0 + 3)) h4 rfl rfl (Nat.le_of_ble_eq_true rfl)
  have h5 : hp n0 [.inr (5, [.ref (n0 + 1), .ref (n0 + 2), .ref (n0 + 3), .null, .null, .null, .int 0, .int 0, .int 0]), zn0 3 16, zn0 4 16, .inr (1, [.ref (n0 + 4), .int 0, .int 0]), zn0 0 64] S5 := h5
  rw [q5, Option.bind_some]
  have a5 : S5.2 = n0 + 5 := h5.1
  have h6 : hp n0 [.inr (5, [.ref (n0 + 1), .ref (n0 + 2), .ref (n0 + 3), .null, .null, .null, .int 0, .int 0, .int 0]), zn0 3 16, zn0 4 16, .inr (1, [.ref (n0 + 4), .int 0, .int 0]), zn0 0 64, .inr (2, [.null, .null, .int 0])] _ := hp_new 2 [.null, .null, .int 0] h5
  obtain ⟨S6, hS6⟩ : ∃ U, U = zno S5 2 [.null, .null, .int 0] := ⟨_, rfl⟩
  rw [← hS6] at h6 ⊢
  unfold fX2_init
  rw [a5]
  obtain ⟨S7, q7, h7⟩ := hp_arr (a := n0 + 5) (i := 5) (k := 2) (fs := [.null, .null, .int 0]) (j := 0) (t := 0) (N := 105) (q := 6) h6 rfl rfl rfl (Nat.le_of_ble_eq_true rfl)
  have h7 : hp n0 [.inr (5, [.ref (n0 + 1), .ref (n0 + 2), .ref (n0 + 3), .null, .null, .null, .int 0, .int 0, .int 0]), zn0 3 16, zn0 4 16, .inr (1, [.ref (n0 + 4), .int 0, .int 0]), zn0 0 64, .inr (2, [.ref (n0 + 6), .null, .int 0]), zn0 0 105] S7 := h7
  rw [q7, Option.bind_some]
  obtain ⟨S8, q8, h8⟩ := hp_arr (a := n0 + 5) (i := 5) (k := 2) (fs := [.ref (n0 + 6), .null, .int 0]) (j := 1) (t := 1) (N := 64) (q := 7) h7 rfl rfl rfl (Nat.le_of_ble_eq_true rfl)
  have h8 : hp n0 [.inr (5, [.ref (n0 + 1), .ref (n0 + 2), .ref (n0 + 3), .null, .null, .null, .int 0, .int 0, .int 0]), zn0 3 16, zn0 4 16, .inr (1, [.ref (n0 + 4), .int 0, .int 0]), zn0 0 64, .inr (2, [.ref (n0 + 6), .ref (n0 + 7), .int 0]), zn0 0 105, zn0 1 64] S8 := h8
  rw [q8, Option.bind_some]
  rw [Option.bind_some]
  obtain ⟨S9, q9, h9⟩ := hp_set (a := n0) (i := 0) (k := 5) (fs := [.ref (n0 + 1), .ref (n0 + 2), .ref (n0 + 3), .null, .null, .null, .int 0, .int 0, .int 0]) (j := 3) (.ref (n0 + 5)) h8 rfl rfl (Nat.le_of_ble_eq_true rfl)
  have h9 : hp n0 [.inr (5, [.ref (n0 + 1), .ref (n0 + 2), .ref (n0 + 3), .ref (n0 + 5), .null, .null, .int 0, .int 0, .int 0]), zn0 3 16, zn0 4 16, .inr (1, [.ref (n0 + 4), .int 0, .int 0]), zn0 0 64, .inr (2, [.ref (n0 + 6), .ref (n0 + 7), .int 0]), zn0 0 105, zn0 1 64] S9 := h9
  rw [q9, Option.bind_some]
  have a9 : S9.2 = n0 + 8 := h9.1
  have h10 : hp n0 [.inr (5, [.ref (n0 + 1), .ref (n0 + 2), .ref (n0 + 3), .ref (n0 + 5), .null, .null, .int 0, .int 0, .int 0]), zn0 3 16, zn0 4 16, .inr (1, [.ref (n0 + 4), .int 0, .int 0]), zn0 0 64, .inr (2, [.ref (n0 + 6), .ref (n0 + 7), .int 0]), zn0 0 105, zn0 1 64, .inr (3, [.null, .int 0])] _ := hp_new 3 [.null, .int 0] h9
  obtain ⟨S10, hS10⟩ : ∃ U, U = zno S9 3 [.null, .int 0] := ⟨_, rfl⟩
  rw [← hS10] at h10 ⊢
  unfold fX3_init
  rw [a9]
  obtain ⟨S11, q11, h11⟩ := hp_arr (a := n0 + 8) (i := 8) (k := 3) (fs := [.null, .int 0]) (j := 0) (t := 1) (N := 120) (q := 9) h10 rfl rfl rfl (Nat.le_of_ble_eq_true rfl)
  have h11 : hp n0 [.inr (5, [.ref (n0 + 1), .ref (n0 + 2), .ref (n0 + 3), .ref (n0 + 5), .null, .null, .int 0, .int 0, .int 0]), zn0 3 16, zn0 4 16, .inr (1, [.ref (n0 + 4), .int 0, .int 0]), zn0 0 64, .inr (2, [.ref (n0 + 6), .ref (n0 + 7), .int 0]), zn0 0 105, zn0 1 64, .inr (3, [.ref (n0 + 9), .int 0]), zn0 1 120] S11 := h11
  rw [q11, Option.bind_some]
  rw [Option.bind_some]
  obtain ⟨S12, q12, h12⟩ := hp_set (a := n0) (i := 0) (k := 5) (fs := [.ref (n0 + 1), .ref (n0 + 2), .ref (n0 + 3), .ref (n0 + 5), .null, .null, .int 0, .int 0, .int 0]) (j := 4) (.ref (n0 + 8)) h11 rfl rfl (Nat.le_of_ble_eq_true rfl)
  have h12 : hp n0 [.inr (5, [.ref (n0 + 1), .ref (n0 + 2), .ref (n0 + 3), .ref (n0 + 5), .ref (n0 + 8), .null, .int 0, .int 0, .int 0]), zn0 3 16, zn0 4 16, .inr (1, [.ref (n0 + 4), .int 0, .int 0]), zn0 0 64, .inr (2, [.ref (n0 + 6), .ref (n0 + 7), .int 0]), zn0 0 105, zn0 1 64, .inr (3, [.ref (n0 + 9), .int 0]), zn0 1 120] S12 := h12
  rw [q12, Option.bind_some]
  obtain ⟨S13, q13, h13⟩ := hp_arr (a := n0) (i := 0) (k := 5) (fs := [.ref (n0 + 1), .ref (n0 + 2), .ref (n0 + 3), .ref (n0 + 5), .ref (n0 + 8), .null, .int 0, .int 0, .int 0]) (j := 5) (t := 0) (N := 64) (q := 10) h12 rfl rfl rfl (Nat.le_of_ble_eq_true rfl)
  have h13 : hp n0 [.inr (5, [.ref (n0 + 1), .ref (n0 + 2), .ref (n0 + 3), .ref (n0 + 5), .ref (n0 + 8), .ref (n0 + 10), .int 0, .int 0, .int 0]), zn0 3 16, zn0 4 16, .inr (1, [.ref (n0 + 4), .int 0, .int 0]), zn0 0 64, .inr (2, [.ref (n0 + 6), .ref (n0 + 7), .int 0]), zn0 0 105, zn0 1 64, .inr (3, [.ref (n0 + 9), .int 0]), zn0 1 120, zn0 0 64] S13 := h13
  rw [q13, Option.bind_some]
  obtain ⟨S14, q14, h14⟩ := hp_set (a := n0) (i := 0) (k := 5) (fs := [.ref (n0 + 1), .ref (n0 + 2), .ref (n0 + 3), .ref (n0 + 5), .ref (n0 + 8), .ref (n0 + 10), .int 0, .int 0, .int 0]) (j := 6) (.int (2 : Int32)) h13 rfl rfl (Nat.le_of_ble_eq_true rfl)
  have h14 : hp n0 [.inr (5, [.ref (n0 + 1), .ref (n0 + 2), .ref (n0 + 3), .ref (n0 + 5), .ref (n0 + 8), .ref (n0 + 10), .int (2 : Int32), .int 0, .int 0]), zn0 3 16, zn0 4 16, .inr (1, [.ref (n0 + 4), .int 0, .int 0]), zn0 0 64, .inr (2, [.ref (n0 + 6), .ref (n0 + 7), .int 0]), zn0 0 105, zn0 1 64, .inr (3, [.ref (n0 + 9), .int 0]), zn0 1 120, zn0 0 64] S14 := h14
  rw [q14, Option.bind_some]
  obtain ⟨S15, q15, h15⟩ := hp_set (a := n0) (i := 0) (k := 5) (fs := [.ref (n0 + 1), .ref (n0 + 2), .ref (n0 + 3), .ref (n0 + 5), .ref (n0 + 8), .ref (n0 + 10), .int (2 : Int32), .int 0, .int 0]) (j := 7) (.int (0 : Int32)) h14 rfl rfl (Nat.le_of_ble_eq_true rfl)
  have h15 : hp n0 [.inr (5, [.ref (n0 + 1), .ref (n0 + 2), .ref (n0 + 3), .ref (n0 + 5), .ref (n0 + 8), .ref (n0 + 10), .int (2 : Int32), .int (0 : Int32), .int 0]), zn0 3 16, zn0 4 16, .inr (1, [.ref (n0 + 4), .int 0, .int 0]), zn0 0 64, .inr (2, [.ref (n0 + 6), .ref (n0 + 7), .int 0]), zn0 0 105, zn0 1 64, .inr (3, [.ref (n0 + 9), .int 0]), zn0 1 120, zn0 0 64] S15 := h15
  rw [q15, Option.bind_some]
  obtain ⟨S16, q16, h16⟩ := hp_set (a := n0) (i := 0) (k := 5) (fs := [.ref (n0 + 1), .ref (n0 + 2), .ref (n0 + 3), .ref (n0 + 5), .ref (n0 + 8), .ref (n0 + 10), .int (2 : Int32), .int (0 : Int32), .int 0]) (j := 8) (.int (0 : Int32)) h15 rfl rfl (Nat.le_of_ble_eq_true rfl)
  have h16 : hp n0 [.inr (5, [.ref (n0 + 1), .ref (n0 + 2), .ref (n0 + 3), .ref (n0 + 5), .ref (n0 + 8), .ref (n0 + 10), .int (2 : Int32), .int (0 : Int32), .int (0 : Int32)]), zn0 3 16, zn0 4 16, .inr (1, [.ref (n0 + 4), .int 0, .int 0]), zn0 0 64, .inr (2, [.ref (n0 + 6), .ref (n0 + 7), .int 0]), zn0 0 105, zn0 1 64, .inr (3, [.ref (n0 + 9), .int 0]), zn0 1 120, zn0 0 64] S16 := h16
  rw [q16, Option.bind_some]
  exact ⟨_, rfl, h16⟩
def stM (n0 : Nat) : List ZE := [.inr (6, [.int 0, .int 2, .int 0, .ref (n0 + 12), .ref (n0 + 13), .ref (n0 + 14), .int 0, .ref (n0 + 15), .ref (n0 + 16), .ref (n0 + 17), .ref (n0 + 18), .ref (n0 + 19), .ref (n0 + 20), .ref (n0 + 21), .ref (n0 + 22), .int 0, .ref (n0 + 23), .int 0, .int 0]), zn0 0 48, zn0 0 1024, zn0 0 16, zn0 0 48, zn0 0 1024, zn0 0 16, zn0 0 16, zn0 0 7680, zn0 0 64, zn0 0 4096, zn0 0 4096, zn0 2 5120]
/-- where the tags lie at the start -/
def sof (t : Nat) : Nat := match t with
  | 0 => 1 | 1 => 2 | 2 => 3 | 3 => 5 | 4 => 8 | 5 => 10 | 6 => 4 | 7 => 6 | 8 => 7 | 9 => 9 | 10 => 0 | 11 => 11 | 12 => 24
  | 23 => 12 | 24 => 13 | 25 => 14 | 27 => 15 | 28 => 16 | 29 => 17 | 30 => 18 | 31 => 19 | 32 => 20 | 33 => 21 | 34 => 22 | 36 => 23 | _ => 99
theorem sof_inj : ∀ t, t < 37 → ∀ u, u < 37 → sof t ≠ 99 → sof u ≠ 99 → sof t = sof u → t = u := by decide +kernel
theorem sof_ok : ∀ t, t < 37 → (t ≤ 12 ∨ t = 36 ∨ (23 ≤ t ∧ t ≤ 25) ∨ (27 ≤ t ∧ t ≤ 34)) → sof t ≠ 99 := by decide +kernel
-- 91.mshare.lean.txt
/-! LAW CASE 20: shared pairs in the model -/
theorem sh_no {H : Nat → Nat → Bool} {E f g t e : Nat} (hf : f < g) (hg : g < E) (hb : (H f t && H g t) = false) : (decide (e < E + 1) && shH H E f g e t) = (decide (e < E) && H e t) := by
  unfold shH
  rw [hb]
  by_cases h1 : e = f
  · rw [if_pos h1, h1, decide_eq_true (show f < E + 1 by omega), decide_eq_true (show f < E by omega)]; cases H f t <;> rfl
  · rw [if_neg h1]
    by_cases h2 : e = g
    · rw [if_pos h2, h2, decide_eq_true (show g < E + 1 by omega), decide_eq_true (show g < E by omega)]; cases H g t <;> rfl
    · rw [if_neg h2]
      by_cases h3 : e = E
      · rw [if_pos h3, decide_eq_false (show ¬ e < E by omega), Bool.and_false]; rfl
      · rw [if_neg h3]
        by_cases h4 : e < E
        · rw [decide_eq_true h4, decide_eq_true (show e < E + 1 by omega)]
        · rw [decide_eq_false h4, decide_eq_false (show ¬ e < E + 1 by omega)]
theorem sh_yes {H : Nat → Nat → Bool} {E f g t e : Nat} (hf : f < g) (hg : g < E) (hb : (H f t && H g t) = true) : (decide (e < E + 1) && shH H E f g e t) = if e = E then true else if e = g then false else if e = f then false else (decide (e < E) && H e t) := by
  have hb' := hb
  rw [Bool.and_eq_true] at hb'
  unfold shH
  rw [hb]
  by_cases h1 : e = f
  · rw [if_pos h1, if_neg (show ¬ e = E by omega), if_neg (show ¬ e = g by omega), if_pos h1, hb'.1]; cases decide (e < E + 1) <;> rfl
  · rw [if_neg h1]
    by_cases h2 : e = g
    · rw [if_pos h2, if_neg (show ¬ e = E by omega), if_pos h2, hb'.2]; cases decide (e < E + 1) <;> rfl
    · rw [if_neg h2]
      by_cases h3 : e = E
      · rw [if_pos h3, if_pos h3, decide_eq_true (show e < E + 1 by omega)]; rfl
      · rw [if_neg h3, if_neg h3, if_neg h2, if_neg h1]
        by_cases h4 : e < E
        · rw [decide_eq_true h4, decide_eq_true (show e < E + 1 by omega)]
        · rw [decide_eq_false h4, decide_eq_false (show ¬ e < E + 1 by omega)]
def mMid (A' : Nat → Nat → Int32) (E ns f g T : Nat) (H : Nat → Nat → Bool) : Prop := ∀ u, u < ns → ∀ e, e < 128 → A' 16 (128 * u + e) = if u < T then bI (decide (e < E + 1) && shH H E f g e u) else bI (decide (e < E) && H e u)
-- 92.adds.lean.txt
theorem HS_2 {v : Nat → Nat → Nat → Nat} {e t : Nat} : HS v 2 e t = nzd v e 2 t := rfl
theorem HS_n {v : Nat → Nat → Nat → Nat} {s e t : Nat} (h : s ≠ 2) : HS v s e t = nzd v t s e := if_neg h
theorem bI_nzd {v : Nat → Nat → Nat → Nat} {q s j : Nat} : bI (nzd v q s j) = if v q s j = 0 then 0 else 1 := by
  by_cases h : v q s j = 0
  · rw [nzd_f h, if_pos h]; rfl
  · rw [nzd_t h, if_neg h]; rfl
theorem shl_s {ns n E : Nat} {H : Nat → Nat → Bool} (hb : 1 < (bst ns H E).1) : shl ns (n + 1) E H = ((shl ns n (E + 1) (shH H E (bst ns H E).2.1 (bst ns H E).2.2)).1 + 1, (shl ns n (E + 1) (shH H E (bst ns H E).2.1 (bst ns H E).2.2)).2) := if_pos hb
/-- the additions of a side -/
def adS (a b d k : Nat) (v : Nat → Nat → Nat → Nat) (sh : Bool) (s : Nat) : Nat := if sh = true then (shl (nS d k s) 80 (eS a b d k s) (HS v s)).1 + adO (nS d k s) (shl (nS d k s) 80 (eS a b d k s) (HS v s)).2.1 (shl (nS d k s) 80 (eS a b d k s) (HS v s)).2.2 else adO (nS d k s) (eS a b d k s) (HS v s)
theorem TT_S {a b d k s : Nat} {v : Nat → Nat → Nat → Nat} (hsz : szOK a b d) (hk : k ≤ 40) (hs : s < 3) : TT (nS d k s) (eS a b d k s) (HS v s) ≤ 2 * 80 := by
  have h := TT_le (ns := nS d k s) (E := eS a b d k s) (H := HS v s)
  have hb := sz3_b hsz (s := s)
  unfold szOK at hsz
  have : eS a b d k s * nS d k s ≤ 160 := by
    unfold eS nS
    split
    · have : k * d ≤ 40 * 4 := Nat.mul_le_mul hk hsz.2.2.2
      omega
    · have : sz3 a b d s * k ≤ 4 * 40 := Nat.mul_le_mul hb.2 hk
      omega
  omega
theorem eS_b {a b d k s : Nat} (hsz : szOK a b d) (hk : k ≤ 40) : eS a b d k s ≤ 40 := by
  have hb := sz3_b hsz (s := s)
  unfold eS; split <;> omega
theorem c_adSide {S : ZS} {ad : Nat → Nat} {p cc wc : Nat} {w c n t a b d sq k s T : Nat} {g : Nat → Nat} {v : Nat → Nat → Nat → Nat} {x : Int32} {F : Nat → Int64} {sh : Bool} (hd : zHd S ad p cc wc) (h : zWy S w c n t p a b d sq k g v) (hs : s < 3) (ho : zOb S (ad 4) 3 [.ref (ad 9), .int x]) (hF : zJA S (ad 9) 120 F) : ∃ S1 x1 F1, fX5_countAdditions_B5 (ad 10) w (bI sh) (ci T, ci s, S) = some (.inl (ci (T + adS a b d k v sh s), ci (s + 1), S1)) ∧ zOb S1 (ad 4) 3 [.ref (ad 9), .int x1] ∧ zJA S1 (ad 9) 120 F1 ∧ zWy S1 w c n t p a b d sq k g v ∧ zFrm S S1 (pSm (ad 4) (ad 9)) := by
  have hk := h.kk
  have hE := eS_b (s := s) h.2.1 hk
  obtain ⟨S1, f1, f2, f3, f4⟩ := c_tellSums h hs ho hF
  have hd1 : zOb S1 (ad 10) 5 _ := (f4.2 _ (fun hh => hh.elim (ne_oo hd.1 ho (by omega)) (ne_oj hd.1 hF))).trans hd.1
  unfold fX5_countAdditions_B5 fX5_countAdditions_J37
  simp only []
  rw [if_neg (by rw [cl_3, ci_le (by omega) (by omega)]; omega), zgR_ob hd.1 rfl, Option.bind_some, zcl_ob h.wa, f1, Option.bind_some]
  cases sh with
  | true =>
    obtain ⟨S2, g1, g2, g3⟩ := c_sharePairs 80 zF (eS a b d k s) 0 S1 (HS v s) (by omega) (by rw [zF_eq]; omega) f2 (by omega)
    have hd2 : zOb S2 (ad 10) 5 _ := (g3.2 _ (fun hh => hh.elim (ne_oo hd1 f2.1 (by omega)) (fun q => by obtain ⟨_, _, _, F', hF', _⟩ := f2; exact ne_oj hd1 hF' q))).trans hd1
    have g2' := g2
    obtain ⟨q1, _, _, F2, q2, _⟩ := g2'
    refine ⟨S2, _, F2, ?_, q1, q2, f3.sm f2 g3, f4.tr g3⟩
    rw [if_neg (show ¬ bI true = 0 by decide), zgR_ob hd1 rfl, Option.bind_some, zcl_ob f2.1]
    unfold fX3_sharePairs
    rw [cl_0, g1, Option.bind_some]
    show Option.bind (zgR S2 (ad 10) 5 4) _ = _
    rw [zgR_ob hd2 rfl, Option.bind_some, zcl_ob q1, c_countAdd g2, Option.bind_some, ci_add, ci_add, cl_1, ci_add, Nat.zero_add, Nat.add_assoc]
    rfl
  | false =>
    have f2' := f2
    obtain ⟨q1, _, _, F2, q2, _⟩ := f2'
    refine ⟨S1, _, F2, ?_, q1, q2, f3, f4⟩
    rw [if_pos bI_f, zgR_ob hd1 rfl, Option.bind_some, zcl_ob q1, c_countAdd f2, Option.bind_some, cl_0, ci_add, ci_add, cl_1, ci_add, Nat.add_zero]
    rfl
theorem c_additions {S : ZS} {ad : Nat → Nat} {p cc wc : Nat} {w c n t a b d sq k : Nat} {g : Nat → Nat} {v : Nat → Nat → Nat → Nat} {x : Int32} {F : Nat → Int64} {sh : Bool} (hd : zHd S ad p cc wc) (h : zWy S w c n t p a b d sq k g v) (ho : zOb S (ad 4) 3 [.ref (ad 9), .int x]) (hF : zJA S (ad 9) 120 F) : ∃ S1 x1 F1, fX5_countAdditions (ad 10) w (bI sh) S = some (ci (sm 3 (adS a b d k v sh)), S1) ∧ zOb S1 (ad 4) 3 [.ref (ad 9), .int x1] ∧ zJA S1 (ad 9) 120 F1 ∧ zWy S1 w c n t p a b d sq k g v ∧ zFrm S S1 (pSm (ad 4) (ad 9)) := by
  have kp : ∀ {S1 : ZS} {x : Int32} {F : Nat → Int64}, zHd S ad p cc wc → zOb S (ad 4) 3 [.ref (ad 9), .int x] → zJA S (ad 9) 120 F → zFrm S S1 (pSm (ad 4) (ad 9)) → zHd S1 ad p cc wc := fun hd ho hF hf => ⟨(hf.2 _ (fun hh => hh.elim (ne_oo hd.1 ho (by omega)) (ne_oj hd.1 hF))).trans hd.1, (hf.2 _ (fun hh => hh.elim (fun q => by
    have := (show S.1 (ad 0) = _ from hd.2.1)
    rw [q, show S.1 (ad 4) = _ from ho] at this
    simp at this) (fun q => by
    have := (show S.1 (ad 0) = _ from hd.2.1)
    rw [q, show S.1 (ad 9) = _ from hF] at this
    simp at this))).trans hd.2.1, (hf.2 _ (fun hh => hh.elim (fun q => by
    have := (show S.1 (ad 1) = _ from hd.2.2)
    rw [q, show S.1 (ad 4) = _ from ho] at this
    simp at this) (fun q => by
    have := (show S.1 (ad 1) = _ from hd.2.2)
    rw [q, show S.1 (ad 9) = _ from hF] at this
    simp at this))).trans hd.2.2⟩
  obtain ⟨S1, x1, F1, a1, a2, a3, a4, a5⟩ := c_adSide (s := 0) (T := 0) (sh := sh) hd h (by omega) ho hF
  have hd1 := kp hd ho hF a5
  obtain ⟨S2, x2, F2, b1, b2, b3, b4, b5⟩ := c_adSide (s := 1) (T := 0 + adS a b d k v sh 0) (sh := sh) hd1 a4 (by omega) a2 a3
  have hd2 := kp hd ho hF (a5.tr b5)
  obtain ⟨S3, x3, F3, c1, c2, c3, c4, c5⟩ := c_adSide (s := 2) (T := 0 + adS a b d k v sh 0 + adS a b d k v sh 1) (sh := sh) hd2 b4 (by omega) b2 b3
  refine ⟨S3, x3, F3, ?_, c2, c3, c4, (a5.tr b5).tr c5⟩
  unfold fX5_countAdditions
  show ziter _ (9996 + 1 + 1 + 1 + 1) (ci 0, ci 0, S) = _
  rw [ziter_1 a1, ziter_1 b1, ziter_1 c1, ziter_0]
  unfold fX5_countAdditions_B5
  simp only []
  rw [if_pos (by rw [cl_3, ci_le (by omega) (by omega)]; omega), zex_some]
  rfl
-- 93.of20.lean.txt
/-! LAW CASE 20: ofWay, whole -/
/-- the lent rooms alone have changed -/
theorem zCl.tl {S S1 : ZS} {ad : Nat → Nat} {p cc wc : Nat} {CA CG WA WG : Nat → Nat → Nat} {WV : Nat → Nat → Nat → Nat → Nat} (hcc : cc ≤ 16) (hin : zInj ad cc wc) (hcl : zCl S ad p cc wc CA CG WA WG WV) (hf : zFrm S S1 (fun b => ∃ t, (2 ≤ t ∧ t ≤ 9) ∧ b = ad t)) (ht : zTl S1 ad) : zCl S1 ad p cc wc CA CG WA WG WV ∧ zFrm S S1 (fun b => ∃ t, (2 ≤ t ∧ t ≤ 9) ∧ b = ad t) := by
  have kp : ∀ t, live cc wc t → ¬ (2 ≤ t ∧ t ≤ 9) → S1.1 (ad t) = S.1 (ad t) := fun t hl hn => hf.2 _ (fun ⟨u, hu, hh⟩ => hn (by
    have := hin t u hl (Or.inl (Or.inl (by omega))) hh
    omega))
  obtain ⟨⟨a1, a2, a3⟩, b1, c1, d1⟩ := hcl
  refine ⟨⟨⟨(kp 10 (Or.inl (Or.inl (by omega))) (by omega)).trans a1, (kp 0 (Or.inl (Or.inl (by omega))) (by omega)).trans a2, (kp 1 (Or.inl (Or.inl (by omega))) (by omega)).trans a3⟩, ht, fun j hj => (c1 j hj).kp (kp _ (Or.inl (Or.inr (Or.inl (by omega)))) (by omega)) (kp _ (Or.inl (Or.inr (Or.inl (by omega)))) (by omega)), fun j hj => (d1 j hj).kp (fun l hl => kp _ (Or.inl (Or.inr (Or.inr (by omega)))) (by omega))⟩, hf⟩
theorem ad_ne {ad : Nat → Nat} {cc wc t u : Nat} (hin : zInj ad cc wc) (ht : t ≤ 10) (hu : u ≤ 10) (h : t ≠ u) : ad t ≠ ad u := fun hh => h (hin t u (Or.inl (Or.inl ht)) (Or.inl (Or.inl hu)) hh)
theorem tl_sm {S S1 : ZS} {ad : Nat → Nat} {cc wc : Nat} {x : Int32} {F : Nat → Int64} (hin : zInj ad cc wc) (h : zTl S ad) (hf : zFrm S S1 (pSm (ad 4) (ad 9))) (h1 : zOb S1 (ad 4) 3 [.ref (ad 9), .int x]) (h2 : zJA S1 (ad 9) 120 F) : zTl S1 ad := by
  have kp : ∀ t, t ≤ 9 → t ≠ 4 → t ≠ 9 → S1.1 (ad t) = S.1 (ad t) := fun t ht n4 n9 => hf.2 _ (fun hh => hh.elim (ad_ne hin (by omega) (by omega) n4) (ad_ne hin (by omega) (by omega) n9))
  obtain ⟨⟨r, q, a1⟩, ⟨f2, a2⟩, ⟨c, a3⟩, ⟨f4, a4⟩, ⟨f5, a5⟩, ⟨c6, a6⟩, ⟨f7, a7⟩, f8, a8⟩ := h
  exact ⟨⟨r, q, (kp 2 (by omega) (by omega) (by omega)).trans a1⟩, ⟨f2, (kp 6 (by omega) (by omega) (by omega)).trans a2⟩, ⟨c, (kp 3 (by omega) (by omega) (by omega)).trans a3⟩, ⟨f4, (kp 7 (by omega) (by omega) (by omega)).trans a4⟩, ⟨f5, (kp 8 (by omega) (by omega) (by omega)).trans a5⟩, ⟨x, h1⟩, ⟨F, h2⟩, f8, (kp 5 (by omega) (by omega) (by omega)).trans a8⟩
theorem tl_en {S S1 : ZS} {ad : Nat → Nat} {cc wc : Nat} {F : Nat → Int32} (hin : zInj ad cc wc) (h : zTl S ad) (hf : zFrm S S1 (fun b => b = ad 5)) (h1 : zIA S1 (ad 5) 64 F) : zTl S1 ad := by
  have kp : ∀ t, t ≤ 9 → t ≠ 5 → S1.1 (ad t) = S.1 (ad t) := fun t ht n5 => hf.2 _ (ad_ne hin (by omega) (by omega) n5)
  obtain ⟨⟨r, q, a1⟩, ⟨f2, a2⟩, ⟨c, a3⟩, ⟨f4, a4⟩, ⟨f5, a5⟩, ⟨c6, a6⟩, ⟨f7, a7⟩, f8, a8⟩ := h
  exact ⟨⟨r, q, (kp 2 (by omega) (by omega)).trans a1⟩, ⟨f2, (kp 6 (by omega) (by omega)).trans a2⟩, ⟨c, (kp 3 (by omega) (by omega)).trans a3⟩, ⟨f4, (kp 7 (by omega) (by omega)).trans a4⟩, ⟨f5, (kp 8 (by omega) (by omega)).trans a5⟩, ⟨c6, (kp 4 (by omega) (by omega)).trans a6⟩, ⟨f7, (kp 9 (by omega) (by omega)).trans a7⟩, F, h1⟩
/-- what ofWay answers -/
def ofV (p a b d k : Nat) (g : Nat → Nat) (v : Nat → Nat → Nat → Nat) (q : Nat) : Nat := if q = 0 then k else if q = 1 then wrF p (enF a b d v k) g 64 else if q = 2 then sm 3 (adS a b d k v false) else if q = 3 then sm 3 (adS a b d k v true) else mxF v a b k d
theorem c_ofWay {S : ZS} {ad : Nat → Nat} {p cc wc w q : Nat} {CA CG WA WG : Nat → Nat → Nat} {WV : Nat → Nat → Nat → Nat → Nat} (hcc : cc ≤ 16) (hwc : wc ≤ 16) (hin : zInj ad cc wc) (hcl : zCl S ad p cc wc CA CG WA WG WV) (hw : w < wc) (hq : q < 5) : ∃ S1, fX5_ofWay (ad 10) (ci w) (ci q) S = some (.inl (ci (ofV p (WA w 0) (WA w 1) (WA w 2) (WA w 4) (WG w) (WV w) q), S1)) ∧ zCl S1 ad p cc wc CA CG WA WG WV ∧ zFrm S S1 (fun b => ∃ t, (2 ≤ t ∧ t ≤ 9) ∧ b = ad t) := by
  have hhd := hcl.1
  have htl := hcl.2.1
  have hwb := hcl.2.2.2 w hw
  have hwy := hwb.1
  have cN : zcl S (ad 10) 5 (fX5_needWay (ad 10) (ci w) S) = some (.inl (ad (200 + 4 * w), S)) := by rw [zcl_ob hhd.1]; exact c_needWay hhd hwc hw
  have hd : ∀ o, (zsw (ci q) 0 [Option.bind (zgI S (ad (200 + 4 * w)) 4 3) fun v2 => some (.inl (v2, S)), Option.bind (zgR S (ad 10) 5 5) fun v3 => Option.bind (zcl S (ad (200 + 4 * w)) 4 (fX4_countWrongPlaces (ad (200 + 4 * w)) v3 S)) fun x4 => some (.inl (x4.1, x4.2)), Option.bind (zcl S (ad 10) 5 (fX5_countAdditions (ad 10) (ad (200 + 4 * w)) (0 : Int32) S)) fun x5 => some (.inl (x5.1, x5.2)), Option.bind (zcl S (ad 10) 5 (fX5_countAdditions (ad 10) (ad (200 + 4 * w)) (1 : Int32) S)) fun x6 => some (.inl (x6.1, x6.2))] (Option.bind (zcl S (ad (200 + 4 * w)) 4 (fX4_greatestGrowth (ad (200 + 4 * w)) S)) fun x7 => some (.inl (x7, S))) : Option ((Int32 × ZS) ⊕ ZX)) = o → fX5_ofWay (ad 10) (ci w) (ci q) S = o := fun o ho => by
    rw [← ho]
    unfold fX5_ofWay
    rw [cN, zbT_l, if_neg (ci_nneg (by omega)), if_pos (by rw [cl_4, ci_le (by omega) (by omega)]; omega)]
  have kk0 : zCl S ad p cc wc CA CG WA WG WV ∧ zFrm S S (fun b => ∃ t, (2 ≤ t ∧ t ≤ 9) ∧ b = ad t) := ⟨hcl, zFrm.rf⟩
  have hsumOb : ∃ c, zOb S (ad 4) 3 [.ref (ad 9), .int c] := htl.2.2.2.2.2.1
  have hsumJ : ∃ f, zJA S (ad 9) 120 f := htl.2.2.2.2.2.2.1
  have hen : ∃ f, zIA S (ad 5) 64 f := htl.2.2.2.2.2.2.2
  obtain ⟨c6, ho6⟩ := hsumOb
  obtain ⟨f7, hJ7⟩ := hsumJ
  obtain ⟨f8, hI8⟩ := hen
  have hsh : ∀ sh : Bool, ∃ S1, fX5_countAdditions (ad 10) (ad (200 + 4 * w)) (bI sh) S = some (ci (sm 3 (adS (WA w 0) (WA w 1) (WA w 2) (WA w 4) (WV w) sh)), S1) ∧ zCl S1 ad p cc wc CA CG WA WG WV ∧ zFrm S S1 (fun b => ∃ t, (2 ≤ t ∧ t ≤ 9) ∧ b = ad t) := fun sh => by
    obtain ⟨S1, x1, F1, a1, a2, a3, a4, a5⟩ := c_additions (sh := sh) hhd hwy ho6 hJ7
    exact ⟨S1, a1, zCl.tl hcc hin hcl (a5.wk (fun b hb => hb.elim (fun e => ⟨4, by omega, e⟩) (fun e => ⟨9, by omega, e⟩))) (tl_sm hin htl a5 a2 a3)⟩
  have h5 : q = 0 ∨ q = 1 ∨ q = 2 ∨ q = 3 ∨ q = 4 := by omega
  rcases h5 with rfl | rfl | rfl | rfl | rfl
  · refine ⟨S, hd _ ?_, kk0⟩
    show Option.bind (zgI S (ad (200 + 4 * w)) 4 3) _ = _
    rw [zgI_ob hwy.wa rfl, Option.bind_some]
    rfl
  · have l0 : live cc wc 5 := Or.inl (Or.inl (by omega))
    have l1 : live cc wc (202 + 4 * w) := Or.inl (Or.inr (Or.inr (by omega)))
    obtain ⟨S1, a1, a2, a3, F', a4⟩ := c_wrong hwy hI8 (fun hh => by have := hin _ _ l0 l1 hh; omega) hwb.2.1
    refine ⟨S1, hd _ ?_, zCl.tl hcc hin hcl (a3.wk (fun b hb => ⟨5, by omega, hb⟩)) (tl_en hin htl a3 a4)⟩
    show Option.bind (zgR S (ad 10) 5 5) _ = _
    rw [zgR_ob hhd.1 rfl, Option.bind_some, zcl_ob hwy.wa, a1, Option.bind_some]
    rfl
  · obtain ⟨S1, a1, a2⟩ := hsh false
    refine ⟨S1, hd _ ?_, a2⟩
    show Option.bind (zcl S (ad 10) 5 (fX5_countAdditions (ad 10) (ad (200 + 4 * w)) (bI false) S)) _ = _
    rw [zcl_ob hhd.1, a1, Option.bind_some]
    rfl
  · obtain ⟨S1, a1, a2⟩ := hsh true
    refine ⟨S1, hd _ ?_, a2⟩
    show Option.bind (zcl S (ad 10) 5 (fX5_countAdditions (ad 10) (ad (200 + 4 * w)) (bI true) S)) _ = _
    rw [zcl_ob hhd.1, a1, Option.bind_some]
    rfl
  · refine ⟨S, hd _ ?_, kk0⟩
    show Option.bind (zcl S (ad (200 + 4 * w)) 4 (fX4_greatestGrowth (ad (200 + 4 * w)) S)) _ = _
    rw [zcl_ob hwy.wa, c_growth hwy, Option.bind_some]
    rfl
-- 94.lev24.lean.txt
/-! LAW CASE 24: levels -/
def lvM (k : Nat) : Nat → Int64
  | 0 => 1
  | i + 1 => lvM k i * Int32.toInt64 (ci k)
def lvN (sq : Nat) : Nat → Int64
  | 0 => 1
  | i + 1 => lvN sq i * (Int32.toInt64 (ci sq) * Int32.toInt64 (ci sq))
def lvA (k sq : Nat) (own : Int64) : Nat → Int64
  | 0 => 0
  | i + 1 => lvA k sq own i * Int32.toInt64 (ci k) + own * lvN sq i
theorem c_lvM {S : ZS} {w c n t p a b d sq k L : Nat} {g : Nat → Nat} {v : Nat → Nat → Nat → Nat} (h : zWy S w c n t p a b d sq k g v) (hL : L ≤ 6) : fX5_multiplicationsInLevels w (ci L) S = some (lvM k L) := by
  unfold fX5_multiplicationsInLevels
  refine ziter_seq (fun i => (lvM k i, ci (1 + i))) _ L zF (by rw [zF_eq]; omega) (fun i hi => ?_) ?_
  · unfold fX5_multiplicationsInLevels_B5
    simp only []
    rw [if_neg (by rw [ci_lt (by omega) (by omega)]; omega), zgI_ob h.wa rfl, Option.bind_some, show ci (1 + i) + (1 : Int32) = ci (1 + (i + 1)) by rw [cl_1, ci_add]; rfl]
    rfl
  · unfold fX5_multiplicationsInLevels_B5
    simp only []
    rw [if_pos (by rw [ci_lt (by omega) (by omega)]; omega), zex_some]
theorem c_lvA {S : ZS} {w c n t p a b d sq k L : Nat} {own : Int64} {g : Nat → Nat} {v : Nat → Nat → Nat → Nat} (h : zWy S w c n t p a b d sq k g v) (hL : L ≤ 6) : fX5_additionsInLevels w (ci L) own S = some (lvA k sq own L) := by
  unfold fX5_additionsInLevels
  rw [zgR_ob h.wa rfl, Option.bind_some, zgI_ob h.2.2.2.2.1.1 rfl, Option.bind_some, Option.bind_some, zgI_ob h.2.2.2.2.1.1 rfl, Option.bind_some]
  refine ziter_seq (fun i => (lvN sq i, lvA k sq own i, ci (1 + i))) _ L zF (by rw [zF_eq]; omega) (fun i hi => ?_) ?_
  · unfold fX5_additionsInLevels_B28
    simp only []
    rw [if_neg (by rw [ci_lt (by omega) (by omega)]; omega), zgI_ob h.wa rfl, Option.bind_some, show ci (1 + i) + (1 : Int32) = ci (1 + (i + 1)) by rw [cl_1, ci_add]; rfl]
    rfl
  · unfold fX5_additionsInLevels_B28
    simp only []
    rw [if_pos (by rw [ci_lt (by omega) (by omega)]; omega), zex_some]
