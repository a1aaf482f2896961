/-! THE START: both objects made, and the answers' row -/
/-- from n0 on the heap holds L and nothing is ahead -/
def hp (n0 : Nat) (L : List ZE) (S : ZS) : Prop := S.2 = n0 + L.length ∧ ∀ i e, L[i]? = some e → S.1 (n0 + i) = some e
theorem hp_new {n0 : Nat} {L : List ZE} {S : ZS} (k : Nat) (fs : List Value) (h : hp n0 L S) : hp n0 (L ++ [.inr (k, fs)]) (zno S k fs) := by
  refine ⟨by show S.2 + 1 = _; rw [h.1, List.length_append]; rfl, fun i e hi => ?_⟩
  show va_up S.1 S.2 (some (.inr (k, fs))) (n0 + i) = some e
  by_cases hx : i = L.length
  · subst hx
    rw [List.getElem?_append_right (Nat.le_refl _), Nat.sub_self] at hi
    rw [h.1, va_up_self]
    exact hi
  · rw [va_up_ne _ _ (by rw [h.1]; omega)]
    by_cases hl : i < L.length
    · rw [List.getElem?_append_left hl] at hi
      exact h.2 i e hi
    · rw [List.getElem?_eq_none (by rw [List.length_append]; simp; omega)] at hi
      cases hi
theorem hp_na {n0 : Nat} {L : List ZE} {S : ZS} (t N : Nat) (h : hp n0 L S) : hp n0 (L ++ [zn0 t N]) (zna S t N) := by
  refine ⟨by show S.2 + 1 = _; rw [h.1, List.length_append]; rfl, fun i e hi => ?_⟩
  show va_up S.1 S.2 (some (zn0 t N)) (n0 + i) = some e
  by_cases hx : i = L.length
  · subst hx
    rw [List.getElem?_append_right (Nat.le_refl _), Nat.sub_self] at hi
    rw [h.1, va_up_self]
    exact hi
  · rw [va_up_ne _ _ (by rw [h.1]; omega)]
    by_cases hl : i < L.length
    · rw [List.getElem?_append_left hl] at hi
      exact h.2 i e hi
    · rw [List.getElem?_eq_none (by rw [List.length_append]; simp; omega)] at hi
      cases hi
theorem hp_set {n0 : Nat} {L : List ZE} {S : ZS} {a i k j : Nat} {fs : List Value} (v : Value) (h : hp n0 L S) (ha : a = n0 + i) (hi : L[i]? = some (.inr (k, fs))) (hj : j < fs.length) : ∃ S', zpF S a k j v = some S' ∧ hp n0 (L.set i (.inr (k, fs.set j v))) S' := by
  subst ha
  have ho : zOb S (n0 + i) k fs := h.2 i _ hi
  refine ⟨_, zpF_ob v ho hj, by rw [List.length_set]; exact h.1, fun x e hx => ?_⟩
  by_cases hxi : x = i
  · subst hxi
    have hl : x < L.length := by
      apply Classical.byContradiction
      intro hh
      rw [List.getElem?_eq_none (by omega)] at hi
      cases hi
    rw [List.getElem?_set_self hl] at hx
    show va_up S.1 (n0 + x) _ (n0 + x) = some e
    rw [va_up_self]
    exact hx
  · rw [List.getElem?_set_ne (fun hh => hxi hh.symm)] at hx
    show va_up S.1 (n0 + i) _ (n0 + x) = some e
    rw [va_up_ne _ _ (by omega)]
    exact h.2 x e hx
theorem hp_arr {n0 : Nat} {L : List ZE} {S : ZS} {a i k j t N q : Nat} {fs : List Value} (h : hp n0 L S) (hq : L.length = q) (ha : a = n0 + i) (hi : (L ++ [zn0 t N])[i]? = some (.inr (k, fs))) (hj : j < fs.length) : ∃ S', zpF (zna S t N) a k j (.ref S.2) = some S' ∧ hp n0 ((L ++ [zn0 t N]).set i (.inr (k, fs.set j (.ref (n0 + q))))) S' := by
  rw [h.1, hq]
  exact hp_set _ (hp_na t N h) ha hi hj
def stX (n0 : Nat) : List ZE := [.inr (5, [.ref (n0 + 1), .ref (n0 + 2), .ref (n0 + 3), .ref (n0 + 5), .ref (n0 + 8), .ref (n0 + 10), .int (2 : Int32), .int (0 : Int32), .int (0 : Int32)]), zn0 3 16, zn0 4 16, .inr (1, [.ref (n0 + 4), .int 0, .int 0]), zn0 0 64, .inr (2, [.ref (n0 + 6), .ref (n0 + 7), .int 0]), zn0 0 105, zn0 1 64, .inr (3, [.ref (n0 + 9), .int 0]), zn0 1 120, zn0 0 64]
theorem init5 (n0 : Nat) : ∃ S1, fX5_init n0 (zno ((fun _ => none), n0) 5 [.null, .null, .null, .null, .null, .null, .int 0, .int 0, .int 0]) = some S1 ∧ hp n0 (stX n0) S1 := by
  have e0 : hp n0 [] (((fun _ => none), n0) : ZS) := ⟨rfl, fun i e hi => by cases hi⟩
  have h0 : hp n0 [.inr (5, [.null, .null, .null, .null, .null, .null, .int 0, .int 0, .int 0])] _ := hp_new 5 [.null, .null, .null, .null, .null, .null, .int 0, .int 0, .int 0] e0
  obtain ⟨S0, hS0⟩ : ∃ S0, S0 = zno ((fun _ => none), n0) 5 [.null, .null, .null, .null, .null, .null, .int 0, .int 0, .int 0] := ⟨_, rfl⟩
  rw [← hS0] at h0 ⊢
  unfold fX5_init
  obtain ⟨S1, q1, h1⟩ := hp_arr (a := n0) (i := 0) (k := 5) (fs := [.null, .null, .null, .null, .null, .null, .int 0, .int 0, .int 0]) (j := 0) (t := 3) (N := 16) (q := 1) h0 rfl rfl rfl (Nat.le_of_ble_eq_true rfl)
  have h1 : hp n0 [.inr (5, [.ref (n0 + 1), .null, .null, .null, .null, .null, .int 0, .int 0, .int 0]), zn0 3 16] S1 := h1
  rw [q1, Option.bind_some]
  obtain ⟨S2, q2, h2⟩ := hp_arr (a := n0) (i := 0) (k := 5) (fs := [.ref (n0 + 1), .null, .null, .null, .null, .null, .int 0, .int 0, .int 0]) (j := 1) (t := 4) (N := 16) (q := 2) h1 rfl rfl rfl (Nat.le_of_ble_eq_true rfl)
  have h2 : hp n0 [.inr (5, [.ref (n0 + 1), .ref (n0 + 2), .null, .null, .null, .null, .int 0, .int 0, .int 0]), zn0 3 16, zn0 4 16] S2 := h2
  rw [q2, Option.bind_some]
  have a2 : S2.2 = n0 + 3 := h2.1
  have h3 : hp n0 [.inr (5, [.ref (n0 + 1), .ref (n0 + 2), .null, .null, .null, .null, .int 0, .int 0, .int 0]), zn0 3 16, zn0 4 16, .inr (1, [.null, .int 0, .int 0])] _ := hp_new 1 [.null, .int 0, .int 0] h2
  obtain ⟨S3, hS3⟩ : ∃ U, U = zno S2 1 [.null, .int 0, .int 0] := ⟨_, rfl⟩
  rw [← hS3] at h3 ⊢
  unfold fX1_init
  rw [a2]
  obtain ⟨S4, q4, h4⟩ := hp_arr (a := n0 + 3) (i := 3) (k := 1) (fs := [.null, .int 0, .int 0]) (j := 0) (t := 0) (N := 64) (q := 4) h3 rfl rfl rfl (Nat.le_of_ble_eq_true rfl)
  have h4 : hp n0 [.inr (5, [.ref (n0 + 1), .ref (n0 + 2), .null, .null, .null, .null, .int 0, .int 0, .int 0]), zn0 3 16, zn0 4 16, .inr (1, [.ref (n0 + 4), .int 0, .int 0]), zn0 0 64] S4 := h4
  rw [q4, Option.bind_some]
  rw [Option.bind_some]
  obtain ⟨S5, q5, h5⟩ := hp_set (a := n0) (i := 0) (k := 5) (fs := [.ref (n0 + 1), .ref (n0 + 2), .null, .null, .null, .null, .int 0, .int 0, .int 0]) (j := 2) (.ref (n0 + 3)) h4 rfl rfl (Nat.le_of_ble_eq_true rfl)
  have h5 : hp n0 [.inr (5, [.ref (n0 + 1), .ref (n0 + 2), .ref (n0 + 3), .null, .null, .null, .int 0, .int 0, .int 0]), zn0 3 16, zn0 4 16, .inr (1, [.ref (n0 + 4), .int 0, .int 0]), zn0 0 64] S5 := h5
  rw [q5, Option.bind_some]
  have a5 : S5.2 = n0 + 5 := h5.1
  have h6 : hp n0 [.inr (5, [.ref (n0 + 1), .ref (n0 + 2), .ref (n0 + 3), .null, .null, .null, .int 0, .int 0, .int 0]), zn0 3 16, zn0 4 16, .inr (1, [.ref (n0 + 4), .int 0, .int 0]), zn0 0 64, .inr (2, [.null, .null, .int 0])] _ := hp_new 2 [.null, .null, .int 0] h5
  obtain ⟨S6, hS6⟩ : ∃ U, U = zno S5 2 [.null, .null, .int 0] := ⟨_, rfl⟩
  rw [← hS6] at h6 ⊢
  unfold fX2_init
  rw [a5]
  obtain ⟨S7, q7, h7⟩ := hp_arr (a := n0 + 5) (i := 5) (k := 2) (fs := [.null, .null, .int 0]) (j := 0) (t := 0) (N := 105) (q := 6) h6 rfl rfl rfl (Nat.le_of_ble_eq_true rfl)
  have h7 : hp n0 [.inr (5, [.ref (n0 + 1), .ref (n0 + 2), .ref (n0 + 3), .null, .null, .null, .int 0, .int 0, .int 0]), zn0 3 16, zn0 4 16, .inr (1, [.ref (n0 + 4), .int 0, .int 0]), zn0 0 64, .inr (2, [.ref (n0 + 6), .null, .int 0]), zn0 0 105] S7 := h7
  rw [q7, Option.bind_some]
  obtain ⟨S8, q8, h8⟩ := hp_arr (a := n0 + 5) (i := 5) (k := 2) (fs := [.ref (n0 + 6), .null, .int 0]) (j := 1) (t := 1) (N := 64) (q := 7) h7 rfl rfl rfl (Nat.le_of_ble_eq_true rfl)
  have h8 : hp n0 [.inr (5, [.ref (n0 + 1), .ref (n0 + 2), .ref (n0 + 3), .null, .null, .null, .int 0, .int 0, .int 0]), zn0 3 16, zn0 4 16, .inr (1, [.ref (n0 + 4), .int 0, .int 0]), zn0 0 64, .inr (2, [.ref (n0 + 6), .ref (n0 + 7), .int 0]), zn0 0 105, zn0 1 64] S8 := h8
  rw [q8, Option.bind_some]
  rw [Option.bind_some]
  obtain ⟨S9, q9, h9⟩ := hp_set (a := n0) (i := 0) (k := 5) (fs := [.ref (n0 + 1), .ref (n0 + 2), .ref (n0 + 3), .null, .null, .null, .int 0, .int 0, .int 0]) (j := 3) (.ref (n0 + 5)) h8 rfl rfl (Nat.le_of_ble_eq_true rfl)
  have h9 : hp n0 [.inr (5, [.ref (n0 + 1), .ref (n0 + 2), .ref (n0 + 3), .ref (n0 + 5), .null, .null, .int 0, .int 0, .int 0]), zn0 3 16, zn0 4 16, .inr (1, [.ref (n0 + 4), .int 0, .int 0]), zn0 0 64, .inr (2, [.ref (n0 + 6), .ref (n0 + 7), .int 0]), zn0 0 105, zn0 1 64] S9 := h9
  rw [q9, Option.bind_some]
  have a9 : S9.2 = n0 + 8 := h9.1
  have h10 : hp n0 [.inr (5, [.ref (n0 + 1), .ref (n0 + 2), .ref (n0 + 3), .ref (n0 + 5), .null, .null, .int 0, .int 0, .int 0]), zn0 3 16, zn0 4 16, .inr (1, [.ref (n0 + 4), .int 0, .int 0]), zn0 0 64, .inr (2, [.ref (n0 + 6), .ref (n0 + 7), .int 0]), zn0 0 105, zn0 1 64, .inr (3, [.null, .int 0])] _ := hp_new 3 [.null, .int 0] h9
  obtain ⟨S10, hS10⟩ : ∃ U, U = zno S9 3 [.null, .int 0] := ⟨_, rfl⟩
  rw [← hS10] at h10 ⊢
  unfold fX3_init
  rw [a9]
  obtain ⟨S11, q11, h11⟩ := hp_arr (a := n0 + 8) (i := 8) (k := 3) (fs := [.null, .int 0]) (j := 0) (t := 1) (N := 120) (q := 9) h10 rfl rfl rfl (Nat.le_of_ble_eq_true rfl)
  have h11 : hp n0 [.inr (5, [.ref (n0 + 1), .ref (n0 + 2), .ref (n0 + 3), .ref (n0 + 5), .null, .null, .int 0, .int 0, .int 0]), zn0 3 16, zn0 4 16, .inr (1, [.ref (n0 + 4), .int 0, .int 0]), zn0 0 64, .inr (2, [.ref (n0 + 6), .ref (n0 + 7), .int 0]), zn0 0 105, zn0 1 64, .inr (3, [.ref (n0 + 9), .int 0]), zn0 1 120] S11 := h11
  rw [q11, Option.bind_some]
  rw [Option.bind_some]
  obtain ⟨S12, q12, h12⟩ := hp_set (a := n0) (i := 0) (k := 5) (fs := [.ref (n0 + 1), .ref (n0 + 2), .ref (n0 + 3), .ref (n0 + 5), .null, .null, .int 0, .int 0, .int 0]) (j := 4) (.ref (n0 + 8)) h11 rfl rfl (Nat.le_of_ble_eq_true rfl)
  have h12 : hp n0 [.inr (5, [.ref (n0 + 1), .ref (n0 + 2), .ref (n0 + 3), .ref (n0 + 5), .ref (n0 + 8), .null, .int 0, .int 0, .int 0]), zn0 3 16, zn0 4 16, .inr (1, [.ref (n0 + 4), .int 0, .int 0]), zn0 0 64, .inr (2, [.ref (n0 + 6), .ref (n0 + 7), .int 0]), zn0 0 105, zn0 1 64, .inr (3, [.ref (n0 + 9), .int 0]), zn0 1 120] S12 := h12
  rw [q12, Option.bind_some]
  obtain ⟨S13, q13, h13⟩ := hp_arr (a := n0) (i := 0) (k := 5) (fs := [.ref (n0 + 1), .ref (n0 + 2), .ref (n0 + 3), .ref (n0 + 5), .ref (n0 + 8), .null, .int 0, .int 0, .int 0]) (j := 5) (t := 0) (N := 64) (q := 10) h12 rfl rfl rfl (Nat.le_of_ble_eq_true rfl)
  have h13 : hp n0 [.inr (5, [.ref (n0 + 1), .ref (n0 + 2), .ref (n0 + 3), .ref (n0 + 5), .ref (n0 + 8), .ref (n0 + 10), .int 0, .int 0, .int 0]), zn0 3 16, zn0 4 16, .inr (1, [.ref (n0 + 4), .int 0, .int 0]), zn0 0 64, .inr (2, [.ref (n0 + 6), .ref (n0 + 7), .int 0]), zn0 0 105, zn0 1 64, .inr (3, [.ref (n0 + 9), .int 0]), zn0 1 120, zn0 0 64] S13 := h13
  rw [q13, Option.bind_some]
  obtain ⟨S14, q14, h14⟩ := hp_set (a := n0) (i := 0) (k := 5) (fs := [.ref (n0 + 1), .ref (n0 + 2), .ref (n0 + 3), .ref (n0 + 5), .ref (n0 + 8), .ref (n0 + 10), .int 0, .int 0, .int 0]) (j := 6) (.int (2 : Int32)) h13 rfl rfl (Nat.le_of_ble_eq_true rfl)
  have h14 : hp n0 [.inr (5, [.ref (n0 + 1), .ref (n0 + 2), .ref (n0 + 3), .ref (n0 + 5), .ref (n0 + 8), .ref (n0 + 10), .int (2 : Int32), .int 0, .int 0]), zn0 3 16, zn0 4 16, .inr (1, [.ref (n0 + 4), .int 0, .int 0]), zn0 0 64, .inr (2, [.ref (n0 + 6), .ref (n0 + 7), .int 0]), zn0 0 105, zn0 1 64, .inr (3, [.ref (n0 + 9), .int 0]), zn0 1 120, zn0 0 64] S14 := h14
  rw [q14, Option.bind_some]
  obtain ⟨S15, q15, h15⟩ := hp_set (a := n0) (i := 0) (k := 5) (fs := [.ref (n0 + 1), .ref (n0 + 2), .ref (n0 + 3), .ref (n0 + 5), .ref (n0 + 8), .ref (n0 + 10), .int (2 : Int32), .int 0, .int 0]) (j := 7) (.int (0 : Int32)) h14 rfl rfl (Nat.le_of_ble_eq_true rfl)
  have h15 : hp n0 [.inr (5, [.ref (n0 + 1), .ref (n0 + 2), .ref (n0 + 3), .ref (n0 + 5), .ref (n0 + 8), .ref (n0 + 10), .int (2 : Int32), .int (0 : Int32), .int 0]), zn0 3 16, zn0 4 16, .inr (1, [.ref (n0 + 4), .int 0, .int 0]), zn0 0 64, .inr (2, [.ref (n0 + 6), .ref (n0 + 7), .int 0]), zn0 0 105, zn0 1 64, .inr (3, [.ref (n0 + 9), .int 0]), zn0 1 120, zn0 0 64] S15 := h15
  rw [q15, Option.bind_some]
  obtain ⟨S16, q16, h16⟩ := hp_set (a := n0) (i := 0) (k := 5) (fs := [.ref (n0 + 1), .ref (n0 + 2), .ref (n0 + 3), .ref (n0 + 5), .ref (n0 + 8), .ref (n0 + 10), .int (2 : Int32), .int (0 : Int32), .int 0]) (j := 8) (.int (0 : Int32)) h15 rfl rfl (Nat.le_of_ble_eq_true rfl)
  have h16 : hp n0 [.inr (5, [.ref (n0 + 1), .ref (n0 + 2), .ref (n0 + 3), .ref (n0 + 5), .ref (n0 + 8), .ref (n0 + 10), .int (2 : Int32), .int (0 : Int32), .int (0 : Int32)]), zn0 3 16, zn0 4 16, .inr (1, [.ref (n0 + 4), .int 0, .int 0]), zn0 0 64, .inr (2, [.ref (n0 + 6), .ref (n0 + 7), .int 0]), zn0 0 105, zn0 1 64, .inr (3, [.ref (n0 + 9), .int 0]), zn0 1 120, zn0 0 64] S16 := h16
  rw [q16, Option.bind_some]
  exact ⟨_, rfl, h16⟩
def stM (n0 : Nat) : List ZE := [.inr (6, [.int 0, .int 2, .int 0, .ref (n0 + 12), .ref (n0 + 13), .ref (n0 + 14), .int 0, .ref (n0 + 15), .ref (n0 + 16), .ref (n0 + 17), .ref (n0 + 18), .ref (n0 + 19), .ref (n0 + 20), .ref (n0 + 21), .ref (n0 + 22), .int 0, .ref (n0 + 23), .int 0, .int 0]), zn0 0 48, zn0 0 1024, zn0 0 16, zn0 0 48, zn0 0 1024, zn0 0 16, zn0 0 16, zn0 0 7680, zn0 0 64, zn0 0 4096, zn0 0 4096, zn0 2 5120]
theorem init6 (n0 : Nat) {S : ZS} (h : hp n0 (stX n0) S) : ∃ S2, fX6_init S.2 (zno S 6 [.int 0, .int 0, .int 0, .null, .null, .null, .int 0, .null, .null, .null, .null, .null, .null, .null, .null, .int 0, .null, .int 0, .int 0]) = some S2 ∧ hp n0 (stX n0 ++ stM n0) S2 := by
  have a0 : S.2 = n0 + 11 := h.1
  have h0 : hp n0 [.inr (5, [.ref (n0 + 1), .ref (n0 + 2), .ref (n0 + 3), .ref (n0 + 5), .ref (n0 + 8), .ref (n0 + 10), .int (2 : Int32), .int (0 : Int32), .int (0 : Int32)]), zn0 3 16, zn0 4 16, .inr (1, [.ref (n0 + 4), .int 0, .int 0]), zn0 0 64, .inr (2, [.ref (n0 + 6), .ref (n0 + 7), .int 0]), zn0 0 105, zn0 1 64, .inr (3, [.ref (n0 + 9), .int 0]), zn0 1 120, zn0 0 64, .inr (6, [.int 0, .int 0, .int 0, .null, .null, .null, .int 0, .null, .null, .null, .null, .null, .null, .null, .null, .int 0, .null, .int 0, .int 0])] _ := hp_new 6 [.int 0, .int 0, .int 0, .null, .null, .null, .int 0, .null, .null, .null, .null, .null, .null, .null, .null, .int 0, .null, .int 0, .int 0] h
  obtain ⟨S0, hS0⟩ : ∃ S0, S0 = zno S 6 [.int 0, .int 0, .int 0, .null, .null, .null, .int 0, .null, .null, .null, .null, .null, .null, .null, .null, .int 0, .null, .int 0, .int 0] := ⟨_, rfl⟩
  rw [← hS0] at h0 ⊢
  rw [a0]
  unfold fX6_init
  obtain ⟨S1, q1, h1⟩ := hp_set (a := n0 + 11) (i := 11) (k := 6) (fs := [.int 0, .int 0, .int 0, .null, .null, .null, .int 0, .null, .null, .null, .null, .null, .null, .null, .null, .int 0, .null, .int 0, .int 0]) (j := 1) (.int (2 : Int32)) h0 rfl rfl (Nat.le_of_ble_eq_true rfl)
  have h1 : hp n0 [.inr (5, [.ref (n0 + 1), .ref (n0 + 2), .ref (n0 + 3), .ref (n0 + 5), .ref (n0 + 8), .ref (n0 + 10), .int (2 : Int32), .int (0 : Int32), .int (0 : Int32)]), zn0 3 16, zn0 4 16, .inr (1, [.ref (n0 + 4), .int 0, .int 0]), zn0 0 64, .inr (2, [.ref (n0 + 6), .ref (n0 + 7), .int 0]), zn0 0 105, zn0 1 64, .inr (3, [.ref (n0 + 9), .int 0]), zn0 1 120, zn0 0 64, .inr (6, [.int 0, .int (2 : Int32), .int 0, .null, .null, .null, .int 0, .null, .null, .null, .null, .null, .null, .null, .null, .int 0, .null, .int 0, .int 0])] S1 := h1
  rw [q1, Option.bind_some]
  obtain ⟨S2, q2, h2⟩ := hp_arr (a := n0 + 11) (i := 11) (k := 6) (fs := [.int 0, .int (2 : Int32), .int 0, .null, .null, .null, .int 0, .null, .null, .null, .null, .null, .null, .null, .null, .int 0, .null, .int 0, .int 0]) (j := 3) (t := 0) (N := 48) (q := 12) h1 rfl rfl rfl (Nat.le_of_ble_eq_true rfl)
  have h2 : hp n0 [.inr (5, [.ref (n0 + 1), .ref (n0 + 2), .ref (n0 + 3), .ref (n0 + 5), .ref (n0 + 8), .ref (n0 + 10), .int (2 : Int32), .int (0 : Int32), .int (0 : Int32)]), zn0 3 16, zn0 4 16, .inr (1, [.ref (n0 + 4), .int 0, .int 0]), zn0 0 64, .inr (2, [.ref (n0 + 6), .ref (n0 + 7), .int 0]), zn0 0 105, zn0 1 64, .inr (3, [.ref (n0 + 9), .int 0]), zn0 1 120, zn0 0 64, .inr (6, [.int 0, .int (2 : Int32), .int 0, .ref (n0 + 12), .null, .null, .int 0, .null, .null, .null, .null, .null, .null, .null, .null, .int 0, .null, .int 0, .int 0]), zn0 0 48] S2 := h2
  rw [q2, Option.bind_some]
  obtain ⟨S3, q3, h3⟩ := hp_arr (a := n0 + 11) (i := 11) (k := 6) (fs := [.int 0, .int (2 : Int32), .int 0, .ref (n0 + 12), .null, .null, .int 0, .null, .null, .null, .null, .null, .null, .null, .null, .int 0, .null, .int 0, .int 0]) (j := 4) (t := 0) (N := 1024) (q := 13) h2 rfl rfl rfl (Nat.le_of_ble_eq_true rfl)
  have h3 : hp n0 [.inr (5, [.ref (n0 + 1), .ref (n0 + 2), .ref (n0 + 3), .ref (n0 + 5), .ref (n0 + 8), .ref (n0 + 10), .int (2 : Int32), .int (0 : Int32), .int (0 : Int32)]), zn0 3 16, zn0 4 16, .inr (1, [.ref (n0 + 4), .int 0, .int 0]), zn0 0 64, .inr (2, [.ref (n0 + 6), .ref (n0 + 7), .int 0]), zn0 0 105, zn0 1 64, .inr (3, [.ref (n0 + 9), .int 0]), zn0 1 120, zn0 0 64, .inr (6, [.int 0, .int (2 : Int32), .int 0, .ref (n0 + 12), .ref (n0 + 13), .null, .int 0, .null, .null, .null, .null, .null, .null, .null, .null, .int 0, .null, .int 0, .int 0]), zn0 0 48, zn0 0 1024] S3 := h3
  rw [q3, Option.bind_some]
  obtain ⟨S4, q4, h4⟩ := hp_arr (a := n0 + 11) (i := 11) (k := 6) (fs := [.int 0, .int (2 : Int32), .int 0, .ref (n0 + 12), .ref (n0 + 13), .null, .int 0, .null, .null, .null, .null, .null, .null, .null, .null, .int 0, .null, .int 0, .int 0]) (j := 5) (t := 0) (N := 16) (q := 14) h3 rfl rfl rfl (Nat.le_of_ble_eq_true rfl)
  have h4 : hp n0 [.inr (5, [.ref (n0 + 1), .ref (n0 + 2), .ref (n0 + 3), .ref (n0 + 5), .ref (n0 + 8), .ref (n0 + 10), .int (2 : Int32), .int (0 : Int32), .int (0 : Int32)]), zn0 3 16, zn0 4 16, .inr (1, [.ref (n0 + 4), .int 0, .int 0]), zn0 0 64, .inr (2, [.ref (n0 + 6), .ref (n0 + 7), .int 0]), zn0 0 105, zn0 1 64, .inr (3, [.ref (n0 + 9), .int 0]), zn0 1 120, zn0 0 64, .inr (6, [.int 0, .int (2 : Int32), .int 0, .ref (n0 + 12), .ref (n0 + 13), .ref (n0 + 14), .int 0, .null, .null, .null, .null, .null, .null, .null, .null, .int 0, .null, .int 0, .int 0]), zn0 0 48, zn0 0 1024, zn0 0 16] S4 := h4
  rw [q4, Option.bind_some]
  obtain ⟨S5, q5, h5⟩ := hp_arr (a := n0 + 11) (i := 11) (k := 6) (fs := [.int 0, .int (2 : Int32), .int 0, .ref (n0 + 12), .ref (n0 + 13), .ref (n0 + 14), .int 0, .null, .null, .null, .null, .null, .null, .null, .null, .int 0, .null, .int 0, .int 0]) (j := 7) (t := 0) (N := 48) (q := 15) h4 rfl rfl rfl (Nat.le_of_ble_eq_true rfl)
  have h5 : hp n0 [.inr (5, [.ref (n0 + 1), .ref (n0 + 2), .ref (n0 + 3), .ref (n0 + 5), .ref (n0 + 8), .ref (n0 + 10), .int (2 : Int32), .int (0 : Int32), .int (0 : Int32)]), zn0 3 16, zn0 4 16, .inr (1, [.ref (n0 + 4), .int 0, .int 0]), zn0 0 64, .inr (2, [.ref (n0 + 6), .ref (n0 + 7), .int 0]), zn0 0 105, zn0 1 64, .inr (3, [.ref (n0 + 9), .int 0]), zn0 1 120, zn0 0 64, .inr (6, [.int 0, .int (2 : Int32), .int 0, .ref (n0 + 12), .ref (n0 + 13), .ref (n0 + 14), .int 0, .ref (n0 + 15), .null, .null, .null, .null, .null, .null, .null, .int 0, .null, .int 0, .int 0]), zn0 0 48, zn0 0 1024, zn0 0 16, zn0 0 48] S5 := h5
  rw [q5, Option.bind_some]
  obtain ⟨S6, q6, h6⟩ := hp_arr (a := n0 + 11) (i := 11) (k := 6) (fs := [.int 0, .int (2 : Int32), .int 0, .ref (n0 + 12), .ref (n0 + 13), .ref (n0 + 14), .int 0, .ref (n0 + 15), .null, .null, .null, .null, .null, .null, .null, .int 0, .null, .int 0, .int 0]) (j := 8) (t := 0) (N := 1024) (q := 16) h5 rfl rfl rfl (Nat.le_of_ble_eq_true rfl)
  have h6 : hp n0 [.inr (5, [.ref (n0 + 1), .ref (n0 + 2), .ref (n0 + 3), .ref (n0 + 5), .ref (n0 + 8), .ref (n0 + 10), .int (2 : Int32), .int (0 : Int32), .int (0 : Int32)]), zn0 3 16, zn0 4 16, .inr (1, [.ref (n0 + 4), .int 0, .int 0]), zn0 0 64, .inr (2, [.ref (n0 + 6), .ref (n0 + 7), .int 0]), zn0 0 105, zn0 1 64, .inr (3, [.ref (n0 + 9), .int 0]), zn0 1 120, zn0 0 64, .inr (6, [.int 0, .int (2 : Int32), .int 0, .ref (n0 + 12), .ref (n0 + 13), .ref (n0 + 14), .int 0, .ref (n0 + 15), .ref (n0 + 16), .null, .null, .null, .null, .null, .null, .int 0, .null, .int 0, .int 0]), zn0 0 48, zn0 0 1024, zn0 0 16, zn0 0 48, zn0 0 1024] S6 := h6
  rw [q6, Option.bind_some]
  obtain ⟨S7, q7, h7⟩ := hp_arr (a := n0 + 11) (i := 11) (k := 6) (fs := [.int 0, .int (2 : Int32), .int 0, .ref (n0 + 12), .ref (n0 + 13), .ref (n0 + 14), .int 0, .ref (n0 + 15), .ref (n0 + 16), .null, .null, .null, .null, .null, .null, .int 0, .null, .int 0, .int 0]) (j := 9) (t := 0) (N := 16) (q := 17) h6 rfl rfl rfl (Nat.le_of_ble_eq_true rfl)
  have h7 : hp n0 [.inr (5, [.ref (n0 + 1), .ref (n0 + 2), .ref (n0 + 3), .ref (n0 + 5), .ref (n0 + 8), .ref (n0 + 10), .int (2 : Int32), .int (0 : Int32), .int (0 : Int32)]), zn0 3 16, zn0 4 16, .inr (1, [.ref (n0 + 4), .int 0, .int 0]), zn0 0 64, .inr (2, [.ref (n0 + 6), .ref (n0 + 7), .int 0]), zn0 0 105, zn0 1 64, .inr (3, [.ref (n0 + 9), .int 0]), zn0 1 120, zn0 0 64, .inr (6, [.int 0, .int (2 : Int32), .int 0, .ref (n0 + 12), .ref (n0 + 13), .ref (n0 + 14), .int 0, .ref (n0 + 15), .ref (n0 + 16), .ref (n0 + 17), .null, .null, .null, .null, .null, .int 0, .null, .int 0, .int 0]), zn0 0 48, zn0 0 1024, zn0 0 16, zn0 0 48, zn0 0 1024, zn0 0 16] S7 := h7
  rw [q7, Option.bind_some]
  obtain ⟨S8, q8, h8⟩ := hp_arr (a := n0 + 11) (i := 11) (k := 6) (fs := [.int 0, .int (2 : Int32), .int 0, .ref (n0 + 12), .ref (n0 + 13), .ref (n0 + 14), .int 0, .ref (n0 + 15), .ref (n0 + 16), .ref (n0 + 17), .null, .null, .null, .null, .null, .int 0, .null, .int 0, .int 0]) (j := 10) (t := 0) (N := 16) (q := 18) h7 rfl rfl rfl (Nat.le_of_ble_eq_true rfl)
  have h8 : hp n0 [.inr (5, [.ref (n0 + 1), .ref (n0 + 2), .ref (n0 + 3), .ref (n0 + 5), .ref (n0 + 8), .ref (n0 + 10), .int (2 : Int32), .int (0 : Int32), .int (0 : Int32)]), zn0 3 16, zn0 4 16, .inr (1, [.ref (n0 + 4), .int 0, .int 0]), zn0 0 64, .inr (2, [.ref (n0 + 6), .ref (n0 + 7), .int 0]), zn0 0 105, zn0 1 64, .inr (3, [.ref (n0 + 9), .int 0]), zn0 1 120, zn0 0 64, .inr (6, [.int 0, .int (2 : Int32), .int 0, .ref (n0 + 12), .ref (n0 + 13), .ref (n0 + 14), .int 0, .ref (n0 + 15), .ref (n0 + 16), .ref (n0 + 17), .ref (n0 + 18), .null, .null, .null, .null, .int 0, .null, .int 0, .int 0]), zn0 0 48, zn0 0 1024, zn0 0 16, zn0 0 48, zn0 0 1024, zn0 0 16, zn0 0 16] S8 := h8
  rw [q8, Option.bind_some]
  obtain ⟨S9, q9, h9⟩ := hp_arr (a := n0 + 11) (i := 11) (k := 6) (fs := [.int 0, .int (2 : Int32), .int 0, .ref (n0 + 12), .ref (n0 + 13), .ref (n0 + 14), .int 0, .ref (n0 + 15), .ref (n0 + 16), .ref (n0 + 17), .ref (n0 + 18), .null, .null, .null, .null, .int 0, .null, .int 0, .int 0]) (j := 11) (t := 0) (N := 7680) (q := 19) h8 rfl rfl rfl (Nat.le_of_ble_eq_true rfl)
  have h9 : hp n0 [.inr (5, [.ref (n0 + 1), .ref (n0 + 2), .ref (n0 + 3), .ref (n0 + 5), .ref (n0 + 8), .ref (n0 + 10), .int (2 : Int32), .int (0 : Int32), .int (0 : Int32)]), zn0 3 16, zn0 4 16, .inr (1, [.ref (n0 + 4), .int 0, .int 0]), zn0 0 64, .inr (2, [.ref (n0 + 6), .ref (n0 + 7), .int 0]), zn0 0 105, zn0 1 64, .inr (3, [.ref (n0 + 9), .int 0]), zn0 1 120, zn0 0 64, .inr (6, [.int 0, .int (2 : Int32), .int 0, .ref (n0 + 12), .ref (n0 + 13), .ref (n0 + 14), .int 0, .ref (n0 + 15), .ref (n0 + 16), .ref (n0 + 17), .ref (n0 + 18), .ref (n0 + 19), .null, .null, .null, .int 0, .null, .int 0, .int 0]), zn0 0 48, zn0 0 1024, zn0 0 16, zn0 0 48, zn0 0 1024, zn0 0 16, zn0 0 16, zn0 0 7680] S9 := h9
  rw [q9, Option.bind_some]
  obtain ⟨S10, q10, h10⟩ := hp_arr (a := n0 + 11) (i := 11) (k := 6) (fs := [.int 0, .int (2 : Int32), .int 0, .ref (n0 + 12), .ref (n0 + 13), .ref (n0 + 14), .int 0, .ref (n0 + 15), .ref (n0 + 16), .ref (n0 + 17), .ref (n0 + 18), .ref (n0 + 19), .null, .null, .null, .int 0, .null, .int 0, .int 0]) (j := 12) (t := 0) (N := 64) (q := 20) h9 rfl rfl rfl (Nat.le_of_ble_eq_true rfl)
  have h10 : hp n0 [.inr (5, [.ref (n0 + 1), .ref (n0 + 2), .ref (n0 + 3), .ref (n0 + 5), .ref (n0 + 8), .ref (n0 + 10), .int (2 : Int32), .int (0 : Int32), .int (0 : Int32)]), zn0 3 16, zn0 4 16, .inr (1, [.ref (n0 + 4), .int 0, .int 0]), zn0 0 64, .inr (2, [.ref (n0 + 6), .ref (n0 + 7), .int 0]), zn0 0 105, zn0 1 64, .inr (3, [.ref (n0 + 9), .int 0]), zn0 1 120, zn0 0 64, .inr (6, [.int 0, .int (2 : Int32), .int 0, .ref (n0 + 12), .ref (n0 + 13), .ref (n0 + 14), .int 0, .ref (n0 + 15), .ref (n0 + 16), .ref (n0 + 17), .ref (n0 + 18), .ref (n0 + 19), .ref (n0 + 20), .null, .null, .int 0, .null, .int 0, .int 0]), zn0 0 48, zn0 0 1024, zn0 0 16, zn0 0 48, zn0 0 1024, zn0 0 16, zn0 0 16, zn0 0 7680, zn0 0 64] S10 := h10
  rw [q10, Option.bind_some]
  obtain ⟨S11, q11, h11⟩ := hp_arr (a := n0 + 11) (i := 11) (k := 6) (fs := [.int 0, .int (2 : Int32), .int 0, .ref (n0 + 12), .ref (n0 + 13), .ref (n0 + 14), .int 0, .ref (n0 + 15), .ref (n0 + 16), .ref (n0 + 17), .ref (n0 + 18), .ref (n0 + 19), .ref (n0 + 20), .null, .null, .int 0, .null, .int 0, .int 0]) (j := 13) (t := 0) (N := 4096) (q := 21) h10 rfl rfl rfl (Nat.le_of_ble_eq_true rfl)
  have h11 : hp n0 [.inr (5, [.ref (n0 + 1), .ref (n0 + 2), .ref (n0 + 3), .ref (n0 + 5), .ref (n0 + 8), .ref (n0 + 10), .int (2 : Int32), .int (0 : Int32), .int (0 : Int32)]), zn0 3 16, zn0 4 16, .inr (1, [.ref (n0 + 4), .int 0, .int 0]), zn0 0 64, .inr (2, [.ref (n0 + 6), .ref (n0 + 7), .int 0]), zn0 0 105, zn0 1 64, .inr (3, [.ref (n0 + 9), .int 0]), zn0 1 120, zn0 0 64, .inr (6, [.int 0, .int (2 : Int32), .int 0, .ref (n0 + 12), .ref (n0 + 13), .ref (n0 + 14), .int 0, .ref (n0 + 15), .ref (n0 + 16), .ref (n0 + 17), .ref (n0 + 18), .ref (n0 + 19), .ref (n0 + 20), .ref (n0 + 21), .null, .int 0, .null, .int 0, .int 0]), zn0 0 48, zn0 0 1024, zn0 0 16, zn0 0 48, zn0 0 1024, zn0 0 16, zn0 0 16, zn0 0 7680, zn0 0 64, zn0 0 4096] S11 := h11
  rw [q11, Option.bind_some]
  obtain ⟨S12, q12, h12⟩ := hp_arr (a := n0 + 11) (i := 11) (k := 6) (fs := [.int 0, .int (2 : Int32), .int 0, .ref (n0 + 12), .ref (n0 + 13), .ref (n0 + 14), .int 0, .ref (n0 + 15), .ref (n0 + 16), .ref (n0 + 17), .ref (n0 + 18), .ref (n0 + 19), .ref (n0 + 20), .ref (n0 + 21), .null, .int 0, .null, .int 0, .int 0]) (j := 14) (t := 0) (N := 4096) (q := 22) h11 rfl rfl rfl (Nat.le_of_ble_eq_true rfl)
  have h12 : hp n0 [.inr (5, [.ref (n0 + 1), .ref (n0 + 2), .ref (n0 + 3), .ref (n0 + 5), .ref (n0 + 8), .ref (n0 + 10), .int (2 : Int32), .int (0 : Int32), .int (0 : Int32)]), zn0 3 16, zn0 4 16, .inr (1, [.ref (n0 + 4), .int 0, .int 0]), zn0 0 64, .inr (2, [.ref (n0 + 6), .ref (n0 + 7), .int 0]), zn0 0 105, zn0 1 64, .inr (3, [.ref (n0 + 9), .int 0]), zn0 1 120, zn0 0 64, .inr (6, [.int 0, .int (2 : Int32), .int 0, .ref (n0 + 12), .ref (n0 + 13), .ref (n0 + 14), .int 0, .ref (n0 + 15), .ref (n0 + 16), .ref (n0 + 17), .ref (n0 + 18), .ref (n0 + 19), .ref (n0 + 20), .ref (n0 + 21), .ref (n0 + 22), .int 0, .null, .int 0, .int 0]), zn0 0 48, zn0 0 1024, zn0 0 16, zn0 0 48, zn0 0 1024, zn0 0 16, zn0 0 16, zn0 0 7680, zn0 0 64, zn0 0 4096, zn0 0 4096] S12 := h12
  rw [q12, Option.bind_some]
  obtain ⟨S13, q13, h13⟩ := hp_arr (a := n0 + 11) (i := 11) (k := 6) (fs := [.int 0, .int (2 : Int32), .int 0, .ref (n0 + 12), .ref (n0 + 13), .ref (n0 + 14), .int 0, .ref (n0 + 15), .ref (n0 + 16), .ref (n0 + 17), .ref (n0 + 18), .ref (n0 + 19), .ref (n0 + 20), .ref (n0 + 21), .ref (n0 + 22), .int 0, .null, .int 0, .int 0]) (j := 16) (t := 2) (N := 5120) (q := 23) h12 rfl rfl rfl (Nat.le_of_ble_eq_true rfl)
  have h13 : hp n0 [.inr (5, [.ref (n0 + 1), .ref (n0 + 2), .ref (n0 + 3), .ref (n0 + 5), .ref (n0 + 8), .ref (n0 + 10), .int (2 : Int32), .int (0 : Int32), .int (0 : Int32)]), zn0 3 16, zn0 4 16, .inr (1, [.ref (n0 + 4), .int 0, .int 0]), zn0 0 64, .inr (2, [.ref (n0 + 6), .ref (n0 + 7), .int 0]), zn0 0 105, zn0 1 64, .inr (3, [.ref (n0 + 9), .int 0]), zn0 1 120, zn0 0 64, .inr (6, [.int 0, .int (2 : Int32), .int 0, .ref (n0 + 12), .ref (n0 + 13), .ref (n0 + 14), .int 0, .ref (n0 + 15), .ref (n0 + 16), .ref (n0 + 17), .ref (n0 + 18), .ref (n0 + 19), .ref (n0 + 20), .ref (n0 + 21), .ref (n0 + 22), .int 0, .ref (n0 + 23), .int 0, .int 0]), zn0 0 48, zn0 0 1024, zn0 0 16, zn0 0 48, zn0 0 1024, zn0 0 16, zn0 0 16, zn0 0 7680, zn0 0 64, zn0 0 4096, zn0 0 4096, zn0 2 5120] S13 := h13
  rw [q13, Option.bind_some]
  exact ⟨_, rfl, h13⟩
/-- where the tags lie at the start -/
def sof (t : Nat) : Nat := match t with
  | 0 => 1 | 1 => 2 | 2 => 3 | 3 => 5 | 4 => 8 | 5 => 10 | 6 => 4 | 7 => 6 | 8 => 7 | 9 => 9 | 10 => 0 | 11 => 11 | 12 => 24
  | 23 => 12 | 24 => 13 | 25 => 14 | 27 => 15 | 28 => 16 | 29 => 17 | 30 => 18 | 31 => 19 | 32 => 20 | 33 => 21 | 34 => 22 | 36 => 23 | _ => 99
theorem sof_inj : ∀ t, t < 37 → ∀ u, u < 37 → sof t ≠ 99 → sof u ≠ 99 → sof t = sof u → t = u := by decide +kernel
theorem sof_ok : ∀ t, t < 37 → (t ≤ 12 ∨ t = 36 ∨ (23 ≤ t ∧ t ≤ 25) ∨ (27 ≤ t ∧ t ≤ 34)) → sof t ≠ 99 := by decide +kernel
theorem zowed_start (n0 : Nat) : ∃ S1 S2 : ZS, fX5_init n0 (zno ((fun _ => none), n0) 5 [.null, .null, .null, .null, .null, .null, .int 0, .int 0, .int 0]) = some S1 ∧ fX6_init S1.2 (zno S1 6 [.int 0, .int 0, .int 0, .null, .null, .null, .int 0, .null, .null, .null, .null, .null, .null, .null, .null, .int 0, .null, .int 0, .int 0]) = some S2 ∧ zI n0 S1.2 S2.2 (zna S2 1 1) := by
  obtain ⟨S1, e1, h1⟩ := init5 n0
  obtain ⟨S2, e2, h2⟩ := init6 n0 h1
  have h3 := hp_na 1 1 h2
  obtain ⟨S3, hS3⟩ : ∃ S3, S3 = zna S2 1 1 := ⟨_, rfl⟩
  refine ⟨S1, S2, e1, e2, ?_⟩
  rw [← hS3] at h3 ⊢
  have lv : ∀ t, live 0 0 t → t < 37 ∧ sof t ≠ 99 := fun t ht => by
    have : t ≤ 12 ∨ t = 36 ∨ (23 ≤ t ∧ t ≤ 25) ∨ (27 ≤ t ∧ t ≤ 34) := by
      unfold live cT mT isA at ht
      omega
    exact ⟨by omega, sof_ok t (by omega) this⟩
  refine ⟨fun t => n0 + sof t, 2, 0, 0, fun _ _ => 0, fun _ _ => 0, fun _ _ => 0, fun _ _ => 0, fun _ _ _ _ => 0, fun i => if i = 1 then 2 else 0, fun _ _ => 0, fun _ => 0, ⟨rfl, h1.1, h2.1⟩, ⟨Or.inl rfl, by omega, by omega, fun hh => absurd hh (Nat.not_lt_zero _)⟩, ?_, ?_, ?_, ?_, ?_⟩
  · intro t u ht hu hh
    have q1 := lv t ht
    have q2 := lv u hu
    exact sof_inj t q1.1 u q2.1 q1.2 q2.2 (Nat.add_left_cancel hh)
  · refine ⟨⟨?_, ?_, ?_⟩, ⟨⟨0, 0, ?_⟩, ⟨fun _ => 0, ?_⟩, ⟨0, ?_⟩, ⟨fun _ => 0, ?_⟩, ⟨fun _ => 0, ?_⟩, ⟨0, ?_⟩, ⟨fun _ => 0, ?_⟩, ⟨fun _ => 0, ?_⟩⟩, fun i hi => absurd hi (Nat.not_lt_zero _), fun i hi => absurd hi (Nat.not_lt_zero _)⟩
    · exact h3.2 0 _ rfl
    · exact (h3.2 1 _ rfl).trans rfl
    · exact (h3.2 2 _ rfl).trans rfl
    · exact h3.2 3 _ rfl
    · exact h3.2 4 _ rfl
    · exact h3.2 5 _ rfl
    · exact h3.2 6 _ rfl
    · exact h3.2 7 _ rfl
    · exact h3.2 8 _ rfl
    · exact h3.2 9 _ rfl
    · exact h3.2 10 _ rfl
  · refine ⟨h3.2 11 _ rfl, fun i hi => ?_, h3.2 23 _ rfl, fun i j hi hj hh => ?_⟩
    · have : i = 3 ∨ i = 4 ∨ i = 5 ∨ i = 7 ∨ i = 8 ∨ i = 9 ∨ i = 10 ∨ i = 11 ∨ i = 12 ∨ i = 13 ∨ i = 14 := by unfold isA at hi; omega
      rcases this with rfl | rfl | rfl | rfl | rfl | rfl | rfl | rfl | rfl | rfl | rfl
      · exact h3.2 12 _ rfl
      · exact h3.2 13 _ rfl
      · exact h3.2 14 _ rfl
      · exact h3.2 15 _ rfl
      · exact h3.2 16 _ rfl
      · exact h3.2 17 _ rfl
      · exact h3.2 18 _ rfl
      · exact h3.2 19 _ rfl
      · exact h3.2 20 _ rfl
      · exact h3.2 21 _ rfl
      · exact h3.2 22 _ rfl
    · have li : live 0 0 (20 + i) := Or.inr (Or.inl (Or.inr (Or.inr ⟨by omega, by rw [Nat.add_sub_cancel_left]; exact hi⟩)))
      have lj : live 0 0 (20 + j) := Or.inr (Or.inl (Or.inr (Or.inr ⟨by omega, by rw [Nat.add_sub_cancel_left]; exact hj⟩)))
      have q1 := lv _ li
      have q2 := lv _ lj
      have := sof_inj _ q1.1 _ q2.1 q1.2 q2.2 (Nat.add_left_cancel (show n0 + sof (20 + i) = n0 + sof (20 + j) from hh))
      omega
  · exact ⟨rfl, rfl, rfl, fun i hi => absurd hi (Nat.not_lt_zero _), fun i hi => absurd hi (Nat.not_lt_zero _)⟩
  · exact h3.2 24 _ rfl
