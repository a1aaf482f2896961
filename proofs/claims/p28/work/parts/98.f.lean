/-! THE START: two foundries, apart -/
def hp2 (B : ZH) (n0 : Nat) (L : List ZE) (S : ZS) : Prop := S.2 = n0 + L.length ∧ (∀ i e, L[i]? = some e → S.1 (n0 + i) = some e) ∧ ∀ b, b < n0 → S.1 b = B b
theorem hp2.hp {B : ZH} {n0 : Nat} {L : List ZE} {S : ZS} (h : hp2 B n0 L S) : hp n0 L S := ⟨h.1, h.2.1⟩
theorem hp2_new {B : ZH} {n0 : Nat} {L : List ZE} {S : ZS} (k : Nat) (fs : List Value) (h : hp2 B n0 L S) : hp2 B n0 (L ++ [.inr (k, fs)]) (zno S k fs) := by
  have h1 := hp_new k fs h.hp
  refine ⟨h1.1, h1.2, fun b hb => ?_⟩
  show va_up S.1 S.2 (some (.inr (k, fs))) b = _
  rw [va_up_ne _ _ (by rw [h.1]; omega)]
  exact h.2.2 b hb
theorem hp2_na {B : ZH} {n0 : Nat} {L : List ZE} {S : ZS} (t N : Nat) (h : hp2 B n0 L S) : hp2 B n0 (L ++ [zn0 t N]) (zna S t N) := by
  have h1 := hp_na t N h.hp
  refine ⟨h1.1, h1.2, fun b hb => ?_⟩
  show va_up S.1 S.2 (some (zn0 t N)) b = _
  rw [va_up_ne _ _ (by rw [h.1]; omega)]
  exact h.2.2 b hb
theorem hp2_set {B : ZH} {n0 : Nat} {L : List ZE} {S : ZS} {a i k j : Nat} {fs : List Value} (v : Value) (h : hp2 B n0 L S) (ha : a = n0 + i) (hi : L[i]? = some (.inr (k, fs))) (hj : j < fs.length) : ∃ S', zpF S a k j v = some S' ∧ hp2 B n0 (L.set i (.inr (k, fs.set j v))) S' := by
  obtain ⟨S', h1, h2⟩ := hp_set v h.hp ha hi hj
  refine ⟨S', h1, h2.1, h2.2, fun b hb => ?_⟩
  subst ha
  have ho : zOb S (n0 + i) k fs := h.2.1 i _ hi
  rw [zpF_ob v ho hj] at h1
  cases h1
  rw [zwO_ne (by omega)]
  exact h.2.2 b hb
theorem hp2_arr {B : ZH} {n0 : Nat} {L : List ZE} {S : ZS} {a i k j t N q : Nat} {fs : List Value} (h : hp2 B n0 L S) (hq : L.length = q) (ha : a = n0 + i) (hi : (L ++ [zn0 t N])[i]? = some (.inr (k, fs))) (hj : j < fs.length) : ∃ S', zpF (zna S t N) a k j (.ref S.2) = some S' ∧ hp2 B n0 ((L ++ [zn0 t N]).set i (.inr (k, fs.set j (.ref (n0 + q))))) S' := by
  rw [h.1, hq]
  exact hp2_set _ (hp2_na t N h) ha hi hj
theorem init5b (B : ZH) (n0 : Nat) : ∃ S1, fX5_init n0 (zno (B, n0) 5 [.null, .null, .null, .null, .null, .null, .int 0, .int 0, .int 0]) = some S1 ∧ hp2 B n0 (stX n0) S1 := by
  have e0 : hp2 B n0 [] ((B, n0) : ZS) := ⟨rfl, (fun i e hi => by cases hi), fun _ _ => rfl⟩
  have h0 : hp2 B n0 [.inr (5, [.null, .null, .null, .null, .null, .null, .int 0, .int 0, .int 0])] _ := hp2_new 5 [.null, .null, .null, .null, .null, .null, .int 0, .int 0, .int 0] e0
  obtain ⟨S0, hS0⟩ : ∃ S0, S0 = zno (B, n0) 5 [.null, .null, .null, .null, .null, .null, .int 0, .int 0, .int 0] := ⟨_, rfl⟩
  rw [← hS0] at h0 ⊢
  unfold fX5_init
  obtain ⟨S1, q1, h1⟩ := hp2_arr (a := n0) (i := 0) (k := 5) (fs := [.null, .null, .null, .null, .null, .null, .int 0, .int 0, .int 0]) (j := 0) (t := 3) (N := 16) (q := 1) h0 rfl rfl rfl (Nat.le_of_ble_eq_true rfl)
  have h1 : hp2 B n0 [.inr (5, [.ref (n0 + 1), .null, .null, .null, .null, .null, .int 0, .int 0, .int 0]), zn0 3 16] S1 := h1
  rw [q1, Option.bind_some]
  obtain ⟨S2, q2, h2⟩ := hp2_arr (a := n0) (i := 0) (k := 5) (fs := [.ref (n0 + 1), .null, .null, .null, .null, .null, .int 0, .int 0, .int 0]) (j := 1) (t := 4) (N := 16) (q := 2) h1 rfl rfl rfl (Nat.le_of_ble_eq_true rfl)
  have h2 : hp2 B n0 [.inr (5, [.ref (n0 + 1), .ref (n0 + 2), .null, .null, .null, .null, .int 0, .int 0, .int 0]), zn0 3 16, zn0 4 16] S2 := h2
  rw [q2, Option.bind_some]
  have a2 : S2.2 = n0 + 3 := h2.1
  have h3 : hp2 B n0 [.inr (5, [.ref (n0 + 1), .ref (n0 + 2), .null, .null, .null, .null, .int 0, .int 0, .int 0]), zn0 3 16, zn0 4 16, .inr (1, [.null, .int 0, .int 0])] _ := hp2_new 1 [.null, .int 0, .int 0] h2
  obtain ⟨S3, hS3⟩ : ∃ U, U = zno S2 1 [.null, .int 0, .int 0] := ⟨_, rfl⟩
  rw [← hS3] at h3 ⊢
  unfold fX1_init
  rw [a2]
  obtain ⟨S4, q4, h4⟩ := hp2_arr (a := n0 + 3) (i := 3) (k := 1) (fs := [.null, .int 0, .int 0]) (j := 0) (t := 0) (N := 64) (q := 4) h3 rfl rfl rfl (Nat.le_of_ble_eq_true rfl)
  have h4 : hp2 B n0 [.inr (5, [.ref (n0 + 1), .ref (n0 + 2), .null, .null, .null, .null, .int 0, .int 0, .int 0]), zn0 3 16, zn0 4 16, .inr (1, [.ref (n0 + 4), .int 0, .int 0]), zn0 0 64] S4 := h4
  rw [q4, Option.bind_some]
  rw [Option.bind_some]
  obtain ⟨S5, q5, h5⟩ := hp2_set (a := n0) (i := 0) (k := 5) (fs := [.ref (n0 + 1), .ref (n0 + 2), .null, .null, .null, .null, .int 0, .int 0, .int 0]) (j := 2) (.ref (n0 + 3)) h4 rfl rfl (Nat.le_of_ble_eq_true rfl)
  have h5 : hp2 B n0 [.inr (5, [.ref (n0 + 1), .ref (n0 + 2), .ref (n0 + 3), .null, .null, .null, .int 0, .int 0, .int 0]), zn0 3 16, zn0 4 16, .inr (1, [.ref (n0 + 4), .int 0, .int 0]), zn0 0 64] S5 := h5
  rw [q5, Option.bind_some]
  have a5 : S5.2 = n0 + 5 := h5.1
  have h6 : hp2 B n0 [.inr (5, [.ref (n0 + 1), .ref (n0 + 2), .ref (n0 + 3), .null, .null, .null, .int 0, .int 0, .int 0]), zn0 3 16, zn0 4 16, .inr (1, [.ref (n0 + 4), .int 0, .int 0]), zn0 0 64, .inr (2, [.null, .null, .int 0])] _ := hp2_new 2 [.null, .null, .int 0] h5
  obtain ⟨S6, hS6⟩ : ∃ U, U = zno S5 2 [.null, .null, .int 0] := ⟨_, rfl⟩
  rw [← hS6] at h6 ⊢
  unfold fX2_init
  rw [a5]
  obtain ⟨S7, q7, h7⟩ := hp2_arr (a := n0 + 5) (i := 5) (k := 2) (fs := [.null, .null, .int 0]) (j := 0) (t := 0) (N := 105) (q := 6) h6 rfl rfl rfl (Nat.le_of_ble_eq_true rfl)
  have h7 : hp2 B n0 [.inr (5, [.ref (n0 + 1), .ref (n0 + 2), .ref (n0 + 3), .null, .null, .null, .int 0, .int 0, .int 0]), zn0 3 16, zn0 4 16, .inr (1, [.ref (n0 + 4), .int 0, .int 0]), zn0 0 64, .inr (2, [.ref (n0 + 6), .null, .int 0]), zn0 0 105] S7 := h7
  rw [q7, Option.bind_some]
  obtain ⟨S8, q8, h8⟩ := hp2_arr (a := n0 + 5) (i := 5) (k := 2) (fs := [.ref (n0 + 6), .null, .int 0]) (j := 1) (t := 1) (N := 64) (q := 7) h7 rfl rfl rfl (Nat.le_of_ble_eq_true rfl)
  have h8 : hp2 B n0 [.inr (5, [.ref (n0 + 1), .ref (n0 + 2), .ref (n0 + 3), .null, .null, .null, .int 0, .int 0, .int 0]), zn0 3 16, zn0 4 16, .inr (1, [.ref (n0 + 4), .int 0, .int 0]), zn0 0 64, .inr (2, [.ref (n0 + 6), .ref (n0 + 7), .int 0]), zn0 0 105, zn0 1 64] S8 := h8
  rw [q8, Option.bind_some]
  rw [Option.bind_some]
  obtain ⟨S9, q9, h9⟩ := hp2_set (a := n0) (i := 0) (k := 5) (fs := [.ref (n0 + 1), .ref (n0 + 2), .ref (n0 + 3), .null, .null, .null, .int 0, .int 0, .int 0]) (j := 3) (.ref (n0 + 5)) h8 rfl rfl (Nat.le_of_ble_eq_true rfl)
  have h9 : hp2 B n0 [.inr (5, [.ref (n0 + 1), .ref (n0 + 2), .ref (n0 + 3), .ref (n0 + 5), .null, .null, .int 0, .int 0, .int 0]), zn0 3 16, zn0 4 16, .inr (1, [.ref (n0 + 4), .int 0, .int 0]), zn0 0 64, .inr (2, [.ref (n0 + 6), .ref (n0 + 7), .int 0]), zn0 0 105, zn0 1 64] S9 := h9
  rw [q9, Option.bind_some]
  have a9 : S9.2 = n0 + 8 := h9.1
  have h10 : hp2 B n0 [.inr (5, [.ref (n0 + 1), .ref (n0 + 2), .ref (n0 + 3), .ref (n0 + 5), .null, .null, .int 0, .int 0, .int 0]), zn0 3 16, zn0 4 16, .inr (1, [.ref (n0 + 4), .int 0, .int 0]), zn0 0 64, .inr (2, [.ref (n0 + 6), .ref (n0 + 7), .int 0]), zn0 0 105, zn0 1 64, .inr (3, [.null, .int 0])] _ := hp2_new 3 [.null, .int 0] h9
  obtain ⟨S10, hS10⟩ : ∃ U, U = zno S9 3 [.null, .int 0] := ⟨_, rfl⟩
  rw [← hS10] at h10 ⊢
  unfold fX3_init
  rw [a9]
  obtain ⟨S11, q11, h11⟩ := hp2_arr (a := n0 + 8) (i := 8) (k := 3) (fs := [.null, .int 0]) (j := 0) (t := 1) (N := 120) (q := 9) h10 rfl rfl rfl (Nat.le_of_ble_eq_true rfl)
  have h11 : hp2 B n0 [.inr (5, [.ref (n0 + 1), .ref (n0 + 2), .ref (n0 + 3), .ref (n0 + 5), .null, .null, .int 0, .int 0, .int 0]), zn0 3 16, zn0 4 16, .inr (1, [.ref (n0 + 4), .int 0, .int 0]), zn0 0 64, .inr (2, [.ref (n0 + 6), .ref (n0 + 7), .int 0]), zn0 0 105, zn0 1 64, .inr (3, [.ref (n0 + 9), .int 0]), zn0 1 120] S11 := h11
  rw [q11, Option.bind_some]
  rw [Option.bind_some]
  obtain ⟨S12, q12, h12⟩ := hp2_set (a := n0) (i := 0) (k := 5) (fs := [.ref (n0 + 1), .ref (n0 + 2), .ref (n0 + 3), .ref (n0 + 5), .null, .null, .int 0, .int 0, .int 0]) (j := 4) (.ref (n0 + 8)) h11 rfl rfl (Nat.le_of_ble_eq_true rfl)
  have h12 : hp2 B n0 [.inr (5, [.ref (n0 + 1), .ref (n0 + 2), .ref (n0 + 3), .ref (n0 + 5), .ref (n0 + 8), .null, .int 0, .int 0, .int 0]), zn0 3 16, zn0 4 16, .inr (1, [.ref (n0 + 4), .int 0, .int 0]), zn0 0 64, .inr (2, [.ref (n0 + 6), .ref (n0 + 7), .int 0]), zn0 0 105, zn0 1 64, .inr (3, [.ref (n0 + 9), .int 0]), zn0 1 120] S12 := h12
  rw [q12, Option.bind_some]
  obtain ⟨S13, q13, h13⟩ := hp2_arr (a := n0) (i := 0) (k := 5) (fs := [.ref (n0 + 1), .ref (n0 + 2), .ref (n0 + 3), .ref (n0 + 5), .ref (n0 + 8), .null, .int 0, .int 0, .int 0]) (j := 5) (t := 0) (N := 64) (q := 10) h12 rfl rfl rfl (Nat.le_of_ble_eq_true rfl)
  have h13 : hp2 B n0 [.inr (5, [.ref (n0 + 1), .ref (n0 + 2), .ref (n0 + 3), .ref (n0 + 5), .ref (n0 + 8), .ref (n0 + 10), .int 0, .int 0, .int 0]), zn0 3 16, zn0 4 16, .inr (1, [.ref (n0 + 4), .int 0, .int 0]), zn0 0 64, .inr (2, [.ref (n0 + 6), .ref (n0 + 7), .int 0]), zn0 0 105, zn0 1 64, .inr (3, [.ref (n0 + 9), .int 0]), zn0 1 120, zn0 0 64] S13 := h13
  rw [q13, Option.bind_some]
  obtain ⟨S14, q14, h14⟩ := hp2_set (a := n0) (i := 0) (k := 5) (fs := [.ref (n0 + 1), .ref (n0 + 2), .ref (n0 + 3), .ref (n0 + 5), .ref (n0 + 8), .ref (n0 + 10), .int 0, .int 0, .int 0]) (j := 6) (.int (2 : Int32)) h13 rfl rfl (Nat.le_of_ble_eq_true rfl)
  have h14 : hp2 B n0 [.inr (5, [.ref (n0 + 1), .ref (n0 + 2), .ref (n0 + 3), .ref (n0 + 5), .ref (n0 + 8), .ref (n0 + 10), .int (2 : Int32), .int 0, .int 0]), zn0 3 16, zn0 4 16, .inr (1, [.ref (n0 + 4), .int 0, .int 0]), zn0 0 64, .inr (2, [.ref (n0 + 6), .ref (n0 + 7), .int 0]), zn0 0 105, zn0 1 64, .inr (3, [.ref (n0 + 9), .int 0]), zn0 1 120, zn0 0 64] S14 := h14
  rw [q14, Option.bind_some]
  obtain ⟨S15, q15, h15⟩ := hp2_set (a := n0) (i := 0) (k := 5) (fs := [.ref (n0 + 1), .ref (n0 + 2), .ref (n0 + 3), .ref (n0 + 5), .ref (n0 + 8), .ref (n0 + 10), .int (2 : Int32), .int 0, .int 0]) (j := 7) (.int (0 : Int32)) h14 rfl rfl (Nat.le_of_ble_eq_true rfl)
  have h15 : hp2 B n0 [.inr (5, [.ref (n0 + 1), .ref (n0 + 2), .ref (n0 + 3), .ref (n0 + 5), .ref (n0 + 8), .ref (n0 + 10), .int (2 : Int32), .int (0 : Int32), .int 0]), zn0 3 16, zn0 4 16, .inr (1, [.ref (n0 + 4), .int 0, .int 0]), zn0 0 64, .inr (2, [.ref (n0 + 6), .ref (n0 + 7), .int 0]), zn0 0 105, zn0 1 64, .inr (3, [.ref (n0 + 9), .int 0]), zn0 1 120, zn0 0 64] S15 := h15
  rw [q15, Option.bind_some]
  obtain ⟨S16, q16, h16⟩ := hp2_set (a := n0) (i := 0) (k := 5) (fs := [.ref (n0 + 1), .ref (n0 + 2), .ref (n0 + 3), .ref (n0 + 5), .ref (n0 + 8), .ref (n0 + 10), .int (2 : Int32), .int (0 : Int32), .int 0]) (j := 8) (.int (0 : Int32)) h15 rfl rfl (Nat.le_of_ble_eq_true rfl)
  have h16 : hp2 B n0 [.inr (5, [.ref (n0 + 1), .ref (n0 + 2), .ref (n0 + 3), .ref (n0 + 5), .ref (n0 + 8), .ref (n0 + 10), .int (2 : Int32), .int (0 : Int32), .int (0 : Int32)]), zn0 3 16, zn0 4 16, .inr (1, [.ref (n0 + 4), .int 0, .int 0]), zn0 0 64, .inr (2, [.ref (n0 + 6), .ref (n0 + 7), .int 0]), zn0 0 105, zn0 1 64, .inr (3, [.ref (n0 + 9), .int 0]), zn0 1 120, zn0 0 64] S16 := h16
  rw [q16, Option.bind_some]
  exact ⟨_, rfl, h16⟩
def tZ0 : TZ := (2, 0, 0, fun _ _ => 0, fun _ _ => 0, fun _ _ => 0, fun _ _ => 0, fun _ _ _ _ => 0)
theorem cT00 {t : Nat} (h : cT 0 0 t) : t ≤ 10 := by
  unfold cT at h
  omega
theorem sof_10 : ∀ t, t ≤ 10 → sof t ≤ 10 ∧ sof t ≠ 99 := by decide +kernel
theorem zQ_start {n0 : Nat} {S : ZS} (h : hp n0 (stX n0) S) : zQ S (fun t => n0 + sof t) tZ0 := by
  have lv : ∀ t, live 0 0 t → t ≤ 10 := fun t ht => cT00 (ht.elim id False.elim)
  refine ⟨⟨Or.inl rfl, by omega, by omega, fun hh => absurd hh (Nat.not_lt_zero _)⟩, ?_, ?_⟩
  · intro t u ht hu hh
    have q1 := lv t ht
    have q2 := lv u hu
    exact sof_inj t (by omega) u (by omega) (sof_10 t q1).2 (sof_10 u q2).2 (Nat.add_left_cancel hh)
  · refine ⟨⟨?_, ?_, ?_⟩, ⟨⟨0, 0, ?_⟩, ⟨fun _ => 0, ?_⟩, ⟨0, ?_⟩, ⟨fun _ => 0, ?_⟩, ⟨fun _ => 0, ?_⟩, ⟨0, ?_⟩, ⟨fun _ => 0, ?_⟩, ⟨fun _ => 0, ?_⟩⟩, fun i hi => absurd hi (Nat.not_lt_zero _), fun i hi => absurd hi (Nat.not_lt_zero _)⟩
    · exact h.2 0 _ rfl
    · exact (h.2 1 _ rfl).trans rfl
    · exact (h.2 2 _ rfl).trans rfl
    · exact h.2 3 _ rfl
    · exact h.2 4 _ rfl
    · exact h.2 5 _ rfl
    · exact h.2 6 _ rfl
    · exact h.2 7 _ rfl
    · exact h.2 8 _ rfl
    · exact h.2 9 _ rfl
    · exact h.2 10 _ rfl
theorem zJ_start (n0 : Nat) : ∃ S1 S2 : ZS, fX5_init n0 (zno ((fun _ => none), n0) 5 [.null, .null, .null, .null, .null, .null, .int 0, .int 0, .int 0]) = some S1 ∧ fX5_init S1.2 (zno S1 5 [.null, .null, .null, .null, .null, .null, .int 0, .int 0, .int 0]) = some S2 ∧ zJ n0 tZ0 S1.2 tZ0 S2 := by
  obtain ⟨S1, e1, h1⟩ := init5b (fun _ => none) n0
  obtain ⟨S2, e2, h2⟩ := init5b S1.1 S1.2
  have a1 : S1.2 = n0 + 11 := h1.1
  have hq := zQ_start h1.hp
  refine ⟨S1, S2, e1, e2, fun t => n0 + sof t, fun t => S1.2 + sof t, rfl, rfl, hq.kp (fun t ht => h2.2.2 _ ?_), zQ_start h2.hp, fun t u ht hu => ?_⟩
  · have := (sof_10 t (cT00 ht)).1
    show n0 + sof t < S1.2
    omega
  · have := (sof_10 t (cT00 ht)).1
    show n0 + sof t ≠ S1.2 + sof u
    omega
/-- all calls -/
noncomputable def aO (j : Nat) (T : TZ) (l : List Int32) : Option (Int32 × TZ) := match j, l with
  | 0, [a1, a2, a3] => aCube T a1 a2 a3
  | 1, [a1, a2, a3] => aMat T a1 a2 a3
  | 2, [a1, a2] => aPoly T a1 a2
  | 3, [a1] => aGroup T a1
  | 4, [a1, a2, a3, a4, a5] => aSet T a1 a2 a3 a4 a5
  | 5, [a1, a2, a3, a4, a5] => aMove T a1 a2 a3 a4 a5
  | 6, [a1, a2] => aSum T a1 a2
  | 7, [a1, a2] => aProd T a1 a2
  | 8, [a1] => aWay T a1
  | 9, [a1, a2, a3, a4] => aMul T a1 a2 a3 a4
  | 10, [a1] => aPlain T a1
  | 11, [a1, a2, a3, a4] => aFlip T a1 a2 a3 a4
  | 12, [a1] => aRed T a1
  | 13, [a1, a2, a3] => aWalk T a1 a2 a3
  | 14, [a1, a2, a3, a4] => aAt T a1 a2 a3 a4
  | 15, [a1, a2] => aFlat T a1 a2
  | 16, [a1] => aBound T a1
  | 17, [a1] => aLeast 12 T a1
  | 18, [a1] => aLeast 8 T a1
  | 19, [a1, a2] => aOfWay T a1 a2
  | 20, [a1, a2, a3] => aVec T a1 a2 a3
  | 21, [a1, a2, a3, a4] => aRes T a1 a2 a3 a4
  | 22, [a1, a2, a3, a4] => aRbc T a1 a2 a3 a4
  | 24, [a1] => aPrime T a1
  | _, _ => none
def aL (T : TZ) (l : List Int32) : Option (Int64 × TZ) := match l with
  | [a1, a2, a3] => aLev T a1 a2 a3
  | _ => none
theorem zops : zOps zJ aO aL := by
  refine ⟨fun x T y U S h => h.sym, fun x T y U S n h => h.n n, fun x T y U S h => h.ob, fun x T y U S h hfr => ?_⟩
  obtain ⟨ad, bd, rfl, rfl, h3, h4, h5⟩ := h
  exact ⟨fun a1 a2 a3 => (op_cube h3 hfr a1 a2 a3).j hfr h3 h4 h5,
    fun a1 a2 a3 => (op_mat h3 hfr a1 a2 a3).j hfr h3 h4 h5,
    fun a1 a2 => (op_poly h3 hfr a1 a2).j hfr h3 h4 h5,
    fun a1 => (op_group h3 hfr a1).j hfr h3 h4 h5,
    fun a1 a2 a3 a4 a5 => (op_set h3 a1 a2 a3 a4 a5).j hfr h3 h4 h5,
    fun a1 a2 a3 a4 a5 => (op_move h3 a1 a2 a3 a4 a5).j hfr h3 h4 h5,
    fun a1 a2 => (op_sum h3 hfr a1 a2).j hfr h3 h4 h5,
    fun a1 a2 => (op_prod h3 hfr a1 a2).j hfr h3 h4 h5,
    fun a1 => (op_way h3 hfr a1).j hfr h3 h4 h5,
    fun a1 a2 a3 a4 => (op_mul h3 a1 a2 a3 a4).j hfr h3 h4 h5,
    fun a1 => (op_plain h3 a1).j hfr h3 h4 h5,
    fun a1 a2 a3 a4 => (op_flip h3 a1 a2 a3 a4).j hfr h3 h4 h5,
    fun a1 => (op_red h3 a1).j hfr h3 h4 h5,
    fun a1 a2 a3 => (op_walk h3 a1 a2 a3).j hfr h3 h4 h5,
    fun a1 a2 a3 a4 => (op_at h3 a1 a2 a3 a4).j hfr h3 h4 h5,
    fun a1 a2 => (op_flat h3 a1 a2).j hfr h3 h4 h5,
    fun a1 => (op_bound h3 a1).j hfr h3 h4 h5,
    fun a1 => (op_least h3 a1).j hfr h3 h4 h5,
    fun a1 => (op_anew h3 a1).j hfr h3 h4 h5,
    fun a1 a2 => (op_ofWay h3 a1 a2).j hfr h3 h4 h5,
    fun a1 a2 a3 => (op_vec h3 a1 a2 a3).j hfr h3 h4 h5,
    fun a1 a2 a3 a4 => (op_res h3 a1 a2 a3 a4).j hfr h3 h4 h5,
    fun a1 a2 a3 a4 => (op_rbc h3 a1 a2 a3 a4).j hfr h3 h4 h5,
    fun a1 a2 a3 => (op_lev h3 a1 a2 a3).j hfr h3 h4 h5,
    fun a1 => (op_prime h3 a1).j hfr h3 h4 h5⟩
