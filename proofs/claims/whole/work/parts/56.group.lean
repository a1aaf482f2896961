/-! LAW CASE 4: group, the numbers -/
/-- the group's numbers, of the first t places of (first, second) in rows of 4 -/
def gG (n t x : Nat) : Nat := if x / 16 < n ∧ x / 4 % 4 < n ∧ x % 4 = (x / 16 + x / 4 % 4) % n ∧ x / 4 < t ∧ x < 64 then 1 else 0
theorem gG_0 (n : Nat) : gG n 0 = fun _ => 0 := by
  funext x
  unfold gG
  rw [if_neg (by omega)]
theorem gG_row {n i : Nat} : gG n (i * 4 + n) = gG n ((i + 1) * 4) ∨ 4 < n := by
  by_cases hn : n ≤ 4
  · left
    funext x
    unfold gG
    by_cases h : x / 16 < n ∧ x / 4 % 4 < n ∧ x % 4 = (x / 16 + x / 4 % 4) % n ∧ x / 4 < i * 4 + n ∧ x < 64
    · rw [if_pos h, if_pos ⟨h.1, h.2.1, h.2.2.1, by omega, h.2.2.2.2⟩]
    · rw [if_neg h, if_neg (fun hh => h ⟨hh.1, hh.2.1, hh.2.2.1, by omega, hh.2.2.2.2⟩)]
  · right; omega
theorem gG_step {n i j : Nat} (hn : n ≤ 4) (hi : i < n) (hj : j < n) : va_up (gG n (i * 4 + j)) (ix i j ((i + j) % n)) 1 = gG n (i * 4 + j + 1) := by
  have hk : (i + j) % n < n := Nat.mod_lt _ (by omega)
  obtain ⟨k, hke⟩ : ∃ k, k = (i + j) % n := ⟨_, rfl⟩
  rw [← hke] at hk ⊢
  have hd := ix_16 (i := i) (j := j) (k := k) (by omega) (by omega)
  funext x
  unfold va_up
  by_cases hx : x = ix i j k
  · rw [if_pos hx, hx]
    unfold gG
    rw [hd.1, hd.2.1, hd.2.2, if_pos ⟨hi, hj, hke, by unfold ix; omega, by unfold ix; omega⟩]
  · rw [if_neg hx]
    unfold gG
    by_cases h : x / 16 < n ∧ x / 4 % 4 < n ∧ x % 4 = (x / 16 + x / 4 % 4) % n ∧ x / 4 < i * 4 + j ∧ x < 64
    · rw [if_pos h, if_pos ⟨h.1, h.2.1, h.2.2.1, by omega, h.2.2.2.2⟩]
    · rw [if_neg h, if_neg]
      intro hh
      by_cases hq : x / 4 < i * 4 + j
      · exact h ⟨hh.1, hh.2.1, hh.2.2.1, hq, hh.2.2.2.2⟩
      · have e : x / 4 = i * 4 + j := by omega
        have e1 : x / 16 = i := by omega
        have e2 : x / 4 % 4 = j := by omega
        have e3 := hh.2.2.1
        rw [e1, e2, ← hke] at e3
        exact hx (by unfold ix; omega)
