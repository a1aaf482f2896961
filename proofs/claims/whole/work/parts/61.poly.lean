/-! LAW CASE 3: polynomials, the numbers -/
def pG (a b t x : Nat) : Nat := if x / 16 < a ∧ x / 4 % 4 < b ∧ x % 4 = x / 16 + x / 4 % 4 ∧ x / 4 < t ∧ x < 64 then 1 else 0
theorem pG_0 (a b : Nat) : pG a b 0 = fun _ => 0 := by
  funext x
  unfold pG
  rw [if_neg (by omega)]
theorem pG_row {a b i : Nat} (hb : b ≤ 4) : pG a b (i * 4 + b) = pG a b ((i + 1) * 4) := by
  funext x
  unfold pG
  by_cases h : x / 16 < a ∧ x / 4 % 4 < b ∧ x % 4 = x / 16 + x / 4 % 4 ∧ x / 4 < i * 4 + b ∧ x < 64
  · rw [if_pos h, if_pos (by omega)]
  · rw [if_neg h, if_neg (by omega)]
theorem pG_step {a b i j : Nat} (ha : a + b - 1 ≤ 4) (hb : b ≤ 4) (ha4 : a ≤ 4) (hi : i < a) (hj : j < b) : va_up (pG a b (i * 4 + j)) (ix i j (i + j)) 1 = pG a b (i * 4 + j + 1) := by
  have hd := ix_16 (i := i) (j := j) (k := i + j) (by omega) (by omega)
  funext x
  unfold va_up
  by_cases hx : x = ix i j (i + j)
  · rw [if_pos hx, hx]
    unfold pG
    rw [hd.1, hd.2.1, hd.2.2, if_pos ⟨hi, hj, rfl, by unfold ix; omega, by unfold ix; omega⟩]
  · rw [if_neg hx]
    unfold pG
    by_cases h : x / 16 < a ∧ x / 4 % 4 < b ∧ x % 4 = x / 16 + x / 4 % 4 ∧ x / 4 < i * 4 + j ∧ x < 64
    · rw [if_pos h, if_pos (by omega)]
    · rw [if_neg h, if_neg]
      intro hh
      by_cases hq : x / 4 < i * 4 + j
      · exact h ⟨hh.1, hh.2.1, hh.2.2.1, hq, hh.2.2.2.2⟩
      · have e : x / 4 = i * 4 + j := by omega
        have e1 : x / 16 = i := by omega
        have e2 : x / 4 % 4 = j := by omega
        have e3 := hh.2.2.1
        rw [e1, e2] at e3
        exact hx (by unfold ix; omega)
theorem pG_ok {p a b t : Nat} (hp : isP p) : cOK p a b (a + b - 1) (pG a b t) := by
  have := hp.b
  refine ⟨fun x _ => ?_, fun i j k hi hj hk hn => ?_⟩
  · unfold pG; split <;> omega
  · have hd := ix_16 (i := i) hj hk
    unfold pG
    rw [hd.1, hd.2.1, hd.2.2, if_neg (by omega)]
