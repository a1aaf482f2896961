/-! LAW CASE 4: group, the model's loops -/
theorem mV.rf {i : Nat} {A : Nat → Nat → Int32} : mV i A A := ⟨fun _ _ _ => rfl, fun _ _ => rfl, fun _ _ => rfl⟩
theorem mV.tr {i : Nat} {A B C : Nat → Nat → Int32} (h1 : mV i A B) (h2 : mV i B C) : mV i A C := ⟨fun j a b => (h2.1 j a b).trans (h1.1 j a b), fun x a => (h2.2.1 x a).trans (h1.2.1 x a), fun x a => (h2.2.2 x a).trans (h1.2.2 x a)⟩
/-- a number written into cube i of the model -/
theorem m_put {S : ZS} {m i x v : Nat} {R : Nat → Nat} {X : Nat → Int32} {A : Nat → Nat → Int32} {g : Nat → Nat} (h : zMo S m R X A) (hi : i < 16) (hx : x < 64) (hg : ∀ y, y < 64 → A 4 (64 * i + y) = ci (g y)) : ∃ S1 A1, zsI S (R 4) 0 (ci (64 * i + x)) (ci v) = some S1 ∧ zMo S1 m R X A1 ∧ (∀ y, y < 64 → A1 4 (64 * i + y) = ci (va_up g x v y)) ∧ mV i A A1 ∧ A1 5 = A 5 ∧ zFrm S S1 (mP m R) := by
  have t := h.set A4i (va_up (A 4) (64 * i + x) (ci v))
  refine ⟨_, _, h.wr A4i (by rw [N4]; omega) _, t.1, fun y hy => ?_, ⟨fun j a b => mS_ne a, fun y hy => by rw [mS_ne (by omega)], fun y hy => by rw [mS_self, va_up_ne _ _ (by omega)]⟩, mS_ne (by omega), t.2.wk (fun b hb => Or.inr (Or.inr ⟨4, A4i, hb⟩))⟩
  rw [mS_self]
  unfold va_up
  by_cases hyx : y = x
  · rw [if_pos (by omega), if_pos hyx]
  · rw [if_neg (by omega), if_neg hyx]; exact hg y hy
