def zI0 : Nat → Nat → Nat → ZS → Prop := fun _ _ _ _ => True
theorem zowed : zOwed zI0 := sorry
