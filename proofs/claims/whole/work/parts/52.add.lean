/-! A NEW CUBE: the class's -/
def zwQ (S : ZS) (a t N : Nat) (F : Nat → Option Nat) : ZS := (va_up S.1 a (some (.inl (t, N, .inr (.inr (.inr (.inr F)))))), S.2)
theorem zsQ_ci {S : ZS} {a t N i x k : Nat} {F : Nat → Option Nat} {fs : List Value} (h : zRA S a t N F) (hx : zOb S x k fs) (hi : i < N) (hN : N < 2147483648) : zsQ S a t k (ci i) x = some (zwQ S a t N (va_up F i (some x))) := by
  unfold zsQ
  rw [show S.1 a = _ from h]
  simp only [ci_nat (show i < 2147483648 by omega)]
  rw [if_pos ⟨trivial, fun q => q.elim (ci_nneg (by omega)) (by omega)⟩, zcl_ob hx]
  rfl
theorem c_new {S : ZS} {a b d : Nat} : ∃ S1, fX0_init S.2 (ci a) (ci b) (ci d) (zno S 0 [.int 0, .int 0, .int 0, .null, .int 0]) = some S1 ∧ zCu S1 S.2 (S.2 + 1) a b d 0 (fun _ => 0) ∧ S1.2 = S.2 + 2 ∧ ∀ x, x ≠ S.2 → x ≠ S.2 + 1 → S1.1 x = S.1 x := by
  have h0 : zOb (zno S 0 [.int 0, .int 0, .int 0, .null, .int 0]) S.2 0 [.int 0, .int 0, .int 0, .null, .int 0] := va_up_self _ _ _
  obtain ⟨T3, hT3⟩ : ∃ T3, T3 = zwO (zwO (zwO (zno S 0 [.int 0, .int 0, .int 0, .null, .int 0]) S.2 0 [.int (ci a), .int 0, .int 0, .null, .int 0]) S.2 0 [.int (ci a), .int (ci b), .int 0, .null, .int 0]) S.2 0 [.int (ci a), .int (ci b), .int (ci d), .null, .int 0] := ⟨_, rfl⟩
  have h3 : zOb T3 S.2 0 [.int (ci a), .int (ci b), .int (ci d), .null, .int 0] := by rw [hT3]; exact zwO_self
  have h32 : T3.2 = S.2 + 1 := by rw [hT3]; rfl
  have h3k : ∀ x, x ≠ S.2 → T3.1 x = S.1 x := fun x hx => by
    rw [hT3, zwO_ne hx, zwO_ne hx, zwO_ne hx]
    exact va_up_ne _ _ hx
  have h4 : zOb (zna T3 0 64) S.2 0 [.int (ci a), .int (ci b), .int (ci d), .null, .int 0] := (va_up_ne _ _ (by omega)).trans h3
  have h5 : zIA (zna T3 0 64) (S.2 + 1) 64 (fun _ => 0) := by
    show (va_up T3.1 T3.2 (some (zn0 0 64))) (S.2 + 1) = _
    rw [h32, va_up_self]; rfl
  have f6 : zFrm (zna T3 0 64) (zwO (zwO (zna T3 0 64) S.2 0 [.int (ci a), .int (ci b), .int (ci d), .ref (S.2 + 1), .int 0]) S.2 0 [.int (ci a), .int (ci b), .int (ci d), .ref (S.2 + 1), .int 0]) (fun x => x = S.2) := zFrm.wO.tr zFrm.wO
  refine ⟨zwO (zwO (zna T3 0 64) S.2 0 [.int (ci a), .int (ci b), .int (ci d), .ref (S.2 + 1), .int 0]) S.2 0 [.int (ci a), .int (ci b), .int (ci d), .ref (S.2 + 1), .int 0], ?_, ⟨zwO_self, f6.ia (by omega) h5⟩, ?_, fun x h1 h2 => ?_⟩
  · unfold fX0_init
    rw [zpF_ob _ h0 (by simp), Option.bind_some, zpF_ob _ zwO_self (by simp), Option.bind_some, zpF_ob _ zwO_self (by simp), Option.bind_some]
    show Option.bind (zpF (zna (zwO (zwO (zwO (zno S 0 [.int 0, .int 0, .int 0, .null, .int 0]) S.2 0 [.int (ci a), .int 0, .int 0, .null, .int 0]) S.2 0 [.int (ci a), .int (ci b), .int 0, .null, .int 0]) S.2 0 [.int (ci a), .int (ci b), .int (ci d), .null, .int 0]) 0 64) S.2 0 3 (.ref (zwO (zwO (zwO (zno S 0 [.int 0, .int 0, .int 0, .null, .int 0]) S.2 0 [.int (ci a), .int 0, .int 0, .null, .int 0]) S.2 0 [.int (ci a), .int (ci b), .int 0, .null, .int 0]) S.2 0 [.int (ci a), .int (ci b), .int (ci d), .null, .int 0]).2)) _ = _
    rw [← hT3, h32, zpF_ob _ h4 (by simp), Option.bind_some]
    show Option.bind (zpF (zwO (zna T3 0 64) S.2 0 [.int (ci a), .int (ci b), .int (ci d), .ref (S.2 + 1), .int 0]) S.2 0 4 (.int 0)) _ = _
    rw [zpF_ob _ zwO_self (by simp), Option.bind_some]
    rfl
  · show T3.2 + 1 = S.2 + 2
    rw [h32]
  · rw [zwO_ne h1, zwO_ne h1]
    show (va_up T3.1 T3.2 (some (zn0 0 64))) x = _
    rw [h32, va_up_ne _ _ h2]
    exact h3k x h1
