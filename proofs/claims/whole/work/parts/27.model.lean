/-! THE MODEL: what is in the heap, and its ways -/
def isA (i : Nat) : Prop := (3 ≤ i ∧ i ≤ 5) ∨ (7 ≤ i ∧ i ≤ 14)
def mN (i : Nat) : Nat := if i = 3 ∨ i = 7 then 48 else if i = 4 ∨ i = 8 then 1024 else if i = 5 ∨ i = 9 ∨ i = 10 then 16 else if i = 11 then 7680 else if i = 12 then 64 else 4096
theorem mN_lt (i : Nat) : mN i < 2147483648 := by unfold mN; split <;> (try split) <;> (try split) <;> (try split) <;> (try split) <;> omega
def mF (R : Nat → Nat) (X : Nat → Int32) : List Value := [.int (X 0), .int (X 1), .int (X 2), .ref (R 3), .ref (R 4), .ref (R 5), .int (X 6), .ref (R 7), .ref (R 8), .ref (R 9), .ref (R 10), .ref (R 11), .ref (R 12), .ref (R 13), .ref (R 14), .int (X 15), .ref (R 16), .int (X 17), .int (X 18)]
/-- a model at m: references R, numbers X, contents A -/
def zMo (S : ZS) (m : Nat) (R : Nat → Nat) (X : Nat → Int32) (A : Nat → Nat → Int32) : Prop :=
  zOb S m 6 (mF R X) ∧ (∀ i, isA i → zIA S (R i) (mN i) (A i)) ∧ zZA S (R 16) 5120 (A 16) ∧ (∀ i j, isA i → isA j → R i = R j → i = j)
def mP (m : Nat) (R : Nat → Nat) (b : Nat) : Prop := b = m ∨ b = R 16 ∨ ∃ i, isA i ∧ b = R i
def mS (A : Nat → Nat → Int32) (i : Nat) (f : Nat → Int32) : Nat → Nat → Int32 := fun j => if j = i then f else A j
theorem mS_self {A : Nat → Nat → Int32} {i : Nat} {f : Nat → Int32} : mS A i f i = f := if_pos rfl
theorem mS_ne {A : Nat → Nat → Int32} {i j : Nat} {f : Nat → Int32} (h : j ≠ i) : mS A i f j = A j := if_neg h
theorem ne_iz {S : ZS} {a b N M : Nat} {f g : Nat → Int32} (h1 : zIA S a N f) (h2 : zZA S b M g) : a ≠ b := by
  intro h; subst h
  have := (show S.1 a = _ from h1).symm.trans (show S.1 a = _ from h2)
  simp at this
theorem ne_oz {S : ZS} {a b k M : Nat} {fs : List Value} {g : Nat → Int32} (h1 : zOb S a k fs) (h2 : zZA S b M g) : a ≠ b := by
  intro h; subst h
  have := (show S.1 a = _ from h1).symm.trans (show S.1 a = _ from h2)
  simp at this
theorem zMo.rd {S : ZS} {m i x : Nat} {R : Nat → Nat} {X : Nat → Int32} {A : Nat → Nat → Int32} (h : zMo S m R X A) (hi : isA i) (hx : x < mN i) : zaI S (R i) 0 (ci x) = some (A i x) := zaI_ci (h.2.1 i hi) hx (mN_lt i)
theorem zMo.cl {α : Type} {S : ZS} {m : Nat} {R : Nat → Nat} {X : Nat → Int32} {A : Nat → Nat → Int32} {o : Option α} (h : zMo S m R X A) : zcl S m 6 o = o := zcl_ob h.1
theorem zMo.set {S : ZS} {m i : Nat} {R : Nat → Nat} {X : Nat → Int32} {A : Nat → Nat → Int32} (h : zMo S m R X A) (hi : isA i) (f : Nat → Int32) : zMo (zwI S (R i) (mN i) f) m R X (mS A i f) ∧ zFrm S (zwI S (R i) (mN i) f) (fun b => b = R i) := by
  have hf : zFrm S (zwI S (R i) (mN i) f) (fun b => b = R i) := zFrm.wI
  refine ⟨⟨hf.ob (ne_oi h.1 (h.2.1 i hi)) h.1, ?_, ?_, h.2.2.2⟩, hf⟩
  · intro j hj
    by_cases hji : j = i
    · subst hji; rw [mS_self]; exact zwI_self
    · rw [mS_ne hji]
      exact hf.ia (fun hh => hji (h.2.2.2 j i hj hi hh)) (h.2.1 j hj)
  · have h16 : (16 : Nat) ≠ i := by unfold isA at hi; omega
    rw [mS_ne h16]
    exact hf.za (fun hh => ne_iz (h.2.1 i hi) h.2.2.1 hh.symm) h.2.2.1
theorem zMo.wr {S : ZS} {m i x : Nat} {R : Nat → Nat} {X : Nat → Int32} {A : Nat → Nat → Int32} (h : zMo S m R X A) (hi : isA i) (hx : x < mN i) (val : Int32) : zsI S (R i) 0 (ci x) val = some (zwI S (R i) (mN i) (va_up (A i) x val)) := zsI_ci val (h.2.1 i hi) hx (mN_lt i)
def mX (X : Nat → Int32) (i : Nat) (x : Int32) : Nat → Int32 := fun j => if j = i then x else X j
theorem zMo.sx {S : ZS} {m : Nat} {R : Nat → Nat} {X X' : Nat → Int32} {A : Nat → Nat → Int32} (h : zMo S m R X A) : zMo (zwO S m 6 (mF R X')) m R X' A ∧ zFrm S (zwO S m 6 (mF R X')) (fun b => b = m) := by
  have hf : zFrm S (zwO S m 6 (mF R X')) (fun b => b = m) := zFrm.wO
  exact ⟨⟨zwO_self, fun i hi => hf.ia (fun hh => ne_oi h.1 (h.2.1 i hi) hh.symm) (h.2.1 i hi), hf.za (fun hh => ne_oz h.1 h.2.2.1 hh.symm) h.2.2.1, h.2.2.2⟩, hf⟩
theorem zMo.fr {S S1 : ZS} {m : Nat} {R : Nat → Nat} {X : Nat → Int32} {A : Nat → Nat → Int32} {P : Nat → Prop} (h : zMo S m R X A) (hf : zFrm S S1 P) (hP : ∀ b, mP m R b → ¬ P b) : zMo S1 m R X A :=
  ⟨hf.ob (hP m (Or.inl rfl)) h.1, fun i hi => hf.ia (hP _ (Or.inr (Or.inr ⟨i, hi, rfl⟩))) (h.2.1 i hi), hf.za (hP _ (Or.inr (Or.inl rfl))) h.2.2.1, h.2.2.2⟩
theorem A7 : isA 7 := Or.inr ⟨by omega, by omega⟩
theorem A10 : isA 10 := Or.inr ⟨by omega, by omega⟩
theorem A11 : isA 11 := Or.inr ⟨by omega, by omega⟩
theorem N7 : mN 7 = 48 := rfl
theorem N10 : mN 10 = 16 := rfl
theorem N11 : mN 11 = 7680 := rfl
/-- way w of the model -/
def mWy (X : Nat → Int32) (A : Nat → Nat → Int32) (w p a b d k : Nat) (v : Nat → Nat → Nat → Nat) : Prop :=
  w < 16 ∧ isP p ∧ szOK a b d ∧ k ≤ 40 ∧ X 1 = ci p ∧ (∀ s, s < 3 → A 7 (3 * w + s) = ci (sz3 a b d s)) ∧ A 10 w = ci k ∧ vOK p a b d k v ∧ (∀ q, q < k → ∀ s, s < 3 → ∀ j, j < sz3 a b d s → A 11 (480 * w + 12 * q + 4 * s + j) = ci (v q s j))
/-- but for way w's products nothing is otherwise -/
def mU (w : Nat) (A A' : Nat → Nat → Int32) : Prop := (∀ i, i ≠ 10 → i ≠ 11 → A' i = A i) ∧ (∀ x, x ≠ w → A' 10 x = A 10 x) ∧ ∀ x, ¬ (480 * w ≤ x ∧ x < 480 * w + 480) → A' 11 x = A 11 x
theorem mU.rf {w : Nat} {A : Nat → Nat → Int32} : mU w A A := ⟨fun _ _ _ => rfl, fun _ _ => rfl, fun _ _ => rfl⟩
theorem mU.tr {w : Nat} {A B C : Nat → Nat → Int32} (h1 : mU w A B) (h2 : mU w B C) : mU w A C := ⟨fun i a b => (h2.1 i a b).trans (h1.1 i a b), fun x a => (h2.2.1 x a).trans (h1.2.1 x a), fun x a => (h2.2.2 x a).trans (h1.2.2 x a)⟩
theorem mWy.kk {X : Nat → Int32} {A : Nat → Nat → Int32} {w p a b d k : Nat} {v : Nat → Nat → Nat → Nat} (h : mWy X A w p a b d k v) : k ≤ 40 := h.2.2.2.1
theorem mWy.si {X : Nat → Int32} {A : Nat → Nat → Int32} {w p a b d k s : Nat} {v : Nat → Nat → Nat → Nat} (h : mWy X A w p a b d k v) (hs : s < 3) : A 7 (3 * w + s) = ci (sz3 a b d s) := h.2.2.2.2.2.1 s hs
theorem mWy.at {X : Nat → Int32} {A : Nat → Nat → Int32} {w p a b d k q s j : Nat} {v : Nat → Nat → Nat → Nat} (h : mWy X A w p a b d k v) (hq : q < k) (hs : s < 3) (hj : j < sz3 a b d s) : A 11 (480 * w + 12 * q + 4 * s + j) = ci (v q s j) := h.2.2.2.2.2.2.2.2 q hq s hs j hj
theorem mWy.lt {X : Nat → Int32} {A : Nat → Nat → Int32} {w p a b d k q s j : Nat} {v : Nat → Nat → Nat → Nat} (h : mWy X A w p a b d k v) (hq : q < k) (hs : s < 3) (hj : j < sz3 a b d s) : v q s j < p := h.2.2.2.2.2.2.2.1 q hq s hs j hj
theorem mWy.n {X : Nat → Int32} {A : Nat → Nat → Int32} {w p a b d k : Nat} {v : Nat → Nat → Nat → Nat} (h : mWy X A w p a b d k v) : A 10 w = ci k := h.2.2.2.2.2.2.1
theorem mWy.s4 {X : Nat → Int32} {A : Nat → Nat → Int32} {w p a b d k s : Nat} {v : Nat → Nat → Nat → Nat} (h : mWy X A w p a b d k v) : 1 ≤ sz3 a b d s ∧ sz3 a b d s ≤ 4 := sz3_b h.2.2.1
theorem m_from (w q s : Nat) : fX6_from (ci w) (ci q) (ci s) = some (ci (480 * w + 12 * q + 4 * s)) := by
  unfold fX6_from
  rw [cl_480, cl_12, cl_4, ci_mul, ci_mul, ci_mul, ci_add, ci_add]
theorem m_size {S : ZS} {m w p a b d k s : Nat} {R : Nat → Nat} {X : Nat → Int32} {A : Nat → Nat → Int32} {v : Nat → Nat → Nat → Nat} (h : zMo S m R X A) (y : mWy X A w p a b d k v) (hs : s < 3) : zaI S (R 7) 0 ((3 : Int32) * ci w + ci s) = some (ci (sz3 a b d s)) := by
  have := y.1
  rw [cl_3, ci_mul, ci_add, h.rd A7 (by rw [N7]; omega), y.si hs]
theorem m_dig {S : ZS} {m w p a b d k q s j : Nat} {R : Nat → Nat} {X : Nat → Int32} {A : Nat → Nat → Int32} {v : Nat → Nat → Nat → Nat} (h : zMo S m R X A) (y : mWy X A w p a b d k v) (hq : q < k) (hs : s < 3) (hj : j < sz3 a b d s) : zaI S (R 11) 0 (ci (480 * w + 12 * q + 4 * s) + ci j) = some (ci (v q s j)) := by
  have := y.1
  have := y.kk
  have := y.s4 (s := s)
  rw [ci_add, h.rd A11 (by rw [N11]; omega), y.at hq hs hj]
theorem z_rem {x y : Nat} (hx : x < 2147483648) (hy : y < 2147483648) (h0 : 0 < y) : zrem (ci x) (ci y) = some (ci (x % y)) := by
  unfold zrem
  rw [if_neg (by rw [cl_0, ci_eq hy (by omega)]; omega), ci_mod hx hy]
def alq (v : Nat → Nat → Nat → Nat) (q r s i : Nat) : Bool := decide (∀ j, j < i → v q s j = v r s j)
theorem alq_0 {v : Nat → Nat → Nat → Nat} {q r s : Nat} : alq v q r s 0 = true := decide_eq_true (fun _ hj => absurd hj (Nat.not_lt_zero _))
def zvq (v : Nat → Nat → Nat → Nat) (q s i : Nat) : Bool := decide (∀ j, j < i → v q s j = 0)
theorem zvq_0 {v : Nat → Nat → Nat → Nat} {q s : Nat} : zvq v q s 0 = true := decide_eq_true (fun _ hj => absurd hj (Nat.not_lt_zero _))
theorem m_areAlike {S : ZS} {m w p a b d k q r s : Nat} {R : Nat → Nat} {X : Nat → Int32} {A : Nat → Nat → Int32} {v : Nat → Nat → Nat → Nat} (h : zMo S m R X A) (y : mWy X A w p a b d k v) (hq : q < k) (hr : r < k) (hs : s < 3) : fX6_areAlike m (ci w) (ci q) (ci r) (ci s) S = some (bI (al a b d v q r s)) := by
  have hn := y.s4 (s := s)
  have hp := y.2.1.b
  unfold fX6_areAlike
  have h0 : ((1 : Int32), (0 : Int32)) = (bI (alq v q r s 0), ci 0) := by
    rw [alq_0]; rfl
  rw [h0]
  refine ziter_seq (fun i => (bI (alq v q r s i), ci i)) _ (sz3 a b d s) zF (by rw [zF_eq]; omega) ?_ ?_
  · intro i hi
    have l1 := y.lt hq hs hi
    have l2 := y.lt hr hs hi
    unfold fX6_areAlike_B6 alq
    rw [zgR_ob h.1 rfl, Option.bind_some, m_size h y hs, Option.bind_some, if_neg (by rw [ci_le (by omega) (by omega)]; omega)]
    unfold fX6_areAlike_J64 fX6_areAlike_J65
    by_cases hd : ∀ j, j < i → v q s j = v r s j
    · rw [decide_eq_true hd, if_neg (show ¬ bI true = 0 by decide), zgR_ob h.1 rfl, Option.bind_some, m_from, Option.bind_some, m_dig h y hq hs hi, Option.bind_some, Option.bind_some, m_from, Option.bind_some, m_dig h y hr hs hi, Option.bind_some]
      by_cases he : v q s i = v r s i
      · rw [if_pos (by rw [he]), cl_1, ci_add, decide_eq_true (show ∀ j, j < i + 1 → v q s j = v r s j from fun j hj => by
          by_cases hji : j = i
          · rw [hji, he]
          · exact hd j (by omega))]
        rfl
      · rw [if_neg (by rw [ci_eq (by omega) (by omega)]; exact he), cl_1, ci_add, decide_eq_false (show ¬ ∀ j, j < i + 1 → v q s j = v r s j from fun hh => he (hh i (by omega)))]
        rfl
    · rw [decide_eq_false hd, if_pos bI_f, cl_1, ci_add, decide_eq_false (show ¬ ∀ j, j < i + 1 → v q s j = v r s j from fun hh => hd (fun j hj => hh j (by omega)))]
      rfl
  · unfold fX6_areAlike_B6 alq
    rw [zgR_ob h.1 rfl, Option.bind_some, m_size h y hs, Option.bind_some, if_pos (by rw [ci_le (by omega) (by omega)]; omega), zbl_bI, Option.bind_some, zex_some]
    rfl
theorem m_third {S : ZS} {m w p a b d k q r : Nat} {R : Nat → Nat} {X : Nat → Int32} {A : Nat → Nat → Int32} {v : Nat → Nat → Nat → Nat} (h : zMo S m R X A) (y : mWy X A w p a b d k v) (hq : q < k) (hr : r < k) : fX6_third m (ci w) (ci q) (ci r) S = some (tI (th a b d v q r)) := by
  unfold fX6_third
  rw [cl_0, cl_1, cl_2, h.cl, m_areAlike h y hq hr (by omega), Option.bind_some, h.cl, m_areAlike h y hq hr (by omega), Option.bind_some, h.cl, m_areAlike h y hq hr (by omega), Option.bind_some]
  unfold th fX6_third_J44 fX6_third_J58 fX6_third_J72 fX6_third_J73 tI
  cases al a b d v q r 0 <;> cases al a b d v q r 1 <;> cases al a b d v q r 2 <;> rfl
theorem m_isNothing {S : ZS} {m w p a b d k q : Nat} {R : Nat → Nat} {X : Nat → Int32} {A : Nat → Nat → Int32} {v : Nat → Nat → Nat → Nat} (h : zMo S m R X A) (y : mWy X A w p a b d k v) (hq : q < k) : fX6_isNothing m (ci w) (ci q) S = some (bI (hz a b d v q)) := by
  have inn : ∀ (x : Bool) (s : Nat), s < 3 → fX6_isNothing_B5 m (ci w) (ci q) S (bI x, ci s) = some (.inl (bI (x || zv a b d v q s), ci (s + 1))) := by
    intro x s hs
    have hn := y.s4 (s := s)
    have hp := y.2.1.b
    unfold fX6_isNothing_B5
    simp only []
    rw [cl_3, if_neg (by rw [ci_le (by omega) (by omega)]; omega)]
    have h0 : ((1 : Int32), (0 : Int32)) = (bI (zvq v q s 0), ci 0) := by
      rw [zvq_0]; rfl
    rw [h0]
    refine ziter_seq (fun i => (bI (zvq v q s i), ci i)) _ (sz3 a b d s) zF (by rw [zF_eq]; omega) ?_ ?_
    · intro i hi
      have l1 := y.lt hq hs hi
      unfold fX6_isNothing_B17 zvq
      rw [zgR_ob h.1 rfl, Option.bind_some, m_size h y hs, Option.bind_some, if_neg (by rw [ci_le (by omega) (by omega)]; omega)]
      unfold fX6_isNothing_J60 fX6_isNothing_J61
      by_cases hd : ∀ j, j < i → v q s j = 0
      · rw [decide_eq_true hd, if_neg (show ¬ bI true = 0 by decide), zgR_ob h.1 rfl, Option.bind_some, m_from, Option.bind_some, m_dig h y hq hs hi, Option.bind_some]
        by_cases he : v q s i = 0
        · rw [if_pos (by rw [he]; rfl), cl_1, ci_add, decide_eq_true (show ∀ j, j < i + 1 → v q s j = 0 from fun j hj => by
            by_cases hji : j = i
            · rw [hji, he]
            · exact hd j (by omega))]
          rfl
        · rw [if_neg (by rw [cl_0, ci_eq (by omega) (by omega)]; exact he), cl_1, ci_add, decide_eq_false (show ¬ ∀ j, j < i + 1 → v q s j = 0 from fun hh => he (hh i (by omega)))]
          rfl
      · rw [decide_eq_false hd, if_pos bI_f, cl_1, ci_add, decide_eq_false (show ¬ ∀ j, j < i + 1 → v q s j = 0 from fun hh => hd (fun j hj => hh j (by omega)))]
        rfl
    · unfold fX6_isNothing_B17 zvq
      rw [zgR_ob h.1 rfl, Option.bind_some, m_size h y hs, Option.bind_some, if_pos (by rw [ci_le (by omega) (by omega)]; omega)]
      unfold fX6_isNothing_J78 fX6_isNothing_J83 zv
      rw [cl_1, ci_add]
      cases x <;> cases decide (∀ j, j < sz3 a b d s → v q s j = 0) <;> rfl
  unfold fX6_isNothing
  rw [zF_eq, show ((0 : Int32), (0 : Int32)) = (bI false, ci 0) from rfl, ziter_1 (inn false 0 (by omega)), ziter_1 (inn _ 1 (by omega)), ziter_1 (inn _ 2 (by omega)), ziter_0 (r := bI (hz a b d v q))]
  unfold fX6_isNothing_B5
  simp only []
  rw [cl_3, if_pos (by rw [ci_le (by omega) (by omega)]; omega), zbl_bI, Option.bind_some, zex_some, Bool.false_or]
  rfl
