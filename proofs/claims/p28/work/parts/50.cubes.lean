-- 50.set.lean.txt
/-! LAW CASE 5: set -/
def upC (CA : Nat → Nat → Nat) (i sq : Nat) : Nat → Nat → Nat := fun j => if j = i then (fun s => if s = 3 then sq else CA i s) else CA j
def upG (CG : Nat → Nat → Nat) (i : Nat) (g : Nat → Nat) : Nat → Nat → Nat := fun j => if j = i then g else CG j
theorem upC_ne {CA : Nat → Nat → Nat} {i q j : Nat} (h : j ≠ i) : upC CA i q j = CA j := if_neg h
theorem upC_self {CA : Nat → Nat → Nat} {i q : Nat} : upC CA i q i = (fun s => if s = 3 then q else CA i s) := if_pos rfl
theorem upG_ne {CG : Nat → Nat → Nat} {i j : Nat} {g : Nat → Nat} (h : j ≠ i) : upG CG i g j = CG j := if_neg h
theorem upG_self {CG : Nat → Nat → Nat} {i : Nat} {g : Nat → Nat} : upG CG i g i = g := if_pos rfl
/-- but for cube i's numbers and square nothing is otherwise -/
def mV (i : Nat) (A A' : Nat → Nat → Int32) : Prop := (∀ j, j ≠ 4 → j ≠ 5 → A' j = A j) ∧ (∀ x, x ≠ i → A' 5 x = A 5 x) ∧ ∀ x, ¬ (64 * i ≤ x ∧ x < 64 * i + 64) → A' 4 x = A 4 x
theorem cube_cl {S S1 : ZS} {ad : Nat → Nat} {p cc wc i sq : Nat} {CA CG WA WG : Nat → Nat → Nat} {WV : Nat → Nat → Nat → Nat → Nat} {g : Nat → Nat} (hcc : cc ≤ 16) (hin : zInj ad cc wc) (hcl : zCl S ad p cc wc CA CG WA WG WV) (hi : i < cc)
    (hf : zFrm S S1 (fun b => b = ad (100 + 2 * i) ∨ b = ad (101 + 2 * i))) (hc : zCu S1 (ad (100 + 2 * i)) (ad (101 + 2 * i)) (CA i 0) (CA i 1) (CA i 2) sq g) (hg : cOK p (CA i 0) (CA i 1) (CA i 2) g) (hq : sq ≤ 4) :
    zCl S1 ad p cc wc (upC CA i sq) (upG CG i g) WA WG WV ∧ ∀ t, live cc wc t → t ≠ 100 + 2 * i → t ≠ 101 + 2 * i → S1.1 (ad t) = S.1 (ad t) := by
  have l0 : live cc wc (100 + 2 * i) := Or.inl (Or.inr (Or.inl (by omega)))
  have l3 : live cc wc (101 + 2 * i) := Or.inl (Or.inr (Or.inl (by omega)))
  have kp : ∀ t, live cc wc t → t ≠ 100 + 2 * i → t ≠ 101 + 2 * i → S1.1 (ad t) = S.1 (ad t) := fun t ht h1 h2 => hf.2 _ (fun hh => by
    rcases hh with hh | hh
    · exact h1 (hin _ _ ht l0 hh)
    · exact h2 (hin _ _ ht l3 hh))
  have kl : ∀ t, t ≤ 10 → S1.1 (ad t) = S.1 (ad t) := fun t ht => kp t (Or.inl (Or.inl ht)) (by omega) (by omega)
  obtain ⟨⟨a1, a2, a3⟩, b1, c1, d1⟩ := hcl
  refine ⟨⟨⟨(kl 10 (by omega)).trans a1, (kl 0 (by omega)).trans a2, (kl 1 (by omega)).trans a3⟩, b1.kp (fun t ht => kl t (by omega)), fun j hj => ?_, fun j hj => (d1 j hj).kp (fun l hl => kp _ (Or.inl (Or.inr (Or.inr (by omega)))) (by omega) (by omega))⟩, kp⟩
  by_cases hji : j = i
  · subst hji
    rw [upC_self, upG_self]
    exact ⟨hc, (c1 j hj).2.1, hg, hq⟩
  · rw [upC_ne hji, upG_ne hji]
    exact (c1 j hj).kp (kp _ (Or.inl (Or.inr (Or.inl (by omega)))) (by omega) (by omega)) (kp _ (Or.inl (Or.inr (Or.inl (by omega)))) (by omega) (by omega))
theorem zwO_cu {S : ZS} {c n a b d q : Nat} {g : Nat → Nat} (q' : Nat) (h : zCu S c n a b d q g) : ∃ S1, zpF S c 0 4 (.int (ci q')) = some S1 ∧ zCu S1 c n a b d q' g ∧ zFrm S S1 (fun b => b = c) := by
  have hf : zFrm S (zwO S c 0 [.int (ci a), .int (ci b), .int (ci d), .ref n, .int (ci q')]) (fun b => b = c) := zFrm.wO
  exact ⟨_, zpF_ob _ h.1 (by simp), ⟨zwO_self, hf.ia (fun hh => ne_oi h.1 h.2 hh.symm) h.2⟩, hf⟩
-- 51.make.lean.txt
/-! A NEW CUBE: the model's -/
def mZ (cc : Nat) (A A' : Nat → Nat → Int32) : Prop := (∀ j, j ≠ 3 → j ≠ 4 → j ≠ 5 → A' j = A j) ∧ (∀ x, x < 3 * cc → A' 3 x = A 3 x) ∧ (∀ x, x < 64 * cc → A' 4 x = A 4 x) ∧ ∀ x, x < cc → A' 5 x = A 5 x
-- 52.add.lean.txt
/-! A NEW CUBE: the class's -/
def zwQ (S : ZS) (a t N : Nat) (F : Nat → Option Nat) : ZS := (va_up S.1 a (some (.inl (t, N, .inr (.inr (.inr (.inr F)))))), S.2)
theorem zsQ_ci {S : ZS} {a t N i x k : Nat} {F : Nat → Option Nat} {fs : List Value} (h : zRA S a t N F) (hx : zOb S x k fs) (hi : i < N) (hN : N < 2147483648) : zsQ S a t k (ci i) x = some (zwQ S a t N (va_up F i (some x))) := by
  unfold zsQ
  rw [show S.1 a = _ from h]
  simp only [ci_nat (show i < 2147483648 by omega)]
  rw [if_pos ⟨trivial, fun q => q.elim (ci_nneg (by omega)) (by omega)⟩, zcl_ob hx]
  rfl
theorem c_new {S : ZS} {a b d : Nat} : ∃ S1, fX0_init S.2 (ci a) (ci b) (ci d) (zno S 0 [.int 0, .int 0, .int 0, .null, .int 0]) = some S1 ∧ zCu S1 S.2 (S.2 + 1) a b d 0 (fun _ => 0) ∧ S1.2 = S.2 + 2 ∧ ∀ x, x ≠ S.2 → x ≠ S.2 + 1 → S1.1 x = S.1 x := by
  have h0 : zOb (zno S 0 [.int 0, .int 0, .int 0, .null, .int 0]) S.2 0 [.int 0, .int 0, .int 0, .null, .int 0] := va_up_self _ _ _
  obtain ⟨T3, hT3⟩ : ∃ T3, T3 = zwO (zwO (zwO (zno S 0 [.int 0, .int 0, .int 0, .null, .int 0]) S.2 0 [.int (ci a), .int 0, .int 0, .null, .int 0]) S.2 0 [.int (ci a), .int (ci b), .int 0, .null, .int 0]) S.2 0 [.int (ci a), .int (ci b), .int (ci d), .null, .int 0] := ⟨_, rfl⟩
  have h3 : zOb T3 S.2 0 [.int (ci a), .int (ci b), .int (ci d), .null, .int 0] := by rw [hT3]; exact zwO_self
  have h32 : T3.2 = S.2 + 1 := by rw [hT3]; rfl
  have h3k : ∀ x, x ≠ S.2 → T3.1 x = S.1 x := fun x hx => by
    rw [hT3, zwO_ne hx, zwO_ne hx, zwO_ne hx]
    exact va_up_ne _ _ hx
  have h4 : zOb (zna T3 0 64) S.2 0 [.int (ci a), .int (ci b), .int (ci d), .null, .int 0] := (va_up_ne _ _ (by omega)).trans h3
  have h5 : zIA (zna T3 0 64) (S.2 + 1) 64 (fun _ => 0) := by
    show (va_up T3.1 T3.2 (some (zn0 0 64))) (S.2 + 1) = _
    rw [h32, va_up_self]; rfl
  have f6 : zFrm (zna T3 0 64) (zwO (zwO (zna T3 0 64) S.2 0 [.int (ci a), .int (ci b), .int (ci d), .ref (S.2 + 1), .int 0]) S.2 0 [.int (ci a), .int (ci b), .int (ci d), .ref (S.2 + 1), .int 0]) (fun x => x = S.2) := zFrm.wO.tr zFrm.wO
  refine ⟨zwO (zwO (zna T3 0 64) S.2 0 [.int (ci a), .int (ci b), .int (ci d), .ref (S.2 + 1), .int 0]) S.2 0 [.int (ci a), .int (ci b), .int (ci d), .ref (S.2 + 1), .int 0], ?_, ⟨zwO_self, f6.ia (by omega) h5⟩, ?_, fun x h1 h2 => ?_⟩
  · unfold fX0_init
    rw [zpF_ob _ h0 (by simp), Option.bind_some, zpF_ob _ zwO_self (by simp), Option.bind_some, zpF_ob _ zwO_self (by simp), Option.bind_some]
    show Option.bind (zpF (zna (zwO (zwO (zwO (zno S 0 [.int 0, .int 0, .int 0, .null, .int 0]) S.2 0 [.int (ci a), .int 0, .int 0, .null, .int 0]) S.2 0 [.int (ci a), .int (ci b), .int 0, .null, .int 0]) S.2 0 [.int (ci a), .int (ci b), .int (ci d), .null, .int 0]) 0 64) S.2 0 3 (.ref (zwO (zwO (zwO (zno S 0 [.int 0, .int 0, .int 0, .null, .int 0]) S.2 0 [.int (ci a), .int 0, .int 0, .null, .int 0]) S.2 0 [.int (ci a), .int (ci b), .int 0, .null, .int 0]) S.2 0 [.int (ci a), .int (ci b), .int (ci d), .null, .int 0]).2)) _ = _
    rw [← hT3, h32, zpF_ob _ h4 (by simp), Option.bind_some]
    show Option.bind (zpF (zwO (zna T3 0 64) S.2 0 [.int (ci a), .int (ci b), .int (ci d), .ref (S.2 + 1), .int 0]) S.2 0 4 (.int 0)) _ = _
    rw [zpF_ob _ zwO_self (by simp), Option.bind_some]
    rfl
  · show T3.2 + 1 = S.2 + 2
    rw [h32]
  · rw [zwO_ne h1, zwO_ne h1]
    show (va_up T3.1 T3.2 (some (zn0 0 64))) x = _
    rw [h32, va_up_ne _ _ h2]
    exact h3k x h1
-- 53.addcube.lean.txt
/-! A NEW CUBE in the class: addCube -/
theorem live_some {S : ZS} {ad : Nat → Nat} {p cc wc t : Nat} {CA CG WA WG : Nat → Nat → Nat} {WV : Nat → Nat → Nat → Nat → Nat} (hcl : zCl S ad p cc wc CA CG WA WG WV) (ht : live cc wc t) : ∃ e, S.1 (ad t) = some e := by
  obtain ⟨⟨a1, a2, a3⟩, ⟨⟨r, q, h1⟩, ⟨f2, h2⟩, ⟨c, h3⟩, ⟨f4, h4⟩, ⟨f5, h5⟩, ⟨c6, h6⟩, ⟨f7, h7⟩, f8, h8⟩, c1, d1⟩ := hcl
  rcases ht with (ht | ⟨h9, h10⟩ | ⟨h9, h10⟩) | ht
  · have : t = 0 ∨ t = 1 ∨ t = 2 ∨ t = 3 ∨ t = 4 ∨ t = 5 ∨ t = 6 ∨ t = 7 ∨ t = 8 ∨ t = 9 ∨ t = 10 := by omega
    rcases this with rfl | rfl | rfl | rfl | rfl | rfl | rfl | rfl | rfl | rfl | rfl
    · exact ⟨_, a2⟩
    · exact ⟨_, a3⟩
    · exact ⟨_, h1⟩
    · exact ⟨_, h3⟩
    · exact ⟨_, h6⟩
    · exact ⟨_, h8⟩
    · exact ⟨_, h2⟩
    · exact ⟨_, h4⟩
    · exact ⟨_, h5⟩
    · exact ⟨_, h7⟩
    · exact ⟨_, a1⟩
  · have hc := (c1 ((t - 100) / 2) (by omega)).1
    by_cases he : t = 100 + 2 * ((t - 100) / 2)
    · rw [he]; exact ⟨_, hc.1⟩
    · rw [show t = 101 + 2 * ((t - 100) / 2) by omega]; exact ⟨_, hc.2⟩
  · obtain ⟨hp, hsz, hk, hw, hc, hv, W, hW, hWv⟩ := (d1 ((t - 200) / 4) (by omega)).1
    have : t = 200 + 4 * ((t - 200) / 4) ∨ t = 201 + 4 * ((t - 200) / 4) ∨ t = 202 + 4 * ((t - 200) / 4) ∨ t = 203 + 4 * ((t - 200) / 4) := by omega
    rcases this with he | he | he | he
    · rw [he]; exact ⟨_, hw⟩
    · rw [he]; exact ⟨_, hc.1⟩
    · rw [he]; exact ⟨_, hc.2⟩
    · rw [he]; exact ⟨_, hW⟩
  · exact ht.elim
def adN (ad : Nat → Nat) (cc n : Nat) : Nat → Nat := fun t => if t = 100 + 2 * cc then n else if t = 101 + 2 * cc then n + 1 else ad t
def upN (CA : Nat → Nat → Nat) (cc a b d sq : Nat) : Nat → Nat → Nat := fun j => if j = cc then (fun s => if s = 0 then a else if s = 1 then b else if s = 2 then d else sq) else CA j
theorem adN_old {ad : Nat → Nat} {cc n t : Nat} (h1 : t ≠ 100 + 2 * cc) (h2 : t ≠ 101 + 2 * cc) : adN ad cc n t = ad t := by
  unfold adN
  rw [if_neg h1, if_neg h2]
theorem adN_0 {ad : Nat → Nat} {cc n : Nat} : adN ad cc n (100 + 2 * cc) = n := if_pos rfl
theorem adN_1 {ad : Nat → Nat} {cc n : Nat} : adN ad cc n (101 + 2 * cc) = n + 1 := by
  unfold adN
  rw [if_neg (by omega), if_pos rfl]
theorem live_old {cc wc t : Nat} (hcc : cc ≤ 16) (h : live cc wc t) : t ≠ 100 + 2 * cc ∧ t ≠ 101 + 2 * cc := by
  rcases h with h | h
  · unfold cT at h
    omega
  · exact h.elim
theorem live_new {cc wc t : Nat} (h : live (cc + 1) wc t) : live cc wc t ∨ t = 100 + 2 * cc ∨ t = 101 + 2 * cc := by
  rcases h with (h | h | h) | h
  · exact Or.inl (Or.inl (Or.inl h))
  · by_cases h9 : t < 100 + 2 * cc
    · exact Or.inl (Or.inl (Or.inr (Or.inl ⟨h.1, h9⟩)))
    · exact Or.inr (by omega)
  · exact Or.inl (Or.inl (Or.inr (Or.inr h)))
  · exact h.elim
theorem adN_inj {ad : Nat → Nat} {cc wc n : Nat} (hcc : cc ≤ 16) (hin : zInj ad cc wc) (hlt : ∀ t, live cc wc t → ad t < n) : zInj (adN ad cc n) (cc + 1) wc := by
  intro t u ht hu hh
  have vt : ∀ t, live cc wc t → adN ad cc n t = ad t := fun t ht => adN_old (live_old hcc ht).1 (live_old hcc ht).2
  rcases live_new ht with h1 | h1 | h1
  · rcases live_new hu with h2 | h2 | h2
    · rw [vt t h1, vt u h2] at hh; exact hin t u h1 h2 hh
    · rw [vt t h1, h2, adN_0] at hh; have := hlt t h1; omega
    · rw [vt t h1, h2, adN_1] at hh; have := hlt t h1; omega
  · rcases live_new hu with h2 | h2 | h2
    · rw [h1, adN_0, vt u h2] at hh; have := hlt u h2; omega
    · rw [h1, h2]
    · rw [h1, h2, adN_0, adN_1] at hh; omega
  · rcases live_new hu with h2 | h2 | h2
    · rw [h1, adN_1, vt u h2] at hh; have := hlt u h2; omega
    · rw [h1, h2, adN_0, adN_1] at hh; omega
    · rw [h1, h2]
theorem c_size {n : Nat} {S : ZS} (h : 1 ≤ n ∧ n ≤ 4) : fX5_needSize (ci n) S = some (.inl ((), S)) := by
  unfold fX5_needSize
  rw [if_neg (by rw [cl_1, ci_lt (by omega) (by omega)]; omega), if_pos (by rw [cl_4, ci_le (by omega) (by omega)]; omega)]
theorem c_addCube {S : ZS} {ad : Nat → Nat} {p cc wc a b d : Nat} {CA CG WA WG : Nat → Nat → Nat} {WV : Nat → Nat → Nat → Nat → Nat} (hp : isP p) (hcl : zCl S ad p cc wc CA CG WA WG WV) (hin : zInj ad cc wc) (hlt : ∀ t, live cc wc t → ad t < S.2) (hc : cc < 16) (hs : szOK a b d) :
    ∃ S1, fX5_addCube (ad 10) (ci a) (ci b) (ci d) S = some (.inl (S.2, S1)) ∧ zInj (adN ad cc S.2) (cc + 1) wc ∧ zCl S1 (adN ad cc S.2) p (cc + 1) wc (upN CA cc a b d 0) (upG CG cc (fun _ => 0)) WA WG WV ∧ (∀ b, b < S.2 → b ≠ ad 10 → b ≠ ad 0 → S1.1 b = S.1 b) := by
  have hi2 := adN_inj (by omega) hin hlt
  obtain ⟨T1, n1, n2, n3, n4⟩ := c_new (S := S) (a := a) (b := b) (d := d)
  have kT : ∀ t, live cc wc t → T1.1 (ad t) = S.1 (ad t) := fun t ht => n4 _ (by have := hlt t ht; omega) (by have := hlt t ht; omega)
  have vt : ∀ t, live cc wc t → adN ad cc S.2 t = ad t := fun t ht => adN_old (live_old (by omega) ht).1 (live_old (by omega) ht).2
  obtain ⟨⟨a1, a2, a3⟩, b1, c1, d1⟩ := hcl
  have l10 : live cc wc 10 := Or.inl (Or.inl (by omega))
  have l0 : live cc wc 0 := Or.inl (Or.inl (by omega))
  have l1 : live cc wc 1 := Or.inl (Or.inl (by omega))
  have e10 : zOb T1 (ad 10) 5 _ := (kT 10 l10).trans a1
  have e0 : zRA T1 (ad 0) 3 16 _ := (kT 0 l0).trans a2
  obtain ⟨T2, hT2⟩ : ∃ T2, T2 = zwQ T1 (ad 0) 3 16 (va_up (fun i => if i < cc then some (ad (100 + 2 * i)) else none) cc (some S.2)) := ⟨_, rfl⟩
  have kT2 : ∀ x, x ≠ ad 0 → T2.1 x = T1.1 x := fun x hx => by rw [hT2]; exact va_up_ne _ _ hx
  have n10 : ad 10 ≠ ad 0 := fun hh => by have := hin 10 0 l10 l0 hh; omega
  have g10 : zOb T2 (ad 10) 5 _ := (kT2 _ n10).trans e10
  have q1 : zsQ T1 (ad 0) 3 0 (ci cc) S.2 = some T2 := by rw [hT2]; exact zsQ_ci e0 n2.1 (by omega) (by omega)
  obtain ⟨T3, hT3⟩ : ∃ T3, T3 = zwO T2 (ad 10) 5 [.ref (ad 0), .ref (ad 1), .ref (ad 2), .ref (ad 3), .ref (ad 4), .ref (ad 5), .int (ci p), .int (ci (cc + 1)), .int (ci wc)] := ⟨_, rfl⟩
  have q2 : zpF T2 (ad 10) 5 7 (.int (ci (cc + 1))) = some T3 := by rw [hT3, zpF_ob _ g10 (by simp)]; rfl
  have kT3 : ∀ x, x ≠ ad 10 → x ≠ ad 0 → T3.1 x = T1.1 x := fun x h1 h2 => by rw [hT3, zwO_ne h1]; exact kT2 x h2
  have kl : ∀ t, live cc wc t → t ≠ 10 → t ≠ 0 → T3.1 (ad t) = S.1 (ad t) := fun t ht h1 h2 => (kT3 _ (fun hh => h1 (hin t 10 ht l10 hh)) (fun hh => h2 (hin t 0 ht l0 hh))).trans (kT t ht)
  have kk : ∀ t, live cc wc t → t ≠ 10 → t ≠ 0 → T3.1 (adN ad cc S.2 t) = S.1 (ad t) := fun t ht h1 h2 => by rw [vt t ht]; exact kl t ht h1 h2
  refine ⟨T3, ?_, hi2, ⟨⟨?_, ?_, ?_⟩, ?_, fun j hj => ?_, fun j hj => ?_⟩, fun b hb h1 h2 => (kT3 b h1 h2).trans (n4 b (by omega) (by omega))⟩
  · unfold szOK at hs
    unfold fX5_addCube
    rw [c_size hs.1, zbT_l, c_size hs.2.1, zbT_l, c_size hs.2.2, zbT_l]
    show Option.bind (zgI S (ad 10) 5 7) _ = _
    rw [zgI_ob a1 rfl, Option.bind_some, if_neg (ci_nneg (by omega)), Option.bind_some, zgR_ob a1 rfl, Option.bind_some, zalQ a2 (by omega), Option.bind_some, if_pos ((ci_lt (by omega) (by omega)).mpr hc), n1, Option.bind_some, zgR_ob e10 rfl, Option.bind_some, zgI_ob e10 rfl, Option.bind_some, q1, Option.bind_some, zgI_ob g10 rfl, Option.bind_some, cl_1, ci_add, q2, Option.bind_some]
  · rw [vt 10 l10, vt 0 l0, vt 1 l1, vt 2 (Or.inl (Or.inl (by omega))), vt 3 (Or.inl (Or.inl (by omega))), vt 4 (Or.inl (Or.inl (by omega))), vt 5 (Or.inl (Or.inl (by omega))), hT3]
    exact zwO_self
  · rw [vt 0 l0]
    have : T3.1 (ad 0) = T2.1 (ad 0) := by rw [hT3, zwO_ne (Ne.symm n10)]
    refine this.trans ?_
    rw [hT2]
    show va_up T1.1 (ad 0) _ (ad 0) = _
    rw [va_up_self]
    congr 8
    funext i
    unfold va_up
    by_cases h1 : i = cc
    · rw [if_pos h1, if_pos (by omega), h1, adN_0]
    · rw [if_neg h1]
      show (if i < cc then some (ad (100 + 2 * i)) else none) = _
      by_cases h2 : i < cc
      · rw [if_pos h2, if_pos (by omega), vt (100 + 2 * i) (Or.inl (Or.inr (Or.inl (by omega))))]
      · rw [if_neg h2, if_neg (by omega)]
  · refine (kk 1 l1 (by omega) (by omega)).trans (a3.trans ?_)
    congr 8
    funext i
    by_cases h2 : i < wc
    · rw [if_pos h2, if_pos h2, vt (200 + 4 * i) (Or.inl (Or.inr (Or.inr (by omega))))]
    · rw [if_neg h2, if_neg h2]
  · have vl : ∀ t, t ≤ 9 → adN ad cc S.2 t = ad t := fun t ht => vt t (Or.inl (Or.inl (by omega)))
    unfold zTl
    rw [vl 2 (by omega), vl 3 (by omega), vl 4 (by omega), vl 5 (by omega), vl 6 (by omega), vl 7 (by omega), vl 8 (by omega), vl 9 (by omega)]
    obtain ⟨⟨r, q, h1⟩, ⟨f2, h2⟩, ⟨c, h3⟩, ⟨f4, h4⟩, ⟨f5, h5⟩, ⟨c6, h6⟩, ⟨f7, h7⟩, f8, h8⟩ := b1
    have kt : ∀ t, t ≤ 9 → t ≠ 0 → T3.1 (ad t) = S.1 (ad t) := fun t ht h0 => kl t (Or.inl (Or.inl (by omega))) (by omega) h0
    exact ⟨⟨r, q, (kt 2 (by omega) (by omega)).trans h1⟩, ⟨f2, (kt 6 (by omega) (by omega)).trans h2⟩, ⟨c, (kt 3 (by omega) (by omega)).trans h3⟩, ⟨f4, (kt 7 (by omega) (by omega)).trans h4⟩, ⟨f5, (kt 8 (by omega) (by omega)).trans h5⟩, ⟨c6, (kt 4 (by omega) (by omega)).trans h6⟩, ⟨f7, (kt 9 (by omega) (by omega)).trans h7⟩, f8, (kt 5 (by omega) (by omega)).trans h8⟩
  · by_cases hji : j = cc
    · subst hji
      unfold zCb
      rw [adN_0, adN_1, upG_self, show upN CA j a b d 0 j = (fun s => if s = 0 then a else if s = 1 then b else if s = 2 then d else 0) from if_pos rfl]
      have k1 : T3.1 S.2 = T1.1 S.2 := kT3 _ (by have := hlt 10 l10; omega) (by have := hlt 0 l0; omega)
      have k2 : T3.1 (S.2 + 1) = T1.1 (S.2 + 1) := kT3 _ (by have := hlt 10 l10; omega) (by have := hlt 0 l0; omega)
      have hpb := hp.b
      exact ⟨n2.kp k1 k2, hs, ⟨fun x _ => (by show (0 : Nat) < p; omega), fun _ _ _ _ _ _ _ => rfl⟩, (by show (0 : Nat) ≤ 4; omega)⟩
    · have h1 : live cc wc (100 + 2 * j) := Or.inl (Or.inr (Or.inl (by omega)))
      have h2 : live cc wc (101 + 2 * j) := Or.inl (Or.inr (Or.inl (by omega)))
      unfold zCb
      rw [vt _ h1, vt _ h2, upG_ne hji, show upN CA cc a b d 0 j = CA j from if_neg hji]
      exact (c1 j (by omega)).kp (kl _ h1 (by omega) (by omega)) (kl _ h2 (by omega) (by omega))
  · have h1 : ∀ l, l < 4 → live cc wc (200 + 4 * j + l) := fun l hl => Or.inl (Or.inr (Or.inr (by omega)))
    unfold zWb
    have v0 := vt _ (h1 0 (by omega))
    have v1 := vt _ (h1 1 (by omega))
    have v2 := vt _ (h1 2 (by omega))
    have v3 := vt _ (h1 3 (by omega))
    rw [Nat.add_zero] at v0
    rw [show 200 + 4 * j + 1 = 201 + 4 * j by omega] at v1
    rw [show 200 + 4 * j + 2 = 202 + 4 * j by omega] at v2
    rw [show 200 + 4 * j + 3 = 203 + 4 * j by omega] at v3
    rw [v0, v1, v2, v3]
    exact (d1 j hj).kp (fun l hl => kl _ (h1 l hl) (by omega) (by omega))
-- 54.cube.lean.txt
def s4 (a : Int32) : Bool := decide (1 ≤ a ∧ a ≤ 4)
theorem s4_ex {a : Int32} (h : s4 a = true) : ∃ n, (1 ≤ n ∧ n ≤ 4) ∧ a = ci n := by
  unfold s4 at h
  rw [decide_eq_true_eq] at h
  obtain ⟨n, hn, rfl⟩ := ci_of (x := a) (Int32.le_trans (by decide) h.1)
  exact ⟨n, ⟨(ci_le (a := 1) (by omega) hn).mp h.1, (ci_le (b := 4) hn (by omega)).mp h.2⟩, rfl⟩
theorem c_needSize {a : Int32} {S : ZS} : fX5_needSize a S = if s4 a = true then some (.inl ((), S)) else some (.inr ("java/lang/IllegalArgumentException", S.1)) := by
  unfold fX5_needSize fX5_needSize_J10 s4
  by_cases h1 : a < 1
  · rw [if_pos h1, decide_eq_false (fun hh => Int32.not_lt.mpr hh.1 h1)]; rfl
  · rw [if_neg h1]
    by_cases h2 : a ≤ 4
    · rw [if_pos h2, decide_eq_true ⟨Int32.not_lt.mp h1, h2⟩]; rfl
    · rw [if_neg h2, decide_eq_false (fun hh => h2 hh.2)]; rfl
def s43 (a b d : Int32) : Bool := s4 a && (s4 b && s4 d)
/-- the exception of making a cube; 0 for none -/
def cmk (cc : Nat) (a b d : Int32) : Nat := if s43 a b d = true then (if cc = 16 then 2 else 0) else 1
theorem c_addBad {S : ZS} {ad : Nat → Nat} {p cc wc : Nat} {a b d : Int32} (h : zHd S ad p cc wc) (hc : cc ≤ 16) (hj : cmk cc a b d ≠ 0) : fX5_addCube (ad 10) a b d S = some (.inr (if cmk cc a b d = 1 then "java/lang/IllegalArgumentException" else "java/lang/IllegalStateException", S.1)) := by
  unfold fX5_addCube fX5_addCube_J31
  rw [c_needSize]
  unfold cmk s43 at *
  cases ha : s4 a with
  | false => rw [ha] at hj; rfl
  | true =>
    rw [if_pos rfl, zbT_l, c_needSize]
    cases hb : s4 b with
    | false => rfl
    | true =>
      rw [if_pos rfl, zbT_l, c_needSize]
      cases hd : s4 d with
      | false => rfl
      | true =>
        rw [if_pos rfl, zbT_l]
        have h16 : cc = 16 := by
          apply Classical.byContradiction
          intro hh
          rw [ha, hb, hd, if_pos (by rfl), if_neg hh] at hj
          exact hj rfl
        show Option.bind (zgI S (ad 10) 5 7) _ = _
        rw [zgI_ob h.1 rfl, Option.bind_some, if_neg (ci_nneg (by omega)), Option.bind_some, zgR_ob h.1 rfl, Option.bind_some, zalQ h.2.1 (by omega), Option.bind_some, if_neg (by rw [ci_lt (by omega) (by omega)]; omega), h16]
        rfl
-- 55.cube1.lean.txt
/-! LAW CASE 1: cube, whole -/
theorem cmk_0 {cc : Nat} {a1 a2 a3 : Int32} (hc : cc ≤ 16) (h : cmk cc a1 a2 a3 = 0) : cc < 16 ∧ ∃ a b d, szOK a b d ∧ a1 = ci a ∧ a2 = ci b ∧ a3 = ci d := by
  unfold cmk at h
  by_cases h1 : s43 a1 a2 a3 = true
  · rw [if_pos h1] at h
    unfold s43 at h1
    rw [Bool.and_eq_true, Bool.and_eq_true] at h1
    obtain ⟨a, ha, rfl⟩ := s4_ex h1.1
    obtain ⟨b, hb, rfl⟩ := s4_ex h1.2.1
    obtain ⟨d, hd, rfl⟩ := s4_ex h1.2.2
    refine ⟨?_, a, b, d, ⟨ha, hb, hd⟩, rfl, rfl, rfl⟩
    by_cases h2 : cc = 16
    · rw [if_pos h2] at h; omega
    · omega
  · rw [if_neg h1] at h; omega
-- 56.group.lean.txt
/-! LAW CASE 4: group, the numbers -/
/-- the group's numbers, of the first t places of (first, second) in rows of 4 -/
def gG (n t x : Nat) : Nat := if x / 16 < n ∧ x / 4 % 4 < n ∧ x % 4 = (x / 16 + x / 4 % 4) % n ∧ x / 4 < t ∧ x < 64 then 1 else 0
theorem gG_0 (n : Nat) : gG n 0 = fun _ => 0 := by
  funext x
  unfold gG
  rw [if_neg (by omega)]
theorem gG_row {n i : Nat} : gG n (i * 4 + n) = gG n ((i + 1) * 4) ∨ 4 < n := by
  by_cases hn : n ≤ 4
  · left
    funext x
    unfold gG
    by_cases h : x / 16 < n ∧ x / 4 % 4 < n ∧ x % 4 = (x / 16 + x / 4 % 4) % n ∧ x / 4 < i * 4 + n ∧ x < 64
    · rw [if_pos h, if_pos ⟨h.1, h.2.1, h.2.2.1, by omega, h.2.2.2.2⟩]
    · rw [if_neg h, if_neg (fun hh => h ⟨hh.1, hh.2.1, hh.2.2.1, by omega, hh.2.2.2.2⟩)]
  · right; omega
theorem gG_step {n i j : Nat} (hn : n ≤ 4) (hi : i < n) (hj : j < n) : va_up (gG n (i * 4 + j)) (ix i j ((i + j) % n)) 1 = gG n (i * 4 + j + 1) := by
  have hk : (i + j) % n < n := Nat.mod_lt _ (by omega)
  obtain ⟨k, hke⟩ : ∃ k, k = (i + j) % n := ⟨_, rfl⟩
  rw [← hke] at hk ⊢
  have hd := ix_16 (i := i) (j := j) (k := k) (by omega) (by omega)
  funext x
  unfold va_up
  by_cases hx : x = ix i j k
  · rw [if_pos hx, hx]
    unfold gG
    rw [hd.1, hd.2.1, hd.2.2, if_pos ⟨hi, hj, hke, by unfold ix; omega, by unfold ix; omega⟩]
  · rw [if_neg hx]
    unfold gG
    by_cases h : x / 16 < n ∧ x / 4 % 4 < n ∧ x % 4 = (x / 16 + x / 4 % 4) % n ∧ x / 4 < i * 4 + j ∧ x < 64
    · rw [if_pos h, if_pos ⟨h.1, h.2.1, h.2.2.1, by omega, h.2.2.2.2⟩]
    · rw [if_neg h, if_neg]
      intro hh
      by_cases hq : x / 4 < i * 4 + j
      · exact h ⟨hh.1, hh.2.1, hh.2.2.1, hq, hh.2.2.2.2⟩
      · have e : x / 4 = i * 4 + j := by omega
        have e1 : x / 16 = i := by omega
        have e2 : x / 4 % 4 = j := by omega
        have e3 := hh.2.2.1
        rw [e1, e2, ← hke] at e3
        exact hx (by unfold ix; omega)
-- 57.cgroup.lean.txt
/-! LAW CASE 4: group, the class's loops -/
theorem c_gin {S : ZS} {l0 c nn n i q : Nat} (hn : n ≤ 4) (hi : i < n) (h : zCu S c nn n n n q (gG n (i * 4))) : ∃ S1, ziter (fX5_group_B18 l0 (ci n) c (ci i)) zF (ci 0, S) = some (.inl (ci (i + 1), S1)) ∧ zCu S1 c nn n n n q (gG n ((i + 1) * 4)) ∧ zFrm S S1 (fun b => b = nn) := by
  have := ziter_for (body := fX5_group_B18 l0 (ci n) c (ci i)) (fun j S' => zCu S' c nn n n n q (gG n (i * 4 + j)) ∧ zFrm S S' (fun b => b = nn)) (fun r => ∃ S1, r = .inl (ci (i + 1), S1) ∧ zCu S1 c nn n n n q (gG n ((i + 1) * 4)) ∧ zFrm S S1 (fun b => b = nn)) n ?_ ?_ n 0 zF S (by omega) (by rw [zF_eq]; omega) ⟨h, zFrm.rf⟩
  · obtain ⟨r, h1, S1, rfl, h2, h3⟩ := this
    exact ⟨S1, h1, h2, h3⟩
  · rintro j S' hj ⟨y, hf⟩
    have hk : (i + j) % n < n := Nat.mod_lt _ (by omega)
    obtain ⟨S1, f1, f2, f3⟩ := g_enter (v := 1) y (i := i) (j := j) (k := (i + j) % n) (by omega) (by omega) (by omega)
    rw [gG_step hn hi hj] at f2
    refine ⟨S1, ?_, f2, hf.tr f3⟩
    unfold fX5_group_B18
    simp only []
    rw [if_neg (by rw [ci_le (by omega) (by omega)]; omega), ci_add, g_rem (by omega) (by omega) (by omega), Option.bind_some, zcl_cu y, cl_1, f1, Option.bind_some, ci_add]
  · rintro S' ⟨y, hf⟩
    refine ⟨.inl (ci (i + 1), S'), ?_, S', rfl, ?_, hf⟩
    · unfold fX5_group_B18
      simp only []
      rw [if_pos (by rw [ci_le (by omega) (by omega)]; omega), cl_1, ci_add, zex_some]
    · rw [← (gG_row (n := n) (i := i)).resolve_right (by omega)]; exact y
theorem c_group {S : ZS} {l0 c nn n q cc : Nat} {fs : List Value} (hn : 1 ≤ n ∧ n ≤ 4) (ho : zOb S l0 5 fs) (hv : fs[7]? = some (.int (ci (cc + 1)))) (hne : l0 ≠ nn) (h : zCu S c nn n n n q (gG n 0)) : ∃ S1, ziter (fX5_group_B10 l0 (ci n) c) zF (ci 0, S) = some (.inl (ci cc, S1)) ∧ zCu S1 c nn n n n q (gG n (n * 4)) ∧ zFrm S S1 (fun b => b = nn) := by
  have := ziter_for (body := fX5_group_B10 l0 (ci n) c) (fun i S' => zCu S' c nn n n n q (gG n (i * 4)) ∧ zFrm S S' (fun b => b = nn)) (fun r => ∃ S1, r = .inl (ci cc, S1) ∧ zCu S1 c nn n n n q (gG n (n * 4)) ∧ zFrm S S1 (fun b => b = nn)) n ?_ ?_ n 0 zF S (by omega) (by rw [zF_eq]; omega) ⟨by rw [Nat.zero_mul]; exact h, zFrm.rf⟩
  · obtain ⟨r, h1, S1, rfl, h2, h3⟩ := this
    exact ⟨S1, h1, h2, h3⟩
  · rintro i S' hi ⟨y, hf⟩
    obtain ⟨S1, f1, f2, f3⟩ := c_gin (l0 := l0) hn.2 hi y
    refine ⟨S1, ?_, f2, hf.tr f3⟩
    unfold fX5_group_B10
    simp only []
    rw [if_neg (by rw [ci_le (by omega) (by omega)]; omega), cl_0]
    exact f1
  · rintro S' ⟨y, hf⟩
    refine ⟨.inl (ci cc, S'), ?_, S', rfl, y, hf⟩
    unfold fX5_group_B10
    simp only []
    rw [if_pos (by rw [ci_le (by omega) (by omega)]; omega), zgI_ob (hf.ob hne ho) hv, Option.bind_some, cl_1, ci_sub (by omega), Nat.add_sub_cancel, zex_some]
-- 58.mgroup.lean.txt
/-! LAW CASE 4: group, the model's loops -/
theorem mV.rf {i : Nat} {A : Nat → Nat → Int32} : mV i A A := ⟨fun _ _ _ => rfl, fun _ _ => rfl, fun _ _ => rfl⟩
theorem mV.tr {i : Nat} {A B C : Nat → Nat → Int32} (h1 : mV i A B) (h2 : mV i B C) : mV i A C := ⟨fun j a b => (h2.1 j a b).trans (h1.1 j a b), fun x a => (h2.2.1 x a).trans (h1.2.1 x a), fun x a => (h2.2.2 x a).trans (h1.2.2 x a)⟩
-- 60.group4.lean.txt
/-! LAW CASE 4: group, whole -/
theorem upN_self {CA : Nat → Nat → Nat} {cc a b d sq : Nat} : upN CA cc a b d sq cc = (fun s => if s = 0 then a else if s = 1 then b else if s = 2 then d else sq) := if_pos rfl
theorem gG_ok {p n t : Nat} (hp : isP p) : cOK p n n n (gG n t) := by
  have := hp.b
  refine ⟨fun x _ => ?_, fun i j k hi hj hk hn => ?_⟩
  · unfold gG; split <;> omega
  · have hd := ix_16 (i := i) hj hk
    unfold gG
    rw [hd.1, hd.2.1, hd.2.2]
    by_cases h0 : n = 0
    · rw [if_neg (by omega)]
    · have hm : (i + j) % n < n := Nat.mod_lt _ (by omega)
      rw [if_neg (by omega)]
-- 61.poly.lean.txt
/-! LAW CASE 3: polynomials, the numbers -/
def pG (a b t x : Nat) : Nat := if x / 16 < a ∧ x / 4 % 4 < b ∧ x % 4 = x / 16 + x / 4 % 4 ∧ x / 4 < t ∧ x < 64 then 1 else 0
theorem pG_0 (a b : Nat) : pG a b 0 = fun _ => 0 := by
  funext x
  unfold pG
  rw [if_neg (by omega)]
theorem pG_row {a b i : Nat} (hb : b ≤ 4) : pG a b (i * 4 + b) = pG a b ((i + 1) * 4) := by
  funext x
  unfold pG
  by_cases h : x / 16 < a ∧ x / 4 % 4 < b ∧ x % 4 = x / 16 + x / 4 % 4 ∧ x / 4 < i * 4 + b ∧ x < 64
  · rw [if_pos h, if_pos (by omega)]
  · rw [if_neg h, if_neg (by omega)]
theorem pG_step {a b i j : Nat} (ha : a + b - 1 ≤ 4) (hb : b ≤ 4) (ha4 : a ≤ 4) (hi : i < a) (hj : j < b) : va_up (pG a b (i * 4 + j)) (ix i j (i + j)) 1 = pG a b (i * 4 + j + 1) := by
  have hd := ix_16 (i := i) (j := j) (k := i + j) (by omega) (by omega)
  funext x
  unfold va_up
  by_cases hx : x = ix i j (i + j)
  · rw [if_pos hx, hx]
    unfold pG
    rw [hd.1, hd.2.1, hd.2.2, if_pos ⟨hi, hj, rfl, by unfold ix; omega, by unfold ix; omega⟩]
  · rw [if_neg hx]
    unfold pG
    by_cases h : x / 16 < a ∧ x / 4 % 4 < b ∧ x % 4 = x / 16 + x / 4 % 4 ∧ x / 4 < i * 4 + j ∧ x < 64
    · rw [if_pos h, if_pos (by omega)]
    · rw [if_neg h, if_neg]
      intro hh
      by_cases hq : x / 4 < i * 4 + j
      · exact h ⟨hh.1, hh.2.1, hh.2.2.1, hq, hh.2.2.2.2⟩
      · have e : x / 4 = i * 4 + j := by omega
        have e1 : x / 16 = i := by omega
        have e2 : x / 4 % 4 = j := by omega
        have e3 := hh.2.2.1
        rw [e1, e2] at e3
        exact hx (by unfold ix; omega)
theorem pG_ok {p a b t : Nat} (hp : isP p) : cOK p a b (a + b - 1) (pG a b t) := by
  have := hp.b
  refine ⟨fun x _ => ?_, fun i j k hi hj hk hn => ?_⟩
  · unfold pG; split <;> omega
  · have hd := ix_16 (i := i) hj hk
    unfold pG
    rw [hd.1, hd.2.1, hd.2.2, if_neg (by omega)]
-- 62.cpoly.lean.txt
/-! LAW CASE 3: polynomials, the class's loops -/
theorem c_pin {S : ZS} {l0 c nn a b i q : Nat} (hs : a ≤ 4 ∧ b ≤ 4 ∧ a + b - 1 ≤ 4) (hi : i < a) (h : zCu S c nn a b (a + b - 1) q (pG a b (i * 4))) : ∃ S1, ziter (fX5_polynomials_B32 l0 (ci a) (ci b) c (ci i)) zF (ci 0, S) = some (.inl (ci (i + 1), S1)) ∧ zCu S1 c nn a b (a + b - 1) q (pG a b ((i + 1) * 4)) ∧ zFrm S S1 (fun b => b = nn) := by
  have := ziter_for (body := fX5_polynomials_B32 l0 (ci a) (ci b) c (ci i)) (fun j S' => zCu S' c nn a b (a + b - 1) q (pG a b (i * 4 + j)) ∧ zFrm S S' (fun b => b = nn)) (fun r => ∃ S1, r = .inl (ci (i + 1), S1) ∧ zCu S1 c nn a b (a + b - 1) q (pG a b ((i + 1) * 4)) ∧ zFrm S S1 (fun b => b = nn)) b ?_ ?_ b 0 zF S (by omega) (by rw [zF_eq]; omega) ⟨h, zFrm.rf⟩
  · obtain ⟨r, h1, S1, rfl, h2, h3⟩ := this
    exact ⟨S1, h1, h2, h3⟩
  · rintro j S' hj ⟨y, hf⟩
    obtain ⟨S1, f1, f2, f3⟩ := g_enter (v := 1) y (i := i) (j := j) (k := i + j) (by omega) (by omega) (by omega)
    rw [pG_step (by omega) (by omega) (by omega) hi hj] at f2
    refine ⟨S1, ?_, f2, hf.tr f3⟩
    unfold fX5_polynomials_B32
    simp only []
    rw [if_neg (by rw [ci_le (by omega) (by omega)]; omega), ci_add, zcl_cu y, cl_1, f1, Option.bind_some, ci_add]
  · rintro S' ⟨y, hf⟩
    refine ⟨.inl (ci (i + 1), S'), ?_, S', rfl, ?_, hf⟩
    · unfold fX5_polynomials_B32
      simp only []
      rw [if_pos (by rw [ci_le (by omega) (by omega)]; omega), cl_1, ci_add, zex_some]
    · rw [← pG_row hs.2.1]; exact y
theorem c_poly {S : ZS} {l0 c nn a b q cc : Nat} {fs : List Value} (hs : a ≤ 4 ∧ b ≤ 4 ∧ a + b - 1 ≤ 4) (ho : zOb S l0 5 fs) (hv : fs[7]? = some (.int (ci (cc + 1)))) (hne : l0 ≠ nn) (h : zCu S c nn a b (a + b - 1) q (pG a b 0)) : ∃ S1, ziter (fX5_polynomials_B23 l0 (ci a) (ci b) c) zF (ci 0, S) = some (.inl (ci cc, S1)) ∧ zCu S1 c nn a b (a + b - 1) q (pG a b (a * 4)) ∧ zFrm S S1 (fun b => b = nn) := by
  have := ziter_for (body := fX5_polynomials_B23 l0 (ci a) (ci b) c) (fun i S' => zCu S' c nn a b (a + b - 1) q (pG a b (i * 4)) ∧ zFrm S S' (fun b => b = nn)) (fun r => ∃ S1, r = .inl (ci cc, S1) ∧ zCu S1 c nn a b (a + b - 1) q (pG a b (a * 4)) ∧ zFrm S S1 (fun b => b = nn)) a ?_ ?_ a 0 zF S (by omega) (by rw [zF_eq]; omega) ⟨by rw [Nat.zero_mul]; exact h, zFrm.rf⟩
  · obtain ⟨r, h1, S1, rfl, h2, h3⟩ := this
    exact ⟨S1, h1, h2, h3⟩
  · rintro i S' hi ⟨y, hf⟩
    obtain ⟨S1, f1, f2, f3⟩ := c_pin (l0 := l0) hs hi y
    refine ⟨S1, ?_, f2, hf.tr f3⟩
    unfold fX5_polynomials_B23
    simp only []
    rw [if_neg (by rw [ci_le (by omega) (by omega)]; omega), cl_0]
    exact f1
  · rintro S' ⟨y, hf⟩
    refine ⟨.inl (ci cc, S'), ?_, S', rfl, y, hf⟩
    unfold fX5_polynomials_B23
    simp only []
    rw [if_pos (by rw [ci_le (by omega) (by omega)]; omega), zgI_ob (hf.ob hne ho) hv, Option.bind_some, cl_1, ci_sub (by omega), Nat.add_sub_cancel, zex_some]
-- 63.fill.lean.txt
/-! A FILLED CUBE: what all its cases share -/
theorem lt_of {S : ZS} {ad : Nat → Nat} {p cc wc : Nat} {CA CG WA WG : Nat → Nat → Nat} {WV : Nat → Nat → Nat → Nat → Nat} (hcl : zCl S ad p cc wc CA CG WA WG WV) (hfr : zFr S.1 S.2) : ∀ t, live cc wc t → ad t < S.2 := fun t ht => by
  obtain ⟨e, he⟩ := live_some hcl ht
  apply Classical.byContradiction
  intro hh
  have := hfr (ad t) (by omega)
  rw [he] at this; cases this
-- 64.poly3.lean.txt
theorem cmk_lt {cc : Nat} {a b d : Int32} : cmk cc a b d < 3 := by unfold cmk; split <;> (try split) <;> omega
theorem cmk_000 (cc : Nat) : cmk cc 0 0 0 = 1 := rfl
-- 65.mat.lean.txt
/-! LAW CASE 2: matrices, the numbers -/
def gMp (b e n : Nat) : Nat := ix (n / e) (n / e % b * e + n % e) (n / e / b * e + n % e)
def gM (b e : Nat) : Nat → Nat → Nat
  | 0 => fun _ => 0
  | n + 1 => va_up (gM b e n) (gMp b e n) 1
theorem md_div {x e t : Nat} (ht : t < e) : (x * e + t) / e = x := by
  rw [Nat.mul_comm, Nat.mul_add_div (by omega), Nat.div_eq_of_lt ht, Nat.add_zero]
theorem md_mod {x e t : Nat} (ht : t < e) : (x * e + t) % e = t := by
  rw [Nat.mul_comm, Nat.mul_add_mod, Nat.mod_eq_of_lt ht]
theorem lt_mul {r s a b : Nat} (hr : r < a) (hs : s < b) : r * b + s < a * b := by
  have : (r + 1) * b ≤ a * b := Nat.mul_le_mul_right b hr
  rw [Nat.succ_mul] at this
  omega
theorem gMp_at {b e r s t : Nat} (hs : s < b) (ht : t < e) : gMp b e ((r * b + s) * e + t) = ix (r * b + s) (s * e + t) (r * e + t) := by
  unfold gMp
  rw [md_div ht, md_mod ht, md_div hs, md_mod hs]
theorem gM_step {b e r s t : Nat} (hs : s < b) (ht : t < e) : va_up (gM b e ((r * b + s) * e + t)) (ix (r * b + s) (s * e + t) (r * e + t)) 1 = gM b e ((r * b + s) * e + (t + 1)) := by
  rw [← gMp_at hs ht]
  rfl
theorem gM_row {b e r s : Nat} : gM b e ((r * b + s) * e + e) = gM b e ((r * b + (s + 1)) * e + 0) := by
  rw [Nat.add_zero, ← Nat.succ_mul]
  rfl
theorem gM_rows {b e r : Nat} : gM b e ((r * b + b) * e + 0) = gM b e (((r + 1) * b + 0) * e + 0) := by
  rw [Nat.add_zero ((r + 1) * b), Nat.succ_mul r b]
theorem ix_lt3 {a b d i j k : Nat} (ha : a ≤ 4) (hi : i < a) (hj : j < b) (hk : k < d) (hb : b ≤ 4) (hd : d ≤ 4) : ix i j k < 64 := ix_lt (by omega) (by omega) (by omega)
theorem gM_le {b e n x : Nat} : gM b e n x ≤ 1 := by
  induction n with
  | zero => exact Nat.zero_le 1
  | succ n ih =>
    show va_up (gM b e n) (gMp b e n) 1 x ≤ 1
    unfold va_up
    split
    · exact Nat.le_refl 1
    · exact ih
theorem gM_out {a b e n : Nat} (h : a * b ≤ 4 ∧ b * e ≤ 4 ∧ a * e ≤ 4) (hb : 0 < b) (he : 0 < e) (hn : n ≤ (a * b) * e) {i j k : Nat} (hi : i < 4) (hj : j < 4) (hk : k < 4) (hne : ¬ (i < a * b ∧ j < b * e ∧ k < a * e)) : gM b e n (ix i j k) = 0 := by
  induction n with
  | zero => rfl
  | succ n ih =>
    show va_up (gM b e n) (gMp b e n) 1 (ix i j k) = 0
    have h1 : n / e < a * b := Nat.div_lt_of_lt_mul (by rw [Nat.mul_comm]; omega)
    have h2 : n / e / b < a := Nat.div_lt_of_lt_mul (by rw [Nat.mul_comm]; exact h1)
    have h3 : n / e % b < b := Nat.mod_lt _ hb
    have h4 : n % e < e := Nat.mod_lt _ he
    have h5 := lt_mul h3 h4
    have h6 := lt_mul h2 h4
    have hne2 : ix i j k ≠ gMp b e n := fun hh => by
      unfold gMp at hh
      have := (ix_inj hj hk (show n / e % b * e + n % e < 4 by omega) (show n / e / b * e + n % e < 4 by omega)).mp hh
      omega
    rw [va_up_ne _ _ hne2]
    exact ih (by omega)
theorem gM_ok {p a b e : Nat} (hp : isP p) (h : a * b ≤ 4 ∧ b * e ≤ 4 ∧ a * e ≤ 4) (hb : 0 < b) (he : 0 < e) : cOK p (a * b) (b * e) (a * e) (gM b e ((a * b) * e)) := by
  have := hp.b
  refine ⟨fun x _ => ?_, fun i j k hi hj hk hn => gM_out h hb he (Nat.le_refl _) hi hj hk hn⟩
  have := gM_le (b := b) (e := e) (n := a * b * e) (x := x)
  omega
/-! LAW CASE 2: matrices, the class's loops -/
theorem c_mat3 {S : ZS} {l0 c nn a b e r s A B D q : Nat} (h4 : a * b ≤ 4 ∧ b * e ≤ 4 ∧ a * e ≤ 4) (he4 : e ≤ 4) (hr : r < a) (hs : s < b) (h : zCu S c nn A B D q (gM b e ((r * b + s) * e + 0))) : ∃ S1, ziter (fX5_matrices_B48 l0 (ci a) (ci b) (ci e) c (ci r) (ci s)) zF (ci 0, S) = some (.inl (ci (s + 1), S1)) ∧ zCu S1 c nn A B D q (gM b e ((r * b + (s + 1)) * e + 0)) ∧ zFrm S S1 (fun b => b = nn) := by
  have := ziter_for (body := fX5_matrices_B48 l0 (ci a) (ci b) (ci e) c (ci r) (ci s)) (fun t S' => zCu S' c nn A B D q (gM b e ((r * b + s) * e + t)) ∧ zFrm S S' (fun b => b = nn)) (fun x => ∃ S1, x = .inl (ci (s + 1), S1) ∧ zCu S1 c nn A B D q (gM b e ((r * b + (s + 1)) * e + 0)) ∧ zFrm S S1 (fun b => b = nn)) e ?_ ?_ e 0 zF S (by omega) (by rw [zF_eq]; omega) ⟨h, zFrm.rf⟩
  · obtain ⟨x, h1, S1, rfl, h2, h3⟩ := this
    exact ⟨S1, h1, h2, h3⟩
  · rintro t S' ht ⟨y, hf⟩
    have b1 := lt_mul hr hs
    have b2 := lt_mul hs ht
    have b3 := lt_mul hr ht
    obtain ⟨S1, f1, f2, f3⟩ := g_enter (v := 1) y (i := r * b + s) (j := s * e + t) (k := r * e + t) (by omega) (by omega) (by omega)
    rw [gM_step hs ht] at f2
    refine ⟨S1, ?_, f2, hf.tr f3⟩
    unfold fX5_matrices_B48
    simp only []
    rw [if_neg (by rw [ci_le (by omega) (by omega)]; omega), cl_1]
    simp only [ci_mul, ci_add]
    rw [zcl_cu y, f1, Option.bind_some]
  · rintro S' ⟨y, hf⟩
    refine ⟨.inl (ci (s + 1), S'), ?_, S', rfl, ?_, hf⟩
    · unfold fX5_matrices_B48
      simp only []
      rw [if_pos (by rw [ci_le (by omega) (by omega)]; omega), cl_1, ci_add, zex_some]
    · rw [← gM_row]; exact y
theorem c_mat2 {S : ZS} {l0 c nn a b e r A B D q : Nat} (h4 : a * b ≤ 4 ∧ b * e ≤ 4 ∧ a * e ≤ 4) (hb4 : b ≤ 4) (he4 : e ≤ 4) (ha4 : a ≤ 4) (hr : r < a) (h : zCu S c nn A B D q (gM b e ((r * b + 0) * e + 0))) : ∃ S1, ziter (fX5_matrices_B39 l0 (ci a) (ci b) (ci e) c (ci r)) zF (ci 0, S) = some (.inl (ci (r + 1), S1)) ∧ zCu S1 c nn A B D q (gM b e (((r + 1) * b + 0) * e + 0)) ∧ zFrm S S1 (fun b => b = nn) := by
  have := ziter_for (body := fX5_matrices_B39 l0 (ci a) (ci b) (ci e) c (ci r)) (fun s S' => zCu S' c nn A B D q (gM b e ((r * b + s) * e + 0)) ∧ zFrm S S' (fun b => b = nn)) (fun x => ∃ S1, x = .inl (ci (r + 1), S1) ∧ zCu S1 c nn A B D q (gM b e (((r + 1) * b + 0) * e + 0)) ∧ zFrm S S1 (fun b => b = nn)) b ?_ ?_ b 0 zF S (by omega) (by rw [zF_eq]; omega) ⟨h, zFrm.rf⟩
  · obtain ⟨x, h1, S1, rfl, h2, h3⟩ := this
    exact ⟨S1, h1, h2, h3⟩
  · rintro s S' hs ⟨y, hf⟩
    obtain ⟨S1, f1, f2, f3⟩ := c_mat3 (l0 := l0) h4 he4 hr hs y
    refine ⟨S1, ?_, f2, hf.tr f3⟩
    unfold fX5_matrices_B39
    simp only []
    rw [if_neg (by rw [ci_le (by omega) (by omega)]; omega), cl_0]
    exact f1
  · rintro S' ⟨y, hf⟩
    refine ⟨.inl (ci (r + 1), S'), ?_, S', rfl, ?_, hf⟩
    · unfold fX5_matrices_B39
      simp only []
      rw [if_pos (by rw [ci_le (by omega) (by omega)]; omega), cl_1, ci_add, zex_some]
    · rw [← gM_rows]; exact y
theorem c_mat {S : ZS} {l0 c nn a b e A B D q cc : Nat} {fs : List Value} (h4 : a * b ≤ 4 ∧ b * e ≤ 4 ∧ a * e ≤ 4) (hb4 : b ≤ 4) (he4 : e ≤ 4) (ha4 : a ≤ 4) (ho : zOb S l0 5 fs) (hv : fs[7]? = some (.int (ci (cc + 1)))) (hne : l0 ≠ nn) (hnc : l0 ≠ c) (h : zCu S c nn A B D q (gM b e 0)) : ∃ S1, ziter (fX5_matrices_B30 l0 (ci a) (ci b) (ci e) c) zF (ci 0, S) = some (.inl (ci cc, S1)) ∧ zCu S1 c nn A B D (if a = b ∧ b = e then a else 0) (gM b e ((a * b) * e)) ∧ zFrm S S1 (fun b => b = c ∨ b = nn) := by
  have := ziter_for (body := fX5_matrices_B30 l0 (ci a) (ci b) (ci e) c) (fun r S' => zCu S' c nn A B D q (gM b e ((r * b + 0) * e + 0)) ∧ zFrm S S' (fun b => b = nn)) (fun x => ∃ S1, x = .inl (ci cc, S1) ∧ zCu S1 c nn A B D (if a = b ∧ b = e then a else 0) (gM b e ((a * b) * e)) ∧ zFrm S S1 (fun b => b = c ∨ b = nn)) a ?_ ?_ a 0 zF S (by omega) (by rw [zF_eq]; omega) ⟨by rw [Nat.zero_mul, Nat.zero_mul]; exact h, zFrm.rf⟩
  · obtain ⟨x, h1, S1, rfl, h2, h3⟩ := this
    exact ⟨S1, h1, h2, h3⟩
  · rintro r S' hr ⟨y, hf⟩
    obtain ⟨S1, f1, f2, f3⟩ := c_mat2 (l0 := l0) h4 hb4 he4 ha4 hr y
    refine ⟨S1, ?_, f2, hf.tr f3⟩
    unfold fX5_matrices_B30
    simp only []
    rw [if_neg (by rw [ci_le (by omega) (by omega)]; omega), cl_0]
    exact f1
  · rintro S' ⟨y, hf⟩
    have fin : ∀ sq, ∃ S1, fX5_matrices_J116 l0 c (ci sq) S' = some (.inl (ci cc, S1)) ∧ zCu S1 c nn A B D sq (gM b e ((a * b) * e)) ∧ zFrm S S1 (fun b => b = c ∨ b = nn) := fun sq => by
      obtain ⟨S1, f1, f2, f3⟩ := zwO_cu sq y
      refine ⟨S1, ?_, f2, (hf.wk (fun _ => Or.inr)).tr (f3.wk (fun _ => Or.inl))⟩
      unfold fX5_matrices_J116
      rw [f1, Option.bind_some, zgI_ob (f3.ob hnc (hf.ob hne ho)) hv, Option.bind_some, cl_1, ci_sub (by omega), Nat.add_sub_cancel]
    obtain ⟨S1, f1, f2, f3⟩ := fin (if a = b ∧ b = e then a else 0)
    refine ⟨.inl (ci cc, S1), ?_, S1, rfl, f2, f3⟩
    unfold fX5_matrices_B30
    simp only []
    rw [if_pos (by rw [ci_le (by omega) (by omega)]; omega)]
    by_cases h1 : a = b
    · rw [if_pos (by rw [h1])]
      by_cases h2 : b = e
      · rw [if_pos (by rw [h2])]
        rw [if_pos ⟨h1, h2⟩] at f1
        rw [f1, zex_some]
      · rw [if_neg (by rw [ci_eq (by omega) (by omega)]; exact h2)]
        rw [if_neg (fun hh => h2 hh.2)] at f1
        unfold fX5_matrices_J115
        rw [cl_0, f1, zex_some]
    · rw [if_neg (by rw [ci_eq (by omega) (by omega)]; exact h1)]
      rw [if_neg (fun hh => h1 hh.1)] at f1
      unfold fX5_matrices_J115
      rw [cl_0, f1, zex_some]
-- 68.gf.lean.txt
/-! LAW CASES 7 AND 8: sum, product: the numbers -/
def gF (a b d : Nat) (F : Nat → Nat) (t x : Nat) : Nat := if x / 16 < a ∧ x / 4 % 4 < b ∧ x % 4 < d ∧ x < t then F x else 0
theorem gF_0 {a b d : Nat} {F : Nat → Nat} : gF a b d F 0 = fun _ => 0 := by
  funext x
  unfold gF
  rw [if_neg (by omega)]
theorem gF_eq {a b d t u : Nat} {F : Nat → Nat} (h : ∀ x, x / 16 < a → x / 4 % 4 < b → x % 4 < d → (x < t ↔ x < u)) : gF a b d F t = gF a b d F u := by
  funext x
  unfold gF
  by_cases hh : x / 16 < a ∧ x / 4 % 4 < b ∧ x % 4 < d ∧ x < t
  · rw [if_pos hh, if_pos ⟨hh.1, hh.2.1, hh.2.2.1, (h x hh.1 hh.2.1 hh.2.2.1).mp hh.2.2.2⟩]
  · rw [if_neg hh, if_neg (fun h2 => hh ⟨h2.1, h2.2.1, h2.2.2.1, (h x h2.1 h2.2.1 h2.2.2.1).mpr h2.2.2.2⟩)]
theorem gF_row {a b d i j : Nat} {F : Nat → Nat} (hd : d ≤ 4) : gF a b d F (ix i j d) = gF a b d F (ix i (j + 1) 0) := gF_eq (fun x _ _ _ => by unfold ix; omega)
theorem gF_rows {a b d i : Nat} {F : Nat → Nat} (hb : b ≤ 4) : gF a b d F (ix i b 0) = gF a b d F (ix (i + 1) 0 0) := gF_eq (fun x _ _ _ => by unfold ix; omega)
theorem gF_end {a b d : Nat} {F : Nat → Nat} (ha : a ≤ 4) : gF a b d F (ix a 0 0) = gF a b d F 64 := gF_eq (fun x _ _ _ => by unfold ix; omega)
theorem gF_step {a b d i j k v : Nat} {F : Nat → Nat} (hi : i < a) (hj : j < b) (hk : k < d) (hb : b ≤ 4) (hd : d ≤ 4) (hv : v = F (ix i j k)) : va_up (gF a b d F (ix i j k)) (ix i j k) v = gF a b d F (ix i j (k + 1)) := by
  have hq := ix_16 (i := i) (j := j) (k := k) (by omega) (by omega)
  have hs : ix i j (k + 1) = ix i j k + 1 := by unfold ix; omega
  rw [hs, hv]
  funext x
  unfold va_up
  by_cases hx : x = ix i j k
  · rw [if_pos hx, hx]
    unfold gF
    rw [hq.1, hq.2.1, hq.2.2, if_pos ⟨hi, hj, hk, by omega⟩]
  · rw [if_neg hx]
    unfold gF
    by_cases h : x / 16 < a ∧ x / 4 % 4 < b ∧ x % 4 < d ∧ x < ix i j k
    · rw [if_pos h, if_pos ⟨h.1, h.2.1, h.2.2.1, by omega⟩]
    · rw [if_neg h, if_neg (fun hh => h ⟨hh.1, hh.2.1, hh.2.2.1, by omega⟩)]
theorem gF_ok {p a b d t : Nat} {F : Nat → Nat} (hp : isP p) (hF : ∀ x, F x < p) : cOK p a b d (gF a b d F t) := by
  have := hp.b
  refine ⟨fun x _ => ?_, fun i j k hi hj hk hn => ?_⟩
  · unfold gF; split
    · exact hF x
    · omega
  · have hd := ix_16 (i := i) hj hk
    unfold gF
    rw [hd.1, hd.2.1, hd.2.2, if_neg (fun hh => hn ⟨hh.1, hh.2.1, hh.2.2.1⟩)]
theorem ix_of {x : Nat} : ix (x / 16) (x / 4 % 4) (x % 4) = x := by unfold ix; omega
def sF (p : Nat) (gl gr : Nat → Nat) (x : Nat) : Nat := (gl x + gr x) % p
theorem sF_lt {p : Nat} {gl gr : Nat → Nat} (hp : isP p) (x : Nat) : sF p gl gr x < p := Nat.mod_lt _ (by have := hp.b; omega)
theorem sF_all {p a b d x : Nat} {gl gr : Nat → Nat} (hl : cOK p a b d gl) (hr : cOK p a b d gr) (hx : x < 64) : gF a b d (sF p gl gr) 64 x = sF p gl gr x := by
  unfold gF
  by_cases h : x / 16 < a ∧ x / 4 % 4 < b ∧ x % 4 < d
  · rw [if_pos ⟨h.1, h.2.1, h.2.2, hx⟩]
  · rw [if_neg (fun hh => h ⟨hh.1, hh.2.1, hh.2.2.1⟩)]
    have e1 := hl.2 (x / 16) (x / 4 % 4) (x % 4) (by omega) (by omega) (by omega) h
    have e2 := hr.2 (x / 16) (x / 4 % 4) (x % 4) (by omega) (by omega) (by omega) h
    rw [ix_of] at e1 e2
    unfold sF
    rw [e1, e2, Nat.add_zero, Nat.zero_mod]
def pF (p ra rb rd : Nat) (gl gr : Nat → Nat) (x : Nat) : Nat := gl (ix (x / 16 / ra) (x / 4 % 4 / rb) (x % 4 / rd)) * gr (ix (x / 16 % ra) (x / 4 % 4 % rb) (x % 4 % rd)) % p
theorem pF_lt {p ra rb rd : Nat} {gl gr : Nat → Nat} (hp : isP p) (x : Nat) : pF p ra rb rd gl gr x < p := Nat.mod_lt _ (by have := hp.b; omega)
theorem pF_at {p ra rb rd i j k : Nat} {gl gr : Nat → Nat} (hj : j < 4) (hk : k < 4) : pF p ra rb rd gl gr (ix i j k) = gl (ix (i / ra) (j / rb) (k / rd)) * gr (ix (i % ra) (j % rb) (k % rd)) % p := by
  have hd := ix_16 (i := i) hj hk
  unfold pF
  rw [hd.1, hd.2.1, hd.2.2]
theorem q_lt {i a ra : Nat} (h : i < a * ra) (ha : a ≤ 4) : i / ra < 4 := by
  have : i / ra < a := Nat.div_lt_of_lt_mul (by rw [Nat.mul_comm]; exact h)
  omega
theorem cOK.lt {p a b d x : Nat} {g : Nat → Nat} (h : cOK p a b d g) (hx : x < 64) : g x < p := h.1 x hx
-- 69.csum.lean.txt
/-! LAW CASES 7 AND 8: the class's loops -/
/-- what the class's sum finds ahead of its loops -/
def fBasesum (S : ZS) (l0 lc ln rc rn nn p a b d la lb ld lq ra rb rd rq : Nat) (fs : List Value) (gl gr : Nat → Nat) : Prop :=
  (1 ≤ a ∧ a ≤ 4 ∧ 1 ≤ b ∧ b ≤ 4 ∧ 1 ≤ d ∧ d ≤ 4) ∧ zOb S l0 5 fs ∧ fs[6]? = some (.int (ci p)) ∧ zCu S lc ln la lb ld lq gl ∧ zCu S rc rn ra rb rd rq gr ∧ (l0 ≠ nn ∧ lc ≠ nn ∧ ln ≠ nn ∧ rc ≠ nn ∧ rn ≠ nn) ∧ isP p ∧ cOK p la lb ld gl ∧ cOK p ra rb rd gr ∧ a = la ∧ b = lb ∧ d = ld ∧ la = ra ∧ lb = rb ∧ ld = rd
theorem fBasesum.fr {S S' : ZS} {l0 lc ln rc rn nn p a b d la lb ld lq ra rb rd rq : Nat} {fs : List Value} {gl gr : Nat → Nat} (B : fBasesum S l0 lc ln rc rn nn p a b d la lb ld lq ra rb rd rq fs gl gr) (hf : zFrm S S' (fun b => b = nn)) : fBasesum S' l0 lc ln rc rn nn p a b d la lb ld lq ra rb rd rq fs gl gr :=
  ⟨B.1, hf.ob B.2.2.2.2.2.1.1 B.2.1, B.2.2.1, hf.cu B.2.2.2.2.2.1.2.1 B.2.2.2.2.2.1.2.2.1 B.2.2.2.1, hf.cu B.2.2.2.2.2.1.2.2.2.1 B.2.2.2.2.2.1.2.2.2.2 B.2.2.2.2.1, B.2.2.2.2.2⟩
theorem c_sum3 {S : ZS} {l0 lc ln rc rn c nn p a b d q i j la lb ld lq ra rb rd rq : Nat} {fs : List Value} {gl gr : Nat → Nat} (B : fBasesum S l0 lc ln rc rn nn p a b d la lb ld lq ra rb rd rq fs gl gr) (hi : i < a) (hj : j < b) (h : zCu S c nn a b d q (gF a b d (sF p gl gr) (ix i j 0))) : ∃ S1, ziter (fX5_sum_B79 l0 lc rc c (ci i) (ci j)) zF (ci 0, S) = some (.inl (ci (j + 1), S1)) ∧ zCu S1 c nn a b d q (gF a b d (sF p gl gr) (ix i (j + 1) 0)) ∧ zFrm S S1 (fun b => b = nn) := by
  have hs := B.1
  have := ziter_for (body := fX5_sum_B79 l0 lc rc c (ci i) (ci j)) (fun k S' => zCu S' c nn a b d q (gF a b d (sF p gl gr) (ix i j k)) ∧ zFrm S S' (fun b => b = nn)) (fun r => ∃ S1, r = .inl (ci (j + 1), S1) ∧ zCu S1 c nn a b d q (gF a b d (sF p gl gr) (ix i (j + 1) 0)) ∧ zFrm S S1 (fun b => b = nn)) d ?_ ?_ d 0 zF S (by omega) (by rw [zF_eq]; omega) ⟨h, zFrm.rf⟩
  · obtain ⟨r, h1, S1, rfl, h2, h3⟩ := this
    exact ⟨S1, h1, h2, h3⟩
  · rintro k S' hk ⟨y, hf⟩
    have B' := B.fr hf
    obtain ⟨_, b1, b2, b3, b4, _, b5, b6, b7, rfl, rfl, rfl, rfl, rfl, rfl⟩ := B'
    have l1 := b6.lt (ix_lt (i := i) (j := j) (k := k) (by omega) (by omega) (by omega))
    have l2 := b7.lt (ix_lt (i := i) (j := j) (k := k) (by omega) (by omega) (by omega))
    have hpb := b5.b
    obtain ⟨S1, f1, f2, f3⟩ := g_enter (v := sF p gl gr (ix i j k)) y (i := i) (j := j) (k := k) (by omega) (by omega) (by omega)
    rw [gF_step hi hj hk (by omega) (by omega) rfl] at f2
    refine ⟨S1, ?_, f2, hf.tr f3⟩
    unfold fX5_sum_B79
    simp only []
    rw [zgI_ob y.1 rfl, Option.bind_some, if_neg (by rw [ci_le (by omega) (by omega)]; omega), zcl_cu b3, g_numberAt b3 (by omega) (by omega) (by omega), Option.bind_some, zcl_cu b4, g_numberAt b4 (by omega) (by omega) (by omega), Option.bind_some, zgI_ob b1 b2, Option.bind_some, ci_add, g_rem (by omega) (by omega) (by omega), Option.bind_some, zcl_cu y]
    show Option.bind (fX0_enter c (ci i) (ci j) (ci k) (ci (sF p gl gr (ix i j k))) S') _ = _
    rw [f1, Option.bind_some, cl_1, ci_add]
  · rintro S' ⟨y, hf⟩
    refine ⟨.inl (ci (j + 1), S'), ?_, S', rfl, ?_, hf⟩
    · unfold fX5_sum_B79
      simp only []
      rw [zgI_ob y.1 rfl, Option.bind_some, if_pos (by rw [ci_le (by omega) (by omega)]; omega), cl_1, ci_add, zex_some]
    · rw [← gF_row (by omega)]; exact y
theorem c_sum2 {S : ZS} {l0 lc ln rc rn c nn p a b d q i la lb ld lq ra rb rd rq : Nat} {fs : List Value} {gl gr : Nat → Nat} (B : fBasesum S l0 lc ln rc rn nn p a b d la lb ld lq ra rb rd rq fs gl gr) (hi : i < a) (h : zCu S c nn a b d q (gF a b d (sF p gl gr) (ix i 0 0))) : ∃ S1, ziter (fX5_sum_B66 l0 lc rc c (ci i)) zF (ci 0, S) = some (.inl (ci (i + 1), S1)) ∧ zCu S1 c nn a b d q (gF a b d (sF p gl gr) (ix (i + 1) 0 0)) ∧ zFrm S S1 (fun b => b = nn) := by
  have hs := B.1
  have := ziter_for (body := fX5_sum_B66 l0 lc rc c (ci i)) (fun j S' => zCu S' c nn a b d q (gF a b d (sF p gl gr) (ix i j 0)) ∧ zFrm S S' (fun b => b = nn)) (fun r => ∃ S1, r = .inl (ci (i + 1), S1) ∧ zCu S1 c nn a b d q (gF a b d (sF p gl gr) (ix (i + 1) 0 0)) ∧ zFrm S S1 (fun b => b = nn)) b ?_ ?_ b 0 zF S (by omega) (by rw [zF_eq]; omega) ⟨h, zFrm.rf⟩
  · obtain ⟨r, h1, S1, rfl, h2, h3⟩ := this
    exact ⟨S1, h1, h2, h3⟩
  · rintro j S' hj ⟨y, hf⟩
    obtain ⟨S1, f1, f2, f3⟩ := c_sum3 (B.fr hf) hi hj y
    refine ⟨S1, ?_, f2, hf.tr f3⟩
    unfold fX5_sum_B66
    simp only []
    rw [zgI_ob y.1 rfl, Option.bind_some, if_neg (by rw [ci_le (by omega) (by omega)]; omega), cl_0]
    exact f1
  · rintro S' ⟨y, hf⟩
    refine ⟨.inl (ci (i + 1), S'), ?_, S', rfl, ?_, hf⟩
    · unfold fX5_sum_B66
      simp only []
      rw [zgI_ob y.1 rfl, Option.bind_some, if_pos (by rw [ci_le (by omega) (by omega)]; omega), cl_1, ci_add, zex_some]
    · rw [← gF_rows (by omega)]; exact y
theorem c_sum1 {S : ZS} {l0 lc ln rc rn c nn p a b d q cc la lb ld lq ra rb rd rq : Nat} {fs : List Value} {gl gr : Nat → Nat} (B : fBasesum S l0 lc ln rc rn nn p a b d la lb ld lq ra rb rd rq fs gl gr) (hv : fs[7]? = some (.int (ci (cc + 1)))) (h : zCu S c nn a b d q (gF a b d (sF p gl gr) 0)) : ∃ S1, ziter (fX5_sum_B53 l0 lc rc c) zF (ci 0, S) = some (.inl (ci cc, S1)) ∧ zCu S1 c nn a b d q (gF a b d (sF p gl gr) 64) ∧ zFrm S S1 (fun b => b = nn) := by
  have hs := B.1
  have := ziter_for (body := fX5_sum_B53 l0 lc rc c) (fun i S' => zCu S' c nn a b d q (gF a b d (sF p gl gr) (ix i 0 0)) ∧ zFrm S S' (fun b => b = nn)) (fun r => ∃ S1, r = .inl (ci cc, S1) ∧ zCu S1 c nn a b d q (gF a b d (sF p gl gr) 64) ∧ zFrm S S1 (fun b => b = nn)) a ?_ ?_ a 0 zF S (by omega) (by rw [zF_eq]; omega) ⟨h, zFrm.rf⟩
  · obtain ⟨r, h1, S1, rfl, h2, h3⟩ := this
    exact ⟨S1, h1, h2, h3⟩
  · rintro i S' hi ⟨y, hf⟩
    obtain ⟨S1, f1, f2, f3⟩ := c_sum2 (B.fr hf) hi y
    refine ⟨S1, ?_, f2, hf.tr f3⟩
    unfold fX5_sum_B53
    simp only []
    rw [zgI_ob y.1 rfl, Option.bind_some, if_neg (by rw [ci_le (by omega) (by omega)]; omega), cl_0]
    exact f1
  · rintro S' ⟨y, hf⟩
    refine ⟨.inl (ci cc, S'), ?_, S', rfl, ?_, hf⟩
    · unfold fX5_sum_B53
      simp only []
      rw [zgI_ob y.1 rfl, Option.bind_some, if_pos (by rw [ci_le (by omega) (by omega)]; omega), zgI_ob (B.fr hf).2.1 hv, Option.bind_some, cl_1, ci_sub (by omega), Nat.add_sub_cancel, zex_some]
    · rw [← gF_end (by omega)]; exact y
/-- what the class's product finds ahead of its loops -/
def fBaseproduct (S : ZS) (l0 lc ln rc rn nn p a b d la lb ld lq ra rb rd rq : Nat) (fs : List Value) (gl gr : Nat → Nat) : Prop :=
  (1 ≤ a ∧ a ≤ 4 ∧ 1 ≤ b ∧ b ≤ 4 ∧ 1 ≤ d ∧ d ≤ 4) ∧ zOb S l0 5 fs ∧ fs[6]? = some (.int (ci p)) ∧ zCu S lc ln la lb ld lq gl ∧ zCu S rc rn ra rb rd rq gr ∧ (l0 ≠ nn ∧ lc ≠ nn ∧ ln ≠ nn ∧ rc ≠ nn ∧ rn ≠ nn) ∧ isP p ∧ cOK p la lb ld gl ∧ cOK p ra rb rd gr ∧ (((1 ≤ ra ∧ ra ≤ 4 ∧ 1 ≤ rb ∧ rb ≤ 4 ∧ 1 ≤ rd ∧ rd ≤ 4) ∧ la ≤ 4 ∧ lb ≤ 4 ∧ ld ≤ 4) ∧ a = la * ra ∧ b = lb * rb ∧ d = ld * rd)
theorem fBaseproduct.fr {S S' : ZS} {l0 lc ln rc rn nn p a b d la lb ld lq ra rb rd rq : Nat} {fs : List Value} {gl gr : Nat → Nat} (B : fBaseproduct S l0 lc ln rc rn nn p a b d la lb ld lq ra rb rd rq fs gl gr) (hf : zFrm S S' (fun b => b = nn)) : fBaseproduct S' l0 lc ln rc rn nn p a b d la lb ld lq ra rb rd rq fs gl gr :=
  ⟨B.1, hf.ob B.2.2.2.2.2.1.1 B.2.1, B.2.2.1, hf.cu B.2.2.2.2.2.1.2.1 B.2.2.2.2.2.1.2.2.1 B.2.2.2.1, hf.cu B.2.2.2.2.2.1.2.2.2.1 B.2.2.2.2.2.1.2.2.2.2 B.2.2.2.2.1, B.2.2.2.2.2⟩
theorem c_product3 {S : ZS} {l0 lc ln rc rn c nn p a b d q i j la lb ld lq ra rb rd rq : Nat} {fs : List Value} {gl gr : Nat → Nat} (B : fBaseproduct S l0 lc ln rc rn nn p a b d la lb ld lq ra rb rd rq fs gl gr) (hi : i < a) (hj : j < b) (h : zCu S c nn a b d q (gF a b d (pF p ra rb rd gl gr) (ix i j 0))) : ∃ S1, ziter (fX5_product_B78 l0 lc rc c (ci i) (ci j)) zF (ci 0, S) = some (.inl (ci (j + 1), S1)) ∧ zCu S1 c nn a b d q (gF a b d (pF p ra rb rd gl gr) (ix i (j + 1) 0)) ∧ zFrm S S1 (fun b => b = nn) := by
  have hs := B.1
  have := ziter_for (body := fX5_product_B78 l0 lc rc c (ci i) (ci j)) (fun k S' => zCu S' c nn a b d q (gF a b d (pF p ra rb rd gl gr) (ix i j k)) ∧ zFrm S S' (fun b => b = nn)) (fun r => ∃ S1, r = .inl (ci (j + 1), S1) ∧ zCu S1 c nn a b d q (gF a b d (pF p ra rb rd gl gr) (ix i (j + 1) 0)) ∧ zFrm S S1 (fun b => b = nn)) d ?_ ?_ d 0 zF S (by omega) (by rw [zF_eq]; omega) ⟨h, zFrm.rf⟩
  · obtain ⟨r, h1, S1, rfl, h2, h3⟩ := this
    exact ⟨S1, h1, h2, h3⟩
  · rintro k S' hk ⟨y, hf⟩
    have B' := B.fr hf
    obtain ⟨_, b1, b2, b3, b4, _, b5, b6, b7, ⟨⟨r1, r2, r3, r4, r5, r6⟩, la4, lb4, ld4⟩, rfl, rfl, rfl⟩ := B'
    have i1 := q_lt hi la4
    have i2 := q_lt hj lb4
    have i3 := q_lt hk ld4
    have m1 := Nat.mod_lt i (show 0 < ra by omega)
    have m2 := Nat.mod_lt j (show 0 < rb by omega)
    have m3 := Nat.mod_lt k (show 0 < rd by omega)
    have l1 := b6.lt (ix_lt i1 i2 i3)
    have l2 := b7.lt (ix_lt (i := i % ra) (j := j % rb) (k := k % rd) (by omega) (by omega) (by omega))
    have hpb := b5.b
    have l3 : gl (ix (i / ra) (j / rb) (k / rd)) * gr (ix (i % ra) (j % rb) (k % rd)) ≤ 5 * 5 := Nat.mul_le_mul (by omega) (by omega)
    obtain ⟨S1, f1, f2, f3⟩ := g_enter (v := pF p ra rb rd gl gr (ix i j k)) y (i := i) (j := j) (k := k) (by omega) (by omega) (by omega)
    rw [gF_step hi hj hk (by omega) (by omega) rfl] at f2
    refine ⟨S1, ?_, f2, hf.tr f3⟩
    rw [pF_at (by omega) (by omega)] at f1
    unfold fX5_product_B78
    simp only []
    rw [zgI_ob y.1 rfl, Option.bind_some, if_neg (by rw [ci_le (by omega) (by omega)]; omega)]
    unfold fX5_numberOfProduct
    rw [zgI_ob b4.1 rfl, Option.bind_some, g_quo (by omega) (by omega) (by omega), Option.bind_some, zgI_ob b4.1 rfl, Option.bind_some, g_quo (by omega) (by omega) (by omega), Option.bind_some, zgI_ob b4.1 rfl, Option.bind_some, g_quo (by omega) (by omega) (by omega), Option.bind_some, zcl_cu b3, g_numberAt b3 i1 i2 i3, Option.bind_some, Option.bind_some, g_rem (by omega) (by omega) (by omega), Option.bind_some, Option.bind_some, g_rem (by omega) (by omega) (by omega), Option.bind_some, Option.bind_some, g_rem (by omega) (by omega) (by omega), Option.bind_some, zcl_cu b4, g_numberAt b4 (by omega) (by omega) (by omega), Option.bind_some, Option.bind_some, zgI_ob b1 b2, Option.bind_some, ci_mul, g_rem (by omega) (by omega) (by omega), Option.bind_some, zcl_cu y, f1, Option.bind_some, cl_1, ci_add]
  · rintro S' ⟨y, hf⟩
    refine ⟨.inl (ci (j + 1), S'), ?_, S', rfl, ?_, hf⟩
    · unfold fX5_product_B78
      simp only []
      rw [zgI_ob y.1 rfl, Option.bind_some, if_pos (by rw [ci_le (by omega) (by omega)]; omega), cl_1, ci_add, zex_some]
    · rw [← gF_row (by omega)]; exact y
theorem c_product2 {S : ZS} {l0 lc ln rc rn c nn p a b d q i la lb ld lq ra rb rd rq : Nat} {fs : List Value} {gl gr : Nat → Nat} (B : fBaseproduct S l0 lc ln rc rn nn p a b d la lb ld lq ra rb rd rq fs gl gr) (hi : i < a) (h : zCu S c nn a b d q (gF a b d (pF p ra rb rd gl gr) (ix i 0 0))) : ∃ S1, ziter (fX5_product_B65 l0 lc rc c (ci i)) zF (ci 0, S) = some (.inl (ci (i + 1), S1)) ∧ zCu S1 c nn a b d q (gF a b d (pF p ra rb rd gl gr) (ix (i + 1) 0 0)) ∧ zFrm S S1 (fun b => b = nn) := by
  have hs := B.1
  have := ziter_for (body := fX5_product_B65 l0 lc rc c (ci i)) (fun j S' => zCu S' c nn a b d q (gF a b d (pF p ra rb rd gl gr) (ix i j 0)) ∧ zFrm S S' (fun b => b = nn)) (fun r => ∃ S1, r = .inl (ci (i + 1), S1) ∧ zCu S1 c nn a b d q (gF a b d (pF p ra rb rd gl gr) (ix (i + 1) 0 0)) ∧ zFrm S S1 (fun b => b = nn)) b ?_ ?_ b 0 zF S (by omega) (by rw [zF_eq]; omega) ⟨h, zFrm.rf⟩
  · obtain ⟨r, h1, S1, rfl, h2, h3⟩ := this
    exact ⟨S1, h1, h2, h3⟩
  · rintro j S' hj ⟨y, hf⟩
    obtain ⟨S1, f1, f2, f3⟩ := c_product3 (B.fr hf) hi hj y
    refine ⟨S1, ?_, f2, hf.tr f3⟩
    unfold fX5_product_B65
    simp only []
    rw [zgI_ob y.1 rfl, Option.bind_some, if_neg (by rw [ci_le (by omega) (by omega)]; omega), cl_0]
    exact f1
  · rintro S' ⟨y, hf⟩
    refine ⟨.inl (ci (i + 1), S'), ?_, S', rfl, ?_, hf⟩
    · unfold fX5_product_B65
      simp only []
      rw [zgI_ob y.1 rfl, Option.bind_some, if_pos (by rw [ci_le (by omega) (by omega)]; omega), cl_1, ci_add, zex_some]
    · rw [← gF_rows (by omega)]; exact y
theorem c_product1 {S : ZS} {l0 lc ln rc rn c nn p a b d q cc la lb ld lq ra rb rd rq : Nat} {fs : List Value} {gl gr : Nat → Nat} (B : fBaseproduct S l0 lc ln rc rn nn p a b d la lb ld lq ra rb rd rq fs gl gr) (hv : fs[7]? = some (.int (ci (cc + 1)))) (h : zCu S c nn a b d q (gF a b d (pF p ra rb rd gl gr) 0)) : ∃ S1, ziter (fX5_product_B52 l0 lc rc c) zF (ci 0, S) = some (.inl (ci cc, S1)) ∧ zCu S1 c nn a b d q (gF a b d (pF p ra rb rd gl gr) 64) ∧ zFrm S S1 (fun b => b = nn) := by
  have hs := B.1
  have := ziter_for (body := fX5_product_B52 l0 lc rc c) (fun i S' => zCu S' c nn a b d q (gF a b d (pF p ra rb rd gl gr) (ix i 0 0)) ∧ zFrm S S' (fun b => b = nn)) (fun r => ∃ S1, r = .inl (ci cc, S1) ∧ zCu S1 c nn a b d q (gF a b d (pF p ra rb rd gl gr) 64) ∧ zFrm S S1 (fun b => b = nn)) a ?_ ?_ a 0 zF S (by omega) (by rw [zF_eq]; omega) ⟨h, zFrm.rf⟩
  · obtain ⟨r, h1, S1, rfl, h2, h3⟩ := this
    exact ⟨S1, h1, h2, h3⟩
  · rintro i S' hi ⟨y, hf⟩
    obtain ⟨S1, f1, f2, f3⟩ := c_product2 (B.fr hf) hi y
    refine ⟨S1, ?_, f2, hf.tr f3⟩
    unfold fX5_product_B52
    simp only []
    rw [zgI_ob y.1 rfl, Option.bind_some, if_neg (by rw [ci_le (by omega) (by omega)]; omega), cl_0]
    exact f1
  · rintro S' ⟨y, hf⟩
    refine ⟨.inl (ci cc, S'), ?_, S', rfl, ?_, hf⟩
    · unfold fX5_product_B52
      simp only []
      rw [zgI_ob y.1 rfl, Option.bind_some, if_pos (by rw [ci_le (by omega) (by omega)]; omega), zgI_ob (B.fr hf).2.1 hv, Option.bind_some, cl_1, ci_sub (by omega), Nat.add_sub_cancel, zex_some]
    · rw [← gF_end (by omega)]; exact y
