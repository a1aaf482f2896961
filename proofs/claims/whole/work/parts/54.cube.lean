/-! LAW CASE 1: cube -/
theorem zMo.cg {S : ZS} {m : Nat} {R R' : Nat → Nat} {X : Nat → Int32} {A : Nat → Nat → Int32} (h : zMo S m R X A) (e : ∀ i, i < 17 → R' i = R i) : zMo S m R' X A := by
  have a17 : ∀ i, isA i → i < 17 := fun i hi => by unfold isA at hi; omega
  refine ⟨?_, fun i hi => ?_, ?_, fun i j hi hj hh => ?_⟩
  · have : mF R' X = mF R X := by
      unfold mF
      rw [e 3 (by omega), e 4 (by omega), e 5 (by omega), e 7 (by omega), e 8 (by omega), e 9 (by omega), e 10 (by omega), e 11 (by omega), e 12 (by omega), e 13 (by omega), e 14 (by omega), e 16 (by omega)]
    rw [this]; exact h.1
  · rw [e i (a17 i hi)]; exact h.2.1 i hi
  · rw [e 16 (by omega)]; exact h.2.2.1
  · rw [e i (a17 i hi), e j (a17 j hj)] at hh; exact h.2.2.2 i j hi hj hh
def s4 (a : Int32) : Bool := decide (1 ≤ a ∧ a ≤ 4)
theorem s4_ex {a : Int32} (h : s4 a = true) : ∃ n, (1 ≤ n ∧ n ≤ 4) ∧ a = ci n := by
  unfold s4 at h
  rw [decide_eq_true_eq] at h
  obtain ⟨n, hn, rfl⟩ := ci_of (x := a) (Int32.le_trans (by decide) h.1)
  exact ⟨n, ⟨(ci_le (a := 1) (by omega) hn).mp h.1, (ci_le (b := 4) hn (by omega)).mp h.2⟩, rfl⟩
theorem m_in4 {a : Int32} : fX6_in a (1 : Int32) (4 : Int32) = some (bI (s4 a)) := by
  unfold fX6_in fX6_in_J14 fX6_in_J15 s4
  by_cases h1 : a < 1
  · rw [if_pos h1, decide_eq_false (fun hh => Int32.not_lt.mpr hh.1 h1)]; rfl
  · rw [if_neg h1]
    by_cases h2 : 4 < a
    · rw [if_pos h2, decide_eq_false (fun hh => Int32.not_lt.mpr hh.2 h2)]; rfl
    · rw [if_neg h2, decide_eq_true ⟨Int32.not_lt.mp h1, Int32.not_lt.mp h2⟩]; rfl
theorem c_needSize {a : Int32} {S : ZS} : fX5_needSize a S = if s4 a = true then some (.inl ((), S)) else some (.inr ("java/lang/IllegalArgumentException", S.1)) := by
  unfold fX5_needSize fX5_needSize_J10 s4
  by_cases h1 : a < 1
  · rw [if_pos h1, decide_eq_false (fun hh => Int32.not_lt.mpr hh.1 h1)]; rfl
  · rw [if_neg h1]
    by_cases h2 : a ≤ 4
    · rw [if_pos h2, decide_eq_true ⟨Int32.not_lt.mp h1, h2⟩]; rfl
    · rw [if_neg h2, decide_eq_false (fun hh => h2 hh.2)]; rfl
def s43 (a b d : Int32) : Bool := s4 a && (s4 b && s4 d)
/-- the exception of making a cube; 0 for none -/
def cmk (cc : Nat) (a b d : Int32) : Nat := if s43 a b d = true then (if cc = 16 then 2 else 0) else 1
theorem m_canMake {S : ZS} {m cc : Nat} {a b d : Int32} {R : Nat → Nat} {X : Nat → Int32} {A : Nat → Nat → Int32} (h : zMo S m R X A) (hX : X 2 = ci cc) (hc : cc ≤ 16) : ∃ S1, fX6_canMake m a b d S = some (bI (decide (cmk cc a b d = 0)), S1) ∧ zMo S1 m R (mX X 0 (ci (cmk cc a b d))) A ∧ zFrm S S1 (mP m R) := by
  have hj : cmk cc a b d < 3 := by unfold cmk; split <;> (try split) <;> omega
  obtain ⟨S1, g1, g2, g3⟩ := m_goesWell h (j := cmk cc a b d) (by omega)
  have j58 : fX6_canMake_J58 m (ci (cmk cc a b d)) S = some (bI (decide (cmk cc a b d = 0)), S1) := by
    unfold fX6_canMake_J58
    rw [h.cl, g1, Option.bind_some, zbl_bI, Option.bind_some]
  refine ⟨S1, ?_, g2, g3.wk (fun _ => Or.inl)⟩
  rw [← j58]
  unfold fX6_canMake fX6_canMake_J31 fX6_canMake_J32 cmk s43
  rw [m_in4, Option.bind_some, m_in4, Option.bind_some, m_in4, Option.bind_some, zgI_ob h.1 rfl, Option.bind_some, hX]
  by_cases h16 : cc = 16
  · rw [if_pos (show ci cc = 16 by rw [h16]; rfl), if_pos h16]
    cases s4 a <;> cases s4 b <;> cases s4 d <;> rfl
  · rw [if_neg (show ¬ ci cc = 16 by rw [cl_16, ci_eq (by omega) (by omega)]; exact h16), if_neg h16]
    cases s4 a <;> cases s4 b <;> cases s4 d <;> rfl
theorem c_addBad {S : ZS} {ad : Nat → Nat} {p cc wc : Nat} {a b d : Int32} (h : zHd S ad p cc wc) (hc : cc ≤ 16) (hj : cmk cc a b d ≠ 0) : fX5_addCube (ad 10) a b d S = some (.inr (if cmk cc a b d = 1 then "java/lang/IllegalArgumentException" else "java/lang/IllegalStateException", S.1)) := by
  unfold fX5_addCube fX5_addCube_J31
  rw [c_needSize]
  unfold cmk s43 at *
  cases ha : s4 a with
  | false => rw [ha] at hj; rfl
  | true =>
    rw [if_pos rfl, zbT_l, c_needSize]
    cases hb : s4 b with
    | false => rfl
    | true =>
      rw [if_pos rfl, zbT_l, c_needSize]
      cases hd : s4 d with
      | false => rfl
      | true =>
        rw [if_pos rfl, zbT_l]
        have h16 : cc = 16 := by
          apply Classical.byContradiction
          intro hh
          rw [ha, hb, hd, if_pos (by rfl), if_neg hh] at hj
          exact hj rfl
        show Option.bind (zgI S (ad 10) 5 7) _ = _
        rw [zgI_ob h.1 rfl, Option.bind_some, if_neg (ci_nneg (by omega)), Option.bind_some, zgR_ob h.1 rfl, Option.bind_some, zalQ h.2.1 (by omega), Option.bind_some, if_neg (by rw [ci_lt (by omega) (by omega)]; omega), h16]
        rfl
theorem add_rl {p cc wc a b d : Nat} {CA CG WA WG : Nat → Nat → Nat} {WV : Nat → Nat → Nat → Nat → Nat} {X X' : Nat → Int32} {A A' : Nat → Nat → Int32} (h : zRl p cc wc CA CG WA WG WV X A) (h1 : X' 1 = X 1) (h2 : X' 2 = ci (cc + 1)) (h6 : X' 6 = X 6) (hz : mZ cc A A')
    (e3 : ∀ s, s < 3 → A' 3 (3 * cc + s) = ci (sz3 a b d s)) (e4 : ∀ x, x < 64 → A' 4 (64 * cc + x) = 0) (e5 : A' 5 cc = 0) : zRl p (cc + 1) wc (upN CA cc a b d 0) (upG CG cc (fun _ => 0)) WA WG WV X' A' := by
  obtain ⟨a1, a2, a3, a4, a5⟩ := h
  refine ⟨h1.trans a1, h2, h6.trans a3, fun j hj => ?_, fun j hj => ?_⟩
  · by_cases hji : j = cc
    · subst hji
      rw [upG_self, show upN CA j a b d 0 j = (fun s => if s = 0 then a else if s = 1 then b else if s = 2 then d else 0) from if_pos rfl]
      exact ⟨e3, e4, e5⟩
    · rw [upG_ne hji, show upN CA cc a b d 0 j = CA j from if_neg hji]
      obtain ⟨b1, b2, b3⟩ := a4 j (by omega)
      exact ⟨fun s hs => by rw [hz.2.1 _ (by omega)]; exact b1 s hs, fun x hx => by rw [hz.2.2.1 _ (by omega)]; exact b2 x hx, by rw [hz.2.2.2 j (by omega)]; exact b3⟩
  · obtain ⟨⟨c1, c2, c3, c4, c5, c6, c7, c8, c9⟩, c10, c11⟩ := a5 j hj
    refine ⟨⟨c1, c2, c3, c4, h1.trans c5, fun s hs => ?_, ?_, c8, fun q hq s hs j' hj' => ?_⟩, fun x hx => ?_, ?_⟩
    · rw [hz.1 7 (by omega) (by omega) (by omega)]; exact c6 s hs
    · rw [hz.1 10 (by omega) (by omega) (by omega)]; exact c7
    · rw [hz.1 11 (by omega) (by omega) (by omega)]; exact c9 q hq s hs j' hj'
    · rw [hz.1 8 (by omega) (by omega) (by omega)]; exact c10 x hx
    · rw [hz.1 9 (by omega) (by omega) (by omega)]; exact c11
