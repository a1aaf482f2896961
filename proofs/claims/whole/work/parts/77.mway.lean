/-! LAW CASE 9: way, the model -/
theorem A9i : isA 9 := Or.inr ⟨by omega, by omega⟩
theorem N9 : mN 9 = 16 := rfl
/-- but for way wc's own nothing is otherwise -/
def mY (wc : Nat) (A A' : Nat → Nat → Int32) : Prop := (∀ j, j ≠ 7 → j ≠ 8 → j ≠ 9 → j ≠ 10 → A' j = A j) ∧ (∀ x, x < 3 * wc → A' 7 x = A 7 x) ∧ (∀ x, x < 64 * wc → A' 8 x = A 8 x) ∧ (∀ x, x ≠ wc → A' 9 x = A 9 x) ∧ ∀ x, x ≠ wc → A' 10 x = A 10 x
theorem mY.rf {wc : Nat} {A : Nat → Nat → Int32} : mY wc A A := ⟨fun _ _ _ _ _ => rfl, fun _ _ => rfl, fun _ _ => rfl, fun _ _ => rfl, fun _ _ => rfl⟩
theorem mY.tr {wc : Nat} {A B C : Nat → Nat → Int32} (h1 : mY wc A B) (h2 : mY wc B C) : mY wc A C := ⟨fun j a b c d => (h2.1 j a b c d).trans (h1.1 j a b c d), fun x a => (h2.2.1 x a).trans (h1.2.1 x a), fun x a => (h2.2.2.1 x a).trans (h1.2.2.1 x a), fun x a => (h2.2.2.2.1 x a).trans (h1.2.2.2.1 x a), fun x a => (h2.2.2.2.2 x a).trans (h1.2.2.2.2 x a)⟩
theorem mY.s7 {wc s : Nat} {A : Nat → Nat → Int32} {v : Int32} : mY wc A (mS A 7 (va_up (A 7) (3 * wc + s) v)) := ⟨fun j a _ _ _ => mS_ne a, fun x hx => by rw [mS_self, va_up_ne _ _ (by omega)], fun x _ => by rw [mS_ne (by omega)], fun x _ => by rw [mS_ne (by omega)], fun x _ => by rw [mS_ne (by omega)]⟩
theorem mY.s8 {wc s : Nat} {A : Nat → Nat → Int32} {v : Int32} : mY wc A (mS A 8 (va_up (A 8) (64 * wc + s) v)) := ⟨fun j _ b _ _ => mS_ne b, fun x _ => by rw [mS_ne (by omega)], fun x hx => by rw [mS_self, va_up_ne _ _ (by omega)], fun x _ => by rw [mS_ne (by omega)], fun x _ => by rw [mS_ne (by omega)]⟩
theorem mY.s9 {wc : Nat} {A : Nat → Nat → Int32} {v : Int32} : mY wc A (mS A 9 (va_up (A 9) wc v)) := ⟨fun j _ _ c _ => mS_ne c, fun x _ => by rw [mS_ne (by omega)], fun x _ => by rw [mS_ne (by omega)], fun x hx => by rw [mS_self, va_up_ne _ _ hx], fun x _ => by rw [mS_ne (by omega)]⟩
theorem mY.s10 {wc : Nat} {A : Nat → Nat → Int32} {v : Int32} : mY wc A (mS A 10 (va_up (A 10) wc v)) := ⟨fun j _ _ _ d => mS_ne d, fun x _ => by rw [mS_ne (by omega)], fun x _ => by rw [mS_ne (by omega)], fun x _ => by rw [mS_ne (by omega)], fun x hx => by rw [mS_self, va_up_ne _ _ hx]⟩
def mwP (m wc : Nat) (R : Nat → Nat) (X : Nat → Int32) (A : Nat → Nat → Int32) (S : ZS) (g c : Nat → Nat) (t u : Nat) (S' : ZS) : Prop := ∃ A', zMo S' m R X A' ∧ mY wc A A' ∧ (∀ y, y < t → A' 8 (64 * wc + y) = ci (g y)) ∧ (∀ s, s < u → A' 7 (3 * wc + s) = ci (sz3 (c 0) (c 1) (c 2) s)) ∧ zFrm S S' (mP m R)
theorem m_wy2 {S S0 : ZS} {m i wc : Nat} {R : Nat → Nat} {X : Nat → Int32} {A : Nat → Nat → Int32} {c g : Nat → Nat} (hi : i < 16) (hw : wc < 16) (hX : X 6 = ci wc) (yi : mCu A i c g) (h : mwP m wc R X A S0 g c 64 0 S) : ∃ S1 A1, ziter (fX6_way_B78 m (ci i)) zF (ci 0, S) = some (ci wc, S1) ∧ zMo S1 m R (mX X 6 (ci (wc + 1))) A1 ∧ mY wc A A1 ∧ (∀ y, y < 64 → A1 8 (64 * wc + y) = ci (g y)) ∧ (∀ s, s < 3 → A1 7 (3 * wc + s) = ci (sz3 (c 0) (c 1) (c 2) s)) ∧ A1 9 wc = ci (msq (c 3)) ∧ A1 10 wc = ci 0 ∧ zFrm S0 S1 (mP m R) := by
  have := ziter_for (body := fX6_way_B78 m (ci i)) (fun s S' => mwP m wc R X A S0 g c 64 s S') (fun r => ∃ S1 A1, r = (ci wc, S1) ∧ zMo S1 m R (mX X 6 (ci (wc + 1))) A1 ∧ mY wc A A1 ∧ (∀ y, y < 64 → A1 8 (64 * wc + y) = ci (g y)) ∧ (∀ s, s < 3 → A1 7 (3 * wc + s) = ci (sz3 (c 0) (c 1) (c 2) s)) ∧ A1 9 wc = ci (msq (c 3)) ∧ A1 10 wc = ci 0 ∧ zFrm S0 S1 (mP m R)) 3 ?_ ?_ 3 0 zF S (by omega) (by rw [zF_eq]; omega) h
  · obtain ⟨r, h1, S1, A1, rfl, h2⟩ := this
    exact ⟨S1, A1, h1, h2⟩
  · rintro s S' hs ⟨A', y1, y2, y3, y4, y5⟩
    have t := y1.set A7 (va_up (A' 7) (3 * wc + s) (ci (sz3 (c 0) (c 1) (c 2) s)))
    have rd : zaI S' (R 3) 0 ((3 : Int32) * ci i + ci s) = some (ci (sz3 (c 0) (c 1) (c 2) s)) := by
      rw [cl_3, ci_mul, ci_add, y1.rd A3i (by rw [N3]; omega), y2.1 3 (by omega) (by omega) (by omega) (by omega), yi.1 s hs]
    refine ⟨_, ?_, _, t.1, y2.tr mY.s7, fun y hy => by rw [mS_ne (by omega)]; exact y3 y hy, fun u hu => ?_, y5.tr (t.2.wk (fun b hb => Or.inr (Or.inr ⟨7, A7, hb⟩)))⟩
    · unfold fX6_way_B78
      simp only []
      rw [if_neg (by rw [cl_3, ci_le (by omega) (by omega)]; omega), zgR_ob y1.1 rfl, Option.bind_some, zgI_ob y1.1 rfl, Option.bind_some, hX, zgR_ob y1.1 rfl, Option.bind_some, rd, Option.bind_some, cl_3, ci_mul, ci_add, y1.wr A7 (by rw [N7]; omega), Option.bind_some, cl_1, ci_add]
    · rw [mS_self]
      unfold va_up
      by_cases hus : u = s
      · rw [if_pos (by omega), hus]
      · rw [if_neg (by omega)]; exact y4 u (by omega)
  · rintro S' ⟨A', y1, y2, y3, y4, y5⟩
    have t1 := y1.set A9i (va_up (A' 9) wc (ci (msq (c 3))))
    have t2 := t1.1.set A10 (va_up (A' 10) wc (ci 0))
    have t3 := t2.1.sx (X' := mX X 6 (ci (wc + 1)))
    have rd : zaI S' (R 5) 0 (ci i) = some (ci (msq (c 3))) := by
      rw [y1.rd A5i (by rw [N5]; omega), y2.1 5 (by omega) (by omega) (by omega) (by omega), yi.2.2]
    have y2' : mY wc A' (mS (mS A' 9 (va_up (A' 9) wc (ci (msq (c 3))))) 10 (va_up (A' 10) wc (ci 0))) := mY.s9.tr (by
      have := mY.s10 (wc := wc) (A := mS A' 9 (va_up (A' 9) wc (ci (msq (c 3))))) (v := ci 0)
      rw [mS_ne (show (10 : Nat) ≠ 9 by omega)] at this
      exact this)
    refine ⟨_, ?_, _, _, rfl, t3.1, y2.tr y2', fun y hy => by rw [mS_ne (by omega), mS_ne (by omega)]; exact y3 y hy, fun u hu => by rw [mS_ne (by omega), mS_ne (by omega)]; exact y4 u hu, by rw [mS_ne (by omega), mS_self, va_up_self], by rw [mS_self, va_up_self], ((y5.tr (t1.2.wk (fun b hb => Or.inr (Or.inr ⟨9, A9i, hb⟩)))).tr (t2.2.wk (fun b hb => Or.inr (Or.inr ⟨10, A10, hb⟩)))).tr (t3.2.wk (fun _ => Or.inl))⟩
    unfold fX6_way_B78
    simp only []
    rw [if_pos (by rw [cl_3, ci_le (by omega) (by omega)]; omega), zgR_ob y1.1 rfl, Option.bind_some, zgI_ob y1.1 rfl, Option.bind_some, hX, zgR_ob y1.1 rfl, Option.bind_some, rd, Option.bind_some, y1.wr A9i (by rw [N9]; omega), Option.bind_some, zgR_ob t1.1.1 rfl, Option.bind_some, zgI_ob t1.1.1 rfl, Option.bind_some, hX, cl_0, t1.1.wr A10 (by rw [N10]; omega), mS_ne (by omega), Option.bind_some, zgI_ob t2.1.1 rfl, Option.bind_some, hX, cl_1, ci_add, zpF_ob _ t2.1.1 (show 6 < (mF R X).length by unfold mF; simp), Option.bind_some]
    rw [show zwO (zwI (zwI S' (R 9) (mN 9) (va_up (A' 9) wc (ci (msq (c 3))))) (R 10) (mN 10) (va_up (A' 10) wc (ci 0))) m 6 ((mF R X).set 6 (.int (ci (wc + 1)))) = zwO (zwI (zwI S' (R 9) (mN 9) (va_up (A' 9) wc (ci (msq (c 3))))) (R 10) (mN 10) (va_up (A' 10) wc (ci 0))) m 6 (mF R (mX X 6 (ci (wc + 1)))) from rfl, zgI_ob t3.1.1 rfl, Option.bind_some, show mX X 6 (ci (wc + 1)) 6 = ci (wc + 1) from rfl, ci_sub (by omega), Nat.add_sub_cancel, zex_some]
theorem m_wy1 {S S0 : ZS} {m i wc : Nat} {R : Nat → Nat} {X : Nat → Int32} {A : Nat → Nat → Int32} {c g : Nat → Nat} (hi : i < 16) (hw : wc < 16) (hX : X 6 = ci wc) (yi : mCu A i c g) (h : mwP m wc R X A S0 g c 0 0 S) : ∃ S1 A1, ziter (fX6_way_B39 m (ci i)) zF (ci 0, S) = some (ci wc, S1) ∧ zMo S1 m R (mX X 6 (ci (wc + 1))) A1 ∧ mY wc A A1 ∧ (∀ y, y < 64 → A1 8 (64 * wc + y) = ci (g y)) ∧ (∀ s, s < 3 → A1 7 (3 * wc + s) = ci (sz3 (c 0) (c 1) (c 2) s)) ∧ A1 9 wc = ci (msq (c 3)) ∧ A1 10 wc = ci 0 ∧ zFrm S0 S1 (mP m R) := by
  have := ziter_for (body := fX6_way_B39 m (ci i)) (fun t S' => mwP m wc R X A S0 g c t 0 S') (fun r => ∃ S1 A1, r = (ci wc, S1) ∧ zMo S1 m R (mX X 6 (ci (wc + 1))) A1 ∧ mY wc A A1 ∧ (∀ y, y < 64 → A1 8 (64 * wc + y) = ci (g y)) ∧ (∀ s, s < 3 → A1 7 (3 * wc + s) = ci (sz3 (c 0) (c 1) (c 2) s)) ∧ A1 9 wc = ci (msq (c 3)) ∧ A1 10 wc = ci 0 ∧ zFrm S0 S1 (mP m R)) 64 ?_ ?_ 64 0 zF S (by omega) (by rw [zF_eq]; omega) h
  · obtain ⟨r, h1, S1, A1, rfl, h2⟩ := this
    exact ⟨S1, A1, h1, h2⟩
  · rintro k S' hk ⟨A', y1, y2, y3, y4, y5⟩
    have t := y1.set A8 (va_up (A' 8) (64 * wc + k) (ci (g k)))
    have rd : zaI S' (R 4) 0 ((64 : Int32) * ci i + ci k) = some (ci (g k)) := by
      rw [cl_64, ci_mul, ci_add, y1.rd A4i (by rw [N4]; omega), y2.1 4 (by omega) (by omega) (by omega) (by omega), yi.2.1 k hk]
    refine ⟨_, ?_, _, t.1, y2.tr mY.s8, fun y hy => ?_, fun u hu => absurd hu (Nat.not_lt_zero _), y5.tr (t.2.wk (fun b hb => Or.inr (Or.inr ⟨8, A8, hb⟩)))⟩
    · unfold fX6_way_B39
      simp only []
      rw [if_neg (by rw [cl_64, ci_le (by omega) (by omega)]; omega), zgR_ob y1.1 rfl, Option.bind_some, zgI_ob y1.1 rfl, Option.bind_some, hX, zgR_ob y1.1 rfl, Option.bind_some, rd, Option.bind_some, cl_64, ci_mul, ci_add, y1.wr A8 (by rw [N8]; omega), Option.bind_some, cl_1, ci_add]
    · rw [mS_self]
      unfold va_up
      by_cases hyk : y = k
      · rw [if_pos (by omega), hyk]
      · rw [if_neg (by omega)]; exact y3 y (by omega)
  · rintro S' y
    obtain ⟨S1, A1, f1, f2⟩ := m_wy2 hi hw hX yi y
    refine ⟨(ci wc, S1), ?_, S1, A1, rfl, f2⟩
    unfold fX6_way_B39
    simp only []
    rw [if_pos (by rw [cl_64, ci_le (by omega) (by omega)]; omega), cl_0, f1, zex_some]
theorem m_wyBad {S : ZS} {m j : Nat} {a1 : Int32} {R : Nat → Nat} {X : Nat → Int32} {A : Nat → Nat → Int32} (h : zMo S m R X A) (hj : j < 2147483648) (h0 : 0 < j) : ∃ S1, fX6_way_J29 m a1 m (ci j) S = some ((0 : Int32), S1) ∧ zMo S1 m R (mX X 0 (ci j)) A ∧ zFrm S S1 (mP m R) := by
  obtain ⟨S1, h1, h2, h3⟩ := m_badP h hj h0
  refine ⟨S1, ?_, h2, h3⟩
  unfold fX6_way_J29
  rw [h1, Option.bind_some, if_pos rfl]
theorem nway_rl {p cc wc i : Nat} {CA CG WA WG : Nat → Nat → Nat} {WV : Nat → Nat → Nat → Nat → Nat} {X X' : Nat → Int32} {A A' : Nat → Nat → Int32} (hp : isP p) (hw : wc < 16) (hz : szOK (CA i 0) (CA i 1) (CA i 2)) (h : zRl p cc wc CA CG WA WG WV X A) (h1 : X' 1 = X 1) (h2 : X' 2 = X 2) (h6 : X' 6 = ci (wc + 1)) (hy : mY wc A A')
    (e8 : ∀ y, y < 64 → A' 8 (64 * wc + y) = ci (cpF (CG i) 64 y)) (e7 : ∀ s, s < 3 → A' 7 (3 * wc + s) = ci (sz3 (CA i 0) (CA i 1) (CA i 2) s)) (e9 : A' 9 wc = ci (msq (CA i 3))) (e10 : A' 10 wc = ci 0) : zRl p cc (wc + 1) CA CG (nwW WA wc (CA i 0) (CA i 1) (CA i 2) (CA i 3)) (upG WG wc (cpF (CG i) 64)) WV X' A' := by
  obtain ⟨a1, a2, a3, a4, a5⟩ := h
  refine ⟨h1.trans a1, h2.trans a2, h6, fun j hj => ?_, fun j hj => ?_⟩
  · obtain ⟨b1, b2, b3⟩ := a4 j hj
    exact ⟨fun s hs => by rw [hy.1 3 (by omega) (by omega) (by omega) (by omega)]; exact b1 s hs, fun x hx => by rw [hy.1 4 (by omega) (by omega) (by omega) (by omega)]; exact b2 x hx, by rw [hy.1 5 (by omega) (by omega) (by omega) (by omega)]; exact b3⟩
  · by_cases hjw : j = wc
    · subst hjw
      rw [upG_self, nwW_self]
      exact ⟨⟨hw, hp, hz, (by show 0 ≤ 40; omega), h1.trans a1, e7, e10, fun q hq => absurd hq (Nat.not_lt_zero _), fun q hq => absurd hq (Nat.not_lt_zero _)⟩, e8, e9⟩
    · rw [upG_ne hjw, nwW_ne hjw]
      obtain ⟨⟨c1, c2, c3, c4, c5, c6, c7, c8, c9⟩, c10, c11⟩ := a5 j (by omega)
      refine ⟨⟨c1, c2, c3, c4, h1.trans a1, fun s hs => ?_, ?_, c8, fun q hq s hs j' hj' => ?_⟩, fun x hx => ?_, ?_⟩
      · rw [hy.2.1 _ (by omega)]; exact c6 s hs
      · rw [hy.2.2.2.2 j hjw]; exact c7
      · rw [hy.1 11 (by omega) (by omega) (by omega) (by omega)]; exact c9 q hq s hs j' hj'
      · rw [hy.2.2.1 _ (by omega)]; exact c10 x hx
      · rw [hy.2.2.2.1 j hjw]; exact c11
theorem ok9 {x m out : Nat} {a1 : Int32} {S : ZS} (h : zI x m out S) (hfr : zFr S.1 S.2) : ok_9 x m out a1 S (zI x m out) := by
  obtain ⟨ad, p, cc, wc, CA, CG, WA, WG, WV, X, A, fo, hx, hK, hin, hcl, hmo, hrl, hout⟩ := h
  have hx' := hx
  obtain ⟨rfl, rfl, rfl⟩ := hx'
  have hcc := hK.2.1
  have hwc := hK.2.2.1
  have hhd := hcl.1
  have hlt := lt_of hcl hmo hout hfr
  have thr : ∀ (j : Nat) (nm : String), 0 < j → j < 100 → fX5_way (ad 10) a1 S = some (.inr (nm, S.1)) → zcatchN nm S.1 1 ["java/lang/IndexOutOfBoundsException", "java/lang/IllegalStateException"] = some (ci j, S.1) → (∀ S0, zMo S0 (ad 11) (mR ad) X A → fX6_way (ad 11) a1 S0 = fX6_way_J29 (ad 11) a1 (ad 11) (ci j) S0) → ok_9 (ad 10) (ad 11) (ad 12) a1 S (zI (ad 10) (ad 11) (ad 12)) := by
    intro j nm hj0 hj h1 h2 h3
    refine ⟨ci j, S.1, ?_, fun n _ => ?_⟩
    · unfold fL_way
      rw [zcl_ob hhd.1, h1]
      exact h2
    · obtain ⟨r, r1, r2, r3⟩ := zthr (j := j) (f := fX6_way (ad 11) a1) hx hK hin hcl hmo hrl hout (fun S0 hS0 => by
        obtain ⟨S1, s1, s2, s3⟩ := m_wyBad (a1 := a1) hS0 (j := j) (by omega) hj0
        exact ⟨0, S1, by rw [h3 S0 hS0, s1], s2, s3⟩) n
      exact ⟨r, r1, r2, fun hh => absurd hh (by rw [cl_0, ci_eq (by omega) (by omega)]; omega), r3⟩
  cases hb : bl cc a1 with
  | false =>
    refine thr 1 "java/lang/IndexOutOfBoundsException" (by omega) (by omega) ?_ rfl (fun S0 hS0 => ?_)
    · unfold fX5_way
      rw [zcl_ob hhd.1, c_noCube hhd hcc hb, zbT_r]
    · unfold fX6_way
      rw [hS0.cl, m_isCube hS0 hrl.2.1 hcc, Option.bind_some, hb, if_pos bI_f]
      rfl
  | true =>
    obtain ⟨i, hi, rfl⟩ := bl_ex (by omega) hb
    have hmi := hrl.2.2.2.1 i hi
    have hci := hcl.2.2.1 i hi
    have mw : ∀ S0, zMo S0 (ad 11) (mR ad) X A → fX6_way (ad 11) (ci i) S0 = if wc = 16 then fX6_way_J29 (ad 11) (ci i) (ad 11) (2 : Int32) S0 else fX6_way_J29 (ad 11) (ci i) (ad 11) (0 : Int32) S0 := fun S0 hS0 => by
      unfold fX6_way
      rw [hS0.cl, m_isCube hS0 hrl.2.1 hcc, Option.bind_some, hb, if_neg (show ¬ bI true = 0 by decide), zgI_ob hS0.1 rfl, Option.bind_some, hrl.2.2.1]
      by_cases h16 : wc = 16
      · rw [if_pos (by rw [h16]; rfl), if_pos h16]
      · rw [if_neg (by rw [cl_16, ci_eq (by omega) (by omega)]; exact h16), if_neg h16]
    by_cases h16 : wc = 16
    · refine thr 2 "java/lang/IllegalStateException" (by omega) (by omega) ?_ rfl (fun S0 hS0 => by rw [mw S0 hS0, if_pos h16]; rfl)
      unfold fX5_way fX5_way_J25
      rw [zcl_ob hhd.1, c_needCube hhd hcc hi, zbT_l]
      show Option.bind (zgI S (ad 10) 5 8) _ = _
      rw [zgI_ob hhd.1 rfl, Option.bind_some, if_neg (ci_nneg (by omega)), Option.bind_some, zgR_ob hhd.1 rfl, Option.bind_some, zalQ hhd.2.2 (by omega), Option.bind_some, if_neg (by rw [ci_lt (by omega) (by omega)]; omega)]
    · have hw : wc < 16 := by omega
      obtain ⟨S1, c1, c2, c3, c4⟩ := c_way hK.1 hcl hin hlt hcc hw hi
      have v10 : adW ad wc S.2 10 = ad 10 := adW_old (by omega)
      have v11 : adW ad wc S.2 11 = ad 11 := adW_old (by omega)
      have v12 : adW ad wc S.2 12 = ad 12 := adW_old (by omega)
      have hmo1 : zMo S1 (ad 11) (mR ad) X A := hmo.kp (fun b hb => by
        obtain ⟨t, ht, rfl⟩ := mP_mT hb
        exact (c4 t (Or.inl ht)).2)
      have hR : ∀ t, t < 17 → mR (adW ad wc S.2) t = mR ad t := fun t ht => adW_old (by omega)
      have hmo2 : zMo S1 (adW ad wc S.2 11) (mR (adW ad wc S.2)) X A := by
        rw [v11]
        exact hmo1.cg hR
      have ho : zJA S1 (adW ad wc S.2 12) 1 fo := by
        rw [v12]; exact (c4 12 (Or.inr rfl)).2.trans hout
      obtain ⟨S2, e1, e2⟩ := zfin (x := ad 10) (m := ad 11) (out := ad 12) (f := fX6_way (ad 11) (ci i)) (rv := ci wc) (val := Int32.toInt64 (ci wc)) (ad := adW ad wc S.2) ⟨v10.symm, v11.symm, v12.symm⟩ ⟨hK.1, hcc, by omega, fun _ => by omega⟩ c2 c3 hmo2 ho (fun S0 hS0 => by
        rw [v11] at hS0 ⊢
        have hS1 : zMo S0 (ad 11) (mR ad) X A := hS0.cg (fun t ht => (hR t ht).symm)
        obtain ⟨T1, s1, s2, s3⟩ := m_good hS1
        obtain ⟨T2, A2, t1, t2, t3, t4, t5, t6, t7, t8⟩ := m_wy1 (S := T1) (S0 := T1) (c := CA i) (g := CG i) (show i < 16 by omega) hw (X := mX X 0 0) hrl.2.2.1 hmi ⟨A, s2, mY.rf, fun y hy => absurd hy (Nat.not_lt_zero _), fun y hy => absurd hy (Nat.not_lt_zero _), zFrm.rf⟩
        have hPP : ∀ b, mP (ad 11) (mR ad) b → mP (ad 11) (mR (adW ad wc S.2)) b := fun b hb => by
          rcases hb with hb | hb | ⟨t, ht, hb⟩
          · exact Or.inl hb
          · exact Or.inr (Or.inl (hb.trans (hR 16 (by omega)).symm))
          · exact Or.inr (Or.inr ⟨t, ht, hb.trans (hR t (by unfold isA at ht; omega)).symm⟩)
        refine ⟨T2, _, A2, ?_, t2.cg hR, rfl, nway_rl hK.1 hw hci.2.1 hrl rfl rfl rfl t3 (fun y hy => ?_) t5 t6 t7, (s3.tr t8).wk hPP⟩
        · rw [mw S0 hS1, if_neg h16]
          unfold fX6_way_J29
          rw [hS1.cl, s1, Option.bind_some, if_neg (show ¬ ((1 : Int32) = 0) by decide), cl_0]
          exact t1
        · unfold cpF; rw [if_pos hy]; exact t4 y hy)
      refine ⟨0, S2.1, ?_, fun n _ => ?_⟩
      · unfold fL_way
        rw [zcl_ob hhd.1, c1]
        show Option.bind (zsJ _ (ad 12) 0 _) _ = _
        rw [e1, Option.bind_some]
      · obtain ⟨r, r1, r2, r3, r4, r5⟩ := e2 n
        exact ⟨r, r1, r2, fun _ => by rw [r3, r4], r5⟩
