/-! LAW CASE 9: way, the class's new objects -/
def cpF (g : Nat → Nat) (t x : Nat) : Nat := if x < t then g x else 0
theorem cpF_step {g : Nat → Nat} {t : Nat} : va_up (cpF g t) t (g t) = cpF g (t + 1) := by
  funext x
  unfold va_up cpF
  by_cases hx : x = t
  · rw [if_pos hx, if_pos (by omega), hx]
  · rw [if_neg hx]
    by_cases h2 : x < t
    · rw [if_pos h2, if_pos (by omega)]
    · rw [if_neg h2, if_neg (by omega)]
theorem c_copied {S : ZS} {c n a b d sq : Nat} {g : Nat → Nat} (h : zCu S c n a b d sq g) (h1 : c ≠ S.2 ∧ c ≠ S.2 + 1) (h2 : n ≠ S.2 ∧ n ≠ S.2 + 1) : ∃ S1, fX0_copied c S = some (S.2, S1) ∧ zCu S1 S.2 (S.2 + 1) a b d sq (cpF g 64) ∧ S1.2 = S.2 + 2 ∧ ∀ x, x ≠ S.2 → x ≠ S.2 + 1 → S1.1 x = S.1 x := by
  obtain ⟨T1, n1, n2, n3, n4⟩ := c_new (S := S) (a := a) (b := b) (d := d)
  have hc1 : zOb (zno S 0 [.int 0, .int 0, .int 0, .null, .int 0]) c 0 _ := (va_up_ne _ _ h1.1).trans h.1
  have k1 : zCu T1 c n a b d sq g := h.kp (n4 c h1.1 h1.2) (n4 n h2.1 h2.2)
  have := ziter_for (body := fX0_copied_B22 c S.2) (fun t S' => zCu S' S.2 (S.2 + 1) a b d 0 (cpF g t) ∧ zFrm T1 S' (fun b => b = S.2 + 1)) (fun r => ∃ S1, r = (S.2, S1) ∧ zCu S1 S.2 (S.2 + 1) a b d sq (cpF g 64) ∧ zFrm T1 S1 (fun b => b = S.2 ∨ b = S.2 + 1)) 64 ?_ ?_ 64 0 zF T1 (by omega) (by rw [zF_eq]; omega) ⟨n2, zFrm.rf⟩
  · obtain ⟨r, q1, S1, rfl, q2, q3⟩ := this
    refine ⟨S1, ?_, q2, q3.1.trans n3, fun x hx1 hx2 => (q3.2 x (by omega)).trans (n4 x hx1 hx2)⟩
    unfold fX0_copied
    rw [zgI_ob hc1 rfl, Option.bind_some, zgI_ob hc1 rfl, Option.bind_some, zgI_ob hc1 rfl, Option.bind_some, n1, Option.bind_some, cl_0]
    exact q1
  · rintro t S' ht ⟨y, hf⟩
    have k := hf.cu (show ¬ c = S.2 + 1 from h1.2) (show ¬ n = S.2 + 1 from h2.2) k1
    obtain ⟨S1, f1, f2, f3⟩ := c_putAt (v := g t) y ht
    rw [cpF_step] at f2
    refine ⟨S1, ?_, f2, hf.tr f3⟩
    unfold fX0_copied_B22
    simp only []
    rw [if_neg (by rw [cl_64, ci_le (by omega) (by omega)]; omega), zgR_ob y.1 rfl, Option.bind_some, zgR_ob k.1 rfl, Option.bind_some, c_getAt k ht, Option.bind_some, f1, Option.bind_some, cl_1, ci_add]
  · rintro S' ⟨y, hf⟩
    have k := hf.cu (show ¬ c = S.2 + 1 from h1.2) (show ¬ n = S.2 + 1 from h2.2) k1
    obtain ⟨S1, f1, f2, f3⟩ := zwO_cu sq y
    refine ⟨(S.2, S1), ?_, S1, rfl, f2, (hf.wk (fun _ => Or.inr)).tr (f3.wk (fun _ => Or.inl))⟩
    unfold fX0_copied_B22
    simp only []
    rw [if_pos (by rw [cl_64, ci_le (by omega) (by omega)]; omega), zgI_ob k.1 rfl, Option.bind_some, f1, Option.bind_some, zex_some]
theorem c_wayInit {S : ZS} {w c p : Nat} {f0 : Value} {f1 f2 f3 : Value} (h : zOb S w 4 [f0, f1, f2, f3]) (hw : w ≠ S.2) : ∃ S1, fX4_init w c (ci p) S = some S1 ∧ zOb S1 w 4 [.ref c, .int (ci p), .ref S.2, .int (ci 0)] ∧ zIA S1 S.2 40 (fun _ => ci 0) ∧ S1.2 = S.2 + 1 ∧ ∀ x, x ≠ w → x ≠ S.2 → S1.1 x = S.1 x := by
  obtain ⟨T2, hT2⟩ : ∃ T2, T2 = zwO (zwO S w 4 [.ref c, f1, f2, f3]) w 4 [.ref c, .int (ci p), f2, f3] := ⟨_, rfl⟩
  have g2 : zOb T2 w 4 [.ref c, .int (ci p), f2, f3] := by rw [hT2]; exact zwO_self
  have g22 : T2.2 = S.2 := by rw [hT2]; rfl
  have k2 : ∀ x, x ≠ w → T2.1 x = S.1 x := fun x hx => by rw [hT2, zwO_ne hx, zwO_ne hx]
  have g3 : zOb (zna T2 0 40) w 4 [.ref c, .int (ci p), f2, f3] := (va_up_ne _ _ (by omega)).trans g2
  have g4 : zIA (zna T2 0 40) S.2 40 (fun _ => ci 0) := by
    show (va_up T2.1 T2.2 (some (zn0 0 40))) S.2 = _
    rw [g22, va_up_self]; rfl
  have f6 : zFrm (zna T2 0 40) (zwO (zwO (zna T2 0 40) w 4 [.ref c, .int (ci p), .ref S.2, f3]) w 4 [.ref c, .int (ci p), .ref S.2, .int (ci 0)]) (fun x => x = w) := zFrm.wO.tr zFrm.wO
  refine ⟨zwO (zwO (zna T2 0 40) w 4 [.ref c, .int (ci p), .ref S.2, f3]) w 4 [.ref c, .int (ci p), .ref S.2, .int (ci 0)], ?_, zwO_self, f6.ia (fun hh => hw hh.symm) g4, ?_, fun x h1 h2 => ?_⟩
  · unfold fX4_init
    rw [zpF_ob _ h (by simp), Option.bind_some]
    show Option.bind (zpF (zwO S w 4 [.ref c, f1, f2, f3]) w 4 1 (.int (ci p))) _ = _
    rw [zpF_ob _ zwO_self (by simp), Option.bind_some]
    show Option.bind (zpF (zna (zwO (zwO S w 4 [.ref c, f1, f2, f3]) w 4 [.ref c, .int (ci p), f2, f3]) 0 40) w 4 2 (.ref (zwO (zwO S w 4 [.ref c, f1, f2, f3]) w 4 [.ref c, .int (ci p), f2, f3]).2)) _ = _
    rw [← hT2, g22, zpF_ob _ g3 (by simp), Option.bind_some]
    show Option.bind (zpF (zwO (zna T2 0 40) w 4 [.ref c, .int (ci p), .ref S.2, f3]) w 4 3 (.int 0)) _ = _
    rw [zpF_ob _ zwO_self (by simp), Option.bind_some]
    rfl
  · show T2.2 + 1 = S.2 + 1
    rw [g22]
  · rw [zwO_ne h1, zwO_ne h1]
    show (va_up T2.1 T2.2 (some (zn0 0 40))) x = _
    rw [g22, va_up_ne _ _ h2]
    exact k2 x h1
def adW (ad : Nat → Nat) (wc n : Nat) : Nat → Nat := fun t => if 200 + 4 * wc ≤ t ∧ t < 204 + 4 * wc then n + (t - (200 + 4 * wc)) else ad t
theorem adW_old {ad : Nat → Nat} {wc n t : Nat} (h : t < 200 + 4 * wc) : adW ad wc n t = ad t := by
  unfold adW
  rw [if_neg (by omega)]
theorem adW_new {ad : Nat → Nat} {wc n t j : Nat} (h : t = 200 + 4 * wc + j) (hj : j < 4) : adW ad wc n t = n + j := by
  unfold adW
  rw [if_pos (by omega)]
  omega
theorem liveW_old {cc wc t : Nat} (hc : cc ≤ 16) (h : live cc wc t) : t < 200 + 4 * wc := by
  unfold live cT mT isA at h
  omega
theorem liveW_new {cc wc t : Nat} (h : live cc (wc + 1) t) : live cc wc t ∨ ∃ j, j < 4 ∧ t = 200 + 4 * wc + j := by
  rcases h with (h | h | h) | h | h
  · exact Or.inl (Or.inl (Or.inl h))
  · exact Or.inl (Or.inl (Or.inr (Or.inl h)))
  · by_cases h9 : t < 200 + 4 * wc
    · exact Or.inl (Or.inl (Or.inr (Or.inr ⟨h.1, h9⟩)))
    · exact Or.inr ⟨t - (200 + 4 * wc), by omega, by omega⟩
  · exact Or.inl (Or.inr (Or.inl h))
  · exact Or.inl (Or.inr (Or.inr h))
theorem adW_inj {ad : Nat → Nat} {cc wc n : Nat} (hcc : cc ≤ 16) (hin : zInj ad cc wc) (hlt : ∀ t, live cc wc t → ad t < n) : zInj (adW ad wc n) cc (wc + 1) := by
  intro t u ht hu hh
  have vt : ∀ t, live cc wc t → adW ad wc n t = ad t := fun t ht => adW_old (liveW_old hcc ht)
  rcases liveW_new ht with h1 | ⟨j, hj, h1⟩
  · rcases liveW_new hu with h2 | ⟨i, hi, h2⟩
    · rw [vt t h1, vt u h2] at hh; exact hin t u h1 h2 hh
    · rw [vt t h1, adW_new h2 hi] at hh; have := hlt t h1; omega
  · rcases liveW_new hu with h2 | ⟨i, hi, h2⟩
    · rw [vt u h2, adW_new h1 hj] at hh; have := hlt u h2; omega
    · rw [adW_new h1 hj, adW_new h2 hi] at hh; omega
def nwW (WA : Nat → Nat → Nat) (wc a b d sq : Nat) : Nat → Nat → Nat := fun j => if j = wc then (fun s => if s = 0 then a else if s = 1 then b else if s = 2 then d else if s = 3 then sq else 0) else WA j
theorem nwW_ne {WA : Nat → Nat → Nat} {wc a b d sq j : Nat} (h : j ≠ wc) : nwW WA wc a b d sq j = WA j := if_neg h
theorem nwW_self {WA : Nat → Nat → Nat} {wc a b d sq : Nat} : nwW WA wc a b d sq wc = (fun s => if s = 0 then a else if s = 1 then b else if s = 2 then d else if s = 3 then sq else 0) := if_pos rfl
/-- the class's way() -/
theorem c_way {S : ZS} {ad : Nat → Nat} {p cc wc i : Nat} {CA CG WA WG : Nat → Nat → Nat} {WV : Nat → Nat → Nat → Nat → Nat} (hp : isP p) (hcl : zCl S ad p cc wc CA CG WA WG WV) (hin : zInj ad cc wc) (hlt : ∀ t, live cc wc t → ad t < S.2) (hc : cc ≤ 16) (hw : wc < 16) (hi : i < cc) :
    ∃ S1, fX5_way (ad 10) (ci i) S = some (.inl (ci wc, S1)) ∧ zInj (adW ad wc S.2) cc (wc + 1) ∧ zCl S1 (adW ad wc S.2) p cc (wc + 1) CA CG (nwW WA wc (CA i 0) (CA i 1) (CA i 2) (CA i 3)) (upG WG wc (cpF (CG i) 64)) WV ∧ (∀ t, mT t ∨ t = 12 → adW ad wc S.2 t = ad t ∧ S1.1 (ad t) = S.1 (ad t)) := by
  have hi2 := adW_inj hc hin hlt
  have vt : ∀ t, live cc wc t → adW ad wc S.2 t = ad t := fun t ht => adW_old (liveW_old hc ht)
  have li0 : live cc wc (100 + 2 * i) := Or.inl (Or.inr (Or.inl (by omega)))
  have li1 : live cc wc (101 + 2 * i) := Or.inl (Or.inr (Or.inl (by omega)))
  have hci := hcl.2.2.1 i hi
  have l10 : live cc wc 10 := Or.inl (Or.inl (by omega))
  have l0 : live cc wc 0 := Or.inl (Or.inl (by omega))
  have l1 : live cc wc 1 := Or.inl (Or.inl (by omega))
  obtain ⟨U, hU⟩ : ∃ U, U = zno S 4 [.null, .int 0, .null, .int 0] := ⟨_, rfl⟩
  have hU2 : U.2 = S.2 + 1 := by rw [hU]; rfl
  have hUw : zOb U S.2 4 [.null, .int 0, .null, .int 0] := by rw [hU]; exact va_up_self _ _ _
  have hUk : ∀ x, x ≠ S.2 → U.1 x = S.1 x := fun x hx => by rw [hU]; exact va_up_ne _ _ hx
  have q0 := hlt _ li0
  have q1 := hlt _ li1
  have cU : zCu U (ad (100 + 2 * i)) (ad (101 + 2 * i)) (CA i 0) (CA i 1) (CA i 2) (CA i 3) (CG i) := hci.1.kp (hUk _ (by omega)) (hUk _ (by omega))
  obtain ⟨T1, m1, m2, m3, m4⟩ := c_copied cU (by omega) (by omega)
  rw [hU2] at m1 m2 m3 m4
  have w1 : zOb T1 S.2 4 [.null, .int 0, .null, .int 0] := (m4 S.2 (by omega) (by omega)).trans hUw
  obtain ⟨T2, r1, r2, r3, r4, r5⟩ := c_wayInit (c := S.2 + 1) (p := p) w1 (by omega)
  rw [m3] at r2 r3 r4 r5
  have kT : ∀ x, x < S.2 → T2.1 x = S.1 x := fun x hx => (r5 x (by omega) (by omega)).trans ((m4 x (by omega) (by omega)).trans (hUk x (by omega)))
  have kT1 : ∀ x, x < S.2 → T1.1 x = S.1 x := fun x hx => (m4 x (by omega) (by omega)).trans (hUk x (by omega))
  have cT2 : zCu T2 (S.2 + 1) (S.2 + 2) (CA i 0) (CA i 1) (CA i 2) (CA i 3) (cpF (CG i) 64) := m2.kp (r5 _ (by omega) (by omega)) (r5 _ (by omega) (by omega))
  obtain ⟨⟨a1, a2, a3⟩, b1, c1, d1⟩ := hcl
  have e10 : zOb T2 (ad 10) 5 _ := (kT _ (hlt 10 l10)).trans a1
  have f10 : zOb T1 (ad 10) 5 _ := (kT1 _ (hlt 10 l10)).trans a1
  have e1 : zRA T2 (ad 1) 4 16 _ := (kT _ (hlt 1 l1)).trans a3
  obtain ⟨T3, hT3⟩ : ∃ T3, T3 = zwQ T2 (ad 1) 4 16 (va_up (fun i => if i < wc then some (ad (200 + 4 * i)) else none) wc (some S.2)) := ⟨_, rfl⟩
  have kT3 : ∀ x, x ≠ ad 1 → T3.1 x = T2.1 x := fun x hx => by rw [hT3]; exact va_up_ne _ _ hx
  have n10 : ad 10 ≠ ad 1 := fun hh => by have := hin 10 1 l10 l1 hh; omega
  have g10 : zOb T3 (ad 10) 5 _ := (kT3 _ n10).trans e10
  have s1 : zsQ T2 (ad 1) 4 4 (ci wc) S.2 = some T3 := by rw [hT3]; exact zsQ_ci e1 r2 (by omega) (by omega)
  obtain ⟨T4, hT4⟩ : ∃ T4, T4 = zwO T3 (ad 10) 5 [.ref (ad 0), .ref (ad 1), .ref (ad 2), .ref (ad 3), .ref (ad 4), .ref (ad 5), .int (ci p), .int (ci cc), .int (ci (wc + 1))] := ⟨_, rfl⟩
  have s2 : zpF T3 (ad 10) 5 8 (.int (ci (wc + 1))) = some T4 := by rw [hT4, zpF_ob _ g10 (by simp)]; rfl
  have h10 : zOb T4 (ad 10) 5 [.ref (ad 0), .ref (ad 1), .ref (ad 2), .ref (ad 3), .ref (ad 4), .ref (ad 5), .int (ci p), .int (ci cc), .int (ci (wc + 1))] := by rw [hT4]; exact zwO_self
  have kT4 : ∀ x, x ≠ ad 10 → x ≠ ad 1 → T4.1 x = T2.1 x := fun x h1 h2 => by rw [hT4, zwO_ne h1]; exact kT3 x h2
  have kl : ∀ t, live cc wc t → t ≠ 10 → t ≠ 1 → T4.1 (ad t) = S.1 (ad t) := fun t ht h1 h2 => (kT4 _ (fun hh => h1 (hin t 10 ht l10 hh)) (fun hh => h2 (hin t 1 ht l1 hh))).trans (kT _ (hlt t ht))
  have kk : ∀ t, live cc wc t → t ≠ 10 → t ≠ 1 → T4.1 (adW ad wc S.2 t) = S.1 (ad t) := fun t ht h1 h2 => by rw [vt t ht]; exact kl t ht h1 h2
  have kn : ∀ j, T4.1 (S.2 + j) = T2.1 (S.2 + j) := fun j => kT4 _ (by have := hlt 10 l10; omega) (by have := hlt 1 l1; omega)
  refine ⟨T4, ?_, hi2, ⟨⟨?_, ?_, ?_⟩, ?_, fun j hj => ?_, fun j hj => ?_⟩, fun t ht => ?_⟩
  · have hcN : zcl S (ad 10) 5 (fX5_needCube (ad 10) (ci i) S) = some (.inl (ad (100 + 2 * i), S)) := by
      rw [zcl_ob a1]
      exact c_needCube ⟨a1, a2, a3⟩ hc hi
    unfold fX5_way
    rw [hcN, zbT_l]
    show Option.bind (zgI S (ad 10) 5 8) _ = _
    rw [zgI_ob a1 rfl, Option.bind_some, if_neg (ci_nneg (by omega)), Option.bind_some, zgR_ob a1 rfl, Option.bind_some, zalQ a3 (by omega), Option.bind_some, if_pos ((ci_lt (by omega) (by omega)).mpr hw), Option.bind_some, Option.bind_some]
    show Option.bind (zcl (zno S 4 [.null, .int 0, .null, .int 0]) (ad (100 + 2 * i)) 0 (fX0_copied (ad (100 + 2 * i)) (zno S 4 [.null, .int 0, .null, .int 0]))) _ = _
    rw [← hU, zcl_cu cU, m1, Option.bind_some]
    show Option.bind (zgI T1 (ad 10) 5 6) _ = _
    rw [zgI_ob f10 rfl, Option.bind_some]
    show Option.bind (fX4_init S.2 (S.2 + 1) (ci p) T1) _ = _
    rw [r1, Option.bind_some]
    show Option.bind (zsQ T2 (ad 1) 4 4 (ci wc) S.2) _ = _
    rw [s1, Option.bind_some, zgI_ob g10 rfl, Option.bind_some, cl_1, ci_add, s2, Option.bind_some, zgI_ob h10 rfl, Option.bind_some, ci_sub (by omega), Nat.add_sub_cancel]
  · rw [vt 10 l10, vt 0 l0, vt 1 l1, vt 2 (Or.inl (Or.inl (by omega))), vt 3 (Or.inl (Or.inl (by omega))), vt 4 (Or.inl (Or.inl (by omega))), vt 5 (Or.inl (Or.inl (by omega)))]
    exact h10
  · refine (kk 0 l0 (by omega) (by omega)).trans (a2.trans ?_)
    congr 8
    funext j
    by_cases h2 : j < cc
    · rw [if_pos h2, if_pos h2, vt (100 + 2 * j) (Or.inl (Or.inr (Or.inl (by omega))))]
    · rw [if_neg h2, if_neg h2]
  · rw [vt 1 l1]
    have : T4.1 (ad 1) = T3.1 (ad 1) := by rw [hT4, zwO_ne (Ne.symm n10)]
    refine this.trans ?_
    rw [hT3]
    show va_up T2.1 (ad 1) _ (ad 1) = _
    rw [va_up_self]
    congr 8
    funext j
    unfold va_up
    by_cases h1 : j = wc
    · rw [if_pos h1, if_pos (by omega), h1, adW_new (j := 0) (by omega) (by omega), Nat.add_zero]
    · rw [if_neg h1]
      show (if j < wc then some (ad (200 + 4 * j)) else none) = _
      by_cases h2 : j < wc
      · rw [if_pos h2, if_pos (by omega), vt (200 + 4 * j) (Or.inl (Or.inr (Or.inr (by omega))))]
      · rw [if_neg h2, if_neg (by omega)]
  · have vl : ∀ t, t ≤ 9 → adW ad wc S.2 t = ad t := fun t ht => vt t (Or.inl (Or.inl (by omega)))
    unfold zTl
    rw [vl 2 (by omega), vl 3 (by omega), vl 4 (by omega), vl 5 (by omega), vl 6 (by omega), vl 7 (by omega), vl 8 (by omega), vl 9 (by omega)]
    obtain ⟨⟨r, q, h1⟩, ⟨f2, h2⟩, ⟨c, h3⟩, ⟨f4, h4⟩, ⟨f5, h5⟩, ⟨c6, h6⟩, ⟨f7, h7⟩, f8, h8⟩ := b1
    have kt : ∀ t, t ≤ 9 → t ≠ 1 → T4.1 (ad t) = S.1 (ad t) := fun t ht h0 => kl t (Or.inl (Or.inl (by omega))) (by omega) h0
    exact ⟨⟨r, q, (kt 2 (by omega) (by omega)).trans h1⟩, ⟨f2, (kt 6 (by omega) (by omega)).trans h2⟩, ⟨c, (kt 3 (by omega) (by omega)).trans h3⟩, ⟨f4, (kt 7 (by omega) (by omega)).trans h4⟩, ⟨f5, (kt 8 (by omega) (by omega)).trans h5⟩, ⟨c6, (kt 4 (by omega) (by omega)).trans h6⟩, ⟨f7, (kt 9 (by omega) (by omega)).trans h7⟩, f8, (kt 5 (by omega) (by omega)).trans h8⟩
  · have h1 : live cc wc (100 + 2 * j) := Or.inl (Or.inr (Or.inl (by omega)))
    have h2 : live cc wc (101 + 2 * j) := Or.inl (Or.inr (Or.inl (by omega)))
    unfold zCb
    rw [vt _ h1, vt _ h2]
    exact (c1 j hj).kp (kl _ h1 (by omega) (by omega)) (kl _ h2 (by omega) (by omega))
  · by_cases hjw : j = wc
    · subst hjw
      unfold zWb
      rw [adW_new (t := 200 + 4 * j) (j := 0) (by omega) (by omega), adW_new (t := 201 + 4 * j) (j := 1) (by omega) (by omega), adW_new (t := 202 + 4 * j) (j := 2) (by omega) (by omega), adW_new (t := 203 + 4 * j) (j := 3) (by omega) (by omega), upG_self, nwW_self, Nat.add_zero]
      have hz := hci.2.1
      have ho := hci.2.2.1
      refine ⟨⟨hp, hz, (by show 0 ≤ 40; omega), ?_, ?_, fun q hq => absurd hq (Nat.not_lt_zero _), fun _ => 0, ?_, fun q hq => absurd hq (Nat.not_lt_zero _)⟩, ⟨fun x hx => ?_, fun k1 k2 k3 x1 x2 x3 hn => ?_⟩, hci.2.2.2⟩
      · exact (kn 0).trans r2
      · exact cT2.kp (kn 1) (kn 2)
      · exact (kn 3).trans r3
      · unfold cpF; rw [if_pos hx]; exact ho.1 x hx
      · unfold cpF; rw [if_pos (ix_lt x1 x2 x3)]; exact ho.2 k1 k2 k3 x1 x2 x3 hn
    · have h1 : ∀ l, l < 4 → live cc wc (200 + 4 * j + l) := fun l hl => Or.inl (Or.inr (Or.inr (by omega)))
      unfold zWb
      have v0 := vt _ (h1 0 (by omega))
      have v1 := vt _ (h1 1 (by omega))
      have v2 := vt _ (h1 2 (by omega))
      have v3 := vt _ (h1 3 (by omega))
      rw [Nat.add_zero] at v0
      rw [show 200 + 4 * j + 1 = 201 + 4 * j by omega] at v1
      rw [show 200 + 4 * j + 2 = 202 + 4 * j by omega] at v2
      rw [show 200 + 4 * j + 3 = 203 + 4 * j by omega] at v3
      rw [v0, v1, v2, v3, upG_ne hjw, nwW_ne hjw]
      exact (d1 j (by omega)).kp (fun l hl => kl _ (h1 l hl) (by omega) (by omega))
  · have hl : live cc wc t := Or.inr ht
    exact ⟨vt t hl, kl t hl (by rcases ht with ht | ht; unfold mT isA at ht; omega; omega) (by rcases ht with ht | ht; unfold mT isA at ht; omega; omega)⟩
