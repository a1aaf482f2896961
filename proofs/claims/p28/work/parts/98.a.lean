/-! A FOUNDRY AS A VALUE: its prime, cubes and ways; what is in the heap -/
abbrev TZ : Type := Nat × Nat × Nat × (Nat → Nat → Nat) × (Nat → Nat → Nat) × (Nat → Nat → Nat) × (Nat → Nat → Nat) × (Nat → Nat → Nat → Nat → Nat)
def zQ (S : ZS) (ad : Nat → Nat) (T : TZ) : Prop := match T with
  | (p, cc, wc, CA, CG, WA, WG, WV) => zK p cc wc ∧ zInj ad cc wc ∧ zCl S ad p cc wc CA CG WA WG WV
def zStp (S S' : ZS) (ad ad' : Nat → Nat) (cc wc cc' wc' : Nat) : Prop := (∀ b, b < S.2 → (∀ t, cT cc wc t → b ≠ ad t) → S'.1 b = S.1 b) ∧ ∀ t, cT cc' wc' t → (cT cc wc t ∧ ad' t = ad t) ∨ S.2 ≤ ad' t
/-- how a call leaves the foundry of the map ad -/
def zRes (S : ZS) (ad : Nat → Nat) (cc wc : Nat) (T' : TZ) (S' : ZS) : Prop := ∃ ad', ad' 10 = ad 10 ∧ zQ S' ad' T' ∧ zStp S S' ad ad' cc wc T'.2.1 T'.2.2.1
/-- two foundries, apart -/
def zJ (x : Nat) (T : TZ) (y : Nat) (U : TZ) (S : ZS) : Prop := ∃ ad bd : Nat → Nat, x = ad 10 ∧ y = bd 10 ∧ zQ S ad T ∧ zQ S bd U ∧ ∀ t u, cT T.2.1 T.2.2.1 t → cT U.2.1 U.2.2.1 u → ad t ≠ bd u
theorem zQ.kp {S S1 : ZS} {ad : Nat → Nat} {T : TZ} (h : zQ S ad T) (hk : ∀ t, cT T.2.1 T.2.2.1 t → S1.1 (ad t) = S.1 (ad t)) : zQ S1 ad T := by
  obtain ⟨p, cc, wc, CA, CG, WA, WG, WV⟩ := T
  exact ⟨h.1, h.2.1, h.2.2.kp hk⟩
theorem zQ.lt {S : ZS} {ad : Nat → Nat} {T : TZ} (h : zQ S ad T) (hfr : zFr S.1 S.2) {t : Nat} (ht : cT T.2.1 T.2.2.1 t) : ad t < S.2 := by
  obtain ⟨p, cc, wc, CA, CG, WA, WG, WV⟩ := T
  exact lt_of h.2.2 hfr t (Or.inl ht)
theorem zJ.sym {x : Nat} {T : TZ} {y : Nat} {U : TZ} {S : ZS} (h : zJ x T y U S) : zJ y U x T S := by
  obtain ⟨ad, bd, h1, h2, h3, h4, h5⟩ := h
  exact ⟨bd, ad, h2, h1, h4, h3, fun t u ht hu hh => h5 u t hu ht hh.symm⟩
theorem zJ.n {x : Nat} {T : TZ} {y : Nat} {U : TZ} {S : ZS} (n : Nat) (h : zJ x T y U S) : zJ x T y U (S.1, n) := by
  obtain ⟨ad, bd, h1, h2, h3, h4, h5⟩ := h
  exact ⟨ad, bd, h1, h2, h3.kp (S1 := (S.1, n)) (fun _ _ => rfl), h4.kp (S1 := (S.1, n)) (fun _ _ => rfl), h5⟩
theorem zJ.ob {x : Nat} {T : TZ} {y : Nat} {U : TZ} {S : ZS} (h : zJ x T y U S) : ∃ fs, S.1 x = some (.inr (5, fs)) := by
  obtain ⟨ad, bd, h1, h2, h3, h4, h5⟩ := h
  obtain ⟨p, cc, wc, CA, CG, WA, WG, WV⟩ := T
  rw [h1]
  exact ⟨_, h3.2.2.1.1⟩
theorem zRes.j {S S' : ZS} {ad bd : Nat → Nat} {T U T' : TZ} (hfr : zFr S.1 S.2) (hT : zQ S ad T) (hU : zQ S bd U) (hd : ∀ t u, cT T.2.1 T.2.2.1 t → cT U.2.1 U.2.2.1 u → ad t ≠ bd u) (h : zRes S ad T.2.1 T.2.2.1 T' S') : zJ (ad 10) T' (bd 10) U S' := by
  obtain ⟨ad', e, h1, h2, h3⟩ := h
  refine ⟨ad', bd, e.symm, rfl, h1, hU.kp (fun u hu => h2 _ (hU.lt hfr hu) (fun t ht hh => hd t u ht hu hh.symm)), fun t u ht hu hh => ?_⟩
  rcases h3 t ht with ⟨k1, k2⟩ | k
  · exact hd t u k1 hu (k2.symm.trans hh)
  · have := hU.lt hfr hu
    omega
theorem zOpF.j {α : Type} {names : List String} {o : Option (α × TZ)} {r : Option ((α × ZS) ⊕ ZX)} {S : ZS} {ad bd : Nat → Nat} {T U : TZ} (hfr : zFr S.1 S.2) (hT : zQ S ad T) (hU : zQ S bd U) (hd : ∀ t u, cT T.2.1 T.2.2.1 t → cT U.2.1 U.2.2.1 u → ad t ≠ bd u) (h : zOpF names o r S (zRes S ad T.2.1 T.2.2.1)) : zOpF names o r S (fun T9 S9 => zJ (ad 10) T9 (bd 10) U S9) := by
  cases o with
  | none => exact h
  | some v =>
    obtain ⟨S', h1, h2⟩ := h
    exact ⟨S', h1, zRes.j hfr hT hU hd h2⟩
theorem zOpU.j {names : List String} {o : Option (Int32 × TZ)} {r : Option ((Unit × ZS) ⊕ ZX)} {S : ZS} {ad bd : Nat → Nat} {T U : TZ} (hfr : zFr S.1 S.2) (hT : zQ S ad T) (hU : zQ S bd U) (hd : ∀ t u, cT T.2.1 T.2.2.1 t → cT U.2.1 U.2.2.1 u → ad t ≠ bd u) (h : zOpU names o r S (zRes S ad T.2.1 T.2.2.1)) : zOpU names o r S (fun T9 S9 => zJ (ad 10) T9 (bd 10) U S9) := by
  cases o with
  | none => exact h
  | some v =>
    obtain ⟨h0, S', h1, h2⟩ := h
    exact ⟨h0, S', h1, zRes.j hfr hT hU hd h2⟩
/-- nothing new was made -/
theorem zRes.old {S S1 : ZS} {ad : Nat → Nat} {p cc wc : Nat} {CA CG WA WG : Nat → Nat → Nat} {WV : Nat → Nat → Nat → Nat → Nat} {P : Nat → Prop} (hK : zK p cc wc) (hin : zInj ad cc wc) (hcl : zCl S1 ad p cc wc CA CG WA WG WV) (hf : zFrm S S1 P) (hP : ∀ b, P b → ∃ t, cT cc wc t ∧ b = ad t) : zRes S ad cc wc (p, cc, wc, CA, CG, WA, WG, WV) S1 :=
  ⟨ad, rfl, ⟨hK, hin, hcl⟩, fun b _ hb => hf.2 b (fun h => by obtain ⟨t, ht, e⟩ := hP b h; exact hb t ht e), fun t ht => Or.inl ⟨ht, rfl⟩⟩
theorem zRes.rd {S S1 : ZS} {ad : Nat → Nat} {p cc wc : Nat} {CA CG WA WG : Nat → Nat → Nat} {WV : Nat → Nat → Nat → Nat → Nat} (hK : zK p cc wc) (hin : zInj ad cc wc) (h : kpL S S1 ad p cc wc CA CG WA WG WV) : zRes S ad cc wc (p, cc, wc, CA, CG, WA, WG, WV) S1 := zRes.old hK hin h.1 h.2 (fun b ⟨t, ht, e⟩ => ⟨t, Or.inl (by omega), e⟩)
theorem kpL.rf {S : ZS} {ad : Nat → Nat} {p cc wc : Nat} {CA CG WA WG : Nat → Nat → Nat} {WV : Nat → Nat → Nat → Nat → Nat} (h : zCl S ad p cc wc CA CG WA WG WV) : kpL S S ad p cc wc CA CG WA WG WV := ⟨h, zFrm.rf⟩
theorem zRes.wy {S S1 : ZS} {ad : Nat → Nat} {p cc wc i : Nat} {CA CG WA WG : Nat → Nat → Nat} {WV : Nat → Nat → Nat → Nat → Nat} (hK : zK p cc wc) (hin : zInj ad cc wc) (hi : i < wc) (hcl : zCl S1 ad p cc wc CA CG WA WG WV) (hf : zFrm S S1 (fun b => b = ad (200 + 4 * i) ∨ b = ad (203 + 4 * i))) : zRes S ad cc wc (p, cc, wc, CA, CG, WA, WG, WV) S1 :=
  zRes.old hK hin hcl hf (fun b hb => hb.elim (fun e => ⟨_, Or.inr (Or.inr (by omega)), e⟩) (fun e => ⟨_, Or.inr (Or.inr (by omega)), e⟩))
theorem zRes.cb {S S1 : ZS} {ad : Nat → Nat} {p cc wc i : Nat} {CA CG WA WG : Nat → Nat → Nat} {WV : Nat → Nat → Nat → Nat → Nat} (hK : zK p cc wc) (hin : zInj ad cc wc) (hi : i < cc) (hcl : zCl S1 ad p cc wc CA CG WA WG WV) (hf : zFrm S S1 (fun b => b = ad (100 + 2 * i) ∨ b = ad (101 + 2 * i))) : zRes S ad cc wc (p, cc, wc, CA, CG, WA, WG, WV) S1 :=
  zRes.old hK hin hcl hf (fun b hb => hb.elim (fun e => ⟨_, Or.inr (Or.inl (by omega)), e⟩) (fun e => ⟨_, Or.inr (Or.inl (by omega)), e⟩))
/-- a cube was made -/
theorem zRes.nc {S S1 : ZS} {ad : Nat → Nat} {p cc wc : Nat} {CA CG WA WG : Nat → Nat → Nat} {WV : Nat → Nat → Nat → Nat → Nat} (hK : zK p cc wc) (hc : cc < 16) (hin : zInj (adN ad cc S.2) (cc + 1) wc) (hcl : zCl S1 (adN ad cc S.2) p (cc + 1) wc CA CG WA WG WV) (hk : ∀ b, b < S.2 → b ≠ ad 10 → b ≠ ad 0 → S1.1 b = S.1 b) : zRes S ad cc wc (p, cc + 1, wc, CA, CG, WA, WG, WV) S1 := by
  refine ⟨adN ad cc S.2, adN_old (by omega) (by omega), ⟨⟨hK.1, by omega, hK.2.2.1, fun _ => by omega⟩, hin, hcl⟩, fun b hb h => hk b hb (h 10 (Or.inl (by omega))) (h 0 (Or.inl (by omega))), fun t ht => ?_⟩
  rcases live_new (Or.inl ht) with h1 | h1 | h1
  · have h9 : live cc wc t := h1
    have h2 : cT cc wc t := h1.elim id False.elim
    exact Or.inl ⟨h2, adN_old (live_old hK.2.1 h9).1 (live_old hK.2.1 h9).2⟩
  · rw [h1, adN_0]; exact Or.inr (Nat.le_refl _)
  · rw [h1, adN_1]; exact Or.inr (Nat.le_succ _)
/-- a way was made -/
theorem zRes.nw {S S1 : ZS} {ad : Nat → Nat} {p cc wc : Nat} {CA CG WA WG : Nat → Nat → Nat} {WV : Nat → Nat → Nat → Nat → Nat} (hK : zK p cc wc) (h0 : 0 < cc) (hw : wc < 16) (hin : zInj (adW ad wc S.2) cc (wc + 1)) (hcl : zCl S1 (adW ad wc S.2) p cc (wc + 1) CA CG WA WG WV) (hk : ∀ b, b < S.2 → b ≠ ad 10 → b ≠ ad 1 → S1.1 b = S.1 b) : zRes S ad cc wc (p, cc, wc + 1, CA, CG, WA, WG, WV) S1 := by
  refine ⟨adW ad wc S.2, adW_old (by omega), ⟨⟨hK.1, hK.2.1, by omega, fun _ => h0⟩, hin, hcl⟩, fun b hb h => hk b hb (h 10 (Or.inl (by omega))) (h 1 (Or.inl (by omega))), fun t ht => ?_⟩
  rcases liveW_new (Or.inl ht) with h1 | ⟨j, hj, h1⟩
  · exact Or.inl ⟨h1.elim id False.elim, adW_old (liveW_old hK.2.1 h1)⟩
  · rw [adW_new h1 hj]; exact Or.inr (Nat.le_add_right _ _)
def nn (a : Int32) : Nat := a.toNatClampNeg
theorem nn_ci {n : Nat} (h : n < 2147483648) : nn (ci n) = n := ci_nat h
/-- a made cube is filled -/
theorem zRes.fill {S S1 S1' : ZS} {ad : Nat → Nat} {p cc wc a b d sq : Nat} {CA CG WA WG : Nat → Nat → Nat} {WV : Nat → Nat → Nat → Nat → Nat} {g : Nat → Nat} (hK : zK p cc wc) (hc : cc < 16) (hlt : ∀ t, live cc wc t → ad t < S.2) (c2 : zInj (adN ad cc S.2) (cc + 1) wc) (c3 : zCl S1 (adN ad cc S.2) p (cc + 1) wc (upN CA cc a b d 0) (upG CG cc (fun _ => 0)) WA WG WV) (c4 : ∀ b, b < S.2 → b ≠ ad 10 → b ≠ ad 0 → S1.1 b = S.1 b)
    (f2 : zCu S1' S.2 (S.2 + 1) a b d sq g) (f3 : zFrm S1 S1' (fun b => b = S.2 ∨ b = S.2 + 1)) (hok : cOK p a b d g) (hsq : sq ≤ 4) : zRes S ad cc wc (p, cc + 1, wc, upC (upN CA cc a b d 0) cc sq, upG (upG CG cc (fun _ => 0)) cc g, WA, WG, WV) S1' := by
  obtain ⟨g1, kp⟩ := cube_cl (i := cc) (sq := sq) (g := g) (by omega) c2 c3 (by omega) (S1 := S1') (f3.wk (fun b hb => by
    rw [adN_0, adN_1]; exact hb)) (by
    rw [upN_self, adN_0, adN_1]; exact f2) (by rw [upN_self]; exact hok) hsq
  exact zRes.nc hK hc c2 g1 (fun b hb h1 h2 => (f3.2 b (fun hh => by omega)).trans (c4 b hb h1 h2))
