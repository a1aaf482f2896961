/-! THE INVARIANT: class and model side by side -/
def zRA (S : ZS) (a t N : Nat) (F : Nat → Option Nat) : Prop := S.1 a = some (.inl (t, N, .inr (.inr (.inr (.inr F)))))
def cT (cc wc t : Nat) : Prop := t ≤ 10 ∨ (100 ≤ t ∧ t < 100 + 2 * cc) ∨ (200 ≤ t ∧ t < 200 + 4 * wc)
def mT (t : Nat) : Prop := t = 11 ∨ t = 36 ∨ (20 ≤ t ∧ isA (t - 20))
def live (cc wc t : Nat) : Prop := cT cc wc t ∨ mT t ∨ t = 12
def zInj (ad : Nat → Nat) (cc wc : Nat) : Prop := ∀ t u, live cc wc t → live cc wc u → ad t = ad u → t = u
def mR (ad : Nat → Nat) (i : Nat) : Nat := ad (20 + i)
def zHd (S : ZS) (ad : Nat → Nat) (p cc wc : Nat) : Prop :=
  zOb S (ad 10) 5 [.ref (ad 0), .ref (ad 1), .ref (ad 2), .ref (ad 3), .ref (ad 4), .ref (ad 5), .int (ci p), .int (ci cc), .int (ci wc)] ∧ zRA S (ad 0) 3 16 (fun i => if i < cc then some (ad (100 + 2 * i)) else none) ∧ zRA S (ad 1) 4 16 (fun i => if i < wc then some (ad (200 + 4 * i)) else none)
def zTl (S : ZS) (ad : Nat → Nat) : Prop :=
  (∃ r q, zOb S (ad 2) 1 [.ref (ad 6), .int r, .int q]) ∧ (∃ f, zIA S (ad 6) 64 f) ∧ (∃ c, zOb S (ad 3) 2 [.ref (ad 7), .ref (ad 8), .int c]) ∧ (∃ f, zIA S (ad 7) 105 f) ∧ (∃ f, zJA S (ad 8) 64 f) ∧ (∃ c, zOb S (ad 4) 3 [.ref (ad 9), .int c]) ∧ (∃ f, zJA S (ad 9) 120 f) ∧ ∃ f, zIA S (ad 5) 64 f
def zCb (S : ZS) (ad : Nat → Nat) (p i : Nat) (c : Nat → Nat) (g : Nat → Nat) : Prop := zCu S (ad (100 + 2 * i)) (ad (101 + 2 * i)) (c 0) (c 1) (c 2) (c 3) g ∧ szOK (c 0) (c 1) (c 2) ∧ cOK p (c 0) (c 1) (c 2) g ∧ c 3 ≤ 4
def zWb (S : ZS) (ad : Nat → Nat) (p i : Nat) (c : Nat → Nat) (g : Nat → Nat) (v : Nat → Nat → Nat → Nat) : Prop := zWy S (ad (200 + 4 * i)) (ad (201 + 4 * i)) (ad (202 + 4 * i)) (ad (203 + 4 * i)) p (c 0) (c 1) (c 2) (c 3) (c 4) g v ∧ cOK p (c 0) (c 1) (c 2) g ∧ c 3 ≤ 4
def zCl (S : ZS) (ad : Nat → Nat) (p cc wc : Nat) (CA CG WA WG : Nat → Nat → Nat) (WV : Nat → Nat → Nat → Nat → Nat) : Prop :=
  zHd S ad p cc wc ∧ zTl S ad ∧ (∀ i, i < cc → zCb S ad p i (CA i) (CG i)) ∧ ∀ i, i < wc → zWb S ad p i (WA i) (WG i) (WV i)
def msq (s : Nat) : Nat := if 2 ≤ s then s else 0
def mCu (A : Nat → Nat → Int32) (i : Nat) (c g : Nat → Nat) : Prop := (∀ s, s < 3 → A 3 (3 * i + s) = ci (sz3 (c 0) (c 1) (c 2) s)) ∧ (∀ x, x < 64 → A 4 (64 * i + x) = ci (g x)) ∧ A 5 i = ci (msq (c 3))
def mWw (X : Nat → Int32) (A : Nat → Nat → Int32) (p i : Nat) (c g : Nat → Nat) (v : Nat → Nat → Nat → Nat) : Prop := mWy X A i p (c 0) (c 1) (c 2) (c 4) v ∧ mWg A i g ∧ A 9 i = ci (msq (c 3))
def zRl (p cc wc : Nat) (CA CG WA WG : Nat → Nat → Nat) (WV : Nat → Nat → Nat → Nat → Nat) (X : Nat → Int32) (A : Nat → Nat → Int32) : Prop :=
  X 1 = ci p ∧ X 2 = ci cc ∧ X 6 = ci wc ∧ (∀ i, i < cc → mCu A i (CA i) (CG i)) ∧ ∀ i, i < wc → mWw X A p i (WA i) (WG i) (WV i)
def zK (p cc wc : Nat) : Prop := isP p ∧ cc ≤ 16 ∧ wc ≤ 16 ∧ (0 < wc → 0 < cc)
def zI (x m out : Nat) (S : ZS) : Prop := ∃ (ad : Nat → Nat) (p cc wc : Nat) (CA CG WA WG : Nat → Nat → Nat) (WV : Nat → Nat → Nat → Nat → Nat) (X : Nat → Int32) (A : Nat → Nat → Int32) (fo : Nat → Int64),
  (x = ad 10 ∧ m = ad 11 ∧ out = ad 12) ∧ zK p cc wc ∧ zInj ad cc wc ∧ zCl S ad p cc wc CA CG WA WG WV ∧ zMo S (ad 11) (mR ad) X A ∧ zRl p cc wc CA CG WA WG WV X A ∧ zJA S (ad 12) 1 fo
-- what is left as it was
theorem zCu.kp {S S1 : ZS} {c n a b d q : Nat} {g : Nat → Nat} (h : zCu S c n a b d q g) (h1 : S1.1 c = S.1 c) (h2 : S1.1 n = S.1 n) : zCu S1 c n a b d q g := ⟨h1.trans h.1, h2.trans h.2⟩
theorem zWy.kp {S S1 : ZS} {w c n t p a b d sq k : Nat} {g : Nat → Nat} {v : Nat → Nat → Nat → Nat} (h : zWy S w c n t p a b d sq k g v) (h1 : S1.1 w = S.1 w) (h2 : S1.1 c = S.1 c) (h3 : S1.1 n = S.1 n) (h4 : S1.1 t = S.1 t) : zWy S1 w c n t p a b d sq k g v := by
  obtain ⟨hp, hsz, hk, hw, hc, hv, W, hW, hWv⟩ := h
  exact ⟨hp, hsz, hk, h1.trans hw, hc.kp h2 h3, hv, W, h4.trans hW, hWv⟩
theorem zMo.kp {S S1 : ZS} {m : Nat} {R : Nat → Nat} {X : Nat → Int32} {A : Nat → Nat → Int32} (h : zMo S m R X A) (hk : ∀ b, mP m R b → S1.1 b = S.1 b) : zMo S1 m R X A :=
  ⟨(hk m (Or.inl rfl)).trans h.1, fun i hi => (hk _ (Or.inr (Or.inr ⟨i, hi, rfl⟩))).trans (h.2.1 i hi), (hk _ (Or.inr (Or.inl rfl))).trans h.2.2.1, h.2.2.2⟩
theorem zCb.kp {S S1 : ZS} {ad : Nat → Nat} {p i : Nat} {c g : Nat → Nat} (h : zCb S ad p i c g) (h1 : S1.1 (ad (100 + 2 * i)) = S.1 (ad (100 + 2 * i))) (h2 : S1.1 (ad (101 + 2 * i)) = S.1 (ad (101 + 2 * i))) : zCb S1 ad p i c g := ⟨h.1.kp h1 h2, h.2⟩
theorem zWb.kp {S S1 : ZS} {ad : Nat → Nat} {p i : Nat} {c g : Nat → Nat} {v : Nat → Nat → Nat → Nat} (h : zWb S ad p i c g v) (hk : ∀ j, j < 4 → S1.1 (ad (200 + 4 * i + j)) = S.1 (ad (200 + 4 * i + j))) : zWb S1 ad p i c g v :=
  ⟨h.1.kp (hk 0 (by omega)) (by have := hk 1 (by omega); rw [show 200 + 4 * i + 1 = 201 + 4 * i by omega] at this; exact this) (by have := hk 2 (by omega); rw [show 200 + 4 * i + 2 = 202 + 4 * i by omega] at this; exact this) (by have := hk 3 (by omega); rw [show 200 + 4 * i + 3 = 203 + 4 * i by omega] at this; exact this), h.2⟩
theorem zTl.kp {S S1 : ZS} {ad : Nat → Nat} (h : zTl S ad) (hk : ∀ t, t ≤ 9 → S1.1 (ad t) = S.1 (ad t)) : zTl S1 ad := by
  obtain ⟨⟨r, q, h1⟩, ⟨f2, h2⟩, ⟨c, h3⟩, ⟨f4, h4⟩, ⟨f5, h5⟩, ⟨c6, h6⟩, ⟨f7, h7⟩, f8, h8⟩ := h
  exact ⟨⟨r, q, (hk 2 (by omega)).trans h1⟩, ⟨f2, (hk 6 (by omega)).trans h2⟩, ⟨c, (hk 3 (by omega)).trans h3⟩, ⟨f4, (hk 7 (by omega)).trans h4⟩, ⟨f5, (hk 8 (by omega)).trans h5⟩, ⟨c6, (hk 4 (by omega)).trans h6⟩, ⟨f7, (hk 9 (by omega)).trans h7⟩, f8, (hk 5 (by omega)).trans h8⟩
theorem zCl.kp {S S1 : ZS} {ad : Nat → Nat} {p cc wc : Nat} {CA CG WA WG : Nat → Nat → Nat} {WV : Nat → Nat → Nat → Nat → Nat} (h : zCl S ad p cc wc CA CG WA WG WV) (hk : ∀ t, cT cc wc t → S1.1 (ad t) = S.1 (ad t)) : zCl S1 ad p cc wc CA CG WA WG WV := by
  obtain ⟨⟨a1, a2, a3⟩, b1, c1, d1⟩ := h
  refine ⟨⟨(hk 10 (Or.inl (by omega))).trans a1, (hk 0 (Or.inl (by omega))).trans a2, (hk 1 (Or.inl (by omega))).trans a3⟩, b1.kp (fun t ht => hk t (Or.inl (by omega))), fun i hi => (c1 i hi).kp (hk _ (Or.inr (Or.inl (by omega)))) (hk _ (Or.inr (Or.inl (by omega)))), fun i hi => (d1 i hi).kp (fun j hj => hk _ (Or.inr (Or.inr (by omega))))⟩
theorem mP_mT {ad : Nat → Nat} {b : Nat} (h : mP (ad 11) (mR ad) b) : ∃ t, mT t ∧ b = ad t := by
  rcases h with h | h | ⟨i, hi, h⟩
  · exact ⟨11, Or.inl rfl, h⟩
  · exact ⟨36, Or.inr (Or.inl rfl), h⟩
  · exact ⟨20 + i, Or.inr (Or.inr ⟨by omega, by rw [Nat.add_sub_cancel_left]; exact hi⟩), h⟩
theorem mT_cT {cc wc t : Nat} (hc : cc ≤ 16) (h : mT t) : ¬ cT cc wc t := by
  unfold mT isA at h
  unfold cT
  omega
theorem mT_12 {t : Nat} (h : mT t) : t ≠ 12 := by
  unfold mT isA at h
  omega
theorem cT_12 {cc wc t : Nat} (h : cT cc wc t) : t ≠ 12 := by
  unfold cT at h
  omega
theorem zsJ_out {S : ZS} {a : Nat} {f : Nat → Int64} (h : zJA S a 1 f) (v : Int64) : zsJ S a 0 v = some (zwJ S a 1 (va_up f 0 v)) := zsJ_ci (i := 0) v h (by omega) (by omega)
theorem zaJ_out {S : ZS} {a : Nat} {f : Nat → Int64} (h : zJA S a 1 f) : zaJ S a 0 = some (f 0) := zaJ_ci (i := 0) h (by omega) (by omega)
/-- a call that answers -/
theorem zfin {α : Type} {x m out : Nat} {S1 : ZS} {ad : Nat → Nat} {p cc wc : Nat} {CA CG WA WG : Nat → Nat → Nat} {WV : Nat → Nat → Nat → Nat → Nat} {X : Nat → Int32} {A : Nat → Nat → Int32} {fo : Nat → Int64} {val : Int64} {rv : α} {f : ZS → Option (α × ZS)}
    (hx : x = ad 10 ∧ m = ad 11 ∧ out = ad 12) (hK : zK p cc wc) (hin : zInj ad cc wc) (hcl : zCl S1 ad p cc wc CA CG WA WG WV) (hmo : zMo S1 (ad 11) (mR ad) X A) (hout : zJA S1 (ad 12) 1 fo)
    (hm : ∀ S0, zMo S0 (ad 11) (mR ad) X A → ∃ S' X' A', f S0 = some (rv, S') ∧ zMo S' (ad 11) (mR ad) X' A' ∧ X' 0 = 0 ∧ zRl p cc wc CA CG WA WG WV X' A' ∧ zFrm S0 S' (mP (ad 11) (mR ad))) :
    ∃ S2, zsJ S1 out 0 val = some S2 ∧ ∀ n : Nat, ∃ r, zcl ((S2.1, n) : ZS) m 6 (f (S2.1, n)) = some r ∧ zcl r.2 m 6 (fX6_thrown m r.2) = some 0 ∧ zaJ r.2 out 0 = some val ∧ r.1 = rv ∧ zI x m out r.2 := by
  obtain ⟨rfl, rfl, rfl⟩ := hx
  refine ⟨_, zsJ_out hout val, fun n => ?_⟩
  have kp2 : ∀ t, live cc wc t → t ≠ 12 → (zwJ S1 (ad 12) 1 (va_up fo 0 val)).1 (ad t) = S1.1 (ad t) := fun t ht h12 => zwJ_ne (fun hh => h12 (hin t 12 ht (Or.inr (Or.inr rfl)) hh))
  have hmo2 : zMo ((zwJ S1 (ad 12) 1 (va_up fo 0 val)).1, n) (ad 11) (mR ad) X A := hmo.kp (fun b hb => by
    obtain ⟨t, ht, rfl⟩ := mP_mT hb
    exact kp2 t (Or.inr (Or.inl ht)) (mT_12 ht))
  obtain ⟨S', X', A', f1, f2, f3, f4, f5⟩ := hm _ hmo2
  have kp3 : ∀ t, cT cc wc t ∨ t = 12 → S'.1 (ad t) = (zwJ S1 (ad 12) 1 (va_up fo 0 val)).1 (ad t) := fun t ht => f5.2 _ (fun hb => by
    obtain ⟨u, hu, hh⟩ := mP_mT hb
    have := hin t u (by rcases ht with ht | ht; exact Or.inl ht; exact Or.inr (Or.inr ht)) (Or.inr (Or.inl hu)) hh
    subst this
    rcases ht with ht | ht
    · exact mT_cT hK.2.1 hu ht
    · exact mT_12 hu ht)
  have hJ : zJA S' (ad 12) 1 (va_up fo 0 val) := (kp3 12 (Or.inr rfl)).trans zwJ_self
  refine ⟨(rv, S'), ?_, ?_, ?_, rfl, ad, p, cc, wc, CA, CG, WA, WG, WV, X', A', _, ⟨rfl, rfl, rfl⟩, hK, hin, ?_, f2, f4, hJ⟩
  · rw [hmo2.cl, f1]
  · rw [f2.cl]
    unfold fX6_thrown
    rw [zgI_ob f2.1 rfl, Option.bind_some, f3]
  · rw [zaJ_out hJ, va_up_self]
  · exact hcl.kp (fun t ht => (kp3 t (Or.inl ht)).trans (kp2 t (Or.inl ht) (cT_12 ht)))
/-- a call that throws -/
theorem zthr {α : Type} {x m out j : Nat} {S : ZS} {ad : Nat → Nat} {p cc wc : Nat} {CA CG WA WG : Nat → Nat → Nat} {WV : Nat → Nat → Nat → Nat → Nat} {X : Nat → Int32} {A : Nat → Nat → Int32} {fo : Nat → Int64} {f : ZS → Option (α × ZS)}
    (hx : x = ad 10 ∧ m = ad 11 ∧ out = ad 12) (hK : zK p cc wc) (hin : zInj ad cc wc) (hcl : zCl S ad p cc wc CA CG WA WG WV) (hmo : zMo S (ad 11) (mR ad) X A) (hrl : zRl p cc wc CA CG WA WG WV X A) (hout : zJA S (ad 12) 1 fo)
    (hm : ∀ S0, zMo S0 (ad 11) (mR ad) X A → ∃ rv S', f S0 = some (rv, S') ∧ zMo S' (ad 11) (mR ad) (mX X 0 (ci j)) A ∧ zFrm S0 S' (mP (ad 11) (mR ad))) (n : Nat) :
    ∃ r, zcl ((S.1, n) : ZS) m 6 (f (S.1, n)) = some r ∧ zcl r.2 m 6 (fX6_thrown m r.2) = some (ci j) ∧ zI x m out r.2 := by
  obtain ⟨rfl, rfl, rfl⟩ := hx
  have hmo2 : zMo (S.1, n) (ad 11) (mR ad) X A := hmo.kp (fun b hb => rfl)
  obtain ⟨rv, S', f1, f2, f5⟩ := hm _ hmo2
  have kp3 : ∀ t, cT cc wc t ∨ t = 12 → S'.1 (ad t) = S.1 (ad t) := fun t ht => f5.2 _ (fun hb => by
    obtain ⟨u, hu, hh⟩ := mP_mT hb
    have := hin t u (by rcases ht with ht | ht; exact Or.inl ht; exact Or.inr (Or.inr ht)) (Or.inr (Or.inl hu)) hh
    subst this
    rcases ht with ht | ht
    · exact mT_cT hK.2.1 hu ht
    · exact mT_12 hu ht)
  refine ⟨(rv, S'), ?_, ?_, ad, p, cc, wc, CA, CG, WA, WG, WV, _, A, fo, ⟨rfl, rfl, rfl⟩, hK, hin, ?_, f2, hrl, (kp3 12 (Or.inr rfl)).trans hout⟩
  · rw [hmo2.cl, f1]
  · rw [f2.cl]
    unfold fX6_thrown
    rw [zgI_ob f2.1 rfl, Option.bind_some]
    rfl
  · exact hcl.kp (fun t ht => kp3 t (Or.inl ht))
