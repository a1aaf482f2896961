/-! THE CLASS'S WAYS: add, flip, compare, take out -/
def al (a b d : Nat) (v : Nat → Nat → Nat → Nat) (q r s : Nat) : Bool := decide (∀ j, j < sz3 a b d s → v q s j = v r s j)
def zv (a b d : Nat) (v : Nat → Nat → Nat → Nat) (q s : Nat) : Bool := decide (∀ j, j < sz3 a b d s → v q s j = 0)
def hz (a b d : Nat) (v : Nat → Nat → Nat → Nat) (q : Nat) : Bool := zv a b d v q 0 || zv a b d v q 1 || zv a b d v q 2
/-- the third side; 3 for none -/
def th (a b d : Nat) (v : Nat → Nat → Nat → Nat) (q r : Nat) : Nat := if al a b d v q r 0 && al a b d v q r 1 then 2 else if al a b d v q r 0 && al a b d v q r 2 then 1 else if al a b d v q r 1 && al a b d v q r 2 then 0 else 3
def vadd (p : Nat) (v : Nat → Nat → Nat → Nat) (q r s t : Nat) : Nat → Nat → Nat → Nat := vset v q s (fun j => (v q s j + t * v r s j) % p)
def lowS (s : Nat) : Nat := if s = 0 then 1 else 0
def highS (s : Nat) : Nat := if s = 2 then 1 else 2
def vturn (p : Nat) (v : Nat → Nat → Nat → Nat) (q r s : Nat) : Nat → Nat → Nat → Nat := vadd p (vadd p v q r (lowS s) 1) r q (highS s) (p - 1)
def vdel (v : Nat → Nat → Nat → Nat) (q : Nat) : Nat → Nat → Nat → Nat := fun i => if i < q then v i else v (i + 1)
theorem zWy.cu {S : ZS} {w c n t p a b d sq k : Nat} {g : Nat → Nat} {v : Nat → Nat → Nat → Nat} (h : zWy S w c n t p a b d sq k g v) : zCu S c n a b d sq g := h.2.2.2.2.1
theorem zWy.wa {S : ZS} {w c n t p a b d sq k : Nat} {g : Nat → Nat} {v : Nat → Nat → Nat → Nat} (h : zWy S w c n t p a b d sq k g v) : zOb S w 4 [.ref c, .int (ci p), .ref t, .int (ci k)] := h.2.2.2.1
theorem zWy.dv {S : ZS} {w c n t p a b d sq k q s j : Nat} {g : Nat → Nat} {v : Nat → Nat → Nat → Nat} (h : zWy S w c n t p a b d sq k g v) (hq : q < k) (hs : s < 3) (hj : j < sz3 a b d s) : dg p (sz3 a b d s) (enc p (sz3 a b d s) (v q s)) j = v q s j := dg_enc (by have := h.1.b; omega) (h.2.2.2.2.2.1 q hq s hs) hj
theorem g_addVector {S : ZS} {w c n t p a b d sq k q r s m : Nat} {g : Nat → Nat} {v : Nat → Nat → Nat → Nat} (h : zWy S w c n t p a b d sq k g v) (hq : q < k) (hr : r < k) (hs : s < 3) (hm : m < p) : ∃ S1, fX4_addVector w (ci q) (ci r) (ci s) (ci m) S = some S1 ∧ zWy S1 w c n t p a b d sq k g (vadd p v q r s m) ∧ zFrm S S1 (fun b => b = t) := by
  have hp := h.1.b
  have e1 := h.eb hq hs
  have e2 := h.eb hr hs
  have hn := sz3_b h.2.1 (s := s)
  obtain ⟨S1, f1, f2, f3⟩ := g_enterCode (e := fun j => (v q s j + m * v r s j) % p) h hq hs (fun j _ => Nat.mod_lt _ (by omega))
  refine ⟨S1, ?_, f2, f3⟩
  unfold fX4_addVector
  rw [zgR_ob h.wa rfl]
  simp only [Option.bind_some, Option.bind_none]
  rw [zcl_cu h.cu, g_sizeOf h.cu hs, zcl_ob h.wa, g_code h hq hs]
  simp only [Option.bind_some, Option.bind_none]
  rw [zcl_ob h.wa, g_code h hr hs]
  simp only [Option.bind_some, Option.bind_none]
  rw [zgI_ob h.wa rfl]
  simp only [Option.bind_some, Option.bind_none]
  rw [g_addedCode h.1 hn.2 (by omega) (by omega) hm]
  simp only [Option.bind_some, Option.bind_none]
  rw [zcl_ob h.wa]
  rw [enc_congr (e := fun j => (v q s j + m * v r s j) % p) (fun j hj => by rw [h.dv hq hs hj, h.dv hr hs hj]), f1]
  rfl
theorem g_turn {S : ZS} {w c n t p a b d sq k q r s : Nat} {g : Nat → Nat} {v : Nat → Nat → Nat → Nat} (h : zWy S w c n t p a b d sq k g v) (hq : q < k) (hr : r < k) (hs : s < 3) : ∃ S1, fX4_turn w (ci q) (ci r) (ci s) S = some S1 ∧ zWy S1 w c n t p a b d sq k g (vturn p v q r s) ∧ zFrm S S1 (fun b => b = t) := by
  have hp := h.1.b
  have hl : lowS s < 3 := by unfold lowS; split <;> omega
  have hh : highS s < 3 := by unfold highS; split <;> omega
  obtain ⟨S1, f1, f2, f3⟩ := g_addVector h hq hr hl (m := 1) (by omega)
  obtain ⟨S2, g1, g2, g3⟩ := g_addVector f2 hr hq hh (m := p - 1) (by omega)
  refine ⟨S2, ?_, g2, f3.tr g3⟩
  have key : ∀ l3 : Int32, l3 = ci s → fX4_turn_J9 w (ci q) (ci r) l3 (ci (lowS s)) S = some S2 := by
    intro l3 hl3
    subst hl3
    have k2 : fX4_turn_J21 w (ci q) (ci r) (ci (lowS s)) (ci (highS s)) S = some S2 := by
      unfold fX4_turn_J21
      rw [cl_1, zcl_ob h.wa, f1]
      simp only [Option.bind_some, Option.bind_none]
      rw [zgI_ob f2.wa rfl]
      simp only [Option.bind_some, Option.bind_none]
      rw [ci_sub (by omega), zcl_ob f2.wa, g1]
      rfl
    unfold fX4_turn_J9
    rw [cl_2]
    by_cases h2 : s = 2
    · rw [if_pos (by rw [h2])]
      unfold highS at k2
      rw [if_pos h2] at k2
      exact k2
    · rw [if_neg (by rw [ci_eq (by omega) (by omega)]; exact h2)]
      unfold highS at k2
      rw [if_neg h2] at k2
      exact k2
  unfold fX4_turn
  rw [cl_0]
  have k1 := key _ rfl
  unfold lowS at k1
  by_cases h0 : s = 0
  · rw [if_pos (by rw [h0])]
    rw [if_pos h0] at k1
    exact k1
  · rw [if_neg (by rw [ci_eq (by omega) (by omega)]; exact h0)]
    rw [if_neg h0] at k1
    exact k1
theorem zWy.same {S : ZS} {w c n t p a b d sq k q r s : Nat} {g : Nat → Nat} {v : Nat → Nat → Nat → Nat} (h : zWy S w c n t p a b d sq k g v) (hq : q < k) (hr : r < k) (hs : s < 3) : enc p (sz3 a b d s) (v q s) = enc p (sz3 a b d s) (v r s) ↔ al a b d v q r s = true := by
  rw [enc_inj (by have := h.1.b; omega) (h.2.2.2.2.2.1 q hq s hs) (h.2.2.2.2.2.1 r hr s hs)]
  unfold al
  rw [decide_eq_true_eq]
def bI (x : Bool) : Int32 := if x then 1 else 0
theorem zbl_bI (x : Bool) : zbl (bI x) = some (bI x) := by cases x <;> rfl
theorem bI_0 (x : Bool) : (bI x = 0) ↔ x = false := by cases x <;> decide
theorem g_isSame {S : ZS} {w c n t p a b d sq k q r s : Nat} {g : Nat → Nat} {v : Nat → Nat → Nat → Nat} (h : zWy S w c n t p a b d sq k g v) (hq : q < k) (hr : r < k) (hs : s < 3) : fX4_isSame w (ci q) (ci r) (ci s) S = some (bI (al a b d v q r s)) := by
  have e1 := h.eb hq hs
  have e2 := h.eb hr hs
  unfold fX4_isSame
  rw [zcl_ob h.wa, g_code h hq hs]
  simp only [Option.bind_some, Option.bind_none]
  rw [zcl_ob h.wa, g_code h hr hs]
  simp only [Option.bind_some, Option.bind_none]
  by_cases hh : al a b d v q r s = true
  · rw [if_pos ((ci_eq (by omega) (by omega)).mpr ((h.same hq hr hs).mpr hh)), hh]; rfl
  · rw [if_neg (fun q => hh ((h.same hq hr hs).mp ((ci_eq (by omega) (by omega)).mp q))), (Bool.not_eq_true _).mp hh]; rfl
theorem zWy.zero {S : ZS} {w c n t p a b d sq k q s : Nat} {g : Nat → Nat} {v : Nat → Nat → Nat → Nat} (h : zWy S w c n t p a b d sq k g v) (hq : q < k) (hs : s < 3) : ci (enc p (sz3 a b d s) (v q s)) = 0 ↔ zv a b d v q s = true := by
  have e1 := h.eb hq hs
  rw [cl_0, ci_eq (by omega) (by omega), enc_zero (by have := h.1.b; omega) (h.2.2.2.2.2.1 q hq s hs)]
  unfold zv
  rw [decide_eq_true_eq]
theorem g_hasZeros {S : ZS} {w c n t p a b d sq k q : Nat} {g : Nat → Nat} {v : Nat → Nat → Nat → Nat} (h : zWy S w c n t p a b d sq k g v) (hq : q < k) : fX4_hasZeros w (ci q) S = some (bI (hz a b d v q)) := by
  unfold fX4_hasZeros hz
  rw [zcl_ob h.wa, cl_1, cl_2, show (fX4_code w (ci q) (0 : Int32) S) = fX4_code w (ci q) (ci 0) S from rfl, g_code h hq (by omega)]
  simp only [Option.bind_some, Option.bind_none]
  cases h0 : zv a b d v q 0 with
  | true => rw [if_pos ((h.zero hq (by omega)).mpr h0)]; rfl
  | false =>
    rw [if_neg (fun q9 => by rw [h.zero hq (by omega), h0] at q9; cases q9), zcl_ob h.wa, g_code h hq (by omega)]
    simp only [Option.bind_some, Option.bind_none]
    cases h1 : zv a b d v q 1 with
    | true => rw [if_pos ((h.zero hq (by omega)).mpr h1)]; rfl
    | false =>
      rw [if_neg (fun q9 => by rw [h.zero hq (by omega), h1] at q9; cases q9), zcl_ob h.wa, g_code h hq (by omega)]
      simp only [Option.bind_some, Option.bind_none]
      cases h2 : zv a b d v q 2 with
      | true => rw [if_pos ((h.zero hq (by omega)).mpr h2)]; rfl
      | false => rw [if_neg (fun q9 => by rw [h.zero hq (by omega), h2] at q9; cases q9)]; rfl
def tI (x : Nat) : Int32 := if x = 3 then -1 else ci x
theorem g_sideToJoin {S : ZS} {w c n t p a b d sq k q r : Nat} {g : Nat → Nat} {v : Nat → Nat → Nat → Nat} (h : zWy S w c n t p a b d sq k g v) (hq : q < k) (hr : r < k) : fX4_sideToJoin w (ci q) (ci r) S = some (tI (th a b d v q r)) := by
  have hlt := w3_lt h hq
  have hlt2 := w3_lt h hr
  have e0 : enc p a (v q 0) < 2 ^ 10 := h.eb hq (s := 0) (by omega)
  have e1 : enc p b (v q 1) < 2 ^ 10 := h.eb hq (s := 1) (by omega)
  have e2 : enc p d (v q 2) < 2 ^ 10 := h.eb hq (s := 2) (by omega)
  have f0 : enc p a (v r 0) < 2 ^ 10 := h.eb hr (s := 0) (by omega)
  have f1 : enc p b (v r 1) < 2 ^ 10 := h.eb hr (s := 1) (by omega)
  have f2 : enc p d (v r 2) < 2 ^ 10 := h.eb hr (s := 2) (by omega)
  have s0 : enc p a (v q 0) = enc p a (v r 0) ↔ al a b d v q r 0 = true := h.same hq hr (s := 0) (by omega)
  have s1 : enc p b (v q 1) = enc p b (v r 1) ↔ al a b d v q r 1 = true := h.same hq hr (s := 1) (by omega)
  have s2 : enc p d (v q 2) = enc p d (v r 2) ↔ al a b d v q r 2 = true := h.same hq hr (s := 2) (by omega)
  have hk := h.2.2.1
  obtain ⟨W, hW, hWv⟩ := h.2.2.2.2.2.2
  have bnd : ∀ m k : Nat, m &&& (1023 <<< k) ≤ m := fun m k => Nat.and_le_left
  have hx : w3 p a b d (v q) ^^^ w3 p a b d (v r) < 2 ^ 30 := Nat.xor_lt_two_pow hlt hlt2
  have test : ∀ k, (ci ((w3 p a b d (v q) ^^^ w3 p a b d (v r)) &&& (1023 <<< k)) = 0) ↔ (w3 p a b d (v q) ^^^ w3 p a b d (v r)) &&& (1023 <<< k) = 0 := by
    intro k
    have := bnd (w3 p a b d (v q) ^^^ w3 p a b d (v r)) k
    rw [cl_0, ci_eq (by omega) (by omega)]
  have t0 := (test 0).trans (((f3_xor0 (c := enc p d (v q 2)) (f := enc p d (v r 2)) e0 e1 f0 f1)).trans s0)
  have t1 := (test 10).trans (((f3_xor1 (c := enc p d (v q 2)) (f := enc p d (v r 2)) e0 e1 f0 f1)).trans s1)
  have t2 := (test 20).trans (((f3_xor2 e0 e1 e2 f0 f1 f2)).trans s2)
  unfold fX4_sideToJoin
  rw [zgR_ob h.wa rfl]
  simp only [Option.bind_some, Option.bind_none]
  rw [g_get hW (by omega) (by omega), if_pos (by omega), hWv q hq, g_get hW (by omega) (by omega), if_pos (by omega), hWv r hr]
  simp only [Option.bind_some, Option.bind_none]
  rw [show fX4_shiftOf (0 : Int32) = some (ci 0) from rfl, ci_xor]
  simp only [Option.bind_some, Option.bind_none, fX4_sideToJoin_J36, fX4_sideToJoin_J56, show fX4_shiftOf (1 : Int32) = some (ci 10) from rfl, show fX4_shiftOf (2 : Int32) = some (ci 20) from rfl]
  rw [cl_1023, ci_shl (by omega), ci_shl (by omega), ci_shl (by omega), ci_and, ci_and, ci_and]
  simp only [t0, t1, t2]
  unfold th fX4_sideToJoin_J76 fX4_sideToJoin_J90 fX4_sideToJoin_J102 fX4_sideToJoin_J116 fX4_sideToJoin_J117 tI
  cases al a b d v q r 0 <;> cases al a b d v q r 1 <;> cases al a b d v q r 2 <;> rfl
