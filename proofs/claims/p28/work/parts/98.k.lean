/-! isWaySo over the values: the loops -/
theorem zmkn {T : TZ} {b : Int32} : zmk b (none : Option (Int32 × TZ)) T = some (b, T) := rfl
theorem gW297 {T : TZ} {w : Nat} (hT : wfT T) (hw : w < wcT T) : fL_isWaySo_J297 aO aL (ci w) (1 : Int32) T = some ((1 : Int32), T) := by
  obtain ⟨b0, b1, b3, b2, b4⟩ := ofT_b hT hw
  have e3 : aO 19 T [ci w, (3 : Int32)] = some (ci (ofT T w 3), T) := gof hT hw (q := 3) (by omega)
  have e2 : aO 19 T [ci w, (2 : Int32)] = some (ci (ofT T w 2), T) := gof hT hw (q := 2) (by omega)
  have e4 : aO 19 T [ci w, (4 : Int32)] = some (ci (ofT T w 4), T) := gof hT hw (q := 4) (by omega)
  unfold fL_isWaySo_J297
  rw [if_neg (show ¬ (1 : Int32) = 0 by decide), e3, Option.bind_some]
  dsimp only
  rw [e2, Option.bind_some]
  dsimp only
  rw [if_neg (by rw [ci_lt (by omega) (by omega)]; omega), e4, Option.bind_some]
  dsimp only
  rw [if_neg (ci_nneg (by omega))]
  rfl
theorem gW217_step {T : TZ} {w k : Nat} {v l3 : Int32} (hT : wfT T) (hw : w < wcT T) (h3 : p3 l3) (hk : k < 4) (h0 : ofT T w 1 = 0) : fL_isWaySo_B217 aO aL (ci w) v l3 (ci (ofT T w 1)) ((1 : Int32), ci k, T) = some (.inl ((1 : Int32), ci (k + 1), T)) := by
  obtain ⟨x1, h1⟩ := zlow_ex (v >>> (ci k &&& 31)) h3.n0
  obtain ⟨x2, h2⟩ := zlow_ex (v >>> ((ci k + (3 : Int32)) &&& 31)) h3.n0
  obtain ⟨r, e1, e2⟩ := grbc (x := x1) (y := x2) hT hw h0
  unfold fL_isWaySo_B217
  dsimp only
  rw [if_neg (show ¬ (4 : Int32) ≤ ci k by rw [cl_4, ci_le (by omega) (by omega)]; omega), if_neg (show ¬ (1 : Int32) = 0 by decide), if_pos (show ci (ofT T w 1) = 0 by rw [h0]; rfl)]
  rw [h1, Option.bind_some, h2, Option.bind_some, e1, Option.bind_some]
  dsimp only
  rw [Option.bind_some, Option.bind_some, e2, Option.bind_some]
  dsimp only
  rw [if_pos rfl]
  unfold fL_isWaySo_J289
  rw [cl_1, ci_add]
theorem gW212 {T : TZ} {w : Nat} {v l3 : Int32} (hT : wfT T) (hw : w < wcT T) (h3 : p3 l3) : fL_isWaySo_J212 aO aL (ci w) v l3 (ci (ofT T w 1)) (1 : Int32) T = some ((1 : Int32), T) := by
  obtain ⟨b0, b1, -⟩ := ofT_b hT hw
  unfold fL_isWaySo_J212
  by_cases h0 : ofT T w 1 = 0
  · refine ziter_seq (fun k => ((1 : Int32), ci k, T)) _ 4 5 (by omega) (fun k hk => gW217_step hT hw h3 hk h0) ?_
    unfold fL_isWaySo_B217
    dsimp only
    rw [if_pos (show (4 : Int32) ≤ ci 4 by decide), gW297 hT hw]
    rfl
  · refine ziter_0 ?_
    unfold fL_isWaySo_B217
    dsimp only
    rw [if_neg (show ¬ (4 : Int32) ≤ 0 by decide), if_neg (show ¬ (1 : Int32) = 0 by decide), if_neg (show ¬ ci (ofT T w 1) = 0 by rw [cl_0, ci_eq (by omega) (by omega)]; exact h0), gW297 hT hw]
    rfl
/-- behind the flips: the walk, and what is told then -/
theorem gW134 {T0 T : TZ} {w : Nat} {v l3 l7 : Int32} (hT0 : wfT T0) (hw0 : w < wcT T0) (hR : RW w T0 T) (h3 : p3 l3) (x26 x27 : Int32) (hx1 : fL_low v l3 = some x26) (hx2 : fL_low (v >>> ((3 : Int32) &&& 31)) l3 = some x27) (h7 : zmk (-99999999 : Int32) (aO 21 T0 [ci w, x26, x27, (0 : Int32)]) T0 = some (l7, T0)) : ∃ T', fL_isWaySo_J134 aO aL (ci w) v l3 (1 : Int32) (ci (ofT T0 w 1)) (ci (ofT T0 w 0)) l7 T = some ((1 : Int32), T') ∧ RW w T0 T' := by
  have hT := hR.wf hT0
  have hw : w < wcT T := by rw [hT.2.2]; exact hw0
  obtain ⟨x, hx, hxb⟩ := zlow_b v (n := 65536) (by omega) (by omega)
  have hx' : fL_low v (65536 : Int32) = some x := hx
  obtain ⟨s, T1, T2, hs, w1, hR1, w2, hR2⟩ := gwalk hT.1 hw hxb
  have hT1 := hR1.wf hT.1
  have hw1 : w < wcT T1 := by rw [hT1.2.2]; exact hw
  have hT2 := hR2.wf hT1.1
  have hw2 : w < wcT T2 := by rw [hT2.2.2]; exact hw1
  have R1 := hR.tr hR1
  have R2 := R1.tr hR2
  obtain ⟨c0, c1, -⟩ := ofT_b hT0 hw0
  obtain ⟨d0, d1, -⟩ := ofT_b hT2.1 hw2
  have hle : ofT T2 w 0 ≤ ofT T0 w 0 := by
    obtain ⟨p, cc, wc, CA, CG, WA, WG, WV⟩ := T0
    obtain ⟨p2, cc2, wc2, CA2, CG2, WA2, WG2, WV2⟩ := T2
    exact R2.2.2.1 w
  have e1 : aO 19 T1 [ci w, (1 : Int32)] = some (ci (ofT T1 w 1), T1) := gof hT1.1 hw1 (q := 1) (by omega)
  have e2 : aO 19 T2 [ci w, (0 : Int32)] = some (ci (ofT T2 w 0), T2) := gof hT2.1 hw2 (q := 0) (by omega)
  obtain ⟨r, g1, g2⟩ := gres (x := x26) (y := x27) hT0 hw0 R2
  have hr : r = l7 := by
    rw [g1] at h7
    cases h7
    rfl
  refine ⟨T2, ?_, R2⟩
  unfold fL_isWaySo_J134
  rw [if_neg (show ¬ (1 : Int32) = 0 by decide), hx', Option.bind_some, w1, Option.bind_some]
  dsimp only
  rw [if_neg (ci_nneg (by omega)), e1, Option.bind_some]
  dsimp only
  rw [gof1 R1, if_pos rfl, w2, Option.bind_some]
  dsimp only
  rw [if_pos (show ci 0 = 0 from rfl), e2, Option.bind_some]
  dsimp only
  rw [if_neg (by rw [ci_lt (by omega) (by omega)]; omega), hx1, Option.bind_some, hx2, Option.bind_some, g2, Option.bind_some]
  dsimp only
  rw [hr, if_pos rfl, ← gof1 R2]
  exact gW212 hT2.1 hw2 h3
theorem gW42_step {T0 T : TZ} {w k : Nat} {v l3 l7 : Int32} (hT0 : wfT T0) (hw0 : w < wcT T0) (hR : RW w T0 T) (hk0 : ofT T w 0 = ofT T0 w 0) (hk : k < 6) : ∃ T', fL_isWaySo_B42 aO aL (ci w) v l3 (ci (ofT T0 w 1)) (ci (ofT T0 w 0)) l7 ((1 : Int32), ci k, T) = some (.inl ((1 : Int32), ci (k + 1), T')) ∧ RW w T0 T' ∧ ofT T' w 0 = ofT T0 w 0 := by
  have hT := hR.wf hT0
  have hw : w < wcT T := by rw [hT.2.2]; exact hw0
  obtain ⟨x1, h1⟩ := zlow_ex (v >>> (ci k &&& 31)) (n := 5) (by decide)
  obtain ⟨x2, h2⟩ := zlow_ex (v >>> ((ci k + (2 : Int32)) &&& 31)) (n := 5) (by decide)
  obtain ⟨x3, h3⟩ := zlow_ex (v >>> (ci k &&& 31)) (n := 3) (by decide)
  obtain ⟨q, T1, hf, hq, hR1, hk1⟩ : ∃ (q : Int32) (T1 : TZ), zmk (-99999999 : Int32) (aO 11 T [ci w, x1, x2, x3]) T = some (q, T1) ∧ (q = 0 ∨ q = -99999999) ∧ RW w T T1 ∧ wkT T1 w = wkT T w := by
    cases e : aO 11 T [ci w, x1, x2, x3] with
    | none => exact ⟨_, T, rfl, Or.inr rfl, RW.rf, rfl⟩
    | some y =>
      obtain ⟨a1, a2, a3⟩ := gflip hT.1 hw e
      exact ⟨y.1, y.2, rfl, Or.inl a1, a2, a3⟩
  have hT1 := hR1.wf hT.1
  have hw1 : w < wcT T1 := by rw [hT1.2.2]; exact hw
  have R1 := hR.tr hR1
  have k1 : ofT T1 w 0 = ofT T0 w 0 := by
    rw [gof0] at hk0 ⊢
    rw [hk1, hk0]
  have e1 : aO 19 T1 [ci w, (1 : Int32)] = some (ci (ofT T1 w 1), T1) := gof hT1.1 hw1 (q := 1) (by omega)
  have e2 : aO 19 T1 [ci w, (0 : Int32)] = some (ci (ofT T1 w 0), T1) := gof hT1.1 hw1 (q := 0) (by omega)
  refine ⟨T1, ?_, R1, k1⟩
  unfold fL_isWaySo_B42
  dsimp only
  rw [if_neg (show ¬ (6 : Int32) ≤ ci k by rw [cl_6, ci_le (by omega) (by omega)]; omega), if_neg (show ¬ (1 : Int32) = 0 by decide)]
  rw [h1, Option.bind_some, h2, Option.bind_some, h3, Option.bind_some, hf, Option.bind_some]
  dsimp only
  rw [e1, Option.bind_some]
  dsimp only
  rw [gof1 R1, if_pos rfl, e2, Option.bind_some]
  dsimp only
  rw [k1, if_pos rfl]
  unfold fL_isWaySo_J121 fL_isWaySo_J126
  rw [cl_1, ci_add]
  by_cases h0 : q = 0
  · rw [if_pos h0]
  · rw [if_neg h0, if_pos (hq.resolve_left h0)]
theorem gW {T : TZ} {w : Nat} {v l3 : Int32} (hT : wfT T) (hw : w < wcT T) (h3 : p3 l3) : ∃ T', fL_isWaySo aO aL (ci w) v l3 T = some ((1 : Int32), T') ∧ RW w T T' := by
  have e1 : aO 19 T [ci w, (1 : Int32)] = some (ci (ofT T w 1), T) := gof hT hw (q := 1) (by omega)
  have e0 : aO 19 T [ci w, (0 : Int32)] = some (ci (ofT T w 0), T) := gof hT hw (q := 0) (by omega)
  obtain ⟨x1, h1⟩ := zlow_ex v h3.n0
  obtain ⟨x2, h2⟩ := zlow_ex (v >>> ((3 : Int32) &&& 31)) h3.n0
  obtain ⟨l7, g1, -⟩ := gres (x := x1) (y := x2) hT hw (RW.rf (T := T) (w := w))
  have key := ziter_inv (body := fL_isWaySo_B42 aO aL (ci w) v l3 (ci (ofT T w 1)) (ci (ofT T w 0)) l7) (fun t => ∃ k T1, t = ((1 : Int32), ci k, T1) ∧ k ≤ 6 ∧ RW w T T1 ∧ ofT T1 w 0 = ofT T w 0) (fun t => 6 - nn t.2.1) (fun r => ∃ T', r = ((1 : Int32), T') ∧ RW w T T') (fun t ht => by
    obtain ⟨k, T1, rfl, hk, hR, hk0⟩ := ht
    by_cases h6 : k < 6
    · obtain ⟨T2, s1, s2, s3⟩ := gW42_step (v := v) (l3 := l3) (l7 := l7) hT hw hR hk0 h6
      refine Or.inl ⟨_, s1, ⟨k + 1, T2, rfl, by omega, s2, s3⟩, ?_⟩
      show 6 - nn (ci (k + 1)) < 6 - nn (ci k)
      rw [nn_ci (by omega), nn_ci (by omega)]
      omega
    · have : k = 6 := by omega
      subst this
      obtain ⟨T2, s1, s2⟩ := gW134 hT hw hR h3 x1 x2 h1 h2 g1
      refine Or.inr ⟨((1 : Int32), T2), ?_, T2, rfl, s2⟩
      unfold fL_isWaySo_B42
      dsimp only
      rw [if_pos (show (6 : Int32) ≤ ci 6 by decide), s1]
      rfl) 7 ((1 : Int32), (0 : Int32), T) ⟨0, T, rfl, by omega, RW.rf, rfl⟩ (by show 6 - nn (ci 0) < 7; rw [nn_ci (by omega)]; omega)
  obtain ⟨r, hr, T', rfl, hR⟩ := key
  refine ⟨T', ?_, hR⟩
  unfold fL_isWaySo
  rw [e1, Option.bind_some]
  dsimp only
  rw [e0, Option.bind_some]
  dsimp only
  rw [h1, Option.bind_some, h2, Option.bind_some, g1, Option.bind_some]
  exact hr
/-! isSo over the values -/
def bdT (T : TZ) (k : Nat) : Nat := match T with
  | (p, _, _, CA, CG, _, _, _) => bdF p (CA k 0) (CA k 1) (CA k 2) (CG k)
def ccT (T : TZ) : Nat := match T with
  | (_, cc, _, _, _, _, _, _) => cc
theorem gbd {T : TZ} {k : Nat} (hT : wfT T) (hk : k < ccT T) : aO 16 T [ci k] = some (ci (bdT T k), T) ∧ bdT T k ≤ 4 := by
  obtain ⟨p, cc, wc, CA, CG, WA, WG, WV⟩ := T
  have hcc := hT.1.2.1
  have hk' : k < cc := hk
  have hz := (hT.2.1 k hk').1
  refine ⟨?_, bdS_le hz (bdS_le hz (bdS_le hz (by omega)))⟩
  show aBound (p, cc, wc, CA, CG, WA, WG, WV) (ci k) = _
  unfold aBound
  dsimp only
  rw [if_pos (bl_in (by omega) hk'), nn_ci (by omega)]
  rfl
theorem gnb {T : TZ} {k : Nat} (hT : wfT T) (hk : ¬ k < ccT T) (hk2 : k < 100) : aO 16 T [ci k] = none := by
  obtain ⟨p, cc, wc, CA, CG, WA, WG, WV⟩ := T
  have hcc := hT.1.2.1
  have hk' : ¬ k < cc := hk
  show aBound (p, cc, wc, CA, CG, WA, WG, WV) (ci k) = _
  unfold aBound
  dsimp only
  rw [if_neg]
  rw [bl_ci (by omega) (by omega), decide_eq_false hk']
  decide
theorem bdS_ge {p a b d t s : Nat} {g : Nat → Nat} : t ≤ bdS p a b d g t s ∧ rkF p a b d g s ≤ bdS p a b d g t s := by
  unfold bdS
  split <;> omega
theorem bdF_ge {p a b d s : Nat} {g : Nat → Nat} (hs : s < 3) : rkF p a b d g s ≤ bdF p a b d g := by
  have h0 := bdS_ge (p := p) (a := a) (b := b) (d := d) (g := g) (t := 0) (s := 0)
  have h1 := bdS_ge (p := p) (a := a) (b := b) (d := d) (g := g) (t := bdS p a b d g 0 0) (s := 1)
  have h2 := bdS_ge (p := p) (a := a) (b := b) (d := d) (g := g) (t := bdS p a b d g (bdS p a b d g 0 0) 1) (s := 2)
  unfold bdF
  have h3 : s = 0 ∨ s = 1 ∨ s = 2 := by omega
  rcases h3 with rfl | rfl | rfl <;> omega
theorem gfl {T : TZ} {k s : Nat} (hT : wfT T) (hk : k < ccT T) (hs : s < 3) : ∃ r, aO 15 T [ci k, ci s] = some (ci r, T) ∧ r ≤ bdT T k := by
  obtain ⟨p, cc, wc, CA, CG, WA, WG, WV⟩ := T
  have hcc := hT.1.2.1
  have hk' : k < cc := hk
  refine ⟨rkF p (CA k 0) (CA k 1) (CA k 2) (CG k) s, ?_, bdF_ge hs⟩
  show aFlat (p, cc, wc, CA, CG, WA, WG, WV) (ci k) (ci s) = _
  unfold aFlat
  dsimp only
  rw [if_pos ⟨bl_in (by omega) hk', bl_in (by omega) hs⟩, nn_ci (by omega), nn_ci (by omega)]
/-- what the two leasts have to be -/
def lsOK (T : TZ) (k : Nat) (l2 ls an : Int32) : Prop := (ls < 0 ∨ ¬ ls < ci (bdT T k)) ∧ (an < 0 ∨ an = ls) ∧ (l2 = 2 ∨ ¬ 0 ≤ ls)
theorem lsOK_bad {T : TZ} {k : Nat} {l2 : Int32} : lsOK T k l2 (-99999999) (-99999999) := ⟨Or.inl (by decide), Or.inl (by decide), Or.inr (by decide)⟩
theorem gls {T : TZ} {k : Nat} {l2 : Int32} (hT : wfT T) (hk : k < ccT T) (h2 : l2 = ci T.1) : ∃ ls an, zmk (-99999999 : Int32) (aO 17 T [ci k]) T = some (ls, T) ∧ zmk (-99999999 : Int32) (aO 18 T [ci k]) T = some (an, T) ∧ lsOK T k l2 ls an := by
  obtain ⟨p, cc, wc, CA, CG, WA, WG, WV⟩ := T
  have hcc := hT.1.2.1
  have hpb := hT.1.1.b
  have hk' : k < cc := hk
  obtain ⟨hz, hg⟩ := hT.2.1 k hk'
  have hz' := hz
  unfold szOK at hz'
  have hN1 : CA k 0 * CA k 1 ≤ 4 * 4 := Nat.mul_le_mul (by omega) (by omega)
  have hN2 : CA k 0 * CA k 1 * CA k 2 ≤ 16 * 4 := Nat.mul_le_mul hN1 (by omega)
  obtain ⟨d1, d2, d3⟩ := lsD_spec (g := CG k) hz
  show ∃ ls an, zmk (-99999999 : Int32) (aLeast 12 (p, cc, wc, CA, CG, WA, WG, WV) (ci k)) _ = some (ls, _) ∧ zmk (-99999999 : Int32) (aLeast 8 (p, cc, wc, CA, CG, WA, WG, WV) (ci k)) _ = some (an, _) ∧ _
  unfold aLeast
  dsimp only
  rw [nn_ci (by omega)]
  by_cases hp : p = 2
  · subst hp
    have hbd : bdT (2, cc, wc, CA, CG, WA, WG, WV) k ≤ lsD (CA k 0) (CA k 1) (CA k 2) (CG k) := bd_fewest hz hg d2
    have h22 : l2 = 2 := h2
    by_cases h12 : CA k 0 * CA k 1 * CA k 2 ≤ 12
    · have c1 : ¬ ci (lsD (CA k 0) (CA k 1) (CA k 2) (CG k)) < ci (bdT (2, cc, wc, CA, CG, WA, WG, WV) k) := by rw [ci_lt (by omega) (by omega)]; omega
      rw [if_pos ⟨bl_in (by omega) hk', rfl, h12⟩]
      by_cases h8 : CA k 0 * CA k 1 * CA k 2 ≤ 8
      · rw [if_pos ⟨bl_in (by omega) hk', rfl, h8⟩]
        exact ⟨_, _, rfl, rfl, Or.inr c1, Or.inr rfl, Or.inl h22⟩
      · rw [if_neg (fun hh => h8 hh.2.2)]
        exact ⟨_, _, rfl, rfl, Or.inr c1, Or.inl (by decide), Or.inl h22⟩
    · rw [if_neg (fun hh => h12 hh.2.2), if_neg (fun hh => by have := hh.2.2; omega)]
      exact ⟨_, _, rfl, rfl, lsOK_bad⟩
  · rw [if_neg (fun hh => hp hh.2.1), if_neg (fun hh => hp hh.2.1)]
    exact ⟨_, _, rfl, rfl, lsOK_bad⟩
theorem gS147 {T : TZ} {k : Nat} {v l2 : Int32} (hT : wfT T) (hk : k < 16) (h3 : p3 l2) : ∃ T', fL_isSo_J147 aO aL v l2 (1 : Int32) (ci k) T = some (.inl ((1 : Int32), ci (k + 1), T')) ∧ wfT T' ∧ T'.1 = T.1 := by
  unfold fL_isSo_J147
  rw [if_neg (show ¬ (1 : Int32) = 0 by decide)]
  unfold fL_isSo_J175 fL_isSo_J180
  by_cases hw : k < wcT T
  · have e0 : aO 19 T [ci k, (0 : Int32)] = some (ci (ofT T k 0), T) := gof hT hw (q := 0) (by omega)
    obtain ⟨b0, -⟩ := ofT_b hT hw
    obtain ⟨T', g1, g2⟩ := gW (v := v >>> (ci k &&& 31)) hT hw h3
    have hT' := g2.wf hT
    refine ⟨T', ?_, hT'.1, hT'.2.1⟩
    rw [e0]
    show (if ci (ofT T k 0) < 0 then _ else _) = _
    rw [if_neg (ci_nneg (by omega))]
    dsimp only
    rw [g1, Option.bind_some]
    dsimp only
    rw [if_neg (show ¬ (1 : Int32) = 0 by decide), cl_1, ci_add]
  · have e0 : aO 19 T [ci k, (0 : Int32)] = none := by
      obtain ⟨p, cc, wc, CA, CG, WA, WG, WV⟩ := T
      have hwc := hT.1.2.2.1
      have hw' : ¬ k < wc := hw
      show aOfWay (p, cc, wc, CA, CG, WA, WG, WV) (ci k) (0 : Int32) = _
      unfold aOfWay
      dsimp only
      rw [if_neg]
      rw [bl_ci (by omega) (by omega), decide_eq_false hw']
      exact fun hh => by cases hh.1
    refine ⟨T, ?_, hT, rfl⟩
    rw [e0, zmkn, Option.bind_some]
    dsimp only
    rw [if_pos (show (-99999999 : Int32) < 0 by decide), cl_1, ci_add]
theorem gS69 {T : TZ} {k : Nat} {v l2 ls an : Int32} (hT : wfT T) (hk : k < ccT T) (h : lsOK T k l2 ls an) : fL_isSo_J69 aO aL v l2 (ci k) (ci (bdT T k)) ls an T = fL_isSo_J147 aO aL v l2 (1 : Int32) (ci k) T := by
  obtain ⟨r0, f0, g0⟩ := gfl hT hk (s := 0) (by omega)
  obtain ⟨r1, f1, g1⟩ := gfl hT hk (s := 1) (by omega)
  obtain ⟨r2, f2, g2⟩ := gfl hT hk (s := 2) (by omega)
  have hb := (gbd hT hk).2
  have f0' : aO 15 T [ci k, (0 : Int32)] = some (ci r0, T) := f0
  have f1' : aO 15 T [ci k, (1 : Int32)] = some (ci r1, T) := f1
  have f2' : aO 15 T [ci k, (2 : Int32)] = some (ci r2, T) := f2
  have j119 : fL_isSo_J119 aO aL v l2 (ci k) ls an T = fL_isSo_J147 aO aL v l2 (1 : Int32) (ci k) T := by
    have j131 : fL_isSo_J131 aO aL v l2 (ci k) ls T = fL_isSo_J147 aO aL v l2 (1 : Int32) (ci k) T := by
      unfold fL_isSo_J131 fL_isSo_J141 fL_isSo_J146
      by_cases hp : l2 = 2
      · rw [if_pos hp]
      · rw [if_neg hp, if_neg (h.2.2.resolve_left hp)]
    unfold fL_isSo_J119
    by_cases ha : an < 0
    · rw [if_pos ha]; exact j131
    · rw [if_neg ha, if_pos (h.2.1.resolve_left ha)]; exact j131
  unfold fL_isSo_J69
  rw [f0', Option.bind_some]
  dsimp only
  rw [if_neg (by rw [ci_lt (by omega) (by omega)]; omega), f1', Option.bind_some]
  dsimp only
  rw [if_neg (by rw [ci_lt (by omega) (by omega)]; omega), f2', Option.bind_some]
  dsimp only
  rw [if_neg (by rw [ci_lt (by omega) (by omega)]; omega)]
  by_cases hl : ls < 0
  · rw [if_pos hl]; exact j119
  · rw [if_neg hl, if_neg (h.1.resolve_left hl)]; exact j119
theorem gS_step {T : TZ} {k : Nat} {v l2 : Int32} (hT : wfT T) (h2 : l2 = ci T.1) (h3 : p3 l2) (hk : k < 16) : ∃ T', fL_isSo_B5 aO aL v l2 ((1 : Int32), ci k, T) = some (.inl ((1 : Int32), ci (k + 1), T')) ∧ wfT T' ∧ T'.1 = T.1 := by
  have j147 := gS147 (v := v) hT hk h3
  unfold fL_isSo_B5
  dsimp only
  rw [if_neg (show ¬ (16 : Int32) ≤ ci k by rw [cl_16, ci_le (by omega) (by omega)]; omega), if_neg (show ¬ (1 : Int32) = 0 by decide)]
  by_cases hc : k < ccT T
  · obtain ⟨e1, hb⟩ := gbd hT hc
    rw [e1]
    show ∃ T', (if ci (bdT T k) < 0 then _ else _) = _ ∧ _
    rw [if_neg (ci_nneg (by omega))]
    dsimp only
    rw [e1, Option.bind_some]
    dsimp only
    by_cases h3k : (3 : Int32) ≤ ci k
    · rw [if_pos h3k]
      unfold fL_isSo_J50
      rw [if_pos h3k, gS69 hT hc lsOK_bad]
      exact j147
    · obtain ⟨ls, an, q1, q2, q3⟩ := gls (l2 := l2) hT hc h2
      rw [if_neg h3k, q1, Option.bind_some]
      dsimp only
      unfold fL_isSo_J50
      rw [if_neg h3k, q2, Option.bind_some]
      dsimp only
      rw [gS69 hT hc q3]
      exact j147
  · rw [gnb hT hc (by omega)]
    rw [zmkn, Option.bind_some]
    dsimp only
    rw [if_pos (show (-99999999 : Int32) < 0 by decide)]
    exact j147
theorem gS187 {T : TZ} (hT : wfT T) : fL_isSo_J187 aO aL (1 : Int32) T = some ((1 : Int32), T) := by
  have e1 : aO 16 T [(16 : Int32)] = none := gnb (k := 16) hT (by
    obtain ⟨p, cc, wc, CA, CG, WA, WG, WV⟩ := T
    have hcc := hT.1.2.1
    show ¬ 16 < cc
    omega) (by omega)
  have e2 : aO 19 T [(0 : Int32), (5 : Int32)] = none := by
    obtain ⟨p, cc, wc, CA, CG, WA, WG, WV⟩ := T
    show aOfWay (p, cc, wc, CA, CG, WA, WG, WV) (0 : Int32) (5 : Int32) = _
    unfold aOfWay
    dsimp only
    rw [if_neg]
    rw [show bl 5 (5 : Int32) = false from by decide]
    exact fun hh => by cases hh.2
  unfold fL_isSo_J187
  rw [if_neg (show ¬ (1 : Int32) = 0 by decide), e1, zmkn, Option.bind_some]
  dsimp only
  rw [if_pos rfl, e2, zmkn, Option.bind_some]
  dsimp only
  rw [if_pos rfl]
  rfl
theorem gS {T : TZ} {v l2 : Int32} (hT : wfT T) (h2 : l2 = ci T.1) (h3 : p3 l2) : ∃ T', fL_isSo aO aL v l2 T = some ((1 : Int32), T') := by
  have key := ziter_inv (body := fL_isSo_B5 aO aL v l2) (fun t => ∃ k T1, t = ((1 : Int32), ci k, T1) ∧ k ≤ 16 ∧ wfT T1 ∧ T1.1 = T.1) (fun t => 16 - nn t.2.1) (fun r => ∃ T', r = ((1 : Int32), T')) (fun t ht => by
    obtain ⟨k, T1, rfl, hk, hw, h1⟩ := ht
    by_cases h6 : k < 16
    · obtain ⟨T2, s1, s2, s3⟩ := gS_step (v := v) hw (h2.trans (by rw [h1])) h3 h6
      refine Or.inl ⟨_, s1, ⟨k + 1, T2, rfl, by omega, s2, s3.trans h1⟩, ?_⟩
      show 16 - nn (ci (k + 1)) < 16 - nn (ci k)
      rw [nn_ci (by omega), nn_ci (by omega)]
      omega
    · have : k = 16 := by omega
      subst this
      refine Or.inr ⟨((1 : Int32), T1), ?_, T1, rfl⟩
      unfold fL_isSo_B5
      dsimp only
      rw [if_pos (show (16 : Int32) ≤ ci 16 by decide), gS187 hw]
      rfl) 17 ((1 : Int32), (0 : Int32), T) ⟨0, T, rfl, by omega, hT, rfl⟩ (by show 16 - nn (ci 0) < 17; rw [nn_ci (by omega)]; omega)
  obtain ⟨r, hr, T', rfl⟩ := key
  exact ⟨T', hr⟩
/-! ALL THAT THE PURE PART OWES -/
def KpT (p : Int32) (T : TZ) : Prop := p = ci T.1 ∧ p3 p
theorem zowed : zOwed zJ aO aL KpT tZ0 := by
  refine ⟨zops, zJ_start, fun p hp => ?_, fun x y S p T v hI hK => ?_, fun x y S p T v hI hK => gareAlike, fun x y S p T v hI hK => gS hI.wf hK.1 hK.2⟩
  · rcases hp with rfl | rfl | rfl
    · exact ⟨_, _, rfl, rfl, rfl, rfl, rfl, Or.inl rfl⟩
    · exact ⟨_, _, rfl, rfl, rfl, rfl, rfl, Or.inr (Or.inl rfl)⟩
    · exact ⟨_, _, rfl, rfl, rfl, rfl, rfl, Or.inr (Or.inr rfl)⟩
  · obtain ⟨r, h1, h2, h3⟩ := gfL_act (T := T) (a1 := v) (a2 := p) hI.wf hK.2
    refine ⟨r, h1, ⟨hK.1.trans (by rw [h2]), hK.2⟩, fun hh => ?_, fun _ hh => ?_⟩
    · rcases h3 with h3 | ⟨n, hn, h3⟩
      · exact h3
      · exact absurd (show ci n < 0 by rw [← h3, hh]; decide) (ci_nneg (by omega))
    · rcases h3 with h3 | ⟨n, hn, h3⟩
      · exact h3
      · have e : ci n = ci 889552896 := h3.symm.trans hh
        rw [ci_eq (by omega) (by omega)] at e
        omega
