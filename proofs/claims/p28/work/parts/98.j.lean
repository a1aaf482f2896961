/-! areAlike over the values -/
theorem rdz {T : TZ} {j : Nat} {l : List Int32} (h : ∀ q, aO j T l = some q → q.2 = T) : ∃ v, zmk (-99999999 : Int32) (aO j T l) T = some (v, T) := by
  cases e : aO j T l with
  | none => exact ⟨_, rfl⟩
  | some q =>
    refine ⟨q.1, ?_⟩
    have := h q e
    show some q = _
    rw [← this]
theorem gareAlike_step {T : TZ} {v : Int32} {k : Nat} (hk : k < 4) : fL_areAlike_B5 aO aL v ((1 : Int32), ci k, (T, T)) = some (.inl ((1 : Int32), ci (k + 1), (T, T))) := by
  obtain ⟨x1, h1⟩ := zlow_ex v (n := 2) (by decide)
  obtain ⟨x2, h2⟩ := zlow_ex (v >>> ((1 : Int32) &&& 31)) (n := 2) (by decide)
  obtain ⟨x3, h3⟩ := zlow_ex v (n := 5) (by decide)
  obtain ⟨x4, h4⟩ := zlow_ex v (n := 3) (by decide)
  obtain ⟨x5, h5⟩ := zlow_ex (v >>> ((2 : Int32) &&& 31)) (n := 3) (by decide)
  obtain ⟨v1, e1⟩ := rdz (T := T) (j := 14) (l := [ci k, (0 : Int32), x1, x2]) (fun q h => rd_at (a1 := ci k) (a2 := 0) (a3 := x1) (a4 := x2) h)
  obtain ⟨v2, e2⟩ := rdz (T := T) (j := 16) (l := [ci k]) (fun q h => rd_bound (a1 := ci k) h)
  obtain ⟨v3, e3⟩ := rdz (T := T) (j := 19) (l := [ci k, x3]) (fun q h => rd_ofWay (a1 := ci k) (a2 := x3) h)
  obtain ⟨v4, e4⟩ := rdz (T := T) (j := 20) (l := [ci k, x4, x5]) (fun q h => rd_vec (a1 := ci k) (a2 := x4) (a3 := x5) h)
  unfold fL_areAlike_B5
  dsimp only
  rw [if_neg (show ¬ (4 : Int32) ≤ ci k by rw [cl_4, ci_le (by omega) (by omega)]; omega), if_neg (show ¬ (1 : Int32) = 0 by decide)]
  rw [h1, Option.bind_some, h2, Option.bind_some, e1, Option.bind_some]
  dsimp only
  rw [Option.bind_some, Option.bind_some, e1, Option.bind_some]
  dsimp only
  rw [if_pos rfl, e2, Option.bind_some]
  dsimp only
  rw [Option.bind_some]
  dsimp only
  rw [if_pos rfl, h3, Option.bind_some, e3, Option.bind_some]
  dsimp only
  rw [Option.bind_some, e3, Option.bind_some]
  dsimp only
  rw [if_pos rfl, h4, Option.bind_some, h5, Option.bind_some, e4, Option.bind_some]
  dsimp only
  rw [Option.bind_some, Option.bind_some, e4, Option.bind_some]
  dsimp only
  rw [if_pos rfl]
  unfold fL_areAlike_J140
  rw [cl_1, ci_add]
theorem gareAlike {T : TZ} {v : Int32} : fL_areAlike aO aL v (T, T) = some ((1 : Int32), (T, T)) := by
  unfold fL_areAlike
  refine ziter_seq (fun k => ((1 : Int32), ci k, (T, T))) _ 4 5 (by omega) (fun k hk => gareAlike_step hk) ?_
  unfold fL_areAlike_B5
  dsimp only
  rw [if_pos (show (4 : Int32) ≤ ci 4 by decide)]
  rfl
/-! isWaySo over the values -/
def RW (w : Nat) (T T' : TZ) : Prop := match T, T' with
  | (p, cc, wc, CA, CG, WA, WG, WV), (p', cc', wc', CA', CG', WA', WG', WV') => (p' = p ∧ cc' = cc ∧ wc' = wc ∧ CA' = CA ∧ CG' = CG ∧ WG' = WG) ∧ (∀ j s, s ≠ 4 → WA' j s = WA j s) ∧ (∀ j, WA' j 4 ≤ WA j 4) ∧ TE p (WA w 0) (WA w 1) (WA w 2) (WA w 4) (WV w) (WA' w 4) (WV' w)
def wkT (T : TZ) (w : Nat) : Nat := match T with
  | (_, _, _, _, _, WA, _, _) => WA w 4
def wcT (T : TZ) : Nat := match T with
  | (_, _, wc, _, _, _, _, _) => wc
theorem RW.rf {w : Nat} {T : TZ} : RW w T T := by
  obtain ⟨p, cc, wc, CA, CG, WA, WG, WV⟩ := T
  exact ⟨⟨rfl, rfl, rfl, rfl, rfl, rfl⟩, fun _ _ _ => rfl, fun _ => Nat.le_refl _, TE.rf⟩
theorem RW.tr {w : Nat} {T T1 T2 : TZ} (h1 : RW w T T1) (h2 : RW w T1 T2) : RW w T T2 := by
  obtain ⟨p, cc, wc, CA, CG, WA, WG, WV⟩ := T
  obtain ⟨p1, cc1, wc1, CA1, CG1, WA1, WG1, WV1⟩ := T1
  obtain ⟨p2, cc2, wc2, CA2, CG2, WA2, WG2, WV2⟩ := T2
  obtain ⟨⟨rfl, rfl, rfl, rfl, rfl, rfl⟩, a1, a2, a3⟩ := h1
  obtain ⟨⟨rfl, rfl, rfl, rfl, rfl, rfl⟩, b1, b2, b3⟩ := h2
  rw [a1 w 0 (by decide), a1 w 1 (by decide), a1 w 2 (by decide)] at b3
  exact ⟨⟨rfl, rfl, rfl, rfl, rfl, rfl⟩, fun j s hs => (b1 j s hs).trans (a1 j s hs), fun j => Nat.le_trans (b2 j) (a2 j), a3.tr b3⟩
theorem RW.wf {w : Nat} {T T1 : TZ} (h1 : RW w T T1) (hw : wfT T) : wfT T1 ∧ T1.1 = T.1 ∧ wcT T1 = wcT T := by
  obtain ⟨p, cc, wc, CA, CG, WA, WG, WV⟩ := T
  obtain ⟨p1, cc1, wc1, CA1, CG1, WA1, WG1, WV1⟩ := T1
  obtain ⟨⟨rfl, rfl, rfl, rfl, rfl, rfl⟩, a1, a2, a3⟩ := h1
  refine ⟨⟨hw.1, hw.2.1, fun i hi => ?_⟩, rfl, rfl⟩
  rw [a1 i 0 (by decide), a1 i 1 (by decide), a1 i 2 (by decide)]
  have := hw.2.2 i hi
  exact ⟨this.1, Nat.le_trans (a2 i) this.2⟩
theorem RW.up {w : Nat} {p cc wc k : Nat} {CA CG WA WG : Nat → Nat → Nat} {WV : Nat → Nat → Nat → Nat → Nat} {v : Nat → Nat → Nat → Nat} (hk : k ≤ WA w 4) (h : TE p (WA w 0) (WA w 1) (WA w 2) (WA w 4) (WV w) k v) : RW w (p, cc, wc, CA, CG, WA, WG, WV) (p, cc, wc, CA, CG, upW WA w k, WG, upV WV w v) := by
  refine ⟨⟨rfl, rfl, rfl, rfl, rfl, rfl⟩, fun j s hs => ?_, fun j => ?_, ?_⟩
  · by_cases hj : j = w
    · subst hj; rw [upW_self]; exact if_neg hs
    · rw [upW_ne hj]
  · by_cases hj : j = w
    · subst hj; rw [upW_self]; exact hk
    · rw [upW_ne hj]; exact Nat.le_refl _
  · rw [upW_self, upV_self]; exact h
theorem wkT_up {w : Nat} {p cc wc k : Nat} {CA CG WA WG : Nat → Nat → Nat} {WV : Nat → Nat → Nat → Nat → Nat} {v : Nat → Nat → Nat → Nat} : wkT (p, cc, wc, CA, CG, upW WA w k, WG, upV WV w v) w = k := by
  show upW WA w k w 4 = k
  rw [upW_self]
  exact if_pos rfl
theorem bl_in {n i : Nat} (hn : n < 2147483648) (h : i < n) : bl n (ci i) = true := by
  rw [bl_ci hn (by omega), decide_eq_true h]
/-- what ofWay tells -/
def ofT (T : TZ) (w q : Nat) : Nat := match T with
  | (p, _, _, _, _, WA, WG, WV) => ofV p (WA w 0) (WA w 1) (WA w 2) (WA w 4) (WG w) (WV w) q
theorem gof {T : TZ} {w q : Nat} (hT : wfT T) (hw : w < wcT T) (hq : q < 5) : aO 19 T [ci w, ci q] = some (ci (ofT T w q), T) := by
  obtain ⟨p, cc, wc, CA, CG, WA, WG, WV⟩ := T
  have hwc := hT.1.2.2.1
  have hw' : w < wc := hw
  show aOfWay (p, cc, wc, CA, CG, WA, WG, WV) (ci w) (ci q) = _
  unfold aOfWay
  dsimp only
  rw [if_pos ⟨bl_in (by omega) hw', bl_in (by omega) hq⟩, nn_ci (by omega), nn_ci (by omega)]
  rfl
theorem gof0 {T : TZ} {w : Nat} : ofT T w 0 = wkT T w := rfl
theorem gof1 {w : Nat} {T T1 : TZ} (h : RW w T T1) : ofT T1 w 1 = ofT T w 1 := by
  obtain ⟨p, cc, wc, CA, CG, WA, WG, WV⟩ := T
  obtain ⟨p1, cc1, wc1, CA1, CG1, WA1, WG1, WV1⟩ := T1
  obtain ⟨⟨rfl, rfl, rfl, rfl, rfl, rfl⟩, a1, a2, a3⟩ := h
  show wrF p1 (enF (WA1 w 0) (WA1 w 1) (WA1 w 2) (WV1 w) (WA1 w 4)) (WG1 w) 64 = wrF p1 (enF (WA w 0) (WA w 1) (WA w 2) (WV w) (WA w 4)) (WG1 w) 64
  rw [a1 w 0 (by decide), a1 w 1 (by decide), a1 w 2 (by decide)]
  exact TE_wr a3
theorem gflip {T : TZ} {w : Nat} {a2 a3 a4 : Int32} {q : Int32 × TZ} (hT : wfT T) (hw : w < wcT T) (h : aO 11 T [ci w, a2, a3, a4] = some q) : q.1 = 0 ∧ RW w T q.2 ∧ wkT q.2 w = wkT T w := by
  obtain ⟨p, cc, wc, CA, CG, WA, WG, WV⟩ := T
  have hwc := hT.1.2.2.1
  have hpb := hT.1.1.b
  have hw' : w < wc := hw
  have h9 : aFlip (p, cc, wc, CA, CG, WA, WG, WV) (ci w) a2 a3 a4 = some q := h
  unfold aFlip at h9
  dsimp only at h9
  rw [nn_ci (by omega)] at h9
  by_cases hc : bl wc (ci w) = true ∧ (bl (WA w 4) a2 && (bl (WA w 4) a3 && bl 3 a4)) = true ∧ nn a2 ≠ nn a3 ∧ al (WA w 0) (WA w 1) (WA w 2) (WV w) (nn a2) (nn a3) (nn a4) = true
  · rw [if_pos hc] at h9
    cases h9
    obtain ⟨-, h1, h2, h3⟩ := hc
    rw [Bool.and_eq_true, Bool.and_eq_true] at h1
    have hk := (hT.2.2 w hw').2
    exact ⟨rfl, RW.up (Nat.le_refl _) (TE_flip (by omega) (nn_bl (by omega) h1.1) (nn_bl (by omega) h1.2.1) (nn_bl (by omega) h1.2.2) h2 h3), wkT_up⟩
  · rw [if_neg hc] at h9; cases h9
theorem zlow_b (v : Int32) {n : Nat} (hn : n < 2147483648) (h0 : 0 < n) : ∃ r, fL_low v (ci n) = some r ∧ bl n r = true := by
  have hne : ¬ ci n = 0 := by rw [cl_0, ci_eq hn (by omega)]; omega
  have e : ∃ m, m < 2147483648 ∧ v &&& 2147483647 = ci m := by
    apply ci_of
    rw [Int32.le_iff_toInt_le]
    have h : (v &&& 2147483647).toBitVec.toNat ≤ 2147483647 := by
      rw [Int32.toBitVec_and, BitVec.toNat_and]
      exact Nat.and_le_right
    show (0 : Int32).toInt ≤ (v &&& 2147483647).toBitVec.toInt
    rw [BitVec.toInt_eq_toNat_of_lt (by omega)]
    show (0 : Int) ≤ _
    omega
  obtain ⟨m, hm, e⟩ := e
  refine ⟨ci (m % n), ?_, bl_in hn (Nat.mod_lt _ h0)⟩
  unfold fL_low zrem
  rw [e, if_neg hne, ci_mod hm hn]
  rfl
theorem gwalk {T : TZ} {w : Nat} {x : Int32} (hT : wfT T) (hw : w < wcT T) (hx : bl 65536 x = true) : ∃ s T1 T2, s < 65536 ∧ aO 13 T [ci w, x, (5 : Int32)] = some (ci s, T1) ∧ RW w T T1 ∧ aO 12 T1 [ci w] = some (ci 0, T2) ∧ RW w T1 T2 := by
  obtain ⟨p, cc, wc, CA, CG, WA, WG, WV⟩ := T
  have hwc := hT.1.2.2.1
  have hpb := hT.1.1.b
  have hw' : w < wc := hw
  obtain ⟨y, hy, rfl⟩ := bl_ex (by omega) hx
  have hwk := wlk_lt (p := p) (a := WA w 0) (b := WA w 1) (d := WA w 2) 5 y (WA w 4) (WV w) hy
  have hle := wlk_le (p := p) (a := WA w 0) (b := WA w 1) (d := WA w 2) 5 y (WA w 4) (WV w)
  have hte := TE_wlk (p := p) (a := WA w 0) (b := WA w 1) (d := WA w 2) (by omega) 5 y (WA w 4) (WV w)
  have hrd := wlk_red (p := p) (a := WA w 0) (b := WA w 1) (d := WA w 2) (n := 4) (x := y) (k := WA w 4) (v := WV w)
  refine ⟨_, _, (p, cc, wc, CA, CG, upW (upW WA w (wlk p (WA w 0) (WA w 1) (WA w 2) 5 y (WA w 4) (WV w)).2.1) w (wlk p (WA w 0) (WA w 1) (WA w 2) 5 y (WA w 4) (WV w)).2.1, WG, upV (upV WV w (wlk p (WA w 0) (WA w 1) (WA w 2) 5 y (WA w 4) (WV w)).2.2) w (wlk p (WA w 0) (WA w 1) (WA w 2) 5 y (WA w 4) (WV w)).2.2), hwk, ?_, RW.up (WV := WV) (CA := CA) (CG := CG) (WG := WG) hle hte, ?_, RW.up ?_ ?_⟩
  · show aWalk (p, cc, wc, CA, CG, WA, WG, WV) (ci w) (ci y) (5 : Int32) = _
    unfold aWalk
    dsimp only
    rw [if_pos ⟨bl_in (by omega) hw', hx, by decide⟩, nn_ci (by omega), nn_ci (by omega), show nn (5 : Int32) = 5 from rfl]
  · show aRed (p, cc, wc, CA, CG, upW WA w (wlk p (WA w 0) (WA w 1) (WA w 2) 5 y (WA w 4) (WV w)).2.1, WG, upV WV w (wlk p (WA w 0) (WA w 1) (WA w 2) 5 y (WA w 4) (WV w)).2.2) (ci w) = _
    unfold aRed
    dsimp only
    rw [if_pos (bl_in (by omega) hw'), nn_ci (by omega), upV_self]
    have q0 : upW WA w (wlk p (WA w 0) (WA w 1) (WA w 2) 5 y (WA w 4) (WV w)).2.1 w 0 = WA w 0 := by rw [upW_self]; exact if_neg (by decide)
    have q1 : upW WA w (wlk p (WA w 0) (WA w 1) (WA w 2) 5 y (WA w 4) (WV w)).2.1 w 1 = WA w 1 := by rw [upW_self]; exact if_neg (by decide)
    have q2 : upW WA w (wlk p (WA w 0) (WA w 1) (WA w 2) 5 y (WA w 4) (WV w)).2.1 w 2 = WA w 2 := by rw [upW_self]; exact if_neg (by decide)
    have q4 : upW WA w (wlk p (WA w 0) (WA w 1) (WA w 2) 5 y (WA w 4) (WV w)).2.1 w 4 = (wlk p (WA w 0) (WA w 1) (WA w 2) 5 y (WA w 4) (WV w)).2.1 := by rw [upW_self]; exact if_pos rfl
    rw [q0, q1, q2, q4, hrd, Nat.sub_self]
  · rw [upW_self]; exact Nat.le_refl _
  · rw [upW_self, upV_self]; exact TE.rf
/-- what result tells is kept -/
theorem gres {w : Nat} {T T1 : TZ} {x y : Int32} (hT : wfT T) (hw : w < wcT T) (h : RW w T T1) : ∃ r, zmk (-99999999 : Int32) (aO 21 T [ci w, x, y, (0 : Int32)]) T = some (r, T) ∧ zmk (-99999999 : Int32) (aO 21 T1 [ci w, x, y, (0 : Int32)]) T1 = some (r, T1) := by
  obtain ⟨p, cc, wc, CA, CG, WA, WG, WV⟩ := T
  obtain ⟨p1, cc1, wc1, CA1, CG1, WA1, WG1, WV1⟩ := T1
  have hwc := hT.1.2.2.1
  have hw' : w < wc := hw
  have hsz := (hT.2.2 w hw').1
  obtain ⟨⟨rfl, rfl, rfl, rfl, rfl, rfl⟩, a1, a2, a3⟩ := h
  have hb := bl_in (by omega) hw'
  show ∃ r, zmk (-99999999 : Int32) (aRes (p1, cc1, wc1, CA1, CG1, WA, WG1, WV) (ci w) x y (0 : Int32)) _ = some (r, _) ∧ zmk (-99999999 : Int32) (aRes (p1, cc1, wc1, CA1, CG1, WA1, WG1, WV1) (ci w) x y (0 : Int32)) _ = some (r, _)
  unfold aRes
  dsimp only
  rw [nn_ci (by omega), a1 w 0 (by decide), a1 w 1 (by decide), a1 w 2 (by decide)]
  by_cases hc : bl wc1 (ci w) = true ∧ ask p1 (WA w 0) (WA w 1) (WA w 2) x y 0 = 0
  · rw [if_pos hc, if_pos hc]
    refine ⟨_, rfl, ?_⟩
    rw [TE_rs a3 (show nn (0 : Int32) < WA w 2 from hsz.2.2.1)]
    rfl
  · rw [if_neg hc, if_neg hc]
    exact ⟨_, rfl, rfl⟩
theorem grbc {w : Nat} {T : TZ} {x y : Int32} (hT : wfT T) (hw : w < wcT T) (h0 : ofT T w 1 = 0) : ∃ r, zmk (-99999999 : Int32) (aO 21 T [ci w, x, y, (0 : Int32)]) T = some (r, T) ∧ zmk (-99999999 : Int32) (aO 22 T [ci w, x, y, (0 : Int32)]) T = some (r, T) := by
  obtain ⟨p, cc, wc, CA, CG, WA, WG, WV⟩ := T
  have hwc := hT.1.2.2.1
  have hw' : w < wc := hw
  have hsz := (hT.2.2 w hw').1
  show ∃ r, zmk (-99999999 : Int32) (aRes (p, cc, wc, CA, CG, WA, WG, WV) (ci w) x y (0 : Int32)) _ = some (r, _) ∧ zmk (-99999999 : Int32) (aRbc (p, cc, wc, CA, CG, WA, WG, WV) (ci w) x y (0 : Int32)) _ = some (r, _)
  unfold aRes aRbc
  dsimp only
  rw [nn_ci (by omega)]
  by_cases hc : bl wc (ci w) = true ∧ ask p (WA w 0) (WA w 1) (WA w 2) x y 0 = 0
  · rw [if_pos hc, if_pos hc]
    refine ⟨_, rfl, ?_⟩
    rw [← wr_rb (d := WA w 2) (k := WA w 4) (v := WV w) hsz h0 (show nn (0 : Int32) < WA w 2 from hsz.2.2.1)]
    rfl
  · rw [if_neg hc, if_neg hc]
    exact ⟨_, rfl, rfl⟩
theorem ofT_b {T : TZ} {w : Nat} (hT : wfT T) (hw : w < wcT T) : ofT T w 0 ≤ 40 ∧ ofT T w 1 ≤ 64 ∧ ofT T w 3 ≤ ofT T w 2 ∧ ofT T w 2 ≤ 480 ∧ ofT T w 4 ≤ 640 := by
  obtain ⟨p, cc, wc, CA, CG, WA, WG, WV⟩ := T
  have hw' : w < wc := hw
  obtain ⟨hsz, hk⟩ := hT.2.2 w hw'
  refine ⟨hk, ?_, ?_, ?_, ?_⟩
  · show wrF p (enF (WA w 0) (WA w 1) (WA w 2) (WV w) (WA w 4)) (WG w) 64 ≤ 64
    unfold wrF
    have := sm_le (n := 64) (b := 1) (f := fun x => if enF (WA w 0) (WA w 1) (WA w 2) (WV w) (WA w 4) x % p = WG w x then 0 else 1) (fun x _ => by split <;> omega)
    omega
  · show sm 3 (adS (WA w 0) (WA w 1) (WA w 2) (WA w 4) (WV w) true) ≤ sm 3 (adS (WA w 0) (WA w 1) (WA w 2) (WA w 4) (WV w) false)
    exact sm_mono (fun s _ => adS_le)
  · show sm 3 (adS (WA w 0) (WA w 1) (WA w 2) (WA w 4) (WV w) false) ≤ 480
    exact sm_le (fun s _ => adS_b hsz hk)
  · show mxF (WV w) (WA w 0) (WA w 1) (WA w 4) (WA w 2) ≤ 640
    have := mxF_b (v := WV w) (a := WA w 0) (b := WA w 1) (k := WA w 4) (z := WA w 2) hsz.1.2 hsz.2.1.2
    omega
