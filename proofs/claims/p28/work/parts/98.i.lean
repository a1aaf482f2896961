/-! ACT, and areAlike, over the values -/
def wfT (T : TZ) : Prop := match T with
  | (p, cc, wc, CA, CG, WA, _, _) => zK p cc wc ∧ (∀ i, i < cc → szOK (CA i 0) (CA i 1) (CA i 2) ∧ cOK p (CA i 0) (CA i 1) (CA i 2) (CG i)) ∧ ∀ i, i < wc → szOK (WA i 0) (WA i 1) (WA i 2) ∧ WA i 4 ≤ 40
theorem zQ.wf {S : ZS} {ad : Nat → Nat} {T : TZ} (h : zQ S ad T) : wfT T := by
  obtain ⟨p, cc, wc, CA, CG, WA, WG, WV⟩ := T
  obtain ⟨hK, hin, hcl⟩ := h
  exact ⟨hK, fun i hi => ⟨(hcl.2.2.1 i hi).2.1, (hcl.2.2.1 i hi).2.2.1⟩, fun i hi => ⟨(hcl.2.2.2 i hi).1.2.1, (hcl.2.2.2 i hi).1.kk⟩⟩
theorem zJ.wf {x : Nat} {T : TZ} {y : Nat} {U : TZ} {S : ZS} (h : zJ x T y U S) : wfT T := by
  obtain ⟨ad, bd, h1, h2, h3, h4, h5⟩ := h
  exact h3.wf
def okq (T : TZ) (q : Int32 × TZ) : Prop := q.2.1 = T.1 ∧ (q.2 = T ∨ ∃ n, n < 65536 ∧ q.1 = ci n)
theorem nn_bl {n : Nat} {a : Int32} (hn : n < 2147483648) (h : bl n a = true) : nn a < n := by
  obtain ⟨i, hi, rfl⟩ := bl_ex hn h
  rw [nn_ci (by omega)]
  exact hi
theorem ok_cube {T : TZ} {a1 a2 a3 : Int32} {q : Int32 × TZ} (hw : wfT T) (h : aCube T a1 a2 a3 = some q) : okq T q := by
  obtain ⟨p, cc, wc, CA, CG, WA, WG, WV⟩ := T
  have hc := hw.1.2.1
  unfold aCube at h
  simp only [] at h
  split at h
  · cases h; exact ⟨rfl, Or.inr ⟨cc, by omega, rfl⟩⟩
  · cases h
theorem ok_mat {T : TZ} {a1 a2 a3 : Int32} {q : Int32 × TZ} (hw : wfT T) (h : aMat T a1 a2 a3 = some q) : okq T q := by
  obtain ⟨p, cc, wc, CA, CG, WA, WG, WV⟩ := T
  have hc := hw.1.2.1
  unfold aMat at h
  simp only [] at h
  split at h
  · cases h; exact ⟨rfl, Or.inr ⟨cc, by omega, rfl⟩⟩
  · cases h
theorem ok_poly {T : TZ} {a1 a2 : Int32} {q : Int32 × TZ} (hw : wfT T) (h : aPoly T a1 a2 = some q) : okq T q := by
  obtain ⟨p, cc, wc, CA, CG, WA, WG, WV⟩ := T
  have hc := hw.1.2.1
  unfold aPoly at h
  simp only [] at h
  split at h
  · cases h; exact ⟨rfl, Or.inr ⟨cc, by omega, rfl⟩⟩
  · cases h
theorem ok_group {T : TZ} {a1 : Int32} {q : Int32 × TZ} (hw : wfT T) (h : aGroup T a1 = some q) : okq T q := by
  obtain ⟨p, cc, wc, CA, CG, WA, WG, WV⟩ := T
  have hc := hw.1.2.1
  unfold aGroup at h
  simp only [] at h
  split at h
  · cases h; exact ⟨rfl, Or.inr ⟨cc, by omega, rfl⟩⟩
  · cases h
theorem ok_sum {T : TZ} {a1 a2 : Int32} {q : Int32 × TZ} (hw : wfT T) (h : aSum T a1 a2 = some q) : okq T q := by
  obtain ⟨p, cc, wc, CA, CG, WA, WG, WV⟩ := T
  have hc := hw.1.2.1
  unfold aSum at h
  simp only [] at h
  split at h
  · cases h; exact ⟨rfl, Or.inr ⟨cc, by omega, rfl⟩⟩
  · cases h
theorem ok_prod {T : TZ} {a1 a2 : Int32} {q : Int32 × TZ} (hw : wfT T) (h : aProd T a1 a2 = some q) : okq T q := by
  obtain ⟨p, cc, wc, CA, CG, WA, WG, WV⟩ := T
  have hc := hw.1.2.1
  unfold aProd at h
  simp only [] at h
  split at h
  · cases h; exact ⟨rfl, Or.inr ⟨cc, by omega, rfl⟩⟩
  · cases h
theorem ok_way {T : TZ} {a1 : Int32} {q : Int32 × TZ} (hw : wfT T) (h : aWay T a1 = some q) : okq T q := by
  obtain ⟨p, cc, wc, CA, CG, WA, WG, WV⟩ := T
  have hc := hw.1.2.2.1
  unfold aWay at h
  simp only [] at h
  split at h
  · cases h; exact ⟨rfl, Or.inr ⟨wc, by omega, rfl⟩⟩
  · cases h
theorem ok_set {T : TZ} {a1 a2 a3 a4 a5 : Int32} {q : Int32 × TZ} (hw : wfT T) (h : aSet T a1 a2 a3 a4 a5 = some q) : okq T q := by
  obtain ⟨p, cc, wc, CA, CG, WA, WG, WV⟩ := T
  have hc := hw.1.2.1
  have hp := hw.1.1.b
  unfold aSet at h
  simp only [] at h
  split at h
  · rename_i hh
    cases h
    have hi := nn_bl (by omega) hh.1
    obtain ⟨hs, ho⟩ := hw.2.1 _ hi
    unfold szOK at hs
    have h3 := hh.2.1
    rw [Bool.and_eq_true, Bool.and_eq_true] at h3
    have b1 := nn_bl (by omega) h3.1
    have b2 := nn_bl (by omega) h3.2.1
    have b3 := nn_bl (by omega) h3.2.2
    have := ho.1 _ (ix_lt (i := nn a2) (j := nn a3) (k := nn a4) (by omega) (by omega) (by omega))
    exact ⟨rfl, Or.inr ⟨_, by omega, rfl⟩⟩
  · cases h
theorem ok_move {T : TZ} {a1 a2 a3 a4 a5 : Int32} {q : Int32 × TZ} (h : aMove T a1 a2 a3 a4 a5 = some q) : okq T q := by
  obtain ⟨p, cc, wc, CA, CG, WA, WG, WV⟩ := T
  unfold aMove at h
  simp only [] at h
  split at h
  · cases h
    have := nz_le (mv (nn a2) (nn a3) (nn a4) (nn a5) p (CG (nn a1)) 16) 64
    exact ⟨rfl, Or.inr ⟨_, by omega, rfl⟩⟩
  · cases h
theorem ok_mul {T : TZ} {a1 a2 a3 a4 : Int32} {q : Int32 × TZ} (hw : wfT T) (h : aMul T a1 a2 a3 a4 = some q) : okq T q := by
  obtain ⟨p, cc, wc, CA, CG, WA, WG, WV⟩ := T
  have hc := hw.1.2.2.1
  unfold aMul at h
  simp only [] at h
  split at h
  · rename_i hh
    cases h
    have hi := nn_bl (by omega) hh.1
    have := (hw.2.2 _ hi).2
    exact ⟨rfl, Or.inr ⟨_, by omega, rfl⟩⟩
  · cases h
theorem ok_plain {T : TZ} {a1 : Int32} {q : Int32 × TZ} (h : aPlain T a1 = some q) : okq T q := by
  obtain ⟨p, cc, wc, CA, CG, WA, WG, WV⟩ := T
  unfold aPlain at h
  simp only [] at h
  split at h
  · rename_i hh
    cases h
    have h2 := hh.2
    have := vpl_1 (g := WG (nn a1)) (k := WA (nn a1) 4) (v := WV (nn a1)) 64
    exact ⟨rfl, Or.inr ⟨_, by omega, rfl⟩⟩
  · cases h
theorem ok_flip {T : TZ} {a1 a2 a3 a4 : Int32} {q : Int32 × TZ} (h : aFlip T a1 a2 a3 a4 = some q) : okq T q := by
  obtain ⟨p, cc, wc, CA, CG, WA, WG, WV⟩ := T
  unfold aFlip at h
  simp only [] at h
  split at h
  · cases h; exact ⟨rfl, Or.inr ⟨0, by omega, rfl⟩⟩
  · cases h
theorem ok_red {T : TZ} {a1 : Int32} {q : Int32 × TZ} (hw : wfT T) (h : aRed T a1 = some q) : okq T q := by
  obtain ⟨p, cc, wc, CA, CG, WA, WG, WV⟩ := T
  have hc := hw.1.2.2.1
  unfold aRed at h
  simp only [] at h
  split at h
  · rename_i hh
    cases h
    have hi := nn_bl (by omega) hh
    have := (hw.2.2 _ hi).2
    exact ⟨rfl, Or.inr ⟨_, by omega, rfl⟩⟩
  · cases h
theorem ok_walk {T : TZ} {a1 a2 a3 : Int32} {q : Int32 × TZ} (h : aWalk T a1 a2 a3 = some q) : okq T q := by
  obtain ⟨p, cc, wc, CA, CG, WA, WG, WV⟩ := T
  unfold aWalk at h
  simp only [] at h
  split at h
  · rename_i hh
    cases h
    have hi := nn_bl (by omega) hh.2.1
    exact ⟨rfl, Or.inr ⟨_, wlk_lt _ _ _ _ hi, rfl⟩⟩
  · cases h
/-- what tells changes nothing -/
theorem rd_at {T : TZ} {a1 a2 a3 a4 : Int32} {q : Int32 × TZ} (h : aAt T a1 a2 a3 a4 = some q) : q.2 = T := by
  obtain ⟨p, cc, wc, CA, CG, WA, WG, WV⟩ := T
  unfold aAt at h
  simp only [] at h
  split at h
  · cases h; rfl
  · cases h
theorem rd_flat {T : TZ} {a1 a2 : Int32} {q : Int32 × TZ} (h : aFlat T a1 a2 = some q) : q.2 = T := by
  obtain ⟨p, cc, wc, CA, CG, WA, WG, WV⟩ := T
  unfold aFlat at h
  simp only [] at h
  split at h
  · cases h; rfl
  · cases h
theorem rd_bound {T : TZ} {a1 : Int32} {q : Int32 × TZ} (h : aBound T a1 = some q) : q.2 = T := by
  obtain ⟨p, cc, wc, CA, CG, WA, WG, WV⟩ := T
  unfold aBound at h
  simp only [] at h
  split at h
  · cases h; rfl
  · cases h
theorem rd_least {T : TZ} {l : Nat} {a1 : Int32} {q : Int32 × TZ} (h : aLeast l T a1 = some q) : q.2 = T := by
  obtain ⟨p, cc, wc, CA, CG, WA, WG, WV⟩ := T
  unfold aLeast at h
  simp only [] at h
  split at h
  · cases h; rfl
  · cases h
theorem rd_ofWay {T : TZ} {a1 a2 : Int32} {q : Int32 × TZ} (h : aOfWay T a1 a2 = some q) : q.2 = T := by
  obtain ⟨p, cc, wc, CA, CG, WA, WG, WV⟩ := T
  unfold aOfWay at h
  simp only [] at h
  split at h
  · cases h; rfl
  · cases h
theorem rd_vec {T : TZ} {a1 a2 a3 : Int32} {q : Int32 × TZ} (h : aVec T a1 a2 a3 = some q) : q.2 = T := by
  obtain ⟨p, cc, wc, CA, CG, WA, WG, WV⟩ := T
  unfold aVec at h
  simp only [] at h
  split at h
  · cases h; rfl
  · cases h
theorem rd_res {T : TZ} {a1 a2 a3 a4 : Int32} {q : Int32 × TZ} (h : aRes T a1 a2 a3 a4 = some q) : q.2 = T := by
  obtain ⟨p, cc, wc, CA, CG, WA, WG, WV⟩ := T
  unfold aRes at h
  simp only [] at h
  split at h
  · cases h; rfl
  · cases h
theorem rd_rbc {T : TZ} {a1 a2 a3 a4 : Int32} {q : Int32 × TZ} (h : aRbc T a1 a2 a3 a4 = some q) : q.2 = T := by
  obtain ⟨p, cc, wc, CA, CG, WA, WG, WV⟩ := T
  unfold aRbc at h
  simp only [] at h
  split at h
  · cases h; rfl
  · cases h
theorem rd_lev {T : TZ} {l : List Int32} {q : Int64 × TZ} (h : aL T l = some q) : q.2 = T := by
  obtain ⟨p, cc, wc, CA, CG, WA, WG, WV⟩ := T
  unfold aL at h
  split at h
  · unfold aLev at h
    simp only [] at h
    split at h
    · cases h; rfl
    · cases h
  · cases h
theorem okq.rd {T : TZ} {q : Int32 × TZ} (h : q.2 = T) : okq T q := ⟨by rw [h], Or.inl h⟩
theorem op_ok {T : TZ} {j : Nat} {l : List Int32} {q : Int32 × TZ} (hw : wfT T) (hj : j < 24) (h : aO j T l = some q) : okq T q := by
  unfold aO at h
  split at h
  · exact ok_cube hw h
  · exact ok_mat hw h
  · exact ok_poly hw h
  · exact ok_group hw h
  · exact ok_set hw h
  · exact ok_move h
  · exact ok_sum hw h
  · exact ok_prod hw h
  · exact ok_way hw h
  · exact ok_mul hw h
  · exact ok_plain h
  · exact ok_flip h
  · exact ok_red hw h
  · exact ok_walk h
  · exact okq.rd (rd_at h)
  · exact okq.rd (rd_flat h)
  · exact okq.rd (rd_bound h)
  · exact okq.rd (rd_least h)
  · exact okq.rd (rd_least h)
  · exact okq.rd (rd_ofWay h)
  · exact okq.rd (rd_vec h)
  · exact okq.rd (rd_res h)
  · exact okq.rd (rd_rbc h)
  · omega
  · cases h
def gd (T : TZ) (r : Option (Int32 × TZ)) : Prop := ∃ q, r = some q ∧ okq T q
def gdL (T : TZ) : List (Option (Int32 × TZ)) → Prop
  | [] => True
  | o :: r => gd T o ∧ gdL T r
theorem gdL_n {T : TZ} : gdL T [] := trivial
theorem gdL_c {T : TZ} {o : Option (Int32 × TZ)} {r : List (Option (Int32 × TZ))} (h1 : gd T o) (h2 : gdL T r) : gdL T (o :: r) := ⟨h1, h2⟩
theorem gd_sw {T : TZ} {x : Int32} {d : Option (Int32 × TZ)} : ∀ {os : List (Option (Int32 × TZ))} {k : Nat}, gdL T os → gd T d → gd T (zsw x k os d)
  | [], k, _, h => h
  | o :: r, k, h1, h => by
    unfold zsw
    by_cases hc : x.toInt = (k : Int)
    · rw [if_pos hc]; exact h1.1
    · rw [if_neg hc]; exact gd_sw h1.2 h
theorem gd_if {T : TZ} {c : Prop} [Decidable c] {a b : Option (Int32 × TZ)} (h1 : gd T a) (h2 : gd T b) : gd T (if c then a else b) := by
  by_cases hc : c
  · rw [if_pos hc]; exact h1
  · rw [if_neg hc]; exact h2
theorem gd_low {T : TZ} {x n : Int32} {k : Int32 → Option (Int32 × TZ)} (hn : ¬ n = 0) (h : ∀ r, gd T (k r)) : gd T (Option.bind (fL_low x n) k) := by
  obtain ⟨r, hr⟩ := zlow_ex x hn
  rw [hr, Option.bind_some]
  exact h r
theorem gd_op {T : TZ} {j : Nat} {l : List Int32} (hw : wfT T) (hj : j < 24) : gd T (Option.bind (zmk (-99999999 : Int32) (aO j T l) T) fun x => some (x.1, x.2)) := by
  cases h : aO j T l with
  | none => exact ⟨(-99999999, T), rfl, rfl, Or.inl rfl⟩
  | some q => exact ⟨q, rfl, op_ok hw hj h⟩
theorem gd_lev {T : TZ} {l : List Int32} : gd T (Option.bind (zmk (-9000000000000000 : Int64) (aL T l) T) fun x => some (Int64.toInt32 x.1, x.2)) := by
  cases h : aL T l with
  | none => exact ⟨(Int64.toInt32 (-9000000000000000), T), rfl, rfl, Or.inl rfl⟩
  | some q => exact ⟨(Int64.toInt32 q.1, q.2), rfl, okq.rd (rd_lev h)⟩
def p3 (x : Int32) : Prop := x = 2 ∨ x = 3 ∨ x = 5
def p9 (x : Int32) : Prop := x = 4 ∨ x = 9 ∨ x = 25
theorem p3.n0 {x : Int32} (h : p3 x) : ¬ x = 0 := by rcases h with rfl | rfl | rfl <;> decide
theorem p3.n1 {x : Int32} (h : p3 x) : ¬ x - (1 : Int32) = 0 := by rcases h with rfl | rfl | rfl <;> decide
theorem p3.sq {x : Int32} (h : p3 x) : p9 (x * x) := by
  rcases h with rfl | rfl | rfl
  · exact Or.inl rfl
  · exact Or.inr (Or.inl rfl)
  · exact Or.inr (Or.inr rfl)
theorem p9.n0 {x : Int32} (h : p9 x) : ¬ x = 0 := by rcases h with rfl | rfl | rfl <;> decide

theorem gfL_act_J384 {T : TZ} {l7 l8 l9 : Int32} (hw : wfT T) : gd T (fL_act_J384 aO aL l7 l8 l9 T) := by
  unfold fL_act_J384
  exact (gd_op hw (by decide))
theorem gfL_act_J451 {T : TZ} {s1 : Int32} (hw : wfT T) : gd T (fL_act_J451 aO aL s1 T) := by
  unfold fL_act_J451
  exact (gd_op hw (by decide))
theorem gfL_act_J455 {T : TZ} {l4 l7 l8 l9 l10 : Int32} (hw : wfT T) : gd T (fL_act_J455 aO aL l4 l7 l8 l9 l10 T) := by
  unfold fL_act_J455
  exact (gd_op hw (by decide))
theorem gfL_act_J511 {T : TZ} {s1 s2 s3 s4 s5 : Int32} (hw : wfT T) : gd T (fL_act_J511 aO aL s1 s2 s3 s4 s5 T) := by
  unfold fL_act_J511
  exact (gd_op hw (by decide))
theorem gfL_act_J490 {T : TZ} {l1 l2 l3 l10 s1 s2 s3 s4 : Int32} (hw : wfT T) (h2 : p3 l2) : gd T (fL_act_J490 aO aL l1 l2 l3 l10 s1 s2 s3 s4 T) := by
  unfold fL_act_J490
  exact (gd_if (gd_low h2.n1 (fun x17 => (gfL_act_J511 hw))) (gfL_act_J511 hw))
theorem gfL_act_J470 {T : TZ} {l1 l2 l3 l4 l7 l8 l10 l11 : Int32} (hw : wfT T) (h2 : p3 l2) : gd T (fL_act_J470 aO aL l1 l2 l3 l4 l7 l8 l10 l11 T) := by
  unfold fL_act_J470
  exact (gd_if (gfL_act_J490 hw h2) (gfL_act_J490 hw h2))
theorem gfL_act_J555 {T : TZ} {l4 : Int32} (hw : wfT T) : gd T (fL_act_J555 aO aL l4 T) := by
  unfold fL_act_J555
  exact (gd_op hw (by decide))
theorem gfL_act_J619 {T : TZ} {s1 s2 s3 s4 : Int32} (hw : wfT T) : gd T (fL_act_J619 aO aL s1 s2 s3 s4 T) := by
  unfold fL_act_J619
  exact (gd_op hw (by decide))
theorem gfL_act_J601 {T : TZ} {l1 l3 l9 l12 s1 s2 s3 : Int32} (hw : wfT T) (h12 : p9 l12) : gd T (fL_act_J601 aO aL l1 l3 l9 l12 s1 s2 s3 T) := by
  unfold fL_act_J601
  exact (gd_if (gd_low h12.n0 (fun x26 => (gfL_act_J619 hw))) (gfL_act_J619 hw))
theorem gfL_act_J583 {T : TZ} {l1 l3 l8 l9 l12 s1 s2 : Int32} (hw : wfT T) (h12 : p9 l12) : gd T (fL_act_J583 aO aL l1 l3 l8 l9 l12 s1 s2 T) := by
  unfold fL_act_J583
  exact (gd_if (gd_low h12.n0 (fun x25 => (gfL_act_J601 hw h12))) (gfL_act_J601 hw h12))
theorem gfL_act_J562 {T : TZ} {l1 l3 l6 l8 l9 l10 l12 : Int32} (hw : wfT T) (h12 : p9 l12) : gd T (fL_act_J562 aO aL l1 l3 l6 l8 l9 l10 l12 T) := by
  unfold fL_act_J562
  exact (gd_if (gd_low h12.n0 (fun x24 => (gfL_act_J583 hw h12))) (gfL_act_J583 hw h12))
theorem gfL_act_J623 {T : TZ} {l6 : Int32} (hw : wfT T) : gd T (fL_act_J623 aO aL l6 T) := by
  unfold fL_act_J623
  exact (gd_op hw (by decide))
theorem gfL_act_J660 {T : TZ} {l11 s1 s2 s3 : Int32} (hw : wfT T) : gd T (fL_act_J660 aO aL l11 s1 s2 s3 T) := by
  unfold fL_act_J660
  exact (gd_op hw (by decide))
theorem gfL_act_J630 {T : TZ} {l1 l3 l6 l8 l11 : Int32} (hw : wfT T) : gd T (fL_act_J630 aO aL l1 l3 l6 l8 l11 T) := by
  unfold fL_act_J630
  exact (gd_low (by decide) (fun x29 => (gd_if (gd_low (by decide) (fun x30 => (gfL_act_J660 hw))) (gfL_act_J660 hw))))
theorem gfL_act_J712 {T : TZ} {s1 s2 s3 : Int32} (hw : wfT T) : gd T (fL_act_J712 aO aL s1 s2 s3 T) := by
  unfold fL_act_J712
  exact (gd_op hw (by decide))
theorem gfL_act_J692 {T : TZ} {l1 l3 l10 s1 s2 : Int32} (hw : wfT T) : gd T (fL_act_J692 aO aL l1 l3 l10 s1 s2 T) := by
  unfold fL_act_J692
  exact (gd_if (gd_low (by decide) (fun x34 => (gfL_act_J712 hw))) (gfL_act_J712 hw))
theorem gfL_act_J673 {T : TZ} {l1 l3 l6 l10 : Int32} (hw : wfT T) : gd T (fL_act_J673 aO aL l1 l3 l6 l10 T) := by
  unfold fL_act_J673
  exact (gd_if (gd_low (by decide) (fun x33 => (gfL_act_J692 hw))) (gfL_act_J692 hw))
theorem gfL_act_J843 {T : TZ} {s1 s2 s3 s4 : Int32} (hw : wfT T) : gd T (fL_act_J843 aO aL s1 s2 s3 s4 T) := by
  unfold fL_act_J843
  exact (gd_op hw (by decide))
theorem gfL_act_J826 {T : TZ} {l1 l3 l9 s1 s2 s3 : Int32} (hw : wfT T) : gd T (fL_act_J826 aO aL l1 l3 l9 s1 s2 s3 T) := by
  unfold fL_act_J826
  exact (gd_if (gd_low (by decide) (fun x46 => (gfL_act_J843 hw))) (gfL_act_J843 hw))
theorem gfL_act_J809 {T : TZ} {l1 l2 l3 l8 l9 s1 s2 : Int32} (hw : wfT T) (h2 : p3 l2) : gd T (fL_act_J809 aO aL l1 l2 l3 l8 l9 s1 s2 T) := by
  unfold fL_act_J809
  exact (gd_if (gd_low h2.n0 (fun x45 => (gfL_act_J826 hw))) (gfL_act_J826 hw))
theorem gfL_act_J892 {T : TZ} {s1 s2 s3 s4 : Int32} (hw : wfT T) : gd T (fL_act_J892 aO aL s1 s2 s3 s4 T) := by
  unfold fL_act_J892
  exact (gd_op hw (by decide))
theorem gfL_act_J867 {T : TZ} {l1 l2 l3 l9 s1 s2 : Int32} (hw : wfT T) (h2 : p3 l2) : gd T (fL_act_J867 aO aL l1 l2 l3 l9 s1 s2 T) := by
  unfold fL_act_J867
  exact (gd_low h2.n0 (fun x49 => (gd_if (gd_low (by decide) (fun x50 => (gfL_act_J892 hw))) (gfL_act_J892 hw))))
theorem gfL_act_J931 {T : TZ} {s1 s2 s3 : Int32} (hw : wfT T) : gd T (fL_act_J931 aO aL s1 s2 s3 T) := by
  unfold fL_act_J931
  exact gd_lev
theorem gfL_act_J916 {T : TZ} {l1 s1 s2 : Int32} (hw : wfT T) : gd T (fL_act_J916 aO aL l1 s1 s2 T) := by
  unfold fL_act_J916
  exact (gd_if (gfL_act_J931 hw) (gfL_act_J931 hw))
theorem gfL_act_J956 {T : TZ} {s1 s2 : Int32} (hw : wfT T) : gd T (fL_act_J956 aO aL s1 s2 T) := by
  unfold fL_act_J956
  exact (gd_op hw (by decide))
theorem gfL_act_J222 {T : TZ} {l1 l2 l3 l4 l5 l6 l7 l8 l9 l10 s0 : Int32} (hw : wfT T) (h2 : p3 l2) : gd T (fL_act_J222 aO aL l1 l2 l3 l4 l5 l6 l7 l8 l9 l10 s0 T) := by
  unfold fL_act_J222
  exact (gd_low (by decide) (fun x10 => (gd_sw (gdL_c (gfL_act_J384 hw) (gdL_c (gfL_act_J384 hw) (gdL_c (gd_op hw (by decide)) (gdL_c (gd_op hw (by decide)) (gdL_c (gd_if (gd_low (by decide) (fun x14 => (gfL_act_J451 hw))) (gfL_act_J451 hw)) (gdL_c (gfL_act_J455 hw) (gdL_c (gfL_act_J455 hw) (gdL_c (gfL_act_J455 hw) (gdL_c (gfL_act_J470 hw h2) (gdL_c (gfL_act_J470 hw h2) (gdL_c (gd_op hw (by decide)) (gdL_c (gd_low (by decide) (fun x20 => (gd_if (gd_op hw (by decide)) (gd_op hw (by decide))))) (gdL_c (gfL_act_J555 hw) (gdL_c (gfL_act_J555 hw) (gdL_c (gfL_act_J562 hw h2.sq) (gdL_c (gfL_act_J562 hw h2.sq) (gdL_c (gfL_act_J562 hw h2.sq) (gdL_c (gfL_act_J562 hw h2.sq) (gdL_c (gfL_act_J562 hw h2.sq) (gdL_c (gfL_act_J623 hw) (gdL_c (gfL_act_J623 hw) (gdL_c (gfL_act_J630 hw) (gdL_c (gfL_act_J630 hw) (gdL_c (gd_op hw (by decide)) (gdL_c (gfL_act_J673 hw) (gdL_c (gfL_act_J673 hw) (gdL_c (gd_op hw (by decide)) (gdL_c (gd_op hw (by decide)) (gdL_c (gd_op hw (by decide)) (gdL_c (gd_low (by decide) (fun x39 => (gd_if (gd_op hw (by decide)) (gd_op hw (by decide))))) (gdL_c (gd_low (by decide) (fun x42 => (gd_op hw (by decide)))) (gdL_c (gd_if (gd_low h2.n0 (fun x44 => (gfL_act_J809 hw h2))) (gfL_act_J809 hw h2)) (gdL_c (gd_if (gd_low h2.n0 (fun x48 => (gfL_act_J867 hw h2))) (gfL_act_J867 hw h2)) (gdL_c (gd_if (gd_low (by decide) (fun x52 => (gfL_act_J916 hw))) (gfL_act_J916 hw)) gdL_n)))))))))))))))))))))))))))))))))) (gd_if (gd_low (by decide) (fun x54 => (gfL_act_J956 hw))) (gfL_act_J956 hw)))))
theorem gfL_act_J194 {T : TZ} {l1 l2 l3 l4 l5 l6 l7 l8 l9 s0 : Int32} (hw : wfT T) (h2 : p3 l2) : gd T (fL_act_J194 aO aL l1 l2 l3 l4 l5 l6 l7 l8 l9 s0 T) := by
  unfold fL_act_J194
  exact (gd_if (gd_low (by decide) (fun x9 => (gfL_act_J222 hw h2))) (gd_low (by decide) (fun x56 => (gfL_act_J222 hw h2))))
theorem gfL_act_J173 {T : TZ} {l1 l2 l3 l4 l5 l6 l7 l8 s0 : Int32} (hw : wfT T) (h2 : p3 l2) : gd T (fL_act_J173 aO aL l1 l2 l3 l4 l5 l6 l7 l8 s0 T) := by
  unfold fL_act_J173
  exact (gd_if (gd_low h2.n0 (fun x8 => (gfL_act_J194 hw h2))) (gfL_act_J194 hw h2))
theorem gfL_act_J145 {T : TZ} {l1 l2 l3 l4 l5 l6 l7 s0 : Int32} (hw : wfT T) (h2 : p3 l2) : gd T (fL_act_J145 aO aL l1 l2 l3 l4 l5 l6 l7 s0 T) := by
  unfold fL_act_J145
  exact (gd_if (gd_low (by decide) (fun x7 => (gfL_act_J173 hw h2))) (gd_low (by decide) (fun x57 => (gfL_act_J173 hw h2))))
theorem gfL_act_J117 {T : TZ} {l1 l2 l3 l4 l5 l6 s0 : Int32} (hw : wfT T) (h2 : p3 l2) : gd T (fL_act_J117 aO aL l1 l2 l3 l4 l5 l6 s0 T) := by
  unfold fL_act_J117
  exact (gd_if (gd_low (by decide) (fun x6 => (gfL_act_J145 hw h2))) (gd_low (by decide) (fun x58 => (gfL_act_J145 hw h2))))
theorem gfL_act_J96 {T : TZ} {l1 l2 l3 l4 l5 s0 : Int32} (hw : wfT T) (h2 : p3 l2) : gd T (fL_act_J96 aO aL l1 l2 l3 l4 l5 s0 T) := by
  unfold fL_act_J96
  exact (gd_if (gd_low (by decide) (fun x5 => (gfL_act_J117 hw h2))) (gfL_act_J117 hw h2))
theorem gfL_act_J70 {T : TZ} {l1 l2 l3 l4 s0 : Int32} (hw : wfT T) (h2 : p3 l2) : gd T (fL_act_J70 aO aL l1 l2 l3 l4 s0 T) := by
  unfold fL_act_J70
  exact (gd_if (gd_low (by decide) (fun x4 => (gfL_act_J96 hw h2))) (gd_low (by decide) (fun x59 => (gfL_act_J96 hw h2))))
theorem gfL_act_J42 {T : TZ} {l1 l2 l3 s0 : Int32} (hw : wfT T) (h2 : p3 l2) : gd T (fL_act_J42 aO aL l1 l2 l3 s0 T) := by
  unfold fL_act_J42
  exact (gd_if (gd_low (by decide) (fun x3 => (gfL_act_J70 hw h2))) (gd_low (by decide) (fun x60 => (gfL_act_J70 hw h2))))
theorem gfL_act_J17 {T : TZ} {l1 l2 s0 : Int32} (hw : wfT T) (h2 : p3 l2) : gd T (fL_act_J17 aO aL l1 l2 s0 T) := by
  unfold fL_act_J17
  exact (gd_if (gd_low (by decide) (fun x2 => (gfL_act_J42 hw h2))) (gd_low (by decide) (fun x61 => (gfL_act_J42 hw h2))))
theorem gfL_act {T : TZ} {a1 a2 : Int32} (hw : wfT T) (h2 : p3 a2) : gd T (fL_act aO aL a1 a2 T) := by
  unfold fL_act
  exact (gd_low (by decide) (fun x1 => (gd_if (gfL_act_J17 hw h2) (gfL_act_J17 hw h2))))
