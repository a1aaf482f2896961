/-! LAW CASE 20: the sums in the model -/
theorem zMo.s16 {S : ZS} {m : Nat} {R : Nat → Nat} {X : Nat → Int32} {A : Nat → Nat → Int32} (h : zMo S m R X A) (f : Nat → Int32) : zMo (zwZ S (R 16) 5120 f) m R X (mS A 16 f) ∧ zFrm S (zwZ S (R 16) 5120 f) (fun b => b = R 16) := by
  have hf : zFrm S (zwZ S (R 16) 5120 f) (fun b => b = R 16) := zFrm.wZ
  refine ⟨⟨hf.ob (ne_oz h.1 h.2.2.1) h.1, fun i hi => ?_, by rw [mS_self]; exact zwZ_self, h.2.2.2⟩, hf⟩
  rw [mS_ne (show i ≠ 16 by unfold isA at hi; omega)]
  exact hf.ia (fun hh => ne_iz (h.2.1 i hi) h.2.2.1 hh) (h.2.1 i hi)
theorem zMo.r16 {S : ZS} {m x : Nat} {R : Nat → Nat} {X : Nat → Int32} {A : Nat → Nat → Int32} (h : zMo S m R X A) (hx : x < 5120) : zaI S (R 16) 2 (ci x) = some (A 16 x) := zaZ_ci h.2.2.1 hx (by omega)
theorem zMo.w16 {S : ZS} {m x : Nat} {R : Nat → Nat} {X : Nat → Int32} {A : Nat → Nat → Int32} (h : zMo S m R X A) (hx : x < 5120) (v : Int32) : zsI S (R 16) 2 (ci x) v = some (zwZ S (R 16) 5120 (va_up (A 16) x v)) := zsZ_ci v h.2.2.1 hx (by omega)
theorem znar_b (x : Bool) : znar (bI x) = bI x := by cases x <;> rfl
/-- but for the sets nothing is otherwise -/
def mT6 (X X' : Nat → Int32) (A A' : Nat → Nat → Int32) : Prop := (∀ i, i ≠ 17 → i ≠ 18 → X' i = X i) ∧ ∀ j, j ≠ 16 → A' j = A j
theorem mT6.rf {X : Nat → Int32} {A : Nat → Nat → Int32} : mT6 X X A A := ⟨fun _ _ _ => rfl, fun _ _ => rfl⟩
theorem mT6.tr {X Y Z : Nat → Int32} {A B C : Nat → Nat → Int32} (h1 : mT6 X Y A B) (h2 : mT6 Y Z B C) : mT6 X Z A C := ⟨fun i a b => (h2.1 i a b).trans (h1.1 i a b), fun j a => (h2.2 j a).trans (h1.2 j a)⟩
theorem mWy.t6 {X X' : Nat → Int32} {A A' : Nat → Nat → Int32} {w p a b d k : Nat} {v : Nat → Nat → Nat → Nat} (y : mWy X A w p a b d k v) (h : mT6 X X' A A') : mWy X' A' w p a b d k v := by
  obtain ⟨h1, h2, h3, h4, h5, h6, h7, h8, h9⟩ := y
  exact ⟨h1, h2, h3, h4, (h.1 1 (by omega) (by omega)).trans h5, fun s hs => by rw [h.2 7 (by omega)]; exact h6 s hs, by rw [h.2 10 (by omega)]; exact h7, h8, fun q hq s hs j hj => by rw [h.2 11 (by omega)]; exact h9 q hq s hs j hj⟩
theorem zRl.t6 {p cc wc : Nat} {CA CG WA WG : Nat → Nat → Nat} {WV : Nat → Nat → Nat → Nat → Nat} {X X' : Nat → Int32} {A A' : Nat → Nat → Int32} (h : zRl p cc wc CA CG WA WG WV X A) (t : mT6 X X' A A') : zRl p cc wc CA CG WA WG WV X' A' := by
  obtain ⟨a1, a2, a3, a4, a5⟩ := h
  refine ⟨(t.1 1 (by omega) (by omega)).trans a1, (t.1 2 (by omega) (by omega)).trans a2, (t.1 6 (by omega) (by omega)).trans a3, fun j hj => ?_, fun j hj => ?_⟩
  · obtain ⟨b1, b2, b3⟩ := a4 j hj
    exact ⟨fun s hs => by rw [t.2 3 (by omega)]; exact b1 s hs, fun x hx => by rw [t.2 4 (by omega)]; exact b2 x hx, by rw [t.2 5 (by omega)]; exact b3⟩
  · obtain ⟨b1, b2, b3⟩ := a5 j hj
    exact ⟨b1.t6 t, fun x hx => by rw [t.2 8 (by omega)]; exact b2 x hx, by rw [t.2 9 (by omega)]; exact b3⟩
/-- the sets in the model: E elements, ns sets -/
def mSm (X : Nat → Int32) (A : Nat → Nat → Int32) (E ns : Nat) (H : Nat → Nat → Bool) : Prop := X 17 = ci ns ∧ X 18 = ci E ∧ ns ≤ 40 ∧ E ≤ 128 ∧ ∀ t, t < ns → ∀ e, e < 128 → A 16 (128 * t + e) = bI (decide (e < E) && H e t)
theorem mSm.rd {S : ZS} {m E ns t e : Nat} {R : Nat → Nat} {X : Nat → Int32} {A : Nat → Nat → Int32} {H : Nat → Nat → Bool} (y : mSm X A E ns H) (h : zMo S m R X A) (ht : t < ns) (he : e < 128) : zaI S (R 16) 2 ((128 : Int32) * ci t + ci e) = some (bI (decide (e < E) && H e t)) := by
  have := y.2.2.1
  rw [cl_128, ci_mul, ci_add, h.r16 (by omega), y.2.2.2.2 t ht e he]
theorem mSm.rdE {S : ZS} {m E ns t e : Nat} {R : Nat → Nat} {X : Nat → Int32} {A : Nat → Nat → Int32} {H : Nat → Nat → Bool} (y : mSm X A E ns H) (h : zMo S m R X A) (ht : t < ns) (he : e < E) : zaI S (R 16) 2 ((128 : Int32) * ci t + ci e) = some (bI (H e t)) := by
  have := y.2.2.2.1
  rw [y.rd h ht (by omega), decide_eq_true he, Bool.true_and]
theorem bI_ne {x : Bool} : (bI x = 0) = (x = false) := propext (bI_0 x)
theorem m_additionsOf {S : ZS} {m E ns : Nat} {R : Nat → Nat} {X : Nat → Int32} {A : Nat → Nat → Int32} {H : Nat → Nat → Bool} (h : zMo S m R X A) (y : mSm X A E ns H) : fX6_additionsOf m S = some (ci (adO ns E H)) := by
  have hns := y.2.2.1
  have hE := y.2.2.2.1
  unfold fX6_additionsOf
  refine ziter_seq (fun t => (ci (sm t (fun t => nE H E t - 1)), ci t)) _ ns zF (by rw [zF_eq]; omega) (fun t ht => ?_) ?_
  · unfold fX6_additionsOf_B4
    simp only []
    rw [zgI_ob h.1 rfl, Option.bind_some, y.1, if_neg (by rw [ci_le (by omega) (by omega)]; omega)]
    refine ziter_seq (fun e => (ci (nE H e t), ci e)) _ E zF (by rw [zF_eq]; omega) (fun e he => ?_) ?_
    · have e1 : nE H (e + 1) t = nE H e t + bn (H e t) := rfl
      unfold fX6_additionsOf_B17 fX6_additionsOf_J48
      simp only []
      rw [zgI_ob h.1 rfl, Option.bind_some, y.2.1, if_neg (by rw [ci_le (by omega) (by omega)]; omega), zgR_ob h.1 rfl, Option.bind_some, y.rdE h ht he, Option.bind_some, e1]
      cases hh : H e t with
      | false => rw [if_pos bI_f, cl_0, cl_1, ci_add, ci_add]; rfl
      | true => rw [if_neg (show ¬ bI true = 0 by decide), cl_1, ci_add, ci_add]; rfl
    · have hb : nE H E t ≤ E := by
        have := sm_le (n := E) (b := 1) (f := fun e => bn (H e t)) (fun e _ => bn_le _)
        rw [Nat.mul_one] at this
        exact this
      have e2 : sm (t + 1) (fun t => nE H E t - 1) = sm t (fun t => nE H E t - 1) + (nE H E t - 1) := rfl
      unfold fX6_additionsOf_B17 fX6_additionsOf_J69
      simp only []
      rw [zgI_ob h.1 rfl, Option.bind_some, y.2.1, if_pos (by rw [ci_le (by omega) (by omega)]; omega), e2]
      by_cases h1 : nE H E t ≤ 1
      · rw [if_pos (by rw [cl_1, ci_le (by omega) (by omega)]; omega), cl_0, cl_1, ci_add, ci_add, zex_some, show nE H E t - 1 = 0 by omega]
      · rw [if_neg (by rw [cl_1, ci_le (by omega) (by omega)]; omega), cl_1, ci_sub (by omega), ci_add, ci_add, zex_some]
  · unfold fX6_additionsOf_B4
    simp only []
    rw [zgI_ob h.1 rfl, Option.bind_some, y.1, if_pos (by rw [ci_le (by omega) (by omega)]; omega), zex_some]
    rfl
theorem m_common {S : ZS} {m E ns o r : Nat} {R : Nat → Nat} {X : Nat → Int32} {A : Nat → Nat → Int32} {H : Nat → Nat → Bool} (h : zMo S m R X A) (y : mSm X A E ns H) (ho : o < E) (hr : r < E) : fX6_common m (ci o) (ci r) S = some (ci (cmF ns H o r)) := by
  have hns := y.2.2.1
  have hE := y.2.2.2.1
  unfold fX6_common
  refine ziter_seq (fun t => (ci (sm t (fun t => bn (H o t && H r t))), ci t)) _ ns zF (by rw [zF_eq]; omega) (fun t ht => ?_) ?_
  · have e1 : sm (t + 1) (fun t => bn (H o t && H r t)) = sm t (fun t => bn (H o t && H r t)) + bn (H o t && H r t) := rfl
    unfold fX6_common_B5 fX6_common_J51 fX6_common_J52
    simp only []
    rw [zgI_ob h.1 rfl, Option.bind_some, y.1, if_neg (by rw [ci_le (by omega) (by omega)]; omega), zgR_ob h.1 rfl, Option.bind_some, y.rdE h ht ho, Option.bind_some, e1]
    cases h1 : H o t with
    | false => rw [if_pos bI_f, cl_0, cl_1, ci_add, ci_add]; rfl
    | true =>
      rw [if_neg (show ¬ bI true = 0 by decide), Option.bind_some, y.rdE h ht hr, Option.bind_some]
      cases h2 : H r t with
      | false => rw [if_pos bI_f, cl_0, cl_1, ci_add, ci_add]; rfl
      | true => rw [if_neg (show ¬ bI true = 0 by decide), cl_1, ci_add, ci_add]; rfl
  · unfold fX6_common_B5
    simp only []
    rw [zgI_ob h.1 rfl, Option.bind_some, y.1, if_pos (by rw [ci_le (by omega) (by omega)]; omega), zex_some]
    rfl
theorem m_inn {S : ZS} {m E ns n : Nat} {R : Nat → Nat} {X : Nat → Int32} {A : Nat → Nat → Int32} {H : Nat → Nat → Bool} {t : Nat × Nat × Nat} (h : zMo S m R X A) (y : mSm X A E ns H) (hn : n < E) (ht : gdT ns H E t) : ziter (fX6_shares_B24 m (ci n) S) zF (ci t.1, tF t, tG t, ci (n + 1)) = some (.inl (ci (inn ns H n (E - (n + 1)) t).1, tF (inn ns H n (E - (n + 1)) t), tG (inn ns H n (E - (n + 1)) t), ci (n + 1))) := by
  have hns := y.2.2.1
  have hE := y.2.2.2.1
  refine ziter_seq (fun j => (ci (inn ns H n j t).1, tF (inn ns H n j t), tG (inn ns H n j t), ci (n + 1 + j))) _ (E - (n + 1)) zF (by rw [zF_eq]; omega) (fun j hj => ?_) ?_
  · have hg := inn_gd (n := n) ht j (by omega)
    have hg1 := hg.2.1
    have hpc := pcF_le (ns := ns) (H := H) (o := n)
    have hcm := cmF_le (ns := ns) (H := H) (o := n) (r := n + 1 + j)
    unfold fX6_shares_B24 fX6_shares_J58
    simp only []
    rw [zgI_ob h.1 rfl, Option.bind_some, y.2.1, if_neg (by rw [ci_le (by omega) (by omega)]; omega), h.cl, m_common h y hn (by omega), Option.bind_some]
    show _ = some (Sum.inl (ci (stp ns H n (n + 1 + j) (inn ns H n j t)).1, tF (stp ns H n (n + 1 + j) (inn ns H n j t)), tG (stp ns H n (n + 1 + j) (inn ns H n j t)), ci (n + 1 + (j + 1))))
    by_cases hc : (inn ns H n j t).1 < cmF ns H n (n + 1 + j)
    · obtain ⟨q1, q2, q3⟩ := stp_F hg.1 hc
      rw [if_neg (by rw [ci_le (by omega) (by omega)]; omega), q1, q2, q3, cl_1, ci_add]
      rfl
    · rw [if_pos (by rw [ci_le (by omega) (by omega)]; omega), cl_1, ci_add]
      unfold stp
      rw [if_neg hc]
      rfl
  · unfold fX6_shares_B24
    simp only []
    rw [zgI_ob h.1 rfl, Option.bind_some, y.2.1, if_pos (by rw [ci_le (by omega) (by omega)]; omega), cl_1, ci_add, zex_some]
