/-! LAW CASE 20: the sums in the class -/
def zSm (S : ZS) (sm hd E ns : Nat) (H : Nat → Nat → Bool) : Prop := zOb S sm 3 [.ref hd, .int (ci E)] ∧ ns ≤ 40 ∧ E ≤ 120 ∧ ∃ F, zJA S hd 120 F ∧ ∀ e, e < E → F e = cj (msk ns (H e))
def pSm (sm hd : Nat) : Nat → Prop := fun b => b = sm ∨ b = hd
theorem zSm.get {S : ZS} {sm hd E ns e : Nat} {H : Nat → Nat → Bool} (h : zSm S sm hd E ns H) (he : e < E) : fX5_getLong hd (ci e) S = some (cj (msk ns (H e))) := by
  obtain ⟨h1, h2, h3, F, h4, h5⟩ := h
  rw [g_getJ h4 (by omega) (by omega), if_pos (by omega), h5 e he]
theorem zSm.put {S : ZS} {sm hd E ns e : Nat} {H : Nat → Nat → Bool} {x : Nat → Bool} (h : zSm S sm hd E ns H) (he : e < 120) : ∃ S1, fX5_putLong hd (ci e) (cj (msk ns x)) S = some S1 ∧ zSm S1 sm hd E ns (fun e' => if e' = e then x else H e') ∧ zFrm S S1 (pSm sm hd) := by
  obtain ⟨h1, h2, h3, F, h4, h5⟩ := h
  have hf : zFrm S (zwJ S hd 120 (va_up F e (cj (msk ns x)))) (fun b => b = hd) := zFrm.wJ
  refine ⟨_, g_putJ _ h4 he (by omega), ⟨hf.ob (ne_oj h1 h4) h1, h2, h3, _, zwJ_self, fun e' he' => ?_⟩, hf.wk (fun _ => Or.inr)⟩
  unfold va_up
  by_cases hee : e' = e
  · rw [if_pos hee]
    show _ = cj (msk ns (if e' = e then x else H e'))
    rw [if_pos hee]
  · rw [if_neg hee]
    show _ = cj (msk ns (if e' = e then x else H e'))
    rw [if_neg hee]; exact h5 e' he'
theorem zSm.cg {S : ZS} {sm hd E ns : Nat} {H H' : Nat → Nat → Bool} (h : zSm S sm hd E ns H) (e : ∀ o, o < E → ∀ t, t < ns → H o t = H' o t) : zSm S sm hd E ns H' := by
  obtain ⟨h1, h2, h3, F, h4, h5⟩ := h
  exact ⟨h1, h2, h3, F, h4, fun o ho => by rw [h5 o ho, msk_congr (e o ho)]⟩
theorem c_append2 {S : ZS} {sm hd E ns : Nat} {H : Nat → Nat → Bool} {x : Nat → Bool} (h : zSm S sm hd E ns H) (hE : E < 120) : ∃ S1, fX3_append sm (cj (msk ns x)) S = some S1 ∧ zSm S1 sm hd (E + 1) ns (fun e => if e = E then x else H e) ∧ zFrm S S1 (pSm sm hd) := by
  obtain ⟨S1, f1, f2, f3⟩ := zSm.put (x := x) h hE
  have h1 := h.1
  obtain ⟨g1, g2, g3, F, g4, g5⟩ := f2
  have hf : zFrm S1 (zwO S1 sm 3 [.ref hd, .int (ci (E + 1))]) (fun b => b = sm) := zFrm.wO
  refine ⟨zwO S1 sm 3 [.ref hd, .int (ci (E + 1))], ?_, ⟨zwO_self, g2, by omega, F, hf.ja (fun hh => ne_oj g1 g4 hh.symm) g4, fun e he => ?_⟩, f3.tr (hf.wk (fun _ => Or.inl))⟩
  · unfold fX3_append
    rw [zgR_ob h1 rfl, Option.bind_some, zgI_ob h1 rfl, Option.bind_some, f1, Option.bind_some, zgI_ob g1 rfl, Option.bind_some, cl_1, ci_add, zpF_ob _ g1 (by simp), Option.bind_some]
    rfl
  · by_cases heE : e = E
    · obtain ⟨_, _, _, F2, q4, q5⟩ := h
      subst heE
      have : F e = cj (msk ns x) := by
        have hp := f1
        rw [g_putJ _ q4 hE (by omega)] at hp
        have hS := Option.some.inj hp
        have g4' : zJA S1 hd 120 (va_up F2 e (cj (msk ns x))) := by rw [← hS]; exact zwJ_self
        have hh := (show S1.1 hd = _ from g4).symm.trans (show S1.1 hd = _ from g4')
        simp at hh
        rw [hh, va_up_self]
      rw [this]
      show _ = cj (msk ns (if e = e then x else H e))
      rw [if_pos rfl]
    · exact g5 e (by omega)
/-- the sets of a side -/
def HS (v : Nat → Nat → Nat → Nat) (s : Nat) : Nat → Nat → Bool := fun e t => if s = 2 then nzd v e 2 t else nzd v t s e
def eS (a b d k s : Nat) : Nat := if s = 2 then k else sz3 a b d s
def nS (d k s : Nat) : Nat := if s = 2 then d else k
theorem zWy.sm {S S1 : ZS} {w c n t p a b d sq k sm hd E ns : Nat} {g : Nat → Nat} {v : Nat → Nat → Nat → Nat} {H : Nat → Nat → Bool} (h : zWy S w c n t p a b d sq k g v) (h2 : zSm S sm hd E ns H) (hf : zFrm S S1 (pSm sm hd)) : zWy S1 w c n t p a b d sq k g v := by
  have h' := h
  obtain ⟨_, _, _, hw, hc, _, W, hW, _⟩ := h'
  obtain ⟨h3, _, _, F, h4, _⟩ := h2
  exact h.kp (hf.2 _ (fun hh => hh.elim (ne_oo hw h3 (by omega)) (ne_oj hw h4))) (hf.2 _ (fun hh => hh.elim (ne_oo hc.1 h3 (by omega)) (ne_oj hc.1 h4))) (hf.2 _ (fun hh => hh.elim (fun q => ne_oi h3 hc.2 q.symm) (ne_ij hc.2 h4))) (hf.2 _ (fun hh => hh.elim (fun q => ne_oi h3 hW q.symm) (ne_ij hW h4)))
theorem c_clear {S : ZS} {sm hd ns : Nat} {c : Int32} {F : Nat → Int64} {H : Nat → Nat → Bool} (h : zOb S sm 3 [.ref hd, .int c]) (hF : zJA S hd 120 F) (hn : ns ≤ 40) : ∃ S1, fX3_clear sm S = some S1 ∧ zSm S1 sm hd 0 ns H ∧ zFrm S S1 (pSm sm hd) := by
  have hf : zFrm S (zwO S sm 3 [.ref hd, .int (ci 0)]) (fun b => b = sm) := zFrm.wO
  refine ⟨zwO S sm 3 [.ref hd, .int (ci 0)], ?_, ⟨zwO_self, hn, by omega, F, hf.ja (fun hh => ne_oj h hF hh.symm) hF, fun e he => absurd he (Nat.not_lt_zero _)⟩, hf.wk (fun _ => Or.inl)⟩
  unfold fX3_clear
  rw [zpF_ob _ h (by simp), Option.bind_some]
  rfl
theorem c_tellSums {S : ZS} {w c n t p a b d sq k sm hd s : Nat} {g : Nat → Nat} {v : Nat → Nat → Nat → Nat} {x : Int32} {F : Nat → Int64} (h : zWy S w c n t p a b d sq k g v) (hs : s < 3) (ho : zOb S sm 3 [.ref hd, .int x]) (hF : zJA S hd 120 F) : ∃ S1, fX4_tellSums w (ci s) sm S = some S1 ∧ zSm S1 sm hd (eS a b d k s) (nS d k s) (HS v s) ∧ zWy S1 w c n t p a b d sq k g v ∧ zFrm S S1 (pSm sm hd) := by
  have hk := h.kk
  have hsz := h.2.1
  have hb := sz3_b hsz (s := s)
  unfold szOK at hsz
  have hns : nS d k s ≤ 40 := by unfold nS; split <;> omega
  obtain ⟨S0, f1, f2, f3⟩ := c_clear (H := HS v s) ho hF hns
  have h0 : zWy S0 w c n t p a b d sq k g v := by
    have h' := h
    obtain ⟨_, _, _, hw, hc, _, W, hW, _⟩ := h'
    exact h.kp (f3.2 _ (fun hh => hh.elim (ne_oo hw ho (by omega)) (ne_oj hw hF))) (f3.2 _ (fun hh => hh.elim (ne_oo hc.1 ho (by omega)) (ne_oj hc.1 hF))) (f3.2 _ (fun hh => hh.elim (fun q => ne_oi ho hc.2 q.symm) (ne_ij hc.2 hF))) (f3.2 _ (fun hh => hh.elim (fun q => ne_oi ho hW q.symm) (ne_ij hW hF)))
  by_cases h2 : s = 2
  · subst h2
    have := ziter_for (body := fX4_tellSums_B11 w (ci 2) sm) (fun q S' => (zSm S' sm hd q d (HS v 2) ∧ zWy S' w c n t p a b d sq k g v) ∧ zFrm S0 S' (pSm sm hd)) (fun r => (zSm r sm hd k d (HS v 2) ∧ zWy r w c n t p a b d sq k g v) ∧ zFrm S0 r (pSm sm hd)) k ?_ ?_ k 0 zF S0 (by omega) (by rw [zF_eq]; omega) ⟨⟨f2, h0⟩, zFrm.rf⟩
    · obtain ⟨S1, q1, ⟨q2, q4⟩, q3⟩ := this
      refine ⟨S1, ?_, q2, q4, f3.tr q3⟩
      unfold fX4_tellSums
      rw [zcl_ob ho, f1, Option.bind_some, if_pos (show ci 2 = 2 from rfl), cl_0]
      exact q1
    · rintro q S' hq ⟨⟨y, hw⟩, hf⟩
      have fp := g_filledPlaces (s := 2) hw hq (by omega)
      obtain ⟨S1, q1, q2, q3⟩ := c_append2 (x := nzd v q 2) y (by omega)
      refine ⟨S1, ?_, ⟨q2.cg (fun o ho t _ => ?_), hw.sm y q3⟩, hf.tr q3⟩
      · unfold fX4_tellSums_B11
        simp only []
        rw [zgI_ob hw.wa rfl, Option.bind_some, if_neg (by rw [ci_le (by omega) (by omega)]; omega), zcl_ob hw.wa, fp, Option.bind_some, zcl_ob y.1]
        show Option.bind (fX3_append sm (cj (msk d (nzd v q 2))) S') _ = _
        rw [q1, Option.bind_some, cl_1, ci_add]
      · show (if o = q then nzd v q 2 else HS v 2 o) t = HS v 2 o t
        by_cases hoq : o = q
        · rw [if_pos hoq, hoq]; rfl
        · rw [if_neg hoq]
    · rintro S' ⟨⟨y, hw⟩, hf⟩
      refine ⟨S', ?_, ⟨y, hw⟩, hf⟩
      unfold fX4_tellSums_B11 fX4_tellSums_J68
      simp only []
      rw [zgI_ob hw.wa rfl, Option.bind_some, if_pos (by rw [ci_le (by omega) (by omega)]; omega), zex_some]
  · have e1 : eS a b d k s = sz3 a b d s := if_neg h2
    have e2 : nS d k s = k := if_neg h2
    rw [e2] at f2
    rw [e1, e2]
    have := ziter_for (body := fX4_tellSums_B40 w (ci s) sm) (fun q S' => (zSm S' sm hd q k (HS v s) ∧ zWy S' w c n t p a b d sq k g v) ∧ zFrm S0 S' (pSm sm hd)) (fun r => (zSm r sm hd (sz3 a b d s) k (HS v s) ∧ zWy r w c n t p a b d sq k g v) ∧ zFrm S0 r (pSm sm hd)) (sz3 a b d s) ?_ ?_ (sz3 a b d s) 0 zF S0 (by omega) (by rw [zF_eq]; omega) ⟨⟨f2, h0⟩, zFrm.rf⟩
    · obtain ⟨S1, q1, ⟨q2, q4⟩, q3⟩ := this
      refine ⟨S1, ?_, q2, q4, f3.tr q3⟩
      unfold fX4_tellSums
      rw [zcl_ob ho, f1, Option.bind_some, if_neg (show ¬ ci s = 2 by rw [cl_2, ci_eq (by omega) (by omega)]; exact h2), cl_0]
      exact q1
    · rintro q S' hq ⟨⟨y, hw⟩, hf⟩
      have fp := g_filledProducts hw hs hq
      obtain ⟨S1, q1, q2, q3⟩ := c_append2 (x := fun t => nzd v t s q) y (by omega)
      refine ⟨S1, ?_, ⟨q2.cg (fun o ho t _ => ?_), hw.sm y q3⟩, hf.tr q3⟩
      · unfold fX4_tellSums_B40
        simp only []
        rw [zgR_ob hw.wa rfl, Option.bind_some, zcl_cu hw.2.2.2.2.1, g_sizeOf hw.2.2.2.2.1 hs, Option.bind_some, if_neg (by rw [ci_le (by omega) (by omega)]; omega), zcl_ob hw.wa, fp, Option.bind_some, zcl_ob y.1, q1, Option.bind_some, cl_1, ci_add]
      · show (if o = q then (fun t => nzd v t s q) else HS v s o) t = HS v s o t
        by_cases hoq : o = q
        · rw [if_pos hoq, hoq]; unfold HS; rw [if_neg h2]
        · rw [if_neg hoq]
    · rintro S' ⟨⟨y, hw⟩, hf⟩
      refine ⟨S', ?_, ⟨y, hw⟩, hf⟩
      unfold fX4_tellSums_B40 fX4_tellSums_J68
      simp only []
      rw [zgR_ob hw.wa rfl, Option.bind_some, zcl_cu hw.2.2.2.2.1, g_sizeOf hw.2.2.2.2.1 hs, Option.bind_some, if_pos (by rw [ci_le (by omega) (by omega)]; omega), zex_some]
theorem c_countAdd {S : ZS} {sm hd E ns : Nat} {H : Nat → Nat → Bool} (h : zSm S sm hd E ns H) : fX3_countAdditions sm S = some (ci (adO ns E H)) := by
  have hn := h.2.1
  have hE := h.2.2.1
  have hadd := adO_eq (ns := ns) (E := E) (H := H)
  unfold fX3_countAdditions
  have e0 : cj (msk ns (anyE H 0)) = cj 0 := by rw [show anyE H 0 = fun _ => false from rfl, msk_0]
  show ziter _ zF (ci (TT ns 0 H), cj 0, ci 0) = _
  rw [← e0]
  refine ziter_seq (fun e => (ci (TT ns e H), cj (msk ns (anyE H e)), ci e)) _ E zF (by rw [zF_eq]; omega) (fun e he => ?_) ?_
  · unfold fX3_countAdditions_B7
    simp only []
    rw [zgI_ob h.1 rfl, Option.bind_some, if_neg (by rw [ci_le (by omega) (by omega)]; omega), zgR_ob h.1 rfl, Option.bind_some, h.get he, Option.bind_some, g_bits hn, Option.bind_some, ci_add, cj_or, msk_or, cl_1, ci_add]
    rfl
  · unfold fX3_countAdditions_B7
    simp only []
    rw [zgI_ob h.1 rfl, Option.bind_some, if_pos (by rw [ci_le (by omega) (by omega)]; omega), g_bits hn, Option.bind_some, ci_sub (by omega), zex_some]
    congr 3
    omega
