-- 86.share.lean.txt
/-! LAW CASE 20: shared pairs, the sets -/
def cmF (ns : Nat) (H : Nat → Nat → Bool) (o r : Nat) : Nat := sm ns (fun t => bn (H o t && H r t))
def pcF (ns : Nat) (H : Nat → Nat → Bool) (o : Nat) : Nat := sm ns (fun t => bn (H o t))
theorem sm_mono {n : Nat} {f g : Nat → Nat} (h : ∀ k, k < n → f k ≤ g k) : sm n f ≤ sm n g := by
  induction n with
  | zero => exact Nat.le_refl 0
  | succ n ih =>
    have h1 := ih (fun k hk => h k (by omega))
    have h2 := h n (by omega)
    show sm n f + f n ≤ sm n g + g n
    omega
theorem sm_single {n f c : Nat} (hf : f < n) : sm n (fun e => if e = f then c else 0) = c := by
  induction n with
  | zero => omega
  | succ n ih =>
    show sm n (fun e => if e = f then c else 0) + (if n = f then c else 0) = c
    by_cases h : n = f
    · rw [if_pos h, sm_zero (fun k hk => if_neg (by omega)), Nat.zero_add]
    · rw [if_neg h, ih (by omega), Nat.add_zero]
theorem sm_one {n e : Nat} {f : Nat → Nat} (he : e < n) : f e ≤ sm n f := by
  induction n with
  | zero => omega
  | succ n ih =>
    show f e ≤ sm n f + f n
    by_cases h : e = n
    · rw [h]; omega
    · have := ih (by omega); omega
theorem cmF_le {ns : Nat} {H : Nat → Nat → Bool} {o r : Nat} : cmF ns H o r ≤ pcF ns H o := sm_mono (fun t _ => by
  cases H o t <;> cases H r t <;> decide)
theorem pcF_le {ns : Nat} {H : Nat → Nat → Bool} {o : Nat} : pcF ns H o ≤ ns := by
  have := sm_le (n := ns) (b := 1) (f := fun t => bn (H o t)) (fun t _ => bn_le _)
  rw [Nat.mul_one] at this
  exact this
def stp (ns : Nat) (H : Nat → Nat → Bool) (n o : Nat) (t : Nat × Nat × Nat) : Nat × Nat × Nat := if t.1 < cmF ns H n o then (cmF ns H n o, n, o) else t
def inn (ns : Nat) (H : Nat → Nat → Bool) (n : Nat) : Nat → Nat × Nat × Nat → Nat × Nat × Nat
  | 0, t => t
  | j + 1, t => stp ns H n (n + 1 + j) (inn ns H n j t)
def out (ns : Nat) (H : Nat → Nat → Bool) (E : Nat) : Nat → Nat × Nat × Nat
  | 0 => (1, 0, 0)
  | i + 1 => inn ns H i (E - (i + 1)) (out ns H E i)
def bst (ns : Nat) (H : Nat → Nat → Bool) (E : Nat) : Nat × Nat × Nat := out ns H E E
def gdT (ns : Nat) (H : Nat → Nat → Bool) (E : Nat) (t : Nat × Nat × Nat) : Prop := 1 ≤ t.1 ∧ t.1 ≤ 1 + ns ∧ t.2.1 ≤ E ∧ t.2.2 ≤ E ∧ (1 < t.1 → t.2.1 < t.2.2 ∧ t.2.2 < E ∧ t.1 = cmF ns H t.2.1 t.2.2)
theorem stp_gd {ns E n o : Nat} {H : Nat → Nat → Bool} {t : Nat × Nat × Nat} (h : gdT ns H E t) (hn : n < o) (ho : o < E) : gdT ns H E (stp ns H n o t) := by
  have h1 := cmF_le (ns := ns) (H := H) (o := n) (r := o)
  have h2 := pcF_le (ns := ns) (H := H) (o := n)
  unfold stp
  by_cases hh : t.1 < cmF ns H n o
  · rw [if_pos hh]
    have := h.1
    exact ⟨by show 1 ≤ cmF ns H n o; omega, by show cmF ns H n o ≤ _; omega, by show n ≤ E; omega, by show o ≤ E; omega, fun _ => ⟨hn, ho, rfl⟩⟩
  · rw [if_neg hh]; exact h
theorem inn_gd {ns E n : Nat} {H : Nat → Nat → Bool} {t : Nat × Nat × Nat} (h : gdT ns H E t) : ∀ j, n + 1 + j ≤ E → gdT ns H E (inn ns H n j t) := by
  intro j
  induction j with
  | zero => intro _; exact h
  | succ j ih => intro hj; exact stp_gd (ih (by omega)) (by omega) (by omega)
theorem out_gd {ns E : Nat} {H : Nat → Nat → Bool} : ∀ i, i ≤ E → gdT ns H E (out ns H E i) := by
  intro i
  induction i with
  | zero => intro _; exact ⟨Nat.le_refl 1, by show 1 ≤ 1 + ns; omega, Nat.zero_le _, Nat.zero_le _, fun hh => absurd hh (show ¬ (1 : Nat) < 1 by decide)⟩
  | succ i ih => intro hi; exact inn_gd (ih (by omega)) _ (by omega)
theorem bst_gd {ns E : Nat} {H : Nat → Nat → Bool} : gdT ns H E (bst ns H E) := out_gd E (Nat.le_refl E)
theorem inn_prune {ns n j : Nat} {H : Nat → Nat → Bool} {t : Nat × Nat × Nat} (h : pcF ns H n ≤ (inn ns H n j t).1) : ∀ m, inn ns H n (j + m) t = inn ns H n j t := by
  intro m
  induction m with
  | zero => rfl
  | succ m ih =>
    show stp ns H n (n + 1 + (j + m)) (inn ns H n (j + m) t) = _
    rw [ih]
    unfold stp
    have := cmF_le (ns := ns) (H := H) (o := n) (r := n + 1 + (j + m))
    rw [if_neg (by omega)]
def shH (H : Nat → Nat → Bool) (E f g : Nat) : Nat → Nat → Bool := fun e t => if e = f then (H f t && !(H f t && H g t)) else if e = g then (H g t && !(H f t && H g t)) else if e = E then (H f t && H g t) else H e t
def shl (ns : Nat) : Nat → Nat → (Nat → Nat → Bool) → Nat × Nat × (Nat → Nat → Bool)
  | 0, E, H => (0, E, H)
  | n + 1, E, H => if 1 < (bst ns H E).1 then ((shl ns n (E + 1) (shH H E (bst ns H E).2.1 (bst ns H E).2.2)).1 + 1, (shl ns n (E + 1) (shH H E (bst ns H E).2.1 (bst ns H E).2.2)).2) else (0, E, H)
def TT (ns E : Nat) (H : Nat → Nat → Bool) : Nat := sm E (fun e => pcF ns H e)
theorem TT_sh {ns E f g : Nat} {H : Nat → Nat → Bool} (hf : f < g) (hg : g < E) : TT ns (E + 1) (shH H E f g) + cmF ns H f g = TT ns E H := by
  have eE : pcF ns (shH H E f g) E = cmF ns H f g := sm_congr (fun t _ => by
    unfold shH
    rw [if_neg (by omega), if_neg (by omega), if_pos rfl])
  have ef : pcF ns H f = pcF ns (shH H E f g) f + cmF ns H f g := by
    unfold pcF cmF
    rw [← sm_add]
    refine sm_congr (fun t _ => ?_)
    unfold shH
    rw [if_pos rfl]
    cases H f t <;> cases H g t <;> rfl
  have eg : pcF ns H g = pcF ns (shH H E f g) g + cmF ns H f g := by
    unfold pcF cmF
    rw [← sm_add]
    refine sm_congr (fun t _ => ?_)
    unfold shH
    rw [if_neg (by omega), if_pos rfl]
    cases H f t <;> cases H g t <;> rfl
  have eo : ∀ e, e < E → pcF ns H e = (pcF ns (shH H E f g) e + (if e = f then cmF ns H f g else 0)) + (if e = g then cmF ns H f g else 0) := fun e he => by
    by_cases h1 : e = f
    · rw [if_pos h1, if_neg (by omega), h1, Nat.add_zero]; exact ef
    · rw [if_neg h1, Nat.add_zero]
      by_cases h2 : e = g
      · rw [if_pos h2, h2]; exact eg
      · rw [if_neg h2, Nat.add_zero]
        refine sm_congr (fun t _ => ?_)
        unfold shH
        rw [if_neg h1, if_neg h2, if_neg (by omega)]
  show sm E (fun e => pcF ns (shH H E f g) e) + pcF ns (shH H E f g) E + cmF ns H f g = sm E (fun e => pcF ns H e)
  rw [sm_congr (g := fun e => (pcF ns (shH H E f g) e + (if e = f then cmF ns H f g else 0)) + (if e = g then cmF ns H f g else 0)) eo, sm_add, sm_add, sm_single (by omega), sm_single hg, eE]
theorem shl_end {ns : Nat} : ∀ (n E : Nat) (H : Nat → Nat → Bool), TT ns E H ≤ 2 * n → ¬ 1 < (bst ns (shl ns n E H).2.2 (shl ns n E H).2.1).1 := by
  intro n
  induction n with
  | zero =>
    intro E H hT hb
    have hb' : 1 < (bst ns H E).1 := hb
    have hg := bst_gd (ns := ns) (E := E) (H := H)
    obtain ⟨h1, h2, h3⟩ := hg.2.2.2.2 hb'
    have h4 := cmF_le (ns := ns) (H := H) (o := (bst ns H E).2.1) (r := (bst ns H E).2.2)
    have h5 := sm_one (n := E) (e := (bst ns H E).2.1) (f := fun e => pcF ns H e) (by omega)
    have h6 : pcF ns H (bst ns H E).2.1 ≤ TT ns E H := h5
    omega
  | succ n ih =>
    intro E H hT
    by_cases hb : 1 < (bst ns H E).1
    · have hg := bst_gd (ns := ns) (E := E) (H := H)
      obtain ⟨h1, h2, h3⟩ := hg.2.2.2.2 hb
      have h4 := TT_sh (ns := ns) (H := H) h1 h2
      have := ih (E + 1) (shH H E (bst ns H E).2.1 (bst ns H E).2.2) (by omega)
      unfold shl
      rw [if_pos hb]
      exact this
    · unfold shl
      rw [if_neg hb]
      exact hb
theorem shl_b {ns : Nat} : ∀ (n E : Nat) (H : Nat → Nat → Bool), (shl ns n E H).1 ≤ n ∧ (shl ns n E H).2.1 = E + (shl ns n E H).1 := by
  intro n
  induction n with
  | zero => intro E H; exact ⟨Nat.le_refl 0, rfl⟩
  | succ n ih =>
    intro E H
    by_cases hb : 1 < (bst ns H E).1
    · have := ih (E + 1) (shH H E (bst ns H E).2.1 (bst ns H E).2.2)
      unfold shl
      rw [if_pos hb]
      show (shl ns n (E + 1) _).1 + 1 ≤ n + 1 ∧ (shl ns n (E + 1) _).2.1 = E + ((shl ns n (E + 1) _).1 + 1)
      omega
    · unfold shl
      rw [if_neg hb]
      exact ⟨Nat.zero_le _, rfl⟩
theorem TT_le {ns E : Nat} {H : Nat → Nat → Bool} : TT ns E H ≤ E * ns := sm_le (fun _ _ => pcF_le)
/-- the additions of the sets -/
def anyE (H : Nat → Nat → Bool) : Nat → Nat → Bool
  | 0, _ => false
  | e + 1, t => anyE H e t || H e t
def nE (H : Nat → Nat → Bool) (E t : Nat) : Nat := sm E (fun e => bn (H e t))
def adO (ns E : Nat) (H : Nat → Nat → Bool) : Nat := sm ns (fun t => nE H E t - 1)
theorem any_n {H : Nat → Nat → Bool} {t : Nat} : ∀ E, (anyE H E t = true ∧ 1 ≤ nE H E t) ∨ (anyE H E t = false ∧ nE H E t = 0) := by
  intro E
  induction E with
  | zero => exact Or.inr ⟨rfl, rfl⟩
  | succ E ih =>
    have e1 : anyE H (E + 1) t = (anyE H E t || H E t) := rfl
    have e2 : nE H (E + 1) t = nE H E t + bn (H E t) := rfl
    rw [e1, e2]
    rcases ih with ⟨h1, h2⟩ | ⟨h1, h2⟩
    · left; rw [h1]; exact ⟨by cases H E t <;> rfl, by omega⟩
    · rw [h1, h2]
      cases H E t with
      | false => right; exact ⟨rfl, rfl⟩
      | true => left; exact ⟨rfl, Nat.le_refl 1⟩
theorem adO_eq {ns E : Nat} {H : Nat → Nat → Bool} : adO ns E H + sm ns (fun t => bn (anyE H E t)) = TT ns E H := by
  unfold adO TT pcF
  rw [sm_swap, ← sm_add]
  refine sm_congr (fun t _ => ?_)
  show nE H E t - 1 + bn (anyE H E t) = nE H E t
  rcases any_n (H := H) (t := t) E with ⟨h1, h2⟩ | ⟨h1, h2⟩
  · rw [h1]; show _ - 1 + 1 = _; omega
  · rw [h1, h2]; rfl
-- 87.csums.lean.txt
/-! LAW CASE 20: the sums in the class -/
def zSm (S : ZS) (sm hd E ns : Nat) (H : Nat → Nat → Bool) : Prop := zOb S sm 3 [.ref hd, .int (ci E)] ∧ ns ≤ 40 ∧ E ≤ 120 ∧ ∃ F, zJA S hd 120 F ∧ ∀ e, e < E → F e = cj (msk ns (H e))
def pSm (sm hd : Nat) : Nat → Prop := fun b => b = sm ∨ b = hd
theorem zSm.get {S : ZS} {sm hd E ns e : Nat} {H : Nat → Nat → Bool} (h : zSm S sm hd E ns H) (he : e < E) : fX5_getLong hd (ci e) S = some (cj (msk ns (H e))) := by
  obtain ⟨h1, h2, h3, F, h4, h5⟩ := h
  rw [g_getJ h4 (by omega) (by omega), if_pos (by omega), h5 e he]
theorem zSm.put {S : ZS} {sm hd E ns e : Nat} {H : Nat → Nat → Bool} {x : Nat → Bool} (h : zSm S sm hd E ns H) (he : e < 120) : ∃ S1, fX5_putLong hd (ci e) (cj (msk ns x)) S = some S1 ∧ zSm S1 sm hd E ns (fun e' => if e' = e then x else H e') ∧ zFrm S S1 (pSm sm hd) := by
  obtain ⟨h1, h2, h3, F, h4, h5⟩ := h
  have hf : zFrm S (zwJ S hd 120 (va_up F e (cj (msk ns x)))) (fun b => b = hd) := zFrm.wJ
  refine ⟨_, g_putJ _ h4 he (by omega), ⟨hf.ob (ne_oj h1 h4) h1, h2, h3, _, zwJ_self, fun e' he' => ?_⟩, hf.wk (fun _ => Or.inr)⟩
  unfold va_up
  by_cases hee : e' = e
  · rw [if_pos hee]
    show _ = cj (msk ns (if e' = e then x else H e'))
    rw [if_pos hee]
  · rw [if_neg hee]
    show _ = cj (msk ns (if e' = e then x else H e'))
    rw [if_neg hee]; exact h5 e' he'
theorem zSm.cg {S : ZS} {sm hd E ns : Nat} {H H' : Nat → Nat → Bool} (h : zSm S sm hd E ns H) (e : ∀ o, o < E → ∀ t, t < ns → H o t = H' o t) : zSm S sm hd E ns H' := by
  obtain ⟨h1, h2, h3, F, h4, h5⟩ := h
  exact ⟨h1, h2, h3, F, h4, fun o ho => by rw [h5 o ho, msk_congr (e o ho)]⟩
theorem c_append2 {S : ZS} {sm hd E ns : Nat} {H : Nat → Nat → Bool} {x : Nat → Bool} (h : zSm S sm hd E ns H) (hE : E < 120) : ∃ S1, fX3_append sm (cj (msk ns x)) S = some S1 ∧ zSm S1 sm hd (E + 1) ns (fun e => if e = E then x else H e) ∧ zFrm S S1 (pSm sm hd) := by
  obtain ⟨S1, f1, f2, f3⟩ := zSm.put (x := x) h hE
  have h1 := h.1
  obtain ⟨g1, g2, g3, F, g4, g5⟩ := f2
  have hf : zFrm S1 (zwO S1 sm 3 [.ref hd, .int (ci (E + 1))]) (fun b => b = sm) := zFrm.wO
  refine ⟨zwO S1 sm 3 [.ref hd, .int (ci (E + 1))], ?_, ⟨zwO_self, g2, by omega, F, hf.ja (fun hh => ne_oj g1 g4 hh.symm) g4, fun e he => ?_⟩, f3.tr (hf.wk (fun _ => Or.inl))⟩
  · unfold fX3_append
    rw [zgR_ob h1 rfl, Option.bind_some, zgI_ob h1 rfl, Option.bind_some, f1, Option.bind_some, zgI_ob g1 rfl, Option.bind_some, cl_1, ci_add, zpF_ob _ g1 (by simp), Option.bind_some]
    rfl
  · by_cases heE : e = E
    · obtain ⟨_, _, _, F2, q4, q5⟩ := h
      subst heE
      have : F e = cj (msk ns x) := by
        have hp := f1
        rw [g_putJ _ q4 hE (by omega)] at hp
        have hS := Option.some.inj hp
        have g4' : zJA S1 hd 120 (va_up F2 e (cj (msk ns x))) := by rw [← hS]; exact zwJ_self
        have hh := (show S1.1 hd = _ from g4).symm.trans (show S1.1 hd = _ from g4')
        simp at hh
        rw [hh, va_up_self]
      rw [this]
      show _ = cj (msk ns (if e = e then x else H e))
      rw [if_pos rfl]
    · exact g5 e (by omega)
/-- the sets of a side -/
def HS (v : Nat → Nat → Nat → Nat) (s : Nat) : Nat → Nat → Bool := fun e t => if s = 2 then nzd v e 2 t else nzd v t s e
def eS (a b d k s : Nat) : Nat := if s = 2 then k else sz3 a b d s
def nS (d k s : Nat) : Nat := if s = 2 then d else k
theorem zWy.sm {S S1 : ZS} {w c n t p a b d sq k sm hd E ns : Nat} {g : Nat → Nat} {v : Nat → Nat → Nat → Nat} {H : Nat → Nat → Bool} (h : zWy S w c n t p a b d sq k g v) (h2 : zSm S sm hd E ns H) (hf : zFrm S S1 (pSm sm hd)) : zWy S1 w c n t p a b d sq k g v := by
  have h' := h
  obtain ⟨_, _, _, hw, hc, _, W, hW, _⟩ := h'
  obtain ⟨h3, _, _, F, h4, _⟩ := h2
  exact h.kp (hf.2 _ (fun hh => hh.elim (ne_oo hw h3 (by omega)) (ne_oj hw h4))) (hf.2 _ (fun hh => hh.elim (ne_oo hc.1 h3 (by omega)) (ne_oj hc.1 h4))) (hf.2 _ (fun hh => hh.elim (fun q => ne_oi h3 hc.2 q.symm) (ne_ij hc.2 h4))) (hf.2 _ (fun hh => hh.elim (fun q => ne_oi h3 hW q.symm) (ne_ij hW h4)))
theorem c_clear {S : ZS} {sm hd ns : Nat} {c : Int32} {F : Nat → Int64} {H : Nat → Nat → Bool} (h : zOb S sm 3 [.ref hd, .int c]) (hF : zJA S hd 120 F) (hn : ns ≤ 40) : ∃ S1, fX3_clear sm S = some S1 ∧ zSm S1 sm hd 0 ns H ∧ zFrm S S1 (pSm sm hd) := by
  have hf : zFrm S (zwO S sm 3 [.ref hd, .int (ci 0)]) (fun b => b = sm) := zFrm.wO
  refine ⟨zwO S sm 3 [.ref hd, .int (ci 0)], ?_, ⟨zwO_self, hn, by omega, F, hf.ja (fun hh => ne_oj h hF hh.symm) hF, fun e he => absurd he (Nat.not_lt_zero _)⟩, hf.wk (fun _ => Or.inl)⟩
  unfold fX3_clear
  rw [zpF_ob _ h (by simp), Option.bind_some]
  rfl
theorem c_tellSums {S : ZS} {w c n t p a b d sq k sm hd s : Nat} {g : Nat → Nat} {v : Nat → Nat → Nat → Nat} {x : Int32} {F : Nat → Int64} (h : zWy S w c n t p a b d sq k g v) (hs : s < 3) (ho : zOb S sm 3 [.ref hd, .int x]) (hF : zJA S hd 120 F) : ∃ S1, fX4_tellSums w (ci s) sm S = some S1 ∧ zSm S1 sm hd (eS a b d k s) (nS d k s) (HS v s) ∧ zWy S1 w c n t p a b d sq k g v ∧ zFrm S S1 (pSm sm hd) := by
  have hk := h.kk
  have hsz := h.2.1
  have hb := sz3_b hsz (s := s)
  unfold szOK at hsz
  have hns : nS d k s ≤ 40 := by unfold nS; split <;> omega
  obtain ⟨S0, f1, f2, f3⟩ := c_clear (H := HS v s) ho hF hns
  have h0 : zWy S0 w c n t p a b d sq k g v := by
    have h' := h
    obtain ⟨_, _, _, hw, hc, _, W, hW, _⟩ := h'
    exact h.kp (f3.2 _ (fun hh => hh.elim (ne_oo hw ho (by omega)) (ne_oj hw hF))) (f3.2 _ (fun hh => hh.elim (ne_oo hc.1 ho (by omega)) (ne_oj hc.1 hF))) (f3.2 _ (fun hh => hh.elim (fun q => ne_oi ho hc.2 q.symm) (ne_ij hc.2 hF))) (f3.2 _ (fun hh => hh.elim (fun q => ne_oi ho hW q.symm) (ne_ij hW hF)))
  by_cases h2 : s = 2
  · subst h2
    have := ziter_for (body := fX4_tellSums_B11 w (ci 2) sm) (fun q S' => (zSm S' sm hd q d (HS v 2) ∧ zWy S' w c n t p a b d sq k g v) ∧ zFrm S0 S' (pSm sm hd)) (fun r => (zSm r sm hd k d (HS v 2) ∧ zWy r w c n t p a b d sq k g v) ∧ zFrm S0 r (pSm sm hd)) k ?_ ?_ k 0 zF S0 (by omega) (by rw [zF_eq]; omega) ⟨⟨f2, h0⟩, zFrm.rf⟩
    · obtain ⟨S1, q1, ⟨q2, q4⟩, q3⟩ := this
      refine ⟨S1, ?_, q2, q4, f3.tr q3⟩
      unfold fX4_tellSums
      rw [zcl_ob ho, f1, Option.bind_some, if_pos (show ci 2 = 2 from rfl), cl_0]
      exact q1
    · rintro q S' hq ⟨⟨y, hw⟩, hf⟩
      have fp := g_filledPlaces (s := 2) hw hq (by omega)
      obtain ⟨S1, q1, q2, q3⟩ := c_append2 (x := nzd v q 2) y (by omega)
      refine ⟨S1, ?_, ⟨q2.cg (fun o ho t _ => ?_), hw.sm y q3⟩, hf.tr q3⟩
      · unfold fX4_tellSums_B11
        simp only []
        rw [zgI_ob hw.wa rfl, Option.bind_some, if_neg (by rw [ci_le (by omega) (by omega)]; omega), zcl_ob hw.wa, fp, Option.bind_some, zcl_ob y.1]
        show Option.bind (fX3_append sm (cj (msk d (nzd v q 2))) S') _ = _
        rw [q1, Option.bind_some, cl_1, ci_add]
      · show (if o = q then nzd v q 2 else HS v 2 o) t = HS v 2 o t
        by_cases hoq : o = q
        · rw [if_pos hoq, hoq]; rfl
        · rw [if_neg hoq]
    · rintro S' ⟨⟨y, hw⟩, hf⟩
      refine ⟨S', ?_, ⟨y, hw⟩, hf⟩
      unfold fX4_tellSums_B11 fX4_tellSums_J68
      simp only []
      rw [zgI_ob hw.wa rfl, Option.bind_some, if_pos (by rw [ci_le (by omega) (by omega)]; omega), zex_some]
  · have e1 : eS a b d k s = sz3 a b d s := if_neg h2
    have e2 : nS d k s = k := if_neg h2
    rw [e2] at f2
    rw [e1, e2]
    have := ziter_for (body := fX4_tellSums_B40 w (ci s) sm) (fun q S' => (zSm S' sm hd q k (HS v s) ∧ zWy S' w c n t p a b d sq k g v) ∧ zFrm S0 S' (pSm sm hd)) (fun r => (zSm r sm hd (sz3 a b d s) k (HS v s) ∧ zWy r w c n t p a b d sq k g v) ∧ zFrm S0 r (pSm sm hd)) (sz3 a b d s) ?_ ?_ (sz3 a b d s) 0 zF S0 (by omega) (by rw [zF_eq]; omega) ⟨⟨f2, h0⟩, zFrm.rf⟩
    · obtain ⟨S1, q1, ⟨q2, q4⟩, q3⟩ := this
      refine ⟨S1, ?_, q2, q4, f3.tr q3⟩
      unfold fX4_tellSums
      rw [zcl_ob ho, f1, Option.bind_some, if_neg (show ¬ ci s = 2 by rw [cl_2, ci_eq (by omega) (by omega)]; exact h2), cl_0]
      exact q1
    · rintro q S' hq ⟨⟨y, hw⟩, hf⟩
      have fp := g_filledProducts hw hs hq
      obtain ⟨S1, q1, q2, q3⟩ := c_append2 (x := fun t => nzd v t s q) y (by omega)
      refine ⟨S1, ?_, ⟨q2.cg (fun o ho t _ => ?_), hw.sm y q3⟩, hf.tr q3⟩
      · unfold fX4_tellSums_B40
        simp only []
        rw [zgR_ob hw.wa rfl, Option.bind_some, zcl_cu hw.2.2.2.2.1, g_sizeOf hw.2.2.2.2.1 hs, Option.bind_some, if_neg (by rw [ci_le (by omega) (by omega)]; omega), zcl_ob hw.wa, fp, Option.bind_some, zcl_ob y.1, q1, Option.bind_some, cl_1, ci_add]
      · show (if o = q then (fun t => nzd v t s q) else HS v s o) t = HS v s o t
        by_cases hoq : o = q
        · rw [if_pos hoq, hoq]; unfold HS; rw [if_neg h2]
        · rw [if_neg hoq]
    · rintro S' ⟨⟨y, hw⟩, hf⟩
      refine ⟨S', ?_, ⟨y, hw⟩, hf⟩
      unfold fX4_tellSums_B40 fX4_tellSums_J68
      simp only []
      rw [zgR_ob hw.wa rfl, Option.bind_some, zcl_cu hw.2.2.2.2.1, g_sizeOf hw.2.2.2.2.1 hs, Option.bind_some, if_pos (by rw [ci_le (by omega) (by omega)]; omega), zex_some]
theorem c_countAdd {S : ZS} {sm hd E ns : Nat} {H : Nat → Nat → Bool} (h : zSm S sm hd E ns H) : fX3_countAdditions sm S = some (ci (adO ns E H)) := by
  have hn := h.2.1
  have hE := h.2.2.1
  have hadd := adO_eq (ns := ns) (E := E) (H := H)
  unfold fX3_countAdditions
  have e0 : cj (msk ns (anyE H 0)) = cj 0 := by rw [show anyE H 0 = fun _ => false from rfl, msk_0]
  show ziter _ zF (ci (TT ns 0 H), cj 0, ci 0) = _
  rw [← e0]
  refine ziter_seq (fun e => (ci (TT ns e H), cj (msk ns (anyE H e)), ci e)) _ E zF (by rw [zF_eq]; omega) (fun e he => ?_) ?_
  · unfold fX3_countAdditions_B7
    simp only []
    rw [zgI_ob h.1 rfl, Option.bind_some, if_neg (by rw [ci_le (by omega) (by omega)]; omega), zgR_ob h.1 rfl, Option.bind_some, h.get he, Option.bind_some, g_bits hn, Option.bind_some, ci_add, cj_or, msk_or, cl_1, ci_add]
    rfl
  · unfold fX3_countAdditions_B7
    simp only []
    rw [zgI_ob h.1 rfl, Option.bind_some, if_pos (by rw [ci_le (by omega) (by omega)]; omega), g_bits hn, Option.bind_some, ci_sub (by omega), zex_some]
    congr 3
    omega
-- 88.cshare.lean.txt
/-! LAW CASE 20: shared pairs in the class -/
def tF (t : Nat × Nat × Nat) : Int32 := if 1 < t.1 then ci t.2.1 else (-1 : Int32)
def tG (t : Nat × Nat × Nat) : Int32 := if 1 < t.1 then ci t.2.2 else (-1 : Int32)
theorem ci_m1ne {n : Nat} (h : n < 2147483648) : ¬ ci n = (-1 : Int32) := fun hh => ci_nneg h (by rw [hh]; decide)
theorem tF_none {t : Nat × Nat × Nat} (h : ¬ 1 < t.1) : tF t = (-1 : Int32) := if_neg h
theorem tF_some {t : Nat × Nat × Nat} (h : 1 < t.1) : tF t = ci t.2.1 := if_pos h
theorem tG_some {t : Nat × Nat × Nat} (h : 1 < t.1) : tG t = ci t.2.2 := if_pos h
theorem stp_F {ns n o : Nat} {H : Nat → Nat → Bool} {t : Nat × Nat × Nat} (h1 : 1 ≤ t.1) (h : t.1 < cmF ns H n o) : tF (stp ns H n o t) = ci n ∧ tG (stp ns H n o t) = ci o ∧ (stp ns H n o t).1 = cmF ns H n o := by
  unfold stp
  rw [if_pos h]
  exact ⟨if_pos (by show 1 < cmF ns H n o; omega), if_pos (by show 1 < cmF ns H n o; omega), rfl⟩
theorem g_bitsP {ns o : Nat} {H : Nat → Nat → Bool} (hn : ns ≤ 40) : fJ13_bitCount_95d88 (cj (msk ns (H o))) = some (ci (pcF ns H o)) := g_bits hn
theorem g_bitsC {ns o r : Nat} {H : Nat → Nat → Bool} (hn : ns ≤ 40) : fJ13_bitCount_95d88 (cj (msk ns (H o)) &&& cj (msk ns (H r))) = some (ci (cmF ns H o r)) := by
  rw [cj_and, msk_and]; exact g_bits hn
theorem c_inn {S : ZS} {sm hd E ns n : Nat} {H : Nat → Nat → Bool} {t : Nat × Nat × Nat} (h : zSm S sm hd E ns H) (hn : n < E) (ht : gdT ns H E t) : ∀ (r j N : Nat), n + 1 + j + r = E → r < N → ziter (fX3_shareBestPair_B35 sm (ci n) (cj (msk ns (H n))) S) N (tF (inn ns H n j t), tG (inn ns H n j t), ci (inn ns H n j t).1, ci (n + 1 + j)) = some (.inl (tF (inn ns H n (E - (n + 1)) t), tG (inn ns H n (E - (n + 1)) t), ci (inn ns H n (E - (n + 1)) t).1, ci (n + 1))) := by
  have hns := h.2.1
  have hE := h.2.2.1
  intro r
  induction r with
  | zero =>
    intro j N hj hN
    obtain ⟨N, rfl⟩ : ∃ M, N = M + 1 := ⟨N - 1, by omega⟩
    rw [show E - (n + 1) = j by omega, ziter_0]
    unfold fX3_shareBestPair_B35 fX3_shareBestPair_J91
    simp only []
    rw [zgI_ob h.1 rfl, Option.bind_some, if_pos (by rw [ci_le (by omega) (by omega)]; omega), cl_1, ci_add, zex_some]
  | succ r ih =>
    intro j N hj hN
    obtain ⟨N, rfl⟩ : ∃ M, N = M + 1 := ⟨N - 1, by omega⟩
    have hg := inn_gd (n := n) ht j (by omega)
    have hpc := pcF_le (ns := ns) (H := H) (o := n)
    have hcm := cmF_le (ns := ns) (H := H) (o := n) (r := n + 1 + j)
    by_cases hp : pcF ns H n ≤ (inn ns H n j t).1
    · have hpr := inn_prune hp (r + 1)
      rw [show E - (n + 1) = j + (r + 1) by omega, hpr, ziter_0]
      unfold fX3_shareBestPair_B35 fX3_shareBestPair_J91
      simp only []
      have hp' : (ci (pcF ns H n) ≤ ci (inn ns H n j t).1) := by
        have := hg.2.1
        rw [ci_le (by omega) (by omega)]
        exact hp
      rw [zgI_ob h.1 rfl, Option.bind_some, if_neg (by rw [ci_le (by omega) (by omega)]; omega), g_bitsP hns, Option.bind_some, if_pos hp', cl_1, ci_add, zex_some]
    · have hp' : ¬ (ci (pcF ns H n) ≤ ci (inn ns H n j t).1) := by
        have := hg.2.1
        rw [ci_le (by omega) (by omega)]
        exact hp
      have st : fX3_shareBestPair_B35 sm (ci n) (cj (msk ns (H n))) S (tF (inn ns H n j t), tG (inn ns H n j t), ci (inn ns H n j t).1, ci (n + 1 + j)) = some (.inl (tF (inn ns H n (j + 1) t), tG (inn ns H n (j + 1) t), ci (inn ns H n (j + 1) t).1, ci (n + 1 + (j + 1)))) := by
        have := hg.2.1
        unfold fX3_shareBestPair_B35 fX3_shareBestPair_J85
        simp only []
        rw [zgI_ob h.1 rfl, Option.bind_some, if_neg (by rw [ci_le (by omega) (by omega)]; omega), g_bitsP hns, Option.bind_some, if_neg hp', zgR_ob h.1 rfl, Option.bind_some, h.get (by omega), Option.bind_some, g_bitsC hns, Option.bind_some]
        show (if ci (cmF ns H n (n + 1 + j)) ≤ _ then _ else _) = some (Sum.inl (tF (stp ns H n (n + 1 + j) (inn ns H n j t)), tG (stp ns H n (n + 1 + j) (inn ns H n j t)), ci (stp ns H n (n + 1 + j) (inn ns H n j t)).1, ci (n + 1 + (j + 1))))
        by_cases hc : (inn ns H n j t).1 < cmF ns H n (n + 1 + j)
        · obtain ⟨q1, q2, q3⟩ := stp_F hg.1 hc
          rw [if_neg (by rw [ci_le (by omega) (by omega)]; omega), q1, q2, q3, cl_1, ci_add]
          rfl
        · rw [if_pos (by rw [ci_le (by omega) (by omega)]; omega), cl_1, ci_add]
          unfold stp
          rw [if_neg hc]
          rfl
      rw [ziter_1 st]
      exact ih (j + 1) N (by omega) (by omega)
theorem c_replace {S : ZS} {sm hd E ns f g : Nat} {H : Nat → Nat → Bool} (h : zSm S sm hd E ns H) (hf : f < g) (hg : g < E) (hE : E < 120) : ∃ S1, fX3_replace sm (ci f) (ci g) S = some S1 ∧ zSm S1 sm hd (E + 1) ns (shH H E f g) ∧ zFrm S S1 (pSm sm hd) := by
  have hns := h.2.1
  obtain ⟨S1, a1, a2, a3⟩ := zSm.put (e := f) (x := fun t => H f t && !(H f t && H g t)) h (by omega)
  obtain ⟨S2, b1, b2, b3⟩ := zSm.put (e := g) (x := fun t => H g t && !(H f t && H g t)) a2 (by omega)
  obtain ⟨S3, c1, c2, c3⟩ := c_append2 (x := fun t => H f t && H g t) b2 hE
  have hgg : fX5_getLong hd (ci g) S1 = some (cj (msk ns (H g))) := by
    rw [a2.get hg, if_neg (by omega)]
  refine ⟨S3, ?_, c2.cg (fun o ho t _ => ?_), (a3.tr b3).tr c3⟩
  · unfold fX3_replace
    rw [zgR_ob h.1 rfl, Option.bind_some, h.get (by omega), Option.bind_some, Option.bind_some, h.get hg, Option.bind_some, Option.bind_some, Option.bind_some, h.get (by omega), Option.bind_some, cj_and, msk_and, cj_m1, cj_xor, cj_and, msk_andn hns, a1, Option.bind_some, zgR_ob a2.1 rfl, Option.bind_some, Option.bind_some, hgg, Option.bind_some, cj_and, msk_andn hns, b1, Option.bind_some, zcl_ob b2.1, c1, Option.bind_some]
  · show (if o = E then (fun t => H f t && H g t) else (if o = g then (fun t => H g t && !(H f t && H g t)) else (if o = f then (fun t => H f t && !(H f t && H g t)) else H o))) t = shH H E f g o t
    unfold shH
    by_cases q1 : o = f
    · rw [if_neg (by omega), if_neg (by omega), if_pos q1, if_pos q1]
    · by_cases q2 : o = g
      · rw [if_neg (by omega), if_pos q2, if_neg q1, if_pos q2]
      · by_cases q3 : o = E
        · rw [if_pos q3, if_neg q1, if_neg q2, if_pos q3]
        · rw [if_neg q3, if_neg q2, if_neg q1, if_neg q1, if_neg q2, if_neg q3]
theorem c_sbp {S : ZS} {sm hd E ns : Nat} {H : Nat → Nat → Bool} (h : zSm S sm hd E ns H) (hE : E < 120) : ∃ S1, fX3_shareBestPair sm S = some (bI (decide (1 < (bst ns H E).1)), S1) ∧ (if 1 < (bst ns H E).1 then zSm S1 sm hd (E + 1) ns (shH H E (bst ns H E).2.1 (bst ns H E).2.2) else S1 = S) ∧ zFrm S S1 (pSm sm hd) := by
  have hb := bst_gd (ns := ns) (E := E) (H := H)
  have hend : ∃ S1, fX3_shareBestPair_B9 sm S (tF (bst ns H E), tG (bst ns H E), ci (bst ns H E).1, ci E) = some (.inr (bI (decide (1 < (bst ns H E).1)), S1)) ∧ (if 1 < (bst ns H E).1 then zSm S1 sm hd (E + 1) ns (shH H E (bst ns H E).2.1 (bst ns H E).2.2) else S1 = S) ∧ zFrm S S1 (pSm sm hd) := by
    unfold fX3_shareBestPair_B9
    simp only []
    by_cases hl : 1 < (bst ns H E).1
    · obtain ⟨h1, h2, h3⟩ := hb.2.2.2.2 hl
      obtain ⟨S1, f1, f2, f3⟩ := c_replace h h1 h2 hE
      refine ⟨S1, ?_, by rw [if_pos hl]; exact f2, f3⟩
      rw [zgI_ob h.1 rfl, Option.bind_some, if_pos (by rw [ci_le (by omega) (by omega)]; omega), tF_some hl, tG_some hl, if_neg (ci_m1ne (by omega)), zcl_ob h.1, f1, Option.bind_some, decide_eq_true hl, zex_some]
      rfl
    · refine ⟨S, ?_, by rw [if_neg hl], zFrm.rf⟩
      rw [zgI_ob h.1 rfl, Option.bind_some, if_pos (by rw [ci_le (by omega) (by omega)]; omega), tF_none hl, if_pos rfl, decide_eq_false hl, zex_some]
      rfl
  obtain ⟨S1, e1, e2, e3⟩ := hend
  refine ⟨S1, ?_, e2, e3⟩
  unfold fX3_shareBestPair
  refine ziter_seq (fun i => (tF (out ns H E i), tG (out ns H E i), ci (out ns H E i).1, ci i)) _ E zF (by rw [zF_eq]; omega) (fun i hi => ?_) e1
  have hc := c_inn (n := i) h hi (out_gd i (by omega)) (E - (i + 1)) 0 zF (by omega) (by rw [zF_eq]; omega)
  unfold fX3_shareBestPair_B9
  simp only []
  rw [zgI_ob h.1 rfl, Option.bind_some, if_neg (by rw [ci_le (by omega) (by omega)]; omega), zgR_ob h.1 rfl, Option.bind_some, h.get hi, Option.bind_some, cl_1, ci_add]
  exact hc
theorem c_sharePairs {sm hd ns : Nat} : ∀ (n N E q : Nat) (S : ZS) (H : Nat → Nat → Bool), q + n = 80 → n < N → zSm S sm hd E ns H → E + n ≤ 120 → ∃ S1, ziter (fX3_sharePairs_B2 sm) N (ci q, S) = some (ci (q + (shl ns n E H).1), S1) ∧ zSm S1 sm hd (shl ns n E H).2.1 ns (shl ns n E H).2.2 ∧ zFrm S S1 (pSm sm hd) := by
  intro n
  induction n with
  | zero =>
    intro N E q S H hq hN h hE
    obtain ⟨N, rfl⟩ : ∃ M, N = M + 1 := ⟨N - 1, by omega⟩
    refine ⟨S, ?_, h, zFrm.rf⟩
    rw [ziter_0]
    unfold fX3_sharePairs_B2 fX3_sharePairs_J21
    simp only []
    rw [if_pos (by rw [cl_80, ci_le (by omega) (by omega)]; omega), zex_some]
    rfl
  | succ n ih =>
    intro N E q S H hq hN h hE
    obtain ⟨N, rfl⟩ : ∃ M, N = M + 1 := ⟨N - 1, by omega⟩
    obtain ⟨S1, f1, f2, f3⟩ := c_sbp h (by omega)
    by_cases hb : 1 < (bst ns H E).1
    · rw [if_pos hb] at f2
      obtain ⟨S2, g1, g2, g3⟩ := ih N (E + 1) (q + 1) S1 _ (by omega) (by omega) f2 (by omega)
      have st : fX3_sharePairs_B2 sm (ci q, S) = some (.inl (ci (q + 1), S1)) := by
        unfold fX3_sharePairs_B2
        simp only []
        rw [if_neg (by rw [cl_80, ci_le (by omega) (by omega)]; omega), zcl_ob h.1, f1, Option.bind_some, decide_eq_true hb, if_neg (show ¬ bI true = 0 by decide), cl_1, ci_add]
      unfold shl
      rw [if_pos hb]
      refine ⟨S2, ?_, g2, f3.tr g3⟩
      rw [ziter_1 st, g1]
      show some (ci (q + 1 + (shl ns n (E + 1) _).1), S2) = some (ci (q + ((shl ns n (E + 1) _).1 + 1)), S2)
      rw [show ∀ y, q + 1 + y = q + (y + 1) from fun y => by omega]
    · rw [if_neg hb] at f2
      subst f2
      unfold shl
      rw [if_neg hb]
      refine ⟨S1, ?_, h, f3⟩
      rw [ziter_0]
      unfold fX3_sharePairs_B2 fX3_sharePairs_J21
      simp only []
      rw [if_neg (by rw [cl_80, ci_le (by omega) (by omega)]; omega), zcl_ob h.1, f1, Option.bind_some, decide_eq_false hb, if_pos bI_f, zex_some]
      rfl
-- 89.msums.lean.txt
theorem znar_b (x : Bool) : znar (bI x) = bI x := by cases x <;> rfl
/-- but for the sets nothing is otherwise -/
def mT6 (X X' : Nat → Int32) (A A' : Nat → Nat → Int32) : Prop := (∀ i, i ≠ 17 → i ≠ 18 → X' i = X i) ∧ ∀ j, j ≠ 16 → A' j = A j
theorem mT6.rf {X : Nat → Int32} {A : Nat → Nat → Int32} : mT6 X X A A := ⟨fun _ _ _ => rfl, fun _ _ => rfl⟩
theorem mT6.tr {X Y Z : Nat → Int32} {A B C : Nat → Nat → Int32} (h1 : mT6 X Y A B) (h2 : mT6 Y Z B C) : mT6 X Z A C := ⟨fun i a b => (h2.1 i a b).trans (h1.1 i a b), fun j a => (h2.2 j a).trans (h1.2 j a)⟩
/-- the sets in the model: E elements, ns sets -/
def mSm (X : Nat → Int32) (A : Nat → Nat → Int32) (E ns : Nat) (H : Nat → Nat → Bool) : Prop := X 17 = ci ns ∧ X 18 = ci E ∧ ns ≤ 40 ∧ E ≤ 128 ∧ ∀ t, t < ns → ∀ e, e < 128 → A 16 (128 * t + e) = bI (decide (e < E) && H e t)
theorem bI_ne {x : Bool} : (bI x = 0) = (x = false) := propext (bI_0 x)
