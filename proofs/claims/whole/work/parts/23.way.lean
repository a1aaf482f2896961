/-! THE CLASS'S CUBES AND WAYS: what is in the heap -/
def sz3 (a b d s : Nat) : Nat := if s = 0 then a else if s = 1 then b else d
def zCu (S : ZS) (c n a b d q : Nat) (g : Nat → Nat) : Prop := zOb S c 0 [.int (ci a), .int (ci b), .int (ci d), .ref n, .int (ci q)] ∧ zIA S n 64 (fun i => ci (g i))
def szOK (a b d : Nat) : Prop := (1 ≤ a ∧ a ≤ 4) ∧ (1 ≤ b ∧ b ≤ 4) ∧ (1 ≤ d ∧ d ≤ 4)
def vOK (p a b d k : Nat) (v : Nat → Nat → Nat → Nat) : Prop := ∀ q, q < k → ∀ s, s < 3 → ∀ j, j < sz3 a b d s → v q s j < p
def w3 (p a b d : Nat) (u : Nat → Nat → Nat) : Nat := f3 (enc p a (u 0)) (enc p b (u 1)) (enc p d (u 2))
/-- a way at w: its cube at c with numbers at n, its triples at t; k products of the digits v -/
def zWy (S : ZS) (w c n t p a b d sq k : Nat) (g : Nat → Nat) (v : Nat → Nat → Nat → Nat) : Prop :=
  isP p ∧ szOK a b d ∧ k ≤ 40 ∧ zOb S w 4 [.ref c, .int (ci p), .ref t, .int (ci k)] ∧ zCu S c n a b d sq g ∧ vOK p a b d k v ∧ ∃ W : Nat → Nat, zIA S t 40 (fun q => ci (W q)) ∧ ∀ q, q < k → W q = w3 p a b d (v q)
def zFrm (S S' : ZS) (P : Nat → Prop) : Prop := S'.2 = S.2 ∧ ∀ b, ¬ P b → S'.1 b = S.1 b
theorem zFrm.rf {S : ZS} {P : Nat → Prop} : zFrm S S P := ⟨rfl, fun _ _ => rfl⟩
theorem zFrm.tr {S S1 S2 : ZS} {P : Nat → Prop} (h1 : zFrm S S1 P) (h2 : zFrm S1 S2 P) : zFrm S S2 P := ⟨h2.1.trans h1.1, fun b hb => (h2.2 b hb).trans (h1.2 b hb)⟩
theorem zFrm.wk {S S1 : ZS} {P Q : Nat → Prop} (h : zFrm S S1 P) (hPQ : ∀ b, P b → Q b) : zFrm S S1 Q := ⟨h.1, fun b hb => h.2 b (fun q => hb (hPQ b q))⟩
theorem zFrm.wI {S : ZS} {a N : Nat} {f : Nat → Int32} : zFrm S (zwI S a N f) (fun b => b = a) := ⟨rfl, fun _ hb => zwI_ne hb⟩
theorem zFrm.wJ {S : ZS} {a N : Nat} {f : Nat → Int64} : zFrm S (zwJ S a N f) (fun b => b = a) := ⟨rfl, fun _ hb => zwJ_ne hb⟩
theorem zFrm.wZ {S : ZS} {a N : Nat} {f : Nat → Int32} : zFrm S (zwZ S a N f) (fun b => b = a) := ⟨rfl, fun _ hb => zwZ_ne hb⟩
theorem zFrm.wO {S : ZS} {a k : Nat} {fs : List Value} : zFrm S (zwO S a k fs) (fun b => b = a) := ⟨rfl, fun _ hb => zwO_ne hb⟩
theorem zFrm.ob {S S1 : ZS} {P : Nat → Prop} {a k : Nat} {fs : List Value} (h : zFrm S S1 P) (ha : ¬ P a) (ho : zOb S a k fs) : zOb S1 a k fs := (h.2 a ha).trans ho
theorem zFrm.ia {S S1 : ZS} {P : Nat → Prop} {a N : Nat} {f : Nat → Int32} (h : zFrm S S1 P) (ha : ¬ P a) (ho : zIA S a N f) : zIA S1 a N f := (h.2 a ha).trans ho
theorem zFrm.ja {S S1 : ZS} {P : Nat → Prop} {a N : Nat} {f : Nat → Int64} (h : zFrm S S1 P) (ha : ¬ P a) (ho : zJA S a N f) : zJA S1 a N f := (h.2 a ha).trans ho
theorem zFrm.za {S S1 : ZS} {P : Nat → Prop} {a N : Nat} {f : Nat → Int32} (h : zFrm S S1 P) (ha : ¬ P a) (ho : zZA S a N f) : zZA S1 a N f := (h.2 a ha).trans ho
theorem zFrm.cu {S S1 : ZS} {P : Nat → Prop} {c n a b d q : Nat} {g : Nat → Nat} (h : zFrm S S1 P) (hc : ¬ P c) (hn : ¬ P n) (ho : zCu S c n a b d q g) : zCu S1 c n a b d q g := ⟨h.ob hc ho.1, h.ia hn ho.2⟩
-- things of unlike shape lie apart
theorem ne_oi {S : ZS} {a b k N : Nat} {fs : List Value} {f : Nat → Int32} (h1 : zOb S a k fs) (h2 : zIA S b N f) : a ≠ b := by
  intro h; subst h
  have := (show S.1 a = _ from h1).symm.trans (show S.1 a = _ from h2)
  simp at this
theorem ne_oj {S : ZS} {a b k N : Nat} {fs : List Value} {f : Nat → Int64} (h1 : zOb S a k fs) (h2 : zJA S b N f) : a ≠ b := by
  intro h; subst h
  have := (show S.1 a = _ from h1).symm.trans (show S.1 a = _ from h2)
  simp at this
theorem ne_oo {S : ZS} {a b k j : Nat} {fs gs : List Value} (h1 : zOb S a k fs) (h2 : zOb S b j gs) (hk : k ≠ j) : a ≠ b := by
  intro h; subst h
  have := (show S.1 a = _ from h1).symm.trans (show S.1 a = _ from h2)
  simp at this
  exact hk this.1
theorem ne_ii {S : ZS} {a b N M : Nat} {f g : Nat → Int32} (h1 : zIA S a N f) (h2 : zIA S b M g) (hk : N ≠ M) : a ≠ b := by
  intro h; subst h
  have := (show S.1 a = _ from h1).symm.trans (show S.1 a = _ from h2)
  simp at this
  exact hk this.1
theorem ne_ij {S : ZS} {a b N M : Nat} {f : Nat → Int32} {g : Nat → Int64} (h1 : zIA S a N f) (h2 : zJA S b M g) : a ≠ b := by
  intro h; subst h
  have := (show S.1 a = _ from h1).symm.trans (show S.1 a = _ from h2)
  simp at this
-- cubes
theorem sz3_b {a b d s : Nat} (h : szOK a b d) : 1 ≤ sz3 a b d s ∧ sz3 a b d s ≤ 4 := by
  unfold sz3
  obtain ⟨h1, h2, h3⟩ := h
  split
  · exact h1
  · split
    · exact h2
    · exact h3
theorem g_sizeOf {S : ZS} {c n a b d q s : Nat} {g : Nat → Nat} (h : zCu S c n a b d q g) (hs : s < 3) : fX0_sizeOf c (ci s) S = some (ci (sz3 a b d s)) := by
  unfold fX0_sizeOf
  rw [zgI_ob h.1 rfl, zgI_ob h.1 rfl, zgI_ob h.1 rfl, cl_0, cl_1]
  simp only [Option.bind_some, Option.bind_none, ci_eq (show s < 2147483648 by omega) (show 0 < 2147483648 by omega), ci_eq (show s < 2147483648 by omega) (show 1 < 2147483648 by omega)]
  unfold sz3
  by_cases h0 : s = 0
  · rw [if_pos h0, if_pos h0]; rfl
  · rw [if_neg h0, if_neg h0]
    by_cases h1 : s = 1
    · rw [if_pos h1, if_pos h1]; rfl
    · rw [if_neg h1, if_neg h1]; rfl
theorem zcl_cu {α : Type} {S : ZS} {c n a b d q : Nat} {g : Nat → Nat} {o : Option α} (h : zCu S c n a b d q g) : zcl S c 0 o = o := zcl_ob h.1
theorem ci_w {W : Nat → Nat} {q x : Nat} : (fun i => ci (va_up W q x i)) = va_up (fun i => ci (W i)) q (ci x) := by
  funext i
  unfold va_up
  by_cases hx : i = q <;> simp [hx]
def ix (i j k : Nat) : Nat := (i * 4 + j) * 4 + k
theorem g_idx' (i j k : Nat) : fX0_indexOf (ci i) (ci j) (ci k) = some (ci (ix i j k)) := g_idx i j k
theorem ix_lt {i j k : Nat} (hi : i < 4) (hj : j < 4) (hk : k < 4) : ix i j k < 64 := by unfold ix; omega
theorem ix_inj {i j k i' j' k' : Nat} (hj : j < 4) (hk : k < 4) (hj' : j' < 4) (hk' : k' < 4) : ix i j k = ix i' j' k' ↔ i = i' ∧ j = j' ∧ k = k' := by unfold ix; omega
theorem g_numberAt {S : ZS} {c n a b d q i j k : Nat} {g : Nat → Nat} (h : zCu S c n a b d q g) (hi : i < 4) (hj : j < 4) (hk : k < 4) : fX0_numberAt c (ci i) (ci j) (ci k) S = some (ci (g (ix i j k))) := by
  have hx := ix_lt hi hj hk
  unfold fX0_numberAt
  rw [zgR_ob h.1 rfl, g_idx']
  simp only [Option.bind_some, Option.bind_none]
  rw [g_get h.2 (by omega) (by omega), if_pos hx]
  rfl
theorem g_enter {S : ZS} {c n a b d q i j k v : Nat} {g : Nat → Nat} (h : zCu S c n a b d q g) (hi : i < 4) (hj : j < 4) (hk : k < 4) : ∃ S1, fX0_enter c (ci i) (ci j) (ci k) (ci v) S = some S1 ∧ zCu S1 c n a b d q (va_up g (ix i j k) v) ∧ zFrm S S1 (fun b => b = n) := by
  have hx := ix_lt hi hj hk
  refine ⟨_, ?_, ⟨?_, ?_⟩, zFrm.wI (N := 64) (f := va_up (fun i => ci (g i)) (ix i j k) (ci v))⟩
  · unfold fX0_enter
    rw [zgR_ob h.1 rfl, g_idx']
    simp only [Option.bind_some, Option.bind_none]
    rw [g_put (ci v) h.2 hx (by omega)]
    rfl
  · exact zFrm.wI.ob (ne_oi h.1 h.2) h.1
  · show zIA _ n 64 (fun x => ci (va_up g (ix i j k) v x))
    rw [ci_w]
    exact zwI_self
-- ways
theorem enc_b {p n : Nat} {d : Nat → Nat} (hp : isP p) (hn : n ≤ 4) (h : ∀ k, k < n → d k < p) : enc p n d < 2 ^ 10 := by
  have h1 := enc_lt (by have := hp.b; omega) h
  have h2 := hp.pow hn
  have : (2 : Nat) ^ 10 = 1024 := rfl
  omega
theorem zWy.eb {S : ZS} {w c n t p a b d sq k q s : Nat} {g : Nat → Nat} {v : Nat → Nat → Nat → Nat} (h : zWy S w c n t p a b d sq k g v) (hq : q < k) (hs : s < 3) : enc p (sz3 a b d s) (v q s) < 2 ^ 10 := enc_b h.1 (sz3_b h.2.1).2 (h.2.2.2.2.2.1 q hq s hs)
theorem w3_lt {S : ZS} {w c n t p a b d sq k q : Nat} {g : Nat → Nat} {v : Nat → Nat → Nat → Nat} (h : zWy S w c n t p a b d sq k g v) (hq : q < k) : w3 p a b d (v q) < 1073741824 := f3_lt (h.eb hq (s := 0) (by omega)) (h.eb hq (s := 1) (by omega)) (h.eb hq (s := 2) (by omega))
theorem g_shiftOf (s : Nat) : fX4_shiftOf (ci s) = some (ci (s * 10)) := by
  unfold fX4_shiftOf
  rw [cl_10, ci_mul]
theorem g_code {S : ZS} {w c n t p a b d sq k q s : Nat} {g : Nat → Nat} {v : Nat → Nat → Nat → Nat} (h : zWy S w c n t p a b d sq k g v) (hq : q < k) (hs : s < 3) : fX4_code w (ci q) (ci s) S = some (ci (enc p (sz3 a b d s) (v q s))) := by
  have hlt := w3_lt h hq
  have e0 : enc p a (v q 0) < 2 ^ 10 := h.eb hq (s := 0) (by omega)
  have e1 : enc p b (v q 1) < 2 ^ 10 := h.eb hq (s := 1) (by omega)
  have e2 : enc p d (v q 2) < 2 ^ 10 := h.eb hq (s := 2) (by omega)
  obtain ⟨hp, hsz, hk, hw, hc, hv, W, hW, hWv⟩ := h
  unfold fX4_code
  rw [zgR_ob hw rfl]
  simp only [Option.bind_some, Option.bind_none]
  rw [g_get hW (by omega) (by omega), if_pos (by omega), hWv q hq, g_shiftOf]
  simp only [Option.bind_some, Option.bind_none]
  rw [ci_ushr (by omega) (by omega), cl_1023, ci_and]
  have h3 : s = 0 ∨ s = 1 ∨ s = 2 := by omega
  rcases h3 with rfl | rfl | rfl
  · rw [show 0 * 10 = 0 from rfl, Nat.shiftRight_zero]
    unfold w3
    rw [f3_get0 e0 e1]; rfl
  · unfold w3
    rw [show 1 * 10 = 10 from rfl, f3_get1 e0 e1]; rfl
  · unfold w3
    rw [show 2 * 10 = 20 from rfl, f3_get2 e0 e1 e2]; rfl
def vset (v : Nat → Nat → Nat → Nat) (q s : Nat) (e : Nat → Nat) : Nat → Nat → Nat → Nat := fun q' s' => if q' = q ∧ s' = s then e else v q' s'
theorem vset_self {v : Nat → Nat → Nat → Nat} {q s : Nat} {e : Nat → Nat} : vset v q s e q s = e := by simp [vset]
theorem vset_ne {v : Nat → Nat → Nat → Nat} {q s q' s' : Nat} {e : Nat → Nat} (h : ¬ (q' = q ∧ s' = s)) : vset v q s e q' s' = v q' s' := by simp [vset, h]
theorem g_enterCode {S : ZS} {w c n t p a b d sq k q s : Nat} {g : Nat → Nat} {v : Nat → Nat → Nat → Nat} {e : Nat → Nat} (h : zWy S w c n t p a b d sq k g v) (hq : q < k) (hs : s < 3) (he : ∀ j, j < sz3 a b d s → e j < p) : ∃ S1, fX4_enterCode w (ci q) (ci s) (ci (enc p (sz3 a b d s) e)) S = some S1 ∧ zWy S1 w c n t p a b d sq k g (vset v q s e) ∧ zFrm S S1 (fun b => b = t) := by
  have hlt := w3_lt h hq
  have e0 : enc p a (v q 0) < 2 ^ 10 := h.eb hq (s := 0) (by omega)
  have e1 : enc p b (v q 1) < 2 ^ 10 := h.eb hq (s := 1) (by omega)
  have e2 : enc p d (v q 2) < 2 ^ 10 := h.eb hq (s := 2) (by omega)
  have ex := enc_b h.1 (sz3_b h.2.1 (s := s)).2 he
  obtain ⟨hp, hsz, hk, hw, hc, hv, W, hW, hWv⟩ := h
  have hfr : zFrm S (zwI S t 40 (fun i => ci (va_up W q (w3 p a b d (vset v q s e q)) i))) (fun b => b = t) := zFrm.wI
  refine ⟨zwI S t 40 (fun i => ci (va_up W q (w3 p a b d (vset v q s e q)) i)), ?_, ⟨hp, hsz, hk, hfr.ob (ne_oi hw hW) hw, hfr.cu (ne_oi hc.1 hW) (ne_ii hc.2 hW (by omega)) hc, ?_, _, zwI_self, ?_⟩, hfr⟩
  · unfold fX4_enterCode
    rw [zgR_ob hw rfl]
    simp only [Option.bind_some, Option.bind_none]
    rw [g_get hW (by omega) (by omega), if_pos (by omega), hWv q hq, g_shiftOf]
    simp only [Option.bind_some, Option.bind_none]
    rw [cl_1023, ci_m1, ci_shl (by omega), ci_shl (by omega), ci_xor, ci_and, ci_or, g_put _ hW (by omega) (by omega), ci_w]
    simp only [Option.bind_some, Option.bind_none]
    congr 4
    have h3 : s = 0 ∨ s = 1 ∨ s = 2 := by omega
    rcases h3 with rfl | rfl | rfl
    · unfold w3
      rw [show 0 * 10 = 0 from rfl, f3_set0 e0 e1 e2 ex, vset_self, vset_ne (by omega), vset_ne (by omega)]; rfl
    · unfold w3
      rw [show 1 * 10 = 10 from rfl, f3_set1 e0 e1 e2 ex, vset_self, vset_ne (by omega), vset_ne (by omega)]; rfl
    · unfold w3
      rw [show 2 * 10 = 20 from rfl, f3_set2 e0 e1 e2 ex, vset_self, vset_ne (by omega), vset_ne (by omega)]; rfl
  · intro q' hq' s' hs' j hj
    by_cases hqs : q' = q ∧ s' = s
    · obtain ⟨rfl, rfl⟩ := hqs
      rw [vset_self]; exact he j hj
    · rw [vset_ne hqs]; exact hv q' hq' s' hs' j hj
  · intro q' hq'
    by_cases hqq : q' = q
    · subst hqq; rw [va_up_self]
    · rw [va_up_ne _ _ hqq, hWv q' hq']
      have : vset v q s e q' = v q' := by
        funext s'
        exact vset_ne (fun h => hqq h.1)
      rw [this]
