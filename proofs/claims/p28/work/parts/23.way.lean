-- 23.way.lean.txt
/-! THE CLASS'S CUBES AND WAYS: what is in the heap -/
def sz3 (a b d s : Nat) : Nat := if s = 0 then a else if s = 1 then b else d
def zCu (S : ZS) (c n a b d q : Nat) (g : Nat → Nat) : Prop := zOb S c 0 [.int (ci a), .int (ci b), .int (ci d), .ref n, .int (ci q)] ∧ zIA S n 64 (fun i => ci (g i))
def szOK (a b d : Nat) : Prop := (1 ≤ a ∧ a ≤ 4) ∧ (1 ≤ b ∧ b ≤ 4) ∧ (1 ≤ d ∧ d ≤ 4)
def vOK (p a b d k : Nat) (v : Nat → Nat → Nat → Nat) : Prop := ∀ q, q < k → ∀ s, s < 3 → ∀ j, j < sz3 a b d s → v q s j < p
def w3 (p a b d : Nat) (u : Nat → Nat → Nat) : Nat := f3 (enc p a (u 0)) (enc p b (u 1)) (enc p d (u 2))
/-- a way at w: its cube at c with numbers at n, its triples at t; k products of the digits v -/
def zWy (S : ZS) (w c n t p a b d sq k : Nat) (g : Nat → Nat) (v : Nat → Nat → Nat → Nat) : Prop :=
  isP p ∧ szOK a b d ∧ k ≤ 40 ∧ zOb S w 4 [.ref c, .int (ci p), .ref t, .int (ci k)] ∧ zCu S c n a b d sq g ∧ vOK p a b d k v ∧ ∃ W : Nat → Nat, zIA S t 40 (fun q => ci (W q)) ∧ ∀ q, q < k → W q = w3 p a b d (v q)
def zFrm (S S' : ZS) (P : Nat → Prop) : Prop := S'.2 = S.2 ∧ ∀ b, ¬ P b → S'.1 b = S.1 b
theorem zFrm.rf {S : ZS} {P : Nat → Prop} : zFrm S S P := ⟨rfl, fun _ _ => rfl⟩
theorem zFrm.tr {S S1 S2 : ZS} {P : Nat → Prop} (h1 : zFrm S S1 P) (h2 : zFrm S1 S2 P) : zFrm S S2 P := ⟨h2.1.trans h1.1, fun b hb => (h2.2 b hb).trans (h1.2 b hb)⟩
theorem zFrm.wk {S S1 : ZS} {P Q : Nat → Prop} (h : zFrm S S1 P) (hPQ : ∀ b, P b → Q b) : zFrm S S1 Q := ⟨h.1, fun b hb => h.2 b (fun q => hb (hPQ b q))⟩
theorem zFrm.wI {S : ZS} {a N : Nat} {f : Nat → Int32} : zFrm S (zwI S a N f) (fun b => b = a) := ⟨rfl, fun _ hb => zwI_ne hb⟩
theorem zFrm.wJ {S : ZS} {a N : Nat} {f : Nat → Int64} : zFrm S (zwJ S a N f) (fun b => b = a) := ⟨rfl, fun _ hb => zwJ_ne hb⟩
theorem zFrm.wO {S : ZS} {a k : Nat} {fs : List Value} : zFrm S (zwO S a k fs) (fun b => b = a) := ⟨rfl, fun _ hb => zwO_ne hb⟩
theorem zFrm.ob {S S1 : ZS} {P : Nat → Prop} {a k : Nat} {fs : List Value} (h : zFrm S S1 P) (ha : ¬ P a) (ho : zOb S a k fs) : zOb S1 a k fs := (h.2 a ha).trans ho
theorem zFrm.ia {S S1 : ZS} {P : Nat → Prop} {a N : Nat} {f : Nat → Int32} (h : zFrm S S1 P) (ha : ¬ P a) (ho : zIA S a N f) : zIA S1 a N f := (h.2 a ha).trans ho
theorem zFrm.ja {S S1 : ZS} {P : Nat → Prop} {a N : Nat} {f : Nat → Int64} (h : zFrm S S1 P) (ha : ¬ P a) (ho : zJA S a N f) : zJA S1 a N f := (h.2 a ha).trans ho
theorem zFrm.cu {S S1 : ZS} {P : Nat → Prop} {c n a b d q : Nat} {g : Nat → Nat} (h : zFrm S S1 P) (hc : ¬ P c) (hn : ¬ P n) (ho : zCu S c n a b d q g) : zCu S1 c n a b d q g := ⟨h.ob hc ho.1, h.ia hn ho.2⟩
-- things of unlike shape lie apart
theorem ne_oi {S : ZS} {a b k N : Nat} {fs : List Value} {f : Nat → Int32} (h1 : zOb S a k fs) (h2 : zIA S b N f) : a ≠ b := by
  intro h; subst h
  have := (show S.1 a = _ from h1).symm.trans (show S.1 a = _ from h2)
  simp at this
theorem ne_oj {S : ZS} {a b k N : Nat} {fs : List Value} {f : Nat → Int64} (h1 : zOb S a k fs) (h2 : zJA S b N f) : a ≠ b := by
  intro h; subst h
  have := (show S.1 a = _ from h1).symm.trans (show S.1 a = _ from h2)
  simp at this
theorem ne_oo {S : ZS} {a b k j : Nat} {fs gs : List Value} (h1 : zOb S a k fs) (h2 : zOb S b j gs) (hk : k ≠ j) : a ≠ b := by
  intro h; subst h
  have := (show S.1 a = _ from h1).symm.trans (show S.1 a = _ from h2)
  simp at this
  exact hk this.1
theorem ne_ii {S : ZS} {a b N M : Nat} {f g : Nat → Int32} (h1 : zIA S a N f) (h2 : zIA S b M g) (hk : N ≠ M) : a ≠ b := by
  intro h; subst h
  have := (show S.1 a = _ from h1).symm.trans (show S.1 a = _ from h2)
  simp at this
  exact hk this.1
theorem ne_ij {S : ZS} {a b N M : Nat} {f : Nat → Int32} {g : Nat → Int64} (h1 : zIA S a N f) (h2 : zJA S b M g) : a ≠ b := by
  intro h; subst h
  have := (show S.1 a = _ from h1).symm.trans (show S.1 a = _ from h2)
  simp at this
-- cubes
theorem sz3_b {a b d s : Nat} (h : szOK a b d) : 1 ≤ sz3 a b d s ∧ sz3 a b d s ≤ 4 := by
  unfold sz3
  obtain ⟨h1, h2, h3⟩ := h
  split
  · exact h1
  · split
    · exact h2
    · exact h3
theorem g_sizeOf {S : ZS} {c n a b d q s : Nat} {g : Nat → Nat} (h : zCu S c n a b d q g) (hs : s < 3) : fX0_sizeOf c (ci s) S = some (ci (sz3 a b d s)) := by
  unfold fX0_sizeOf
  rw [zgI_ob h.1 rfl, zgI_ob h.1 rfl, zgI_ob h.1 rfl, cl_0, cl_1]
  simp only [Option.bind_some, Option.bind_none, ci_eq (show s < 2147483648 by omega) (show 0 < 2147483648 by omega), ci_eq (show s < 2147483648 by omega) (show 1 < 2147483648 by omega)]
  unfold sz3
  by_cases h0 : s = 0
  · rw [if_pos h0, if_pos h0]; rfl
  · rw [if_neg h0, if_neg h0]
    by_cases h1 : s = 1
    · rw [if_pos h1, if_pos h1]; rfl
    · rw [if_neg h1, if_neg h1]; rfl
theorem zcl_cu {α : Type} {S : ZS} {c n a b d q : Nat} {g : Nat → Nat} {o : Option α} (h : zCu S c n a b d q g) : zcl S c 0 o = o := zcl_ob h.1
theorem ci_w {W : Nat → Nat} {q x : Nat} : (fun i => ci (va_up W q x i)) = va_up (fun i => ci (W i)) q (ci x) := by
  funext i
  unfold va_up
  by_cases hx : i = q <;> simp [hx]
def ix (i j k : Nat) : Nat := (i * 4 + j) * 4 + k
theorem g_idx' (i j k : Nat) : fX0_indexOf (ci i) (ci j) (ci k) = some (ci (ix i j k)) := g_idx i j k
theorem ix_lt {i j k : Nat} (hi : i < 4) (hj : j < 4) (hk : k < 4) : ix i j k < 64 := by unfold ix; omega
theorem ix_inj {i j k i' j' k' : Nat} (hj : j < 4) (hk : k < 4) (hj' : j' < 4) (hk' : k' < 4) : ix i j k = ix i' j' k' ↔ i = i' ∧ j = j' ∧ k = k' := by unfold ix; omega
theorem g_numberAt {S : ZS} {c n a b d q i j k : Nat} {g : Nat → Nat} (h : zCu S c n a b d q g) (hi : i < 4) (hj : j < 4) (hk : k < 4) : fX0_numberAt c (ci i) (ci j) (ci k) S = some (ci (g (ix i j k))) := by
  have hx := ix_lt hi hj hk
  unfold fX0_numberAt
  rw [zgR_ob h.1 rfl, g_idx']
  simp only [Option.bind_some, Option.bind_none]
  rw [g_get h.2 (by omega) (by omega), if_pos hx]
  rfl
theorem g_enter {S : ZS} {c n a b d q i j k v : Nat} {g : Nat → Nat} (h : zCu S c n a b d q g) (hi : i < 4) (hj : j < 4) (hk : k < 4) : ∃ S1, fX0_enter c (ci i) (ci j) (ci k) (ci v) S = some S1 ∧ zCu S1 c n a b d q (va_up g (ix i j k) v) ∧ zFrm S S1 (fun b => b = n) := by
  have hx := ix_lt hi hj hk
  refine ⟨_, ?_, ⟨?_, ?_⟩, zFrm.wI (N := 64) (f := va_up (fun i => ci (g i)) (ix i j k) (ci v))⟩
  · unfold fX0_enter
    rw [zgR_ob h.1 rfl, g_idx']
    simp only [Option.bind_some, Option.bind_none]
    rw [g_put (ci v) h.2 hx (by omega)]
    rfl
  · exact zFrm.wI.ob (ne_oi h.1 h.2) h.1
  · show zIA _ n 64 (fun x => ci (va_up g (ix i j k) v x))
    rw [ci_w]
    exact zwI_self
-- ways
theorem enc_b {p n : Nat} {d : Nat → Nat} (hp : isP p) (hn : n ≤ 4) (h : ∀ k, k < n → d k < p) : enc p n d < 2 ^ 10 := by
  have h1 := enc_lt (by have := hp.b; omega) h
  have h2 := hp.pow hn
  have : (2 : Nat) ^ 10 = 1024 := rfl
  omega
theorem zWy.eb {S : ZS} {w c n t p a b d sq k q s : Nat} {g : Nat → Nat} {v : Nat → Nat → Nat → Nat} (h : zWy S w c n t p a b d sq k g v) (hq : q < k) (hs : s < 3) : enc p (sz3 a b d s) (v q s) < 2 ^ 10 := enc_b h.1 (sz3_b h.2.1).2 (h.2.2.2.2.2.1 q hq s hs)
theorem w3_lt {S : ZS} {w c n t p a b d sq k q : Nat} {g : Nat → Nat} {v : Nat → Nat → Nat → Nat} (h : zWy S w c n t p a b d sq k g v) (hq : q < k) : w3 p a b d (v q) < 1073741824 := f3_lt (h.eb hq (s := 0) (by omega)) (h.eb hq (s := 1) (by omega)) (h.eb hq (s := 2) (by omega))
theorem g_shiftOf (s : Nat) : fX4_shiftOf (ci s) = some (ci (s * 10)) := by
  unfold fX4_shiftOf
  rw [cl_10, ci_mul]
theorem g_code {S : ZS} {w c n t p a b d sq k q s : Nat} {g : Nat → Nat} {v : Nat → Nat → Nat → Nat} (h : zWy S w c n t p a b d sq k g v) (hq : q < k) (hs : s < 3) : fX4_code w (ci q) (ci s) S = some (ci (enc p (sz3 a b d s) (v q s))) := by
  have hlt := w3_lt h hq
  have e0 : enc p a (v q 0) < 2 ^ 10 := h.eb hq (s := 0) (by omega)
  have e1 : enc p b (v q 1) < 2 ^ 10 := h.eb hq (s := 1) (by omega)
  have e2 : enc p d (v q 2) < 2 ^ 10 := h.eb hq (s := 2) (by omega)
  obtain ⟨hp, hsz, hk, hw, hc, hv, W, hW, hWv⟩ := h
  unfold fX4_code
  rw [zgR_ob hw rfl]
  simp only [Option.bind_some, Option.bind_none]
  rw [g_get hW (by omega) (by omega), if_pos (by omega), hWv q hq, g_shiftOf]
  simp only [Option.bind_some, Option.bind_none]
  rw [ci_ushr (by omega) (by omega), cl_1023, ci_and]
  have h3 : s = 0 ∨ s = 1 ∨ s = 2 := by omega
  rcases h3 with rfl | rfl | rfl
  · rw [show 0 * 10 = 0 from rfl, Nat.shiftRight_zero]
    unfold w3
    rw [f3_get0 e0 e1]; rfl
  · unfold w3
    rw [show 1 * 10 = 10 from rfl, f3_get1 e0 e1]; rfl
  · unfold w3
    rw [show 2 * 10 = 20 from rfl, f3_get2 e0 e1 e2]; rfl
def vset (v : Nat → Nat → Nat → Nat) (q s : Nat) (e : Nat → Nat) : Nat → Nat → Nat → Nat := fun q' s' => if q' = q ∧ s' = s then e else v q' s'
theorem vset_self {v : Nat → Nat → Nat → Nat} {q s : Nat} {e : Nat → Nat} : vset v q s e q s = e := by simp [vset]
theorem vset_ne {v : Nat → Nat → Nat → Nat} {q s q' s' : Nat} {e : Nat → Nat} (h : ¬ (q' = q ∧ s' = s)) : vset v q s e q' s' = v q' s' := by simp [vset, h]
theorem g_enterCode {S : ZS} {w c n t p a b d sq k q s : Nat} {g : Nat → Nat} {v : Nat → Nat → Nat → Nat} {e : Nat → Nat} (h : zWy S w c n t p a b d sq k g v) (hq : q < k) (hs : s < 3) (he : ∀ j, j < sz3 a b d s → e j < p) : ∃ S1, fX4_enterCode w (ci q) (ci s) (ci (enc p (sz3 a b d s) e)) S = some S1 ∧ zWy S1 w c n t p a b d sq k g (vset v q s e) ∧ zFrm S S1 (fun b => b = t) := by
  have hlt := w3_lt h hq
  have e0 : enc p a (v q 0) < 2 ^ 10 := h.eb hq (s := 0) (by omega)
  have e1 : enc p b (v q 1) < 2 ^ 10 := h.eb hq (s := 1) (by omega)
  have e2 : enc p d (v q 2) < 2 ^ 10 := h.eb hq (s := 2) (by omega)
  have ex := enc_b h.1 (sz3_b h.2.1 (s := s)).2 he
  obtain ⟨hp, hsz, hk, hw, hc, hv, W, hW, hWv⟩ := h
  have hfr : zFrm S (zwI S t 40 (fun i => ci (va_up W q (w3 p a b d (vset v q s e q)) i))) (fun b => b = t) := zFrm.wI
  refine ⟨zwI S t 40 (fun i => ci (va_up W q (w3 p a b d (vset v q s e q)) i)), ?_, ⟨hp, hsz, hk, hfr.ob (ne_oi hw hW) hw, hfr.cu (ne_oi hc.1 hW) (ne_ii hc.2 hW (by omega)) hc, ?_, _, zwI_self, ?_⟩, hfr⟩
  · unfold fX4_enterCode
    rw [zgR_ob hw rfl]
    simp only [Option.bind_some, Option.bind_none]
    rw [g_get hW (by omega) (by omega), if_pos (by omega), hWv q hq, g_shiftOf]
    simp only [Option.bind_some, Option.bind_none]
    rw [cl_1023, ci_m1, ci_shl (by omega), ci_shl (by omega), ci_xor, ci_and, ci_or, g_put _ hW (by omega) (by omega), ci_w]
    simp only [Option.bind_some, Option.bind_none]
    congr 4
    have h3 : s = 0 ∨ s = 1 ∨ s = 2 := by omega
    rcases h3 with rfl | rfl | rfl
    · unfold w3
      rw [show 0 * 10 = 0 from rfl, f3_set0 e0 e1 e2 ex, vset_self, vset_ne (by omega), vset_ne (by omega)]; rfl
    · unfold w3
      rw [show 1 * 10 = 10 from rfl, f3_set1 e0 e1 e2 ex, vset_self, vset_ne (by omega), vset_ne (by omega)]; rfl
    · unfold w3
      rw [show 2 * 10 = 20 from rfl, f3_set2 e0 e1 e2 ex, vset_self, vset_ne (by omega), vset_ne (by omega)]; rfl
  · intro q' hq' s' hs' j hj
    by_cases hqs : q' = q ∧ s' = s
    · obtain ⟨rfl, rfl⟩ := hqs
      rw [vset_self]; exact he j hj
    · rw [vset_ne hqs]; exact hv q' hq' s' hs' j hj
  · intro q' hq'
    by_cases hqq : q' = q
    · subst hqq; rw [va_up_self]
    · rw [va_up_ne _ _ hqq, hWv q' hq']
      have : vset v q s e q' = v q' := by
        funext s'
        exact vset_ne (fun h => hqq h.1)
      rw [this]
-- 24.wayops.lean.txt
/-! THE CLASS'S WAYS: add, flip, compare, take out -/
def al (a b d : Nat) (v : Nat → Nat → Nat → Nat) (q r s : Nat) : Bool := decide (∀ j, j < sz3 a b d s → v q s j = v r s j)
def zv (a b d : Nat) (v : Nat → Nat → Nat → Nat) (q s : Nat) : Bool := decide (∀ j, j < sz3 a b d s → v q s j = 0)
def hz (a b d : Nat) (v : Nat → Nat → Nat → Nat) (q : Nat) : Bool := zv a b d v q 0 || zv a b d v q 1 || zv a b d v q 2
/-- the third side; 3 for none -/
def th (a b d : Nat) (v : Nat → Nat → Nat → Nat) (q r : Nat) : Nat := if al a b d v q r 0 && al a b d v q r 1 then 2 else if al a b d v q r 0 && al a b d v q r 2 then 1 else if al a b d v q r 1 && al a b d v q r 2 then 0 else 3
def vadd (p : Nat) (v : Nat → Nat → Nat → Nat) (q r s t : Nat) : Nat → Nat → Nat → Nat := vset v q s (fun j => (v q s j + t * v r s j) % p)
def lowS (s : Nat) : Nat := if s = 0 then 1 else 0
def highS (s : Nat) : Nat := if s = 2 then 1 else 2
def vturn (p : Nat) (v : Nat → Nat → Nat → Nat) (q r s : Nat) : Nat → Nat → Nat → Nat := vadd p (vadd p v q r (lowS s) 1) r q (highS s) (p - 1)
def vdel (v : Nat → Nat → Nat → Nat) (q : Nat) : Nat → Nat → Nat → Nat := fun i => if i < q then v i else v (i + 1)
theorem zWy.cu {S : ZS} {w c n t p a b d sq k : Nat} {g : Nat → Nat} {v : Nat → Nat → Nat → Nat} (h : zWy S w c n t p a b d sq k g v) : zCu S c n a b d sq g := h.2.2.2.2.1
theorem zWy.wa {S : ZS} {w c n t p a b d sq k : Nat} {g : Nat → Nat} {v : Nat → Nat → Nat → Nat} (h : zWy S w c n t p a b d sq k g v) : zOb S w 4 [.ref c, .int (ci p), .ref t, .int (ci k)] := h.2.2.2.1
theorem zWy.dv {S : ZS} {w c n t p a b d sq k q s j : Nat} {g : Nat → Nat} {v : Nat → Nat → Nat → Nat} (h : zWy S w c n t p a b d sq k g v) (hq : q < k) (hs : s < 3) (hj : j < sz3 a b d s) : dg p (sz3 a b d s) (enc p (sz3 a b d s) (v q s)) j = v q s j := dg_enc (by have := h.1.b; omega) (h.2.2.2.2.2.1 q hq s hs) hj
theorem g_addVector {S : ZS} {w c n t p a b d sq k q r s m : Nat} {g : Nat → Nat} {v : Nat → Nat → Nat → Nat} (h : zWy S w c n t p a b d sq k g v) (hq : q < k) (hr : r < k) (hs : s < 3) (hm : m < p) : ∃ S1, fX4_addVector w (ci q) (ci r) (ci s) (ci m) S = some S1 ∧ zWy S1 w c n t p a b d sq k g (vadd p v q r s m) ∧ zFrm S S1 (fun b => b = t) := by
  have hp := h.1.b
  have e1 := h.eb hq hs
  have e2 := h.eb hr hs
  have hn := sz3_b h.2.1 (s := s)
  obtain ⟨S1, f1, f2, f3⟩ := g_enterCode (e := fun j => (v q s j + m * v r s j) % p) h hq hs (fun j _ => Nat.mod_lt _ (by omega))
  refine ⟨S1, ?_, f2, f3⟩
  unfold fX4_addVector
  rw [zgR_ob h.wa rfl]
  simp only [Option.bind_some, Option.bind_none]
  rw [zcl_cu h.cu, g_sizeOf h.cu hs, zcl_ob h.wa, g_code h hq hs]
  simp only [Option.bind_some, Option.bind_none]
  rw [zcl_ob h.wa, g_code h hr hs]
  simp only [Option.bind_some, Option.bind_none]
  rw [zgI_ob h.wa rfl]
  simp only [Option.bind_some, Option.bind_none]
  rw [g_addedCode h.1 hn.2 (by omega) (by omega) hm]
  simp only [Option.bind_some, Option.bind_none]
  rw [zcl_ob h.wa]
  rw [enc_congr (e := fun j => (v q s j + m * v r s j) % p) (fun j hj => by rw [h.dv hq hs hj, h.dv hr hs hj]), f1]
  rfl
theorem g_turn {S : ZS} {w c n t p a b d sq k q r s : Nat} {g : Nat → Nat} {v : Nat → Nat → Nat → Nat} (h : zWy S w c n t p a b d sq k g v) (hq : q < k) (hr : r < k) (hs : s < 3) : ∃ S1, fX4_turn w (ci q) (ci r) (ci s) S = some S1 ∧ zWy S1 w c n t p a b d sq k g (vturn p v q r s) ∧ zFrm S S1 (fun b => b = t) := by
  have hp := h.1.b
  have hl : lowS s < 3 := by unfold lowS; split <;> omega
  have hh : highS s < 3 := by unfold highS; split <;> omega
  obtain ⟨S1, f1, f2, f3⟩ := g_addVector h hq hr hl (m := 1) (by omega)
  obtain ⟨S2, g1, g2, g3⟩ := g_addVector f2 hr hq hh (m := p - 1) (by omega)
  refine ⟨S2, ?_, g2, f3.tr g3⟩
  have key : ∀ l3 : Int32, l3 = ci s → fX4_turn_J9 w (ci q) (ci r) l3 (ci (lowS s)) S = some S2 := by
    intro l3 hl3
    subst hl3
    have k2 : fX4_turn_J21 w (ci q) (ci r) (ci (lowS s)) (ci (highS s)) S = some S2 := by
      unfold fX4_turn_J21
      rw [cl_1, zcl_ob h.wa, f1]
      simp only [Option.bind_some, Option.bind_none]
      rw [zgI_ob f2.wa rfl]
      simp only [Option.bind_some, Option.bind_none]
      rw [ci_sub (by omega), zcl_ob f2.wa, g1]
      rfl
    unfold fX4_turn_J9
    rw [cl_2]
    by_cases h2 : s = 2
    · rw [if_pos (by rw [h2])]
      unfold highS at k2
      rw [if_pos h2] at k2
      exact k2
    · rw [if_neg (by rw [ci_eq (by omega) (by omega)]; exact h2)]
      unfold highS at k2
      rw [if_neg h2] at k2
      exact k2
  unfold fX4_turn
  rw [cl_0]
  have k1 := key _ rfl
  unfold lowS at k1
  by_cases h0 : s = 0
  · rw [if_pos (by rw [h0])]
    rw [if_pos h0] at k1
    exact k1
  · rw [if_neg (by rw [ci_eq (by omega) (by omega)]; exact h0)]
    rw [if_neg h0] at k1
    exact k1
theorem zWy.same {S : ZS} {w c n t p a b d sq k q r s : Nat} {g : Nat → Nat} {v : Nat → Nat → Nat → Nat} (h : zWy S w c n t p a b d sq k g v) (hq : q < k) (hr : r < k) (hs : s < 3) : enc p (sz3 a b d s) (v q s) = enc p (sz3 a b d s) (v r s) ↔ al a b d v q r s = true := by
  rw [enc_inj (by have := h.1.b; omega) (h.2.2.2.2.2.1 q hq s hs) (h.2.2.2.2.2.1 r hr s hs)]
  unfold al
  rw [decide_eq_true_eq]
def bI (x : Bool) : Int32 := if x then 1 else 0
theorem zbl_bI (x : Bool) : zbl (bI x) = some (bI x) := by cases x <;> rfl
theorem bI_0 (x : Bool) : (bI x = 0) ↔ x = false := by cases x <;> decide
theorem g_isSame {S : ZS} {w c n t p a b d sq k q r s : Nat} {g : Nat → Nat} {v : Nat → Nat → Nat → Nat} (h : zWy S w c n t p a b d sq k g v) (hq : q < k) (hr : r < k) (hs : s < 3) : fX4_isSame w (ci q) (ci r) (ci s) S = some (bI (al a b d v q r s)) := by
  have e1 := h.eb hq hs
  have e2 := h.eb hr hs
  unfold fX4_isSame
  rw [zcl_ob h.wa, g_code h hq hs]
  simp only [Option.bind_some, Option.bind_none]
  rw [zcl_ob h.wa, g_code h hr hs]
  simp only [Option.bind_some, Option.bind_none]
  by_cases hh : al a b d v q r s = true
  · rw [if_pos ((ci_eq (by omega) (by omega)).mpr ((h.same hq hr hs).mpr hh)), hh]; rfl
  · rw [if_neg (fun q => hh ((h.same hq hr hs).mp ((ci_eq (by omega) (by omega)).mp q))), (Bool.not_eq_true _).mp hh]; rfl
theorem zWy.zero {S : ZS} {w c n t p a b d sq k q s : Nat} {g : Nat → Nat} {v : Nat → Nat → Nat → Nat} (h : zWy S w c n t p a b d sq k g v) (hq : q < k) (hs : s < 3) : ci (enc p (sz3 a b d s) (v q s)) = 0 ↔ zv a b d v q s = true := by
  have e1 := h.eb hq hs
  rw [cl_0, ci_eq (by omega) (by omega), enc_zero (by have := h.1.b; omega) (h.2.2.2.2.2.1 q hq s hs)]
  unfold zv
  rw [decide_eq_true_eq]
theorem g_hasZeros {S : ZS} {w c n t p a b d sq k q : Nat} {g : Nat → Nat} {v : Nat → Nat → Nat → Nat} (h : zWy S w c n t p a b d sq k g v) (hq : q < k) : fX4_hasZeros w (ci q) S = some (bI (hz a b d v q)) := by
  unfold fX4_hasZeros hz
  rw [zcl_ob h.wa, cl_1, cl_2, show (fX4_code w (ci q) (0 : Int32) S) = fX4_code w (ci q) (ci 0) S from rfl, g_code h hq (by omega)]
  simp only [Option.bind_some, Option.bind_none]
  cases h0 : zv a b d v q 0 with
  | true => rw [if_pos ((h.zero hq (by omega)).mpr h0)]; rfl
  | false =>
    rw [if_neg (fun q9 => by rw [h.zero hq (by omega), h0] at q9; cases q9), zcl_ob h.wa, g_code h hq (by omega)]
    simp only [Option.bind_some, Option.bind_none]
    cases h1 : zv a b d v q 1 with
    | true => rw [if_pos ((h.zero hq (by omega)).mpr h1)]; rfl
    | false =>
      rw [if_neg (fun q9 => by rw [h.zero hq (by omega), h1] at q9; cases q9), zcl_ob h.wa, g_code h hq (by omega)]
      simp only [Option.bind_some, Option.bind_none]
      cases h2 : zv a b d v q 2 with
      | true => rw [if_pos ((h.zero hq (by omega)).mpr h2)]; rfl
      | false => rw [if_neg (fun q9 => by rw [h.zero hq (by omega), h2] at q9; cases q9)]; rfl
def tI (x : Nat) : Int32 := if x = 3 then -1 else ci x
theorem g_sideToJoin {S : ZS} {w c n t p a b d sq k q r : Nat} {g : Nat → Nat} {v : Nat → Nat → Nat → Nat} (h : zWy S w c n t p a b d sq k g v) (hq : q < k) (hr : r < k) : fX4_sideToJoin w (ci q) (ci r) S = some (tI (th a b d v q r)) := by
  have hlt := w3_lt h hq
  have hlt2 := w3_lt h hr
  have e0 : enc p a (v q 0) < 2 ^ 10 := h.eb hq (s := 0) (by omega)
  have e1 : enc p b (v q 1) < 2 ^ 10 := h.eb hq (s := 1) (by omega)
  have e2 : enc p d (v q 2) < 2 ^ 10 := h.eb hq (s := 2) (by omega)
  have f0 : enc p a (v r 0) < 2 ^ 10 := h.eb hr (s := 0) (by omega)
  have f1 : enc p b (v r 1) < 2 ^ 10 := h.eb hr (s := 1) (by omega)
  have f2 : enc p d (v r 2) < 2 ^ 10 := h.eb hr (s := 2) (by omega)
  have s0 : enc p a (v q 0) = enc p a (v r 0) ↔ al a b d v q r 0 = true := h.same hq hr (s := 0) (by omega)
  have s1 : enc p b (v q 1) = enc p b (v r 1) ↔ al a b d v q r 1 = true := h.same hq hr (s := 1) (by omega)
  have s2 : enc p d (v q 2) = enc p d (v r 2) ↔ al a b d v q r 2 = true := h.same hq hr (s := 2) (by omega)
  have hk := h.2.2.1
  obtain ⟨W, hW, hWv⟩ := h.2.2.2.2.2.2
  have bnd : ∀ m k : Nat, m &&& (1023 <<< k) ≤ m := fun m k => Nat.and_le_left
  have hx : w3 p a b d (v q) ^^^ w3 p a b d (v r) < 2 ^ 30 := Nat.xor_lt_two_pow hlt hlt2
  have test : ∀ k, (ci ((w3 p a b d (v q) ^^^ w3 p a b d (v r)) &&& (1023 <<< k)) = 0) ↔ (w3 p a b d (v q) ^^^ w3 p a b d (v r)) &&& (1023 <<< k) = 0 := by
    intro k
    have := bnd (w3 p a b d (v q) ^^^ w3 p a b d (v r)) k
    rw [cl_0, ci_eq (by omega) (by omega)]
  have t0 := (test 0).trans (((f3_xor0 (c := enc p d (v q 2)) (f := enc p d (v r 2)) e0 e1 f0 f1)).trans s0)
  have t1 := (test 10).trans (((f3_xor1 (c := enc p d (v q 2)) (f := enc p d (v r 2)) e0 e1 f0 f1)).trans s1)
  have t2 := (test 20).trans (((f3_xor2 e0 e1 e2 f0 f1 f2)).trans s2)
  unfold fX4_sideToJoin
  rw [zgR_ob h.wa rfl]
  simp only [Option.bind_some, Option.bind_none]
  rw [g_get hW (by omega) (by omega), if_pos (by omega), hWv q hq, g_get hW (by omega) (by omega), if_pos (by omega), hWv r hr]
  simp only [Option.bind_some, Option.bind_none]
  rw [show fX4_shiftOf (0 : Int32) = some (ci 0) from rfl, ci_xor]
  simp only [Option.bind_some, Option.bind_none, fX4_sideToJoin_J36, fX4_sideToJoin_J56, show fX4_shiftOf (1 : Int32) = some (ci 10) from rfl, show fX4_shiftOf (2 : Int32) = some (ci 20) from rfl]
  rw [cl_1023, ci_shl (by omega), ci_shl (by omega), ci_shl (by omega), ci_and, ci_and, ci_and]
  simp only [t0, t1, t2]
  unfold th fX4_sideToJoin_J76 fX4_sideToJoin_J90 fX4_sideToJoin_J102 fX4_sideToJoin_J116 fX4_sideToJoin_J117 tI
  cases al a b d v q r 0 <;> cases al a b d v q r 1 <;> cases al a b d v q r 2 <;> rfl
-- 25.wayred.lean.txt
/-! THE CLASS'S WAYS: taken out, joined, shrunk -/
theorem ziter_1 {σ ρ : Type} {body : σ → Option (σ ⊕ ρ)} {x y : σ} {n : Nat} (h : body x = some (.inl y)) : ziter body (n + 1) x = ziter body n y := by
  rw [ziter, h]
theorem ziter_0 {σ ρ : Type} {body : σ → Option (σ ⊕ ρ)} {x : σ} {r : ρ} {n : Nat} (h : body x = some (.inr r)) : ziter body (n + 1) x = some r := by
  rw [ziter, h]
theorem ziter_up {ρ : Type} {body : Int32 → Option (Int32 ⊕ ρ)} {r : ρ} {N : Nat} (i m : Nat) (him : i ≤ m) (hN : m - i < N) (h : ∀ j, i ≤ j → j < m → body (ci j) = some (.inl (ci (j + 1)))) (hm : body (ci m) = some (.inr r)) : ziter body N (ci i) = some r := by
  have := ziter_seq (body := body) (fun k => ci (i + k)) r (m - i) N hN (fun k hk => h (i + k) (by omega) (by omega)) (by rw [show i + (m - i) = m by omega]; exact hm)
  exact this
/-- the first below n that P holds of, else n -/
def lf (P : Nat → Bool) : Nat → Nat
  | 0 => 0
  | n + 1 => if lf P n < n then lf P n else if P n = true then n else n + 1
theorem lf_le (P : Nat → Bool) (n : Nat) : lf P n ≤ n := by
  induction n with
  | zero => exact Nat.le_refl _
  | succ n ih => unfold lf; split <;> (try split) <;> omega
theorem lf_no {P : Nat → Bool} {n j : Nat} (h : j < lf P n) : P j = false := by
  induction n with
  | zero => cases h
  | succ n ih =>
    unfold lf at h
    have hl := lf_le P n
    by_cases h1 : lf P n < n
    · rw [if_pos h1] at h; exact ih h
    · rw [if_neg h1] at h
      by_cases h2 : P n = true
      · rw [if_pos h2] at h; exact ih (by omega)
      · rw [if_neg h2] at h
        by_cases h3 : j < n
        · exact ih (by omega)
        · have : j = n := by omega
          subst this; exact (Bool.not_eq_true _).mp h2
theorem lf_yes {P : Nat → Bool} {n : Nat} (h : lf P n < n) : P (lf P n) = true := by
  induction n with
  | zero => cases h
  | succ n ih =>
    unfold lf at h ⊢
    by_cases h1 : lf P n < n
    · rw [if_pos h1]; exact ih h1
    · rw [if_neg h1] at h ⊢
      by_cases h2 : P n = true
      · rw [if_pos h2]; exact h2
      · rw [if_neg h2] at h; omega
theorem lf_eq {P : Nat → Bool} {n m : Nat} (hm : m ≤ n) (h0 : ∀ j, j < m → P j = false) (h1 : m < n → P m = true) : lf P n = m := by
  have hl := lf_le P n
  rcases Nat.lt_trichotomy (lf P n) m with h | h | h
  · have := lf_yes (P := P) (n := n) (by omega)
    rw [h0 _ h] at this; cases this
  · exact h
  · have := lf_no h
    rw [h1 (by omega)] at this; cases this
theorem lf_congr {P Q : Nat → Bool} {n : Nat} (h : ∀ j, j < n → P j = Q j) : lf P n = lf Q n := by
  have hl := lf_le Q n
  refine lf_eq hl (fun j hj => ?_) (fun hj => ?_)
  · rw [h j (by omega)]; exact lf_no hj
  · rw [h _ hj]; exact lf_yes hj
def fz (a b d k : Nat) (v : Nat → Nat → Nat → Nat) : Nat := lf (fun q => hz a b d v q) k
def fr (a b d k : Nat) (v : Nat → Nat → Nat → Nat) (q : Nat) : Nat := lf (fun r => decide (q < r) && decide (th a b d v q r ≠ 3)) k
def fj (a b d k : Nat) (v : Nat → Nat → Nat → Nat) : Nat := lf (fun q => decide (fr a b d k v q < k)) k
def vjoin (p a b d k : Nat) (v : Nat → Nat → Nat → Nat) : Nat → Nat → Nat → Nat :=
  vdel (vadd p v (fj a b d k v) (fr a b d k v (fj a b d k v)) (th a b d v (fj a b d k v) (fr a b d k v (fj a b d k v))) 1) (fr a b d k v (fj a b d k v))
def red1 (p a b d k : Nat) (v : Nat → Nat → Nat → Nat) : Option (Nat → Nat → Nat → Nat) :=
  if fz a b d k v < k then some (vdel v (fz a b d k v)) else if fj a b d k v < k then some (vjoin p a b d k v) else none
def red (p a b d : Nat) : Nat → (Nat → Nat → Nat → Nat) → Nat × (Nat → Nat → Nat → Nat)
  | 0, v => (0, v)
  | k + 1, v => match red1 p a b d (k + 1) v with
    | some v' => red p a b d k v'
    | none => (k + 1, v)
theorem g_takeOut {S : ZS} {w c n t p a b d sq k q : Nat} {g : Nat → Nat} {v : Nat → Nat → Nat → Nat} (h : zWy S w c n t p a b d sq k g v) (hq : q < k) : ∃ S1, fX4_takeOut w (ci q) S = some S1 ∧ zWy S1 w c n t p a b d sq (k - 1) g (vdel v q) ∧ zFrm S S1 (fun b => b = w ∨ b = t) := by
  obtain ⟨hp, hsz, hk, hw, hc, hv, W, hW, hWv⟩ := h
  let st : Nat → ZS := fun i => zwI S t 40 (fun x => ci (if q ≤ x ∧ x < q + i then W (x + 1) else W x))
  have hst : ∀ i, zIA (st i) t 40 (fun x => ci (if q ≤ x ∧ x < q + i then W (x + 1) else W x)) := fun i => zwI_self
  have hfr : ∀ i, zFrm S (st i) (fun b => b = t) := fun i => zFrm.wI
  have hwi : ∀ i, zOb (st i) w 4 [.ref c, .int (ci p), .ref t, .int (ci k)] := fun i => (hfr i).ob (ne_oi hw hW) hw
  have h0 : st 0 = S := by
    show zwI S t 40 _ = S
    rw [show (fun x => ci (if q ≤ x ∧ x < q + 0 then W (x + 1) else W x)) = fun x => ci (W x) from by funext x; rw [if_neg (by omega)]]
    exact zwI_same hW
  have hf1 : zFrm (st (k - 1 - q)) (zwO (st (k - 1 - q)) w 4 [.ref c, .int (ci p), .ref t, .int (ci (k - 1))]) (fun b => b = w) := zFrm.wO
  have hf2 : zFrm S (zwO (st (k - 1 - q)) w 4 [.ref c, .int (ci p), .ref t, .int (ci (k - 1))]) (fun b => b = w ∨ b = t) := ((hfr _).wk (fun _ => Or.inr)).tr (hf1.wk (fun _ => Or.inl))
  refine ⟨zwO (st (k - 1 - q)) w 4 [.ref c, .int (ci p), .ref t, .int (ci (k - 1))], ?_, ⟨hp, hsz, by omega, zwO_self, ?_, ?_, ?_⟩, hf2⟩
  · unfold fX4_takeOut
    have := ziter_seq (body := fX4_takeOut_B4 w) (fun i => (ci (q + 1 + i), st i)) (zwO (st (k - 1 - q)) w 4 [.ref c, .int (ci p), .ref t, .int (ci (k - 1))]) (k - 1 - q) zF (by rw [zF_eq]; omega) ?_ ?_
    · rw [cl_1, ci_add]
      have h9 : ((ci (q + 1), S) : Int32 × ZS) = (ci (q + 1 + 0), st 0) := by rw [h0]
      rw [h9]; exact this
    · intro i hi
      unfold fX4_takeOut_B4
      simp only []
      rw [zgI_ob (hwi i) rfl]
      simp only [Option.bind_some, Option.bind_none]
      rw [if_neg (by rw [ci_le (by omega) (by omega)]; omega), zgR_ob (hwi i) rfl]
      simp only [Option.bind_some, Option.bind_none]
      rw [g_get (hst i) (by omega) (by omega), if_pos (by omega), if_neg (by omega)]
      simp only [Option.bind_some, Option.bind_none]
      rw [cl_1, ci_sub (by omega), g_put _ (hst i) (by omega) (by omega), ci_add]
      simp only [Option.bind_some, Option.bind_none]
      congr 3
      show zwI (zwI S t 40 _) t 40 _ = zwI S t 40 _
      rw [zwI_2]
      congr 1
      funext x
      unfold va_up
      by_cases hx : x = q + 1 + i - 1
      · rw [if_pos hx, if_pos (by omega), show x + 1 = q + 1 + i by omega]
      · rw [if_neg hx]
        show ci (if q ≤ x ∧ x < q + i then W (x + 1) else W x) = _
        by_cases h8 : q ≤ x ∧ x < q + i
        · rw [if_pos h8, if_pos (by omega)]
        · rw [if_neg h8, if_neg (by omega)]
    · unfold fX4_takeOut_B4
      simp only []
      rw [zgI_ob (hwi _) rfl]
      simp only [Option.bind_some, Option.bind_none]
      rw [if_pos (by rw [ci_le (by omega) (by omega)]; omega), cl_1, ci_sub (by omega), zpF_ob _ (hwi _) (by simp)]
      rfl
  · exact hf2.cu (by rintro (hh | hh); exact ne_oo hc.1 hw (by omega) hh; exact ne_oi hc.1 hW hh) (by rintro (hh | hh); exact (ne_oi hw hc.2) hh.symm; exact ne_ii hc.2 hW (by omega) hh) hc
  · intro q' hq' s hs j hj
    unfold vdel
    by_cases h1 : q' < q
    · rw [if_pos h1]; exact hv q' (by omega) s hs j hj
    · rw [if_neg h1]; exact hv (q' + 1) (by omega) s hs j hj
  · refine ⟨_, hf1.ia (fun hh => ne_oi hw hW hh.symm) (hst _), ?_⟩
    intro q' hq'
    unfold vdel
    by_cases h1 : q' < q
    · rw [if_neg (by omega), if_pos h1]; exact hWv q' (by omega)
    · rw [if_pos (by omega), if_neg h1]; exact hWv (q' + 1) (by omega)
theorem zWy.kk {S : ZS} {w c n t p a b d sq k : Nat} {g : Nat → Nat} {v : Nat → Nat → Nat → Nat} (h : zWy S w c n t p a b d sq k g v) : k ≤ 40 := h.2.2.1
theorem g_takeOutZeros {S : ZS} {w c n t p a b d sq k : Nat} {g : Nat → Nat} {v : Nat → Nat → Nat → Nat} (h : zWy S w c n t p a b d sq k g v) :
    (fz a b d k v < k → ∃ S1, fX4_takeOutZeros w S = some (1, S1) ∧ zWy S1 w c n t p a b d sq (k - 1) g (vdel v (fz a b d k v)) ∧ zFrm S S1 (fun b => b = w ∨ b = t)) ∧ (¬ fz a b d k v < k → fX4_takeOutZeros w S = some (0, S)) := by
  have hk := h.kk
  have hle : fz a b d k v ≤ k := lf_le _ _
  have stp : ∀ j, 0 ≤ j → j < fz a b d k v → fX4_takeOutZeros_B2 w S (ci j) = some (.inl (ci (j + 1))) := by
    intro j _ hj
    unfold fX4_takeOutZeros_B2
    rw [zgI_ob h.wa rfl]
    simp only [Option.bind_some, Option.bind_none]
    rw [if_neg (by rw [ci_le (by omega) (by omega)]; omega), zcl_ob h.wa, g_hasZeros h (by omega)]
    have := lf_no hj
    simp only [Option.bind_some, Option.bind_none]
    rw [if_pos ((bI_0 _).mpr this), cl_1, ci_add]
  unfold fX4_takeOutZeros
  rw [cl_0]
  constructor
  · intro hlt
    obtain ⟨S1, f1, f2, f3⟩ := g_takeOut h hlt
    refine ⟨S1, ziter_up 0 (fz a b d k v) (by omega) (by rw [zF_eq]; omega) stp ?_, f2, f3⟩
    unfold fX4_takeOutZeros_B2
    rw [zgI_ob h.wa rfl]
    simp only [Option.bind_some, Option.bind_none]
    rw [if_neg (by rw [ci_le (by omega) (by omega)]; omega), zcl_ob h.wa, g_hasZeros h hlt]
    have := lf_yes (P := fun q => hz a b d v q) hlt
    simp only [Option.bind_some, Option.bind_none]
    rw [if_neg (by rw [bI_0]; intro hh; rw [show hz a b d v (fz a b d k v) = true from this] at hh; cases hh), zcl_ob h.wa, f1]
    rfl
  · intro hlt
    refine ziter_up 0 (fz a b d k v) (by omega) (by rw [zF_eq]; omega) stp ?_
    unfold fX4_takeOutZeros_B2
    rw [zgI_ob h.wa rfl]
    simp only [Option.bind_some, Option.bind_none]
    rw [if_pos (by rw [ci_le (by omega) (by omega)]; omega)]
    rfl
theorem tI_3 {x : Nat} (h : x ≤ 3) : tI x = (-1 : Int32) ↔ x = 3 := by
  have : x = 0 ∨ x = 1 ∨ x = 2 ∨ x = 3 := by omega
  rcases this with rfl | rfl | rfl | rfl <;> decide
theorem th_le (a b d : Nat) (v : Nat → Nat → Nat → Nat) (q r : Nat) : th a b d v q r ≤ 3 := by
  unfold th; split <;> (try split) <;> (try split) <;> omega
theorem g_joinProducts {S : ZS} {w c n t p a b d sq k : Nat} {g : Nat → Nat} {v : Nat → Nat → Nat → Nat} (h : zWy S w c n t p a b d sq k g v) :
    (fj a b d k v < k → ∃ S1, fX4_joinProducts w S = some (1, S1) ∧ zWy S1 w c n t p a b d sq (k - 1) g (vjoin p a b d k v) ∧ zFrm S S1 (fun b => b = w ∨ b = t)) ∧ (¬ fj a b d k v < k → fX4_joinProducts w S = some (0, S)) := by
  have hk := h.kk
  have hp := h.1.b
  have hle : fj a b d k v ≤ k := lf_le _ _
  have hler : ∀ q, fr a b d k v q ≤ k := fun q => lf_le _ _
  have inn : ∀ q, q < k → ∀ j, q + 1 ≤ j → j < fr a b d k v q → fX4_joinProducts_B14 w (ci q) S (ci j) = some (.inl (ci (j + 1))) := by
    intro q hq j hj0 hj
    have hr := hler q
    unfold fX4_joinProducts_B14
    rw [zgI_ob h.wa rfl]
    simp only [Option.bind_some, Option.bind_none]
    rw [if_neg (by rw [ci_le (by omega) (by omega)]; omega), zcl_ob h.wa, g_sideToJoin h (by omega) (by omega)]
    have h9 := lf_no hj
    have h8 : th a b d v q j = 3 := by
      simp only [decide_eq_true (show q < j by omega), Bool.true_and, decide_eq_false_iff_not, Decidable.not_not] at h9
      exact h9
    simp only [Option.bind_some, Option.bind_none]
    rw [if_pos ((tI_3 (th_le _ _ _ _ _ _)).mpr h8), cl_1, ci_add]
  have stp : ∀ q, 0 ≤ q → q < fj a b d k v → fX4_joinProducts_B2 w S (ci q) = some (.inl (ci (q + 1))) := by
    intro q _ hq
    have hnr : ¬ fr a b d k v q < k := by
      have := lf_no hq
      simp only [decide_eq_false_iff_not] at this
      exact this
    have hr := hler q
    unfold fX4_joinProducts_B2
    rw [zgI_ob h.wa rfl]
    simp only [Option.bind_some, Option.bind_none]
    rw [if_neg (by rw [ci_le (by omega) (by omega)]; omega), cl_1, ci_add]
    refine ziter_up (q + 1) k (by omega) (by rw [zF_eq]; omega) (fun j h1 h2 => inn q (by omega) j h1 (by omega)) ?_
    unfold fX4_joinProducts_B14
    rw [zgI_ob h.wa rfl]
    simp only [Option.bind_some, Option.bind_none]
    rw [if_pos (by rw [ci_le (by omega) (by omega)]; omega), cl_1, ci_add]
    rfl
  unfold fX4_joinProducts
  rw [cl_0]
  constructor
  · intro hlt
    have hy := lf_yes (P := fun q => decide (fr a b d k v q < k)) hlt
    have hyr : fr a b d k v (fj a b d k v) < k := of_decide_eq_true hy
    have hz2 := lf_yes (P := fun r => decide (fj a b d k v < r) && decide (th a b d v (fj a b d k v) r ≠ 3)) hyr
    rw [Bool.and_eq_true, decide_eq_true_eq, decide_eq_true_eq] at hz2
    have hz3 : fj a b d k v < fr a b d k v (fj a b d k v) := hz2.1
    have hz4 : th a b d v (fj a b d k v) (fr a b d k v (fj a b d k v)) ≠ 3 := hz2.2
    have hth := th_le a b d v (fj a b d k v) (fr a b d k v (fj a b d k v))
    obtain ⟨S1, f1, f2, f3⟩ := g_addVector h hlt hyr (s := th a b d v (fj a b d k v) (fr a b d k v (fj a b d k v))) (m := 1) (by omega) (by omega)
    obtain ⟨S2, g1, g2, g3⟩ := g_takeOut f2 hyr
    refine ⟨S2, ziter_up 0 (fj a b d k v) (by omega) (by rw [zF_eq]; omega) stp ?_, g2, (f3.wk (fun _ => Or.inr)).tr g3⟩
    unfold fX4_joinProducts_B2
    rw [zgI_ob h.wa rfl]
    simp only [Option.bind_some, Option.bind_none]
    rw [if_neg (by rw [ci_le (by omega) (by omega)]; omega), cl_1, ci_add]
    refine ziter_up (fj a b d k v + 1) (fr a b d k v (fj a b d k v)) (by omega) (by rw [zF_eq]; omega) (fun j h1 h2 => inn _ hlt j h1 (by omega)) ?_
    unfold fX4_joinProducts_B14
    rw [zgI_ob h.wa rfl]
    simp only [Option.bind_some, Option.bind_none]
    rw [if_neg (by rw [ci_le (by omega) (by omega)]; omega), zcl_ob h.wa, g_sideToJoin h (by omega) (by omega)]
    simp only [Option.bind_some, Option.bind_none]
    rw [if_neg (by rw [tI_3 hth]; exact hz4), zcl_ob h.wa, cl_1]
    rw [show tI (th a b d v (fj a b d k v) (fr a b d k v (fj a b d k v))) = ci (th a b d v (fj a b d k v) (fr a b d k v (fj a b d k v))) from by unfold tI; rw [if_neg hz4], f1]
    simp only [Option.bind_some, Option.bind_none]
    rw [zcl_ob f2.wa, g1]
    rfl
  · intro hlt
    refine ziter_up 0 (fj a b d k v) (by omega) (by rw [zF_eq]; omega) stp ?_
    unfold fX4_joinProducts_B2
    rw [zgI_ob h.wa rfl]
    simp only [Option.bind_some, Option.bind_none]
    rw [if_pos (by rw [ci_le (by omega) (by omega)]; omega)]
    rfl
theorem red_le (p a b d : Nat) : ∀ (k : Nat) (v : Nat → Nat → Nat → Nat), (red p a b d k v).1 ≤ k
  | 0, v => Nat.le_refl _
  | k + 1, v => by
    unfold red
    split
    · exact Nat.le_trans (red_le p a b d k _) (by omega)
    · exact Nat.le_refl _
theorem shrink_loop {w c n t p a b d sq B : Nat} {g : Nat → Nat} (hB : B ≤ 40) : ∀ (k : Nat) (v : Nat → Nat → Nat → Nat) (S : ZS) (N : Nat), k < N → k ≤ B → zWy S w c n t p a b d sq k g v → ∃ S1, ziter (fX4_shrink_B7 w (ci B)) N (ci (B - k), S) = some (ci (B - (red p a b d k v).1), S1) ∧ zWy S1 w c n t p a b d sq (red p a b d k v).1 g (red p a b d k v).2 ∧ zFrm S S1 (fun b => b = w ∨ b = t) := by
  intro k
  induction k with
  | zero =>
    intro v S N hN hkB h
    obtain ⟨N', rfl⟩ : ∃ N', N = N' + 1 := ⟨N - 1, by omega⟩
    refine ⟨S, ziter_0 ?_, h, zFrm.rf⟩
    unfold fX4_shrink_B7
    simp only []
    rw [if_pos (by rw [ci_le (by omega) (by omega)]; omega)]
    unfold fX4_shrink_J35
    rw [zgI_ob h.wa rfl]
    simp only [Option.bind_some, Option.bind_none]
    rw [ci_sub (by omega)]
    rfl
  | succ k ih =>
    intro v S N hN hkB h
    obtain ⟨N', rfl⟩ : ∃ N', N = N' + 1 := ⟨N - 1, by omega⟩
    obtain ⟨z1, z2⟩ := g_takeOutZeros h
    by_cases hz1 : fz a b d (k + 1) v < k + 1
    · obtain ⟨S1, f1, f2, f3⟩ := z1 hz1
      have hr : red p a b d (k + 1) v = red p a b d k (vdel v (fz a b d (k + 1) v)) := by
        rw [red]; unfold red1; rw [if_pos hz1]
      rw [hr]
      obtain ⟨S2, g1, g2, g3⟩ := ih _ S1 N' (by omega) (by omega) f2
      refine ⟨S2, ?_, g2, f3.tr g3⟩
      rw [ziter_1 (y := (ci (B - k), S1)), g1]
      unfold fX4_shrink_B7
      simp only []
      rw [if_neg (by rw [ci_le (by omega) (by omega)]; omega), zcl_ob h.wa, f1]
      simp only [Option.bind_some, Option.bind_none]
      rw [if_neg (by decide)]
      unfold fX4_shrink_J29
      rw [cl_1, ci_add, show B - (k + 1) + 1 = B - k by omega]
    · have f1 := z2 hz1
      obtain ⟨j1, j2⟩ := g_joinProducts h
      by_cases hj : fj a b d (k + 1) v < k + 1
      · obtain ⟨S1, e1, e2, e3⟩ := j1 hj
        have hr : red p a b d (k + 1) v = red p a b d k (vjoin p a b d (k + 1) v) := by
          rw [red]; unfold red1; rw [if_neg hz1, if_pos hj]
        rw [hr]
        obtain ⟨S2, g1, g2, g3⟩ := ih _ S1 N' (by omega) (by omega) e2
        refine ⟨S2, ?_, g2, e3.tr g3⟩
        rw [ziter_1 (y := (ci (B - k), S1)), g1]
        unfold fX4_shrink_B7
        simp only []
        rw [if_neg (by rw [ci_le (by omega) (by omega)]; omega), zcl_ob h.wa, f1]
        simp only [Option.bind_some, Option.bind_none]
        rw [if_pos trivial, zcl_ob h.wa, e1]
        simp only [Option.bind_some, Option.bind_none]
        rw [if_neg (by decide)]
        unfold fX4_shrink_J29
        rw [cl_1, ci_add, show B - (k + 1) + 1 = B - k by omega]
      · have e1 := j2 hj
        have hr : red p a b d (k + 1) v = (k + 1, v) := by
          rw [red]; unfold red1; rw [if_neg hz1, if_neg hj]
        rw [hr]
        refine ⟨S, ziter_0 ?_, h, zFrm.rf⟩
        unfold fX4_shrink_B7
        simp only []
        rw [if_neg (by rw [ci_le (by omega) (by omega)]; omega), zcl_ob h.wa, f1]
        simp only [Option.bind_some, Option.bind_none]
        rw [if_pos trivial, zcl_ob h.wa, e1]
        simp only [Option.bind_some, Option.bind_none]
        rw [if_pos trivial]
        unfold fX4_shrink_J35
        rw [zgI_ob h.wa rfl]
        simp only [Option.bind_some, Option.bind_none]
        rw [ci_sub (by omega)]
        rfl
theorem g_shrink {S : ZS} {w c n t p a b d sq k : Nat} {g : Nat → Nat} {v : Nat → Nat → Nat → Nat} (h : zWy S w c n t p a b d sq k g v) : ∃ S1, fX4_shrink w S = some (ci (k - (red p a b d k v).1), S1) ∧ zWy S1 w c n t p a b d sq (red p a b d k v).1 g (red p a b d k v).2 ∧ zFrm S S1 (fun b => b = w ∨ b = t) := by
  have hk := h.kk
  obtain ⟨S1, f1, f2, f3⟩ := shrink_loop (B := k) hk k v S zF (by rw [zF_eq]; omega) (Nat.le_refl _) h
  refine ⟨S1, ?_, f2, f3⟩
  unfold fX4_shrink
  rw [zgI_ob h.wa rfl]
  simp only [Option.bind_some, Option.bind_none]
  rw [Nat.sub_self] at f1
  rw [cl_0]
  exact f1
-- 26.walk.lean.txt
/-! THE CLASS'S WAYS: the walk -/
def draw (x : Nat) : Nat := (x * 25173 + 13849) % 65536
theorem draw_lt (x : Nat) : draw x < 65536 := Nat.mod_lt _ (by omega)
theorem g_draw {x : Nat} (h : x < 65536) : fX4_draw (ci x) = some (ci (draw x)) := by
  unfold fX4_draw
  rw [cl_25173, cl_13849, cl_65536, ci_mul, ci_add, g_rem (by omega) (by omega) (by omega)]
  rfl
theorem red1_none {p a b d k : Nat} {v : Nat → Nat → Nat → Nat} : red1 p a b d k v = none ↔ (∀ q, q < k → hz a b d v q = false) ∧ (∀ q r, q < r → r < k → th a b d v q r = 3) := by
  have hle : fz a b d k v ≤ k := lf_le _ _
  have hle2 : fj a b d k v ≤ k := lf_le _ _
  have hler : ∀ q, fr a b d k v q ≤ k := fun q => lf_le _ _
  constructor
  · intro h
    unfold red1 at h
    by_cases h1 : fz a b d k v < k
    · rw [if_pos h1] at h; cases h
    · rw [if_neg h1] at h
      by_cases h2 : fj a b d k v < k
      · rw [if_pos h2] at h; cases h
      · refine ⟨fun q hq => lf_no (P := fun q => hz a b d v q) (n := k) (show q < fz a b d k v by omega), fun q r hqr hr => ?_⟩
        have h3 := lf_no (P := fun q => decide (fr a b d k v q < k)) (n := k) (show q < fj a b d k v by omega)
        have h4 : ¬ fr a b d k v q < k := of_decide_eq_false h3
        have h5 := lf_no (P := fun r => decide (q < r) && decide (th a b d v q r ≠ 3)) (n := k) (show r < fr a b d k v q by have := hler q; omega)
        simp only [decide_eq_true hqr, Bool.true_and, decide_eq_false_iff_not, Decidable.not_not] at h5
        exact h5
  · rintro ⟨h1, h2⟩
    unfold red1
    have e1 : fz a b d k v = k := lf_eq (Nat.le_refl _) (fun j hj => h1 j hj) (fun h => absurd h (by omega))
    have e2 : fj a b d k v = k := by
      refine lf_eq (Nat.le_refl _) (fun j hj => ?_) (fun h => absurd h (by omega))
      have : fr a b d k v j = k := by
        refine lf_eq (Nat.le_refl _) (fun r hr => ?_) (fun h => absurd h (by omega))
        by_cases hjr : j < r
        · simp [h2 j r hjr hr]
        · simp [hjr]
      rw [this]; simp
    rw [e1, e2, if_neg (by omega), if_neg (by omega)]
theorem red_none {p a b d k : Nat} {v : Nat → Nat → Nat → Nat} (h : red1 p a b d k v = none) : red p a b d k v = (k, v) := by
  cases k with
  | zero => rfl
  | succ k => rw [red, h]
theorem red_fin (p a b d : Nat) : ∀ (k : Nat) (v : Nat → Nat → Nat → Nat), red1 p a b d (red p a b d k v).1 (red p a b d k v).2 = none := by
  intro k
  induction k with
  | zero => intro v; rw [red1_none]; exact ⟨fun q hq => absurd hq (Nat.not_lt_zero _), fun q r _ hr => absurd hr (Nat.not_lt_zero _)⟩
  | succ k ih =>
    intro v
    cases h : red1 p a b d (k + 1) v with
    | none => rw [red_none h]; exact h
    | some v' => rw [red, h]; exact ih v'
def rdx (a b d k : Nat) (v : Nat → Nat → Nat → Nat) (q : Nat) : Bool := hz a b d v q || decide (lf (fun r => decide (r ≠ q) && decide (th a b d v q r ≠ 3)) k < k)
theorem g_isReducible {S : ZS} {w c n t p a b d sq k q : Nat} {g : Nat → Nat} {v : Nat → Nat → Nat → Nat} (h : zWy S w c n t p a b d sq k g v) (hq : q < k) : fX4_isReducible w (ci q) S = some (bI (rdx a b d k v q)) := by
  have hk := h.kk
  have hle : lf (fun r => decide (r ≠ q) && decide (th a b d v q r ≠ 3)) k ≤ k := lf_le _ _
  unfold fX4_isReducible
  rw [zcl_ob h.wa, g_hasZeros h hq]
  simp only [Option.bind_some, Option.bind_none]
  unfold rdx
  cases hz0 : hz a b d v q with
  | true => rw [if_neg (by rw [bI_0]; intro hh; cases hh)]; rfl
  | false =>
    rw [if_pos ((bI_0 _).mpr rfl), cl_0, Bool.false_or]
    have stp : ∀ j, 0 ≤ j → j < lf (fun r => decide (r ≠ q) && decide (th a b d v q r ≠ 3)) k → fX4_isReducible_B12 w (ci q) S (ci j) = some (.inl (ci (j + 1))) := by
      intro j _ hj
      have h9 := lf_no hj
      unfold fX4_isReducible_B12
      rw [zgI_ob h.wa rfl]
      simp only [Option.bind_some, Option.bind_none]
      rw [if_neg (by rw [ci_le (by omega) (by omega)]; omega)]
      unfold fX4_isReducible_J37
      by_cases hjq : j = q
      · rw [if_pos (by rw [hjq]), cl_1, ci_add]
      · have h8 : th a b d v q j = 3 := by
          simp only [decide_eq_true (show j ≠ q from hjq), Bool.true_and, decide_eq_false_iff_not, Decidable.not_not] at h9
          exact h9
        rw [if_neg (by rw [ci_eq (by omega) (by omega)]; exact hjq), zcl_ob h.wa, g_sideToJoin h hq (by omega)]
        simp only [Option.bind_some, Option.bind_none]
        rw [if_pos ((tI_3 (th_le _ _ _ _ _ _)).mpr h8), cl_1, ci_add]
    by_cases hlt : lf (fun r => decide (r ≠ q) && decide (th a b d v q r ≠ 3)) k < k
    · have hy := lf_yes hlt
      rw [decide_eq_true hlt]
      refine ziter_up 0 _ (by omega) (by rw [zF_eq]; omega) stp ?_
      rw [Bool.and_eq_true, decide_eq_true_eq, decide_eq_true_eq] at hy
      unfold fX4_isReducible_B12
      rw [zgI_ob h.wa rfl]
      simp only [Option.bind_some, Option.bind_none]
      rw [if_neg (by rw [ci_le (by omega) (by omega)]; omega), if_neg (by rw [ci_eq (by omega) (by omega)]; exact hy.1), zcl_ob h.wa, g_sideToJoin h hq (by omega)]
      simp only [Option.bind_some, Option.bind_none]
      rw [if_neg (by rw [tI_3 (th_le _ _ _ _ _ _)]; exact hy.2)]
      rfl
    · rw [decide_eq_false hlt]
      refine ziter_up 0 _ (by omega) (by rw [zF_eq]; omega) stp ?_
      unfold fX4_isReducible_B12
      rw [zgI_ob h.wa rfl]
      simp only [Option.bind_some, Option.bind_none]
      rw [if_pos (by rw [ci_le (by omega) (by omega)]; omega)]
      rfl
theorem rdx_no {a b d k q : Nat} {v : Nat → Nat → Nat → Nat} (h : rdx a b d k v q = false) : hz a b d v q = false ∧ ∀ r, r < k → r ≠ q → th a b d v q r = 3 := by
  unfold rdx at h
  rw [Bool.or_eq_false_iff, decide_eq_false_iff_not] at h
  refine ⟨h.1, fun r hr hrq => ?_⟩
  have hle : lf (fun r => decide (r ≠ q) && decide (th a b d v q r ≠ 3)) k ≤ k := lf_le _ _
  have := lf_no (P := fun r => decide (r ≠ q) && decide (th a b d v q r ≠ 3)) (n := k) (j := r) (by have := h.2; omega)
  simp only [decide_eq_true (show r ≠ q from hrq), Bool.true_and, decide_eq_false_iff_not, Decidable.not_not] at this
  exact this
theorem al_comm (a b d : Nat) (v : Nat → Nat → Nat → Nat) (q r s : Nat) : al a b d v q r s = al a b d v r q s := by
  unfold al
  congr 1
  exact propext ⟨fun h j hj => (h j hj).symm, fun h j hj => (h j hj).symm⟩
theorem th_comm (a b d : Nat) (v : Nat → Nat → Nat → Nat) (q r : Nat) : th a b d v q r = th a b d v r q := by
  unfold th
  rw [al_comm a b d v q r 0, al_comm a b d v q r 1, al_comm a b d v q r 2]
theorem al_row {a b d : Nat} {v v' : Nat → Nat → Nat → Nat} {q r s : Nat} (h1 : v' q = v q) (h2 : v' r = v r) : al a b d v' q r s = al a b d v q r s := by
  unfold al; rw [h1, h2]
theorem th_row {a b d : Nat} {v v' : Nat → Nat → Nat → Nat} {q r : Nat} (h1 : v' q = v q) (h2 : v' r = v r) : th a b d v' q r = th a b d v q r := by
  unfold th; rw [al_row h1 h2, al_row h1 h2, al_row h1 h2]
theorem hz_row {a b d : Nat} {v v' : Nat → Nat → Nat → Nat} {q : Nat} (h1 : v' q = v q) : hz a b d v' q = hz a b d v q := by
  unfold hz zv; rw [h1]
theorem vadd_row {p : Nat} {v : Nat → Nat → Nat → Nat} {q r s t x : Nat} (h : x ≠ q) : vadd p v q r s t x = v x := by
  unfold vadd
  funext s'
  exact vset_ne (fun hh => h hh.1)
theorem vturn_row {p : Nat} {v : Nat → Nat → Nat → Nat} {q r s x : Nat} (h1 : x ≠ q) (h2 : x ≠ r) : vturn p v q r s x = v x := by
  unfold vturn
  rw [vadd_row h2, vadd_row h1]
theorem red1_keep {p a b d k i j s : Nat} {v : Nat → Nat → Nat → Nat} (h : red1 p a b d k v = none) (h1 : rdx a b d k (vturn p v i j s) i = false) (h2 : rdx a b d k (vturn p v i j s) j = false) : red1 p a b d k (vturn p v i j s) = none := by
  rw [red1_none] at h ⊢
  have r1 := rdx_no h1
  have r2 := rdx_no h2
  constructor
  · intro q hq
    by_cases hi : q = i
    · subst hi; exact r1.1
    · by_cases hj : q = j
      · subst hj; exact r2.1
      · rw [hz_row (vturn_row hi hj)]; exact h.1 q hq
  · intro q r hqr hr
    by_cases hi : q = i
    · subst hi; exact r1.2 r hr (by omega)
    · by_cases hj : q = j
      · subst hj; exact r2.2 r hr (by omega)
      · by_cases hi' : r = i
        · subst hi'; rw [th_comm]; exact r1.2 q (by omega) (by omega)
        · by_cases hj' : r = j
          · subst hj'; rw [th_comm]; exact r2.2 q (by omega) (by omega)
          · rw [th_row (vturn_row hi hj) (vturn_row hi' hj')]; exact h.2 q r hqr hr
def wfl (p a b d k : Nat) (v : Nat → Nat → Nat → Nat) (x : Nat) : Nat → Nat → Nat → Nat :=
  if draw x % k ≠ draw (draw x) % k ∧ al a b d v (draw x % k) (draw (draw x) % k) (draw (draw (draw x)) % 3) = true then vturn p v (draw x % k) (draw (draw x) % k) (draw (draw (draw x)) % 3) else v
def wlk (p a b d : Nat) : Nat → Nat → Nat → (Nat → Nat → Nat → Nat) → Nat × Nat × (Nat → Nat → Nat → Nat)
  | 0, x, k, v => (x, k, v)
  | n + 1, x, k, v => if k = 0 then (x, k, v) else wlk p a b d n (draw (draw (draw x))) (red p a b d k (wfl p a b d k v x)).1 (red p a b d k (wfl p a b d k v x)).2
theorem wlk_s0 {p a b d i x k : Nat} {v : Nat → Nat → Nat → Nat} (h : k = 0) : wlk p a b d (i + 1) x k v = (x, k, v) := by
  unfold wlk; exact if_pos h
theorem wlk_s {p a b d i x k : Nat} {v : Nat → Nat → Nat → Nat} (h : ¬ k = 0) : wlk p a b d (i + 1) x k v = wlk p a b d i (draw (draw (draw x))) (red p a b d k (wfl p a b d k v x)).1 (red p a b d k (wfl p a b d k v x)).2 := if_neg h
theorem ci_le0 {k : Nat} (h : k < 2147483648) : ci k ≤ 0 ↔ k = 0 := by
  rw [cl_0, ci_le h (by omega)]; omega
theorem bI_f : bI false = 0 := rfl
theorem bI_t : bI true = 1 := rfl
theorem wlk_0 {p a b d x k : Nat} {v : Nat → Nat → Nat → Nat} : wlk p a b d 0 x k v = (x, k, v) := by rw [wlk]
theorem wander_loop {w c n t p a b d sq L : Nat} {g : Nat → Nat} (hL : L ≤ 200) : ∀ (i x k : Nat) (v : Nat → Nat → Nat → Nat) (fl : Bool) (S : ZS) (N : Nat), i < N → i ≤ L → x < 65536 → (fl = true → red1 p a b d k v = none) → zWy S w c n t p a b d sq k g v → ∃ S1, ziter (fX4_wander_B8 w (ci L)) N (ci x, bI fl, ci (L - i), S) = some (ci (wlk p a b d i x k v).1, S1) ∧ zWy S1 w c n t p a b d sq (wlk p a b d i x k v).2.1 g (wlk p a b d i x k v).2.2 ∧ zFrm S S1 (fun b => b = w ∨ b = t) := by
  intro i
  induction i with
  | zero =>
    intro x k v fl S N hN _ hx hfl h
    obtain ⟨N', rfl⟩ : ∃ N', N = N' + 1 := ⟨N - 1, by omega⟩
    rw [wlk_0]
    refine ⟨S, ziter_0 ?_, h, zFrm.rf⟩
    unfold fX4_wander_B8 fX4_wander_J142
    simp only []
    rw [if_pos (by rw [ci_le (by omega) (by omega)]; omega), zex_some]
  | succ i ih =>
    intro x k v fl S N hN hiL hx hfl h
    have hk := h.kk
    obtain ⟨N', rfl⟩ : ∃ N', N = N' + 1 := ⟨N - 1, by omega⟩
    by_cases hk0 : k = 0
    · rw [wlk_s0 hk0]
      refine ⟨S, ziter_0 ?_, h, zFrm.rf⟩
      unfold fX4_wander_B8 fX4_wander_J142
      simp only []
      rw [if_neg (by rw [ci_le (by omega) (by omega)]; omega), zgI_ob h.wa rfl, Option.bind_some]
      rw [if_pos ((ci_le0 (by omega)).mpr hk0), zex_some]
    · rw [wlk_s hk0]
      have d1 := draw_lt x
      have d2 := draw_lt (draw x)
      have d3 := draw_lt (draw (draw x))
      have m1 : draw x % k < k := Nat.mod_lt _ (by omega)
      have m2 : draw (draw x) % k < k := Nat.mod_lt _ (by omega)
      have m3 : draw (draw (draw x)) % 3 < 3 := Nat.mod_lt _ (by omega)
      -- what the step does from a state whose flip is done
      have fin : ∀ (v' : Nat → Nat → Nat → Nat) (fl' : Bool) (S' : ZS), v' = wfl p a b d k v x → (fl' = true → red1 p a b d k v' = none) → zWy S' w c n t p a b d sq k g v' → zFrm S S' (fun b => b = w ∨ b = t) → ∀ o, o = fX4_wander_J123 w (ci L) (ci (draw (draw (draw x)))) (bI fl') (ci (L - (i + 1))) S' → ∃ S1 fl1, o = some (.inl (ci (draw (draw (draw x))), bI fl1, ci (L - i), S1)) ∧ (fl1 = true → red1 p a b d (red p a b d k (wfl p a b d k v x)).1 (red p a b d k (wfl p a b d k v x)).2 = none) ∧ zWy S1 w c n t p a b d sq (red p a b d k (wfl p a b d k v x)).1 g (red p a b d k (wfl p a b d k v x)).2 ∧ zFrm S S1 (fun b => b = w ∨ b = t) := by
        intro v' fl' S' hv' hfl' h' hf' o ho
        subst ho
        unfold fX4_wander_J123 fX4_wander_J136
        cases fl' with
        | false =>
          rw [if_pos bI_f, zcl_ob h'.wa]
          obtain ⟨S1, s1, s2, s3⟩ := g_shrink h'
          refine ⟨S1, true, ?_, fun _ => red_fin _ _ _ _ _ _, ?_, hf'.tr s3⟩
          · rw [s1]
            simp only [Option.bind_some, Option.bind_none]
            rw [cl_1, ci_add, show L - (i + 1) + 1 = L - i by omega, bI_t, cl_1]
          · rw [← hv']; exact s2
        | true =>
          rw [if_neg (by rw [bI_t]; decide)]
          have hr := red_none (hfl' rfl)
          rw [← hv', hr]
          refine ⟨S', true, ?_, fun _ => hfl' rfl, h', hf'⟩
          rw [cl_1, ci_add, show L - (i + 1) + 1 = L - i by omega]
      have step : ∃ S1 fl1, fX4_wander_B8 w (ci L) (ci x, bI fl, ci (L - (i + 1)), S) = some (.inl (ci (draw (draw (draw x))), bI fl1, ci (L - i), S1)) ∧ (fl1 = true → red1 p a b d (red p a b d k (wfl p a b d k v x)).1 (red p a b d k (wfl p a b d k v x)).2 = none) ∧ zWy S1 w c n t p a b d sq (red p a b d k (wfl p a b d k v x)).1 g (red p a b d k (wfl p a b d k v x)).2 ∧ zFrm S S1 (fun b => b = w ∨ b = t) := by
        unfold fX4_wander_B8
        simp only []
        rw [if_neg (by rw [ci_le (by omega) (by omega)]; omega), zgI_ob h.wa rfl, Option.bind_some]
        rw [if_neg (by rw [ci_le0 (by omega)]; exact hk0), g_draw hx, Option.bind_some, Option.bind_some]
        rw [g_rem (by omega) (by omega) (by omega), Option.bind_some, g_draw d1, Option.bind_some, Option.bind_some]
        rw [g_rem (by omega) (by omega) (by omega), Option.bind_some, g_draw d2, Option.bind_some, cl_3]
        rw [g_rem (by omega) (by omega) (by omega), Option.bind_some]
        by_cases e1 : draw x % k = draw (draw x) % k
        · rw [if_pos (by rw [e1])]
          exact fin v fl S (by unfold wfl; rw [if_neg (fun hh => hh.1 e1)]) hfl h zFrm.rf _ rfl
        · rw [if_neg (by rw [ci_eq (by omega) (by omega)]; exact e1), zcl_ob h.wa, g_isSame h m1 m2 m3]
          rw [Option.bind_some]
          cases e2 : al a b d v (draw x % k) (draw (draw x) % k) (draw (draw (draw x)) % 3) with
          | false =>
            rw [if_pos (by rw [bI_0])]
            exact fin v fl S (by unfold wfl; rw [if_neg (fun hh => by rw [e2] at hh; cases hh.2)]) hfl h zFrm.rf _ rfl
          | true =>
            rw [if_neg (by rw [bI_0]; intro hh; cases hh), zcl_ob h.wa]
            obtain ⟨S1, f1, f2, f3⟩ := g_turn h m1 m2 m3
            rw [f1]
            rw [Option.bind_some]
            have hv' : vturn p v (draw x % k) (draw (draw x) % k) (draw (draw (draw x)) % 3) = wfl p a b d k v x := by
              unfold wfl; rw [if_pos ⟨e1, e2⟩]
            have f3' := f3.wk (Q := fun b => b = w ∨ b = t) (fun _ => Or.inr)
            cases fl with
            | false =>
              rw [if_pos (by rw [bI_0])]
              exact fin _ false S1 hv' (fun hh => by cases hh) f2 f3' _ (by unfold fX4_wander_J120 fX4_wander_J121; rw [bI_f])
            | true =>
              rw [if_neg (by rw [bI_0]; intro hh; cases hh), zcl_ob f2.wa, g_isReducible f2 m1]
              rw [Option.bind_some]
              cases e3 : rdx a b d k (vturn p v (draw x % k) (draw (draw x) % k) (draw (draw (draw x)) % 3)) (draw x % k) with
              | true =>
                rw [if_neg (by rw [bI_0]; intro hh; cases hh)]
                exact fin _ false S1 hv' (fun hh => by cases hh) f2 f3' _ (by unfold fX4_wander_J120 fX4_wander_J121; rw [bI_f])
              | false =>
                rw [if_pos (by rw [bI_0]), zcl_ob f2.wa, g_isReducible f2 m2]
                rw [Option.bind_some]
                cases e4 : rdx a b d k (vturn p v (draw x % k) (draw (draw x) % k) (draw (draw (draw x)) % 3)) (draw (draw x) % k) with
                | true =>
                  rw [if_neg (by rw [bI_0]; intro hh; cases hh)]
                  exact fin _ false S1 hv' (fun hh => by cases hh) f2 f3' _ (by unfold fX4_wander_J120 fX4_wander_J121; rw [bI_f])
                | false =>
                  rw [if_pos (by rw [bI_0])]
                  exact fin _ true S1 hv' (fun _ => red1_keep (hfl rfl) e3 e4) f2 f3' _ (by unfold fX4_wander_J121; rw [bI_t])
      obtain ⟨S1, fl1, s1, s2, s3, s4⟩ := step
      obtain ⟨S2, t1, t2, t3⟩ := ih (draw (draw (draw x))) _ _ fl1 S1 N' (by omega) (by omega) d3 s2 s3
      refine ⟨S2, ?_, t2, s4.tr t3⟩
      rw [ziter_1 s1]
      exact t1
theorem g_wander {S : ZS} {w c n t p a b d sq k x L : Nat} {g : Nat → Nat} {v : Nat → Nat → Nat → Nat} (h : zWy S w c n t p a b d sq k g v) (hx : x < 65536) (hL : L ≤ 200) : ∃ S1, fX4_wander w (ci x) (ci L) S = some (ci (wlk p a b d L x k v).1, S1) ∧ zWy S1 w c n t p a b d sq (wlk p a b d L x k v).2.1 g (wlk p a b d L x k v).2.2 ∧ zFrm S S1 (fun b => b = w ∨ b = t) := by
  obtain ⟨S1, f1, f2, f3⟩ := wander_loop hL L x k v false S zF (by rw [zF_eq]; omega) (Nat.le_refl _) hx (fun hh => by cases hh) h
  rw [Nat.sub_self] at f1
  exact ⟨S1, f1, f2, f3⟩
