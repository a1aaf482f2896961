/-! LAW CASE 20: wrong places -/
/-- a product's number at x -/
def tT (v : Nat → Nat → Nat → Nat) (q x : Nat) : Nat := v q 0 (x / 16) * v q 1 (x / 4 % 4) * v q 2 (x % 4)
def enF (a b d : Nat) (v : Nat → Nat → Nat → Nat) (k x : Nat) : Nat := sm k (fun q => gF a b d (tT v q) 64 x)
def adF (a b d : Nat) (v : Nat → Nat → Nat → Nat) (q t x : Nat) : Nat := enF a b d v q x + gF a b d (tT v q) t x
theorem gF_eq2 {a b d t u : Nat} {F : Nat → Nat} (htu : t ≤ u) (h : ∀ x, x / 16 < a → x / 4 % 4 < b → x % 4 < d → t ≤ x → x < u → F x = 0) : gF a b d F t = gF a b d F u := by
  funext x
  unfold gF
  by_cases h1 : x / 16 < a ∧ x / 4 % 4 < b ∧ x % 4 < d ∧ x < t
  · rw [if_pos h1, if_pos ⟨h1.1, h1.2.1, h1.2.2.1, by omega⟩]
  · rw [if_neg h1]
    by_cases h2 : x / 16 < a ∧ x / 4 % 4 < b ∧ x % 4 < d ∧ x < u
    · rw [if_pos h2, h x h2.1 h2.2.1 h2.2.2.1 (by omega) h2.2.2.2]
    · rw [if_neg h2]
theorem adF_g {a b d q t u : Nat} {v : Nat → Nat → Nat → Nat} (h : gF a b d (tT v q) t = gF a b d (tT v q) u) : adF a b d v q t = adF a b d v q u := by
  funext x
  unfold adF
  rw [h]
theorem adF_0 {a b d q : Nat} {v : Nat → Nat → Nat → Nat} : adF a b d v q 0 = enF a b d v q := by
  funext x
  unfold adF
  rw [gF_0, Nat.add_zero]
theorem adF_64 {a b d q : Nat} {v : Nat → Nat → Nat → Nat} : adF a b d v q 64 = enF a b d v (q + 1) := rfl
theorem tT_at {v : Nat → Nat → Nat → Nat} {q i j l : Nat} (hj : j < 4) (hl : l < 4) : tT v q (ix i j l) = v q 0 i * v q 1 j * v q 2 l := by
  have hd := ix_16 (i := i) hj hl
  unfold tT
  rw [hd.1, hd.2.1, hd.2.2]
theorem adF_step {a b d q i j l : Nat} {v : Nat → Nat → Nat → Nat} (hi : i < a) (hj : j < b) (hl : l < d) (hb : b ≤ 4) (hd : d ≤ 4) : va_up (adF a b d v q (ix i j l)) (ix i j l) (adF a b d v q (ix i j l) (ix i j l) + v q 0 i * v q 1 j * v q 2 l) = adF a b d v q (ix i j (l + 1)) := by
  have hs := gF_step (F := tT v q) (v := v q 0 i * v q 1 j * v q 2 l) hi hj hl hb hd (tT_at (by omega) (by omega)).symm
  have h0 : gF a b d (tT v q) (ix i j l) (ix i j l) = 0 := by
    unfold gF
    rw [if_neg (by omega)]
  funext x
  unfold adF va_up
  rw [← hs]
  unfold va_up
  by_cases hx : x = ix i j l
  · rw [if_pos hx, if_pos hx, hx, h0, Nat.add_zero]
  · rw [if_neg hx, if_neg hx]
theorem enF_b {p a b d k x i : Nat} {v : Nat → Nat → Nat → Nat} (hp : isP p) (hv : vOK p a b d k v) (hi : i ≤ k) : enF a b d v i x ≤ i * 125 := sm_le (fun q hq => by
  have hpb := hp.b
  unfold gF
  split
  · rename_i h
    have h1 : v q 0 (x / 16) < p := hv q (by omega) 0 (by omega) _ h.1
    have h2 : v q 1 (x / 4 % 4) < p := hv q (by omega) 1 (by omega) _ h.2.1
    have h3 : v q 2 (x % 4) < p := hv q (by omega) 2 (by omega) _ h.2.2.1
    exact Nat.mul_le_mul (Nat.mul_le_mul (show _ ≤ 5 by omega) (show _ ≤ 5 by omega)) (show _ ≤ 5 by omega)
  · omega)
/-- the way, and the row of entries apart from it -/
def wE (S : ZS) (w c n t en p a b d sq k : Nat) (g : Nat → Nat) (v : Nat → Nat → Nat → Nat) (f : Nat → Nat) : Prop := zWy S w c n t p a b d sq k g v ∧ (∃ F, zIA S en 64 F ∧ ∀ x, x < 64 → F x = ci (f x)) ∧ en ≠ n
theorem wE.get {S : ZS} {w c n t en p a b d sq k x : Nat} {g f : Nat → Nat} {v : Nat → Nat → Nat → Nat} (h : wE S w c n t en p a b d sq k g v f) (hx : x < 64) : fX5_get en (ci x) S = some (ci (f x)) := by
  obtain ⟨F, hF, hf⟩ := h.2.1
  rw [g_get hF (by omega) (by omega), if_pos hx, hf x hx]
theorem wE.put {S : ZS} {w c n t en p a b d sq k x y : Nat} {g f : Nat → Nat} {v : Nat → Nat → Nat → Nat} (h : wE S w c n t en p a b d sq k g v f) (hx : x < 64) : ∃ S1, fX5_put en (ci x) (ci y) S = some S1 ∧ wE S1 w c n t en p a b d sq k g v (va_up f x y) ∧ zFrm S S1 (fun b => b = en) := by
  obtain ⟨h1, ⟨F, h2, h4⟩, h3⟩ := h
  have hf : zFrm S (zwI S en 64 (va_up F x (ci y))) (fun b => b = en) := zFrm.wI
  have h1' := h1
  obtain ⟨_, _, _, hw, hc, _, W, hW, _⟩ := h1'
  refine ⟨_, g_put (ci y) h2 hx (by omega), ⟨h1.kp (hf.2 _ (ne_oi hw h2)) (hf.2 _ (ne_oi hc.1 h2)) (hf.2 _ (fun hh => h3 hh.symm)) (hf.2 _ (ne_ii hW h2 (by omega))), ⟨_, zwI_self, fun z hz => ?_⟩, h3⟩, hf⟩
  unfold va_up
  by_cases hzx : z = x
  · rw [if_pos hzx, if_pos hzx]
  · rw [if_neg hzx, if_neg hzx]; exact h4 z hz
theorem c_ent3 {S : ZS} {w c n t en p a b d sq k q i j : Nat} {g : Nat → Nat} {v : Nat → Nat → Nat → Nat} (h : wE S w c n t en p a b d sq k g v (adF a b d v q (ix i j 0))) (hq : q < k) (hi : i < a) (hj : j < b) : ∃ S1, ziter (fX4_addEntries_B58 w (ci q) en (ci i) (ci (v q 0 i)) (ci j) (ci (v q 0 i * v q 1 j))) zF (ci 0, S) = some (.inl (ci (j + 1), S1)) ∧ wE S1 w c n t en p a b d sq k g v (adF a b d v q (ix i (j + 1) 0)) ∧ zFrm S S1 (fun b => b = en) := by
  have hsz := h.1.2.1
  unfold szOK at hsz
  have hpb := h.1.1.b
  have hv0 : v q 0 i < p := h.1.2.2.2.2.2.1 q hq 0 (by omega) i hi
  have hv1 : v q 1 j < p := h.1.2.2.2.2.2.1 q hq 1 (by omega) j hj
  have hvv : v q 0 i * v q 1 j ≤ 5 * 5 := Nat.mul_le_mul (by omega) (by omega)
  by_cases h00 : v q 0 i * v q 1 j = 0
  · refine ⟨S, ?_, ?_, zFrm.rf⟩
    · rw [zF_s, ziter_0]
      unfold fX4_addEntries_B58 fX4_addEntries_J115
      simp only []
      rw [zgR_ob h.1.wa rfl, Option.bind_some, zgI_ob h.1.2.2.2.2.1.1 rfl, Option.bind_some, if_neg (by rw [ci_le (by omega) (by omega)]; omega), if_pos (by rw [h00]; rfl), cl_1, ci_add, zex_some]
    · rw [← adF_g (gF_eq2 (t := ix i j 0) (u := ix i (j + 1) 0) (by unfold ix; omega) (fun x h1 h2 h3 h4 h5 => by
        have e1 : x / 16 = i := by unfold ix at h4 h5; omega
        have e2 : x / 4 % 4 = j := by unfold ix at h4 h5; omega
        unfold tT
        rw [e1, e2, h00, Nat.zero_mul]))]
      exact h
  · have := ziter_for (body := fX4_addEntries_B58 w (ci q) en (ci i) (ci (v q 0 i)) (ci j) (ci (v q 0 i * v q 1 j))) (fun l S' => wE S' w c n t en p a b d sq k g v (adF a b d v q (ix i j l)) ∧ zFrm S S' (fun b => b = en)) (fun r => ∃ S1, r = .inl (ci (j + 1), S1) ∧ wE S1 w c n t en p a b d sq k g v (adF a b d v q (ix i (j + 1) 0)) ∧ zFrm S S1 (fun b => b = en)) d ?_ ?_ d 0 zF S (by omega) (by rw [zF_eq]; omega) ⟨h, zFrm.rf⟩
    · obtain ⟨r, h1, S1, rfl, h2, h3⟩ := this
      exact ⟨S1, h1, h2, h3⟩
    · rintro l S' hl ⟨y, hf⟩
      have hx := ix_lt (i := i) (j := j) (k := l) (by omega) (by omega) (by omega)
      have c2 := g_number (s := 2) y.1 hq (by omega) (show l < sz3 a b d 2 from hl)
      obtain ⟨S1, f1, f2, f3⟩ := y.put (y := adF a b d v q (ix i j l) (ix i j l) + v q 0 i * v q 1 j * v q 2 l) hx
      rw [adF_step hi hj hl (by omega) (by omega)] at f2
      refine ⟨S1, ?_, f2, hf.tr f3⟩
      unfold fX4_addEntries_B58
      simp only []
      rw [zgR_ob y.1.wa rfl, Option.bind_some, zgI_ob y.1.2.2.2.2.1.1 rfl, Option.bind_some, if_neg (by rw [ci_le (by omega) (by omega)]; omega), if_neg (by rw [cl_0, ci_eq (by omega) (by omega)]; exact h00), g_idx', Option.bind_some, y.get hx, Option.bind_some, zcl_ob y.1.wa, cl_2, c2, Option.bind_some, ci_mul, ci_add, f1, Option.bind_some, cl_1, ci_add]
    · rintro S' ⟨y, hf⟩
      refine ⟨.inl (ci (j + 1), S'), ?_, S', rfl, ?_, hf⟩
      · unfold fX4_addEntries_B58 fX4_addEntries_J115
        simp only []
        rw [zgR_ob y.1.wa rfl, Option.bind_some, zgI_ob y.1.2.2.2.2.1.1 rfl, Option.bind_some, if_pos (by rw [ci_le (by omega) (by omega)]; omega), cl_1, ci_add, zex_some]
      · rw [← adF_g (gF_row (by omega))]; exact y
theorem c_ent2 {S : ZS} {w c n t en p a b d sq k q i : Nat} {g : Nat → Nat} {v : Nat → Nat → Nat → Nat} (h : wE S w c n t en p a b d sq k g v (adF a b d v q (ix i 0 0))) (hq : q < k) (hi : i < a) : ∃ S1, ziter (fX4_addEntries_B25 w (ci q) en (ci i) (ci (v q 0 i))) zF (ci 0, S) = some (.inl (ci (i + 1), S1)) ∧ wE S1 w c n t en p a b d sq k g v (adF a b d v q (ix (i + 1) 0 0)) ∧ zFrm S S1 (fun b => b = en) := by
  have hsz := h.1.2.1
  unfold szOK at hsz
  have hpb := h.1.1.b
  have hv0 : v q 0 i < p := h.1.2.2.2.2.2.1 q hq 0 (by omega) i hi
  by_cases h00 : v q 0 i = 0
  · refine ⟨S, ?_, ?_, zFrm.rf⟩
    · rw [zF_s, ziter_0]
      unfold fX4_addEntries_B25 fX4_addEntries_J121
      simp only []
      rw [zgR_ob h.1.wa rfl, Option.bind_some, zgI_ob h.1.2.2.2.2.1.1 rfl, Option.bind_some, if_neg (by rw [ci_le (by omega) (by omega)]; omega), if_pos (by rw [h00]; rfl), cl_1, ci_add, zex_some]
    · rw [← adF_g (gF_eq2 (t := ix i 0 0) (u := ix (i + 1) 0 0) (by unfold ix; omega) (fun x h1 h2 h3 h4 h5 => by
        have e1 : x / 16 = i := by unfold ix at h4 h5; omega
        unfold tT
        rw [e1, h00, Nat.zero_mul, Nat.zero_mul]))]
      exact h
  · have := ziter_for (body := fX4_addEntries_B25 w (ci q) en (ci i) (ci (v q 0 i))) (fun j S' => wE S' w c n t en p a b d sq k g v (adF a b d v q (ix i j 0)) ∧ zFrm S S' (fun b => b = en)) (fun r => ∃ S1, r = .inl (ci (i + 1), S1) ∧ wE S1 w c n t en p a b d sq k g v (adF a b d v q (ix (i + 1) 0 0)) ∧ zFrm S S1 (fun b => b = en)) b ?_ ?_ b 0 zF S (by omega) (by rw [zF_eq]; omega) ⟨h, zFrm.rf⟩
    · obtain ⟨r, h1, S1, rfl, h2, h3⟩ := this
      exact ⟨S1, h1, h2, h3⟩
    · rintro j S' hj ⟨y, hf⟩
      have c1 := g_number (s := 1) y.1 hq (by omega) (show j < sz3 a b d 1 from hj)
      obtain ⟨S1, f1, f2, f3⟩ := c_ent3 y hq hi hj
      refine ⟨S1, ?_, f2, hf.tr f3⟩
      unfold fX4_addEntries_B25
      simp only []
      rw [zgR_ob y.1.wa rfl, Option.bind_some, zgI_ob y.1.2.2.2.2.1.1 rfl, Option.bind_some, if_neg (by rw [ci_le (by omega) (by omega)]; omega), if_neg (by rw [cl_0, ci_eq (by omega) (by omega)]; exact h00), zcl_ob y.1.wa, cl_1, c1, Option.bind_some, ci_mul, cl_0]
      exact f1
    · rintro S' ⟨y, hf⟩
      refine ⟨.inl (ci (i + 1), S'), ?_, S', rfl, ?_, hf⟩
      · unfold fX4_addEntries_B25 fX4_addEntries_J121
        simp only []
        rw [zgR_ob y.1.wa rfl, Option.bind_some, zgI_ob y.1.2.2.2.2.1.1 rfl, Option.bind_some, if_pos (by rw [ci_le (by omega) (by omega)]; omega), cl_1, ci_add, zex_some]
      · rw [← adF_g (gF_rows (by omega))]; exact y
theorem c_ent1 {S : ZS} {w c n t en p a b d sq k q : Nat} {g : Nat → Nat} {v : Nat → Nat → Nat → Nat} (h : wE S w c n t en p a b d sq k g v (enF a b d v q)) (hq : q < k) : ∃ S1, fX4_addEntries w (ci q) en S = some S1 ∧ wE S1 w c n t en p a b d sq k g v (enF a b d v (q + 1)) ∧ zFrm S S1 (fun b => b = en) := by
  have hsz := h.1.2.1
  unfold szOK at hsz
  have := ziter_for (body := fX4_addEntries_B2 w (ci q) en) (fun i S' => wE S' w c n t en p a b d sq k g v (adF a b d v q (ix i 0 0)) ∧ zFrm S S' (fun b => b = en)) (fun r => wE r w c n t en p a b d sq k g v (enF a b d v (q + 1)) ∧ zFrm S r (fun b => b = en)) a ?_ ?_ a 0 zF S (by omega) (by rw [zF_eq]; omega) ⟨by rw [show ix 0 0 0 = 0 from rfl, adF_0]; exact h, zFrm.rf⟩
  · exact this
  · rintro i S' hi ⟨y, hf⟩
    have c0 := g_number (s := 0) y.1 hq (by omega) (show i < sz3 a b d 0 from hi)
    obtain ⟨S1, f1, f2, f3⟩ := c_ent2 y hq hi
    refine ⟨S1, ?_, f2, hf.tr f3⟩
    unfold fX4_addEntries_B2
    simp only []
    rw [zgR_ob y.1.wa rfl, Option.bind_some, zgI_ob y.1.2.2.2.2.1.1 rfl, Option.bind_some, if_neg (by rw [ci_le (by omega) (by omega)]; omega), zcl_ob y.1.wa, cl_0, c0, Option.bind_some]
    exact f1
  · rintro S' ⟨y, hf⟩
    refine ⟨S', ?_, ?_, hf⟩
    · unfold fX4_addEntries_B2
      simp only []
      rw [zgR_ob y.1.wa rfl, Option.bind_some, zgI_ob y.1.2.2.2.2.1.1 rfl, Option.bind_some, if_pos (by rw [ci_le (by omega) (by omega)]; omega), zex_some]
    · rw [← adF_64, ← adF_g (gF_end (by omega))]; exact y
theorem wE.cg {S : ZS} {w c n t en p a b d sq k : Nat} {g f f' : Nat → Nat} {v : Nat → Nat → Nat → Nat} (h : wE S w c n t en p a b d sq k g v f) (e : ∀ x, x < 64 → f x = f' x) : wE S w c n t en p a b d sq k g v f' := by
  obtain ⟨h1, ⟨F, h2, h4⟩, h3⟩ := h
  exact ⟨h1, ⟨F, h2, fun x hx => by rw [h4 x hx, e x hx]⟩, h3⟩
def wrF (p : Nat) (f g : Nat → Nat) (n : Nat) : Nat := sm n (fun x => if f x % p = g x then 0 else 1)
theorem c_wr3 {S : ZS} {w c n t en p a b d sq k : Nat} {g f : Nat → Nat} {v : Nat → Nat → Nat → Nat} (h : wE S w c n t en p a b d sq k g v f) (hg : cOK p a b d g) (hf : ∀ x, x < 64 → f x < 100000) : ziter (fX4_countWrongPlaces_B46 w en S) zF ((0 : Int32), (0 : Int32)) = some (ci (wrF p f g 64), S) := by
  have hpb := h.1.1.b
  have hc := h.1.2.2.2.2.1
  refine ziter_seq (fun x => (ci (wrF p f g x), ci x)) _ 64 zF (by rw [zF_eq]; omega) (fun x hx => ?_) ?_
  · have h1 := hf x hx
    have h2 := hg.lt hx
    have h3 := Nat.mod_lt (f x) (show 0 < p by omega)
    have e : wrF p f g (x + 1) = wrF p f g x + (if f x % p = g x then 0 else 1) := rfl
    unfold fX4_countWrongPlaces_B46 fX4_countWrongPlaces_J84
    simp only []
    rw [if_neg (by rw [cl_64, ci_le (by omega) (by omega)]; omega), h.get hx, Option.bind_some, zgI_ob h.1.wa rfl, Option.bind_some, g_rem (by omega) (by omega) (by omega), Option.bind_some, zgR_ob h.1.wa rfl, Option.bind_some, zgR_ob hc.1 rfl, Option.bind_some, c_getAt hc hx, Option.bind_some]
    by_cases he : f x % p = g x
    · rw [if_pos (by rw [he]), cl_0, cl_1, ci_add, ci_add, e, if_pos he]
    · rw [if_neg (by rw [ci_eq (by omega) (by omega)]; exact he), cl_1, ci_add, ci_add, e, if_neg he]
  · unfold fX4_countWrongPlaces_B46
    simp only []
    rw [if_pos (by rw [cl_64, ci_le (by omega) (by omega)]; omega), zex_some]
theorem c_wr2 {S : ZS} {w c n t en p a b d sq k : Nat} {g : Nat → Nat} {v : Nat → Nat → Nat → Nat} (h : wE S w c n t en p a b d sq k g v (fun _ => 0)) (hg : cOK p a b d g) : ∃ S1, ziter (fX4_countWrongPlaces_B22 w en) zF (ci 0, S) = some (ci (wrF p (enF a b d v k) g 64), S1) ∧ zWy S1 w c n t p a b d sq k g v ∧ zFrm S S1 (fun b => b = en) ∧ ∃ F', zIA S1 en 64 F' := by
  have hk := h.1.kk
  have := ziter_for (body := fX4_countWrongPlaces_B22 w en) (fun q S' => wE S' w c n t en p a b d sq k g v (enF a b d v q) ∧ zFrm S S' (fun b => b = en)) (fun r => ∃ S1, r = (ci (wrF p (enF a b d v k) g 64), S1) ∧ zWy S1 w c n t p a b d sq k g v ∧ zFrm S S1 (fun b => b = en) ∧ ∃ F', zIA S1 en 64 F') k ?_ ?_ k 0 zF S (by omega) (by rw [zF_eq]; omega) ⟨h, zFrm.rf⟩
  · obtain ⟨r, h1, S1, rfl, h2, h3⟩ := this
    exact ⟨S1, h1, h2, h3⟩
  · rintro q S' hq ⟨y, hf⟩
    obtain ⟨S1, f1, f2, f3⟩ := c_ent1 y hq
    refine ⟨S1, ?_, f2, hf.tr f3⟩
    unfold fX4_countWrongPlaces_B22
    simp only []
    rw [zgI_ob y.1.wa rfl, Option.bind_some, if_neg (by rw [ci_le (by omega) (by omega)]; omega), zcl_ob y.1.wa, f1, Option.bind_some, cl_1, ci_add]
  · rintro S' ⟨y, hf⟩
    refine ⟨(ci (wrF p (enF a b d v k) g 64), S'), ?_, S', rfl, y.1, hf, y.2.1.choose, y.2.1.choose_spec.1⟩
    unfold fX4_countWrongPlaces_B22
    simp only []
    rw [zgI_ob y.1.wa rfl, Option.bind_some, if_pos (by rw [ci_le (by omega) (by omega)]; omega), c_wr3 y hg (fun x hx => by
      have := enF_b (a := a) (b := b) (d := d) (x := x) (v := v) y.1.1 y.1.2.2.2.2.2.1 (Nat.le_refl k)
      omega), zex_some]
theorem c_wrong {S : ZS} {w c n t en p a b d sq k : Nat} {g : Nat → Nat} {v : Nat → Nat → Nat → Nat} {F : Nat → Int32} (h : zWy S w c n t p a b d sq k g v) (hF : zIA S en 64 F) (hen : en ≠ n) (hg : cOK p a b d g) : ∃ S1, fX4_countWrongPlaces w en S = some (ci (wrF p (enF a b d v k) g 64), S1) ∧ zWy S1 w c n t p a b d sq k g v ∧ zFrm S S1 (fun b => b = en) ∧ ∃ F', zIA S1 en 64 F' := by
  have h0 := h
  obtain ⟨_, _, _, hw, hc, _, W, hW, _⟩ := h0
  have := ziter_for (body := fX4_countWrongPlaces_B2 w en) (fun x S' => (zWy S' w c n t p a b d sq k g v ∧ ∃ F', zIA S' en 64 F' ∧ ∀ y, y < x → F' y = ci 0) ∧ zFrm S S' (fun b => b = en)) (fun r => ∃ S1, r = (ci (wrF p (enF a b d v k) g 64), S1) ∧ zWy S1 w c n t p a b d sq k g v ∧ zFrm S S1 (fun b => b = en) ∧ ∃ F', zIA S1 en 64 F') 64 ?_ ?_ 64 0 zF S (by omega) (by rw [zF_eq]; omega) ⟨⟨h, F, hF, fun y hy => absurd hy (Nat.not_lt_zero _)⟩, zFrm.rf⟩
  · obtain ⟨r, h1, S1, rfl, h2, h3⟩ := this
    exact ⟨S1, h1, h2, h3⟩
  · rintro x S' hx ⟨⟨y, F', hF', hz⟩, hf⟩
    have hfr : zFrm S' (zwI S' en 64 (va_up F' x (ci 0))) (fun b => b = en) := zFrm.wI
    have y' := y
    obtain ⟨_, _, _, hw', hc', _, W', hW', _⟩ := y'
    refine ⟨zwI S' en 64 (va_up F' x (ci 0)), ?_, ⟨y.kp (hfr.2 _ (ne_oi hw' hF')) (hfr.2 _ (ne_oi hc'.1 hF')) (hfr.2 _ (fun hh => hen hh.symm)) (hfr.2 _ (ne_ii hW' hF' (by omega))), _, zwI_self, fun u hu => ?_⟩, hf.tr hfr⟩
    · unfold fX4_countWrongPlaces_B2
      simp only []
      rw [if_neg (by rw [cl_64, ci_le (by omega) (by omega)]; omega), cl_0, g_put (ci 0) hF' hx (by omega), Option.bind_some, cl_1, ci_add]
    · unfold va_up
      by_cases hux : u = x
      · rw [if_pos hux]
      · rw [if_neg hux]; exact hz u (by omega)
  · rintro S' ⟨⟨y, F', hF', hz⟩, hf⟩
    obtain ⟨S1, f1, f2, f3⟩ := c_wr2 (⟨y, ⟨F', hF', fun x hx => hz x hx⟩, hen⟩ : wE S' w c n t en p a b d sq k g v (fun _ => 0)) hg
    refine ⟨(ci (wrF p (enF a b d v k) g 64), S1), ?_, S1, rfl, f2, hf.tr f3.1, f3.2⟩
    unfold fX4_countWrongPlaces_B2
    simp only []
    rw [if_pos (by rw [cl_64, ci_le (by omega) (by omega)]; omega), cl_0, f1, zex_some]
