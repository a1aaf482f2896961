/-! LAW CASE 20: wrong places, the model -/
def mdF (v : Nat → Nat → Nat → Nat) (k x : Nat) : Nat := sm k (fun q => tT v q x)
theorem mdF_b {p a b d k x i : Nat} {v : Nat → Nat → Nat → Nat} (hp : isP p) (hv : vOK p a b d k v) (h : x / 16 < a ∧ x / 4 % 4 < b ∧ x % 4 < d) (hi : i ≤ k) : mdF v i x ≤ i * 125 := sm_le (fun q hq => by
  have hpb := hp.b
  have h1 : v q 0 (x / 16) < p := hv q (by omega) 0 (by omega) _ h.1
  have h2 : v q 1 (x / 4 % 4) < p := hv q (by omega) 1 (by omega) _ h.2.1
  have h3 : v q 2 (x % 4) < p := hv q (by omega) 2 (by omega) _ h.2.2
  exact Nat.mul_le_mul (Nat.mul_le_mul (show _ ≤ 5 by omega) (show _ ≤ 5 by omega)) (show _ ≤ 5 by omega))
theorem m_made {S : ZS} {m w p a b d k x : Nat} {R : Nat → Nat} {X : Nat → Int32} {A : Nat → Nat → Int32} {v : Nat → Nat → Nat → Nat} (h : zMo S m R X A) (y : mWy X A w p a b d k v) (hx : x < 64) (hi : x / 16 < a ∧ x / 4 % 4 < b ∧ x % 4 < d) : fX6_made m (ci w) (ci x) S = some (ci (mdF v k x % p)) := by
  have hk := y.kk
  have hpb := y.2.1.b
  unfold fX6_made
  refine ziter_seq (fun q => (ci (mdF v q x), ci q)) _ k zF (by rw [zF_eq]; omega) (fun q hq => ?_) ?_
  · have d0 := m_dig (s := 0) h y hq (by omega) hi.1
    have d1 := m_dig (s := 1) h y hq (by omega) hi.2.1
    have d2 := m_dig (s := 2) h y hq (by omega) hi.2.2
    unfold fX6_made_B5
    simp only []
    rw [zgR_ob h.1 rfl, Option.bind_some, m_ct h y, Option.bind_some, if_neg (by rw [ci_le (by omega) (by omega)]; omega), zgR_ob h.1 rfl, Option.bind_some, cl_0, m_from, Option.bind_some, cl_16, ci_div (by omega) (by omega), d0, Option.bind_some, Option.bind_some, cl_1, m_from, Option.bind_some, cl_4, ci_div (by omega) (by omega), ci_mod (by omega) (by omega), d1, Option.bind_some, Option.bind_some, cl_2, m_from, Option.bind_some, ci_mod (by omega) (by omega), d2, Option.bind_some, ci_mul, ci_mul, ci_add, ci_add]
    rfl
  · have := mdF_b (v := v) (k := k) (x := x) y.2.1 y.2.2.2.2.2.2.2.1 hi (Nat.le_refl k)
    unfold fX6_made_B5
    simp only []
    rw [zgR_ob h.1 rfl, Option.bind_some, m_ct h y, Option.bind_some, if_pos (by rw [ci_le (by omega) (by omega)]; omega), zgI_ob h.1 rfl, Option.bind_some, y.2.2.2.2.1, z_rem (by omega) (by omega) (by omega), Option.bind_some, zex_some]
theorem enF_in {a b d k x : Nat} {v : Nat → Nat → Nat → Nat} (hx : x < 64) (hi : x / 16 < a ∧ x / 4 % 4 < b ∧ x % 4 < d) : enF a b d v k x = mdF v k x := sm_congr (fun q _ => by
  unfold gF
  rw [if_pos ⟨hi.1, hi.2.1, hi.2.2, hx⟩])
theorem enF_out {a b d k x : Nat} {v : Nat → Nat → Nat → Nat} (hi : ¬ (x / 16 < a ∧ x / 4 % 4 < b ∧ x % 4 < d)) : enF a b d v k x = 0 := sm_zero (fun q _ => by
  unfold gF
  rw [if_neg (fun hh => hi ⟨hh.1, hh.2.1, hh.2.2.1⟩)])
theorem m_wrong {S : ZS} {m w p a b d k : Nat} {R : Nat → Nat} {X : Nat → Int32} {A : Nat → Nat → Int32} {g : Nat → Nat} {v : Nat → Nat → Nat → Nat} (h : zMo S m R X A) (y : mWy X A w p a b d k v) (hg : mWg A w g) (hok : cOK p a b d g) : fX6_wrong m (ci w) S = some (ci (wrF p (enF a b d v k) g 64)) := by
  have hsz := y.2.2.1
  unfold szOK at hsz
  have hw := y.1
  have hpb := y.2.1.b
  unfold fX6_wrong
  refine ziter_seq (fun x => (ci (wrF p (enF a b d v k) g x), ci x)) _ 64 zF (by rw [zF_eq]; omega) (fun x hx => ?_) ?_
  · have e : wrF p (enF a b d v k) g (x + 1) = wrF p (enF a b d v k) g x + (if enF a b d v k x % p = g x then 0 else 1) := rfl
    have no : ¬ (x / 16 < a ∧ x / 4 % 4 < b ∧ x % 4 < d) → wrF p (enF a b d v k) g (x + 1) = wrF p (enF a b d v k) g x := fun hn => by
      have := hok.2 (x / 16) (x / 4 % 4) (x % 4) (by omega) (by omega) (by omega) hn
      rw [ix_of] at this
      rw [e, enF_out hn, this, if_pos (Nat.zero_mod _)]
      rfl
    unfold fX6_wrong_B4 fX6_wrong_J63 fX6_wrong_J64 fX6_wrong_J96 fX6_wrong_J97
    simp only []
    rw [if_neg (by rw [cl_64, ci_le (by omega) (by omega)]; omega), zgR_ob h.1 rfl, Option.bind_some, m_size0 h y, Option.bind_some, cl_16, ci_div (by omega) (by omega)]
    by_cases h1 : x / 16 < a
    · rw [if_neg (by rw [ci_le (by omega) (by omega)]; omega), Option.bind_some, m_size1 h y, Option.bind_some, cl_4, ci_div (by omega) (by omega), ci_mod (by omega) (by omega)]
      by_cases h2 : x / 4 % 4 < b
      · rw [if_neg (by rw [ci_le (by omega) (by omega)]; omega), Option.bind_some, m_size2 h y, Option.bind_some, ci_mod (by omega) (by omega)]
        by_cases h3 : x % 4 < d
        · have hgl := hok.lt hx
          have hml := Nat.mod_lt (mdF v k x) (show 0 < p by omega)
          rw [if_neg (by rw [ci_le (by omega) (by omega)]; omega), if_neg (show ¬ (1 : Int32) = 0 by decide), h.cl, m_made h y hx ⟨h1, h2, h3⟩, Option.bind_some, zgR_ob h.1 rfl, Option.bind_some, m_wg h hg hw hx, Option.bind_some, e, enF_in hx ⟨h1, h2, h3⟩]
          by_cases he : mdF v k x % p = g x
          · rw [if_pos (by rw [he]), cl_0, cl_1, ci_add, ci_add, if_pos he]
          · rw [if_neg (by rw [ci_eq (by omega) (by omega)]; exact he), cl_1, ci_add, ci_add, if_neg he]
        · rw [if_pos (by rw [ci_le (by omega) (by omega)]; omega), if_pos trivial, cl_0, cl_1, ci_add, ci_add, no (fun hh => h3 hh.2.2)]; rfl
      · rw [if_pos (by rw [ci_le (by omega) (by omega)]; omega), if_pos trivial, cl_0, cl_1, ci_add, ci_add, no (fun hh => h2 hh.2.1)]; rfl
    · rw [if_pos (by rw [ci_le (by omega) (by omega)]; omega), if_pos trivial, cl_0, cl_1, ci_add, ci_add, no (fun hh => h1 hh.1)]; rfl
  · unfold fX6_wrong_B4
    simp only []
    rw [if_pos (by rw [cl_64, ci_le (by omega) (by omega)]; omega), zex_some]
