/-! A NEW CUBE in the class: addCube -/
theorem live_some {S : ZS} {ad : Nat → Nat} {p cc wc t : Nat} {CA CG WA WG : Nat → Nat → Nat} {WV : Nat → Nat → Nat → Nat → Nat} {X : Nat → Int32} {A : Nat → Nat → Int32} {fo : Nat → Int64} (hcl : zCl S ad p cc wc CA CG WA WG WV) (hmo : zMo S (ad 11) (mR ad) X A) (hout : zJA S (ad 12) 1 fo) (ht : live cc wc t) : ∃ e, S.1 (ad t) = some e := by
  obtain ⟨⟨a1, a2, a3⟩, ⟨⟨r, q, h1⟩, ⟨f2, h2⟩, ⟨c, h3⟩, ⟨f4, h4⟩, ⟨f5, h5⟩, ⟨c6, h6⟩, ⟨f7, h7⟩, f8, h8⟩, c1, d1⟩ := hcl
  rcases ht with (ht | ⟨h9, h10⟩ | ⟨h9, h10⟩) | (ht | ht | ⟨h9, h10⟩) | ht
  · have : t = 0 ∨ t = 1 ∨ t = 2 ∨ t = 3 ∨ t = 4 ∨ t = 5 ∨ t = 6 ∨ t = 7 ∨ t = 8 ∨ t = 9 ∨ t = 10 := by omega
    rcases this with rfl | rfl | rfl | rfl | rfl | rfl | rfl | rfl | rfl | rfl | rfl
    · exact ⟨_, a2⟩
    · exact ⟨_, a3⟩
    · exact ⟨_, h1⟩
    · exact ⟨_, h3⟩
    · exact ⟨_, h6⟩
    · exact ⟨_, h8⟩
    · exact ⟨_, h2⟩
    · exact ⟨_, h4⟩
    · exact ⟨_, h5⟩
    · exact ⟨_, h7⟩
    · exact ⟨_, a1⟩
  · have hc := (c1 ((t - 100) / 2) (by omega)).1
    by_cases he : t = 100 + 2 * ((t - 100) / 2)
    · rw [he]; exact ⟨_, hc.1⟩
    · rw [show t = 101 + 2 * ((t - 100) / 2) by omega]; exact ⟨_, hc.2⟩
  · obtain ⟨hp, hsz, hk, hw, hc, hv, W, hW, hWv⟩ := (d1 ((t - 200) / 4) (by omega)).1
    have : t = 200 + 4 * ((t - 200) / 4) ∨ t = 201 + 4 * ((t - 200) / 4) ∨ t = 202 + 4 * ((t - 200) / 4) ∨ t = 203 + 4 * ((t - 200) / 4) := by omega
    rcases this with he | he | he | he
    · rw [he]; exact ⟨_, hw⟩
    · rw [he]; exact ⟨_, hc.1⟩
    · rw [he]; exact ⟨_, hc.2⟩
    · rw [he]; exact ⟨_, hW⟩
  · subst ht; exact ⟨_, hmo.1⟩
  · subst ht; exact ⟨_, hmo.2.2.1⟩
  · have := hmo.2.1 (t - 20) h10
    unfold mR at this
    rw [show 20 + (t - 20) = t by omega] at this
    exact ⟨_, this⟩
  · subst ht; exact ⟨_, hout⟩
def adN (ad : Nat → Nat) (cc n : Nat) : Nat → Nat := fun t => if t = 100 + 2 * cc then n else if t = 101 + 2 * cc then n + 1 else ad t
def upN (CA : Nat → Nat → Nat) (cc a b d sq : Nat) : Nat → Nat → Nat := fun j => if j = cc then (fun s => if s = 0 then a else if s = 1 then b else if s = 2 then d else sq) else CA j
theorem adN_old {ad : Nat → Nat} {cc n t : Nat} (h1 : t ≠ 100 + 2 * cc) (h2 : t ≠ 101 + 2 * cc) : adN ad cc n t = ad t := by
  unfold adN
  rw [if_neg h1, if_neg h2]
theorem adN_0 {ad : Nat → Nat} {cc n : Nat} : adN ad cc n (100 + 2 * cc) = n := if_pos rfl
theorem adN_1 {ad : Nat → Nat} {cc n : Nat} : adN ad cc n (101 + 2 * cc) = n + 1 := by
  unfold adN
  rw [if_neg (by omega), if_pos rfl]
theorem live_old {cc wc t : Nat} (hcc : cc ≤ 16) (h : live cc wc t) : t ≠ 100 + 2 * cc ∧ t ≠ 101 + 2 * cc := by
  unfold live cT mT isA at h
  omega
theorem live_new {cc wc t : Nat} (h : live (cc + 1) wc t) : live cc wc t ∨ t = 100 + 2 * cc ∨ t = 101 + 2 * cc := by
  rcases h with (h | h | h) | h | h
  · exact Or.inl (Or.inl (Or.inl h))
  · by_cases h9 : t < 100 + 2 * cc
    · exact Or.inl (Or.inl (Or.inr (Or.inl ⟨h.1, h9⟩)))
    · exact Or.inr (by omega)
  · exact Or.inl (Or.inl (Or.inr (Or.inr h)))
  · exact Or.inl (Or.inr (Or.inl h))
  · exact Or.inl (Or.inr (Or.inr h))
theorem adN_inj {ad : Nat → Nat} {cc wc n : Nat} (hcc : cc ≤ 16) (hin : zInj ad cc wc) (hlt : ∀ t, live cc wc t → ad t < n) : zInj (adN ad cc n) (cc + 1) wc := by
  intro t u ht hu hh
  have vt : ∀ t, live cc wc t → adN ad cc n t = ad t := fun t ht => adN_old (live_old hcc ht).1 (live_old hcc ht).2
  rcases live_new ht with h1 | h1 | h1
  · rcases live_new hu with h2 | h2 | h2
    · rw [vt t h1, vt u h2] at hh; exact hin t u h1 h2 hh
    · rw [vt t h1, h2, adN_0] at hh; have := hlt t h1; omega
    · rw [vt t h1, h2, adN_1] at hh; have := hlt t h1; omega
  · rcases live_new hu with h2 | h2 | h2
    · rw [h1, adN_0, vt u h2] at hh; have := hlt u h2; omega
    · rw [h1, h2]
    · rw [h1, h2, adN_0, adN_1] at hh; omega
  · rcases live_new hu with h2 | h2 | h2
    · rw [h1, adN_1, vt u h2] at hh; have := hlt u h2; omega
    · rw [h1, h2, adN_0, adN_1] at hh; omega
    · rw [h1, h2]
theorem c_size {n : Nat} {S : ZS} (h : 1 ≤ n ∧ n ≤ 4) : fX5_needSize (ci n) S = some (.inl ((), S)) := by
  unfold fX5_needSize
  rw [if_neg (by rw [cl_1, ci_lt (by omega) (by omega)]; omega), if_pos (by rw [cl_4, ci_le (by omega) (by omega)]; omega)]
theorem c_addCube {S : ZS} {ad : Nat → Nat} {p cc wc a b d : Nat} {CA CG WA WG : Nat → Nat → Nat} {WV : Nat → Nat → Nat → Nat → Nat} (hp : isP p) (hcl : zCl S ad p cc wc CA CG WA WG WV) (hin : zInj ad cc wc) (hlt : ∀ t, live cc wc t → ad t < S.2) (hc : cc < 16) (hs : szOK a b d) :
    ∃ S1, fX5_addCube (ad 10) (ci a) (ci b) (ci d) S = some (.inl (S.2, S1)) ∧ zInj (adN ad cc S.2) (cc + 1) wc ∧ zCl S1 (adN ad cc S.2) p (cc + 1) wc (upN CA cc a b d 0) (upG CG cc (fun _ => 0)) WA WG WV ∧ (∀ t, mT t ∨ t = 12 → adN ad cc S.2 t = ad t ∧ S1.1 (ad t) = S.1 (ad t)) := by
  have hi2 := adN_inj (by omega) hin hlt
  obtain ⟨T1, n1, n2, n3, n4⟩ := c_new (S := S) (a := a) (b := b) (d := d)
  have kT : ∀ t, live cc wc t → T1.1 (ad t) = S.1 (ad t) := fun t ht => n4 _ (by have := hlt t ht; omega) (by have := hlt t ht; omega)
  have vt : ∀ t, live cc wc t → adN ad cc S.2 t = ad t := fun t ht => adN_old (live_old (by omega) ht).1 (live_old (by omega) ht).2
  obtain ⟨⟨a1, a2, a3⟩, b1, c1, d1⟩ := hcl
  have l10 : live cc wc 10 := Or.inl (Or.inl (by omega))
  have l0 : live cc wc 0 := Or.inl (Or.inl (by omega))
  have l1 : live cc wc 1 := Or.inl (Or.inl (by omega))
  have e10 : zOb T1 (ad 10) 5 _ := (kT 10 l10).trans a1
  have e0 : zRA T1 (ad 0) 3 16 _ := (kT 0 l0).trans a2
  obtain ⟨T2, hT2⟩ : ∃ T2, T2 = zwQ T1 (ad 0) 3 16 (va_up (fun i => if i < cc then some (ad (100 + 2 * i)) else none) cc (some S.2)) := ⟨_, rfl⟩
  have kT2 : ∀ x, x ≠ ad 0 → T2.1 x = T1.1 x := fun x hx => by rw [hT2]; exact va_up_ne _ _ hx
  have n10 : ad 10 ≠ ad 0 := fun hh => by have := hin 10 0 l10 l0 hh; omega
  have g10 : zOb T2 (ad 10) 5 _ := (kT2 _ n10).trans e10
  have q1 : zsQ T1 (ad 0) 3 0 (ci cc) S.2 = some T2 := by rw [hT2]; exact zsQ_ci e0 n2.1 (by omega) (by omega)
  obtain ⟨T3, hT3⟩ : ∃ T3, T3 = zwO T2 (ad 10) 5 [.ref (ad 0), .ref (ad 1), .ref (ad 2), .ref (ad 3), .ref (ad 4), .ref (ad 5), .int (ci p), .int (ci (cc + 1)), .int (ci wc)] := ⟨_, rfl⟩
  have q2 : zpF T2 (ad 10) 5 7 (.int (ci (cc + 1))) = some T3 := by rw [hT3, zpF_ob _ g10 (by simp)]; rfl
  have kT3 : ∀ x, x ≠ ad 10 → x ≠ ad 0 → T3.1 x = T1.1 x := fun x h1 h2 => by rw [hT3, zwO_ne h1]; exact kT2 x h2
  have kl : ∀ t, live cc wc t → t ≠ 10 → t ≠ 0 → T3.1 (ad t) = S.1 (ad t) := fun t ht h1 h2 => (kT3 _ (fun hh => h1 (hin t 10 ht l10 hh)) (fun hh => h2 (hin t 0 ht l0 hh))).trans (kT t ht)
  have kk : ∀ t, live cc wc t → t ≠ 10 → t ≠ 0 → T3.1 (adN ad cc S.2 t) = S.1 (ad t) := fun t ht h1 h2 => by rw [vt t ht]; exact kl t ht h1 h2
  refine ⟨T3, ?_, hi2, ⟨⟨?_, ?_, ?_⟩, ?_, fun j hj => ?_, fun j hj => ?_⟩, fun t ht => ?_⟩
  · unfold szOK at hs
    unfold fX5_addCube
    rw [c_size hs.1, zbT_l, c_size hs.2.1, zbT_l, c_size hs.2.2, zbT_l]
    show Option.bind (zgI S (ad 10) 5 7) _ = _
    rw [zgI_ob a1 rfl, Option.bind_some, if_neg (ci_nneg (by omega)), Option.bind_some, zgR_ob a1 rfl, Option.bind_some, zalQ a2 (by omega), Option.bind_some, if_pos ((ci_lt (by omega) (by omega)).mpr hc), n1, Option.bind_some, zgR_ob e10 rfl, Option.bind_some, zgI_ob e10 rfl, Option.bind_some, q1, Option.bind_some, zgI_ob g10 rfl, Option.bind_some, cl_1, ci_add, q2, Option.bind_some]
  · rw [vt 10 l10, vt 0 l0, vt 1 l1, vt 2 (Or.inl (Or.inl (by omega))), vt 3 (Or.inl (Or.inl (by omega))), vt 4 (Or.inl (Or.inl (by omega))), vt 5 (Or.inl (Or.inl (by omega))), hT3]
    exact zwO_self
  · rw [vt 0 l0]
    have : T3.1 (ad 0) = T2.1 (ad 0) := by rw [hT3, zwO_ne (Ne.symm n10)]
    refine this.trans ?_
    rw [hT2]
    show va_up T1.1 (ad 0) _ (ad 0) = _
    rw [va_up_self]
    congr 8
    funext i
    unfold va_up
    by_cases h1 : i = cc
    · rw [if_pos h1, if_pos (by omega), h1, adN_0]
    · rw [if_neg h1]
      show (if i < cc then some (ad (100 + 2 * i)) else none) = _
      by_cases h2 : i < cc
      · rw [if_pos h2, if_pos (by omega), vt (100 + 2 * i) (Or.inl (Or.inr (Or.inl (by omega))))]
      · rw [if_neg h2, if_neg (by omega)]
  · refine (kk 1 l1 (by omega) (by omega)).trans (a3.trans ?_)
    congr 8
    funext i
    by_cases h2 : i < wc
    · rw [if_pos h2, if_pos h2, vt (200 + 4 * i) (Or.inl (Or.inr (Or.inr (by omega))))]
    · rw [if_neg h2, if_neg h2]
  · have vl : ∀ t, t ≤ 9 → adN ad cc S.2 t = ad t := fun t ht => vt t (Or.inl (Or.inl (by omega)))
    unfold zTl
    rw [vl 2 (by omega), vl 3 (by omega), vl 4 (by omega), vl 5 (by omega), vl 6 (by omega), vl 7 (by omega), vl 8 (by omega), vl 9 (by omega)]
    obtain ⟨⟨r, q, h1⟩, ⟨f2, h2⟩, ⟨c, h3⟩, ⟨f4, h4⟩, ⟨f5, h5⟩, ⟨c6, h6⟩, ⟨f7, h7⟩, f8, h8⟩ := b1
    have kt : ∀ t, t ≤ 9 → t ≠ 0 → T3.1 (ad t) = S.1 (ad t) := fun t ht h0 => kl t (Or.inl (Or.inl (by omega))) (by omega) h0
    exact ⟨⟨r, q, (kt 2 (by omega) (by omega)).trans h1⟩, ⟨f2, (kt 6 (by omega) (by omega)).trans h2⟩, ⟨c, (kt 3 (by omega) (by omega)).trans h3⟩, ⟨f4, (kt 7 (by omega) (by omega)).trans h4⟩, ⟨f5, (kt 8 (by omega) (by omega)).trans h5⟩, ⟨c6, (kt 4 (by omega) (by omega)).trans h6⟩, ⟨f7, (kt 9 (by omega) (by omega)).trans h7⟩, f8, (kt 5 (by omega) (by omega)).trans h8⟩
  · by_cases hji : j = cc
    · subst hji
      unfold zCb
      rw [adN_0, adN_1, upG_self, show upN CA j a b d 0 j = (fun s => if s = 0 then a else if s = 1 then b else if s = 2 then d else 0) from if_pos rfl]
      have k1 : T3.1 S.2 = T1.1 S.2 := kT3 _ (by have := hlt 10 l10; omega) (by have := hlt 0 l0; omega)
      have k2 : T3.1 (S.2 + 1) = T1.1 (S.2 + 1) := kT3 _ (by have := hlt 10 l10; omega) (by have := hlt 0 l0; omega)
      have hpb := hp.b
      exact ⟨n2.kp k1 k2, hs, ⟨fun x _ => (by show (0 : Nat) < p; omega), fun _ _ _ _ _ _ _ => rfl⟩, (by show (0 : Nat) ≤ 4; omega)⟩
    · have h1 : live cc wc (100 + 2 * j) := Or.inl (Or.inr (Or.inl (by omega)))
      have h2 : live cc wc (101 + 2 * j) := Or.inl (Or.inr (Or.inl (by omega)))
      unfold zCb
      rw [vt _ h1, vt _ h2, upG_ne hji, show upN CA cc a b d 0 j = CA j from if_neg hji]
      exact (c1 j (by omega)).kp (kl _ h1 (by omega) (by omega)) (kl _ h2 (by omega) (by omega))
  · have h1 : ∀ l, l < 4 → live cc wc (200 + 4 * j + l) := fun l hl => Or.inl (Or.inr (Or.inr (by omega)))
    unfold zWb
    have v0 := vt _ (h1 0 (by omega))
    have v1 := vt _ (h1 1 (by omega))
    have v2 := vt _ (h1 2 (by omega))
    have v3 := vt _ (h1 3 (by omega))
    rw [Nat.add_zero] at v0
    rw [show 200 + 4 * j + 1 = 201 + 4 * j by omega] at v1
    rw [show 200 + 4 * j + 2 = 202 + 4 * j by omega] at v2
    rw [show 200 + 4 * j + 3 = 203 + 4 * j by omega] at v3
    rw [v0, v1, v2, v3]
    exact (d1 j hj).kp (fun l hl => kl _ (h1 l hl) (by omega) (by omega))
  · have hl : live cc wc t := Or.inr ht
    exact ⟨vt t hl, kl t hl (by rcases ht with ht | ht; unfold mT isA at ht; omega; omega) (by rcases ht with ht | ht; unfold mT isA at ht; omega; omega)⟩
