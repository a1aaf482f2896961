/-! LAW CASES 7 AND 8: sum, product: the numbers -/
def gF (a b d : Nat) (F : Nat → Nat) (t x : Nat) : Nat := if x / 16 < a ∧ x / 4 % 4 < b ∧ x % 4 < d ∧ x < t then F x else 0
theorem gF_0 {a b d : Nat} {F : Nat → Nat} : gF a b d F 0 = fun _ => 0 := by
  funext x
  unfold gF
  rw [if_neg (by omega)]
theorem gF_eq {a b d t u : Nat} {F : Nat → Nat} (h : ∀ x, x / 16 < a → x / 4 % 4 < b → x % 4 < d → (x < t ↔ x < u)) : gF a b d F t = gF a b d F u := by
  funext x
  unfold gF
  by_cases hh : x / 16 < a ∧ x / 4 % 4 < b ∧ x % 4 < d ∧ x < t
  · rw [if_pos hh, if_pos ⟨hh.1, hh.2.1, hh.2.2.1, (h x hh.1 hh.2.1 hh.2.2.1).mp hh.2.2.2⟩]
  · rw [if_neg hh, if_neg (fun h2 => hh ⟨h2.1, h2.2.1, h2.2.2.1, (h x h2.1 h2.2.1 h2.2.2.1).mpr h2.2.2.2⟩)]
theorem gF_row {a b d i j : Nat} {F : Nat → Nat} (hd : d ≤ 4) : gF a b d F (ix i j d) = gF a b d F (ix i (j + 1) 0) := gF_eq (fun x _ _ _ => by unfold ix; omega)
theorem gF_rows {a b d i : Nat} {F : Nat → Nat} (hb : b ≤ 4) : gF a b d F (ix i b 0) = gF a b d F (ix (i + 1) 0 0) := gF_eq (fun x _ _ _ => by unfold ix; omega)
theorem gF_end {a b d : Nat} {F : Nat → Nat} (ha : a ≤ 4) : gF a b d F (ix a 0 0) = gF a b d F 64 := gF_eq (fun x _ _ _ => by unfold ix; omega)
theorem gF_step {a b d i j k v : Nat} {F : Nat → Nat} (hi : i < a) (hj : j < b) (hk : k < d) (hb : b ≤ 4) (hd : d ≤ 4) (hv : v = F (ix i j k)) : va_up (gF a b d F (ix i j k)) (ix i j k) v = gF a b d F (ix i j (k + 1)) := by
  have hq := ix_16 (i := i) (j := j) (k := k) (by omega) (by omega)
  have hs : ix i j (k + 1) = ix i j k + 1 := by unfold ix; omega
  rw [hs, hv]
  funext x
  unfold va_up
  by_cases hx : x = ix i j k
  · rw [if_pos hx, hx]
    unfold gF
    rw [hq.1, hq.2.1, hq.2.2, if_pos ⟨hi, hj, hk, by omega⟩]
  · rw [if_neg hx]
    unfold gF
    by_cases h : x / 16 < a ∧ x / 4 % 4 < b ∧ x % 4 < d ∧ x < ix i j k
    · rw [if_pos h, if_pos ⟨h.1, h.2.1, h.2.2.1, by omega⟩]
    · rw [if_neg h, if_neg (fun hh => h ⟨hh.1, hh.2.1, hh.2.2.1, by omega⟩)]
theorem gF_ok {p a b d t : Nat} {F : Nat → Nat} (hp : isP p) (hF : ∀ x, F x < p) : cOK p a b d (gF a b d F t) := by
  have := hp.b
  refine ⟨fun x _ => ?_, fun i j k hi hj hk hn => ?_⟩
  · unfold gF; split
    · exact hF x
    · omega
  · have hd := ix_16 (i := i) hj hk
    unfold gF
    rw [hd.1, hd.2.1, hd.2.2, if_neg (fun hh => hn ⟨hh.1, hh.2.1, hh.2.2.1⟩)]
theorem ix_of {x : Nat} : ix (x / 16) (x / 4 % 4) (x % 4) = x := by unfold ix; omega
def sF (p : Nat) (gl gr : Nat → Nat) (x : Nat) : Nat := (gl x + gr x) % p
theorem sF_lt {p : Nat} {gl gr : Nat → Nat} (hp : isP p) (x : Nat) : sF p gl gr x < p := Nat.mod_lt _ (by have := hp.b; omega)
theorem sF_all {p a b d x : Nat} {gl gr : Nat → Nat} (hl : cOK p a b d gl) (hr : cOK p a b d gr) (hx : x < 64) : gF a b d (sF p gl gr) 64 x = sF p gl gr x := by
  unfold gF
  by_cases h : x / 16 < a ∧ x / 4 % 4 < b ∧ x % 4 < d
  · rw [if_pos ⟨h.1, h.2.1, h.2.2, hx⟩]
  · rw [if_neg (fun hh => h ⟨hh.1, hh.2.1, hh.2.2.1⟩)]
    have e1 := hl.2 (x / 16) (x / 4 % 4) (x % 4) (by omega) (by omega) (by omega) h
    have e2 := hr.2 (x / 16) (x / 4 % 4) (x % 4) (by omega) (by omega) (by omega) h
    rw [ix_of] at e1 e2
    unfold sF
    rw [e1, e2, Nat.add_zero, Nat.zero_mod]
def pF (p ra rb rd : Nat) (gl gr : Nat → Nat) (x : Nat) : Nat := gl (ix (x / 16 / ra) (x / 4 % 4 / rb) (x % 4 / rd)) * gr (ix (x / 16 % ra) (x / 4 % 4 % rb) (x % 4 % rd)) % p
theorem pF_lt {p ra rb rd : Nat} {gl gr : Nat → Nat} (hp : isP p) (x : Nat) : pF p ra rb rd gl gr x < p := Nat.mod_lt _ (by have := hp.b; omega)
theorem pF_at {p ra rb rd i j k : Nat} {gl gr : Nat → Nat} (hj : j < 4) (hk : k < 4) : pF p ra rb rd gl gr (ix i j k) = gl (ix (i / ra) (j / rb) (k / rd)) * gr (ix (i % ra) (j % rb) (k % rd)) % p := by
  have hd := ix_16 (i := i) hj hk
  unfold pF
  rw [hd.1, hd.2.1, hd.2.2]
theorem q_lt {i a ra : Nat} (h : i < a * ra) (ha : a ≤ 4) : i / ra < 4 := by
  have : i / ra < a := Nat.div_lt_of_lt_mul (by rw [Nat.mul_comm]; exact h)
  omega
theorem cOK.lt {p a b d x : Nat} {g : Nat → Nat} (h : cOK p a b d g) (hx : x < 64) : g x < p := h.1 x hx
