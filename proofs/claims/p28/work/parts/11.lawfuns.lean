theorem dL_low_0 : decode cL_low 0 = .ok (.iload_n 0, 1) := by decide +kernel
theorem dL_low_1 : decode cL_low 1 = .ok (.ldc 7, 2) := by decide +kernel
theorem dL_low_3 : decode cL_low 3 = .ok (.iand, 1) := by decide +kernel
theorem dL_low_4 : decode cL_low 4 = .ok (.iload_n 1, 1) := by decide +kernel
theorem dL_low_5 : decode cL_low 5 = .ok (.irem, 1) := by decide +kernel
theorem dL_low_6 : decode cL_low 6 = .ok (.ireturn, 1) := by decide +kernel
def fL_low (a0 : Int32) (a1 : Int32) : Option Int32 :=
  Option.bind (zrem (a0 &&& (2147483647 : Int32)) a1) fun v1 =>
  some v1
abbrev rmL_low : Room := { frames := 1, cells := 0, slots := 0, locals := 20 }
theorem zyL_low : zyOK yL_low 2 := ⟨by decide +kernel, by decide +kernel, by decide +kernel⟩
set_option maxHeartbeats 4000000 in
set_option maxRecDepth 100000 in
theorem wL_low {G : ZG} (a0 : Int32) (a1 : Int32) (S : ZS) (h0 : zFix G cL_low RL 2 (some .int) rmL_low) (C : Option Int32 → Prop) (hC : ¬ C none) (hE : ∀ v : Int32, C (some v) → zEnd G (some (.int v)) S rmL_low) : zV G 2 S 0 0 0 [(0, .int a0), (1, .int a1)] [] (C (fL_low a0 a1)) := by
  unfold fL_low
  refine zr_iload_n h0 dL_low_0 rfl (n := 1) rfl ?_
  refine zr_ldc h0 zw_108 dL_low_1 (n := 3) rfl ?_
  refine zr_iand h0 dL_low_3 (n := 4) rfl ?_
  refine zr_iload_n h0 dL_low_4 rfl (n := 5) rfl ?_
  refine zr_irem C hC h0 dL_low_5 (n := 6) rfl (fun v1 => ?_)
  exact zr_iret h0 rfl dL_low_6 (hE _) (by decide) (by decide)
theorem kL_low (l : Launch) (D : ZD) (z0 : Nat) (a0 : Int32) (a1 : Int32) (S : ZS) (x : Int32) (hf : fL_low a0 a1 = some x) : zMet l D z0 yL_low cL_low 2 (some .int) rmL_low [.int a0, .int a1] S (some (.int x)) S :=
  zMet_of (by decide) (Nat.le_of_ble_eq_true rfl) (fun G h0 hini hE => wL_low a0 a1 S h0 (fun o => o = some x) (fun h => nomatch h) (fun v h => by cases h; exact hE)) hf
def fL_act_J384 {TZ : Type} (O : Nat → TZ → List Int32 → Option (Int32 × TZ)) (OL : TZ → List Int32 → Option (Int64 × TZ)) (l7 : Int32) (l8 : Int32) (l9 : Int32) (T : TZ) : Option (Int32 × TZ) :=
  Option.bind (zmk (-99999999 : Int32) (O 0 T [(1 : Int32) + l7, (1 : Int32) + l8, (2 : Int32) + l9]) T) fun x11 =>
  some (x11.1, x11.2)
def fL_act_J451 {TZ : Type} (O : Nat → TZ → List Int32 → Option (Int32 × TZ)) (OL : TZ → List Int32 → Option (Int64 × TZ)) (s1 : Int32) (T : TZ) : Option (Int32 × TZ) :=
  Option.bind (zmk (-99999999 : Int32) (O 3 T [s1]) T) fun x15 =>
  some (x15.1, x15.2)
def fL_act_J455 {TZ : Type} (O : Nat → TZ → List Int32 → Option (Int32 × TZ)) (OL : TZ → List Int32 → Option (Int64 × TZ)) (l4 : Int32) (l7 : Int32) (l8 : Int32) (l9 : Int32) (l10 : Int32) (T : TZ) : Option (Int32 × TZ) :=
  Option.bind (zmk (-99999999 : Int32) (O 4 T [l4, l7, l8, l9, l10]) T) fun x16 =>
  some (x16.1, x16.2)
def fL_act_J511 {TZ : Type} (O : Nat → TZ → List Int32 → Option (Int32 × TZ)) (OL : TZ → List Int32 → Option (Int64 × TZ)) (s1 : Int32) (s2 : Int32) (s3 : Int32) (s4 : Int32) (s5 : Int32) (T : TZ) : Option (Int32 × TZ) :=
  Option.bind (zmk (-99999999 : Int32) (O 5 T [s1, s2, s3, s4, s5]) T) fun x18 =>
  some (x18.1, x18.2)
def fL_act_J490 {TZ : Type} (O : Nat → TZ → List Int32 → Option (Int32 × TZ)) (OL : TZ → List Int32 → Option (Int64 × TZ)) (l1 : Int32) (l2 : Int32) (l3 : Int32) (l10 : Int32) (s1 : Int32) (s2 : Int32) (s3 : Int32) (s4 : Int32) (T : TZ) : Option (Int32 × TZ) :=
  (if l3 = 0 then
  Option.bind (fL_low (l1 >>> ((15 : Int32) &&& 31)) (l2 - (1 : Int32))) fun x17 =>
  fL_act_J511 O OL s1 s2 s3 s4 ((1 : Int32) + x17) T
  else
  fL_act_J511 O OL s1 s2 s3 s4 l10 T)
def fL_act_J470 {TZ : Type} (O : Nat → TZ → List Int32 → Option (Int32 × TZ)) (OL : TZ → List Int32 → Option (Int64 × TZ)) (l1 : Int32) (l2 : Int32) (l3 : Int32) (l4 : Int32) (l7 : Int32) (l8 : Int32) (l10 : Int32) (l11 : Int32) (T : TZ) : Option (Int32 × TZ) :=
  (if l3 = 0 then
  fL_act_J490 O OL l1 l2 l3 l10 l4 l11 l7 ((1 : Int32) - l7) T
  else
  fL_act_J490 O OL l1 l2 l3 l10 l4 l11 l7 l8 T)
def fL_act_J554 {TZ : Type} (O : Nat → TZ → List Int32 → Option (Int32 × TZ)) (OL : TZ → List Int32 → Option (Int64 × TZ)) (s0 : Int32) (T : TZ) : Option (Int32 × TZ) :=
  some (s0, T)
def fL_act_J555 {TZ : Type} (O : Nat → TZ → List Int32 → Option (Int32 × TZ)) (OL : TZ → List Int32 → Option (Int64 × TZ)) (l4 : Int32) (T : TZ) : Option (Int32 × TZ) :=
  Option.bind (zmk (-99999999 : Int32) (O 8 T [l4]) T) fun x23 =>
  some (x23.1, x23.2)
def fL_act_J619 {TZ : Type} (O : Nat → TZ → List Int32 → Option (Int32 × TZ)) (OL : TZ → List Int32 → Option (Int64 × TZ)) (s1 : Int32) (s2 : Int32) (s3 : Int32) (s4 : Int32) (T : TZ) : Option (Int32 × TZ) :=
  Option.bind (zmk (-99999999 : Int32) (O 9 T [s1, s2, s3, s4]) T) fun x27 =>
  some (x27.1, x27.2)
def fL_act_J601 {TZ : Type} (O : Nat → TZ → List Int32 → Option (Int32 × TZ)) (OL : TZ → List Int32 → Option (Int64 × TZ)) (l1 : Int32) (l3 : Int32) (l9 : Int32) (l12 : Int32) (s1 : Int32) (s2 : Int32) (s3 : Int32) (T : TZ) : Option (Int32 × TZ) :=
  (if l3 = 0 then
  Option.bind (fL_low (l1 >>> ((15 : Int32) &&& 31)) l12) fun x26 =>
  fL_act_J619 O OL s1 s2 s3 x26 T
  else
  fL_act_J619 O OL s1 s2 s3 l9 T)
def fL_act_J583 {TZ : Type} (O : Nat → TZ → List Int32 → Option (Int32 × TZ)) (OL : TZ → List Int32 → Option (Int64 × TZ)) (l1 : Int32) (l3 : Int32) (l8 : Int32) (l9 : Int32) (l12 : Int32) (s1 : Int32) (s2 : Int32) (T : TZ) : Option (Int32 × TZ) :=
  (if l3 = 0 then
  Option.bind (fL_low (l1 >>> ((12 : Int32) &&& 31)) l12) fun x25 =>
  fL_act_J601 O OL l1 l3 l9 l12 s1 s2 x25 T
  else
  fL_act_J601 O OL l1 l3 l9 l12 s1 s2 l8 T)
def fL_act_J562 {TZ : Type} (O : Nat → TZ → List Int32 → Option (Int32 × TZ)) (OL : TZ → List Int32 → Option (Int64 × TZ)) (l1 : Int32) (l3 : Int32) (l6 : Int32) (l8 : Int32) (l9 : Int32) (l10 : Int32) (l12 : Int32) (T : TZ) : Option (Int32 × TZ) :=
  (if l3 = 0 then
  Option.bind (fL_low (l1 >>> ((8 : Int32) &&& 31)) l12) fun x24 =>
  fL_act_J583 O OL l1 l3 l8 l9 l12 l6 x24 T
  else
  fL_act_J583 O OL l1 l3 l8 l9 l12 l6 l10 T)
def fL_act_J623 {TZ : Type} (O : Nat → TZ → List Int32 → Option (Int32 × TZ)) (OL : TZ → List Int32 → Option (Int64 × TZ)) (l6 : Int32) (T : TZ) : Option (Int32 × TZ) :=
  Option.bind (zmk (-99999999 : Int32) (O 10 T [l6]) T) fun x28 =>
  some (x28.1, x28.2)
def fL_act_J660 {TZ : Type} (O : Nat → TZ → List Int32 → Option (Int32 × TZ)) (OL : TZ → List Int32 → Option (Int64 × TZ)) (l11 : Int32) (s1 : Int32) (s2 : Int32) (s3 : Int32) (T : TZ) : Option (Int32 × TZ) :=
  Option.bind (zmk (-99999999 : Int32) (O 11 T [s1, s2, s3, l11]) T) fun x31 =>
  some (x31.1, x31.2)
def fL_act_J630 {TZ : Type} (O : Nat → TZ → List Int32 → Option (Int32 × TZ)) (OL : TZ → List Int32 → Option (Int64 × TZ)) (l1 : Int32) (l3 : Int32) (l6 : Int32) (l8 : Int32) (l11 : Int32) (T : TZ) : Option (Int32 × TZ) :=
  Option.bind (fL_low (l1 >>> ((9 : Int32) &&& 31)) (6 : Int32)) fun x29 =>
  (if l3 = 0 then
  Option.bind (fL_low (l1 >>> ((12 : Int32) &&& 31)) (6 : Int32)) fun x30 =>
  fL_act_J660 O OL l11 l6 x29 x30 T
  else
  fL_act_J660 O OL l11 l6 x29 l8 T)
def fL_act_J712 {TZ : Type} (O : Nat → TZ → List Int32 → Option (Int32 × TZ)) (OL : TZ → List Int32 → Option (Int64 × TZ)) (s1 : Int32) (s2 : Int32) (s3 : Int32) (T : TZ) : Option (Int32 × TZ) :=
  Option.bind (zmk (-99999999 : Int32) (O 13 T [s1, s2, s3]) T) fun x35 =>
  some (x35.1, x35.2)
def fL_act_J692 {TZ : Type} (O : Nat → TZ → List Int32 → Option (Int32 × TZ)) (OL : TZ → List Int32 → Option (Int64 × TZ)) (l1 : Int32) (l3 : Int32) (l10 : Int32) (s1 : Int32) (s2 : Int32) (T : TZ) : Option (Int32 × TZ) :=
  (if l3 = 0 then
  Option.bind (fL_low (l1 >>> ((10 : Int32) &&& 31)) (12 : Int32)) fun x34 =>
  fL_act_J712 O OL s1 s2 ((1 : Int32) + x34) T
  else
  fL_act_J712 O OL s1 s2 l10 T)
def fL_act_J673 {TZ : Type} (O : Nat → TZ → List Int32 → Option (Int32 × TZ)) (OL : TZ → List Int32 → Option (Int64 × TZ)) (l1 : Int32) (l3 : Int32) (l6 : Int32) (l10 : Int32) (T : TZ) : Option (Int32 × TZ) :=
  (if l3 = 0 then
  Option.bind (fL_low (l1 >>> ((3 : Int32) &&& 31)) (65536 : Int32)) fun x33 =>
  fL_act_J692 O OL l1 l3 l10 l6 x33 T
  else
  fL_act_J692 O OL l1 l3 l10 l6 l1 T)
def fL_act_J771 {TZ : Type} (O : Nat → TZ → List Int32 → Option (Int32 × TZ)) (OL : TZ → List Int32 → Option (Int64 × TZ)) (s0 : Int32) (T : TZ) : Option (Int32 × TZ) :=
  some (s0, T)
def fL_act_J843 {TZ : Type} (O : Nat → TZ → List Int32 → Option (Int32 × TZ)) (OL : TZ → List Int32 → Option (Int64 × TZ)) (s1 : Int32) (s2 : Int32) (s3 : Int32) (s4 : Int32) (T : TZ) : Option (Int32 × TZ) :=
  Option.bind (zmk (-99999999 : Int32) (O 21 T [s1, s2, s3, s4]) T) fun x47 =>
  some (x47.1, x47.2)
def fL_act_J826 {TZ : Type} (O : Nat → TZ → List Int32 → Option (Int32 × TZ)) (OL : TZ → List Int32 → Option (Int64 × TZ)) (l1 : Int32) (l3 : Int32) (l9 : Int32) (s1 : Int32) (s2 : Int32) (s3 : Int32) (T : TZ) : Option (Int32 × TZ) :=
  (if l3 = 0 then
  Option.bind (fL_low (l1 >>> ((14 : Int32) &&& 31)) (2 : Int32)) fun x46 =>
  fL_act_J843 O OL s1 s2 s3 x46 T
  else
  fL_act_J843 O OL s1 s2 s3 l9 T)
def fL_act_J809 {TZ : Type} (O : Nat → TZ → List Int32 → Option (Int32 × TZ)) (OL : TZ → List Int32 → Option (Int64 × TZ)) (l1 : Int32) (l2 : Int32) (l3 : Int32) (l8 : Int32) (l9 : Int32) (s1 : Int32) (s2 : Int32) (T : TZ) : Option (Int32 × TZ) :=
  (if l3 = 0 then
  Option.bind (fL_low (l1 >>> ((11 : Int32) &&& 31)) l2) fun x45 =>
  fL_act_J826 O OL l1 l3 l9 s1 s2 x45 T
  else
  fL_act_J826 O OL l1 l3 l9 s1 s2 l8 T)
def fL_act_J892 {TZ : Type} (O : Nat → TZ → List Int32 → Option (Int32 × TZ)) (OL : TZ → List Int32 → Option (Int64 × TZ)) (s1 : Int32) (s2 : Int32) (s3 : Int32) (s4 : Int32) (T : TZ) : Option (Int32 × TZ) :=
  Option.bind (zmk (-99999999 : Int32) (O 22 T [s1, s2, s3, s4]) T) fun x51 =>
  some (x51.1, x51.2)
def fL_act_J867 {TZ : Type} (O : Nat → TZ → List Int32 → Option (Int32 × TZ)) (OL : TZ → List Int32 → Option (Int64 × TZ)) (l1 : Int32) (l2 : Int32) (l3 : Int32) (l9 : Int32) (s1 : Int32) (s2 : Int32) (T : TZ) : Option (Int32 × TZ) :=
  Option.bind (fL_low (l1 >>> ((11 : Int32) &&& 31)) l2) fun x49 =>
  (if l3 = 0 then
  Option.bind (fL_low (l1 >>> ((14 : Int32) &&& 31)) (2 : Int32)) fun x50 =>
  fL_act_J892 O OL s1 s2 x49 x50 T
  else
  fL_act_J892 O OL s1 s2 x49 l9 T)
def fL_act_J931 {TZ : Type} (O : Nat → TZ → List Int32 → Option (Int32 × TZ)) (OL : TZ → List Int32 → Option (Int64 × TZ)) (s1 : Int32) (s2 : Int32) (s3 : Int32) (T : TZ) : Option (Int32 × TZ) :=
  Option.bind (zmk (-9000000000000000 : Int64) (OL T [s1, s2, s3]) T) fun x53 =>
  some (Int64.toInt32 x53.1, x53.2)
def fL_act_J916 {TZ : Type} (O : Nat → TZ → List Int32 → Option (Int32 × TZ)) (OL : TZ → List Int32 → Option (Int64 × TZ)) (l1 : Int32) (s1 : Int32) (s2 : Int32) (T : TZ) : Option (Int32 × TZ) :=
  (if ((l1 >>> ((12 : Int32) &&& 31)) &&& (1 : Int32)) = (1 : Int32) then
  fL_act_J931 O OL s1 s2 (1 : Int32) T
  else
  fL_act_J931 O OL s1 s2 (0 : Int32) T)
def fL_act_J956 {TZ : Type} (O : Nat → TZ → List Int32 → Option (Int32 × TZ)) (OL : TZ → List Int32 → Option (Int64 × TZ)) (s1 : Int32) (s2 : Int32) (T : TZ) : Option (Int32 × TZ) :=
  Option.bind (zmk (-99999999 : Int32) (O 19 T [s1, s2]) T) fun x55 =>
  some (x55.1, x55.2)
def fL_act_J222 {TZ : Type} (O : Nat → TZ → List Int32 → Option (Int32 × TZ)) (OL : TZ → List Int32 → Option (Int64 × TZ)) (l1 : Int32) (l2 : Int32) (l3 : Int32) (l4 : Int32) (l5 : Int32) (l6 : Int32) (l7 : Int32) (l8 : Int32) (l9 : Int32) (l10 : Int32) (s0 : Int32) (T : TZ) : Option (Int32 × TZ) :=
  Option.bind (fL_low l1 (36 : Int32)) fun x10 =>
  zsw x10 0 [fL_act_J384 O OL l7 l8 l9 T,
  fL_act_J384 O OL l7 l8 l9 T,
  Option.bind (zmk (-99999999 : Int32) (O 1 T [(1 : Int32) + l7, (1 : Int32) + l8, (1 : Int32) + l9]) T) fun x12 =>
  some (x12.1, x12.2),
  Option.bind (zmk (-99999999 : Int32) (O 2 T [(1 : Int32) + l7, (1 : Int32) + l8]) T) fun x13 =>
  some (x13.1, x13.2),
  (if l3 = 0 then
  Option.bind (fL_low (l1 >>> ((8 : Int32) &&& 31)) (3 : Int32)) fun x14 =>
  fL_act_J451 O OL ((1 : Int32) + x14) T
  else
  fL_act_J451 O OL l10 T),
  fL_act_J455 O OL l4 l7 l8 l9 l10 T,
  fL_act_J455 O OL l4 l7 l8 l9 l10 T,
  fL_act_J455 O OL l4 l7 l8 l9 l10 T,
  fL_act_J470 O OL l1 l2 l3 l4 l7 l8 l10 s0 T,
  fL_act_J470 O OL l1 l2 l3 l4 l7 l8 l10 s0 T,
  Option.bind (zmk (-99999999 : Int32) (O 6 T [l4, l5]) T) fun x19 =>
  some (x19.1, x19.2),
  Option.bind (fL_low (l1 >>> ((16 : Int32) &&& 31)) (4 : Int32)) fun x20 =>
  (if x20 = 0 then
  Option.bind (zmk (-99999999 : Int32) (O 7 T [l4, l5]) T) fun x21 =>
  fL_act_J554 O OL x21.1 x21.2
  else
  Option.bind (zmk (-99999999 : Int32) (O 6 T [l4, l4]) T) fun x22 =>
  fL_act_J554 O OL x22.1 x22.2),
  fL_act_J555 O OL l4 T,
  fL_act_J555 O OL l4 T,
  fL_act_J562 O OL l1 l3 l6 l8 l9 l10 (l2 * l2) T,
  fL_act_J562 O OL l1 l3 l6 l8 l9 l10 (l2 * l2) T,
  fL_act_J562 O OL l1 l3 l6 l8 l9 l10 (l2 * l2) T,
  fL_act_J562 O OL l1 l3 l6 l8 l9 l10 (l2 * l2) T,
  fL_act_J562 O OL l1 l3 l6 l8 l9 l10 (l2 * l2) T,
  fL_act_J623 O OL l6 T,
  fL_act_J623 O OL l6 T,
  fL_act_J630 O OL l1 l3 l6 l8 s0 T,
  fL_act_J630 O OL l1 l3 l6 l8 s0 T,
  Option.bind (zmk (-99999999 : Int32) (O 12 T [l6]) T) fun x32 =>
  some (x32.1, x32.2),
  fL_act_J673 O OL l1 l3 l6 l10 T,
  fL_act_J673 O OL l1 l3 l6 l10 T,
  Option.bind (zmk (-99999999 : Int32) (O 14 T [l4, l7, l8, l9]) T) fun x36 =>
  some (x36.1, x36.2),
  Option.bind (zmk (-99999999 : Int32) (O 15 T [l4, s0]) T) fun x37 =>
  some (x37.1, x37.2),
  Option.bind (zmk (-99999999 : Int32) (O 16 T [l4]) T) fun x38 =>
  some (x38.1, x38.2),
  Option.bind (fL_low (l1 >>> ((16 : Int32) &&& 31)) (4 : Int32)) fun x39 =>
  (if x39 = 0 then
  Option.bind (zmk (-99999999 : Int32) (O 17 T [l4]) T) fun x40 =>
  fL_act_J771 O OL x40.1 x40.2
  else
  Option.bind (zmk (-99999999 : Int32) (O 16 T [l5]) T) fun x41 =>
  fL_act_J771 O OL x41.1 x41.2),
  Option.bind (fL_low (l1 >>> ((9 : Int32) &&& 31)) (5 : Int32)) fun x42 =>
  Option.bind (zmk (-99999999 : Int32) (O 20 T [l6, x42, s0]) T) fun x43 =>
  some (x43.1, x43.2),
  (if l3 = 0 then
  Option.bind (fL_low (l1 >>> ((8 : Int32) &&& 31)) l2) fun x44 =>
  fL_act_J809 O OL l1 l2 l3 l8 l9 l6 x44 T
  else
  fL_act_J809 O OL l1 l2 l3 l8 l9 l6 l10 T),
  (if l3 = 0 then
  Option.bind (fL_low (l1 >>> ((8 : Int32) &&& 31)) l2) fun x48 =>
  fL_act_J867 O OL l1 l2 l3 l9 l6 x48 T
  else
  fL_act_J867 O OL l1 l2 l3 l9 l6 l10 T),
  (if l3 = 0 then
  Option.bind (fL_low (l1 >>> ((8 : Int32) &&& 31)) (4 : Int32)) fun x52 =>
  fL_act_J916 O OL l1 l6 x52 T
  else
  fL_act_J916 O OL l1 l6 l10 T)] ((if l3 = 0 then
  Option.bind (fL_low (l1 >>> ((8 : Int32) &&& 31)) (5 : Int32)) fun x54 =>
  fL_act_J956 O OL l6 x54 T
  else
  fL_act_J956 O OL l6 l10 T))
def fL_act_J194 {TZ : Type} (O : Nat → TZ → List Int32 → Option (Int32 × TZ)) (OL : TZ → List Int32 → Option (Int64 × TZ)) (l1 : Int32) (l2 : Int32) (l3 : Int32) (l4 : Int32) (l5 : Int32) (l6 : Int32) (l7 : Int32) (l8 : Int32) (l9 : Int32) (s0 : Int32) (T : TZ) : Option (Int32 × TZ) :=
  (if l3 = 0 then
  Option.bind (fL_low (l1 >>> ((6 : Int32) &&& 31)) (3 : Int32)) fun x9 =>
  fL_act_J222 O OL l1 l2 l3 l4 l5 l6 l7 l8 l9 s0 x9 T
  else
  Option.bind (fL_low (l1 >>> ((6 : Int32) &&& 31)) (6 : Int32)) fun x56 =>
  fL_act_J222 O OL l1 l2 l3 l4 l5 l6 l7 l8 l9 s0 (x56 - (1 : Int32)) T)
def fL_act_J173 {TZ : Type} (O : Nat → TZ → List Int32 → Option (Int32 × TZ)) (OL : TZ → List Int32 → Option (Int64 × TZ)) (l1 : Int32) (l2 : Int32) (l3 : Int32) (l4 : Int32) (l5 : Int32) (l6 : Int32) (l7 : Int32) (l8 : Int32) (s0 : Int32) (T : TZ) : Option (Int32 × TZ) :=
  (if l3 = 0 then
  Option.bind (fL_low (l1 >>> ((8 : Int32) &&& 31)) l2) fun x8 =>
  fL_act_J194 O OL l1 l2 l3 l4 l5 l6 l7 l8 s0 x8 T
  else
  fL_act_J194 O OL l1 l2 l3 l4 l5 l6 l7 l8 s0 (l1 >>> ((8 : Int32) &&& 31)) T)
def fL_act_J145 {TZ : Type} (O : Nat → TZ → List Int32 → Option (Int32 × TZ)) (OL : TZ → List Int32 → Option (Int64 × TZ)) (l1 : Int32) (l2 : Int32) (l3 : Int32) (l4 : Int32) (l5 : Int32) (l6 : Int32) (l7 : Int32) (s0 : Int32) (T : TZ) : Option (Int32 × TZ) :=
  (if l3 = 0 then
  Option.bind (fL_low (l1 >>> ((13 : Int32) &&& 31)) (2 : Int32)) fun x7 =>
  fL_act_J173 O OL l1 l2 l3 l4 l5 l6 l7 s0 x7 T
  else
  Option.bind (fL_low (l1 >>> ((13 : Int32) &&& 31)) (7 : Int32)) fun x57 =>
  fL_act_J173 O OL l1 l2 l3 l4 l5 l6 l7 s0 (x57 - (1 : Int32)) T)
def fL_act_J117 {TZ : Type} (O : Nat → TZ → List Int32 → Option (Int32 × TZ)) (OL : TZ → List Int32 → Option (Int64 × TZ)) (l1 : Int32) (l2 : Int32) (l3 : Int32) (l4 : Int32) (l5 : Int32) (l6 : Int32) (s0 : Int32) (T : TZ) : Option (Int32 × TZ) :=
  (if l3 = 0 then
  Option.bind (fL_low (l1 >>> ((11 : Int32) &&& 31)) (2 : Int32)) fun x6 =>
  fL_act_J145 O OL l1 l2 l3 l4 l5 l6 s0 x6 T
  else
  Option.bind (fL_low (l1 >>> ((11 : Int32) &&& 31)) (7 : Int32)) fun x58 =>
  fL_act_J145 O OL l1 l2 l3 l4 l5 l6 s0 (x58 - (1 : Int32)) T)
def fL_act_J96 {TZ : Type} (O : Nat → TZ → List Int32 → Option (Int32 × TZ)) (OL : TZ → List Int32 → Option (Int64 × TZ)) (l1 : Int32) (l2 : Int32) (l3 : Int32) (l4 : Int32) (l5 : Int32) (s0 : Int32) (T : TZ) : Option (Int32 × TZ) :=
  (if l3 = 0 then
  Option.bind (fL_low (l1 >>> ((9 : Int32) &&& 31)) (2 : Int32)) fun x5 =>
  fL_act_J117 O OL l1 l2 l3 l4 l5 s0 x5 T
  else
  fL_act_J117 O OL l1 l2 l3 l4 l5 s0 (l1 >>> ((9 : Int32) &&& 31)) T)
def fL_act_J70 {TZ : Type} (O : Nat → TZ → List Int32 → Option (Int32 × TZ)) (OL : TZ → List Int32 → Option (Int64 × TZ)) (l1 : Int32) (l2 : Int32) (l3 : Int32) (l4 : Int32) (s0 : Int32) (T : TZ) : Option (Int32 × TZ) :=
  (if l3 = 0 then
  Option.bind (fL_low (l1 >>> ((5 : Int32) &&& 31)) (3 : Int32)) fun x4 =>
  fL_act_J96 O OL l1 l2 l3 l4 s0 x4 T
  else
  Option.bind (fL_low (l1 >>> ((5 : Int32) &&& 31)) (18 : Int32)) fun x59 =>
  fL_act_J96 O OL l1 l2 l3 l4 s0 (x59 - (1 : Int32)) T)
def fL_act_J42 {TZ : Type} (O : Nat → TZ → List Int32 → Option (Int32 × TZ)) (OL : TZ → List Int32 → Option (Int64 × TZ)) (l1 : Int32) (l2 : Int32) (l3 : Int32) (s0 : Int32) (T : TZ) : Option (Int32 × TZ) :=
  (if l3 = 0 then
  Option.bind (fL_low (l1 >>> ((7 : Int32) &&& 31)) (5 : Int32)) fun x3 =>
  fL_act_J70 O OL l1 l2 l3 s0 x3 T
  else
  Option.bind (fL_low (l1 >>> ((7 : Int32) &&& 31)) (20 : Int32)) fun x60 =>
  fL_act_J70 O OL l1 l2 l3 s0 (x60 - (2 : Int32)) T)
def fL_act_J17 {TZ : Type} (O : Nat → TZ → List Int32 → Option (Int32 × TZ)) (OL : TZ → List Int32 → Option (Int64 × TZ)) (l1 : Int32) (l2 : Int32) (s0 : Int32) (T : TZ) : Option (Int32 × TZ) :=
  (if s0 = 0 then
  Option.bind (fL_low (l1 >>> ((4 : Int32) &&& 31)) (5 : Int32)) fun x2 =>
  fL_act_J42 O OL l1 l2 s0 x2 T
  else
  Option.bind (fL_low (l1 >>> ((4 : Int32) &&& 31)) (20 : Int32)) fun x61 =>
  fL_act_J42 O OL l1 l2 s0 (x61 - (2 : Int32)) T)
def fL_act {TZ : Type} (O : Nat → TZ → List Int32 → Option (Int32 × TZ)) (OL : TZ → List Int32 → Option (Int64 × TZ)) (a1 : Int32) (a2 : Int32) (T : TZ) : Option (Int32 × TZ) :=
  Option.bind (fL_low (a1 >>> ((26 : Int32) &&& 31)) (14 : Int32)) fun x1 =>
  (if x1 = 0 then
  fL_act_J17 O OL a1 a2 (1 : Int32) T
  else
  fL_act_J17 O OL a1 a2 (0 : Int32) T)
def fL_areAlike_J147 {TZ : Type} (O : Nat → TZ → List Int32 → Option (Int32 × TZ)) (OL : TZ → List Int32 → Option (Int64 × TZ)) (l3 : Int32) (T : (TZ × TZ)) : Option (Int32 × (TZ × TZ)) :=
  Option.bind (zbl l3) fun w => some (w, T)
def fL_areAlike_J140 {TZ : Type} (O : Nat → TZ → List Int32 → Option (Int32 × TZ)) (OL : TZ → List Int32 → Option (Int64 × TZ)) (l2 : Int32) (l4 : Int32) (s0 : Int32) (T : (TZ × TZ)) : Option ((Int32 × Int32 × (TZ × TZ)) ⊕ (Int32 × (TZ × TZ))) :=
  some (.inl (s0, l4 + (1 : Int32), T))
def fL_areAlike_J139 {TZ : Type} (O : Nat → TZ → List Int32 → Option (Int32 × TZ)) (OL : TZ → List Int32 → Option (Int64 × TZ)) (l2 : Int32) (l4 : Int32) (T : (TZ × TZ)) : Option ((Int32 × Int32 × (TZ × TZ)) ⊕ (Int32 × (TZ × TZ))) :=
  fL_areAlike_J140 O OL l2 l4 (0 : Int32) T
def fL_areAlike_B5 {TZ : Type} (O : Nat → TZ → List Int32 → Option (Int32 × TZ)) (OL : TZ → List Int32 → Option (Int64 × TZ)) (l2 : Int32) (t5 : (Int32 × Int32 × (TZ × TZ))) : Option ((Int32 × Int32 × (TZ × TZ)) ⊕ (Int32 × (TZ × TZ))) :=
  (if (4 : Int32) ≤ t5.2.1 then
  zex (fL_areAlike_J147 O OL t5.1 t5.2.2)
  else
  (if t5.1 = 0 then
  zex (fL_areAlike_J147 O OL t5.1 t5.2.2)
  else
  Option.bind (fL_low l2 (2 : Int32)) fun x1 =>
  Option.bind (fL_low (l2 >>> ((1 : Int32) &&& 31)) (2 : Int32)) fun x2 =>
  Option.bind (zmk (-99999999 : Int32) (O 14 t5.2.2.1 [t5.2.1, (0 : Int32), x1, x2]) t5.2.2.1) fun x3 =>
  Option.bind (fL_low l2 (2 : Int32)) fun x4 =>
  Option.bind (fL_low (l2 >>> ((1 : Int32) &&& 31)) (2 : Int32)) fun x5 =>
  Option.bind (zmk (-99999999 : Int32) (O 14 ((x3.2, t5.2.2.2).2) [t5.2.1, (0 : Int32), x4, x5]) ((x3.2, t5.2.2.2).2)) fun x6 =>
  (if x3.1 = x6.1 then
  Option.bind (zmk (-99999999 : Int32) (O 16 (((x3.2, t5.2.2.2).1, x6.2).1) [t5.2.1]) (((x3.2, t5.2.2.2).1, x6.2).1)) fun x7 =>
  Option.bind (zmk (-99999999 : Int32) (O 16 ((x7.2, ((x3.2, t5.2.2.2).1, x6.2).2).2) [t5.2.1]) ((x7.2, ((x3.2, t5.2.2.2).1, x6.2).2).2)) fun x8 =>
  (if x7.1 = x8.1 then
  Option.bind (fL_low l2 (5 : Int32)) fun x9 =>
  Option.bind (zmk (-99999999 : Int32) (O 19 (((x7.2, ((x3.2, t5.2.2.2).1, x6.2).2).1, x8.2).1) [t5.2.1, x9]) (((x7.2, ((x3.2, t5.2.2.2).1, x6.2).2).1, x8.2).1)) fun x10 =>
  Option.bind (fL_low l2 (5 : Int32)) fun x11 =>
  Option.bind (zmk (-99999999 : Int32) (O 19 ((x10.2, ((x7.2, ((x3.2, t5.2.2.2).1, x6.2).2).1, x8.2).2).2) [t5.2.1, x11]) ((x10.2, ((x7.2, ((x3.2, t5.2.2.2).1, x6.2).2).1, x8.2).2).2)) fun x12 =>
  (if x10.1 = x12.1 then
  Option.bind (fL_low l2 (3 : Int32)) fun x13 =>
  Option.bind (fL_low (l2 >>> ((2 : Int32) &&& 31)) (3 : Int32)) fun x14 =>
  Option.bind (zmk (-99999999 : Int32) (O 20 (((x10.2, ((x7.2, ((x3.2, t5.2.2.2).1, x6.2).2).1, x8.2).2).1, x12.2).1) [t5.2.1, x13, x14]) (((x10.2, ((x7.2, ((x3.2, t5.2.2.2).1, x6.2).2).1, x8.2).2).1, x12.2).1)) fun x15 =>
  Option.bind (fL_low l2 (3 : Int32)) fun x16 =>
  Option.bind (fL_low (l2 >>> ((2 : Int32) &&& 31)) (3 : Int32)) fun x17 =>
  Option.bind (zmk (-99999999 : Int32) (O 20 ((x15.2, ((x10.2, ((x7.2, ((x3.2, t5.2.2.2).1, x6.2).2).1, x8.2).2).1, x12.2).2).2) [t5.2.1, x16, x17]) ((x15.2, ((x10.2, ((x7.2, ((x3.2, t5.2.2.2).1, x6.2).2).1, x8.2).2).1, x12.2).2).2)) fun x18 =>
  (if x15.1 = x18.1 then
  fL_areAlike_J140 O OL l2 t5.2.1 (1 : Int32) ((x15.2, ((x10.2, ((x7.2, ((x3.2, t5.2.2.2).1, x6.2).2).1, x8.2).2).1, x12.2).2).1, x18.2)
  else
  fL_areAlike_J139 O OL l2 t5.2.1 ((x15.2, ((x10.2, ((x7.2, ((x3.2, t5.2.2.2).1, x6.2).2).1, x8.2).2).1, x12.2).2).1, x18.2))
  else
  fL_areAlike_J139 O OL l2 t5.2.1 ((x10.2, ((x7.2, ((x3.2, t5.2.2.2).1, x6.2).2).1, x8.2).2).1, x12.2))
  else
  fL_areAlike_J139 O OL l2 t5.2.1 ((x7.2, ((x3.2, t5.2.2.2).1, x6.2).2).1, x8.2))
  else
  fL_areAlike_J139 O OL l2 t5.2.1 ((x3.2, t5.2.2.2).1, x6.2))))
def fL_areAlike {TZ : Type} (O : Nat → TZ → List Int32 → Option (Int32 × TZ)) (OL : TZ → List Int32 → Option (Int64 × TZ)) (a2 : Int32) (T : (TZ × TZ)) : Option (Int32 × (TZ × TZ)) :=
  ziter (fL_areAlike_B5 O OL a2) 5 ((1 : Int32), (0 : Int32), T)
def fL_isWaySo_J331 {TZ : Type} (O : Nat → TZ → List Int32 → Option (Int32 × TZ)) (OL : TZ → List Int32 → Option (Int64 × TZ)) (s0 : Int32) (T : TZ) : Option (Int32 × TZ) :=
  Option.bind (zbl s0) fun w => some (w, T)
def fL_isWaySo_J330 {TZ : Type} (O : Nat → TZ → List Int32 → Option (Int32 × TZ)) (OL : TZ → List Int32 → Option (Int64 × TZ))  (T : TZ) : Option (Int32 × TZ) :=
  fL_isWaySo_J331 O OL (0 : Int32) T
def fL_isWaySo_J297 {TZ : Type} (O : Nat → TZ → List Int32 → Option (Int32 × TZ)) (OL : TZ → List Int32 → Option (Int64 × TZ)) (l1 : Int32) (l4 : Int32) (T : TZ) : Option (Int32 × TZ) :=
  (if l4 = 0 then
  fL_isWaySo_J330 O OL  T
  else
  Option.bind (O 19 T [l1, (3 : Int32)]) fun x6 =>
  Option.bind (O 19 x6.2 [l1, (2 : Int32)]) fun x7 =>
  (if x7.1 < x6.1 then
  fL_isWaySo_J330 O OL  x7.2
  else
  Option.bind (O 19 x7.2 [l1, (4 : Int32)]) fun x8 =>
  (if x8.1 < 0 then
  fL_isWaySo_J330 O OL  x8.2
  else
  fL_isWaySo_J331 O OL (1 : Int32) x8.2)))
def fL_isWaySo_J289 {TZ : Type} (O : Nat → TZ → List Int32 → Option (Int32 × TZ)) (OL : TZ → List Int32 → Option (Int64 × TZ)) (l1 : Int32) (l2 : Int32) (l3 : Int32) (l5 : Int32) (l8 : Int32) (s0 : Int32) (T : TZ) : Option ((Int32 × Int32 × TZ) ⊕ (Int32 × TZ)) :=
  some (.inl (s0, l8 + (1 : Int32), T))
def fL_isWaySo_B217 {TZ : Type} (O : Nat → TZ → List Int32 → Option (Int32 × TZ)) (OL : TZ → List Int32 → Option (Int64 × TZ)) (l1 : Int32) (l2 : Int32) (l3 : Int32) (l5 : Int32) (t217 : (Int32 × Int32 × TZ)) : Option ((Int32 × Int32 × TZ) ⊕ (Int32 × TZ)) :=
  (if (4 : Int32) ≤ t217.2.1 then
  zex (fL_isWaySo_J297 O OL l1 t217.1 t217.2.2)
  else
  (if t217.1 = 0 then
  zex (fL_isWaySo_J297 O OL l1 t217.1 t217.2.2)
  else
  (if l5 = 0 then
  Option.bind (fL_low (l2 >>> (t217.2.1 &&& 31)) l3) fun x9 =>
  Option.bind (fL_low (l2 >>> ((t217.2.1 + (3 : Int32)) &&& 31)) l3) fun x10 =>
  Option.bind (zmk (-99999999 : Int32) (O 21 t217.2.2 [l1, x9, x10, (0 : Int32)]) t217.2.2) fun x11 =>
  Option.bind (fL_low (l2 >>> (t217.2.1 &&& 31)) l3) fun x12 =>
  Option.bind (fL_low (l2 >>> ((t217.2.1 + (3 : Int32)) &&& 31)) l3) fun x13 =>
  Option.bind (zmk (-99999999 : Int32) (O 22 x11.2 [l1, x12, x13, (0 : Int32)]) x11.2) fun x14 =>
  (if x11.1 = x14.1 then
  fL_isWaySo_J289 O OL l1 l2 l3 l5 t217.2.1 (1 : Int32) x14.2
  else
  fL_isWaySo_J289 O OL l1 l2 l3 l5 t217.2.1 (0 : Int32) x14.2)
  else
  zex (fL_isWaySo_J297 O OL l1 t217.1 t217.2.2))))
def fL_isWaySo_J212 {TZ : Type} (O : Nat → TZ → List Int32 → Option (Int32 × TZ)) (OL : TZ → List Int32 → Option (Int64 × TZ)) (l1 : Int32) (l2 : Int32) (l3 : Int32) (l5 : Int32) (s0 : Int32) (T : TZ) : Option (Int32 × TZ) :=
  ziter (fL_isWaySo_B217 O OL l1 l2 l3 l5) 5 (s0, (0 : Int32), T)
def fL_isWaySo_J211 {TZ : Type} (O : Nat → TZ → List Int32 → Option (Int32 × TZ)) (OL : TZ → List Int32 → Option (Int64 × TZ)) (l1 : Int32) (l2 : Int32) (l3 : Int32) (l5 : Int32) (T : TZ) : Option (Int32 × TZ) :=
  fL_isWaySo_J212 O OL l1 l2 l3 l5 (0 : Int32) T
def fL_isWaySo_J134 {TZ : Type} (O : Nat → TZ → List Int32 → Option (Int32 × TZ)) (OL : TZ → List Int32 → Option (Int64 × TZ)) (l1 : Int32) (l2 : Int32) (l3 : Int32) (l4 : Int32) (l5 : Int32) (l6 : Int32) (l7 : Int32) (T : TZ) : Option (Int32 × TZ) :=
  (if l4 = 0 then
  fL_isWaySo_J211 O OL l1 l2 l3 l5 T
  else
  Option.bind (fL_low l2 (65536 : Int32)) fun x21 =>
  Option.bind (O 13 T [l1, x21, (5 : Int32)]) fun x22 =>
  (if x22.1 < 0 then
  fL_isWaySo_J211 O OL l1 l2 l3 l5 x22.2
  else
  Option.bind (O 19 x22.2 [l1, (1 : Int32)]) fun x23 =>
  (if x23.1 = l5 then
  Option.bind (O 12 x23.2 [l1]) fun x24 =>
  (if x24.1 = 0 then
  Option.bind (O 19 x24.2 [l1, (0 : Int32)]) fun x25 =>
  (if l6 < x25.1 then
  fL_isWaySo_J211 O OL l1 l2 l3 l5 x25.2
  else
  Option.bind (fL_low l2 l3) fun x26 =>
  Option.bind (fL_low (l2 >>> ((3 : Int32) &&& 31)) l3) fun x27 =>
  Option.bind (zmk (-99999999 : Int32) (O 21 x25.2 [l1, x26, x27, (0 : Int32)]) x25.2) fun x28 =>
  (if x28.1 = l7 then
  fL_isWaySo_J212 O OL l1 l2 l3 l5 (1 : Int32) x28.2
  else
  fL_isWaySo_J211 O OL l1 l2 l3 l5 x28.2))
  else
  fL_isWaySo_J211 O OL l1 l2 l3 l5 x24.2)
  else
  fL_isWaySo_J211 O OL l1 l2 l3 l5 x23.2)))
def fL_isWaySo_J126 {TZ : Type} (O : Nat → TZ → List Int32 → Option (Int32 × TZ)) (OL : TZ → List Int32 → Option (Int64 × TZ)) (l1 : Int32) (l2 : Int32) (l3 : Int32) (l5 : Int32) (l6 : Int32) (l7 : Int32) (l8 : Int32) (s0 : Int32) (T : TZ) : Option ((Int32 × Int32 × TZ) ⊕ (Int32 × TZ)) :=
  some (.inl (s0, l8 + (1 : Int32), T))
def fL_isWaySo_J121 {TZ : Type} (O : Nat → TZ → List Int32 → Option (Int32 × TZ)) (OL : TZ → List Int32 → Option (Int64 × TZ)) (l1 : Int32) (l2 : Int32) (l3 : Int32) (l5 : Int32) (l6 : Int32) (l7 : Int32) (l8 : Int32) (T : TZ) : Option ((Int32 × Int32 × TZ) ⊕ (Int32 × TZ)) :=
  fL_isWaySo_J126 O OL l1 l2 l3 l5 l6 l7 l8 (1 : Int32) T
def fL_isWaySo_J125 {TZ : Type} (O : Nat → TZ → List Int32 → Option (Int32 × TZ)) (OL : TZ → List Int32 → Option (Int64 × TZ)) (l1 : Int32) (l2 : Int32) (l3 : Int32) (l5 : Int32) (l6 : Int32) (l7 : Int32) (l8 : Int32) (T : TZ) : Option ((Int32 × Int32 × TZ) ⊕ (Int32 × TZ)) :=
  fL_isWaySo_J126 O OL l1 l2 l3 l5 l6 l7 l8 (0 : Int32) T
def fL_isWaySo_B42 {TZ : Type} (O : Nat → TZ → List Int32 → Option (Int32 × TZ)) (OL : TZ → List Int32 → Option (Int64 × TZ)) (l1 : Int32) (l2 : Int32) (l3 : Int32) (l5 : Int32) (l6 : Int32) (l7 : Int32) (t42 : (Int32 × Int32 × TZ)) : Option ((Int32 × Int32 × TZ) ⊕ (Int32 × TZ)) :=
  (if (6 : Int32) ≤ t42.2.1 then
  zex (fL_isWaySo_J134 O OL l1 l2 l3 t42.1 l5 l6 l7 t42.2.2)
  else
  (if t42.1 = 0 then
  zex (fL_isWaySo_J134 O OL l1 l2 l3 t42.1 l5 l6 l7 t42.2.2)
  else
  Option.bind (fL_low (l2 >>> (t42.2.1 &&& 31)) (5 : Int32)) fun x29 =>
  Option.bind (fL_low (l2 >>> ((t42.2.1 + (2 : Int32)) &&& 31)) (5 : Int32)) fun x30 =>
  Option.bind (fL_low (l2 >>> (t42.2.1 &&& 31)) (3 : Int32)) fun x31 =>
  Option.bind (zmk (-99999999 : Int32) (O 11 t42.2.2 [l1, x29, x30, x31]) t42.2.2) fun x32 =>
  Option.bind (O 19 x32.2 [l1, (1 : Int32)]) fun x33 =>
  (if x33.1 = l5 then
  Option.bind (O 19 x33.2 [l1, (0 : Int32)]) fun x34 =>
  (if x34.1 = l6 then
  (if x32.1 = 0 then
  fL_isWaySo_J121 O OL l1 l2 l3 l5 l6 l7 t42.2.1 x34.2
  else
  (if x32.1 = (-99999999 : Int32) then
  fL_isWaySo_J121 O OL l1 l2 l3 l5 l6 l7 t42.2.1 x34.2
  else
  fL_isWaySo_J125 O OL l1 l2 l3 l5 l6 l7 t42.2.1 x34.2))
  else
  fL_isWaySo_J125 O OL l1 l2 l3 l5 l6 l7 t42.2.1 x34.2)
  else
  fL_isWaySo_J125 O OL l1 l2 l3 l5 l6 l7 t42.2.1 x33.2)))
def fL_isWaySo {TZ : Type} (O : Nat → TZ → List Int32 → Option (Int32 × TZ)) (OL : TZ → List Int32 → Option (Int64 × TZ)) (a1 : Int32) (a2 : Int32) (a3 : Int32) (T : TZ) : Option (Int32 × TZ) :=
  Option.bind (O 19 T [a1, (1 : Int32)]) fun x1 =>
  Option.bind (O 19 x1.2 [a1, (0 : Int32)]) fun x2 =>
  Option.bind (fL_low a2 a3) fun x3 =>
  Option.bind (fL_low (a2 >>> ((3 : Int32) &&& 31)) a3) fun x4 =>
  Option.bind (zmk (-99999999 : Int32) (O 21 x2.2 [a1, x3, x4, (0 : Int32)]) x2.2) fun x5 =>
  ziter (fL_isWaySo_B42 O OL a1 a2 a3 x1.1 x2.1 x5.1) 7 ((1 : Int32), (0 : Int32), x5.2)
def fL_isSo_J218 {TZ : Type} (O : Nat → TZ → List Int32 → Option (Int32 × TZ)) (OL : TZ → List Int32 → Option (Int64 × TZ)) (s0 : Int32) (T : TZ) : Option (Int32 × TZ) :=
  Option.bind (zbl s0) fun w => some (w, T)
def fL_isSo_J217 {TZ : Type} (O : Nat → TZ → List Int32 → Option (Int32 × TZ)) (OL : TZ → List Int32 → Option (Int64 × TZ))  (T : TZ) : Option (Int32 × TZ) :=
  fL_isSo_J218 O OL (0 : Int32) T
def fL_isSo_J187 {TZ : Type} (O : Nat → TZ → List Int32 → Option (Int32 × TZ)) (OL : TZ → List Int32 → Option (Int64 × TZ)) (l3 : Int32) (T : TZ) : Option (Int32 × TZ) :=
  (if l3 = 0 then
  fL_isSo_J217 O OL  T
  else
  Option.bind (zmk (-99999999 : Int32) (O 16 T [(16 : Int32)]) T) fun x1 =>
  (if x1.1 = (-99999999 : Int32) then
  Option.bind (zmk (-99999999 : Int32) (O 19 x1.2 [(0 : Int32), (5 : Int32)]) x1.2) fun x2 =>
  (if x2.1 = (-99999999 : Int32) then
  fL_isSo_J218 O OL (1 : Int32) x2.2
  else
  fL_isSo_J217 O OL  x2.2)
  else
  fL_isSo_J217 O OL  x1.2))
def fL_isSo_J180 {TZ : Type} (O : Nat → TZ → List Int32 → Option (Int32 × TZ)) (OL : TZ → List Int32 → Option (Int64 × TZ)) (l1 : Int32) (l2 : Int32) (l4 : Int32) (s0 : Int32) (T : TZ) : Option ((Int32 × Int32 × TZ) ⊕ (Int32 × TZ)) :=
  some (.inl (s0, l4 + (1 : Int32), T))
def fL_isSo_J179 {TZ : Type} (O : Nat → TZ → List Int32 → Option (Int32 × TZ)) (OL : TZ → List Int32 → Option (Int64 × TZ)) (l1 : Int32) (l2 : Int32) (l4 : Int32) (T : TZ) : Option ((Int32 × Int32 × TZ) ⊕ (Int32 × TZ)) :=
  fL_isSo_J180 O OL l1 l2 l4 (0 : Int32) T
def fL_isSo_J175 {TZ : Type} (O : Nat → TZ → List Int32 → Option (Int32 × TZ)) (OL : TZ → List Int32 → Option (Int64 × TZ)) (l1 : Int32) (l2 : Int32) (l4 : Int32) (T : TZ) : Option ((Int32 × Int32 × TZ) ⊕ (Int32 × TZ)) :=
  fL_isSo_J180 O OL l1 l2 l4 (1 : Int32) T
def fL_isSo_J147 {TZ : Type} (O : Nat → TZ → List Int32 → Option (Int32 × TZ)) (OL : TZ → List Int32 → Option (Int64 × TZ)) (l1 : Int32) (l2 : Int32) (l3 : Int32) (l4 : Int32) (T : TZ) : Option ((Int32 × Int32 × TZ) ⊕ (Int32 × TZ)) :=
  (if l3 = 0 then
  fL_isSo_J179 O OL l1 l2 l4 T
  else
  Option.bind (zmk (-99999999 : Int32) (O 19 T [l4, (0 : Int32)]) T) fun x4 =>
  (if x4.1 < 0 then
  fL_isSo_J175 O OL l1 l2 l4 x4.2
  else
  Option.bind (fL_isWaySo O OL l4 (l1 >>> (l4 &&& 31)) l2 x4.2) fun x5 =>
  (if x5.1 = 0 then
  fL_isSo_J179 O OL l1 l2 l4 x5.2
  else
  fL_isSo_J175 O OL l1 l2 l4 x5.2)))
def fL_isSo_J146 {TZ : Type} (O : Nat → TZ → List Int32 → Option (Int32 × TZ)) (OL : TZ → List Int32 → Option (Int64 × TZ)) (l1 : Int32) (l2 : Int32) (l4 : Int32) (s0 : Int32) (T : TZ) : Option ((Int32 × Int32 × TZ) ⊕ (Int32 × TZ)) :=
  fL_isSo_J147 O OL l1 l2 s0 l4 T
def fL_isSo_J145 {TZ : Type} (O : Nat → TZ → List Int32 → Option (Int32 × TZ)) (OL : TZ → List Int32 → Option (Int64 × TZ)) (l1 : Int32) (l2 : Int32) (l4 : Int32) (T : TZ) : Option ((Int32 × Int32 × TZ) ⊕ (Int32 × TZ)) :=
  fL_isSo_J146 O OL l1 l2 l4 (0 : Int32) T
def fL_isSo_J141 {TZ : Type} (O : Nat → TZ → List Int32 → Option (Int32 × TZ)) (OL : TZ → List Int32 → Option (Int64 × TZ)) (l1 : Int32) (l2 : Int32) (l4 : Int32) (T : TZ) : Option ((Int32 × Int32 × TZ) ⊕ (Int32 × TZ)) :=
  fL_isSo_J146 O OL l1 l2 l4 (1 : Int32) T
def fL_isSo_J131 {TZ : Type} (O : Nat → TZ → List Int32 → Option (Int32 × TZ)) (OL : TZ → List Int32 → Option (Int64 × TZ)) (l1 : Int32) (l2 : Int32) (l4 : Int32) (l6 : Int32) (T : TZ) : Option ((Int32 × Int32 × TZ) ⊕ (Int32 × TZ)) :=
  (if l2 = (2 : Int32) then
  fL_isSo_J141 O OL l1 l2 l4 T
  else
  (if 0 ≤ l6 then
  fL_isSo_J145 O OL l1 l2 l4 T
  else
  fL_isSo_J141 O OL l1 l2 l4 T))
def fL_isSo_J119 {TZ : Type} (O : Nat → TZ → List Int32 → Option (Int32 × TZ)) (OL : TZ → List Int32 → Option (Int64 × TZ)) (l1 : Int32) (l2 : Int32) (l4 : Int32) (l6 : Int32) (l7 : Int32) (T : TZ) : Option ((Int32 × Int32 × TZ) ⊕ (Int32 × TZ)) :=
  (if l7 < 0 then
  fL_isSo_J131 O OL l1 l2 l4 l6 T
  else
  (if l7 = l6 then
  fL_isSo_J131 O OL l1 l2 l4 l6 T
  else
  fL_isSo_J145 O OL l1 l2 l4 T))
def fL_isSo_J69 {TZ : Type} (O : Nat → TZ → List Int32 → Option (Int32 × TZ)) (OL : TZ → List Int32 → Option (Int64 × TZ)) (l1 : Int32) (l2 : Int32) (l4 : Int32) (l5 : Int32) (l6 : Int32) (s0 : Int32) (T : TZ) : Option ((Int32 × Int32 × TZ) ⊕ (Int32 × TZ)) :=
  Option.bind (O 15 T [l4, (0 : Int32)]) fun x7 =>
  (if l5 < x7.1 then
  fL_isSo_J145 O OL l1 l2 l4 x7.2
  else
  Option.bind (O 15 x7.2 [l4, (1 : Int32)]) fun x8 =>
  (if l5 < x8.1 then
  fL_isSo_J145 O OL l1 l2 l4 x8.2
  else
  Option.bind (O 15 x8.2 [l4, (2 : Int32)]) fun x9 =>
  (if l5 < x9.1 then
  fL_isSo_J145 O OL l1 l2 l4 x9.2
  else
  (if l6 < 0 then
  fL_isSo_J119 O OL l1 l2 l4 l6 s0 x9.2
  else
  (if l6 < l5 then
  fL_isSo_J145 O OL l1 l2 l4 x9.2
  else
  fL_isSo_J119 O OL l1 l2 l4 l6 s0 x9.2)))))
def fL_isSo_J50 {TZ : Type} (O : Nat → TZ → List Int32 → Option (Int32 × TZ)) (OL : TZ → List Int32 → Option (Int64 × TZ)) (l1 : Int32) (l2 : Int32) (l4 : Int32) (l5 : Int32) (s0 : Int32) (T : TZ) : Option ((Int32 × Int32 × TZ) ⊕ (Int32 × TZ)) :=
  (if (3 : Int32) ≤ l4 then
  fL_isSo_J69 O OL l1 l2 l4 l5 s0 (-99999999 : Int32) T
  else
  Option.bind (zmk (-99999999 : Int32) (O 18 T [l4]) T) fun x10 =>
  fL_isSo_J69 O OL l1 l2 l4 l5 s0 x10.1 x10.2)
def fL_isSo_B5 {TZ : Type} (O : Nat → TZ → List Int32 → Option (Int32 × TZ)) (OL : TZ → List Int32 → Option (Int64 × TZ)) (l1 : Int32) (l2 : Int32) (t5 : (Int32 × Int32 × TZ)) : Option ((Int32 × Int32 × TZ) ⊕ (Int32 × TZ)) :=
  (if (16 : Int32) ≤ t5.2.1 then
  zex (fL_isSo_J187 O OL t5.1 t5.2.2)
  else
  (if t5.1 = 0 then
  zex (fL_isSo_J187 O OL t5.1 t5.2.2)
  else
  Option.bind (zmk (-99999999 : Int32) (O 16 t5.2.2 [t5.2.1]) t5.2.2) fun x3 =>
  (if x3.1 < 0 then
  fL_isSo_J147 O OL l1 l2 t5.1 t5.2.1 x3.2
  else
  Option.bind (O 16 x3.2 [t5.2.1]) fun x6 =>
  (if (3 : Int32) ≤ t5.2.1 then
  fL_isSo_J50 O OL l1 l2 t5.2.1 x6.1 (-99999999 : Int32) x6.2
  else
  Option.bind (zmk (-99999999 : Int32) (O 17 x6.2 [t5.2.1]) x6.2) fun x11 =>
  fL_isSo_J50 O OL l1 l2 t5.2.1 x6.1 x11.1 x11.2))))
def fL_isSo {TZ : Type} (O : Nat → TZ → List Int32 → Option (Int32 × TZ)) (OL : TZ → List Int32 → Option (Int64 × TZ)) (a1 : Int32) (a2 : Int32) (T : TZ) : Option (Int32 × TZ) :=
  ziter (fL_isSo_B5 O OL a1 a2) 17 ((1 : Int32), (0 : Int32), T)
