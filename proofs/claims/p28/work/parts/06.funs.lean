def fX1_init (a0 : Nat) (S : ZS) : Option ZS :=
  Option.bind (zpF (zna S 0 64) a0 1 0 (.ref S.2)) fun S1 =>
  some S1
def fX2_init (a0 : Nat) (S : ZS) : Option ZS :=
  Option.bind (zpF (zna S 0 105) a0 2 0 (.ref S.2)) fun S1 =>
  Option.bind (zpF (zna S1 1 64) a0 2 1 (.ref S1.2)) fun S2 =>
  some S2
def fX3_init (a0 : Nat) (S : ZS) : Option ZS :=
  Option.bind (zpF (zna S 1 120) a0 3 0 (.ref S.2)) fun S1 =>
  some S1
def fX5_init (a0 : Nat) (S : ZS) : Option ZS :=
  Option.bind (zpF (zna S 3 16) a0 5 0 (.ref S.2)) fun S1 =>
  Option.bind (zpF (zna S1 4 16) a0 5 1 (.ref S1.2)) fun S2 =>
  Option.bind (fX1_init S2.2 (zno S2 1 [.null, .int 0, .int 0])) fun x3 =>
  Option.bind (zpF x3 a0 5 2 (.ref S2.2)) fun S4 =>
  Option.bind (fX2_init S4.2 (zno S4 2 [.null, .null, .int 0])) fun x5 =>
  Option.bind (zpF x5 a0 5 3 (.ref S4.2)) fun S6 =>
  Option.bind (fX3_init S6.2 (zno S6 3 [.null, .int 0])) fun x7 =>
  Option.bind (zpF x7 a0 5 4 (.ref S6.2)) fun S8 =>
  Option.bind (zpF (zna S8 0 64) a0 5 5 (.ref S8.2)) fun S9 =>
  Option.bind (zpF S9 a0 5 6 (.int (2 : Int32))) fun S10 =>
  Option.bind (zpF S10 a0 5 7 (.int (0 : Int32))) fun S11 =>
  Option.bind (zpF S11 a0 5 8 (.int (0 : Int32))) fun S12 =>
  some S12
def fX5_prime_J25 (l0 : Nat) (l1 : Int32) (S : ZS) : Option ((Int32 × ZS) ⊕ ZX) :=
  Option.bind (zgI S l0 5 7) fun v1 =>
  (if v1 ≤ 0 then
  Option.bind (zgI S l0 5 6) fun v2 =>
  Option.bind (zpF S l0 5 6 (.int l1)) fun S3 =>
  some (.inl (v2, S3))
  else
  some (.inr ("java/lang/IllegalStateException", S.1)))
def fX5_prime (a0 : Nat) (a1 : Int32) (S : ZS) : Option ((Int32 × ZS) ⊕ ZX) :=
  (if a1 = (2 : Int32) then
  fX5_prime_J25 a0 a1 S
  else
  (if a1 = (3 : Int32) then
  fX5_prime_J25 a0 a1 S
  else
  (if a1 = (5 : Int32) then
  fX5_prime_J25 a0 a1 S
  else
  some (.inr ("java/lang/IllegalArgumentException", S.1)))))
def fX5_needSize_J10  (S : ZS) : Option ((Unit × ZS) ⊕ ZX) :=
  some (.inr ("java/lang/IllegalArgumentException", S.1))
def fX5_needSize (a0 : Int32) (S : ZS) : Option ((Unit × ZS) ⊕ ZX) :=
  (if a0 < (1 : Int32) then
  fX5_needSize_J10  S
  else
  (if a0 ≤ (4 : Int32) then
  some (.inl ((), S))
  else
  fX5_needSize_J10  S))
def fX0_init (a0 : Nat) (a1 : Int32) (a2 : Int32) (a3 : Int32) (S : ZS) : Option ZS :=
  Option.bind (zpF S a0 0 0 (.int a1)) fun S1 =>
  Option.bind (zpF S1 a0 0 1 (.int a2)) fun S2 =>
  Option.bind (zpF S2 a0 0 2 (.int a3)) fun S3 =>
  Option.bind (zpF (zna S3 0 64) a0 0 3 (.ref S3.2)) fun S4 =>
  Option.bind (zpF S4 a0 0 4 (.int (0 : Int32))) fun S5 =>
  some S5
def fX5_addCube_J31  (S : ZS) : Option ((Nat × ZS) ⊕ ZX) :=
  some (.inr ("java/lang/IllegalStateException", S.1))
def fX5_addCube (a0 : Nat) (a1 : Int32) (a2 : Int32) (a3 : Int32) (S : ZS) : Option ((Nat × ZS) ⊕ ZX) :=
  zbT (fX5_needSize a1 S) fun x1 =>
  zbT (fX5_needSize a2 x1.2) fun x2 =>
  zbT (fX5_needSize a3 x2.2) fun x3 =>
  Option.bind (zgI x3.2 a0 5 7) fun v4 =>
  (if v4 < 0 then
  fX5_addCube_J31  x3.2
  else
  Option.bind (zgI x3.2 a0 5 7) fun v5 =>
  Option.bind (zgR x3.2 a0 5 0) fun v6 =>
  Option.bind (zal x3.2 v6) fun v7 =>
  (if v5 < v7 then
  Option.bind (fX0_init (Prod.snd x3.2) a1 a2 a3 (zno x3.2 0 [.int 0, .int 0, .int 0, .null, .int 0])) fun x8 =>
  Option.bind (zgR x8 a0 5 0) fun v9 =>
  Option.bind (zgI x8 a0 5 7) fun v10 =>
  Option.bind (zsQ x8 v9 3 0 v10 (Prod.snd x3.2)) fun S11 =>
  Option.bind (zgI S11 a0 5 7) fun v12 =>
  Option.bind (zpF S11 a0 5 7 (.int (v12 + (1 : Int32)))) fun S13 =>
  some (.inl ((Prod.snd x3.2), S13))
  else
  fX5_addCube_J31  x3.2))
def fX5_cube (a0 : Nat) (a1 : Int32) (a2 : Int32) (a3 : Int32) (S : ZS) : Option ((Int32 × ZS) ⊕ ZX) :=
  zbT (zcl S a0 5 (fX5_addCube a0 a1 a2 a3 S)) fun x1 =>
  Option.bind (zgI x1.2 a0 5 7) fun v2 =>
  some (.inl (v2 - (1 : Int32), x1.2))
def fX0_indexOf (a0 : Int32) (a1 : Int32) (a2 : Int32) : Option Int32 :=
  some ((((a0 * (4 : Int32)) + a1) * (4 : Int32)) + a2)
def fX5_put_J18  (S : ZS) : Option ZS :=
  some S
def fX5_put (a0 : Nat) (a1 : Int32) (a2 : Int32) (S : ZS) : Option ZS :=
  (if a1 < 0 then
  fX5_put_J18  S
  else
  Option.bind (zal S a0) fun v1 =>
  (if v1 ≤ a1 then
  fX5_put_J18  S
  else
  Option.bind (zsI S a0 0 a1 a2) fun S2 =>
  fX5_put_J18  S2))
def fX0_enter (a0 : Nat) (a1 : Int32) (a2 : Int32) (a3 : Int32) (a4 : Int32) (S : ZS) : Option ZS :=
  Option.bind (zgR S a0 0 3) fun v1 =>
  Option.bind (fX0_indexOf a1 a2 a3) fun x2 =>
  Option.bind (fX5_put v1 x2 a4 S) fun x3 =>
  some x3
def fX5_matrices_J116 (l0 : Nat) (s0 : Nat) (s1 : Int32) (S : ZS) : Option ((Int32 × ZS) ⊕ ZX) :=
  Option.bind (zpF S s0 0 4 (.int s1)) fun S5 =>
  Option.bind (zgI S5 l0 5 7) fun v6 =>
  some (.inl (v6 - (1 : Int32), S5))
def fX5_matrices_J115 (l0 : Nat) (s0 : Nat) (S : ZS) : Option ((Int32 × ZS) ⊕ ZX) :=
  fX5_matrices_J116 l0 s0 (0 : Int32) S
def fX5_matrices_B48 (l0 : Nat) (l1 : Int32) (l2 : Int32) (l3 : Int32) (l4 : Nat) (l5 : Int32) (l6 : Int32) (t48 : (Int32 × ZS)) : Option ((Int32 × ZS) ⊕ ((Int32 × ZS) ⊕ ((Int32 × ZS) ⊕ ((Int32 × ZS) ⊕ ZX)))) :=
  (if l3 ≤ t48.1 then
  zex (some (.inl (l6 + (1 : Int32), t48.2)))
  else
  Option.bind (zcl t48.2 l4 0 (fX0_enter l4 ((l5 * l2) + l6) ((l6 * l3) + t48.1) ((l5 * l3) + t48.1) (1 : Int32) t48.2)) fun x7 =>
  some (.inl (t48.1 + (1 : Int32), x7)))
def fX5_matrices_B39 (l0 : Nat) (l1 : Int32) (l2 : Int32) (l3 : Int32) (l4 : Nat) (l5 : Int32) (t39 : (Int32 × ZS)) : Option ((Int32 × ZS) ⊕ ((Int32 × ZS) ⊕ ((Int32 × ZS) ⊕ ZX))) :=
  (if l2 ≤ t39.1 then
  zex (some (.inl (l5 + (1 : Int32), t39.2)))
  else
  ziter (fX5_matrices_B48 l0 l1 l2 l3 l4 l5 t39.1) zF ((0 : Int32), t39.2))
def fX5_matrices_B30 (l0 : Nat) (l1 : Int32) (l2 : Int32) (l3 : Int32) (l4 : Nat) (t30 : (Int32 × ZS)) : Option ((Int32 × ZS) ⊕ ((Int32 × ZS) ⊕ ZX)) :=
  (if l1 ≤ t30.1 then
  zex ((if l1 = l2 then
  (if l2 = l3 then
  fX5_matrices_J116 l0 l4 l1 t30.2
  else
  fX5_matrices_J115 l0 l4 t30.2)
  else
  fX5_matrices_J115 l0 l4 t30.2))
  else
  ziter (fX5_matrices_B39 l0 l1 l2 l3 l4 t30.1) zF ((0 : Int32), t30.2))
def fX5_matrices (a0 : Nat) (a1 : Int32) (a2 : Int32) (a3 : Int32) (S : ZS) : Option ((Int32 × ZS) ⊕ ZX) :=
  zbT (fX5_needSize a1 S) fun x1 =>
  zbT (fX5_needSize a2 x1.2) fun x2 =>
  zbT (fX5_needSize a3 x2.2) fun x3 =>
  zbT (zcl x3.2 a0 5 (fX5_addCube a0 (a1 * a2) (a2 * a3) (a1 * a3) x3.2)) fun x4 =>
  ziter (fX5_matrices_B30 a0 a1 a2 a3 x4.1) zF ((0 : Int32), x4.2)
def fX5_polynomials_B32 (l0 : Nat) (l1 : Int32) (l2 : Int32) (l3 : Nat) (l4 : Int32) (t32 : (Int32 × ZS)) : Option ((Int32 × ZS) ⊕ ((Int32 × ZS) ⊕ ((Int32 × ZS) ⊕ ZX))) :=
  (if l2 ≤ t32.1 then
  zex (some (.inl (l4 + (1 : Int32), t32.2)))
  else
  Option.bind (zcl t32.2 l3 0 (fX0_enter l3 l4 t32.1 (l4 + t32.1) (1 : Int32) t32.2)) fun x5 =>
  some (.inl (t32.1 + (1 : Int32), x5)))
def fX5_polynomials_B23 (l0 : Nat) (l1 : Int32) (l2 : Int32) (l3 : Nat) (t23 : (Int32 × ZS)) : Option ((Int32 × ZS) ⊕ ((Int32 × ZS) ⊕ ZX)) :=
  (if l1 ≤ t23.1 then
  zex (Option.bind (zgI t23.2 l0 5 7) fun v4 =>
  some (.inl (v4 - (1 : Int32), t23.2)))
  else
  ziter (fX5_polynomials_B32 l0 l1 l2 l3 t23.1) zF ((0 : Int32), t23.2))
def fX5_polynomials (a0 : Nat) (a1 : Int32) (a2 : Int32) (S : ZS) : Option ((Int32 × ZS) ⊕ ZX) :=
  zbT (fX5_needSize a1 S) fun x1 =>
  zbT (fX5_needSize a2 x1.2) fun x2 =>
  zbT (zcl x2.2 a0 5 (fX5_addCube a0 a1 a2 ((a1 + a2) - (1 : Int32)) x2.2)) fun x3 =>
  ziter (fX5_polynomials_B23 a0 a1 a2 x3.1) zF ((0 : Int32), x3.2)
def fX5_remainder_J11 (s0 : Int32) : Option Int32 :=
  some s0
def fX5_remainder (a0 : Int32) (a1 : Int32) : Option Int32 :=
  (if a1 ≤ 0 then
  fX5_remainder_J11 (0 : Int32)
  else
  Option.bind (zrem a0 a1) fun v1 =>
  fX5_remainder_J11 v1)
def fX5_group_B18 (l0 : Nat) (l1 : Int32) (l2 : Nat) (l3 : Int32) (t18 : (Int32 × ZS)) : Option ((Int32 × ZS) ⊕ ((Int32 × ZS) ⊕ ((Int32 × ZS) ⊕ ZX))) :=
  (if l1 ≤ t18.1 then
  zex (some (.inl (l3 + (1 : Int32), t18.2)))
  else
  Option.bind (fX5_remainder (l3 + t18.1) l1) fun x3 =>
  Option.bind (zcl t18.2 l2 0 (fX0_enter l2 l3 t18.1 x3 (1 : Int32) t18.2)) fun x4 =>
  some (.inl (t18.1 + (1 : Int32), x4)))
def fX5_group_B10 (l0 : Nat) (l1 : Int32) (l2 : Nat) (t10 : (Int32 × ZS)) : Option ((Int32 × ZS) ⊕ ((Int32 × ZS) ⊕ ZX)) :=
  (if l1 ≤ t10.1 then
  zex (Option.bind (zgI t10.2 l0 5 7) fun v2 =>
  some (.inl (v2 - (1 : Int32), t10.2)))
  else
  ziter (fX5_group_B18 l0 l1 l2 t10.1) zF ((0 : Int32), t10.2))
def fX5_group (a0 : Nat) (a1 : Int32) (S : ZS) : Option ((Int32 × ZS) ⊕ ZX) :=
  zbT (zcl S a0 5 (fX5_addCube a0 a1 a1 a1 S)) fun x1 =>
  ziter (fX5_group_B10 a0 a1 x1.1) zF ((0 : Int32), x1.2)
def fX5_needCube_J23 (s0 : Option Nat) (S : ZS) : Option ((Nat × ZS) ⊕ ZX) :=
  zmq s0 (some (.inr ("java/lang/IndexOutOfBoundsException", S.1))) fun as0 =>
  some (.inl (as0, S))
def fX5_needCube_J22  (S : ZS) : Option ((Nat × ZS) ⊕ ZX) :=
  fX5_needCube_J23 none S
def fX5_needCube (a0 : Nat) (a1 : Int32) (S : ZS) : Option ((Nat × ZS) ⊕ ZX) :=
  (if a1 < 0 then
  fX5_needCube_J22  S
  else
  Option.bind (zgR S a0 5 0) fun v1 =>
  Option.bind (zal S v1) fun v2 =>
  (if v2 ≤ a1 then
  fX5_needCube_J22  S
  else
  Option.bind (zgR S a0 5 0) fun v3 =>
  Option.bind (zaQ S v3 3 a1) fun v4 =>
  fX5_needCube_J23 v4 S))
def fX5_isBelow_J14 (s0 : Int32) : Option Int32 :=
  Option.bind (zbl s0) fun w => some w
def fX5_isBelow_J13  : Option Int32 :=
  fX5_isBelow_J14 (0 : Int32)
def fX5_isBelow (a0 : Int32) (a1 : Int32) : Option Int32 :=
  (if a0 < 0 then
  fX5_isBelow_J13
  else
  (if a1 ≤ a0 then
  fX5_isBelow_J13
  else
  fX5_isBelow_J14 (1 : Int32)))
def fX5_needPlace_J33  (S : ZS) : Option ((Unit × ZS) ⊕ ZX) :=
  some (.inr ("java/lang/IndexOutOfBoundsException", S.1))
def fX5_needPlace (a0 : Nat) (a1 : Int32) (a2 : Int32) (a3 : Int32) (S : ZS) : Option ((Unit × ZS) ⊕ ZX) :=
  Option.bind (zgI S a0 0 0) fun v1 =>
  Option.bind (fX5_isBelow a1 v1) fun x2 =>
  (if x2 = 0 then
  fX5_needPlace_J33  S
  else
  Option.bind (zgI S a0 0 1) fun v3 =>
  Option.bind (fX5_isBelow a2 v3) fun x4 =>
  (if x4 = 0 then
  fX5_needPlace_J33  S
  else
  Option.bind (zgI S a0 0 2) fun v5 =>
  Option.bind (fX5_isBelow a3 v5) fun x6 =>
  (if x6 = 0 then
  fX5_needPlace_J33  S
  else
  some (.inl ((), S)))))
def fX5_get_J21 (s0 : Int32) (S : ZS) : Option Int32 :=
  some s0
def fX5_get_J20  (S : ZS) : Option Int32 :=
  fX5_get_J21 (0 : Int32) S
def fX5_get (a0 : Nat) (a1 : Int32) (S : ZS) : Option Int32 :=
  (if a1 < 0 then
  fX5_get_J20  S
  else
  Option.bind (zal S a0) fun v1 =>
  (if v1 ≤ a1 then
  fX5_get_J20  S
  else
  Option.bind (zaI S a0 0 a1) fun v2 =>
  fX5_get_J21 v2 S))
def fX0_numberAt (a0 : Nat) (a1 : Int32) (a2 : Int32) (a3 : Int32) (S : ZS) : Option Int32 :=
  Option.bind (zgR S a0 0 3) fun v1 =>
  Option.bind (fX0_indexOf a1 a2 a3) fun x2 =>
  Option.bind (fX5_get v1 x2 S) fun x3 =>
  some x3
def fX5_set_J30  (S : ZS) : Option ((Int32 × ZS) ⊕ ZX) :=
  some (.inr ("java/lang/IllegalArgumentException", S.1))
def fX5_set (a0 : Nat) (a1 : Int32) (a2 : Int32) (a3 : Int32) (a4 : Int32) (a5 : Int32) (S : ZS) : Option ((Int32 × ZS) ⊕ ZX) :=
  zbT (zcl S a0 5 (fX5_needCube a0 a1 S)) fun x1 =>
  zbT (fX5_needPlace x1.1 a2 a3 a4 x1.2) fun x2 =>
  (if a5 < 0 then
  fX5_set_J30  x2.2
  else
  Option.bind (zgI x2.2 a0 5 6) fun v3 =>
  (if a5 < v3 then
  Option.bind (zcl x2.2 x1.1 0 (fX0_numberAt x1.1 a2 a3 a4 x2.2)) fun x4 =>
  Option.bind (zcl x2.2 x1.1 0 (fX0_enter x1.1 a2 a3 a4 a5 x2.2)) fun x5 =>
  Option.bind (zpF x5 x1.1 0 4 (.int (0 : Int32))) fun S6 =>
  some (.inl (x4, S6))
  else
  fX5_set_J30  x2.2))
def fX5_needSide (a0 : Int32) (S : ZS) : Option ((Unit × ZS) ⊕ ZX) :=
  Option.bind (fX5_isBelow a0 (3 : Int32)) fun x1 =>
  (if x1 = 0 then
  some (.inr ("java/lang/IndexOutOfBoundsException", S.1))
  else
  some (.inl ((), S)))
def fX0_sizeOf_J27 (s0 : Int32) (S : ZS) : Option Int32 :=
  some s0
def fX0_sizeOf (a0 : Nat) (a1 : Int32) (S : ZS) : Option Int32 :=
  (if a1 = 0 then
  Option.bind (zgI S a0 0 0) fun v1 =>
  fX0_sizeOf_J27 v1 S
  else
  (if a1 = (1 : Int32) then
  Option.bind (zgI S a0 0 1) fun v2 =>
  fX0_sizeOf_J27 v2 S
  else
  Option.bind (zgI S a0 0 2) fun v3 =>
  fX0_sizeOf_J27 v3 S))
def fX5_needSlice (a0 : Nat) (a1 : Int32) (a2 : Int32) (S : ZS) : Option ((Unit × ZS) ⊕ ZX) :=
  Option.bind (zcl S a0 0 (fX0_sizeOf a0 a1 S)) fun x1 =>
  Option.bind (fX5_isBelow a2 x1) fun x2 =>
  (if x2 = 0 then
  some (.inr ("java/lang/IndexOutOfBoundsException", S.1))
  else
  some (.inl ((), S)))
def fX0_indexInSlice_J45 (s0 : Int32) : Option Int32 :=
  some s0
def fX0_indexInSlice (a0 : Int32) (a1 : Int32) (a2 : Int32) : Option Int32 :=
  (if a0 = 0 then
  Option.bind (fX0_indexOf a1 (a2 / (4 : Int32)) (a2 % (4 : Int32))) fun x1 =>
  fX0_indexInSlice_J45 x1
  else
  (if a0 = (1 : Int32) then
  Option.bind (fX0_indexOf (a2 / (4 : Int32)) a1 (a2 % (4 : Int32))) fun x2 =>
  fX0_indexInSlice_J45 x2
  else
  Option.bind (fX0_indexOf (a2 / (4 : Int32)) (a2 % (4 : Int32)) a1) fun x3 =>
  fX0_indexInSlice_J45 x3))
def fX0_addSlice_B3 (l0 : Nat) (l1 : Int32) (l2 : Int32) (l3 : Int32) (l4 : Int32) (l5 : Int32) (t3 : (Int32 × ZS)) : Option ((Int32 × ZS) ⊕ ZS) :=
  (if (16 : Int32) ≤ t3.1 then
  zex (some t3.2)
  else
  Option.bind (fX0_indexInSlice l1 l3 t3.1) fun x1 =>
  Option.bind (zgR t3.2 l0 0 3) fun v2 =>
  Option.bind (fX5_get v2 x1 t3.2) fun x3 =>
  Option.bind (zgR t3.2 l0 0 3) fun v4 =>
  Option.bind (fX0_indexInSlice l1 l2 t3.1) fun x5 =>
  Option.bind (fX5_get v4 x5 t3.2) fun x6 =>
  Option.bind (zgR t3.2 l0 0 3) fun v7 =>
  Option.bind (fX5_remainder (x3 + (l4 * x6)) l5) fun x8 =>
  Option.bind (fX5_put v7 x1 x8 t3.2) fun x9 =>
  some (.inl (t3.1 + (1 : Int32), x9)))
def fX0_addSlice (a0 : Nat) (a1 : Int32) (a2 : Int32) (a3 : Int32) (a4 : Int32) (a5 : Int32) (S : ZS) : Option ZS :=
  ziter (fX0_addSlice_B3 a0 a1 a2 a3 a4 a5) zF ((0 : Int32), S)
def fX0_countOthersThanZero_J27 (l0 : Nat) (l2 : Int32) (s0 : Int32) (s1 : Int32) (S : ZS) : Option ((Int32 × Int32) ⊕ Int32) :=
  some (.inl (s0 + s1, l2 + (1 : Int32)))
def fX0_countOthersThanZero_B4 (l0 : Nat) (S : ZS) (t4 : (Int32 × Int32)) : Option ((Int32 × Int32) ⊕ Int32) :=
  (if (64 : Int32) ≤ t4.2 then
  zex (some t4.1)
  else
  Option.bind (zgR S l0 0 3) fun v1 =>
  Option.bind (fX5_get v1 t4.2 S) fun x2 =>
  (if x2 = 0 then
  fX0_countOthersThanZero_J27 l0 t4.2 t4.1 (0 : Int32) S
  else
  fX0_countOthersThanZero_J27 l0 t4.2 t4.1 (1 : Int32) S))
def fX0_countOthersThanZero (a0 : Nat) (S : ZS) : Option Int32 :=
  ziter (fX0_countOthersThanZero_B4 a0 S) zF ((0 : Int32), (0 : Int32))
def fX5_move_J57  (S : ZS) : Option ((Int32 × ZS) ⊕ ZX) :=
  some (.inr ("java/lang/IllegalArgumentException", S.1))
def fX5_move (a0 : Nat) (a1 : Int32) (a2 : Int32) (a3 : Int32) (a4 : Int32) (a5 : Int32) (S : ZS) : Option ((Int32 × ZS) ⊕ ZX) :=
  zbT (zcl S a0 5 (fX5_needCube a0 a1 S)) fun x1 =>
  zbT (fX5_needSide a2 x1.2) fun x2 =>
  zbT (fX5_needSlice x1.1 a2 a3 x2.2) fun x3 =>
  zbT (fX5_needSlice x1.1 a2 a4 x3.2) fun x4 =>
  (if a3 = a4 then
  some (.inr ("java/lang/IllegalArgumentException", x4.2.1))
  else
  (if a5 < (1 : Int32) then
  fX5_move_J57  x4.2
  else
  Option.bind (zgI x4.2 a0 5 6) fun v5 =>
  (if a5 < v5 then
  Option.bind (zgI x4.2 a0 5 6) fun v6 =>
  Option.bind (zcl x4.2 x1.1 0 (fX0_addSlice x1.1 a2 a3 a4 a5 v6 x4.2)) fun x7 =>
  Option.bind (zpF x7 x1.1 0 4 (.int (0 : Int32))) fun S8 =>
  Option.bind (zcl S8 x1.1 0 (fX0_countOthersThanZero x1.1 S8)) fun x9 =>
  some (.inl (x9, S8))
  else
  fX5_move_J57  x4.2)))
def fX0_isLike_J38 (s0 : Int32) (S : ZS) : Option Int32 :=
  Option.bind (zbl s0) fun w => some w
def fX0_isLike_J37  (S : ZS) : Option Int32 :=
  fX0_isLike_J38 (0 : Int32) S
def fX0_isLike (a0 : Nat) (a1 : Nat) (S : ZS) : Option Int32 :=
  Option.bind (zgI S a0 0 0) fun v1 =>
  Option.bind (zgI S a1 0 0) fun v2 =>
  (if v1 = v2 then
  Option.bind (zgI S a0 0 1) fun v3 =>
  Option.bind (zgI S a1 0 1) fun v4 =>
  (if v3 = v4 then
  Option.bind (zgI S a0 0 2) fun v5 =>
  Option.bind (zgI S a1 0 2) fun v6 =>
  (if v5 = v6 then
  fX0_isLike_J38 (1 : Int32) S
  else
  fX0_isLike_J37  S)
  else
  fX0_isLike_J37  S)
  else
  fX0_isLike_J37  S)
def fX5_sum_B79 (l0 : Nat) (l3 : Nat) (l4 : Nat) (l5 : Nat) (l6 : Int32) (l7 : Int32) (t79 : (Int32 × ZS)) : Option ((Int32 × ZS) ⊕ ((Int32 × ZS) ⊕ ((Int32 × ZS) ⊕ ((Int32 × ZS) ⊕ ZX)))) :=
  Option.bind (zgI t79.2 l5 0 2) fun v11 =>
  (if v11 ≤ t79.1 then
  zex (some (.inl (l7 + (1 : Int32), t79.2)))
  else
  Option.bind (zcl t79.2 l3 0 (fX0_numberAt l3 l6 l7 t79.1 t79.2)) fun x12 =>
  Option.bind (zcl t79.2 l4 0 (fX0_numberAt l4 l6 l7 t79.1 t79.2)) fun x13 =>
  Option.bind (zgI t79.2 l0 5 6) fun v14 =>
  Option.bind (fX5_remainder (x12 + x13) v14) fun x15 =>
  Option.bind (zcl t79.2 l5 0 (fX0_enter l5 l6 l7 t79.1 x15 t79.2)) fun x16 =>
  some (.inl (t79.1 + (1 : Int32), x16)))
def fX5_sum_B66 (l0 : Nat) (l3 : Nat) (l4 : Nat) (l5 : Nat) (l6 : Int32) (t66 : (Int32 × ZS)) : Option ((Int32 × ZS) ⊕ ((Int32 × ZS) ⊕ ((Int32 × ZS) ⊕ ZX))) :=
  Option.bind (zgI t66.2 l5 0 1) fun v10 =>
  (if v10 ≤ t66.1 then
  zex (some (.inl (l6 + (1 : Int32), t66.2)))
  else
  ziter (fX5_sum_B79 l0 l3 l4 l5 l6 t66.1) zF ((0 : Int32), t66.2))
def fX5_sum_B53 (l0 : Nat) (l3 : Nat) (l4 : Nat) (l5 : Nat) (t53 : (Int32 × ZS)) : Option ((Int32 × ZS) ⊕ ((Int32 × ZS) ⊕ ZX)) :=
  Option.bind (zgI t53.2 l5 0 0) fun v8 =>
  (if v8 ≤ t53.1 then
  zex (Option.bind (zgI t53.2 l0 5 7) fun v9 =>
  some (.inl (v9 - (1 : Int32), t53.2)))
  else
  ziter (fX5_sum_B66 l0 l3 l4 l5 t53.1) zF ((0 : Int32), t53.2))
def fX5_sum (a0 : Nat) (a1 : Int32) (a2 : Int32) (S : ZS) : Option ((Int32 × ZS) ⊕ ZX) :=
  zbT (zcl S a0 5 (fX5_needCube a0 a1 S)) fun x1 =>
  zbT (zcl x1.2 a0 5 (fX5_needCube a0 a2 x1.2)) fun x2 =>
  Option.bind (zcl x2.2 x1.1 0 (fX0_isLike x1.1 x2.1 x2.2)) fun x3 =>
  (if x3 = 0 then
  some (.inr ("java/lang/IllegalArgumentException", x2.2.1))
  else
  Option.bind (zgI x2.2 x1.1 0 0) fun v4 =>
  Option.bind (zgI x2.2 x1.1 0 1) fun v5 =>
  Option.bind (zgI x2.2 x1.1 0 2) fun v6 =>
  zbT (zcl x2.2 a0 5 (fX5_addCube a0 v4 v5 v6 x2.2)) fun x7 =>
  ziter (fX5_sum_B53 a0 x1.1 x2.1 x7.1) zF ((0 : Int32), x7.2))
def fX5_quotient_J11 (s0 : Int32) : Option Int32 :=
  some s0
def fX5_quotient (a0 : Int32) (a1 : Int32) : Option Int32 :=
  (if a1 ≤ 0 then
  fX5_quotient_J11 (0 : Int32)
  else
  Option.bind (zdiv a0 a1) fun v1 =>
  fX5_quotient_J11 v1)
def fX5_numberOfProduct (a0 : Nat) (a1 : Nat) (a2 : Int32) (a3 : Int32) (a4 : Int32) (S : ZS) : Option Int32 :=
  Option.bind (zgI S a1 0 0) fun v1 =>
  Option.bind (fX5_quotient a2 v1) fun x2 =>
  Option.bind (zgI S a1 0 1) fun v3 =>
  Option.bind (fX5_quotient a3 v3) fun x4 =>
  Option.bind (zgI S a1 0 2) fun v5 =>
  Option.bind (fX5_quotient a4 v5) fun x6 =>
  Option.bind (zcl S a0 0 (fX0_numberAt a0 x2 x4 x6 S)) fun x7 =>
  Option.bind (zgI S a1 0 0) fun v8 =>
  Option.bind (fX5_remainder a2 v8) fun x9 =>
  Option.bind (zgI S a1 0 1) fun v10 =>
  Option.bind (fX5_remainder a3 v10) fun x11 =>
  Option.bind (zgI S a1 0 2) fun v12 =>
  Option.bind (fX5_remainder a4 v12) fun x13 =>
  Option.bind (zcl S a1 0 (fX0_numberAt a1 x9 x11 x13 S)) fun x14 =>
  some (x7 * x14)
def fX5_product_B78 (l0 : Nat) (l3 : Nat) (l4 : Nat) (l5 : Nat) (l6 : Int32) (l7 : Int32) (t78 : (Int32 × ZS)) : Option ((Int32 × ZS) ⊕ ((Int32 × ZS) ⊕ ((Int32 × ZS) ⊕ ((Int32 × ZS) ⊕ ZX)))) :=
  Option.bind (zgI t78.2 l5 0 2) fun v13 =>
  (if v13 ≤ t78.1 then
  zex (some (.inl (l7 + (1 : Int32), t78.2)))
  else
  Option.bind (fX5_numberOfProduct l3 l4 l6 l7 t78.1 t78.2) fun x14 =>
  Option.bind (zgI t78.2 l0 5 6) fun v15 =>
  Option.bind (fX5_remainder x14 v15) fun x16 =>
  Option.bind (zcl t78.2 l5 0 (fX0_enter l5 l6 l7 t78.1 x16 t78.2)) fun x17 =>
  some (.inl (t78.1 + (1 : Int32), x17)))
def fX5_product_B65 (l0 : Nat) (l3 : Nat) (l4 : Nat) (l5 : Nat) (l6 : Int32) (t65 : (Int32 × ZS)) : Option ((Int32 × ZS) ⊕ ((Int32 × ZS) ⊕ ((Int32 × ZS) ⊕ ZX))) :=
  Option.bind (zgI t65.2 l5 0 1) fun v12 =>
  (if v12 ≤ t65.1 then
  zex (some (.inl (l6 + (1 : Int32), t65.2)))
  else
  ziter (fX5_product_B78 l0 l3 l4 l5 l6 t65.1) zF ((0 : Int32), t65.2))
def fX5_product_B52 (l0 : Nat) (l3 : Nat) (l4 : Nat) (l5 : Nat) (t52 : (Int32 × ZS)) : Option ((Int32 × ZS) ⊕ ((Int32 × ZS) ⊕ ZX)) :=
  Option.bind (zgI t52.2 l5 0 0) fun v10 =>
  (if v10 ≤ t52.1 then
  zex (Option.bind (zgI t52.2 l0 5 7) fun v11 =>
  some (.inl (v11 - (1 : Int32), t52.2)))
  else
  ziter (fX5_product_B65 l0 l3 l4 l5 t52.1) zF ((0 : Int32), t52.2))
def fX5_product (a0 : Nat) (a1 : Int32) (a2 : Int32) (S : ZS) : Option ((Int32 × ZS) ⊕ ZX) :=
  zbT (zcl S a0 5 (fX5_needCube a0 a1 S)) fun x1 =>
  zbT (zcl x1.2 a0 5 (fX5_needCube a0 a2 x1.2)) fun x2 =>
  Option.bind (zgI x2.2 x1.1 0 0) fun v3 =>
  Option.bind (zgI x2.2 x2.1 0 0) fun v4 =>
  Option.bind (zgI x2.2 x1.1 0 1) fun v5 =>
  Option.bind (zgI x2.2 x2.1 0 1) fun v6 =>
  Option.bind (zgI x2.2 x1.1 0 2) fun v7 =>
  Option.bind (zgI x2.2 x2.1 0 2) fun v8 =>
  zbT (zcl x2.2 a0 5 (fX5_addCube a0 (v3 * v4) (v5 * v6) (v7 * v8) x2.2)) fun x9 =>
  ziter (fX5_product_B52 a0 x1.1 x2.1 x9.1) zF ((0 : Int32), x9.2)
def fX0_copied_B22 (l0 : Nat) (l1 : Nat) (t22 : (Int32 × ZS)) : Option ((Int32 × ZS) ⊕ (Nat × ZS)) :=
  (if (64 : Int32) ≤ t22.1 then
  zex (Option.bind (zgI t22.2 l0 0 4) fun v5 =>
  Option.bind (zpF t22.2 l1 0 4 (.int v5)) fun S6 =>
  some (l1, S6))
  else
  Option.bind (zgR t22.2 l1 0 3) fun v7 =>
  Option.bind (zgR t22.2 l0 0 3) fun v8 =>
  Option.bind (fX5_get v8 t22.1 t22.2) fun x9 =>
  Option.bind (fX5_put v7 t22.1 x9 t22.2) fun x10 =>
  some (.inl (t22.1 + (1 : Int32), x10)))
def fX0_copied (a0 : Nat) (S : ZS) : Option (Nat × ZS) :=
  Option.bind (zgI (zno S 0 [.int 0, .int 0, .int 0, .null, .int 0]) a0 0 0) fun v1 =>
  Option.bind (zgI (zno S 0 [.int 0, .int 0, .int 0, .null, .int 0]) a0 0 1) fun v2 =>
  Option.bind (zgI (zno S 0 [.int 0, .int 0, .int 0, .null, .int 0]) a0 0 2) fun v3 =>
  Option.bind (fX0_init S.2 v1 v2 v3 (zno S 0 [.int 0, .int 0, .int 0, .null, .int 0])) fun x4 =>
  ziter (fX0_copied_B22 a0 S.2) zF ((0 : Int32), x4)
def fX4_init (a0 : Nat) (a1 : Nat) (a2 : Int32) (S : ZS) : Option ZS :=
  Option.bind (zpF S a0 4 0 (.ref a1)) fun S1 =>
  Option.bind (zpF S1 a0 4 1 (.int a2)) fun S2 =>
  Option.bind (zpF (zna S2 0 40) a0 4 2 (.ref S2.2)) fun S3 =>
  Option.bind (zpF S3 a0 4 3 (.int (0 : Int32))) fun S4 =>
  some S4
def fX5_way_J25  (S : ZS) : Option ((Int32 × ZS) ⊕ ZX) :=
  some (.inr ("java/lang/IllegalStateException", S.1))
def fX5_way (a0 : Nat) (a1 : Int32) (S : ZS) : Option ((Int32 × ZS) ⊕ ZX) :=
  zbT (zcl S a0 5 (fX5_needCube a0 a1 S)) fun x1 =>
  Option.bind (zgI x1.2 a0 5 8) fun v2 =>
  (if v2 < 0 then
  fX5_way_J25  x1.2
  else
  Option.bind (zgI x1.2 a0 5 8) fun v3 =>
  Option.bind (zgR x1.2 a0 5 1) fun v4 =>
  Option.bind (zal x1.2 v4) fun v5 =>
  (if v3 < v5 then
  Option.bind (zgR x1.2 a0 5 1) fun v6 =>
  Option.bind (zgI x1.2 a0 5 8) fun v7 =>
  Option.bind (zcl (zno x1.2 4 [.null, .int 0, .null, .int 0]) x1.1 0 (fX0_copied x1.1 (zno x1.2 4 [.null, .int 0, .null, .int 0]))) fun x8 =>
  Option.bind (zgI x8.2 a0 5 6) fun v9 =>
  Option.bind (fX4_init (Prod.snd x1.2) x8.1 v9 x8.2) fun x10 =>
  Option.bind (zsQ x10 v6 4 4 v7 (Prod.snd x1.2)) fun S11 =>
  Option.bind (zgI S11 a0 5 8) fun v12 =>
  Option.bind (zpF S11 a0 5 8 (.int (v12 + (1 : Int32)))) fun S13 =>
  Option.bind (zgI S13 a0 5 8) fun v14 =>
  some (.inl (v14 - (1 : Int32), S13))
  else
  fX5_way_J25  x1.2))
def fX5_needWay_J23 (s0 : Option Nat) (S : ZS) : Option ((Nat × ZS) ⊕ ZX) :=
  zmq s0 (some (.inr ("java/lang/IndexOutOfBoundsException", S.1))) fun as0 =>
  some (.inl (as0, S))
def fX5_needWay_J22  (S : ZS) : Option ((Nat × ZS) ⊕ ZX) :=
  fX5_needWay_J23 none S
def fX5_needWay (a0 : Nat) (a1 : Int32) (S : ZS) : Option ((Nat × ZS) ⊕ ZX) :=
  (if a1 < 0 then
  fX5_needWay_J22  S
  else
  Option.bind (zgR S a0 5 1) fun v1 =>
  Option.bind (zal S v1) fun v2 =>
  (if v2 ≤ a1 then
  fX5_needWay_J22  S
  else
  Option.bind (zgR S a0 5 1) fun v3 =>
  Option.bind (zaQ S v3 4 a1) fun v4 =>
  fX5_needWay_J23 v4 S))
def fX5_power_B4 (l0 : Int32) (l1 : Int32) (t4 : (Int32 × Int32)) : Option ((Int32 × Int32) ⊕ Int32) :=
  (if l1 ≤ t4.2 then
  zex (some t4.1)
  else
  some (.inl (t4.1 * l0, t4.2 + (1 : Int32))))
def fX5_power (a0 : Int32) (a1 : Int32) : Option Int32 :=
  ziter (fX5_power_B4 a0 a1) zF ((1 : Int32), (0 : Int32))
def fX5_needCode (a0 : Nat) (a1 : Int32) (a2 : Int32) (S : ZS) : Option ((Unit × ZS) ⊕ ZX) :=
  Option.bind (zgI S a0 5 6) fun v1 =>
  Option.bind (fX5_power v1 a2) fun x2 =>
  Option.bind (fX5_isBelow a1 x2) fun x3 =>
  (if x3 = 0 then
  some (.inr ("java/lang/IllegalArgumentException", S.1))
  else
  some (.inl ((), S)))
def fX5_needRoom (a0 : Nat) (a1 : Int32) (S : ZS) : Option ((Unit × ZS) ⊕ ZX) :=
  Option.bind (zgI S a0 4 3) fun v1 =>
  (if (v1 + a1) ≤ (40 : Int32) then
  some (.inl ((), S))
  else
  some (.inr ("java/lang/IllegalStateException", S.1)))
def fX4_shiftOf (a0 : Int32) : Option Int32 :=
  some (a0 * (10 : Int32))
def fX4_append (a0 : Nat) (a1 : Int32) (a2 : Int32) (a3 : Int32) (S : ZS) : Option ZS :=
  Option.bind (zgR S a0 4 2) fun v1 =>
  Option.bind (zgI S a0 4 3) fun v2 =>
  Option.bind (fX4_shiftOf (0 : Int32)) fun x3 =>
  Option.bind (fX4_shiftOf (1 : Int32)) fun x4 =>
  Option.bind (fX4_shiftOf (2 : Int32)) fun x5 =>
  Option.bind (fX5_put v1 v2 (((a1 <<< (x3 &&& 31)) ||| (a2 <<< (x4 &&& 31))) ||| (a3 <<< (x5 &&& 31))) S) fun x6 =>
  Option.bind (zgI x6 a0 4 3) fun v7 =>
  Option.bind (zpF x6 a0 4 3 (.int (v7 + (1 : Int32)))) fun S8 =>
  some S8
def fX5_multiply (a0 : Nat) (a1 : Int32) (a2 : Int32) (a3 : Int32) (a4 : Int32) (S : ZS) : Option ((Int32 × ZS) ⊕ ZX) :=
  zbT (zcl S a0 5 (fX5_needWay a0 a1 S)) fun x1 =>
  Option.bind (zgR x1.2 x1.1 4 0) fun v2 =>
  Option.bind (zgI x1.2 v2 0 0) fun v3 =>
  zbT (zcl x1.2 a0 5 (fX5_needCode a0 a2 v3 x1.2)) fun x4 =>
  Option.bind (zgR x4.2 x1.1 4 0) fun v5 =>
  Option.bind (zgI x4.2 v5 0 1) fun v6 =>
  zbT (zcl x4.2 a0 5 (fX5_needCode a0 a3 v6 x4.2)) fun x7 =>
  Option.bind (zgR x7.2 x1.1 4 0) fun v8 =>
  Option.bind (zgI x7.2 v8 0 2) fun v9 =>
  zbT (zcl x7.2 a0 5 (fX5_needCode a0 a4 v9 x7.2)) fun x10 =>
  zbT (fX5_needRoom x1.1 (1 : Int32) x10.2) fun x11 =>
  Option.bind (zcl x11.2 x1.1 4 (fX4_append x1.1 a2 a3 a4 x11.2)) fun x12 =>
  Option.bind (zgI x12 x1.1 4 3) fun v13 =>
  some (.inl (v13, x12))
def fX5_codeOf (a0 : Int32) (a1 : Int32) (a2 : Int32) (a3 : Int32) : Option Int32 :=
  Option.bind (fX5_power a3 ((a1 - (1 : Int32)) - a2)) fun x1 =>
  some (a0 * x1)
def fX4_appendPlaces_J109 (l0 : Nat) (l1 : Int32) (l2 : Int32) (l3 : Int32) (S : ZS) : Option ((Int32 × ZS) ⊕ ((Int32 × ZS) ⊕ ((Int32 × ZS) ⊕ ZS))) :=
  some (.inl (l3 + (1 : Int32), S))
def fX4_appendPlaces_B28 (l0 : Nat) (l1 : Int32) (l2 : Int32) (t28 : (Int32 × ZS)) : Option ((Int32 × ZS) ⊕ ((Int32 × ZS) ⊕ ((Int32 × ZS) ⊕ ZS))) :=
  Option.bind (zgR t28.2 l0 4 0) fun v5 =>
  Option.bind (zgI t28.2 v5 0 2) fun v6 =>
  (if v6 ≤ t28.1 then
  zex (some (.inl (l2 + (1 : Int32), t28.2)))
  else
  Option.bind (zgR t28.2 l0 4 0) fun v7 =>
  Option.bind (zcl t28.2 v7 0 (fX0_numberAt v7 l1 l2 t28.1 t28.2)) fun x8 =>
  (if x8 = 0 then
  fX4_appendPlaces_J109 l0 l1 l2 t28.1 t28.2
  else
  Option.bind (zgR t28.2 l0 4 0) fun v9 =>
  Option.bind (zgI t28.2 v9 0 0) fun v10 =>
  Option.bind (zgI t28.2 l0 4 1) fun v11 =>
  Option.bind (fX5_codeOf x8 v10 l1 v11) fun x12 =>
  Option.bind (zgR t28.2 l0 4 0) fun v13 =>
  Option.bind (zgI t28.2 v13 0 1) fun v14 =>
  Option.bind (zgI t28.2 l0 4 1) fun v15 =>
  Option.bind (fX5_codeOf (1 : Int32) v14 l2 v15) fun x16 =>
  Option.bind (zgR t28.2 l0 4 0) fun v17 =>
  Option.bind (zgI t28.2 v17 0 2) fun v18 =>
  Option.bind (zgI t28.2 l0 4 1) fun v19 =>
  Option.bind (fX5_codeOf (1 : Int32) v18 t28.1 v19) fun x20 =>
  Option.bind (zcl t28.2 l0 4 (fX4_append l0 x12 x16 x20 t28.2)) fun x21 =>
  fX4_appendPlaces_J109 l0 l1 l2 t28.1 x21))
def fX4_appendPlaces_B15 (l0 : Nat) (l1 : Int32) (t15 : (Int32 × ZS)) : Option ((Int32 × ZS) ⊕ ((Int32 × ZS) ⊕ ZS)) :=
  Option.bind (zgR t15.2 l0 4 0) fun v3 =>
  Option.bind (zgI t15.2 v3 0 1) fun v4 =>
  (if v4 ≤ t15.1 then
  zex (some (.inl (l1 + (1 : Int32), t15.2)))
  else
  ziter (fX4_appendPlaces_B28 l0 l1 t15.1) zF ((0 : Int32), t15.2))
def fX4_appendPlaces_B2 (l0 : Nat) (t2 : (Int32 × ZS)) : Option ((Int32 × ZS) ⊕ ZS) :=
  Option.bind (zgR t2.2 l0 4 0) fun v1 =>
  Option.bind (zgI t2.2 v1 0 0) fun v2 =>
  (if v2 ≤ t2.1 then
  zex (some t2.2)
  else
  ziter (fX4_appendPlaces_B15 l0 t2.1) zF ((0 : Int32), t2.2))
def fX4_appendPlaces (a0 : Nat) (S : ZS) : Option ZS :=
  ziter (fX4_appendPlaces_B2 a0) zF ((0 : Int32), S)
def fX5_plain (a0 : Nat) (a1 : Int32) (S : ZS) : Option ((Int32 × ZS) ⊕ ZX) :=
  zbT (zcl S a0 5 (fX5_needWay a0 a1 S)) fun x1 =>
  Option.bind (zgR x1.2 x1.1 4 0) fun v2 =>
  Option.bind (zcl x1.2 v2 0 (fX0_countOthersThanZero v2 x1.2)) fun x3 =>
  zbT (fX5_needRoom x1.1 x3 x1.2) fun x4 =>
  Option.bind (zcl x4.2 x1.1 4 (fX4_appendPlaces x1.1 x4.2)) fun x5 =>
  Option.bind (zgI x5 x1.1 4 3) fun v6 =>
  some (.inl (v6, x5))
def fX5_needProduct (a0 : Nat) (a1 : Int32) (S : ZS) : Option ((Unit × ZS) ⊕ ZX) :=
  Option.bind (zgI S a0 4 3) fun v1 =>
  Option.bind (fX5_isBelow a1 v1) fun x2 =>
  (if x2 = 0 then
  some (.inr ("java/lang/IndexOutOfBoundsException", S.1))
  else
  some (.inl ((), S)))
def fX4_code (a0 : Nat) (a1 : Int32) (a2 : Int32) (S : ZS) : Option Int32 :=
  Option.bind (zgR S a0 4 2) fun v1 =>
  Option.bind (fX5_get v1 a1 S) fun x2 =>
  Option.bind (fX4_shiftOf a2) fun x3 =>
  some ((((Int32.toUInt32 x2) >>> ((Int32.toUInt32 x3) &&& Int32.toUInt32 31)).toInt32) &&& (1023 : Int32))
def fX4_isSame_J20 (s0 : Int32) (S : ZS) : Option Int32 :=
  Option.bind (zbl s0) fun w => some w
def fX4_isSame (a0 : Nat) (a1 : Int32) (a2 : Int32) (a3 : Int32) (S : ZS) : Option Int32 :=
  Option.bind (zcl S a0 4 (fX4_code a0 a1 a3 S)) fun x1 =>
  Option.bind (zcl S a0 4 (fX4_code a0 a2 a3 S)) fun x2 =>
  (if x1 = x2 then
  fX4_isSame_J20 (1 : Int32) S
  else
  fX4_isSame_J20 (0 : Int32) S)
def fX5_numberIn_B15 (l1 : Int32) (l3 : Int32) (t15 : (Int32 × Int32)) : Option ((Int32 × Int32) ⊕ Int32) :=
  (if l1 ≤ t15.2 then
  zex (Option.bind (zrem t15.1 l3) fun v1 =>
  some v1)
  else
  Option.bind (zdiv t15.1 l3) fun v2 =>
  some (.inl (v2, t15.2 + (1 : Int32))))
def fX5_numberIn (a0 : Int32) (a1 : Int32) (a2 : Int32) (a3 : Int32) : Option Int32 :=
  (if (2 : Int32) ≤ a3 then
  ziter (fX5_numberIn_B15 a1 a3) zF (a0, a2 + (1 : Int32))
  else
  some (0 : Int32))
def fX5_addedCode_B6 (l0 : Int32) (l1 : Int32) (l2 : Int32) (l3 : Int32) (l4 : Int32) (t6 : (Int32 × Int32)) : Option ((Int32 × Int32) ⊕ Int32) :=
  (if l3 ≤ t6.2 then
  zex (some t6.1)
  else
  Option.bind (fX5_numberIn l0 l3 t6.2 l4) fun x1 =>
  Option.bind (fX5_numberIn l1 l3 t6.2 l4) fun x2 =>
  Option.bind (fX5_remainder (x1 + (l2 * x2)) l4) fun x3 =>
  some (.inl ((t6.1 * l4) + x3, t6.2 + (1 : Int32))))
def fX5_addedCode (a0 : Int32) (a1 : Int32) (a2 : Int32) (a3 : Int32) (a4 : Int32) : Option Int32 :=
  ziter (fX5_addedCode_B6 a0 a1 a2 a3 a4) zF ((0 : Int32), (0 : Int32))
def fX4_enterCode (a0 : Nat) (a1 : Int32) (a2 : Int32) (a3 : Int32) (S : ZS) : Option ZS :=
  Option.bind (zgR S a0 4 2) fun v1 =>
  Option.bind (fX5_get v1 a1 S) fun x2 =>
  Option.bind (fX4_shiftOf a2) fun x3 =>
  Option.bind (zgR S a0 4 2) fun v4 =>
  Option.bind (fX4_shiftOf a2) fun x5 =>
  Option.bind (fX5_put v4 a1 ((x2 &&& (((1023 : Int32) <<< (x3 &&& 31)) ^^^ (-1 : Int32))) ||| (a3 <<< (x5 &&& 31))) S) fun x6 =>
  some x6
def fX4_addVector (a0 : Nat) (a1 : Int32) (a2 : Int32) (a3 : Int32) (a4 : Int32) (S : ZS) : Option ZS :=
  Option.bind (zgR S a0 4 0) fun v1 =>
  Option.bind (zcl S v1 0 (fX0_sizeOf v1 a3 S)) fun x2 =>
  Option.bind (zcl S a0 4 (fX4_code a0 a1 a3 S)) fun x3 =>
  Option.bind (zcl S a0 4 (fX4_code a0 a2 a3 S)) fun x4 =>
  Option.bind (zgI S a0 4 1) fun v5 =>
  Option.bind (fX5_addedCode x3 x4 a4 x2 v5) fun x6 =>
  Option.bind (zcl S a0 4 (fX4_enterCode a0 a1 a3 x6 S)) fun x7 =>
  some x7
def fX4_turn_J21 (l0 : Nat) (l1 : Int32) (l2 : Int32) (l4 : Int32) (s0 : Int32) (S : ZS) : Option ZS :=
  Option.bind (zcl S l0 4 (fX4_addVector l0 l1 l2 l4 (1 : Int32) S)) fun x1 =>
  Option.bind (zgI x1 l0 4 1) fun v2 =>
  Option.bind (zcl x1 l0 4 (fX4_addVector l0 l2 l1 s0 (v2 - (1 : Int32)) x1)) fun x3 =>
  some x3
def fX4_turn_J9 (l0 : Nat) (l1 : Int32) (l2 : Int32) (l3 : Int32) (s0 : Int32) (S : ZS) : Option ZS :=
  (if l3 = (2 : Int32) then
  fX4_turn_J21 l0 l1 l2 s0 (1 : Int32) S
  else
  fX4_turn_J21 l0 l1 l2 s0 (2 : Int32) S)
def fX4_turn (a0 : Nat) (a1 : Int32) (a2 : Int32) (a3 : Int32) (S : ZS) : Option ZS :=
  (if a3 = 0 then
  fX4_turn_J9 a0 a1 a2 a3 (1 : Int32) S
  else
  fX4_turn_J9 a0 a1 a2 a3 (0 : Int32) S)
def fX5_flip (a0 : Nat) (a1 : Int32) (a2 : Int32) (a3 : Int32) (a4 : Int32) (S : ZS) : Option ((Unit × ZS) ⊕ ZX) :=
  zbT (zcl S a0 5 (fX5_needWay a0 a1 S)) fun x1 =>
  zbT (fX5_needProduct x1.1 a2 x1.2) fun x2 =>
  zbT (fX5_needProduct x1.1 a3 x2.2) fun x3 =>
  zbT (fX5_needSide a4 x3.2) fun x4 =>
  (if a2 = a3 then
  some (.inr ("java/lang/IllegalArgumentException", x4.2.1))
  else
  Option.bind (zcl x4.2 x1.1 4 (fX4_isSame x1.1 a2 a3 a4 x4.2)) fun x5 =>
  (if x5 = 0 then
  some (.inr ("java/lang/IllegalStateException", x4.2.1))
  else
  Option.bind (zcl x4.2 x1.1 4 (fX4_turn x1.1 a2 a3 a4 x4.2)) fun x6 =>
  some (.inl ((), x6))))
def fX4_hasZeros_J32 (s0 : Int32) (S : ZS) : Option Int32 :=
  Option.bind (zbl s0) fun w => some w
def fX4_hasZeros_J27  (S : ZS) : Option Int32 :=
  fX4_hasZeros_J32 (1 : Int32) S
def fX4_hasZeros (a0 : Nat) (a1 : Int32) (S : ZS) : Option Int32 :=
  Option.bind (zcl S a0 4 (fX4_code a0 a1 (0 : Int32) S)) fun x1 =>
  (if x1 = 0 then
  fX4_hasZeros_J27  S
  else
  Option.bind (zcl S a0 4 (fX4_code a0 a1 (1 : Int32) S)) fun x2 =>
  (if x2 = 0 then
  fX4_hasZeros_J27  S
  else
  Option.bind (zcl S a0 4 (fX4_code a0 a1 (2 : Int32) S)) fun x3 =>
  (if x3 = 0 then
  fX4_hasZeros_J27  S
  else
  fX4_hasZeros_J32 (0 : Int32) S)))
def fX4_takeOut_B4 (l0 : Nat) (t4 : (Int32 × ZS)) : Option ((Int32 × ZS) ⊕ ZS) :=
  Option.bind (zgI t4.2 l0 4 3) fun v1 =>
  (if v1 ≤ t4.1 then
  zex (Option.bind (zgI t4.2 l0 4 3) fun v2 =>
  Option.bind (zpF t4.2 l0 4 3 (.int (v2 - (1 : Int32)))) fun S3 =>
  some S3)
  else
  Option.bind (zgR t4.2 l0 4 2) fun v4 =>
  Option.bind (zgR t4.2 l0 4 2) fun v5 =>
  Option.bind (fX5_get v5 t4.1 t4.2) fun x6 =>
  Option.bind (fX5_put v4 (t4.1 - (1 : Int32)) x6 t4.2) fun x7 =>
  some (.inl (t4.1 + (1 : Int32), x7)))
def fX4_takeOut (a0 : Nat) (a1 : Int32) (S : ZS) : Option ZS :=
  ziter (fX4_takeOut_B4 a0) zF (a1 + (1 : Int32), S)
def fX4_takeOutZeros_B2 (l0 : Nat) (S : ZS) (t2 : Int32) : Option (Int32 ⊕ (Int32 × ZS)) :=
  Option.bind (zgI S l0 4 3) fun v1 =>
  (if v1 ≤ t2 then
  zex (some ((0 : Int32), S))
  else
  Option.bind (zcl S l0 4 (fX4_hasZeros l0 t2 S)) fun x2 =>
  (if x2 = 0 then
  some (.inl (t2 + (1 : Int32)))
  else
  zex (Option.bind (zcl S l0 4 (fX4_takeOut l0 t2 S)) fun x3 =>
  some ((1 : Int32), x3))))
def fX4_takeOutZeros (a0 : Nat) (S : ZS) : Option (Int32 × ZS) :=
  ziter (fX4_takeOutZeros_B2 a0 S) zF (0 : Int32)
def fX4_sideToJoin_J117 (s0 : Int32) (S : ZS) : Option Int32 :=
  some s0
def fX4_sideToJoin_J116  (S : ZS) : Option Int32 :=
  fX4_sideToJoin_J117 (-1 : Int32) S
def fX4_sideToJoin_J102 (l5 : Int32) (l6 : Int32) (S : ZS) : Option Int32 :=
  (if l5 = 0 then
  fX4_sideToJoin_J116  S
  else
  (if l6 = 0 then
  fX4_sideToJoin_J116  S
  else
  fX4_sideToJoin_J117 (0 : Int32) S))
def fX4_sideToJoin_J90 (l4 : Int32) (l5 : Int32) (l6 : Int32) (S : ZS) : Option Int32 :=
  (if l4 = 0 then
  fX4_sideToJoin_J102 l5 l6 S
  else
  (if l6 = 0 then
  fX4_sideToJoin_J102 l5 l6 S
  else
  some (1 : Int32)))
def fX4_sideToJoin_J76 (l4 : Int32) (l5 : Int32) (s0 : Int32) (S : ZS) : Option Int32 :=
  (if l4 = 0 then
  fX4_sideToJoin_J90 l4 l5 s0 S
  else
  (if l5 = 0 then
  fX4_sideToJoin_J90 l4 l5 s0 S
  else
  some (2 : Int32)))
def fX4_sideToJoin_J56 (l3 : Int32) (l4 : Int32) (s0 : Int32) (S : ZS) : Option Int32 :=
  Option.bind (fX4_shiftOf (2 : Int32)) fun x7 =>
  (if (l3 &&& ((1023 : Int32) <<< (x7 &&& 31))) = 0 then
  fX4_sideToJoin_J76 l4 s0 (1 : Int32) S
  else
  fX4_sideToJoin_J76 l4 s0 (0 : Int32) S)
def fX4_sideToJoin_J36 (l3 : Int32) (s0 : Int32) (S : ZS) : Option Int32 :=
  Option.bind (fX4_shiftOf (1 : Int32)) fun x6 =>
  (if (l3 &&& ((1023 : Int32) <<< (x6 &&& 31))) = 0 then
  fX4_sideToJoin_J56 l3 s0 (1 : Int32) S
  else
  fX4_sideToJoin_J56 l3 s0 (0 : Int32) S)
def fX4_sideToJoin (a0 : Nat) (a1 : Int32) (a2 : Int32) (S : ZS) : Option Int32 :=
  Option.bind (zgR S a0 4 2) fun v1 =>
  Option.bind (fX5_get v1 a1 S) fun x2 =>
  Option.bind (zgR S a0 4 2) fun v3 =>
  Option.bind (fX5_get v3 a2 S) fun x4 =>
  Option.bind (fX4_shiftOf (0 : Int32)) fun x5 =>
  (if ((x2 ^^^ x4) &&& ((1023 : Int32) <<< (x5 &&& 31))) = 0 then
  fX4_sideToJoin_J36 (x2 ^^^ x4) (1 : Int32) S
  else
  fX4_sideToJoin_J36 (x2 ^^^ x4) (0 : Int32) S)
def fX4_joinProducts_B14 (l0 : Nat) (l1 : Int32) (S : ZS) (t14 : Int32) : Option (Int32 ⊕ (Int32 ⊕ (Int32 × ZS))) :=
  Option.bind (zgI S l0 4 3) fun v2 =>
  (if v2 ≤ t14 then
  zex (some (.inl (l1 + (1 : Int32))))
  else
  Option.bind (zcl S l0 4 (fX4_sideToJoin l0 l1 t14 S)) fun x3 =>
  (if x3 = (-1 : Int32) then
  some (.inl (t14 + (1 : Int32)))
  else
  zex (zex (Option.bind (zcl S l0 4 (fX4_addVector l0 l1 t14 x3 (1 : Int32) S)) fun x4 =>
  Option.bind (zcl x4 l0 4 (fX4_takeOut l0 t14 x4)) fun x5 =>
  some ((1 : Int32), x5)))))
def fX4_joinProducts_B2 (l0 : Nat) (S : ZS) (t2 : Int32) : Option (Int32 ⊕ (Int32 × ZS)) :=
  Option.bind (zgI S l0 4 3) fun v1 =>
  (if v1 ≤ t2 then
  zex (some ((0 : Int32), S))
  else
  ziter (fX4_joinProducts_B14 l0 t2 S) zF (t2 + (1 : Int32)))
def fX4_joinProducts (a0 : Nat) (S : ZS) : Option (Int32 × ZS) :=
  ziter (fX4_joinProducts_B2 a0 S) zF (0 : Int32)
def fX4_shrink_J35 (l0 : Nat) (l1 : Int32) (S : ZS) : Option (Int32 × ZS) :=
  Option.bind (zgI S l0 4 3) fun v2 =>
  some (l1 - v2, S)
def fX4_shrink_J29 (l0 : Nat) (l1 : Int32) (l2 : Int32) (S : ZS) : Option ((Int32 × ZS) ⊕ (Int32 × ZS)) :=
  some (.inl (l2 + (1 : Int32), S))
def fX4_shrink_B7 (l0 : Nat) (l1 : Int32) (t7 : (Int32 × ZS)) : Option ((Int32 × ZS) ⊕ (Int32 × ZS)) :=
  (if l1 ≤ t7.1 then
  zex (fX4_shrink_J35 l0 l1 t7.2)
  else
  Option.bind (zcl t7.2 l0 4 (fX4_takeOutZeros l0 t7.2)) fun x3 =>
  (if x3.1 = 0 then
  Option.bind (zcl x3.2 l0 4 (fX4_joinProducts l0 x3.2)) fun x4 =>
  (if x4.1 = 0 then
  zex (fX4_shrink_J35 l0 l1 x4.2)
  else
  fX4_shrink_J29 l0 l1 t7.1 x4.2)
  else
  fX4_shrink_J29 l0 l1 t7.1 x3.2))
def fX4_shrink (a0 : Nat) (S : ZS) : Option (Int32 × ZS) :=
  Option.bind (zgI S a0 4 3) fun v1 =>
  ziter (fX4_shrink_B7 a0 v1) zF ((0 : Int32), S)
def fX5_reduce (a0 : Nat) (a1 : Int32) (S : ZS) : Option ((Int32 × ZS) ⊕ ZX) :=
  zbT (zcl S a0 5 (fX5_needWay a0 a1 S)) fun x1 =>
  Option.bind (zcl x1.2 x1.1 4 (fX4_shrink x1.1 x1.2)) fun x2 =>
  some (.inl (x2.1, x2.2))
def fX4_draw (a0 : Int32) : Option Int32 :=
  Option.bind (fX5_remainder ((a0 * (25173 : Int32)) + (13849 : Int32)) (65536 : Int32)) fun x1 =>
  some x1
def fX4_isReducible_J37 (l0 : Nat) (l1 : Int32) (l2 : Int32) (S : ZS) : Option (Int32 ⊕ Int32) :=
  some (.inl (l2 + (1 : Int32)))
def fX4_isReducible_B12 (l0 : Nat) (l1 : Int32) (S : ZS) (t12 : Int32) : Option (Int32 ⊕ Int32) :=
  Option.bind (zgI S l0 4 3) fun v2 =>
  (if v2 ≤ t12 then
  zex (some (0 : Int32))
  else
  (if t12 = l1 then
  fX4_isReducible_J37 l0 l1 t12 S
  else
  Option.bind (zcl S l0 4 (fX4_sideToJoin l0 l1 t12 S)) fun x3 =>
  (if x3 = (-1 : Int32) then
  fX4_isReducible_J37 l0 l1 t12 S
  else
  zex (some (1 : Int32)))))
def fX4_isReducible (a0 : Nat) (a1 : Int32) (S : ZS) : Option Int32 :=
  Option.bind (zcl S a0 4 (fX4_hasZeros a0 a1 S)) fun x1 =>
  (if x1 = 0 then
  ziter (fX4_isReducible_B12 a0 a1 S) zF (0 : Int32)
  else
  some (1 : Int32))
def fX4_wander_J142 (l3 : Int32) (S : ZS) : Option (Int32 × ZS) :=
  some (l3, S)
def fX4_wander_J136 (l0 : Nat) (l2 : Int32) (l3 : Int32) (l4 : Int32) (l5 : Int32) (S : ZS) : Option ((Int32 × Int32 × Int32 × ZS) ⊕ (Int32 × ZS)) :=
  some (.inl (l3, l4, l5 + (1 : Int32), S))
def fX4_wander_J123 (l0 : Nat) (l2 : Int32) (l3 : Int32) (l4 : Int32) (l5 : Int32) (S : ZS) : Option ((Int32 × Int32 × Int32 × ZS) ⊕ (Int32 × ZS)) :=
  (if l4 = 0 then
  Option.bind (zcl S l0 4 (fX4_shrink l0 S)) fun x10 =>
  fX4_wander_J136 l0 l2 l3 (1 : Int32) l5 x10.2
  else
  fX4_wander_J136 l0 l2 l3 l4 l5 S)
def fX4_wander_J121 (l0 : Nat) (l2 : Int32) (l3 : Int32) (l5 : Int32) (s0 : Int32) (S : ZS) : Option ((Int32 × Int32 × Int32 × ZS) ⊕ (Int32 × ZS)) :=
  fX4_wander_J123 l0 l2 l3 s0 l5 S
def fX4_wander_J120 (l0 : Nat) (l2 : Int32) (l3 : Int32) (l5 : Int32) (S : ZS) : Option ((Int32 × Int32 × Int32 × ZS) ⊕ (Int32 × ZS)) :=
  fX4_wander_J121 l0 l2 l3 l5 (0 : Int32) S
def fX4_wander_B8 (l0 : Nat) (l2 : Int32) (t8 : (Int32 × Int32 × Int32 × ZS)) : Option ((Int32 × Int32 × Int32 × ZS) ⊕ (Int32 × ZS)) :=
  (if l2 ≤ t8.2.2.1 then
  zex (fX4_wander_J142 t8.1 t8.2.2.2)
  else
  Option.bind (zgI t8.2.2.2 l0 4 3) fun v1 =>
  (if v1 ≤ 0 then
  zex (fX4_wander_J142 t8.1 t8.2.2.2)
  else
  Option.bind (fX4_draw t8.1) fun x2 =>
  Option.bind (zgI t8.2.2.2 l0 4 3) fun v3 =>
  Option.bind (fX5_remainder x2 v3) fun x4 =>
  Option.bind (fX4_draw x2) fun x5 =>
  Option.bind (zgI t8.2.2.2 l0 4 3) fun v6 =>
  Option.bind (fX5_remainder x5 v6) fun x7 =>
  Option.bind (fX4_draw x5) fun x8 =>
  Option.bind (fX5_remainder x8 (3 : Int32)) fun x9 =>
  (if x4 = x7 then
  fX4_wander_J123 l0 l2 x8 t8.2.1 t8.2.2.1 t8.2.2.2
  else
  Option.bind (zcl t8.2.2.2 l0 4 (fX4_isSame l0 x4 x7 x9 t8.2.2.2)) fun x11 =>
  (if x11 = 0 then
  fX4_wander_J123 l0 l2 x8 t8.2.1 t8.2.2.1 t8.2.2.2
  else
  Option.bind (zcl t8.2.2.2 l0 4 (fX4_turn l0 x4 x7 x9 t8.2.2.2)) fun x12 =>
  (if t8.2.1 = 0 then
  fX4_wander_J120 l0 l2 x8 t8.2.2.1 x12
  else
  Option.bind (zcl x12 l0 4 (fX4_isReducible l0 x4 x12)) fun x13 =>
  (if x13 = 0 then
  Option.bind (zcl x12 l0 4 (fX4_isReducible l0 x7 x12)) fun x14 =>
  (if x14 = 0 then
  fX4_wander_J121 l0 l2 x8 t8.2.2.1 (1 : Int32) x12
  else
  fX4_wander_J120 l0 l2 x8 t8.2.2.1 x12)
  else
  fX4_wander_J120 l0 l2 x8 t8.2.2.1 x12))))))
def fX4_wander (a0 : Nat) (a1 : Int32) (a2 : Int32) (S : ZS) : Option (Int32 × ZS) :=
  ziter (fX4_wander_B8 a0 a2) zF (a1, (0 : Int32), (0 : Int32), S)
def fX5_walk_J17  (S : ZS) : Option ((Int32 × ZS) ⊕ ZX) :=
  some (.inr ("java/lang/IllegalArgumentException", S.1))
def fX5_walk_J39  (S : ZS) : Option ((Int32 × ZS) ⊕ ZX) :=
  some (.inr ("java/lang/IllegalArgumentException", S.1))
def fX5_walk (a0 : Nat) (a1 : Int32) (a2 : Int32) (a3 : Int32) (S : ZS) : Option ((Int32 × ZS) ⊕ ZX) :=
  zbT (zcl S a0 5 (fX5_needWay a0 a1 S)) fun x1 =>
  (if a2 < 0 then
  fX5_walk_J17  x1.2
  else
  (if a2 < (65536 : Int32) then
  (if a3 < (1 : Int32) then
  fX5_walk_J39  x1.2
  else
  (if a3 ≤ (200 : Int32) then
  Option.bind (zcl x1.2 x1.1 4 (fX4_wander x1.1 a2 a3 x1.2)) fun x2 =>
  some (.inl (x2.1, x2.2))
  else
  fX5_walk_J39  x1.2))
  else
  fX5_walk_J17  x1.2))
def fX5_at (a0 : Nat) (a1 : Int32) (a2 : Int32) (a3 : Int32) (a4 : Int32) (S : ZS) : Option ((Int32 × ZS) ⊕ ZX) :=
  zbT (zcl S a0 5 (fX5_needCube a0 a1 S)) fun x1 =>
  zbT (fX5_needPlace x1.1 a2 a3 a4 x1.2) fun x2 =>
  Option.bind (zcl x2.2 x1.1 0 (fX0_numberAt x1.1 a2 a3 a4 x2.2)) fun x3 =>
  some (.inl (x3, x2.2))
def fX0_numberInSlice (a0 : Nat) (a1 : Int32) (a2 : Int32) (a3 : Int32) (S : ZS) : Option Int32 :=
  Option.bind (zgR S a0 0 3) fun v1 =>
  Option.bind (fX0_indexInSlice a1 a2 a3) fun x2 =>
  Option.bind (fX5_get v1 x2 S) fun x3 =>
  some x3
def fX1_enter (a0 : Nat) (a1 : Int32) (a2 : Int32) (a3 : Int32) (S : ZS) : Option ZS :=
  Option.bind (zgR S a0 1 0) fun v1 =>
  Option.bind (fX5_put v1 ((a1 * (16 : Int32)) + a2) a3 S) fun x2 =>
  some x2
def fX1_take_B29 (l0 : Nat) (l1 : Nat) (l2 : Int32) (l4 : Int32) (t29 : (Int32 × ZS)) : Option ((Int32 × ZS) ⊕ ((Int32 × ZS) ⊕ ZS)) :=
  (if (16 : Int32) ≤ t29.1 then
  zex (some (.inl (l4 + (1 : Int32), t29.2)))
  else
  Option.bind (zcl t29.2 l1 0 (fX0_numberInSlice l1 l2 l4 t29.1 t29.2)) fun x5 =>
  Option.bind (zcl t29.2 l0 1 (fX1_enter l0 l4 t29.1 x5 t29.2)) fun x6 =>
  some (.inl (t29.1 + (1 : Int32), x6)))
def fX1_take_B17 (l0 : Nat) (l1 : Nat) (l2 : Int32) (t17 : (Int32 × ZS)) : Option ((Int32 × ZS) ⊕ ZS) :=
  Option.bind (zgI t17.2 l0 1 1) fun v4 =>
  (if v4 ≤ t17.1 then
  zex (some t17.2)
  else
  ziter (fX1_take_B29 l0 l1 l2 t17.1) zF ((0 : Int32), t17.2))
def fX1_take (a0 : Nat) (a1 : Nat) (a2 : Int32) (a3 : Int32) (S : ZS) : Option ZS :=
  Option.bind (zcl S a1 0 (fX0_sizeOf a1 a2 S)) fun x1 =>
  Option.bind (zpF S a0 1 1 (.int x1)) fun S2 =>
  Option.bind (zpF S2 a0 1 2 (.int a3)) fun S3 =>
  ziter (fX1_take_B17 a0 a1 a2) zF ((0 : Int32), S3)
def fX1_number (a0 : Nat) (a1 : Int32) (a2 : Int32) (S : ZS) : Option Int32 :=
  Option.bind (zgR S a0 1 0) fun v1 =>
  Option.bind (fX5_get v1 ((a1 * (16 : Int32)) + a2) S) fun x2 =>
  some x2
def fX1_rowWithNumber_B2 (l0 : Nat) (l1 : Int32) (S : ZS) (t2 : Int32) : Option (Int32 ⊕ Int32) :=
  Option.bind (zgI S l0 1 1) fun v1 =>
  (if v1 ≤ t2 then
  zex (some (-1 : Int32))
  else
  Option.bind (zcl S l0 1 (fX1_number l0 t2 l1 S)) fun x2 =>
  (if x2 = 0 then
  some (.inl (t2 + (1 : Int32)))
  else
  zex (some t2)))
def fX1_rowWithNumber (a0 : Nat) (a1 : Int32) (a2 : Int32) (S : ZS) : Option Int32 :=
  ziter (fX1_rowWithNumber_B2 a0 a1 S) zF a2
def fX1_swapRows_B2 (l0 : Nat) (l1 : Int32) (l2 : Int32) (t2 : (Int32 × ZS)) : Option ((Int32 × ZS) ⊕ ZS) :=
  (if (16 : Int32) ≤ t2.1 then
  zex (some t2.2)
  else
  Option.bind (zcl t2.2 l0 1 (fX1_number l0 l1 t2.1 t2.2)) fun x1 =>
  Option.bind (zcl t2.2 l0 1 (fX1_number l0 l2 t2.1 t2.2)) fun x2 =>
  Option.bind (zcl t2.2 l0 1 (fX1_enter l0 l1 t2.1 x2 t2.2)) fun x3 =>
  Option.bind (zcl x3 l0 1 (fX1_enter l0 l2 t2.1 x1 x3)) fun x4 =>
  some (.inl (t2.1 + (1 : Int32), x4)))
def fX1_swapRows (a0 : Nat) (a1 : Int32) (a2 : Int32) (S : ZS) : Option ZS :=
  ziter (fX1_swapRows_B2 a0 a1 a2) zF ((0 : Int32), S)
def fX1_clearBelow_B38 (l0 : Nat) (l1 : Int32) (l2 : Int32) (l3 : Int32) (l4 : Int32) (l5 : Int32) (t38 : (Int32 × ZS)) : Option ((Int32 × ZS) ⊕ ((Int32 × ZS) ⊕ ZS)) :=
  (if (16 : Int32) ≤ t38.1 then
  zex (some (.inl (l4 + (1 : Int32), t38.2)))
  else
  Option.bind (zcl t38.2 l0 1 (fX1_number l0 l4 t38.1 t38.2)) fun x5 =>
  Option.bind (zcl t38.2 l0 1 (fX1_number l0 l2 t38.1 t38.2)) fun x6 =>
  Option.bind (zgI t38.2 l0 1 2) fun v7 =>
  Option.bind (fX5_remainder ((l3 * x5) + (l5 * x6)) v7) fun x8 =>
  Option.bind (zcl t38.2 l0 1 (fX1_enter l0 l4 t38.1 x8 t38.2)) fun x9 =>
  some (.inl (t38.1 + (1 : Int32), x9)))
def fX1_clearBelow_B12 (l0 : Nat) (l1 : Int32) (l2 : Int32) (l3 : Int32) (t12 : (Int32 × ZS)) : Option ((Int32 × ZS) ⊕ ZS) :=
  Option.bind (zgI t12.2 l0 1 1) fun v2 =>
  (if v2 ≤ t12.1 then
  zex (some t12.2)
  else
  Option.bind (zgI t12.2 l0 1 2) fun v3 =>
  Option.bind (zcl t12.2 l0 1 (fX1_number l0 t12.1 l1 t12.2)) fun x4 =>
  ziter (fX1_clearBelow_B38 l0 l1 l2 l3 t12.1 (v3 - x4)) zF (l1, t12.2))
def fX1_clearBelow (a0 : Nat) (a1 : Int32) (a2 : Int32) (S : ZS) : Option ZS :=
  Option.bind (zcl S a0 1 (fX1_number a0 a2 a1 S)) fun x1 =>
  ziter (fX1_clearBelow_B12 a0 a1 a2 x1) zF (a2 + (1 : Int32), S)
def fX1_rankOf_J55 (l0 : Nat) (l4 : Int32) (l5 : Int32) (S : ZS) : Option ((Int32 × Int32 × ZS) ⊕ (Int32 × ZS)) :=
  some (.inl (l4, l5 + (1 : Int32), S))
def fX1_rankOf_B13 (l0 : Nat) (t13 : (Int32 × Int32 × ZS)) : Option ((Int32 × Int32 × ZS) ⊕ (Int32 × ZS)) :=
  (if (16 : Int32) ≤ t13.2.1 then
  zex (some (t13.1, t13.2.2))
  else
  Option.bind (zcl t13.2.2 l0 1 (fX1_rowWithNumber l0 t13.2.1 t13.1 t13.2.2)) fun x2 =>
  (if x2 = (-1 : Int32) then
  fX1_rankOf_J55 l0 t13.1 t13.2.1 t13.2.2
  else
  Option.bind (zcl t13.2.2 l0 1 (fX1_swapRows l0 x2 t13.1 t13.2.2)) fun x3 =>
  Option.bind (zcl x3 l0 1 (fX1_clearBelow l0 t13.2.1 t13.1 x3)) fun x4 =>
  fX1_rankOf_J55 l0 (t13.1 + (1 : Int32)) t13.2.1 x4))
def fX1_rankOf (a0 : Nat) (a1 : Nat) (a2 : Int32) (a3 : Int32) (S : ZS) : Option (Int32 × ZS) :=
  Option.bind (zcl S a0 1 (fX1_take a0 a1 a2 a3 S)) fun x1 =>
  ziter (fX1_rankOf_B13 a0) zF ((0 : Int32), (0 : Int32), x1)
def fX5_flattening (a0 : Nat) (a1 : Int32) (a2 : Int32) (S : ZS) : Option ((Int32 × ZS) ⊕ ZX) :=
  zbT (zcl S a0 5 (fX5_needCube a0 a1 S)) fun x1 =>
  zbT (fX5_needSide a2 x1.2) fun x2 =>
  Option.bind (zgR x2.2 a0 5 2) fun v3 =>
  Option.bind (zgI x2.2 a0 5 6) fun v4 =>
  Option.bind (zcl x2.2 v3 1 (fX1_rankOf v3 x1.1 a2 v4 x2.2)) fun x5 =>
  some (.inl (x5.1, x5.2))
def fX5_greatestRank_B4 (l0 : Nat) (l1 : Nat) (t4 : (Int32 × Int32 × ZS)) : Option ((Int32 × Int32 × ZS) ⊕ (Int32 × ZS)) :=
  (if (3 : Int32) ≤ t4.2.1 then
  zex (some (t4.1, t4.2.2))
  else
  Option.bind (zgR t4.2.2 l0 5 2) fun v1 =>
  Option.bind (zgI t4.2.2 l0 5 6) fun v2 =>
  Option.bind (zcl t4.2.2 v1 1 (fX1_rankOf v1 l1 t4.2.1 v2 t4.2.2)) fun x3 =>
  some (.inl ((if t4.1 < x3.1 then x3.1 else t4.1), t4.2.1 + (1 : Int32), x3.2)))
def fX5_greatestRank (a0 : Nat) (a1 : Nat) (S : ZS) : Option (Int32 × ZS) :=
  ziter (fX5_greatestRank_B4 a0 a1) zF ((0 : Int32), (0 : Int32), S)
def fX5_bound (a0 : Nat) (a1 : Int32) (S : ZS) : Option ((Int32 × ZS) ⊕ ZX) :=
  zbT (zcl S a0 5 (fX5_needCube a0 a1 S)) fun x1 =>
  Option.bind (zcl x1.2 a0 5 (fX5_greatestRank a0 x1.1 x1.2)) fun x2 =>
  some (.inl (x2.1, x2.2))
def fX5_needSmall_J26  (S : ZS) : Option ((Unit × ZS) ⊕ ZX) :=
  some (.inr ("java/lang/IllegalStateException", S.1))
def fX5_needSmall (a0 : Nat) (a1 : Nat) (a2 : Int32) (S : ZS) : Option ((Unit × ZS) ⊕ ZX) :=
  Option.bind (zgI S a0 5 6) fun v1 =>
  (if v1 = (2 : Int32) then
  Option.bind (zgI S a1 0 0) fun v2 =>
  Option.bind (zgI S a1 0 1) fun v3 =>
  Option.bind (zgI S a1 0 2) fun v4 =>
  (if ((v2 * v3) * v4) ≤ a2 then
  some (.inl ((), S))
  else
  fX5_needSmall_J26  S)
  else
  fX5_needSmall_J26  S)
def fX5_putLong_J18  (S : ZS) : Option ZS :=
  some S
def fX5_putLong (a0 : Nat) (a1 : Int32) (a2 : Int64) (S : ZS) : Option ZS :=
  (if a1 < 0 then
  fX5_putLong_J18  S
  else
  Option.bind (zal S a0) fun v1 =>
  (if v1 ≤ a1 then
  fX5_putLong_J18  S
  else
  Option.bind (zsJ S a0 a1 a2) fun S2 =>
  fX5_putLong_J18  S2))
def fX2_bitsOfSingle_B31 (l0 : Nat) (l1 : Int32) (l2 : Int32) (l3 : Int32) (l5 : Int32) (l6 : Int32) (S : ZS) (t31 : (Int32 × Int32)) : Option ((Int32 × Int32) ⊕ ((Int32 × Int32) ⊕ Int32)) :=
  Option.bind (zgI S l0 0 1) fun v4 =>
  (if v4 ≤ t31.2 then
  zex (some (.inl (t31.1, l5 + (1 : Int32))))
  else
  Option.bind (zgI S l0 0 1) fun v5 =>
  Option.bind (fX5_numberIn l2 v5 t31.2 (2 : Int32)) fun x6 =>
  Option.bind (zgI S l0 0 2) fun v7 =>
  some (.inl ((t31.1 <<< (v7 &&& 31)) ||| ((l6 * x6) * l3), t31.2 + (1 : Int32))))
def fX2_bitsOfSingle_B6 (l0 : Nat) (l1 : Int32) (l2 : Int32) (l3 : Int32) (S : ZS) (t6 : (Int32 × Int32)) : Option ((Int32 × Int32) ⊕ Int32) :=
  Option.bind (zgI S l0 0 0) fun v1 =>
  (if v1 ≤ t6.2 then
  zex (some t6.1)
  else
  Option.bind (zgI S l0 0 0) fun v2 =>
  Option.bind (fX5_numberIn l1 v2 t6.2 (2 : Int32)) fun x3 =>
  ziter (fX2_bitsOfSingle_B31 l0 l1 l2 l3 t6.2 x3 S) zF (t6.1, (0 : Int32)))
def fX2_bitsOfSingle (a0 : Nat) (a1 : Int32) (a2 : Int32) (a3 : Int32) (S : ZS) : Option Int32 :=
  ziter (fX2_bitsOfSingle_B6 a0 a1 a2 a3 S) zF ((0 : Int32), (0 : Int32))
def fX5_getLong_J21 (s0 : Int64) (S : ZS) : Option Int64 :=
  some s0
def fX5_getLong_J20  (S : ZS) : Option Int64 :=
  fX5_getLong_J21 (0 : Int64) S
def fX5_getLong (a0 : Nat) (a1 : Int32) (S : ZS) : Option Int64 :=
  (if a1 < 0 then
  fX5_getLong_J20  S
  else
  Option.bind (zal S a0) fun v1 =>
  (if v1 ≤ a1 then
  fX5_getLong_J20  S
  else
  Option.bind (zaJ S a0 a1) fun v2 =>
  fX5_getLong_J21 v2 S))
def fX2_addSingle (a0 : Nat) (a1 : Int32) (S : ZS) : Option ZS :=
  Option.bind (zgR S a0 2 0) fun v1 =>
  Option.bind (zgI S a0 2 2) fun v2 =>
  Option.bind (fX5_put v1 v2 a1 S) fun x3 =>
  Option.bind (zgI x3 a0 2 2) fun v4 =>
  Option.bind (zpF x3 a0 2 2 (.int (v4 + (1 : Int32)))) fun S5 =>
  Option.bind (zgR S5 a0 2 1) fun v6 =>
  Option.bind (zgR S5 a0 2 1) fun v7 =>
  Option.bind (fX5_getLong v7 (a1 / (64 : Int32)) S5) fun x8 =>
  Option.bind (fX5_putLong v6 (a1 / (64 : Int32)) (x8 ||| ((1 : Int64) <<< ((Int32.toInt64 (a1 % (64 : Int32))) &&& 63))) S5) fun x9 =>
  some x9
def fX2_gatherSingles_B59 (l0 : Nat) (l1 : Nat) (l2 : Int32) (l3 : Int32) (t59 : (Int32 × ZS)) : Option ((Int32 × ZS) ⊕ ((Int32 × ZS) ⊕ ((Int32 × ZS) ⊕ ZS))) :=
  Option.bind (zgI t59.2 l1 0 2) fun v6 =>
  Option.bind (fX5_power (2 : Int32) v6) fun x7 =>
  (if x7 ≤ t59.1 then
  zex (some (.inl (l3 + (1 : Int32), t59.2)))
  else
  Option.bind (fX2_bitsOfSingle l1 l2 l3 t59.1 t59.2) fun x8 =>
  Option.bind (zcl t59.2 l0 2 (fX2_addSingle l0 x8 t59.2)) fun x9 =>
  some (.inl (t59.1 + (1 : Int32), x9)))
def fX2_gatherSingles_B44 (l0 : Nat) (l1 : Nat) (l2 : Int32) (t44 : (Int32 × ZS)) : Option ((Int32 × ZS) ⊕ ((Int32 × ZS) ⊕ ZS)) :=
  Option.bind (zgI t44.2 l1 0 1) fun v4 =>
  Option.bind (fX5_power (2 : Int32) v4) fun x5 =>
  (if x5 ≤ t44.1 then
  zex (some (.inl (l2 + (1 : Int32), t44.2)))
  else
  ziter (fX2_gatherSingles_B59 l0 l1 l2 t44.1) zF ((1 : Int32), t44.2))
def fX2_gatherSingles_B30 (l0 : Nat) (l1 : Nat) (t30 : (Int32 × ZS)) : Option ((Int32 × ZS) ⊕ ZS) :=
  Option.bind (zgI t30.2 l1 0 0) fun v2 =>
  Option.bind (fX5_power (2 : Int32) v2) fun x3 =>
  (if x3 ≤ t30.1 then
  zex (some t30.2)
  else
  ziter (fX2_gatherSingles_B44 l0 l1 t30.1) zF ((1 : Int32), t30.2))
def fX2_gatherSingles_B2 (l0 : Nat) (l1 : Nat) (t2 : (Int32 × ZS)) : Option ((Int32 × ZS) ⊕ ZS) :=
  (if (64 : Int32) ≤ t2.1 then
  zex (Option.bind (zpF t2.2 l0 2 2 (.int (0 : Int32))) fun S1 =>
  ziter (fX2_gatherSingles_B30 l0 l1) zF ((1 : Int32), S1))
  else
  Option.bind (zgR t2.2 l0 2 1) fun v28 =>
  Option.bind (fX5_putLong v28 t2.1 (0 : Int64) t2.2) fun x29 =>
  some (.inl (t2.1 + (1 : Int32), x29)))
def fX2_gatherSingles (a0 : Nat) (a1 : Nat) (S : ZS) : Option ZS :=
  ziter (fX2_gatherSingles_B2 a0 a1) zF ((0 : Int32), S)
def fX2_bitsOf_B25 (l0 : Nat) (l2 : Int32) (l3 : Int32) (S : ZS) (t25 : (Int32 × Int32)) : Option ((Int32 × Int32) ⊕ ((Int32 × Int32) ⊕ ((Int32 × Int32) ⊕ Int32))) :=
  Option.bind (zgI S l0 0 2) fun v3 =>
  (if v3 ≤ t25.2 then
  zex (some (.inl (t25.1, l3 + (1 : Int32))))
  else
  Option.bind (zcl S l0 0 (fX0_numberAt l0 l2 l3 t25.2 S)) fun x4 =>
  some (.inl ((t25.1 <<< ((1 : Int32) &&& 31)) ||| x4, t25.2 + (1 : Int32))))
def fX2_bitsOf_B14 (l0 : Nat) (l2 : Int32) (S : ZS) (t14 : (Int32 × Int32)) : Option ((Int32 × Int32) ⊕ ((Int32 × Int32) ⊕ Int32)) :=
  Option.bind (zgI S l0 0 1) fun v2 =>
  (if v2 ≤ t14.2 then
  zex (some (.inl (t14.1, l2 + (1 : Int32))))
  else
  ziter (fX2_bitsOf_B25 l0 l2 t14.2 S) zF (t14.1, (0 : Int32)))
def fX2_bitsOf_B4 (l0 : Nat) (S : ZS) (t4 : (Int32 × Int32)) : Option ((Int32 × Int32) ⊕ Int32) :=
  Option.bind (zgI S l0 0 0) fun v1 =>
  (if v1 ≤ t4.2 then
  zex (some t4.1)
  else
  ziter (fX2_bitsOf_B14 l0 t4.2 S) zF (t4.1, (0 : Int32)))
def fX2_bitsOf (a0 : Nat) (S : ZS) : Option Int32 :=
  ziter (fX2_bitsOf_B4 a0 S) zF ((0 : Int32), (0 : Int32))
def fX2_isSingle_J28 (s0 : Int32) (S : ZS) : Option Int32 :=
  Option.bind (zbl s0) fun w => some w
def fX2_isSingle (a0 : Nat) (a1 : Int32) (S : ZS) : Option Int32 :=
  Option.bind (zgR S a0 2 1) fun v1 =>
  Option.bind (fX5_getLong v1 (a1 / (64 : Int32)) S) fun x2 =>
  (if (lg_cmp ((((Int64.toUInt64 x2) >>> ((Int64.toUInt64 (Int32.toInt64 (a1 % (64 : Int32)))) &&& Int64.toUInt64 63)).toInt64) &&& (1 : Int64)) (0 : Int64)) = 0 then
  fX2_isSingle_J28 (0 : Int32) S
  else
  fX2_isSingle_J28 (1 : Int32) S)
def fX2_isMade_B29 (rc : Nat → Int32 → Int32 → Int32 → ZS → Option Int32) (l0 : Nat) (l1 : Int32) (l2 : Int32) (S : ZS) (t29 : Int32) : Option (Int32 ⊕ Int32) :=
  Option.bind (zgI S l0 2 2) fun v2 =>
  (if v2 ≤ t29 then
  zex (some (0 : Int32))
  else
  Option.bind (zgR S l0 2 0) fun v3 =>
  Option.bind (fX5_get v3 t29 S) fun x4 =>
  Option.bind (zcl S l0 2 (rc l0 (l1 ^^^ x4) (l2 - (1 : Int32)) (t29 + (1 : Int32)) S)) fun x5 =>
  (if x5 = 0 then
  some (.inl (t29 + (1 : Int32)))
  else
  zex (some (1 : Int32))))
def fX2_isMade_J14 (rc : Nat → Int32 → Int32 → Int32 → ZS → Option Int32) (s0 : Int32) (S : ZS) : Option Int32 :=
  Option.bind (zbl s0) fun w => some w
def fX2_isMade_F (rc : Nat → Int32 → Int32 → Int32 → ZS → Option Int32) (a0 : Nat) (a1 : Int32) (a2 : Int32) (a3 : Int32) (S : ZS) : Option Int32 :=
  (if (1 : Int32) ≤ a2 then
  (if a2 = (1 : Int32) then
  Option.bind (zcl S a0 2 (fX2_isSingle a0 a1 S)) fun x1 =>
  Option.bind (zbl x1) fun w => some w
  else
  ziter (fX2_isMade_B29 rc a0 a1 a2 S) zF a3)
  else
  (if a1 = 0 then
  fX2_isMade_J14 rc (1 : Int32) S
  else
  fX2_isMade_J14 rc (0 : Int32) S))
def fX2_isMade : Nat → Nat → Int32 → Int32 → Int32 → ZS → Option Int32
  | 0 => fun _ _ _ _ _ => none
  | d + 1 => fX2_isMade_F (fX2_isMade d)
def fX2_fewest_B13 (l0 : Nat) (l3 : Int32) (S : ZS) (t13 : Int32) : Option (Int32 ⊕ (Int32 × ZS)) :=
  (if (12 : Int32) ≤ t13 then
  zex (some ((12 : Int32), S))
  else
  Option.bind (zcl S l0 2 (fX2_isMade 13 l0 l3 t13 (0 : Int32) S)) fun x3 =>
  (if x3 = 0 then
  some (.inl (t13 + (1 : Int32)))
  else
  zex (some (t13, S))))
def fX2_fewest (a0 : Nat) (a1 : Nat) (a2 : Int32) (S : ZS) : Option (Int32 × ZS) :=
  Option.bind (zcl S a0 2 (fX2_gatherSingles a0 a1 S)) fun x1 =>
  Option.bind (fX2_bitsOf a1 x1) fun x2 =>
  ziter (fX2_fewest_B13 a0 x2 x1) zF a2
def fX5_least (a0 : Nat) (a1 : Int32) (S : ZS) : Option ((Int32 × ZS) ⊕ ZX) :=
  zbT (zcl S a0 5 (fX5_needCube a0 a1 S)) fun x1 =>
  zbT (zcl x1.2 a0 5 (fX5_needSmall a0 x1.1 (12 : Int32) x1.2)) fun x2 =>
  Option.bind (zgR x2.2 a0 5 3) fun v3 =>
  Option.bind (zcl x2.2 a0 5 (fX5_greatestRank a0 x1.1 x2.2)) fun x4 =>
  Option.bind (zcl x4.2 v3 2 (fX2_fewest v3 x1.1 x4.1 x4.2)) fun x5 =>
  some (.inl (x5.1, x5.2))
def fX5_leastAnew (a0 : Nat) (a1 : Int32) (S : ZS) : Option ((Int32 × ZS) ⊕ ZX) :=
  zbT (zcl S a0 5 (fX5_needCube a0 a1 S)) fun x1 =>
  zbT (zcl x1.2 a0 5 (fX5_needSmall a0 x1.1 (8 : Int32) x1.2)) fun x2 =>
  Option.bind (zgR x2.2 a0 5 3) fun v3 =>
  Option.bind (zcl x2.2 v3 2 (fX2_fewest v3 x1.1 (0 : Int32) x2.2)) fun x4 =>
  some (.inl (x4.1, x4.2))
def fX4_number (a0 : Nat) (a1 : Int32) (a2 : Int32) (a3 : Int32) (S : ZS) : Option Int32 :=
  Option.bind (zcl S a0 4 (fX4_code a0 a1 a2 S)) fun x1 =>
  Option.bind (zgR S a0 4 0) fun v2 =>
  Option.bind (zcl S v2 0 (fX0_sizeOf v2 a2 S)) fun x3 =>
  Option.bind (zgI S a0 4 1) fun v4 =>
  Option.bind (fX5_numberIn x1 x3 a3 v4) fun x5 =>
  some x5
def fX4_addEntries_J121 (l0 : Nat) (l1 : Int32) (l2 : Nat) (l3 : Int32) (S : ZS) : Option ((Int32 × ZS) ⊕ ZS) :=
  some (.inl (l3 + (1 : Int32), S))
def fX4_addEntries_J115 (l0 : Nat) (l1 : Int32) (l2 : Nat) (l3 : Int32) (l4 : Int32) (l5 : Int32) (S : ZS) : Option ((Int32 × ZS) ⊕ ((Int32 × ZS) ⊕ ZS)) :=
  some (.inl (l5 + (1 : Int32), S))
def fX4_addEntries_B58 (l0 : Nat) (l1 : Int32) (l2 : Nat) (l3 : Int32) (l4 : Int32) (l5 : Int32) (l6 : Int32) (t58 : (Int32 × ZS)) : Option ((Int32 × ZS) ⊕ ((Int32 × ZS) ⊕ ((Int32 × ZS) ⊕ ZS))) :=
  Option.bind (zgR t58.2 l0 4 0) fun v7 =>
  Option.bind (zgI t58.2 v7 0 2) fun v8 =>
  (if v8 ≤ t58.1 then
  zex (fX4_addEntries_J115 l0 l1 l2 l3 l4 l5 t58.2)
  else
  (if l6 = 0 then
  zex (fX4_addEntries_J115 l0 l1 l2 l3 l4 l5 t58.2)
  else
  Option.bind (fX0_indexOf l3 l5 t58.1) fun x9 =>
  Option.bind (fX5_get l2 x9 t58.2) fun x10 =>
  Option.bind (zcl t58.2 l0 4 (fX4_number l0 l1 (2 : Int32) t58.1 t58.2)) fun x11 =>
  Option.bind (fX5_put l2 x9 (x10 + (l6 * x11)) t58.2) fun x12 =>
  some (.inl (t58.1 + (1 : Int32), x12))))
def fX4_addEntries_B25 (l0 : Nat) (l1 : Int32) (l2 : Nat) (l3 : Int32) (l4 : Int32) (t25 : (Int32 × ZS)) : Option ((Int32 × ZS) ⊕ ((Int32 × ZS) ⊕ ZS)) :=
  Option.bind (zgR t25.2 l0 4 0) fun v4 =>
  Option.bind (zgI t25.2 v4 0 1) fun v5 =>
  (if v5 ≤ t25.1 then
  zex (fX4_addEntries_J121 l0 l1 l2 l3 t25.2)
  else
  (if l4 = 0 then
  zex (fX4_addEntries_J121 l0 l1 l2 l3 t25.2)
  else
  Option.bind (zcl t25.2 l0 4 (fX4_number l0 l1 (1 : Int32) t25.1 t25.2)) fun x6 =>
  ziter (fX4_addEntries_B58 l0 l1 l2 l3 l4 t25.1 (l4 * x6)) zF ((0 : Int32), t25.2)))
def fX4_addEntries_B2 (l0 : Nat) (l1 : Int32) (l2 : Nat) (t2 : (Int32 × ZS)) : Option ((Int32 × ZS) ⊕ ZS) :=
  Option.bind (zgR t2.2 l0 4 0) fun v1 =>
  Option.bind (zgI t2.2 v1 0 0) fun v2 =>
  (if v2 ≤ t2.1 then
  zex (some t2.2)
  else
  Option.bind (zcl t2.2 l0 4 (fX4_number l0 l1 (0 : Int32) t2.1 t2.2)) fun x3 =>
  ziter (fX4_addEntries_B25 l0 l1 l2 t2.1 x3) zF ((0 : Int32), t2.2))
def fX4_addEntries (a0 : Nat) (a1 : Int32) (a2 : Nat) (S : ZS) : Option ZS :=
  ziter (fX4_addEntries_B2 a0 a1 a2) zF ((0 : Int32), S)
def fX4_countWrongPlaces_J84 (l0 : Nat) (l1 : Nat) (l3 : Int32) (s0 : Int32) (s1 : Int32) (S : ZS) : Option ((Int32 × Int32) ⊕ (Int32 × ZS)) :=
  some (.inl (s0 + s1, l3 + (1 : Int32)))
def fX4_countWrongPlaces_B46 (l0 : Nat) (l1 : Nat) (S : ZS) (t46 : (Int32 × Int32)) : Option ((Int32 × Int32) ⊕ (Int32 × ZS)) :=
  (if (64 : Int32) ≤ t46.2 then
  zex (some (t46.1, S))
  else
  Option.bind (fX5_get l1 t46.2 S) fun x2 =>
  Option.bind (zgI S l0 4 1) fun v3 =>
  Option.bind (fX5_remainder x2 v3) fun x4 =>
  Option.bind (zgR S l0 4 0) fun v5 =>
  Option.bind (zgR S v5 0 3) fun v6 =>
  Option.bind (fX5_get v6 t46.2 S) fun x7 =>
  (if x4 = x7 then
  fX4_countWrongPlaces_J84 l0 l1 t46.2 t46.1 (0 : Int32) S
  else
  fX4_countWrongPlaces_J84 l0 l1 t46.2 t46.1 (1 : Int32) S))
def fX4_countWrongPlaces_B22 (l0 : Nat) (l1 : Nat) (t22 : (Int32 × ZS)) : Option ((Int32 × ZS) ⊕ (Int32 × ZS)) :=
  Option.bind (zgI t22.2 l0 4 3) fun v1 =>
  (if v1 ≤ t22.1 then
  zex (ziter (fX4_countWrongPlaces_B46 l0 l1 t22.2) zF ((0 : Int32), (0 : Int32)))
  else
  Option.bind (zcl t22.2 l0 4 (fX4_addEntries l0 t22.1 l1 t22.2)) fun x14 =>
  some (.inl (t22.1 + (1 : Int32), x14)))
def fX4_countWrongPlaces_B2 (l0 : Nat) (l1 : Nat) (t2 : (Int32 × ZS)) : Option ((Int32 × ZS) ⊕ (Int32 × ZS)) :=
  (if (64 : Int32) ≤ t2.1 then
  zex (ziter (fX4_countWrongPlaces_B22 l0 l1) zF ((0 : Int32), t2.2))
  else
  Option.bind (fX5_put l1 t2.1 (0 : Int32) t2.2) fun x23 =>
  some (.inl (t2.1 + (1 : Int32), x23)))
def fX4_countWrongPlaces (a0 : Nat) (a1 : Nat) (S : ZS) : Option (Int32 × ZS) :=
  ziter (fX4_countWrongPlaces_B2 a0 a1) zF ((0 : Int32), S)
def fX3_clear (a0 : Nat) (S : ZS) : Option ZS :=
  Option.bind (zpF S a0 3 1 (.int (0 : Int32))) fun S1 =>
  some S1
def fX4_filledPlaces_J38 (l0 : Nat) (l1 : Int32) (l2 : Int32) (l5 : Int32) (s0 : Int64) (s1 : Int64) (S : ZS) : Option ((Int64 × Int32) ⊕ Int64) :=
  some (.inl (s0 ||| s1, l5 + (1 : Int32)))
def fX4_filledPlaces_B5 (l0 : Nat) (l1 : Int32) (l2 : Int32) (S : ZS) (t5 : (Int64 × Int32)) : Option ((Int64 × Int32) ⊕ Int64) :=
  Option.bind (zgR S l0 4 0) fun v1 =>
  Option.bind (zcl S v1 0 (fX0_sizeOf v1 l2 S)) fun x2 =>
  (if x2 ≤ t5.2 then
  zex (some t5.1)
  else
  Option.bind (zcl S l0 4 (fX4_number l0 l1 l2 t5.2 S)) fun x3 =>
  (if x3 = 0 then
  fX4_filledPlaces_J38 l0 l1 l2 t5.2 t5.1 (0 : Int64) S
  else
  fX4_filledPlaces_J38 l0 l1 l2 t5.2 t5.1 ((1 : Int64) <<< ((Int32.toInt64 t5.2) &&& 63)) S))
def fX4_filledPlaces (a0 : Nat) (a1 : Int32) (a2 : Int32) (S : ZS) : Option Int64 :=
  ziter (fX4_filledPlaces_B5 a0 a1 a2 S) zF ((0 : Int64), (0 : Int32))
def fX3_append (a0 : Nat) (a1 : Int64) (S : ZS) : Option ZS :=
  Option.bind (zgR S a0 3 0) fun v1 =>
  Option.bind (zgI S a0 3 1) fun v2 =>
  Option.bind (fX5_putLong v1 v2 a1 S) fun x3 =>
  Option.bind (zgI x3 a0 3 1) fun v4 =>
  Option.bind (zpF x3 a0 3 1 (.int (v4 + (1 : Int32)))) fun S5 =>
  some S5
def fX4_filledProducts_J34 (l0 : Nat) (l1 : Int32) (l2 : Int32) (l5 : Int32) (s0 : Int64) (s1 : Int64) (S : ZS) : Option ((Int64 × Int32) ⊕ Int64) :=
  some (.inl (s0 ||| s1, l5 + (1 : Int32)))
def fX4_filledProducts_B5 (l0 : Nat) (l1 : Int32) (l2 : Int32) (S : ZS) (t5 : (Int64 × Int32)) : Option ((Int64 × Int32) ⊕ Int64) :=
  Option.bind (zgI S l0 4 3) fun v1 =>
  (if v1 ≤ t5.2 then
  zex (some t5.1)
  else
  Option.bind (zcl S l0 4 (fX4_number l0 t5.2 l1 l2 S)) fun x2 =>
  (if x2 = 0 then
  fX4_filledProducts_J34 l0 l1 l2 t5.2 t5.1 (0 : Int64) S
  else
  fX4_filledProducts_J34 l0 l1 l2 t5.2 t5.1 ((1 : Int64) <<< ((Int32.toInt64 t5.2) &&& 63)) S))
def fX4_filledProducts (a0 : Nat) (a1 : Int32) (a2 : Int32) (S : ZS) : Option Int64 :=
  ziter (fX4_filledProducts_B5 a0 a1 a2 S) zF ((0 : Int64), (0 : Int32))
def fX4_tellSums_J68  (S : ZS) : Option ZS :=
  some S
def fX4_tellSums_B11 (l0 : Nat) (l1 : Int32) (l2 : Nat) (t11 : (Int32 × ZS)) : Option ((Int32 × ZS) ⊕ ZS) :=
  Option.bind (zgI t11.2 l0 4 3) fun v2 =>
  (if v2 ≤ t11.1 then
  zex (fX4_tellSums_J68  t11.2)
  else
  Option.bind (zcl t11.2 l0 4 (fX4_filledPlaces l0 t11.1 l1 t11.2)) fun x3 =>
  Option.bind (zcl t11.2 l2 3 (fX3_append l2 x3 t11.2)) fun x4 =>
  some (.inl (t11.1 + (1 : Int32), x4)))
def fX4_tellSums_B40 (l0 : Nat) (l1 : Int32) (l2 : Nat) (t40 : (Int32 × ZS)) : Option ((Int32 × ZS) ⊕ ZS) :=
  Option.bind (zgR t40.2 l0 4 0) fun v8 =>
  Option.bind (zcl t40.2 v8 0 (fX0_sizeOf v8 l1 t40.2)) fun x9 =>
  (if x9 ≤ t40.1 then
  zex (fX4_tellSums_J68  t40.2)
  else
  Option.bind (zcl t40.2 l0 4 (fX4_filledProducts l0 l1 t40.1 t40.2)) fun x10 =>
  Option.bind (zcl t40.2 l2 3 (fX3_append l2 x10 t40.2)) fun x11 =>
  some (.inl (t40.1 + (1 : Int32), x11)))
def fX4_tellSums (a0 : Nat) (a1 : Int32) (a2 : Nat) (S : ZS) : Option ZS :=
  Option.bind (zcl S a2 3 (fX3_clear a2 S)) fun x1 =>
  (if a1 = (2 : Int32) then
  ziter (fX4_tellSums_B11 a0 a1 a2) zF ((0 : Int32), x1)
  else
  ziter (fX4_tellSums_B40 a0 a1 a2) zF ((0 : Int32), x1))
def fJ13_bitCount_95d88 (a0 : Int64) : Option Int32 :=
  some ((Int64.toInt32 ((((((((a0 - ((((Int64.toUInt64 a0) >>> ((Int64.toUInt64 (Int32.toInt64 (1 : Int32))) &&& Int64.toUInt64 63)).toInt64) &&& (6148914691236517205 : Int64))) &&& (3689348814741910323 : Int64)) + ((((Int64.toUInt64 (a0 - ((((Int64.toUInt64 a0) >>> ((Int64.toUInt64 (Int32.toInt64 (1 : Int32))) &&& Int64.toUInt64 63)).toInt64) &&& (6148914691236517205 : Int64)))) >>> ((Int64.toUInt64 (Int32.toInt64 (2 : Int32))) &&& Int64.toUInt64 63)).toInt64) &&& (3689348814741910323 : Int64))) + (((Int64.toUInt64 (((a0 - ((((Int64.toUInt64 a0) >>> ((Int64.toUInt64 (Int32.toInt64 (1 : Int32))) &&& Int64.toUInt64 63)).toInt64) &&& (6148914691236517205 : Int64))) &&& (3689348814741910323 : Int64)) + ((((Int64.toUInt64 (a0 - ((((Int64.toUInt64 a0) >>> ((Int64.toUInt64 (Int32.toInt64 (1 : Int32))) &&& Int64.toUInt64 63)).toInt64) &&& (6148914691236517205 : Int64)))) >>> ((Int64.toUInt64 (Int32.toInt64 (2 : Int32))) &&& Int64.toUInt64 63)).toInt64) &&& (3689348814741910323 : Int64)))) >>> ((Int64.toUInt64 (Int32.toInt64 (4 : Int32))) &&& Int64.toUInt64 63)).toInt64)) &&& (1085102592571150095 : Int64)) + (((Int64.toUInt64 (((((a0 - ((((Int64.toUInt64 a0) >>> ((Int64.toUInt64 (Int32.toInt64 (1 : Int32))) &&& Int64.toUInt64 63)).toInt64) &&& (6148914691236517205 : Int64))) &&& (3689348814741910323 : Int64)) + ((((Int64.toUInt64 (a0 - ((((Int64.toUInt64 a0) >>> ((Int64.toUInt64 (Int32.toInt64 (1 : Int32))) &&& Int64.toUInt64 63)).toInt64) &&& (6148914691236517205 : Int64)))) >>> ((Int64.toUInt64 (Int32.toInt64 (2 : Int32))) &&& Int64.toUInt64 63)).toInt64) &&& (3689348814741910323 : Int64))) + (((Int64.toUInt64 (((a0 - ((((Int64.toUInt64 a0) >>> ((Int64.toUInt64 (Int32.toInt64 (1 : Int32))) &&& Int64.toUInt64 63)).toInt64) &&& (6148914691236517205 : Int64))) &&& (3689348814741910323 : Int64)) + ((((Int64.toUInt64 (a0 - ((((Int64.toUInt64 a0) >>> ((Int64.toUInt64 (Int32.toInt64 (1 : Int32))) &&& Int64.toUInt64 63)).toInt64) &&& (6148914691236517205 : Int64)))) >>> ((Int64.toUInt64 (Int32.toInt64 (2 : Int32))) &&& Int64.toUInt64 63)).toInt64) &&& (3689348814741910323 : Int64)))) >>> ((Int64.toUInt64 (Int32.toInt64 (4 : Int32))) &&& Int64.toUInt64 63)).toInt64)) &&& (1085102592571150095 : Int64))) >>> ((Int64.toUInt64 (Int32.toInt64 (8 : Int32))) &&& Int64.toUInt64 63)).toInt64)) + (((Int64.toUInt64 ((((((a0 - ((((Int64.toUInt64 a0) >>> ((Int64.toUInt64 (Int32.toInt64 (1 : Int32))) &&& Int64.toUInt64 63)).toInt64) &&& (6148914691236517205 : Int64))) &&& (3689348814741910323 : Int64)) + ((((Int64.toUInt64 (a0 - ((((Int64.toUInt64 a0) >>> ((Int64.toUInt64 (Int32.toInt64 (1 : Int32))) &&& Int64.toUInt64 63)).toInt64) &&& (6148914691236517205 : Int64)))) >>> ((Int64.toUInt64 (Int32.toInt64 (2 : Int32))) &&& Int64.toUInt64 63)).toInt64) &&& (3689348814741910323 : Int64))) + (((Int64.toUInt64 (((a0 - ((((Int64.toUInt64 a0) >>> ((Int64.toUInt64 (Int32.toInt64 (1 : Int32))) &&& Int64.toUInt64 63)).toInt64) &&& (6148914691236517205 : Int64))) &&& (3689348814741910323 : Int64)) + ((((Int64.toUInt64 (a0 - ((((Int64.toUInt64 a0) >>> ((Int64.toUInt64 (Int32.toInt64 (1 : Int32))) &&& Int64.toUInt64 63)).toInt64) &&& (6148914691236517205 : Int64)))) >>> ((Int64.toUInt64 (Int32.toInt64 (2 : Int32))) &&& Int64.toUInt64 63)).toInt64) &&& (3689348814741910323 : Int64)))) >>> ((Int64.toUInt64 (Int32.toInt64 (4 : Int32))) &&& Int64.toUInt64 63)).toInt64)) &&& (1085102592571150095 : Int64)) + (((Int64.toUInt64 (((((a0 - ((((Int64.toUInt64 a0) >>> ((Int64.toUInt64 (Int32.toInt64 (1 : Int32))) &&& Int64.toUInt64 63)).toInt64) &&& (6148914691236517205 : Int64))) &&& (3689348814741910323 : Int64)) + ((((Int64.toUInt64 (a0 - ((((Int64.toUInt64 a0) >>> ((Int64.toUInt64 (Int32.toInt64 (1 : Int32))) &&& Int64.toUInt64 63)).toInt64) &&& (6148914691236517205 : Int64)))) >>> ((Int64.toUInt64 (Int32.toInt64 (2 : Int32))) &&& Int64.toUInt64 63)).toInt64) &&& (3689348814741910323 : Int64))) + (((Int64.toUInt64 (((a0 - ((((Int64.toUInt64 a0) >>> ((Int64.toUInt64 (Int32.toInt64 (1 : Int32))) &&& Int64.toUInt64 63)).toInt64) &&& (6148914691236517205 : Int64))) &&& (3689348814741910323 : Int64)) + ((((Int64.toUInt64 (a0 - ((((Int64.toUInt64 a0) >>> ((Int64.toUInt64 (Int32.toInt64 (1 : Int32))) &&& Int64.toUInt64 63)).toInt64) &&& (6148914691236517205 : Int64)))) >>> ((Int64.toUInt64 (Int32.toInt64 (2 : Int32))) &&& Int64.toUInt64 63)).toInt64) &&& (3689348814741910323 : Int64)))) >>> ((Int64.toUInt64 (Int32.toInt64 (4 : Int32))) &&& Int64.toUInt64 63)).toInt64)) &&& (1085102592571150095 : Int64))) >>> ((Int64.toUInt64 (Int32.toInt64 (8 : Int32))) &&& Int64.toUInt64 63)).toInt64))) >>> ((Int64.toUInt64 (Int32.toInt64 (16 : Int32))) &&& Int64.toUInt64 63)).toInt64)) + (((Int64.toUInt64 (((((((a0 - ((((Int64.toUInt64 a0) >>> ((Int64.toUInt64 (Int32.toInt64 (1 : Int32))) &&& Int64.toUInt64 63)).toInt64) &&& (6148914691236517205 : Int64))) &&& (3689348814741910323 : Int64)) + ((((Int64.toUInt64 (a0 - ((((Int64.toUInt64 a0) >>> ((Int64.toUInt64 (Int32.toInt64 (1 : Int32))) &&& Int64.toUInt64 63)).toInt64) &&& (6148914691236517205 : Int64)))) >>> ((Int64.toUInt64 (Int32.toInt64 (2 : Int32))) &&& Int64.toUInt64 63)).toInt64) &&& (3689348814741910323 : Int64))) + (((Int64.toUInt64 (((a0 - ((((Int64.toUInt64 a0) >>> ((Int64.toUInt64 (Int32.toInt64 (1 : Int32))) &&& Int64.toUInt64 63)).toInt64) &&& (6148914691236517205 : Int64))) &&& (3689348814741910323 : Int64)) + ((((Int64.toUInt64 (a0 - ((((Int64.toUInt64 a0) >>> ((Int64.toUInt64 (Int32.toInt64 (1 : Int32))) &&& Int64.toUInt64 63)).toInt64) &&& (6148914691236517205 : Int64)))) >>> ((Int64.toUInt64 (Int32.toInt64 (2 : Int32))) &&& Int64.toUInt64 63)).toInt64) &&& (3689348814741910323 : Int64)))) >>> ((Int64.toUInt64 (Int32.toInt64 (4 : Int32))) &&& Int64.toUInt64 63)).toInt64)) &&& (1085102592571150095 : Int64)) + (((Int64.toUInt64 (((((a0 - ((((Int64.toUInt64 a0) >>> ((Int64.toUInt64 (Int32.toInt64 (1 : Int32))) &&& Int64.toUInt64 63)).toInt64) &&& (6148914691236517205 : Int64))) &&& (3689348814741910323 : Int64)) + ((((Int64.toUInt64 (a0 - ((((Int64.toUInt64 a0) >>> ((Int64.toUInt64 (Int32.toInt64 (1 : Int32))) &&& Int64.toUInt64 63)).toInt64) &&& (6148914691236517205 : Int64)))) >>> ((Int64.toUInt64 (Int32.toInt64 (2 : Int32))) &&& Int64.toUInt64 63)).toInt64) &&& (3689348814741910323 : Int64))) + (((Int64.toUInt64 (((a0 - ((((Int64.toUInt64 a0) >>> ((Int64.toUInt64 (Int32.toInt64 (1 : Int32))) &&& Int64.toUInt64 63)).toInt64) &&& (6148914691236517205 : Int64))) &&& (3689348814741910323 : Int64)) + ((((Int64.toUInt64 (a0 - ((((Int64.toUInt64 a0) >>> ((Int64.toUInt64 (Int32.toInt64 (1 : Int32))) &&& Int64.toUInt64 63)).toInt64) &&& (6148914691236517205 : Int64)))) >>> ((Int64.toUInt64 (Int32.toInt64 (2 : Int32))) &&& Int64.toUInt64 63)).toInt64) &&& (3689348814741910323 : Int64)))) >>> ((Int64.toUInt64 (Int32.toInt64 (4 : Int32))) &&& Int64.toUInt64 63)).toInt64)) &&& (1085102592571150095 : Int64))) >>> ((Int64.toUInt64 (Int32.toInt64 (8 : Int32))) &&& Int64.toUInt64 63)).toInt64)) + (((Int64.toUInt64 ((((((a0 - ((((Int64.toUInt64 a0) >>> ((Int64.toUInt64 (Int32.toInt64 (1 : Int32))) &&& Int64.toUInt64 63)).toInt64) &&& (6148914691236517205 : Int64))) &&& (3689348814741910323 : Int64)) + ((((Int64.toUInt64 (a0 - ((((Int64.toUInt64 a0) >>> ((Int64.toUInt64 (Int32.toInt64 (1 : Int32))) &&& Int64.toUInt64 63)).toInt64) &&& (6148914691236517205 : Int64)))) >>> ((Int64.toUInt64 (Int32.toInt64 (2 : Int32))) &&& Int64.toUInt64 63)).toInt64) &&& (3689348814741910323 : Int64))) + (((Int64.toUInt64 (((a0 - ((((Int64.toUInt64 a0) >>> ((Int64.toUInt64 (Int32.toInt64 (1 : Int32))) &&& Int64.toUInt64 63)).toInt64) &&& (6148914691236517205 : Int64))) &&& (3689348814741910323 : Int64)) + ((((Int64.toUInt64 (a0 - ((((Int64.toUInt64 a0) >>> ((Int64.toUInt64 (Int32.toInt64 (1 : Int32))) &&& Int64.toUInt64 63)).toInt64) &&& (6148914691236517205 : Int64)))) >>> ((Int64.toUInt64 (Int32.toInt64 (2 : Int32))) &&& Int64.toUInt64 63)).toInt64) &&& (3689348814741910323 : Int64)))) >>> ((Int64.toUInt64 (Int32.toInt64 (4 : Int32))) &&& Int64.toUInt64 63)).toInt64)) &&& (1085102592571150095 : Int64)) + (((Int64.toUInt64 (((((a0 - ((((Int64.toUInt64 a0) >>> ((Int64.toUInt64 (Int32.toInt64 (1 : Int32))) &&& Int64.toUInt64 63)).toInt64) &&& (6148914691236517205 : Int64))) &&& (3689348814741910323 : Int64)) + ((((Int64.toUInt64 (a0 - ((((Int64.toUInt64 a0) >>> ((Int64.toUInt64 (Int32.toInt64 (1 : Int32))) &&& Int64.toUInt64 63)).toInt64) &&& (6148914691236517205 : Int64)))) >>> ((Int64.toUInt64 (Int32.toInt64 (2 : Int32))) &&& Int64.toUInt64 63)).toInt64) &&& (3689348814741910323 : Int64))) + (((Int64.toUInt64 (((a0 - ((((Int64.toUInt64 a0) >>> ((Int64.toUInt64 (Int32.toInt64 (1 : Int32))) &&& Int64.toUInt64 63)).toInt64) &&& (6148914691236517205 : Int64))) &&& (3689348814741910323 : Int64)) + ((((Int64.toUInt64 (a0 - ((((Int64.toUInt64 a0) >>> ((Int64.toUInt64 (Int32.toInt64 (1 : Int32))) &&& Int64.toUInt64 63)).toInt64) &&& (6148914691236517205 : Int64)))) >>> ((Int64.toUInt64 (Int32.toInt64 (2 : Int32))) &&& Int64.toUInt64 63)).toInt64) &&& (3689348814741910323 : Int64)))) >>> ((Int64.toUInt64 (Int32.toInt64 (4 : Int32))) &&& Int64.toUInt64 63)).toInt64)) &&& (1085102592571150095 : Int64))) >>> ((Int64.toUInt64 (Int32.toInt64 (8 : Int32))) &&& Int64.toUInt64 63)).toInt64))) >>> ((Int64.toUInt64 (Int32.toInt64 (16 : Int32))) &&& Int64.toUInt64 63)).toInt64))) >>> ((Int64.toUInt64 (Int32.toInt64 (32 : Int32))) &&& Int64.toUInt64 63)).toInt64))) &&& (127 : Int32))
def fX3_replace (a0 : Nat) (a1 : Int32) (a2 : Int32) (S : ZS) : Option ZS :=
  Option.bind (zgR S a0 3 0) fun v1 =>
  Option.bind (fX5_getLong v1 a1 S) fun x2 =>
  Option.bind (zgR S a0 3 0) fun v3 =>
  Option.bind (fX5_getLong v3 a2 S) fun x4 =>
  Option.bind (zgR S a0 3 0) fun v5 =>
  Option.bind (zgR S a0 3 0) fun v6 =>
  Option.bind (fX5_getLong v6 a1 S) fun x7 =>
  Option.bind (fX5_putLong v5 a1 (x7 &&& ((x2 &&& x4) ^^^ (-1 : Int64))) S) fun x8 =>
  Option.bind (zgR x8 a0 3 0) fun v9 =>
  Option.bind (zgR x8 a0 3 0) fun v10 =>
  Option.bind (fX5_getLong v10 a2 x8) fun x11 =>
  Option.bind (fX5_putLong v9 a2 (x11 &&& ((x2 &&& x4) ^^^ (-1 : Int64))) x8) fun x12 =>
  Option.bind (zcl x12 a0 3 (fX3_append a0 (x2 &&& x4) x12)) fun x13 =>
  some x13
def fX3_shareBestPair_J91 (l0 : Nat) (l1 : Int32) (l2 : Int32) (l3 : Int32) (l4 : Int32) (S : ZS) : Option ((Int32 × Int32 × Int32 × Int32) ⊕ (Int32 × ZS)) :=
  some (.inl (l1, l2, l3, l4 + (1 : Int32)))
def fX3_shareBestPair_J85 (l0 : Nat) (l1 : Int32) (l2 : Int32) (l3 : Int32) (l4 : Int32) (l5 : Int64) (l7 : Int32) (S : ZS) : Option ((Int32 × Int32 × Int32 × Int32) ⊕ ((Int32 × Int32 × Int32 × Int32) ⊕ (Int32 × ZS))) :=
  some (.inl (l1, l2, l3, l7 + (1 : Int32)))
def fX3_shareBestPair_B35 (l0 : Nat) (l4 : Int32) (l5 : Int64) (S : ZS) (t35 : (Int32 × Int32 × Int32 × Int32)) : Option ((Int32 × Int32 × Int32 × Int32) ⊕ ((Int32 × Int32 × Int32 × Int32) ⊕ (Int32 × ZS))) :=
  Option.bind (zgI S l0 3 1) fun v5 =>
  (if v5 ≤ t35.2.2.2 then
  zex (fX3_shareBestPair_J91 l0 t35.1 t35.2.1 t35.2.2.1 l4 S)
  else
  Option.bind (fJ13_bitCount_95d88 l5) fun x6 =>
  (if x6 ≤ t35.2.2.1 then
  zex (fX3_shareBestPair_J91 l0 t35.1 t35.2.1 t35.2.2.1 l4 S)
  else
  Option.bind (zgR S l0 3 0) fun v7 =>
  Option.bind (fX5_getLong v7 t35.2.2.2 S) fun x8 =>
  Option.bind (fJ13_bitCount_95d88 (l5 &&& x8)) fun x9 =>
  (if x9 ≤ t35.2.2.1 then
  fX3_shareBestPair_J85 l0 t35.1 t35.2.1 t35.2.2.1 l4 l5 t35.2.2.2 S
  else
  fX3_shareBestPair_J85 l0 l4 t35.2.2.2 x9 l4 l5 t35.2.2.2 S)))
def fX3_shareBestPair_B9 (l0 : Nat) (S : ZS) (t9 : (Int32 × Int32 × Int32 × Int32)) : Option ((Int32 × Int32 × Int32 × Int32) ⊕ (Int32 × ZS)) :=
  Option.bind (zgI S l0 3 1) fun v1 =>
  (if v1 ≤ t9.2.2.2 then
  zex ((if t9.1 = (-1 : Int32) then
  some ((0 : Int32), S)
  else
  Option.bind (zcl S l0 3 (fX3_replace l0 t9.1 t9.2.1 S)) fun x2 =>
  some ((1 : Int32), x2)))
  else
  Option.bind (zgR S l0 3 0) fun v3 =>
  Option.bind (fX5_getLong v3 t9.2.2.2 S) fun x4 =>
  ziter (fX3_shareBestPair_B35 l0 t9.2.2.2 x4 S) zF (t9.1, t9.2.1, t9.2.2.1, t9.2.2.2 + (1 : Int32)))
def fX3_shareBestPair (a0 : Nat) (S : ZS) : Option (Int32 × ZS) :=
  ziter (fX3_shareBestPair_B9 a0 S) zF ((-1 : Int32), (-1 : Int32), (1 : Int32), (0 : Int32))
def fX3_sharePairs_J21 (l1 : Int32) (S : ZS) : Option (Int32 × ZS) :=
  some (l1, S)
def fX3_sharePairs_B2 (l0 : Nat) (t2 : (Int32 × ZS)) : Option ((Int32 × ZS) ⊕ (Int32 × ZS)) :=
  (if (80 : Int32) ≤ t2.1 then
  zex (fX3_sharePairs_J21 t2.1 t2.2)
  else
  Option.bind (zcl t2.2 l0 3 (fX3_shareBestPair l0 t2.2)) fun x1 =>
  (if x1.1 = 0 then
  zex (fX3_sharePairs_J21 t2.1 x1.2)
  else
  some (.inl (t2.1 + (1 : Int32), x1.2))))
def fX3_sharePairs (a0 : Nat) (S : ZS) : Option (Int32 × ZS) :=
  ziter (fX3_sharePairs_B2 a0) zF ((0 : Int32), S)
def fX3_countAdditions_B7 (l0 : Nat) (S : ZS) (t7 : (Int32 × Int64 × Int32)) : Option ((Int32 × Int64 × Int32) ⊕ Int32) :=
  Option.bind (zgI S l0 3 1) fun v1 =>
  (if v1 ≤ t7.2.2 then
  zex (Option.bind (fJ13_bitCount_95d88 t7.2.1) fun x2 =>
  some (t7.1 - x2))
  else
  Option.bind (zgR S l0 3 0) fun v3 =>
  Option.bind (fX5_getLong v3 t7.2.2 S) fun x4 =>
  Option.bind (fJ13_bitCount_95d88 x4) fun x5 =>
  some (.inl (t7.1 + x5, t7.2.1 ||| x4, t7.2.2 + (1 : Int32))))
def fX3_countAdditions (a0 : Nat) (S : ZS) : Option Int32 :=
  ziter (fX3_countAdditions_B7 a0 S) zF ((0 : Int32), (0 : Int64), (0 : Int32))
def fX5_countAdditions_J37 (l0 : Nat) (l1 : Nat) (l2 : Int32) (l4 : Int32) (s0 : Int32) (s1 : Int32) (S : ZS) : Option ((Int32 × Int32 × ZS) ⊕ (Int32 × ZS)) :=
  Option.bind (zgR S l0 5 4) fun v3 =>
  Option.bind (zcl S v3 3 (fX3_countAdditions v3 S)) fun x4 =>
  some (.inl ((s0 + s1) + x4, l4 + (1 : Int32), S))
def fX5_countAdditions_B5 (l0 : Nat) (l1 : Nat) (l2 : Int32) (t5 : (Int32 × Int32 × ZS)) : Option ((Int32 × Int32 × ZS) ⊕ (Int32 × ZS)) :=
  (if (3 : Int32) ≤ t5.2.1 then
  zex (some (t5.1, t5.2.2))
  else
  Option.bind (zgR t5.2.2 l0 5 4) fun v1 =>
  Option.bind (zcl t5.2.2 l1 4 (fX4_tellSums l1 t5.2.1 v1 t5.2.2)) fun x2 =>
  (if l2 = 0 then
  fX5_countAdditions_J37 l0 l1 l2 t5.2.1 t5.1 (0 : Int32) x2
  else
  Option.bind (zgR x2 l0 5 4) fun v5 =>
  Option.bind (zcl x2 v5 3 (fX3_sharePairs v5 x2)) fun x6 =>
  fX5_countAdditions_J37 l0 l1 l2 t5.2.1 t5.1 x6.1 x6.2))
def fX5_countAdditions (a0 : Nat) (a1 : Nat) (a2 : Int32) (S : ZS) : Option (Int32 × ZS) :=
  ziter (fX5_countAdditions_B5 a0 a1 a2) zF ((0 : Int32), (0 : Int32), S)
def fX4_growthAt_J52 (l0 : Nat) (l1 : Int32) (l2 : Int32) (l3 : Int32) (S : ZS) : Option ((Int32 × Int32) ⊕ Int32) :=
  some (.inl (l2, l3 + (1 : Int32)))
def fX4_growthAt_B4 (l0 : Nat) (l1 : Int32) (S : ZS) (t4 : (Int32 × Int32)) : Option ((Int32 × Int32) ⊕ Int32) :=
  Option.bind (zgI S l0 4 3) fun v1 =>
  (if v1 ≤ t4.2 then
  zex (some t4.1)
  else
  Option.bind (zcl S l0 4 (fX4_number l0 t4.2 (2 : Int32) l1 S)) fun x2 =>
  (if x2 = 0 then
  fX4_growthAt_J52 l0 l1 t4.1 t4.2 S
  else
  Option.bind (zcl S l0 4 (fX4_filledPlaces l0 t4.2 (0 : Int32) S)) fun x3 =>
  Option.bind (fJ13_bitCount_95d88 x3) fun x4 =>
  Option.bind (zcl S l0 4 (fX4_filledPlaces l0 t4.2 (1 : Int32) S)) fun x5 =>
  Option.bind (fJ13_bitCount_95d88 x5) fun x6 =>
  fX4_growthAt_J52 l0 l1 (t4.1 + (x4 * x6)) t4.2 S))
def fX4_growthAt (a0 : Nat) (a1 : Int32) (S : ZS) : Option Int32 :=
  ziter (fX4_growthAt_B4 a0 a1 S) zF ((0 : Int32), (0 : Int32))
def fX4_greatestGrowth_B4 (l0 : Nat) (S : ZS) (t4 : (Int32 × Int32)) : Option ((Int32 × Int32) ⊕ Int32) :=
  Option.bind (zgR S l0 4 0) fun v1 =>
  Option.bind (zgI S v1 0 2) fun v2 =>
  (if v2 ≤ t4.2 then
  zex (some t4.1)
  else
  Option.bind (zcl S l0 4 (fX4_growthAt l0 t4.2 S)) fun x3 =>
  some (.inl ((if t4.1 < x3 then x3 else t4.1), t4.2 + (1 : Int32))))
def fX4_greatestGrowth (a0 : Nat) (S : ZS) : Option Int32 :=
  ziter (fX4_greatestGrowth_B4 a0 S) zF ((0 : Int32), (0 : Int32))
def fX5_ofWay_J15  (S : ZS) : Option ((Int32 × ZS) ⊕ ZX) :=
  some (.inr ("java/lang/IllegalArgumentException", S.1))
def fX5_ofWay (a0 : Nat) (a1 : Int32) (a2 : Int32) (S : ZS) : Option ((Int32 × ZS) ⊕ ZX) :=
  zbT (zcl S a0 5 (fX5_needWay a0 a1 S)) fun x1 =>
  (if a2 < 0 then
  fX5_ofWay_J15  x1.2
  else
  (if a2 ≤ (4 : Int32) then
  zsw a2 0 [Option.bind (zgI x1.2 x1.1 4 3) fun v2 =>
  some (.inl (v2, x1.2)),
  Option.bind (zgR x1.2 a0 5 5) fun v3 =>
  Option.bind (zcl x1.2 x1.1 4 (fX4_countWrongPlaces x1.1 v3 x1.2)) fun x4 =>
  some (.inl (x4.1, x4.2)),
  Option.bind (zcl x1.2 a0 5 (fX5_countAdditions a0 x1.1 (0 : Int32) x1.2)) fun x5 =>
  some (.inl (x5.1, x5.2)),
  Option.bind (zcl x1.2 a0 5 (fX5_countAdditions a0 x1.1 (1 : Int32) x1.2)) fun x6 =>
  some (.inl (x6.1, x6.2))] (Option.bind (zcl x1.2 x1.1 4 (fX4_greatestGrowth x1.1 x1.2)) fun x7 =>
  some (.inl (x7, x1.2)))
  else
  fX5_ofWay_J15  x1.2))
def fX5_vector (a0 : Nat) (a1 : Int32) (a2 : Int32) (a3 : Int32) (S : ZS) : Option ((Int32 × ZS) ⊕ ZX) :=
  zbT (zcl S a0 5 (fX5_needWay a0 a1 S)) fun x1 =>
  zbT (fX5_needProduct x1.1 a2 x1.2) fun x2 =>
  zbT (fX5_needSide a3 x2.2) fun x3 =>
  Option.bind (zcl x3.2 x1.1 4 (fX4_code x1.1 a2 a3 x3.2)) fun x4 =>
  some (.inl (x4, x3.2))
def fX5_needFactors (a0 : Nat) (a1 : Nat) (a2 : Int32) (a3 : Int32) (a4 : Int32) (S : ZS) : Option ((Unit × ZS) ⊕ ZX) :=
  Option.bind (zgR S a1 4 0) fun v1 =>
  Option.bind (zgI S v1 0 2) fun v2 =>
  Option.bind (fX5_isBelow a4 v2) fun x3 =>
  (if x3 = 0 then
  some (.inr ("java/lang/IndexOutOfBoundsException", S.1))
  else
  Option.bind (zgR S a1 4 0) fun v4 =>
  Option.bind (zgI S v4 0 0) fun v5 =>
  zbT (zcl S a0 5 (fX5_needCode a0 a2 v5 S)) fun x6 =>
  Option.bind (zgR x6.2 a1 4 0) fun v7 =>
  Option.bind (zgI x6.2 v7 0 1) fun v8 =>
  zbT (zcl x6.2 a0 5 (fX5_needCode a0 a3 v8 x6.2)) fun x9 =>
  some (.inl ((), x9.2)))
def fX5_multipliedCodes_B6 (l0 : Int32) (l1 : Int32) (l2 : Int32) (l3 : Int32) (t6 : (Int32 × Int32)) : Option ((Int32 × Int32) ⊕ Int32) :=
  (if l2 ≤ t6.2 then
  zex (Option.bind (fX5_remainder t6.1 l3) fun x1 =>
  some x1)
  else
  Option.bind (fX5_numberIn l0 l2 t6.2 l3) fun x2 =>
  Option.bind (fX5_numberIn l1 l2 t6.2 l3) fun x3 =>
  some (.inl (t6.1 + (x2 * x3), t6.2 + (1 : Int32))))
def fX5_multipliedCodes (a0 : Int32) (a1 : Int32) (a2 : Int32) (a3 : Int32) : Option Int32 :=
  ziter (fX5_multipliedCodes_B6 a0 a1 a2 a3) zF ((0 : Int32), (0 : Int32))
def fX4_multiplied_B6 (l0 : Nat) (l1 : Int32) (l2 : Int32) (l3 : Int32) (S : ZS) (t6 : (Int32 × Int32)) : Option ((Int32 × Int32) ⊕ Int32) :=
  Option.bind (zgI S l0 4 3) fun v1 =>
  (if v1 ≤ t6.2 then
  zex (Option.bind (zgI S l0 4 1) fun v2 =>
  Option.bind (fX5_remainder t6.1 v2) fun x3 =>
  some x3)
  else
  Option.bind (zcl S l0 4 (fX4_code l0 t6.2 (0 : Int32) S)) fun x4 =>
  Option.bind (zgR S l0 4 0) fun v5 =>
  Option.bind (zgI S v5 0 0) fun v6 =>
  Option.bind (zgI S l0 4 1) fun v7 =>
  Option.bind (fX5_multipliedCodes x4 l1 v6 v7) fun x8 =>
  Option.bind (zcl S l0 4 (fX4_code l0 t6.2 (1 : Int32) S)) fun x9 =>
  Option.bind (zgR S l0 4 0) fun v10 =>
  Option.bind (zgI S v10 0 1) fun v11 =>
  Option.bind (zgI S l0 4 1) fun v12 =>
  Option.bind (fX5_multipliedCodes x9 l2 v11 v12) fun x13 =>
  Option.bind (zcl S l0 4 (fX4_number l0 t6.2 (2 : Int32) l3 S)) fun x14 =>
  some (.inl (t6.1 + ((x14 * x8) * x13), t6.2 + (1 : Int32))))
def fX4_multiplied (a0 : Nat) (a1 : Int32) (a2 : Int32) (a3 : Int32) (S : ZS) : Option Int32 :=
  ziter (fX4_multiplied_B6 a0 a1 a2 a3 S) zF ((0 : Int32), (0 : Int32))
def fX5_result (a0 : Nat) (a1 : Int32) (a2 : Int32) (a3 : Int32) (a4 : Int32) (S : ZS) : Option ((Int32 × ZS) ⊕ ZX) :=
  zbT (zcl S a0 5 (fX5_needWay a0 a1 S)) fun x1 =>
  zbT (zcl x1.2 a0 5 (fX5_needFactors a0 x1.1 a2 a3 a4 x1.2)) fun x2 =>
  Option.bind (zcl x2.2 x1.1 4 (fX4_multiplied x1.1 a2 a3 a4 x2.2)) fun x3 =>
  some (.inl (x3, x2.2))
def fX4_multipliedByCube_B40 (l0 : Nat) (l1 : Int32) (l2 : Int32) (l3 : Int32) (l5 : Int32) (l6 : Int32) (S : ZS) (t40 : (Int32 × Int32)) : Option ((Int32 × Int32) ⊕ ((Int32 × Int32) ⊕ Int32)) :=
  Option.bind (zgR S l0 4 0) fun v9 =>
  Option.bind (zgI S v9 0 1) fun v10 =>
  (if v10 ≤ t40.2 then
  zex (some (.inl (t40.1, l5 + (1 : Int32))))
  else
  Option.bind (zgR S l0 4 0) fun v11 =>
  Option.bind (zgI S v11 0 1) fun v12 =>
  Option.bind (zgI S l0 4 1) fun v13 =>
  Option.bind (fX5_numberIn l2 v12 t40.2 v13) fun x14 =>
  Option.bind (zgR S l0 4 0) fun v15 =>
  Option.bind (zcl S v15 0 (fX0_numberAt v15 l5 t40.2 l3 S)) fun x16 =>
  some (.inl (t40.1 + ((x16 * l6) * x14), t40.2 + (1 : Int32))))
def fX4_multipliedByCube_B6 (l0 : Nat) (l1 : Int32) (l2 : Int32) (l3 : Int32) (S : ZS) (t6 : (Int32 × Int32)) : Option ((Int32 × Int32) ⊕ Int32) :=
  Option.bind (zgR S l0 4 0) fun v1 =>
  Option.bind (zgI S v1 0 0) fun v2 =>
  (if v2 ≤ t6.2 then
  zex (Option.bind (zgI S l0 4 1) fun v3 =>
  Option.bind (fX5_remainder t6.1 v3) fun x4 =>
  some x4)
  else
  Option.bind (zgR S l0 4 0) fun v5 =>
  Option.bind (zgI S v5 0 0) fun v6 =>
  Option.bind (zgI S l0 4 1) fun v7 =>
  Option.bind (fX5_numberIn l1 v6 t6.2 v7) fun x8 =>
  ziter (fX4_multipliedByCube_B40 l0 l1 l2 l3 t6.2 x8 S) zF (t6.1, (0 : Int32)))
def fX4_multipliedByCube (a0 : Nat) (a1 : Int32) (a2 : Int32) (a3 : Int32) (S : ZS) : Option Int32 :=
  ziter (fX4_multipliedByCube_B6 a0 a1 a2 a3 S) zF ((0 : Int32), (0 : Int32))
def fX5_resultByCube (a0 : Nat) (a1 : Int32) (a2 : Int32) (a3 : Int32) (a4 : Int32) (S : ZS) : Option ((Int32 × ZS) ⊕ ZX) :=
  zbT (zcl S a0 5 (fX5_needWay a0 a1 S)) fun x1 =>
  zbT (zcl x1.2 a0 5 (fX5_needFactors a0 x1.1 a2 a3 a4 x1.2)) fun x2 =>
  Option.bind (zcl x2.2 x1.1 4 (fX4_multipliedByCube x1.1 a2 a3 a4 x2.2)) fun x3 =>
  some (.inl (x3, x2.2))
def fX5_additionsInLevels_B28 (l0 : Nat) (l1 : Int32) (l2 : Int64) (l4 : Int64) (S : ZS) (t28 : (Int64 × Int64 × Int32)) : Option ((Int64 × Int64 × Int32) ⊕ Int64) :=
  (if l1 < t28.2.2 then
  zex (some t28.2.1)
  else
  Option.bind (zgI S l0 4 3) fun v5 =>
  some (.inl (t28.1 * l4, (t28.2.1 * (Int32.toInt64 v5)) + (l2 * t28.1), t28.2.2 + (1 : Int32))))
def fX5_additionsInLevels (a0 : Nat) (a1 : Int32) (a2 : Int64) (S : ZS) : Option Int64 :=
  Option.bind (zgR S a0 4 0) fun v1 =>
  Option.bind (zgI S v1 0 4) fun v2 =>
  Option.bind (zgR S a0 4 0) fun v3 =>
  Option.bind (zgI S v3 0 4) fun v4 =>
  ziter (fX5_additionsInLevels_B28 a0 a1 a2 ((Int32.toInt64 v2) * (Int32.toInt64 v4)) S) zF ((1 : Int64), (0 : Int64), (1 : Int32))
def fX5_multiplicationsInLevels_B5 (l0 : Nat) (l1 : Int32) (S : ZS) (t5 : (Int64 × Int32)) : Option ((Int64 × Int32) ⊕ Int64) :=
  (if l1 < t5.2 then
  zex (some t5.1)
  else
  Option.bind (zgI S l0 4 3) fun v1 =>
  some (.inl (t5.1 * (Int32.toInt64 v1), t5.2 + (1 : Int32))))
def fX5_multiplicationsInLevels (a0 : Nat) (a1 : Int32) (S : ZS) : Option Int64 :=
  ziter (fX5_multiplicationsInLevels_B5 a0 a1 S) zF ((1 : Int64), (1 : Int32))
def fX5_levels_J17  (S : ZS) : Option ((Int64 × ZS) ⊕ ZX) :=
  some (.inr ("java/lang/IllegalArgumentException", S.1))
def fX5_levels_J76 (s0 : Int64) (S : ZS) : Option ((Int64 × ZS) ⊕ ZX) :=
  some (.inl (s0, S))
def fX5_levels (a0 : Nat) (a1 : Int32) (a2 : Int32) (a3 : Int32) (S : ZS) : Option ((Int64 × ZS) ⊕ ZX) :=
  zbT (zcl S a0 5 (fX5_needWay a0 a1 S)) fun x1 =>
  (if a2 < 0 then
  fX5_levels_J17  x1.2
  else
  (if a2 ≤ (6 : Int32) then
  Option.bind (zgR x1.2 x1.1 4 0) fun v2 =>
  Option.bind (zgI x1.2 v2 0 4) fun v3 =>
  (if (2 : Int32) ≤ v3 then
  (if a3 = 0 then
  Option.bind (fX5_multiplicationsInLevels x1.1 a2 x1.2) fun x4 =>
  fX5_levels_J76 x4 x1.2
  else
  Option.bind (zcl x1.2 a0 5 (fX5_countAdditions a0 x1.1 (0 : Int32) x1.2)) fun x5 =>
  Option.bind (fX5_additionsInLevels x1.1 a2 (Int32.toInt64 x5.1) x5.2) fun x6 =>
  fX5_levels_J76 x6 x5.2)
  else
  some (.inr ("java/lang/IllegalStateException", x1.2.1)))
  else
  fX5_levels_J17  x1.2))
