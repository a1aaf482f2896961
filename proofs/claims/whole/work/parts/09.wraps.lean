def fL_prime (a0 : Nat) (a1 : Int32) (a2 : Nat) (S : ZS) : Option (Int32 × ZH) :=
  zcatch (zcl S a0 5 (fX5_prime a0 a1 S)) ["java/lang/IllegalArgumentException", "java/lang/IllegalStateException"] fun x =>
  Option.bind (zsJ x.2 a2 0 (Int32.toInt64 x.1)) fun S2 => some (0, S2.1)
def fL_cube (a0 : Nat) (a1 : Int32) (a2 : Int32) (a3 : Int32) (a4 : Nat) (S : ZS) : Option (Int32 × ZH) :=
  zcatch (zcl S a0 5 (fX5_cube a0 a1 a2 a3 S)) ["java/lang/IllegalArgumentException", "java/lang/IllegalStateException"] fun x =>
  Option.bind (zsJ x.2 a4 0 (Int32.toInt64 x.1)) fun S2 => some (0, S2.1)
def fL_matrices (a0 : Nat) (a1 : Int32) (a2 : Int32) (a3 : Int32) (a4 : Nat) (S : ZS) : Option (Int32 × ZH) :=
  zcatch (zcl S a0 5 (fX5_matrices a0 a1 a2 a3 S)) ["java/lang/IllegalArgumentException", "java/lang/IllegalStateException"] fun x =>
  Option.bind (zsJ x.2 a4 0 (Int32.toInt64 x.1)) fun S2 => some (0, S2.1)
def fL_polynomials (a0 : Nat) (a1 : Int32) (a2 : Int32) (a3 : Nat) (S : ZS) : Option (Int32 × ZH) :=
  zcatch (zcl S a0 5 (fX5_polynomials a0 a1 a2 S)) ["java/lang/IllegalArgumentException", "java/lang/IllegalStateException"] fun x =>
  Option.bind (zsJ x.2 a3 0 (Int32.toInt64 x.1)) fun S2 => some (0, S2.1)
def fL_group (a0 : Nat) (a1 : Int32) (a2 : Nat) (S : ZS) : Option (Int32 × ZH) :=
  zcatch (zcl S a0 5 (fX5_group a0 a1 S)) ["java/lang/IllegalArgumentException", "java/lang/IllegalStateException"] fun x =>
  Option.bind (zsJ x.2 a2 0 (Int32.toInt64 x.1)) fun S2 => some (0, S2.1)
def fL_set (a0 : Nat) (a1 : Int32) (a2 : Int32) (a3 : Int32) (a4 : Int32) (a5 : Int32) (a6 : Nat) (S : ZS) : Option (Int32 × ZH) :=
  zcatch (zcl S a0 5 (fX5_set a0 a1 a2 a3 a4 a5 S)) ["java/lang/IndexOutOfBoundsException", "java/lang/IllegalArgumentException"] fun x =>
  Option.bind (zsJ x.2 a6 0 (Int32.toInt64 x.1)) fun S2 => some (0, S2.1)
def fL_move (a0 : Nat) (a1 : Int32) (a2 : Int32) (a3 : Int32) (a4 : Int32) (a5 : Int32) (a6 : Nat) (S : ZS) : Option (Int32 × ZH) :=
  zcatch (zcl S a0 5 (fX5_move a0 a1 a2 a3 a4 a5 S)) ["java/lang/IndexOutOfBoundsException", "java/lang/IllegalArgumentException"] fun x =>
  Option.bind (zsJ x.2 a6 0 (Int32.toInt64 x.1)) fun S2 => some (0, S2.1)
def fL_sum (a0 : Nat) (a1 : Int32) (a2 : Int32) (a3 : Nat) (S : ZS) : Option (Int32 × ZH) :=
  zcatch (zcl S a0 5 (fX5_sum a0 a1 a2 S)) ["java/lang/IndexOutOfBoundsException", "java/lang/IllegalArgumentException", "java/lang/IllegalStateException"] fun x =>
  Option.bind (zsJ x.2 a3 0 (Int32.toInt64 x.1)) fun S2 => some (0, S2.1)
def fL_product (a0 : Nat) (a1 : Int32) (a2 : Int32) (a3 : Nat) (S : ZS) : Option (Int32 × ZH) :=
  zcatch (zcl S a0 5 (fX5_product a0 a1 a2 S)) ["java/lang/IndexOutOfBoundsException", "java/lang/IllegalArgumentException", "java/lang/IllegalStateException"] fun x =>
  Option.bind (zsJ x.2 a3 0 (Int32.toInt64 x.1)) fun S2 => some (0, S2.1)
def fL_way (a0 : Nat) (a1 : Int32) (a2 : Nat) (S : ZS) : Option (Int32 × ZH) :=
  zcatch (zcl S a0 5 (fX5_way a0 a1 S)) ["java/lang/IndexOutOfBoundsException", "java/lang/IllegalStateException"] fun x =>
  Option.bind (zsJ x.2 a2 0 (Int32.toInt64 x.1)) fun S2 => some (0, S2.1)
def fL_multiply (a0 : Nat) (a1 : Int32) (a2 : Int32) (a3 : Int32) (a4 : Int32) (a5 : Nat) (S : ZS) : Option (Int32 × ZH) :=
  zcatch (zcl S a0 5 (fX5_multiply a0 a1 a2 a3 a4 S)) ["java/lang/IndexOutOfBoundsException", "java/lang/IllegalArgumentException", "java/lang/IllegalStateException"] fun x =>
  Option.bind (zsJ x.2 a5 0 (Int32.toInt64 x.1)) fun S2 => some (0, S2.1)
def fL_plain (a0 : Nat) (a1 : Int32) (a2 : Nat) (S : ZS) : Option (Int32 × ZH) :=
  zcatch (zcl S a0 5 (fX5_plain a0 a1 S)) ["java/lang/IndexOutOfBoundsException", "java/lang/IllegalStateException"] fun x =>
  Option.bind (zsJ x.2 a2 0 (Int32.toInt64 x.1)) fun S2 => some (0, S2.1)
def fL_flip (a0 : Nat) (a1 : Int32) (a2 : Int32) (a3 : Int32) (a4 : Int32) (S : ZS) : Option (Int32 × ZH) :=
  zcatch (zcl S a0 5 (fX5_flip a0 a1 a2 a3 a4 S)) ["java/lang/IndexOutOfBoundsException", "java/lang/IllegalArgumentException", "java/lang/IllegalStateException"] fun x =>
  some (0, x.2.1)
def fL_reduce (a0 : Nat) (a1 : Int32) (a2 : Nat) (S : ZS) : Option (Int32 × ZH) :=
  zcatch (zcl S a0 5 (fX5_reduce a0 a1 S)) ["java/lang/IndexOutOfBoundsException"] fun x =>
  Option.bind (zsJ x.2 a2 0 (Int32.toInt64 x.1)) fun S2 => some (0, S2.1)
def fL_walk (a0 : Nat) (a1 : Int32) (a2 : Int32) (a3 : Int32) (a4 : Nat) (S : ZS) : Option (Int32 × ZH) :=
  zcatch (zcl S a0 5 (fX5_walk a0 a1 a2 a3 S)) ["java/lang/IndexOutOfBoundsException", "java/lang/IllegalArgumentException"] fun x =>
  Option.bind (zsJ x.2 a4 0 (Int32.toInt64 x.1)) fun S2 => some (0, S2.1)
def fL_at (a0 : Nat) (a1 : Int32) (a2 : Int32) (a3 : Int32) (a4 : Int32) (a5 : Nat) (S : ZS) : Option (Int32 × ZH) :=
  zcatch (zcl S a0 5 (fX5_at a0 a1 a2 a3 a4 S)) ["java/lang/IndexOutOfBoundsException"] fun x =>
  Option.bind (zsJ x.2 a5 0 (Int32.toInt64 x.1)) fun S2 => some (0, S2.1)
def fL_flattening (a0 : Nat) (a1 : Int32) (a2 : Int32) (a3 : Nat) (S : ZS) : Option (Int32 × ZH) :=
  zcatch (zcl S a0 5 (fX5_flattening a0 a1 a2 S)) ["java/lang/IndexOutOfBoundsException"] fun x =>
  Option.bind (zsJ x.2 a3 0 (Int32.toInt64 x.1)) fun S2 => some (0, S2.1)
def fL_bound (a0 : Nat) (a1 : Int32) (a2 : Nat) (S : ZS) : Option (Int32 × ZH) :=
  zcatch (zcl S a0 5 (fX5_bound a0 a1 S)) ["java/lang/IndexOutOfBoundsException"] fun x =>
  Option.bind (zsJ x.2 a2 0 (Int32.toInt64 x.1)) fun S2 => some (0, S2.1)
def fL_least (a0 : Nat) (a1 : Int32) (a2 : Nat) (S : ZS) : Option (Int32 × ZH) :=
  zcatch (zcl S a0 5 (fX5_least a0 a1 S)) ["java/lang/IndexOutOfBoundsException", "java/lang/IllegalStateException"] fun x =>
  Option.bind (zsJ x.2 a2 0 (Int32.toInt64 x.1)) fun S2 => some (0, S2.1)
def fL_leastAnew (a0 : Nat) (a1 : Int32) (a2 : Nat) (S : ZS) : Option (Int32 × ZH) :=
  zcatch (zcl S a0 5 (fX5_leastAnew a0 a1 S)) ["java/lang/IndexOutOfBoundsException", "java/lang/IllegalStateException"] fun x =>
  Option.bind (zsJ x.2 a2 0 (Int32.toInt64 x.1)) fun S2 => some (0, S2.1)
def fL_ofWay (a0 : Nat) (a1 : Int32) (a2 : Int32) (a3 : Nat) (S : ZS) : Option (Int32 × ZH) :=
  zcatch (zcl S a0 5 (fX5_ofWay a0 a1 a2 S)) ["java/lang/IndexOutOfBoundsException", "java/lang/IllegalArgumentException"] fun x =>
  Option.bind (zsJ x.2 a3 0 (Int32.toInt64 x.1)) fun S2 => some (0, S2.1)
def fL_vector (a0 : Nat) (a1 : Int32) (a2 : Int32) (a3 : Int32) (a4 : Nat) (S : ZS) : Option (Int32 × ZH) :=
  zcatch (zcl S a0 5 (fX5_vector a0 a1 a2 a3 S)) ["java/lang/IndexOutOfBoundsException"] fun x =>
  Option.bind (zsJ x.2 a4 0 (Int32.toInt64 x.1)) fun S2 => some (0, S2.1)
def fL_result (a0 : Nat) (a1 : Int32) (a2 : Int32) (a3 : Int32) (a4 : Int32) (a5 : Nat) (S : ZS) : Option (Int32 × ZH) :=
  zcatch (zcl S a0 5 (fX5_result a0 a1 a2 a3 a4 S)) ["java/lang/IndexOutOfBoundsException", "java/lang/IllegalArgumentException"] fun x =>
  Option.bind (zsJ x.2 a5 0 (Int32.toInt64 x.1)) fun S2 => some (0, S2.1)
def fL_resultByCube (a0 : Nat) (a1 : Int32) (a2 : Int32) (a3 : Int32) (a4 : Int32) (a5 : Nat) (S : ZS) : Option (Int32 × ZH) :=
  zcatch (zcl S a0 5 (fX5_resultByCube a0 a1 a2 a3 a4 S)) ["java/lang/IndexOutOfBoundsException", "java/lang/IllegalArgumentException"] fun x =>
  Option.bind (zsJ x.2 a5 0 (Int32.toInt64 x.1)) fun S2 => some (0, S2.1)
def fL_levels (a0 : Nat) (a1 : Int32) (a2 : Int32) (a3 : Int32) (a4 : Nat) (S : ZS) : Option (Int32 × ZH) :=
  zcatch (zcl S a0 5 (fX5_levels a0 a1 a2 a3 S)) ["java/lang/IndexOutOfBoundsException", "java/lang/IllegalArgumentException", "java/lang/IllegalStateException"] fun x =>
  Option.bind (zsJ x.2 a4 0 (x.1)) fun S2 => some (0, S2.1)
theorem dL_prime_0 : decode cL_prime 0 = .ok (.aload_n 2, 1) := by decide +kernel
theorem dL_prime_1 : decode cL_prime 1 = .ok (.iconst 0, 1) := by decide +kernel
theorem dL_prime_2 : decode cL_prime 2 = .ok (.aload_n 0, 1) := by decide +kernel
theorem dL_prime_3 : decode cL_prime 3 = .ok (.iload_n 1, 1) := by decide +kernel
theorem dL_prime_4 : decode cL_prime 4 = .ok (.invokevirtual 7, 3) := by decide +kernel
theorem dL_prime_7 : decode cL_prime 7 = .ok (.i2l, 1) := by decide +kernel
theorem dL_prime_8 : decode cL_prime 8 = .ok (.lastore, 1) := by decide +kernel
theorem dL_prime_9 : decode cL_prime 9 = .ok (.goto 9, 3) := by decide +kernel
theorem dL_prime_12 : decode cL_prime 12 = .ok (.astore_n 3, 1) := by decide +kernel
theorem dL_prime_13 : decode cL_prime 13 = .ok (.iconst 1, 1) := by decide +kernel
theorem dL_prime_14 : decode cL_prime 14 = .ok (.ireturn, 1) := by decide +kernel
theorem dL_prime_15 : decode cL_prime 15 = .ok (.astore_n 3, 1) := by decide +kernel
theorem dL_prime_16 : decode cL_prime 16 = .ok (.iconst 2, 1) := by decide +kernel
theorem dL_prime_17 : decode cL_prime 17 = .ok (.ireturn, 1) := by decide +kernel
theorem dL_prime_18 : decode cL_prime 18 = .ok (.iconst 0, 1) := by decide +kernel
theorem dL_prime_19 : decode cL_prime 19 = .ok (.ireturn, 1) := by decide +kernel
abbrev rmL_prime : Room := { frames := 7, cells := 1, slots := 6, locals := 120 }
theorem zyL_prime : zyOK yL_prime 3 := ⟨by decide +kernel, by decide +kernel, by decide +kernel⟩
set_option maxHeartbeats 4000000 in
set_option maxRecDepth 100000 in
theorem wL_prime {G : ZG} (a0 : Nat) (a1 : Int32) (a2 : Nat) (S : ZS) (h0 : zFix G cL_prime RL 4 (some .int) rmL_prime) (htab : zTabIs G [(0, 9, 12, 13), (0, 9, 15, 15)]) (C : Option (Int32 × ZH) → Prop) (hC : ¬ C none) (hE : ∀ (k : Int32) (h : ZH) (n : Nat), C (some (k, h)) → zEndT G (some (.int k)) (h, n) rmL_prime) : zV G 4 S 0 0 0 [(0, .ref a0), (1, .int a1), (2, .ref a2)] [] (C (fL_prime a0 a1 a2 S)) := by
  unfold fL_prime
  refine zr_aload_n h0 dL_prime_0 rfl (n := 1) rfl ?_
  refine zr_iconst (0 : Int32) h0 (by decide) dL_prime_1 (n := 2) rfl ?_
  refine zr_aload_n h0 dL_prime_2 rfl (n := 3) rfl ?_
  refine zr_iload_n h0 dL_prime_3 rfl (n := 4) rfl ?_
  refine zr_cTC hC (fun v => some (.int v)) ["java/lang/IllegalArgumentException", "java/lang/IllegalStateException"] (hh := [(0, 9, 12, 13), (0, 9, 15, 15)]) 1 6 h0 htab (⟨⟨by decide, by decide, zw_106, by decide +kernel⟩, ⟨⟨by decide, by decide, zw_107, by decide +kernel⟩, trivial⟩⟩) (fun x hx => zk_VT0 h0 zcX5 (zcl_ex hx) (fun l D z0 hlt => kX5_prime l D z0 hlt a0 a1 S x (zcl_of hx)) htab.fl zw_108 zw_109 zw_110 zw_1 zw_111 rfl zyX5_prime (As := [.int a1]) (st := [.int (0 : Int32), .ref a2]) rfl (by decide) rfl (Nat.le_of_ble_eq_true rfl) (by decide) dL_prime_4) rfl rfl (n := 7) rfl (fun j q E h n9 a hq hn => ?_) (fun x => ?_)
  · match j, hq, hn with
    | 0, hq, hn =>
      cases hq
      refine zr_astore_n [(0, .ref a0), (1, .int a1), (2, .ref a2), (3, .ref a)] h0 dL_prime_12 (by decide) rfl (n := 13) rfl ?_
      refine zr_iconst (1 : Int32) h0 (by decide) dL_prime_13 (n := 14) rfl ?_
      exact zr_iretT h0 rfl dL_prime_14 (hE _ _ _) (by decide) (by decide)
    | 1, hq, hn =>
      cases hq
      refine zr_astore_n [(0, .ref a0), (1, .int a1), (2, .ref a2), (3, .ref a)] h0 dL_prime_15 (by decide) rfl (n := 16) rfl ?_
      refine zr_iconst (2 : Int32) h0 (by decide) dL_prime_16 (n := 17) rfl ?_
      exact zr_iretT h0 rfl dL_prime_17 (hE _ _ _) (by decide) (by decide)
    | j + 2, hq, hn => simp at hq
  refine zr_i2l h0 dL_prime_7 (n := 8) rfl ?_
  refine zr_lastore C hC h0 dL_prime_8 (n := 9) rfl (fun S2 => ?_)
  refine zr_goto (tgt := 18) h0 dL_prime_9 (by decide) ?_
  refine zr_iconst (0 : Int32) h0 (by decide) dL_prime_18 (n := 19) rfl ?_
  exact zr_iretT h0 rfl dL_prime_19 (fun h => hE _ _ _ h) (by decide) (by decide)
theorem kL_prime (l : Launch) (D : ZD) (z0 : Nat) (hlt : l.stackTraces = false) (a0 : Nat) (a1 : Int32) (a2 : Nat) (S : ZS) (x : Int32 × ZH) (hf : fL_prime a0 a1 a2 S = some x) : zMetW l D z0 yL_prime cL_prime 4 [(0, 9, 12, 13), (0, 9, 15, 15)] rmL_prime [.ref a0, .int a1, .ref a2] S x.1 x.2 :=
  zMetW_of hlt (by decide) (Nat.le_of_ble_eq_true rfl) (fun G h0 htab hE => wL_prime a0 a1 a2 S h0 htab (fun o => o = some x) (fun h => nomatch h) (fun k h n hh => by cases hh; exact hE n)) hf
theorem dL_cube_0 : decode cL_cube 0 = .ok (.aload 4, 2) := by decide +kernel
theorem dL_cube_2 : decode cL_cube 2 = .ok (.iconst 0, 1) := by decide +kernel
theorem dL_cube_3 : decode cL_cube 3 = .ok (.aload_n 0, 1) := by decide +kernel
theorem dL_cube_4 : decode cL_cube 4 = .ok (.iload_n 1, 1) := by decide +kernel
theorem dL_cube_5 : decode cL_cube 5 = .ok (.iload_n 2, 1) := by decide +kernel
theorem dL_cube_6 : decode cL_cube 6 = .ok (.iload_n 3, 1) := by decide +kernel
theorem dL_cube_7 : decode cL_cube 7 = .ok (.invokevirtual 17, 3) := by decide +kernel
theorem dL_cube_10 : decode cL_cube 10 = .ok (.i2l, 1) := by decide +kernel
theorem dL_cube_11 : decode cL_cube 11 = .ok (.lastore, 1) := by decide +kernel
theorem dL_cube_12 : decode cL_cube 12 = .ok (.goto 11, 3) := by decide +kernel
theorem dL_cube_15 : decode cL_cube 15 = .ok (.astore 5, 2) := by decide +kernel
theorem dL_cube_17 : decode cL_cube 17 = .ok (.iconst 1, 1) := by decide +kernel
theorem dL_cube_18 : decode cL_cube 18 = .ok (.ireturn, 1) := by decide +kernel
theorem dL_cube_19 : decode cL_cube 19 = .ok (.astore 5, 2) := by decide +kernel
theorem dL_cube_21 : decode cL_cube 21 = .ok (.iconst 2, 1) := by decide +kernel
theorem dL_cube_22 : decode cL_cube 22 = .ok (.ireturn, 1) := by decide +kernel
theorem dL_cube_23 : decode cL_cube 23 = .ok (.iconst 0, 1) := by decide +kernel
theorem dL_cube_24 : decode cL_cube 24 = .ok (.ireturn, 1) := by decide +kernel
abbrev rmL_cube : Room := { frames := 9, cells := 5, slots := 87, locals := 165 }
theorem zyL_cube : zyOK yL_cube 5 := ⟨by decide +kernel, by decide +kernel, by decide +kernel⟩
set_option maxHeartbeats 4000000 in
set_option maxRecDepth 100000 in
theorem wL_cube {G : ZG} (a0 : Nat) (a1 : Int32) (a2 : Int32) (a3 : Int32) (a4 : Nat) (S : ZS) (h0 : zFix G cL_cube RL 6 (some .int) rmL_cube) (htab : zTabIs G [(0, 12, 15, 13), (0, 12, 19, 15)]) (C : Option (Int32 × ZH) → Prop) (hC : ¬ C none) (hE : ∀ (k : Int32) (h : ZH) (n : Nat), C (some (k, h)) → zEndT G (some (.int k)) (h, n) rmL_cube) : zV G 6 S 0 0 0 [(0, .ref a0), (1, .int a1), (2, .int a2), (3, .int a3), (4, .ref a4)] [] (C (fL_cube a0 a1 a2 a3 a4 S)) := by
  unfold fL_cube
  refine zr_aload h0 dL_cube_0 rfl (n := 2) rfl ?_
  refine zr_iconst (0 : Int32) h0 (by decide) dL_cube_2 (n := 3) rfl ?_
  refine zr_aload_n h0 dL_cube_3 rfl (n := 4) rfl ?_
  refine zr_iload_n h0 dL_cube_4 rfl (n := 5) rfl ?_
  refine zr_iload_n h0 dL_cube_5 rfl (n := 6) rfl ?_
  refine zr_iload_n h0 dL_cube_6 rfl (n := 7) rfl ?_
  refine zr_cTC hC (fun v => some (.int v)) ["java/lang/IllegalArgumentException", "java/lang/IllegalStateException"] (hh := [(0, 12, 15, 13), (0, 12, 19, 15)]) 5 87 h0 htab (⟨⟨by decide, by decide, zw_106, by decide +kernel⟩, ⟨⟨by decide, by decide, zw_107, by decide +kernel⟩, trivial⟩⟩) (fun x hx => zk_VT0 h0 zcX5 (zcl_ex hx) (fun l D z0 hlt => kX5_cube l D z0 hlt a0 a1 a2 a3 S x (zcl_of hx)) htab.fl zw_199 zw_200 zw_201 zw_1 zw_202 rfl zyX5_cube (As := [.int a1, .int a2, .int a3]) (st := [.int (0 : Int32), .ref a4]) rfl (by decide) rfl (Nat.le_of_ble_eq_true rfl) (by decide) dL_cube_7) rfl rfl (n := 10) rfl (fun j q E h n9 a hq hn => ?_) (fun x => ?_)
  · match j, hq, hn with
    | 0, hq, hn =>
      cases hq
      refine zr_astore [(0, .ref a0), (1, .int a1), (2, .int a2), (3, .int a3), (4, .ref a4), (5, .ref a)] h0 dL_cube_15 (by decide) rfl (n := 17) rfl ?_
      refine zr_iconst (1 : Int32) h0 (by decide) dL_cube_17 (n := 18) rfl ?_
      exact zr_iretT h0 rfl dL_cube_18 (hE _ _ _) (by decide) (by decide)
    | 1, hq, hn =>
      cases hq
      refine zr_astore [(0, .ref a0), (1, .int a1), (2, .int a2), (3, .int a3), (4, .ref a4), (5, .ref a)] h0 dL_cube_19 (by decide) rfl (n := 21) rfl ?_
      refine zr_iconst (2 : Int32) h0 (by decide) dL_cube_21 (n := 22) rfl ?_
      exact zr_iretT h0 rfl dL_cube_22 (hE _ _ _) (by decide) (by decide)
    | j + 2, hq, hn => simp at hq
  refine zr_i2l h0 dL_cube_10 (n := 11) rfl ?_
  refine zr_lastore C hC h0 dL_cube_11 (n := 12) rfl (fun S2 => ?_)
  refine zr_goto (tgt := 23) h0 dL_cube_12 (by decide) ?_
  refine zr_iconst (0 : Int32) h0 (by decide) dL_cube_23 (n := 24) rfl ?_
  exact zr_iretT h0 rfl dL_cube_24 (fun h => hE _ _ _ h) (by decide) (by decide)
theorem kL_cube (l : Launch) (D : ZD) (z0 : Nat) (hlt : l.stackTraces = false) (a0 : Nat) (a1 : Int32) (a2 : Int32) (a3 : Int32) (a4 : Nat) (S : ZS) (x : Int32 × ZH) (hf : fL_cube a0 a1 a2 a3 a4 S = some x) : zMetW l D z0 yL_cube cL_cube 6 [(0, 12, 15, 13), (0, 12, 19, 15)] rmL_cube [.ref a0, .int a1, .int a2, .int a3, .ref a4] S x.1 x.2 :=
  zMetW_of hlt (by decide) (Nat.le_of_ble_eq_true rfl) (fun G h0 htab hE => wL_cube a0 a1 a2 a3 a4 S h0 htab (fun o => o = some x) (fun h => nomatch h) (fun k h n hh => by cases hh; exact hE n)) hf
theorem dL_matrices_0 : decode cL_matrices 0 = .ok (.aload 4, 2) := by decide +kernel
theorem dL_matrices_2 : decode cL_matrices 2 = .ok (.iconst 0, 1) := by decide +kernel
theorem dL_matrices_3 : decode cL_matrices 3 = .ok (.aload_n 0, 1) := by decide +kernel
theorem dL_matrices_4 : decode cL_matrices 4 = .ok (.iload_n 1, 1) := by decide +kernel
theorem dL_matrices_5 : decode cL_matrices 5 = .ok (.iload_n 2, 1) := by decide +kernel
theorem dL_matrices_6 : decode cL_matrices 6 = .ok (.iload_n 3, 1) := by decide +kernel
theorem dL_matrices_7 : decode cL_matrices 7 = .ok (.invokevirtual 21, 3) := by decide +kernel
theorem dL_matrices_10 : decode cL_matrices 10 = .ok (.i2l, 1) := by decide +kernel
theorem dL_matrices_11 : decode cL_matrices 11 = .ok (.lastore, 1) := by decide +kernel
theorem dL_matrices_12 : decode cL_matrices 12 = .ok (.goto 11, 3) := by decide +kernel
theorem dL_matrices_15 : decode cL_matrices 15 = .ok (.astore 5, 2) := by decide +kernel
theorem dL_matrices_17 : decode cL_matrices 17 = .ok (.iconst 1, 1) := by decide +kernel
theorem dL_matrices_18 : decode cL_matrices 18 = .ok (.ireturn, 1) := by decide +kernel
theorem dL_matrices_19 : decode cL_matrices 19 = .ok (.astore 5, 2) := by decide +kernel
theorem dL_matrices_21 : decode cL_matrices 21 = .ok (.iconst 2, 1) := by decide +kernel
theorem dL_matrices_22 : decode cL_matrices 22 = .ok (.ireturn, 1) := by decide +kernel
theorem dL_matrices_23 : decode cL_matrices 23 = .ok (.iconst 0, 1) := by decide +kernel
theorem dL_matrices_24 : decode cL_matrices 24 = .ok (.ireturn, 1) := by decide +kernel
abbrev rmL_matrices : Room := { frames := 9, cells := 8, slots := 105, locals := 169 }
theorem zyL_matrices : zyOK yL_matrices 5 := ⟨by decide +kernel, by decide +kernel, by decide +kernel⟩
set_option maxHeartbeats 4000000 in
set_option maxRecDepth 100000 in
theorem wL_matrices {G : ZG} (a0 : Nat) (a1 : Int32) (a2 : Int32) (a3 : Int32) (a4 : Nat) (S : ZS) (h0 : zFix G cL_matrices RL 6 (some .int) rmL_matrices) (htab : zTabIs G [(0, 12, 15, 13), (0, 12, 19, 15)]) (C : Option (Int32 × ZH) → Prop) (hC : ¬ C none) (hE : ∀ (k : Int32) (h : ZH) (n : Nat), C (some (k, h)) → zEndT G (some (.int k)) (h, n) rmL_matrices) : zV G 6 S 0 0 0 [(0, .ref a0), (1, .int a1), (2, .int a2), (3, .int a3), (4, .ref a4)] [] (C (fL_matrices a0 a1 a2 a3 a4 S)) := by
  unfold fL_matrices
  refine zr_aload h0 dL_matrices_0 rfl (n := 2) rfl ?_
  refine zr_iconst (0 : Int32) h0 (by decide) dL_matrices_2 (n := 3) rfl ?_
  refine zr_aload_n h0 dL_matrices_3 rfl (n := 4) rfl ?_
  refine zr_iload_n h0 dL_matrices_4 rfl (n := 5) rfl ?_
  refine zr_iload_n h0 dL_matrices_5 rfl (n := 6) rfl ?_
  refine zr_iload_n h0 dL_matrices_6 rfl (n := 7) rfl ?_
  refine zr_cTC hC (fun v => some (.int v)) ["java/lang/IllegalArgumentException", "java/lang/IllegalStateException"] (hh := [(0, 12, 15, 13), (0, 12, 19, 15)]) 8 105 h0 htab (⟨⟨by decide, by decide, zw_106, by decide +kernel⟩, ⟨⟨by decide, by decide, zw_107, by decide +kernel⟩, trivial⟩⟩) (fun x hx => zk_VT0 h0 zcX5 (zcl_ex hx) (fun l D z0 hlt => kX5_matrices l D z0 hlt a0 a1 a2 a3 S x (zcl_of hx)) htab.fl zw_247 zw_248 zw_249 zw_1 zw_250 rfl zyX5_matrices (As := [.int a1, .int a2, .int a3]) (st := [.int (0 : Int32), .ref a4]) rfl (by decide) rfl (Nat.le_of_ble_eq_true rfl) (by decide) dL_matrices_7) rfl rfl (n := 10) rfl (fun j q E h n9 a hq hn => ?_) (fun x => ?_)
  · match j, hq, hn with
    | 0, hq, hn =>
      cases hq
      refine zr_astore [(0, .ref a0), (1, .int a1), (2, .int a2), (3, .int a3), (4, .ref a4), (5, .ref a)] h0 dL_matrices_15 (by decide) rfl (n := 17) rfl ?_
      refine zr_iconst (1 : Int32) h0 (by decide) dL_matrices_17 (n := 18) rfl ?_
      exact zr_iretT h0 rfl dL_matrices_18 (hE _ _ _) (by decide) (by decide)
    | 1, hq, hn =>
      cases hq
      refine zr_astore [(0, .ref a0), (1, .int a1), (2, .int a2), (3, .int a3), (4, .ref a4), (5, .ref a)] h0 dL_matrices_19 (by decide) rfl (n := 21) rfl ?_
      refine zr_iconst (2 : Int32) h0 (by decide) dL_matrices_21 (n := 22) rfl ?_
      exact zr_iretT h0 rfl dL_matrices_22 (hE _ _ _) (by decide) (by decide)
    | j + 2, hq, hn => simp at hq
  refine zr_i2l h0 dL_matrices_10 (n := 11) rfl ?_
  refine zr_lastore C hC h0 dL_matrices_11 (n := 12) rfl (fun S2 => ?_)
  refine zr_goto (tgt := 23) h0 dL_matrices_12 (by decide) ?_
  refine zr_iconst (0 : Int32) h0 (by decide) dL_matrices_23 (n := 24) rfl ?_
  exact zr_iretT h0 rfl dL_matrices_24 (fun h => hE _ _ _ h) (by decide) (by decide)
theorem kL_matrices (l : Launch) (D : ZD) (z0 : Nat) (hlt : l.stackTraces = false) (a0 : Nat) (a1 : Int32) (a2 : Int32) (a3 : Int32) (a4 : Nat) (S : ZS) (x : Int32 × ZH) (hf : fL_matrices a0 a1 a2 a3 a4 S = some x) : zMetW l D z0 yL_matrices cL_matrices 6 [(0, 12, 15, 13), (0, 12, 19, 15)] rmL_matrices [.ref a0, .int a1, .int a2, .int a3, .ref a4] S x.1 x.2 :=
  zMetW_of hlt (by decide) (Nat.le_of_ble_eq_true rfl) (fun G h0 htab hE => wL_matrices a0 a1 a2 a3 a4 S h0 htab (fun o => o = some x) (fun h => nomatch h) (fun k h n hh => by cases hh; exact hE n)) hf
theorem dL_polynomials_0 : decode cL_polynomials 0 = .ok (.aload_n 3, 1) := by decide +kernel
theorem dL_polynomials_1 : decode cL_polynomials 1 = .ok (.iconst 0, 1) := by decide +kernel
theorem dL_polynomials_2 : decode cL_polynomials 2 = .ok (.aload_n 0, 1) := by decide +kernel
theorem dL_polynomials_3 : decode cL_polynomials 3 = .ok (.iload_n 1, 1) := by decide +kernel
theorem dL_polynomials_4 : decode cL_polynomials 4 = .ok (.iload_n 2, 1) := by decide +kernel
theorem dL_polynomials_5 : decode cL_polynomials 5 = .ok (.invokevirtual 24, 3) := by decide +kernel
theorem dL_polynomials_8 : decode cL_polynomials 8 = .ok (.i2l, 1) := by decide +kernel
theorem dL_polynomials_9 : decode cL_polynomials 9 = .ok (.lastore, 1) := by decide +kernel
theorem dL_polynomials_10 : decode cL_polynomials 10 = .ok (.goto 11, 3) := by decide +kernel
theorem dL_polynomials_13 : decode cL_polynomials 13 = .ok (.astore 4, 2) := by decide +kernel
theorem dL_polynomials_15 : decode cL_polynomials 15 = .ok (.iconst 1, 1) := by decide +kernel
theorem dL_polynomials_16 : decode cL_polynomials 16 = .ok (.ireturn, 1) := by decide +kernel
theorem dL_polynomials_17 : decode cL_polynomials 17 = .ok (.astore 4, 2) := by decide +kernel
theorem dL_polynomials_19 : decode cL_polynomials 19 = .ok (.iconst 2, 1) := by decide +kernel
theorem dL_polynomials_20 : decode cL_polynomials 20 = .ok (.ireturn, 1) := by decide +kernel
theorem dL_polynomials_21 : decode cL_polynomials 21 = .ok (.iconst 0, 1) := by decide +kernel
theorem dL_polynomials_22 : decode cL_polynomials 22 = .ok (.ireturn, 1) := by decide +kernel
abbrev rmL_polynomials : Room := { frames := 9, cells := 7, slots := 99, locals := 167 }
theorem zyL_polynomials : zyOK yL_polynomials 4 := ⟨by decide +kernel, by decide +kernel, by decide +kernel⟩
set_option maxHeartbeats 4000000 in
set_option maxRecDepth 100000 in
theorem wL_polynomials {G : ZG} (a0 : Nat) (a1 : Int32) (a2 : Int32) (a3 : Nat) (S : ZS) (h0 : zFix G cL_polynomials RL 5 (some .int) rmL_polynomials) (htab : zTabIs G [(0, 10, 13, 13), (0, 10, 17, 15)]) (C : Option (Int32 × ZH) → Prop) (hC : ¬ C none) (hE : ∀ (k : Int32) (h : ZH) (n : Nat), C (some (k, h)) → zEndT G (some (.int k)) (h, n) rmL_polynomials) : zV G 5 S 0 0 0 [(0, .ref a0), (1, .int a1), (2, .int a2), (3, .ref a3)] [] (C (fL_polynomials a0 a1 a2 a3 S)) := by
  unfold fL_polynomials
  refine zr_aload_n h0 dL_polynomials_0 rfl (n := 1) rfl ?_
  refine zr_iconst (0 : Int32) h0 (by decide) dL_polynomials_1 (n := 2) rfl ?_
  refine zr_aload_n h0 dL_polynomials_2 rfl (n := 3) rfl ?_
  refine zr_iload_n h0 dL_polynomials_3 rfl (n := 4) rfl ?_
  refine zr_iload_n h0 dL_polynomials_4 rfl (n := 5) rfl ?_
  refine zr_cTC hC (fun v => some (.int v)) ["java/lang/IllegalArgumentException", "java/lang/IllegalStateException"] (hh := [(0, 10, 13, 13), (0, 10, 17, 15)]) 7 99 h0 htab (⟨⟨by decide, by decide, zw_106, by decide +kernel⟩, ⟨⟨by decide, by decide, zw_107, by decide +kernel⟩, trivial⟩⟩) (fun x hx => zk_VT0 h0 zcX5 (zcl_ex hx) (fun l D z0 hlt => kX5_polynomials l D z0 hlt a0 a1 a2 S x (zcl_of hx)) htab.fl zw_264 zw_265 zw_266 zw_1 zw_267 rfl zyX5_polynomials (As := [.int a1, .int a2]) (st := [.int (0 : Int32), .ref a3]) rfl (by decide) rfl (Nat.le_of_ble_eq_true rfl) (by decide) dL_polynomials_5) rfl rfl (n := 8) rfl (fun j q E h n9 a hq hn => ?_) (fun x => ?_)
  · match j, hq, hn with
    | 0, hq, hn =>
      cases hq
      refine zr_astore [(0, .ref a0), (1, .int a1), (2, .int a2), (3, .ref a3), (4, .ref a)] h0 dL_polynomials_13 (by decide) rfl (n := 15) rfl ?_
      refine zr_iconst (1 : Int32) h0 (by decide) dL_polynomials_15 (n := 16) rfl ?_
      exact zr_iretT h0 rfl dL_polynomials_16 (hE _ _ _) (by decide) (by decide)
    | 1, hq, hn =>
      cases hq
      refine zr_astore [(0, .ref a0), (1, .int a1), (2, .int a2), (3, .ref a3), (4, .ref a)] h0 dL_polynomials_17 (by decide) rfl (n := 19) rfl ?_
      refine zr_iconst (2 : Int32) h0 (by decide) dL_polynomials_19 (n := 20) rfl ?_
      exact zr_iretT h0 rfl dL_polynomials_20 (hE _ _ _) (by decide) (by decide)
    | j + 2, hq, hn => simp at hq
  refine zr_i2l h0 dL_polynomials_8 (n := 9) rfl ?_
  refine zr_lastore C hC h0 dL_polynomials_9 (n := 10) rfl (fun S2 => ?_)
  refine zr_goto (tgt := 21) h0 dL_polynomials_10 (by decide) ?_
  refine zr_iconst (0 : Int32) h0 (by decide) dL_polynomials_21 (n := 22) rfl ?_
  exact zr_iretT h0 rfl dL_polynomials_22 (fun h => hE _ _ _ h) (by decide) (by decide)
theorem kL_polynomials (l : Launch) (D : ZD) (z0 : Nat) (hlt : l.stackTraces = false) (a0 : Nat) (a1 : Int32) (a2 : Int32) (a3 : Nat) (S : ZS) (x : Int32 × ZH) (hf : fL_polynomials a0 a1 a2 a3 S = some x) : zMetW l D z0 yL_polynomials cL_polynomials 5 [(0, 10, 13, 13), (0, 10, 17, 15)] rmL_polynomials [.ref a0, .int a1, .int a2, .ref a3] S x.1 x.2 :=
  zMetW_of hlt (by decide) (Nat.le_of_ble_eq_true rfl) (fun G h0 htab hE => wL_polynomials a0 a1 a2 a3 S h0 htab (fun o => o = some x) (fun h => nomatch h) (fun k h n hh => by cases hh; exact hE n)) hf
theorem dL_group_0 : decode cL_group 0 = .ok (.aload_n 2, 1) := by decide +kernel
theorem dL_group_1 : decode cL_group 1 = .ok (.iconst 0, 1) := by decide +kernel
theorem dL_group_2 : decode cL_group 2 = .ok (.aload_n 0, 1) := by decide +kernel
theorem dL_group_3 : decode cL_group 3 = .ok (.iload_n 1, 1) := by decide +kernel
theorem dL_group_4 : decode cL_group 4 = .ok (.invokevirtual 28, 3) := by decide +kernel
theorem dL_group_7 : decode cL_group 7 = .ok (.i2l, 1) := by decide +kernel
theorem dL_group_8 : decode cL_group 8 = .ok (.lastore, 1) := by decide +kernel
theorem dL_group_9 : decode cL_group 9 = .ok (.goto 9, 3) := by decide +kernel
theorem dL_group_12 : decode cL_group 12 = .ok (.astore_n 3, 1) := by decide +kernel
theorem dL_group_13 : decode cL_group 13 = .ok (.iconst 1, 1) := by decide +kernel
theorem dL_group_14 : decode cL_group 14 = .ok (.ireturn, 1) := by decide +kernel
theorem dL_group_15 : decode cL_group 15 = .ok (.astore_n 3, 1) := by decide +kernel
theorem dL_group_16 : decode cL_group 16 = .ok (.iconst 2, 1) := by decide +kernel
theorem dL_group_17 : decode cL_group 17 = .ok (.ireturn, 1) := by decide +kernel
theorem dL_group_18 : decode cL_group 18 = .ok (.iconst 0, 1) := by decide +kernel
theorem dL_group_19 : decode cL_group 19 = .ok (.ireturn, 1) := by decide +kernel
abbrev rmL_group : Room := { frames := 9, cells := 5, slots := 87, locals := 166 }
theorem zyL_group : zyOK yL_group 3 := ⟨by decide +kernel, by decide +kernel, by decide +kernel⟩
set_option maxHeartbeats 4000000 in
set_option maxRecDepth 100000 in
theorem wL_group {G : ZG} (a0 : Nat) (a1 : Int32) (a2 : Nat) (S : ZS) (h0 : zFix G cL_group RL 4 (some .int) rmL_group) (htab : zTabIs G [(0, 9, 12, 13), (0, 9, 15, 15)]) (C : Option (Int32 × ZH) → Prop) (hC : ¬ C none) (hE : ∀ (k : Int32) (h : ZH) (n : Nat), C (some (k, h)) → zEndT G (some (.int k)) (h, n) rmL_group) : zV G 4 S 0 0 0 [(0, .ref a0), (1, .int a1), (2, .ref a2)] [] (C (fL_group a0 a1 a2 S)) := by
  unfold fL_group
  refine zr_aload_n h0 dL_group_0 rfl (n := 1) rfl ?_
  refine zr_iconst (0 : Int32) h0 (by decide) dL_group_1 (n := 2) rfl ?_
  refine zr_aload_n h0 dL_group_2 rfl (n := 3) rfl ?_
  refine zr_iload_n h0 dL_group_3 rfl (n := 4) rfl ?_
  refine zr_cTC hC (fun v => some (.int v)) ["java/lang/IllegalArgumentException", "java/lang/IllegalStateException"] (hh := [(0, 9, 12, 13), (0, 9, 15, 15)]) 5 87 h0 htab (⟨⟨by decide, by decide, zw_106, by decide +kernel⟩, ⟨⟨by decide, by decide, zw_107, by decide +kernel⟩, trivial⟩⟩) (fun x hx => zk_VT0 h0 zcX5 (zcl_ex hx) (fun l D z0 hlt => kX5_group l D z0 hlt a0 a1 S x (zcl_of hx)) htab.fl zw_271 zw_272 zw_273 zw_1 zw_274 rfl zyX5_group (As := [.int a1]) (st := [.int (0 : Int32), .ref a2]) rfl (by decide) rfl (Nat.le_of_ble_eq_true rfl) (by decide) dL_group_4) rfl rfl (n := 7) rfl (fun j q E h n9 a hq hn => ?_) (fun x => ?_)
  · match j, hq, hn with
    | 0, hq, hn =>
      cases hq
      refine zr_astore_n [(0, .ref a0), (1, .int a1), (2, .ref a2), (3, .ref a)] h0 dL_group_12 (by decide) rfl (n := 13) rfl ?_
      refine zr_iconst (1 : Int32) h0 (by decide) dL_group_13 (n := 14) rfl ?_
      exact zr_iretT h0 rfl dL_group_14 (hE _ _ _) (by decide) (by decide)
    | 1, hq, hn =>
      cases hq
      refine zr_astore_n [(0, .ref a0), (1, .int a1), (2, .ref a2), (3, .ref a)] h0 dL_group_15 (by decide) rfl (n := 16) rfl ?_
      refine zr_iconst (2 : Int32) h0 (by decide) dL_group_16 (n := 17) rfl ?_
      exact zr_iretT h0 rfl dL_group_17 (hE _ _ _) (by decide) (by decide)
    | j + 2, hq, hn => simp at hq
  refine zr_i2l h0 dL_group_7 (n := 8) rfl ?_
  refine zr_lastore C hC h0 dL_group_8 (n := 9) rfl (fun S2 => ?_)
  refine zr_goto (tgt := 18) h0 dL_group_9 (by decide) ?_
  refine zr_iconst (0 : Int32) h0 (by decide) dL_group_18 (n := 19) rfl ?_
  exact zr_iretT h0 rfl dL_group_19 (fun h => hE _ _ _ h) (by decide) (by decide)
theorem kL_group (l : Launch) (D : ZD) (z0 : Nat) (hlt : l.stackTraces = false) (a0 : Nat) (a1 : Int32) (a2 : Nat) (S : ZS) (x : Int32 × ZH) (hf : fL_group a0 a1 a2 S = some x) : zMetW l D z0 yL_group cL_group 4 [(0, 9, 12, 13), (0, 9, 15, 15)] rmL_group [.ref a0, .int a1, .ref a2] S x.1 x.2 :=
  zMetW_of hlt (by decide) (Nat.le_of_ble_eq_true rfl) (fun G h0 htab hE => wL_group a0 a1 a2 S h0 htab (fun o => o = some x) (fun h => nomatch h) (fun k h n hh => by cases hh; exact hE n)) hf
theorem dL_set_0 : decode cL_set 0 = .ok (.aload 6, 2) := by decide +kernel
theorem dL_set_2 : decode cL_set 2 = .ok (.iconst 0, 1) := by decide +kernel
theorem dL_set_3 : decode cL_set 3 = .ok (.aload_n 0, 1) := by decide +kernel
theorem dL_set_4 : decode cL_set 4 = .ok (.iload_n 1, 1) := by decide +kernel
theorem dL_set_5 : decode cL_set 5 = .ok (.iload_n 2, 1) := by decide +kernel
theorem dL_set_6 : decode cL_set 6 = .ok (.iload_n 3, 1) := by decide +kernel
theorem dL_set_7 : decode cL_set 7 = .ok (.iload 4, 2) := by decide +kernel
theorem dL_set_9 : decode cL_set 9 = .ok (.iload 5, 2) := by decide +kernel
theorem dL_set_11 : decode cL_set 11 = .ok (.invokevirtual 31, 3) := by decide +kernel
theorem dL_set_14 : decode cL_set 14 = .ok (.i2l, 1) := by decide +kernel
theorem dL_set_15 : decode cL_set 15 = .ok (.lastore, 1) := by decide +kernel
theorem dL_set_16 : decode cL_set 16 = .ok (.goto 11, 3) := by decide +kernel
theorem dL_set_19 : decode cL_set 19 = .ok (.astore 7, 2) := by decide +kernel
theorem dL_set_21 : decode cL_set 21 = .ok (.iconst 1, 1) := by decide +kernel
theorem dL_set_22 : decode cL_set 22 = .ok (.ireturn, 1) := by decide +kernel
theorem dL_set_23 : decode cL_set 23 = .ok (.astore 7, 2) := by decide +kernel
theorem dL_set_25 : decode cL_set 25 = .ok (.iconst 2, 1) := by decide +kernel
theorem dL_set_26 : decode cL_set 26 = .ok (.ireturn, 1) := by decide +kernel
theorem dL_set_27 : decode cL_set 27 = .ok (.iconst 0, 1) := by decide +kernel
theorem dL_set_28 : decode cL_set 28 = .ok (.ireturn, 1) := by decide +kernel
abbrev rmL_set : Room := { frames := 8, cells := 3, slots := 18, locals := 148 }
theorem zyL_set : zyOK yL_set 7 := ⟨by decide +kernel, by decide +kernel, by decide +kernel⟩
set_option maxHeartbeats 4000000 in
set_option maxRecDepth 100000 in
theorem wL_set {G : ZG} (a0 : Nat) (a1 : Int32) (a2 : Int32) (a3 : Int32) (a4 : Int32) (a5 : Int32) (a6 : Nat) (S : ZS) (h0 : zFix G cL_set RL 8 (some .int) rmL_set) (htab : zTabIs G [(0, 16, 19, 35), (0, 16, 23, 13)]) (C : Option (Int32 × ZH) → Prop) (hC : ¬ C none) (hE : ∀ (k : Int32) (h : ZH) (n : Nat), C (some (k, h)) → zEndT G (some (.int k)) (h, n) rmL_set) : zV G 8 S 0 0 0 [(0, .ref a0), (1, .int a1), (2, .int a2), (3, .int a3), (4, .int a4), (5, .int a5), (6, .ref a6)] [] (C (fL_set a0 a1 a2 a3 a4 a5 a6 S)) := by
  unfold fL_set
  refine zr_aload h0 dL_set_0 rfl (n := 2) rfl ?_
  refine zr_iconst (0 : Int32) h0 (by decide) dL_set_2 (n := 3) rfl ?_
  refine zr_aload_n h0 dL_set_3 rfl (n := 4) rfl ?_
  refine zr_iload_n h0 dL_set_4 rfl (n := 5) rfl ?_
  refine zr_iload_n h0 dL_set_5 rfl (n := 6) rfl ?_
  refine zr_iload_n h0 dL_set_6 rfl (n := 7) rfl ?_
  refine zr_iload h0 dL_set_7 rfl (n := 9) rfl ?_
  refine zr_iload h0 dL_set_9 rfl (n := 11) rfl ?_
  refine zr_cTC hC (fun v => some (.int v)) ["java/lang/IndexOutOfBoundsException", "java/lang/IllegalArgumentException"] (hh := [(0, 16, 19, 35), (0, 16, 23, 13)]) 3 18 h0 htab (⟨⟨by decide, by decide, zw_281, by decide +kernel⟩, ⟨⟨by decide, by decide, zw_106, by decide +kernel⟩, trivial⟩⟩) (fun x hx => zk_VT0 h0 zcX5 (zcl_ex hx) (fun l D z0 hlt => kX5_set l D z0 hlt a0 a1 a2 a3 a4 a5 S x (zcl_of hx)) htab.fl zw_282 zw_283 zw_284 zw_1 zw_285 rfl zyX5_set (As := [.int a1, .int a2, .int a3, .int a4, .int a5]) (st := [.int (0 : Int32), .ref a6]) rfl (by decide) rfl (Nat.le_of_ble_eq_true rfl) (by decide) dL_set_11) rfl rfl (n := 14) rfl (fun j q E h n9 a hq hn => ?_) (fun x => ?_)
  · match j, hq, hn with
    | 0, hq, hn =>
      cases hq
      refine zr_astore [(0, .ref a0), (1, .int a1), (2, .int a2), (3, .int a3), (4, .int a4), (5, .int a5), (6, .ref a6), (7, .ref a)] h0 dL_set_19 (by decide) rfl (n := 21) rfl ?_
      refine zr_iconst (1 : Int32) h0 (by decide) dL_set_21 (n := 22) rfl ?_
      exact zr_iretT h0 rfl dL_set_22 (hE _ _ _) (by decide) (by decide)
    | 1, hq, hn =>
      cases hq
      refine zr_astore [(0, .ref a0), (1, .int a1), (2, .int a2), (3, .int a3), (4, .int a4), (5, .int a5), (6, .ref a6), (7, .ref a)] h0 dL_set_23 (by decide) rfl (n := 25) rfl ?_
      refine zr_iconst (2 : Int32) h0 (by decide) dL_set_25 (n := 26) rfl ?_
      exact zr_iretT h0 rfl dL_set_26 (hE _ _ _) (by decide) (by decide)
    | j + 2, hq, hn => simp at hq
  refine zr_i2l h0 dL_set_14 (n := 15) rfl ?_
  refine zr_lastore C hC h0 dL_set_15 (n := 16) rfl (fun S2 => ?_)
  refine zr_goto (tgt := 27) h0 dL_set_16 (by decide) ?_
  refine zr_iconst (0 : Int32) h0 (by decide) dL_set_27 (n := 28) rfl ?_
  exact zr_iretT h0 rfl dL_set_28 (fun h => hE _ _ _ h) (by decide) (by decide)
theorem kL_set (l : Launch) (D : ZD) (z0 : Nat) (hlt : l.stackTraces = false) (a0 : Nat) (a1 : Int32) (a2 : Int32) (a3 : Int32) (a4 : Int32) (a5 : Int32) (a6 : Nat) (S : ZS) (x : Int32 × ZH) (hf : fL_set a0 a1 a2 a3 a4 a5 a6 S = some x) : zMetW l D z0 yL_set cL_set 8 [(0, 16, 19, 35), (0, 16, 23, 13)] rmL_set [.ref a0, .int a1, .int a2, .int a3, .int a4, .int a5, .ref a6] S x.1 x.2 :=
  zMetW_of hlt (by decide) (Nat.le_of_ble_eq_true rfl) (fun G h0 htab hE => wL_set a0 a1 a2 a3 a4 a5 a6 S h0 htab (fun o => o = some x) (fun h => nomatch h) (fun k h n hh => by cases hh; exact hE n)) hf
theorem dL_move_0 : decode cL_move 0 = .ok (.aload 6, 2) := by decide +kernel
theorem dL_move_2 : decode cL_move 2 = .ok (.iconst 0, 1) := by decide +kernel
theorem dL_move_3 : decode cL_move 3 = .ok (.aload_n 0, 1) := by decide +kernel
theorem dL_move_4 : decode cL_move 4 = .ok (.iload_n 1, 1) := by decide +kernel
theorem dL_move_5 : decode cL_move 5 = .ok (.iload_n 2, 1) := by decide +kernel
theorem dL_move_6 : decode cL_move 6 = .ok (.iload_n 3, 1) := by decide +kernel
theorem dL_move_7 : decode cL_move 7 = .ok (.iload 4, 2) := by decide +kernel
theorem dL_move_9 : decode cL_move 9 = .ok (.iload 5, 2) := by decide +kernel
theorem dL_move_11 : decode cL_move 11 = .ok (.invokevirtual 37, 3) := by decide +kernel
theorem dL_move_14 : decode cL_move 14 = .ok (.i2l, 1) := by decide +kernel
theorem dL_move_15 : decode cL_move 15 = .ok (.lastore, 1) := by decide +kernel
theorem dL_move_16 : decode cL_move 16 = .ok (.goto 11, 3) := by decide +kernel
theorem dL_move_19 : decode cL_move 19 = .ok (.astore 7, 2) := by decide +kernel
theorem dL_move_21 : decode cL_move 21 = .ok (.iconst 1, 1) := by decide +kernel
theorem dL_move_22 : decode cL_move 22 = .ok (.ireturn, 1) := by decide +kernel
theorem dL_move_23 : decode cL_move 23 = .ok (.astore 7, 2) := by decide +kernel
theorem dL_move_25 : decode cL_move 25 = .ok (.iconst 2, 1) := by decide +kernel
theorem dL_move_26 : decode cL_move 26 = .ok (.ireturn, 1) := by decide +kernel
theorem dL_move_27 : decode cL_move 27 = .ok (.iconst 0, 1) := by decide +kernel
theorem dL_move_28 : decode cL_move 28 = .ok (.ireturn, 1) := by decide +kernel
abbrev rmL_move : Room := { frames := 8, cells := 5, slots := 30, locals := 146 }
theorem zyL_move : zyOK yL_move 7 := ⟨by decide +kernel, by decide +kernel, by decide +kernel⟩
set_option maxHeartbeats 4000000 in
set_option maxRecDepth 100000 in
theorem wL_move {G : ZG} (a0 : Nat) (a1 : Int32) (a2 : Int32) (a3 : Int32) (a4 : Int32) (a5 : Int32) (a6 : Nat) (S : ZS) (h0 : zFix G cL_move RL 8 (some .int) rmL_move) (htab : zTabIs G [(0, 16, 19, 35), (0, 16, 23, 13)]) (C : Option (Int32 × ZH) → Prop) (hC : ¬ C none) (hE : ∀ (k : Int32) (h : ZH) (n : Nat), C (some (k, h)) → zEndT G (some (.int k)) (h, n) rmL_move) : zV G 8 S 0 0 0 [(0, .ref a0), (1, .int a1), (2, .int a2), (3, .int a3), (4, .int a4), (5, .int a5), (6, .ref a6)] [] (C (fL_move a0 a1 a2 a3 a4 a5 a6 S)) := by
  unfold fL_move
  refine zr_aload h0 dL_move_0 rfl (n := 2) rfl ?_
  refine zr_iconst (0 : Int32) h0 (by decide) dL_move_2 (n := 3) rfl ?_
  refine zr_aload_n h0 dL_move_3 rfl (n := 4) rfl ?_
  refine zr_iload_n h0 dL_move_4 rfl (n := 5) rfl ?_
  refine zr_iload_n h0 dL_move_5 rfl (n := 6) rfl ?_
  refine zr_iload_n h0 dL_move_6 rfl (n := 7) rfl ?_
  refine zr_iload h0 dL_move_7 rfl (n := 9) rfl ?_
  refine zr_iload h0 dL_move_9 rfl (n := 11) rfl ?_
  refine zr_cTC hC (fun v => some (.int v)) ["java/lang/IndexOutOfBoundsException", "java/lang/IllegalArgumentException"] (hh := [(0, 16, 19, 35), (0, 16, 23, 13)]) 5 30 h0 htab (⟨⟨by decide, by decide, zw_281, by decide +kernel⟩, ⟨⟨by decide, by decide, zw_106, by decide +kernel⟩, trivial⟩⟩) (fun x hx => zk_VT0 h0 zcX5 (zcl_ex hx) (fun l D z0 hlt => kX5_move l D z0 hlt a0 a1 a2 a3 a4 a5 S x (zcl_of hx)) htab.fl zw_324 zw_325 zw_326 zw_1 zw_327 rfl zyX5_move (As := [.int a1, .int a2, .int a3, .int a4, .int a5]) (st := [.int (0 : Int32), .ref a6]) rfl (by decide) rfl (Nat.le_of_ble_eq_true rfl) (by decide) dL_move_11) rfl rfl (n := 14) rfl (fun j q E h n9 a hq hn => ?_) (fun x => ?_)
  · match j, hq, hn with
    | 0, hq, hn =>
      cases hq
      refine zr_astore [(0, .ref a0), (1, .int a1), (2, .int a2), (3, .int a3), (4, .int a4), (5, .int a5), (6, .ref a6), (7, .ref a)] h0 dL_move_19 (by decide) rfl (n := 21) rfl ?_
      refine zr_iconst (1 : Int32) h0 (by decide) dL_move_21 (n := 22) rfl ?_
      exact zr_iretT h0 rfl dL_move_22 (hE _ _ _) (by decide) (by decide)
    | 1, hq, hn =>
      cases hq
      refine zr_astore [(0, .ref a0), (1, .int a1), (2, .int a2), (3, .int a3), (4, .int a4), (5, .int a5), (6, .ref a6), (7, .ref a)] h0 dL_move_23 (by decide) rfl (n := 25) rfl ?_
      refine zr_iconst (2 : Int32) h0 (by decide) dL_move_25 (n := 26) rfl ?_
      exact zr_iretT h0 rfl dL_move_26 (hE _ _ _) (by decide) (by decide)
    | j + 2, hq, hn => simp at hq
  refine zr_i2l h0 dL_move_14 (n := 15) rfl ?_
  refine zr_lastore C hC h0 dL_move_15 (n := 16) rfl (fun S2 => ?_)
  refine zr_goto (tgt := 27) h0 dL_move_16 (by decide) ?_
  refine zr_iconst (0 : Int32) h0 (by decide) dL_move_27 (n := 28) rfl ?_
  exact zr_iretT h0 rfl dL_move_28 (fun h => hE _ _ _ h) (by decide) (by decide)
theorem kL_move (l : Launch) (D : ZD) (z0 : Nat) (hlt : l.stackTraces = false) (a0 : Nat) (a1 : Int32) (a2 : Int32) (a3 : Int32) (a4 : Int32) (a5 : Int32) (a6 : Nat) (S : ZS) (x : Int32 × ZH) (hf : fL_move a0 a1 a2 a3 a4 a5 a6 S = some x) : zMetW l D z0 yL_move cL_move 8 [(0, 16, 19, 35), (0, 16, 23, 13)] rmL_move [.ref a0, .int a1, .int a2, .int a3, .int a4, .int a5, .ref a6] S x.1 x.2 :=
  zMetW_of hlt (by decide) (Nat.le_of_ble_eq_true rfl) (fun G h0 htab hE => wL_move a0 a1 a2 a3 a4 a5 a6 S h0 htab (fun o => o = some x) (fun h => nomatch h) (fun k h n hh => by cases hh; exact hE n)) hf
theorem dL_sum_0 : decode cL_sum 0 = .ok (.aload_n 3, 1) := by decide +kernel
theorem dL_sum_1 : decode cL_sum 1 = .ok (.iconst 0, 1) := by decide +kernel
theorem dL_sum_2 : decode cL_sum 2 = .ok (.aload_n 0, 1) := by decide +kernel
theorem dL_sum_3 : decode cL_sum 3 = .ok (.iload_n 1, 1) := by decide +kernel
theorem dL_sum_4 : decode cL_sum 4 = .ok (.iload_n 2, 1) := by decide +kernel
theorem dL_sum_5 : decode cL_sum 5 = .ok (.invokevirtual 40, 3) := by decide +kernel
theorem dL_sum_8 : decode cL_sum 8 = .ok (.i2l, 1) := by decide +kernel
theorem dL_sum_9 : decode cL_sum 9 = .ok (.lastore, 1) := by decide +kernel
theorem dL_sum_10 : decode cL_sum 10 = .ok (.goto 15, 3) := by decide +kernel
theorem dL_sum_13 : decode cL_sum 13 = .ok (.astore 4, 2) := by decide +kernel
theorem dL_sum_15 : decode cL_sum 15 = .ok (.iconst 1, 1) := by decide +kernel
theorem dL_sum_16 : decode cL_sum 16 = .ok (.ireturn, 1) := by decide +kernel
theorem dL_sum_17 : decode cL_sum 17 = .ok (.astore 4, 2) := by decide +kernel
theorem dL_sum_19 : decode cL_sum 19 = .ok (.iconst 2, 1) := by decide +kernel
theorem dL_sum_20 : decode cL_sum 20 = .ok (.ireturn, 1) := by decide +kernel
theorem dL_sum_21 : decode cL_sum 21 = .ok (.astore 4, 2) := by decide +kernel
theorem dL_sum_23 : decode cL_sum 23 = .ok (.iconst 3, 1) := by decide +kernel
theorem dL_sum_24 : decode cL_sum 24 = .ok (.ireturn, 1) := by decide +kernel
theorem dL_sum_25 : decode cL_sum 25 = .ok (.iconst 0, 1) := by decide +kernel
theorem dL_sum_26 : decode cL_sum 26 = .ok (.ireturn, 1) := by decide +kernel
abbrev rmL_sum : Room := { frames := 9, cells := 7, slots := 99, locals := 170 }
theorem zyL_sum : zyOK yL_sum 4 := ⟨by decide +kernel, by decide +kernel, by decide +kernel⟩
set_option maxHeartbeats 4000000 in
set_option maxRecDepth 100000 in
theorem wL_sum {G : ZG} (a0 : Nat) (a1 : Int32) (a2 : Int32) (a3 : Nat) (S : ZS) (h0 : zFix G cL_sum RL 5 (some .int) rmL_sum) (htab : zTabIs G [(0, 10, 13, 35), (0, 10, 17, 13), (0, 10, 21, 15)]) (C : Option (Int32 × ZH) → Prop) (hC : ¬ C none) (hE : ∀ (k : Int32) (h : ZH) (n : Nat), C (some (k, h)) → zEndT G (some (.int k)) (h, n) rmL_sum) : zV G 5 S 0 0 0 [(0, .ref a0), (1, .int a1), (2, .int a2), (3, .ref a3)] [] (C (fL_sum a0 a1 a2 a3 S)) := by
  unfold fL_sum
  refine zr_aload_n h0 dL_sum_0 rfl (n := 1) rfl ?_
  refine zr_iconst (0 : Int32) h0 (by decide) dL_sum_1 (n := 2) rfl ?_
  refine zr_aload_n h0 dL_sum_2 rfl (n := 3) rfl ?_
  refine zr_iload_n h0 dL_sum_3 rfl (n := 4) rfl ?_
  refine zr_iload_n h0 dL_sum_4 rfl (n := 5) rfl ?_
  refine zr_cTC hC (fun v => some (.int v)) ["java/lang/IndexOutOfBoundsException", "java/lang/IllegalArgumentException", "java/lang/IllegalStateException"] (hh := [(0, 10, 13, 35), (0, 10, 17, 13), (0, 10, 21, 15)]) 7 99 h0 htab (⟨⟨by decide, by decide, zw_281, by decide +kernel⟩, ⟨⟨by decide, by decide, zw_106, by decide +kernel⟩, ⟨⟨by decide, by decide, zw_107, by decide +kernel⟩, trivial⟩⟩⟩) (fun x hx => zk_VT0 h0 zcX5 (zcl_ex hx) (fun l D z0 hlt => kX5_sum l D z0 hlt a0 a1 a2 S x (zcl_of hx)) htab.fl zw_357 zw_358 zw_359 zw_1 zw_360 rfl zyX5_sum (As := [.int a1, .int a2]) (st := [.int (0 : Int32), .ref a3]) rfl (by decide) rfl (Nat.le_of_ble_eq_true rfl) (by decide) dL_sum_5) rfl rfl (n := 8) rfl (fun j q E h n9 a hq hn => ?_) (fun x => ?_)
  · match j, hq, hn with
    | 0, hq, hn =>
      cases hq
      refine zr_astore [(0, .ref a0), (1, .int a1), (2, .int a2), (3, .ref a3), (4, .ref a)] h0 dL_sum_13 (by decide) rfl (n := 15) rfl ?_
      refine zr_iconst (1 : Int32) h0 (by decide) dL_sum_15 (n := 16) rfl ?_
      exact zr_iretT h0 rfl dL_sum_16 (hE _ _ _) (by decide) (by decide)
    | 1, hq, hn =>
      cases hq
      refine zr_astore [(0, .ref a0), (1, .int a1), (2, .int a2), (3, .ref a3), (4, .ref a)] h0 dL_sum_17 (by decide) rfl (n := 19) rfl ?_
      refine zr_iconst (2 : Int32) h0 (by decide) dL_sum_19 (n := 20) rfl ?_
      exact zr_iretT h0 rfl dL_sum_20 (hE _ _ _) (by decide) (by decide)
    | 2, hq, hn =>
      cases hq
      refine zr_astore [(0, .ref a0), (1, .int a1), (2, .int a2), (3, .ref a3), (4, .ref a)] h0 dL_sum_21 (by decide) rfl (n := 23) rfl ?_
      refine zr_iconst (3 : Int32) h0 (by decide) dL_sum_23 (n := 24) rfl ?_
      exact zr_iretT h0 rfl dL_sum_24 (hE _ _ _) (by decide) (by decide)
    | j + 3, hq, hn => simp at hq
  refine zr_i2l h0 dL_sum_8 (n := 9) rfl ?_
  refine zr_lastore C hC h0 dL_sum_9 (n := 10) rfl (fun S2 => ?_)
  refine zr_goto (tgt := 25) h0 dL_sum_10 (by decide) ?_
  refine zr_iconst (0 : Int32) h0 (by decide) dL_sum_25 (n := 26) rfl ?_
  exact zr_iretT h0 rfl dL_sum_26 (fun h => hE _ _ _ h) (by decide) (by decide)
theorem kL_sum (l : Launch) (D : ZD) (z0 : Nat) (hlt : l.stackTraces = false) (a0 : Nat) (a1 : Int32) (a2 : Int32) (a3 : Nat) (S : ZS) (x : Int32 × ZH) (hf : fL_sum a0 a1 a2 a3 S = some x) : zMetW l D z0 yL_sum cL_sum 5 [(0, 10, 13, 35), (0, 10, 17, 13), (0, 10, 21, 15)] rmL_sum [.ref a0, .int a1, .int a2, .ref a3] S x.1 x.2 :=
  zMetW_of hlt (by decide) (Nat.le_of_ble_eq_true rfl) (fun G h0 htab hE => wL_sum a0 a1 a2 a3 S h0 htab (fun o => o = some x) (fun h => nomatch h) (fun k h n hh => by cases hh; exact hE n)) hf
theorem dL_product_0 : decode cL_product 0 = .ok (.aload_n 3, 1) := by decide +kernel
theorem dL_product_1 : decode cL_product 1 = .ok (.iconst 0, 1) := by decide +kernel
theorem dL_product_2 : decode cL_product 2 = .ok (.aload_n 0, 1) := by decide +kernel
theorem dL_product_3 : decode cL_product 3 = .ok (.iload_n 1, 1) := by decide +kernel
theorem dL_product_4 : decode cL_product 4 = .ok (.iload_n 2, 1) := by decide +kernel
theorem dL_product_5 : decode cL_product 5 = .ok (.invokevirtual 43, 3) := by decide +kernel
theorem dL_product_8 : decode cL_product 8 = .ok (.i2l, 1) := by decide +kernel
theorem dL_product_9 : decode cL_product 9 = .ok (.lastore, 1) := by decide +kernel
theorem dL_product_10 : decode cL_product 10 = .ok (.goto 15, 3) := by decide +kernel
theorem dL_product_13 : decode cL_product 13 = .ok (.astore 4, 2) := by decide +kernel
theorem dL_product_15 : decode cL_product 15 = .ok (.iconst 1, 1) := by decide +kernel
theorem dL_product_16 : decode cL_product 16 = .ok (.ireturn, 1) := by decide +kernel
theorem dL_product_17 : decode cL_product 17 = .ok (.astore 4, 2) := by decide +kernel
theorem dL_product_19 : decode cL_product 19 = .ok (.iconst 2, 1) := by decide +kernel
theorem dL_product_20 : decode cL_product 20 = .ok (.ireturn, 1) := by decide +kernel
theorem dL_product_21 : decode cL_product 21 = .ok (.astore 4, 2) := by decide +kernel
theorem dL_product_23 : decode cL_product 23 = .ok (.iconst 3, 1) := by decide +kernel
theorem dL_product_24 : decode cL_product 24 = .ok (.ireturn, 1) := by decide +kernel
theorem dL_product_25 : decode cL_product 25 = .ok (.iconst 0, 1) := by decide +kernel
theorem dL_product_26 : decode cL_product 26 = .ok (.ireturn, 1) := by decide +kernel
abbrev rmL_product : Room := { frames := 9, cells := 7, slots := 99, locals := 170 }
theorem zyL_product : zyOK yL_product 4 := ⟨by decide +kernel, by decide +kernel, by decide +kernel⟩
set_option maxHeartbeats 4000000 in
set_option maxRecDepth 100000 in
theorem wL_product {G : ZG} (a0 : Nat) (a1 : Int32) (a2 : Int32) (a3 : Nat) (S : ZS) (h0 : zFix G cL_product RL 5 (some .int) rmL_product) (htab : zTabIs G [(0, 10, 13, 35), (0, 10, 17, 13), (0, 10, 21, 15)]) (C : Option (Int32 × ZH) → Prop) (hC : ¬ C none) (hE : ∀ (k : Int32) (h : ZH) (n : Nat), C (some (k, h)) → zEndT G (some (.int k)) (h, n) rmL_product) : zV G 5 S 0 0 0 [(0, .ref a0), (1, .int a1), (2, .int a2), (3, .ref a3)] [] (C (fL_product a0 a1 a2 a3 S)) := by
  unfold fL_product
  refine zr_aload_n h0 dL_product_0 rfl (n := 1) rfl ?_
  refine zr_iconst (0 : Int32) h0 (by decide) dL_product_1 (n := 2) rfl ?_
  refine zr_aload_n h0 dL_product_2 rfl (n := 3) rfl ?_
  refine zr_iload_n h0 dL_product_3 rfl (n := 4) rfl ?_
  refine zr_iload_n h0 dL_product_4 rfl (n := 5) rfl ?_
  refine zr_cTC hC (fun v => some (.int v)) ["java/lang/IndexOutOfBoundsException", "java/lang/IllegalArgumentException", "java/lang/IllegalStateException"] (hh := [(0, 10, 13, 35), (0, 10, 17, 13), (0, 10, 21, 15)]) 7 99 h0 htab (⟨⟨by decide, by decide, zw_281, by decide +kernel⟩, ⟨⟨by decide, by decide, zw_106, by decide +kernel⟩, ⟨⟨by decide, by decide, zw_107, by decide +kernel⟩, trivial⟩⟩⟩) (fun x hx => zk_VT0 h0 zcX5 (zcl_ex hx) (fun l D z0 hlt => kX5_product l D z0 hlt a0 a1 a2 S x (zcl_of hx)) htab.fl zw_369 zw_370 zw_371 zw_1 zw_372 rfl zyX5_product (As := [.int a1, .int a2]) (st := [.int (0 : Int32), .ref a3]) rfl (by decide) rfl (Nat.le_of_ble_eq_true rfl) (by decide) dL_product_5) rfl rfl (n := 8) rfl (fun j q E h n9 a hq hn => ?_) (fun x => ?_)
  · match j, hq, hn with
    | 0, hq, hn =>
      cases hq
      refine zr_astore [(0, .ref a0), (1, .int a1), (2, .int a2), (3, .ref a3), (4, .ref a)] h0 dL_product_13 (by decide) rfl (n := 15) rfl ?_
      refine zr_iconst (1 : Int32) h0 (by decide) dL_product_15 (n := 16) rfl ?_
      exact zr_iretT h0 rfl dL_product_16 (hE _ _ _) (by decide) (by decide)
    | 1, hq, hn =>
      cases hq
      refine zr_astore [(0, .ref a0), (1, .int a1), (2, .int a2), (3, .ref a3), (4, .ref a)] h0 dL_product_17 (by decide) rfl (n := 19) rfl ?_
      refine zr_iconst (2 : Int32) h0 (by decide) dL_product_19 (n := 20) rfl ?_
      exact zr_iretT h0 rfl dL_product_20 (hE _ _ _) (by decide) (by decide)
    | 2, hq, hn =>
      cases hq
      refine zr_astore [(0, .ref a0), (1, .int a1), (2, .int a2), (3, .ref a3), (4, .ref a)] h0 dL_product_21 (by decide) rfl (n := 23) rfl ?_
      refine zr_iconst (3 : Int32) h0 (by decide) dL_product_23 (n := 24) rfl ?_
      exact zr_iretT h0 rfl dL_product_24 (hE _ _ _) (by decide) (by decide)
    | j + 3, hq, hn => simp at hq
  refine zr_i2l h0 dL_product_8 (n := 9) rfl ?_
  refine zr_lastore C hC h0 dL_product_9 (n := 10) rfl (fun S2 => ?_)
  refine zr_goto (tgt := 25) h0 dL_product_10 (by decide) ?_
  refine zr_iconst (0 : Int32) h0 (by decide) dL_product_25 (n := 26) rfl ?_
  exact zr_iretT h0 rfl dL_product_26 (fun h => hE _ _ _ h) (by decide) (by decide)
theorem kL_product (l : Launch) (D : ZD) (z0 : Nat) (hlt : l.stackTraces = false) (a0 : Nat) (a1 : Int32) (a2 : Int32) (a3 : Nat) (S : ZS) (x : Int32 × ZH) (hf : fL_product a0 a1 a2 a3 S = some x) : zMetW l D z0 yL_product cL_product 5 [(0, 10, 13, 35), (0, 10, 17, 13), (0, 10, 21, 15)] rmL_product [.ref a0, .int a1, .int a2, .ref a3] S x.1 x.2 :=
  zMetW_of hlt (by decide) (Nat.le_of_ble_eq_true rfl) (fun G h0 htab hE => wL_product a0 a1 a2 a3 S h0 htab (fun o => o = some x) (fun h => nomatch h) (fun k h n hh => by cases hh; exact hE n)) hf
theorem dL_way_0 : decode cL_way 0 = .ok (.aload_n 2, 1) := by decide +kernel
theorem dL_way_1 : decode cL_way 1 = .ok (.iconst 0, 1) := by decide +kernel
theorem dL_way_2 : decode cL_way 2 = .ok (.aload_n 0, 1) := by decide +kernel
theorem dL_way_3 : decode cL_way 3 = .ok (.iload_n 1, 1) := by decide +kernel
theorem dL_way_4 : decode cL_way 4 = .ok (.invokevirtual 46, 3) := by decide +kernel
theorem dL_way_7 : decode cL_way 7 = .ok (.i2l, 1) := by decide +kernel
theorem dL_way_8 : decode cL_way 8 = .ok (.lastore, 1) := by decide +kernel
theorem dL_way_9 : decode cL_way 9 = .ok (.goto 9, 3) := by decide +kernel
theorem dL_way_12 : decode cL_way 12 = .ok (.astore_n 3, 1) := by decide +kernel
theorem dL_way_13 : decode cL_way 13 = .ok (.iconst 1, 1) := by decide +kernel
theorem dL_way_14 : decode cL_way 14 = .ok (.ireturn, 1) := by decide +kernel
theorem dL_way_15 : decode cL_way 15 = .ok (.astore_n 3, 1) := by decide +kernel
theorem dL_way_16 : decode cL_way 16 = .ok (.iconst 2, 1) := by decide +kernel
theorem dL_way_17 : decode cL_way 17 = .ok (.ireturn, 1) := by decide +kernel
theorem dL_way_18 : decode cL_way 18 = .ok (.iconst 0, 1) := by decide +kernel
theorem dL_way_19 : decode cL_way 19 = .ok (.ireturn, 1) := by decide +kernel
abbrev rmL_way : Room := { frames := 8, cells := 5, slots := 119, locals := 142 }
theorem zyL_way : zyOK yL_way 3 := ⟨by decide +kernel, by decide +kernel, by decide +kernel⟩
set_option maxHeartbeats 4000000 in
set_option maxRecDepth 100000 in
theorem wL_way {G : ZG} (a0 : Nat) (a1 : Int32) (a2 : Nat) (S : ZS) (h0 : zFix G cL_way RL 4 (some .int) rmL_way) (htab : zTabIs G [(0, 9, 12, 35), (0, 9, 15, 15)]) (C : Option (Int32 × ZH) → Prop) (hC : ¬ C none) (hE : ∀ (k : Int32) (h : ZH) (n : Nat), C (some (k, h)) → zEndT G (some (.int k)) (h, n) rmL_way) : zV G 4 S 0 0 0 [(0, .ref a0), (1, .int a1), (2, .ref a2)] [] (C (fL_way a0 a1 a2 S)) := by
  unfold fL_way
  refine zr_aload_n h0 dL_way_0 rfl (n := 1) rfl ?_
  refine zr_iconst (0 : Int32) h0 (by decide) dL_way_1 (n := 2) rfl ?_
  refine zr_aload_n h0 dL_way_2 rfl (n := 3) rfl ?_
  refine zr_iload_n h0 dL_way_3 rfl (n := 4) rfl ?_
  refine zr_cTC hC (fun v => some (.int v)) ["java/lang/IndexOutOfBoundsException", "java/lang/IllegalStateException"] (hh := [(0, 9, 12, 35), (0, 9, 15, 15)]) 5 119 h0 htab (⟨⟨by decide, by decide, zw_281, by decide +kernel⟩, ⟨⟨by decide, by decide, zw_107, by decide +kernel⟩, trivial⟩⟩) (fun x hx => zk_VT0 h0 zcX5 (zcl_ex hx) (fun l D z0 hlt => kX5_way l D z0 hlt a0 a1 S x (zcl_of hx)) htab.fl zw_382 zw_383 zw_384 zw_1 zw_385 rfl zyX5_way (As := [.int a1]) (st := [.int (0 : Int32), .ref a2]) rfl (by decide) rfl (Nat.le_of_ble_eq_true rfl) (by decide) dL_way_4) rfl rfl (n := 7) rfl (fun j q E h n9 a hq hn => ?_) (fun x => ?_)
  · match j, hq, hn with
    | 0, hq, hn =>
      cases hq
      refine zr_astore_n [(0, .ref a0), (1, .int a1), (2, .ref a2), (3, .ref a)] h0 dL_way_12 (by decide) rfl (n := 13) rfl ?_
      refine zr_iconst (1 : Int32) h0 (by decide) dL_way_13 (n := 14) rfl ?_
      exact zr_iretT h0 rfl dL_way_14 (hE _ _ _) (by decide) (by decide)
    | 1, hq, hn =>
      cases hq
      refine zr_astore_n [(0, .ref a0), (1, .int a1), (2, .ref a2), (3, .ref a)] h0 dL_way_15 (by decide) rfl (n := 16) rfl ?_
      refine zr_iconst (2 : Int32) h0 (by decide) dL_way_16 (n := 17) rfl ?_
      exact zr_iretT h0 rfl dL_way_17 (hE _ _ _) (by decide) (by decide)
    | j + 2, hq, hn => simp at hq
  refine zr_i2l h0 dL_way_7 (n := 8) rfl ?_
  refine zr_lastore C hC h0 dL_way_8 (n := 9) rfl (fun S2 => ?_)
  refine zr_goto (tgt := 18) h0 dL_way_9 (by decide) ?_
  refine zr_iconst (0 : Int32) h0 (by decide) dL_way_18 (n := 19) rfl ?_
  exact zr_iretT h0 rfl dL_way_19 (fun h => hE _ _ _ h) (by decide) (by decide)
theorem kL_way (l : Launch) (D : ZD) (z0 : Nat) (hlt : l.stackTraces = false) (a0 : Nat) (a1 : Int32) (a2 : Nat) (S : ZS) (x : Int32 × ZH) (hf : fL_way a0 a1 a2 S = some x) : zMetW l D z0 yL_way cL_way 4 [(0, 9, 12, 35), (0, 9, 15, 15)] rmL_way [.ref a0, .int a1, .ref a2] S x.1 x.2 :=
  zMetW_of hlt (by decide) (Nat.le_of_ble_eq_true rfl) (fun G h0 htab hE => wL_way a0 a1 a2 S h0 htab (fun o => o = some x) (fun h => nomatch h) (fun k h n hh => by cases hh; exact hE n)) hf
theorem dL_multiply_0 : decode cL_multiply 0 = .ok (.aload 5, 2) := by decide +kernel
theorem dL_multiply_2 : decode cL_multiply 2 = .ok (.iconst 0, 1) := by decide +kernel
theorem dL_multiply_3 : decode cL_multiply 3 = .ok (.aload_n 0, 1) := by decide +kernel
theorem dL_multiply_4 : decode cL_multiply 4 = .ok (.iload_n 1, 1) := by decide +kernel
theorem dL_multiply_5 : decode cL_multiply 5 = .ok (.iload_n 2, 1) := by decide +kernel
theorem dL_multiply_6 : decode cL_multiply 6 = .ok (.iload_n 3, 1) := by decide +kernel
theorem dL_multiply_7 : decode cL_multiply 7 = .ok (.iload 4, 2) := by decide +kernel
theorem dL_multiply_9 : decode cL_multiply 9 = .ok (.invokevirtual 49, 3) := by decide +kernel
theorem dL_multiply_12 : decode cL_multiply 12 = .ok (.i2l, 1) := by decide +kernel
theorem dL_multiply_13 : decode cL_multiply 13 = .ok (.lastore, 1) := by decide +kernel
theorem dL_multiply_14 : decode cL_multiply 14 = .ok (.goto 15, 3) := by decide +kernel
theorem dL_multiply_17 : decode cL_multiply 17 = .ok (.astore 6, 2) := by decide +kernel
theorem dL_multiply_19 : decode cL_multiply 19 = .ok (.iconst 1, 1) := by decide +kernel
theorem dL_multiply_20 : decode cL_multiply 20 = .ok (.ireturn, 1) := by decide +kernel
theorem dL_multiply_21 : decode cL_multiply 21 = .ok (.astore 6, 2) := by decide +kernel
theorem dL_multiply_23 : decode cL_multiply 23 = .ok (.iconst 2, 1) := by decide +kernel
theorem dL_multiply_24 : decode cL_multiply 24 = .ok (.ireturn, 1) := by decide +kernel
theorem dL_multiply_25 : decode cL_multiply 25 = .ok (.astore 6, 2) := by decide +kernel
theorem dL_multiply_27 : decode cL_multiply 27 = .ok (.iconst 3, 1) := by decide +kernel
theorem dL_multiply_28 : decode cL_multiply 28 = .ok (.ireturn, 1) := by decide +kernel
theorem dL_multiply_29 : decode cL_multiply 29 = .ok (.iconst 0, 1) := by decide +kernel
theorem dL_multiply_30 : decode cL_multiply 30 = .ok (.ireturn, 1) := by decide +kernel
abbrev rmL_multiply : Room := { frames := 8, cells := 5, slots := 30, locals := 145 }
theorem zyL_multiply : zyOK yL_multiply 6 := ⟨by decide +kernel, by decide +kernel, by decide +kernel⟩
set_option maxHeartbeats 4000000 in
set_option maxRecDepth 100000 in
theorem wL_multiply {G : ZG} (a0 : Nat) (a1 : Int32) (a2 : Int32) (a3 : Int32) (a4 : Int32) (a5 : Nat) (S : ZS) (h0 : zFix G cL_multiply RL 7 (some .int) rmL_multiply) (htab : zTabIs G [(0, 14, 17, 35), (0, 14, 21, 13), (0, 14, 25, 15)]) (C : Option (Int32 × ZH) → Prop) (hC : ¬ C none) (hE : ∀ (k : Int32) (h : ZH) (n : Nat), C (some (k, h)) → zEndT G (some (.int k)) (h, n) rmL_multiply) : zV G 7 S 0 0 0 [(0, .ref a0), (1, .int a1), (2, .int a2), (3, .int a3), (4, .int a4), (5, .ref a5)] [] (C (fL_multiply a0 a1 a2 a3 a4 a5 S)) := by
  unfold fL_multiply
  refine zr_aload h0 dL_multiply_0 rfl (n := 2) rfl ?_
  refine zr_iconst (0 : Int32) h0 (by decide) dL_multiply_2 (n := 3) rfl ?_
  refine zr_aload_n h0 dL_multiply_3 rfl (n := 4) rfl ?_
  refine zr_iload_n h0 dL_multiply_4 rfl (n := 5) rfl ?_
  refine zr_iload_n h0 dL_multiply_5 rfl (n := 6) rfl ?_
  refine zr_iload_n h0 dL_multiply_6 rfl (n := 7) rfl ?_
  refine zr_iload h0 dL_multiply_7 rfl (n := 9) rfl ?_
  refine zr_cTC hC (fun v => some (.int v)) ["java/lang/IndexOutOfBoundsException", "java/lang/IllegalArgumentException", "java/lang/IllegalStateException"] (hh := [(0, 14, 17, 35), (0, 14, 21, 13), (0, 14, 25, 15)]) 5 30 h0 htab (⟨⟨by decide, by decide, zw_281, by decide +kernel⟩, ⟨⟨by decide, by decide, zw_106, by decide +kernel⟩, ⟨⟨by decide, by decide, zw_107, by decide +kernel⟩, trivial⟩⟩⟩) (fun x hx => zk_VT0 h0 zcX5 (zcl_ex hx) (fun l D z0 hlt => kX5_multiply l D z0 hlt a0 a1 a2 a3 a4 S x (zcl_of hx)) htab.fl zw_416 zw_417 zw_418 zw_1 zw_419 rfl zyX5_multiply (As := [.int a1, .int a2, .int a3, .int a4]) (st := [.int (0 : Int32), .ref a5]) rfl (by decide) rfl (Nat.le_of_ble_eq_true rfl) (by decide) dL_multiply_9) rfl rfl (n := 12) rfl (fun j q E h n9 a hq hn => ?_) (fun x => ?_)
  · match j, hq, hn with
    | 0, hq, hn =>
      cases hq
      refine zr_astore [(0, .ref a0), (1, .int a1), (2, .int a2), (3, .int a3), (4, .int a4), (5, .ref a5), (6, .ref a)] h0 dL_multiply_17 (by decide) rfl (n := 19) rfl ?_
      refine zr_iconst (1 : Int32) h0 (by decide) dL_multiply_19 (n := 20) rfl ?_
      exact zr_iretT h0 rfl dL_multiply_20 (hE _ _ _) (by decide) (by decide)
    | 1, hq, hn =>
      cases hq
      refine zr_astore [(0, .ref a0), (1, .int a1), (2, .int a2), (3, .int a3), (4, .int a4), (5, .ref a5), (6, .ref a)] h0 dL_multiply_21 (by decide) rfl (n := 23) rfl ?_
      refine zr_iconst (2 : Int32) h0 (by decide) dL_multiply_23 (n := 24) rfl ?_
      exact zr_iretT h0 rfl dL_multiply_24 (hE _ _ _) (by decide) (by decide)
    | 2, hq, hn =>
      cases hq
      refine zr_astore [(0, .ref a0), (1, .int a1), (2, .int a2), (3, .int a3), (4, .int a4), (5, .ref a5), (6, .ref a)] h0 dL_multiply_25 (by decide) rfl (n := 27) rfl ?_
      refine zr_iconst (3 : Int32) h0 (by decide) dL_multiply_27 (n := 28) rfl ?_
      exact zr_iretT h0 rfl dL_multiply_28 (hE _ _ _) (by decide) (by decide)
    | j + 3, hq, hn => simp at hq
  refine zr_i2l h0 dL_multiply_12 (n := 13) rfl ?_
  refine zr_lastore C hC h0 dL_multiply_13 (n := 14) rfl (fun S2 => ?_)
  refine zr_goto (tgt := 29) h0 dL_multiply_14 (by decide) ?_
  refine zr_iconst (0 : Int32) h0 (by decide) dL_multiply_29 (n := 30) rfl ?_
  exact zr_iretT h0 rfl dL_multiply_30 (fun h => hE _ _ _ h) (by decide) (by decide)
theorem kL_multiply (l : Launch) (D : ZD) (z0 : Nat) (hlt : l.stackTraces = false) (a0 : Nat) (a1 : Int32) (a2 : Int32) (a3 : Int32) (a4 : Int32) (a5 : Nat) (S : ZS) (x : Int32 × ZH) (hf : fL_multiply a0 a1 a2 a3 a4 a5 S = some x) : zMetW l D z0 yL_multiply cL_multiply 7 [(0, 14, 17, 35), (0, 14, 21, 13), (0, 14, 25, 15)] rmL_multiply [.ref a0, .int a1, .int a2, .int a3, .int a4, .ref a5] S x.1 x.2 :=
  zMetW_of hlt (by decide) (Nat.le_of_ble_eq_true rfl) (fun G h0 htab hE => wL_multiply a0 a1 a2 a3 a4 a5 S h0 htab (fun o => o = some x) (fun h => nomatch h) (fun k h n hh => by cases hh; exact hE n)) hf
theorem dL_plain_0 : decode cL_plain 0 = .ok (.aload_n 2, 1) := by decide +kernel
theorem dL_plain_1 : decode cL_plain 1 = .ok (.iconst 0, 1) := by decide +kernel
theorem dL_plain_2 : decode cL_plain 2 = .ok (.aload_n 0, 1) := by decide +kernel
theorem dL_plain_3 : decode cL_plain 3 = .ok (.iload_n 1, 1) := by decide +kernel
theorem dL_plain_4 : decode cL_plain 4 = .ok (.invokevirtual 53, 3) := by decide +kernel
theorem dL_plain_7 : decode cL_plain 7 = .ok (.i2l, 1) := by decide +kernel
theorem dL_plain_8 : decode cL_plain 8 = .ok (.lastore, 1) := by decide +kernel
theorem dL_plain_9 : decode cL_plain 9 = .ok (.goto 9, 3) := by decide +kernel
theorem dL_plain_12 : decode cL_plain 12 = .ok (.astore_n 3, 1) := by decide +kernel
theorem dL_plain_13 : decode cL_plain 13 = .ok (.iconst 1, 1) := by decide +kernel
theorem dL_plain_14 : decode cL_plain 14 = .ok (.ireturn, 1) := by decide +kernel
theorem dL_plain_15 : decode cL_plain 15 = .ok (.astore_n 3, 1) := by decide +kernel
theorem dL_plain_16 : decode cL_plain 16 = .ok (.iconst 2, 1) := by decide +kernel
theorem dL_plain_17 : decode cL_plain 17 = .ok (.ireturn, 1) := by decide +kernel
theorem dL_plain_18 : decode cL_plain 18 = .ok (.iconst 0, 1) := by decide +kernel
theorem dL_plain_19 : decode cL_plain 19 = .ok (.ireturn, 1) := by decide +kernel
abbrev rmL_plain : Room := { frames := 8, cells := 2, slots := 12, locals := 142 }
theorem zyL_plain : zyOK yL_plain 3 := ⟨by decide +kernel, by decide +kernel, by decide +kernel⟩
set_option maxHeartbeats 4000000 in
set_option maxRecDepth 100000 in
theorem wL_plain {G : ZG} (a0 : Nat) (a1 : Int32) (a2 : Nat) (S : ZS) (h0 : zFix G cL_plain RL 4 (some .int) rmL_plain) (htab : zTabIs G [(0, 9, 12, 35), (0, 9, 15, 15)]) (C : Option (Int32 × ZH) → Prop) (hC : ¬ C none) (hE : ∀ (k : Int32) (h : ZH) (n : Nat), C (some (k, h)) → zEndT G (some (.int k)) (h, n) rmL_plain) : zV G 4 S 0 0 0 [(0, .ref a0), (1, .int a1), (2, .ref a2)] [] (C (fL_plain a0 a1 a2 S)) := by
  unfold fL_plain
  refine zr_aload_n h0 dL_plain_0 rfl (n := 1) rfl ?_
  refine zr_iconst (0 : Int32) h0 (by decide) dL_plain_1 (n := 2) rfl ?_
  refine zr_aload_n h0 dL_plain_2 rfl (n := 3) rfl ?_
  refine zr_iload_n h0 dL_plain_3 rfl (n := 4) rfl ?_
  refine zr_cTC hC (fun v => some (.int v)) ["java/lang/IndexOutOfBoundsException", "java/lang/IllegalStateException"] (hh := [(0, 9, 12, 35), (0, 9, 15, 15)]) 2 12 h0 htab (⟨⟨by decide, by decide, zw_281, by decide +kernel⟩, ⟨⟨by decide, by decide, zw_107, by decide +kernel⟩, trivial⟩⟩) (fun x hx => zk_VT0 h0 zcX5 (zcl_ex hx) (fun l D z0 hlt => kX5_plain l D z0 hlt a0 a1 S x (zcl_of hx)) htab.fl zw_448 zw_449 zw_450 zw_1 zw_451 rfl zyX5_plain (As := [.int a1]) (st := [.int (0 : Int32), .ref a2]) rfl (by decide) rfl (Nat.le_of_ble_eq_true rfl) (by decide) dL_plain_4) rfl rfl (n := 7) rfl (fun j q E h n9 a hq hn => ?_) (fun x => ?_)
  · match j, hq, hn with
    | 0, hq, hn =>
      cases hq
      refine zr_astore_n [(0, .ref a0), (1, .int a1), (2, .ref a2), (3, .ref a)] h0 dL_plain_12 (by decide) rfl (n := 13) rfl ?_
      refine zr_iconst (1 : Int32) h0 (by decide) dL_plain_13 (n := 14) rfl ?_
      exact zr_iretT h0 rfl dL_plain_14 (hE _ _ _) (by decide) (by decide)
    | 1, hq, hn =>
      cases hq
      refine zr_astore_n [(0, .ref a0), (1, .int a1), (2, .ref a2), (3, .ref a)] h0 dL_plain_15 (by decide) rfl (n := 16) rfl ?_
      refine zr_iconst (2 : Int32) h0 (by decide) dL_plain_16 (n := 17) rfl ?_
      exact zr_iretT h0 rfl dL_plain_17 (hE _ _ _) (by decide) (by decide)
    | j + 2, hq, hn => simp at hq
  refine zr_i2l h0 dL_plain_7 (n := 8) rfl ?_
  refine zr_lastore C hC h0 dL_plain_8 (n := 9) rfl (fun S2 => ?_)
  refine zr_goto (tgt := 18) h0 dL_plain_9 (by decide) ?_
  refine zr_iconst (0 : Int32) h0 (by decide) dL_plain_18 (n := 19) rfl ?_
  exact zr_iretT h0 rfl dL_plain_19 (fun h => hE _ _ _ h) (by decide) (by decide)
theorem kL_plain (l : Launch) (D : ZD) (z0 : Nat) (hlt : l.stackTraces = false) (a0 : Nat) (a1 : Int32) (a2 : Nat) (S : ZS) (x : Int32 × ZH) (hf : fL_plain a0 a1 a2 S = some x) : zMetW l D z0 yL_plain cL_plain 4 [(0, 9, 12, 35), (0, 9, 15, 15)] rmL_plain [.ref a0, .int a1, .ref a2] S x.1 x.2 :=
  zMetW_of hlt (by decide) (Nat.le_of_ble_eq_true rfl) (fun G h0 htab hE => wL_plain a0 a1 a2 S h0 htab (fun o => o = some x) (fun h => nomatch h) (fun k h n hh => by cases hh; exact hE n)) hf
theorem dL_flip_0 : decode cL_flip 0 = .ok (.aload_n 0, 1) := by decide +kernel
theorem dL_flip_1 : decode cL_flip 1 = .ok (.iload_n 1, 1) := by decide +kernel
theorem dL_flip_2 : decode cL_flip 2 = .ok (.iload_n 2, 1) := by decide +kernel
theorem dL_flip_3 : decode cL_flip 3 = .ok (.iload_n 3, 1) := by decide +kernel
theorem dL_flip_4 : decode cL_flip 4 = .ok (.iload 4, 2) := by decide +kernel
theorem dL_flip_6 : decode cL_flip 6 = .ok (.invokevirtual 56, 3) := by decide +kernel
theorem dL_flip_9 : decode cL_flip 9 = .ok (.goto 15, 3) := by decide +kernel
theorem dL_flip_12 : decode cL_flip 12 = .ok (.astore 5, 2) := by decide +kernel
theorem dL_flip_14 : decode cL_flip 14 = .ok (.iconst 1, 1) := by decide +kernel
theorem dL_flip_15 : decode cL_flip 15 = .ok (.ireturn, 1) := by decide +kernel
theorem dL_flip_16 : decode cL_flip 16 = .ok (.astore 5, 2) := by decide +kernel
theorem dL_flip_18 : decode cL_flip 18 = .ok (.iconst 2, 1) := by decide +kernel
theorem dL_flip_19 : decode cL_flip 19 = .ok (.ireturn, 1) := by decide +kernel
theorem dL_flip_20 : decode cL_flip 20 = .ok (.astore 5, 2) := by decide +kernel
theorem dL_flip_22 : decode cL_flip 22 = .ok (.iconst 3, 1) := by decide +kernel
theorem dL_flip_23 : decode cL_flip 23 = .ok (.ireturn, 1) := by decide +kernel
theorem dL_flip_24 : decode cL_flip 24 = .ok (.iconst 0, 1) := by decide +kernel
theorem dL_flip_25 : decode cL_flip 25 = .ok (.ireturn, 1) := by decide +kernel
abbrev rmL_flip : Room := { frames := 8, cells := 5, slots := 30, locals := 155 }
theorem zyL_flip : zyOK yL_flip 5 := ⟨by decide +kernel, by decide +kernel, by decide +kernel⟩
set_option maxHeartbeats 4000000 in
set_option maxRecDepth 100000 in
theorem wL_flip {G : ZG} (a0 : Nat) (a1 : Int32) (a2 : Int32) (a3 : Int32) (a4 : Int32) (S : ZS) (h0 : zFix G cL_flip RL 6 (some .int) rmL_flip) (htab : zTabIs G [(0, 9, 12, 35), (0, 9, 16, 13), (0, 9, 20, 15)]) (C : Option (Int32 × ZH) → Prop) (hC : ¬ C none) (hE : ∀ (k : Int32) (h : ZH) (n : Nat), C (some (k, h)) → zEndT G (some (.int k)) (h, n) rmL_flip) : zV G 6 S 0 0 0 [(0, .ref a0), (1, .int a1), (2, .int a2), (3, .int a3), (4, .int a4)] [] (C (fL_flip a0 a1 a2 a3 a4 S)) := by
  unfold fL_flip
  refine zr_aload_n h0 dL_flip_0 rfl (n := 1) rfl ?_
  refine zr_iload_n h0 dL_flip_1 rfl (n := 2) rfl ?_
  refine zr_iload_n h0 dL_flip_2 rfl (n := 3) rfl ?_
  refine zr_iload_n h0 dL_flip_3 rfl (n := 4) rfl ?_
  refine zr_iload h0 dL_flip_4 rfl (n := 6) rfl ?_
  refine zr_cTC hC (fun _ => none) ["java/lang/IndexOutOfBoundsException", "java/lang/IllegalArgumentException", "java/lang/IllegalStateException"] (hh := [(0, 9, 12, 35), (0, 9, 16, 13), (0, 9, 20, 15)]) 5 30 h0 htab (⟨⟨by decide, by decide, zw_281, by decide +kernel⟩, ⟨⟨by decide, by decide, zw_106, by decide +kernel⟩, ⟨⟨by decide, by decide, zw_107, by decide +kernel⟩, trivial⟩⟩⟩) (fun x hx => zk_VT0 h0 zcX5 (zcl_ex hx) (fun l D z0 hlt => kX5_flip l D z0 hlt a0 a1 a2 a3 a4 S x (zcl_of hx)) htab.fl zw_464 zw_465 zw_466 zw_1 zw_467 rfl zyX5_flip (As := [.int a1, .int a2, .int a3, .int a4]) (st := []) rfl (by decide) rfl (Nat.le_of_ble_eq_true rfl) (by decide) dL_flip_6) rfl rfl (n := 9) rfl (fun j q E h n9 a hq hn => ?_) (fun x => ?_)
  · match j, hq, hn with
    | 0, hq, hn =>
      cases hq
      refine zr_astore [(0, .ref a0), (1, .int a1), (2, .int a2), (3, .int a3), (4, .int a4), (5, .ref a)] h0 dL_flip_12 (by decide) rfl (n := 14) rfl ?_
      refine zr_iconst (1 : Int32) h0 (by decide) dL_flip_14 (n := 15) rfl ?_
      exact zr_iretT h0 rfl dL_flip_15 (hE _ _ _) (by decide) (by decide)
    | 1, hq, hn =>
      cases hq
      refine zr_astore [(0, .ref a0), (1, .int a1), (2, .int a2), (3, .int a3), (4, .int a4), (5, .ref a)] h0 dL_flip_16 (by decide) rfl (n := 18) rfl ?_
      refine zr_iconst (2 : Int32) h0 (by decide) dL_flip_18 (n := 19) rfl ?_
      exact zr_iretT h0 rfl dL_flip_19 (hE _ _ _) (by decide) (by decide)
    | 2, hq, hn =>
      cases hq
      refine zr_astore [(0, .ref a0), (1, .int a1), (2, .int a2), (3, .int a3), (4, .int a4), (5, .ref a)] h0 dL_flip_20 (by decide) rfl (n := 22) rfl ?_
      refine zr_iconst (3 : Int32) h0 (by decide) dL_flip_22 (n := 23) rfl ?_
      exact zr_iretT h0 rfl dL_flip_23 (hE _ _ _) (by decide) (by decide)
    | j + 3, hq, hn => simp at hq
  refine zr_goto (tgt := 24) h0 dL_flip_9 (by decide) ?_
  refine zr_iconst (0 : Int32) h0 (by decide) dL_flip_24 (n := 25) rfl ?_
  exact zr_iretT h0 rfl dL_flip_25 (fun h => hE _ _ _ h) (by decide) (by decide)
theorem kL_flip (l : Launch) (D : ZD) (z0 : Nat) (hlt : l.stackTraces = false) (a0 : Nat) (a1 : Int32) (a2 : Int32) (a3 : Int32) (a4 : Int32) (S : ZS) (x : Int32 × ZH) (hf : fL_flip a0 a1 a2 a3 a4 S = some x) : zMetW l D z0 yL_flip cL_flip 6 [(0, 9, 12, 35), (0, 9, 16, 13), (0, 9, 20, 15)] rmL_flip [.ref a0, .int a1, .int a2, .int a3, .int a4] S x.1 x.2 :=
  zMetW_of hlt (by decide) (Nat.le_of_ble_eq_true rfl) (fun G h0 htab hE => wL_flip a0 a1 a2 a3 a4 S h0 htab (fun o => o = some x) (fun h => nomatch h) (fun k h n hh => by cases hh; exact hE n)) hf
theorem dL_reduce_0 : decode cL_reduce 0 = .ok (.aload_n 2, 1) := by decide +kernel
theorem dL_reduce_1 : decode cL_reduce 1 = .ok (.iconst 0, 1) := by decide +kernel
theorem dL_reduce_2 : decode cL_reduce 2 = .ok (.aload_n 0, 1) := by decide +kernel
theorem dL_reduce_3 : decode cL_reduce 3 = .ok (.iload_n 1, 1) := by decide +kernel
theorem dL_reduce_4 : decode cL_reduce 4 = .ok (.invokevirtual 60, 3) := by decide +kernel
theorem dL_reduce_7 : decode cL_reduce 7 = .ok (.i2l, 1) := by decide +kernel
theorem dL_reduce_8 : decode cL_reduce 8 = .ok (.lastore, 1) := by decide +kernel
theorem dL_reduce_9 : decode cL_reduce 9 = .ok (.goto 6, 3) := by decide +kernel
theorem dL_reduce_12 : decode cL_reduce 12 = .ok (.astore_n 3, 1) := by decide +kernel
theorem dL_reduce_13 : decode cL_reduce 13 = .ok (.iconst 1, 1) := by decide +kernel
theorem dL_reduce_14 : decode cL_reduce 14 = .ok (.ireturn, 1) := by decide +kernel
theorem dL_reduce_15 : decode cL_reduce 15 = .ok (.iconst 0, 1) := by decide +kernel
theorem dL_reduce_16 : decode cL_reduce 16 = .ok (.ireturn, 1) := by decide +kernel
abbrev rmL_reduce : Room := { frames := 8, cells := 1, slots := 6, locals := 171 }
theorem zyL_reduce : zyOK yL_reduce 3 := ⟨by decide +kernel, by decide +kernel, by decide +kernel⟩
set_option maxHeartbeats 4000000 in
set_option maxRecDepth 100000 in
theorem wL_reduce {G : ZG} (a0 : Nat) (a1 : Int32) (a2 : Nat) (S : ZS) (h0 : zFix G cL_reduce RL 4 (some .int) rmL_reduce) (htab : zTabIs G [(0, 9, 12, 35)]) (C : Option (Int32 × ZH) → Prop) (hC : ¬ C none) (hE : ∀ (k : Int32) (h : ZH) (n : Nat), C (some (k, h)) → zEndT G (some (.int k)) (h, n) rmL_reduce) : zV G 4 S 0 0 0 [(0, .ref a0), (1, .int a1), (2, .ref a2)] [] (C (fL_reduce a0 a1 a2 S)) := by
  unfold fL_reduce
  refine zr_aload_n h0 dL_reduce_0 rfl (n := 1) rfl ?_
  refine zr_iconst (0 : Int32) h0 (by decide) dL_reduce_1 (n := 2) rfl ?_
  refine zr_aload_n h0 dL_reduce_2 rfl (n := 3) rfl ?_
  refine zr_iload_n h0 dL_reduce_3 rfl (n := 4) rfl ?_
  refine zr_cTC hC (fun v => some (.int v)) ["java/lang/IndexOutOfBoundsException"] (hh := [(0, 9, 12, 35)]) 1 6 h0 htab (⟨⟨by decide, by decide, zw_281, by decide +kernel⟩, trivial⟩) (fun x hx => zk_VT0 h0 zcX5 (zcl_ex hx) (fun l D z0 hlt => kX5_reduce l D z0 hlt a0 a1 S x (zcl_of hx)) htab.fl zw_505 zw_506 zw_507 zw_1 zw_508 rfl zyX5_reduce (As := [.int a1]) (st := [.int (0 : Int32), .ref a2]) rfl (by decide) rfl (Nat.le_of_ble_eq_true rfl) (by decide) dL_reduce_4) rfl rfl (n := 7) rfl (fun j q E h n9 a hq hn => ?_) (fun x => ?_)
  · match j, hq, hn with
    | 0, hq, hn =>
      cases hq
      refine zr_astore_n [(0, .ref a0), (1, .int a1), (2, .ref a2), (3, .ref a)] h0 dL_reduce_12 (by decide) rfl (n := 13) rfl ?_
      refine zr_iconst (1 : Int32) h0 (by decide) dL_reduce_13 (n := 14) rfl ?_
      exact zr_iretT h0 rfl dL_reduce_14 (hE _ _ _) (by decide) (by decide)
    | j + 1, hq, hn => simp at hq
  refine zr_i2l h0 dL_reduce_7 (n := 8) rfl ?_
  refine zr_lastore C hC h0 dL_reduce_8 (n := 9) rfl (fun S2 => ?_)
  refine zr_goto (tgt := 15) h0 dL_reduce_9 (by decide) ?_
  refine zr_iconst (0 : Int32) h0 (by decide) dL_reduce_15 (n := 16) rfl ?_
  exact zr_iretT h0 rfl dL_reduce_16 (fun h => hE _ _ _ h) (by decide) (by decide)
theorem kL_reduce (l : Launch) (D : ZD) (z0 : Nat) (hlt : l.stackTraces = false) (a0 : Nat) (a1 : Int32) (a2 : Nat) (S : ZS) (x : Int32 × ZH) (hf : fL_reduce a0 a1 a2 S = some x) : zMetW l D z0 yL_reduce cL_reduce 4 [(0, 9, 12, 35)] rmL_reduce [.ref a0, .int a1, .ref a2] S x.1 x.2 :=
  zMetW_of hlt (by decide) (Nat.le_of_ble_eq_true rfl) (fun G h0 htab hE => wL_reduce a0 a1 a2 S h0 htab (fun o => o = some x) (fun h => nomatch h) (fun k h n hh => by cases hh; exact hE n)) hf
theorem dL_walk_0 : decode cL_walk 0 = .ok (.aload 4, 2) := by decide +kernel
theorem dL_walk_2 : decode cL_walk 2 = .ok (.iconst 0, 1) := by decide +kernel
theorem dL_walk_3 : decode cL_walk 3 = .ok (.aload_n 0, 1) := by decide +kernel
theorem dL_walk_4 : decode cL_walk 4 = .ok (.iload_n 1, 1) := by decide +kernel
theorem dL_walk_5 : decode cL_walk 5 = .ok (.iload_n 2, 1) := by decide +kernel
theorem dL_walk_6 : decode cL_walk 6 = .ok (.iload_n 3, 1) := by decide +kernel
theorem dL_walk_7 : decode cL_walk 7 = .ok (.invokevirtual 63, 3) := by decide +kernel
theorem dL_walk_10 : decode cL_walk 10 = .ok (.i2l, 1) := by decide +kernel
theorem dL_walk_11 : decode cL_walk 11 = .ok (.lastore, 1) := by decide +kernel
theorem dL_walk_12 : decode cL_walk 12 = .ok (.goto 11, 3) := by decide +kernel
theorem dL_walk_15 : decode cL_walk 15 = .ok (.astore 5, 2) := by decide +kernel
theorem dL_walk_17 : decode cL_walk 17 = .ok (.iconst 1, 1) := by decide +kernel
theorem dL_walk_18 : decode cL_walk 18 = .ok (.ireturn, 1) := by decide +kernel
theorem dL_walk_19 : decode cL_walk 19 = .ok (.astore 5, 2) := by decide +kernel
theorem dL_walk_21 : decode cL_walk 21 = .ok (.iconst 2, 1) := by decide +kernel
theorem dL_walk_22 : decode cL_walk 22 = .ok (.ireturn, 1) := by decide +kernel
theorem dL_walk_23 : decode cL_walk 23 = .ok (.iconst 0, 1) := by decide +kernel
theorem dL_walk_24 : decode cL_walk 24 = .ok (.ireturn, 1) := by decide +kernel
abbrev rmL_walk : Room := { frames := 8, cells := 2, slots := 12, locals := 202 }
theorem zyL_walk : zyOK yL_walk 5 := ⟨by decide +kernel, by decide +kernel, by decide +kernel⟩
set_option maxHeartbeats 4000000 in
set_option maxRecDepth 100000 in
theorem wL_walk {G : ZG} (a0 : Nat) (a1 : Int32) (a2 : Int32) (a3 : Int32) (a4 : Nat) (S : ZS) (h0 : zFix G cL_walk RL 6 (some .int) rmL_walk) (htab : zTabIs G [(0, 12, 15, 35), (0, 12, 19, 13)]) (C : Option (Int32 × ZH) → Prop) (hC : ¬ C none) (hE : ∀ (k : Int32) (h : ZH) (n : Nat), C (some (k, h)) → zEndT G (some (.int k)) (h, n) rmL_walk) : zV G 6 S 0 0 0 [(0, .ref a0), (1, .int a1), (2, .int a2), (3, .int a3), (4, .ref a4)] [] (C (fL_walk a0 a1 a2 a3 a4 S)) := by
  unfold fL_walk
  refine zr_aload h0 dL_walk_0 rfl (n := 2) rfl ?_
  refine zr_iconst (0 : Int32) h0 (by decide) dL_walk_2 (n := 3) rfl ?_
  refine zr_aload_n h0 dL_walk_3 rfl (n := 4) rfl ?_
  refine zr_iload_n h0 dL_walk_4 rfl (n := 5) rfl ?_
  refine zr_iload_n h0 dL_walk_5 rfl (n := 6) rfl ?_
  refine zr_iload_n h0 dL_walk_6 rfl (n := 7) rfl ?_
  refine zr_cTC hC (fun v => some (.int v)) ["java/lang/IndexOutOfBoundsException", "java/lang/IllegalArgumentException"] (hh := [(0, 12, 15, 35), (0, 12, 19, 13)]) 2 12 h0 htab (⟨⟨by decide, by decide, zw_281, by decide +kernel⟩, ⟨⟨by decide, by decide, zw_106, by decide +kernel⟩, trivial⟩⟩) (fun x hx => zk_VT0 h0 zcX5 (zcl_ex hx) (fun l D z0 hlt => kX5_walk l D z0 hlt a0 a1 a2 a3 S x (zcl_of hx)) htab.fl zw_536 zw_537 zw_538 zw_1 zw_539 rfl zyX5_walk (As := [.int a1, .int a2, .int a3]) (st := [.int (0 : Int32), .ref a4]) rfl (by decide) rfl (Nat.le_of_ble_eq_true rfl) (by decide) dL_walk_7) rfl rfl (n := 10) rfl (fun j q E h n9 a hq hn => ?_) (fun x => ?_)
  · match j, hq, hn with
    | 0, hq, hn =>
      cases hq
      refine zr_astore [(0, .ref a0), (1, .int a1), (2, .int a2), (3, .int a3), (4, .ref a4), (5, .ref a)] h0 dL_walk_15 (by decide) rfl (n := 17) rfl ?_
      refine zr_iconst (1 : Int32) h0 (by decide) dL_walk_17 (n := 18) rfl ?_
      exact zr_iretT h0 rfl dL_walk_18 (hE _ _ _) (by decide) (by decide)
    | 1, hq, hn =>
      cases hq
      refine zr_astore [(0, .ref a0), (1, .int a1), (2, .int a2), (3, .int a3), (4, .ref a4), (5, .ref a)] h0 dL_walk_19 (by decide) rfl (n := 21) rfl ?_
      refine zr_iconst (2 : Int32) h0 (by decide) dL_walk_21 (n := 22) rfl ?_
      exact zr_iretT h0 rfl dL_walk_22 (hE _ _ _) (by decide) (by decide)
    | j + 2, hq, hn => simp at hq
  refine zr_i2l h0 dL_walk_10 (n := 11) rfl ?_
  refine zr_lastore C hC h0 dL_walk_11 (n := 12) rfl (fun S2 => ?_)
  refine zr_goto (tgt := 23) h0 dL_walk_12 (by decide) ?_
  refine zr_iconst (0 : Int32) h0 (by decide) dL_walk_23 (n := 24) rfl ?_
  exact zr_iretT h0 rfl dL_walk_24 (fun h => hE _ _ _ h) (by decide) (by decide)
theorem kL_walk (l : Launch) (D : ZD) (z0 : Nat) (hlt : l.stackTraces = false) (a0 : Nat) (a1 : Int32) (a2 : Int32) (a3 : Int32) (a4 : Nat) (S : ZS) (x : Int32 × ZH) (hf : fL_walk a0 a1 a2 a3 a4 S = some x) : zMetW l D z0 yL_walk cL_walk 6 [(0, 12, 15, 35), (0, 12, 19, 13)] rmL_walk [.ref a0, .int a1, .int a2, .int a3, .ref a4] S x.1 x.2 :=
  zMetW_of hlt (by decide) (Nat.le_of_ble_eq_true rfl) (fun G h0 htab hE => wL_walk a0 a1 a2 a3 a4 S h0 htab (fun o => o = some x) (fun h => nomatch h) (fun k h n hh => by cases hh; exact hE n)) hf
theorem dL_at_0 : decode cL_at 0 = .ok (.aload 5, 2) := by decide +kernel
theorem dL_at_2 : decode cL_at 2 = .ok (.iconst 0, 1) := by decide +kernel
theorem dL_at_3 : decode cL_at 3 = .ok (.aload_n 0, 1) := by decide +kernel
theorem dL_at_4 : decode cL_at 4 = .ok (.iload_n 1, 1) := by decide +kernel
theorem dL_at_5 : decode cL_at 5 = .ok (.iload_n 2, 1) := by decide +kernel
theorem dL_at_6 : decode cL_at 6 = .ok (.iload_n 3, 1) := by decide +kernel
theorem dL_at_7 : decode cL_at 7 = .ok (.iload 4, 2) := by decide +kernel
theorem dL_at_9 : decode cL_at 9 = .ok (.invokevirtual 66, 3) := by decide +kernel
theorem dL_at_12 : decode cL_at 12 = .ok (.i2l, 1) := by decide +kernel
theorem dL_at_13 : decode cL_at 13 = .ok (.lastore, 1) := by decide +kernel
theorem dL_at_14 : decode cL_at 14 = .ok (.goto 7, 3) := by decide +kernel
theorem dL_at_17 : decode cL_at 17 = .ok (.astore 6, 2) := by decide +kernel
theorem dL_at_19 : decode cL_at 19 = .ok (.iconst 1, 1) := by decide +kernel
theorem dL_at_20 : decode cL_at 20 = .ok (.ireturn, 1) := by decide +kernel
theorem dL_at_21 : decode cL_at 21 = .ok (.iconst 0, 1) := by decide +kernel
theorem dL_at_22 : decode cL_at 22 = .ok (.ireturn, 1) := by decide +kernel
abbrev rmL_at : Room := { frames := 8, cells := 2, slots := 12, locals := 146 }
theorem zyL_at : zyOK yL_at 6 := ⟨by decide +kernel, by decide +kernel, by decide +kernel⟩
set_option maxHeartbeats 4000000 in
set_option maxRecDepth 100000 in
theorem wL_at {G : ZG} (a0 : Nat) (a1 : Int32) (a2 : Int32) (a3 : Int32) (a4 : Int32) (a5 : Nat) (S : ZS) (h0 : zFix G cL_at RL 7 (some .int) rmL_at) (htab : zTabIs G [(0, 14, 17, 35)]) (C : Option (Int32 × ZH) → Prop) (hC : ¬ C none) (hE : ∀ (k : Int32) (h : ZH) (n : Nat), C (some (k, h)) → zEndT G (some (.int k)) (h, n) rmL_at) : zV G 7 S 0 0 0 [(0, .ref a0), (1, .int a1), (2, .int a2), (3, .int a3), (4, .int a4), (5, .ref a5)] [] (C (fL_at a0 a1 a2 a3 a4 a5 S)) := by
  unfold fL_at
  refine zr_aload h0 dL_at_0 rfl (n := 2) rfl ?_
  refine zr_iconst (0 : Int32) h0 (by decide) dL_at_2 (n := 3) rfl ?_
  refine zr_aload_n h0 dL_at_3 rfl (n := 4) rfl ?_
  refine zr_iload_n h0 dL_at_4 rfl (n := 5) rfl ?_
  refine zr_iload_n h0 dL_at_5 rfl (n := 6) rfl ?_
  refine zr_iload_n h0 dL_at_6 rfl (n := 7) rfl ?_
  refine zr_iload h0 dL_at_7 rfl (n := 9) rfl ?_
  refine zr_cTC hC (fun v => some (.int v)) ["java/lang/IndexOutOfBoundsException"] (hh := [(0, 14, 17, 35)]) 2 12 h0 htab (⟨⟨by decide, by decide, zw_281, by decide +kernel⟩, trivial⟩) (fun x hx => zk_VT0 h0 zcX5 (zcl_ex hx) (fun l D z0 hlt => kX5_at l D z0 hlt a0 a1 a2 a3 a4 S x (zcl_of hx)) htab.fl zw_562 zw_563 zw_564 zw_1 zw_565 rfl zyX5_at (As := [.int a1, .int a2, .int a3, .int a4]) (st := [.int (0 : Int32), .ref a5]) rfl (by decide) rfl (Nat.le_of_ble_eq_true rfl) (by decide) dL_at_9) rfl rfl (n := 12) rfl (fun j q E h n9 a hq hn => ?_) (fun x => ?_)
  · match j, hq, hn with
    | 0, hq, hn =>
      cases hq
      refine zr_astore [(0, .ref a0), (1, .int a1), (2, .int a2), (3, .int a3), (4, .int a4), (5, .ref a5), (6, .ref a)] h0 dL_at_17 (by decide) rfl (n := 19) rfl ?_
      refine zr_iconst (1 : Int32) h0 (by decide) dL_at_19 (n := 20) rfl ?_
      exact zr_iretT h0 rfl dL_at_20 (hE _ _ _) (by decide) (by decide)
    | j + 1, hq, hn => simp at hq
  refine zr_i2l h0 dL_at_12 (n := 13) rfl ?_
  refine zr_lastore C hC h0 dL_at_13 (n := 14) rfl (fun S2 => ?_)
  refine zr_goto (tgt := 21) h0 dL_at_14 (by decide) ?_
  refine zr_iconst (0 : Int32) h0 (by decide) dL_at_21 (n := 22) rfl ?_
  exact zr_iretT h0 rfl dL_at_22 (fun h => hE _ _ _ h) (by decide) (by decide)
theorem kL_at (l : Launch) (D : ZD) (z0 : Nat) (hlt : l.stackTraces = false) (a0 : Nat) (a1 : Int32) (a2 : Int32) (a3 : Int32) (a4 : Int32) (a5 : Nat) (S : ZS) (x : Int32 × ZH) (hf : fL_at a0 a1 a2 a3 a4 a5 S = some x) : zMetW l D z0 yL_at cL_at 7 [(0, 14, 17, 35)] rmL_at [.ref a0, .int a1, .int a2, .int a3, .int a4, .ref a5] S x.1 x.2 :=
  zMetW_of hlt (by decide) (Nat.le_of_ble_eq_true rfl) (fun G h0 htab hE => wL_at a0 a1 a2 a3 a4 a5 S h0 htab (fun o => o = some x) (fun h => nomatch h) (fun k h n hh => by cases hh; exact hE n)) hf
theorem dL_flattening_0 : decode cL_flattening 0 = .ok (.aload_n 3, 1) := by decide +kernel
theorem dL_flattening_1 : decode cL_flattening 1 = .ok (.iconst 0, 1) := by decide +kernel
theorem dL_flattening_2 : decode cL_flattening 2 = .ok (.aload_n 0, 1) := by decide +kernel
theorem dL_flattening_3 : decode cL_flattening 3 = .ok (.iload_n 1, 1) := by decide +kernel
theorem dL_flattening_4 : decode cL_flattening 4 = .ok (.iload_n 2, 1) := by decide +kernel
theorem dL_flattening_5 : decode cL_flattening 5 = .ok (.invokevirtual 69, 3) := by decide +kernel
theorem dL_flattening_8 : decode cL_flattening 8 = .ok (.i2l, 1) := by decide +kernel
theorem dL_flattening_9 : decode cL_flattening 9 = .ok (.lastore, 1) := by decide +kernel
theorem dL_flattening_10 : decode cL_flattening 10 = .ok (.goto 7, 3) := by decide +kernel
theorem dL_flattening_13 : decode cL_flattening 13 = .ok (.astore 4, 2) := by decide +kernel
theorem dL_flattening_15 : decode cL_flattening 15 = .ok (.iconst 1, 1) := by decide +kernel
theorem dL_flattening_16 : decode cL_flattening 16 = .ok (.ireturn, 1) := by decide +kernel
theorem dL_flattening_17 : decode cL_flattening 17 = .ok (.iconst 0, 1) := by decide +kernel
theorem dL_flattening_18 : decode cL_flattening 18 = .ok (.ireturn, 1) := by decide +kernel
abbrev rmL_flattening : Room := { frames := 8, cells := 2, slots := 12, locals := 171 }
theorem zyL_flattening : zyOK yL_flattening 4 := ⟨by decide +kernel, by decide +kernel, by decide +kernel⟩
set_option maxHeartbeats 4000000 in
set_option maxRecDepth 100000 in
theorem wL_flattening {G : ZG} (a0 : Nat) (a1 : Int32) (a2 : Int32) (a3 : Nat) (S : ZS) (h0 : zFix G cL_flattening RL 5 (some .int) rmL_flattening) (htab : zTabIs G [(0, 10, 13, 35)]) (C : Option (Int32 × ZH) → Prop) (hC : ¬ C none) (hE : ∀ (k : Int32) (h : ZH) (n : Nat), C (some (k, h)) → zEndT G (some (.int k)) (h, n) rmL_flattening) : zV G 5 S 0 0 0 [(0, .ref a0), (1, .int a1), (2, .int a2), (3, .ref a3)] [] (C (fL_flattening a0 a1 a2 a3 S)) := by
  unfold fL_flattening
  refine zr_aload_n h0 dL_flattening_0 rfl (n := 1) rfl ?_
  refine zr_iconst (0 : Int32) h0 (by decide) dL_flattening_1 (n := 2) rfl ?_
  refine zr_aload_n h0 dL_flattening_2 rfl (n := 3) rfl ?_
  refine zr_iload_n h0 dL_flattening_3 rfl (n := 4) rfl ?_
  refine zr_iload_n h0 dL_flattening_4 rfl (n := 5) rfl ?_
  refine zr_cTC hC (fun v => some (.int v)) ["java/lang/IndexOutOfBoundsException"] (hh := [(0, 10, 13, 35)]) 2 12 h0 htab (⟨⟨by decide, by decide, zw_281, by decide +kernel⟩, trivial⟩) (fun x hx => zk_VT0 h0 zcX5 (zcl_ex hx) (fun l D z0 hlt => kX5_flattening l D z0 hlt a0 a1 a2 S x (zcl_of hx)) htab.fl zw_569 zw_570 zw_571 zw_1 zw_572 rfl zyX5_flattening (As := [.int a1, .int a2]) (st := [.int (0 : Int32), .ref a3]) rfl (by decide) rfl (Nat.le_of_ble_eq_true rfl) (by decide) dL_flattening_5) rfl rfl (n := 8) rfl (fun j q E h n9 a hq hn => ?_) (fun x => ?_)
  · match j, hq, hn with
    | 0, hq, hn =>
      cases hq
      refine zr_astore [(0, .ref a0), (1, .int a1), (2, .int a2), (3, .ref a3), (4, .ref a)] h0 dL_flattening_13 (by decide) rfl (n := 15) rfl ?_
      refine zr_iconst (1 : Int32) h0 (by decide) dL_flattening_15 (n := 16) rfl ?_
      exact zr_iretT h0 rfl dL_flattening_16 (hE _ _ _) (by decide) (by decide)
    | j + 1, hq, hn => simp at hq
  refine zr_i2l h0 dL_flattening_8 (n := 9) rfl ?_
  refine zr_lastore C hC h0 dL_flattening_9 (n := 10) rfl (fun S2 => ?_)
  refine zr_goto (tgt := 17) h0 dL_flattening_10 (by decide) ?_
  refine zr_iconst (0 : Int32) h0 (by decide) dL_flattening_17 (n := 18) rfl ?_
  exact zr_iretT h0 rfl dL_flattening_18 (fun h => hE _ _ _ h) (by decide) (by decide)
theorem kL_flattening (l : Launch) (D : ZD) (z0 : Nat) (hlt : l.stackTraces = false) (a0 : Nat) (a1 : Int32) (a2 : Int32) (a3 : Nat) (S : ZS) (x : Int32 × ZH) (hf : fL_flattening a0 a1 a2 a3 S = some x) : zMetW l D z0 yL_flattening cL_flattening 5 [(0, 10, 13, 35)] rmL_flattening [.ref a0, .int a1, .int a2, .ref a3] S x.1 x.2 :=
  zMetW_of hlt (by decide) (Nat.le_of_ble_eq_true rfl) (fun G h0 htab hE => wL_flattening a0 a1 a2 a3 S h0 htab (fun o => o = some x) (fun h => nomatch h) (fun k h n hh => by cases hh; exact hE n)) hf
theorem dL_bound_0 : decode cL_bound 0 = .ok (.aload_n 2, 1) := by decide +kernel
theorem dL_bound_1 : decode cL_bound 1 = .ok (.iconst 0, 1) := by decide +kernel
theorem dL_bound_2 : decode cL_bound 2 = .ok (.aload_n 0, 1) := by decide +kernel
theorem dL_bound_3 : decode cL_bound 3 = .ok (.iload_n 1, 1) := by decide +kernel
theorem dL_bound_4 : decode cL_bound 4 = .ok (.invokevirtual 72, 3) := by decide +kernel
theorem dL_bound_7 : decode cL_bound 7 = .ok (.i2l, 1) := by decide +kernel
theorem dL_bound_8 : decode cL_bound 8 = .ok (.lastore, 1) := by decide +kernel
theorem dL_bound_9 : decode cL_bound 9 = .ok (.goto 6, 3) := by decide +kernel
theorem dL_bound_12 : decode cL_bound 12 = .ok (.astore_n 3, 1) := by decide +kernel
theorem dL_bound_13 : decode cL_bound 13 = .ok (.iconst 1, 1) := by decide +kernel
theorem dL_bound_14 : decode cL_bound 14 = .ok (.ireturn, 1) := by decide +kernel
theorem dL_bound_15 : decode cL_bound 15 = .ok (.iconst 0, 1) := by decide +kernel
theorem dL_bound_16 : decode cL_bound 16 = .ok (.ireturn, 1) := by decide +kernel
abbrev rmL_bound : Room := { frames := 8, cells := 1, slots := 6, locals := 192 }
theorem zyL_bound : zyOK yL_bound 3 := ⟨by decide +kernel, by decide +kernel, by decide +kernel⟩
set_option maxHeartbeats 4000000 in
set_option maxRecDepth 100000 in
theorem wL_bound {G : ZG} (a0 : Nat) (a1 : Int32) (a2 : Nat) (S : ZS) (h0 : zFix G cL_bound RL 4 (some .int) rmL_bound) (htab : zTabIs G [(0, 9, 12, 35)]) (C : Option (Int32 × ZH) → Prop) (hC : ¬ C none) (hE : ∀ (k : Int32) (h : ZH) (n : Nat), C (some (k, h)) → zEndT G (some (.int k)) (h, n) rmL_bound) : zV G 4 S 0 0 0 [(0, .ref a0), (1, .int a1), (2, .ref a2)] [] (C (fL_bound a0 a1 a2 S)) := by
  unfold fL_bound
  refine zr_aload_n h0 dL_bound_0 rfl (n := 1) rfl ?_
  refine zr_iconst (0 : Int32) h0 (by decide) dL_bound_1 (n := 2) rfl ?_
  refine zr_aload_n h0 dL_bound_2 rfl (n := 3) rfl ?_
  refine zr_iload_n h0 dL_bound_3 rfl (n := 4) rfl ?_
  refine zr_cTC hC (fun v => some (.int v)) ["java/lang/IndexOutOfBoundsException"] (hh := [(0, 9, 12, 35)]) 1 6 h0 htab (⟨⟨by decide, by decide, zw_281, by decide +kernel⟩, trivial⟩) (fun x hx => zk_VT0 h0 zcX5 (zcl_ex hx) (fun l D z0 hlt => kX5_bound l D z0 hlt a0 a1 S x (zcl_of hx)) htab.fl zw_612 zw_613 zw_614 zw_1 zw_615 rfl zyX5_bound (As := [.int a1]) (st := [.int (0 : Int32), .ref a2]) rfl (by decide) rfl (Nat.le_of_ble_eq_true rfl) (by decide) dL_bound_4) rfl rfl (n := 7) rfl (fun j q E h n9 a hq hn => ?_) (fun x => ?_)
  · match j, hq, hn with
    | 0, hq, hn =>
      cases hq
      refine zr_astore_n [(0, .ref a0), (1, .int a1), (2, .ref a2), (3, .ref a)] h0 dL_bound_12 (by decide) rfl (n := 13) rfl ?_
      refine zr_iconst (1 : Int32) h0 (by decide) dL_bound_13 (n := 14) rfl ?_
      exact zr_iretT h0 rfl dL_bound_14 (hE _ _ _) (by decide) (by decide)
    | j + 1, hq, hn => simp at hq
  refine zr_i2l h0 dL_bound_7 (n := 8) rfl ?_
  refine zr_lastore C hC h0 dL_bound_8 (n := 9) rfl (fun S2 => ?_)
  refine zr_goto (tgt := 15) h0 dL_bound_9 (by decide) ?_
  refine zr_iconst (0 : Int32) h0 (by decide) dL_bound_15 (n := 16) rfl ?_
  exact zr_iretT h0 rfl dL_bound_16 (fun h => hE _ _ _ h) (by decide) (by decide)
theorem kL_bound (l : Launch) (D : ZD) (z0 : Nat) (hlt : l.stackTraces = false) (a0 : Nat) (a1 : Int32) (a2 : Nat) (S : ZS) (x : Int32 × ZH) (hf : fL_bound a0 a1 a2 S = some x) : zMetW l D z0 yL_bound cL_bound 4 [(0, 9, 12, 35)] rmL_bound [.ref a0, .int a1, .ref a2] S x.1 x.2 :=
  zMetW_of hlt (by decide) (Nat.le_of_ble_eq_true rfl) (fun G h0 htab hE => wL_bound a0 a1 a2 S h0 htab (fun o => o = some x) (fun h => nomatch h) (fun k h n hh => by cases hh; exact hE n)) hf
theorem dL_least_0 : decode cL_least 0 = .ok (.aload_n 2, 1) := by decide +kernel
theorem dL_least_1 : decode cL_least 1 = .ok (.iconst 0, 1) := by decide +kernel
theorem dL_least_2 : decode cL_least 2 = .ok (.aload_n 0, 1) := by decide +kernel
theorem dL_least_3 : decode cL_least 3 = .ok (.iload_n 1, 1) := by decide +kernel
theorem dL_least_4 : decode cL_least 4 = .ok (.invokevirtual 75, 3) := by decide +kernel
theorem dL_least_7 : decode cL_least 7 = .ok (.i2l, 1) := by decide +kernel
theorem dL_least_8 : decode cL_least 8 = .ok (.lastore, 1) := by decide +kernel
theorem dL_least_9 : decode cL_least 9 = .ok (.goto 9, 3) := by decide +kernel
theorem dL_least_12 : decode cL_least 12 = .ok (.astore_n 3, 1) := by decide +kernel
theorem dL_least_13 : decode cL_least 13 = .ok (.iconst 1, 1) := by decide +kernel
theorem dL_least_14 : decode cL_least 14 = .ok (.ireturn, 1) := by decide +kernel
theorem dL_least_15 : decode cL_least 15 = .ok (.astore_n 3, 1) := by decide +kernel
theorem dL_least_16 : decode cL_least 16 = .ok (.iconst 2, 1) := by decide +kernel
theorem dL_least_17 : decode cL_least 17 = .ok (.ireturn, 1) := by decide +kernel
theorem dL_least_18 : decode cL_least 18 = .ok (.iconst 0, 1) := by decide +kernel
theorem dL_least_19 : decode cL_least 19 = .ok (.ireturn, 1) := by decide +kernel
abbrev rmL_least : Room := { frames := 19, cells := 2, slots := 12, locals := 452 }
theorem zyL_least : zyOK yL_least 3 := ⟨by decide +kernel, by decide +kernel, by decide +kernel⟩
set_option maxHeartbeats 4000000 in
set_option maxRecDepth 100000 in
theorem wL_least {G : ZG} (a0 : Nat) (a1 : Int32) (a2 : Nat) (S : ZS) (h0 : zFix G cL_least RL 4 (some .int) rmL_least) (htab : zTabIs G [(0, 9, 12, 35), (0, 9, 15, 15)]) (C : Option (Int32 × ZH) → Prop) (hC : ¬ C none) (hE : ∀ (k : Int32) (h : ZH) (n : Nat), C (some (k, h)) → zEndT G (some (.int k)) (h, n) rmL_least) : zV G 4 S 0 0 0 [(0, .ref a0), (1, .int a1), (2, .ref a2)] [] (C (fL_least a0 a1 a2 S)) := by
  unfold fL_least
  refine zr_aload_n h0 dL_least_0 rfl (n := 1) rfl ?_
  refine zr_iconst (0 : Int32) h0 (by decide) dL_least_1 (n := 2) rfl ?_
  refine zr_aload_n h0 dL_least_2 rfl (n := 3) rfl ?_
  refine zr_iload_n h0 dL_least_3 rfl (n := 4) rfl ?_
  refine zr_cTC hC (fun v => some (.int v)) ["java/lang/IndexOutOfBoundsException", "java/lang/IllegalStateException"] (hh := [(0, 9, 12, 35), (0, 9, 15, 15)]) 2 12 h0 htab (⟨⟨by decide, by decide, zw_281, by decide +kernel⟩, ⟨⟨by decide, by decide, zw_107, by decide +kernel⟩, trivial⟩⟩) (fun x hx => zk_VT0 h0 zcX5 (zcl_ex hx) (fun l D z0 hlt => kX5_least l D z0 hlt a0 a1 S x (zcl_of hx)) htab.fl zw_626 zw_627 zw_628 zw_1 zw_629 rfl zyX5_least (As := [.int a1]) (st := [.int (0 : Int32), .ref a2]) rfl (by decide) rfl (Nat.le_of_ble_eq_true rfl) (by decide) dL_least_4) rfl rfl (n := 7) rfl (fun j q E h n9 a hq hn => ?_) (fun x => ?_)
  · match j, hq, hn with
    | 0, hq, hn =>
      cases hq
      refine zr_astore_n [(0, .ref a0), (1, .int a1), (2, .ref a2), (3, .ref a)] h0 dL_least_12 (by decide) rfl (n := 13) rfl ?_
      refine zr_iconst (1 : Int32) h0 (by decide) dL_least_13 (n := 14) rfl ?_
      exact zr_iretT h0 rfl dL_least_14 (hE _ _ _) (by decide) (by decide)
    | 1, hq, hn =>
      cases hq
      refine zr_astore_n [(0, .ref a0), (1, .int a1), (2, .ref a2), (3, .ref a)] h0 dL_least_15 (by decide) rfl (n := 16) rfl ?_
      refine zr_iconst (2 : Int32) h0 (by decide) dL_least_16 (n := 17) rfl ?_
      exact zr_iretT h0 rfl dL_least_17 (hE _ _ _) (by decide) (by decide)
    | j + 2, hq, hn => simp at hq
  refine zr_i2l h0 dL_least_7 (n := 8) rfl ?_
  refine zr_lastore C hC h0 dL_least_8 (n := 9) rfl (fun S2 => ?_)
  refine zr_goto (tgt := 18) h0 dL_least_9 (by decide) ?_
  refine zr_iconst (0 : Int32) h0 (by decide) dL_least_18 (n := 19) rfl ?_
  exact zr_iretT h0 rfl dL_least_19 (fun h => hE _ _ _ h) (by decide) (by decide)
theorem kL_least (l : Launch) (D : ZD) (z0 : Nat) (hlt : l.stackTraces = false) (a0 : Nat) (a1 : Int32) (a2 : Nat) (S : ZS) (x : Int32 × ZH) (hf : fL_least a0 a1 a2 S = some x) : zMetW l D z0 yL_least cL_least 4 [(0, 9, 12, 35), (0, 9, 15, 15)] rmL_least [.ref a0, .int a1, .ref a2] S x.1 x.2 :=
  zMetW_of hlt (by decide) (Nat.le_of_ble_eq_true rfl) (fun G h0 htab hE => wL_least a0 a1 a2 S h0 htab (fun o => o = some x) (fun h => nomatch h) (fun k h n hh => by cases hh; exact hE n)) hf
theorem dL_leastAnew_0 : decode cL_leastAnew 0 = .ok (.aload_n 2, 1) := by decide +kernel
theorem dL_leastAnew_1 : decode cL_leastAnew 1 = .ok (.iconst 0, 1) := by decide +kernel
theorem dL_leastAnew_2 : decode cL_leastAnew 2 = .ok (.aload_n 0, 1) := by decide +kernel
theorem dL_leastAnew_3 : decode cL_leastAnew 3 = .ok (.iload_n 1, 1) := by decide +kernel
theorem dL_leastAnew_4 : decode cL_leastAnew 4 = .ok (.invokevirtual 78, 3) := by decide +kernel
theorem dL_leastAnew_7 : decode cL_leastAnew 7 = .ok (.i2l, 1) := by decide +kernel
theorem dL_leastAnew_8 : decode cL_leastAnew 8 = .ok (.lastore, 1) := by decide +kernel
theorem dL_leastAnew_9 : decode cL_leastAnew 9 = .ok (.goto 9, 3) := by decide +kernel
theorem dL_leastAnew_12 : decode cL_leastAnew 12 = .ok (.astore_n 3, 1) := by decide +kernel
theorem dL_leastAnew_13 : decode cL_leastAnew 13 = .ok (.iconst 1, 1) := by decide +kernel
theorem dL_leastAnew_14 : decode cL_leastAnew 14 = .ok (.ireturn, 1) := by decide +kernel
theorem dL_leastAnew_15 : decode cL_leastAnew 15 = .ok (.astore_n 3, 1) := by decide +kernel
theorem dL_leastAnew_16 : decode cL_leastAnew 16 = .ok (.iconst 2, 1) := by decide +kernel
theorem dL_leastAnew_17 : decode cL_leastAnew 17 = .ok (.ireturn, 1) := by decide +kernel
theorem dL_leastAnew_18 : decode cL_leastAnew 18 = .ok (.iconst 0, 1) := by decide +kernel
theorem dL_leastAnew_19 : decode cL_leastAnew 19 = .ok (.ireturn, 1) := by decide +kernel
abbrev rmL_leastAnew : Room := { frames := 19, cells := 2, slots := 12, locals := 452 }
theorem zyL_leastAnew : zyOK yL_leastAnew 3 := ⟨by decide +kernel, by decide +kernel, by decide +kernel⟩
set_option maxHeartbeats 4000000 in
set_option maxRecDepth 100000 in
theorem wL_leastAnew {G : ZG} (a0 : Nat) (a1 : Int32) (a2 : Nat) (S : ZS) (h0 : zFix G cL_leastAnew RL 4 (some .int) rmL_leastAnew) (htab : zTabIs G [(0, 9, 12, 35), (0, 9, 15, 15)]) (C : Option (Int32 × ZH) → Prop) (hC : ¬ C none) (hE : ∀ (k : Int32) (h : ZH) (n : Nat), C (some (k, h)) → zEndT G (some (.int k)) (h, n) rmL_leastAnew) : zV G 4 S 0 0 0 [(0, .ref a0), (1, .int a1), (2, .ref a2)] [] (C (fL_leastAnew a0 a1 a2 S)) := by
  unfold fL_leastAnew
  refine zr_aload_n h0 dL_leastAnew_0 rfl (n := 1) rfl ?_
  refine zr_iconst (0 : Int32) h0 (by decide) dL_leastAnew_1 (n := 2) rfl ?_
  refine zr_aload_n h0 dL_leastAnew_2 rfl (n := 3) rfl ?_
  refine zr_iload_n h0 dL_leastAnew_3 rfl (n := 4) rfl ?_
  refine zr_cTC hC (fun v => some (.int v)) ["java/lang/IndexOutOfBoundsException", "java/lang/IllegalStateException"] (hh := [(0, 9, 12, 35), (0, 9, 15, 15)]) 2 12 h0 htab (⟨⟨by decide, by decide, zw_281, by decide +kernel⟩, ⟨⟨by decide, by decide, zw_107, by decide +kernel⟩, trivial⟩⟩) (fun x hx => zk_VT0 h0 zcX5 (zcl_ex hx) (fun l D z0 hlt => kX5_leastAnew l D z0 hlt a0 a1 S x (zcl_of hx)) htab.fl zw_675 zw_676 zw_677 zw_1 zw_678 rfl zyX5_leastAnew (As := [.int a1]) (st := [.int (0 : Int32), .ref a2]) rfl (by decide) rfl (Nat.le_of_ble_eq_true rfl) (by decide) dL_leastAnew_4) rfl rfl (n := 7) rfl (fun j q E h n9 a hq hn => ?_) (fun x => ?_)
  · match j, hq, hn with
    | 0, hq, hn =>
      cases hq
      refine zr_astore_n [(0, .ref a0), (1, .int a1), (2, .ref a2), (3, .ref a)] h0 dL_leastAnew_12 (by decide) rfl (n := 13) rfl ?_
      refine zr_iconst (1 : Int32) h0 (by decide) dL_leastAnew_13 (n := 14) rfl ?_
      exact zr_iretT h0 rfl dL_leastAnew_14 (hE _ _ _) (by decide) (by decide)
    | 1, hq, hn =>
      cases hq
      refine zr_astore_n [(0, .ref a0), (1, .int a1), (2, .ref a2), (3, .ref a)] h0 dL_leastAnew_15 (by decide) rfl (n := 16) rfl ?_
      refine zr_iconst (2 : Int32) h0 (by decide) dL_leastAnew_16 (n := 17) rfl ?_
      exact zr_iretT h0 rfl dL_leastAnew_17 (hE _ _ _) (by decide) (by decide)
    | j + 2, hq, hn => simp at hq
  refine zr_i2l h0 dL_leastAnew_7 (n := 8) rfl ?_
  refine zr_lastore C hC h0 dL_leastAnew_8 (n := 9) rfl (fun S2 => ?_)
  refine zr_goto (tgt := 18) h0 dL_leastAnew_9 (by decide) ?_
  refine zr_iconst (0 : Int32) h0 (by decide) dL_leastAnew_18 (n := 19) rfl ?_
  exact zr_iretT h0 rfl dL_leastAnew_19 (fun h => hE _ _ _ h) (by decide) (by decide)
theorem kL_leastAnew (l : Launch) (D : ZD) (z0 : Nat) (hlt : l.stackTraces = false) (a0 : Nat) (a1 : Int32) (a2 : Nat) (S : ZS) (x : Int32 × ZH) (hf : fL_leastAnew a0 a1 a2 S = some x) : zMetW l D z0 yL_leastAnew cL_leastAnew 4 [(0, 9, 12, 35), (0, 9, 15, 15)] rmL_leastAnew [.ref a0, .int a1, .ref a2] S x.1 x.2 :=
  zMetW_of hlt (by decide) (Nat.le_of_ble_eq_true rfl) (fun G h0 htab hE => wL_leastAnew a0 a1 a2 S h0 htab (fun o => o = some x) (fun h => nomatch h) (fun k h n hh => by cases hh; exact hE n)) hf
theorem dL_ofWay_0 : decode cL_ofWay 0 = .ok (.aload_n 3, 1) := by decide +kernel
theorem dL_ofWay_1 : decode cL_ofWay 1 = .ok (.iconst 0, 1) := by decide +kernel
theorem dL_ofWay_2 : decode cL_ofWay 2 = .ok (.aload_n 0, 1) := by decide +kernel
theorem dL_ofWay_3 : decode cL_ofWay 3 = .ok (.iload_n 1, 1) := by decide +kernel
theorem dL_ofWay_4 : decode cL_ofWay 4 = .ok (.iload_n 2, 1) := by decide +kernel
theorem dL_ofWay_5 : decode cL_ofWay 5 = .ok (.invokevirtual 81, 3) := by decide +kernel
theorem dL_ofWay_8 : decode cL_ofWay 8 = .ok (.i2l, 1) := by decide +kernel
theorem dL_ofWay_9 : decode cL_ofWay 9 = .ok (.lastore, 1) := by decide +kernel
theorem dL_ofWay_10 : decode cL_ofWay 10 = .ok (.goto 11, 3) := by decide +kernel
theorem dL_ofWay_13 : decode cL_ofWay 13 = .ok (.astore 4, 2) := by decide +kernel
theorem dL_ofWay_15 : decode cL_ofWay 15 = .ok (.iconst 1, 1) := by decide +kernel
theorem dL_ofWay_16 : decode cL_ofWay 16 = .ok (.ireturn, 1) := by decide +kernel
theorem dL_ofWay_17 : decode cL_ofWay 17 = .ok (.astore 4, 2) := by decide +kernel
theorem dL_ofWay_19 : decode cL_ofWay 19 = .ok (.iconst 2, 1) := by decide +kernel
theorem dL_ofWay_20 : decode cL_ofWay 20 = .ok (.ireturn, 1) := by decide +kernel
theorem dL_ofWay_21 : decode cL_ofWay 21 = .ok (.iconst 0, 1) := by decide +kernel
theorem dL_ofWay_22 : decode cL_ofWay 22 = .ok (.ireturn, 1) := by decide +kernel
abbrev rmL_ofWay : Room := { frames := 8, cells := 2, slots := 12, locals := 193 }
theorem zyL_ofWay : zyOK yL_ofWay 4 := ⟨by decide +kernel, by decide +kernel, by decide +kernel⟩
set_option maxHeartbeats 4000000 in
set_option maxRecDepth 100000 in
theorem wL_ofWay {G : ZG} (a0 : Nat) (a1 : Int32) (a2 : Int32) (a3 : Nat) (S : ZS) (h0 : zFix G cL_ofWay RL 5 (some .int) rmL_ofWay) (htab : zTabIs G [(0, 10, 13, 35), (0, 10, 17, 13)]) (C : Option (Int32 × ZH) → Prop) (hC : ¬ C none) (hE : ∀ (k : Int32) (h : ZH) (n : Nat), C (some (k, h)) → zEndT G (some (.int k)) (h, n) rmL_ofWay) : zV G 5 S 0 0 0 [(0, .ref a0), (1, .int a1), (2, .int a2), (3, .ref a3)] [] (C (fL_ofWay a0 a1 a2 a3 S)) := by
  unfold fL_ofWay
  refine zr_aload_n h0 dL_ofWay_0 rfl (n := 1) rfl ?_
  refine zr_iconst (0 : Int32) h0 (by decide) dL_ofWay_1 (n := 2) rfl ?_
  refine zr_aload_n h0 dL_ofWay_2 rfl (n := 3) rfl ?_
  refine zr_iload_n h0 dL_ofWay_3 rfl (n := 4) rfl ?_
  refine zr_iload_n h0 dL_ofWay_4 rfl (n := 5) rfl ?_
  refine zr_cTC hC (fun v => some (.int v)) ["java/lang/IndexOutOfBoundsException", "java/lang/IllegalArgumentException"] (hh := [(0, 10, 13, 35), (0, 10, 17, 13)]) 2 12 h0 htab (⟨⟨by decide, by decide, zw_281, by decide +kernel⟩, ⟨⟨by decide, by decide, zw_106, by decide +kernel⟩, trivial⟩⟩) (fun x hx => zk_VT0 h0 zcX5 (zcl_ex hx) (fun l D z0 hlt => kX5_ofWay l D z0 hlt a0 a1 a2 S x (zcl_of hx)) htab.fl zw_682 zw_683 zw_684 zw_1 zw_685 rfl zyX5_ofWay (As := [.int a1, .int a2]) (st := [.int (0 : Int32), .ref a3]) rfl (by decide) rfl (Nat.le_of_ble_eq_true rfl) (by decide) dL_ofWay_5) rfl rfl (n := 8) rfl (fun j q E h n9 a hq hn => ?_) (fun x => ?_)
  · match j, hq, hn with
    | 0, hq, hn =>
      cases hq
      refine zr_astore [(0, .ref a0), (1, .int a1), (2, .int a2), (3, .ref a3), (4, .ref a)] h0 dL_ofWay_13 (by decide) rfl (n := 15) rfl ?_
      refine zr_iconst (1 : Int32) h0 (by decide) dL_ofWay_15 (n := 16) rfl ?_
      exact zr_iretT h0 rfl dL_ofWay_16 (hE _ _ _) (by decide) (by decide)
    | 1, hq, hn =>
      cases hq
      refine zr_astore [(0, .ref a0), (1, .int a1), (2, .int a2), (3, .ref a3), (4, .ref a)] h0 dL_ofWay_17 (by decide) rfl (n := 19) rfl ?_
      refine zr_iconst (2 : Int32) h0 (by decide) dL_ofWay_19 (n := 20) rfl ?_
      exact zr_iretT h0 rfl dL_ofWay_20 (hE _ _ _) (by decide) (by decide)
    | j + 2, hq, hn => simp at hq
  refine zr_i2l h0 dL_ofWay_8 (n := 9) rfl ?_
  refine zr_lastore C hC h0 dL_ofWay_9 (n := 10) rfl (fun S2 => ?_)
  refine zr_goto (tgt := 21) h0 dL_ofWay_10 (by decide) ?_
  refine zr_iconst (0 : Int32) h0 (by decide) dL_ofWay_21 (n := 22) rfl ?_
  exact zr_iretT h0 rfl dL_ofWay_22 (fun h => hE _ _ _ h) (by decide) (by decide)
theorem kL_ofWay (l : Launch) (D : ZD) (z0 : Nat) (hlt : l.stackTraces = false) (a0 : Nat) (a1 : Int32) (a2 : Int32) (a3 : Nat) (S : ZS) (x : Int32 × ZH) (hf : fL_ofWay a0 a1 a2 a3 S = some x) : zMetW l D z0 yL_ofWay cL_ofWay 5 [(0, 10, 13, 35), (0, 10, 17, 13)] rmL_ofWay [.ref a0, .int a1, .int a2, .ref a3] S x.1 x.2 :=
  zMetW_of hlt (by decide) (Nat.le_of_ble_eq_true rfl) (fun G h0 htab hE => wL_ofWay a0 a1 a2 a3 S h0 htab (fun o => o = some x) (fun h => nomatch h) (fun k h n hh => by cases hh; exact hE n)) hf
theorem dL_vector_0 : decode cL_vector 0 = .ok (.aload 4, 2) := by decide +kernel
theorem dL_vector_2 : decode cL_vector 2 = .ok (.iconst 0, 1) := by decide +kernel
theorem dL_vector_3 : decode cL_vector 3 = .ok (.aload_n 0, 1) := by decide +kernel
theorem dL_vector_4 : decode cL_vector 4 = .ok (.iload_n 1, 1) := by decide +kernel
theorem dL_vector_5 : decode cL_vector 5 = .ok (.iload_n 2, 1) := by decide +kernel
theorem dL_vector_6 : decode cL_vector 6 = .ok (.iload_n 3, 1) := by decide +kernel
theorem dL_vector_7 : decode cL_vector 7 = .ok (.invokevirtual 84, 3) := by decide +kernel
theorem dL_vector_10 : decode cL_vector 10 = .ok (.i2l, 1) := by decide +kernel
theorem dL_vector_11 : decode cL_vector 11 = .ok (.lastore, 1) := by decide +kernel
theorem dL_vector_12 : decode cL_vector 12 = .ok (.goto 7, 3) := by decide +kernel
theorem dL_vector_15 : decode cL_vector 15 = .ok (.astore 5, 2) := by decide +kernel
theorem dL_vector_17 : decode cL_vector 17 = .ok (.iconst 1, 1) := by decide +kernel
theorem dL_vector_18 : decode cL_vector 18 = .ok (.ireturn, 1) := by decide +kernel
theorem dL_vector_19 : decode cL_vector 19 = .ok (.iconst 0, 1) := by decide +kernel
theorem dL_vector_20 : decode cL_vector 20 = .ok (.ireturn, 1) := by decide +kernel
abbrev rmL_vector : Room := { frames := 8, cells := 3, slots := 18, locals := 144 }
theorem zyL_vector : zyOK yL_vector 5 := ⟨by decide +kernel, by decide +kernel, by decide +kernel⟩
set_option maxHeartbeats 4000000 in
set_option maxRecDepth 100000 in
theorem wL_vector {G : ZG} (a0 : Nat) (a1 : Int32) (a2 : Int32) (a3 : Int32) (a4 : Nat) (S : ZS) (h0 : zFix G cL_vector RL 6 (some .int) rmL_vector) (htab : zTabIs G [(0, 12, 15, 35)]) (C : Option (Int32 × ZH) → Prop) (hC : ¬ C none) (hE : ∀ (k : Int32) (h : ZH) (n : Nat), C (some (k, h)) → zEndT G (some (.int k)) (h, n) rmL_vector) : zV G 6 S 0 0 0 [(0, .ref a0), (1, .int a1), (2, .int a2), (3, .int a3), (4, .ref a4)] [] (C (fL_vector a0 a1 a2 a3 a4 S)) := by
  unfold fL_vector
  refine zr_aload h0 dL_vector_0 rfl (n := 2) rfl ?_
  refine zr_iconst (0 : Int32) h0 (by decide) dL_vector_2 (n := 3) rfl ?_
  refine zr_aload_n h0 dL_vector_3 rfl (n := 4) rfl ?_
  refine zr_iload_n h0 dL_vector_4 rfl (n := 5) rfl ?_
  refine zr_iload_n h0 dL_vector_5 rfl (n := 6) rfl ?_
  refine zr_iload_n h0 dL_vector_6 rfl (n := 7) rfl ?_
  refine zr_cTC hC (fun v => some (.int v)) ["java/lang/IndexOutOfBoundsException"] (hh := [(0, 12, 15, 35)]) 3 18 h0 htab (⟨⟨by decide, by decide, zw_281, by decide +kernel⟩, trivial⟩) (fun x hx => zk_VT0 h0 zcX5 (zcl_ex hx) (fun l D z0 hlt => kX5_vector l D z0 hlt a0 a1 a2 a3 S x (zcl_of hx)) htab.fl zw_764 zw_765 zw_766 zw_1 zw_767 rfl zyX5_vector (As := [.int a1, .int a2, .int a3]) (st := [.int (0 : Int32), .ref a4]) rfl (by decide) rfl (Nat.le_of_ble_eq_true rfl) (by decide) dL_vector_7) rfl rfl (n := 10) rfl (fun j q E h n9 a hq hn => ?_) (fun x => ?_)
  · match j, hq, hn with
    | 0, hq, hn =>
      cases hq
      refine zr_astore [(0, .ref a0), (1, .int a1), (2, .int a2), (3, .int a3), (4, .ref a4), (5, .ref a)] h0 dL_vector_15 (by decide) rfl (n := 17) rfl ?_
      refine zr_iconst (1 : Int32) h0 (by decide) dL_vector_17 (n := 18) rfl ?_
      exact zr_iretT h0 rfl dL_vector_18 (hE _ _ _) (by decide) (by decide)
    | j + 1, hq, hn => simp at hq
  refine zr_i2l h0 dL_vector_10 (n := 11) rfl ?_
  refine zr_lastore C hC h0 dL_vector_11 (n := 12) rfl (fun S2 => ?_)
  refine zr_goto (tgt := 19) h0 dL_vector_12 (by decide) ?_
  refine zr_iconst (0 : Int32) h0 (by decide) dL_vector_19 (n := 20) rfl ?_
  exact zr_iretT h0 rfl dL_vector_20 (fun h => hE _ _ _ h) (by decide) (by decide)
theorem kL_vector (l : Launch) (D : ZD) (z0 : Nat) (hlt : l.stackTraces = false) (a0 : Nat) (a1 : Int32) (a2 : Int32) (a3 : Int32) (a4 : Nat) (S : ZS) (x : Int32 × ZH) (hf : fL_vector a0 a1 a2 a3 a4 S = some x) : zMetW l D z0 yL_vector cL_vector 6 [(0, 12, 15, 35)] rmL_vector [.ref a0, .int a1, .int a2, .int a3, .ref a4] S x.1 x.2 :=
  zMetW_of hlt (by decide) (Nat.le_of_ble_eq_true rfl) (fun G h0 htab hE => wL_vector a0 a1 a2 a3 a4 S h0 htab (fun o => o = some x) (fun h => nomatch h) (fun k h n hh => by cases hh; exact hE n)) hf
theorem dL_result_0 : decode cL_result 0 = .ok (.aload 5, 2) := by decide +kernel
theorem dL_result_2 : decode cL_result 2 = .ok (.iconst 0, 1) := by decide +kernel
theorem dL_result_3 : decode cL_result 3 = .ok (.aload_n 0, 1) := by decide +kernel
theorem dL_result_4 : decode cL_result 4 = .ok (.iload_n 1, 1) := by decide +kernel
theorem dL_result_5 : decode cL_result 5 = .ok (.iload_n 2, 1) := by decide +kernel
theorem dL_result_6 : decode cL_result 6 = .ok (.iload_n 3, 1) := by decide +kernel
theorem dL_result_7 : decode cL_result 7 = .ok (.iload 4, 2) := by decide +kernel
theorem dL_result_9 : decode cL_result 9 = .ok (.invokevirtual 87, 3) := by decide +kernel
theorem dL_result_12 : decode cL_result 12 = .ok (.i2l, 1) := by decide +kernel
theorem dL_result_13 : decode cL_result 13 = .ok (.lastore, 1) := by decide +kernel
theorem dL_result_14 : decode cL_result 14 = .ok (.goto 11, 3) := by decide +kernel
theorem dL_result_17 : decode cL_result 17 = .ok (.astore 6, 2) := by decide +kernel
theorem dL_result_19 : decode cL_result 19 = .ok (.iconst 1, 1) := by decide +kernel
theorem dL_result_20 : decode cL_result 20 = .ok (.ireturn, 1) := by decide +kernel
theorem dL_result_21 : decode cL_result 21 = .ok (.astore 6, 2) := by decide +kernel
theorem dL_result_23 : decode cL_result 23 = .ok (.iconst 2, 1) := by decide +kernel
theorem dL_result_24 : decode cL_result 24 = .ok (.ireturn, 1) := by decide +kernel
theorem dL_result_25 : decode cL_result 25 = .ok (.iconst 0, 1) := by decide +kernel
theorem dL_result_26 : decode cL_result 26 = .ok (.ireturn, 1) := by decide +kernel
abbrev rmL_result : Room := { frames := 9, cells := 3, slots := 18, locals := 169 }
theorem zyL_result : zyOK yL_result 6 := ⟨by decide +kernel, by decide +kernel, by decide +kernel⟩
set_option maxHeartbeats 4000000 in
set_option maxRecDepth 100000 in
theorem wL_result {G : ZG} (a0 : Nat) (a1 : Int32) (a2 : Int32) (a3 : Int32) (a4 : Int32) (a5 : Nat) (S : ZS) (h0 : zFix G cL_result RL 7 (some .int) rmL_result) (htab : zTabIs G [(0, 14, 17, 35), (0, 14, 21, 13)]) (C : Option (Int32 × ZH) → Prop) (hC : ¬ C none) (hE : ∀ (k : Int32) (h : ZH) (n : Nat), C (some (k, h)) → zEndT G (some (.int k)) (h, n) rmL_result) : zV G 7 S 0 0 0 [(0, .ref a0), (1, .int a1), (2, .int a2), (3, .int a3), (4, .int a4), (5, .ref a5)] [] (C (fL_result a0 a1 a2 a3 a4 a5 S)) := by
  unfold fL_result
  refine zr_aload h0 dL_result_0 rfl (n := 2) rfl ?_
  refine zr_iconst (0 : Int32) h0 (by decide) dL_result_2 (n := 3) rfl ?_
  refine zr_aload_n h0 dL_result_3 rfl (n := 4) rfl ?_
  refine zr_iload_n h0 dL_result_4 rfl (n := 5) rfl ?_
  refine zr_iload_n h0 dL_result_5 rfl (n := 6) rfl ?_
  refine zr_iload_n h0 dL_result_6 rfl (n := 7) rfl ?_
  refine zr_iload h0 dL_result_7 rfl (n := 9) rfl ?_
  refine zr_cTC hC (fun v => some (.int v)) ["java/lang/IndexOutOfBoundsException", "java/lang/IllegalArgumentException"] (hh := [(0, 14, 17, 35), (0, 14, 21, 13)]) 3 18 h0 htab (⟨⟨by decide, by decide, zw_281, by decide +kernel⟩, ⟨⟨by decide, by decide, zw_106, by decide +kernel⟩, trivial⟩⟩) (fun x hx => zk_VT0 h0 zcX5 (zcl_ex hx) (fun l D z0 hlt => kX5_result l D z0 hlt a0 a1 a2 a3 a4 S x (zcl_of hx)) htab.fl zw_772 zw_773 zw_774 zw_1 zw_775 rfl zyX5_result (As := [.int a1, .int a2, .int a3, .int a4]) (st := [.int (0 : Int32), .ref a5]) rfl (by decide) rfl (Nat.le_of_ble_eq_true rfl) (by decide) dL_result_9) rfl rfl (n := 12) rfl (fun j q E h n9 a hq hn => ?_) (fun x => ?_)
  · match j, hq, hn with
    | 0, hq, hn =>
      cases hq
      refine zr_astore [(0, .ref a0), (1, .int a1), (2, .int a2), (3, .int a3), (4, .int a4), (5, .ref a5), (6, .ref a)] h0 dL_result_17 (by decide) rfl (n := 19) rfl ?_
      refine zr_iconst (1 : Int32) h0 (by decide) dL_result_19 (n := 20) rfl ?_
      exact zr_iretT h0 rfl dL_result_20 (hE _ _ _) (by decide) (by decide)
    | 1, hq, hn =>
      cases hq
      refine zr_astore [(0, .ref a0), (1, .int a1), (2, .int a2), (3, .int a3), (4, .int a4), (5, .ref a5), (6, .ref a)] h0 dL_result_21 (by decide) rfl (n := 23) rfl ?_
      refine zr_iconst (2 : Int32) h0 (by decide) dL_result_23 (n := 24) rfl ?_
      exact zr_iretT h0 rfl dL_result_24 (hE _ _ _) (by decide) (by decide)
    | j + 2, hq, hn => simp at hq
  refine zr_i2l h0 dL_result_12 (n := 13) rfl ?_
  refine zr_lastore C hC h0 dL_result_13 (n := 14) rfl (fun S2 => ?_)
  refine zr_goto (tgt := 25) h0 dL_result_14 (by decide) ?_
  refine zr_iconst (0 : Int32) h0 (by decide) dL_result_25 (n := 26) rfl ?_
  exact zr_iretT h0 rfl dL_result_26 (fun h => hE _ _ _ h) (by decide) (by decide)
theorem kL_result (l : Launch) (D : ZD) (z0 : Nat) (hlt : l.stackTraces = false) (a0 : Nat) (a1 : Int32) (a2 : Int32) (a3 : Int32) (a4 : Int32) (a5 : Nat) (S : ZS) (x : Int32 × ZH) (hf : fL_result a0 a1 a2 a3 a4 a5 S = some x) : zMetW l D z0 yL_result cL_result 7 [(0, 14, 17, 35), (0, 14, 21, 13)] rmL_result [.ref a0, .int a1, .int a2, .int a3, .int a4, .ref a5] S x.1 x.2 :=
  zMetW_of hlt (by decide) (Nat.le_of_ble_eq_true rfl) (fun G h0 htab hE => wL_result a0 a1 a2 a3 a4 a5 S h0 htab (fun o => o = some x) (fun h => nomatch h) (fun k h n hh => by cases hh; exact hE n)) hf
theorem dL_resultByCube_0 : decode cL_resultByCube 0 = .ok (.aload 5, 2) := by decide +kernel
theorem dL_resultByCube_2 : decode cL_resultByCube 2 = .ok (.iconst 0, 1) := by decide +kernel
theorem dL_resultByCube_3 : decode cL_resultByCube 3 = .ok (.aload_n 0, 1) := by decide +kernel
theorem dL_resultByCube_4 : decode cL_resultByCube 4 = .ok (.iload_n 1, 1) := by decide +kernel
theorem dL_resultByCube_5 : decode cL_resultByCube 5 = .ok (.iload_n 2, 1) := by decide +kernel
theorem dL_resultByCube_6 : decode cL_resultByCube 6 = .ok (.iload_n 3, 1) := by decide +kernel
theorem dL_resultByCube_7 : decode cL_resultByCube 7 = .ok (.iload 4, 2) := by decide +kernel
theorem dL_resultByCube_9 : decode cL_resultByCube 9 = .ok (.invokevirtual 90, 3) := by decide +kernel
theorem dL_resultByCube_12 : decode cL_resultByCube 12 = .ok (.i2l, 1) := by decide +kernel
theorem dL_resultByCube_13 : decode cL_resultByCube 13 = .ok (.lastore, 1) := by decide +kernel
theorem dL_resultByCube_14 : decode cL_resultByCube 14 = .ok (.goto 11, 3) := by decide +kernel
theorem dL_resultByCube_17 : decode cL_resultByCube 17 = .ok (.astore 6, 2) := by decide +kernel
theorem dL_resultByCube_19 : decode cL_resultByCube 19 = .ok (.iconst 1, 1) := by decide +kernel
theorem dL_resultByCube_20 : decode cL_resultByCube 20 = .ok (.ireturn, 1) := by decide +kernel
theorem dL_resultByCube_21 : decode cL_resultByCube 21 = .ok (.astore 6, 2) := by decide +kernel
theorem dL_resultByCube_23 : decode cL_resultByCube 23 = .ok (.iconst 2, 1) := by decide +kernel
theorem dL_resultByCube_24 : decode cL_resultByCube 24 = .ok (.ireturn, 1) := by decide +kernel
theorem dL_resultByCube_25 : decode cL_resultByCube 25 = .ok (.iconst 0, 1) := by decide +kernel
theorem dL_resultByCube_26 : decode cL_resultByCube 26 = .ok (.ireturn, 1) := by decide +kernel
abbrev rmL_resultByCube : Room := { frames := 9, cells := 3, slots := 18, locals := 169 }
theorem zyL_resultByCube : zyOK yL_resultByCube 6 := ⟨by decide +kernel, by decide +kernel, by decide +kernel⟩
set_option maxHeartbeats 4000000 in
set_option maxRecDepth 100000 in
theorem wL_resultByCube {G : ZG} (a0 : Nat) (a1 : Int32) (a2 : Int32) (a3 : Int32) (a4 : Int32) (a5 : Nat) (S : ZS) (h0 : zFix G cL_resultByCube RL 7 (some .int) rmL_resultByCube) (htab : zTabIs G [(0, 14, 17, 35), (0, 14, 21, 13)]) (C : Option (Int32 × ZH) → Prop) (hC : ¬ C none) (hE : ∀ (k : Int32) (h : ZH) (n : Nat), C (some (k, h)) → zEndT G (some (.int k)) (h, n) rmL_resultByCube) : zV G 7 S 0 0 0 [(0, .ref a0), (1, .int a1), (2, .int a2), (3, .int a3), (4, .int a4), (5, .ref a5)] [] (C (fL_resultByCube a0 a1 a2 a3 a4 a5 S)) := by
  unfold fL_resultByCube
  refine zr_aload h0 dL_resultByCube_0 rfl (n := 2) rfl ?_
  refine zr_iconst (0 : Int32) h0 (by decide) dL_resultByCube_2 (n := 3) rfl ?_
  refine zr_aload_n h0 dL_resultByCube_3 rfl (n := 4) rfl ?_
  refine zr_iload_n h0 dL_resultByCube_4 rfl (n := 5) rfl ?_
  refine zr_iload_n h0 dL_resultByCube_5 rfl (n := 6) rfl ?_
  refine zr_iload_n h0 dL_resultByCube_6 rfl (n := 7) rfl ?_
  refine zr_iload h0 dL_resultByCube_7 rfl (n := 9) rfl ?_
  refine zr_cTC hC (fun v => some (.int v)) ["java/lang/IndexOutOfBoundsException", "java/lang/IllegalArgumentException"] (hh := [(0, 14, 17, 35), (0, 14, 21, 13)]) 3 18 h0 htab (⟨⟨by decide, by decide, zw_281, by decide +kernel⟩, ⟨⟨by decide, by decide, zw_106, by decide +kernel⟩, trivial⟩⟩) (fun x hx => zk_VT0 h0 zcX5 (zcl_ex hx) (fun l D z0 hlt => kX5_resultByCube l D z0 hlt a0 a1 a2 a3 a4 S x (zcl_of hx)) htab.fl zw_790 zw_791 zw_792 zw_1 zw_793 rfl zyX5_resultByCube (As := [.int a1, .int a2, .int a3, .int a4]) (st := [.int (0 : Int32), .ref a5]) rfl (by decide) rfl (Nat.le_of_ble_eq_true rfl) (by decide) dL_resultByCube_9) rfl rfl (n := 12) rfl (fun j q E h n9 a hq hn => ?_) (fun x => ?_)
  · match j, hq, hn with
    | 0, hq, hn =>
      cases hq
      refine zr_astore [(0, .ref a0), (1, .int a1), (2, .int a2), (3, .int a3), (4, .int a4), (5, .ref a5), (6, .ref a)] h0 dL_resultByCube_17 (by decide) rfl (n := 19) rfl ?_
      refine zr_iconst (1 : Int32) h0 (by decide) dL_resultByCube_19 (n := 20) rfl ?_
      exact zr_iretT h0 rfl dL_resultByCube_20 (hE _ _ _) (by decide) (by decide)
    | 1, hq, hn =>
      cases hq
      refine zr_astore [(0, .ref a0), (1, .int a1), (2, .int a2), (3, .int a3), (4, .int a4), (5, .ref a5), (6, .ref a)] h0 dL_resultByCube_21 (by decide) rfl (n := 23) rfl ?_
      refine zr_iconst (2 : Int32) h0 (by decide) dL_resultByCube_23 (n := 24) rfl ?_
      exact zr_iretT h0 rfl dL_resultByCube_24 (hE _ _ _) (by decide) (by decide)
    | j + 2, hq, hn => simp at hq
  refine zr_i2l h0 dL_resultByCube_12 (n := 13) rfl ?_
  refine zr_lastore C hC h0 dL_resultByCube_13 (n := 14) rfl (fun S2 => ?_)
  refine zr_goto (tgt := 25) h0 dL_resultByCube_14 (by decide) ?_
  refine zr_iconst (0 : Int32) h0 (by decide) dL_resultByCube_25 (n := 26) rfl ?_
  exact zr_iretT h0 rfl dL_resultByCube_26 (fun h => hE _ _ _ h) (by decide) (by decide)
theorem kL_resultByCube (l : Launch) (D : ZD) (z0 : Nat) (hlt : l.stackTraces = false) (a0 : Nat) (a1 : Int32) (a2 : Int32) (a3 : Int32) (a4 : Int32) (a5 : Nat) (S : ZS) (x : Int32 × ZH) (hf : fL_resultByCube a0 a1 a2 a3 a4 a5 S = some x) : zMetW l D z0 yL_resultByCube cL_resultByCube 7 [(0, 14, 17, 35), (0, 14, 21, 13)] rmL_resultByCube [.ref a0, .int a1, .int a2, .int a3, .int a4, .ref a5] S x.1 x.2 :=
  zMetW_of hlt (by decide) (Nat.le_of_ble_eq_true rfl) (fun G h0 htab hE => wL_resultByCube a0 a1 a2 a3 a4 a5 S h0 htab (fun o => o = some x) (fun h => nomatch h) (fun k h n hh => by cases hh; exact hE n)) hf
theorem dL_levels_0 : decode cL_levels 0 = .ok (.aload 4, 2) := by decide +kernel
theorem dL_levels_2 : decode cL_levels 2 = .ok (.iconst 0, 1) := by decide +kernel
theorem dL_levels_3 : decode cL_levels 3 = .ok (.aload_n 0, 1) := by decide +kernel
theorem dL_levels_4 : decode cL_levels 4 = .ok (.iload_n 1, 1) := by decide +kernel
theorem dL_levels_5 : decode cL_levels 5 = .ok (.iload_n 2, 1) := by decide +kernel
theorem dL_levels_6 : decode cL_levels 6 = .ok (.iload_n 3, 1) := by decide +kernel
theorem dL_levels_7 : decode cL_levels 7 = .ok (.invokevirtual 93, 3) := by decide +kernel
theorem dL_levels_10 : decode cL_levels 10 = .ok (.lastore, 1) := by decide +kernel
theorem dL_levels_11 : decode cL_levels 11 = .ok (.goto 15, 3) := by decide +kernel
theorem dL_levels_14 : decode cL_levels 14 = .ok (.astore 5, 2) := by decide +kernel
theorem dL_levels_16 : decode cL_levels 16 = .ok (.iconst 1, 1) := by decide +kernel
theorem dL_levels_17 : decode cL_levels 17 = .ok (.ireturn, 1) := by decide +kernel
theorem dL_levels_18 : decode cL_levels 18 = .ok (.astore 5, 2) := by decide +kernel
theorem dL_levels_20 : decode cL_levels 20 = .ok (.iconst 2, 1) := by decide +kernel
theorem dL_levels_21 : decode cL_levels 21 = .ok (.ireturn, 1) := by decide +kernel
theorem dL_levels_22 : decode cL_levels 22 = .ok (.astore 5, 2) := by decide +kernel
theorem dL_levels_24 : decode cL_levels 24 = .ok (.iconst 3, 1) := by decide +kernel
theorem dL_levels_25 : decode cL_levels 25 = .ok (.ireturn, 1) := by decide +kernel
theorem dL_levels_26 : decode cL_levels 26 = .ok (.iconst 0, 1) := by decide +kernel
theorem dL_levels_27 : decode cL_levels 27 = .ok (.ireturn, 1) := by decide +kernel
abbrev rmL_levels : Room := { frames := 8, cells := 2, slots := 12, locals := 194 }
theorem zyL_levels : zyOK yL_levels 5 := ⟨by decide +kernel, by decide +kernel, by decide +kernel⟩
set_option maxHeartbeats 4000000 in
set_option maxRecDepth 100000 in
theorem wL_levels {G : ZG} (a0 : Nat) (a1 : Int32) (a2 : Int32) (a3 : Int32) (a4 : Nat) (S : ZS) (h0 : zFix G cL_levels RL 6 (some .int) rmL_levels) (htab : zTabIs G [(0, 11, 14, 35), (0, 11, 18, 13), (0, 11, 22, 15)]) (C : Option (Int32 × ZH) → Prop) (hC : ¬ C none) (hE : ∀ (k : Int32) (h : ZH) (n : Nat), C (some (k, h)) → zEndT G (some (.int k)) (h, n) rmL_levels) : zV G 6 S 0 0 0 [(0, .ref a0), (1, .int a1), (2, .int a2), (3, .int a3), (4, .ref a4)] [] (C (fL_levels a0 a1 a2 a3 a4 S)) := by
  unfold fL_levels
  refine zr_aload h0 dL_levels_0 rfl (n := 2) rfl ?_
  refine zr_iconst (0 : Int32) h0 (by decide) dL_levels_2 (n := 3) rfl ?_
  refine zr_aload_n h0 dL_levels_3 rfl (n := 4) rfl ?_
  refine zr_iload_n h0 dL_levels_4 rfl (n := 5) rfl ?_
  refine zr_iload_n h0 dL_levels_5 rfl (n := 6) rfl ?_
  refine zr_iload_n h0 dL_levels_6 rfl (n := 7) rfl ?_
  refine zr_cTC hC (fun v => some (.long v)) ["java/lang/IndexOutOfBoundsException", "java/lang/IllegalArgumentException", "java/lang/IllegalStateException"] (hh := [(0, 11, 14, 35), (0, 11, 18, 13), (0, 11, 22, 15)]) 2 12 h0 htab (⟨⟨by decide, by decide, zw_281, by decide +kernel⟩, ⟨⟨by decide, by decide, zw_106, by decide +kernel⟩, ⟨⟨by decide, by decide, zw_107, by decide +kernel⟩, trivial⟩⟩⟩) (fun x hx => zk_VT0 h0 zcX5 (zcl_ex hx) (fun l D z0 hlt => kX5_levels l D z0 hlt a0 a1 a2 a3 S x (zcl_of hx)) htab.fl zw_801 zw_802 zw_803 zw_1 zw_804 rfl zyX5_levels (As := [.int a1, .int a2, .int a3]) (st := [.int (0 : Int32), .ref a4]) rfl (by decide) rfl (Nat.le_of_ble_eq_true rfl) (by decide) dL_levels_7) rfl rfl (n := 10) rfl (fun j q E h n9 a hq hn => ?_) (fun x => ?_)
  · match j, hq, hn with
    | 0, hq, hn =>
      cases hq
      refine zr_astore [(0, .ref a0), (1, .int a1), (2, .int a2), (3, .int a3), (4, .ref a4), (5, .ref a)] h0 dL_levels_14 (by decide) rfl (n := 16) rfl ?_
      refine zr_iconst (1 : Int32) h0 (by decide) dL_levels_16 (n := 17) rfl ?_
      exact zr_iretT h0 rfl dL_levels_17 (hE _ _ _) (by decide) (by decide)
    | 1, hq, hn =>
      cases hq
      refine zr_astore [(0, .ref a0), (1, .int a1), (2, .int a2), (3, .int a3), (4, .ref a4), (5, .ref a)] h0 dL_levels_18 (by decide) rfl (n := 20) rfl ?_
      refine zr_iconst (2 : Int32) h0 (by decide) dL_levels_20 (n := 21) rfl ?_
      exact zr_iretT h0 rfl dL_levels_21 (hE _ _ _) (by decide) (by decide)
    | 2, hq, hn =>
      cases hq
      refine zr_astore [(0, .ref a0), (1, .int a1), (2, .int a2), (3, .int a3), (4, .ref a4), (5, .ref a)] h0 dL_levels_22 (by decide) rfl (n := 24) rfl ?_
      refine zr_iconst (3 : Int32) h0 (by decide) dL_levels_24 (n := 25) rfl ?_
      exact zr_iretT h0 rfl dL_levels_25 (hE _ _ _) (by decide) (by decide)
    | j + 3, hq, hn => simp at hq
  refine zr_lastore C hC h0 dL_levels_10 (n := 11) rfl (fun S2 => ?_)
  refine zr_goto (tgt := 26) h0 dL_levels_11 (by decide) ?_
  refine zr_iconst (0 : Int32) h0 (by decide) dL_levels_26 (n := 27) rfl ?_
  exact zr_iretT h0 rfl dL_levels_27 (fun h => hE _ _ _ h) (by decide) (by decide)
theorem kL_levels (l : Launch) (D : ZD) (z0 : Nat) (hlt : l.stackTraces = false) (a0 : Nat) (a1 : Int32) (a2 : Int32) (a3 : Int32) (a4 : Nat) (S : ZS) (x : Int32 × ZH) (hf : fL_levels a0 a1 a2 a3 a4 S = some x) : zMetW l D z0 yL_levels cL_levels 6 [(0, 11, 14, 35), (0, 11, 18, 13), (0, 11, 22, 15)] rmL_levels [.ref a0, .int a1, .int a2, .int a3, .ref a4] S x.1 x.2 :=
  zMetW_of hlt (by decide) (Nat.le_of_ble_eq_true rfl) (fun G h0 htab hE => wL_levels a0 a1 a2 a3 a4 S h0 htab (fun o => o = some x) (fun h => nomatch h) (fun k h n hh => by cases hh; exact hE n)) hf
