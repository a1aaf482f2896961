def fL_cube (a0 : Nat) (a1 : Int32) (a2 : Int32) (a3 : Int32) (S : ZS) : Option (Int32 × ZH) :=
  zcatch (zcl S a0 5 (fX5_cube a0 a1 a2 a3 S)) ["java/lang/IllegalArgumentException", "java/lang/IllegalStateException"] (-99999999 : Int32) fun x =>
  some (x.1, x.2.1)
def fL_matrices (a0 : Nat) (a1 : Int32) (a2 : Int32) (a3 : Int32) (S : ZS) : Option (Int32 × ZH) :=
  zcatch (zcl S a0 5 (fX5_matrices a0 a1 a2 a3 S)) ["java/lang/IllegalArgumentException", "java/lang/IllegalStateException"] (-99999999 : Int32) fun x =>
  some (x.1, x.2.1)
def fL_polynomials (a0 : Nat) (a1 : Int32) (a2 : Int32) (S : ZS) : Option (Int32 × ZH) :=
  zcatch (zcl S a0 5 (fX5_polynomials a0 a1 a2 S)) ["java/lang/IllegalArgumentException", "java/lang/IllegalStateException"] (-99999999 : Int32) fun x =>
  some (x.1, x.2.1)
def fL_group (a0 : Nat) (a1 : Int32) (S : ZS) : Option (Int32 × ZH) :=
  zcatch (zcl S a0 5 (fX5_group a0 a1 S)) ["java/lang/IllegalArgumentException", "java/lang/IllegalStateException"] (-99999999 : Int32) fun x =>
  some (x.1, x.2.1)
def fL_set (a0 : Nat) (a1 : Int32) (a2 : Int32) (a3 : Int32) (a4 : Int32) (a5 : Int32) (S : ZS) : Option (Int32 × ZH) :=
  zcatch (zcl S a0 5 (fX5_set a0 a1 a2 a3 a4 a5 S)) ["java/lang/IndexOutOfBoundsException", "java/lang/IllegalArgumentException"] (-99999999 : Int32) fun x =>
  some (x.1, x.2.1)
def fL_move (a0 : Nat) (a1 : Int32) (a2 : Int32) (a3 : Int32) (a4 : Int32) (a5 : Int32) (S : ZS) : Option (Int32 × ZH) :=
  zcatch (zcl S a0 5 (fX5_move a0 a1 a2 a3 a4 a5 S)) ["java/lang/IndexOutOfBoundsException", "java/lang/IllegalArgumentException"] (-99999999 : Int32) fun x =>
  some (x.1, x.2.1)
def fL_sum (a0 : Nat) (a1 : Int32) (a2 : Int32) (S : ZS) : Option (Int32 × ZH) :=
  zcatch (zcl S a0 5 (fX5_sum a0 a1 a2 S)) ["java/lang/IndexOutOfBoundsException", "java/lang/IllegalArgumentException", "java/lang/IllegalStateException"] (-99999999 : Int32) fun x =>
  some (x.1, x.2.1)
def fL_product (a0 : Nat) (a1 : Int32) (a2 : Int32) (S : ZS) : Option (Int32 × ZH) :=
  zcatch (zcl S a0 5 (fX5_product a0 a1 a2 S)) ["java/lang/IndexOutOfBoundsException", "java/lang/IllegalArgumentException", "java/lang/IllegalStateException"] (-99999999 : Int32) fun x =>
  some (x.1, x.2.1)
def fL_way (a0 : Nat) (a1 : Int32) (S : ZS) : Option (Int32 × ZH) :=
  zcatch (zcl S a0 5 (fX5_way a0 a1 S)) ["java/lang/IndexOutOfBoundsException", "java/lang/IllegalStateException"] (-99999999 : Int32) fun x =>
  some (x.1, x.2.1)
def fL_multiply (a0 : Nat) (a1 : Int32) (a2 : Int32) (a3 : Int32) (a4 : Int32) (S : ZS) : Option (Int32 × ZH) :=
  zcatch (zcl S a0 5 (fX5_multiply a0 a1 a2 a3 a4 S)) ["java/lang/IndexOutOfBoundsException", "java/lang/IllegalArgumentException", "java/lang/IllegalStateException"] (-99999999 : Int32) fun x =>
  some (x.1, x.2.1)
def fL_plain (a0 : Nat) (a1 : Int32) (S : ZS) : Option (Int32 × ZH) :=
  zcatch (zcl S a0 5 (fX5_plain a0 a1 S)) ["java/lang/IndexOutOfBoundsException", "java/lang/IllegalStateException"] (-99999999 : Int32) fun x =>
  some (x.1, x.2.1)
def fL_flip (a0 : Nat) (a1 : Int32) (a2 : Int32) (a3 : Int32) (a4 : Int32) (S : ZS) : Option (Int32 × ZH) :=
  zcatch (zcl S a0 5 (fX5_flip a0 a1 a2 a3 a4 S)) ["java/lang/IndexOutOfBoundsException", "java/lang/IllegalArgumentException", "java/lang/IllegalStateException"] (-99999999 : Int32) fun x =>
  some (0, x.2.1)
def fL_reduce (a0 : Nat) (a1 : Int32) (S : ZS) : Option (Int32 × ZH) :=
  zcatch (zcl S a0 5 (fX5_reduce a0 a1 S)) ["java/lang/IndexOutOfBoundsException"] (-99999999 : Int32) fun x =>
  some (x.1, x.2.1)
def fL_walk (a0 : Nat) (a1 : Int32) (a2 : Int32) (a3 : Int32) (S : ZS) : Option (Int32 × ZH) :=
  zcatch (zcl S a0 5 (fX5_walk a0 a1 a2 a3 S)) ["java/lang/IndexOutOfBoundsException", "java/lang/IllegalArgumentException"] (-99999999 : Int32) fun x =>
  some (x.1, x.2.1)
def fL_at (a0 : Nat) (a1 : Int32) (a2 : Int32) (a3 : Int32) (a4 : Int32) (S : ZS) : Option (Int32 × ZH) :=
  zcatch (zcl S a0 5 (fX5_at a0 a1 a2 a3 a4 S)) ["java/lang/IndexOutOfBoundsException"] (-99999999 : Int32) fun x =>
  some (x.1, x.2.1)
def fL_flattening (a0 : Nat) (a1 : Int32) (a2 : Int32) (S : ZS) : Option (Int32 × ZH) :=
  zcatch (zcl S a0 5 (fX5_flattening a0 a1 a2 S)) ["java/lang/IndexOutOfBoundsException"] (-99999999 : Int32) fun x =>
  some (x.1, x.2.1)
def fL_bound (a0 : Nat) (a1 : Int32) (S : ZS) : Option (Int32 × ZH) :=
  zcatch (zcl S a0 5 (fX5_bound a0 a1 S)) ["java/lang/IndexOutOfBoundsException"] (-99999999 : Int32) fun x =>
  some (x.1, x.2.1)
def fL_least (a0 : Nat) (a1 : Int32) (S : ZS) : Option (Int32 × ZH) :=
  zcatch (zcl S a0 5 (fX5_least a0 a1 S)) ["java/lang/IndexOutOfBoundsException", "java/lang/IllegalStateException"] (-99999999 : Int32) fun x =>
  some (x.1, x.2.1)
def fL_leastAnew (a0 : Nat) (a1 : Int32) (S : ZS) : Option (Int32 × ZH) :=
  zcatch (zcl S a0 5 (fX5_leastAnew a0 a1 S)) ["java/lang/IndexOutOfBoundsException", "java/lang/IllegalStateException"] (-99999999 : Int32) fun x =>
  some (x.1, x.2.1)
def fL_ofWay (a0 : Nat) (a1 : Int32) (a2 : Int32) (S : ZS) : Option (Int32 × ZH) :=
  zcatch (zcl S a0 5 (fX5_ofWay a0 a1 a2 S)) ["java/lang/IndexOutOfBoundsException", "java/lang/IllegalArgumentException"] (-99999999 : Int32) fun x =>
  some (x.1, x.2.1)
def fL_vector (a0 : Nat) (a1 : Int32) (a2 : Int32) (a3 : Int32) (S : ZS) : Option (Int32 × ZH) :=
  zcatch (zcl S a0 5 (fX5_vector a0 a1 a2 a3 S)) ["java/lang/IndexOutOfBoundsException"] (-99999999 : Int32) fun x =>
  some (x.1, x.2.1)
def fL_result (a0 : Nat) (a1 : Int32) (a2 : Int32) (a3 : Int32) (a4 : Int32) (S : ZS) : Option (Int32 × ZH) :=
  zcatch (zcl S a0 5 (fX5_result a0 a1 a2 a3 a4 S)) ["java/lang/IndexOutOfBoundsException", "java/lang/IllegalArgumentException"] (-99999999 : Int32) fun x =>
  some (x.1, x.2.1)
def fL_resultByCube (a0 : Nat) (a1 : Int32) (a2 : Int32) (a3 : Int32) (a4 : Int32) (S : ZS) : Option (Int32 × ZH) :=
  zcatch (zcl S a0 5 (fX5_resultByCube a0 a1 a2 a3 a4 S)) ["java/lang/IndexOutOfBoundsException", "java/lang/IllegalArgumentException"] (-99999999 : Int32) fun x =>
  some (x.1, x.2.1)
def fL_levels (a0 : Nat) (a1 : Int32) (a2 : Int32) (a3 : Int32) (S : ZS) : Option (Int64 × ZH) :=
  zcatch (zcl S a0 5 (fX5_levels a0 a1 a2 a3 S)) ["java/lang/IndexOutOfBoundsException", "java/lang/IllegalArgumentException", "java/lang/IllegalStateException"] (-9000000000000000 : Int64) fun x =>
  some (x.1, x.2.1)
def fL_prime (a0 : Nat) (a1 : Int32) (S : ZS) : Option (Int32 × ZH) :=
  zcatch (zcl S a0 5 (fX5_prime a0 a1 S)) ["java/lang/IllegalArgumentException", "java/lang/IllegalStateException"] (-99999999 : Int32) fun x =>
  some (x.1, x.2.1)
theorem dL_cube_0 : decode cL_cube 0 = .ok (.aload_n 0, 1) := by decide +kernel
theorem dL_cube_1 : decode cL_cube 1 = .ok (.iload_n 1, 1) := by decide +kernel
theorem dL_cube_2 : decode cL_cube 2 = .ok (.iload_n 2, 1) := by decide +kernel
theorem dL_cube_3 : decode cL_cube 3 = .ok (.iload_n 3, 1) := by decide +kernel
theorem dL_cube_4 : decode cL_cube 4 = .ok (.invokevirtual 8, 3) := by decide +kernel
theorem dL_cube_7 : decode cL_cube 7 = .ok (.ireturn, 1) := by decide +kernel
theorem dL_cube_8 : decode cL_cube 8 = .ok (.astore 4, 2) := by decide +kernel
theorem dL_cube_10 : decode cL_cube 10 = .ok (.ldc 16, 2) := by decide +kernel
theorem dL_cube_12 : decode cL_cube 12 = .ok (.ireturn, 1) := by decide +kernel
theorem dL_cube_13 : decode cL_cube 13 = .ok (.astore 4, 2) := by decide +kernel
theorem dL_cube_15 : decode cL_cube 15 = .ok (.ldc 16, 2) := by decide +kernel
theorem dL_cube_17 : decode cL_cube 17 = .ok (.ireturn, 1) := by decide +kernel
abbrev rmL_cube : Room := { frames := 9, cells := 5, slots := 87, locals := 165 }
theorem zyL_cube : zyOK yL_cube 4 := ⟨by decide +kernel, by decide +kernel, by decide +kernel⟩
set_option maxHeartbeats 4000000 in
set_option maxRecDepth 100000 in
theorem wL_cube {G : ZG} (a0 : Nat) (a1 : Int32) (a2 : Int32) (a3 : Int32) (S : ZS) (h0 : zFix G cL_cube RL 5 (some .int) rmL_cube) (htab : zTabIs G [(0, 7, 8, 14), (0, 7, 13, 17)]) (C : Option (Int32 × ZH) → Prop) (hC : ¬ C none) (hE : ∀ (k : Int32) (h : ZH) (n : Nat), C (some (k, h)) → zEndT G (some (.int k)) (h, n) rmL_cube) : zV G 5 S 0 0 0 [(0, .ref a0), (1, .int a1), (2, .int a2), (3, .int a3)] [] (C (fL_cube a0 a1 a2 a3 S)) := by
  unfold fL_cube
  refine zr_aload_n h0 dL_cube_0 rfl (n := 1) rfl ?_
  refine zr_iload_n h0 dL_cube_1 rfl (n := 2) rfl ?_
  refine zr_iload_n h0 dL_cube_2 rfl (n := 3) rfl ?_
  refine zr_iload_n h0 dL_cube_3 rfl (n := 4) rfl ?_
  refine zr_cTC hC (-99999999 : Int32) (fun v => some (.int v)) ["java/lang/IllegalArgumentException", "java/lang/IllegalStateException"] (hh := [(0, 7, 8, 14), (0, 7, 13, 17)]) 5 87 h0 htab (⟨⟨by decide, by decide, zw_112, by decide +kernel⟩, ⟨⟨by decide, by decide, zw_113, by decide +kernel⟩, trivial⟩⟩) (fun x hx => zk_VT0 h0 zcX5 (zcl_ex hx) (fun l D z0 hlt => kX5_cube l D z0 hlt a0 a1 a2 a3 S x (zcl_of hx)) htab.fl zw_209 zw_210 zw_211 zw_1 zw_212 rfl zyX5_cube (As := [.int a1, .int a2, .int a3]) (st := []) rfl (by decide) rfl (Nat.le_of_ble_eq_true rfl) (by decide) dL_cube_4) rfl rfl (n := 7) rfl (fun j q E h n9 a hq hn => ?_) (fun x => ?_)
  · match j, hq, hn with
    | 0, hq, hn =>
      cases hq
      refine zr_astore [(0, .ref a0), (1, .int a1), (2, .int a2), (3, .int a3), (4, .ref a)] h0 dL_cube_8 (by decide) rfl (n := 10) rfl ?_
      refine zr_ldc h0 zw_202 dL_cube_10 (n := 12) rfl ?_
      exact zr_iretT h0 rfl dL_cube_12 (hE _ _ _) (by decide) (by decide)
    | 1, hq, hn =>
      cases hq
      refine zr_astore [(0, .ref a0), (1, .int a1), (2, .int a2), (3, .int a3), (4, .ref a)] h0 dL_cube_13 (by decide) rfl (n := 15) rfl ?_
      refine zr_ldc h0 zw_202 dL_cube_15 (n := 17) rfl ?_
      exact zr_iretT h0 rfl dL_cube_17 (hE _ _ _) (by decide) (by decide)
    | j + 2, hq, hn => simp at hq
  exact zr_iretT h0 rfl dL_cube_7 (fun h => hE _ _ _ h) (by decide) (by decide)
theorem kL_cube (l : Launch) (D : ZD) (z0 : Nat) (hlt : l.stackTraces = false) (a0 : Nat) (a1 : Int32) (a2 : Int32) (a3 : Int32) (S : ZS) (x : Int32 × ZH) (hf : fL_cube a0 a1 a2 a3 S = some x) : zMetW l D z0 yL_cube cL_cube 5 (some .int) [(0, 7, 8, 14), (0, 7, 13, 17)] rmL_cube [.ref a0, .int a1, .int a2, .int a3] S (.int x.1) x.2 :=
  zMetW_of hlt (by decide) (Nat.le_of_ble_eq_true rfl) (fun G h0 htab hE => wL_cube a0 a1 a2 a3 S h0 htab (fun o => o = some x) (fun h => nomatch h) (fun k h n hh => by cases hh; exact hE n)) hf
theorem dL_matrices_0 : decode cL_matrices 0 = .ok (.aload_n 0, 1) := by decide +kernel
theorem dL_matrices_1 : decode cL_matrices 1 = .ok (.iload_n 1, 1) := by decide +kernel
theorem dL_matrices_2 : decode cL_matrices 2 = .ok (.iload_n 2, 1) := by decide +kernel
theorem dL_matrices_3 : decode cL_matrices 3 = .ok (.iload_n 3, 1) := by decide +kernel
theorem dL_matrices_4 : decode cL_matrices 4 = .ok (.invokevirtual 19, 3) := by decide +kernel
theorem dL_matrices_7 : decode cL_matrices 7 = .ok (.ireturn, 1) := by decide +kernel
theorem dL_matrices_8 : decode cL_matrices 8 = .ok (.astore 4, 2) := by decide +kernel
theorem dL_matrices_10 : decode cL_matrices 10 = .ok (.ldc 16, 2) := by decide +kernel
theorem dL_matrices_12 : decode cL_matrices 12 = .ok (.ireturn, 1) := by decide +kernel
theorem dL_matrices_13 : decode cL_matrices 13 = .ok (.astore 4, 2) := by decide +kernel
theorem dL_matrices_15 : decode cL_matrices 15 = .ok (.ldc 16, 2) := by decide +kernel
theorem dL_matrices_17 : decode cL_matrices 17 = .ok (.ireturn, 1) := by decide +kernel
abbrev rmL_matrices : Room := { frames := 9, cells := 8, slots := 105, locals := 169 }
theorem zyL_matrices : zyOK yL_matrices 4 := ⟨by decide +kernel, by decide +kernel, by decide +kernel⟩
set_option maxHeartbeats 4000000 in
set_option maxRecDepth 100000 in
theorem wL_matrices {G : ZG} (a0 : Nat) (a1 : Int32) (a2 : Int32) (a3 : Int32) (S : ZS) (h0 : zFix G cL_matrices RL 5 (some .int) rmL_matrices) (htab : zTabIs G [(0, 7, 8, 14), (0, 7, 13, 17)]) (C : Option (Int32 × ZH) → Prop) (hC : ¬ C none) (hE : ∀ (k : Int32) (h : ZH) (n : Nat), C (some (k, h)) → zEndT G (some (.int k)) (h, n) rmL_matrices) : zV G 5 S 0 0 0 [(0, .ref a0), (1, .int a1), (2, .int a2), (3, .int a3)] [] (C (fL_matrices a0 a1 a2 a3 S)) := by
  unfold fL_matrices
  refine zr_aload_n h0 dL_matrices_0 rfl (n := 1) rfl ?_
  refine zr_iload_n h0 dL_matrices_1 rfl (n := 2) rfl ?_
  refine zr_iload_n h0 dL_matrices_2 rfl (n := 3) rfl ?_
  refine zr_iload_n h0 dL_matrices_3 rfl (n := 4) rfl ?_
  refine zr_cTC hC (-99999999 : Int32) (fun v => some (.int v)) ["java/lang/IllegalArgumentException", "java/lang/IllegalStateException"] (hh := [(0, 7, 8, 14), (0, 7, 13, 17)]) 8 105 h0 htab (⟨⟨by decide, by decide, zw_112, by decide +kernel⟩, ⟨⟨by decide, by decide, zw_113, by decide +kernel⟩, trivial⟩⟩) (fun x hx => zk_VT0 h0 zcX5 (zcl_ex hx) (fun l D z0 hlt => kX5_matrices l D z0 hlt a0 a1 a2 a3 S x (zcl_of hx)) htab.fl zw_257 zw_258 zw_259 zw_1 zw_260 rfl zyX5_matrices (As := [.int a1, .int a2, .int a3]) (st := []) rfl (by decide) rfl (Nat.le_of_ble_eq_true rfl) (by decide) dL_matrices_4) rfl rfl (n := 7) rfl (fun j q E h n9 a hq hn => ?_) (fun x => ?_)
  · match j, hq, hn with
    | 0, hq, hn =>
      cases hq
      refine zr_astore [(0, .ref a0), (1, .int a1), (2, .int a2), (3, .int a3), (4, .ref a)] h0 dL_matrices_8 (by decide) rfl (n := 10) rfl ?_
      refine zr_ldc h0 zw_202 dL_matrices_10 (n := 12) rfl ?_
      exact zr_iretT h0 rfl dL_matrices_12 (hE _ _ _) (by decide) (by decide)
    | 1, hq, hn =>
      cases hq
      refine zr_astore [(0, .ref a0), (1, .int a1), (2, .int a2), (3, .int a3), (4, .ref a)] h0 dL_matrices_13 (by decide) rfl (n := 15) rfl ?_
      refine zr_ldc h0 zw_202 dL_matrices_15 (n := 17) rfl ?_
      exact zr_iretT h0 rfl dL_matrices_17 (hE _ _ _) (by decide) (by decide)
    | j + 2, hq, hn => simp at hq
  exact zr_iretT h0 rfl dL_matrices_7 (fun h => hE _ _ _ h) (by decide) (by decide)
theorem kL_matrices (l : Launch) (D : ZD) (z0 : Nat) (hlt : l.stackTraces = false) (a0 : Nat) (a1 : Int32) (a2 : Int32) (a3 : Int32) (S : ZS) (x : Int32 × ZH) (hf : fL_matrices a0 a1 a2 a3 S = some x) : zMetW l D z0 yL_matrices cL_matrices 5 (some .int) [(0, 7, 8, 14), (0, 7, 13, 17)] rmL_matrices [.ref a0, .int a1, .int a2, .int a3] S (.int x.1) x.2 :=
  zMetW_of hlt (by decide) (Nat.le_of_ble_eq_true rfl) (fun G h0 htab hE => wL_matrices a0 a1 a2 a3 S h0 htab (fun o => o = some x) (fun h => nomatch h) (fun k h n hh => by cases hh; exact hE n)) hf
theorem dL_polynomials_0 : decode cL_polynomials 0 = .ok (.aload_n 0, 1) := by decide +kernel
theorem dL_polynomials_1 : decode cL_polynomials 1 = .ok (.iload_n 1, 1) := by decide +kernel
theorem dL_polynomials_2 : decode cL_polynomials 2 = .ok (.iload_n 2, 1) := by decide +kernel
theorem dL_polynomials_3 : decode cL_polynomials 3 = .ok (.invokevirtual 22, 3) := by decide +kernel
theorem dL_polynomials_6 : decode cL_polynomials 6 = .ok (.ireturn, 1) := by decide +kernel
theorem dL_polynomials_7 : decode cL_polynomials 7 = .ok (.astore_n 3, 1) := by decide +kernel
theorem dL_polynomials_8 : decode cL_polynomials 8 = .ok (.ldc 16, 2) := by decide +kernel
theorem dL_polynomials_10 : decode cL_polynomials 10 = .ok (.ireturn, 1) := by decide +kernel
theorem dL_polynomials_11 : decode cL_polynomials 11 = .ok (.astore_n 3, 1) := by decide +kernel
theorem dL_polynomials_12 : decode cL_polynomials 12 = .ok (.ldc 16, 2) := by decide +kernel
theorem dL_polynomials_14 : decode cL_polynomials 14 = .ok (.ireturn, 1) := by decide +kernel
abbrev rmL_polynomials : Room := { frames := 9, cells := 7, slots := 99, locals := 167 }
theorem zyL_polynomials : zyOK yL_polynomials 3 := ⟨by decide +kernel, by decide +kernel, by decide +kernel⟩
set_option maxHeartbeats 4000000 in
set_option maxRecDepth 100000 in
theorem wL_polynomials {G : ZG} (a0 : Nat) (a1 : Int32) (a2 : Int32) (S : ZS) (h0 : zFix G cL_polynomials RL 4 (some .int) rmL_polynomials) (htab : zTabIs G [(0, 6, 7, 14), (0, 6, 11, 17)]) (C : Option (Int32 × ZH) → Prop) (hC : ¬ C none) (hE : ∀ (k : Int32) (h : ZH) (n : Nat), C (some (k, h)) → zEndT G (some (.int k)) (h, n) rmL_polynomials) : zV G 4 S 0 0 0 [(0, .ref a0), (1, .int a1), (2, .int a2)] [] (C (fL_polynomials a0 a1 a2 S)) := by
  unfold fL_polynomials
  refine zr_aload_n h0 dL_polynomials_0 rfl (n := 1) rfl ?_
  refine zr_iload_n h0 dL_polynomials_1 rfl (n := 2) rfl ?_
  refine zr_iload_n h0 dL_polynomials_2 rfl (n := 3) rfl ?_
  refine zr_cTC hC (-99999999 : Int32) (fun v => some (.int v)) ["java/lang/IllegalArgumentException", "java/lang/IllegalStateException"] (hh := [(0, 6, 7, 14), (0, 6, 11, 17)]) 7 99 h0 htab (⟨⟨by decide, by decide, zw_112, by decide +kernel⟩, ⟨⟨by decide, by decide, zw_113, by decide +kernel⟩, trivial⟩⟩) (fun x hx => zk_VT0 h0 zcX5 (zcl_ex hx) (fun l D z0 hlt => kX5_polynomials l D z0 hlt a0 a1 a2 S x (zcl_of hx)) htab.fl zw_274 zw_275 zw_276 zw_1 zw_277 rfl zyX5_polynomials (As := [.int a1, .int a2]) (st := []) rfl (by decide) rfl (Nat.le_of_ble_eq_true rfl) (by decide) dL_polynomials_3) rfl rfl (n := 6) rfl (fun j q E h n9 a hq hn => ?_) (fun x => ?_)
  · match j, hq, hn with
    | 0, hq, hn =>
      cases hq
      refine zr_astore_n [(0, .ref a0), (1, .int a1), (2, .int a2), (3, .ref a)] h0 dL_polynomials_7 (by decide) rfl (n := 8) rfl ?_
      refine zr_ldc h0 zw_202 dL_polynomials_8 (n := 10) rfl ?_
      exact zr_iretT h0 rfl dL_polynomials_10 (hE _ _ _) (by decide) (by decide)
    | 1, hq, hn =>
      cases hq
      refine zr_astore_n [(0, .ref a0), (1, .int a1), (2, .int a2), (3, .ref a)] h0 dL_polynomials_11 (by decide) rfl (n := 12) rfl ?_
      refine zr_ldc h0 zw_202 dL_polynomials_12 (n := 14) rfl ?_
      exact zr_iretT h0 rfl dL_polynomials_14 (hE _ _ _) (by decide) (by decide)
    | j + 2, hq, hn => simp at hq
  exact zr_iretT h0 rfl dL_polynomials_6 (fun h => hE _ _ _ h) (by decide) (by decide)
theorem kL_polynomials (l : Launch) (D : ZD) (z0 : Nat) (hlt : l.stackTraces = false) (a0 : Nat) (a1 : Int32) (a2 : Int32) (S : ZS) (x : Int32 × ZH) (hf : fL_polynomials a0 a1 a2 S = some x) : zMetW l D z0 yL_polynomials cL_polynomials 4 (some .int) [(0, 6, 7, 14), (0, 6, 11, 17)] rmL_polynomials [.ref a0, .int a1, .int a2] S (.int x.1) x.2 :=
  zMetW_of hlt (by decide) (Nat.le_of_ble_eq_true rfl) (fun G h0 htab hE => wL_polynomials a0 a1 a2 S h0 htab (fun o => o = some x) (fun h => nomatch h) (fun k h n hh => by cases hh; exact hE n)) hf
theorem dL_group_0 : decode cL_group 0 = .ok (.aload_n 0, 1) := by decide +kernel
theorem dL_group_1 : decode cL_group 1 = .ok (.iload_n 1, 1) := by decide +kernel
theorem dL_group_2 : decode cL_group 2 = .ok (.invokevirtual 26, 3) := by decide +kernel
theorem dL_group_5 : decode cL_group 5 = .ok (.ireturn, 1) := by decide +kernel
theorem dL_group_6 : decode cL_group 6 = .ok (.astore_n 2, 1) := by decide +kernel
theorem dL_group_7 : decode cL_group 7 = .ok (.ldc 16, 2) := by decide +kernel
theorem dL_group_9 : decode cL_group 9 = .ok (.ireturn, 1) := by decide +kernel
theorem dL_group_10 : decode cL_group 10 = .ok (.astore_n 2, 1) := by decide +kernel
theorem dL_group_11 : decode cL_group 11 = .ok (.ldc 16, 2) := by decide +kernel
theorem dL_group_13 : decode cL_group 13 = .ok (.ireturn, 1) := by decide +kernel
abbrev rmL_group : Room := { frames := 9, cells := 5, slots := 87, locals := 166 }
theorem zyL_group : zyOK yL_group 2 := ⟨by decide +kernel, by decide +kernel, by decide +kernel⟩
set_option maxHeartbeats 4000000 in
set_option maxRecDepth 100000 in
theorem wL_group {G : ZG} (a0 : Nat) (a1 : Int32) (S : ZS) (h0 : zFix G cL_group RL 3 (some .int) rmL_group) (htab : zTabIs G [(0, 5, 6, 14), (0, 5, 10, 17)]) (C : Option (Int32 × ZH) → Prop) (hC : ¬ C none) (hE : ∀ (k : Int32) (h : ZH) (n : Nat), C (some (k, h)) → zEndT G (some (.int k)) (h, n) rmL_group) : zV G 3 S 0 0 0 [(0, .ref a0), (1, .int a1)] [] (C (fL_group a0 a1 S)) := by
  unfold fL_group
  refine zr_aload_n h0 dL_group_0 rfl (n := 1) rfl ?_
  refine zr_iload_n h0 dL_group_1 rfl (n := 2) rfl ?_
  refine zr_cTC hC (-99999999 : Int32) (fun v => some (.int v)) ["java/lang/IllegalArgumentException", "java/lang/IllegalStateException"] (hh := [(0, 5, 6, 14), (0, 5, 10, 17)]) 5 87 h0 htab (⟨⟨by decide, by decide, zw_112, by decide +kernel⟩, ⟨⟨by decide, by decide, zw_113, by decide +kernel⟩, trivial⟩⟩) (fun x hx => zk_VT0 h0 zcX5 (zcl_ex hx) (fun l D z0 hlt => kX5_group l D z0 hlt a0 a1 S x (zcl_of hx)) htab.fl zw_281 zw_282 zw_283 zw_1 zw_284 rfl zyX5_group (As := [.int a1]) (st := []) rfl (by decide) rfl (Nat.le_of_ble_eq_true rfl) (by decide) dL_group_2) rfl rfl (n := 5) rfl (fun j q E h n9 a hq hn => ?_) (fun x => ?_)
  · match j, hq, hn with
    | 0, hq, hn =>
      cases hq
      refine zr_astore_n [(0, .ref a0), (1, .int a1), (2, .ref a)] h0 dL_group_6 (by decide) rfl (n := 7) rfl ?_
      refine zr_ldc h0 zw_202 dL_group_7 (n := 9) rfl ?_
      exact zr_iretT h0 rfl dL_group_9 (hE _ _ _) (by decide) (by decide)
    | 1, hq, hn =>
      cases hq
      refine zr_astore_n [(0, .ref a0), (1, .int a1), (2, .ref a)] h0 dL_group_10 (by decide) rfl (n := 11) rfl ?_
      refine zr_ldc h0 zw_202 dL_group_11 (n := 13) rfl ?_
      exact zr_iretT h0 rfl dL_group_13 (hE _ _ _) (by decide) (by decide)
    | j + 2, hq, hn => simp at hq
  exact zr_iretT h0 rfl dL_group_5 (fun h => hE _ _ _ h) (by decide) (by decide)
theorem kL_group (l : Launch) (D : ZD) (z0 : Nat) (hlt : l.stackTraces = false) (a0 : Nat) (a1 : Int32) (S : ZS) (x : Int32 × ZH) (hf : fL_group a0 a1 S = some x) : zMetW l D z0 yL_group cL_group 3 (some .int) [(0, 5, 6, 14), (0, 5, 10, 17)] rmL_group [.ref a0, .int a1] S (.int x.1) x.2 :=
  zMetW_of hlt (by decide) (Nat.le_of_ble_eq_true rfl) (fun G h0 htab hE => wL_group a0 a1 S h0 htab (fun o => o = some x) (fun h => nomatch h) (fun k h n hh => by cases hh; exact hE n)) hf
theorem dL_set_0 : decode cL_set 0 = .ok (.aload_n 0, 1) := by decide +kernel
theorem dL_set_1 : decode cL_set 1 = .ok (.iload_n 1, 1) := by decide +kernel
theorem dL_set_2 : decode cL_set 2 = .ok (.iload_n 2, 1) := by decide +kernel
theorem dL_set_3 : decode cL_set 3 = .ok (.iload_n 3, 1) := by decide +kernel
theorem dL_set_4 : decode cL_set 4 = .ok (.iload 4, 2) := by decide +kernel
theorem dL_set_6 : decode cL_set 6 = .ok (.iload 5, 2) := by decide +kernel
theorem dL_set_8 : decode cL_set 8 = .ok (.invokevirtual 30, 3) := by decide +kernel
theorem dL_set_11 : decode cL_set 11 = .ok (.ireturn, 1) := by decide +kernel
theorem dL_set_12 : decode cL_set 12 = .ok (.astore 6, 2) := by decide +kernel
theorem dL_set_14 : decode cL_set 14 = .ok (.ldc 16, 2) := by decide +kernel
theorem dL_set_16 : decode cL_set 16 = .ok (.ireturn, 1) := by decide +kernel
theorem dL_set_17 : decode cL_set 17 = .ok (.astore 6, 2) := by decide +kernel
theorem dL_set_19 : decode cL_set 19 = .ok (.ldc 16, 2) := by decide +kernel
theorem dL_set_21 : decode cL_set 21 = .ok (.ireturn, 1) := by decide +kernel
abbrev rmL_set : Room := { frames := 8, cells := 3, slots := 18, locals := 148 }
theorem zyL_set : zyOK yL_set 6 := ⟨by decide +kernel, by decide +kernel, by decide +kernel⟩
set_option maxHeartbeats 4000000 in
set_option maxRecDepth 100000 in
theorem wL_set {G : ZG} (a0 : Nat) (a1 : Int32) (a2 : Int32) (a3 : Int32) (a4 : Int32) (a5 : Int32) (S : ZS) (h0 : zFix G cL_set RL 7 (some .int) rmL_set) (htab : zTabIs G [(0, 11, 12, 34), (0, 11, 17, 14)]) (C : Option (Int32 × ZH) → Prop) (hC : ¬ C none) (hE : ∀ (k : Int32) (h : ZH) (n : Nat), C (some (k, h)) → zEndT G (some (.int k)) (h, n) rmL_set) : zV G 7 S 0 0 0 [(0, .ref a0), (1, .int a1), (2, .int a2), (3, .int a3), (4, .int a4), (5, .int a5)] [] (C (fL_set a0 a1 a2 a3 a4 a5 S)) := by
  unfold fL_set
  refine zr_aload_n h0 dL_set_0 rfl (n := 1) rfl ?_
  refine zr_iload_n h0 dL_set_1 rfl (n := 2) rfl ?_
  refine zr_iload_n h0 dL_set_2 rfl (n := 3) rfl ?_
  refine zr_iload_n h0 dL_set_3 rfl (n := 4) rfl ?_
  refine zr_iload h0 dL_set_4 rfl (n := 6) rfl ?_
  refine zr_iload h0 dL_set_6 rfl (n := 8) rfl ?_
  refine zr_cTC hC (-99999999 : Int32) (fun v => some (.int v)) ["java/lang/IndexOutOfBoundsException", "java/lang/IllegalArgumentException"] (hh := [(0, 11, 12, 34), (0, 11, 17, 14)]) 3 18 h0 htab (⟨⟨by decide, by decide, zw_291, by decide +kernel⟩, ⟨⟨by decide, by decide, zw_112, by decide +kernel⟩, trivial⟩⟩) (fun x hx => zk_VT0 h0 zcX5 (zcl_ex hx) (fun l D z0 hlt => kX5_set l D z0 hlt a0 a1 a2 a3 a4 a5 S x (zcl_of hx)) htab.fl zw_292 zw_293 zw_294 zw_1 zw_295 rfl zyX5_set (As := [.int a1, .int a2, .int a3, .int a4, .int a5]) (st := []) rfl (by decide) rfl (Nat.le_of_ble_eq_true rfl) (by decide) dL_set_8) rfl rfl (n := 11) rfl (fun j q E h n9 a hq hn => ?_) (fun x => ?_)
  · match j, hq, hn with
    | 0, hq, hn =>
      cases hq
      refine zr_astore [(0, .ref a0), (1, .int a1), (2, .int a2), (3, .int a3), (4, .int a4), (5, .int a5), (6, .ref a)] h0 dL_set_12 (by decide) rfl (n := 14) rfl ?_
      refine zr_ldc h0 zw_202 dL_set_14 (n := 16) rfl ?_
      exact zr_iretT h0 rfl dL_set_16 (hE _ _ _) (by decide) (by decide)
    | 1, hq, hn =>
      cases hq
      refine zr_astore [(0, .ref a0), (1, .int a1), (2, .int a2), (3, .int a3), (4, .int a4), (5, .int a5), (6, .ref a)] h0 dL_set_17 (by decide) rfl (n := 19) rfl ?_
      refine zr_ldc h0 zw_202 dL_set_19 (n := 21) rfl ?_
      exact zr_iretT h0 rfl dL_set_21 (hE _ _ _) (by decide) (by decide)
    | j + 2, hq, hn => simp at hq
  exact zr_iretT h0 rfl dL_set_11 (fun h => hE _ _ _ h) (by decide) (by decide)
theorem kL_set (l : Launch) (D : ZD) (z0 : Nat) (hlt : l.stackTraces = false) (a0 : Nat) (a1 : Int32) (a2 : Int32) (a3 : Int32) (a4 : Int32) (a5 : Int32) (S : ZS) (x : Int32 × ZH) (hf : fL_set a0 a1 a2 a3 a4 a5 S = some x) : zMetW l D z0 yL_set cL_set 7 (some .int) [(0, 11, 12, 34), (0, 11, 17, 14)] rmL_set [.ref a0, .int a1, .int a2, .int a3, .int a4, .int a5] S (.int x.1) x.2 :=
  zMetW_of hlt (by decide) (Nat.le_of_ble_eq_true rfl) (fun G h0 htab hE => wL_set a0 a1 a2 a3 a4 a5 S h0 htab (fun o => o = some x) (fun h => nomatch h) (fun k h n hh => by cases hh; exact hE n)) hf
theorem dL_move_0 : decode cL_move 0 = .ok (.aload_n 0, 1) := by decide +kernel
theorem dL_move_1 : decode cL_move 1 = .ok (.iload_n 1, 1) := by decide +kernel
theorem dL_move_2 : decode cL_move 2 = .ok (.iload_n 2, 1) := by decide +kernel
theorem dL_move_3 : decode cL_move 3 = .ok (.iload_n 3, 1) := by decide +kernel
theorem dL_move_4 : decode cL_move 4 = .ok (.iload 4, 2) := by decide +kernel
theorem dL_move_6 : decode cL_move 6 = .ok (.iload 5, 2) := by decide +kernel
theorem dL_move_8 : decode cL_move 8 = .ok (.invokevirtual 36, 3) := by decide +kernel
theorem dL_move_11 : decode cL_move 11 = .ok (.ireturn, 1) := by decide +kernel
theorem dL_move_12 : decode cL_move 12 = .ok (.astore 6, 2) := by decide +kernel
theorem dL_move_14 : decode cL_move 14 = .ok (.ldc 16, 2) := by decide +kernel
theorem dL_move_16 : decode cL_move 16 = .ok (.ireturn, 1) := by decide +kernel
theorem dL_move_17 : decode cL_move 17 = .ok (.astore 6, 2) := by decide +kernel
theorem dL_move_19 : decode cL_move 19 = .ok (.ldc 16, 2) := by decide +kernel
theorem dL_move_21 : decode cL_move 21 = .ok (.ireturn, 1) := by decide +kernel
abbrev rmL_move : Room := { frames := 8, cells := 5, slots := 30, locals := 146 }
theorem zyL_move : zyOK yL_move 6 := ⟨by decide +kernel, by decide +kernel, by decide +kernel⟩
set_option maxHeartbeats 4000000 in
set_option maxRecDepth 100000 in
theorem wL_move {G : ZG} (a0 : Nat) (a1 : Int32) (a2 : Int32) (a3 : Int32) (a4 : Int32) (a5 : Int32) (S : ZS) (h0 : zFix G cL_move RL 7 (some .int) rmL_move) (htab : zTabIs G [(0, 11, 12, 34), (0, 11, 17, 14)]) (C : Option (Int32 × ZH) → Prop) (hC : ¬ C none) (hE : ∀ (k : Int32) (h : ZH) (n : Nat), C (some (k, h)) → zEndT G (some (.int k)) (h, n) rmL_move) : zV G 7 S 0 0 0 [(0, .ref a0), (1, .int a1), (2, .int a2), (3, .int a3), (4, .int a4), (5, .int a5)] [] (C (fL_move a0 a1 a2 a3 a4 a5 S)) := by
  unfold fL_move
  refine zr_aload_n h0 dL_move_0 rfl (n := 1) rfl ?_
  refine zr_iload_n h0 dL_move_1 rfl (n := 2) rfl ?_
  refine zr_iload_n h0 dL_move_2 rfl (n := 3) rfl ?_
  refine zr_iload_n h0 dL_move_3 rfl (n := 4) rfl ?_
  refine zr_iload h0 dL_move_4 rfl (n := 6) rfl ?_
  refine zr_iload h0 dL_move_6 rfl (n := 8) rfl ?_
  refine zr_cTC hC (-99999999 : Int32) (fun v => some (.int v)) ["java/lang/IndexOutOfBoundsException", "java/lang/IllegalArgumentException"] (hh := [(0, 11, 12, 34), (0, 11, 17, 14)]) 5 30 h0 htab (⟨⟨by decide, by decide, zw_291, by decide +kernel⟩, ⟨⟨by decide, by decide, zw_112, by decide +kernel⟩, trivial⟩⟩) (fun x hx => zk_VT0 h0 zcX5 (zcl_ex hx) (fun l D z0 hlt => kX5_move l D z0 hlt a0 a1 a2 a3 a4 a5 S x (zcl_of hx)) htab.fl zw_334 zw_335 zw_336 zw_1 zw_337 rfl zyX5_move (As := [.int a1, .int a2, .int a3, .int a4, .int a5]) (st := []) rfl (by decide) rfl (Nat.le_of_ble_eq_true rfl) (by decide) dL_move_8) rfl rfl (n := 11) rfl (fun j q E h n9 a hq hn => ?_) (fun x => ?_)
  · match j, hq, hn with
    | 0, hq, hn =>
      cases hq
      refine zr_astore [(0, .ref a0), (1, .int a1), (2, .int a2), (3, .int a3), (4, .int a4), (5, .int a5), (6, .ref a)] h0 dL_move_12 (by decide) rfl (n := 14) rfl ?_
      refine zr_ldc h0 zw_202 dL_move_14 (n := 16) rfl ?_
      exact zr_iretT h0 rfl dL_move_16 (hE _ _ _) (by decide) (by decide)
    | 1, hq, hn =>
      cases hq
      refine zr_astore [(0, .ref a0), (1, .int a1), (2, .int a2), (3, .int a3), (4, .int a4), (5, .int a5), (6, .ref a)] h0 dL_move_17 (by decide) rfl (n := 19) rfl ?_
      refine zr_ldc h0 zw_202 dL_move_19 (n := 21) rfl ?_
      exact zr_iretT h0 rfl dL_move_21 (hE _ _ _) (by decide) (by decide)
    | j + 2, hq, hn => simp at hq
  exact zr_iretT h0 rfl dL_move_11 (fun h => hE _ _ _ h) (by decide) (by decide)
theorem kL_move (l : Launch) (D : ZD) (z0 : Nat) (hlt : l.stackTraces = false) (a0 : Nat) (a1 : Int32) (a2 : Int32) (a3 : Int32) (a4 : Int32) (a5 : Int32) (S : ZS) (x : Int32 × ZH) (hf : fL_move a0 a1 a2 a3 a4 a5 S = some x) : zMetW l D z0 yL_move cL_move 7 (some .int) [(0, 11, 12, 34), (0, 11, 17, 14)] rmL_move [.ref a0, .int a1, .int a2, .int a3, .int a4, .int a5] S (.int x.1) x.2 :=
  zMetW_of hlt (by decide) (Nat.le_of_ble_eq_true rfl) (fun G h0 htab hE => wL_move a0 a1 a2 a3 a4 a5 S h0 htab (fun o => o = some x) (fun h => nomatch h) (fun k h n hh => by cases hh; exact hE n)) hf
theorem dL_sum_0 : decode cL_sum 0 = .ok (.aload_n 0, 1) := by decide +kernel
theorem dL_sum_1 : decode cL_sum 1 = .ok (.iload_n 1, 1) := by decide +kernel
theorem dL_sum_2 : decode cL_sum 2 = .ok (.iload_n 2, 1) := by decide +kernel
theorem dL_sum_3 : decode cL_sum 3 = .ok (.invokevirtual 39, 3) := by decide +kernel
theorem dL_sum_6 : decode cL_sum 6 = .ok (.ireturn, 1) := by decide +kernel
theorem dL_sum_7 : decode cL_sum 7 = .ok (.astore_n 3, 1) := by decide +kernel
theorem dL_sum_8 : decode cL_sum 8 = .ok (.ldc 16, 2) := by decide +kernel
theorem dL_sum_10 : decode cL_sum 10 = .ok (.ireturn, 1) := by decide +kernel
theorem dL_sum_11 : decode cL_sum 11 = .ok (.astore_n 3, 1) := by decide +kernel
theorem dL_sum_12 : decode cL_sum 12 = .ok (.ldc 16, 2) := by decide +kernel
theorem dL_sum_14 : decode cL_sum 14 = .ok (.ireturn, 1) := by decide +kernel
theorem dL_sum_15 : decode cL_sum 15 = .ok (.astore_n 3, 1) := by decide +kernel
theorem dL_sum_16 : decode cL_sum 16 = .ok (.ldc 16, 2) := by decide +kernel
theorem dL_sum_18 : decode cL_sum 18 = .ok (.ireturn, 1) := by decide +kernel
abbrev rmL_sum : Room := { frames := 9, cells := 7, slots := 99, locals := 170 }
theorem zyL_sum : zyOK yL_sum 3 := ⟨by decide +kernel, by decide +kernel, by decide +kernel⟩
set_option maxHeartbeats 4000000 in
set_option maxRecDepth 100000 in
theorem wL_sum {G : ZG} (a0 : Nat) (a1 : Int32) (a2 : Int32) (S : ZS) (h0 : zFix G cL_sum RL 4 (some .int) rmL_sum) (htab : zTabIs G [(0, 6, 7, 34), (0, 6, 11, 14), (0, 6, 15, 17)]) (C : Option (Int32 × ZH) → Prop) (hC : ¬ C none) (hE : ∀ (k : Int32) (h : ZH) (n : Nat), C (some (k, h)) → zEndT G (some (.int k)) (h, n) rmL_sum) : zV G 4 S 0 0 0 [(0, .ref a0), (1, .int a1), (2, .int a2)] [] (C (fL_sum a0 a1 a2 S)) := by
  unfold fL_sum
  refine zr_aload_n h0 dL_sum_0 rfl (n := 1) rfl ?_
  refine zr_iload_n h0 dL_sum_1 rfl (n := 2) rfl ?_
  refine zr_iload_n h0 dL_sum_2 rfl (n := 3) rfl ?_
  refine zr_cTC hC (-99999999 : Int32) (fun v => some (.int v)) ["java/lang/IndexOutOfBoundsException", "java/lang/IllegalArgumentException", "java/lang/IllegalStateException"] (hh := [(0, 6, 7, 34), (0, 6, 11, 14), (0, 6, 15, 17)]) 7 99 h0 htab (⟨⟨by decide, by decide, zw_291, by decide +kernel⟩, ⟨⟨by decide, by decide, zw_112, by decide +kernel⟩, ⟨⟨by decide, by decide, zw_113, by decide +kernel⟩, trivial⟩⟩⟩) (fun x hx => zk_VT0 h0 zcX5 (zcl_ex hx) (fun l D z0 hlt => kX5_sum l D z0 hlt a0 a1 a2 S x (zcl_of hx)) htab.fl zw_367 zw_368 zw_369 zw_1 zw_370 rfl zyX5_sum (As := [.int a1, .int a2]) (st := []) rfl (by decide) rfl (Nat.le_of_ble_eq_true rfl) (by decide) dL_sum_3) rfl rfl (n := 6) rfl (fun j q E h n9 a hq hn => ?_) (fun x => ?_)
  · match j, hq, hn with
    | 0, hq, hn =>
      cases hq
      refine zr_astore_n [(0, .ref a0), (1, .int a1), (2, .int a2), (3, .ref a)] h0 dL_sum_7 (by decide) rfl (n := 8) rfl ?_
      refine zr_ldc h0 zw_202 dL_sum_8 (n := 10) rfl ?_
      exact zr_iretT h0 rfl dL_sum_10 (hE _ _ _) (by decide) (by decide)
    | 1, hq, hn =>
      cases hq
      refine zr_astore_n [(0, .ref a0), (1, .int a1), (2, .int a2), (3, .ref a)] h0 dL_sum_11 (by decide) rfl (n := 12) rfl ?_
      refine zr_ldc h0 zw_202 dL_sum_12 (n := 14) rfl ?_
      exact zr_iretT h0 rfl dL_sum_14 (hE _ _ _) (by decide) (by decide)
    | 2, hq, hn =>
      cases hq
      refine zr_astore_n [(0, .ref a0), (1, .int a1), (2, .int a2), (3, .ref a)] h0 dL_sum_15 (by decide) rfl (n := 16) rfl ?_
      refine zr_ldc h0 zw_202 dL_sum_16 (n := 18) rfl ?_
      exact zr_iretT h0 rfl dL_sum_18 (hE _ _ _) (by decide) (by decide)
    | j + 3, hq, hn => simp at hq
  exact zr_iretT h0 rfl dL_sum_6 (fun h => hE _ _ _ h) (by decide) (by decide)
theorem kL_sum (l : Launch) (D : ZD) (z0 : Nat) (hlt : l.stackTraces = false) (a0 : Nat) (a1 : Int32) (a2 : Int32) (S : ZS) (x : Int32 × ZH) (hf : fL_sum a0 a1 a2 S = some x) : zMetW l D z0 yL_sum cL_sum 4 (some .int) [(0, 6, 7, 34), (0, 6, 11, 14), (0, 6, 15, 17)] rmL_sum [.ref a0, .int a1, .int a2] S (.int x.1) x.2 :=
  zMetW_of hlt (by decide) (Nat.le_of_ble_eq_true rfl) (fun G h0 htab hE => wL_sum a0 a1 a2 S h0 htab (fun o => o = some x) (fun h => nomatch h) (fun k h n hh => by cases hh; exact hE n)) hf
theorem dL_product_0 : decode cL_product 0 = .ok (.aload_n 0, 1) := by decide +kernel
theorem dL_product_1 : decode cL_product 1 = .ok (.iload_n 1, 1) := by decide +kernel
theorem dL_product_2 : decode cL_product 2 = .ok (.iload_n 2, 1) := by decide +kernel
theorem dL_product_3 : decode cL_product 3 = .ok (.invokevirtual 42, 3) := by decide +kernel
theorem dL_product_6 : decode cL_product 6 = .ok (.ireturn, 1) := by decide +kernel
theorem dL_product_7 : decode cL_product 7 = .ok (.astore_n 3, 1) := by decide +kernel
theorem dL_product_8 : decode cL_product 8 = .ok (.ldc 16, 2) := by decide +kernel
theorem dL_product_10 : decode cL_product 10 = .ok (.ireturn, 1) := by decide +kernel
theorem dL_product_11 : decode cL_product 11 = .ok (.astore_n 3, 1) := by decide +kernel
theorem dL_product_12 : decode cL_product 12 = .ok (.ldc 16, 2) := by decide +kernel
theorem dL_product_14 : decode cL_product 14 = .ok (.ireturn, 1) := by decide +kernel
theorem dL_product_15 : decode cL_product 15 = .ok (.astore_n 3, 1) := by decide +kernel
theorem dL_product_16 : decode cL_product 16 = .ok (.ldc 16, 2) := by decide +kernel
theorem dL_product_18 : decode cL_product 18 = .ok (.ireturn, 1) := by decide +kernel
abbrev rmL_product : Room := { frames := 9, cells := 7, slots := 99, locals := 170 }
theorem zyL_product : zyOK yL_product 3 := ⟨by decide +kernel, by decide +kernel, by decide +kernel⟩
set_option maxHeartbeats 4000000 in
set_option maxRecDepth 100000 in
theorem wL_product {G : ZG} (a0 : Nat) (a1 : Int32) (a2 : Int32) (S : ZS) (h0 : zFix G cL_product RL 4 (some .int) rmL_product) (htab : zTabIs G [(0, 6, 7, 34), (0, 6, 11, 14), (0, 6, 15, 17)]) (C : Option (Int32 × ZH) → Prop) (hC : ¬ C none) (hE : ∀ (k : Int32) (h : ZH) (n : Nat), C (some (k, h)) → zEndT G (some (.int k)) (h, n) rmL_product) : zV G 4 S 0 0 0 [(0, .ref a0), (1, .int a1), (2, .int a2)] [] (C (fL_product a0 a1 a2 S)) := by
  unfold fL_product
  refine zr_aload_n h0 dL_product_0 rfl (n := 1) rfl ?_
  refine zr_iload_n h0 dL_product_1 rfl (n := 2) rfl ?_
  refine zr_iload_n h0 dL_product_2 rfl (n := 3) rfl ?_
  refine zr_cTC hC (-99999999 : Int32) (fun v => some (.int v)) ["java/lang/IndexOutOfBoundsException", "java/lang/IllegalArgumentException", "java/lang/IllegalStateException"] (hh := [(0, 6, 7, 34), (0, 6, 11, 14), (0, 6, 15, 17)]) 7 99 h0 htab (⟨⟨by decide, by decide, zw_291, by decide +kernel⟩, ⟨⟨by decide, by decide, zw_112, by decide +kernel⟩, ⟨⟨by decide, by decide, zw_113, by decide +kernel⟩, trivial⟩⟩⟩) (fun x hx => zk_VT0 h0 zcX5 (zcl_ex hx) (fun l D z0 hlt => kX5_product l D z0 hlt a0 a1 a2 S x (zcl_of hx)) htab.fl zw_379 zw_380 zw_381 zw_1 zw_382 rfl zyX5_product (As := [.int a1, .int a2]) (st := []) rfl (by decide) rfl (Nat.le_of_ble_eq_true rfl) (by decide) dL_product_3) rfl rfl (n := 6) rfl (fun j q E h n9 a hq hn => ?_) (fun x => ?_)
  · match j, hq, hn with
    | 0, hq, hn =>
      cases hq
      refine zr_astore_n [(0, .ref a0), (1, .int a1), (2, .int a2), (3, .ref a)] h0 dL_product_7 (by decide) rfl (n := 8) rfl ?_
      refine zr_ldc h0 zw_202 dL_product_8 (n := 10) rfl ?_
      exact zr_iretT h0 rfl dL_product_10 (hE _ _ _) (by decide) (by decide)
    | 1, hq, hn =>
      cases hq
      refine zr_astore_n [(0, .ref a0), (1, .int a1), (2, .int a2), (3, .ref a)] h0 dL_product_11 (by decide) rfl (n := 12) rfl ?_
      refine zr_ldc h0 zw_202 dL_product_12 (n := 14) rfl ?_
      exact zr_iretT h0 rfl dL_product_14 (hE _ _ _) (by decide) (by decide)
    | 2, hq, hn =>
      cases hq
      refine zr_astore_n [(0, .ref a0), (1, .int a1), (2, .int a2), (3, .ref a)] h0 dL_product_15 (by decide) rfl (n := 16) rfl ?_
      refine zr_ldc h0 zw_202 dL_product_16 (n := 18) rfl ?_
      exact zr_iretT h0 rfl dL_product_18 (hE _ _ _) (by decide) (by decide)
    | j + 3, hq, hn => simp at hq
  exact zr_iretT h0 rfl dL_product_6 (fun h => hE _ _ _ h) (by decide) (by decide)
theorem kL_product (l : Launch) (D : ZD) (z0 : Nat) (hlt : l.stackTraces = false) (a0 : Nat) (a1 : Int32) (a2 : Int32) (S : ZS) (x : Int32 × ZH) (hf : fL_product a0 a1 a2 S = some x) : zMetW l D z0 yL_product cL_product 4 (some .int) [(0, 6, 7, 34), (0, 6, 11, 14), (0, 6, 15, 17)] rmL_product [.ref a0, .int a1, .int a2] S (.int x.1) x.2 :=
  zMetW_of hlt (by decide) (Nat.le_of_ble_eq_true rfl) (fun G h0 htab hE => wL_product a0 a1 a2 S h0 htab (fun o => o = some x) (fun h => nomatch h) (fun k h n hh => by cases hh; exact hE n)) hf
theorem dL_way_0 : decode cL_way 0 = .ok (.aload_n 0, 1) := by decide +kernel
theorem dL_way_1 : decode cL_way 1 = .ok (.iload_n 1, 1) := by decide +kernel
theorem dL_way_2 : decode cL_way 2 = .ok (.invokevirtual 45, 3) := by decide +kernel
theorem dL_way_5 : decode cL_way 5 = .ok (.ireturn, 1) := by decide +kernel
theorem dL_way_6 : decode cL_way 6 = .ok (.astore_n 2, 1) := by decide +kernel
theorem dL_way_7 : decode cL_way 7 = .ok (.ldc 16, 2) := by decide +kernel
theorem dL_way_9 : decode cL_way 9 = .ok (.ireturn, 1) := by decide +kernel
theorem dL_way_10 : decode cL_way 10 = .ok (.astore_n 2, 1) := by decide +kernel
theorem dL_way_11 : decode cL_way 11 = .ok (.ldc 16, 2) := by decide +kernel
theorem dL_way_13 : decode cL_way 13 = .ok (.ireturn, 1) := by decide +kernel
abbrev rmL_way : Room := { frames := 8, cells := 5, slots := 119, locals := 142 }
theorem zyL_way : zyOK yL_way 2 := ⟨by decide +kernel, by decide +kernel, by decide +kernel⟩
set_option maxHeartbeats 4000000 in
set_option maxRecDepth 100000 in
theorem wL_way {G : ZG} (a0 : Nat) (a1 : Int32) (S : ZS) (h0 : zFix G cL_way RL 3 (some .int) rmL_way) (htab : zTabIs G [(0, 5, 6, 34), (0, 5, 10, 17)]) (C : Option (Int32 × ZH) → Prop) (hC : ¬ C none) (hE : ∀ (k : Int32) (h : ZH) (n : Nat), C (some (k, h)) → zEndT G (some (.int k)) (h, n) rmL_way) : zV G 3 S 0 0 0 [(0, .ref a0), (1, .int a1)] [] (C (fL_way a0 a1 S)) := by
  unfold fL_way
  refine zr_aload_n h0 dL_way_0 rfl (n := 1) rfl ?_
  refine zr_iload_n h0 dL_way_1 rfl (n := 2) rfl ?_
  refine zr_cTC hC (-99999999 : Int32) (fun v => some (.int v)) ["java/lang/IndexOutOfBoundsException", "java/lang/IllegalStateException"] (hh := [(0, 5, 6, 34), (0, 5, 10, 17)]) 5 119 h0 htab (⟨⟨by decide, by decide, zw_291, by decide +kernel⟩, ⟨⟨by decide, by decide, zw_113, by decide +kernel⟩, trivial⟩⟩) (fun x hx => zk_VT0 h0 zcX5 (zcl_ex hx) (fun l D z0 hlt => kX5_way l D z0 hlt a0 a1 S x (zcl_of hx)) htab.fl zw_392 zw_393 zw_394 zw_1 zw_395 rfl zyX5_way (As := [.int a1]) (st := []) rfl (by decide) rfl (Nat.le_of_ble_eq_true rfl) (by decide) dL_way_2) rfl rfl (n := 5) rfl (fun j q E h n9 a hq hn => ?_) (fun x => ?_)
  · match j, hq, hn with
    | 0, hq, hn =>
      cases hq
      refine zr_astore_n [(0, .ref a0), (1, .int a1), (2, .ref a)] h0 dL_way_6 (by decide) rfl (n := 7) rfl ?_
      refine zr_ldc h0 zw_202 dL_way_7 (n := 9) rfl ?_
      exact zr_iretT h0 rfl dL_way_9 (hE _ _ _) (by decide) (by decide)
    | 1, hq, hn =>
      cases hq
      refine zr_astore_n [(0, .ref a0), (1, .int a1), (2, .ref a)] h0 dL_way_10 (by decide) rfl (n := 11) rfl ?_
      refine zr_ldc h0 zw_202 dL_way_11 (n := 13) rfl ?_
      exact zr_iretT h0 rfl dL_way_13 (hE _ _ _) (by decide) (by decide)
    | j + 2, hq, hn => simp at hq
  exact zr_iretT h0 rfl dL_way_5 (fun h => hE _ _ _ h) (by decide) (by decide)
theorem kL_way (l : Launch) (D : ZD) (z0 : Nat) (hlt : l.stackTraces = false) (a0 : Nat) (a1 : Int32) (S : ZS) (x : Int32 × ZH) (hf : fL_way a0 a1 S = some x) : zMetW l D z0 yL_way cL_way 3 (some .int) [(0, 5, 6, 34), (0, 5, 10, 17)] rmL_way [.ref a0, .int a1] S (.int x.1) x.2 :=
  zMetW_of hlt (by decide) (Nat.le_of_ble_eq_true rfl) (fun G h0 htab hE => wL_way a0 a1 S h0 htab (fun o => o = some x) (fun h => nomatch h) (fun k h n hh => by cases hh; exact hE n)) hf
theorem dL_multiply_0 : decode cL_multiply 0 = .ok (.aload_n 0, 1) := by decide +kernel
theorem dL_multiply_1 : decode cL_multiply 1 = .ok (.iload_n 1, 1) := by decide +kernel
theorem dL_multiply_2 : decode cL_multiply 2 = .ok (.iload_n 2, 1) := by decide +kernel
theorem dL_multiply_3 : decode cL_multiply 3 = .ok (.iload_n 3, 1) := by decide +kernel
theorem dL_multiply_4 : decode cL_multiply 4 = .ok (.iload 4, 2) := by decide +kernel
theorem dL_multiply_6 : decode cL_multiply 6 = .ok (.invokevirtual 48, 3) := by decide +kernel
theorem dL_multiply_9 : decode cL_multiply 9 = .ok (.ireturn, 1) := by decide +kernel
theorem dL_multiply_10 : decode cL_multiply 10 = .ok (.astore 5, 2) := by decide +kernel
theorem dL_multiply_12 : decode cL_multiply 12 = .ok (.ldc 16, 2) := by decide +kernel
theorem dL_multiply_14 : decode cL_multiply 14 = .ok (.ireturn, 1) := by decide +kernel
theorem dL_multiply_15 : decode cL_multiply 15 = .ok (.astore 5, 2) := by decide +kernel
theorem dL_multiply_17 : decode cL_multiply 17 = .ok (.ldc 16, 2) := by decide +kernel
theorem dL_multiply_19 : decode cL_multiply 19 = .ok (.ireturn, 1) := by decide +kernel
theorem dL_multiply_20 : decode cL_multiply 20 = .ok (.astore 5, 2) := by decide +kernel
theorem dL_multiply_22 : decode cL_multiply 22 = .ok (.ldc 16, 2) := by decide +kernel
theorem dL_multiply_24 : decode cL_multiply 24 = .ok (.ireturn, 1) := by decide +kernel
abbrev rmL_multiply : Room := { frames := 8, cells := 5, slots := 30, locals := 145 }
theorem zyL_multiply : zyOK yL_multiply 5 := ⟨by decide +kernel, by decide +kernel, by decide +kernel⟩
set_option maxHeartbeats 4000000 in
set_option maxRecDepth 100000 in
theorem wL_multiply {G : ZG} (a0 : Nat) (a1 : Int32) (a2 : Int32) (a3 : Int32) (a4 : Int32) (S : ZS) (h0 : zFix G cL_multiply RL 6 (some .int) rmL_multiply) (htab : zTabIs G [(0, 9, 10, 34), (0, 9, 15, 14), (0, 9, 20, 17)]) (C : Option (Int32 × ZH) → Prop) (hC : ¬ C none) (hE : ∀ (k : Int32) (h : ZH) (n : Nat), C (some (k, h)) → zEndT G (some (.int k)) (h, n) rmL_multiply) : zV G 6 S 0 0 0 [(0, .ref a0), (1, .int a1), (2, .int a2), (3, .int a3), (4, .int a4)] [] (C (fL_multiply a0 a1 a2 a3 a4 S)) := by
  unfold fL_multiply
  refine zr_aload_n h0 dL_multiply_0 rfl (n := 1) rfl ?_
  refine zr_iload_n h0 dL_multiply_1 rfl (n := 2) rfl ?_
  refine zr_iload_n h0 dL_multiply_2 rfl (n := 3) rfl ?_
  refine zr_iload_n h0 dL_multiply_3 rfl (n := 4) rfl ?_
  refine zr_iload h0 dL_multiply_4 rfl (n := 6) rfl ?_
  refine zr_cTC hC (-99999999 : Int32) (fun v => some (.int v)) ["java/lang/IndexOutOfBoundsException", "java/lang/IllegalArgumentException", "java/lang/IllegalStateException"] (hh := [(0, 9, 10, 34), (0, 9, 15, 14), (0, 9, 20, 17)]) 5 30 h0 htab (⟨⟨by decide, by decide, zw_291, by decide +kernel⟩, ⟨⟨by decide, by decide, zw_112, by decide +kernel⟩, ⟨⟨by decide, by decide, zw_113, by decide +kernel⟩, trivial⟩⟩⟩) (fun x hx => zk_VT0 h0 zcX5 (zcl_ex hx) (fun l D z0 hlt => kX5_multiply l D z0 hlt a0 a1 a2 a3 a4 S x (zcl_of hx)) htab.fl zw_426 zw_427 zw_428 zw_1 zw_429 rfl zyX5_multiply (As := [.int a1, .int a2, .int a3, .int a4]) (st := []) rfl (by decide) rfl (Nat.le_of_ble_eq_true rfl) (by decide) dL_multiply_6) rfl rfl (n := 9) rfl (fun j q E h n9 a hq hn => ?_) (fun x => ?_)
  · match j, hq, hn with
    | 0, hq, hn =>
      cases hq
      refine zr_astore [(0, .ref a0), (1, .int a1), (2, .int a2), (3, .int a3), (4, .int a4), (5, .ref a)] h0 dL_multiply_10 (by decide) rfl (n := 12) rfl ?_
      refine zr_ldc h0 zw_202 dL_multiply_12 (n := 14) rfl ?_
      exact zr_iretT h0 rfl dL_multiply_14 (hE _ _ _) (by decide) (by decide)
    | 1, hq, hn =>
      cases hq
      refine zr_astore [(0, .ref a0), (1, .int a1), (2, .int a2), (3, .int a3), (4, .int a4), (5, .ref a)] h0 dL_multiply_15 (by decide) rfl (n := 17) rfl ?_
      refine zr_ldc h0 zw_202 dL_multiply_17 (n := 19) rfl ?_
      exact zr_iretT h0 rfl dL_multiply_19 (hE _ _ _) (by decide) (by decide)
    | 2, hq, hn =>
      cases hq
      refine zr_astore [(0, .ref a0), (1, .int a1), (2, .int a2), (3, .int a3), (4, .int a4), (5, .ref a)] h0 dL_multiply_20 (by decide) rfl (n := 22) rfl ?_
      refine zr_ldc h0 zw_202 dL_multiply_22 (n := 24) rfl ?_
      exact zr_iretT h0 rfl dL_multiply_24 (hE _ _ _) (by decide) (by decide)
    | j + 3, hq, hn => simp at hq
  exact zr_iretT h0 rfl dL_multiply_9 (fun h => hE _ _ _ h) (by decide) (by decide)
theorem kL_multiply (l : Launch) (D : ZD) (z0 : Nat) (hlt : l.stackTraces = false) (a0 : Nat) (a1 : Int32) (a2 : Int32) (a3 : Int32) (a4 : Int32) (S : ZS) (x : Int32 × ZH) (hf : fL_multiply a0 a1 a2 a3 a4 S = some x) : zMetW l D z0 yL_multiply cL_multiply 6 (some .int) [(0, 9, 10, 34), (0, 9, 15, 14), (0, 9, 20, 17)] rmL_multiply [.ref a0, .int a1, .int a2, .int a3, .int a4] S (.int x.1) x.2 :=
  zMetW_of hlt (by decide) (Nat.le_of_ble_eq_true rfl) (fun G h0 htab hE => wL_multiply a0 a1 a2 a3 a4 S h0 htab (fun o => o = some x) (fun h => nomatch h) (fun k h n hh => by cases hh; exact hE n)) hf
theorem dL_plain_0 : decode cL_plain 0 = .ok (.aload_n 0, 1) := by decide +kernel
theorem dL_plain_1 : decode cL_plain 1 = .ok (.iload_n 1, 1) := by decide +kernel
theorem dL_plain_2 : decode cL_plain 2 = .ok (.invokevirtual 52, 3) := by decide +kernel
theorem dL_plain_5 : decode cL_plain 5 = .ok (.ireturn, 1) := by decide +kernel
theorem dL_plain_6 : decode cL_plain 6 = .ok (.astore_n 2, 1) := by decide +kernel
theorem dL_plain_7 : decode cL_plain 7 = .ok (.ldc 16, 2) := by decide +kernel
theorem dL_plain_9 : decode cL_plain 9 = .ok (.ireturn, 1) := by decide +kernel
theorem dL_plain_10 : decode cL_plain 10 = .ok (.astore_n 2, 1) := by decide +kernel
theorem dL_plain_11 : decode cL_plain 11 = .ok (.ldc 16, 2) := by decide +kernel
theorem dL_plain_13 : decode cL_plain 13 = .ok (.ireturn, 1) := by decide +kernel
abbrev rmL_plain : Room := { frames := 8, cells := 2, slots := 12, locals := 142 }
theorem zyL_plain : zyOK yL_plain 2 := ⟨by decide +kernel, by decide +kernel, by decide +kernel⟩
set_option maxHeartbeats 4000000 in
set_option maxRecDepth 100000 in
theorem wL_plain {G : ZG} (a0 : Nat) (a1 : Int32) (S : ZS) (h0 : zFix G cL_plain RL 3 (some .int) rmL_plain) (htab : zTabIs G [(0, 5, 6, 34), (0, 5, 10, 17)]) (C : Option (Int32 × ZH) → Prop) (hC : ¬ C none) (hE : ∀ (k : Int32) (h : ZH) (n : Nat), C (some (k, h)) → zEndT G (some (.int k)) (h, n) rmL_plain) : zV G 3 S 0 0 0 [(0, .ref a0), (1, .int a1)] [] (C (fL_plain a0 a1 S)) := by
  unfold fL_plain
  refine zr_aload_n h0 dL_plain_0 rfl (n := 1) rfl ?_
  refine zr_iload_n h0 dL_plain_1 rfl (n := 2) rfl ?_
  refine zr_cTC hC (-99999999 : Int32) (fun v => some (.int v)) ["java/lang/IndexOutOfBoundsException", "java/lang/IllegalStateException"] (hh := [(0, 5, 6, 34), (0, 5, 10, 17)]) 2 12 h0 htab (⟨⟨by decide, by decide, zw_291, by decide +kernel⟩, ⟨⟨by decide, by decide, zw_113, by decide +kernel⟩, trivial⟩⟩) (fun x hx => zk_VT0 h0 zcX5 (zcl_ex hx) (fun l D z0 hlt => kX5_plain l D z0 hlt a0 a1 S x (zcl_of hx)) htab.fl zw_458 zw_459 zw_460 zw_1 zw_461 rfl zyX5_plain (As := [.int a1]) (st := []) rfl (by decide) rfl (Nat.le_of_ble_eq_true rfl) (by decide) dL_plain_2) rfl rfl (n := 5) rfl (fun j q E h n9 a hq hn => ?_) (fun x => ?_)
  · match j, hq, hn with
    | 0, hq, hn =>
      cases hq
      refine zr_astore_n [(0, .ref a0), (1, .int a1), (2, .ref a)] h0 dL_plain_6 (by decide) rfl (n := 7) rfl ?_
      refine zr_ldc h0 zw_202 dL_plain_7 (n := 9) rfl ?_
      exact zr_iretT h0 rfl dL_plain_9 (hE _ _ _) (by decide) (by decide)
    | 1, hq, hn =>
      cases hq
      refine zr_astore_n [(0, .ref a0), (1, .int a1), (2, .ref a)] h0 dL_plain_10 (by decide) rfl (n := 11) rfl ?_
      refine zr_ldc h0 zw_202 dL_plain_11 (n := 13) rfl ?_
      exact zr_iretT h0 rfl dL_plain_13 (hE _ _ _) (by decide) (by decide)
    | j + 2, hq, hn => simp at hq
  exact zr_iretT h0 rfl dL_plain_5 (fun h => hE _ _ _ h) (by decide) (by decide)
theorem kL_plain (l : Launch) (D : ZD) (z0 : Nat) (hlt : l.stackTraces = false) (a0 : Nat) (a1 : Int32) (S : ZS) (x : Int32 × ZH) (hf : fL_plain a0 a1 S = some x) : zMetW l D z0 yL_plain cL_plain 3 (some .int) [(0, 5, 6, 34), (0, 5, 10, 17)] rmL_plain [.ref a0, .int a1] S (.int x.1) x.2 :=
  zMetW_of hlt (by decide) (Nat.le_of_ble_eq_true rfl) (fun G h0 htab hE => wL_plain a0 a1 S h0 htab (fun o => o = some x) (fun h => nomatch h) (fun k h n hh => by cases hh; exact hE n)) hf
theorem dL_flip_0 : decode cL_flip 0 = .ok (.aload_n 0, 1) := by decide +kernel
theorem dL_flip_1 : decode cL_flip 1 = .ok (.iload_n 1, 1) := by decide +kernel
theorem dL_flip_2 : decode cL_flip 2 = .ok (.iload_n 2, 1) := by decide +kernel
theorem dL_flip_3 : decode cL_flip 3 = .ok (.iload_n 3, 1) := by decide +kernel
theorem dL_flip_4 : decode cL_flip 4 = .ok (.iload 4, 2) := by decide +kernel
theorem dL_flip_6 : decode cL_flip 6 = .ok (.invokevirtual 55, 3) := by decide +kernel
theorem dL_flip_9 : decode cL_flip 9 = .ok (.iconst 0, 1) := by decide +kernel
theorem dL_flip_10 : decode cL_flip 10 = .ok (.ireturn, 1) := by decide +kernel
theorem dL_flip_11 : decode cL_flip 11 = .ok (.astore 5, 2) := by decide +kernel
theorem dL_flip_13 : decode cL_flip 13 = .ok (.ldc 16, 2) := by decide +kernel
theorem dL_flip_15 : decode cL_flip 15 = .ok (.ireturn, 1) := by decide +kernel
theorem dL_flip_16 : decode cL_flip 16 = .ok (.astore 5, 2) := by decide +kernel
theorem dL_flip_18 : decode cL_flip 18 = .ok (.ldc 16, 2) := by decide +kernel
theorem dL_flip_20 : decode cL_flip 20 = .ok (.ireturn, 1) := by decide +kernel
theorem dL_flip_21 : decode cL_flip 21 = .ok (.astore 5, 2) := by decide +kernel
theorem dL_flip_23 : decode cL_flip 23 = .ok (.ldc 16, 2) := by decide +kernel
theorem dL_flip_25 : decode cL_flip 25 = .ok (.ireturn, 1) := by decide +kernel
abbrev rmL_flip : Room := { frames := 8, cells := 5, slots := 30, locals := 155 }
theorem zyL_flip : zyOK yL_flip 5 := ⟨by decide +kernel, by decide +kernel, by decide +kernel⟩
set_option maxHeartbeats 4000000 in
set_option maxRecDepth 100000 in
theorem wL_flip {G : ZG} (a0 : Nat) (a1 : Int32) (a2 : Int32) (a3 : Int32) (a4 : Int32) (S : ZS) (h0 : zFix G cL_flip RL 6 (some .int) rmL_flip) (htab : zTabIs G [(0, 10, 11, 34), (0, 10, 16, 14), (0, 10, 21, 17)]) (C : Option (Int32 × ZH) → Prop) (hC : ¬ C none) (hE : ∀ (k : Int32) (h : ZH) (n : Nat), C (some (k, h)) → zEndT G (some (.int k)) (h, n) rmL_flip) : zV G 6 S 0 0 0 [(0, .ref a0), (1, .int a1), (2, .int a2), (3, .int a3), (4, .int a4)] [] (C (fL_flip a0 a1 a2 a3 a4 S)) := by
  unfold fL_flip
  refine zr_aload_n h0 dL_flip_0 rfl (n := 1) rfl ?_
  refine zr_iload_n h0 dL_flip_1 rfl (n := 2) rfl ?_
  refine zr_iload_n h0 dL_flip_2 rfl (n := 3) rfl ?_
  refine zr_iload_n h0 dL_flip_3 rfl (n := 4) rfl ?_
  refine zr_iload h0 dL_flip_4 rfl (n := 6) rfl ?_
  refine zr_cTC hC (-99999999 : Int32) (fun _ => none) ["java/lang/IndexOutOfBoundsException", "java/lang/IllegalArgumentException", "java/lang/IllegalStateException"] (hh := [(0, 10, 11, 34), (0, 10, 16, 14), (0, 10, 21, 17)]) 5 30 h0 htab (⟨⟨by decide, by decide, zw_291, by decide +kernel⟩, ⟨⟨by decide, by decide, zw_112, by decide +kernel⟩, ⟨⟨by decide, by decide, zw_113, by decide +kernel⟩, trivial⟩⟩⟩) (fun x hx => zk_VT0 h0 zcX5 (zcl_ex hx) (fun l D z0 hlt => kX5_flip l D z0 hlt a0 a1 a2 a3 a4 S x (zcl_of hx)) htab.fl zw_474 zw_475 zw_476 zw_1 zw_477 rfl zyX5_flip (As := [.int a1, .int a2, .int a3, .int a4]) (st := []) rfl (by decide) rfl (Nat.le_of_ble_eq_true rfl) (by decide) dL_flip_6) rfl rfl (n := 9) rfl (fun j q E h n9 a hq hn => ?_) (fun x => ?_)
  · match j, hq, hn with
    | 0, hq, hn =>
      cases hq
      refine zr_astore [(0, .ref a0), (1, .int a1), (2, .int a2), (3, .int a3), (4, .int a4), (5, .ref a)] h0 dL_flip_11 (by decide) rfl (n := 13) rfl ?_
      refine zr_ldc h0 zw_202 dL_flip_13 (n := 15) rfl ?_
      exact zr_iretT h0 rfl dL_flip_15 (hE _ _ _) (by decide) (by decide)
    | 1, hq, hn =>
      cases hq
      refine zr_astore [(0, .ref a0), (1, .int a1), (2, .int a2), (3, .int a3), (4, .int a4), (5, .ref a)] h0 dL_flip_16 (by decide) rfl (n := 18) rfl ?_
      refine zr_ldc h0 zw_202 dL_flip_18 (n := 20) rfl ?_
      exact zr_iretT h0 rfl dL_flip_20 (hE _ _ _) (by decide) (by decide)
    | 2, hq, hn =>
      cases hq
      refine zr_astore [(0, .ref a0), (1, .int a1), (2, .int a2), (3, .int a3), (4, .int a4), (5, .ref a)] h0 dL_flip_21 (by decide) rfl (n := 23) rfl ?_
      refine zr_ldc h0 zw_202 dL_flip_23 (n := 25) rfl ?_
      exact zr_iretT h0 rfl dL_flip_25 (hE _ _ _) (by decide) (by decide)
    | j + 3, hq, hn => simp at hq
  refine zr_iconst (0 : Int32) h0 (by decide) dL_flip_9 (n := 10) rfl ?_
  exact zr_iretT h0 rfl dL_flip_10 (fun h => hE _ _ _ h) (by decide) (by decide)
theorem kL_flip (l : Launch) (D : ZD) (z0 : Nat) (hlt : l.stackTraces = false) (a0 : Nat) (a1 : Int32) (a2 : Int32) (a3 : Int32) (a4 : Int32) (S : ZS) (x : Int32 × ZH) (hf : fL_flip a0 a1 a2 a3 a4 S = some x) : zMetW l D z0 yL_flip cL_flip 6 (some .int) [(0, 10, 11, 34), (0, 10, 16, 14), (0, 10, 21, 17)] rmL_flip [.ref a0, .int a1, .int a2, .int a3, .int a4] S (.int x.1) x.2 :=
  zMetW_of hlt (by decide) (Nat.le_of_ble_eq_true rfl) (fun G h0 htab hE => wL_flip a0 a1 a2 a3 a4 S h0 htab (fun o => o = some x) (fun h => nomatch h) (fun k h n hh => by cases hh; exact hE n)) hf
theorem dL_reduce_0 : decode cL_reduce 0 = .ok (.aload_n 0, 1) := by decide +kernel
theorem dL_reduce_1 : decode cL_reduce 1 = .ok (.iload_n 1, 1) := by decide +kernel
theorem dL_reduce_2 : decode cL_reduce 2 = .ok (.invokevirtual 59, 3) := by decide +kernel
theorem dL_reduce_5 : decode cL_reduce 5 = .ok (.ireturn, 1) := by decide +kernel
theorem dL_reduce_6 : decode cL_reduce 6 = .ok (.astore_n 2, 1) := by decide +kernel
theorem dL_reduce_7 : decode cL_reduce 7 = .ok (.ldc 16, 2) := by decide +kernel
theorem dL_reduce_9 : decode cL_reduce 9 = .ok (.ireturn, 1) := by decide +kernel
abbrev rmL_reduce : Room := { frames := 8, cells := 1, slots := 6, locals := 171 }
theorem zyL_reduce : zyOK yL_reduce 2 := ⟨by decide +kernel, by decide +kernel, by decide +kernel⟩
set_option maxHeartbeats 4000000 in
set_option maxRecDepth 100000 in
theorem wL_reduce {G : ZG} (a0 : Nat) (a1 : Int32) (S : ZS) (h0 : zFix G cL_reduce RL 3 (some .int) rmL_reduce) (htab : zTabIs G [(0, 5, 6, 34)]) (C : Option (Int32 × ZH) → Prop) (hC : ¬ C none) (hE : ∀ (k : Int32) (h : ZH) (n : Nat), C (some (k, h)) → zEndT G (some (.int k)) (h, n) rmL_reduce) : zV G 3 S 0 0 0 [(0, .ref a0), (1, .int a1)] [] (C (fL_reduce a0 a1 S)) := by
  unfold fL_reduce
  refine zr_aload_n h0 dL_reduce_0 rfl (n := 1) rfl ?_
  refine zr_iload_n h0 dL_reduce_1 rfl (n := 2) rfl ?_
  refine zr_cTC hC (-99999999 : Int32) (fun v => some (.int v)) ["java/lang/IndexOutOfBoundsException"] (hh := [(0, 5, 6, 34)]) 1 6 h0 htab (⟨⟨by decide, by decide, zw_291, by decide +kernel⟩, trivial⟩) (fun x hx => zk_VT0 h0 zcX5 (zcl_ex hx) (fun l D z0 hlt => kX5_reduce l D z0 hlt a0 a1 S x (zcl_of hx)) htab.fl zw_515 zw_516 zw_517 zw_1 zw_518 rfl zyX5_reduce (As := [.int a1]) (st := []) rfl (by decide) rfl (Nat.le_of_ble_eq_true rfl) (by decide) dL_reduce_2) rfl rfl (n := 5) rfl (fun j q E h n9 a hq hn => ?_) (fun x => ?_)
  · match j, hq, hn with
    | 0, hq, hn =>
      cases hq
      refine zr_astore_n [(0, .ref a0), (1, .int a1), (2, .ref a)] h0 dL_reduce_6 (by decide) rfl (n := 7) rfl ?_
      refine zr_ldc h0 zw_202 dL_reduce_7 (n := 9) rfl ?_
      exact zr_iretT h0 rfl dL_reduce_9 (hE _ _ _) (by decide) (by decide)
    | j + 1, hq, hn => simp at hq
  exact zr_iretT h0 rfl dL_reduce_5 (fun h => hE _ _ _ h) (by decide) (by decide)
theorem kL_reduce (l : Launch) (D : ZD) (z0 : Nat) (hlt : l.stackTraces = false) (a0 : Nat) (a1 : Int32) (S : ZS) (x : Int32 × ZH) (hf : fL_reduce a0 a1 S = some x) : zMetW l D z0 yL_reduce cL_reduce 3 (some .int) [(0, 5, 6, 34)] rmL_reduce [.ref a0, .int a1] S (.int x.1) x.2 :=
  zMetW_of hlt (by decide) (Nat.le_of_ble_eq_true rfl) (fun G h0 htab hE => wL_reduce a0 a1 S h0 htab (fun o => o = some x) (fun h => nomatch h) (fun k h n hh => by cases hh; exact hE n)) hf
theorem dL_walk_0 : decode cL_walk 0 = .ok (.aload_n 0, 1) := by decide +kernel
theorem dL_walk_1 : decode cL_walk 1 = .ok (.iload_n 1, 1) := by decide +kernel
theorem dL_walk_2 : decode cL_walk 2 = .ok (.iload_n 2, 1) := by decide +kernel
theorem dL_walk_3 : decode cL_walk 3 = .ok (.iload_n 3, 1) := by decide +kernel
theorem dL_walk_4 : decode cL_walk 4 = .ok (.invokevirtual 62, 3) := by decide +kernel
theorem dL_walk_7 : decode cL_walk 7 = .ok (.ireturn, 1) := by decide +kernel
theorem dL_walk_8 : decode cL_walk 8 = .ok (.astore 4, 2) := by decide +kernel
theorem dL_walk_10 : decode cL_walk 10 = .ok (.ldc 16, 2) := by decide +kernel
theorem dL_walk_12 : decode cL_walk 12 = .ok (.ireturn, 1) := by decide +kernel
theorem dL_walk_13 : decode cL_walk 13 = .ok (.astore 4, 2) := by decide +kernel
theorem dL_walk_15 : decode cL_walk 15 = .ok (.ldc 16, 2) := by decide +kernel
theorem dL_walk_17 : decode cL_walk 17 = .ok (.ireturn, 1) := by decide +kernel
abbrev rmL_walk : Room := { frames := 8, cells := 2, slots := 12, locals := 202 }
theorem zyL_walk : zyOK yL_walk 4 := ⟨by decide +kernel, by decide +kernel, by decide +kernel⟩
set_option maxHeartbeats 4000000 in
set_option maxRecDepth 100000 in
theorem wL_walk {G : ZG} (a0 : Nat) (a1 : Int32) (a2 : Int32) (a3 : Int32) (S : ZS) (h0 : zFix G cL_walk RL 5 (some .int) rmL_walk) (htab : zTabIs G [(0, 7, 8, 34), (0, 7, 13, 14)]) (C : Option (Int32 × ZH) → Prop) (hC : ¬ C none) (hE : ∀ (k : Int32) (h : ZH) (n : Nat), C (some (k, h)) → zEndT G (some (.int k)) (h, n) rmL_walk) : zV G 5 S 0 0 0 [(0, .ref a0), (1, .int a1), (2, .int a2), (3, .int a3)] [] (C (fL_walk a0 a1 a2 a3 S)) := by
  unfold fL_walk
  refine zr_aload_n h0 dL_walk_0 rfl (n := 1) rfl ?_
  refine zr_iload_n h0 dL_walk_1 rfl (n := 2) rfl ?_
  refine zr_iload_n h0 dL_walk_2 rfl (n := 3) rfl ?_
  refine zr_iload_n h0 dL_walk_3 rfl (n := 4) rfl ?_
  refine zr_cTC hC (-99999999 : Int32) (fun v => some (.int v)) ["java/lang/IndexOutOfBoundsException", "java/lang/IllegalArgumentException"] (hh := [(0, 7, 8, 34), (0, 7, 13, 14)]) 2 12 h0 htab (⟨⟨by decide, by decide, zw_291, by decide +kernel⟩, ⟨⟨by decide, by decide, zw_112, by decide +kernel⟩, trivial⟩⟩) (fun x hx => zk_VT0 h0 zcX5 (zcl_ex hx) (fun l D z0 hlt => kX5_walk l D z0 hlt a0 a1 a2 a3 S x (zcl_of hx)) htab.fl zw_547 zw_548 zw_549 zw_1 zw_550 rfl zyX5_walk (As := [.int a1, .int a2, .int a3]) (st := []) rfl (by decide) rfl (Nat.le_of_ble_eq_true rfl) (by decide) dL_walk_4) rfl rfl (n := 7) rfl (fun j q E h n9 a hq hn => ?_) (fun x => ?_)
  · match j, hq, hn with
    | 0, hq, hn =>
      cases hq
      refine zr_astore [(0, .ref a0), (1, .int a1), (2, .int a2), (3, .int a3), (4, .ref a)] h0 dL_walk_8 (by decide) rfl (n := 10) rfl ?_
      refine zr_ldc h0 zw_202 dL_walk_10 (n := 12) rfl ?_
      exact zr_iretT h0 rfl dL_walk_12 (hE _ _ _) (by decide) (by decide)
    | 1, hq, hn =>
      cases hq
      refine zr_astore [(0, .ref a0), (1, .int a1), (2, .int a2), (3, .int a3), (4, .ref a)] h0 dL_walk_13 (by decide) rfl (n := 15) rfl ?_
      refine zr_ldc h0 zw_202 dL_walk_15 (n := 17) rfl ?_
      exact zr_iretT h0 rfl dL_walk_17 (hE _ _ _) (by decide) (by decide)
    | j + 2, hq, hn => simp at hq
  exact zr_iretT h0 rfl dL_walk_7 (fun h => hE _ _ _ h) (by decide) (by decide)
theorem kL_walk (l : Launch) (D : ZD) (z0 : Nat) (hlt : l.stackTraces = false) (a0 : Nat) (a1 : Int32) (a2 : Int32) (a3 : Int32) (S : ZS) (x : Int32 × ZH) (hf : fL_walk a0 a1 a2 a3 S = some x) : zMetW l D z0 yL_walk cL_walk 5 (some .int) [(0, 7, 8, 34), (0, 7, 13, 14)] rmL_walk [.ref a0, .int a1, .int a2, .int a3] S (.int x.1) x.2 :=
  zMetW_of hlt (by decide) (Nat.le_of_ble_eq_true rfl) (fun G h0 htab hE => wL_walk a0 a1 a2 a3 S h0 htab (fun o => o = some x) (fun h => nomatch h) (fun k h n hh => by cases hh; exact hE n)) hf
theorem dL_at_0 : decode cL_at 0 = .ok (.aload_n 0, 1) := by decide +kernel
theorem dL_at_1 : decode cL_at 1 = .ok (.iload_n 1, 1) := by decide +kernel
theorem dL_at_2 : decode cL_at 2 = .ok (.iload_n 2, 1) := by decide +kernel
theorem dL_at_3 : decode cL_at 3 = .ok (.iload_n 3, 1) := by decide +kernel
theorem dL_at_4 : decode cL_at 4 = .ok (.iload 4, 2) := by decide +kernel
theorem dL_at_6 : decode cL_at 6 = .ok (.invokevirtual 65, 3) := by decide +kernel
theorem dL_at_9 : decode cL_at 9 = .ok (.ireturn, 1) := by decide +kernel
theorem dL_at_10 : decode cL_at 10 = .ok (.astore 5, 2) := by decide +kernel
theorem dL_at_12 : decode cL_at 12 = .ok (.ldc 16, 2) := by decide +kernel
theorem dL_at_14 : decode cL_at 14 = .ok (.ireturn, 1) := by decide +kernel
abbrev rmL_at : Room := { frames := 8, cells := 2, slots := 12, locals := 146 }
theorem zyL_at : zyOK yL_at 5 := ⟨by decide +kernel, by decide +kernel, by decide +kernel⟩
set_option maxHeartbeats 4000000 in
set_option maxRecDepth 100000 in
theorem wL_at {G : ZG} (a0 : Nat) (a1 : Int32) (a2 : Int32) (a3 : Int32) (a4 : Int32) (S : ZS) (h0 : zFix G cL_at RL 6 (some .int) rmL_at) (htab : zTabIs G [(0, 9, 10, 34)]) (C : Option (Int32 × ZH) → Prop) (hC : ¬ C none) (hE : ∀ (k : Int32) (h : ZH) (n : Nat), C (some (k, h)) → zEndT G (some (.int k)) (h, n) rmL_at) : zV G 6 S 0 0 0 [(0, .ref a0), (1, .int a1), (2, .int a2), (3, .int a3), (4, .int a4)] [] (C (fL_at a0 a1 a2 a3 a4 S)) := by
  unfold fL_at
  refine zr_aload_n h0 dL_at_0 rfl (n := 1) rfl ?_
  refine zr_iload_n h0 dL_at_1 rfl (n := 2) rfl ?_
  refine zr_iload_n h0 dL_at_2 rfl (n := 3) rfl ?_
  refine zr_iload_n h0 dL_at_3 rfl (n := 4) rfl ?_
  refine zr_iload h0 dL_at_4 rfl (n := 6) rfl ?_
  refine zr_cTC hC (-99999999 : Int32) (fun v => some (.int v)) ["java/lang/IndexOutOfBoundsException"] (hh := [(0, 9, 10, 34)]) 2 12 h0 htab (⟨⟨by decide, by decide, zw_291, by decide +kernel⟩, trivial⟩) (fun x hx => zk_VT0 h0 zcX5 (zcl_ex hx) (fun l D z0 hlt => kX5_at l D z0 hlt a0 a1 a2 a3 a4 S x (zcl_of hx)) htab.fl zw_573 zw_574 zw_575 zw_1 zw_576 rfl zyX5_at (As := [.int a1, .int a2, .int a3, .int a4]) (st := []) rfl (by decide) rfl (Nat.le_of_ble_eq_true rfl) (by decide) dL_at_6) rfl rfl (n := 9) rfl (fun j q E h n9 a hq hn => ?_) (fun x => ?_)
  · match j, hq, hn with
    | 0, hq, hn =>
      cases hq
      refine zr_astore [(0, .ref a0), (1, .int a1), (2, .int a2), (3, .int a3), (4, .int a4), (5, .ref a)] h0 dL_at_10 (by decide) rfl (n := 12) rfl ?_
      refine zr_ldc h0 zw_202 dL_at_12 (n := 14) rfl ?_
      exact zr_iretT h0 rfl dL_at_14 (hE _ _ _) (by decide) (by decide)
    | j + 1, hq, hn => simp at hq
  exact zr_iretT h0 rfl dL_at_9 (fun h => hE _ _ _ h) (by decide) (by decide)
theorem kL_at (l : Launch) (D : ZD) (z0 : Nat) (hlt : l.stackTraces = false) (a0 : Nat) (a1 : Int32) (a2 : Int32) (a3 : Int32) (a4 : Int32) (S : ZS) (x : Int32 × ZH) (hf : fL_at a0 a1 a2 a3 a4 S = some x) : zMetW l D z0 yL_at cL_at 6 (some .int) [(0, 9, 10, 34)] rmL_at [.ref a0, .int a1, .int a2, .int a3, .int a4] S (.int x.1) x.2 :=
  zMetW_of hlt (by decide) (Nat.le_of_ble_eq_true rfl) (fun G h0 htab hE => wL_at a0 a1 a2 a3 a4 S h0 htab (fun o => o = some x) (fun h => nomatch h) (fun k h n hh => by cases hh; exact hE n)) hf
theorem dL_flattening_0 : decode cL_flattening 0 = .ok (.aload_n 0, 1) := by decide +kernel
theorem dL_flattening_1 : decode cL_flattening 1 = .ok (.iload_n 1, 1) := by decide +kernel
theorem dL_flattening_2 : decode cL_flattening 2 = .ok (.iload_n 2, 1) := by decide +kernel
theorem dL_flattening_3 : decode cL_flattening 3 = .ok (.invokevirtual 68, 3) := by decide +kernel
theorem dL_flattening_6 : decode cL_flattening 6 = .ok (.ireturn, 1) := by decide +kernel
theorem dL_flattening_7 : decode cL_flattening 7 = .ok (.astore_n 3, 1) := by decide +kernel
theorem dL_flattening_8 : decode cL_flattening 8 = .ok (.ldc 16, 2) := by decide +kernel
theorem dL_flattening_10 : decode cL_flattening 10 = .ok (.ireturn, 1) := by decide +kernel
abbrev rmL_flattening : Room := { frames := 8, cells := 2, slots := 12, locals := 171 }
theorem zyL_flattening : zyOK yL_flattening 3 := ⟨by decide +kernel, by decide +kernel, by decide +kernel⟩
set_option maxHeartbeats 4000000 in
set_option maxRecDepth 100000 in
theorem wL_flattening {G : ZG} (a0 : Nat) (a1 : Int32) (a2 : Int32) (S : ZS) (h0 : zFix G cL_flattening RL 4 (some .int) rmL_flattening) (htab : zTabIs G [(0, 6, 7, 34)]) (C : Option (Int32 × ZH) → Prop) (hC : ¬ C none) (hE : ∀ (k : Int32) (h : ZH) (n : Nat), C (some (k, h)) → zEndT G (some (.int k)) (h, n) rmL_flattening) : zV G 4 S 0 0 0 [(0, .ref a0), (1, .int a1), (2, .int a2)] [] (C (fL_flattening a0 a1 a2 S)) := by
  unfold fL_flattening
  refine zr_aload_n h0 dL_flattening_0 rfl (n := 1) rfl ?_
  refine zr_iload_n h0 dL_flattening_1 rfl (n := 2) rfl ?_
  refine zr_iload_n h0 dL_flattening_2 rfl (n := 3) rfl ?_
  refine zr_cTC hC (-99999999 : Int32) (fun v => some (.int v)) ["java/lang/IndexOutOfBoundsException"] (hh := [(0, 6, 7, 34)]) 2 12 h0 htab (⟨⟨by decide, by decide, zw_291, by decide +kernel⟩, trivial⟩) (fun x hx => zk_VT0 h0 zcX5 (zcl_ex hx) (fun l D z0 hlt => kX5_flattening l D z0 hlt a0 a1 a2 S x (zcl_of hx)) htab.fl zw_580 zw_581 zw_582 zw_1 zw_583 rfl zyX5_flattening (As := [.int a1, .int a2]) (st := []) rfl (by decide) rfl (Nat.le_of_ble_eq_true rfl) (by decide) dL_flattening_3) rfl rfl (n := 6) rfl (fun j q E h n9 a hq hn => ?_) (fun x => ?_)
  · match j, hq, hn with
    | 0, hq, hn =>
      cases hq
      refine zr_astore_n [(0, .ref a0), (1, .int a1), (2, .int a2), (3, .ref a)] h0 dL_flattening_7 (by decide) rfl (n := 8) rfl ?_
      refine zr_ldc h0 zw_202 dL_flattening_8 (n := 10) rfl ?_
      exact zr_iretT h0 rfl dL_flattening_10 (hE _ _ _) (by decide) (by decide)
    | j + 1, hq, hn => simp at hq
  exact zr_iretT h0 rfl dL_flattening_6 (fun h => hE _ _ _ h) (by decide) (by decide)
theorem kL_flattening (l : Launch) (D : ZD) (z0 : Nat) (hlt : l.stackTraces = false) (a0 : Nat) (a1 : Int32) (a2 : Int32) (S : ZS) (x : Int32 × ZH) (hf : fL_flattening a0 a1 a2 S = some x) : zMetW l D z0 yL_flattening cL_flattening 4 (some .int) [(0, 6, 7, 34)] rmL_flattening [.ref a0, .int a1, .int a2] S (.int x.1) x.2 :=
  zMetW_of hlt (by decide) (Nat.le_of_ble_eq_true rfl) (fun G h0 htab hE => wL_flattening a0 a1 a2 S h0 htab (fun o => o = some x) (fun h => nomatch h) (fun k h n hh => by cases hh; exact hE n)) hf
theorem dL_bound_0 : decode cL_bound 0 = .ok (.aload_n 0, 1) := by decide +kernel
theorem dL_bound_1 : decode cL_bound 1 = .ok (.iload_n 1, 1) := by decide +kernel
theorem dL_bound_2 : decode cL_bound 2 = .ok (.invokevirtual 71, 3) := by decide +kernel
theorem dL_bound_5 : decode cL_bound 5 = .ok (.ireturn, 1) := by decide +kernel
theorem dL_bound_6 : decode cL_bound 6 = .ok (.astore_n 2, 1) := by decide +kernel
theorem dL_bound_7 : decode cL_bound 7 = .ok (.ldc 16, 2) := by decide +kernel
theorem dL_bound_9 : decode cL_bound 9 = .ok (.ireturn, 1) := by decide +kernel
abbrev rmL_bound : Room := { frames := 8, cells := 1, slots := 6, locals := 192 }
theorem zyL_bound : zyOK yL_bound 2 := ⟨by decide +kernel, by decide +kernel, by decide +kernel⟩
set_option maxHeartbeats 4000000 in
set_option maxRecDepth 100000 in
theorem wL_bound {G : ZG} (a0 : Nat) (a1 : Int32) (S : ZS) (h0 : zFix G cL_bound RL 3 (some .int) rmL_bound) (htab : zTabIs G [(0, 5, 6, 34)]) (C : Option (Int32 × ZH) → Prop) (hC : ¬ C none) (hE : ∀ (k : Int32) (h : ZH) (n : Nat), C (some (k, h)) → zEndT G (some (.int k)) (h, n) rmL_bound) : zV G 3 S 0 0 0 [(0, .ref a0), (1, .int a1)] [] (C (fL_bound a0 a1 S)) := by
  unfold fL_bound
  refine zr_aload_n h0 dL_bound_0 rfl (n := 1) rfl ?_
  refine zr_iload_n h0 dL_bound_1 rfl (n := 2) rfl ?_
  refine zr_cTC hC (-99999999 : Int32) (fun v => some (.int v)) ["java/lang/IndexOutOfBoundsException"] (hh := [(0, 5, 6, 34)]) 1 6 h0 htab (⟨⟨by decide, by decide, zw_291, by decide +kernel⟩, trivial⟩) (fun x hx => zk_VT0 h0 zcX5 (zcl_ex hx) (fun l D z0 hlt => kX5_bound l D z0 hlt a0 a1 S x (zcl_of hx)) htab.fl zw_623 zw_624 zw_625 zw_1 zw_626 rfl zyX5_bound (As := [.int a1]) (st := []) rfl (by decide) rfl (Nat.le_of_ble_eq_true rfl) (by decide) dL_bound_2) rfl rfl (n := 5) rfl (fun j q E h n9 a hq hn => ?_) (fun x => ?_)
  · match j, hq, hn with
    | 0, hq, hn =>
      cases hq
      refine zr_astore_n [(0, .ref a0), (1, .int a1), (2, .ref a)] h0 dL_bound_6 (by decide) rfl (n := 7) rfl ?_
      refine zr_ldc h0 zw_202 dL_bound_7 (n := 9) rfl ?_
      exact zr_iretT h0 rfl dL_bound_9 (hE _ _ _) (by decide) (by decide)
    | j + 1, hq, hn => simp at hq
  exact zr_iretT h0 rfl dL_bound_5 (fun h => hE _ _ _ h) (by decide) (by decide)
theorem kL_bound (l : Launch) (D : ZD) (z0 : Nat) (hlt : l.stackTraces = false) (a0 : Nat) (a1 : Int32) (S : ZS) (x : Int32 × ZH) (hf : fL_bound a0 a1 S = some x) : zMetW l D z0 yL_bound cL_bound 3 (some .int) [(0, 5, 6, 34)] rmL_bound [.ref a0, .int a1] S (.int x.1) x.2 :=
  zMetW_of hlt (by decide) (Nat.le_of_ble_eq_true rfl) (fun G h0 htab hE => wL_bound a0 a1 S h0 htab (fun o => o = some x) (fun h => nomatch h) (fun k h n hh => by cases hh; exact hE n)) hf
theorem dL_least_0 : decode cL_least 0 = .ok (.aload_n 0, 1) := by decide +kernel
theorem dL_least_1 : decode cL_least 1 = .ok (.iload_n 1, 1) := by decide +kernel
theorem dL_least_2 : decode cL_least 2 = .ok (.invokevirtual 74, 3) := by decide +kernel
theorem dL_least_5 : decode cL_least 5 = .ok (.ireturn, 1) := by decide +kernel
theorem dL_least_6 : decode cL_least 6 = .ok (.astore_n 2, 1) := by decide +kernel
theorem dL_least_7 : decode cL_least 7 = .ok (.ldc 16, 2) := by decide +kernel
theorem dL_least_9 : decode cL_least 9 = .ok (.ireturn, 1) := by decide +kernel
theorem dL_least_10 : decode cL_least 10 = .ok (.astore_n 2, 1) := by decide +kernel
theorem dL_least_11 : decode cL_least 11 = .ok (.ldc 16, 2) := by decide +kernel
theorem dL_least_13 : decode cL_least 13 = .ok (.ireturn, 1) := by decide +kernel
abbrev rmL_least : Room := { frames := 19, cells := 2, slots := 12, locals := 452 }
theorem zyL_least : zyOK yL_least 2 := ⟨by decide +kernel, by decide +kernel, by decide +kernel⟩
set_option maxHeartbeats 4000000 in
set_option maxRecDepth 100000 in
theorem wL_least {G : ZG} (a0 : Nat) (a1 : Int32) (S : ZS) (h0 : zFix G cL_least RL 3 (some .int) rmL_least) (htab : zTabIs G [(0, 5, 6, 34), (0, 5, 10, 17)]) (C : Option (Int32 × ZH) → Prop) (hC : ¬ C none) (hE : ∀ (k : Int32) (h : ZH) (n : Nat), C (some (k, h)) → zEndT G (some (.int k)) (h, n) rmL_least) : zV G 3 S 0 0 0 [(0, .ref a0), (1, .int a1)] [] (C (fL_least a0 a1 S)) := by
  unfold fL_least
  refine zr_aload_n h0 dL_least_0 rfl (n := 1) rfl ?_
  refine zr_iload_n h0 dL_least_1 rfl (n := 2) rfl ?_
  refine zr_cTC hC (-99999999 : Int32) (fun v => some (.int v)) ["java/lang/IndexOutOfBoundsException", "java/lang/IllegalStateException"] (hh := [(0, 5, 6, 34), (0, 5, 10, 17)]) 2 12 h0 htab (⟨⟨by decide, by decide, zw_291, by decide +kernel⟩, ⟨⟨by decide, by decide, zw_113, by decide +kernel⟩, trivial⟩⟩) (fun x hx => zk_VT0 h0 zcX5 (zcl_ex hx) (fun l D z0 hlt => kX5_least l D z0 hlt a0 a1 S x (zcl_of hx)) htab.fl zw_637 zw_638 zw_639 zw_1 zw_640 rfl zyX5_least (As := [.int a1]) (st := []) rfl (by decide) rfl (Nat.le_of_ble_eq_true rfl) (by decide) dL_least_2) rfl rfl (n := 5) rfl (fun j q E h n9 a hq hn => ?_) (fun x => ?_)
  · match j, hq, hn with
    | 0, hq, hn =>
      cases hq
      refine zr_astore_n [(0, .ref a0), (1, .int a1), (2, .ref a)] h0 dL_least_6 (by decide) rfl (n := 7) rfl ?_
      refine zr_ldc h0 zw_202 dL_least_7 (n := 9) rfl ?_
      exact zr_iretT h0 rfl dL_least_9 (hE _ _ _) (by decide) (by decide)
    | 1, hq, hn =>
      cases hq
      refine zr_astore_n [(0, .ref a0), (1, .int a1), (2, .ref a)] h0 dL_least_10 (by decide) rfl (n := 11) rfl ?_
      refine zr_ldc h0 zw_202 dL_least_11 (n := 13) rfl ?_
      exact zr_iretT h0 rfl dL_least_13 (hE _ _ _) (by decide) (by decide)
    | j + 2, hq, hn => simp at hq
  exact zr_iretT h0 rfl dL_least_5 (fun h => hE _ _ _ h) (by decide) (by decide)
theorem kL_least (l : Launch) (D : ZD) (z0 : Nat) (hlt : l.stackTraces = false) (a0 : Nat) (a1 : Int32) (S : ZS) (x : Int32 × ZH) (hf : fL_least a0 a1 S = some x) : zMetW l D z0 yL_least cL_least 3 (some .int) [(0, 5, 6, 34), (0, 5, 10, 17)] rmL_least [.ref a0, .int a1] S (.int x.1) x.2 :=
  zMetW_of hlt (by decide) (Nat.le_of_ble_eq_true rfl) (fun G h0 htab hE => wL_least a0 a1 S h0 htab (fun o => o = some x) (fun h => nomatch h) (fun k h n hh => by cases hh; exact hE n)) hf
theorem dL_leastAnew_0 : decode cL_leastAnew 0 = .ok (.aload_n 0, 1) := by decide +kernel
theorem dL_leastAnew_1 : decode cL_leastAnew 1 = .ok (.iload_n 1, 1) := by decide +kernel
theorem dL_leastAnew_2 : decode cL_leastAnew 2 = .ok (.invokevirtual 77, 3) := by decide +kernel
theorem dL_leastAnew_5 : decode cL_leastAnew 5 = .ok (.ireturn, 1) := by decide +kernel
theorem dL_leastAnew_6 : decode cL_leastAnew 6 = .ok (.astore_n 2, 1) := by decide +kernel
theorem dL_leastAnew_7 : decode cL_leastAnew 7 = .ok (.ldc 16, 2) := by decide +kernel
theorem dL_leastAnew_9 : decode cL_leastAnew 9 = .ok (.ireturn, 1) := by decide +kernel
theorem dL_leastAnew_10 : decode cL_leastAnew 10 = .ok (.astore_n 2, 1) := by decide +kernel
theorem dL_leastAnew_11 : decode cL_leastAnew 11 = .ok (.ldc 16, 2) := by decide +kernel
theorem dL_leastAnew_13 : decode cL_leastAnew 13 = .ok (.ireturn, 1) := by decide +kernel
abbrev rmL_leastAnew : Room := { frames := 19, cells := 2, slots := 12, locals := 452 }
theorem zyL_leastAnew : zyOK yL_leastAnew 2 := ⟨by decide +kernel, by decide +kernel, by decide +kernel⟩
set_option maxHeartbeats 4000000 in
set_option maxRecDepth 100000 in
theorem wL_leastAnew {G : ZG} (a0 : Nat) (a1 : Int32) (S : ZS) (h0 : zFix G cL_leastAnew RL 3 (some .int) rmL_leastAnew) (htab : zTabIs G [(0, 5, 6, 34), (0, 5, 10, 17)]) (C : Option (Int32 × ZH) → Prop) (hC : ¬ C none) (hE : ∀ (k : Int32) (h : ZH) (n : Nat), C (some (k, h)) → zEndT G (some (.int k)) (h, n) rmL_leastAnew) : zV G 3 S 0 0 0 [(0, .ref a0), (1, .int a1)] [] (C (fL_leastAnew a0 a1 S)) := by
  unfold fL_leastAnew
  refine zr_aload_n h0 dL_leastAnew_0 rfl (n := 1) rfl ?_
  refine zr_iload_n h0 dL_leastAnew_1 rfl (n := 2) rfl ?_
  refine zr_cTC hC (-99999999 : Int32) (fun v => some (.int v)) ["java/lang/IndexOutOfBoundsException", "java/lang/IllegalStateException"] (hh := [(0, 5, 6, 34), (0, 5, 10, 17)]) 2 12 h0 htab (⟨⟨by decide, by decide, zw_291, by decide +kernel⟩, ⟨⟨by decide, by decide, zw_113, by decide +kernel⟩, trivial⟩⟩) (fun x hx => zk_VT0 h0 zcX5 (zcl_ex hx) (fun l D z0 hlt => kX5_leastAnew l D z0 hlt a0 a1 S x (zcl_of hx)) htab.fl zw_827 zw_828 zw_829 zw_1 zw_830 rfl zyX5_leastAnew (As := [.int a1]) (st := []) rfl (by decide) rfl (Nat.le_of_ble_eq_true rfl) (by decide) dL_leastAnew_2) rfl rfl (n := 5) rfl (fun j q E h n9 a hq hn => ?_) (fun x => ?_)
  · match j, hq, hn with
    | 0, hq, hn =>
      cases hq
      refine zr_astore_n [(0, .ref a0), (1, .int a1), (2, .ref a)] h0 dL_leastAnew_6 (by decide) rfl (n := 7) rfl ?_
      refine zr_ldc h0 zw_202 dL_leastAnew_7 (n := 9) rfl ?_
      exact zr_iretT h0 rfl dL_leastAnew_9 (hE _ _ _) (by decide) (by decide)
    | 1, hq, hn =>
      cases hq
      refine zr_astore_n [(0, .ref a0), (1, .int a1), (2, .ref a)] h0 dL_leastAnew_10 (by decide) rfl (n := 11) rfl ?_
      refine zr_ldc h0 zw_202 dL_leastAnew_11 (n := 13) rfl ?_
      exact zr_iretT h0 rfl dL_leastAnew_13 (hE _ _ _) (by decide) (by decide)
    | j + 2, hq, hn => simp at hq
  exact zr_iretT h0 rfl dL_leastAnew_5 (fun h => hE _ _ _ h) (by decide) (by decide)
theorem kL_leastAnew (l : Launch) (D : ZD) (z0 : Nat) (hlt : l.stackTraces = false) (a0 : Nat) (a1 : Int32) (S : ZS) (x : Int32 × ZH) (hf : fL_leastAnew a0 a1 S = some x) : zMetW l D z0 yL_leastAnew cL_leastAnew 3 (some .int) [(0, 5, 6, 34), (0, 5, 10, 17)] rmL_leastAnew [.ref a0, .int a1] S (.int x.1) x.2 :=
  zMetW_of hlt (by decide) (Nat.le_of_ble_eq_true rfl) (fun G h0 htab hE => wL_leastAnew a0 a1 S h0 htab (fun o => o = some x) (fun h => nomatch h) (fun k h n hh => by cases hh; exact hE n)) hf
theorem dL_ofWay_0 : decode cL_ofWay 0 = .ok (.aload_n 0, 1) := by decide +kernel
theorem dL_ofWay_1 : decode cL_ofWay 1 = .ok (.iload_n 1, 1) := by decide +kernel
theorem dL_ofWay_2 : decode cL_ofWay 2 = .ok (.iload_n 2, 1) := by decide +kernel
theorem dL_ofWay_3 : decode cL_ofWay 3 = .ok (.invokevirtual 80, 3) := by decide +kernel
theorem dL_ofWay_6 : decode cL_ofWay 6 = .ok (.ireturn, 1) := by decide +kernel
theorem dL_ofWay_7 : decode cL_ofWay 7 = .ok (.astore_n 3, 1) := by decide +kernel
theorem dL_ofWay_8 : decode cL_ofWay 8 = .ok (.ldc 16, 2) := by decide +kernel
theorem dL_ofWay_10 : decode cL_ofWay 10 = .ok (.ireturn, 1) := by decide +kernel
theorem dL_ofWay_11 : decode cL_ofWay 11 = .ok (.astore_n 3, 1) := by decide +kernel
theorem dL_ofWay_12 : decode cL_ofWay 12 = .ok (.ldc 16, 2) := by decide +kernel
theorem dL_ofWay_14 : decode cL_ofWay 14 = .ok (.ireturn, 1) := by decide +kernel
abbrev rmL_ofWay : Room := { frames := 8, cells := 2, slots := 12, locals := 193 }
theorem zyL_ofWay : zyOK yL_ofWay 3 := ⟨by decide +kernel, by decide +kernel, by decide +kernel⟩
set_option maxHeartbeats 4000000 in
set_option maxRecDepth 100000 in
theorem wL_ofWay {G : ZG} (a0 : Nat) (a1 : Int32) (a2 : Int32) (S : ZS) (h0 : zFix G cL_ofWay RL 4 (some .int) rmL_ofWay) (htab : zTabIs G [(0, 6, 7, 34), (0, 6, 11, 14)]) (C : Option (Int32 × ZH) → Prop) (hC : ¬ C none) (hE : ∀ (k : Int32) (h : ZH) (n : Nat), C (some (k, h)) → zEndT G (some (.int k)) (h, n) rmL_ofWay) : zV G 4 S 0 0 0 [(0, .ref a0), (1, .int a1), (2, .int a2)] [] (C (fL_ofWay a0 a1 a2 S)) := by
  unfold fL_ofWay
  refine zr_aload_n h0 dL_ofWay_0 rfl (n := 1) rfl ?_
  refine zr_iload_n h0 dL_ofWay_1 rfl (n := 2) rfl ?_
  refine zr_iload_n h0 dL_ofWay_2 rfl (n := 3) rfl ?_
  refine zr_cTC hC (-99999999 : Int32) (fun v => some (.int v)) ["java/lang/IndexOutOfBoundsException", "java/lang/IllegalArgumentException"] (hh := [(0, 6, 7, 34), (0, 6, 11, 14)]) 2 12 h0 htab (⟨⟨by decide, by decide, zw_291, by decide +kernel⟩, ⟨⟨by decide, by decide, zw_112, by decide +kernel⟩, trivial⟩⟩) (fun x hx => zk_VT0 h0 zcX5 (zcl_ex hx) (fun l D z0 hlt => kX5_ofWay l D z0 hlt a0 a1 a2 S x (zcl_of hx)) htab.fl zw_794 zw_795 zw_796 zw_1 zw_797 rfl zyX5_ofWay (As := [.int a1, .int a2]) (st := []) rfl (by decide) rfl (Nat.le_of_ble_eq_true rfl) (by decide) dL_ofWay_3) rfl rfl (n := 6) rfl (fun j q E h n9 a hq hn => ?_) (fun x => ?_)
  · match j, hq, hn with
    | 0, hq, hn =>
      cases hq
      refine zr_astore_n [(0, .ref a0), (1, .int a1), (2, .int a2), (3, .ref a)] h0 dL_ofWay_7 (by decide) rfl (n := 8) rfl ?_
      refine zr_ldc h0 zw_202 dL_ofWay_8 (n := 10) rfl ?_
      exact zr_iretT h0 rfl dL_ofWay_10 (hE _ _ _) (by decide) (by decide)
    | 1, hq, hn =>
      cases hq
      refine zr_astore_n [(0, .ref a0), (1, .int a1), (2, .int a2), (3, .ref a)] h0 dL_ofWay_11 (by decide) rfl (n := 12) rfl ?_
      refine zr_ldc h0 zw_202 dL_ofWay_12 (n := 14) rfl ?_
      exact zr_iretT h0 rfl dL_ofWay_14 (hE _ _ _) (by decide) (by decide)
    | j + 2, hq, hn => simp at hq
  exact zr_iretT h0 rfl dL_ofWay_6 (fun h => hE _ _ _ h) (by decide) (by decide)
theorem kL_ofWay (l : Launch) (D : ZD) (z0 : Nat) (hlt : l.stackTraces = false) (a0 : Nat) (a1 : Int32) (a2 : Int32) (S : ZS) (x : Int32 × ZH) (hf : fL_ofWay a0 a1 a2 S = some x) : zMetW l D z0 yL_ofWay cL_ofWay 4 (some .int) [(0, 6, 7, 34), (0, 6, 11, 14)] rmL_ofWay [.ref a0, .int a1, .int a2] S (.int x.1) x.2 :=
  zMetW_of hlt (by decide) (Nat.le_of_ble_eq_true rfl) (fun G h0 htab hE => wL_ofWay a0 a1 a2 S h0 htab (fun o => o = some x) (fun h => nomatch h) (fun k h n hh => by cases hh; exact hE n)) hf
theorem dL_vector_0 : decode cL_vector 0 = .ok (.aload_n 0, 1) := by decide +kernel
theorem dL_vector_1 : decode cL_vector 1 = .ok (.iload_n 1, 1) := by decide +kernel
theorem dL_vector_2 : decode cL_vector 2 = .ok (.iload_n 2, 1) := by decide +kernel
theorem dL_vector_3 : decode cL_vector 3 = .ok (.iload_n 3, 1) := by decide +kernel
theorem dL_vector_4 : decode cL_vector 4 = .ok (.invokevirtual 83, 3) := by decide +kernel
theorem dL_vector_7 : decode cL_vector 7 = .ok (.ireturn, 1) := by decide +kernel
theorem dL_vector_8 : decode cL_vector 8 = .ok (.astore 4, 2) := by decide +kernel
theorem dL_vector_10 : decode cL_vector 10 = .ok (.ldc 16, 2) := by decide +kernel
theorem dL_vector_12 : decode cL_vector 12 = .ok (.ireturn, 1) := by decide +kernel
abbrev rmL_vector : Room := { frames := 8, cells := 3, slots := 18, locals := 144 }
theorem zyL_vector : zyOK yL_vector 4 := ⟨by decide +kernel, by decide +kernel, by decide +kernel⟩
set_option maxHeartbeats 4000000 in
set_option maxRecDepth 100000 in
theorem wL_vector {G : ZG} (a0 : Nat) (a1 : Int32) (a2 : Int32) (a3 : Int32) (S : ZS) (h0 : zFix G cL_vector RL 5 (some .int) rmL_vector) (htab : zTabIs G [(0, 7, 8, 34)]) (C : Option (Int32 × ZH) → Prop) (hC : ¬ C none) (hE : ∀ (k : Int32) (h : ZH) (n : Nat), C (some (k, h)) → zEndT G (some (.int k)) (h, n) rmL_vector) : zV G 5 S 0 0 0 [(0, .ref a0), (1, .int a1), (2, .int a2), (3, .int a3)] [] (C (fL_vector a0 a1 a2 a3 S)) := by
  unfold fL_vector
  refine zr_aload_n h0 dL_vector_0 rfl (n := 1) rfl ?_
  refine zr_iload_n h0 dL_vector_1 rfl (n := 2) rfl ?_
  refine zr_iload_n h0 dL_vector_2 rfl (n := 3) rfl ?_
  refine zr_iload_n h0 dL_vector_3 rfl (n := 4) rfl ?_
  refine zr_cTC hC (-99999999 : Int32) (fun v => some (.int v)) ["java/lang/IndexOutOfBoundsException"] (hh := [(0, 7, 8, 34)]) 3 18 h0 htab (⟨⟨by decide, by decide, zw_291, by decide +kernel⟩, trivial⟩) (fun x hx => zk_VT0 h0 zcX5 (zcl_ex hx) (fun l D z0 hlt => kX5_vector l D z0 hlt a0 a1 a2 a3 S x (zcl_of hx)) htab.fl zw_686 zw_687 zw_688 zw_1 zw_689 rfl zyX5_vector (As := [.int a1, .int a2, .int a3]) (st := []) rfl (by decide) rfl (Nat.le_of_ble_eq_true rfl) (by decide) dL_vector_4) rfl rfl (n := 7) rfl (fun j q E h n9 a hq hn => ?_) (fun x => ?_)
  · match j, hq, hn with
    | 0, hq, hn =>
      cases hq
      refine zr_astore [(0, .ref a0), (1, .int a1), (2, .int a2), (3, .int a3), (4, .ref a)] h0 dL_vector_8 (by decide) rfl (n := 10) rfl ?_
      refine zr_ldc h0 zw_202 dL_vector_10 (n := 12) rfl ?_
      exact zr_iretT h0 rfl dL_vector_12 (hE _ _ _) (by decide) (by decide)
    | j + 1, hq, hn => simp at hq
  exact zr_iretT h0 rfl dL_vector_7 (fun h => hE _ _ _ h) (by decide) (by decide)
theorem kL_vector (l : Launch) (D : ZD) (z0 : Nat) (hlt : l.stackTraces = false) (a0 : Nat) (a1 : Int32) (a2 : Int32) (a3 : Int32) (S : ZS) (x : Int32 × ZH) (hf : fL_vector a0 a1 a2 a3 S = some x) : zMetW l D z0 yL_vector cL_vector 5 (some .int) [(0, 7, 8, 34)] rmL_vector [.ref a0, .int a1, .int a2, .int a3] S (.int x.1) x.2 :=
  zMetW_of hlt (by decide) (Nat.le_of_ble_eq_true rfl) (fun G h0 htab hE => wL_vector a0 a1 a2 a3 S h0 htab (fun o => o = some x) (fun h => nomatch h) (fun k h n hh => by cases hh; exact hE n)) hf
theorem dL_result_0 : decode cL_result 0 = .ok (.aload_n 0, 1) := by decide +kernel
theorem dL_result_1 : decode cL_result 1 = .ok (.iload_n 1, 1) := by decide +kernel
theorem dL_result_2 : decode cL_result 2 = .ok (.iload_n 2, 1) := by decide +kernel
theorem dL_result_3 : decode cL_result 3 = .ok (.iload_n 3, 1) := by decide +kernel
theorem dL_result_4 : decode cL_result 4 = .ok (.iload 4, 2) := by decide +kernel
theorem dL_result_6 : decode cL_result 6 = .ok (.invokevirtual 86, 3) := by decide +kernel
theorem dL_result_9 : decode cL_result 9 = .ok (.ireturn, 1) := by decide +kernel
theorem dL_result_10 : decode cL_result 10 = .ok (.astore 5, 2) := by decide +kernel
theorem dL_result_12 : decode cL_result 12 = .ok (.ldc 16, 2) := by decide +kernel
theorem dL_result_14 : decode cL_result 14 = .ok (.ireturn, 1) := by decide +kernel
theorem dL_result_15 : decode cL_result 15 = .ok (.astore 5, 2) := by decide +kernel
theorem dL_result_17 : decode cL_result 17 = .ok (.ldc 16, 2) := by decide +kernel
theorem dL_result_19 : decode cL_result 19 = .ok (.ireturn, 1) := by decide +kernel
abbrev rmL_result : Room := { frames := 9, cells := 3, slots := 18, locals := 169 }
theorem zyL_result : zyOK yL_result 5 := ⟨by decide +kernel, by decide +kernel, by decide +kernel⟩
set_option maxHeartbeats 4000000 in
set_option maxRecDepth 100000 in
theorem wL_result {G : ZG} (a0 : Nat) (a1 : Int32) (a2 : Int32) (a3 : Int32) (a4 : Int32) (S : ZS) (h0 : zFix G cL_result RL 6 (some .int) rmL_result) (htab : zTabIs G [(0, 9, 10, 34), (0, 9, 15, 14)]) (C : Option (Int32 × ZH) → Prop) (hC : ¬ C none) (hE : ∀ (k : Int32) (h : ZH) (n : Nat), C (some (k, h)) → zEndT G (some (.int k)) (h, n) rmL_result) : zV G 6 S 0 0 0 [(0, .ref a0), (1, .int a1), (2, .int a2), (3, .int a3), (4, .int a4)] [] (C (fL_result a0 a1 a2 a3 a4 S)) := by
  unfold fL_result
  refine zr_aload_n h0 dL_result_0 rfl (n := 1) rfl ?_
  refine zr_iload_n h0 dL_result_1 rfl (n := 2) rfl ?_
  refine zr_iload_n h0 dL_result_2 rfl (n := 3) rfl ?_
  refine zr_iload_n h0 dL_result_3 rfl (n := 4) rfl ?_
  refine zr_iload h0 dL_result_4 rfl (n := 6) rfl ?_
  refine zr_cTC hC (-99999999 : Int32) (fun v => some (.int v)) ["java/lang/IndexOutOfBoundsException", "java/lang/IllegalArgumentException"] (hh := [(0, 9, 10, 34), (0, 9, 15, 14)]) 3 18 h0 htab (⟨⟨by decide, by decide, zw_291, by decide +kernel⟩, ⟨⟨by decide, by decide, zw_112, by decide +kernel⟩, trivial⟩⟩) (fun x hx => zk_VT0 h0 zcX5 (zcl_ex hx) (fun l D z0 hlt => kX5_result l D z0 hlt a0 a1 a2 a3 a4 S x (zcl_of hx)) htab.fl zw_694 zw_695 zw_696 zw_1 zw_697 rfl zyX5_result (As := [.int a1, .int a2, .int a3, .int a4]) (st := []) rfl (by decide) rfl (Nat.le_of_ble_eq_true rfl) (by decide) dL_result_6) rfl rfl (n := 9) rfl (fun j q E h n9 a hq hn => ?_) (fun x => ?_)
  · match j, hq, hn with
    | 0, hq, hn =>
      cases hq
      refine zr_astore [(0, .ref a0), (1, .int a1), (2, .int a2), (3, .int a3), (4, .int a4), (5, .ref a)] h0 dL_result_10 (by decide) rfl (n := 12) rfl ?_
      refine zr_ldc h0 zw_202 dL_result_12 (n := 14) rfl ?_
      exact zr_iretT h0 rfl dL_result_14 (hE _ _ _) (by decide) (by decide)
    | 1, hq, hn =>
      cases hq
      refine zr_astore [(0, .ref a0), (1, .int a1), (2, .int a2), (3, .int a3), (4, .int a4), (5, .ref a)] h0 dL_result_15 (by decide) rfl (n := 17) rfl ?_
      refine zr_ldc h0 zw_202 dL_result_17 (n := 19) rfl ?_
      exact zr_iretT h0 rfl dL_result_19 (hE _ _ _) (by decide) (by decide)
    | j + 2, hq, hn => simp at hq
  exact zr_iretT h0 rfl dL_result_9 (fun h => hE _ _ _ h) (by decide) (by decide)
theorem kL_result (l : Launch) (D : ZD) (z0 : Nat) (hlt : l.stackTraces = false) (a0 : Nat) (a1 : Int32) (a2 : Int32) (a3 : Int32) (a4 : Int32) (S : ZS) (x : Int32 × ZH) (hf : fL_result a0 a1 a2 a3 a4 S = some x) : zMetW l D z0 yL_result cL_result 6 (some .int) [(0, 9, 10, 34), (0, 9, 15, 14)] rmL_result [.ref a0, .int a1, .int a2, .int a3, .int a4] S (.int x.1) x.2 :=
  zMetW_of hlt (by decide) (Nat.le_of_ble_eq_true rfl) (fun G h0 htab hE => wL_result a0 a1 a2 a3 a4 S h0 htab (fun o => o = some x) (fun h => nomatch h) (fun k h n hh => by cases hh; exact hE n)) hf
theorem dL_resultByCube_0 : decode cL_resultByCube 0 = .ok (.aload_n 0, 1) := by decide +kernel
theorem dL_resultByCube_1 : decode cL_resultByCube 1 = .ok (.iload_n 1, 1) := by decide +kernel
theorem dL_resultByCube_2 : decode cL_resultByCube 2 = .ok (.iload_n 2, 1) := by decide +kernel
theorem dL_resultByCube_3 : decode cL_resultByCube 3 = .ok (.iload_n 3, 1) := by decide +kernel
theorem dL_resultByCube_4 : decode cL_resultByCube 4 = .ok (.iload 4, 2) := by decide +kernel
theorem dL_resultByCube_6 : decode cL_resultByCube 6 = .ok (.invokevirtual 89, 3) := by decide +kernel
theorem dL_resultByCube_9 : decode cL_resultByCube 9 = .ok (.ireturn, 1) := by decide +kernel
theorem dL_resultByCube_10 : decode cL_resultByCube 10 = .ok (.astore 5, 2) := by decide +kernel
theorem dL_resultByCube_12 : decode cL_resultByCube 12 = .ok (.ldc 16, 2) := by decide +kernel
theorem dL_resultByCube_14 : decode cL_resultByCube 14 = .ok (.ireturn, 1) := by decide +kernel
theorem dL_resultByCube_15 : decode cL_resultByCube 15 = .ok (.astore 5, 2) := by decide +kernel
theorem dL_resultByCube_17 : decode cL_resultByCube 17 = .ok (.ldc 16, 2) := by decide +kernel
theorem dL_resultByCube_19 : decode cL_resultByCube 19 = .ok (.ireturn, 1) := by decide +kernel
abbrev rmL_resultByCube : Room := { frames := 9, cells := 3, slots := 18, locals := 169 }
theorem zyL_resultByCube : zyOK yL_resultByCube 5 := ⟨by decide +kernel, by decide +kernel, by decide +kernel⟩
set_option maxHeartbeats 4000000 in
set_option maxRecDepth 100000 in
theorem wL_resultByCube {G : ZG} (a0 : Nat) (a1 : Int32) (a2 : Int32) (a3 : Int32) (a4 : Int32) (S : ZS) (h0 : zFix G cL_resultByCube RL 6 (some .int) rmL_resultByCube) (htab : zTabIs G [(0, 9, 10, 34), (0, 9, 15, 14)]) (C : Option (Int32 × ZH) → Prop) (hC : ¬ C none) (hE : ∀ (k : Int32) (h : ZH) (n : Nat), C (some (k, h)) → zEndT G (some (.int k)) (h, n) rmL_resultByCube) : zV G 6 S 0 0 0 [(0, .ref a0), (1, .int a1), (2, .int a2), (3, .int a3), (4, .int a4)] [] (C (fL_resultByCube a0 a1 a2 a3 a4 S)) := by
  unfold fL_resultByCube
  refine zr_aload_n h0 dL_resultByCube_0 rfl (n := 1) rfl ?_
  refine zr_iload_n h0 dL_resultByCube_1 rfl (n := 2) rfl ?_
  refine zr_iload_n h0 dL_resultByCube_2 rfl (n := 3) rfl ?_
  refine zr_iload_n h0 dL_resultByCube_3 rfl (n := 4) rfl ?_
  refine zr_iload h0 dL_resultByCube_4 rfl (n := 6) rfl ?_
  refine zr_cTC hC (-99999999 : Int32) (fun v => some (.int v)) ["java/lang/IndexOutOfBoundsException", "java/lang/IllegalArgumentException"] (hh := [(0, 9, 10, 34), (0, 9, 15, 14)]) 3 18 h0 htab (⟨⟨by decide, by decide, zw_291, by decide +kernel⟩, ⟨⟨by decide, by decide, zw_112, by decide +kernel⟩, trivial⟩⟩) (fun x hx => zk_VT0 h0 zcX5 (zcl_ex hx) (fun l D z0 hlt => kX5_resultByCube l D z0 hlt a0 a1 a2 a3 a4 S x (zcl_of hx)) htab.fl zw_717 zw_718 zw_719 zw_1 zw_720 rfl zyX5_resultByCube (As := [.int a1, .int a2, .int a3, .int a4]) (st := []) rfl (by decide) rfl (Nat.le_of_ble_eq_true rfl) (by decide) dL_resultByCube_6) rfl rfl (n := 9) rfl (fun j q E h n9 a hq hn => ?_) (fun x => ?_)
  · match j, hq, hn with
    | 0, hq, hn =>
      cases hq
      refine zr_astore [(0, .ref a0), (1, .int a1), (2, .int a2), (3, .int a3), (4, .int a4), (5, .ref a)] h0 dL_resultByCube_10 (by decide) rfl (n := 12) rfl ?_
      refine zr_ldc h0 zw_202 dL_resultByCube_12 (n := 14) rfl ?_
      exact zr_iretT h0 rfl dL_resultByCube_14 (hE _ _ _) (by decide) (by decide)
    | 1, hq, hn =>
      cases hq
      refine zr_astore [(0, .ref a0), (1, .int a1), (2, .int a2), (3, .int a3), (4, .int a4), (5, .ref a)] h0 dL_resultByCube_15 (by decide) rfl (n := 17) rfl ?_
      refine zr_ldc h0 zw_202 dL_resultByCube_17 (n := 19) rfl ?_
      exact zr_iretT h0 rfl dL_resultByCube_19 (hE _ _ _) (by decide) (by decide)
    | j + 2, hq, hn => simp at hq
  exact zr_iretT h0 rfl dL_resultByCube_9 (fun h => hE _ _ _ h) (by decide) (by decide)
theorem kL_resultByCube (l : Launch) (D : ZD) (z0 : Nat) (hlt : l.stackTraces = false) (a0 : Nat) (a1 : Int32) (a2 : Int32) (a3 : Int32) (a4 : Int32) (S : ZS) (x : Int32 × ZH) (hf : fL_resultByCube a0 a1 a2 a3 a4 S = some x) : zMetW l D z0 yL_resultByCube cL_resultByCube 6 (some .int) [(0, 9, 10, 34), (0, 9, 15, 14)] rmL_resultByCube [.ref a0, .int a1, .int a2, .int a3, .int a4] S (.int x.1) x.2 :=
  zMetW_of hlt (by decide) (Nat.le_of_ble_eq_true rfl) (fun G h0 htab hE => wL_resultByCube a0 a1 a2 a3 a4 S h0 htab (fun o => o = some x) (fun h => nomatch h) (fun k h n hh => by cases hh; exact hE n)) hf
theorem dL_levels_0 : decode cL_levels 0 = .ok (.aload_n 0, 1) := by decide +kernel
theorem dL_levels_1 : decode cL_levels 1 = .ok (.iload_n 1, 1) := by decide +kernel
theorem dL_levels_2 : decode cL_levels 2 = .ok (.iload_n 2, 1) := by decide +kernel
theorem dL_levels_3 : decode cL_levels 3 = .ok (.iload_n 3, 1) := by decide +kernel
theorem dL_levels_4 : decode cL_levels 4 = .ok (.invokevirtual 92, 3) := by decide +kernel
theorem dL_levels_7 : decode cL_levels 7 = .ok (.lreturn, 1) := by decide +kernel
theorem dL_levels_8 : decode cL_levels 8 = .ok (.astore 4, 2) := by decide +kernel
theorem dL_levels_10 : decode cL_levels 10 = .ok (.ldc2_w 96, 3) := by decide +kernel
theorem dL_levels_13 : decode cL_levels 13 = .ok (.lreturn, 1) := by decide +kernel
theorem dL_levels_14 : decode cL_levels 14 = .ok (.astore 4, 2) := by decide +kernel
theorem dL_levels_16 : decode cL_levels 16 = .ok (.ldc2_w 96, 3) := by decide +kernel
theorem dL_levels_19 : decode cL_levels 19 = .ok (.lreturn, 1) := by decide +kernel
theorem dL_levels_20 : decode cL_levels 20 = .ok (.astore 4, 2) := by decide +kernel
theorem dL_levels_22 : decode cL_levels 22 = .ok (.ldc2_w 96, 3) := by decide +kernel
theorem dL_levels_25 : decode cL_levels 25 = .ok (.lreturn, 1) := by decide +kernel
abbrev rmL_levels : Room := { frames := 8, cells := 2, slots := 12, locals := 194 }
theorem zyL_levels : zyOK yL_levels 4 := ⟨by decide +kernel, by decide +kernel, by decide +kernel⟩
set_option maxHeartbeats 4000000 in
set_option maxRecDepth 100000 in
theorem wL_levels {G : ZG} (a0 : Nat) (a1 : Int32) (a2 : Int32) (a3 : Int32) (S : ZS) (h0 : zFix G cL_levels RL 5 (some .long) rmL_levels) (htab : zTabIs G [(0, 7, 8, 34), (0, 7, 14, 14), (0, 7, 20, 17)]) (C : Option (Int64 × ZH) → Prop) (hC : ¬ C none) (hE : ∀ (k : Int64) (h : ZH) (n : Nat), C (some (k, h)) → zEndT G (some (.long k)) (h, n) rmL_levels) : zV G 5 S 0 0 0 [(0, .ref a0), (1, .int a1), (2, .int a2), (3, .int a3)] [] (C (fL_levels a0 a1 a2 a3 S)) := by
  unfold fL_levels
  refine zr_aload_n h0 dL_levels_0 rfl (n := 1) rfl ?_
  refine zr_iload_n h0 dL_levels_1 rfl (n := 2) rfl ?_
  refine zr_iload_n h0 dL_levels_2 rfl (n := 3) rfl ?_
  refine zr_iload_n h0 dL_levels_3 rfl (n := 4) rfl ?_
  refine zr_cTC hC (-9000000000000000 : Int64) (fun v => some (.long v)) ["java/lang/IndexOutOfBoundsException", "java/lang/IllegalArgumentException", "java/lang/IllegalStateException"] (hh := [(0, 7, 8, 34), (0, 7, 14, 14), (0, 7, 20, 17)]) 2 12 h0 htab (⟨⟨by decide, by decide, zw_291, by decide +kernel⟩, ⟨⟨by decide, by decide, zw_112, by decide +kernel⟩, ⟨⟨by decide, by decide, zw_113, by decide +kernel⟩, trivial⟩⟩⟩) (fun x hx => zk_VT0 h0 zcX5 (zcl_ex hx) (fun l D z0 hlt => kX5_levels l D z0 hlt a0 a1 a2 a3 S x (zcl_of hx)) htab.fl zw_728 zw_729 zw_730 zw_1 zw_731 rfl zyX5_levels (As := [.int a1, .int a2, .int a3]) (st := []) rfl (by decide) rfl (Nat.le_of_ble_eq_true rfl) (by decide) dL_levels_4) rfl rfl (n := 7) rfl (fun j q E h n9 a hq hn => ?_) (fun x => ?_)
  · match j, hq, hn with
    | 0, hq, hn =>
      cases hq
      refine zr_astore [(0, .ref a0), (1, .int a1), (2, .int a2), (3, .int a3), (4, .ref a)] h0 dL_levels_8 (by decide) rfl (n := 10) rfl ?_
      refine zr_ldc2 h0 zw_790 dL_levels_10 (n := 13) rfl ?_
      exact zr_lretT h0 rfl dL_levels_13 (hE _ _ _) (by decide) (by decide)
    | 1, hq, hn =>
      cases hq
      refine zr_astore [(0, .ref a0), (1, .int a1), (2, .int a2), (3, .int a3), (4, .ref a)] h0 dL_levels_14 (by decide) rfl (n := 16) rfl ?_
      refine zr_ldc2 h0 zw_790 dL_levels_16 (n := 19) rfl ?_
      exact zr_lretT h0 rfl dL_levels_19 (hE _ _ _) (by decide) (by decide)
    | 2, hq, hn =>
      cases hq
      refine zr_astore [(0, .ref a0), (1, .int a1), (2, .int a2), (3, .int a3), (4, .ref a)] h0 dL_levels_20 (by decide) rfl (n := 22) rfl ?_
      refine zr_ldc2 h0 zw_790 dL_levels_22 (n := 25) rfl ?_
      exact zr_lretT h0 rfl dL_levels_25 (hE _ _ _) (by decide) (by decide)
    | j + 3, hq, hn => simp at hq
  exact zr_lretT h0 rfl dL_levels_7 (fun h => hE _ _ _ h) (by decide) (by decide)
theorem kL_levels (l : Launch) (D : ZD) (z0 : Nat) (hlt : l.stackTraces = false) (a0 : Nat) (a1 : Int32) (a2 : Int32) (a3 : Int32) (S : ZS) (x : Int64 × ZH) (hf : fL_levels a0 a1 a2 a3 S = some x) : zMetW l D z0 yL_levels cL_levels 5 (some .long) [(0, 7, 8, 34), (0, 7, 14, 14), (0, 7, 20, 17)] rmL_levels [.ref a0, .int a1, .int a2, .int a3] S (.long x.1) x.2 :=
  zMetW_of hlt (by decide) (Nat.le_of_ble_eq_true rfl) (fun G h0 htab hE => wL_levels a0 a1 a2 a3 S h0 htab (fun o => o = some x) (fun h => nomatch h) (fun k h n hh => by cases hh; exact hE n)) hf
theorem dL_prime_0 : decode cL_prime 0 = .ok (.aload_n 0, 1) := by decide +kernel
theorem dL_prime_1 : decode cL_prime 1 = .ok (.iload_n 1, 1) := by decide +kernel
theorem dL_prime_2 : decode cL_prime 2 = .ok (.invokevirtual 98, 3) := by decide +kernel
theorem dL_prime_5 : decode cL_prime 5 = .ok (.ireturn, 1) := by decide +kernel
theorem dL_prime_6 : decode cL_prime 6 = .ok (.astore_n 2, 1) := by decide +kernel
theorem dL_prime_7 : decode cL_prime 7 = .ok (.ldc 16, 2) := by decide +kernel
theorem dL_prime_9 : decode cL_prime 9 = .ok (.ireturn, 1) := by decide +kernel
theorem dL_prime_10 : decode cL_prime 10 = .ok (.astore_n 2, 1) := by decide +kernel
theorem dL_prime_11 : decode cL_prime 11 = .ok (.ldc 16, 2) := by decide +kernel
theorem dL_prime_13 : decode cL_prime 13 = .ok (.ireturn, 1) := by decide +kernel
abbrev rmL_prime : Room := { frames := 7, cells := 1, slots := 6, locals := 120 }
theorem zyL_prime : zyOK yL_prime 2 := ⟨by decide +kernel, by decide +kernel, by decide +kernel⟩
set_option maxHeartbeats 4000000 in
set_option maxRecDepth 100000 in
theorem wL_prime {G : ZG} (a0 : Nat) (a1 : Int32) (S : ZS) (h0 : zFix G cL_prime RL 3 (some .int) rmL_prime) (htab : zTabIs G [(0, 5, 6, 14), (0, 5, 10, 17)]) (C : Option (Int32 × ZH) → Prop) (hC : ¬ C none) (hE : ∀ (k : Int32) (h : ZH) (n : Nat), C (some (k, h)) → zEndT G (some (.int k)) (h, n) rmL_prime) : zV G 3 S 0 0 0 [(0, .ref a0), (1, .int a1)] [] (C (fL_prime a0 a1 S)) := by
  unfold fL_prime
  refine zr_aload_n h0 dL_prime_0 rfl (n := 1) rfl ?_
  refine zr_iload_n h0 dL_prime_1 rfl (n := 2) rfl ?_
  refine zr_cTC hC (-99999999 : Int32) (fun v => some (.int v)) ["java/lang/IllegalArgumentException", "java/lang/IllegalStateException"] (hh := [(0, 5, 6, 14), (0, 5, 10, 17)]) 1 6 h0 htab (⟨⟨by decide, by decide, zw_112, by decide +kernel⟩, ⟨⟨by decide, by decide, zw_113, by decide +kernel⟩, trivial⟩⟩) (fun x hx => zk_VT0 h0 zcX5 (zcl_ex hx) (fun l D z0 hlt => kX5_prime l D z0 hlt a0 a1 S x (zcl_of hx)) htab.fl zw_114 zw_115 zw_116 zw_1 zw_117 rfl zyX5_prime (As := [.int a1]) (st := []) rfl (by decide) rfl (Nat.le_of_ble_eq_true rfl) (by decide) dL_prime_2) rfl rfl (n := 5) rfl (fun j q E h n9 a hq hn => ?_) (fun x => ?_)
  · match j, hq, hn with
    | 0, hq, hn =>
      cases hq
      refine zr_astore_n [(0, .ref a0), (1, .int a1), (2, .ref a)] h0 dL_prime_6 (by decide) rfl (n := 7) rfl ?_
      refine zr_ldc h0 zw_202 dL_prime_7 (n := 9) rfl ?_
      exact zr_iretT h0 rfl dL_prime_9 (hE _ _ _) (by decide) (by decide)
    | 1, hq, hn =>
      cases hq
      refine zr_astore_n [(0, .ref a0), (1, .int a1), (2, .ref a)] h0 dL_prime_10 (by decide) rfl (n := 11) rfl ?_
      refine zr_ldc h0 zw_202 dL_prime_11 (n := 13) rfl ?_
      exact zr_iretT h0 rfl dL_prime_13 (hE _ _ _) (by decide) (by decide)
    | j + 2, hq, hn => simp at hq
  exact zr_iretT h0 rfl dL_prime_5 (fun h => hE _ _ _ h) (by decide) (by decide)
theorem kL_prime (l : Launch) (D : ZD) (z0 : Nat) (hlt : l.stackTraces = false) (a0 : Nat) (a1 : Int32) (S : ZS) (x : Int32 × ZH) (hf : fL_prime a0 a1 S = some x) : zMetW l D z0 yL_prime cL_prime 3 (some .int) [(0, 5, 6, 14), (0, 5, 10, 17)] rmL_prime [.ref a0, .int a1] S (.int x.1) x.2 :=
  zMetW_of hlt (by decide) (Nat.le_of_ble_eq_true rfl) (fun G h0 htab hE => wL_prime a0 a1 S h0 htab (fun o => o = some x) (fun h => nomatch h) (fun k h n hh => by cases hh; exact hE n)) hf
