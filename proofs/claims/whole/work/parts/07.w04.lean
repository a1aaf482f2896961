theorem dX5_ofWay_0 : decode cX5_ofWay 0 = .ok (.aload_n 0, 1) := by decide +kernel
theorem dX5_ofWay_1 : decode cX5_ofWay 1 = .ok (.iload_n 1, 1) := by decide +kernel
theorem dX5_ofWay_2 : decode cX5_ofWay 2 = .ok (.invokevirtual 148, 3) := by decide +kernel
theorem dX5_ofWay_5 : decode cX5_ofWay 5 = .ok (.astore_n 3, 1) := by decide +kernel
theorem dX5_ofWay_6 : decode cX5_ofWay 6 = .ok (.iload_n 2, 1) := by decide +kernel
theorem dX5_ofWay_7 : decode cX5_ofWay 7 = .ok (.ifCond .lt 8, 3) := by decide +kernel
theorem dX5_ofWay_10 : decode cX5_ofWay 10 = .ok (.iload_n 2, 1) := by decide +kernel
theorem dX5_ofWay_11 : decode cX5_ofWay 11 = .ok (.iconst 4, 1) := by decide +kernel
theorem dX5_ofWay_12 : decode cX5_ofWay 12 = .ok (.if_icmp .le 13, 3) := by decide +kernel
theorem dX5_ofWay_15 : decode cX5_ofWay 15 = .ok (.new 56, 3) := by decide +kernel
theorem dX5_ofWay_18 : decode cX5_ofWay 18 = .ok (.dup, 1) := by decide +kernel
theorem dX5_ofWay_19 : decode cX5_ofWay 19 = .ok (.ldc 214, 2) := by decide +kernel
theorem dX5_ofWay_21 : decode cX5_ofWay 21 = .ok (.invokespecial 60, 3) := by decide +kernel
theorem dX5_ofWay_24 : decode cX5_ofWay 24 = .ok (.athrow, 1) := by decide +kernel
theorem dX5_ofWay_25 : decode cX5_ofWay 25 = .ok (.iload_n 2, 1) := by decide +kernel
theorem dX5_ofWay_26 : decode cX5_ofWay 26 = .ok (.tableswitch 58 0 3 #[30, 35, 44, 51], 30) := by decide +kernel
theorem dX5_ofWay_56 : decode cX5_ofWay 56 = .ok (.aload_n 3, 1) := by decide +kernel
theorem dX5_ofWay_57 : decode cX5_ofWay 57 = .ok (.getfield 168, 3) := by decide +kernel
theorem dX5_ofWay_60 : decode cX5_ofWay 60 = .ok (.ireturn, 1) := by decide +kernel
theorem dX5_ofWay_61 : decode cX5_ofWay 61 = .ok (.aload_n 3, 1) := by decide +kernel
theorem dX5_ofWay_62 : decode cX5_ofWay 62 = .ok (.aload_n 0, 1) := by decide +kernel
theorem dX5_ofWay_63 : decode cX5_ofWay 63 = .ok (.getfield 42, 3) := by decide +kernel
theorem dX5_ofWay_66 : decode cX5_ofWay 66 = .ok (.invokevirtual 216, 3) := by decide +kernel
theorem dX5_ofWay_69 : decode cX5_ofWay 69 = .ok (.ireturn, 1) := by decide +kernel
theorem dX5_ofWay_70 : decode cX5_ofWay 70 = .ok (.aload_n 0, 1) := by decide +kernel
theorem dX5_ofWay_71 : decode cX5_ofWay 71 = .ok (.aload_n 3, 1) := by decide +kernel
theorem dX5_ofWay_72 : decode cX5_ofWay 72 = .ok (.iconst 0, 1) := by decide +kernel
theorem dX5_ofWay_73 : decode cX5_ofWay 73 = .ok (.invokevirtual 220, 3) := by decide +kernel
theorem dX5_ofWay_76 : decode cX5_ofWay 76 = .ok (.ireturn, 1) := by decide +kernel
theorem dX5_ofWay_77 : decode cX5_ofWay 77 = .ok (.aload_n 0, 1) := by decide +kernel
theorem dX5_ofWay_78 : decode cX5_ofWay 78 = .ok (.aload_n 3, 1) := by decide +kernel
theorem dX5_ofWay_79 : decode cX5_ofWay 79 = .ok (.iconst 1, 1) := by decide +kernel
theorem dX5_ofWay_80 : decode cX5_ofWay 80 = .ok (.invokevirtual 220, 3) := by decide +kernel
theorem dX5_ofWay_83 : decode cX5_ofWay 83 = .ok (.ireturn, 1) := by decide +kernel
theorem dX5_ofWay_84 : decode cX5_ofWay 84 = .ok (.aload_n 3, 1) := by decide +kernel
theorem dX5_ofWay_85 : decode cX5_ofWay 85 = .ok (.invokevirtual 224, 3) := by decide +kernel
theorem dX5_ofWay_88 : decode cX5_ofWay 88 = .ok (.ireturn, 1) := by decide +kernel
abbrev rmX5_ofWay : Room := { frames := 7, cells := 2, slots := 12, locals := 162 }
theorem zyX5_ofWay : zyOK yX5_ofWay 2 := ⟨by decide +kernel, by decide +kernel, by decide +kernel⟩
set_option maxHeartbeats 4000000 in
set_option maxRecDepth 100000 in
theorem wX5_ofWay {G : ZG} (a0 : Nat) (a1 : Int32) (a2 : Int32) (S : ZS) (h0 : zFix G cX5_ofWay RX5 4 (some .int) rmX5_ofWay) (C : Option ((Int32 × ZS) ⊕ ZX) → Prop) (hC : ¬ C none) (hnt : zNoTab G) (hE : ∀ (v : Int32) (S1 : ZS), C (some (.inl (v, S1))) → zEndT G (some (.int v)) S1 rmX5_ofWay) (hEx : ∀ (E : String) (h : ZH), C (some (.inr (E, h))) → zEndX G E h rmX5_ofWay) : zV G 4 S 0 0 0 [(0, .ref a0), (1, .int a1), (2, .int a2)] [] (C (fX5_ofWay a0 a1 a2 S)) := by
  have J15 : ∀  (S_15 : ZS), zV G 4 S_15 1 6 15 [] [] (C (fX5_ofWay_J15 S_15)) := by
    intro  S_15
    unfold fX5_ofWay_J15
    exact zr_throw h0 hnt (cls := "java/lang/IllegalArgumentException") (text := "what is out of range") (names := ["java/lang/RuntimeException", "java/lang/Exception"]) (by decide +kernel) zfitN zw_112 zw_9 (by decide +kernel) (by decide +kernel) zat_X5_60 zbad_X5_60 zgd_X5_60 dX5_ofWay_15 dX5_ofWay_18 dX5_ofWay_19 dX5_ofWay_21 dX5_ofWay_24 (by decide) (Nat.le_of_ble_eq_true rfl) (by decide) (by decide) (fun h => hEx _ _ h)
  unfold fX5_ofWay
  refine zr_aload_n h0 dX5_ofWay_0 rfl (n := 1) rfl ?_
  refine zr_iload_n h0 dX5_ofWay_1 rfl (n := 2) rfl ?_
  refine zr_cTR C hC 1 6 h0 (fun x hx => zk_VT h0 zcX5 (zcl_ex hx) (fun l D z0 hlt => kX5_needWay l D z0 hlt a0 a1 S x (zcl_of hx)) hnt zw_420 zw_422 zs_3 zw_1 zw_423 rfl zyX5_needWay (As := [.int a1]) (st := []) rfl (by decide) rfl (Nat.le_of_ble_eq_true rfl) (by decide) dX5_ofWay_2) hnt rfl rfl (by decide) (by decide) (n := 5) rfl (fun z h => hEx _ _ h) (fun x1 => ?_)
  refine zr_astore_n [(0, .ref a0), (1, .int a1), (2, .int a2), (3, .ref x1.1)] h0 dX5_ofWay_5 (by decide) rfl (n := 6) rfl ?_
  refine zr_iload_n h0 dX5_ofWay_6 rfl (n := 7) rfl ?_
  refine zr_if_lt C (tgt := 15) h0 dX5_ofWay_7 (by decide) (n := 10) rfl ?_ ?_
  · refine zv_sub (lv' := []) ?_ (zsub_of [] rfl)
    exact J15 x1.2
  · refine zv_sub (lv' := [(0, .ref a0), (2, .int a2), (3, .ref x1.1)]) ?_ (zsub_of [0, 2, 3] rfl)
    refine zr_iload_n h0 dX5_ofWay_10 rfl (n := 11) rfl ?_
    refine zr_iconst (4 : Int32) h0 (by decide) dX5_ofWay_11 (n := 12) rfl ?_
    refine zr_icmp_le C (tgt := 25) h0 dX5_ofWay_12 (by decide) (n := 15) rfl ?_ ?_
    · refine zr_iload_n h0 dX5_ofWay_25 rfl (n := 26) rfl ?_
      refine zr_switch C [56, 61, 70, 77] 84 h0 dX5_ofWay_26 rfl (by decide) (by decide) (zsw_all ?_) ?_
      · refine ⟨?_, ?_, ?_, ?_, trivial⟩
        · refine zv_sub (lv' := [(3, .ref x1.1)]) ?_ (zsub_of [2] rfl)
          refine zr_aload_n h0 dX5_ofWay_56 rfl (n := 57) rfl ?_
          refine zr_getI C hC h0 zcX4 (k := 3) (by decide) zw_403 dX5_ofWay_57 (n := 60) rfl (fun v2 => ?_)
          exact zr_iretT h0 rfl dX5_ofWay_60 (hE _ _) (by decide) (by decide)
        · refine zv_sub (lv' := [(0, .ref a0), (3, .ref x1.1)]) ?_ (zsub_of [0, 2] rfl)
          refine zr_aload_n h0 dX5_ofWay_61 rfl (n := 62) rfl ?_
          refine zr_aload_n h0 dX5_ofWay_62 rfl (n := 63) rfl ?_
          refine zr_getR C hC h0 zcX5 (k := 5) (by decide) zw_80 dX5_ofWay_63 (n := 66) rfl (fun v3 => ?_)
          refine zr_cMI C hC 1 6 (fun x hx => zk_V h0 zcX4 (zcl_ex hx) (fun l D z0 => kX4_countWrongPlaces l D z0 x1.1 v3 x1.2 x (zcl_of hx)) zw_687 zw_688 zw_689 zw_13 zw_690 rfl zyX4_countWrongPlaces (As := [.ref v3]) (st := []) rfl (by decide) rfl (Nat.le_of_ble_eq_true rfl) (by decide) dX5_ofWay_66) rfl rfl (n := 69) rfl (fun x4 => ?_)
          exact zr_iretT h0 rfl dX5_ofWay_69 (hE _ _) (by decide) (by decide)
        · refine zv_sub (lv' := [(0, .ref a0), (3, .ref x1.1)]) ?_ (zsub_of [0, 2] rfl)
          refine zr_aload_n h0 dX5_ofWay_70 rfl (n := 71) rfl ?_
          refine zr_aload_n h0 dX5_ofWay_71 rfl (n := 72) rfl ?_
          refine zr_iconst (0 : Int32) h0 (by decide) dX5_ofWay_72 (n := 73) rfl ?_
          refine zr_cMI C hC 1 6 (fun x hx => zk_V h0 zcX5 (zcl_ex hx) (fun l D z0 => kX5_countAdditions l D z0 a0 x1.1 (0 : Int32) x1.2 x (zcl_of hx)) zw_701 zw_703 zs_27 zw_1 zw_704 rfl zyX5_countAdditions (As := [.ref x1.1, .int (0 : Int32)]) (st := []) rfl (by decide) rfl (Nat.le_of_ble_eq_true rfl) (by decide) dX5_ofWay_73) rfl rfl (n := 76) rfl (fun x5 => ?_)
          exact zr_iretT h0 rfl dX5_ofWay_76 (hE _ _) (by decide) (by decide)
        · refine zv_sub (lv' := [(0, .ref a0), (3, .ref x1.1)]) ?_ (zsub_of [0, 2] rfl)
          refine zr_aload_n h0 dX5_ofWay_77 rfl (n := 78) rfl ?_
          refine zr_aload_n h0 dX5_ofWay_78 rfl (n := 79) rfl ?_
          refine zr_iconst (1 : Int32) h0 (by decide) dX5_ofWay_79 (n := 80) rfl ?_
          refine zr_cMI C hC 1 6 (fun x hx => zk_V h0 zcX5 (zcl_ex hx) (fun l D z0 => kX5_countAdditions l D z0 a0 x1.1 (1 : Int32) x1.2 x (zcl_of hx)) zw_701 zw_703 zs_27 zw_1 zw_704 rfl zyX5_countAdditions (As := [.ref x1.1, .int (1 : Int32)]) (st := []) rfl (by decide) rfl (Nat.le_of_ble_eq_true rfl) (by decide) dX5_ofWay_80) rfl rfl (n := 83) rfl (fun x6 => ?_)
          exact zr_iretT h0 rfl dX5_ofWay_83 (hE _ _) (by decide) (by decide)
      · refine zv_sub (lv' := [(3, .ref x1.1)]) ?_ (zsub_of [2] rfl)
        refine zr_aload_n h0 dX5_ofWay_84 rfl (n := 85) rfl ?_
        refine zr_cRI C hC 1 6 (fun x hx => zk_V h0 zcX4 (zcl_ex hx) (fun l D z0 => kX4_greatestGrowth l D z0 x1.1 x1.2 x (zcl_of hx)) zw_751 zw_752 zw_753 zw_13 zw_754 rfl zyX4_greatestGrowth (As := []) (st := []) rfl (by decide) rfl (Nat.le_of_ble_eq_true rfl) (by decide) dX5_ofWay_85) rfl rfl (n := 88) rfl (fun x7 => ?_)
        exact zr_iretT h0 rfl dX5_ofWay_88 (hE _ _) (by decide) (by decide)
    · refine zv_sub (lv' := []) ?_ (zsub_of [] rfl)
      exact J15 x1.2
theorem kX5_ofWay (l : Launch) (D : ZD) (z0 : Nat) (hlt : l.stackTraces = false) (a0 : Nat) (a1 : Int32) (a2 : Int32) (S : ZS) (x : ((Int32 × ZS) ⊕ ZX)) (hf : fX5_ofWay a0 a1 a2 S = some x) : zMetT l D z0 yX5_ofWay cX5_ofWay 4 (some .int) rmX5_ofWay [.ref a0, .int a1, .int a2] S (x.map (fun y => ((some (.int y.1)), y.2)) id) :=
  zMetT_of hlt (by decide) (Nat.le_of_ble_eq_true rfl) (fun G h0 hnt hE hEx => wX5_ofWay a0 a1 a2 S h0 (fun o => o = some x) (fun h => nomatch h) hnt (fun v S1 h => by cases h; exact hE _ _ rfl) (fun E h hh => by cases hh; exact hEx _ _ rfl)) hf
theorem dX5_vector_0 : decode cX5_vector 0 = .ok (.aload_n 0, 1) := by decide +kernel
theorem dX5_vector_1 : decode cX5_vector 1 = .ok (.iload_n 1, 1) := by decide +kernel
theorem dX5_vector_2 : decode cX5_vector 2 = .ok (.invokevirtual 148, 3) := by decide +kernel
theorem dX5_vector_5 : decode cX5_vector 5 = .ok (.astore 4, 2) := by decide +kernel
theorem dX5_vector_7 : decode cX5_vector 7 = .ok (.aload 4, 2) := by decide +kernel
theorem dX5_vector_9 : decode cX5_vector 9 = .ok (.iload_n 2, 1) := by decide +kernel
theorem dX5_vector_10 : decode cX5_vector 10 = .ok (.invokestatic 174, 3) := by decide +kernel
theorem dX5_vector_13 : decode cX5_vector 13 = .ok (.iload_n 3, 1) := by decide +kernel
theorem dX5_vector_14 : decode cX5_vector 14 = .ok (.invokestatic 101, 3) := by decide +kernel
theorem dX5_vector_17 : decode cX5_vector 17 = .ok (.aload 4, 2) := by decide +kernel
theorem dX5_vector_19 : decode cX5_vector 19 = .ok (.iload_n 2, 1) := by decide +kernel
theorem dX5_vector_20 : decode cX5_vector 20 = .ok (.iload_n 3, 1) := by decide +kernel
theorem dX5_vector_21 : decode cX5_vector 21 = .ok (.invokevirtual 227, 3) := by decide +kernel
theorem dX5_vector_24 : decode cX5_vector 24 = .ok (.ireturn, 1) := by decide +kernel
abbrev rmX5_vector : Room := { frames := 7, cells := 3, slots := 18, locals := 112 }
theorem zyX5_vector : zyOK yX5_vector 3 := ⟨by decide +kernel, by decide +kernel, by decide +kernel⟩
set_option maxHeartbeats 4000000 in
set_option maxRecDepth 100000 in
theorem wX5_vector {G : ZG} (a0 : Nat) (a1 : Int32) (a2 : Int32) (a3 : Int32) (S : ZS) (h0 : zFix G cX5_vector RX5 5 (some .int) rmX5_vector) (C : Option ((Int32 × ZS) ⊕ ZX) → Prop) (hC : ¬ C none) (hnt : zNoTab G) (hE : ∀ (v : Int32) (S1 : ZS), C (some (.inl (v, S1))) → zEndT G (some (.int v)) S1 rmX5_vector) (hEx : ∀ (E : String) (h : ZH), C (some (.inr (E, h))) → zEndX G E h rmX5_vector) : zV G 5 S 0 0 0 [(0, .ref a0), (1, .int a1), (2, .int a2), (3, .int a3)] [] (C (fX5_vector a0 a1 a2 a3 S)) := by
  unfold fX5_vector
  refine zr_aload_n h0 dX5_vector_0 rfl (n := 1) rfl ?_
  refine zr_iload_n h0 dX5_vector_1 rfl (n := 2) rfl ?_
  refine zr_cTR C hC 1 6 h0 (fun x hx => zk_VT h0 zcX5 (zcl_ex hx) (fun l D z0 hlt => kX5_needWay l D z0 hlt a0 a1 S x (zcl_of hx)) hnt zw_420 zw_422 zs_3 zw_1 zw_423 rfl zyX5_needWay (As := [.int a1]) (st := []) rfl (by decide) rfl (Nat.le_of_ble_eq_true rfl) (by decide) dX5_vector_2) hnt rfl rfl (by decide) (by decide) (n := 5) rfl (fun z h => hEx _ _ h) (fun x1 => ?_)
  refine zr_astore [(0, .ref a0), (1, .int a1), (2, .int a2), (3, .int a3), (4, .ref x1.1)] h0 dX5_vector_5 (by decide) rfl (n := 7) rfl ?_
  refine zr_aload h0 dX5_vector_7 rfl (n := 9) rfl ?_
  refine zr_iload_n h0 dX5_vector_9 rfl (n := 10) rfl ?_
  refine zr_cTV C hC 2 12 h0 (fun x hx => zk_ST h0 (fun l D z0 hlt => kX5_needProduct l D z0 hlt x1.1 a2 x1.2 x hx) hnt zw_468 zw_469 zw_1 zw_470 zyX5_needProduct (As := [.ref x1.1, .int a2]) (st := []) rfl (by decide) rfl (Nat.le_of_ble_eq_true rfl) (by decide) dX5_vector_10) hnt rfl rfl (by decide) (by decide) (n := 13) rfl (fun z h => hEx _ _ h) (fun x2 => ?_)
  refine zr_iload_n h0 dX5_vector_13 rfl (n := 14) rfl ?_
  refine zr_cTV C hC 3 18 h0 (fun x hx => zk_ST h0 (fun l D z0 hlt => kX5_needSide l D z0 hlt a3 x2.2 x hx) hnt zw_328 zw_329 zw_1 zw_330 zyX5_needSide (As := [.int a3]) (st := []) rfl (by decide) rfl (Nat.le_of_ble_eq_true rfl) (by decide) dX5_vector_14) hnt rfl rfl (by decide) (by decide) (n := 17) rfl (fun z h => hEx _ _ h) (fun x3 => ?_)
  refine zr_aload h0 dX5_vector_17 rfl (n := 19) rfl ?_
  refine zr_iload_n h0 dX5_vector_19 rfl (n := 20) rfl ?_
  refine zr_iload_n h0 dX5_vector_20 rfl (n := 21) rfl ?_
  refine zr_cRI C hC 3 18 (fun x hx => zk_V h0 zcX4 (zcl_ex hx) (fun l D z0 => kX4_code l D z0 x1.1 a2 a3 x3.2 x (zcl_of hx)) zw_768 zw_478 zw_479 zw_13 zw_480 rfl zyX4_code (As := [.int a2, .int a3]) (st := []) rfl (by decide) rfl (Nat.le_of_ble_eq_true rfl) (by decide) dX5_vector_21) rfl rfl (n := 24) rfl (fun x4 => ?_)
  exact zr_iretT h0 rfl dX5_vector_24 (hE _ _) (by decide) (by decide)
theorem kX5_vector (l : Launch) (D : ZD) (z0 : Nat) (hlt : l.stackTraces = false) (a0 : Nat) (a1 : Int32) (a2 : Int32) (a3 : Int32) (S : ZS) (x : ((Int32 × ZS) ⊕ ZX)) (hf : fX5_vector a0 a1 a2 a3 S = some x) : zMetT l D z0 yX5_vector cX5_vector 5 (some .int) rmX5_vector [.ref a0, .int a1, .int a2, .int a3] S (x.map (fun y => ((some (.int y.1)), y.2)) id) :=
  zMetT_of hlt (by decide) (Nat.le_of_ble_eq_true rfl) (fun G h0 hnt hE hEx => wX5_vector a0 a1 a2 a3 S h0 (fun o => o = some x) (fun h => nomatch h) hnt (fun v S1 h => by cases h; exact hE _ _ rfl) (fun E h hh => by cases hh; exact hEx _ _ rfl)) hf
theorem dX5_needFactors_0 : decode cX5_needFactors 0 = .ok (.iload 4, 2) := by decide +kernel
theorem dX5_needFactors_2 : decode cX5_needFactors 2 = .ok (.aload_n 1, 1) := by decide +kernel
theorem dX5_needFactors_3 : decode cX5_needFactors 3 = .ok (.getfield 152, 3) := by decide +kernel
theorem dX5_needFactors_6 : decode cX5_needFactors 6 = .ok (.getfield 132, 3) := by decide +kernel
theorem dX5_needFactors_9 : decode cX5_needFactors 9 = .ok (.invokestatic 261, 3) := by decide +kernel
theorem dX5_needFactors_12 : decode cX5_needFactors 12 = .ok (.ifCond .ne 14, 3) := by decide +kernel
theorem dX5_needFactors_15 : decode cX5_needFactors 15 = .ok (.new 254, 3) := by decide +kernel
theorem dX5_needFactors_18 : decode cX5_needFactors 18 = .ok (.dup, 1) := by decide +kernel
theorem dX5_needFactors_19 : decode cX5_needFactors 19 = .ok (.ldc_w 265, 3) := by decide +kernel
theorem dX5_needFactors_22 : decode cX5_needFactors 22 = .ok (.invokespecial 258, 3) := by decide +kernel
theorem dX5_needFactors_25 : decode cX5_needFactors 25 = .ok (.athrow, 1) := by decide +kernel
theorem dX5_needFactors_26 : decode cX5_needFactors 26 = .ok (.aload_n 0, 1) := by decide +kernel
theorem dX5_needFactors_27 : decode cX5_needFactors 27 = .ok (.iload_n 2, 1) := by decide +kernel
theorem dX5_needFactors_28 : decode cX5_needFactors 28 = .ok (.aload_n 1, 1) := by decide +kernel
theorem dX5_needFactors_29 : decode cX5_needFactors 29 = .ok (.getfield 152, 3) := by decide +kernel
theorem dX5_needFactors_32 : decode cX5_needFactors 32 = .ok (.getfield 126, 3) := by decide +kernel
theorem dX5_needFactors_35 : decode cX5_needFactors 35 = .ok (.invokevirtual 156, 3) := by decide +kernel
theorem dX5_needFactors_38 : decode cX5_needFactors 38 = .ok (.aload_n 0, 1) := by decide +kernel
theorem dX5_needFactors_39 : decode cX5_needFactors 39 = .ok (.iload_n 3, 1) := by decide +kernel
theorem dX5_needFactors_40 : decode cX5_needFactors 40 = .ok (.aload_n 1, 1) := by decide +kernel
theorem dX5_needFactors_41 : decode cX5_needFactors 41 = .ok (.getfield 152, 3) := by decide +kernel
theorem dX5_needFactors_44 : decode cX5_needFactors 44 = .ok (.getfield 129, 3) := by decide +kernel
theorem dX5_needFactors_47 : decode cX5_needFactors 47 = .ok (.invokevirtual 156, 3) := by decide +kernel
theorem dX5_needFactors_50 : decode cX5_needFactors 50 = .ok (.return_, 1) := by decide +kernel
abbrev rmX5_needFactors : Room := { frames := 7, cells := 2, slots := 12, locals := 112 }
theorem zyX5_needFactors : zyOK yX5_needFactors 4 := ⟨by decide +kernel, by decide +kernel, by decide +kernel⟩
set_option maxHeartbeats 4000000 in
set_option maxRecDepth 100000 in
theorem wX5_needFactors {G : ZG} (a0 : Nat) (a1 : Nat) (a2 : Int32) (a3 : Int32) (a4 : Int32) (S : ZS) (h0 : zFix G cX5_needFactors RX5 5 none rmX5_needFactors) (C : Option ((Unit × ZS) ⊕ ZX) → Prop) (hC : ¬ C none) (hnt : zNoTab G) (hE : ∀ (v : Unit) (S1 : ZS), C (some (.inl (v, S1))) → zEndT G none S1 rmX5_needFactors) (hEx : ∀ (E : String) (h : ZH), C (some (.inr (E, h))) → zEndX G E h rmX5_needFactors) : zV G 5 S 0 0 0 [(0, .ref a0), (1, .ref a1), (2, .int a2), (3, .int a3), (4, .int a4)] [] (C (fX5_needFactors a0 a1 a2 a3 a4 S)) := by
  unfold fX5_needFactors
  refine zr_iload h0 dX5_needFactors_0 rfl (n := 2) rfl ?_
  refine zr_aload_n h0 dX5_needFactors_2 rfl (n := 3) rfl ?_
  refine zr_getR C hC h0 zcX4 (k := 0) (by decide) zw_399 dX5_needFactors_3 (n := 6) rfl (fun v1 => ?_)
  refine zr_getI C hC h0 zcX0 (k := 2) (by decide) zw_228 dX5_needFactors_6 (n := 9) rfl (fun v2 => ?_)
  refine zr_cRI C hC 0 0 (fun x hx => zk_S h0 (fun l D z0 => kX5_isBelow l D z0 a4 v2 S x hx) zw_309 zw_310 zw_1 zw_311 zyX5_isBelow (As := [.int a4, .int v2]) (st := []) rfl (by decide) rfl (Nat.le_of_ble_eq_true rfl) (by decide) dX5_needFactors_9) rfl rfl (n := 12) rfl (fun x3 => ?_)
  refine zr_if_ne C (tgt := 26) h0 dX5_needFactors_12 (by decide) (n := 15) rfl ?_ ?_
  · refine zv_sub (lv' := []) ?_ (zsub_of [] rfl)
    exact zr_throwW h0 hnt (cls := "java/lang/IndexOutOfBoundsException") (text := "there is no such place") (names := ["java/lang/RuntimeException", "java/lang/Exception"]) (by decide +kernel) zfitN zw_290 zw_12 (by decide +kernel) (by decide +kernel) zat_X5_258 zbad_X5_258 zgd_X5_258 dX5_needFactors_15 dX5_needFactors_18 dX5_needFactors_19 dX5_needFactors_22 dX5_needFactors_25 (by decide) (Nat.le_of_ble_eq_true rfl) (by decide) (by decide) (fun h => hEx _ _ h)
  · refine zv_sub (lv' := [(0, .ref a0), (1, .ref a1), (2, .int a2), (3, .int a3)]) ?_ (zsub_of [0, 1, 2, 3] rfl)
    refine zr_aload_n h0 dX5_needFactors_26 rfl (n := 27) rfl ?_
    refine zr_iload_n h0 dX5_needFactors_27 rfl (n := 28) rfl ?_
    refine zr_aload_n h0 dX5_needFactors_28 rfl (n := 29) rfl ?_
    refine zr_getR C hC h0 zcX4 (k := 0) (by decide) zw_399 dX5_needFactors_29 (n := 32) rfl (fun v4 => ?_)
    refine zr_getI C hC h0 zcX0 (k := 0) (by decide) zw_220 dX5_needFactors_32 (n := 35) rfl (fun v5 => ?_)
    refine zr_cTV C hC 1 6 h0 (fun x hx => zk_VT h0 zcX5 (zcl_ex hx) (fun l D z0 hlt => kX5_needCode l D z0 hlt a0 a2 v5 S x (zcl_of hx)) hnt zw_425 zw_427 zs_4 zw_1 zw_428 rfl zyX5_needCode (As := [.int a2, .int v5]) (st := []) rfl (by decide) rfl (Nat.le_of_ble_eq_true rfl) (by decide) dX5_needFactors_35) hnt rfl rfl (by decide) (by decide) (n := 38) rfl (fun z h => hEx _ _ h) (fun x6 => ?_)
    refine zr_aload_n h0 dX5_needFactors_38 rfl (n := 39) rfl ?_
    refine zr_iload_n h0 dX5_needFactors_39 rfl (n := 40) rfl ?_
    refine zr_aload_n h0 dX5_needFactors_40 rfl (n := 41) rfl ?_
    refine zr_getR C hC h0 zcX4 (k := 0) (by decide) zw_399 dX5_needFactors_41 (n := 44) rfl (fun v7 => ?_)
    refine zr_getI C hC h0 zcX0 (k := 1) (by decide) zw_224 dX5_needFactors_44 (n := 47) rfl (fun v8 => ?_)
    refine zr_cTV C hC 2 12 h0 (fun x hx => zk_VT h0 zcX5 (zcl_ex hx) (fun l D z0 hlt => kX5_needCode l D z0 hlt a0 a3 v8 x6.2 x (zcl_of hx)) hnt zw_425 zw_427 zs_4 zw_1 zw_428 rfl zyX5_needCode (As := [.int a3, .int v8]) (st := []) rfl (by decide) rfl (Nat.le_of_ble_eq_true rfl) (by decide) dX5_needFactors_47) hnt rfl rfl (by decide) (by decide) (n := 50) rfl (fun z h => hEx _ _ h) (fun x9 => ?_)
    exact zr_vretT h0 rfl dX5_needFactors_50 (fun h => hE _ _ h) (by decide) (by decide)
theorem kX5_needFactors (l : Launch) (D : ZD) (z0 : Nat) (hlt : l.stackTraces = false) (a0 : Nat) (a1 : Nat) (a2 : Int32) (a3 : Int32) (a4 : Int32) (S : ZS) (x : ((Unit × ZS) ⊕ ZX)) (hf : fX5_needFactors a0 a1 a2 a3 a4 S = some x) : zMetT l D z0 yX5_needFactors cX5_needFactors 5 none rmX5_needFactors [.ref a0, .ref a1, .int a2, .int a3, .int a4] S (x.map (fun y => (none, y.2)) id) :=
  zMetT_of hlt (by decide) (Nat.le_of_ble_eq_true rfl) (fun G h0 hnt hE hEx => wX5_needFactors a0 a1 a2 a3 a4 S h0 (fun o => o = some x) (fun h => nomatch h) hnt (fun v S1 h => by cases h; exact hE _ _ rfl) (fun E h hh => by cases hh; exact hEx _ _ rfl)) hf
theorem dX5_multipliedCodes_0 : decode cX5_multipliedCodes 0 = .ok (.iconst 0, 1) := by decide +kernel
theorem dX5_multipliedCodes_1 : decode cX5_multipliedCodes 1 = .ok (.istore 4, 2) := by decide +kernel
theorem dX5_multipliedCodes_3 : decode cX5_multipliedCodes 3 = .ok (.iconst 0, 1) := by decide +kernel
theorem dX5_multipliedCodes_4 : decode cX5_multipliedCodes 4 = .ok (.istore 5, 2) := by decide +kernel
theorem dX5_multipliedCodes_6 : decode cX5_multipliedCodes 6 = .ok (.iload 5, 2) := by decide +kernel
theorem dX5_multipliedCodes_8 : decode cX5_multipliedCodes 8 = .ok (.iload_n 2, 1) := by decide +kernel
theorem dX5_multipliedCodes_9 : decode cX5_multipliedCodes 9 = .ok (.if_icmp .ge 31, 3) := by decide +kernel
theorem dX5_multipliedCodes_12 : decode cX5_multipliedCodes 12 = .ok (.iload 4, 2) := by decide +kernel
theorem dX5_multipliedCodes_14 : decode cX5_multipliedCodes 14 = .ok (.iload_n 0, 1) := by decide +kernel
theorem dX5_multipliedCodes_15 : decode cX5_multipliedCodes 15 = .ok (.iload_n 2, 1) := by decide +kernel
theorem dX5_multipliedCodes_16 : decode cX5_multipliedCodes 16 = .ok (.iload 5, 2) := by decide +kernel
theorem dX5_multipliedCodes_18 : decode cX5_multipliedCodes 18 = .ok (.iload_n 3, 1) := by decide +kernel
theorem dX5_multipliedCodes_19 : decode cX5_multipliedCodes 19 = .ok (.invokestatic 307, 3) := by decide +kernel
theorem dX5_multipliedCodes_22 : decode cX5_multipliedCodes 22 = .ok (.iload_n 1, 1) := by decide +kernel
theorem dX5_multipliedCodes_23 : decode cX5_multipliedCodes 23 = .ok (.iload_n 2, 1) := by decide +kernel
theorem dX5_multipliedCodes_24 : decode cX5_multipliedCodes 24 = .ok (.iload 5, 2) := by decide +kernel
theorem dX5_multipliedCodes_26 : decode cX5_multipliedCodes 26 = .ok (.iload_n 3, 1) := by decide +kernel
theorem dX5_multipliedCodes_27 : decode cX5_multipliedCodes 27 = .ok (.invokestatic 307, 3) := by decide +kernel
theorem dX5_multipliedCodes_30 : decode cX5_multipliedCodes 30 = .ok (.imul, 1) := by decide +kernel
theorem dX5_multipliedCodes_31 : decode cX5_multipliedCodes 31 = .ok (.iadd, 1) := by decide +kernel
theorem dX5_multipliedCodes_32 : decode cX5_multipliedCodes 32 = .ok (.istore 4, 2) := by decide +kernel
theorem dX5_multipliedCodes_34 : decode cX5_multipliedCodes 34 = .ok (.iinc 5 1, 3) := by decide +kernel
theorem dX5_multipliedCodes_37 : decode cX5_multipliedCodes 37 = .ok (.goto (-31), 3) := by decide +kernel
theorem dX5_multipliedCodes_40 : decode cX5_multipliedCodes 40 = .ok (.iload 4, 2) := by decide +kernel
theorem dX5_multipliedCodes_42 : decode cX5_multipliedCodes 42 = .ok (.iload_n 3, 1) := by decide +kernel
theorem dX5_multipliedCodes_43 : decode cX5_multipliedCodes 43 = .ok (.invokestatic 83, 3) := by decide +kernel
theorem dX5_multipliedCodes_46 : decode cX5_multipliedCodes 46 = .ok (.ireturn, 1) := by decide +kernel
abbrev rmX5_multipliedCodes : Room := { frames := 2, cells := 0, slots := 0, locals := 45 }
theorem zyX5_multipliedCodes : zyOK yX5_multipliedCodes 4 := ⟨by decide +kernel, by decide +kernel, by decide +kernel⟩
set_option maxHeartbeats 4000000 in
set_option maxRecDepth 100000 in
theorem wX5_multipliedCodes {G : ZG} (a0 : Int32) (a1 : Int32) (a2 : Int32) (a3 : Int32) (S : ZS) (h0 : zFix G cX5_multipliedCodes RX5 6 (some .int) rmX5_multipliedCodes) (C : Option Int32 → Prop) (hC : ¬ C none) (hE : ∀ v : Int32, C (some v) → zEnd G (some (.int v)) S rmX5_multipliedCodes) : zV G 6 S 0 0 0 [(0, .int a0), (1, .int a1), (2, .int a2), (3, .int a3)] [] (C (fX5_multipliedCodes a0 a1 a2 a3)) := by
  unfold fX5_multipliedCodes
  refine zr_iconst (0 : Int32) h0 (by decide) dX5_multipliedCodes_0 (n := 1) rfl ?_
  refine zr_istore [(0, .int a0), (1, .int a1), (2, .int a2), (3, .int a3), (4, .int (0 : Int32))] h0 dX5_multipliedCodes_1 (by decide) rfl (n := 3) rfl ?_
  refine zr_iconst (0 : Int32) h0 (by decide) dX5_multipliedCodes_3 (n := 4) rfl ?_
  refine zr_istore [(0, .int a0), (1, .int a1), (2, .int a2), (3, .int a3), (4, .int (0 : Int32)), (5, .int (0 : Int32))] h0 dX5_multipliedCodes_4 (by decide) rfl (n := 6) rfl ?_
  refine zr_loop hC (fX5_multipliedCodes_B6 a0 a1 a2 a3) (fun y => [(0, .int a0), (1, .int a1), (2, .int a2), (3, .int a3), (4, .int y.1), (5, .int y.2)]) (fun y => S) zF ((0 : Int32), (0 : Int32)) (fun C6 hC6 hX6 hL6 t6 => ?_)
  unfold fX5_multipliedCodes_B6
  refine zr_iload h0 dX5_multipliedCodes_6 rfl (n := 8) rfl ?_
  refine zr_iload_n h0 dX5_multipliedCodes_8 rfl (n := 9) rfl ?_
  refine zr_icmp_ge C6 (tgt := 40) h0 dX5_multipliedCodes_9 (by decide) (n := 12) rfl ?_ ?_
  · refine zr_ex hX6 ?_
    refine zv_sub (lv' := [(3, .int a3), (4, .int t6.1)]) ?_ (zsub_of [3, 4] rfl)
    refine zr_iload h0 dX5_multipliedCodes_40 rfl (n := 42) rfl ?_
    refine zr_iload_n h0 dX5_multipliedCodes_42 rfl (n := 43) rfl ?_
    refine zr_cRI C hC 0 0 (fun x hx => zk_S h0 (fun l D z0 => kX5_remainder l D z0 t6.1 a3 S x hx) zw_275 zw_276 zw_1 zw_277 zyX5_remainder (As := [.int t6.1, .int a3]) (st := []) rfl (by decide) rfl (Nat.le_of_ble_eq_true rfl) (by decide) dX5_multipliedCodes_43) rfl rfl (n := 46) rfl (fun x4 => ?_)
    exact zr_iret h0 rfl dX5_multipliedCodes_46 (hE _) (by decide) (by decide)
  · refine zr_iload h0 dX5_multipliedCodes_12 rfl (n := 14) rfl ?_
    refine zr_iload_n h0 dX5_multipliedCodes_14 rfl (n := 15) rfl ?_
    refine zr_iload_n h0 dX5_multipliedCodes_15 rfl (n := 16) rfl ?_
    refine zr_iload h0 dX5_multipliedCodes_16 rfl (n := 18) rfl ?_
    refine zr_iload_n h0 dX5_multipliedCodes_18 rfl (n := 19) rfl ?_
    refine zr_cRI C6 hC6 0 0 (fun x hx => zk_S h0 (fun l D z0 => kX5_numberIn l D z0 a0 a2 t6.2 a3 S x hx) zw_495 zw_496 zw_1 zw_497 zyX5_numberIn (As := [.int a0, .int a2, .int t6.2, .int a3]) (st := [.int t6.1]) rfl (by decide) rfl (Nat.le_of_ble_eq_true rfl) (by decide) dX5_multipliedCodes_19) rfl rfl (n := 22) rfl (fun x5 => ?_)
    refine zr_iload_n h0 dX5_multipliedCodes_22 rfl (n := 23) rfl ?_
    refine zr_iload_n h0 dX5_multipliedCodes_23 rfl (n := 24) rfl ?_
    refine zr_iload h0 dX5_multipliedCodes_24 rfl (n := 26) rfl ?_
    refine zr_iload_n h0 dX5_multipliedCodes_26 rfl (n := 27) rfl ?_
    refine zr_cRI C6 hC6 0 0 (fun x hx => zk_S h0 (fun l D z0 => kX5_numberIn l D z0 a1 a2 t6.2 a3 S x hx) zw_495 zw_496 zw_1 zw_497 zyX5_numberIn (As := [.int a1, .int a2, .int t6.2, .int a3]) (st := [.int x5, .int t6.1]) rfl (by decide) rfl (Nat.le_of_ble_eq_true rfl) (by decide) dX5_multipliedCodes_27) rfl rfl (n := 30) rfl (fun x6 => ?_)
    refine zr_imul h0 dX5_multipliedCodes_30 (n := 31) rfl ?_
    refine zr_iadd h0 dX5_multipliedCodes_31 (n := 32) rfl ?_
    refine zr_istore [(0, .int a0), (1, .int a1), (2, .int a2), (3, .int a3), (4, .int (t6.1 + (x5 * x6))), (5, .int t6.2)] h0 dX5_multipliedCodes_32 (by decide) rfl (n := 34) rfl ?_
    refine zr_iinc (1 : Int32) [(0, .int a0), (1, .int a1), (2, .int a2), (3, .int a3), (4, .int (t6.1 + (x5 * x6))), (5, .int (t6.2 + (1 : Int32)))] h0 dX5_multipliedCodes_34 rfl (by decide) rfl rfl (n := 37) rfl ?_
    refine zr_goto (tgt := 6) h0 dX5_multipliedCodes_37 (by decide) ?_
    exact hL6 (t6.1 + (x5 * x6), t6.2 + (1 : Int32))
theorem kX5_multipliedCodes (l : Launch) (D : ZD) (z0 : Nat) (a0 : Int32) (a1 : Int32) (a2 : Int32) (a3 : Int32) (S : ZS) (x : Int32) (hf : fX5_multipliedCodes a0 a1 a2 a3 = some x) : zMet l D z0 yX5_multipliedCodes cX5_multipliedCodes 6 (some .int) rmX5_multipliedCodes [.int a0, .int a1, .int a2, .int a3] S (some (.int x)) S :=
  zMet_of (by decide) (Nat.le_of_ble_eq_true rfl) (fun G h0 hini hE => wX5_multipliedCodes a0 a1 a2 a3 S h0 (fun o => o = some x) (fun h => nomatch h) (fun v h => by cases h; exact hE)) hf
theorem dX4_multiplied_0 : decode cX4_multiplied 0 = .ok (.iconst 0, 1) := by decide +kernel
theorem dX4_multiplied_1 : decode cX4_multiplied 1 = .ok (.istore 4, 2) := by decide +kernel
theorem dX4_multiplied_3 : decode cX4_multiplied 3 = .ok (.iconst 0, 1) := by decide +kernel
theorem dX4_multiplied_4 : decode cX4_multiplied 4 = .ok (.istore 5, 2) := by decide +kernel
theorem dX4_multiplied_6 : decode cX4_multiplied 6 = .ok (.iload 5, 2) := by decide +kernel
theorem dX4_multiplied_8 : decode cX4_multiplied 8 = .ok (.aload_n 0, 1) := by decide +kernel
theorem dX4_multiplied_9 : decode cX4_multiplied 9 = .ok (.getfield 23, 3) := by decide +kernel
theorem dX4_multiplied_12 : decode cX4_multiplied 12 = .ok (.if_icmp .ge 76, 3) := by decide +kernel
theorem dX4_multiplied_15 : decode cX4_multiplied 15 = .ok (.aload_n 0, 1) := by decide +kernel
theorem dX4_multiplied_16 : decode cX4_multiplied 16 = .ok (.iload 5, 2) := by decide +kernel
theorem dX4_multiplied_18 : decode cX4_multiplied 18 = .ok (.iconst 0, 1) := by decide +kernel
theorem dX4_multiplied_19 : decode cX4_multiplied 19 = .ok (.invokevirtual 38, 3) := by decide +kernel
theorem dX4_multiplied_22 : decode cX4_multiplied 22 = .ok (.iload_n 1, 1) := by decide +kernel
theorem dX4_multiplied_23 : decode cX4_multiplied 23 = .ok (.aload_n 0, 1) := by decide +kernel
theorem dX4_multiplied_24 : decode cX4_multiplied 24 = .ok (.getfield 11, 3) := by decide +kernel
theorem dX4_multiplied_27 : decode cX4_multiplied 27 = .ok (.getfield 51, 3) := by decide +kernel
theorem dX4_multiplied_30 : decode cX4_multiplied 30 = .ok (.aload_n 0, 1) := by decide +kernel
theorem dX4_multiplied_31 : decode cX4_multiplied 31 = .ok (.getfield 15, 3) := by decide +kernel
theorem dX4_multiplied_34 : decode cX4_multiplied 34 = .ok (.invokestatic 163, 3) := by decide +kernel
theorem dX4_multiplied_37 : decode cX4_multiplied 37 = .ok (.istore 6, 2) := by decide +kernel
theorem dX4_multiplied_39 : decode cX4_multiplied 39 = .ok (.aload_n 0, 1) := by decide +kernel
theorem dX4_multiplied_40 : decode cX4_multiplied 40 = .ok (.iload 5, 2) := by decide +kernel
theorem dX4_multiplied_42 : decode cX4_multiplied 42 = .ok (.iconst 1, 1) := by decide +kernel
theorem dX4_multiplied_43 : decode cX4_multiplied 43 = .ok (.invokevirtual 38, 3) := by decide +kernel
theorem dX4_multiplied_46 : decode cX4_multiplied 46 = .ok (.iload_n 2, 1) := by decide +kernel
theorem dX4_multiplied_47 : decode cX4_multiplied 47 = .ok (.aload_n 0, 1) := by decide +kernel
theorem dX4_multiplied_48 : decode cX4_multiplied 48 = .ok (.getfield 11, 3) := by decide +kernel
theorem dX4_multiplied_51 : decode cX4_multiplied 51 = .ok (.getfield 54, 3) := by decide +kernel
theorem dX4_multiplied_54 : decode cX4_multiplied 54 = .ok (.aload_n 0, 1) := by decide +kernel
theorem dX4_multiplied_55 : decode cX4_multiplied 55 = .ok (.getfield 15, 3) := by decide +kernel
theorem dX4_multiplied_58 : decode cX4_multiplied 58 = .ok (.invokestatic 163, 3) := by decide +kernel
theorem dX4_multiplied_61 : decode cX4_multiplied 61 = .ok (.istore 7, 2) := by decide +kernel
theorem dX4_multiplied_63 : decode cX4_multiplied 63 = .ok (.iload 4, 2) := by decide +kernel
theorem dX4_multiplied_65 : decode cX4_multiplied 65 = .ok (.aload_n 0, 1) := by decide +kernel
theorem dX4_multiplied_66 : decode cX4_multiplied 66 = .ok (.iload 5, 2) := by decide +kernel
theorem dX4_multiplied_68 : decode cX4_multiplied 68 = .ok (.iconst 2, 1) := by decide +kernel
theorem dX4_multiplied_69 : decode cX4_multiplied 69 = .ok (.iload_n 3, 1) := by decide +kernel
theorem dX4_multiplied_70 : decode cX4_multiplied 70 = .ok (.invokevirtual 128, 3) := by decide +kernel
theorem dX4_multiplied_73 : decode cX4_multiplied 73 = .ok (.iload 6, 2) := by decide +kernel
theorem dX4_multiplied_75 : decode cX4_multiplied 75 = .ok (.imul, 1) := by decide +kernel
theorem dX4_multiplied_76 : decode cX4_multiplied 76 = .ok (.iload 7, 2) := by decide +kernel
theorem dX4_multiplied_78 : decode cX4_multiplied 78 = .ok (.imul, 1) := by decide +kernel
theorem dX4_multiplied_79 : decode cX4_multiplied 79 = .ok (.iadd, 1) := by decide +kernel
theorem dX4_multiplied_80 : decode cX4_multiplied 80 = .ok (.istore 4, 2) := by decide +kernel
theorem dX4_multiplied_82 : decode cX4_multiplied 82 = .ok (.iinc 5 1, 3) := by decide +kernel
theorem dX4_multiplied_85 : decode cX4_multiplied 85 = .ok (.goto (-79), 3) := by decide +kernel
theorem dX4_multiplied_88 : decode cX4_multiplied 88 = .ok (.iload 4, 2) := by decide +kernel
theorem dX4_multiplied_90 : decode cX4_multiplied 90 = .ok (.aload_n 0, 1) := by decide +kernel
theorem dX4_multiplied_91 : decode cX4_multiplied 91 = .ok (.getfield 15, 3) := by decide +kernel
theorem dX4_multiplied_94 : decode cX4_multiplied 94 = .ok (.invokestatic 103, 3) := by decide +kernel
theorem dX4_multiplied_97 : decode cX4_multiplied 97 = .ok (.ireturn, 1) := by decide +kernel
abbrev rmX4_multiplied : Room := { frames := 4, cells := 0, slots := 0, locals := 86 }
theorem zyX4_multiplied : zyOK yX4_multiplied 3 := ⟨by decide +kernel, by decide +kernel, by decide +kernel⟩
set_option maxHeartbeats 4000000 in
set_option maxRecDepth 100000 in
theorem wX4_multiplied {G : ZG} (a0 : Nat) (a1 : Int32) (a2 : Int32) (a3 : Int32) (S : ZS) (h0 : zFix G cX4_multiplied RX4 8 (some .int) rmX4_multiplied) (C : Option Int32 → Prop) (hC : ¬ C none) (hE : ∀ v : Int32, C (some v) → zEnd G (some (.int v)) S rmX4_multiplied) : zV G 8 S 0 0 0 [(0, .ref a0), (1, .int a1), (2, .int a2), (3, .int a3)] [] (C (fX4_multiplied a0 a1 a2 a3 S)) := by
  unfold fX4_multiplied
  refine zr_iconst (0 : Int32) h0 (by decide) dX4_multiplied_0 (n := 1) rfl ?_
  refine zr_istore [(0, .ref a0), (1, .int a1), (2, .int a2), (3, .int a3), (4, .int (0 : Int32))] h0 dX4_multiplied_1 (by decide) rfl (n := 3) rfl ?_
  refine zr_iconst (0 : Int32) h0 (by decide) dX4_multiplied_3 (n := 4) rfl ?_
  refine zr_istore [(0, .ref a0), (1, .int a1), (2, .int a2), (3, .int a3), (4, .int (0 : Int32)), (5, .int (0 : Int32))] h0 dX4_multiplied_4 (by decide) rfl (n := 6) rfl ?_
  refine zr_loop hC (fX4_multiplied_B6 a0 a1 a2 a3 S) (fun y => [(0, .ref a0), (1, .int a1), (2, .int a2), (3, .int a3), (4, .int y.1), (5, .int y.2)]) (fun y => S) zF ((0 : Int32), (0 : Int32)) (fun C6 hC6 hX6 hL6 t6 => ?_)
  unfold fX4_multiplied_B6
  refine zr_iload h0 dX4_multiplied_6 rfl (n := 8) rfl ?_
  refine zr_aload_n h0 dX4_multiplied_8 rfl (n := 9) rfl ?_
  refine zr_getI C6 hC6 h0 zcX4 (k := 3) (by decide) zw_402 dX4_multiplied_9 (n := 12) rfl (fun v15 => ?_)
  refine zr_icmp_ge C6 (tgt := 88) h0 dX4_multiplied_12 (by decide) (n := 15) rfl ?_ ?_
  · refine zr_ex hX6 ?_
    refine zv_sub (lv' := [(0, .ref a0), (4, .int t6.1)]) ?_ (zsub_of [0, 4] rfl)
    refine zr_iload h0 dX4_multiplied_88 rfl (n := 90) rfl ?_
    refine zr_aload_n h0 dX4_multiplied_90 rfl (n := 91) rfl ?_
    refine zr_getI C hC h0 zcX4 (k := 1) (by decide) zw_400 dX4_multiplied_91 (n := 94) rfl (fun v16 => ?_)
    refine zr_cRI C hC 0 0 (fun x hx => zk_SN (host := "Bilinearium") h0 (fun l D z0 => kX5_remainder l D z0 t6.1 v16 S x hx) (by decide +kernel) zw_276 zw_1 zw_277 zyX5_remainder (As := [.int t6.1, .int v16]) (st := []) rfl (by decide) rfl (Nat.le_of_ble_eq_true rfl) (by decide) dX4_multiplied_94) rfl rfl (n := 97) rfl (fun x17 => ?_)
    exact zr_iret h0 rfl dX4_multiplied_97 (hE _) (by decide) (by decide)
  · refine zr_aload_n h0 dX4_multiplied_15 rfl (n := 16) rfl ?_
    refine zr_iload h0 dX4_multiplied_16 rfl (n := 18) rfl ?_
    refine zr_iconst (0 : Int32) h0 (by decide) dX4_multiplied_18 (n := 19) rfl ?_
    refine zr_cRI C6 hC6 0 0 (fun x hx => zk_V h0 zcX4 (zcl_ex hx) (fun l D z0 => kX4_code l D z0 a0 t6.2 (0 : Int32) S x (zcl_of hx)) zw_477 zw_478 zw_479 zw_13 zw_480 rfl zyX4_code (As := [.int t6.2, .int (0 : Int32)]) (st := []) rfl (by decide) rfl (Nat.le_of_ble_eq_true rfl) (by decide) dX4_multiplied_19) rfl rfl (n := 22) rfl (fun x18 => ?_)
    refine zr_iload_n h0 dX4_multiplied_22 rfl (n := 23) rfl ?_
    refine zr_aload_n h0 dX4_multiplied_23 rfl (n := 24) rfl ?_
    refine zr_getR C6 hC6 h0 zcX4 (k := 0) (by decide) zw_398 dX4_multiplied_24 (n := 27) rfl (fun v19 => ?_)
    refine zr_getI C6 hC6 h0 zcX0 (k := 0) (by decide) zw_219 dX4_multiplied_27 (n := 30) rfl (fun v20 => ?_)
    refine zr_aload_n h0 dX4_multiplied_30 rfl (n := 31) rfl ?_
    refine zr_getI C6 hC6 h0 zcX4 (k := 1) (by decide) zw_400 dX4_multiplied_31 (n := 34) rfl (fun v21 => ?_)
    refine zr_cRI C6 hC6 0 0 (fun x hx => zk_SN (host := "Bilinearium") h0 (fun l D z0 => kX5_multipliedCodes l D z0 x18 a1 v20 v21 S x hx) (by decide +kernel) zw_785 zw_1 zw_786 zyX5_multipliedCodes (As := [.int x18, .int a1, .int v20, .int v21]) (st := []) rfl (by decide) rfl (Nat.le_of_ble_eq_true rfl) (by decide) dX4_multiplied_34) rfl rfl (n := 37) rfl (fun x22 => ?_)
    refine zr_istore [(0, .ref a0), (1, .int a1), (2, .int a2), (3, .int a3), (4, .int t6.1), (5, .int t6.2), (6, .int x22)] h0 dX4_multiplied_37 (by decide) rfl (n := 39) rfl ?_
    refine zr_aload_n h0 dX4_multiplied_39 rfl (n := 40) rfl ?_
    refine zr_iload h0 dX4_multiplied_40 rfl (n := 42) rfl ?_
    refine zr_iconst (1 : Int32) h0 (by decide) dX4_multiplied_42 (n := 43) rfl ?_
    refine zr_cRI C6 hC6 0 0 (fun x hx => zk_V h0 zcX4 (zcl_ex hx) (fun l D z0 => kX4_code l D z0 a0 t6.2 (1 : Int32) S x (zcl_of hx)) zw_477 zw_478 zw_479 zw_13 zw_480 rfl zyX4_code (As := [.int t6.2, .int (1 : Int32)]) (st := []) rfl (by decide) rfl (Nat.le_of_ble_eq_true rfl) (by decide) dX4_multiplied_43) rfl rfl (n := 46) rfl (fun x23 => ?_)
    refine zr_iload_n h0 dX4_multiplied_46 rfl (n := 47) rfl ?_
    refine zr_aload_n h0 dX4_multiplied_47 rfl (n := 48) rfl ?_
    refine zr_getR C6 hC6 h0 zcX4 (k := 0) (by decide) zw_398 dX4_multiplied_48 (n := 51) rfl (fun v24 => ?_)
    refine zr_getI C6 hC6 h0 zcX0 (k := 1) (by decide) zw_223 dX4_multiplied_51 (n := 54) rfl (fun v25 => ?_)
    refine zr_aload_n h0 dX4_multiplied_54 rfl (n := 55) rfl ?_
    refine zr_getI C6 hC6 h0 zcX4 (k := 1) (by decide) zw_400 dX4_multiplied_55 (n := 58) rfl (fun v26 => ?_)
    refine zr_cRI C6 hC6 0 0 (fun x hx => zk_SN (host := "Bilinearium") h0 (fun l D z0 => kX5_multipliedCodes l D z0 x23 a2 v25 v26 S x hx) (by decide +kernel) zw_785 zw_1 zw_786 zyX5_multipliedCodes (As := [.int x23, .int a2, .int v25, .int v26]) (st := []) rfl (by decide) rfl (Nat.le_of_ble_eq_true rfl) (by decide) dX4_multiplied_58) rfl rfl (n := 61) rfl (fun x27 => ?_)
    refine zr_istore [(0, .ref a0), (1, .int a1), (2, .int a2), (3, .int a3), (4, .int t6.1), (5, .int t6.2), (6, .int x22), (7, .int x27)] h0 dX4_multiplied_61 (by decide) rfl (n := 63) rfl ?_
    refine zr_iload h0 dX4_multiplied_63 rfl (n := 65) rfl ?_
    refine zr_aload_n h0 dX4_multiplied_65 rfl (n := 66) rfl ?_
    refine zr_iload h0 dX4_multiplied_66 rfl (n := 68) rfl ?_
    refine zr_iconst (2 : Int32) h0 (by decide) dX4_multiplied_68 (n := 69) rfl ?_
    refine zr_iload_n h0 dX4_multiplied_69 rfl (n := 70) rfl ?_
    refine zr_cRI C6 hC6 0 0 (fun x hx => zk_V h0 zcX4 (zcl_ex hx) (fun l D z0 => kX4_number l D z0 a0 t6.2 (2 : Int32) a3 S x (zcl_of hx)) zw_695 zw_697 zs_26 zw_13 zw_698 rfl zyX4_number (As := [.int t6.2, .int (2 : Int32), .int a3]) (st := [.int t6.1]) rfl (by decide) rfl (Nat.le_of_ble_eq_true rfl) (by decide) dX4_multiplied_70) rfl rfl (n := 73) rfl (fun x28 => ?_)
    refine zr_iload h0 dX4_multiplied_73 rfl (n := 75) rfl ?_
    refine zr_imul h0 dX4_multiplied_75 (n := 76) rfl ?_
    refine zr_iload h0 dX4_multiplied_76 rfl (n := 78) rfl ?_
    refine zr_imul h0 dX4_multiplied_78 (n := 79) rfl ?_
    refine zr_iadd h0 dX4_multiplied_79 (n := 80) rfl ?_
    refine zr_istore [(0, .ref a0), (1, .int a1), (2, .int a2), (3, .int a3), (4, .int (t6.1 + ((x28 * x22) * x27))), (5, .int t6.2), (6, .int x22), (7, .int x27)] h0 dX4_multiplied_80 (by decide) rfl (n := 82) rfl ?_
    refine zr_iinc (1 : Int32) [(0, .ref a0), (1, .int a1), (2, .int a2), (3, .int a3), (4, .int (t6.1 + ((x28 * x22) * x27))), (5, .int (t6.2 + (1 : Int32))), (6, .int x22), (7, .int x27)] h0 dX4_multiplied_82 rfl (by decide) rfl rfl (n := 85) rfl ?_
    refine zr_goto (tgt := 6) h0 dX4_multiplied_85 (by decide) ?_
    refine zv_sub (lv' := [(0, .ref a0), (1, .int a1), (2, .int a2), (3, .int a3), (4, .int (t6.1 + ((x28 * x22) * x27))), (5, .int (t6.2 + (1 : Int32)))]) ?_ (zsub_of [0, 1, 2, 3, 4, 5] rfl)
    exact hL6 (t6.1 + ((x28 * x22) * x27), t6.2 + (1 : Int32))
theorem kX4_multiplied (l : Launch) (D : ZD) (z0 : Nat) (a0 : Nat) (a1 : Int32) (a2 : Int32) (a3 : Int32) (S : ZS) (x : Int32) (hf : fX4_multiplied a0 a1 a2 a3 S = some x) : zMet l D z0 yX4_multiplied cX4_multiplied 8 (some .int) rmX4_multiplied [.ref a0, .int a1, .int a2, .int a3] S (some (.int x)) S :=
  zMet_of (by decide) (Nat.le_of_ble_eq_true rfl) (fun G h0 hini hE => wX4_multiplied a0 a1 a2 a3 S h0 (fun o => o = some x) (fun h => nomatch h) (fun v h => by cases h; exact hE)) hf
theorem dX5_result_0 : decode cX5_result 0 = .ok (.aload_n 0, 1) := by decide +kernel
theorem dX5_result_1 : decode cX5_result 1 = .ok (.iload_n 1, 1) := by decide +kernel
theorem dX5_result_2 : decode cX5_result 2 = .ok (.invokevirtual 148, 3) := by decide +kernel
theorem dX5_result_5 : decode cX5_result 5 = .ok (.astore 5, 2) := by decide +kernel
theorem dX5_result_7 : decode cX5_result 7 = .ok (.aload_n 0, 1) := by decide +kernel
theorem dX5_result_8 : decode cX5_result 8 = .ok (.aload 5, 2) := by decide +kernel
theorem dX5_result_10 : decode cX5_result 10 = .ok (.iload_n 2, 1) := by decide +kernel
theorem dX5_result_11 : decode cX5_result 11 = .ok (.iload_n 3, 1) := by decide +kernel
theorem dX5_result_12 : decode cX5_result 12 = .ok (.iload 4, 2) := by decide +kernel
theorem dX5_result_14 : decode cX5_result 14 = .ok (.invokevirtual 230, 3) := by decide +kernel
theorem dX5_result_17 : decode cX5_result 17 = .ok (.aload 5, 2) := by decide +kernel
theorem dX5_result_19 : decode cX5_result 19 = .ok (.iload_n 2, 1) := by decide +kernel
theorem dX5_result_20 : decode cX5_result 20 = .ok (.iload_n 3, 1) := by decide +kernel
theorem dX5_result_21 : decode cX5_result 21 = .ok (.iload 4, 2) := by decide +kernel
theorem dX5_result_23 : decode cX5_result 23 = .ok (.invokevirtual 234, 3) := by decide +kernel
theorem dX5_result_26 : decode cX5_result 26 = .ok (.ireturn, 1) := by decide +kernel
abbrev rmX5_result : Room := { frames := 8, cells := 3, slots := 18, locals := 136 }
theorem zyX5_result : zyOK yX5_result 4 := ⟨by decide +kernel, by decide +kernel, by decide +kernel⟩
set_option maxHeartbeats 4000000 in
set_option maxRecDepth 100000 in
theorem wX5_result {G : ZG} (a0 : Nat) (a1 : Int32) (a2 : Int32) (a3 : Int32) (a4 : Int32) (S : ZS) (h0 : zFix G cX5_result RX5 6 (some .int) rmX5_result) (C : Option ((Int32 × ZS) ⊕ ZX) → Prop) (hC : ¬ C none) (hnt : zNoTab G) (hE : ∀ (v : Int32) (S1 : ZS), C (some (.inl (v, S1))) → zEndT G (some (.int v)) S1 rmX5_result) (hEx : ∀ (E : String) (h : ZH), C (some (.inr (E, h))) → zEndX G E h rmX5_result) : zV G 6 S 0 0 0 [(0, .ref a0), (1, .int a1), (2, .int a2), (3, .int a3), (4, .int a4)] [] (C (fX5_result a0 a1 a2 a3 a4 S)) := by
  unfold fX5_result
  refine zr_aload_n h0 dX5_result_0 rfl (n := 1) rfl ?_
  refine zr_iload_n h0 dX5_result_1 rfl (n := 2) rfl ?_
  refine zr_cTR C hC 1 6 h0 (fun x hx => zk_VT h0 zcX5 (zcl_ex hx) (fun l D z0 hlt => kX5_needWay l D z0 hlt a0 a1 S x (zcl_of hx)) hnt zw_420 zw_422 zs_3 zw_1 zw_423 rfl zyX5_needWay (As := [.int a1]) (st := []) rfl (by decide) rfl (Nat.le_of_ble_eq_true rfl) (by decide) dX5_result_2) hnt rfl rfl (by decide) (by decide) (n := 5) rfl (fun z h => hEx _ _ h) (fun x1 => ?_)
  refine zr_astore [(0, .ref a0), (1, .int a1), (2, .int a2), (3, .int a3), (4, .int a4), (5, .ref x1.1)] h0 dX5_result_5 (by decide) rfl (n := 7) rfl ?_
  refine zr_aload_n h0 dX5_result_7 rfl (n := 8) rfl ?_
  refine zr_aload h0 dX5_result_8 rfl (n := 10) rfl ?_
  refine zr_iload_n h0 dX5_result_10 rfl (n := 11) rfl ?_
  refine zr_iload_n h0 dX5_result_11 rfl (n := 12) rfl ?_
  refine zr_iload h0 dX5_result_12 rfl (n := 14) rfl ?_
  refine zr_cTV C hC 3 18 h0 (fun x hx => zk_VT h0 zcX5 (zcl_ex hx) (fun l D z0 hlt => kX5_needFactors l D z0 hlt a0 x1.1 a2 a3 a4 x1.2 x (zcl_of hx)) hnt zw_776 zw_778 zs_33 zw_1 zw_779 rfl zyX5_needFactors (As := [.ref x1.1, .int a2, .int a3, .int a4]) (st := []) rfl (by decide) rfl (Nat.le_of_ble_eq_true rfl) (by decide) dX5_result_14) hnt rfl rfl (by decide) (by decide) (n := 17) rfl (fun z h => hEx _ _ h) (fun x2 => ?_)
  refine zr_aload h0 dX5_result_17 rfl (n := 19) rfl ?_
  refine zr_iload_n h0 dX5_result_19 rfl (n := 20) rfl ?_
  refine zr_iload_n h0 dX5_result_20 rfl (n := 21) rfl ?_
  refine zr_iload h0 dX5_result_21 rfl (n := 23) rfl ?_
  refine zr_cRI C hC 3 18 (fun x hx => zk_V h0 zcX4 (zcl_ex hx) (fun l D z0 => kX4_multiplied l D z0 x1.1 a2 a3 a4 x2.2 x (zcl_of hx)) zw_780 zw_781 zw_782 zw_13 zw_783 rfl zyX4_multiplied (As := [.int a2, .int a3, .int a4]) (st := []) rfl (by decide) rfl (Nat.le_of_ble_eq_true rfl) (by decide) dX5_result_23) rfl rfl (n := 26) rfl (fun x3 => ?_)
  exact zr_iretT h0 rfl dX5_result_26 (hE _ _) (by decide) (by decide)
theorem kX5_result (l : Launch) (D : ZD) (z0 : Nat) (hlt : l.stackTraces = false) (a0 : Nat) (a1 : Int32) (a2 : Int32) (a3 : Int32) (a4 : Int32) (S : ZS) (x : ((Int32 × ZS) ⊕ ZX)) (hf : fX5_result a0 a1 a2 a3 a4 S = some x) : zMetT l D z0 yX5_result cX5_result 6 (some .int) rmX5_result [.ref a0, .int a1, .int a2, .int a3, .int a4] S (x.map (fun y => ((some (.int y.1)), y.2)) id) :=
  zMetT_of hlt (by decide) (Nat.le_of_ble_eq_true rfl) (fun G h0 hnt hE hEx => wX5_result a0 a1 a2 a3 a4 S h0 (fun o => o = some x) (fun h => nomatch h) hnt (fun v S1 h => by cases h; exact hE _ _ rfl) (fun E h hh => by cases hh; exact hEx _ _ rfl)) hf
theorem dX4_multipliedByCube_0 : decode cX4_multipliedByCube 0 = .ok (.iconst 0, 1) := by decide +kernel
theorem dX4_multipliedByCube_1 : decode cX4_multipliedByCube 1 = .ok (.istore 4, 2) := by decide +kernel
theorem dX4_multipliedByCube_3 : decode cX4_multipliedByCube 3 = .ok (.iconst 0, 1) := by decide +kernel
theorem dX4_multipliedByCube_4 : decode cX4_multipliedByCube 4 = .ok (.istore 5, 2) := by decide +kernel
theorem dX4_multipliedByCube_6 : decode cX4_multipliedByCube 6 = .ok (.iload 5, 2) := by decide +kernel
theorem dX4_multipliedByCube_8 : decode cX4_multipliedByCube 8 = .ok (.aload_n 0, 1) := by decide +kernel
theorem dX4_multipliedByCube_9 : decode cX4_multipliedByCube 9 = .ok (.getfield 11, 3) := by decide +kernel
theorem dX4_multipliedByCube_12 : decode cX4_multipliedByCube 12 = .ok (.getfield 51, 3) := by decide +kernel
theorem dX4_multipliedByCube_15 : decode cX4_multipliedByCube 15 = .ok (.if_icmp .ge 91, 3) := by decide +kernel
theorem dX4_multipliedByCube_18 : decode cX4_multipliedByCube 18 = .ok (.iload_n 1, 1) := by decide +kernel
theorem dX4_multipliedByCube_19 : decode cX4_multipliedByCube 19 = .ok (.aload_n 0, 1) := by decide +kernel
theorem dX4_multipliedByCube_20 : decode cX4_multipliedByCube 20 = .ok (.getfield 11, 3) := by decide +kernel
theorem dX4_multipliedByCube_23 : decode cX4_multipliedByCube 23 = .ok (.getfield 51, 3) := by decide +kernel
theorem dX4_multipliedByCube_26 : decode cX4_multipliedByCube 26 = .ok (.iload 5, 2) := by decide +kernel
theorem dX4_multipliedByCube_28 : decode cX4_multipliedByCube 28 = .ok (.aload_n 0, 1) := by decide +kernel
theorem dX4_multipliedByCube_29 : decode cX4_multipliedByCube 29 = .ok (.getfield 15, 3) := by decide +kernel
theorem dX4_multipliedByCube_32 : decode cX4_multipliedByCube 32 = .ok (.invokestatic 47, 3) := by decide +kernel
theorem dX4_multipliedByCube_35 : decode cX4_multipliedByCube 35 = .ok (.istore 6, 2) := by decide +kernel
theorem dX4_multipliedByCube_37 : decode cX4_multipliedByCube 37 = .ok (.iconst 0, 1) := by decide +kernel
theorem dX4_multipliedByCube_38 : decode cX4_multipliedByCube 38 = .ok (.istore 7, 2) := by decide +kernel
theorem dX4_multipliedByCube_40 : decode cX4_multipliedByCube 40 = .ok (.iload 7, 2) := by decide +kernel
theorem dX4_multipliedByCube_42 : decode cX4_multipliedByCube 42 = .ok (.aload_n 0, 1) := by decide +kernel
theorem dX4_multipliedByCube_43 : decode cX4_multipliedByCube 43 = .ok (.getfield 11, 3) := by decide +kernel
theorem dX4_multipliedByCube_46 : decode cX4_multipliedByCube 46 = .ok (.getfield 54, 3) := by decide +kernel
theorem dX4_multipliedByCube_49 : decode cX4_multipliedByCube 49 = .ok (.if_icmp .ge 51, 3) := by decide +kernel
theorem dX4_multipliedByCube_52 : decode cX4_multipliedByCube 52 = .ok (.iload_n 2, 1) := by decide +kernel
theorem dX4_multipliedByCube_53 : decode cX4_multipliedByCube 53 = .ok (.aload_n 0, 1) := by decide +kernel
theorem dX4_multipliedByCube_54 : decode cX4_multipliedByCube 54 = .ok (.getfield 11, 3) := by decide +kernel
theorem dX4_multipliedByCube_57 : decode cX4_multipliedByCube 57 = .ok (.getfield 54, 3) := by decide +kernel
theorem dX4_multipliedByCube_60 : decode cX4_multipliedByCube 60 = .ok (.iload 7, 2) := by decide +kernel
theorem dX4_multipliedByCube_62 : decode cX4_multipliedByCube 62 = .ok (.aload_n 0, 1) := by decide +kernel
theorem dX4_multipliedByCube_63 : decode cX4_multipliedByCube 63 = .ok (.getfield 15, 3) := by decide +kernel
theorem dX4_multipliedByCube_66 : decode cX4_multipliedByCube 66 = .ok (.invokestatic 47, 3) := by decide +kernel
theorem dX4_multipliedByCube_69 : decode cX4_multipliedByCube 69 = .ok (.istore 8, 2) := by decide +kernel
theorem dX4_multipliedByCube_71 : decode cX4_multipliedByCube 71 = .ok (.iload 4, 2) := by decide +kernel
theorem dX4_multipliedByCube_73 : decode cX4_multipliedByCube 73 = .ok (.aload_n 0, 1) := by decide +kernel
theorem dX4_multipliedByCube_74 : decode cX4_multipliedByCube 74 = .ok (.getfield 11, 3) := by decide +kernel
theorem dX4_multipliedByCube_77 : decode cX4_multipliedByCube 77 = .ok (.iload 5, 2) := by decide +kernel
theorem dX4_multipliedByCube_79 : decode cX4_multipliedByCube 79 = .ok (.iload 7, 2) := by decide +kernel
theorem dX4_multipliedByCube_81 : decode cX4_multipliedByCube 81 = .ok (.iload_n 3, 1) := by decide +kernel
theorem dX4_multipliedByCube_82 : decode cX4_multipliedByCube 82 = .ok (.invokevirtual 60, 3) := by decide +kernel
theorem dX4_multipliedByCube_85 : decode cX4_multipliedByCube 85 = .ok (.iload 6, 2) := by decide +kernel
theorem dX4_multipliedByCube_87 : decode cX4_multipliedByCube 87 = .ok (.imul, 1) := by decide +kernel
theorem dX4_multipliedByCube_88 : decode cX4_multipliedByCube 88 = .ok (.iload 8, 2) := by decide +kernel
theorem dX4_multipliedByCube_90 : decode cX4_multipliedByCube 90 = .ok (.imul, 1) := by decide +kernel
theorem dX4_multipliedByCube_91 : decode cX4_multipliedByCube 91 = .ok (.iadd, 1) := by decide +kernel
theorem dX4_multipliedByCube_92 : decode cX4_multipliedByCube 92 = .ok (.istore 4, 2) := by decide +kernel
theorem dX4_multipliedByCube_94 : decode cX4_multipliedByCube 94 = .ok (.iinc 7 1, 3) := by decide +kernel
theorem dX4_multipliedByCube_97 : decode cX4_multipliedByCube 97 = .ok (.goto (-57), 3) := by decide +kernel
theorem dX4_multipliedByCube_100 : decode cX4_multipliedByCube 100 = .ok (.iinc 5 1, 3) := by decide +kernel
theorem dX4_multipliedByCube_103 : decode cX4_multipliedByCube 103 = .ok (.goto (-97), 3) := by decide +kernel
theorem dX4_multipliedByCube_106 : decode cX4_multipliedByCube 106 = .ok (.iload 4, 2) := by decide +kernel
theorem dX4_multipliedByCube_108 : decode cX4_multipliedByCube 108 = .ok (.aload_n 0, 1) := by decide +kernel
theorem dX4_multipliedByCube_109 : decode cX4_multipliedByCube 109 = .ok (.getfield 15, 3) := by decide +kernel
theorem dX4_multipliedByCube_112 : decode cX4_multipliedByCube 112 = .ok (.invokestatic 103, 3) := by decide +kernel
theorem dX4_multipliedByCube_115 : decode cX4_multipliedByCube 115 = .ok (.ireturn, 1) := by decide +kernel
abbrev rmX4_multipliedByCube : Room := { frames := 3, cells := 0, slots := 0, locals := 65 }
theorem zyX4_multipliedByCube : zyOK yX4_multipliedByCube 3 := ⟨by decide +kernel, by decide +kernel, by decide +kernel⟩
set_option maxHeartbeats 4000000 in
set_option maxRecDepth 100000 in
theorem wX4_multipliedByCube {G : ZG} (a0 : Nat) (a1 : Int32) (a2 : Int32) (a3 : Int32) (S : ZS) (h0 : zFix G cX4_multipliedByCube RX4 9 (some .int) rmX4_multipliedByCube) (C : Option Int32 → Prop) (hC : ¬ C none) (hE : ∀ v : Int32, C (some v) → zEnd G (some (.int v)) S rmX4_multipliedByCube) : zV G 9 S 0 0 0 [(0, .ref a0), (1, .int a1), (2, .int a2), (3, .int a3)] [] (C (fX4_multipliedByCube a0 a1 a2 a3 S)) := by
  unfold fX4_multipliedByCube
  refine zr_iconst (0 : Int32) h0 (by decide) dX4_multipliedByCube_0 (n := 1) rfl ?_
  refine zr_istore [(0, .ref a0), (1, .int a1), (2, .int a2), (3, .int a3), (4, .int (0 : Int32))] h0 dX4_multipliedByCube_1 (by decide) rfl (n := 3) rfl ?_
  refine zr_iconst (0 : Int32) h0 (by decide) dX4_multipliedByCube_3 (n := 4) rfl ?_
  refine zr_istore [(0, .ref a0), (1, .int a1), (2, .int a2), (3, .int a3), (4, .int (0 : Int32)), (5, .int (0 : Int32))] h0 dX4_multipliedByCube_4 (by decide) rfl (n := 6) rfl ?_
  refine zr_loop hC (fX4_multipliedByCube_B6 a0 a1 a2 a3 S) (fun y => [(0, .ref a0), (1, .int a1), (2, .int a2), (3, .int a3), (4, .int y.1), (5, .int y.2)]) (fun y => S) zF ((0 : Int32), (0 : Int32)) (fun C6 hC6 hX6 hL6 t6 => ?_)
  unfold fX4_multipliedByCube_B6
  refine zr_iload h0 dX4_multipliedByCube_6 rfl (n := 8) rfl ?_
  refine zr_aload_n h0 dX4_multipliedByCube_8 rfl (n := 9) rfl ?_
  refine zr_getR C6 hC6 h0 zcX4 (k := 0) (by decide) zw_398 dX4_multipliedByCube_9 (n := 12) rfl (fun v25 => ?_)
  refine zr_getI C6 hC6 h0 zcX0 (k := 0) (by decide) zw_219 dX4_multipliedByCube_12 (n := 15) rfl (fun v26 => ?_)
  refine zr_icmp_ge C6 (tgt := 106) h0 dX4_multipliedByCube_15 (by decide) (n := 18) rfl ?_ ?_
  · refine zr_ex hX6 ?_
    refine zv_sub (lv' := [(0, .ref a0), (4, .int t6.1)]) ?_ (zsub_of [0, 4] rfl)
    refine zr_iload h0 dX4_multipliedByCube_106 rfl (n := 108) rfl ?_
    refine zr_aload_n h0 dX4_multipliedByCube_108 rfl (n := 109) rfl ?_
    refine zr_getI C hC h0 zcX4 (k := 1) (by decide) zw_400 dX4_multipliedByCube_109 (n := 112) rfl (fun v27 => ?_)
    refine zr_cRI C hC 0 0 (fun x hx => zk_SN (host := "Bilinearium") h0 (fun l D z0 => kX5_remainder l D z0 t6.1 v27 S x hx) (by decide +kernel) zw_276 zw_1 zw_277 zyX5_remainder (As := [.int t6.1, .int v27]) (st := []) rfl (by decide) rfl (Nat.le_of_ble_eq_true rfl) (by decide) dX4_multipliedByCube_112) rfl rfl (n := 115) rfl (fun x28 => ?_)
    exact zr_iret h0 rfl dX4_multipliedByCube_115 (hE _) (by decide) (by decide)
  · refine zr_iload_n h0 dX4_multipliedByCube_18 rfl (n := 19) rfl ?_
    refine zr_aload_n h0 dX4_multipliedByCube_19 rfl (n := 20) rfl ?_
    refine zr_getR C6 hC6 h0 zcX4 (k := 0) (by decide) zw_398 dX4_multipliedByCube_20 (n := 23) rfl (fun v29 => ?_)
    refine zr_getI C6 hC6 h0 zcX0 (k := 0) (by decide) zw_219 dX4_multipliedByCube_23 (n := 26) rfl (fun v30 => ?_)
    refine zr_iload h0 dX4_multipliedByCube_26 rfl (n := 28) rfl ?_
    refine zr_aload_n h0 dX4_multipliedByCube_28 rfl (n := 29) rfl ?_
    refine zr_getI C6 hC6 h0 zcX4 (k := 1) (by decide) zw_400 dX4_multipliedByCube_29 (n := 32) rfl (fun v31 => ?_)
    refine zr_cRI C6 hC6 0 0 (fun x hx => zk_SN (host := "Bilinearium") h0 (fun l D z0 => kX5_numberIn l D z0 a1 v30 t6.2 v31 S x hx) (by decide +kernel) zw_496 zw_1 zw_497 zyX5_numberIn (As := [.int a1, .int v30, .int t6.2, .int v31]) (st := []) rfl (by decide) rfl (Nat.le_of_ble_eq_true rfl) (by decide) dX4_multipliedByCube_32) rfl rfl (n := 35) rfl (fun x32 => ?_)
    refine zr_istore [(0, .ref a0), (1, .int a1), (2, .int a2), (3, .int a3), (4, .int t6.1), (5, .int t6.2), (6, .int x32)] h0 dX4_multipliedByCube_35 (by decide) rfl (n := 37) rfl ?_
    refine zr_iconst (0 : Int32) h0 (by decide) dX4_multipliedByCube_37 (n := 38) rfl ?_
    refine zr_istore [(0, .ref a0), (1, .int a1), (2, .int a2), (3, .int a3), (4, .int t6.1), (5, .int t6.2), (6, .int x32), (7, .int (0 : Int32))] h0 dX4_multipliedByCube_38 (by decide) rfl (n := 40) rfl ?_
    refine zr_loop hC6 (fX4_multipliedByCube_B40 a0 a1 a2 a3 t6.2 x32 S) (fun y => [(0, .ref a0), (1, .int a1), (2, .int a2), (3, .int a3), (4, .int y.1), (5, .int t6.2), (6, .int x32), (7, .int y.2)]) (fun y => S) zF (t6.1, (0 : Int32)) (fun C40 hC40 hX40 hL40 t40 => ?_)
    unfold fX4_multipliedByCube_B40
    refine zr_iload h0 dX4_multipliedByCube_40 rfl (n := 42) rfl ?_
    refine zr_aload_n h0 dX4_multipliedByCube_42 rfl (n := 43) rfl ?_
    refine zr_getR C40 hC40 h0 zcX4 (k := 0) (by decide) zw_398 dX4_multipliedByCube_43 (n := 46) rfl (fun v33 => ?_)
    refine zr_getI C40 hC40 h0 zcX0 (k := 1) (by decide) zw_223 dX4_multipliedByCube_46 (n := 49) rfl (fun v34 => ?_)
    refine zr_icmp_ge C40 (tgt := 100) h0 dX4_multipliedByCube_49 (by decide) (n := 52) rfl ?_ ?_
    · refine zr_ex hX40 ?_
      refine zv_sub (lv' := [(0, .ref a0), (1, .int a1), (2, .int a2), (3, .int a3), (4, .int t40.1), (5, .int t6.2)]) ?_ (zsub_of [0, 1, 2, 3, 4, 5] rfl)
      refine zr_iinc (1 : Int32) [(0, .ref a0), (1, .int a1), (2, .int a2), (3, .int a3), (4, .int t40.1), (5, .int (t6.2 + (1 : Int32)))] h0 dX4_multipliedByCube_100 rfl (by decide) rfl rfl (n := 103) rfl ?_
      refine zr_goto (tgt := 6) h0 dX4_multipliedByCube_103 (by decide) ?_
      exact hL6 (t40.1, t6.2 + (1 : Int32))
    · refine zr_iload_n h0 dX4_multipliedByCube_52 rfl (n := 53) rfl ?_
      refine zr_aload_n h0 dX4_multipliedByCube_53 rfl (n := 54) rfl ?_
      refine zr_getR C40 hC40 h0 zcX4 (k := 0) (by decide) zw_398 dX4_multipliedByCube_54 (n := 57) rfl (fun v35 => ?_)
      refine zr_getI C40 hC40 h0 zcX0 (k := 1) (by decide) zw_223 dX4_multipliedByCube_57 (n := 60) rfl (fun v36 => ?_)
      refine zr_iload h0 dX4_multipliedByCube_60 rfl (n := 62) rfl ?_
      refine zr_aload_n h0 dX4_multipliedByCube_62 rfl (n := 63) rfl ?_
      refine zr_getI C40 hC40 h0 zcX4 (k := 1) (by decide) zw_400 dX4_multipliedByCube_63 (n := 66) rfl (fun v37 => ?_)
      refine zr_cRI C40 hC40 0 0 (fun x hx => zk_SN (host := "Bilinearium") h0 (fun l D z0 => kX5_numberIn l D z0 a2 v36 t40.2 v37 S x hx) (by decide +kernel) zw_496 zw_1 zw_497 zyX5_numberIn (As := [.int a2, .int v36, .int t40.2, .int v37]) (st := []) rfl (by decide) rfl (Nat.le_of_ble_eq_true rfl) (by decide) dX4_multipliedByCube_66) rfl rfl (n := 69) rfl (fun x38 => ?_)
      refine zr_istore [(0, .ref a0), (1, .int a1), (2, .int a2), (3, .int a3), (4, .int t40.1), (5, .int t6.2), (6, .int x32), (7, .int t40.2), (8, .int x38)] h0 dX4_multipliedByCube_69 (by decide) rfl (n := 71) rfl ?_
      refine zr_iload h0 dX4_multipliedByCube_71 rfl (n := 73) rfl ?_
      refine zr_aload_n h0 dX4_multipliedByCube_73 rfl (n := 74) rfl ?_
      refine zr_getR C40 hC40 h0 zcX4 (k := 0) (by decide) zw_398 dX4_multipliedByCube_74 (n := 77) rfl (fun v39 => ?_)
      refine zr_iload h0 dX4_multipliedByCube_77 rfl (n := 79) rfl ?_
      refine zr_iload h0 dX4_multipliedByCube_79 rfl (n := 81) rfl ?_
      refine zr_iload_n h0 dX4_multipliedByCube_81 rfl (n := 82) rfl ?_
      refine zr_cRI C40 hC40 0 0 (fun x hx => zk_V h0 zcX0 (zcl_ex hx) (fun l D z0 => kX0_numberAt l D z0 v39 t6.2 t40.2 a3 S x (zcl_of hx)) zw_456 zw_315 zw_316 zw_11 zw_317 rfl zyX0_numberAt (As := [.int t6.2, .int t40.2, .int a3]) (st := [.int t40.1]) rfl (by decide) rfl (Nat.le_of_ble_eq_true rfl) (by decide) dX4_multipliedByCube_82) rfl rfl (n := 85) rfl (fun x40 => ?_)
      refine zr_iload h0 dX4_multipliedByCube_85 rfl (n := 87) rfl ?_
      refine zr_imul h0 dX4_multipliedByCube_87 (n := 88) rfl ?_
      refine zr_iload h0 dX4_multipliedByCube_88 rfl (n := 90) rfl ?_
      refine zr_imul h0 dX4_multipliedByCube_90 (n := 91) rfl ?_
      refine zr_iadd h0 dX4_multipliedByCube_91 (n := 92) rfl ?_
      refine zr_istore [(0, .ref a0), (1, .int a1), (2, .int a2), (3, .int a3), (4, .int (t40.1 + ((x40 * x32) * x38))), (5, .int t6.2), (6, .int x32), (7, .int t40.2), (8, .int x38)] h0 dX4_multipliedByCube_92 (by decide) rfl (n := 94) rfl ?_
      refine zr_iinc (1 : Int32) [(0, .ref a0), (1, .int a1), (2, .int a2), (3, .int a3), (4, .int (t40.1 + ((x40 * x32) * x38))), (5, .int t6.2), (6, .int x32), (7, .int (t40.2 + (1 : Int32))), (8, .int x38)] h0 dX4_multipliedByCube_94 rfl (by decide) rfl rfl (n := 97) rfl ?_
      refine zr_goto (tgt := 40) h0 dX4_multipliedByCube_97 (by decide) ?_
      refine zv_sub (lv' := [(0, .ref a0), (1, .int a1), (2, .int a2), (3, .int a3), (4, .int (t40.1 + ((x40 * x32) * x38))), (5, .int t6.2), (6, .int x32), (7, .int (t40.2 + (1 : Int32)))]) ?_ (zsub_of [0, 1, 2, 3, 4, 5, 6, 7] rfl)
      exact hL40 (t40.1 + ((x40 * x32) * x38), t40.2 + (1 : Int32))
theorem kX4_multipliedByCube (l : Launch) (D : ZD) (z0 : Nat) (a0 : Nat) (a1 : Int32) (a2 : Int32) (a3 : Int32) (S : ZS) (x : Int32) (hf : fX4_multipliedByCube a0 a1 a2 a3 S = some x) : zMet l D z0 yX4_multipliedByCube cX4_multipliedByCube 9 (some .int) rmX4_multipliedByCube [.ref a0, .int a1, .int a2, .int a3] S (some (.int x)) S :=
  zMet_of (by decide) (Nat.le_of_ble_eq_true rfl) (fun G h0 hini hE => wX4_multipliedByCube a0 a1 a2 a3 S h0 (fun o => o = some x) (fun h => nomatch h) (fun v h => by cases h; exact hE)) hf
theorem dX5_resultByCube_0 : decode cX5_resultByCube 0 = .ok (.aload_n 0, 1) := by decide +kernel
theorem dX5_resultByCube_1 : decode cX5_resultByCube 1 = .ok (.iload_n 1, 1) := by decide +kernel
theorem dX5_resultByCube_2 : decode cX5_resultByCube 2 = .ok (.invokevirtual 148, 3) := by decide +kernel
theorem dX5_resultByCube_5 : decode cX5_resultByCube 5 = .ok (.astore 5, 2) := by decide +kernel
theorem dX5_resultByCube_7 : decode cX5_resultByCube 7 = .ok (.aload_n 0, 1) := by decide +kernel
theorem dX5_resultByCube_8 : decode cX5_resultByCube 8 = .ok (.aload 5, 2) := by decide +kernel
theorem dX5_resultByCube_10 : decode cX5_resultByCube 10 = .ok (.iload_n 2, 1) := by decide +kernel
theorem dX5_resultByCube_11 : decode cX5_resultByCube 11 = .ok (.iload_n 3, 1) := by decide +kernel
theorem dX5_resultByCube_12 : decode cX5_resultByCube 12 = .ok (.iload 4, 2) := by decide +kernel
theorem dX5_resultByCube_14 : decode cX5_resultByCube 14 = .ok (.invokevirtual 230, 3) := by decide +kernel
theorem dX5_resultByCube_17 : decode cX5_resultByCube 17 = .ok (.aload 5, 2) := by decide +kernel
theorem dX5_resultByCube_19 : decode cX5_resultByCube 19 = .ok (.iload_n 2, 1) := by decide +kernel
theorem dX5_resultByCube_20 : decode cX5_resultByCube 20 = .ok (.iload_n 3, 1) := by decide +kernel
theorem dX5_resultByCube_21 : decode cX5_resultByCube 21 = .ok (.iload 4, 2) := by decide +kernel
theorem dX5_resultByCube_23 : decode cX5_resultByCube 23 = .ok (.invokevirtual 237, 3) := by decide +kernel
theorem dX5_resultByCube_26 : decode cX5_resultByCube 26 = .ok (.ireturn, 1) := by decide +kernel
abbrev rmX5_resultByCube : Room := { frames := 8, cells := 3, slots := 18, locals := 136 }
theorem zyX5_resultByCube : zyOK yX5_resultByCube 4 := ⟨by decide +kernel, by decide +kernel, by decide +kernel⟩
set_option maxHeartbeats 4000000 in
set_option maxRecDepth 100000 in
theorem wX5_resultByCube {G : ZG} (a0 : Nat) (a1 : Int32) (a2 : Int32) (a3 : Int32) (a4 : Int32) (S : ZS) (h0 : zFix G cX5_resultByCube RX5 6 (some .int) rmX5_resultByCube) (C : Option ((Int32 × ZS) ⊕ ZX) → Prop) (hC : ¬ C none) (hnt : zNoTab G) (hE : ∀ (v : Int32) (S1 : ZS), C (some (.inl (v, S1))) → zEndT G (some (.int v)) S1 rmX5_resultByCube) (hEx : ∀ (E : String) (h : ZH), C (some (.inr (E, h))) → zEndX G E h rmX5_resultByCube) : zV G 6 S 0 0 0 [(0, .ref a0), (1, .int a1), (2, .int a2), (3, .int a3), (4, .int a4)] [] (C (fX5_resultByCube a0 a1 a2 a3 a4 S)) := by
  unfold fX5_resultByCube
  refine zr_aload_n h0 dX5_resultByCube_0 rfl (n := 1) rfl ?_
  refine zr_iload_n h0 dX5_resultByCube_1 rfl (n := 2) rfl ?_
  refine zr_cTR C hC 1 6 h0 (fun x hx => zk_VT h0 zcX5 (zcl_ex hx) (fun l D z0 hlt => kX5_needWay l D z0 hlt a0 a1 S x (zcl_of hx)) hnt zw_420 zw_422 zs_3 zw_1 zw_423 rfl zyX5_needWay (As := [.int a1]) (st := []) rfl (by decide) rfl (Nat.le_of_ble_eq_true rfl) (by decide) dX5_resultByCube_2) hnt rfl rfl (by decide) (by decide) (n := 5) rfl (fun z h => hEx _ _ h) (fun x1 => ?_)
  refine zr_astore [(0, .ref a0), (1, .int a1), (2, .int a2), (3, .int a3), (4, .int a4), (5, .ref x1.1)] h0 dX5_resultByCube_5 (by decide) rfl (n := 7) rfl ?_
  refine zr_aload_n h0 dX5_resultByCube_7 rfl (n := 8) rfl ?_
  refine zr_aload h0 dX5_resultByCube_8 rfl (n := 10) rfl ?_
  refine zr_iload_n h0 dX5_resultByCube_10 rfl (n := 11) rfl ?_
  refine zr_iload_n h0 dX5_resultByCube_11 rfl (n := 12) rfl ?_
  refine zr_iload h0 dX5_resultByCube_12 rfl (n := 14) rfl ?_
  refine zr_cTV C hC 3 18 h0 (fun x hx => zk_VT h0 zcX5 (zcl_ex hx) (fun l D z0 hlt => kX5_needFactors l D z0 hlt a0 x1.1 a2 a3 a4 x1.2 x (zcl_of hx)) hnt zw_776 zw_778 zs_33 zw_1 zw_779 rfl zyX5_needFactors (As := [.ref x1.1, .int a2, .int a3, .int a4]) (st := []) rfl (by decide) rfl (Nat.le_of_ble_eq_true rfl) (by decide) dX5_resultByCube_14) hnt rfl rfl (by decide) (by decide) (n := 17) rfl (fun z h => hEx _ _ h) (fun x2 => ?_)
  refine zr_aload h0 dX5_resultByCube_17 rfl (n := 19) rfl ?_
  refine zr_iload_n h0 dX5_resultByCube_19 rfl (n := 20) rfl ?_
  refine zr_iload_n h0 dX5_resultByCube_20 rfl (n := 21) rfl ?_
  refine zr_iload h0 dX5_resultByCube_21 rfl (n := 23) rfl ?_
  refine zr_cRI C hC 3 18 (fun x hx => zk_V h0 zcX4 (zcl_ex hx) (fun l D z0 => kX4_multipliedByCube l D z0 x1.1 a2 a3 a4 x2.2 x (zcl_of hx)) zw_794 zw_795 zw_796 zw_13 zw_797 rfl zyX4_multipliedByCube (As := [.int a2, .int a3, .int a4]) (st := []) rfl (by decide) rfl (Nat.le_of_ble_eq_true rfl) (by decide) dX5_resultByCube_23) rfl rfl (n := 26) rfl (fun x3 => ?_)
  exact zr_iretT h0 rfl dX5_resultByCube_26 (hE _ _) (by decide) (by decide)
theorem kX5_resultByCube (l : Launch) (D : ZD) (z0 : Nat) (hlt : l.stackTraces = false) (a0 : Nat) (a1 : Int32) (a2 : Int32) (a3 : Int32) (a4 : Int32) (S : ZS) (x : ((Int32 × ZS) ⊕ ZX)) (hf : fX5_resultByCube a0 a1 a2 a3 a4 S = some x) : zMetT l D z0 yX5_resultByCube cX5_resultByCube 6 (some .int) rmX5_resultByCube [.ref a0, .int a1, .int a2, .int a3, .int a4] S (x.map (fun y => ((some (.int y.1)), y.2)) id) :=
  zMetT_of hlt (by decide) (Nat.le_of_ble_eq_true rfl) (fun G h0 hnt hE hEx => wX5_resultByCube a0 a1 a2 a3 a4 S h0 (fun o => o = some x) (fun h => nomatch h) hnt (fun v S1 h => by cases h; exact hE _ _ rfl) (fun E h hh => by cases hh; exact hEx _ _ rfl)) hf
theorem dX5_additionsInLevels_0 : decode cX5_additionsInLevels 0 = .ok (.aload_n 0, 1) := by decide +kernel
theorem dX5_additionsInLevels_1 : decode cX5_additionsInLevels 1 = .ok (.getfield 152, 3) := by decide +kernel
theorem dX5_additionsInLevels_4 : decode cX5_additionsInLevels 4 = .ok (.getfield 80, 3) := by decide +kernel
theorem dX5_additionsInLevels_7 : decode cX5_additionsInLevels 7 = .ok (.i2l, 1) := by decide +kernel
theorem dX5_additionsInLevels_8 : decode cX5_additionsInLevels 8 = .ok (.aload_n 0, 1) := by decide +kernel
theorem dX5_additionsInLevels_9 : decode cX5_additionsInLevels 9 = .ok (.getfield 152, 3) := by decide +kernel
theorem dX5_additionsInLevels_12 : decode cX5_additionsInLevels 12 = .ok (.getfield 80, 3) := by decide +kernel
theorem dX5_additionsInLevels_15 : decode cX5_additionsInLevels 15 = .ok (.i2l, 1) := by decide +kernel
theorem dX5_additionsInLevels_16 : decode cX5_additionsInLevels 16 = .ok (.lmul, 1) := by decide +kernel
theorem dX5_additionsInLevels_17 : decode cX5_additionsInLevels 17 = .ok (.lstore 4, 2) := by decide +kernel
theorem dX5_additionsInLevels_19 : decode cX5_additionsInLevels 19 = .ok (.lconst 1, 1) := by decide +kernel
theorem dX5_additionsInLevels_20 : decode cX5_additionsInLevels 20 = .ok (.lstore 6, 2) := by decide +kernel
theorem dX5_additionsInLevels_22 : decode cX5_additionsInLevels 22 = .ok (.lconst 0, 1) := by decide +kernel
theorem dX5_additionsInLevels_23 : decode cX5_additionsInLevels 23 = .ok (.lstore 8, 2) := by decide +kernel
theorem dX5_additionsInLevels_25 : decode cX5_additionsInLevels 25 = .ok (.iconst 1, 1) := by decide +kernel
theorem dX5_additionsInLevels_26 : decode cX5_additionsInLevels 26 = .ok (.istore 10, 2) := by decide +kernel
theorem dX5_additionsInLevels_28 : decode cX5_additionsInLevels 28 = .ok (.iload 10, 2) := by decide +kernel
theorem dX5_additionsInLevels_30 : decode cX5_additionsInLevels 30 = .ok (.iload_n 1, 1) := by decide +kernel
theorem dX5_additionsInLevels_31 : decode cX5_additionsInLevels 31 = .ok (.if_icmp .gt 31, 3) := by decide +kernel
theorem dX5_additionsInLevels_34 : decode cX5_additionsInLevels 34 = .ok (.lload 8, 2) := by decide +kernel
theorem dX5_additionsInLevels_36 : decode cX5_additionsInLevels 36 = .ok (.aload_n 0, 1) := by decide +kernel
theorem dX5_additionsInLevels_37 : decode cX5_additionsInLevels 37 = .ok (.getfield 168, 3) := by decide +kernel
theorem dX5_additionsInLevels_40 : decode cX5_additionsInLevels 40 = .ok (.i2l, 1) := by decide +kernel
theorem dX5_additionsInLevels_41 : decode cX5_additionsInLevels 41 = .ok (.lmul, 1) := by decide +kernel
theorem dX5_additionsInLevels_42 : decode cX5_additionsInLevels 42 = .ok (.lload_n 2, 1) := by decide +kernel
theorem dX5_additionsInLevels_43 : decode cX5_additionsInLevels 43 = .ok (.lload 6, 2) := by decide +kernel
theorem dX5_additionsInLevels_45 : decode cX5_additionsInLevels 45 = .ok (.lmul, 1) := by decide +kernel
theorem dX5_additionsInLevels_46 : decode cX5_additionsInLevels 46 = .ok (.ladd, 1) := by decide +kernel
theorem dX5_additionsInLevels_47 : decode cX5_additionsInLevels 47 = .ok (.lstore 8, 2) := by decide +kernel
theorem dX5_additionsInLevels_49 : decode cX5_additionsInLevels 49 = .ok (.lload 6, 2) := by decide +kernel
theorem dX5_additionsInLevels_51 : decode cX5_additionsInLevels 51 = .ok (.lload 4, 2) := by decide +kernel
theorem dX5_additionsInLevels_53 : decode cX5_additionsInLevels 53 = .ok (.lmul, 1) := by decide +kernel
theorem dX5_additionsInLevels_54 : decode cX5_additionsInLevels 54 = .ok (.lstore 6, 2) := by decide +kernel
theorem dX5_additionsInLevels_56 : decode cX5_additionsInLevels 56 = .ok (.iinc 10 1, 3) := by decide +kernel
theorem dX5_additionsInLevels_59 : decode cX5_additionsInLevels 59 = .ok (.goto (-31), 3) := by decide +kernel
theorem dX5_additionsInLevels_62 : decode cX5_additionsInLevels 62 = .ok (.lload 8, 2) := by decide +kernel
theorem dX5_additionsInLevels_64 : decode cX5_additionsInLevels 64 = .ok (.lreturn, 1) := by decide +kernel
abbrev rmX5_additionsInLevels : Room := { frames := 1, cells := 0, slots := 0, locals := 20 }
theorem zyX5_additionsInLevels : zyOK yX5_additionsInLevels 3 := ⟨by decide +kernel, by decide +kernel, by decide +kernel⟩
set_option maxHeartbeats 4000000 in
set_option maxRecDepth 100000 in
theorem wX5_additionsInLevels {G : ZG} (a0 : Nat) (a1 : Int32) (a2 : Int64) (S : ZS) (h0 : zFix G cX5_additionsInLevels RX5 11 (some .long) rmX5_additionsInLevels) (C : Option Int64 → Prop) (hC : ¬ C none) (hE : ∀ v : Int64, C (some v) → zEnd G (some (.long v)) S rmX5_additionsInLevels) : zV G 11 S 0 0 0 [(0, .ref a0), (1, .int a1), (2, .long a2)] [] (C (fX5_additionsInLevels a0 a1 a2 S)) := by
  unfold fX5_additionsInLevels
  refine zr_aload_n h0 dX5_additionsInLevels_0 rfl (n := 1) rfl ?_
  refine zr_getR C hC h0 zcX4 (k := 0) (by decide) zw_399 dX5_additionsInLevels_1 (n := 4) rfl (fun v1 => ?_)
  refine zr_getI C hC h0 zcX0 (k := 4) (by decide) zw_232 dX5_additionsInLevels_4 (n := 7) rfl (fun v2 => ?_)
  refine zr_i2l h0 dX5_additionsInLevels_7 (n := 8) rfl ?_
  refine zr_aload_n h0 dX5_additionsInLevels_8 rfl (n := 9) rfl ?_
  refine zr_getR C hC h0 zcX4 (k := 0) (by decide) zw_399 dX5_additionsInLevels_9 (n := 12) rfl (fun v3 => ?_)
  refine zr_getI C hC h0 zcX0 (k := 4) (by decide) zw_232 dX5_additionsInLevels_12 (n := 15) rfl (fun v4 => ?_)
  refine zr_i2l h0 dX5_additionsInLevels_15 (n := 16) rfl ?_
  refine zr_lmul h0 dX5_additionsInLevels_16 (n := 17) rfl ?_
  refine zr_lstore [(0, .ref a0), (1, .int a1), (2, .long a2), (4, .long ((Int32.toInt64 v2) * (Int32.toInt64 v4)))] h0 dX5_additionsInLevels_17 (by decide) rfl (n := 19) rfl ?_
  refine zr_lconst (1 : Int64) h0 (by decide) dX5_additionsInLevels_19 (n := 20) rfl ?_
  refine zr_lstore [(0, .ref a0), (1, .int a1), (2, .long a2), (4, .long ((Int32.toInt64 v2) * (Int32.toInt64 v4))), (6, .long (1 : Int64))] h0 dX5_additionsInLevels_20 (by decide) rfl (n := 22) rfl ?_
  refine zr_lconst (0 : Int64) h0 (by decide) dX5_additionsInLevels_22 (n := 23) rfl ?_
  refine zr_lstore [(0, .ref a0), (1, .int a1), (2, .long a2), (4, .long ((Int32.toInt64 v2) * (Int32.toInt64 v4))), (6, .long (1 : Int64)), (8, .long (0 : Int64))] h0 dX5_additionsInLevels_23 (by decide) rfl (n := 25) rfl ?_
  refine zr_iconst (1 : Int32) h0 (by decide) dX5_additionsInLevels_25 (n := 26) rfl ?_
  refine zr_istore [(0, .ref a0), (1, .int a1), (2, .long a2), (4, .long ((Int32.toInt64 v2) * (Int32.toInt64 v4))), (6, .long (1 : Int64)), (8, .long (0 : Int64)), (10, .int (1 : Int32))] h0 dX5_additionsInLevels_26 (by decide) rfl (n := 28) rfl ?_
  refine zr_loop hC (fX5_additionsInLevels_B28 a0 a1 a2 ((Int32.toInt64 v2) * (Int32.toInt64 v4)) S) (fun y => [(0, .ref a0), (1, .int a1), (2, .long a2), (4, .long ((Int32.toInt64 v2) * (Int32.toInt64 v4))), (6, .long y.1), (8, .long y.2.1), (10, .int y.2.2)]) (fun y => S) zF ((1 : Int64), (0 : Int64), (1 : Int32)) (fun C28 hC28 hX28 hL28 t28 => ?_)
  unfold fX5_additionsInLevels_B28
  refine zr_iload h0 dX5_additionsInLevels_28 rfl (n := 30) rfl ?_
  refine zr_iload_n h0 dX5_additionsInLevels_30 rfl (n := 31) rfl ?_
  refine zr_icmp_gt C28 (tgt := 62) h0 dX5_additionsInLevels_31 (by decide) (n := 34) rfl ?_ ?_
  · refine zr_ex hX28 ?_
    refine zv_sub (lv' := [(8, .long t28.2.1)]) ?_ (zsub_of [5] rfl)
    refine zr_lload h0 dX5_additionsInLevels_62 rfl (n := 64) rfl ?_
    exact zr_lret h0 rfl dX5_additionsInLevels_64 (hE _) (by decide) (by decide)
  · refine zr_lload h0 dX5_additionsInLevels_34 rfl (n := 36) rfl ?_
    refine zr_aload_n h0 dX5_additionsInLevels_36 rfl (n := 37) rfl ?_
    refine zr_getI C28 hC28 h0 zcX4 (k := 3) (by decide) zw_403 dX5_additionsInLevels_37 (n := 40) rfl (fun v6 => ?_)
    refine zr_i2l h0 dX5_additionsInLevels_40 (n := 41) rfl ?_
    refine zr_lmul h0 dX5_additionsInLevels_41 (n := 42) rfl ?_
    refine zr_lload_n h0 dX5_additionsInLevels_42 rfl (n := 43) rfl ?_
    refine zr_lload h0 dX5_additionsInLevels_43 rfl (n := 45) rfl ?_
    refine zr_lmul h0 dX5_additionsInLevels_45 (n := 46) rfl ?_
    refine zr_ladd h0 dX5_additionsInLevels_46 (n := 47) rfl ?_
    refine zr_lstore [(0, .ref a0), (1, .int a1), (2, .long a2), (4, .long ((Int32.toInt64 v2) * (Int32.toInt64 v4))), (6, .long t28.1), (8, .long ((t28.2.1 * (Int32.toInt64 v6)) + (a2 * t28.1))), (10, .int t28.2.2)] h0 dX5_additionsInLevels_47 (by decide) rfl (n := 49) rfl ?_
    refine zr_lload h0 dX5_additionsInLevels_49 rfl (n := 51) rfl ?_
    refine zr_lload h0 dX5_additionsInLevels_51 rfl (n := 53) rfl ?_
    refine zr_lmul h0 dX5_additionsInLevels_53 (n := 54) rfl ?_
    refine zr_lstore [(0, .ref a0), (1, .int a1), (2, .long a2), (4, .long ((Int32.toInt64 v2) * (Int32.toInt64 v4))), (6, .long (t28.1 * ((Int32.toInt64 v2) * (Int32.toInt64 v4)))), (8, .long ((t28.2.1 * (Int32.toInt64 v6)) + (a2 * t28.1))), (10, .int t28.2.2)] h0 dX5_additionsInLevels_54 (by decide) rfl (n := 56) rfl ?_
    refine zr_iinc (1 : Int32) [(0, .ref a0), (1, .int a1), (2, .long a2), (4, .long ((Int32.toInt64 v2) * (Int32.toInt64 v4))), (6, .long (t28.1 * ((Int32.toInt64 v2) * (Int32.toInt64 v4)))), (8, .long ((t28.2.1 * (Int32.toInt64 v6)) + (a2 * t28.1))), (10, .int (t28.2.2 + (1 : Int32)))] h0 dX5_additionsInLevels_56 rfl (by decide) rfl rfl (n := 59) rfl ?_
    refine zr_goto (tgt := 28) h0 dX5_additionsInLevels_59 (by decide) ?_
    exact hL28 (t28.1 * ((Int32.toInt64 v2) * (Int32.toInt64 v4)), (t28.2.1 * (Int32.toInt64 v6)) + (a2 * t28.1), t28.2.2 + (1 : Int32))
theorem kX5_additionsInLevels (l : Launch) (D : ZD) (z0 : Nat) (a0 : Nat) (a1 : Int32) (a2 : Int64) (S : ZS) (x : Int64) (hf : fX5_additionsInLevels a0 a1 a2 S = some x) : zMet l D z0 yX5_additionsInLevels cX5_additionsInLevels 11 (some .long) rmX5_additionsInLevels [.ref a0, .int a1, .long a2] S (some (.long x)) S :=
  zMet_of (by decide) (Nat.le_of_ble_eq_true rfl) (fun G h0 hini hE => wX5_additionsInLevels a0 a1 a2 S h0 (fun o => o = some x) (fun h => nomatch h) (fun v h => by cases h; exact hE)) hf
theorem dX5_multiplicationsInLevels_0 : decode cX5_multiplicationsInLevels 0 = .ok (.lconst 1, 1) := by decide +kernel
theorem dX5_multiplicationsInLevels_1 : decode cX5_multiplicationsInLevels 1 = .ok (.lstore_n 2, 1) := by decide +kernel
theorem dX5_multiplicationsInLevels_2 : decode cX5_multiplicationsInLevels 2 = .ok (.iconst 1, 1) := by decide +kernel
theorem dX5_multiplicationsInLevels_3 : decode cX5_multiplicationsInLevels 3 = .ok (.istore 4, 2) := by decide +kernel
theorem dX5_multiplicationsInLevels_5 : decode cX5_multiplicationsInLevels 5 = .ok (.iload 4, 2) := by decide +kernel
theorem dX5_multiplicationsInLevels_7 : decode cX5_multiplicationsInLevels 7 = .ok (.iload_n 1, 1) := by decide +kernel
theorem dX5_multiplicationsInLevels_8 : decode cX5_multiplicationsInLevels 8 = .ok (.if_icmp .gt 17, 3) := by decide +kernel
theorem dX5_multiplicationsInLevels_11 : decode cX5_multiplicationsInLevels 11 = .ok (.lload_n 2, 1) := by decide +kernel
theorem dX5_multiplicationsInLevels_12 : decode cX5_multiplicationsInLevels 12 = .ok (.aload_n 0, 1) := by decide +kernel
theorem dX5_multiplicationsInLevels_13 : decode cX5_multiplicationsInLevels 13 = .ok (.getfield 168, 3) := by decide +kernel
theorem dX5_multiplicationsInLevels_16 : decode cX5_multiplicationsInLevels 16 = .ok (.i2l, 1) := by decide +kernel
theorem dX5_multiplicationsInLevels_17 : decode cX5_multiplicationsInLevels 17 = .ok (.lmul, 1) := by decide +kernel
theorem dX5_multiplicationsInLevels_18 : decode cX5_multiplicationsInLevels 18 = .ok (.lstore_n 2, 1) := by decide +kernel
theorem dX5_multiplicationsInLevels_19 : decode cX5_multiplicationsInLevels 19 = .ok (.iinc 4 1, 3) := by decide +kernel
theorem dX5_multiplicationsInLevels_22 : decode cX5_multiplicationsInLevels 22 = .ok (.goto (-17), 3) := by decide +kernel
theorem dX5_multiplicationsInLevels_25 : decode cX5_multiplicationsInLevels 25 = .ok (.lload_n 2, 1) := by decide +kernel
theorem dX5_multiplicationsInLevels_26 : decode cX5_multiplicationsInLevels 26 = .ok (.lreturn, 1) := by decide +kernel
abbrev rmX5_multiplicationsInLevels : Room := { frames := 1, cells := 0, slots := 0, locals := 20 }
theorem zyX5_multiplicationsInLevels : zyOK yX5_multiplicationsInLevels 2 := ⟨by decide +kernel, by decide +kernel, by decide +kernel⟩
set_option maxHeartbeats 4000000 in
set_option maxRecDepth 100000 in
theorem wX5_multiplicationsInLevels {G : ZG} (a0 : Nat) (a1 : Int32) (S : ZS) (h0 : zFix G cX5_multiplicationsInLevels RX5 5 (some .long) rmX5_multiplicationsInLevels) (C : Option Int64 → Prop) (hC : ¬ C none) (hE : ∀ v : Int64, C (some v) → zEnd G (some (.long v)) S rmX5_multiplicationsInLevels) : zV G 5 S 0 0 0 [(0, .ref a0), (1, .int a1)] [] (C (fX5_multiplicationsInLevels a0 a1 S)) := by
  unfold fX5_multiplicationsInLevels
  refine zr_lconst (1 : Int64) h0 (by decide) dX5_multiplicationsInLevels_0 (n := 1) rfl ?_
  refine zr_lstore_n [(0, .ref a0), (1, .int a1), (2, .long (1 : Int64))] h0 dX5_multiplicationsInLevels_1 (by decide) rfl (n := 2) rfl ?_
  refine zr_iconst (1 : Int32) h0 (by decide) dX5_multiplicationsInLevels_2 (n := 3) rfl ?_
  refine zr_istore [(0, .ref a0), (1, .int a1), (2, .long (1 : Int64)), (4, .int (1 : Int32))] h0 dX5_multiplicationsInLevels_3 (by decide) rfl (n := 5) rfl ?_
  refine zr_loop hC (fX5_multiplicationsInLevels_B5 a0 a1 S) (fun y => [(0, .ref a0), (1, .int a1), (2, .long y.1), (4, .int y.2)]) (fun y => S) zF ((1 : Int64), (1 : Int32)) (fun C5 hC5 hX5 hL5 t5 => ?_)
  unfold fX5_multiplicationsInLevels_B5
  refine zr_iload h0 dX5_multiplicationsInLevels_5 rfl (n := 7) rfl ?_
  refine zr_iload_n h0 dX5_multiplicationsInLevels_7 rfl (n := 8) rfl ?_
  refine zr_icmp_gt C5 (tgt := 25) h0 dX5_multiplicationsInLevels_8 (by decide) (n := 11) rfl ?_ ?_
  · refine zr_ex hX5 ?_
    refine zv_sub (lv' := [(2, .long t5.1)]) ?_ (zsub_of [2] rfl)
    refine zr_lload_n h0 dX5_multiplicationsInLevels_25 rfl (n := 26) rfl ?_
    exact zr_lret h0 rfl dX5_multiplicationsInLevels_26 (hE _) (by decide) (by decide)
  · refine zr_lload_n h0 dX5_multiplicationsInLevels_11 rfl (n := 12) rfl ?_
    refine zr_aload_n h0 dX5_multiplicationsInLevels_12 rfl (n := 13) rfl ?_
    refine zr_getI C5 hC5 h0 zcX4 (k := 3) (by decide) zw_403 dX5_multiplicationsInLevels_13 (n := 16) rfl (fun v2 => ?_)
    refine zr_i2l h0 dX5_multiplicationsInLevels_16 (n := 17) rfl ?_
    refine zr_lmul h0 dX5_multiplicationsInLevels_17 (n := 18) rfl ?_
    refine zr_lstore_n [(0, .ref a0), (1, .int a1), (2, .long (t5.1 * (Int32.toInt64 v2))), (4, .int t5.2)] h0 dX5_multiplicationsInLevels_18 (by decide) rfl (n := 19) rfl ?_
    refine zr_iinc (1 : Int32) [(0, .ref a0), (1, .int a1), (2, .long (t5.1 * (Int32.toInt64 v2))), (4, .int (t5.2 + (1 : Int32)))] h0 dX5_multiplicationsInLevels_19 rfl (by decide) rfl rfl (n := 22) rfl ?_
    refine zr_goto (tgt := 5) h0 dX5_multiplicationsInLevels_22 (by decide) ?_
    exact hL5 (t5.1 * (Int32.toInt64 v2), t5.2 + (1 : Int32))
theorem kX5_multiplicationsInLevels (l : Launch) (D : ZD) (z0 : Nat) (a0 : Nat) (a1 : Int32) (S : ZS) (x : Int64) (hf : fX5_multiplicationsInLevels a0 a1 S = some x) : zMet l D z0 yX5_multiplicationsInLevels cX5_multiplicationsInLevels 5 (some .long) rmX5_multiplicationsInLevels [.ref a0, .int a1] S (some (.long x)) S :=
  zMet_of (by decide) (Nat.le_of_ble_eq_true rfl) (fun G h0 hini hE => wX5_multiplicationsInLevels a0 a1 S h0 (fun o => o = some x) (fun h => nomatch h) (fun v h => by cases h; exact hE)) hf
theorem dX5_levels_0 : decode cX5_levels 0 = .ok (.aload_n 0, 1) := by decide +kernel
theorem dX5_levels_1 : decode cX5_levels 1 = .ok (.iload_n 1, 1) := by decide +kernel
theorem dX5_levels_2 : decode cX5_levels 2 = .ok (.invokevirtual 148, 3) := by decide +kernel
theorem dX5_levels_5 : decode cX5_levels 5 = .ok (.astore 4, 2) := by decide +kernel
theorem dX5_levels_7 : decode cX5_levels 7 = .ok (.iload_n 2, 1) := by decide +kernel
theorem dX5_levels_8 : decode cX5_levels 8 = .ok (.ifCond .lt 9, 3) := by decide +kernel
theorem dX5_levels_11 : decode cX5_levels 11 = .ok (.iload_n 2, 1) := by decide +kernel
theorem dX5_levels_12 : decode cX5_levels 12 = .ok (.bipush 6, 2) := by decide +kernel
theorem dX5_levels_14 : decode cX5_levels 14 = .ok (.if_icmp .le 13, 3) := by decide +kernel
theorem dX5_levels_17 : decode cX5_levels 17 = .ok (.new 56, 3) := by decide +kernel
theorem dX5_levels_20 : decode cX5_levels 20 = .ok (.dup, 1) := by decide +kernel
theorem dX5_levels_21 : decode cX5_levels 21 = .ok (.ldc 240, 2) := by decide +kernel
theorem dX5_levels_23 : decode cX5_levels 23 = .ok (.invokespecial 60, 3) := by decide +kernel
theorem dX5_levels_26 : decode cX5_levels 26 = .ok (.athrow, 1) := by decide +kernel
theorem dX5_levels_27 : decode cX5_levels 27 = .ok (.aload 4, 2) := by decide +kernel
theorem dX5_levels_29 : decode cX5_levels 29 = .ok (.getfield 152, 3) := by decide +kernel
theorem dX5_levels_32 : decode cX5_levels 32 = .ok (.getfield 80, 3) := by decide +kernel
theorem dX5_levels_35 : decode cX5_levels 35 = .ok (.iconst 2, 1) := by decide +kernel
theorem dX5_levels_36 : decode cX5_levels 36 = .ok (.if_icmp .ge 13, 3) := by decide +kernel
theorem dX5_levels_39 : decode cX5_levels 39 = .ok (.new 63, 3) := by decide +kernel
theorem dX5_levels_42 : decode cX5_levels 42 = .ok (.dup, 1) := by decide +kernel
theorem dX5_levels_43 : decode cX5_levels 43 = .ok (.ldc 242, 2) := by decide +kernel
theorem dX5_levels_45 : decode cX5_levels 45 = .ok (.invokespecial 67, 3) := by decide +kernel
theorem dX5_levels_48 : decode cX5_levels 48 = .ok (.athrow, 1) := by decide +kernel
theorem dX5_levels_49 : decode cX5_levels 49 = .ok (.iload_n 3, 1) := by decide +kernel
theorem dX5_levels_50 : decode cX5_levels 50 = .ok (.ifCond .eq 20, 3) := by decide +kernel
theorem dX5_levels_53 : decode cX5_levels 53 = .ok (.aload 4, 2) := by decide +kernel
theorem dX5_levels_55 : decode cX5_levels 55 = .ok (.iload_n 2, 1) := by decide +kernel
theorem dX5_levels_56 : decode cX5_levels 56 = .ok (.aload_n 0, 1) := by decide +kernel
theorem dX5_levels_57 : decode cX5_levels 57 = .ok (.aload 4, 2) := by decide +kernel
theorem dX5_levels_59 : decode cX5_levels 59 = .ok (.iconst 0, 1) := by decide +kernel
theorem dX5_levels_60 : decode cX5_levels 60 = .ok (.invokevirtual 220, 3) := by decide +kernel
theorem dX5_levels_63 : decode cX5_levels 63 = .ok (.i2l, 1) := by decide +kernel
theorem dX5_levels_64 : decode cX5_levels 64 = .ok (.invokestatic 244, 3) := by decide +kernel
theorem dX5_levels_67 : decode cX5_levels 67 = .ok (.goto 9, 3) := by decide +kernel
theorem dX5_levels_70 : decode cX5_levels 70 = .ok (.aload 4, 2) := by decide +kernel
theorem dX5_levels_72 : decode cX5_levels 72 = .ok (.iload_n 2, 1) := by decide +kernel
theorem dX5_levels_73 : decode cX5_levels 73 = .ok (.invokestatic 248, 3) := by decide +kernel
theorem dX5_levels_76 : decode cX5_levels 76 = .ok (.lreturn, 1) := by decide +kernel
abbrev rmX5_levels : Room := { frames := 7, cells := 2, slots := 12, locals := 162 }
theorem zyX5_levels : zyOK yX5_levels 3 := ⟨by decide +kernel, by decide +kernel, by decide +kernel⟩
set_option maxHeartbeats 4000000 in
set_option maxRecDepth 100000 in
theorem wX5_levels {G : ZG} (a0 : Nat) (a1 : Int32) (a2 : Int32) (a3 : Int32) (S : ZS) (h0 : zFix G cX5_levels RX5 5 (some .long) rmX5_levels) (C : Option ((Int64 × ZS) ⊕ ZX) → Prop) (hC : ¬ C none) (hnt : zNoTab G) (hE : ∀ (v : Int64) (S1 : ZS), C (some (.inl (v, S1))) → zEndT G (some (.long v)) S1 rmX5_levels) (hEx : ∀ (E : String) (h : ZH), C (some (.inr (E, h))) → zEndX G E h rmX5_levels) : zV G 5 S 0 0 0 [(0, .ref a0), (1, .int a1), (2, .int a2), (3, .int a3)] [] (C (fX5_levels a0 a1 a2 a3 S)) := by
  have J76 : ∀ (s0_76 : Int64) (S_76 : ZS), zV G 5 S_76 1 6 76 [] [.long s0_76] (C (fX5_levels_J76 s0_76 S_76)) := by
    intro s0_76 S_76
    unfold fX5_levels_J76
    exact zr_lretT h0 rfl dX5_levels_76 (hE _ _) (by decide) (by decide)
  have J17 : ∀  (S_17 : ZS), zV G 5 S_17 1 6 17 [] [] (C (fX5_levels_J17 S_17)) := by
    intro  S_17
    unfold fX5_levels_J17
    exact zr_throw h0 hnt (cls := "java/lang/IllegalArgumentException") (text := "levels is out of range") (names := ["java/lang/RuntimeException", "java/lang/Exception"]) (by decide +kernel) zfitN zw_112 zw_9 (by decide +kernel) (by decide +kernel) zat_X5_60 zbad_X5_60 zgd_X5_60 dX5_levels_17 dX5_levels_20 dX5_levels_21 dX5_levels_23 dX5_levels_26 (by decide) (Nat.le_of_ble_eq_true rfl) (by decide) (by decide) (fun h => hEx _ _ h)
  unfold fX5_levels
  refine zr_aload_n h0 dX5_levels_0 rfl (n := 1) rfl ?_
  refine zr_iload_n h0 dX5_levels_1 rfl (n := 2) rfl ?_
  refine zr_cTR C hC 1 6 h0 (fun x hx => zk_VT h0 zcX5 (zcl_ex hx) (fun l D z0 hlt => kX5_needWay l D z0 hlt a0 a1 S x (zcl_of hx)) hnt zw_420 zw_422 zs_3 zw_1 zw_423 rfl zyX5_needWay (As := [.int a1]) (st := []) rfl (by decide) rfl (Nat.le_of_ble_eq_true rfl) (by decide) dX5_levels_2) hnt rfl rfl (by decide) (by decide) (n := 5) rfl (fun z h => hEx _ _ h) (fun x1 => ?_)
  refine zr_astore [(0, .ref a0), (1, .int a1), (2, .int a2), (3, .int a3), (4, .ref x1.1)] h0 dX5_levels_5 (by decide) rfl (n := 7) rfl ?_
  refine zr_iload_n h0 dX5_levels_7 rfl (n := 8) rfl ?_
  refine zr_if_lt C (tgt := 17) h0 dX5_levels_8 (by decide) (n := 11) rfl ?_ ?_
  · refine zv_sub (lv' := []) ?_ (zsub_of [] rfl)
    exact J17 x1.2
  · refine zv_sub (lv' := [(0, .ref a0), (2, .int a2), (3, .int a3), (4, .ref x1.1)]) ?_ (zsub_of [0, 2, 3, 4] rfl)
    refine zr_iload_n h0 dX5_levels_11 rfl (n := 12) rfl ?_
    refine zr_bipush (6 : Int32) h0 (by decide) dX5_levels_12 (n := 14) rfl ?_
    refine zr_icmp_le C (tgt := 27) h0 dX5_levels_14 (by decide) (n := 17) rfl ?_ ?_
    · refine zr_aload h0 dX5_levels_27 rfl (n := 29) rfl ?_
      refine zr_getR C hC h0 zcX4 (k := 0) (by decide) zw_399 dX5_levels_29 (n := 32) rfl (fun v2 => ?_)
      refine zr_getI C hC h0 zcX0 (k := 4) (by decide) zw_232 dX5_levels_32 (n := 35) rfl (fun v3 => ?_)
      refine zr_iconst (2 : Int32) h0 (by decide) dX5_levels_35 (n := 36) rfl ?_
      refine zr_icmp_ge C (tgt := 49) h0 dX5_levels_36 (by decide) (n := 39) rfl ?_ ?_
      · refine zr_iload_n h0 dX5_levels_49 rfl (n := 50) rfl ?_
        refine zr_if_eq C (tgt := 70) h0 dX5_levels_50 (by decide) (n := 53) rfl ?_ ?_
        · refine zv_sub (lv' := [(2, .int a2), (4, .ref x1.1)]) ?_ (zsub_of [1, 3] rfl)
          refine zr_aload h0 dX5_levels_70 rfl (n := 72) rfl ?_
          refine zr_iload_n h0 dX5_levels_72 rfl (n := 73) rfl ?_
          refine zr_cRJ C hC 1 6 (fun x hx => zk_S h0 (fun l D z0 => kX5_multiplicationsInLevels l D z0 x1.1 a2 x1.2 x hx) zw_810 zw_811 zw_1 zw_812 zyX5_multiplicationsInLevels (As := [.ref x1.1, .int a2]) (st := []) rfl (by decide) rfl (Nat.le_of_ble_eq_true rfl) (by decide) dX5_levels_73) rfl rfl (n := 76) rfl (fun x4 => ?_)
          refine zv_sub (lv' := []) ?_ (zsub_of [] rfl)
          exact J76 x4 x1.2
        · refine zv_sub (lv' := [(0, .ref a0), (2, .int a2), (4, .ref x1.1)]) ?_ (zsub_of [0, 1, 3] rfl)
          refine zr_aload h0 dX5_levels_53 rfl (n := 55) rfl ?_
          refine zr_iload_n h0 dX5_levels_55 rfl (n := 56) rfl ?_
          refine zr_aload_n h0 dX5_levels_56 rfl (n := 57) rfl ?_
          refine zr_aload h0 dX5_levels_57 rfl (n := 59) rfl ?_
          refine zr_iconst (0 : Int32) h0 (by decide) dX5_levels_59 (n := 60) rfl ?_
          refine zr_cMI C hC 1 6 (fun x hx => zk_V h0 zcX5 (zcl_ex hx) (fun l D z0 => kX5_countAdditions l D z0 a0 x1.1 (0 : Int32) x1.2 x (zcl_of hx)) zw_701 zw_703 zs_27 zw_1 zw_704 rfl zyX5_countAdditions (As := [.ref x1.1, .int (0 : Int32)]) (st := [.int a2, .ref x1.1]) rfl (by decide) rfl (Nat.le_of_ble_eq_true rfl) (by decide) dX5_levels_60) rfl rfl (n := 63) rfl (fun x5 => ?_)
          refine zr_i2l h0 dX5_levels_63 (n := 64) rfl ?_
          refine zr_cRJ C hC 1 6 (fun x hx => zk_S h0 (fun l D z0 => kX5_additionsInLevels l D z0 x1.1 a2 (Int32.toInt64 x5.1) x5.2 x hx) zw_807 zw_808 zw_1 zw_809 zyX5_additionsInLevels (As := [.ref x1.1, .int a2, .long (Int32.toInt64 x5.1)]) (st := []) rfl (by decide) rfl (Nat.le_of_ble_eq_true rfl) (by decide) dX5_levels_64) rfl rfl (n := 67) rfl (fun x6 => ?_)
          refine zr_goto (tgt := 76) h0 dX5_levels_67 (by decide) ?_
          refine zv_sub (lv' := []) ?_ (zsub_of [] rfl)
          exact J76 x6 x5.2
      · refine zv_sub (lv' := []) ?_ (zsub_of [] rfl)
        exact zr_throw h0 hnt (cls := "java/lang/IllegalStateException") (text := "the way is for no product of square matrices") (names := ["java/lang/RuntimeException", "java/lang/Exception"]) (by decide +kernel) zfitN zw_180 zw_10 (by decide +kernel) (by decide +kernel) zat_X5_67 zbad_X5_67 zgd_X5_67 dX5_levels_39 dX5_levels_42 dX5_levels_43 dX5_levels_45 dX5_levels_48 (by decide) (Nat.le_of_ble_eq_true rfl) (by decide) (by decide) (fun h => hEx _ _ h)
    · refine zv_sub (lv' := []) ?_ (zsub_of [] rfl)
      exact J17 x1.2
theorem kX5_levels (l : Launch) (D : ZD) (z0 : Nat) (hlt : l.stackTraces = false) (a0 : Nat) (a1 : Int32) (a2 : Int32) (a3 : Int32) (S : ZS) (x : ((Int64 × ZS) ⊕ ZX)) (hf : fX5_levels a0 a1 a2 a3 S = some x) : zMetT l D z0 yX5_levels cX5_levels 5 (some .long) rmX5_levels [.ref a0, .int a1, .int a2, .int a3] S (x.map (fun y => ((some (.long y.1)), y.2)) id) :=
  zMetT_of hlt (by decide) (Nat.le_of_ble_eq_true rfl) (fun G h0 hnt hE hEx => wX5_levels a0 a1 a2 a3 S h0 (fun o => o = some x) (fun h => nomatch h) hnt (fun v S1 h => by cases h; exact hE _ _ rfl) (fun E h hh => by cases hh; exact hEx _ _ rfl)) hf
theorem dX6_init_0 : decode cX6_init 0 = .ok (.aload_n 0, 1) := by decide +kernel
theorem dX6_init_1 : decode cX6_init 1 = .ok (.invokespecial 1, 3) := by decide +kernel
theorem dX6_init_4 : decode cX6_init 4 = .ok (.aload_n 0, 1) := by decide +kernel
theorem dX6_init_5 : decode cX6_init 5 = .ok (.iconst 2, 1) := by decide +kernel
theorem dX6_init_6 : decode cX6_init 6 = .ok (.putfield 7, 3) := by decide +kernel
theorem dX6_init_9 : decode cX6_init 9 = .ok (.aload_n 0, 1) := by decide +kernel
theorem dX6_init_10 : decode cX6_init 10 = .ok (.bipush 48, 2) := by decide +kernel
theorem dX6_init_12 : decode cX6_init 12 = .ok (.newarray .int, 2) := by decide +kernel
theorem dX6_init_14 : decode cX6_init 14 = .ok (.putfield 13, 3) := by decide +kernel
theorem dX6_init_17 : decode cX6_init 17 = .ok (.aload_n 0, 1) := by decide +kernel
theorem dX6_init_18 : decode cX6_init 18 = .ok (.sipush 1024, 3) := by decide +kernel
theorem dX6_init_21 : decode cX6_init 21 = .ok (.newarray .int, 2) := by decide +kernel
theorem dX6_init_23 : decode cX6_init 23 = .ok (.putfield 17, 3) := by decide +kernel
theorem dX6_init_26 : decode cX6_init 26 = .ok (.aload_n 0, 1) := by decide +kernel
theorem dX6_init_27 : decode cX6_init 27 = .ok (.bipush 16, 2) := by decide +kernel
theorem dX6_init_29 : decode cX6_init 29 = .ok (.newarray .int, 2) := by decide +kernel
theorem dX6_init_31 : decode cX6_init 31 = .ok (.putfield 20, 3) := by decide +kernel
theorem dX6_init_34 : decode cX6_init 34 = .ok (.aload_n 0, 1) := by decide +kernel
theorem dX6_init_35 : decode cX6_init 35 = .ok (.bipush 48, 2) := by decide +kernel
theorem dX6_init_37 : decode cX6_init 37 = .ok (.newarray .int, 2) := by decide +kernel
theorem dX6_init_39 : decode cX6_init 39 = .ok (.putfield 23, 3) := by decide +kernel
theorem dX6_init_42 : decode cX6_init 42 = .ok (.aload_n 0, 1) := by decide +kernel
theorem dX6_init_43 : decode cX6_init 43 = .ok (.sipush 1024, 3) := by decide +kernel
theorem dX6_init_46 : decode cX6_init 46 = .ok (.newarray .int, 2) := by decide +kernel
theorem dX6_init_48 : decode cX6_init 48 = .ok (.putfield 26, 3) := by decide +kernel
theorem dX6_init_51 : decode cX6_init 51 = .ok (.aload_n 0, 1) := by decide +kernel
theorem dX6_init_52 : decode cX6_init 52 = .ok (.bipush 16, 2) := by decide +kernel
theorem dX6_init_54 : decode cX6_init 54 = .ok (.newarray .int, 2) := by decide +kernel
theorem dX6_init_56 : decode cX6_init 56 = .ok (.putfield 29, 3) := by decide +kernel
theorem dX6_init_59 : decode cX6_init 59 = .ok (.aload_n 0, 1) := by decide +kernel
theorem dX6_init_60 : decode cX6_init 60 = .ok (.bipush 16, 2) := by decide +kernel
theorem dX6_init_62 : decode cX6_init 62 = .ok (.newarray .int, 2) := by decide +kernel
theorem dX6_init_64 : decode cX6_init 64 = .ok (.putfield 32, 3) := by decide +kernel
theorem dX6_init_67 : decode cX6_init 67 = .ok (.aload_n 0, 1) := by decide +kernel
theorem dX6_init_68 : decode cX6_init 68 = .ok (.sipush 7680, 3) := by decide +kernel
theorem dX6_init_71 : decode cX6_init 71 = .ok (.newarray .int, 2) := by decide +kernel
theorem dX6_init_73 : decode cX6_init 73 = .ok (.putfield 35, 3) := by decide +kernel
theorem dX6_init_76 : decode cX6_init 76 = .ok (.aload_n 0, 1) := by decide +kernel
theorem dX6_init_77 : decode cX6_init 77 = .ok (.bipush 64, 2) := by decide +kernel
theorem dX6_init_79 : decode cX6_init 79 = .ok (.newarray .int, 2) := by decide +kernel
theorem dX6_init_81 : decode cX6_init 81 = .ok (.putfield 38, 3) := by decide +kernel
theorem dX6_init_84 : decode cX6_init 84 = .ok (.aload_n 0, 1) := by decide +kernel
theorem dX6_init_85 : decode cX6_init 85 = .ok (.sipush 4096, 3) := by decide +kernel
theorem dX6_init_88 : decode cX6_init 88 = .ok (.newarray .int, 2) := by decide +kernel
theorem dX6_init_90 : decode cX6_init 90 = .ok (.putfield 41, 3) := by decide +kernel
theorem dX6_init_93 : decode cX6_init 93 = .ok (.aload_n 0, 1) := by decide +kernel
theorem dX6_init_94 : decode cX6_init 94 = .ok (.sipush 4096, 3) := by decide +kernel
theorem dX6_init_97 : decode cX6_init 97 = .ok (.newarray .int, 2) := by decide +kernel
theorem dX6_init_99 : decode cX6_init 99 = .ok (.putfield 44, 3) := by decide +kernel
theorem dX6_init_102 : decode cX6_init 102 = .ok (.aload_n 0, 1) := by decide +kernel
theorem dX6_init_103 : decode cX6_init 103 = .ok (.sipush 5120, 3) := by decide +kernel
theorem dX6_init_106 : decode cX6_init 106 = .ok (.newarray .boolean, 2) := by decide +kernel
theorem dX6_init_108 : decode cX6_init 108 = .ok (.putfield 47, 3) := by decide +kernel
theorem dX6_init_111 : decode cX6_init 111 = .ok (.return_, 1) := by decide +kernel
abbrev rmX6_init : Room := { frames := 1, cells := 12, slots := 23248, locals := 23 }
theorem zyX6_init : zyOK yX6_init 0 := ⟨by decide +kernel, by decide +kernel, by decide +kernel⟩
set_option maxHeartbeats 4000000 in
set_option maxRecDepth 100000 in
theorem wX6_init {G : ZG} (a0 : Nat) (S : ZS) (h0 : zFix G cX6_init RX6 1 none rmX6_init) (hini : zIni G) (C : Option ZS → Prop) (hC : ¬ C none) (hE : ∀ S1 : ZS, C (some S1) → zEnd G none S1 rmX6_init) : zV G 1 S 0 0 0 [(0, .ref a0)] [] (C (fX6_init a0 S)) := by
  unfold fX6_init
  refine zr_aload_n h0 dX6_init_0 rfl (n := 1) rfl ?_
  refine zr_objInit h0 zw_818 zw_22 zw_23 (by decide) (Nat.le_of_ble_eq_true rfl) dX6_init_1 (n := 4) rfl ?_
  refine zr_aload_n h0 dX6_init_4 rfl (n := 5) rfl ?_
  refine zr_iconst (2 : Int32) h0 (by decide) dX6_init_5 (n := 6) rfl ?_
  refine zr_putF C hC h0 zcX6 (k := 1) (by decide) zw_820 rfl rfl rfl dX6_init_6 (n := 9) rfl (fun S1 => ?_)
  refine zr_aload_n h0 dX6_init_9 rfl (n := 10) rfl ?_
  refine zr_bipush (48 : Int32) h0 (by decide) dX6_init_10 (n := 12) rfl ?_
  refine zr_newarray (t := 0) (N := 48) (ce' := 1) (sl' := 48) h0 rfl rfl (fun _ => rfl) rfl (fun _ h => nomatch h) zw_44 (by decide) rfl (by decide) rfl rfl (by decide) (by decide) dX6_init_12 (n := 14) rfl ?_
  refine zr_putK C hC h0 zcX6 (k := 3) (by decide) zw_822 rfl hini rfl rfl rfl dX6_init_14 (n := 17) rfl (fun S2 => ?_)
  refine zr_aload_n h0 dX6_init_17 rfl (n := 18) rfl ?_
  refine zr_sipush (1024 : Int32) h0 (by decide) dX6_init_18 (n := 21) rfl ?_
  refine zr_newarray (t := 0) (N := 1024) (ce' := 2) (sl' := 1072) h0 rfl rfl (fun _ => rfl) rfl (fun _ h => nomatch h) zw_44 (by decide) rfl (by decide) rfl rfl (by decide) (by decide) dX6_init_21 (n := 23) rfl ?_
  refine zr_putK C hC h0 zcX6 (k := 4) (by decide) zw_823 rfl hini rfl rfl rfl dX6_init_23 (n := 26) rfl (fun S3 => ?_)
  refine zr_aload_n h0 dX6_init_26 rfl (n := 27) rfl ?_
  refine zr_bipush (16 : Int32) h0 (by decide) dX6_init_27 (n := 29) rfl ?_
  refine zr_newarray (t := 0) (N := 16) (ce' := 3) (sl' := 1088) h0 rfl rfl (fun _ => rfl) rfl (fun _ h => nomatch h) zw_44 (by decide) rfl (by decide) rfl rfl (by decide) (by decide) dX6_init_29 (n := 31) rfl ?_
  refine zr_putK C hC h0 zcX6 (k := 5) (by decide) zw_824 rfl hini rfl rfl rfl dX6_init_31 (n := 34) rfl (fun S4 => ?_)
  refine zr_aload_n h0 dX6_init_34 rfl (n := 35) rfl ?_
  refine zr_bipush (48 : Int32) h0 (by decide) dX6_init_35 (n := 37) rfl ?_
  refine zr_newarray (t := 0) (N := 48) (ce' := 4) (sl' := 1136) h0 rfl rfl (fun _ => rfl) rfl (fun _ h => nomatch h) zw_44 (by decide) rfl (by decide) rfl rfl (by decide) (by decide) dX6_init_37 (n := 39) rfl ?_
  refine zr_putK C hC h0 zcX6 (k := 7) (by decide) zw_826 rfl hini rfl rfl rfl dX6_init_39 (n := 42) rfl (fun S5 => ?_)
  refine zr_aload_n h0 dX6_init_42 rfl (n := 43) rfl ?_
  refine zr_sipush (1024 : Int32) h0 (by decide) dX6_init_43 (n := 46) rfl ?_
  refine zr_newarray (t := 0) (N := 1024) (ce' := 5) (sl' := 2160) h0 rfl rfl (fun _ => rfl) rfl (fun _ h => nomatch h) zw_44 (by decide) rfl (by decide) rfl rfl (by decide) (by decide) dX6_init_46 (n := 48) rfl ?_
  refine zr_putK C hC h0 zcX6 (k := 8) (by decide) zw_827 rfl hini rfl rfl rfl dX6_init_48 (n := 51) rfl (fun S6 => ?_)
  refine zr_aload_n h0 dX6_init_51 rfl (n := 52) rfl ?_
  refine zr_bipush (16 : Int32) h0 (by decide) dX6_init_52 (n := 54) rfl ?_
  refine zr_newarray (t := 0) (N := 16) (ce' := 6) (sl' := 2176) h0 rfl rfl (fun _ => rfl) rfl (fun _ h => nomatch h) zw_44 (by decide) rfl (by decide) rfl rfl (by decide) (by decide) dX6_init_54 (n := 56) rfl ?_
  refine zr_putK C hC h0 zcX6 (k := 9) (by decide) zw_828 rfl hini rfl rfl rfl dX6_init_56 (n := 59) rfl (fun S7 => ?_)
  refine zr_aload_n h0 dX6_init_59 rfl (n := 60) rfl ?_
  refine zr_bipush (16 : Int32) h0 (by decide) dX6_init_60 (n := 62) rfl ?_
  refine zr_newarray (t := 0) (N := 16) (ce' := 7) (sl' := 2192) h0 rfl rfl (fun _ => rfl) rfl (fun _ h => nomatch h) zw_44 (by decide) rfl (by decide) rfl rfl (by decide) (by decide) dX6_init_62 (n := 64) rfl ?_
  refine zr_putK C hC h0 zcX6 (k := 10) (by decide) zw_829 rfl hini rfl rfl rfl dX6_init_64 (n := 67) rfl (fun S8 => ?_)
  refine zr_aload_n h0 dX6_init_67 rfl (n := 68) rfl ?_
  refine zr_sipush (7680 : Int32) h0 (by decide) dX6_init_68 (n := 71) rfl ?_
  refine zr_newarray (t := 0) (N := 7680) (ce' := 8) (sl' := 9872) h0 rfl rfl (fun _ => rfl) rfl (fun _ h => nomatch h) zw_44 (by decide) rfl (by decide) rfl rfl (by decide) (by decide) dX6_init_71 (n := 73) rfl ?_
  refine zr_putK C hC h0 zcX6 (k := 11) (by decide) zw_830 rfl hini rfl rfl rfl dX6_init_73 (n := 76) rfl (fun S9 => ?_)
  refine zr_aload_n h0 dX6_init_76 rfl (n := 77) rfl ?_
  refine zr_bipush (64 : Int32) h0 (by decide) dX6_init_77 (n := 79) rfl ?_
  refine zr_newarray (t := 0) (N := 64) (ce' := 9) (sl' := 9936) h0 rfl rfl (fun _ => rfl) rfl (fun _ h => nomatch h) zw_44 (by decide) rfl (by decide) rfl rfl (by decide) (by decide) dX6_init_79 (n := 81) rfl ?_
  refine zr_putK C hC h0 zcX6 (k := 12) (by decide) zw_831 rfl hini rfl rfl rfl dX6_init_81 (n := 84) rfl (fun S10 => ?_)
  refine zr_aload_n h0 dX6_init_84 rfl (n := 85) rfl ?_
  refine zr_sipush (4096 : Int32) h0 (by decide) dX6_init_85 (n := 88) rfl ?_
  refine zr_newarray (t := 0) (N := 4096) (ce' := 10) (sl' := 14032) h0 rfl rfl (fun _ => rfl) rfl (fun _ h => nomatch h) zw_44 (by decide) rfl (by decide) rfl rfl (by decide) (by decide) dX6_init_88 (n := 90) rfl ?_
  refine zr_putK C hC h0 zcX6 (k := 13) (by decide) zw_832 rfl hini rfl rfl rfl dX6_init_90 (n := 93) rfl (fun S11 => ?_)
  refine zr_aload_n h0 dX6_init_93 rfl (n := 94) rfl ?_
  refine zr_sipush (4096 : Int32) h0 (by decide) dX6_init_94 (n := 97) rfl ?_
  refine zr_newarray (t := 0) (N := 4096) (ce' := 11) (sl' := 18128) h0 rfl rfl (fun _ => rfl) rfl (fun _ h => nomatch h) zw_44 (by decide) rfl (by decide) rfl rfl (by decide) (by decide) dX6_init_97 (n := 99) rfl ?_
  refine zr_putK C hC h0 zcX6 (k := 14) (by decide) zw_833 rfl hini rfl rfl rfl dX6_init_99 (n := 102) rfl (fun S12 => ?_)
  refine zr_aload_n h0 dX6_init_102 rfl (n := 103) rfl ?_
  refine zr_sipush (5120 : Int32) h0 (by decide) dX6_init_103 (n := 106) rfl ?_
  refine zr_newarray (t := 2) (N := 5120) (ce' := 12) (sl' := 23248) h0 rfl rfl (fun _ => rfl) rfl (fun _ h => nomatch h) zw_877 (by decide) rfl (by decide) rfl rfl (by decide) (by decide) dX6_init_106 (n := 108) rfl ?_
  refine zr_putK C hC h0 zcX6 (k := 16) (by decide) zw_835 rfl hini rfl rfl rfl dX6_init_108 (n := 111) rfl (fun S13 => ?_)
  exact zr_vret h0 rfl dX6_init_111 (fun h => hE _ h) (by decide) (by decide)
theorem kX6_init (l : Launch) (D : ZD) (z0 : Nat) (a0 : Nat) (S : ZS) (x : ZS) (hf : fX6_init a0 S = some x) : zMet l D z0 yX6_init cX6_init 1 none rmX6_init [.ref a0] S none x :=
  zMet_of (by decide) (Nat.le_of_ble_eq_true rfl) (fun G h0 hini hE => wX6_init a0 S h0 (hini rfl) (fun o => o = some x) (fun h => nomatch h) (fun S1 h => by cases h; exact hE)) hf
theorem dX6_thrown_0 : decode cX6_thrown 0 = .ok (.aload_n 0, 1) := by decide +kernel
theorem dX6_thrown_1 : decode cX6_thrown 1 = .ok (.getfield 51, 3) := by decide +kernel
theorem dX6_thrown_4 : decode cX6_thrown 4 = .ok (.ireturn, 1) := by decide +kernel
abbrev rmX6_thrown : Room := { frames := 1, cells := 0, slots := 0, locals := 20 }
theorem zyX6_thrown : zyOK yX6_thrown 0 := ⟨by decide +kernel, by decide +kernel, by decide +kernel⟩
set_option maxHeartbeats 4000000 in
set_option maxRecDepth 100000 in
theorem wX6_thrown {G : ZG} (a0 : Nat) (S : ZS) (h0 : zFix G cX6_thrown RX6 1 (some .int) rmX6_thrown) (C : Option Int32 → Prop) (hC : ¬ C none) (hE : ∀ v : Int32, C (some v) → zEnd G (some (.int v)) S rmX6_thrown) : zV G 1 S 0 0 0 [(0, .ref a0)] [] (C (fX6_thrown a0 S)) := by
  unfold fX6_thrown
  refine zr_aload_n h0 dX6_thrown_0 rfl (n := 1) rfl ?_
  refine zr_getI C hC h0 zcX6 (k := 0) (by decide) zw_819 dX6_thrown_1 (n := 4) rfl (fun v1 => ?_)
  exact zr_iret h0 rfl dX6_thrown_4 (hE _) (by decide) (by decide)
theorem kX6_thrown (l : Launch) (D : ZD) (z0 : Nat) (a0 : Nat) (S : ZS) (x : Int32) (hf : fX6_thrown a0 S = some x) : zMet l D z0 yX6_thrown cX6_thrown 1 (some .int) rmX6_thrown [.ref a0] S (some (.int x)) S :=
  zMet_of (by decide) (Nat.le_of_ble_eq_true rfl) (fun G h0 hini hE => wX6_thrown a0 S h0 (fun o => o = some x) (fun h => nomatch h) (fun v h => by cases h; exact hE)) hf
theorem dX6_goesWell_0 : decode cX6_goesWell 0 = .ok (.aload_n 0, 1) := by decide +kernel
theorem dX6_goesWell_1 : decode cX6_goesWell 1 = .ok (.iload_n 1, 1) := by decide +kernel
theorem dX6_goesWell_2 : decode cX6_goesWell 2 = .ok (.putfield 51, 3) := by decide +kernel
theorem dX6_goesWell_5 : decode cX6_goesWell 5 = .ok (.iload_n 1, 1) := by decide +kernel
theorem dX6_goesWell_6 : decode cX6_goesWell 6 = .ok (.ifCond .ne 7, 3) := by decide +kernel
theorem dX6_goesWell_9 : decode cX6_goesWell 9 = .ok (.iconst 1, 1) := by decide +kernel
theorem dX6_goesWell_10 : decode cX6_goesWell 10 = .ok (.goto 4, 3) := by decide +kernel
theorem dX6_goesWell_13 : decode cX6_goesWell 13 = .ok (.iconst 0, 1) := by decide +kernel
theorem dX6_goesWell_14 : decode cX6_goesWell 14 = .ok (.ireturn, 1) := by decide +kernel
abbrev rmX6_goesWell : Room := { frames := 1, cells := 0, slots := 0, locals := 20 }
theorem zyX6_goesWell : zyOK yX6_goesWell 1 := ⟨by decide +kernel, by decide +kernel, by decide +kernel⟩
set_option maxHeartbeats 4000000 in
set_option maxRecDepth 100000 in
theorem wX6_goesWell {G : ZG} (a0 : Nat) (a1 : Int32) (S : ZS) (h0 : zFix G cX6_goesWell RX6 2 (some .boolean) rmX6_goesWell) (C : Option (Int32 × ZS) → Prop) (hC : ¬ C none) (hE : ∀ (v : Int32) (S1 : ZS), C (some (v, S1)) → zEnd G (some (.int v)) S1 rmX6_goesWell) : zV G 2 S 0 0 0 [(0, .ref a0), (1, .int a1)] [] (C (fX6_goesWell a0 a1 S)) := by
  have J14 : ∀ (s0_14 : Int32) (S_14 : ZS), zV G 2 S_14 0 0 14 [] [.int s0_14] (C (fX6_goesWell_J14 s0_14 S_14)) := by
    intro s0_14 S_14
    unfold fX6_goesWell_J14
    exact zr_zret C hC h0 rfl dX6_goesWell_14 (fun w h => hE _ _ h) (by decide) (by decide)
  unfold fX6_goesWell
  refine zr_aload_n h0 dX6_goesWell_0 rfl (n := 1) rfl ?_
  refine zr_iload_n h0 dX6_goesWell_1 rfl (n := 2) rfl ?_
  refine zr_putF C hC h0 zcX6 (k := 0) (by decide) zw_819 rfl rfl rfl dX6_goesWell_2 (n := 5) rfl (fun S1 => ?_)
  refine zr_iload_n h0 dX6_goesWell_5 rfl (n := 6) rfl ?_
  refine zr_if_ne C (tgt := 13) h0 dX6_goesWell_6 (by decide) (n := 9) rfl ?_ ?_
  · refine zv_sub (lv' := []) ?_ (zsub_of [] rfl)
    refine zr_iconst (1 : Int32) h0 (by decide) dX6_goesWell_9 (n := 10) rfl ?_
    refine zr_goto (tgt := 14) h0 dX6_goesWell_10 (by decide) ?_
    exact J14 (1 : Int32) S1
  · refine zv_sub (lv' := []) ?_ (zsub_of [] rfl)
    refine zr_iconst (0 : Int32) h0 (by decide) dX6_goesWell_13 (n := 14) rfl ?_
    exact J14 (0 : Int32) S1
theorem kX6_goesWell (l : Launch) (D : ZD) (z0 : Nat) (a0 : Nat) (a1 : Int32) (S : ZS) (x : Int32 × ZS) (hf : fX6_goesWell a0 a1 S = some x) : zMet l D z0 yX6_goesWell cX6_goesWell 2 (some .boolean) rmX6_goesWell [.ref a0, .int a1] S (some (.int x.1)) x.2 :=
  zMet_of (by decide) (Nat.le_of_ble_eq_true rfl) (fun G h0 hini hE => wX6_goesWell a0 a1 S h0 (fun o => o = some x) (fun h => nomatch h) (fun v S1 h => by cases h; exact hE)) hf
theorem dX6_in_0 : decode cX6_in 0 = .ok (.iload_n 0, 1) := by decide +kernel
theorem dX6_in_1 : decode cX6_in 1 = .ok (.iload_n 1, 1) := by decide +kernel
theorem dX6_in_2 : decode cX6_in 2 = .ok (.if_icmp .lt 12, 3) := by decide +kernel
theorem dX6_in_5 : decode cX6_in 5 = .ok (.iload_n 0, 1) := by decide +kernel
theorem dX6_in_6 : decode cX6_in 6 = .ok (.iload_n 2, 1) := by decide +kernel
theorem dX6_in_7 : decode cX6_in 7 = .ok (.if_icmp .gt 7, 3) := by decide +kernel
theorem dX6_in_10 : decode cX6_in 10 = .ok (.iconst 1, 1) := by decide +kernel
theorem dX6_in_11 : decode cX6_in 11 = .ok (.goto 4, 3) := by decide +kernel
theorem dX6_in_14 : decode cX6_in 14 = .ok (.iconst 0, 1) := by decide +kernel
theorem dX6_in_15 : decode cX6_in 15 = .ok (.ireturn, 1) := by decide +kernel
abbrev rmX6_in : Room := { frames := 1, cells := 0, slots := 0, locals := 20 }
theorem zyX6_in : zyOK yX6_in 3 := ⟨by decide +kernel, by decide +kernel, by decide +kernel⟩
set_option maxHeartbeats 4000000 in
set_option maxRecDepth 100000 in
theorem wX6_in {G : ZG} (a0 : Int32) (a1 : Int32) (a2 : Int32) (S : ZS) (h0 : zFix G cX6_in RX6 3 (some .boolean) rmX6_in) (C : Option Int32 → Prop) (hC : ¬ C none) (hE : ∀ v : Int32, C (some v) → zEnd G (some (.int v)) S rmX6_in) : zV G 3 S 0 0 0 [(0, .int a0), (1, .int a1), (2, .int a2)] [] (C (fX6_in a0 a1 a2)) := by
  have J15 : ∀ (s0_15 : Int32), zV G 3 S 0 0 15 [] [.int s0_15] (C (fX6_in_J15 s0_15)) := by
    intro s0_15
    unfold fX6_in_J15
    exact zr_zret C hC h0 rfl dX6_in_15 (fun w h => hE _ h) (by decide) (by decide)
  have J14 : zV G 3 S 0 0 14 [] [] (C (fX6_in_J14)) := by
    unfold fX6_in_J14
    refine zr_iconst (0 : Int32) h0 (by decide) dX6_in_14 (n := 15) rfl ?_
    exact J15 (0 : Int32)
  unfold fX6_in
  refine zr_iload_n h0 dX6_in_0 rfl (n := 1) rfl ?_
  refine zr_iload_n h0 dX6_in_1 rfl (n := 2) rfl ?_
  refine zr_icmp_lt C (tgt := 14) h0 dX6_in_2 (by decide) (n := 5) rfl ?_ ?_
  · refine zv_sub (lv' := []) ?_ (zsub_of [] rfl)
    exact J14
  · refine zv_sub (lv' := [(0, .int a0), (2, .int a2)]) ?_ (zsub_of [0, 2] rfl)
    refine zr_iload_n h0 dX6_in_5 rfl (n := 6) rfl ?_
    refine zr_iload_n h0 dX6_in_6 rfl (n := 7) rfl ?_
    refine zr_icmp_gt C (tgt := 14) h0 dX6_in_7 (by decide) (n := 10) rfl ?_ ?_
    · refine zv_sub (lv' := []) ?_ (zsub_of [] rfl)
      exact J14
    · refine zv_sub (lv' := []) ?_ (zsub_of [] rfl)
      refine zr_iconst (1 : Int32) h0 (by decide) dX6_in_10 (n := 11) rfl ?_
      refine zr_goto (tgt := 15) h0 dX6_in_11 (by decide) ?_
      exact J15 (1 : Int32)
theorem kX6_in (l : Launch) (D : ZD) (z0 : Nat) (a0 : Int32) (a1 : Int32) (a2 : Int32) (S : ZS) (x : Int32) (hf : fX6_in a0 a1 a2 = some x) : zMet l D z0 yX6_in cX6_in 3 (some .boolean) rmX6_in [.int a0, .int a1, .int a2] S (some (.int x)) S :=
  zMet_of (by decide) (Nat.le_of_ble_eq_true rfl) (fun G h0 hini hE => wX6_in a0 a1 a2 S h0 (fun o => o = some x) (fun h => nomatch h) (fun v h => by cases h; exact hE)) hf
theorem dX6_isCube_0 : decode cX6_isCube 0 = .ok (.iload_n 1, 1) := by decide +kernel
theorem dX6_isCube_1 : decode cX6_isCube 1 = .ok (.iconst 0, 1) := by decide +kernel
theorem dX6_isCube_2 : decode cX6_isCube 2 = .ok (.aload_n 0, 1) := by decide +kernel
theorem dX6_isCube_3 : decode cX6_isCube 3 = .ok (.getfield 54, 3) := by decide +kernel
theorem dX6_isCube_6 : decode cX6_isCube 6 = .ok (.iconst 1, 1) := by decide +kernel
theorem dX6_isCube_7 : decode cX6_isCube 7 = .ok (.isub, 1) := by decide +kernel
theorem dX6_isCube_8 : decode cX6_isCube 8 = .ok (.invokestatic 57, 3) := by decide +kernel
theorem dX6_isCube_11 : decode cX6_isCube 11 = .ok (.ireturn, 1) := by decide +kernel
abbrev rmX6_isCube : Room := { frames := 2, cells := 0, slots := 0, locals := 42 }
theorem zyX6_isCube : zyOK yX6_isCube 1 := ⟨by decide +kernel, by decide +kernel, by decide +kernel⟩
set_option maxHeartbeats 4000000 in
set_option maxRecDepth 100000 in
theorem wX6_isCube {G : ZG} (a0 : Nat) (a1 : Int32) (S : ZS) (h0 : zFix G cX6_isCube RX6 2 (some .boolean) rmX6_isCube) (C : Option Int32 → Prop) (hC : ¬ C none) (hE : ∀ v : Int32, C (some v) → zEnd G (some (.int v)) S rmX6_isCube) : zV G 2 S 0 0 0 [(0, .ref a0), (1, .int a1)] [] (C (fX6_isCube a0 a1 S)) := by
  unfold fX6_isCube
  refine zr_iload_n h0 dX6_isCube_0 rfl (n := 1) rfl ?_
  refine zr_iconst (0 : Int32) h0 (by decide) dX6_isCube_1 (n := 2) rfl ?_
  refine zr_aload_n h0 dX6_isCube_2 rfl (n := 3) rfl ?_
  refine zr_getI C hC h0 zcX6 (k := 2) (by decide) zw_821 dX6_isCube_3 (n := 6) rfl (fun v1 => ?_)
  refine zr_iconst (1 : Int32) h0 (by decide) dX6_isCube_6 (n := 7) rfl ?_
  refine zr_isub h0 dX6_isCube_7 (n := 8) rfl ?_
  refine zr_cRI C hC 0 0 (fun x hx => zk_S h0 (fun l D z0 => kX6_in l D z0 a1 (0 : Int32) (v1 - (1 : Int32)) S x hx) zw_898 zw_899 zw_5 zw_900 zyX6_in (As := [.int a1, .int (0 : Int32), .int (v1 - (1 : Int32))]) (st := []) rfl (by decide) rfl (Nat.le_of_ble_eq_true rfl) (by decide) dX6_isCube_8) rfl rfl (n := 11) rfl (fun x2 => ?_)
  exact zr_zret C hC h0 rfl dX6_isCube_11 (fun w h => hE _ h) (by decide) (by decide)
theorem kX6_isCube (l : Launch) (D : ZD) (z0 : Nat) (a0 : Nat) (a1 : Int32) (S : ZS) (x : Int32) (hf : fX6_isCube a0 a1 S = some x) : zMet l D z0 yX6_isCube cX6_isCube 2 (some .boolean) rmX6_isCube [.ref a0, .int a1] S (some (.int x)) S :=
  zMet_of (by decide) (Nat.le_of_ble_eq_true rfl) (fun G h0 hini hE => wX6_isCube a0 a1 S h0 (fun o => o = some x) (fun h => nomatch h) (fun v h => by cases h; exact hE)) hf
theorem dX6_isWay_0 : decode cX6_isWay 0 = .ok (.iload_n 1, 1) := by decide +kernel
theorem dX6_isWay_1 : decode cX6_isWay 1 = .ok (.iconst 0, 1) := by decide +kernel
theorem dX6_isWay_2 : decode cX6_isWay 2 = .ok (.aload_n 0, 1) := by decide +kernel
theorem dX6_isWay_3 : decode cX6_isWay 3 = .ok (.getfield 61, 3) := by decide +kernel
theorem dX6_isWay_6 : decode cX6_isWay 6 = .ok (.iconst 1, 1) := by decide +kernel
theorem dX6_isWay_7 : decode cX6_isWay 7 = .ok (.isub, 1) := by decide +kernel
theorem dX6_isWay_8 : decode cX6_isWay 8 = .ok (.invokestatic 57, 3) := by decide +kernel
theorem dX6_isWay_11 : decode cX6_isWay 11 = .ok (.ireturn, 1) := by decide +kernel
abbrev rmX6_isWay : Room := { frames := 2, cells := 0, slots := 0, locals := 42 }
theorem zyX6_isWay : zyOK yX6_isWay 1 := ⟨by decide +kernel, by decide +kernel, by decide +kernel⟩
set_option maxHeartbeats 4000000 in
set_option maxRecDepth 100000 in
theorem wX6_isWay {G : ZG} (a0 : Nat) (a1 : Int32) (S : ZS) (h0 : zFix G cX6_isWay RX6 2 (some .boolean) rmX6_isWay) (C : Option Int32 → Prop) (hC : ¬ C none) (hE : ∀ v : Int32, C (some v) → zEnd G (some (.int v)) S rmX6_isWay) : zV G 2 S 0 0 0 [(0, .ref a0), (1, .int a1)] [] (C (fX6_isWay a0 a1 S)) := by
  unfold fX6_isWay
  refine zr_iload_n h0 dX6_isWay_0 rfl (n := 1) rfl ?_
  refine zr_iconst (0 : Int32) h0 (by decide) dX6_isWay_1 (n := 2) rfl ?_
  refine zr_aload_n h0 dX6_isWay_2 rfl (n := 3) rfl ?_
  refine zr_getI C hC h0 zcX6 (k := 6) (by decide) zw_825 dX6_isWay_3 (n := 6) rfl (fun v1 => ?_)
  refine zr_iconst (1 : Int32) h0 (by decide) dX6_isWay_6 (n := 7) rfl ?_
  refine zr_isub h0 dX6_isWay_7 (n := 8) rfl ?_
  refine zr_cRI C hC 0 0 (fun x hx => zk_S h0 (fun l D z0 => kX6_in l D z0 a1 (0 : Int32) (v1 - (1 : Int32)) S x hx) zw_898 zw_899 zw_5 zw_900 zyX6_in (As := [.int a1, .int (0 : Int32), .int (v1 - (1 : Int32))]) (st := []) rfl (by decide) rfl (Nat.le_of_ble_eq_true rfl) (by decide) dX6_isWay_8) rfl rfl (n := 11) rfl (fun x2 => ?_)
  exact zr_zret C hC h0 rfl dX6_isWay_11 (fun w h => hE _ h) (by decide) (by decide)
theorem kX6_isWay (l : Launch) (D : ZD) (z0 : Nat) (a0 : Nat) (a1 : Int32) (S : ZS) (x : Int32) (hf : fX6_isWay a0 a1 S = some x) : zMet l D z0 yX6_isWay cX6_isWay 2 (some .boolean) rmX6_isWay [.ref a0, .int a1] S (some (.int x)) S :=
  zMet_of (by decide) (Nat.le_of_ble_eq_true rfl) (fun G h0 hini hE => wX6_isWay a0 a1 S h0 (fun o => o = some x) (fun h => nomatch h) (fun v h => by cases h; exact hE)) hf
theorem dX6_isSide_0 : decode cX6_isSide 0 = .ok (.iload_n 0, 1) := by decide +kernel
theorem dX6_isSide_1 : decode cX6_isSide 1 = .ok (.iconst 0, 1) := by decide +kernel
theorem dX6_isSide_2 : decode cX6_isSide 2 = .ok (.iconst 2, 1) := by decide +kernel
theorem dX6_isSide_3 : decode cX6_isSide 3 = .ok (.invokestatic 57, 3) := by decide +kernel
theorem dX6_isSide_6 : decode cX6_isSide 6 = .ok (.ireturn, 1) := by decide +kernel
abbrev rmX6_isSide : Room := { frames := 2, cells := 0, slots := 0, locals := 42 }
theorem zyX6_isSide : zyOK yX6_isSide 1 := ⟨by decide +kernel, by decide +kernel, by decide +kernel⟩
set_option maxHeartbeats 4000000 in
set_option maxRecDepth 100000 in
theorem wX6_isSide {G : ZG} (a0 : Int32) (S : ZS) (h0 : zFix G cX6_isSide RX6 1 (some .boolean) rmX6_isSide) (C : Option Int32 → Prop) (hC : ¬ C none) (hE : ∀ v : Int32, C (some v) → zEnd G (some (.int v)) S rmX6_isSide) : zV G 1 S 0 0 0 [(0, .int a0)] [] (C (fX6_isSide a0)) := by
  unfold fX6_isSide
  refine zr_iload_n h0 dX6_isSide_0 rfl (n := 1) rfl ?_
  refine zr_iconst (0 : Int32) h0 (by decide) dX6_isSide_1 (n := 2) rfl ?_
  refine zr_iconst (2 : Int32) h0 (by decide) dX6_isSide_2 (n := 3) rfl ?_
  refine zr_cRI C hC 0 0 (fun x hx => zk_S h0 (fun l D z0 => kX6_in l D z0 a0 (0 : Int32) (2 : Int32) S x hx) zw_898 zw_899 zw_5 zw_900 zyX6_in (As := [.int a0, .int (0 : Int32), .int (2 : Int32)]) (st := []) rfl (by decide) rfl (Nat.le_of_ble_eq_true rfl) (by decide) dX6_isSide_3) rfl rfl (n := 6) rfl (fun x1 => ?_)
  exact zr_zret C hC h0 rfl dX6_isSide_6 (fun w h => hE _ h) (by decide) (by decide)
theorem kX6_isSide (l : Launch) (D : ZD) (z0 : Nat) (a0 : Int32) (S : ZS) (x : Int32) (hf : fX6_isSide a0 = some x) : zMet l D z0 yX6_isSide cX6_isSide 1 (some .boolean) rmX6_isSide [.int a0] S (some (.int x)) S :=
  zMet_of (by decide) (Nat.le_of_ble_eq_true rfl) (fun G h0 hini hE => wX6_isSide a0 S h0 (fun o => o = some x) (fun h => nomatch h) (fun v h => by cases h; exact hE)) hf
theorem dX6_place_0 : decode cX6_place 0 = .ok (.bipush 16, 2) := by decide +kernel
theorem dX6_place_2 : decode cX6_place 2 = .ok (.iload_n 0, 1) := by decide +kernel
theorem dX6_place_3 : decode cX6_place 3 = .ok (.imul, 1) := by decide +kernel
theorem dX6_place_4 : decode cX6_place 4 = .ok (.iconst 4, 1) := by decide +kernel
theorem dX6_place_5 : decode cX6_place 5 = .ok (.iload_n 1, 1) := by decide +kernel
theorem dX6_place_6 : decode cX6_place 6 = .ok (.imul, 1) := by decide +kernel
theorem dX6_place_7 : decode cX6_place 7 = .ok (.iadd, 1) := by decide +kernel
theorem dX6_place_8 : decode cX6_place 8 = .ok (.iload_n 2, 1) := by decide +kernel
theorem dX6_place_9 : decode cX6_place 9 = .ok (.iadd, 1) := by decide +kernel
theorem dX6_place_10 : decode cX6_place 10 = .ok (.ireturn, 1) := by decide +kernel
abbrev rmX6_place : Room := { frames := 1, cells := 0, slots := 0, locals := 20 }
theorem zyX6_place : zyOK yX6_place 3 := ⟨by decide +kernel, by decide +kernel, by decide +kernel⟩
set_option maxHeartbeats 4000000 in
set_option maxRecDepth 100000 in
theorem wX6_place {G : ZG} (a0 : Int32) (a1 : Int32) (a2 : Int32) (S : ZS) (h0 : zFix G cX6_place RX6 3 (some .int) rmX6_place) (C : Option Int32 → Prop) (hC : ¬ C none) (hE : ∀ v : Int32, C (some v) → zEnd G (some (.int v)) S rmX6_place) : zV G 3 S 0 0 0 [(0, .int a0), (1, .int a1), (2, .int a2)] [] (C (fX6_place a0 a1 a2)) := by
  unfold fX6_place
  refine zr_bipush (16 : Int32) h0 (by decide) dX6_place_0 (n := 2) rfl ?_
  refine zr_iload_n h0 dX6_place_2 rfl (n := 3) rfl ?_
  refine zr_imul h0 dX6_place_3 (n := 4) rfl ?_
  refine zr_iconst (4 : Int32) h0 (by decide) dX6_place_4 (n := 5) rfl ?_
  refine zr_iload_n h0 dX6_place_5 rfl (n := 6) rfl ?_
  refine zr_imul h0 dX6_place_6 (n := 7) rfl ?_
  refine zr_iadd h0 dX6_place_7 (n := 8) rfl ?_
  refine zr_iload_n h0 dX6_place_8 rfl (n := 9) rfl ?_
  refine zr_iadd h0 dX6_place_9 (n := 10) rfl ?_
  exact zr_iret h0 rfl dX6_place_10 (hE _) (by decide) (by decide)
theorem kX6_place (l : Launch) (D : ZD) (z0 : Nat) (a0 : Int32) (a1 : Int32) (a2 : Int32) (S : ZS) (x : Int32) (hf : fX6_place a0 a1 a2 = some x) : zMet l D z0 yX6_place cX6_place 3 (some .int) rmX6_place [.int a0, .int a1, .int a2] S (some (.int x)) S :=
  zMet_of (by decide) (Nat.le_of_ble_eq_true rfl) (fun G h0 hini hE => wX6_place a0 a1 a2 S h0 (fun o => o = some x) (fun h => nomatch h) (fun v h => by cases h; exact hE)) hf
theorem dX6_prime_0 : decode cX6_prime 0 = .ok (.iload_n 1, 1) := by decide +kernel
theorem dX6_prime_1 : decode cX6_prime 1 = .ok (.iconst 2, 1) := by decide +kernel
theorem dX6_prime_2 : decode cX6_prime 2 = .ok (.if_icmp .eq 13, 3) := by decide +kernel
theorem dX6_prime_5 : decode cX6_prime 5 = .ok (.iload_n 1, 1) := by decide +kernel
theorem dX6_prime_6 : decode cX6_prime 6 = .ok (.iconst 3, 1) := by decide +kernel
theorem dX6_prime_7 : decode cX6_prime 7 = .ok (.if_icmp .eq 8, 3) := by decide +kernel
theorem dX6_prime_10 : decode cX6_prime 10 = .ok (.iload_n 1, 1) := by decide +kernel
theorem dX6_prime_11 : decode cX6_prime 11 = .ok (.iconst 5, 1) := by decide +kernel
theorem dX6_prime_12 : decode cX6_prime 12 = .ok (.if_icmp .ne 7, 3) := by decide +kernel
theorem dX6_prime_15 : decode cX6_prime 15 = .ok (.iconst 1, 1) := by decide +kernel
theorem dX6_prime_16 : decode cX6_prime 16 = .ok (.goto 4, 3) := by decide +kernel
theorem dX6_prime_19 : decode cX6_prime 19 = .ok (.iconst 0, 1) := by decide +kernel
theorem dX6_prime_20 : decode cX6_prime 20 = .ok (.istore_n 2, 1) := by decide +kernel
theorem dX6_prime_21 : decode cX6_prime 21 = .ok (.aload_n 0, 1) := by decide +kernel
theorem dX6_prime_22 : decode cX6_prime 22 = .ok (.iload_n 2, 1) := by decide +kernel
theorem dX6_prime_23 : decode cX6_prime 23 = .ok (.ifCond .ne 7, 3) := by decide +kernel
theorem dX6_prime_26 : decode cX6_prime 26 = .ok (.iconst 1, 1) := by decide +kernel
theorem dX6_prime_27 : decode cX6_prime 27 = .ok (.goto 15, 3) := by decide +kernel
theorem dX6_prime_30 : decode cX6_prime 30 = .ok (.aload_n 0, 1) := by decide +kernel
theorem dX6_prime_31 : decode cX6_prime 31 = .ok (.getfield 54, 3) := by decide +kernel
theorem dX6_prime_34 : decode cX6_prime 34 = .ok (.ifCond .le 7, 3) := by decide +kernel
theorem dX6_prime_37 : decode cX6_prime 37 = .ok (.iconst 2, 1) := by decide +kernel
theorem dX6_prime_38 : decode cX6_prime 38 = .ok (.goto 4, 3) := by decide +kernel
theorem dX6_prime_41 : decode cX6_prime 41 = .ok (.iconst 0, 1) := by decide +kernel
theorem dX6_prime_42 : decode cX6_prime 42 = .ok (.invokevirtual 64, 3) := by decide +kernel
theorem dX6_prime_45 : decode cX6_prime 45 = .ok (.ifCond .ne 5, 3) := by decide +kernel
theorem dX6_prime_48 : decode cX6_prime 48 = .ok (.iconst 0, 1) := by decide +kernel
theorem dX6_prime_49 : decode cX6_prime 49 = .ok (.ireturn, 1) := by decide +kernel
theorem dX6_prime_50 : decode cX6_prime 50 = .ok (.aload_n 0, 1) := by decide +kernel
theorem dX6_prime_51 : decode cX6_prime 51 = .ok (.getfield 7, 3) := by decide +kernel
theorem dX6_prime_54 : decode cX6_prime 54 = .ok (.istore_n 3, 1) := by decide +kernel
theorem dX6_prime_55 : decode cX6_prime 55 = .ok (.aload_n 0, 1) := by decide +kernel
theorem dX6_prime_56 : decode cX6_prime 56 = .ok (.iload_n 1, 1) := by decide +kernel
theorem dX6_prime_57 : decode cX6_prime 57 = .ok (.putfield 7, 3) := by decide +kernel
theorem dX6_prime_60 : decode cX6_prime 60 = .ok (.iload_n 3, 1) := by decide +kernel
theorem dX6_prime_61 : decode cX6_prime 61 = .ok (.ireturn, 1) := by decide +kernel
abbrev rmX6_prime : Room := { frames := 2, cells := 0, slots := 0, locals := 41 }
theorem zyX6_prime : zyOK yX6_prime 1 := ⟨by decide +kernel, by decide +kernel, by decide +kernel⟩
set_option maxHeartbeats 4000000 in
set_option maxRecDepth 100000 in
theorem wX6_prime {G : ZG} (a0 : Nat) (a1 : Int32) (S : ZS) (h0 : zFix G cX6_prime RX6 4 (some .int) rmX6_prime) (C : Option (Int32 × ZS) → Prop) (hC : ¬ C none) (hE : ∀ (v : Int32) (S1 : ZS), C (some (v, S1)) → zEnd G (some (.int v)) S1 rmX6_prime) : zV G 4 S 0 0 0 [(0, .ref a0), (1, .int a1)] [] (C (fX6_prime a0 a1 S)) := by
  have J42 : ∀ (l0_42 : Nat) (l1_42 : Int32) (s0_42 : Nat) (s1_42 : Int32) (S_42 : ZS), zV G 4 S_42 0 0 42 [(0, .ref l0_42), (1, .int l1_42)] [.int s1_42, .ref s0_42] (C (fX6_prime_J42 l0_42 l1_42 s0_42 s1_42 S_42)) := by
    intro l0_42 l1_42 s0_42 s1_42 S_42
    unfold fX6_prime_J42
    refine zr_cMI C hC 0 0 (fun x hx => zk_V h0 zcX6 (zcl_ex hx) (fun l D z0 => kX6_goesWell l D z0 s0_42 s1_42 S_42 x (zcl_of hx)) zw_886 zw_888 zs_34 zw_5 zw_889 rfl zyX6_goesWell (As := [.int s1_42]) (st := []) rfl (by decide) rfl (Nat.le_of_ble_eq_true rfl) (by decide) dX6_prime_42) rfl rfl (n := 45) rfl (fun x5 => ?_)
    refine zr_if_ne C (tgt := 50) h0 dX6_prime_45 (by decide) (n := 48) rfl ?_ ?_
    · refine zv_sub (lv' := []) ?_ (zsub_of [] rfl)
      refine zr_iconst (0 : Int32) h0 (by decide) dX6_prime_48 (n := 49) rfl ?_
      exact zr_iret h0 rfl dX6_prime_49 (hE _ _) (by decide) (by decide)
    · refine zr_aload_n h0 dX6_prime_50 rfl (n := 51) rfl ?_
      refine zr_getI C hC h0 zcX6 (k := 1) (by decide) zw_820 dX6_prime_51 (n := 54) rfl (fun v6 => ?_)
      refine zr_istore_n [(0, .ref l0_42), (1, .int l1_42), (3, .int v6)] h0 dX6_prime_54 (by decide) rfl (n := 55) rfl ?_
      refine zr_aload_n h0 dX6_prime_55 rfl (n := 56) rfl ?_
      refine zr_iload_n h0 dX6_prime_56 rfl (n := 57) rfl ?_
      refine zr_putF C hC h0 zcX6 (k := 1) (by decide) zw_820 rfl rfl rfl dX6_prime_57 (n := 60) rfl (fun S7 => ?_)
      refine zr_iload_n h0 dX6_prime_60 rfl (n := 61) rfl ?_
      exact zr_iret h0 rfl dX6_prime_61 (hE _ _) (by decide) (by decide)
  have J20 : ∀ (l0_20 : Nat) (l1_20 : Int32) (s0_20 : Int32) (S_20 : ZS), zV G 4 S_20 0 0 20 [(0, .ref l0_20), (1, .int l1_20)] [.int s0_20] (C (fX6_prime_J20 l0_20 l1_20 s0_20 S_20)) := by
    intro l0_20 l1_20 s0_20 S_20
    unfold fX6_prime_J20
    refine zr_istore_n [(0, .ref l0_20), (1, .int l1_20), (2, .int s0_20)] h0 dX6_prime_20 (by decide) rfl (n := 21) rfl ?_
    refine zr_aload_n h0 dX6_prime_21 rfl (n := 22) rfl ?_
    refine zr_iload_n h0 dX6_prime_22 rfl (n := 23) rfl ?_
    refine zr_if_ne C (tgt := 30) h0 dX6_prime_23 (by decide) (n := 26) rfl ?_ ?_
    · refine zv_sub (lv' := [(0, .ref l0_20), (1, .int l1_20)]) ?_ (zsub_of [0, 1] rfl)
      refine zr_iconst (1 : Int32) h0 (by decide) dX6_prime_26 (n := 27) rfl ?_
      refine zr_goto (tgt := 42) h0 dX6_prime_27 (by decide) ?_
      exact J42 l0_20 l1_20 l0_20 (1 : Int32) S_20
    · refine zv_sub (lv' := [(0, .ref l0_20), (1, .int l1_20)]) ?_ (zsub_of [0, 1] rfl)
      refine zr_aload_n h0 dX6_prime_30 rfl (n := 31) rfl ?_
      refine zr_getI C hC h0 zcX6 (k := 2) (by decide) zw_821 dX6_prime_31 (n := 34) rfl (fun v8 => ?_)
      refine zr_if_le C (tgt := 41) h0 dX6_prime_34 (by decide) (n := 37) rfl ?_ ?_
      · refine zr_iconst (0 : Int32) h0 (by decide) dX6_prime_41 (n := 42) rfl ?_
        exact J42 l0_20 l1_20 l0_20 (0 : Int32) S_20
      · refine zr_iconst (2 : Int32) h0 (by decide) dX6_prime_37 (n := 38) rfl ?_
        refine zr_goto (tgt := 42) h0 dX6_prime_38 (by decide) ?_
        exact J42 l0_20 l1_20 l0_20 (2 : Int32) S_20
  have J15 : ∀ (l0_15 : Nat) (l1_15 : Int32) (S_15 : ZS), zV G 4 S_15 0 0 15 [(0, .ref l0_15), (1, .int l1_15)] [] (C (fX6_prime_J15 l0_15 l1_15 S_15)) := by
    intro l0_15 l1_15 S_15
    unfold fX6_prime_J15
    refine zr_iconst (1 : Int32) h0 (by decide) dX6_prime_15 (n := 16) rfl ?_
    refine zr_goto (tgt := 20) h0 dX6_prime_16 (by decide) ?_
    exact J20 l0_15 l1_15 (1 : Int32) S_15
  unfold fX6_prime
  refine zr_iload_n h0 dX6_prime_0 rfl (n := 1) rfl ?_
  refine zr_iconst (2 : Int32) h0 (by decide) dX6_prime_1 (n := 2) rfl ?_
  refine zr_icmp_eq C (tgt := 15) h0 dX6_prime_2 (by decide) (n := 5) rfl ?_ ?_
  · exact J15 a0 a1 S
  · refine zr_iload_n h0 dX6_prime_5 rfl (n := 6) rfl ?_
    refine zr_iconst (3 : Int32) h0 (by decide) dX6_prime_6 (n := 7) rfl ?_
    refine zr_icmp_eq C (tgt := 15) h0 dX6_prime_7 (by decide) (n := 10) rfl ?_ ?_
    · exact J15 a0 a1 S
    · refine zr_iload_n h0 dX6_prime_10 rfl (n := 11) rfl ?_
      refine zr_iconst (5 : Int32) h0 (by decide) dX6_prime_11 (n := 12) rfl ?_
      refine zr_icmp_ne C (tgt := 19) h0 dX6_prime_12 (by decide) (n := 15) rfl ?_ ?_
      · exact J15 a0 a1 S
      · refine zr_iconst (0 : Int32) h0 (by decide) dX6_prime_19 (n := 20) rfl ?_
        exact J20 a0 a1 (0 : Int32) S
theorem kX6_prime (l : Launch) (D : ZD) (z0 : Nat) (a0 : Nat) (a1 : Int32) (S : ZS) (x : Int32 × ZS) (hf : fX6_prime a0 a1 S = some x) : zMet l D z0 yX6_prime cX6_prime 4 (some .int) rmX6_prime [.ref a0, .int a1] S (some (.int x.1)) x.2 :=
  zMet_of (by decide) (Nat.le_of_ble_eq_true rfl) (fun G h0 hini hE => wX6_prime a0 a1 S h0 (fun o => o = some x) (fun h => nomatch h) (fun v S1 h => by cases h; exact hE)) hf
theorem dX6_make_0 : decode cX6_make 0 = .ok (.aload_n 0, 1) := by decide +kernel
theorem dX6_make_1 : decode cX6_make 1 = .ok (.getfield 13, 3) := by decide +kernel
theorem dX6_make_4 : decode cX6_make 4 = .ok (.iconst 3, 1) := by decide +kernel
theorem dX6_make_5 : decode cX6_make 5 = .ok (.aload_n 0, 1) := by decide +kernel
theorem dX6_make_6 : decode cX6_make 6 = .ok (.getfield 54, 3) := by decide +kernel
theorem dX6_make_9 : decode cX6_make 9 = .ok (.imul, 1) := by decide +kernel
theorem dX6_make_10 : decode cX6_make 10 = .ok (.iload_n 1, 1) := by decide +kernel
theorem dX6_make_11 : decode cX6_make 11 = .ok (.iastore, 1) := by decide +kernel
theorem dX6_make_12 : decode cX6_make 12 = .ok (.aload_n 0, 1) := by decide +kernel
theorem dX6_make_13 : decode cX6_make 13 = .ok (.getfield 13, 3) := by decide +kernel
theorem dX6_make_16 : decode cX6_make 16 = .ok (.iconst 3, 1) := by decide +kernel
theorem dX6_make_17 : decode cX6_make 17 = .ok (.aload_n 0, 1) := by decide +kernel
theorem dX6_make_18 : decode cX6_make 18 = .ok (.getfield 54, 3) := by decide +kernel
theorem dX6_make_21 : decode cX6_make 21 = .ok (.imul, 1) := by decide +kernel
theorem dX6_make_22 : decode cX6_make 22 = .ok (.iconst 1, 1) := by decide +kernel
theorem dX6_make_23 : decode cX6_make 23 = .ok (.iadd, 1) := by decide +kernel
theorem dX6_make_24 : decode cX6_make 24 = .ok (.iload_n 2, 1) := by decide +kernel
theorem dX6_make_25 : decode cX6_make 25 = .ok (.iastore, 1) := by decide +kernel
theorem dX6_make_26 : decode cX6_make 26 = .ok (.aload_n 0, 1) := by decide +kernel
theorem dX6_make_27 : decode cX6_make 27 = .ok (.getfield 13, 3) := by decide +kernel
theorem dX6_make_30 : decode cX6_make 30 = .ok (.iconst 3, 1) := by decide +kernel
theorem dX6_make_31 : decode cX6_make 31 = .ok (.aload_n 0, 1) := by decide +kernel
theorem dX6_make_32 : decode cX6_make 32 = .ok (.getfield 54, 3) := by decide +kernel
theorem dX6_make_35 : decode cX6_make 35 = .ok (.imul, 1) := by decide +kernel
theorem dX6_make_36 : decode cX6_make 36 = .ok (.iconst 2, 1) := by decide +kernel
theorem dX6_make_37 : decode cX6_make 37 = .ok (.iadd, 1) := by decide +kernel
theorem dX6_make_38 : decode cX6_make 38 = .ok (.iload_n 3, 1) := by decide +kernel
theorem dX6_make_39 : decode cX6_make 39 = .ok (.iastore, 1) := by decide +kernel
theorem dX6_make_40 : decode cX6_make 40 = .ok (.iconst 0, 1) := by decide +kernel
theorem dX6_make_41 : decode cX6_make 41 = .ok (.istore 4, 2) := by decide +kernel
theorem dX6_make_43 : decode cX6_make 43 = .ok (.iload 4, 2) := by decide +kernel
theorem dX6_make_45 : decode cX6_make 45 = .ok (.bipush 64, 2) := by decide +kernel
theorem dX6_make_47 : decode cX6_make 47 = .ok (.if_icmp .ge 25, 3) := by decide +kernel
theorem dX6_make_50 : decode cX6_make 50 = .ok (.aload_n 0, 1) := by decide +kernel
theorem dX6_make_51 : decode cX6_make 51 = .ok (.getfield 17, 3) := by decide +kernel
theorem dX6_make_54 : decode cX6_make 54 = .ok (.bipush 64, 2) := by decide +kernel
theorem dX6_make_56 : decode cX6_make 56 = .ok (.aload_n 0, 1) := by decide +kernel
theorem dX6_make_57 : decode cX6_make 57 = .ok (.getfield 54, 3) := by decide +kernel
theorem dX6_make_60 : decode cX6_make 60 = .ok (.imul, 1) := by decide +kernel
theorem dX6_make_61 : decode cX6_make 61 = .ok (.iload 4, 2) := by decide +kernel
theorem dX6_make_63 : decode cX6_make 63 = .ok (.iadd, 1) := by decide +kernel
theorem dX6_make_64 : decode cX6_make 64 = .ok (.iconst 0, 1) := by decide +kernel
theorem dX6_make_65 : decode cX6_make 65 = .ok (.iastore, 1) := by decide +kernel
theorem dX6_make_66 : decode cX6_make 66 = .ok (.iinc 4 1, 3) := by decide +kernel
theorem dX6_make_69 : decode cX6_make 69 = .ok (.goto (-26), 3) := by decide +kernel
theorem dX6_make_72 : decode cX6_make 72 = .ok (.aload_n 0, 1) := by decide +kernel
theorem dX6_make_73 : decode cX6_make 73 = .ok (.getfield 20, 3) := by decide +kernel
theorem dX6_make_76 : decode cX6_make 76 = .ok (.aload_n 0, 1) := by decide +kernel
theorem dX6_make_77 : decode cX6_make 77 = .ok (.getfield 54, 3) := by decide +kernel
theorem dX6_make_80 : decode cX6_make 80 = .ok (.iconst 0, 1) := by decide +kernel
theorem dX6_make_81 : decode cX6_make 81 = .ok (.iastore, 1) := by decide +kernel
theorem dX6_make_82 : decode cX6_make 82 = .ok (.aload_n 0, 1) := by decide +kernel
theorem dX6_make_83 : decode cX6_make 83 = .ok (.dup, 1) := by decide +kernel
theorem dX6_make_84 : decode cX6_make 84 = .ok (.getfield 54, 3) := by decide +kernel
theorem dX6_make_87 : decode cX6_make 87 = .ok (.iconst 1, 1) := by decide +kernel
theorem dX6_make_88 : decode cX6_make 88 = .ok (.iadd, 1) := by decide +kernel
theorem dX6_make_89 : decode cX6_make 89 = .ok (.putfield 54, 3) := by decide +kernel
theorem dX6_make_92 : decode cX6_make 92 = .ok (.aload_n 0, 1) := by decide +kernel
theorem dX6_make_93 : decode cX6_make 93 = .ok (.getfield 54, 3) := by decide +kernel
theorem dX6_make_96 : decode cX6_make 96 = .ok (.iconst 1, 1) := by decide +kernel
theorem dX6_make_97 : decode cX6_make 97 = .ok (.isub, 1) := by decide +kernel
theorem dX6_make_98 : decode cX6_make 98 = .ok (.ireturn, 1) := by decide +kernel
abbrev rmX6_make : Room := { frames := 1, cells := 0, slots := 0, locals := 20 }
theorem zyX6_make : zyOK yX6_make 3 := ⟨by decide +kernel, by decide +kernel, by decide +kernel⟩
set_option maxHeartbeats 4000000 in
set_option maxRecDepth 100000 in
theorem wX6_make {G : ZG} (a0 : Nat) (a1 : Int32) (a2 : Int32) (a3 : Int32) (S : ZS) (h0 : zFix G cX6_make RX6 5 (some .int) rmX6_make) (C : Option (Int32 × ZS) → Prop) (hC : ¬ C none) (hE : ∀ (v : Int32) (S1 : ZS), C (some (v, S1)) → zEnd G (some (.int v)) S1 rmX6_make) : zV G 5 S 0 0 0 [(0, .ref a0), (1, .int a1), (2, .int a2), (3, .int a3)] [] (C (fX6_make a0 a1 a2 a3 S)) := by
  unfold fX6_make
  refine zr_aload_n h0 dX6_make_0 rfl (n := 1) rfl ?_
  refine zr_getR C hC h0 zcX6 (k := 3) (by decide) zw_822 dX6_make_1 (n := 4) rfl (fun v1 => ?_)
  refine zr_iconst (3 : Int32) h0 (by decide) dX6_make_4 (n := 5) rfl ?_
  refine zr_aload_n h0 dX6_make_5 rfl (n := 6) rfl ?_
  refine zr_getI C hC h0 zcX6 (k := 2) (by decide) zw_821 dX6_make_6 (n := 9) rfl (fun v2 => ?_)
  refine zr_imul h0 dX6_make_9 (n := 10) rfl ?_
  refine zr_iload_n h0 dX6_make_10 rfl (n := 11) rfl ?_
  refine zr_iastore C hC h0 dX6_make_11 (n := 12) rfl (fun S3 => ?_)
  refine zr_aload_n h0 dX6_make_12 rfl (n := 13) rfl ?_
  refine zr_getR C hC h0 zcX6 (k := 3) (by decide) zw_822 dX6_make_13 (n := 16) rfl (fun v4 => ?_)
  refine zr_iconst (3 : Int32) h0 (by decide) dX6_make_16 (n := 17) rfl ?_
  refine zr_aload_n h0 dX6_make_17 rfl (n := 18) rfl ?_
  refine zr_getI C hC h0 zcX6 (k := 2) (by decide) zw_821 dX6_make_18 (n := 21) rfl (fun v5 => ?_)
  refine zr_imul h0 dX6_make_21 (n := 22) rfl ?_
  refine zr_iconst (1 : Int32) h0 (by decide) dX6_make_22 (n := 23) rfl ?_
  refine zr_iadd h0 dX6_make_23 (n := 24) rfl ?_
  refine zr_iload_n h0 dX6_make_24 rfl (n := 25) rfl ?_
  refine zr_iastore C hC h0 dX6_make_25 (n := 26) rfl (fun S6 => ?_)
  refine zr_aload_n h0 dX6_make_26 rfl (n := 27) rfl ?_
  refine zr_getR C hC h0 zcX6 (k := 3) (by decide) zw_822 dX6_make_27 (n := 30) rfl (fun v7 => ?_)
  refine zr_iconst (3 : Int32) h0 (by decide) dX6_make_30 (n := 31) rfl ?_
  refine zr_aload_n h0 dX6_make_31 rfl (n := 32) rfl ?_
  refine zr_getI C hC h0 zcX6 (k := 2) (by decide) zw_821 dX6_make_32 (n := 35) rfl (fun v8 => ?_)
  refine zr_imul h0 dX6_make_35 (n := 36) rfl ?_
  refine zr_iconst (2 : Int32) h0 (by decide) dX6_make_36 (n := 37) rfl ?_
  refine zr_iadd h0 dX6_make_37 (n := 38) rfl ?_
  refine zr_iload_n h0 dX6_make_38 rfl (n := 39) rfl ?_
  refine zr_iastore C hC h0 dX6_make_39 (n := 40) rfl (fun S9 => ?_)
  refine zr_iconst (0 : Int32) h0 (by decide) dX6_make_40 (n := 41) rfl ?_
  refine zr_istore [(0, .ref a0), (1, .int a1), (2, .int a2), (3, .int a3), (4, .int (0 : Int32))] h0 dX6_make_41 (by decide) rfl (n := 43) rfl ?_
  refine zv_sub (lv' := [(0, .ref a0), (4, .int (0 : Int32))]) ?_ (zsub_of [0, 4] rfl)
  refine zr_loop hC (fX6_make_B43 a0) (fun y => [(0, .ref a0), (4, .int y.1)]) (fun y => y.2) zF ((0 : Int32), S9) (fun C43 hC43 hX43 hL43 t43 => ?_)
  unfold fX6_make_B43
  refine zr_iload h0 dX6_make_43 rfl (n := 45) rfl ?_
  refine zr_bipush (64 : Int32) h0 (by decide) dX6_make_45 (n := 47) rfl ?_
  refine zr_icmp_ge C43 (tgt := 72) h0 dX6_make_47 (by decide) (n := 50) rfl ?_ ?_
  · refine zr_ex hX43 ?_
    refine zv_sub (lv' := [(0, .ref a0)]) ?_ (zsub_of [0] rfl)
    refine zr_aload_n h0 dX6_make_72 rfl (n := 73) rfl ?_
    refine zr_getR C hC h0 zcX6 (k := 5) (by decide) zw_824 dX6_make_73 (n := 76) rfl (fun v19 => ?_)
    refine zr_aload_n h0 dX6_make_76 rfl (n := 77) rfl ?_
    refine zr_getI C hC h0 zcX6 (k := 2) (by decide) zw_821 dX6_make_77 (n := 80) rfl (fun v20 => ?_)
    refine zr_iconst (0 : Int32) h0 (by decide) dX6_make_80 (n := 81) rfl ?_
    refine zr_iastore C hC h0 dX6_make_81 (n := 82) rfl (fun S21 => ?_)
    refine zr_aload_n h0 dX6_make_82 rfl (n := 83) rfl ?_
    refine zr_dup h0 rfl dX6_make_83 (n := 84) rfl ?_
    refine zr_getI C hC h0 zcX6 (k := 2) (by decide) zw_821 dX6_make_84 (n := 87) rfl (fun v22 => ?_)
    refine zr_iconst (1 : Int32) h0 (by decide) dX6_make_87 (n := 88) rfl ?_
    refine zr_iadd h0 dX6_make_88 (n := 89) rfl ?_
    refine zr_putF C hC h0 zcX6 (k := 2) (by decide) zw_821 rfl rfl rfl dX6_make_89 (n := 92) rfl (fun S23 => ?_)
    refine zr_aload_n h0 dX6_make_92 rfl (n := 93) rfl ?_
    refine zr_getI C hC h0 zcX6 (k := 2) (by decide) zw_821 dX6_make_93 (n := 96) rfl (fun v24 => ?_)
    refine zr_iconst (1 : Int32) h0 (by decide) dX6_make_96 (n := 97) rfl ?_
    refine zr_isub h0 dX6_make_97 (n := 98) rfl ?_
    exact zr_iret h0 rfl dX6_make_98 (hE _ _) (by decide) (by decide)
  · refine zr_aload_n h0 dX6_make_50 rfl (n := 51) rfl ?_
    refine zr_getR C43 hC43 h0 zcX6 (k := 4) (by decide) zw_823 dX6_make_51 (n := 54) rfl (fun v25 => ?_)
    refine zr_bipush (64 : Int32) h0 (by decide) dX6_make_54 (n := 56) rfl ?_
    refine zr_aload_n h0 dX6_make_56 rfl (n := 57) rfl ?_
    refine zr_getI C43 hC43 h0 zcX6 (k := 2) (by decide) zw_821 dX6_make_57 (n := 60) rfl (fun v26 => ?_)
    refine zr_imul h0 dX6_make_60 (n := 61) rfl ?_
    refine zr_iload h0 dX6_make_61 rfl (n := 63) rfl ?_
    refine zr_iadd h0 dX6_make_63 (n := 64) rfl ?_
    refine zr_iconst (0 : Int32) h0 (by decide) dX6_make_64 (n := 65) rfl ?_
    refine zr_iastore C43 hC43 h0 dX6_make_65 (n := 66) rfl (fun S27 => ?_)
    refine zr_iinc (1 : Int32) [(0, .ref a0), (4, .int (t43.1 + (1 : Int32)))] h0 dX6_make_66 rfl (by decide) rfl rfl (n := 69) rfl ?_
    refine zr_goto (tgt := 43) h0 dX6_make_69 (by decide) ?_
    exact hL43 (t43.1 + (1 : Int32), S27)
theorem kX6_make (l : Launch) (D : ZD) (z0 : Nat) (a0 : Nat) (a1 : Int32) (a2 : Int32) (a3 : Int32) (S : ZS) (x : Int32 × ZS) (hf : fX6_make a0 a1 a2 a3 S = some x) : zMet l D z0 yX6_make cX6_make 5 (some .int) rmX6_make [.ref a0, .int a1, .int a2, .int a3] S (some (.int x.1)) x.2 :=
  zMet_of (by decide) (Nat.le_of_ble_eq_true rfl) (fun G h0 hini hE => wX6_make a0 a1 a2 a3 S h0 (fun o => o = some x) (fun h => nomatch h) (fun v S1 h => by cases h; exact hE)) hf
theorem dX6_canMake_0 : decode cX6_canMake 0 = .ok (.iload_n 1, 1) := by decide +kernel
theorem dX6_canMake_1 : decode cX6_canMake 1 = .ok (.iconst 1, 1) := by decide +kernel
theorem dX6_canMake_2 : decode cX6_canMake 2 = .ok (.iconst 4, 1) := by decide +kernel
theorem dX6_canMake_3 : decode cX6_canMake 3 = .ok (.invokestatic 57, 3) := by decide +kernel
theorem dX6_canMake_6 : decode cX6_canMake 6 = .ok (.ifCond .eq 25, 3) := by decide +kernel
theorem dX6_canMake_9 : decode cX6_canMake 9 = .ok (.iload_n 2, 1) := by decide +kernel
theorem dX6_canMake_10 : decode cX6_canMake 10 = .ok (.iconst 1, 1) := by decide +kernel
theorem dX6_canMake_11 : decode cX6_canMake 11 = .ok (.iconst 4, 1) := by decide +kernel
theorem dX6_canMake_12 : decode cX6_canMake 12 = .ok (.invokestatic 57, 3) := by decide +kernel
theorem dX6_canMake_15 : decode cX6_canMake 15 = .ok (.ifCond .eq 16, 3) := by decide +kernel
theorem dX6_canMake_18 : decode cX6_canMake 18 = .ok (.iload_n 3, 1) := by decide +kernel
theorem dX6_canMake_19 : decode cX6_canMake 19 = .ok (.iconst 1, 1) := by decide +kernel
theorem dX6_canMake_20 : decode cX6_canMake 20 = .ok (.iconst 4, 1) := by decide +kernel
theorem dX6_canMake_21 : decode cX6_canMake 21 = .ok (.invokestatic 57, 3) := by decide +kernel
theorem dX6_canMake_24 : decode cX6_canMake 24 = .ok (.ifCond .eq 7, 3) := by decide +kernel
theorem dX6_canMake_27 : decode cX6_canMake 27 = .ok (.iconst 1, 1) := by decide +kernel
theorem dX6_canMake_28 : decode cX6_canMake 28 = .ok (.goto 4, 3) := by decide +kernel
theorem dX6_canMake_31 : decode cX6_canMake 31 = .ok (.iconst 0, 1) := by decide +kernel
theorem dX6_canMake_32 : decode cX6_canMake 32 = .ok (.istore 4, 2) := by decide +kernel
theorem dX6_canMake_34 : decode cX6_canMake 34 = .ok (.aload_n 0, 1) := by decide +kernel
theorem dX6_canMake_35 : decode cX6_canMake 35 = .ok (.iload 4, 2) := by decide +kernel
theorem dX6_canMake_37 : decode cX6_canMake 37 = .ok (.ifCond .ne 7, 3) := by decide +kernel
theorem dX6_canMake_40 : decode cX6_canMake 40 = .ok (.iconst 1, 1) := by decide +kernel
theorem dX6_canMake_41 : decode cX6_canMake 41 = .ok (.goto 17, 3) := by decide +kernel
theorem dX6_canMake_44 : decode cX6_canMake 44 = .ok (.aload_n 0, 1) := by decide +kernel
theorem dX6_canMake_45 : decode cX6_canMake 45 = .ok (.getfield 54, 3) := by decide +kernel
theorem dX6_canMake_48 : decode cX6_canMake 48 = .ok (.bipush 16, 2) := by decide +kernel
theorem dX6_canMake_50 : decode cX6_canMake 50 = .ok (.if_icmp .ne 7, 3) := by decide +kernel
theorem dX6_canMake_53 : decode cX6_canMake 53 = .ok (.iconst 2, 1) := by decide +kernel
theorem dX6_canMake_54 : decode cX6_canMake 54 = .ok (.goto 4, 3) := by decide +kernel
theorem dX6_canMake_57 : decode cX6_canMake 57 = .ok (.iconst 0, 1) := by decide +kernel
theorem dX6_canMake_58 : decode cX6_canMake 58 = .ok (.invokevirtual 64, 3) := by decide +kernel
theorem dX6_canMake_61 : decode cX6_canMake 61 = .ok (.ireturn, 1) := by decide +kernel
abbrev rmX6_canMake : Room := { frames := 2, cells := 0, slots := 0, locals := 42 }
theorem zyX6_canMake : zyOK yX6_canMake 3 := ⟨by decide +kernel, by decide +kernel, by decide +kernel⟩
set_option maxHeartbeats 4000000 in
set_option maxRecDepth 100000 in
theorem wX6_canMake {G : ZG} (a0 : Nat) (a1 : Int32) (a2 : Int32) (a3 : Int32) (S : ZS) (h0 : zFix G cX6_canMake RX6 5 (some .boolean) rmX6_canMake) (C : Option (Int32 × ZS) → Prop) (hC : ¬ C none) (hE : ∀ (v : Int32) (S1 : ZS), C (some (v, S1)) → zEnd G (some (.int v)) S1 rmX6_canMake) : zV G 5 S 0 0 0 [(0, .ref a0), (1, .int a1), (2, .int a2), (3, .int a3)] [] (C (fX6_canMake a0 a1 a2 a3 S)) := by
  have J58 : ∀ (s0_58 : Nat) (s1_58 : Int32) (S_58 : ZS), zV G 5 S_58 0 0 58 [] [.int s1_58, .ref s0_58] (C (fX6_canMake_J58 s0_58 s1_58 S_58)) := by
    intro s0_58 s1_58 S_58
    unfold fX6_canMake_J58
    refine zr_cMI C hC 0 0 (fun x hx => zk_V h0 zcX6 (zcl_ex hx) (fun l D z0 => kX6_goesWell l D z0 s0_58 s1_58 S_58 x (zcl_of hx)) zw_886 zw_888 zs_34 zw_5 zw_889 rfl zyX6_goesWell (As := [.int s1_58]) (st := []) rfl (by decide) rfl (Nat.le_of_ble_eq_true rfl) (by decide) dX6_canMake_58) rfl rfl (n := 61) rfl (fun x6 => ?_)
    exact zr_zret C hC h0 rfl dX6_canMake_61 (fun w h => hE _ _ h) (by decide) (by decide)
  have J32 : ∀ (l0_32 : Nat) (s0_32 : Int32) (S_32 : ZS), zV G 5 S_32 0 0 32 [(0, .ref l0_32)] [.int s0_32] (C (fX6_canMake_J32 l0_32 s0_32 S_32)) := by
    intro l0_32 s0_32 S_32
    unfold fX6_canMake_J32
    refine zr_istore [(0, .ref l0_32), (4, .int s0_32)] h0 dX6_canMake_32 (by decide) rfl (n := 34) rfl ?_
    refine zr_aload_n h0 dX6_canMake_34 rfl (n := 35) rfl ?_
    refine zr_iload h0 dX6_canMake_35 rfl (n := 37) rfl ?_
    refine zr_if_ne C (tgt := 44) h0 dX6_canMake_37 (by decide) (n := 40) rfl ?_ ?_
    · refine zv_sub (lv' := []) ?_ (zsub_of [] rfl)
      refine zr_iconst (1 : Int32) h0 (by decide) dX6_canMake_40 (n := 41) rfl ?_
      refine zr_goto (tgt := 58) h0 dX6_canMake_41 (by decide) ?_
      exact J58 l0_32 (1 : Int32) S_32
    · refine zv_sub (lv' := [(0, .ref l0_32)]) ?_ (zsub_of [0] rfl)
      refine zr_aload_n h0 dX6_canMake_44 rfl (n := 45) rfl ?_
      refine zr_getI C hC h0 zcX6 (k := 2) (by decide) zw_821 dX6_canMake_45 (n := 48) rfl (fun v7 => ?_)
      refine zr_bipush (16 : Int32) h0 (by decide) dX6_canMake_48 (n := 50) rfl ?_
      refine zr_icmp_ne C (tgt := 57) h0 dX6_canMake_50 (by decide) (n := 53) rfl ?_ ?_
      · refine zv_sub (lv' := []) ?_ (zsub_of [] rfl)
        refine zr_iconst (2 : Int32) h0 (by decide) dX6_canMake_53 (n := 54) rfl ?_
        refine zr_goto (tgt := 58) h0 dX6_canMake_54 (by decide) ?_
        exact J58 l0_32 (2 : Int32) S_32
      · refine zv_sub (lv' := []) ?_ (zsub_of [] rfl)
        refine zr_iconst (0 : Int32) h0 (by decide) dX6_canMake_57 (n := 58) rfl ?_
        exact J58 l0_32 (0 : Int32) S_32
  have J31 : ∀ (l0_31 : Nat) (S_31 : ZS), zV G 5 S_31 0 0 31 [(0, .ref l0_31)] [] (C (fX6_canMake_J31 l0_31 S_31)) := by
    intro l0_31 S_31
    unfold fX6_canMake_J31
    refine zr_iconst (0 : Int32) h0 (by decide) dX6_canMake_31 (n := 32) rfl ?_
    exact J32 l0_31 (0 : Int32) S_31
  unfold fX6_canMake
  refine zr_iload_n h0 dX6_canMake_0 rfl (n := 1) rfl ?_
  refine zr_iconst (1 : Int32) h0 (by decide) dX6_canMake_1 (n := 2) rfl ?_
  refine zr_iconst (4 : Int32) h0 (by decide) dX6_canMake_2 (n := 3) rfl ?_
  refine zr_cRI C hC 0 0 (fun x hx => zk_S h0 (fun l D z0 => kX6_in l D z0 a1 (1 : Int32) (4 : Int32) S x hx) zw_898 zw_899 zw_5 zw_900 zyX6_in (As := [.int a1, .int (1 : Int32), .int (4 : Int32)]) (st := []) rfl (by decide) rfl (Nat.le_of_ble_eq_true rfl) (by decide) dX6_canMake_3) rfl rfl (n := 6) rfl (fun x1 => ?_)
  refine zr_if_eq C (tgt := 31) h0 dX6_canMake_6 (by decide) (n := 9) rfl ?_ ?_
  · refine zv_sub (lv' := [(0, .ref a0)]) ?_ (zsub_of [0] rfl)
    exact J31 a0 S
  · refine zv_sub (lv' := [(0, .ref a0), (2, .int a2), (3, .int a3)]) ?_ (zsub_of [0, 2, 3] rfl)
    refine zr_iload_n h0 dX6_canMake_9 rfl (n := 10) rfl ?_
    refine zr_iconst (1 : Int32) h0 (by decide) dX6_canMake_10 (n := 11) rfl ?_
    refine zr_iconst (4 : Int32) h0 (by decide) dX6_canMake_11 (n := 12) rfl ?_
    refine zr_cRI C hC 0 0 (fun x hx => zk_S h0 (fun l D z0 => kX6_in l D z0 a2 (1 : Int32) (4 : Int32) S x hx) zw_898 zw_899 zw_5 zw_900 zyX6_in (As := [.int a2, .int (1 : Int32), .int (4 : Int32)]) (st := []) rfl (by decide) rfl (Nat.le_of_ble_eq_true rfl) (by decide) dX6_canMake_12) rfl rfl (n := 15) rfl (fun x4 => ?_)
    refine zr_if_eq C (tgt := 31) h0 dX6_canMake_15 (by decide) (n := 18) rfl ?_ ?_
    · refine zv_sub (lv' := [(0, .ref a0)]) ?_ (zsub_of [0] rfl)
      exact J31 a0 S
    · refine zv_sub (lv' := [(0, .ref a0), (3, .int a3)]) ?_ (zsub_of [0, 2] rfl)
      refine zr_iload_n h0 dX6_canMake_18 rfl (n := 19) rfl ?_
      refine zr_iconst (1 : Int32) h0 (by decide) dX6_canMake_19 (n := 20) rfl ?_
      refine zr_iconst (4 : Int32) h0 (by decide) dX6_canMake_20 (n := 21) rfl ?_
      refine zr_cRI C hC 0 0 (fun x hx => zk_S h0 (fun l D z0 => kX6_in l D z0 a3 (1 : Int32) (4 : Int32) S x hx) zw_898 zw_899 zw_5 zw_900 zyX6_in (As := [.int a3, .int (1 : Int32), .int (4 : Int32)]) (st := []) rfl (by decide) rfl (Nat.le_of_ble_eq_true rfl) (by decide) dX6_canMake_21) rfl rfl (n := 24) rfl (fun x5 => ?_)
      refine zr_if_eq C (tgt := 31) h0 dX6_canMake_24 (by decide) (n := 27) rfl ?_ ?_
      · refine zv_sub (lv' := [(0, .ref a0)]) ?_ (zsub_of [0] rfl)
        exact J31 a0 S
      · refine zv_sub (lv' := [(0, .ref a0)]) ?_ (zsub_of [0] rfl)
        refine zr_iconst (1 : Int32) h0 (by decide) dX6_canMake_27 (n := 28) rfl ?_
        refine zr_goto (tgt := 32) h0 dX6_canMake_28 (by decide) ?_
        exact J32 a0 (1 : Int32) S
theorem kX6_canMake (l : Launch) (D : ZD) (z0 : Nat) (a0 : Nat) (a1 : Int32) (a2 : Int32) (a3 : Int32) (S : ZS) (x : Int32 × ZS) (hf : fX6_canMake a0 a1 a2 a3 S = some x) : zMet l D z0 yX6_canMake cX6_canMake 5 (some .boolean) rmX6_canMake [.ref a0, .int a1, .int a2, .int a3] S (some (.int x.1)) x.2 :=
  zMet_of (by decide) (Nat.le_of_ble_eq_true rfl) (fun G h0 hini hE => wX6_canMake a0 a1 a2 a3 S h0 (fun o => o = some x) (fun h => nomatch h) (fun v S1 h => by cases h; exact hE)) hf
theorem dX6_cube_0 : decode cX6_cube 0 = .ok (.aload_n 0, 1) := by decide +kernel
theorem dX6_cube_1 : decode cX6_cube 1 = .ok (.iload_n 1, 1) := by decide +kernel
theorem dX6_cube_2 : decode cX6_cube 2 = .ok (.iload_n 2, 1) := by decide +kernel
theorem dX6_cube_3 : decode cX6_cube 3 = .ok (.iload_n 3, 1) := by decide +kernel
theorem dX6_cube_4 : decode cX6_cube 4 = .ok (.invokevirtual 68, 3) := by decide +kernel
theorem dX6_cube_7 : decode cX6_cube 7 = .ok (.ifCond .eq 13, 3) := by decide +kernel
theorem dX6_cube_10 : decode cX6_cube 10 = .ok (.aload_n 0, 1) := by decide +kernel
theorem dX6_cube_11 : decode cX6_cube 11 = .ok (.iload_n 1, 1) := by decide +kernel
theorem dX6_cube_12 : decode cX6_cube 12 = .ok (.iload_n 2, 1) := by decide +kernel
theorem dX6_cube_13 : decode cX6_cube 13 = .ok (.iload_n 3, 1) := by decide +kernel
theorem dX6_cube_14 : decode cX6_cube 14 = .ok (.invokevirtual 71, 3) := by decide +kernel
theorem dX6_cube_17 : decode cX6_cube 17 = .ok (.goto 4, 3) := by decide +kernel
theorem dX6_cube_20 : decode cX6_cube 20 = .ok (.iconst 0, 1) := by decide +kernel
theorem dX6_cube_21 : decode cX6_cube 21 = .ok (.ireturn, 1) := by decide +kernel
abbrev rmX6_cube : Room := { frames := 3, cells := 0, slots := 0, locals := 66 }
theorem zyX6_cube : zyOK yX6_cube 3 := ⟨by decide +kernel, by decide +kernel, by decide +kernel⟩
set_option maxHeartbeats 4000000 in
set_option maxRecDepth 100000 in
theorem wX6_cube {G : ZG} (a0 : Nat) (a1 : Int32) (a2 : Int32) (a3 : Int32) (S : ZS) (h0 : zFix G cX6_cube RX6 4 (some .int) rmX6_cube) (C : Option (Int32 × ZS) → Prop) (hC : ¬ C none) (hE : ∀ (v : Int32) (S1 : ZS), C (some (v, S1)) → zEnd G (some (.int v)) S1 rmX6_cube) : zV G 4 S 0 0 0 [(0, .ref a0), (1, .int a1), (2, .int a2), (3, .int a3)] [] (C (fX6_cube a0 a1 a2 a3 S)) := by
  have J21 : ∀ (s0_21 : Int32) (S_21 : ZS), zV G 4 S_21 0 0 21 [] [.int s0_21] (C (fX6_cube_J21 s0_21 S_21)) := by
    intro s0_21 S_21
    unfold fX6_cube_J21
    exact zr_iret h0 rfl dX6_cube_21 (hE _ _) (by decide) (by decide)
  unfold fX6_cube
  refine zr_aload_n h0 dX6_cube_0 rfl (n := 1) rfl ?_
  refine zr_iload_n h0 dX6_cube_1 rfl (n := 2) rfl ?_
  refine zr_iload_n h0 dX6_cube_2 rfl (n := 3) rfl ?_
  refine zr_iload_n h0 dX6_cube_3 rfl (n := 4) rfl ?_
  refine zr_cMI C hC 0 0 (fun x hx => zk_V h0 zcX6 (zcl_ex hx) (fun l D z0 => kX6_canMake l D z0 a0 a1 a2 a3 S x (zcl_of hx)) zw_894 zw_896 zs_35 zw_5 zw_897 rfl zyX6_canMake (As := [.int a1, .int a2, .int a3]) (st := []) rfl (by decide) rfl (Nat.le_of_ble_eq_true rfl) (by decide) dX6_cube_4) rfl rfl (n := 7) rfl (fun x1 => ?_)
  refine zr_if_eq C (tgt := 20) h0 dX6_cube_7 (by decide) (n := 10) rfl ?_ ?_
  · refine zv_sub (lv' := []) ?_ (zsub_of [] rfl)
    refine zr_iconst (0 : Int32) h0 (by decide) dX6_cube_20 (n := 21) rfl ?_
    exact J21 (0 : Int32) x1.2
  · refine zr_aload_n h0 dX6_cube_10 rfl (n := 11) rfl ?_
    refine zr_iload_n h0 dX6_cube_11 rfl (n := 12) rfl ?_
    refine zr_iload_n h0 dX6_cube_12 rfl (n := 13) rfl ?_
    refine zr_iload_n h0 dX6_cube_13 rfl (n := 14) rfl ?_
    refine zr_cMI C hC 0 0 (fun x hx => zk_V h0 zcX6 (zcl_ex hx) (fun l D z0 => kX6_make l D z0 a0 a1 a2 a3 x1.2 x (zcl_of hx)) zw_901 zw_903 zs_36 zw_5 zw_904 rfl zyX6_make (As := [.int a1, .int a2, .int a3]) (st := []) rfl (by decide) rfl (Nat.le_of_ble_eq_true rfl) (by decide) dX6_cube_14) rfl rfl (n := 17) rfl (fun x2 => ?_)
    refine zr_goto (tgt := 21) h0 dX6_cube_17 (by decide) ?_
    refine zv_sub (lv' := []) ?_ (zsub_of [] rfl)
    exact J21 x2.1 x2.2
theorem kX6_cube (l : Launch) (D : ZD) (z0 : Nat) (a0 : Nat) (a1 : Int32) (a2 : Int32) (a3 : Int32) (S : ZS) (x : Int32 × ZS) (hf : fX6_cube a0 a1 a2 a3 S = some x) : zMet l D z0 yX6_cube cX6_cube 4 (some .int) rmX6_cube [.ref a0, .int a1, .int a2, .int a3] S (some (.int x.1)) x.2 :=
  zMet_of (by decide) (Nat.le_of_ble_eq_true rfl) (fun G h0 hini hE => wX6_cube a0 a1 a2 a3 S h0 (fun o => o = some x) (fun h => nomatch h) (fun v S1 h => by cases h; exact hE)) hf
theorem dX6_matrices_0 : decode cX6_matrices 0 = .ok (.iload_n 1, 1) := by decide +kernel
theorem dX6_matrices_1 : decode cX6_matrices 1 = .ok (.iconst 1, 1) := by decide +kernel
theorem dX6_matrices_2 : decode cX6_matrices 2 = .ok (.iconst 4, 1) := by decide +kernel
theorem dX6_matrices_3 : decode cX6_matrices 3 = .ok (.invokestatic 57, 3) := by decide +kernel
theorem dX6_matrices_6 : decode cX6_matrices 6 = .ok (.ifCond .eq 25, 3) := by decide +kernel
theorem dX6_matrices_9 : decode cX6_matrices 9 = .ok (.iload_n 2, 1) := by decide +kernel
theorem dX6_matrices_10 : decode cX6_matrices 10 = .ok (.iconst 1, 1) := by decide +kernel
theorem dX6_matrices_11 : decode cX6_matrices 11 = .ok (.iconst 4, 1) := by decide +kernel
theorem dX6_matrices_12 : decode cX6_matrices 12 = .ok (.invokestatic 57, 3) := by decide +kernel
theorem dX6_matrices_15 : decode cX6_matrices 15 = .ok (.ifCond .eq 16, 3) := by decide +kernel
theorem dX6_matrices_18 : decode cX6_matrices 18 = .ok (.iload_n 3, 1) := by decide +kernel
theorem dX6_matrices_19 : decode cX6_matrices 19 = .ok (.iconst 1, 1) := by decide +kernel
theorem dX6_matrices_20 : decode cX6_matrices 20 = .ok (.iconst 4, 1) := by decide +kernel
theorem dX6_matrices_21 : decode cX6_matrices 21 = .ok (.invokestatic 57, 3) := by decide +kernel
theorem dX6_matrices_24 : decode cX6_matrices 24 = .ok (.ifCond .eq 7, 3) := by decide +kernel
theorem dX6_matrices_27 : decode cX6_matrices 27 = .ok (.iconst 1, 1) := by decide +kernel
theorem dX6_matrices_28 : decode cX6_matrices 28 = .ok (.goto 4, 3) := by decide +kernel
theorem dX6_matrices_31 : decode cX6_matrices 31 = .ok (.iconst 0, 1) := by decide +kernel
theorem dX6_matrices_32 : decode cX6_matrices 32 = .ok (.istore 4, 2) := by decide +kernel
theorem dX6_matrices_34 : decode cX6_matrices 34 = .ok (.aload_n 0, 1) := by decide +kernel
theorem dX6_matrices_35 : decode cX6_matrices 35 = .ok (.iload 4, 2) := by decide +kernel
theorem dX6_matrices_37 : decode cX6_matrices 37 = .ok (.ifCond .eq 9, 3) := by decide +kernel
theorem dX6_matrices_40 : decode cX6_matrices 40 = .ok (.iload_n 1, 1) := by decide +kernel
theorem dX6_matrices_41 : decode cX6_matrices 41 = .ok (.iload_n 2, 1) := by decide +kernel
theorem dX6_matrices_42 : decode cX6_matrices 42 = .ok (.imul, 1) := by decide +kernel
theorem dX6_matrices_43 : decode cX6_matrices 43 = .ok (.goto 4, 3) := by decide +kernel
theorem dX6_matrices_46 : decode cX6_matrices 46 = .ok (.iconst 0, 1) := by decide +kernel
theorem dX6_matrices_47 : decode cX6_matrices 47 = .ok (.iload 4, 2) := by decide +kernel
theorem dX6_matrices_49 : decode cX6_matrices 49 = .ok (.ifCond .eq 9, 3) := by decide +kernel
theorem dX6_matrices_52 : decode cX6_matrices 52 = .ok (.iload_n 2, 1) := by decide +kernel
theorem dX6_matrices_53 : decode cX6_matrices 53 = .ok (.iload_n 3, 1) := by decide +kernel
theorem dX6_matrices_54 : decode cX6_matrices 54 = .ok (.imul, 1) := by decide +kernel
theorem dX6_matrices_55 : decode cX6_matrices 55 = .ok (.goto 4, 3) := by decide +kernel
theorem dX6_matrices_58 : decode cX6_matrices 58 = .ok (.iconst 0, 1) := by decide +kernel
theorem dX6_matrices_59 : decode cX6_matrices 59 = .ok (.iload 4, 2) := by decide +kernel
theorem dX6_matrices_61 : decode cX6_matrices 61 = .ok (.ifCond .eq 9, 3) := by decide +kernel
theorem dX6_matrices_64 : decode cX6_matrices 64 = .ok (.iload_n 1, 1) := by decide +kernel
theorem dX6_matrices_65 : decode cX6_matrices 65 = .ok (.iload_n 3, 1) := by decide +kernel
theorem dX6_matrices_66 : decode cX6_matrices 66 = .ok (.imul, 1) := by decide +kernel
theorem dX6_matrices_67 : decode cX6_matrices 67 = .ok (.goto 4, 3) := by decide +kernel
theorem dX6_matrices_70 : decode cX6_matrices 70 = .ok (.iconst 0, 1) := by decide +kernel
theorem dX6_matrices_71 : decode cX6_matrices 71 = .ok (.invokevirtual 68, 3) := by decide +kernel
theorem dX6_matrices_74 : decode cX6_matrices 74 = .ok (.ifCond .ne 5, 3) := by decide +kernel
theorem dX6_matrices_77 : decode cX6_matrices 77 = .ok (.iconst 0, 1) := by decide +kernel
theorem dX6_matrices_78 : decode cX6_matrices 78 = .ok (.ireturn, 1) := by decide +kernel
theorem dX6_matrices_79 : decode cX6_matrices 79 = .ok (.aload_n 0, 1) := by decide +kernel
theorem dX6_matrices_80 : decode cX6_matrices 80 = .ok (.iload_n 1, 1) := by decide +kernel
theorem dX6_matrices_81 : decode cX6_matrices 81 = .ok (.iload_n 2, 1) := by decide +kernel
theorem dX6_matrices_82 : decode cX6_matrices 82 = .ok (.imul, 1) := by decide +kernel
theorem dX6_matrices_83 : decode cX6_matrices 83 = .ok (.iload_n 2, 1) := by decide +kernel
theorem dX6_matrices_84 : decode cX6_matrices 84 = .ok (.iload_n 3, 1) := by decide +kernel
theorem dX6_matrices_85 : decode cX6_matrices 85 = .ok (.imul, 1) := by decide +kernel
theorem dX6_matrices_86 : decode cX6_matrices 86 = .ok (.iload_n 1, 1) := by decide +kernel
theorem dX6_matrices_87 : decode cX6_matrices 87 = .ok (.iload_n 3, 1) := by decide +kernel
theorem dX6_matrices_88 : decode cX6_matrices 88 = .ok (.imul, 1) := by decide +kernel
theorem dX6_matrices_89 : decode cX6_matrices 89 = .ok (.invokevirtual 71, 3) := by decide +kernel
theorem dX6_matrices_92 : decode cX6_matrices 92 = .ok (.istore 5, 2) := by decide +kernel
theorem dX6_matrices_94 : decode cX6_matrices 94 = .ok (.iconst 0, 1) := by decide +kernel
theorem dX6_matrices_95 : decode cX6_matrices 95 = .ok (.istore 6, 2) := by decide +kernel
theorem dX6_matrices_97 : decode cX6_matrices 97 = .ok (.iload 6, 2) := by decide +kernel
theorem dX6_matrices_99 : decode cX6_matrices 99 = .ok (.iload_n 1, 1) := by decide +kernel
theorem dX6_matrices_100 : decode cX6_matrices 100 = .ok (.if_icmp .ge 75, 3) := by decide +kernel
theorem dX6_matrices_103 : decode cX6_matrices 103 = .ok (.iconst 0, 1) := by decide +kernel
theorem dX6_matrices_104 : decode cX6_matrices 104 = .ok (.istore 7, 2) := by decide +kernel
theorem dX6_matrices_106 : decode cX6_matrices 106 = .ok (.iload 7, 2) := by decide +kernel
theorem dX6_matrices_108 : decode cX6_matrices 108 = .ok (.iload_n 2, 1) := by decide +kernel
theorem dX6_matrices_109 : decode cX6_matrices 109 = .ok (.if_icmp .ge 60, 3) := by decide +kernel
theorem dX6_matrices_112 : decode cX6_matrices 112 = .ok (.iconst 0, 1) := by decide +kernel
theorem dX6_matrices_113 : decode cX6_matrices 113 = .ok (.istore 8, 2) := by decide +kernel
theorem dX6_matrices_115 : decode cX6_matrices 115 = .ok (.iload 8, 2) := by decide +kernel
theorem dX6_matrices_117 : decode cX6_matrices 117 = .ok (.iload_n 3, 1) := by decide +kernel
theorem dX6_matrices_118 : decode cX6_matrices 118 = .ok (.if_icmp .ge 45, 3) := by decide +kernel
theorem dX6_matrices_121 : decode cX6_matrices 121 = .ok (.aload_n 0, 1) := by decide +kernel
theorem dX6_matrices_122 : decode cX6_matrices 122 = .ok (.getfield 17, 3) := by decide +kernel
theorem dX6_matrices_125 : decode cX6_matrices 125 = .ok (.bipush 64, 2) := by decide +kernel
theorem dX6_matrices_127 : decode cX6_matrices 127 = .ok (.iload 5, 2) := by decide +kernel
theorem dX6_matrices_129 : decode cX6_matrices 129 = .ok (.imul, 1) := by decide +kernel
theorem dX6_matrices_130 : decode cX6_matrices 130 = .ok (.iload 6, 2) := by decide +kernel
theorem dX6_matrices_132 : decode cX6_matrices 132 = .ok (.iload_n 2, 1) := by decide +kernel
theorem dX6_matrices_133 : decode cX6_matrices 133 = .ok (.imul, 1) := by decide +kernel
theorem dX6_matrices_134 : decode cX6_matrices 134 = .ok (.iload 7, 2) := by decide +kernel
theorem dX6_matrices_136 : decode cX6_matrices 136 = .ok (.iadd, 1) := by decide +kernel
theorem dX6_matrices_137 : decode cX6_matrices 137 = .ok (.iload 7, 2) := by decide +kernel
theorem dX6_matrices_139 : decode cX6_matrices 139 = .ok (.iload_n 3, 1) := by decide +kernel
theorem dX6_matrices_140 : decode cX6_matrices 140 = .ok (.imul, 1) := by decide +kernel
theorem dX6_matrices_141 : decode cX6_matrices 141 = .ok (.iload 8, 2) := by decide +kernel
theorem dX6_matrices_143 : decode cX6_matrices 143 = .ok (.iadd, 1) := by decide +kernel
theorem dX6_matrices_144 : decode cX6_matrices 144 = .ok (.iload 6, 2) := by decide +kernel
theorem dX6_matrices_146 : decode cX6_matrices 146 = .ok (.iload_n 3, 1) := by decide +kernel
theorem dX6_matrices_147 : decode cX6_matrices 147 = .ok (.imul, 1) := by decide +kernel
theorem dX6_matrices_148 : decode cX6_matrices 148 = .ok (.iload 8, 2) := by decide +kernel
theorem dX6_matrices_150 : decode cX6_matrices 150 = .ok (.iadd, 1) := by decide +kernel
theorem dX6_matrices_151 : decode cX6_matrices 151 = .ok (.invokestatic 75, 3) := by decide +kernel
theorem dX6_matrices_154 : decode cX6_matrices 154 = .ok (.iadd, 1) := by decide +kernel
theorem dX6_matrices_155 : decode cX6_matrices 155 = .ok (.iconst 1, 1) := by decide +kernel
theorem dX6_matrices_156 : decode cX6_matrices 156 = .ok (.iastore, 1) := by decide +kernel
theorem dX6_matrices_157 : decode cX6_matrices 157 = .ok (.iinc 8 1, 3) := by decide +kernel
theorem dX6_matrices_160 : decode cX6_matrices 160 = .ok (.goto (-45), 3) := by decide +kernel
theorem dX6_matrices_163 : decode cX6_matrices 163 = .ok (.iinc 7 1, 3) := by decide +kernel
theorem dX6_matrices_166 : decode cX6_matrices 166 = .ok (.goto (-60), 3) := by decide +kernel
theorem dX6_matrices_169 : decode cX6_matrices 169 = .ok (.iinc 6 1, 3) := by decide +kernel
theorem dX6_matrices_172 : decode cX6_matrices 172 = .ok (.goto (-75), 3) := by decide +kernel
theorem dX6_matrices_175 : decode cX6_matrices 175 = .ok (.aload_n 0, 1) := by decide +kernel
theorem dX6_matrices_176 : decode cX6_matrices 176 = .ok (.getfield 20, 3) := by decide +kernel
theorem dX6_matrices_179 : decode cX6_matrices 179 = .ok (.iload 5, 2) := by decide +kernel
theorem dX6_matrices_181 : decode cX6_matrices 181 = .ok (.iload_n 1, 1) := by decide +kernel
theorem dX6_matrices_182 : decode cX6_matrices 182 = .ok (.iload_n 2, 1) := by decide +kernel
theorem dX6_matrices_183 : decode cX6_matrices 183 = .ok (.if_icmp .ne 17, 3) := by decide +kernel
theorem dX6_matrices_186 : decode cX6_matrices 186 = .ok (.iload_n 2, 1) := by decide +kernel
theorem dX6_matrices_187 : decode cX6_matrices 187 = .ok (.iload_n 3, 1) := by decide +kernel
theorem dX6_matrices_188 : decode cX6_matrices 188 = .ok (.if_icmp .ne 12, 3) := by decide +kernel
theorem dX6_matrices_191 : decode cX6_matrices 191 = .ok (.iload_n 1, 1) := by decide +kernel
theorem dX6_matrices_192 : decode cX6_matrices 192 = .ok (.iconst 1, 1) := by decide +kernel
theorem dX6_matrices_193 : decode cX6_matrices 193 = .ok (.if_icmp .le 7, 3) := by decide +kernel
theorem dX6_matrices_196 : decode cX6_matrices 196 = .ok (.iload_n 1, 1) := by decide +kernel
theorem dX6_matrices_197 : decode cX6_matrices 197 = .ok (.goto 4, 3) := by decide +kernel
theorem dX6_matrices_200 : decode cX6_matrices 200 = .ok (.iconst 0, 1) := by decide +kernel
theorem dX6_matrices_201 : decode cX6_matrices 201 = .ok (.iastore, 1) := by decide +kernel
theorem dX6_matrices_202 : decode cX6_matrices 202 = .ok (.iload 5, 2) := by decide +kernel
theorem dX6_matrices_204 : decode cX6_matrices 204 = .ok (.ireturn, 1) := by decide +kernel
abbrev rmX6_matrices : Room := { frames := 3, cells := 0, slots := 0, locals := 66 }
theorem zyX6_matrices : zyOK yX6_matrices 3 := ⟨by decide +kernel, by decide +kernel, by decide +kernel⟩
set_option maxHeartbeats 4000000 in
set_option maxRecDepth 100000 in
theorem wX6_matrices {G : ZG} (a0 : Nat) (a1 : Int32) (a2 : Int32) (a3 : Int32) (S : ZS) (h0 : zFix G cX6_matrices RX6 9 (some .int) rmX6_matrices) (C : Option (Int32 × ZS) → Prop) (hC : ¬ C none) (hE : ∀ (v : Int32) (S1 : ZS), C (some (v, S1)) → zEnd G (some (.int v)) S1 rmX6_matrices) : zV G 9 S 0 0 0 [(0, .ref a0), (1, .int a1), (2, .int a2), (3, .int a3)] [] (C (fX6_matrices a0 a1 a2 a3 S)) := by
  have J201 : ∀ (l5_201 : Int32) (s0_201 : Nat) (s1_201 : Int32) (s2_201 : Int32) (S_201 : ZS), zV G 9 S_201 0 0 201 [(5, .int l5_201)] [.int s2_201, .int s1_201, .ref s0_201] (C (fX6_matrices_J201 l5_201 s0_201 s1_201 s2_201 S_201)) := by
    intro l5_201 s0_201 s1_201 s2_201 S_201
    unfold fX6_matrices_J201
    refine zr_iastore C hC h0 dX6_matrices_201 (n := 202) rfl (fun S21 => ?_)
    refine zr_iload h0 dX6_matrices_202 rfl (n := 204) rfl ?_
    exact zr_iret h0 rfl dX6_matrices_204 (hE _ _) (by decide) (by decide)
  have J200 : ∀ (l5_200 : Int32) (s0_200 : Nat) (s1_200 : Int32) (S_200 : ZS), zV G 9 S_200 0 0 200 [(5, .int l5_200)] [.int s1_200, .ref s0_200] (C (fX6_matrices_J200 l5_200 s0_200 s1_200 S_200)) := by
    intro l5_200 s0_200 s1_200 S_200
    unfold fX6_matrices_J200
    refine zr_iconst (0 : Int32) h0 (by decide) dX6_matrices_200 (n := 201) rfl ?_
    exact J201 l5_200 s0_200 s1_200 (0 : Int32) S_200
  have J71 : ∀ (l0_71 : Nat) (l1_71 : Int32) (l2_71 : Int32) (l3_71 : Int32) (s0_71 : Nat) (s1_71 : Int32) (s2_71 : Int32) (s3_71 : Int32) (S_71 : ZS), zV G 9 S_71 0 0 71 [(0, .ref l0_71), (1, .int l1_71), (2, .int l2_71), (3, .int l3_71)] [.int s3_71, .int s2_71, .int s1_71, .ref s0_71] (C (fX6_matrices_J71 l0_71 l1_71 l2_71 l3_71 s0_71 s1_71 s2_71 s3_71 S_71)) := by
    intro l0_71 l1_71 l2_71 l3_71 s0_71 s1_71 s2_71 s3_71 S_71
    unfold fX6_matrices_J71
    refine zr_cMI C hC 0 0 (fun x hx => zk_V h0 zcX6 (zcl_ex hx) (fun l D z0 => kX6_canMake l D z0 s0_71 s1_71 s2_71 s3_71 S_71 x (zcl_of hx)) zw_894 zw_896 zs_35 zw_5 zw_897 rfl zyX6_canMake (As := [.int s1_71, .int s2_71, .int s3_71]) (st := []) rfl (by decide) rfl (Nat.le_of_ble_eq_true rfl) (by decide) dX6_matrices_71) rfl rfl (n := 74) rfl (fun x22 => ?_)
    refine zr_if_ne C (tgt := 79) h0 dX6_matrices_74 (by decide) (n := 77) rfl ?_ ?_
    · refine zv_sub (lv' := []) ?_ (zsub_of [] rfl)
      refine zr_iconst (0 : Int32) h0 (by decide) dX6_matrices_77 (n := 78) rfl ?_
      exact zr_iret h0 rfl dX6_matrices_78 (hE _ _) (by decide) (by decide)
    · refine zr_aload_n h0 dX6_matrices_79 rfl (n := 80) rfl ?_
      refine zr_iload_n h0 dX6_matrices_80 rfl (n := 81) rfl ?_
      refine zr_iload_n h0 dX6_matrices_81 rfl (n := 82) rfl ?_
      refine zr_imul h0 dX6_matrices_82 (n := 83) rfl ?_
      refine zr_iload_n h0 dX6_matrices_83 rfl (n := 84) rfl ?_
      refine zr_iload_n h0 dX6_matrices_84 rfl (n := 85) rfl ?_
      refine zr_imul h0 dX6_matrices_85 (n := 86) rfl ?_
      refine zr_iload_n h0 dX6_matrices_86 rfl (n := 87) rfl ?_
      refine zr_iload_n h0 dX6_matrices_87 rfl (n := 88) rfl ?_
      refine zr_imul h0 dX6_matrices_88 (n := 89) rfl ?_
      refine zr_cMI C hC 0 0 (fun x hx => zk_V h0 zcX6 (zcl_ex hx) (fun l D z0 => kX6_make l D z0 l0_71 (l1_71 * l2_71) (l2_71 * l3_71) (l1_71 * l3_71) x22.2 x (zcl_of hx)) zw_901 zw_903 zs_36 zw_5 zw_904 rfl zyX6_make (As := [.int (l1_71 * l2_71), .int (l2_71 * l3_71), .int (l1_71 * l3_71)]) (st := []) rfl (by decide) rfl (Nat.le_of_ble_eq_true rfl) (by decide) dX6_matrices_89) rfl rfl (n := 92) rfl (fun x23 => ?_)
      refine zr_istore [(0, .ref l0_71), (1, .int l1_71), (2, .int l2_71), (3, .int l3_71), (5, .int x23.1)] h0 dX6_matrices_92 (by decide) rfl (n := 94) rfl ?_
      refine zr_iconst (0 : Int32) h0 (by decide) dX6_matrices_94 (n := 95) rfl ?_
      refine zr_istore [(0, .ref l0_71), (1, .int l1_71), (2, .int l2_71), (3, .int l3_71), (5, .int x23.1), (6, .int (0 : Int32))] h0 dX6_matrices_95 (by decide) rfl (n := 97) rfl ?_
      refine zr_loop hC (fX6_matrices_B97 l0_71 l1_71 l2_71 l3_71 x23.1) (fun y => [(0, .ref l0_71), (1, .int l1_71), (2, .int l2_71), (3, .int l3_71), (5, .int x23.1), (6, .int y.1)]) (fun y => y.2) zF ((0 : Int32), x23.2) (fun C97 hC97 hX97 hL97 t97 => ?_)
      unfold fX6_matrices_B97
      refine zr_iload h0 dX6_matrices_97 rfl (n := 99) rfl ?_
      refine zr_iload_n h0 dX6_matrices_99 rfl (n := 100) rfl ?_
      refine zr_icmp_ge C97 (tgt := 175) h0 dX6_matrices_100 (by decide) (n := 103) rfl ?_ ?_
      · refine zr_ex hX97 ?_
        refine zv_sub (lv' := [(0, .ref l0_71), (1, .int l1_71), (2, .int l2_71), (3, .int l3_71), (5, .int x23.1)]) ?_ (zsub_of [0, 1, 2, 3, 4] rfl)
        refine zr_aload_n h0 dX6_matrices_175 rfl (n := 176) rfl ?_
        refine zr_getR C hC h0 zcX6 (k := 5) (by decide) zw_824 dX6_matrices_176 (n := 179) rfl (fun v24 => ?_)
        refine zr_iload h0 dX6_matrices_179 rfl (n := 181) rfl ?_
        refine zr_iload_n h0 dX6_matrices_181 rfl (n := 182) rfl ?_
        refine zr_iload_n h0 dX6_matrices_182 rfl (n := 183) rfl ?_
        refine zr_icmp_ne C (tgt := 200) h0 dX6_matrices_183 (by decide) (n := 186) rfl ?_ ?_
        · refine zv_sub (lv' := [(1, .int l1_71), (2, .int l2_71), (3, .int l3_71), (5, .int x23.1)]) ?_ (zsub_of [1, 2, 3, 4] rfl)
          refine zr_iload_n h0 dX6_matrices_186 rfl (n := 187) rfl ?_
          refine zr_iload_n h0 dX6_matrices_187 rfl (n := 188) rfl ?_
          refine zr_icmp_ne C (tgt := 200) h0 dX6_matrices_188 (by decide) (n := 191) rfl ?_ ?_
          · refine zv_sub (lv' := [(1, .int l1_71), (5, .int x23.1)]) ?_ (zsub_of [0, 3] rfl)
            refine zr_iload_n h0 dX6_matrices_191 rfl (n := 192) rfl ?_
            refine zr_iconst (1 : Int32) h0 (by decide) dX6_matrices_192 (n := 193) rfl ?_
            refine zr_icmp_le C (tgt := 200) h0 dX6_matrices_193 (by decide) (n := 196) rfl ?_ ?_
            · refine zv_sub (lv' := [(5, .int x23.1)]) ?_ (zsub_of [1] rfl)
              exact J200 x23.1 v24 x23.1 t97.2
            · refine zr_iload_n h0 dX6_matrices_196 rfl (n := 197) rfl ?_
              refine zr_goto (tgt := 201) h0 dX6_matrices_197 (by decide) ?_
              refine zv_sub (lv' := [(5, .int x23.1)]) ?_ (zsub_of [1] rfl)
              exact J201 x23.1 v24 x23.1 l1_71 t97.2
          · refine zv_sub (lv' := [(5, .int x23.1)]) ?_ (zsub_of [3] rfl)
            exact J200 x23.1 v24 x23.1 t97.2
        · refine zv_sub (lv' := [(5, .int x23.1)]) ?_ (zsub_of [4] rfl)
          exact J200 x23.1 v24 x23.1 t97.2
      · refine zr_iconst (0 : Int32) h0 (by decide) dX6_matrices_103 (n := 104) rfl ?_
        refine zr_istore [(0, .ref l0_71), (1, .int l1_71), (2, .int l2_71), (3, .int l3_71), (5, .int x23.1), (6, .int t97.1), (7, .int (0 : Int32))] h0 dX6_matrices_104 (by decide) rfl (n := 106) rfl ?_
        refine zr_loop hC97 (fX6_matrices_B106 l0_71 l1_71 l2_71 l3_71 x23.1 t97.1) (fun y => [(0, .ref l0_71), (1, .int l1_71), (2, .int l2_71), (3, .int l3_71), (5, .int x23.1), (6, .int t97.1), (7, .int y.1)]) (fun y => y.2) zF ((0 : Int32), t97.2) (fun C106 hC106 hX106 hL106 t106 => ?_)
        unfold fX6_matrices_B106
        refine zr_iload h0 dX6_matrices_106 rfl (n := 108) rfl ?_
        refine zr_iload_n h0 dX6_matrices_108 rfl (n := 109) rfl ?_
        refine zr_icmp_ge C106 (tgt := 169) h0 dX6_matrices_109 (by decide) (n := 112) rfl ?_ ?_
        · refine zr_ex hX106 ?_
          refine zv_sub (lv' := [(0, .ref l0_71), (1, .int l1_71), (2, .int l2_71), (3, .int l3_71), (5, .int x23.1), (6, .int t97.1)]) ?_ (zsub_of [0, 1, 2, 3, 4, 5] rfl)
          refine zr_iinc (1 : Int32) [(0, .ref l0_71), (1, .int l1_71), (2, .int l2_71), (3, .int l3_71), (5, .int x23.1), (6, .int (t97.1 + (1 : Int32)))] h0 dX6_matrices_169 rfl (by decide) rfl rfl (n := 172) rfl ?_
          refine zr_goto (tgt := 97) h0 dX6_matrices_172 (by decide) ?_
          exact hL97 (t97.1 + (1 : Int32), t106.2)
        · refine zr_iconst (0 : Int32) h0 (by decide) dX6_matrices_112 (n := 113) rfl ?_
          refine zr_istore [(0, .ref l0_71), (1, .int l1_71), (2, .int l2_71), (3, .int l3_71), (5, .int x23.1), (6, .int t97.1), (7, .int t106.1), (8, .int (0 : Int32))] h0 dX6_matrices_113 (by decide) rfl (n := 115) rfl ?_
          refine zr_loop hC106 (fX6_matrices_B115 l0_71 l1_71 l2_71 l3_71 x23.1 t97.1 t106.1) (fun y => [(0, .ref l0_71), (1, .int l1_71), (2, .int l2_71), (3, .int l3_71), (5, .int x23.1), (6, .int t97.1), (7, .int t106.1), (8, .int y.1)]) (fun y => y.2) zF ((0 : Int32), t106.2) (fun C115 hC115 hX115 hL115 t115 => ?_)
          unfold fX6_matrices_B115
          refine zr_iload h0 dX6_matrices_115 rfl (n := 117) rfl ?_
          refine zr_iload_n h0 dX6_matrices_117 rfl (n := 118) rfl ?_
          refine zr_icmp_ge C115 (tgt := 163) h0 dX6_matrices_118 (by decide) (n := 121) rfl ?_ ?_
          · refine zr_ex hX115 ?_
            refine zv_sub (lv' := [(0, .ref l0_71), (1, .int l1_71), (2, .int l2_71), (3, .int l3_71), (5, .int x23.1), (6, .int t97.1), (7, .int t106.1)]) ?_ (zsub_of [0, 1, 2, 3, 4, 5, 6] rfl)
            refine zr_iinc (1 : Int32) [(0, .ref l0_71), (1, .int l1_71), (2, .int l2_71), (3, .int l3_71), (5, .int x23.1), (6, .int t97.1), (7, .int (t106.1 + (1 : Int32)))] h0 dX6_matrices_163 rfl (by decide) rfl rfl (n := 166) rfl ?_
            refine zr_goto (tgt := 106) h0 dX6_matrices_166 (by decide) ?_
            exact hL106 (t106.1 + (1 : Int32), t115.2)
          · refine zr_aload_n h0 dX6_matrices_121 rfl (n := 122) rfl ?_
            refine zr_getR C115 hC115 h0 zcX6 (k := 4) (by decide) zw_823 dX6_matrices_122 (n := 125) rfl (fun v25 => ?_)
            refine zr_bipush (64 : Int32) h0 (by decide) dX6_matrices_125 (n := 127) rfl ?_
            refine zr_iload h0 dX6_matrices_127 rfl (n := 129) rfl ?_
            refine zr_imul h0 dX6_matrices_129 (n := 130) rfl ?_
            refine zr_iload h0 dX6_matrices_130 rfl (n := 132) rfl ?_
            refine zr_iload_n h0 dX6_matrices_132 rfl (n := 133) rfl ?_
            refine zr_imul h0 dX6_matrices_133 (n := 134) rfl ?_
            refine zr_iload h0 dX6_matrices_134 rfl (n := 136) rfl ?_
            refine zr_iadd h0 dX6_matrices_136 (n := 137) rfl ?_
            refine zr_iload h0 dX6_matrices_137 rfl (n := 139) rfl ?_
            refine zr_iload_n h0 dX6_matrices_139 rfl (n := 140) rfl ?_
            refine zr_imul h0 dX6_matrices_140 (n := 141) rfl ?_
            refine zr_iload h0 dX6_matrices_141 rfl (n := 143) rfl ?_
            refine zr_iadd h0 dX6_matrices_143 (n := 144) rfl ?_
            refine zr_iload h0 dX6_matrices_144 rfl (n := 146) rfl ?_
            refine zr_iload_n h0 dX6_matrices_146 rfl (n := 147) rfl ?_
            refine zr_imul h0 dX6_matrices_147 (n := 148) rfl ?_
            refine zr_iload h0 dX6_matrices_148 rfl (n := 150) rfl ?_
            refine zr_iadd h0 dX6_matrices_150 (n := 151) rfl ?_
            refine zr_cRI C115 hC115 0 0 (fun x hx => zk_S h0 (fun l D z0 => kX6_place l D z0 ((t97.1 * l2_71) + t106.1) ((t106.1 * l3_71) + t115.1) ((t97.1 * l3_71) + t115.1) t115.2 x hx) zw_909 zw_910 zw_5 zw_911 zyX6_place (As := [.int ((t97.1 * l2_71) + t106.1), .int ((t106.1 * l3_71) + t115.1), .int ((t97.1 * l3_71) + t115.1)]) (st := [.int ((64 : Int32) * x23.1), .ref v25]) rfl (by decide) rfl (Nat.le_of_ble_eq_true rfl) (by decide) dX6_matrices_151) rfl rfl (n := 154) rfl (fun x26 => ?_)
            refine zr_iadd h0 dX6_matrices_154 (n := 155) rfl ?_
            refine zr_iconst (1 : Int32) h0 (by decide) dX6_matrices_155 (n := 156) rfl ?_
            refine zr_iastore C115 hC115 h0 dX6_matrices_156 (n := 157) rfl (fun S27 => ?_)
            refine zr_iinc (1 : Int32) [(0, .ref l0_71), (1, .int l1_71), (2, .int l2_71), (3, .int l3_71), (5, .int x23.1), (6, .int t97.1), (7, .int t106.1), (8, .int (t115.1 + (1 : Int32)))] h0 dX6_matrices_157 rfl (by decide) rfl rfl (n := 160) rfl ?_
            refine zr_goto (tgt := 115) h0 dX6_matrices_160 (by decide) ?_
            exact hL115 (t115.1 + (1 : Int32), S27)
  have J59 : ∀ (l0_59 : Nat) (l1_59 : Int32) (l2_59 : Int32) (l3_59 : Int32) (l4_59 : Int32) (s0_59 : Nat) (s1_59 : Int32) (s2_59 : Int32) (S_59 : ZS), zV G 9 S_59 0 0 59 [(0, .ref l0_59), (1, .int l1_59), (2, .int l2_59), (3, .int l3_59), (4, .int l4_59)] [.int s2_59, .int s1_59, .ref s0_59] (C (fX6_matrices_J59 l0_59 l1_59 l2_59 l3_59 l4_59 s0_59 s1_59 s2_59 S_59)) := by
    intro l0_59 l1_59 l2_59 l3_59 l4_59 s0_59 s1_59 s2_59 S_59
    unfold fX6_matrices_J59
    refine zr_iload h0 dX6_matrices_59 rfl (n := 61) rfl ?_
    refine zr_if_eq C (tgt := 70) h0 dX6_matrices_61 (by decide) (n := 64) rfl ?_ ?_
    · refine zv_sub (lv' := [(0, .ref l0_59), (1, .int l1_59), (2, .int l2_59), (3, .int l3_59)]) ?_ (zsub_of [0, 1, 2, 3] rfl)
      refine zr_iconst (0 : Int32) h0 (by decide) dX6_matrices_70 (n := 71) rfl ?_
      exact J71 l0_59 l1_59 l2_59 l3_59 s0_59 s1_59 s2_59 (0 : Int32) S_59
    · refine zv_sub (lv' := [(0, .ref l0_59), (1, .int l1_59), (2, .int l2_59), (3, .int l3_59)]) ?_ (zsub_of [0, 1, 2, 3] rfl)
      refine zr_iload_n h0 dX6_matrices_64 rfl (n := 65) rfl ?_
      refine zr_iload_n h0 dX6_matrices_65 rfl (n := 66) rfl ?_
      refine zr_imul h0 dX6_matrices_66 (n := 67) rfl ?_
      refine zr_goto (tgt := 71) h0 dX6_matrices_67 (by decide) ?_
      exact J71 l0_59 l1_59 l2_59 l3_59 s0_59 s1_59 s2_59 (l1_59 * l3_59) S_59
  have J47 : ∀ (l0_47 : Nat) (l1_47 : Int32) (l2_47 : Int32) (l3_47 : Int32) (l4_47 : Int32) (s0_47 : Nat) (s1_47 : Int32) (S_47 : ZS), zV G 9 S_47 0 0 47 [(0, .ref l0_47), (1, .int l1_47), (2, .int l2_47), (3, .int l3_47), (4, .int l4_47)] [.int s1_47, .ref s0_47] (C (fX6_matrices_J47 l0_47 l1_47 l2_47 l3_47 l4_47 s0_47 s1_47 S_47)) := by
    intro l0_47 l1_47 l2_47 l3_47 l4_47 s0_47 s1_47 S_47
    unfold fX6_matrices_J47
    refine zr_iload h0 dX6_matrices_47 rfl (n := 49) rfl ?_
    refine zr_if_eq C (tgt := 58) h0 dX6_matrices_49 (by decide) (n := 52) rfl ?_ ?_
    · refine zr_iconst (0 : Int32) h0 (by decide) dX6_matrices_58 (n := 59) rfl ?_
      exact J59 l0_47 l1_47 l2_47 l3_47 l4_47 s0_47 s1_47 (0 : Int32) S_47
    · refine zr_iload_n h0 dX6_matrices_52 rfl (n := 53) rfl ?_
      refine zr_iload_n h0 dX6_matrices_53 rfl (n := 54) rfl ?_
      refine zr_imul h0 dX6_matrices_54 (n := 55) rfl ?_
      refine zr_goto (tgt := 59) h0 dX6_matrices_55 (by decide) ?_
      exact J59 l0_47 l1_47 l2_47 l3_47 l4_47 s0_47 s1_47 (l2_47 * l3_47) S_47
  have J32 : ∀ (l0_32 : Nat) (l1_32 : Int32) (l2_32 : Int32) (l3_32 : Int32) (s0_32 : Int32) (S_32 : ZS), zV G 9 S_32 0 0 32 [(0, .ref l0_32), (1, .int l1_32), (2, .int l2_32), (3, .int l3_32)] [.int s0_32] (C (fX6_matrices_J32 l0_32 l1_32 l2_32 l3_32 s0_32 S_32)) := by
    intro l0_32 l1_32 l2_32 l3_32 s0_32 S_32
    unfold fX6_matrices_J32
    refine zr_istore [(0, .ref l0_32), (1, .int l1_32), (2, .int l2_32), (3, .int l3_32), (4, .int s0_32)] h0 dX6_matrices_32 (by decide) rfl (n := 34) rfl ?_
    refine zr_aload_n h0 dX6_matrices_34 rfl (n := 35) rfl ?_
    refine zr_iload h0 dX6_matrices_35 rfl (n := 37) rfl ?_
    refine zr_if_eq C (tgt := 46) h0 dX6_matrices_37 (by decide) (n := 40) rfl ?_ ?_
    · refine zr_iconst (0 : Int32) h0 (by decide) dX6_matrices_46 (n := 47) rfl ?_
      exact J47 l0_32 l1_32 l2_32 l3_32 s0_32 l0_32 (0 : Int32) S_32
    · refine zr_iload_n h0 dX6_matrices_40 rfl (n := 41) rfl ?_
      refine zr_iload_n h0 dX6_matrices_41 rfl (n := 42) rfl ?_
      refine zr_imul h0 dX6_matrices_42 (n := 43) rfl ?_
      refine zr_goto (tgt := 47) h0 dX6_matrices_43 (by decide) ?_
      exact J47 l0_32 l1_32 l2_32 l3_32 s0_32 l0_32 (l1_32 * l2_32) S_32
  have J31 : ∀ (l0_31 : Nat) (l1_31 : Int32) (l2_31 : Int32) (l3_31 : Int32) (S_31 : ZS), zV G 9 S_31 0 0 31 [(0, .ref l0_31), (1, .int l1_31), (2, .int l2_31), (3, .int l3_31)] [] (C (fX6_matrices_J31 l0_31 l1_31 l2_31 l3_31 S_31)) := by
    intro l0_31 l1_31 l2_31 l3_31 S_31
    unfold fX6_matrices_J31
    refine zr_iconst (0 : Int32) h0 (by decide) dX6_matrices_31 (n := 32) rfl ?_
    exact J32 l0_31 l1_31 l2_31 l3_31 (0 : Int32) S_31
  unfold fX6_matrices
  refine zr_iload_n h0 dX6_matrices_0 rfl (n := 1) rfl ?_
  refine zr_iconst (1 : Int32) h0 (by decide) dX6_matrices_1 (n := 2) rfl ?_
  refine zr_iconst (4 : Int32) h0 (by decide) dX6_matrices_2 (n := 3) rfl ?_
  refine zr_cRI C hC 0 0 (fun x hx => zk_S h0 (fun l D z0 => kX6_in l D z0 a1 (1 : Int32) (4 : Int32) S x hx) zw_898 zw_899 zw_5 zw_900 zyX6_in (As := [.int a1, .int (1 : Int32), .int (4 : Int32)]) (st := []) rfl (by decide) rfl (Nat.le_of_ble_eq_true rfl) (by decide) dX6_matrices_3) rfl rfl (n := 6) rfl (fun x1 => ?_)
  refine zr_if_eq C (tgt := 31) h0 dX6_matrices_6 (by decide) (n := 9) rfl ?_ ?_
  · exact J31 a0 a1 a2 a3 S
  · refine zr_iload_n h0 dX6_matrices_9 rfl (n := 10) rfl ?_
    refine zr_iconst (1 : Int32) h0 (by decide) dX6_matrices_10 (n := 11) rfl ?_
    refine zr_iconst (4 : Int32) h0 (by decide) dX6_matrices_11 (n := 12) rfl ?_
    refine zr_cRI C hC 0 0 (fun x hx => zk_S h0 (fun l D z0 => kX6_in l D z0 a2 (1 : Int32) (4 : Int32) S x hx) zw_898 zw_899 zw_5 zw_900 zyX6_in (As := [.int a2, .int (1 : Int32), .int (4 : Int32)]) (st := []) rfl (by decide) rfl (Nat.le_of_ble_eq_true rfl) (by decide) dX6_matrices_12) rfl rfl (n := 15) rfl (fun x19 => ?_)
    refine zr_if_eq C (tgt := 31) h0 dX6_matrices_15 (by decide) (n := 18) rfl ?_ ?_
    · exact J31 a0 a1 a2 a3 S
    · refine zr_iload_n h0 dX6_matrices_18 rfl (n := 19) rfl ?_
      refine zr_iconst (1 : Int32) h0 (by decide) dX6_matrices_19 (n := 20) rfl ?_
      refine zr_iconst (4 : Int32) h0 (by decide) dX6_matrices_20 (n := 21) rfl ?_
      refine zr_cRI C hC 0 0 (fun x hx => zk_S h0 (fun l D z0 => kX6_in l D z0 a3 (1 : Int32) (4 : Int32) S x hx) zw_898 zw_899 zw_5 zw_900 zyX6_in (As := [.int a3, .int (1 : Int32), .int (4 : Int32)]) (st := []) rfl (by decide) rfl (Nat.le_of_ble_eq_true rfl) (by decide) dX6_matrices_21) rfl rfl (n := 24) rfl (fun x20 => ?_)
      refine zr_if_eq C (tgt := 31) h0 dX6_matrices_24 (by decide) (n := 27) rfl ?_ ?_
      · exact J31 a0 a1 a2 a3 S
      · refine zr_iconst (1 : Int32) h0 (by decide) dX6_matrices_27 (n := 28) rfl ?_
        refine zr_goto (tgt := 32) h0 dX6_matrices_28 (by decide) ?_
        exact J32 a0 a1 a2 a3 (1 : Int32) S
theorem kX6_matrices (l : Launch) (D : ZD) (z0 : Nat) (a0 : Nat) (a1 : Int32) (a2 : Int32) (a3 : Int32) (S : ZS) (x : Int32 × ZS) (hf : fX6_matrices a0 a1 a2 a3 S = some x) : zMet l D z0 yX6_matrices cX6_matrices 9 (some .int) rmX6_matrices [.ref a0, .int a1, .int a2, .int a3] S (some (.int x.1)) x.2 :=
  zMet_of (by decide) (Nat.le_of_ble_eq_true rfl) (fun G h0 hini hE => wX6_matrices a0 a1 a2 a3 S h0 (fun o => o = some x) (fun h => nomatch h) (fun v S1 h => by cases h; exact hE)) hf
theorem dX6_polynomials_0 : decode cX6_polynomials 0 = .ok (.iload_n 1, 1) := by decide +kernel
theorem dX6_polynomials_1 : decode cX6_polynomials 1 = .ok (.iconst 1, 1) := by decide +kernel
theorem dX6_polynomials_2 : decode cX6_polynomials 2 = .ok (.iconst 4, 1) := by decide +kernel
theorem dX6_polynomials_3 : decode cX6_polynomials 3 = .ok (.invokestatic 57, 3) := by decide +kernel
theorem dX6_polynomials_6 : decode cX6_polynomials 6 = .ok (.ifCond .eq 16, 3) := by decide +kernel
theorem dX6_polynomials_9 : decode cX6_polynomials 9 = .ok (.iload_n 2, 1) := by decide +kernel
theorem dX6_polynomials_10 : decode cX6_polynomials 10 = .ok (.iconst 1, 1) := by decide +kernel
theorem dX6_polynomials_11 : decode cX6_polynomials 11 = .ok (.iconst 4, 1) := by decide +kernel
theorem dX6_polynomials_12 : decode cX6_polynomials 12 = .ok (.invokestatic 57, 3) := by decide +kernel
theorem dX6_polynomials_15 : decode cX6_polynomials 15 = .ok (.ifCond .eq 7, 3) := by decide +kernel
theorem dX6_polynomials_18 : decode cX6_polynomials 18 = .ok (.iconst 1, 1) := by decide +kernel
theorem dX6_polynomials_19 : decode cX6_polynomials 19 = .ok (.goto 4, 3) := by decide +kernel
theorem dX6_polynomials_22 : decode cX6_polynomials 22 = .ok (.iconst 0, 1) := by decide +kernel
theorem dX6_polynomials_23 : decode cX6_polynomials 23 = .ok (.istore_n 3, 1) := by decide +kernel
theorem dX6_polynomials_24 : decode cX6_polynomials 24 = .ok (.aload_n 0, 1) := by decide +kernel
theorem dX6_polynomials_25 : decode cX6_polynomials 25 = .ok (.iload_n 3, 1) := by decide +kernel
theorem dX6_polynomials_26 : decode cX6_polynomials 26 = .ok (.ifCond .eq 7, 3) := by decide +kernel
theorem dX6_polynomials_29 : decode cX6_polynomials 29 = .ok (.iload_n 1, 1) := by decide +kernel
theorem dX6_polynomials_30 : decode cX6_polynomials 30 = .ok (.goto 4, 3) := by decide +kernel
theorem dX6_polynomials_33 : decode cX6_polynomials 33 = .ok (.iconst 0, 1) := by decide +kernel
theorem dX6_polynomials_34 : decode cX6_polynomials 34 = .ok (.iload_n 3, 1) := by decide +kernel
theorem dX6_polynomials_35 : decode cX6_polynomials 35 = .ok (.ifCond .eq 7, 3) := by decide +kernel
theorem dX6_polynomials_38 : decode cX6_polynomials 38 = .ok (.iload_n 2, 1) := by decide +kernel
theorem dX6_polynomials_39 : decode cX6_polynomials 39 = .ok (.goto 4, 3) := by decide +kernel
theorem dX6_polynomials_42 : decode cX6_polynomials 42 = .ok (.iconst 0, 1) := by decide +kernel
theorem dX6_polynomials_43 : decode cX6_polynomials 43 = .ok (.iload_n 3, 1) := by decide +kernel
theorem dX6_polynomials_44 : decode cX6_polynomials 44 = .ok (.ifCond .eq 11, 3) := by decide +kernel
theorem dX6_polynomials_47 : decode cX6_polynomials 47 = .ok (.iload_n 1, 1) := by decide +kernel
theorem dX6_polynomials_48 : decode cX6_polynomials 48 = .ok (.iload_n 2, 1) := by decide +kernel
theorem dX6_polynomials_49 : decode cX6_polynomials 49 = .ok (.iadd, 1) := by decide +kernel
theorem dX6_polynomials_50 : decode cX6_polynomials 50 = .ok (.iconst 1, 1) := by decide +kernel
theorem dX6_polynomials_51 : decode cX6_polynomials 51 = .ok (.isub, 1) := by decide +kernel
theorem dX6_polynomials_52 : decode cX6_polynomials 52 = .ok (.goto 4, 3) := by decide +kernel
theorem dX6_polynomials_55 : decode cX6_polynomials 55 = .ok (.iconst 0, 1) := by decide +kernel
theorem dX6_polynomials_56 : decode cX6_polynomials 56 = .ok (.invokevirtual 68, 3) := by decide +kernel
theorem dX6_polynomials_59 : decode cX6_polynomials 59 = .ok (.ifCond .ne 5, 3) := by decide +kernel
theorem dX6_polynomials_62 : decode cX6_polynomials 62 = .ok (.iconst 0, 1) := by decide +kernel
theorem dX6_polynomials_63 : decode cX6_polynomials 63 = .ok (.ireturn, 1) := by decide +kernel
theorem dX6_polynomials_64 : decode cX6_polynomials 64 = .ok (.aload_n 0, 1) := by decide +kernel
theorem dX6_polynomials_65 : decode cX6_polynomials 65 = .ok (.iload_n 1, 1) := by decide +kernel
theorem dX6_polynomials_66 : decode cX6_polynomials 66 = .ok (.iload_n 2, 1) := by decide +kernel
theorem dX6_polynomials_67 : decode cX6_polynomials 67 = .ok (.iload_n 1, 1) := by decide +kernel
theorem dX6_polynomials_68 : decode cX6_polynomials 68 = .ok (.iload_n 2, 1) := by decide +kernel
theorem dX6_polynomials_69 : decode cX6_polynomials 69 = .ok (.iadd, 1) := by decide +kernel
theorem dX6_polynomials_70 : decode cX6_polynomials 70 = .ok (.iconst 1, 1) := by decide +kernel
theorem dX6_polynomials_71 : decode cX6_polynomials 71 = .ok (.isub, 1) := by decide +kernel
theorem dX6_polynomials_72 : decode cX6_polynomials 72 = .ok (.invokevirtual 71, 3) := by decide +kernel
theorem dX6_polynomials_75 : decode cX6_polynomials 75 = .ok (.istore 4, 2) := by decide +kernel
theorem dX6_polynomials_77 : decode cX6_polynomials 77 = .ok (.iconst 0, 1) := by decide +kernel
theorem dX6_polynomials_78 : decode cX6_polynomials 78 = .ok (.istore 5, 2) := by decide +kernel
theorem dX6_polynomials_80 : decode cX6_polynomials 80 = .ok (.iload 5, 2) := by decide +kernel
theorem dX6_polynomials_82 : decode cX6_polynomials 82 = .ok (.iload_n 1, 1) := by decide +kernel
theorem dX6_polynomials_83 : decode cX6_polynomials 83 = .ok (.if_icmp .ge 48, 3) := by decide +kernel
theorem dX6_polynomials_86 : decode cX6_polynomials 86 = .ok (.iconst 0, 1) := by decide +kernel
theorem dX6_polynomials_87 : decode cX6_polynomials 87 = .ok (.istore 6, 2) := by decide +kernel
theorem dX6_polynomials_89 : decode cX6_polynomials 89 = .ok (.iload 6, 2) := by decide +kernel
theorem dX6_polynomials_91 : decode cX6_polynomials 91 = .ok (.iload_n 2, 1) := by decide +kernel
theorem dX6_polynomials_92 : decode cX6_polynomials 92 = .ok (.if_icmp .ge 33, 3) := by decide +kernel
theorem dX6_polynomials_95 : decode cX6_polynomials 95 = .ok (.aload_n 0, 1) := by decide +kernel
theorem dX6_polynomials_96 : decode cX6_polynomials 96 = .ok (.getfield 17, 3) := by decide +kernel
theorem dX6_polynomials_99 : decode cX6_polynomials 99 = .ok (.bipush 64, 2) := by decide +kernel
theorem dX6_polynomials_101 : decode cX6_polynomials 101 = .ok (.iload 4, 2) := by decide +kernel
theorem dX6_polynomials_103 : decode cX6_polynomials 103 = .ok (.imul, 1) := by decide +kernel
theorem dX6_polynomials_104 : decode cX6_polynomials 104 = .ok (.iload 5, 2) := by decide +kernel
theorem dX6_polynomials_106 : decode cX6_polynomials 106 = .ok (.iload 6, 2) := by decide +kernel
theorem dX6_polynomials_108 : decode cX6_polynomials 108 = .ok (.iload 5, 2) := by decide +kernel
theorem dX6_polynomials_110 : decode cX6_polynomials 110 = .ok (.iload 6, 2) := by decide +kernel
theorem dX6_polynomials_112 : decode cX6_polynomials 112 = .ok (.iadd, 1) := by decide +kernel
theorem dX6_polynomials_113 : decode cX6_polynomials 113 = .ok (.invokestatic 75, 3) := by decide +kernel
theorem dX6_polynomials_116 : decode cX6_polynomials 116 = .ok (.iadd, 1) := by decide +kernel
theorem dX6_polynomials_117 : decode cX6_polynomials 117 = .ok (.iconst 1, 1) := by decide +kernel
theorem dX6_polynomials_118 : decode cX6_polynomials 118 = .ok (.iastore, 1) := by decide +kernel
theorem dX6_polynomials_119 : decode cX6_polynomials 119 = .ok (.iinc 6 1, 3) := by decide +kernel
theorem dX6_polynomials_122 : decode cX6_polynomials 122 = .ok (.goto (-33), 3) := by decide +kernel
theorem dX6_polynomials_125 : decode cX6_polynomials 125 = .ok (.iinc 5 1, 3) := by decide +kernel
theorem dX6_polynomials_128 : decode cX6_polynomials 128 = .ok (.goto (-48), 3) := by decide +kernel
theorem dX6_polynomials_131 : decode cX6_polynomials 131 = .ok (.iload 4, 2) := by decide +kernel
theorem dX6_polynomials_133 : decode cX6_polynomials 133 = .ok (.ireturn, 1) := by decide +kernel
abbrev rmX6_polynomials : Room := { frames := 3, cells := 0, slots := 0, locals := 66 }
theorem zyX6_polynomials : zyOK yX6_polynomials 2 := ⟨by decide +kernel, by decide +kernel, by decide +kernel⟩
set_option maxHeartbeats 4000000 in
set_option maxRecDepth 100000 in
theorem wX6_polynomials {G : ZG} (a0 : Nat) (a1 : Int32) (a2 : Int32) (S : ZS) (h0 : zFix G cX6_polynomials RX6 7 (some .int) rmX6_polynomials) (C : Option (Int32 × ZS) → Prop) (hC : ¬ C none) (hE : ∀ (v : Int32) (S1 : ZS), C (some (v, S1)) → zEnd G (some (.int v)) S1 rmX6_polynomials) : zV G 7 S 0 0 0 [(0, .ref a0), (1, .int a1), (2, .int a2)] [] (C (fX6_polynomials a0 a1 a2 S)) := by
  have J56 : ∀ (l0_56 : Nat) (l1_56 : Int32) (l2_56 : Int32) (s0_56 : Nat) (s1_56 : Int32) (s2_56 : Int32) (s3_56 : Int32) (S_56 : ZS), zV G 7 S_56 0 0 56 [(0, .ref l0_56), (1, .int l1_56), (2, .int l2_56)] [.int s3_56, .int s2_56, .int s1_56, .ref s0_56] (C (fX6_polynomials_J56 l0_56 l1_56 l2_56 s0_56 s1_56 s2_56 s3_56 S_56)) := by
    intro l0_56 l1_56 l2_56 s0_56 s1_56 s2_56 s3_56 S_56
    unfold fX6_polynomials_J56
    refine zr_cMI C hC 0 0 (fun x hx => zk_V h0 zcX6 (zcl_ex hx) (fun l D z0 => kX6_canMake l D z0 s0_56 s1_56 s2_56 s3_56 S_56 x (zcl_of hx)) zw_894 zw_896 zs_35 zw_5 zw_897 rfl zyX6_canMake (As := [.int s1_56, .int s2_56, .int s3_56]) (st := []) rfl (by decide) rfl (Nat.le_of_ble_eq_true rfl) (by decide) dX6_polynomials_56) rfl rfl (n := 59) rfl (fun x14 => ?_)
    refine zr_if_ne C (tgt := 64) h0 dX6_polynomials_59 (by decide) (n := 62) rfl ?_ ?_
    · refine zv_sub (lv' := []) ?_ (zsub_of [] rfl)
      refine zr_iconst (0 : Int32) h0 (by decide) dX6_polynomials_62 (n := 63) rfl ?_
      exact zr_iret h0 rfl dX6_polynomials_63 (hE _ _) (by decide) (by decide)
    · refine zr_aload_n h0 dX6_polynomials_64 rfl (n := 65) rfl ?_
      refine zr_iload_n h0 dX6_polynomials_65 rfl (n := 66) rfl ?_
      refine zr_iload_n h0 dX6_polynomials_66 rfl (n := 67) rfl ?_
      refine zr_iload_n h0 dX6_polynomials_67 rfl (n := 68) rfl ?_
      refine zr_iload_n h0 dX6_polynomials_68 rfl (n := 69) rfl ?_
      refine zr_iadd h0 dX6_polynomials_69 (n := 70) rfl ?_
      refine zr_iconst (1 : Int32) h0 (by decide) dX6_polynomials_70 (n := 71) rfl ?_
      refine zr_isub h0 dX6_polynomials_71 (n := 72) rfl ?_
      refine zr_cMI C hC 0 0 (fun x hx => zk_V h0 zcX6 (zcl_ex hx) (fun l D z0 => kX6_make l D z0 l0_56 l1_56 l2_56 ((l1_56 + l2_56) - (1 : Int32)) x14.2 x (zcl_of hx)) zw_901 zw_903 zs_36 zw_5 zw_904 rfl zyX6_make (As := [.int l1_56, .int l2_56, .int ((l1_56 + l2_56) - (1 : Int32))]) (st := []) rfl (by decide) rfl (Nat.le_of_ble_eq_true rfl) (by decide) dX6_polynomials_72) rfl rfl (n := 75) rfl (fun x15 => ?_)
      refine zr_istore [(0, .ref l0_56), (1, .int l1_56), (2, .int l2_56), (4, .int x15.1)] h0 dX6_polynomials_75 (by decide) rfl (n := 77) rfl ?_
      refine zr_iconst (0 : Int32) h0 (by decide) dX6_polynomials_77 (n := 78) rfl ?_
      refine zr_istore [(0, .ref l0_56), (1, .int l1_56), (2, .int l2_56), (4, .int x15.1), (5, .int (0 : Int32))] h0 dX6_polynomials_78 (by decide) rfl (n := 80) rfl ?_
      refine zr_loop hC (fX6_polynomials_B80 l0_56 l1_56 l2_56 x15.1) (fun y => [(0, .ref l0_56), (1, .int l1_56), (2, .int l2_56), (4, .int x15.1), (5, .int y.1)]) (fun y => y.2) zF ((0 : Int32), x15.2) (fun C80 hC80 hX80 hL80 t80 => ?_)
      unfold fX6_polynomials_B80
      refine zr_iload h0 dX6_polynomials_80 rfl (n := 82) rfl ?_
      refine zr_iload_n h0 dX6_polynomials_82 rfl (n := 83) rfl ?_
      refine zr_icmp_ge C80 (tgt := 131) h0 dX6_polynomials_83 (by decide) (n := 86) rfl ?_ ?_
      · refine zr_ex hX80 ?_
        refine zv_sub (lv' := [(4, .int x15.1)]) ?_ (zsub_of [3] rfl)
        refine zr_iload h0 dX6_polynomials_131 rfl (n := 133) rfl ?_
        exact zr_iret h0 rfl dX6_polynomials_133 (hE _ _) (by decide) (by decide)
      · refine zr_iconst (0 : Int32) h0 (by decide) dX6_polynomials_86 (n := 87) rfl ?_
        refine zr_istore [(0, .ref l0_56), (1, .int l1_56), (2, .int l2_56), (4, .int x15.1), (5, .int t80.1), (6, .int (0 : Int32))] h0 dX6_polynomials_87 (by decide) rfl (n := 89) rfl ?_
        refine zr_loop hC80 (fX6_polynomials_B89 l0_56 l1_56 l2_56 x15.1 t80.1) (fun y => [(0, .ref l0_56), (1, .int l1_56), (2, .int l2_56), (4, .int x15.1), (5, .int t80.1), (6, .int y.1)]) (fun y => y.2) zF ((0 : Int32), t80.2) (fun C89 hC89 hX89 hL89 t89 => ?_)
        unfold fX6_polynomials_B89
        refine zr_iload h0 dX6_polynomials_89 rfl (n := 91) rfl ?_
        refine zr_iload_n h0 dX6_polynomials_91 rfl (n := 92) rfl ?_
        refine zr_icmp_ge C89 (tgt := 125) h0 dX6_polynomials_92 (by decide) (n := 95) rfl ?_ ?_
        · refine zr_ex hX89 ?_
          refine zv_sub (lv' := [(0, .ref l0_56), (1, .int l1_56), (2, .int l2_56), (4, .int x15.1), (5, .int t80.1)]) ?_ (zsub_of [0, 1, 2, 3, 4] rfl)
          refine zr_iinc (1 : Int32) [(0, .ref l0_56), (1, .int l1_56), (2, .int l2_56), (4, .int x15.1), (5, .int (t80.1 + (1 : Int32)))] h0 dX6_polynomials_125 rfl (by decide) rfl rfl (n := 128) rfl ?_
          refine zr_goto (tgt := 80) h0 dX6_polynomials_128 (by decide) ?_
          exact hL80 (t80.1 + (1 : Int32), t89.2)
        · refine zr_aload_n h0 dX6_polynomials_95 rfl (n := 96) rfl ?_
          refine zr_getR C89 hC89 h0 zcX6 (k := 4) (by decide) zw_823 dX6_polynomials_96 (n := 99) rfl (fun v16 => ?_)
          refine zr_bipush (64 : Int32) h0 (by decide) dX6_polynomials_99 (n := 101) rfl ?_
          refine zr_iload h0 dX6_polynomials_101 rfl (n := 103) rfl ?_
          refine zr_imul h0 dX6_polynomials_103 (n := 104) rfl ?_
          refine zr_iload h0 dX6_polynomials_104 rfl (n := 106) rfl ?_
          refine zr_iload h0 dX6_polynomials_106 rfl (n := 108) rfl ?_
          refine zr_iload h0 dX6_polynomials_108 rfl (n := 110) rfl ?_
          refine zr_iload h0 dX6_polynomials_110 rfl (n := 112) rfl ?_
          refine zr_iadd h0 dX6_polynomials_112 (n := 113) rfl ?_
          refine zr_cRI C89 hC89 0 0 (fun x hx => zk_S h0 (fun l D z0 => kX6_place l D z0 t80.1 t89.1 (t80.1 + t89.1) t89.2 x hx) zw_909 zw_910 zw_5 zw_911 zyX6_place (As := [.int t80.1, .int t89.1, .int (t80.1 + t89.1)]) (st := [.int ((64 : Int32) * x15.1), .ref v16]) rfl (by decide) rfl (Nat.le_of_ble_eq_true rfl) (by decide) dX6_polynomials_113) rfl rfl (n := 116) rfl (fun x17 => ?_)
          refine zr_iadd h0 dX6_polynomials_116 (n := 117) rfl ?_
          refine zr_iconst (1 : Int32) h0 (by decide) dX6_polynomials_117 (n := 118) rfl ?_
          refine zr_iastore C89 hC89 h0 dX6_polynomials_118 (n := 119) rfl (fun S18 => ?_)
          refine zr_iinc (1 : Int32) [(0, .ref l0_56), (1, .int l1_56), (2, .int l2_56), (4, .int x15.1), (5, .int t80.1), (6, .int (t89.1 + (1 : Int32)))] h0 dX6_polynomials_119 rfl (by decide) rfl rfl (n := 122) rfl ?_
          refine zr_goto (tgt := 89) h0 dX6_polynomials_122 (by decide) ?_
          exact hL89 (t89.1 + (1 : Int32), S18)
  have J43 : ∀ (l0_43 : Nat) (l1_43 : Int32) (l2_43 : Int32) (l3_43 : Int32) (s0_43 : Nat) (s1_43 : Int32) (s2_43 : Int32) (S_43 : ZS), zV G 7 S_43 0 0 43 [(0, .ref l0_43), (1, .int l1_43), (2, .int l2_43), (3, .int l3_43)] [.int s2_43, .int s1_43, .ref s0_43] (C (fX6_polynomials_J43 l0_43 l1_43 l2_43 l3_43 s0_43 s1_43 s2_43 S_43)) := by
    intro l0_43 l1_43 l2_43 l3_43 s0_43 s1_43 s2_43 S_43
    unfold fX6_polynomials_J43
    refine zr_iload_n h0 dX6_polynomials_43 rfl (n := 44) rfl ?_
    refine zr_if_eq C (tgt := 55) h0 dX6_polynomials_44 (by decide) (n := 47) rfl ?_ ?_
    · refine zv_sub (lv' := [(0, .ref l0_43), (1, .int l1_43), (2, .int l2_43)]) ?_ (zsub_of [0, 1, 2] rfl)
      refine zr_iconst (0 : Int32) h0 (by decide) dX6_polynomials_55 (n := 56) rfl ?_
      exact J56 l0_43 l1_43 l2_43 s0_43 s1_43 s2_43 (0 : Int32) S_43
    · refine zv_sub (lv' := [(0, .ref l0_43), (1, .int l1_43), (2, .int l2_43)]) ?_ (zsub_of [0, 1, 2] rfl)
      refine zr_iload_n h0 dX6_polynomials_47 rfl (n := 48) rfl ?_
      refine zr_iload_n h0 dX6_polynomials_48 rfl (n := 49) rfl ?_
      refine zr_iadd h0 dX6_polynomials_49 (n := 50) rfl ?_
      refine zr_iconst (1 : Int32) h0 (by decide) dX6_polynomials_50 (n := 51) rfl ?_
      refine zr_isub h0 dX6_polynomials_51 (n := 52) rfl ?_
      refine zr_goto (tgt := 56) h0 dX6_polynomials_52 (by decide) ?_
      exact J56 l0_43 l1_43 l2_43 s0_43 s1_43 s2_43 ((l1_43 + l2_43) - (1 : Int32)) S_43
  have J34 : ∀ (l0_34 : Nat) (l1_34 : Int32) (l2_34 : Int32) (l3_34 : Int32) (s0_34 : Nat) (s1_34 : Int32) (S_34 : ZS), zV G 7 S_34 0 0 34 [(0, .ref l0_34), (1, .int l1_34), (2, .int l2_34), (3, .int l3_34)] [.int s1_34, .ref s0_34] (C (fX6_polynomials_J34 l0_34 l1_34 l2_34 l3_34 s0_34 s1_34 S_34)) := by
    intro l0_34 l1_34 l2_34 l3_34 s0_34 s1_34 S_34
    unfold fX6_polynomials_J34
    refine zr_iload_n h0 dX6_polynomials_34 rfl (n := 35) rfl ?_
    refine zr_if_eq C (tgt := 42) h0 dX6_polynomials_35 (by decide) (n := 38) rfl ?_ ?_
    · refine zr_iconst (0 : Int32) h0 (by decide) dX6_polynomials_42 (n := 43) rfl ?_
      exact J43 l0_34 l1_34 l2_34 l3_34 s0_34 s1_34 (0 : Int32) S_34
    · refine zr_iload_n h0 dX6_polynomials_38 rfl (n := 39) rfl ?_
      refine zr_goto (tgt := 43) h0 dX6_polynomials_39 (by decide) ?_
      exact J43 l0_34 l1_34 l2_34 l3_34 s0_34 s1_34 l2_34 S_34
  have J23 : ∀ (l0_23 : Nat) (l1_23 : Int32) (l2_23 : Int32) (s0_23 : Int32) (S_23 : ZS), zV G 7 S_23 0 0 23 [(0, .ref l0_23), (1, .int l1_23), (2, .int l2_23)] [.int s0_23] (C (fX6_polynomials_J23 l0_23 l1_23 l2_23 s0_23 S_23)) := by
    intro l0_23 l1_23 l2_23 s0_23 S_23
    unfold fX6_polynomials_J23
    refine zr_istore_n [(0, .ref l0_23), (1, .int l1_23), (2, .int l2_23), (3, .int s0_23)] h0 dX6_polynomials_23 (by decide) rfl (n := 24) rfl ?_
    refine zr_aload_n h0 dX6_polynomials_24 rfl (n := 25) rfl ?_
    refine zr_iload_n h0 dX6_polynomials_25 rfl (n := 26) rfl ?_
    refine zr_if_eq C (tgt := 33) h0 dX6_polynomials_26 (by decide) (n := 29) rfl ?_ ?_
    · refine zr_iconst (0 : Int32) h0 (by decide) dX6_polynomials_33 (n := 34) rfl ?_
      exact J34 l0_23 l1_23 l2_23 s0_23 l0_23 (0 : Int32) S_23
    · refine zr_iload_n h0 dX6_polynomials_29 rfl (n := 30) rfl ?_
      refine zr_goto (tgt := 34) h0 dX6_polynomials_30 (by decide) ?_
      exact J34 l0_23 l1_23 l2_23 s0_23 l0_23 l1_23 S_23
  have J22 : ∀ (l0_22 : Nat) (l1_22 : Int32) (l2_22 : Int32) (S_22 : ZS), zV G 7 S_22 0 0 22 [(0, .ref l0_22), (1, .int l1_22), (2, .int l2_22)] [] (C (fX6_polynomials_J22 l0_22 l1_22 l2_22 S_22)) := by
    intro l0_22 l1_22 l2_22 S_22
    unfold fX6_polynomials_J22
    refine zr_iconst (0 : Int32) h0 (by decide) dX6_polynomials_22 (n := 23) rfl ?_
    exact J23 l0_22 l1_22 l2_22 (0 : Int32) S_22
  unfold fX6_polynomials
  refine zr_iload_n h0 dX6_polynomials_0 rfl (n := 1) rfl ?_
  refine zr_iconst (1 : Int32) h0 (by decide) dX6_polynomials_1 (n := 2) rfl ?_
  refine zr_iconst (4 : Int32) h0 (by decide) dX6_polynomials_2 (n := 3) rfl ?_
  refine zr_cRI C hC 0 0 (fun x hx => zk_S h0 (fun l D z0 => kX6_in l D z0 a1 (1 : Int32) (4 : Int32) S x hx) zw_898 zw_899 zw_5 zw_900 zyX6_in (As := [.int a1, .int (1 : Int32), .int (4 : Int32)]) (st := []) rfl (by decide) rfl (Nat.le_of_ble_eq_true rfl) (by decide) dX6_polynomials_3) rfl rfl (n := 6) rfl (fun x1 => ?_)
  refine zr_if_eq C (tgt := 22) h0 dX6_polynomials_6 (by decide) (n := 9) rfl ?_ ?_
  · exact J22 a0 a1 a2 S
  · refine zr_iload_n h0 dX6_polynomials_9 rfl (n := 10) rfl ?_
    refine zr_iconst (1 : Int32) h0 (by decide) dX6_polynomials_10 (n := 11) rfl ?_
    refine zr_iconst (4 : Int32) h0 (by decide) dX6_polynomials_11 (n := 12) rfl ?_
    refine zr_cRI C hC 0 0 (fun x hx => zk_S h0 (fun l D z0 => kX6_in l D z0 a2 (1 : Int32) (4 : Int32) S x hx) zw_898 zw_899 zw_5 zw_900 zyX6_in (As := [.int a2, .int (1 : Int32), .int (4 : Int32)]) (st := []) rfl (by decide) rfl (Nat.le_of_ble_eq_true rfl) (by decide) dX6_polynomials_12) rfl rfl (n := 15) rfl (fun x13 => ?_)
    refine zr_if_eq C (tgt := 22) h0 dX6_polynomials_15 (by decide) (n := 18) rfl ?_ ?_
    · exact J22 a0 a1 a2 S
    · refine zr_iconst (1 : Int32) h0 (by decide) dX6_polynomials_18 (n := 19) rfl ?_
      refine zr_goto (tgt := 23) h0 dX6_polynomials_19 (by decide) ?_
      exact J23 a0 a1 a2 (1 : Int32) S
theorem kX6_polynomials (l : Launch) (D : ZD) (z0 : Nat) (a0 : Nat) (a1 : Int32) (a2 : Int32) (S : ZS) (x : Int32 × ZS) (hf : fX6_polynomials a0 a1 a2 S = some x) : zMet l D z0 yX6_polynomials cX6_polynomials 7 (some .int) rmX6_polynomials [.ref a0, .int a1, .int a2] S (some (.int x.1)) x.2 :=
  zMet_of (by decide) (Nat.le_of_ble_eq_true rfl) (fun G h0 hini hE => wX6_polynomials a0 a1 a2 S h0 (fun o => o = some x) (fun h => nomatch h) (fun v S1 h => by cases h; exact hE)) hf
theorem dX6_group_0 : decode cX6_group 0 = .ok (.aload_n 0, 1) := by decide +kernel
theorem dX6_group_1 : decode cX6_group 1 = .ok (.iload_n 1, 1) := by decide +kernel
theorem dX6_group_2 : decode cX6_group 2 = .ok (.iload_n 1, 1) := by decide +kernel
theorem dX6_group_3 : decode cX6_group 3 = .ok (.iload_n 1, 1) := by decide +kernel
theorem dX6_group_4 : decode cX6_group 4 = .ok (.invokevirtual 68, 3) := by decide +kernel
theorem dX6_group_7 : decode cX6_group 7 = .ok (.ifCond .ne 5, 3) := by decide +kernel
theorem dX6_group_10 : decode cX6_group 10 = .ok (.iconst 0, 1) := by decide +kernel
theorem dX6_group_11 : decode cX6_group 11 = .ok (.ireturn, 1) := by decide +kernel
theorem dX6_group_12 : decode cX6_group 12 = .ok (.aload_n 0, 1) := by decide +kernel
theorem dX6_group_13 : decode cX6_group 13 = .ok (.iload_n 1, 1) := by decide +kernel
theorem dX6_group_14 : decode cX6_group 14 = .ok (.iload_n 1, 1) := by decide +kernel
theorem dX6_group_15 : decode cX6_group 15 = .ok (.iload_n 1, 1) := by decide +kernel
theorem dX6_group_16 : decode cX6_group 16 = .ok (.invokevirtual 71, 3) := by decide +kernel
theorem dX6_group_19 : decode cX6_group 19 = .ok (.istore_n 2, 1) := by decide +kernel
theorem dX6_group_20 : decode cX6_group 20 = .ok (.iconst 0, 1) := by decide +kernel
theorem dX6_group_21 : decode cX6_group 21 = .ok (.istore_n 3, 1) := by decide +kernel
theorem dX6_group_22 : decode cX6_group 22 = .ok (.iload_n 3, 1) := by decide +kernel
theorem dX6_group_23 : decode cX6_group 23 = .ok (.iload_n 1, 1) := by decide +kernel
theorem dX6_group_24 : decode cX6_group 24 = .ok (.if_icmp .ge 47, 3) := by decide +kernel
theorem dX6_group_27 : decode cX6_group 27 = .ok (.iconst 0, 1) := by decide +kernel
theorem dX6_group_28 : decode cX6_group 28 = .ok (.istore 4, 2) := by decide +kernel
theorem dX6_group_30 : decode cX6_group 30 = .ok (.iload 4, 2) := by decide +kernel
theorem dX6_group_32 : decode cX6_group 32 = .ok (.iload_n 1, 1) := by decide +kernel
theorem dX6_group_33 : decode cX6_group 33 = .ok (.if_icmp .ge 32, 3) := by decide +kernel
theorem dX6_group_36 : decode cX6_group 36 = .ok (.aload_n 0, 1) := by decide +kernel
theorem dX6_group_37 : decode cX6_group 37 = .ok (.getfield 17, 3) := by decide +kernel
theorem dX6_group_40 : decode cX6_group 40 = .ok (.bipush 64, 2) := by decide +kernel
theorem dX6_group_42 : decode cX6_group 42 = .ok (.iload_n 2, 1) := by decide +kernel
theorem dX6_group_43 : decode cX6_group 43 = .ok (.imul, 1) := by decide +kernel
theorem dX6_group_44 : decode cX6_group 44 = .ok (.iload_n 3, 1) := by decide +kernel
theorem dX6_group_45 : decode cX6_group 45 = .ok (.iload 4, 2) := by decide +kernel
theorem dX6_group_47 : decode cX6_group 47 = .ok (.iload_n 3, 1) := by decide +kernel
theorem dX6_group_48 : decode cX6_group 48 = .ok (.iload 4, 2) := by decide +kernel
theorem dX6_group_50 : decode cX6_group 50 = .ok (.iadd, 1) := by decide +kernel
theorem dX6_group_51 : decode cX6_group 51 = .ok (.iload_n 1, 1) := by decide +kernel
theorem dX6_group_52 : decode cX6_group 52 = .ok (.irem, 1) := by decide +kernel
theorem dX6_group_53 : decode cX6_group 53 = .ok (.invokestatic 75, 3) := by decide +kernel
theorem dX6_group_56 : decode cX6_group 56 = .ok (.iadd, 1) := by decide +kernel
theorem dX6_group_57 : decode cX6_group 57 = .ok (.iconst 1, 1) := by decide +kernel
theorem dX6_group_58 : decode cX6_group 58 = .ok (.iastore, 1) := by decide +kernel
theorem dX6_group_59 : decode cX6_group 59 = .ok (.iinc 4 1, 3) := by decide +kernel
theorem dX6_group_62 : decode cX6_group 62 = .ok (.goto (-32), 3) := by decide +kernel
theorem dX6_group_65 : decode cX6_group 65 = .ok (.iinc 3 1, 3) := by decide +kernel
theorem dX6_group_68 : decode cX6_group 68 = .ok (.goto (-46), 3) := by decide +kernel
theorem dX6_group_71 : decode cX6_group 71 = .ok (.iload_n 2, 1) := by decide +kernel
theorem dX6_group_72 : decode cX6_group 72 = .ok (.ireturn, 1) := by decide +kernel
abbrev rmX6_group : Room := { frames := 3, cells := 0, slots := 0, locals := 66 }
theorem zyX6_group : zyOK yX6_group 1 := ⟨by decide +kernel, by decide +kernel, by decide +kernel⟩
set_option maxHeartbeats 4000000 in
set_option maxRecDepth 100000 in
theorem wX6_group {G : ZG} (a0 : Nat) (a1 : Int32) (S : ZS) (h0 : zFix G cX6_group RX6 5 (some .int) rmX6_group) (C : Option (Int32 × ZS) → Prop) (hC : ¬ C none) (hE : ∀ (v : Int32) (S1 : ZS), C (some (v, S1)) → zEnd G (some (.int v)) S1 rmX6_group) : zV G 5 S 0 0 0 [(0, .ref a0), (1, .int a1)] [] (C (fX6_group a0 a1 S)) := by
  unfold fX6_group
  refine zr_aload_n h0 dX6_group_0 rfl (n := 1) rfl ?_
  refine zr_iload_n h0 dX6_group_1 rfl (n := 2) rfl ?_
  refine zr_iload_n h0 dX6_group_2 rfl (n := 3) rfl ?_
  refine zr_iload_n h0 dX6_group_3 rfl (n := 4) rfl ?_
  refine zr_cMI C hC 0 0 (fun x hx => zk_V h0 zcX6 (zcl_ex hx) (fun l D z0 => kX6_canMake l D z0 a0 a1 a1 a1 S x (zcl_of hx)) zw_894 zw_896 zs_35 zw_5 zw_897 rfl zyX6_canMake (As := [.int a1, .int a1, .int a1]) (st := []) rfl (by decide) rfl (Nat.le_of_ble_eq_true rfl) (by decide) dX6_group_4) rfl rfl (n := 7) rfl (fun x1 => ?_)
  refine zr_if_ne C (tgt := 12) h0 dX6_group_7 (by decide) (n := 10) rfl ?_ ?_
  · refine zv_sub (lv' := []) ?_ (zsub_of [] rfl)
    refine zr_iconst (0 : Int32) h0 (by decide) dX6_group_10 (n := 11) rfl ?_
    exact zr_iret h0 rfl dX6_group_11 (hE _ _) (by decide) (by decide)
  · refine zr_aload_n h0 dX6_group_12 rfl (n := 13) rfl ?_
    refine zr_iload_n h0 dX6_group_13 rfl (n := 14) rfl ?_
    refine zr_iload_n h0 dX6_group_14 rfl (n := 15) rfl ?_
    refine zr_iload_n h0 dX6_group_15 rfl (n := 16) rfl ?_
    refine zr_cMI C hC 0 0 (fun x hx => zk_V h0 zcX6 (zcl_ex hx) (fun l D z0 => kX6_make l D z0 a0 a1 a1 a1 x1.2 x (zcl_of hx)) zw_901 zw_903 zs_36 zw_5 zw_904 rfl zyX6_make (As := [.int a1, .int a1, .int a1]) (st := []) rfl (by decide) rfl (Nat.le_of_ble_eq_true rfl) (by decide) dX6_group_16) rfl rfl (n := 19) rfl (fun x2 => ?_)
    refine zr_istore_n [(0, .ref a0), (1, .int a1), (2, .int x2.1)] h0 dX6_group_19 (by decide) rfl (n := 20) rfl ?_
    refine zr_iconst (0 : Int32) h0 (by decide) dX6_group_20 (n := 21) rfl ?_
    refine zr_istore_n [(0, .ref a0), (1, .int a1), (2, .int x2.1), (3, .int (0 : Int32))] h0 dX6_group_21 (by decide) rfl (n := 22) rfl ?_
    refine zr_loop hC (fX6_group_B22 a0 a1 x2.1) (fun y => [(0, .ref a0), (1, .int a1), (2, .int x2.1), (3, .int y.1)]) (fun y => y.2) zF ((0 : Int32), x2.2) (fun C22 hC22 hX22 hL22 t22 => ?_)
    unfold fX6_group_B22
    refine zr_iload_n h0 dX6_group_22 rfl (n := 23) rfl ?_
    refine zr_iload_n h0 dX6_group_23 rfl (n := 24) rfl ?_
    refine zr_icmp_ge C22 (tgt := 71) h0 dX6_group_24 (by decide) (n := 27) rfl ?_ ?_
    · refine zr_ex hX22 ?_
      refine zv_sub (lv' := [(2, .int x2.1)]) ?_ (zsub_of [2] rfl)
      refine zr_iload_n h0 dX6_group_71 rfl (n := 72) rfl ?_
      exact zr_iret h0 rfl dX6_group_72 (hE _ _) (by decide) (by decide)
    · refine zr_iconst (0 : Int32) h0 (by decide) dX6_group_27 (n := 28) rfl ?_
      refine zr_istore [(0, .ref a0), (1, .int a1), (2, .int x2.1), (3, .int t22.1), (4, .int (0 : Int32))] h0 dX6_group_28 (by decide) rfl (n := 30) rfl ?_
      refine zr_loop hC22 (fX6_group_B30 a0 a1 x2.1 t22.1) (fun y => [(0, .ref a0), (1, .int a1), (2, .int x2.1), (3, .int t22.1), (4, .int y.1)]) (fun y => y.2) zF ((0 : Int32), t22.2) (fun C30 hC30 hX30 hL30 t30 => ?_)
      unfold fX6_group_B30
      refine zr_iload h0 dX6_group_30 rfl (n := 32) rfl ?_
      refine zr_iload_n h0 dX6_group_32 rfl (n := 33) rfl ?_
      refine zr_icmp_ge C30 (tgt := 65) h0 dX6_group_33 (by decide) (n := 36) rfl ?_ ?_
      · refine zr_ex hX30 ?_
        refine zv_sub (lv' := [(0, .ref a0), (1, .int a1), (2, .int x2.1), (3, .int t22.1)]) ?_ (zsub_of [0, 1, 2, 3] rfl)
        refine zr_iinc (1 : Int32) [(0, .ref a0), (1, .int a1), (2, .int x2.1), (3, .int (t22.1 + (1 : Int32)))] h0 dX6_group_65 rfl (by decide) rfl rfl (n := 68) rfl ?_
        refine zr_goto (tgt := 22) h0 dX6_group_68 (by decide) ?_
        exact hL22 (t22.1 + (1 : Int32), t30.2)
      · refine zr_aload_n h0 dX6_group_36 rfl (n := 37) rfl ?_
        refine zr_getR C30 hC30 h0 zcX6 (k := 4) (by decide) zw_823 dX6_group_37 (n := 40) rfl (fun v11 => ?_)
        refine zr_bipush (64 : Int32) h0 (by decide) dX6_group_40 (n := 42) rfl ?_
        refine zr_iload_n h0 dX6_group_42 rfl (n := 43) rfl ?_
        refine zr_imul h0 dX6_group_43 (n := 44) rfl ?_
        refine zr_iload_n h0 dX6_group_44 rfl (n := 45) rfl ?_
        refine zr_iload h0 dX6_group_45 rfl (n := 47) rfl ?_
        refine zr_iload_n h0 dX6_group_47 rfl (n := 48) rfl ?_
        refine zr_iload h0 dX6_group_48 rfl (n := 50) rfl ?_
        refine zr_iadd h0 dX6_group_50 (n := 51) rfl ?_
        refine zr_iload_n h0 dX6_group_51 rfl (n := 52) rfl ?_
        refine zr_irem C30 hC30 h0 dX6_group_52 (n := 53) rfl (fun v12 => ?_)
        refine zr_cRI C30 hC30 0 0 (fun x hx => zk_S h0 (fun l D z0 => kX6_place l D z0 t22.1 t30.1 v12 t30.2 x hx) zw_909 zw_910 zw_5 zw_911 zyX6_place (As := [.int t22.1, .int t30.1, .int v12]) (st := [.int ((64 : Int32) * x2.1), .ref v11]) rfl (by decide) rfl (Nat.le_of_ble_eq_true rfl) (by decide) dX6_group_53) rfl rfl (n := 56) rfl (fun x13 => ?_)
        refine zr_iadd h0 dX6_group_56 (n := 57) rfl ?_
        refine zr_iconst (1 : Int32) h0 (by decide) dX6_group_57 (n := 58) rfl ?_
        refine zr_iastore C30 hC30 h0 dX6_group_58 (n := 59) rfl (fun S14 => ?_)
        refine zr_iinc (1 : Int32) [(0, .ref a0), (1, .int a1), (2, .int x2.1), (3, .int t22.1), (4, .int (t30.1 + (1 : Int32)))] h0 dX6_group_59 rfl (by decide) rfl rfl (n := 62) rfl ?_
        refine zr_goto (tgt := 30) h0 dX6_group_62 (by decide) ?_
        exact hL30 (t30.1 + (1 : Int32), S14)
theorem kX6_group (l : Launch) (D : ZD) (z0 : Nat) (a0 : Nat) (a1 : Int32) (S : ZS) (x : Int32 × ZS) (hf : fX6_group a0 a1 S = some x) : zMet l D z0 yX6_group cX6_group 5 (some .int) rmX6_group [.ref a0, .int a1] S (some (.int x.1)) x.2 :=
  zMet_of (by decide) (Nat.le_of_ble_eq_true rfl) (fun G h0 hini hE => wX6_group a0 a1 S h0 (fun o => o = some x) (fun h => nomatch h) (fun v S1 h => by cases h; exact hE)) hf
theorem dX6_isPlace_0 : decode cX6_isPlace 0 = .ok (.aload_n 0, 1) := by decide +kernel
theorem dX6_isPlace_1 : decode cX6_isPlace 1 = .ok (.iload_n 1, 1) := by decide +kernel
theorem dX6_isPlace_2 : decode cX6_isPlace 2 = .ok (.invokevirtual 78, 3) := by decide +kernel
theorem dX6_isPlace_5 : decode cX6_isPlace 5 = .ok (.ifCond .eq 66, 3) := by decide +kernel
theorem dX6_isPlace_8 : decode cX6_isPlace 8 = .ok (.iload_n 2, 1) := by decide +kernel
theorem dX6_isPlace_9 : decode cX6_isPlace 9 = .ok (.iconst 0, 1) := by decide +kernel
theorem dX6_isPlace_10 : decode cX6_isPlace 10 = .ok (.aload_n 0, 1) := by decide +kernel
theorem dX6_isPlace_11 : decode cX6_isPlace 11 = .ok (.getfield 13, 3) := by decide +kernel
theorem dX6_isPlace_14 : decode cX6_isPlace 14 = .ok (.iconst 3, 1) := by decide +kernel
theorem dX6_isPlace_15 : decode cX6_isPlace 15 = .ok (.iload_n 1, 1) := by decide +kernel
theorem dX6_isPlace_16 : decode cX6_isPlace 16 = .ok (.imul, 1) := by decide +kernel
theorem dX6_isPlace_17 : decode cX6_isPlace 17 = .ok (.iaload, 1) := by decide +kernel
theorem dX6_isPlace_18 : decode cX6_isPlace 18 = .ok (.iconst 1, 1) := by decide +kernel
theorem dX6_isPlace_19 : decode cX6_isPlace 19 = .ok (.isub, 1) := by decide +kernel
theorem dX6_isPlace_20 : decode cX6_isPlace 20 = .ok (.invokestatic 57, 3) := by decide +kernel
theorem dX6_isPlace_23 : decode cX6_isPlace 23 = .ok (.ifCond .eq 48, 3) := by decide +kernel
theorem dX6_isPlace_26 : decode cX6_isPlace 26 = .ok (.iload_n 3, 1) := by decide +kernel
theorem dX6_isPlace_27 : decode cX6_isPlace 27 = .ok (.iconst 0, 1) := by decide +kernel
theorem dX6_isPlace_28 : decode cX6_isPlace 28 = .ok (.aload_n 0, 1) := by decide +kernel
theorem dX6_isPlace_29 : decode cX6_isPlace 29 = .ok (.getfield 13, 3) := by decide +kernel
theorem dX6_isPlace_32 : decode cX6_isPlace 32 = .ok (.iconst 3, 1) := by decide +kernel
theorem dX6_isPlace_33 : decode cX6_isPlace 33 = .ok (.iload_n 1, 1) := by decide +kernel
theorem dX6_isPlace_34 : decode cX6_isPlace 34 = .ok (.imul, 1) := by decide +kernel
theorem dX6_isPlace_35 : decode cX6_isPlace 35 = .ok (.iconst 1, 1) := by decide +kernel
theorem dX6_isPlace_36 : decode cX6_isPlace 36 = .ok (.iadd, 1) := by decide +kernel
theorem dX6_isPlace_37 : decode cX6_isPlace 37 = .ok (.iaload, 1) := by decide +kernel
theorem dX6_isPlace_38 : decode cX6_isPlace 38 = .ok (.iconst 1, 1) := by decide +kernel
theorem dX6_isPlace_39 : decode cX6_isPlace 39 = .ok (.isub, 1) := by decide +kernel
theorem dX6_isPlace_40 : decode cX6_isPlace 40 = .ok (.invokestatic 57, 3) := by decide +kernel
theorem dX6_isPlace_43 : decode cX6_isPlace 43 = .ok (.ifCond .eq 28, 3) := by decide +kernel
theorem dX6_isPlace_46 : decode cX6_isPlace 46 = .ok (.iload 4, 2) := by decide +kernel
theorem dX6_isPlace_48 : decode cX6_isPlace 48 = .ok (.iconst 0, 1) := by decide +kernel
theorem dX6_isPlace_49 : decode cX6_isPlace 49 = .ok (.aload_n 0, 1) := by decide +kernel
theorem dX6_isPlace_50 : decode cX6_isPlace 50 = .ok (.getfield 13, 3) := by decide +kernel
theorem dX6_isPlace_53 : decode cX6_isPlace 53 = .ok (.iconst 3, 1) := by decide +kernel
theorem dX6_isPlace_54 : decode cX6_isPlace 54 = .ok (.iload_n 1, 1) := by decide +kernel
theorem dX6_isPlace_55 : decode cX6_isPlace 55 = .ok (.imul, 1) := by decide +kernel
theorem dX6_isPlace_56 : decode cX6_isPlace 56 = .ok (.iconst 2, 1) := by decide +kernel
theorem dX6_isPlace_57 : decode cX6_isPlace 57 = .ok (.iadd, 1) := by decide +kernel
theorem dX6_isPlace_58 : decode cX6_isPlace 58 = .ok (.iaload, 1) := by decide +kernel
theorem dX6_isPlace_59 : decode cX6_isPlace 59 = .ok (.iconst 1, 1) := by decide +kernel
theorem dX6_isPlace_60 : decode cX6_isPlace 60 = .ok (.isub, 1) := by decide +kernel
theorem dX6_isPlace_61 : decode cX6_isPlace 61 = .ok (.invokestatic 57, 3) := by decide +kernel
theorem dX6_isPlace_64 : decode cX6_isPlace 64 = .ok (.ifCond .eq 7, 3) := by decide +kernel
theorem dX6_isPlace_67 : decode cX6_isPlace 67 = .ok (.iconst 1, 1) := by decide +kernel
theorem dX6_isPlace_68 : decode cX6_isPlace 68 = .ok (.goto 4, 3) := by decide +kernel
theorem dX6_isPlace_71 : decode cX6_isPlace 71 = .ok (.iconst 0, 1) := by decide +kernel
theorem dX6_isPlace_72 : decode cX6_isPlace 72 = .ok (.ireturn, 1) := by decide +kernel
abbrev rmX6_isPlace : Room := { frames := 3, cells := 0, slots := 0, locals := 63 }
theorem zyX6_isPlace : zyOK yX6_isPlace 4 := ⟨by decide +kernel, by decide +kernel, by decide +kernel⟩
set_option maxHeartbeats 4000000 in
set_option maxRecDepth 100000 in
theorem wX6_isPlace {G : ZG} (a0 : Nat) (a1 : Int32) (a2 : Int32) (a3 : Int32) (a4 : Int32) (S : ZS) (h0 : zFix G cX6_isPlace RX6 5 (some .boolean) rmX6_isPlace) (C : Option Int32 → Prop) (hC : ¬ C none) (hE : ∀ v : Int32, C (some v) → zEnd G (some (.int v)) S rmX6_isPlace) : zV G 5 S 0 0 0 [(0, .ref a0), (1, .int a1), (2, .int a2), (3, .int a3), (4, .int a4)] [] (C (fX6_isPlace a0 a1 a2 a3 a4 S)) := by
  have J72 : ∀ (s0_72 : Int32), zV G 5 S 0 0 72 [] [.int s0_72] (C (fX6_isPlace_J72 s0_72 S)) := by
    intro s0_72
    unfold fX6_isPlace_J72
    exact zr_zret C hC h0 rfl dX6_isPlace_72 (fun w h => hE _ h) (by decide) (by decide)
  have J71 : zV G 5 S 0 0 71 [] [] (C (fX6_isPlace_J71 S)) := by
    unfold fX6_isPlace_J71
    refine zr_iconst (0 : Int32) h0 (by decide) dX6_isPlace_71 (n := 72) rfl ?_
    exact J72 (0 : Int32)
  unfold fX6_isPlace
  refine zr_aload_n h0 dX6_isPlace_0 rfl (n := 1) rfl ?_
  refine zr_iload_n h0 dX6_isPlace_1 rfl (n := 2) rfl ?_
  refine zr_cRI C hC 0 0 (fun x hx => zk_V h0 zcX6 (zcl_ex hx) (fun l D z0 => kX6_isCube l D z0 a0 a1 S x (zcl_of hx)) zw_928 zw_930 zs_38 zw_5 zw_931 rfl zyX6_isCube (As := [.int a1]) (st := []) rfl (by decide) rfl (Nat.le_of_ble_eq_true rfl) (by decide) dX6_isPlace_2) rfl rfl (n := 5) rfl (fun x1 => ?_)
  refine zr_if_eq C (tgt := 71) h0 dX6_isPlace_5 (by decide) (n := 8) rfl ?_ ?_
  · refine zv_sub (lv' := []) ?_ (zsub_of [] rfl)
    exact J71
  · refine zr_iload_n h0 dX6_isPlace_8 rfl (n := 9) rfl ?_
    refine zr_iconst (0 : Int32) h0 (by decide) dX6_isPlace_9 (n := 10) rfl ?_
    refine zr_aload_n h0 dX6_isPlace_10 rfl (n := 11) rfl ?_
    refine zr_getR C hC h0 zcX6 (k := 3) (by decide) zw_822 dX6_isPlace_11 (n := 14) rfl (fun v2 => ?_)
    refine zr_iconst (3 : Int32) h0 (by decide) dX6_isPlace_14 (n := 15) rfl ?_
    refine zr_iload_n h0 dX6_isPlace_15 rfl (n := 16) rfl ?_
    refine zr_imul h0 dX6_isPlace_16 (n := 17) rfl ?_
    refine zr_iaload C hC h0 dX6_isPlace_17 (n := 18) rfl (fun v3 => ?_)
    refine zr_iconst (1 : Int32) h0 (by decide) dX6_isPlace_18 (n := 19) rfl ?_
    refine zr_isub h0 dX6_isPlace_19 (n := 20) rfl ?_
    refine zr_cRI C hC 0 0 (fun x hx => zk_S h0 (fun l D z0 => kX6_in l D z0 a2 (0 : Int32) (v3 - (1 : Int32)) S x hx) zw_898 zw_899 zw_5 zw_900 zyX6_in (As := [.int a2, .int (0 : Int32), .int (v3 - (1 : Int32))]) (st := []) rfl (by decide) rfl (Nat.le_of_ble_eq_true rfl) (by decide) dX6_isPlace_20) rfl rfl (n := 23) rfl (fun x4 => ?_)
    refine zr_if_eq C (tgt := 71) h0 dX6_isPlace_23 (by decide) (n := 26) rfl ?_ ?_
    · refine zv_sub (lv' := []) ?_ (zsub_of [] rfl)
      exact J71
    · refine zv_sub (lv' := [(0, .ref a0), (1, .int a1), (3, .int a3), (4, .int a4)]) ?_ (zsub_of [0, 1, 3, 4] rfl)
      refine zr_iload_n h0 dX6_isPlace_26 rfl (n := 27) rfl ?_
      refine zr_iconst (0 : Int32) h0 (by decide) dX6_isPlace_27 (n := 28) rfl ?_
      refine zr_aload_n h0 dX6_isPlace_28 rfl (n := 29) rfl ?_
      refine zr_getR C hC h0 zcX6 (k := 3) (by decide) zw_822 dX6_isPlace_29 (n := 32) rfl (fun v5 => ?_)
      refine zr_iconst (3 : Int32) h0 (by decide) dX6_isPlace_32 (n := 33) rfl ?_
      refine zr_iload_n h0 dX6_isPlace_33 rfl (n := 34) rfl ?_
      refine zr_imul h0 dX6_isPlace_34 (n := 35) rfl ?_
      refine zr_iconst (1 : Int32) h0 (by decide) dX6_isPlace_35 (n := 36) rfl ?_
      refine zr_iadd h0 dX6_isPlace_36 (n := 37) rfl ?_
      refine zr_iaload C hC h0 dX6_isPlace_37 (n := 38) rfl (fun v6 => ?_)
      refine zr_iconst (1 : Int32) h0 (by decide) dX6_isPlace_38 (n := 39) rfl ?_
      refine zr_isub h0 dX6_isPlace_39 (n := 40) rfl ?_
      refine zr_cRI C hC 0 0 (fun x hx => zk_S h0 (fun l D z0 => kX6_in l D z0 a3 (0 : Int32) (v6 - (1 : Int32)) S x hx) zw_898 zw_899 zw_5 zw_900 zyX6_in (As := [.int a3, .int (0 : Int32), .int (v6 - (1 : Int32))]) (st := []) rfl (by decide) rfl (Nat.le_of_ble_eq_true rfl) (by decide) dX6_isPlace_40) rfl rfl (n := 43) rfl (fun x7 => ?_)
      refine zr_if_eq C (tgt := 71) h0 dX6_isPlace_43 (by decide) (n := 46) rfl ?_ ?_
      · refine zv_sub (lv' := []) ?_ (zsub_of [] rfl)
        exact J71
      · refine zv_sub (lv' := [(0, .ref a0), (1, .int a1), (4, .int a4)]) ?_ (zsub_of [0, 1, 3] rfl)
        refine zr_iload h0 dX6_isPlace_46 rfl (n := 48) rfl ?_
        refine zr_iconst (0 : Int32) h0 (by decide) dX6_isPlace_48 (n := 49) rfl ?_
        refine zr_aload_n h0 dX6_isPlace_49 rfl (n := 50) rfl ?_
        refine zr_getR C hC h0 zcX6 (k := 3) (by decide) zw_822 dX6_isPlace_50 (n := 53) rfl (fun v8 => ?_)
        refine zr_iconst (3 : Int32) h0 (by decide) dX6_isPlace_53 (n := 54) rfl ?_
        refine zr_iload_n h0 dX6_isPlace_54 rfl (n := 55) rfl ?_
        refine zr_imul h0 dX6_isPlace_55 (n := 56) rfl ?_
        refine zr_iconst (2 : Int32) h0 (by decide) dX6_isPlace_56 (n := 57) rfl ?_
        refine zr_iadd h0 dX6_isPlace_57 (n := 58) rfl ?_
        refine zr_iaload C hC h0 dX6_isPlace_58 (n := 59) rfl (fun v9 => ?_)
        refine zr_iconst (1 : Int32) h0 (by decide) dX6_isPlace_59 (n := 60) rfl ?_
        refine zr_isub h0 dX6_isPlace_60 (n := 61) rfl ?_
        refine zr_cRI C hC 0 0 (fun x hx => zk_S h0 (fun l D z0 => kX6_in l D z0 a4 (0 : Int32) (v9 - (1 : Int32)) S x hx) zw_898 zw_899 zw_5 zw_900 zyX6_in (As := [.int a4, .int (0 : Int32), .int (v9 - (1 : Int32))]) (st := []) rfl (by decide) rfl (Nat.le_of_ble_eq_true rfl) (by decide) dX6_isPlace_61) rfl rfl (n := 64) rfl (fun x10 => ?_)
        refine zr_if_eq C (tgt := 71) h0 dX6_isPlace_64 (by decide) (n := 67) rfl ?_ ?_
        · refine zv_sub (lv' := []) ?_ (zsub_of [] rfl)
          exact J71
        · refine zv_sub (lv' := []) ?_ (zsub_of [] rfl)
          refine zr_iconst (1 : Int32) h0 (by decide) dX6_isPlace_67 (n := 68) rfl ?_
          refine zr_goto (tgt := 72) h0 dX6_isPlace_68 (by decide) ?_
          exact J72 (1 : Int32)
theorem kX6_isPlace (l : Launch) (D : ZD) (z0 : Nat) (a0 : Nat) (a1 : Int32) (a2 : Int32) (a3 : Int32) (a4 : Int32) (S : ZS) (x : Int32) (hf : fX6_isPlace a0 a1 a2 a3 a4 S = some x) : zMet l D z0 yX6_isPlace cX6_isPlace 5 (some .boolean) rmX6_isPlace [.ref a0, .int a1, .int a2, .int a3, .int a4] S (some (.int x)) S :=
  zMet_of (by decide) (Nat.le_of_ble_eq_true rfl) (fun G h0 hini hE => wX6_isPlace a0 a1 a2 a3 a4 S h0 (fun o => o = some x) (fun h => nomatch h) (fun v h => by cases h; exact hE)) hf
theorem dX6_set_0 : decode cX6_set 0 = .ok (.aload_n 0, 1) := by decide +kernel
theorem dX6_set_1 : decode cX6_set 1 = .ok (.iload_n 1, 1) := by decide +kernel
theorem dX6_set_2 : decode cX6_set 2 = .ok (.iload_n 2, 1) := by decide +kernel
theorem dX6_set_3 : decode cX6_set 3 = .ok (.iload_n 3, 1) := by decide +kernel
theorem dX6_set_4 : decode cX6_set 4 = .ok (.iload 4, 2) := by decide +kernel
theorem dX6_set_6 : decode cX6_set 6 = .ok (.invokevirtual 81, 3) := by decide +kernel
theorem dX6_set_9 : decode cX6_set 9 = .ok (.istore 6, 2) := by decide +kernel
theorem dX6_set_11 : decode cX6_set 11 = .ok (.aload_n 0, 1) := by decide +kernel
theorem dX6_set_12 : decode cX6_set 12 = .ok (.iload 6, 2) := by decide +kernel
theorem dX6_set_14 : decode cX6_set 14 = .ok (.ifCond .ne 7, 3) := by decide +kernel
theorem dX6_set_17 : decode cX6_set 17 = .ok (.iconst 1, 1) := by decide +kernel
theorem dX6_set_18 : decode cX6_set 18 = .ok (.goto 23, 3) := by decide +kernel
theorem dX6_set_21 : decode cX6_set 21 = .ok (.iload 5, 2) := by decide +kernel
theorem dX6_set_23 : decode cX6_set 23 = .ok (.iconst 0, 1) := by decide +kernel
theorem dX6_set_24 : decode cX6_set 24 = .ok (.aload_n 0, 1) := by decide +kernel
theorem dX6_set_25 : decode cX6_set 25 = .ok (.getfield 7, 3) := by decide +kernel
theorem dX6_set_28 : decode cX6_set 28 = .ok (.iconst 1, 1) := by decide +kernel
theorem dX6_set_29 : decode cX6_set 29 = .ok (.isub, 1) := by decide +kernel
theorem dX6_set_30 : decode cX6_set 30 = .ok (.invokestatic 57, 3) := by decide +kernel
theorem dX6_set_33 : decode cX6_set 33 = .ok (.ifCond .eq 7, 3) := by decide +kernel
theorem dX6_set_36 : decode cX6_set 36 = .ok (.iconst 0, 1) := by decide +kernel
theorem dX6_set_37 : decode cX6_set 37 = .ok (.goto 4, 3) := by decide +kernel
theorem dX6_set_40 : decode cX6_set 40 = .ok (.iconst 2, 1) := by decide +kernel
theorem dX6_set_41 : decode cX6_set 41 = .ok (.invokevirtual 64, 3) := by decide +kernel
theorem dX6_set_44 : decode cX6_set 44 = .ok (.ifCond .ne 5, 3) := by decide +kernel
theorem dX6_set_47 : decode cX6_set 47 = .ok (.iconst 0, 1) := by decide +kernel
theorem dX6_set_48 : decode cX6_set 48 = .ok (.ireturn, 1) := by decide +kernel
theorem dX6_set_49 : decode cX6_set 49 = .ok (.bipush 64, 2) := by decide +kernel
theorem dX6_set_51 : decode cX6_set 51 = .ok (.iload_n 1, 1) := by decide +kernel
theorem dX6_set_52 : decode cX6_set 52 = .ok (.imul, 1) := by decide +kernel
theorem dX6_set_53 : decode cX6_set 53 = .ok (.iload_n 2, 1) := by decide +kernel
theorem dX6_set_54 : decode cX6_set 54 = .ok (.iload_n 3, 1) := by decide +kernel
theorem dX6_set_55 : decode cX6_set 55 = .ok (.iload 4, 2) := by decide +kernel
theorem dX6_set_57 : decode cX6_set 57 = .ok (.invokestatic 75, 3) := by decide +kernel
theorem dX6_set_60 : decode cX6_set 60 = .ok (.iadd, 1) := by decide +kernel
theorem dX6_set_61 : decode cX6_set 61 = .ok (.istore 7, 2) := by decide +kernel
theorem dX6_set_63 : decode cX6_set 63 = .ok (.aload_n 0, 1) := by decide +kernel
theorem dX6_set_64 : decode cX6_set 64 = .ok (.getfield 17, 3) := by decide +kernel
theorem dX6_set_67 : decode cX6_set 67 = .ok (.iload 7, 2) := by decide +kernel
theorem dX6_set_69 : decode cX6_set 69 = .ok (.iaload, 1) := by decide +kernel
theorem dX6_set_70 : decode cX6_set 70 = .ok (.istore 8, 2) := by decide +kernel
theorem dX6_set_72 : decode cX6_set 72 = .ok (.aload_n 0, 1) := by decide +kernel
theorem dX6_set_73 : decode cX6_set 73 = .ok (.getfield 17, 3) := by decide +kernel
theorem dX6_set_76 : decode cX6_set 76 = .ok (.iload 7, 2) := by decide +kernel
theorem dX6_set_78 : decode cX6_set 78 = .ok (.iload 5, 2) := by decide +kernel
theorem dX6_set_80 : decode cX6_set 80 = .ok (.iastore, 1) := by decide +kernel
theorem dX6_set_81 : decode cX6_set 81 = .ok (.aload_n 0, 1) := by decide +kernel
theorem dX6_set_82 : decode cX6_set 82 = .ok (.getfield 20, 3) := by decide +kernel
theorem dX6_set_85 : decode cX6_set 85 = .ok (.iload_n 1, 1) := by decide +kernel
theorem dX6_set_86 : decode cX6_set 86 = .ok (.iconst 0, 1) := by decide +kernel
theorem dX6_set_87 : decode cX6_set 87 = .ok (.iastore, 1) := by decide +kernel
theorem dX6_set_88 : decode cX6_set 88 = .ok (.iload 8, 2) := by decide +kernel
theorem dX6_set_90 : decode cX6_set 90 = .ok (.ireturn, 1) := by decide +kernel
abbrev rmX6_set : Room := { frames := 4, cells := 0, slots := 0, locals := 87 }
theorem zyX6_set : zyOK yX6_set 5 := ⟨by decide +kernel, by decide +kernel, by decide +kernel⟩
set_option maxHeartbeats 4000000 in
set_option maxRecDepth 100000 in
theorem wX6_set {G : ZG} (a0 : Nat) (a1 : Int32) (a2 : Int32) (a3 : Int32) (a4 : Int32) (a5 : Int32) (S : ZS) (h0 : zFix G cX6_set RX6 9 (some .int) rmX6_set) (C : Option (Int32 × ZS) → Prop) (hC : ¬ C none) (hE : ∀ (v : Int32) (S1 : ZS), C (some (v, S1)) → zEnd G (some (.int v)) S1 rmX6_set) : zV G 9 S 0 0 0 [(0, .ref a0), (1, .int a1), (2, .int a2), (3, .int a3), (4, .int a4), (5, .int a5)] [] (C (fX6_set a0 a1 a2 a3 a4 a5 S)) := by
  have J41 : ∀ (l0_41 : Nat) (l1_41 : Int32) (l2_41 : Int32) (l3_41 : Int32) (l4_41 : Int32) (l5_41 : Int32) (s0_41 : Nat) (s1_41 : Int32) (S_41 : ZS), zV G 9 S_41 0 0 41 [(0, .ref l0_41), (1, .int l1_41), (2, .int l2_41), (3, .int l3_41), (4, .int l4_41), (5, .int l5_41)] [.int s1_41, .ref s0_41] (C (fX6_set_J41 l0_41 l1_41 l2_41 l3_41 l4_41 l5_41 s0_41 s1_41 S_41)) := by
    intro l0_41 l1_41 l2_41 l3_41 l4_41 l5_41 s0_41 s1_41 S_41
    unfold fX6_set_J41
    refine zr_cMI C hC 0 0 (fun x hx => zk_V h0 zcX6 (zcl_ex hx) (fun l D z0 => kX6_goesWell l D z0 s0_41 s1_41 S_41 x (zcl_of hx)) zw_886 zw_888 zs_34 zw_5 zw_889 rfl zyX6_goesWell (As := [.int s1_41]) (st := []) rfl (by decide) rfl (Nat.le_of_ble_eq_true rfl) (by decide) dX6_set_41) rfl rfl (n := 44) rfl (fun x12 => ?_)
    refine zr_if_ne C (tgt := 49) h0 dX6_set_44 (by decide) (n := 47) rfl ?_ ?_
    · refine zv_sub (lv' := []) ?_ (zsub_of [] rfl)
      refine zr_iconst (0 : Int32) h0 (by decide) dX6_set_47 (n := 48) rfl ?_
      exact zr_iret h0 rfl dX6_set_48 (hE _ _) (by decide) (by decide)
    · refine zr_bipush (64 : Int32) h0 (by decide) dX6_set_49 (n := 51) rfl ?_
      refine zr_iload_n h0 dX6_set_51 rfl (n := 52) rfl ?_
      refine zr_imul h0 dX6_set_52 (n := 53) rfl ?_
      refine zr_iload_n h0 dX6_set_53 rfl (n := 54) rfl ?_
      refine zr_iload_n h0 dX6_set_54 rfl (n := 55) rfl ?_
      refine zr_iload h0 dX6_set_55 rfl (n := 57) rfl ?_
      refine zr_cRI C hC 0 0 (fun x hx => zk_S h0 (fun l D z0 => kX6_place l D z0 l2_41 l3_41 l4_41 x12.2 x hx) zw_909 zw_910 zw_5 zw_911 zyX6_place (As := [.int l2_41, .int l3_41, .int l4_41]) (st := [.int ((64 : Int32) * l1_41)]) rfl (by decide) rfl (Nat.le_of_ble_eq_true rfl) (by decide) dX6_set_57) rfl rfl (n := 60) rfl (fun x13 => ?_)
      refine zr_iadd h0 dX6_set_60 (n := 61) rfl ?_
      refine zr_istore [(0, .ref l0_41), (1, .int l1_41), (2, .int l2_41), (3, .int l3_41), (4, .int l4_41), (5, .int l5_41), (7, .int (((64 : Int32) * l1_41) + x13))] h0 dX6_set_61 (by decide) rfl (n := 63) rfl ?_
      refine zr_aload_n h0 dX6_set_63 rfl (n := 64) rfl ?_
      refine zr_getR C hC h0 zcX6 (k := 4) (by decide) zw_823 dX6_set_64 (n := 67) rfl (fun v14 => ?_)
      refine zr_iload h0 dX6_set_67 rfl (n := 69) rfl ?_
      refine zr_iaload C hC h0 dX6_set_69 (n := 70) rfl (fun v15 => ?_)
      refine zr_istore [(0, .ref l0_41), (1, .int l1_41), (2, .int l2_41), (3, .int l3_41), (4, .int l4_41), (5, .int l5_41), (7, .int (((64 : Int32) * l1_41) + x13)), (8, .int v15)] h0 dX6_set_70 (by decide) rfl (n := 72) rfl ?_
      refine zr_aload_n h0 dX6_set_72 rfl (n := 73) rfl ?_
      refine zr_getR C hC h0 zcX6 (k := 4) (by decide) zw_823 dX6_set_73 (n := 76) rfl (fun v16 => ?_)
      refine zr_iload h0 dX6_set_76 rfl (n := 78) rfl ?_
      refine zr_iload h0 dX6_set_78 rfl (n := 80) rfl ?_
      refine zr_iastore C hC h0 dX6_set_80 (n := 81) rfl (fun S17 => ?_)
      refine zr_aload_n h0 dX6_set_81 rfl (n := 82) rfl ?_
      refine zr_getR C hC h0 zcX6 (k := 5) (by decide) zw_824 dX6_set_82 (n := 85) rfl (fun v18 => ?_)
      refine zr_iload_n h0 dX6_set_85 rfl (n := 86) rfl ?_
      refine zr_iconst (0 : Int32) h0 (by decide) dX6_set_86 (n := 87) rfl ?_
      refine zr_iastore C hC h0 dX6_set_87 (n := 88) rfl (fun S19 => ?_)
      refine zr_iload h0 dX6_set_88 rfl (n := 90) rfl ?_
      exact zr_iret h0 rfl dX6_set_90 (hE _ _) (by decide) (by decide)
  unfold fX6_set
  refine zr_aload_n h0 dX6_set_0 rfl (n := 1) rfl ?_
  refine zr_iload_n h0 dX6_set_1 rfl (n := 2) rfl ?_
  refine zr_iload_n h0 dX6_set_2 rfl (n := 3) rfl ?_
  refine zr_iload_n h0 dX6_set_3 rfl (n := 4) rfl ?_
  refine zr_iload h0 dX6_set_4 rfl (n := 6) rfl ?_
  refine zr_cRI C hC 0 0 (fun x hx => zk_V h0 zcX6 (zcl_ex hx) (fun l D z0 => kX6_isPlace l D z0 a0 a1 a2 a3 a4 S x (zcl_of hx)) zw_924 zw_926 zs_37 zw_5 zw_927 rfl zyX6_isPlace (As := [.int a1, .int a2, .int a3, .int a4]) (st := []) rfl (by decide) rfl (Nat.le_of_ble_eq_true rfl) (by decide) dX6_set_6) rfl rfl (n := 9) rfl (fun x1 => ?_)
  refine zr_istore [(0, .ref a0), (1, .int a1), (2, .int a2), (3, .int a3), (4, .int a4), (5, .int a5), (6, .int x1)] h0 dX6_set_9 (by decide) rfl (n := 11) rfl ?_
  refine zr_aload_n h0 dX6_set_11 rfl (n := 12) rfl ?_
  refine zr_iload h0 dX6_set_12 rfl (n := 14) rfl ?_
  refine zr_if_ne C (tgt := 21) h0 dX6_set_14 (by decide) (n := 17) rfl ?_ ?_
  · refine zv_sub (lv' := [(0, .ref a0), (1, .int a1), (2, .int a2), (3, .int a3), (4, .int a4), (5, .int a5)]) ?_ (zsub_of [0, 1, 2, 3, 4, 5] rfl)
    refine zr_iconst (1 : Int32) h0 (by decide) dX6_set_17 (n := 18) rfl ?_
    refine zr_goto (tgt := 41) h0 dX6_set_18 (by decide) ?_
    exact J41 a0 a1 a2 a3 a4 a5 a0 (1 : Int32) S
  · refine zv_sub (lv' := [(0, .ref a0), (1, .int a1), (2, .int a2), (3, .int a3), (4, .int a4), (5, .int a5)]) ?_ (zsub_of [0, 1, 2, 3, 4, 5] rfl)
    refine zr_iload h0 dX6_set_21 rfl (n := 23) rfl ?_
    refine zr_iconst (0 : Int32) h0 (by decide) dX6_set_23 (n := 24) rfl ?_
    refine zr_aload_n h0 dX6_set_24 rfl (n := 25) rfl ?_
    refine zr_getI C hC h0 zcX6 (k := 1) (by decide) zw_820 dX6_set_25 (n := 28) rfl (fun v10 => ?_)
    refine zr_iconst (1 : Int32) h0 (by decide) dX6_set_28 (n := 29) rfl ?_
    refine zr_isub h0 dX6_set_29 (n := 30) rfl ?_
    refine zr_cRI C hC 0 0 (fun x hx => zk_S h0 (fun l D z0 => kX6_in l D z0 a5 (0 : Int32) (v10 - (1 : Int32)) S x hx) zw_898 zw_899 zw_5 zw_900 zyX6_in (As := [.int a5, .int (0 : Int32), .int (v10 - (1 : Int32))]) (st := [.ref a0]) rfl (by decide) rfl (Nat.le_of_ble_eq_true rfl) (by decide) dX6_set_30) rfl rfl (n := 33) rfl (fun x11 => ?_)
    refine zr_if_eq C (tgt := 40) h0 dX6_set_33 (by decide) (n := 36) rfl ?_ ?_
    · refine zr_iconst (2 : Int32) h0 (by decide) dX6_set_40 (n := 41) rfl ?_
      exact J41 a0 a1 a2 a3 a4 a5 a0 (2 : Int32) S
    · refine zr_iconst (0 : Int32) h0 (by decide) dX6_set_36 (n := 37) rfl ?_
      refine zr_goto (tgt := 41) h0 dX6_set_37 (by decide) ?_
      exact J41 a0 a1 a2 a3 a4 a5 a0 (0 : Int32) S
theorem kX6_set (l : Launch) (D : ZD) (z0 : Nat) (a0 : Nat) (a1 : Int32) (a2 : Int32) (a3 : Int32) (a4 : Int32) (a5 : Int32) (S : ZS) (x : Int32 × ZS) (hf : fX6_set a0 a1 a2 a3 a4 a5 S = some x) : zMet l D z0 yX6_set cX6_set 9 (some .int) rmX6_set [.ref a0, .int a1, .int a2, .int a3, .int a4, .int a5] S (some (.int x.1)) x.2 :=
  zMet_of (by decide) (Nat.le_of_ble_eq_true rfl) (fun G h0 hini hE => wX6_set a0 a1 a2 a3 a4 a5 S h0 (fun o => o = some x) (fun h => nomatch h) (fun v S1 h => by cases h; exact hE)) hf
