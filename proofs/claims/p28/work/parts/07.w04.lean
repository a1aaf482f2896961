theorem dX5_ofWay_0 : decode cX5_ofWay 0 = .ok (.aload_n 0, 1) := by decide +kernel
theorem dX5_ofWay_1 : decode cX5_ofWay 1 = .ok (.iload_n 1, 1) := by decide +kernel
theorem dX5_ofWay_2 : decode cX5_ofWay 2 = .ok (.invokevirtual 148, 3) := by decide +kernel
theorem dX5_ofWay_5 : decode cX5_ofWay 5 = .ok (.astore_n 3, 1) := by decide +kernel
theorem dX5_ofWay_6 : decode cX5_ofWay 6 = .ok (.iload_n 2, 1) := by decide +kernel
theorem dX5_ofWay_7 : decode cX5_ofWay 7 = .ok (.ifCond .lt 8, 3) := by decide +kernel
theorem dX5_ofWay_10 : decode cX5_ofWay 10 = .ok (.iload_n 2, 1) := by decide +kernel
theorem dX5_ofWay_11 : decode cX5_ofWay 11 = .ok (.iconst 4, 1) := by decide +kernel
theorem dX5_ofWay_12 : decode cX5_ofWay 12 = .ok (.if_icmp .le 13, 3) := by decide +kernel
theorem dX5_ofWay_15 : decode cX5_ofWay 15 = .ok (.new 56, 3) := by decide +kernel
theorem dX5_ofWay_18 : decode cX5_ofWay 18 = .ok (.dup, 1) := by decide +kernel
theorem dX5_ofWay_19 : decode cX5_ofWay 19 = .ok (.ldc 214, 2) := by decide +kernel
theorem dX5_ofWay_21 : decode cX5_ofWay 21 = .ok (.invokespecial 60, 3) := by decide +kernel
theorem dX5_ofWay_24 : decode cX5_ofWay 24 = .ok (.athrow, 1) := by decide +kernel
theorem dX5_ofWay_25 : decode cX5_ofWay 25 = .ok (.iload_n 2, 1) := by decide +kernel
theorem dX5_ofWay_26 : decode cX5_ofWay 26 = .ok (.tableswitch 58 0 3 #[30, 35, 44, 51], 30) := by decide +kernel
theorem dX5_ofWay_56 : decode cX5_ofWay 56 = .ok (.aload_n 3, 1) := by decide +kernel
theorem dX5_ofWay_57 : decode cX5_ofWay 57 = .ok (.getfield 168, 3) := by decide +kernel
theorem dX5_ofWay_60 : decode cX5_ofWay 60 = .ok (.ireturn, 1) := by decide +kernel
theorem dX5_ofWay_61 : decode cX5_ofWay 61 = .ok (.aload_n 3, 1) := by decide +kernel
theorem dX5_ofWay_62 : decode cX5_ofWay 62 = .ok (.aload_n 0, 1) := by decide +kernel
theorem dX5_ofWay_63 : decode cX5_ofWay 63 = .ok (.getfield 42, 3) := by decide +kernel
theorem dX5_ofWay_66 : decode cX5_ofWay 66 = .ok (.invokevirtual 216, 3) := by decide +kernel
theorem dX5_ofWay_69 : decode cX5_ofWay 69 = .ok (.ireturn, 1) := by decide +kernel
theorem dX5_ofWay_70 : decode cX5_ofWay 70 = .ok (.aload_n 0, 1) := by decide +kernel
theorem dX5_ofWay_71 : decode cX5_ofWay 71 = .ok (.aload_n 3, 1) := by decide +kernel
theorem dX5_ofWay_72 : decode cX5_ofWay 72 = .ok (.iconst 0, 1) := by decide +kernel
theorem dX5_ofWay_73 : decode cX5_ofWay 73 = .ok (.invokevirtual 220, 3) := by decide +kernel
theorem dX5_ofWay_76 : decode cX5_ofWay 76 = .ok (.ireturn, 1) := by decide +kernel
theorem dX5_ofWay_77 : decode cX5_ofWay 77 = .ok (.aload_n 0, 1) := by decide +kernel
theorem dX5_ofWay_78 : decode cX5_ofWay 78 = .ok (.aload_n 3, 1) := by decide +kernel
theorem dX5_ofWay_79 : decode cX5_ofWay 79 = .ok (.iconst 1, 1) := by decide +kernel
theorem dX5_ofWay_80 : decode cX5_ofWay 80 = .ok (.invokevirtual 220, 3) := by decide +kernel
theorem dX5_ofWay_83 : decode cX5_ofWay 83 = .ok (.ireturn, 1) := by decide +kernel
theorem dX5_ofWay_84 : decode cX5_ofWay 84 = .ok (.aload_n 3, 1) := by decide +kernel
theorem dX5_ofWay_85 : decode cX5_ofWay 85 = .ok (.invokevirtual 224, 3) := by decide +kernel
theorem dX5_ofWay_88 : decode cX5_ofWay 88 = .ok (.ireturn, 1) := by decide +kernel
abbrev rmX5_ofWay : Room := { frames := 7, cells := 2, slots := 12, locals := 162 }
theorem zyX5_ofWay : zyOK yX5_ofWay 2 := ⟨by decide +kernel, by decide +kernel, by decide +kernel⟩
set_option maxHeartbeats 4000000 in
set_option maxRecDepth 100000 in
theorem wX5_ofWay {G : ZG} (a0 : Nat) (a1 : Int32) (a2 : Int32) (S : ZS) (h0 : zFix G cX5_ofWay RX5 4 (some .int) rmX5_ofWay) (C : Option ((Int32 × ZS) ⊕ ZX) → Prop) (hC : ¬ C none) (hnt : zNoTab G) (hE : ∀ (v : Int32) (S1 : ZS), C (some (.inl (v, S1))) → zEndT G (some (.int v)) S1 rmX5_ofWay) (hEx : ∀ (E : String) (h : ZH), C (some (.inr (E, h))) → zEndX G E h rmX5_ofWay) : zV G 4 S 0 0 0 [(0, .ref a0), (1, .int a1), (2, .int a2)] [] (C (fX5_ofWay a0 a1 a2 S)) := by
  have J15 : ∀  (S_15 : ZS), zV G 4 S_15 1 6 15 [] [] (C (fX5_ofWay_J15 S_15)) := by
    intro  S_15
    unfold fX5_ofWay_J15
    exact zr_throw h0 hnt (cls := "java/lang/IllegalArgumentException") (text := "what is out of range") (names := ["java/lang/RuntimeException", "java/lang/Exception"]) (by decide +kernel) zfitN zw_118 zw_8 (by decide +kernel) (by decide +kernel) zat_X5_60 zbad_X5_60 zgd_X5_60 dX5_ofWay_15 dX5_ofWay_18 dX5_ofWay_19 dX5_ofWay_21 dX5_ofWay_24 (by decide) (Nat.le_of_ble_eq_true rfl) (by decide) (by decide) (fun h => hEx _ _ h)
  unfold fX5_ofWay
  refine zr_aload_n h0 dX5_ofWay_0 rfl (n := 1) rfl ?_
  refine zr_iload_n h0 dX5_ofWay_1 rfl (n := 2) rfl ?_
  refine zr_cTR C hC 1 6 h0 (fun x hx => zk_VT h0 zcX5 (zcl_ex hx) (fun l D z0 hlt => kX5_needWay l D z0 hlt a0 a1 S x (zcl_of hx)) hnt zw_430 zw_432 zs_3 zw_1 zw_433 rfl zyX5_needWay (As := [.int a1]) (st := []) rfl (by decide) rfl (Nat.le_of_ble_eq_true rfl) (by decide) dX5_ofWay_2) hnt rfl rfl (by decide) (by decide) (n := 5) rfl (fun z h => hEx _ _ h) (fun x1 => ?_)
  refine zr_astore_n [(0, .ref a0), (1, .int a1), (2, .int a2), (3, .ref x1.1)] h0 dX5_ofWay_5 (by decide) rfl (n := 6) rfl ?_
  refine zr_iload_n h0 dX5_ofWay_6 rfl (n := 7) rfl ?_
  refine zr_if_lt C (tgt := 15) h0 dX5_ofWay_7 (by decide) (n := 10) rfl ?_ ?_
  · refine zv_sub (lv' := []) ?_ (zsub_of [] rfl)
    exact J15 x1.2
  · refine zv_sub (lv' := [(0, .ref a0), (2, .int a2), (3, .ref x1.1)]) ?_ (zsub_of [0, 2, 3] rfl)
    refine zr_iload_n h0 dX5_ofWay_10 rfl (n := 11) rfl ?_
    refine zr_iconst (4 : Int32) h0 (by decide) dX5_ofWay_11 (n := 12) rfl ?_
    refine zr_icmp_le C (tgt := 25) h0 dX5_ofWay_12 (by decide) (n := 15) rfl ?_ ?_
    · refine zr_iload_n h0 dX5_ofWay_25 rfl (n := 26) rfl ?_
      refine zr_switch C [56, 61, 70, 77] 84 h0 dX5_ofWay_26 rfl (by decide) (by decide) (zsw_all ?_) ?_
      · refine ⟨?_, ?_, ?_, ?_, trivial⟩
        · refine zv_sub (lv' := [(3, .ref x1.1)]) ?_ (zsub_of [2] rfl)
          refine zr_aload_n h0 dX5_ofWay_56 rfl (n := 57) rfl ?_
          refine zr_getI C hC h0 zcX4 (k := 3) (by decide) zw_413 dX5_ofWay_57 (n := 60) rfl (fun v2 => ?_)
          exact zr_iretT h0 rfl dX5_ofWay_60 (hE _ _) (by decide) (by decide)
        · refine zv_sub (lv' := [(0, .ref a0), (3, .ref x1.1)]) ?_ (zsub_of [0, 2] rfl)
          refine zr_aload_n h0 dX5_ofWay_61 rfl (n := 62) rfl ?_
          refine zr_aload_n h0 dX5_ofWay_62 rfl (n := 63) rfl ?_
          refine zr_getR C hC h0 zcX5 (k := 5) (by decide) zw_79 dX5_ofWay_63 (n := 66) rfl (fun v3 => ?_)
          refine zr_cMI C hC 1 6 (fun x hx => zk_V h0 zcX4 (zcl_ex hx) (fun l D z0 => kX4_countWrongPlaces l D z0 x1.1 v3 x1.2 x (zcl_of hx)) zw_799 zw_800 zw_801 zw_12 zw_802 rfl zyX4_countWrongPlaces (As := [.ref v3]) (st := []) rfl (by decide) rfl (Nat.le_of_ble_eq_true rfl) (by decide) dX5_ofWay_66) rfl rfl (n := 69) rfl (fun x4 => ?_)
          exact zr_iretT h0 rfl dX5_ofWay_69 (hE _ _) (by decide) (by decide)
        · refine zv_sub (lv' := [(0, .ref a0), (3, .ref x1.1)]) ?_ (zsub_of [0, 2] rfl)
          refine zr_aload_n h0 dX5_ofWay_70 rfl (n := 71) rfl ?_
          refine zr_aload_n h0 dX5_ofWay_71 rfl (n := 72) rfl ?_
          refine zr_iconst (0 : Int32) h0 (by decide) dX5_ofWay_72 (n := 73) rfl ?_
          refine zr_cMI C hC 1 6 (fun x hx => zk_V h0 zcX5 (zcl_ex hx) (fun l D z0 => kX5_countAdditions l D z0 a0 x1.1 (0 : Int32) x1.2 x (zcl_of hx)) zw_734 zw_736 zs_27 zw_1 zw_737 rfl zyX5_countAdditions (As := [.ref x1.1, .int (0 : Int32)]) (st := []) rfl (by decide) rfl (Nat.le_of_ble_eq_true rfl) (by decide) dX5_ofWay_73) rfl rfl (n := 76) rfl (fun x5 => ?_)
          exact zr_iretT h0 rfl dX5_ofWay_76 (hE _ _) (by decide) (by decide)
        · refine zv_sub (lv' := [(0, .ref a0), (3, .ref x1.1)]) ?_ (zsub_of [0, 2] rfl)
          refine zr_aload_n h0 dX5_ofWay_77 rfl (n := 78) rfl ?_
          refine zr_aload_n h0 dX5_ofWay_78 rfl (n := 79) rfl ?_
          refine zr_iconst (1 : Int32) h0 (by decide) dX5_ofWay_79 (n := 80) rfl ?_
          refine zr_cMI C hC 1 6 (fun x hx => zk_V h0 zcX5 (zcl_ex hx) (fun l D z0 => kX5_countAdditions l D z0 a0 x1.1 (1 : Int32) x1.2 x (zcl_of hx)) zw_734 zw_736 zs_27 zw_1 zw_737 rfl zyX5_countAdditions (As := [.ref x1.1, .int (1 : Int32)]) (st := []) rfl (by decide) rfl (Nat.le_of_ble_eq_true rfl) (by decide) dX5_ofWay_80) rfl rfl (n := 83) rfl (fun x6 => ?_)
          exact zr_iretT h0 rfl dX5_ofWay_83 (hE _ _) (by decide) (by decide)
      · refine zv_sub (lv' := [(3, .ref x1.1)]) ?_ (zsub_of [2] rfl)
        refine zr_aload_n h0 dX5_ofWay_84 rfl (n := 85) rfl ?_
        refine zr_cRI C hC 1 6 (fun x hx => zk_V h0 zcX4 (zcl_ex hx) (fun l D z0 => kX4_greatestGrowth l D z0 x1.1 x1.2 x (zcl_of hx)) zw_808 zw_809 zw_810 zw_12 zw_811 rfl zyX4_greatestGrowth (As := []) (st := []) rfl (by decide) rfl (Nat.le_of_ble_eq_true rfl) (by decide) dX5_ofWay_85) rfl rfl (n := 88) rfl (fun x7 => ?_)
        exact zr_iretT h0 rfl dX5_ofWay_88 (hE _ _) (by decide) (by decide)
    · refine zv_sub (lv' := []) ?_ (zsub_of [] rfl)
      exact J15 x1.2
theorem kX5_ofWay (l : Launch) (D : ZD) (z0 : Nat) (hlt : l.stackTraces = false) (a0 : Nat) (a1 : Int32) (a2 : Int32) (S : ZS) (x : ((Int32 × ZS) ⊕ ZX)) (hf : fX5_ofWay a0 a1 a2 S = some x) : zMetT l D z0 yX5_ofWay cX5_ofWay 4 (some .int) rmX5_ofWay [.ref a0, .int a1, .int a2] S (x.map (fun y => ((some (.int y.1)), y.2)) id) :=
  zMetT_of hlt (by decide) (Nat.le_of_ble_eq_true rfl) (fun G h0 hnt hE hEx => wX5_ofWay a0 a1 a2 S h0 (fun o => o = some x) (fun h => nomatch h) hnt (fun v S1 h => by cases h; exact hE _ _ rfl) (fun E h hh => by cases hh; exact hEx _ _ rfl)) hf
theorem dX5_vector_0 : decode cX5_vector 0 = .ok (.aload_n 0, 1) := by decide +kernel
theorem dX5_vector_1 : decode cX5_vector 1 = .ok (.iload_n 1, 1) := by decide +kernel
theorem dX5_vector_2 : decode cX5_vector 2 = .ok (.invokevirtual 148, 3) := by decide +kernel
theorem dX5_vector_5 : decode cX5_vector 5 = .ok (.astore 4, 2) := by decide +kernel
theorem dX5_vector_7 : decode cX5_vector 7 = .ok (.aload 4, 2) := by decide +kernel
theorem dX5_vector_9 : decode cX5_vector 9 = .ok (.iload_n 2, 1) := by decide +kernel
theorem dX5_vector_10 : decode cX5_vector 10 = .ok (.invokestatic 174, 3) := by decide +kernel
theorem dX5_vector_13 : decode cX5_vector 13 = .ok (.iload_n 3, 1) := by decide +kernel
theorem dX5_vector_14 : decode cX5_vector 14 = .ok (.invokestatic 101, 3) := by decide +kernel
theorem dX5_vector_17 : decode cX5_vector 17 = .ok (.aload 4, 2) := by decide +kernel
theorem dX5_vector_19 : decode cX5_vector 19 = .ok (.iload_n 2, 1) := by decide +kernel
theorem dX5_vector_20 : decode cX5_vector 20 = .ok (.iload_n 3, 1) := by decide +kernel
theorem dX5_vector_21 : decode cX5_vector 21 = .ok (.invokevirtual 227, 3) := by decide +kernel
theorem dX5_vector_24 : decode cX5_vector 24 = .ok (.ireturn, 1) := by decide +kernel
abbrev rmX5_vector : Room := { frames := 7, cells := 3, slots := 18, locals := 112 }
theorem zyX5_vector : zyOK yX5_vector 3 := ⟨by decide +kernel, by decide +kernel, by decide +kernel⟩
set_option maxHeartbeats 4000000 in
set_option maxRecDepth 100000 in
theorem wX5_vector {G : ZG} (a0 : Nat) (a1 : Int32) (a2 : Int32) (a3 : Int32) (S : ZS) (h0 : zFix G cX5_vector RX5 5 (some .int) rmX5_vector) (C : Option ((Int32 × ZS) ⊕ ZX) → Prop) (hC : ¬ C none) (hnt : zNoTab G) (hE : ∀ (v : Int32) (S1 : ZS), C (some (.inl (v, S1))) → zEndT G (some (.int v)) S1 rmX5_vector) (hEx : ∀ (E : String) (h : ZH), C (some (.inr (E, h))) → zEndX G E h rmX5_vector) : zV G 5 S 0 0 0 [(0, .ref a0), (1, .int a1), (2, .int a2), (3, .int a3)] [] (C (fX5_vector a0 a1 a2 a3 S)) := by
  unfold fX5_vector
  refine zr_aload_n h0 dX5_vector_0 rfl (n := 1) rfl ?_
  refine zr_iload_n h0 dX5_vector_1 rfl (n := 2) rfl ?_
  refine zr_cTR C hC 1 6 h0 (fun x hx => zk_VT h0 zcX5 (zcl_ex hx) (fun l D z0 hlt => kX5_needWay l D z0 hlt a0 a1 S x (zcl_of hx)) hnt zw_430 zw_432 zs_3 zw_1 zw_433 rfl zyX5_needWay (As := [.int a1]) (st := []) rfl (by decide) rfl (Nat.le_of_ble_eq_true rfl) (by decide) dX5_vector_2) hnt rfl rfl (by decide) (by decide) (n := 5) rfl (fun z h => hEx _ _ h) (fun x1 => ?_)
  refine zr_astore [(0, .ref a0), (1, .int a1), (2, .int a2), (3, .int a3), (4, .ref x1.1)] h0 dX5_vector_5 (by decide) rfl (n := 7) rfl ?_
  refine zr_aload h0 dX5_vector_7 rfl (n := 9) rfl ?_
  refine zr_iload_n h0 dX5_vector_9 rfl (n := 10) rfl ?_
  refine zr_cTV C hC 2 12 h0 (fun x hx => zk_ST h0 (fun l D z0 hlt => kX5_needProduct l D z0 hlt x1.1 a2 x1.2 x hx) hnt zw_478 zw_479 zw_1 zw_480 zyX5_needProduct (As := [.ref x1.1, .int a2]) (st := []) rfl (by decide) rfl (Nat.le_of_ble_eq_true rfl) (by decide) dX5_vector_10) hnt rfl rfl (by decide) (by decide) (n := 13) rfl (fun z h => hEx _ _ h) (fun x2 => ?_)
  refine zr_iload_n h0 dX5_vector_13 rfl (n := 14) rfl ?_
  refine zr_cTV C hC 3 18 h0 (fun x hx => zk_ST h0 (fun l D z0 hlt => kX5_needSide l D z0 hlt a3 x2.2 x hx) hnt zw_338 zw_339 zw_1 zw_340 zyX5_needSide (As := [.int a3]) (st := []) rfl (by decide) rfl (Nat.le_of_ble_eq_true rfl) (by decide) dX5_vector_14) hnt rfl rfl (by decide) (by decide) (n := 17) rfl (fun z h => hEx _ _ h) (fun x3 => ?_)
  refine zr_aload h0 dX5_vector_17 rfl (n := 19) rfl ?_
  refine zr_iload_n h0 dX5_vector_19 rfl (n := 20) rfl ?_
  refine zr_iload_n h0 dX5_vector_20 rfl (n := 21) rfl ?_
  refine zr_cRI C hC 3 18 (fun x hx => zk_V h0 zcX4 (zcl_ex hx) (fun l D z0 => kX4_code l D z0 x1.1 a2 a3 x3.2 x (zcl_of hx)) zw_690 zw_488 zw_489 zw_12 zw_490 rfl zyX4_code (As := [.int a2, .int a3]) (st := []) rfl (by decide) rfl (Nat.le_of_ble_eq_true rfl) (by decide) dX5_vector_21) rfl rfl (n := 24) rfl (fun x4 => ?_)
  exact zr_iretT h0 rfl dX5_vector_24 (hE _ _) (by decide) (by decide)
theorem kX5_vector (l : Launch) (D : ZD) (z0 : Nat) (hlt : l.stackTraces = false) (a0 : Nat) (a1 : Int32) (a2 : Int32) (a3 : Int32) (S : ZS) (x : ((Int32 × ZS) ⊕ ZX)) (hf : fX5_vector a0 a1 a2 a3 S = some x) : zMetT l D z0 yX5_vector cX5_vector 5 (some .int) rmX5_vector [.ref a0, .int a1, .int a2, .int a3] S (x.map (fun y => ((some (.int y.1)), y.2)) id) :=
  zMetT_of hlt (by decide) (Nat.le_of_ble_eq_true rfl) (fun G h0 hnt hE hEx => wX5_vector a0 a1 a2 a3 S h0 (fun o => o = some x) (fun h => nomatch h) hnt (fun v S1 h => by cases h; exact hE _ _ rfl) (fun E h hh => by cases hh; exact hEx _ _ rfl)) hf
theorem dX5_needFactors_0 : decode cX5_needFactors 0 = .ok (.iload 4, 2) := by decide +kernel
theorem dX5_needFactors_2 : decode cX5_needFactors 2 = .ok (.aload_n 1, 1) := by decide +kernel
theorem dX5_needFactors_3 : decode cX5_needFactors 3 = .ok (.getfield 152, 3) := by decide +kernel
theorem dX5_needFactors_6 : decode cX5_needFactors 6 = .ok (.getfield 132, 3) := by decide +kernel
theorem dX5_needFactors_9 : decode cX5_needFactors 9 = .ok (.invokestatic 261, 3) := by decide +kernel
theorem dX5_needFactors_12 : decode cX5_needFactors 12 = .ok (.ifCond .ne 14, 3) := by decide +kernel
theorem dX5_needFactors_15 : decode cX5_needFactors 15 = .ok (.new 254, 3) := by decide +kernel
theorem dX5_needFactors_18 : decode cX5_needFactors 18 = .ok (.dup, 1) := by decide +kernel
theorem dX5_needFactors_19 : decode cX5_needFactors 19 = .ok (.ldc_w 265, 3) := by decide +kernel
theorem dX5_needFactors_22 : decode cX5_needFactors 22 = .ok (.invokespecial 258, 3) := by decide +kernel
theorem dX5_needFactors_25 : decode cX5_needFactors 25 = .ok (.athrow, 1) := by decide +kernel
theorem dX5_needFactors_26 : decode cX5_needFactors 26 = .ok (.aload_n 0, 1) := by decide +kernel
theorem dX5_needFactors_27 : decode cX5_needFactors 27 = .ok (.iload_n 2, 1) := by decide +kernel
theorem dX5_needFactors_28 : decode cX5_needFactors 28 = .ok (.aload_n 1, 1) := by decide +kernel
theorem dX5_needFactors_29 : decode cX5_needFactors 29 = .ok (.getfield 152, 3) := by decide +kernel
theorem dX5_needFactors_32 : decode cX5_needFactors 32 = .ok (.getfield 126, 3) := by decide +kernel
theorem dX5_needFactors_35 : decode cX5_needFactors 35 = .ok (.invokevirtual 156, 3) := by decide +kernel
theorem dX5_needFactors_38 : decode cX5_needFactors 38 = .ok (.aload_n 0, 1) := by decide +kernel
theorem dX5_needFactors_39 : decode cX5_needFactors 39 = .ok (.iload_n 3, 1) := by decide +kernel
theorem dX5_needFactors_40 : decode cX5_needFactors 40 = .ok (.aload_n 1, 1) := by decide +kernel
theorem dX5_needFactors_41 : decode cX5_needFactors 41 = .ok (.getfield 152, 3) := by decide +kernel
theorem dX5_needFactors_44 : decode cX5_needFactors 44 = .ok (.getfield 129, 3) := by decide +kernel
theorem dX5_needFactors_47 : decode cX5_needFactors 47 = .ok (.invokevirtual 156, 3) := by decide +kernel
theorem dX5_needFactors_50 : decode cX5_needFactors 50 = .ok (.return_, 1) := by decide +kernel
abbrev rmX5_needFactors : Room := { frames := 7, cells := 2, slots := 12, locals := 112 }
theorem zyX5_needFactors : zyOK yX5_needFactors 4 := ⟨by decide +kernel, by decide +kernel, by decide +kernel⟩
set_option maxHeartbeats 4000000 in
set_option maxRecDepth 100000 in
theorem wX5_needFactors {G : ZG} (a0 : Nat) (a1 : Nat) (a2 : Int32) (a3 : Int32) (a4 : Int32) (S : ZS) (h0 : zFix G cX5_needFactors RX5 5 none rmX5_needFactors) (C : Option ((Unit × ZS) ⊕ ZX) → Prop) (hC : ¬ C none) (hnt : zNoTab G) (hE : ∀ (v : Unit) (S1 : ZS), C (some (.inl (v, S1))) → zEndT G none S1 rmX5_needFactors) (hEx : ∀ (E : String) (h : ZH), C (some (.inr (E, h))) → zEndX G E h rmX5_needFactors) : zV G 5 S 0 0 0 [(0, .ref a0), (1, .ref a1), (2, .int a2), (3, .int a3), (4, .int a4)] [] (C (fX5_needFactors a0 a1 a2 a3 a4 S)) := by
  unfold fX5_needFactors
  refine zr_iload h0 dX5_needFactors_0 rfl (n := 2) rfl ?_
  refine zr_aload_n h0 dX5_needFactors_2 rfl (n := 3) rfl ?_
  refine zr_getR C hC h0 zcX4 (k := 0) (by decide) zw_409 dX5_needFactors_3 (n := 6) rfl (fun v1 => ?_)
  refine zr_getI C hC h0 zcX0 (k := 2) (by decide) zw_238 dX5_needFactors_6 (n := 9) rfl (fun v2 => ?_)
  refine zr_cRI C hC 0 0 (fun x hx => zk_S h0 (fun l D z0 => kX5_isBelow l D z0 a4 v2 S x hx) zw_319 zw_320 zw_1 zw_321 zyX5_isBelow (As := [.int a4, .int v2]) (st := []) rfl (by decide) rfl (Nat.le_of_ble_eq_true rfl) (by decide) dX5_needFactors_9) rfl rfl (n := 12) rfl (fun x3 => ?_)
  refine zr_if_ne C (tgt := 26) h0 dX5_needFactors_12 (by decide) (n := 15) rfl ?_ ?_
  · refine zv_sub (lv' := []) ?_ (zsub_of [] rfl)
    exact zr_throwW h0 hnt (cls := "java/lang/IndexOutOfBoundsException") (text := "there is no such place") (names := ["java/lang/RuntimeException", "java/lang/Exception"]) (by decide +kernel) zfitN zw_300 zw_11 (by decide +kernel) (by decide +kernel) zat_X5_258 zbad_X5_258 zgd_X5_258 dX5_needFactors_15 dX5_needFactors_18 dX5_needFactors_19 dX5_needFactors_22 dX5_needFactors_25 (by decide) (Nat.le_of_ble_eq_true rfl) (by decide) (by decide) (fun h => hEx _ _ h)
  · refine zv_sub (lv' := [(0, .ref a0), (1, .ref a1), (2, .int a2), (3, .int a3)]) ?_ (zsub_of [0, 1, 2, 3] rfl)
    refine zr_aload_n h0 dX5_needFactors_26 rfl (n := 27) rfl ?_
    refine zr_iload_n h0 dX5_needFactors_27 rfl (n := 28) rfl ?_
    refine zr_aload_n h0 dX5_needFactors_28 rfl (n := 29) rfl ?_
    refine zr_getR C hC h0 zcX4 (k := 0) (by decide) zw_409 dX5_needFactors_29 (n := 32) rfl (fun v4 => ?_)
    refine zr_getI C hC h0 zcX0 (k := 0) (by decide) zw_230 dX5_needFactors_32 (n := 35) rfl (fun v5 => ?_)
    refine zr_cTV C hC 1 6 h0 (fun x hx => zk_VT h0 zcX5 (zcl_ex hx) (fun l D z0 hlt => kX5_needCode l D z0 hlt a0 a2 v5 S x (zcl_of hx)) hnt zw_435 zw_437 zs_4 zw_1 zw_438 rfl zyX5_needCode (As := [.int a2, .int v5]) (st := []) rfl (by decide) rfl (Nat.le_of_ble_eq_true rfl) (by decide) dX5_needFactors_35) hnt rfl rfl (by decide) (by decide) (n := 38) rfl (fun z h => hEx _ _ h) (fun x6 => ?_)
    refine zr_aload_n h0 dX5_needFactors_38 rfl (n := 39) rfl ?_
    refine zr_iload_n h0 dX5_needFactors_39 rfl (n := 40) rfl ?_
    refine zr_aload_n h0 dX5_needFactors_40 rfl (n := 41) rfl ?_
    refine zr_getR C hC h0 zcX4 (k := 0) (by decide) zw_409 dX5_needFactors_41 (n := 44) rfl (fun v7 => ?_)
    refine zr_getI C hC h0 zcX0 (k := 1) (by decide) zw_234 dX5_needFactors_44 (n := 47) rfl (fun v8 => ?_)
    refine zr_cTV C hC 2 12 h0 (fun x hx => zk_VT h0 zcX5 (zcl_ex hx) (fun l D z0 hlt => kX5_needCode l D z0 hlt a0 a3 v8 x6.2 x (zcl_of hx)) hnt zw_435 zw_437 zs_4 zw_1 zw_438 rfl zyX5_needCode (As := [.int a3, .int v8]) (st := []) rfl (by decide) rfl (Nat.le_of_ble_eq_true rfl) (by decide) dX5_needFactors_47) hnt rfl rfl (by decide) (by decide) (n := 50) rfl (fun z h => hEx _ _ h) (fun x9 => ?_)
    exact zr_vretT h0 rfl dX5_needFactors_50 (fun h => hE _ _ h) (by decide) (by decide)
theorem kX5_needFactors (l : Launch) (D : ZD) (z0 : Nat) (hlt : l.stackTraces = false) (a0 : Nat) (a1 : Nat) (a2 : Int32) (a3 : Int32) (a4 : Int32) (S : ZS) (x : ((Unit × ZS) ⊕ ZX)) (hf : fX5_needFactors a0 a1 a2 a3 a4 S = some x) : zMetT l D z0 yX5_needFactors cX5_needFactors 5 none rmX5_needFactors [.ref a0, .ref a1, .int a2, .int a3, .int a4] S (x.map (fun y => (none, y.2)) id) :=
  zMetT_of hlt (by decide) (Nat.le_of_ble_eq_true rfl) (fun G h0 hnt hE hEx => wX5_needFactors a0 a1 a2 a3 a4 S h0 (fun o => o = some x) (fun h => nomatch h) hnt (fun v S1 h => by cases h; exact hE _ _ rfl) (fun E h hh => by cases hh; exact hEx _ _ rfl)) hf
theorem dX5_multipliedCodes_0 : decode cX5_multipliedCodes 0 = .ok (.iconst 0, 1) := by decide +kernel
theorem dX5_multipliedCodes_1 : decode cX5_multipliedCodes 1 = .ok (.istore 4, 2) := by decide +kernel
theorem dX5_multipliedCodes_3 : decode cX5_multipliedCodes 3 = .ok (.iconst 0, 1) := by decide +kernel
theorem dX5_multipliedCodes_4 : decode cX5_multipliedCodes 4 = .ok (.istore 5, 2) := by decide +kernel
theorem dX5_multipliedCodes_6 : decode cX5_multipliedCodes 6 = .ok (.iload 5, 2) := by decide +kernel
theorem dX5_multipliedCodes_8 : decode cX5_multipliedCodes 8 = .ok (.iload_n 2, 1) := by decide +kernel
theorem dX5_multipliedCodes_9 : decode cX5_multipliedCodes 9 = .ok (.if_icmp .ge 31, 3) := by decide +kernel
theorem dX5_multipliedCodes_12 : decode cX5_multipliedCodes 12 = .ok (.iload 4, 2) := by decide +kernel
theorem dX5_multipliedCodes_14 : decode cX5_multipliedCodes 14 = .ok (.iload_n 0, 1) := by decide +kernel
theorem dX5_multipliedCodes_15 : decode cX5_multipliedCodes 15 = .ok (.iload_n 2, 1) := by decide +kernel
theorem dX5_multipliedCodes_16 : decode cX5_multipliedCodes 16 = .ok (.iload 5, 2) := by decide +kernel
theorem dX5_multipliedCodes_18 : decode cX5_multipliedCodes 18 = .ok (.iload_n 3, 1) := by decide +kernel
theorem dX5_multipliedCodes_19 : decode cX5_multipliedCodes 19 = .ok (.invokestatic 307, 3) := by decide +kernel
theorem dX5_multipliedCodes_22 : decode cX5_multipliedCodes 22 = .ok (.iload_n 1, 1) := by decide +kernel
theorem dX5_multipliedCodes_23 : decode cX5_multipliedCodes 23 = .ok (.iload_n 2, 1) := by decide +kernel
theorem dX5_multipliedCodes_24 : decode cX5_multipliedCodes 24 = .ok (.iload 5, 2) := by decide +kernel
theorem dX5_multipliedCodes_26 : decode cX5_multipliedCodes 26 = .ok (.iload_n 3, 1) := by decide +kernel
theorem dX5_multipliedCodes_27 : decode cX5_multipliedCodes 27 = .ok (.invokestatic 307, 3) := by decide +kernel
theorem dX5_multipliedCodes_30 : decode cX5_multipliedCodes 30 = .ok (.imul, 1) := by decide +kernel
theorem dX5_multipliedCodes_31 : decode cX5_multipliedCodes 31 = .ok (.iadd, 1) := by decide +kernel
theorem dX5_multipliedCodes_32 : decode cX5_multipliedCodes 32 = .ok (.istore 4, 2) := by decide +kernel
theorem dX5_multipliedCodes_34 : decode cX5_multipliedCodes 34 = .ok (.iinc 5 1, 3) := by decide +kernel
theorem dX5_multipliedCodes_37 : decode cX5_multipliedCodes 37 = .ok (.goto (-31), 3) := by decide +kernel
theorem dX5_multipliedCodes_40 : decode cX5_multipliedCodes 40 = .ok (.iload 4, 2) := by decide +kernel
theorem dX5_multipliedCodes_42 : decode cX5_multipliedCodes 42 = .ok (.iload_n 3, 1) := by decide +kernel
theorem dX5_multipliedCodes_43 : decode cX5_multipliedCodes 43 = .ok (.invokestatic 83, 3) := by decide +kernel
theorem dX5_multipliedCodes_46 : decode cX5_multipliedCodes 46 = .ok (.ireturn, 1) := by decide +kernel
abbrev rmX5_multipliedCodes : Room := { frames := 2, cells := 0, slots := 0, locals := 45 }
theorem zyX5_multipliedCodes : zyOK yX5_multipliedCodes 4 := ⟨by decide +kernel, by decide +kernel, by decide +kernel⟩
set_option maxHeartbeats 4000000 in
set_option maxRecDepth 100000 in
theorem wX5_multipliedCodes {G : ZG} (a0 : Int32) (a1 : Int32) (a2 : Int32) (a3 : Int32) (S : ZS) (h0 : zFix G cX5_multipliedCodes RX5 6 (some .int) rmX5_multipliedCodes) (C : Option Int32 → Prop) (hC : ¬ C none) (hE : ∀ v : Int32, C (some v) → zEnd G (some (.int v)) S rmX5_multipliedCodes) : zV G 6 S 0 0 0 [(0, .int a0), (1, .int a1), (2, .int a2), (3, .int a3)] [] (C (fX5_multipliedCodes a0 a1 a2 a3)) := by
  unfold fX5_multipliedCodes
  refine zr_iconst (0 : Int32) h0 (by decide) dX5_multipliedCodes_0 (n := 1) rfl ?_
  refine zr_istore [(0, .int a0), (1, .int a1), (2, .int a2), (3, .int a3), (4, .int (0 : Int32))] h0 dX5_multipliedCodes_1 (by decide) rfl (n := 3) rfl ?_
  refine zr_iconst (0 : Int32) h0 (by decide) dX5_multipliedCodes_3 (n := 4) rfl ?_
  refine zr_istore [(0, .int a0), (1, .int a1), (2, .int a2), (3, .int a3), (4, .int (0 : Int32)), (5, .int (0 : Int32))] h0 dX5_multipliedCodes_4 (by decide) rfl (n := 6) rfl ?_
  refine zr_loop hC (fX5_multipliedCodes_B6 a0 a1 a2 a3) (fun y => [(0, .int a0), (1, .int a1), (2, .int a2), (3, .int a3), (4, .int y.1), (5, .int y.2)]) (fun y => S) zF ((0 : Int32), (0 : Int32)) (fun C6 hC6 hX6 hL6 t6 => ?_)
  unfold fX5_multipliedCodes_B6
  refine zr_iload h0 dX5_multipliedCodes_6 rfl (n := 8) rfl ?_
  refine zr_iload_n h0 dX5_multipliedCodes_8 rfl (n := 9) rfl ?_
  refine zr_icmp_ge C6 (tgt := 40) h0 dX5_multipliedCodes_9 (by decide) (n := 12) rfl ?_ ?_
  · refine zr_ex hX6 ?_
    refine zv_sub (lv' := [(3, .int a3), (4, .int t6.1)]) ?_ (zsub_of [3, 4] rfl)
    refine zr_iload h0 dX5_multipliedCodes_40 rfl (n := 42) rfl ?_
    refine zr_iload_n h0 dX5_multipliedCodes_42 rfl (n := 43) rfl ?_
    refine zr_cRI C hC 0 0 (fun x hx => zk_S h0 (fun l D z0 => kX5_remainder l D z0 t6.1 a3 S x hx) zw_285 zw_286 zw_1 zw_287 zyX5_remainder (As := [.int t6.1, .int a3]) (st := []) rfl (by decide) rfl (Nat.le_of_ble_eq_true rfl) (by decide) dX5_multipliedCodes_43) rfl rfl (n := 46) rfl (fun x4 => ?_)
    exact zr_iret h0 rfl dX5_multipliedCodes_46 (hE _) (by decide) (by decide)
  · refine zr_iload h0 dX5_multipliedCodes_12 rfl (n := 14) rfl ?_
    refine zr_iload_n h0 dX5_multipliedCodes_14 rfl (n := 15) rfl ?_
    refine zr_iload_n h0 dX5_multipliedCodes_15 rfl (n := 16) rfl ?_
    refine zr_iload h0 dX5_multipliedCodes_16 rfl (n := 18) rfl ?_
    refine zr_iload_n h0 dX5_multipliedCodes_18 rfl (n := 19) rfl ?_
    refine zr_cRI C6 hC6 0 0 (fun x hx => zk_S h0 (fun l D z0 => kX5_numberIn l D z0 a0 a2 t6.2 a3 S x hx) zw_505 zw_506 zw_1 zw_507 zyX5_numberIn (As := [.int a0, .int a2, .int t6.2, .int a3]) (st := [.int t6.1]) rfl (by decide) rfl (Nat.le_of_ble_eq_true rfl) (by decide) dX5_multipliedCodes_19) rfl rfl (n := 22) rfl (fun x5 => ?_)
    refine zr_iload_n h0 dX5_multipliedCodes_22 rfl (n := 23) rfl ?_
    refine zr_iload_n h0 dX5_multipliedCodes_23 rfl (n := 24) rfl ?_
    refine zr_iload h0 dX5_multipliedCodes_24 rfl (n := 26) rfl ?_
    refine zr_iload_n h0 dX5_multipliedCodes_26 rfl (n := 27) rfl ?_
    refine zr_cRI C6 hC6 0 0 (fun x hx => zk_S h0 (fun l D z0 => kX5_numberIn l D z0 a1 a2 t6.2 a3 S x hx) zw_505 zw_506 zw_1 zw_507 zyX5_numberIn (As := [.int a1, .int a2, .int t6.2, .int a3]) (st := [.int x5, .int t6.1]) rfl (by decide) rfl (Nat.le_of_ble_eq_true rfl) (by decide) dX5_multipliedCodes_27) rfl rfl (n := 30) rfl (fun x6 => ?_)
    refine zr_imul h0 dX5_multipliedCodes_30 (n := 31) rfl ?_
    refine zr_iadd h0 dX5_multipliedCodes_31 (n := 32) rfl ?_
    refine zr_istore [(0, .int a0), (1, .int a1), (2, .int a2), (3, .int a3), (4, .int (t6.1 + (x5 * x6))), (5, .int t6.2)] h0 dX5_multipliedCodes_32 (by decide) rfl (n := 34) rfl ?_
    refine zr_iinc (1 : Int32) [(0, .int a0), (1, .int a1), (2, .int a2), (3, .int a3), (4, .int (t6.1 + (x5 * x6))), (5, .int (t6.2 + (1 : Int32)))] h0 dX5_multipliedCodes_34 rfl (by decide) rfl rfl (n := 37) rfl ?_
    refine zr_goto (tgt := 6) h0 dX5_multipliedCodes_37 (by decide) ?_
    exact hL6 (t6.1 + (x5 * x6), t6.2 + (1 : Int32))
theorem kX5_multipliedCodes (l : Launch) (D : ZD) (z0 : Nat) (a0 : Int32) (a1 : Int32) (a2 : Int32) (a3 : Int32) (S : ZS) (x : Int32) (hf : fX5_multipliedCodes a0 a1 a2 a3 = some x) : zMet l D z0 yX5_multipliedCodes cX5_multipliedCodes 6 (some .int) rmX5_multipliedCodes [.int a0, .int a1, .int a2, .int a3] S (some (.int x)) S :=
  zMet_of (by decide) (Nat.le_of_ble_eq_true rfl) (fun G h0 hini hE => wX5_multipliedCodes a0 a1 a2 a3 S h0 (fun o => o = some x) (fun h => nomatch h) (fun v h => by cases h; exact hE)) hf
theorem dX4_multiplied_0 : decode cX4_multiplied 0 = .ok (.iconst 0, 1) := by decide +kernel
theorem dX4_multiplied_1 : decode cX4_multiplied 1 = .ok (.istore 4, 2) := by decide +kernel
theorem dX4_multiplied_3 : decode cX4_multiplied 3 = .ok (.iconst 0, 1) := by decide +kernel
theorem dX4_multiplied_4 : decode cX4_multiplied 4 = .ok (.istore 5, 2) := by decide +kernel
theorem dX4_multiplied_6 : decode cX4_multiplied 6 = .ok (.iload 5, 2) := by decide +kernel
theorem dX4_multiplied_8 : decode cX4_multiplied 8 = .ok (.aload_n 0, 1) := by decide +kernel
theorem dX4_multiplied_9 : decode cX4_multiplied 9 = .ok (.getfield 23, 3) := by decide +kernel
theorem dX4_multiplied_12 : decode cX4_multiplied 12 = .ok (.if_icmp .ge 76, 3) := by decide +kernel
theorem dX4_multiplied_15 : decode cX4_multiplied 15 = .ok (.aload_n 0, 1) := by decide +kernel
theorem dX4_multiplied_16 : decode cX4_multiplied 16 = .ok (.iload 5, 2) := by decide +kernel
theorem dX4_multiplied_18 : decode cX4_multiplied 18 = .ok (.iconst 0, 1) := by decide +kernel
theorem dX4_multiplied_19 : decode cX4_multiplied 19 = .ok (.invokevirtual 38, 3) := by decide +kernel
theorem dX4_multiplied_22 : decode cX4_multiplied 22 = .ok (.iload_n 1, 1) := by decide +kernel
theorem dX4_multiplied_23 : decode cX4_multiplied 23 = .ok (.aload_n 0, 1) := by decide +kernel
theorem dX4_multiplied_24 : decode cX4_multiplied 24 = .ok (.getfield 11, 3) := by decide +kernel
theorem dX4_multiplied_27 : decode cX4_multiplied 27 = .ok (.getfield 51, 3) := by decide +kernel
theorem dX4_multiplied_30 : decode cX4_multiplied 30 = .ok (.aload_n 0, 1) := by decide +kernel
theorem dX4_multiplied_31 : decode cX4_multiplied 31 = .ok (.getfield 15, 3) := by decide +kernel
theorem dX4_multiplied_34 : decode cX4_multiplied 34 = .ok (.invokestatic 163, 3) := by decide +kernel
theorem dX4_multiplied_37 : decode cX4_multiplied 37 = .ok (.istore 6, 2) := by decide +kernel
theorem dX4_multiplied_39 : decode cX4_multiplied 39 = .ok (.aload_n 0, 1) := by decide +kernel
theorem dX4_multiplied_40 : decode cX4_multiplied 40 = .ok (.iload 5, 2) := by decide +kernel
theorem dX4_multiplied_42 : decode cX4_multiplied 42 = .ok (.iconst 1, 1) := by decide +kernel
theorem dX4_multiplied_43 : decode cX4_multiplied 43 = .ok (.invokevirtual 38, 3) := by decide +kernel
theorem dX4_multiplied_46 : decode cX4_multiplied 46 = .ok (.iload_n 2, 1) := by decide +kernel
theorem dX4_multiplied_47 : decode cX4_multiplied 47 = .ok (.aload_n 0, 1) := by decide +kernel
theorem dX4_multiplied_48 : decode cX4_multiplied 48 = .ok (.getfield 11, 3) := by decide +kernel
theorem dX4_multiplied_51 : decode cX4_multiplied 51 = .ok (.getfield 54, 3) := by decide +kernel
theorem dX4_multiplied_54 : decode cX4_multiplied 54 = .ok (.aload_n 0, 1) := by decide +kernel
theorem dX4_multiplied_55 : decode cX4_multiplied 55 = .ok (.getfield 15, 3) := by decide +kernel
theorem dX4_multiplied_58 : decode cX4_multiplied 58 = .ok (.invokestatic 163, 3) := by decide +kernel
theorem dX4_multiplied_61 : decode cX4_multiplied 61 = .ok (.istore 7, 2) := by decide +kernel
theorem dX4_multiplied_63 : decode cX4_multiplied 63 = .ok (.iload 4, 2) := by decide +kernel
theorem dX4_multiplied_65 : decode cX4_multiplied 65 = .ok (.aload_n 0, 1) := by decide +kernel
theorem dX4_multiplied_66 : decode cX4_multiplied 66 = .ok (.iload 5, 2) := by decide +kernel
theorem dX4_multiplied_68 : decode cX4_multiplied 68 = .ok (.iconst 2, 1) := by decide +kernel
theorem dX4_multiplied_69 : decode cX4_multiplied 69 = .ok (.iload_n 3, 1) := by decide +kernel
theorem dX4_multiplied_70 : decode cX4_multiplied 70 = .ok (.invokevirtual 128, 3) := by decide +kernel
theorem dX4_multiplied_73 : decode cX4_multiplied 73 = .ok (.iload 6, 2) := by decide +kernel
theorem dX4_multiplied_75 : decode cX4_multiplied 75 = .ok (.imul, 1) := by decide +kernel
theorem dX4_multiplied_76 : decode cX4_multiplied 76 = .ok (.iload 7, 2) := by decide +kernel
theorem dX4_multiplied_78 : decode cX4_multiplied 78 = .ok (.imul, 1) := by decide +kernel
theorem dX4_multiplied_79 : decode cX4_multiplied 79 = .ok (.iadd, 1) := by decide +kernel
theorem dX4_multiplied_80 : decode cX4_multiplied 80 = .ok (.istore 4, 2) := by decide +kernel
theorem dX4_multiplied_82 : decode cX4_multiplied 82 = .ok (.iinc 5 1, 3) := by decide +kernel
theorem dX4_multiplied_85 : decode cX4_multiplied 85 = .ok (.goto (-79), 3) := by decide +kernel
theorem dX4_multiplied_88 : decode cX4_multiplied 88 = .ok (.iload 4, 2) := by decide +kernel
theorem dX4_multiplied_90 : decode cX4_multiplied 90 = .ok (.aload_n 0, 1) := by decide +kernel
theorem dX4_multiplied_91 : decode cX4_multiplied 91 = .ok (.getfield 15, 3) := by decide +kernel
theorem dX4_multiplied_94 : decode cX4_multiplied 94 = .ok (.invokestatic 103, 3) := by decide +kernel
theorem dX4_multiplied_97 : decode cX4_multiplied 97 = .ok (.ireturn, 1) := by decide +kernel
abbrev rmX4_multiplied : Room := { frames := 4, cells := 0, slots := 0, locals := 86 }
theorem zyX4_multiplied : zyOK yX4_multiplied 3 := ⟨by decide +kernel, by decide +kernel, by decide +kernel⟩
set_option maxHeartbeats 4000000 in
set_option maxRecDepth 100000 in
theorem wX4_multiplied {G : ZG} (a0 : Nat) (a1 : Int32) (a2 : Int32) (a3 : Int32) (S : ZS) (h0 : zFix G cX4_multiplied RX4 8 (some .int) rmX4_multiplied) (C : Option Int32 → Prop) (hC : ¬ C none) (hE : ∀ v : Int32, C (some v) → zEnd G (some (.int v)) S rmX4_multiplied) : zV G 8 S 0 0 0 [(0, .ref a0), (1, .int a1), (2, .int a2), (3, .int a3)] [] (C (fX4_multiplied a0 a1 a2 a3 S)) := by
  unfold fX4_multiplied
  refine zr_iconst (0 : Int32) h0 (by decide) dX4_multiplied_0 (n := 1) rfl ?_
  refine zr_istore [(0, .ref a0), (1, .int a1), (2, .int a2), (3, .int a3), (4, .int (0 : Int32))] h0 dX4_multiplied_1 (by decide) rfl (n := 3) rfl ?_
  refine zr_iconst (0 : Int32) h0 (by decide) dX4_multiplied_3 (n := 4) rfl ?_
  refine zr_istore [(0, .ref a0), (1, .int a1), (2, .int a2), (3, .int a3), (4, .int (0 : Int32)), (5, .int (0 : Int32))] h0 dX4_multiplied_4 (by decide) rfl (n := 6) rfl ?_
  refine zr_loop hC (fX4_multiplied_B6 a0 a1 a2 a3 S) (fun y => [(0, .ref a0), (1, .int a1), (2, .int a2), (3, .int a3), (4, .int y.1), (5, .int y.2)]) (fun y => S) zF ((0 : Int32), (0 : Int32)) (fun C6 hC6 hX6 hL6 t6 => ?_)
  unfold fX4_multiplied_B6
  refine zr_iload h0 dX4_multiplied_6 rfl (n := 8) rfl ?_
  refine zr_aload_n h0 dX4_multiplied_8 rfl (n := 9) rfl ?_
  refine zr_getI C6 hC6 h0 zcX4 (k := 3) (by decide) zw_412 dX4_multiplied_9 (n := 12) rfl (fun v15 => ?_)
  refine zr_icmp_ge C6 (tgt := 88) h0 dX4_multiplied_12 (by decide) (n := 15) rfl ?_ ?_
  · refine zr_ex hX6 ?_
    refine zv_sub (lv' := [(0, .ref a0), (4, .int t6.1)]) ?_ (zsub_of [0, 4] rfl)
    refine zr_iload h0 dX4_multiplied_88 rfl (n := 90) rfl ?_
    refine zr_aload_n h0 dX4_multiplied_90 rfl (n := 91) rfl ?_
    refine zr_getI C hC h0 zcX4 (k := 1) (by decide) zw_410 dX4_multiplied_91 (n := 94) rfl (fun v16 => ?_)
    refine zr_cRI C hC 0 0 (fun x hx => zk_SN (host := "Bilinearium") h0 (fun l D z0 => kX5_remainder l D z0 t6.1 v16 S x hx) (by decide +kernel) zw_286 zw_1 zw_287 zyX5_remainder (As := [.int t6.1, .int v16]) (st := []) rfl (by decide) rfl (Nat.le_of_ble_eq_true rfl) (by decide) dX4_multiplied_94) rfl rfl (n := 97) rfl (fun x17 => ?_)
    exact zr_iret h0 rfl dX4_multiplied_97 (hE _) (by decide) (by decide)
  · refine zr_aload_n h0 dX4_multiplied_15 rfl (n := 16) rfl ?_
    refine zr_iload h0 dX4_multiplied_16 rfl (n := 18) rfl ?_
    refine zr_iconst (0 : Int32) h0 (by decide) dX4_multiplied_18 (n := 19) rfl ?_
    refine zr_cRI C6 hC6 0 0 (fun x hx => zk_V h0 zcX4 (zcl_ex hx) (fun l D z0 => kX4_code l D z0 a0 t6.2 (0 : Int32) S x (zcl_of hx)) zw_487 zw_488 zw_489 zw_12 zw_490 rfl zyX4_code (As := [.int t6.2, .int (0 : Int32)]) (st := []) rfl (by decide) rfl (Nat.le_of_ble_eq_true rfl) (by decide) dX4_multiplied_19) rfl rfl (n := 22) rfl (fun x18 => ?_)
    refine zr_iload_n h0 dX4_multiplied_22 rfl (n := 23) rfl ?_
    refine zr_aload_n h0 dX4_multiplied_23 rfl (n := 24) rfl ?_
    refine zr_getR C6 hC6 h0 zcX4 (k := 0) (by decide) zw_408 dX4_multiplied_24 (n := 27) rfl (fun v19 => ?_)
    refine zr_getI C6 hC6 h0 zcX0 (k := 0) (by decide) zw_229 dX4_multiplied_27 (n := 30) rfl (fun v20 => ?_)
    refine zr_aload_n h0 dX4_multiplied_30 rfl (n := 31) rfl ?_
    refine zr_getI C6 hC6 h0 zcX4 (k := 1) (by decide) zw_410 dX4_multiplied_31 (n := 34) rfl (fun v21 => ?_)
    refine zr_cRI C6 hC6 0 0 (fun x hx => zk_SN (host := "Bilinearium") h0 (fun l D z0 => kX5_multipliedCodes l D z0 x18 a1 v20 v21 S x hx) (by decide +kernel) zw_707 zw_1 zw_708 zyX5_multipliedCodes (As := [.int x18, .int a1, .int v20, .int v21]) (st := []) rfl (by decide) rfl (Nat.le_of_ble_eq_true rfl) (by decide) dX4_multiplied_34) rfl rfl (n := 37) rfl (fun x22 => ?_)
    refine zr_istore [(0, .ref a0), (1, .int a1), (2, .int a2), (3, .int a3), (4, .int t6.1), (5, .int t6.2), (6, .int x22)] h0 dX4_multiplied_37 (by decide) rfl (n := 39) rfl ?_
    refine zr_aload_n h0 dX4_multiplied_39 rfl (n := 40) rfl ?_
    refine zr_iload h0 dX4_multiplied_40 rfl (n := 42) rfl ?_
    refine zr_iconst (1 : Int32) h0 (by decide) dX4_multiplied_42 (n := 43) rfl ?_
    refine zr_cRI C6 hC6 0 0 (fun x hx => zk_V h0 zcX4 (zcl_ex hx) (fun l D z0 => kX4_code l D z0 a0 t6.2 (1 : Int32) S x (zcl_of hx)) zw_487 zw_488 zw_489 zw_12 zw_490 rfl zyX4_code (As := [.int t6.2, .int (1 : Int32)]) (st := []) rfl (by decide) rfl (Nat.le_of_ble_eq_true rfl) (by decide) dX4_multiplied_43) rfl rfl (n := 46) rfl (fun x23 => ?_)
    refine zr_iload_n h0 dX4_multiplied_46 rfl (n := 47) rfl ?_
    refine zr_aload_n h0 dX4_multiplied_47 rfl (n := 48) rfl ?_
    refine zr_getR C6 hC6 h0 zcX4 (k := 0) (by decide) zw_408 dX4_multiplied_48 (n := 51) rfl (fun v24 => ?_)
    refine zr_getI C6 hC6 h0 zcX0 (k := 1) (by decide) zw_233 dX4_multiplied_51 (n := 54) rfl (fun v25 => ?_)
    refine zr_aload_n h0 dX4_multiplied_54 rfl (n := 55) rfl ?_
    refine zr_getI C6 hC6 h0 zcX4 (k := 1) (by decide) zw_410 dX4_multiplied_55 (n := 58) rfl (fun v26 => ?_)
    refine zr_cRI C6 hC6 0 0 (fun x hx => zk_SN (host := "Bilinearium") h0 (fun l D z0 => kX5_multipliedCodes l D z0 x23 a2 v25 v26 S x hx) (by decide +kernel) zw_707 zw_1 zw_708 zyX5_multipliedCodes (As := [.int x23, .int a2, .int v25, .int v26]) (st := []) rfl (by decide) rfl (Nat.le_of_ble_eq_true rfl) (by decide) dX4_multiplied_58) rfl rfl (n := 61) rfl (fun x27 => ?_)
    refine zr_istore [(0, .ref a0), (1, .int a1), (2, .int a2), (3, .int a3), (4, .int t6.1), (5, .int t6.2), (6, .int x22), (7, .int x27)] h0 dX4_multiplied_61 (by decide) rfl (n := 63) rfl ?_
    refine zr_iload h0 dX4_multiplied_63 rfl (n := 65) rfl ?_
    refine zr_aload_n h0 dX4_multiplied_65 rfl (n := 66) rfl ?_
    refine zr_iload h0 dX4_multiplied_66 rfl (n := 68) rfl ?_
    refine zr_iconst (2 : Int32) h0 (by decide) dX4_multiplied_68 (n := 69) rfl ?_
    refine zr_iload_n h0 dX4_multiplied_69 rfl (n := 70) rfl ?_
    refine zr_cRI C6 hC6 0 0 (fun x hx => zk_V h0 zcX4 (zcl_ex hx) (fun l D z0 => kX4_number l D z0 a0 t6.2 (2 : Int32) a3 S x (zcl_of hx)) zw_709 zw_711 zs_26 zw_12 zw_712 rfl zyX4_number (As := [.int t6.2, .int (2 : Int32), .int a3]) (st := [.int t6.1]) rfl (by decide) rfl (Nat.le_of_ble_eq_true rfl) (by decide) dX4_multiplied_70) rfl rfl (n := 73) rfl (fun x28 => ?_)
    refine zr_iload h0 dX4_multiplied_73 rfl (n := 75) rfl ?_
    refine zr_imul h0 dX4_multiplied_75 (n := 76) rfl ?_
    refine zr_iload h0 dX4_multiplied_76 rfl (n := 78) rfl ?_
    refine zr_imul h0 dX4_multiplied_78 (n := 79) rfl ?_
    refine zr_iadd h0 dX4_multiplied_79 (n := 80) rfl ?_
    refine zr_istore [(0, .ref a0), (1, .int a1), (2, .int a2), (3, .int a3), (4, .int (t6.1 + ((x28 * x22) * x27))), (5, .int t6.2), (6, .int x22), (7, .int x27)] h0 dX4_multiplied_80 (by decide) rfl (n := 82) rfl ?_
    refine zr_iinc (1 : Int32) [(0, .ref a0), (1, .int a1), (2, .int a2), (3, .int a3), (4, .int (t6.1 + ((x28 * x22) * x27))), (5, .int (t6.2 + (1 : Int32))), (6, .int x22), (7, .int x27)] h0 dX4_multiplied_82 rfl (by decide) rfl rfl (n := 85) rfl ?_
    refine zr_goto (tgt := 6) h0 dX4_multiplied_85 (by decide) ?_
    refine zv_sub (lv' := [(0, .ref a0), (1, .int a1), (2, .int a2), (3, .int a3), (4, .int (t6.1 + ((x28 * x22) * x27))), (5, .int (t6.2 + (1 : Int32)))]) ?_ (zsub_of [0, 1, 2, 3, 4, 5] rfl)
    exact hL6 (t6.1 + ((x28 * x22) * x27), t6.2 + (1 : Int32))
theorem kX4_multiplied (l : Launch) (D : ZD) (z0 : Nat) (a0 : Nat) (a1 : Int32) (a2 : Int32) (a3 : Int32) (S : ZS) (x : Int32) (hf : fX4_multiplied a0 a1 a2 a3 S = some x) : zMet l D z0 yX4_multiplied cX4_multiplied 8 (some .int) rmX4_multiplied [.ref a0, .int a1, .int a2, .int a3] S (some (.int x)) S :=
  zMet_of (by decide) (Nat.le_of_ble_eq_true rfl) (fun G h0 hini hE => wX4_multiplied a0 a1 a2 a3 S h0 (fun o => o = some x) (fun h => nomatch h) (fun v h => by cases h; exact hE)) hf
theorem dX5_result_0 : decode cX5_result 0 = .ok (.aload_n 0, 1) := by decide +kernel
theorem dX5_result_1 : decode cX5_result 1 = .ok (.iload_n 1, 1) := by decide +kernel
theorem dX5_result_2 : decode cX5_result 2 = .ok (.invokevirtual 148, 3) := by decide +kernel
theorem dX5_result_5 : decode cX5_result 5 = .ok (.astore 5, 2) := by decide +kernel
theorem dX5_result_7 : decode cX5_result 7 = .ok (.aload_n 0, 1) := by decide +kernel
theorem dX5_result_8 : decode cX5_result 8 = .ok (.aload 5, 2) := by decide +kernel
theorem dX5_result_10 : decode cX5_result 10 = .ok (.iload_n 2, 1) := by decide +kernel
theorem dX5_result_11 : decode cX5_result 11 = .ok (.iload_n 3, 1) := by decide +kernel
theorem dX5_result_12 : decode cX5_result 12 = .ok (.iload 4, 2) := by decide +kernel
theorem dX5_result_14 : decode cX5_result 14 = .ok (.invokevirtual 230, 3) := by decide +kernel
theorem dX5_result_17 : decode cX5_result 17 = .ok (.aload 5, 2) := by decide +kernel
theorem dX5_result_19 : decode cX5_result 19 = .ok (.iload_n 2, 1) := by decide +kernel
theorem dX5_result_20 : decode cX5_result 20 = .ok (.iload_n 3, 1) := by decide +kernel
theorem dX5_result_21 : decode cX5_result 21 = .ok (.iload 4, 2) := by decide +kernel
theorem dX5_result_23 : decode cX5_result 23 = .ok (.invokevirtual 234, 3) := by decide +kernel
theorem dX5_result_26 : decode cX5_result 26 = .ok (.ireturn, 1) := by decide +kernel
abbrev rmX5_result : Room := { frames := 8, cells := 3, slots := 18, locals := 136 }
theorem zyX5_result : zyOK yX5_result 4 := ⟨by decide +kernel, by decide +kernel, by decide +kernel⟩
set_option maxHeartbeats 4000000 in
set_option maxRecDepth 100000 in
theorem wX5_result {G : ZG} (a0 : Nat) (a1 : Int32) (a2 : Int32) (a3 : Int32) (a4 : Int32) (S : ZS) (h0 : zFix G cX5_result RX5 6 (some .int) rmX5_result) (C : Option ((Int32 × ZS) ⊕ ZX) → Prop) (hC : ¬ C none) (hnt : zNoTab G) (hE : ∀ (v : Int32) (S1 : ZS), C (some (.inl (v, S1))) → zEndT G (some (.int v)) S1 rmX5_result) (hEx : ∀ (E : String) (h : ZH), C (some (.inr (E, h))) → zEndX G E h rmX5_result) : zV G 6 S 0 0 0 [(0, .ref a0), (1, .int a1), (2, .int a2), (3, .int a3), (4, .int a4)] [] (C (fX5_result a0 a1 a2 a3 a4 S)) := by
  unfold fX5_result
  refine zr_aload_n h0 dX5_result_0 rfl (n := 1) rfl ?_
  refine zr_iload_n h0 dX5_result_1 rfl (n := 2) rfl ?_
  refine zr_cTR C hC 1 6 h0 (fun x hx => zk_VT h0 zcX5 (zcl_ex hx) (fun l D z0 hlt => kX5_needWay l D z0 hlt a0 a1 S x (zcl_of hx)) hnt zw_430 zw_432 zs_3 zw_1 zw_433 rfl zyX5_needWay (As := [.int a1]) (st := []) rfl (by decide) rfl (Nat.le_of_ble_eq_true rfl) (by decide) dX5_result_2) hnt rfl rfl (by decide) (by decide) (n := 5) rfl (fun z h => hEx _ _ h) (fun x1 => ?_)
  refine zr_astore [(0, .ref a0), (1, .int a1), (2, .int a2), (3, .int a3), (4, .int a4), (5, .ref x1.1)] h0 dX5_result_5 (by decide) rfl (n := 7) rfl ?_
  refine zr_aload_n h0 dX5_result_7 rfl (n := 8) rfl ?_
  refine zr_aload h0 dX5_result_8 rfl (n := 10) rfl ?_
  refine zr_iload_n h0 dX5_result_10 rfl (n := 11) rfl ?_
  refine zr_iload_n h0 dX5_result_11 rfl (n := 12) rfl ?_
  refine zr_iload h0 dX5_result_12 rfl (n := 14) rfl ?_
  refine zr_cTV C hC 3 18 h0 (fun x hx => zk_VT h0 zcX5 (zcl_ex hx) (fun l D z0 hlt => kX5_needFactors l D z0 hlt a0 x1.1 a2 a3 a4 x1.2 x (zcl_of hx)) hnt zw_698 zw_700 zs_25 zw_1 zw_701 rfl zyX5_needFactors (As := [.ref x1.1, .int a2, .int a3, .int a4]) (st := []) rfl (by decide) rfl (Nat.le_of_ble_eq_true rfl) (by decide) dX5_result_14) hnt rfl rfl (by decide) (by decide) (n := 17) rfl (fun z h => hEx _ _ h) (fun x2 => ?_)
  refine zr_aload h0 dX5_result_17 rfl (n := 19) rfl ?_
  refine zr_iload_n h0 dX5_result_19 rfl (n := 20) rfl ?_
  refine zr_iload_n h0 dX5_result_20 rfl (n := 21) rfl ?_
  refine zr_iload h0 dX5_result_21 rfl (n := 23) rfl ?_
  refine zr_cRI C hC 3 18 (fun x hx => zk_V h0 zcX4 (zcl_ex hx) (fun l D z0 => kX4_multiplied l D z0 x1.1 a2 a3 a4 x2.2 x (zcl_of hx)) zw_702 zw_703 zw_704 zw_12 zw_705 rfl zyX4_multiplied (As := [.int a2, .int a3, .int a4]) (st := []) rfl (by decide) rfl (Nat.le_of_ble_eq_true rfl) (by decide) dX5_result_23) rfl rfl (n := 26) rfl (fun x3 => ?_)
  exact zr_iretT h0 rfl dX5_result_26 (hE _ _) (by decide) (by decide)
theorem kX5_result (l : Launch) (D : ZD) (z0 : Nat) (hlt : l.stackTraces = false) (a0 : Nat) (a1 : Int32) (a2 : Int32) (a3 : Int32) (a4 : Int32) (S : ZS) (x : ((Int32 × ZS) ⊕ ZX)) (hf : fX5_result a0 a1 a2 a3 a4 S = some x) : zMetT l D z0 yX5_result cX5_result 6 (some .int) rmX5_result [.ref a0, .int a1, .int a2, .int a3, .int a4] S (x.map (fun y => ((some (.int y.1)), y.2)) id) :=
  zMetT_of hlt (by decide) (Nat.le_of_ble_eq_true rfl) (fun G h0 hnt hE hEx => wX5_result a0 a1 a2 a3 a4 S h0 (fun o => o = some x) (fun h => nomatch h) hnt (fun v S1 h => by cases h; exact hE _ _ rfl) (fun E h hh => by cases hh; exact hEx _ _ rfl)) hf
theorem dX4_multipliedByCube_0 : decode cX4_multipliedByCube 0 = .ok (.iconst 0, 1) := by decide +kernel
theorem dX4_multipliedByCube_1 : decode cX4_multipliedByCube 1 = .ok (.istore 4, 2) := by decide +kernel
theorem dX4_multipliedByCube_3 : decode cX4_multipliedByCube 3 = .ok (.iconst 0, 1) := by decide +kernel
theorem dX4_multipliedByCube_4 : decode cX4_multipliedByCube 4 = .ok (.istore 5, 2) := by decide +kernel
theorem dX4_multipliedByCube_6 : decode cX4_multipliedByCube 6 = .ok (.iload 5, 2) := by decide +kernel
theorem dX4_multipliedByCube_8 : decode cX4_multipliedByCube 8 = .ok (.aload_n 0, 1) := by decide +kernel
theorem dX4_multipliedByCube_9 : decode cX4_multipliedByCube 9 = .ok (.getfield 11, 3) := by decide +kernel
theorem dX4_multipliedByCube_12 : decode cX4_multipliedByCube 12 = .ok (.getfield 51, 3) := by decide +kernel
theorem dX4_multipliedByCube_15 : decode cX4_multipliedByCube 15 = .ok (.if_icmp .ge 91, 3) := by decide +kernel
theorem dX4_multipliedByCube_18 : decode cX4_multipliedByCube 18 = .ok (.iload_n 1, 1) := by decide +kernel
theorem dX4_multipliedByCube_19 : decode cX4_multipliedByCube 19 = .ok (.aload_n 0, 1) := by decide +kernel
theorem dX4_multipliedByCube_20 : decode cX4_multipliedByCube 20 = .ok (.getfield 11, 3) := by decide +kernel
theorem dX4_multipliedByCube_23 : decode cX4_multipliedByCube 23 = .ok (.getfield 51, 3) := by decide +kernel
theorem dX4_multipliedByCube_26 : decode cX4_multipliedByCube 26 = .ok (.iload 5, 2) := by decide +kernel
theorem dX4_multipliedByCube_28 : decode cX4_multipliedByCube 28 = .ok (.aload_n 0, 1) := by decide +kernel
theorem dX4_multipliedByCube_29 : decode cX4_multipliedByCube 29 = .ok (.getfield 15, 3) := by decide +kernel
theorem dX4_multipliedByCube_32 : decode cX4_multipliedByCube 32 = .ok (.invokestatic 47, 3) := by decide +kernel
theorem dX4_multipliedByCube_35 : decode cX4_multipliedByCube 35 = .ok (.istore 6, 2) := by decide +kernel
theorem dX4_multipliedByCube_37 : decode cX4_multipliedByCube 37 = .ok (.iconst 0, 1) := by decide +kernel
theorem dX4_multipliedByCube_38 : decode cX4_multipliedByCube 38 = .ok (.istore 7, 2) := by decide +kernel
theorem dX4_multipliedByCube_40 : decode cX4_multipliedByCube 40 = .ok (.iload 7, 2) := by decide +kernel
theorem dX4_multipliedByCube_42 : decode cX4_multipliedByCube 42 = .ok (.aload_n 0, 1) := by decide +kernel
theorem dX4_multipliedByCube_43 : decode cX4_multipliedByCube 43 = .ok (.getfield 11, 3) := by decide +kernel
theorem dX4_multipliedByCube_46 : decode cX4_multipliedByCube 46 = .ok (.getfield 54, 3) := by decide +kernel
theorem dX4_multipliedByCube_49 : decode cX4_multipliedByCube 49 = .ok (.if_icmp .ge 51, 3) := by decide +kernel
theorem dX4_multipliedByCube_52 : decode cX4_multipliedByCube 52 = .ok (.iload_n 2, 1) := by decide +kernel
theorem dX4_multipliedByCube_53 : decode cX4_multipliedByCube 53 = .ok (.aload_n 0, 1) := by decide +kernel
theorem dX4_multipliedByCube_54 : decode cX4_multipliedByCube 54 = .ok (.getfield 11, 3) := by decide +kernel
theorem dX4_multipliedByCube_57 : decode cX4_multipliedByCube 57 = .ok (.getfield 54, 3) := by decide +kernel
theorem dX4_multipliedByCube_60 : decode cX4_multipliedByCube 60 = .ok (.iload 7, 2) := by decide +kernel
theorem dX4_multipliedByCube_62 : decode cX4_multipliedByCube 62 = .ok (.aload_n 0, 1) := by decide +kernel
theorem dX4_multipliedByCube_63 : decode cX4_multipliedByCube 63 = .ok (.getfield 15, 3) := by decide +kernel
theorem dX4_multipliedByCube_66 : decode cX4_multipliedByCube 66 = .ok (.invokestatic 47, 3) := by decide +kernel
theorem dX4_multipliedByCube_69 : decode cX4_multipliedByCube 69 = .ok (.istore 8, 2) := by decide +kernel
theorem dX4_multipliedByCube_71 : decode cX4_multipliedByCube 71 = .ok (.iload 4, 2) := by decide +kernel
theorem dX4_multipliedByCube_73 : decode cX4_multipliedByCube 73 = .ok (.aload_n 0, 1) := by decide +kernel
theorem dX4_multipliedByCube_74 : decode cX4_multipliedByCube 74 = .ok (.getfield 11, 3) := by decide +kernel
theorem dX4_multipliedByCube_77 : decode cX4_multipliedByCube 77 = .ok (.iload 5, 2) := by decide +kernel
theorem dX4_multipliedByCube_79 : decode cX4_multipliedByCube 79 = .ok (.iload 7, 2) := by decide +kernel
theorem dX4_multipliedByCube_81 : decode cX4_multipliedByCube 81 = .ok (.iload_n 3, 1) := by decide +kernel
theorem dX4_multipliedByCube_82 : decode cX4_multipliedByCube 82 = .ok (.invokevirtual 60, 3) := by decide +kernel
theorem dX4_multipliedByCube_85 : decode cX4_multipliedByCube 85 = .ok (.iload 6, 2) := by decide +kernel
theorem dX4_multipliedByCube_87 : decode cX4_multipliedByCube 87 = .ok (.imul, 1) := by decide +kernel
theorem dX4_multipliedByCube_88 : decode cX4_multipliedByCube 88 = .ok (.iload 8, 2) := by decide +kernel
theorem dX4_multipliedByCube_90 : decode cX4_multipliedByCube 90 = .ok (.imul, 1) := by decide +kernel
theorem dX4_multipliedByCube_91 : decode cX4_multipliedByCube 91 = .ok (.iadd, 1) := by decide +kernel
theorem dX4_multipliedByCube_92 : decode cX4_multipliedByCube 92 = .ok (.istore 4, 2) := by decide +kernel
theorem dX4_multipliedByCube_94 : decode cX4_multipliedByCube 94 = .ok (.iinc 7 1, 3) := by decide +kernel
theorem dX4_multipliedByCube_97 : decode cX4_multipliedByCube 97 = .ok (.goto (-57), 3) := by decide +kernel
theorem dX4_multipliedByCube_100 : decode cX4_multipliedByCube 100 = .ok (.iinc 5 1, 3) := by decide +kernel
theorem dX4_multipliedByCube_103 : decode cX4_multipliedByCube 103 = .ok (.goto (-97), 3) := by decide +kernel
theorem dX4_multipliedByCube_106 : decode cX4_multipliedByCube 106 = .ok (.iload 4, 2) := by decide +kernel
theorem dX4_multipliedByCube_108 : decode cX4_multipliedByCube 108 = .ok (.aload_n 0, 1) := by decide +kernel
theorem dX4_multipliedByCube_109 : decode cX4_multipliedByCube 109 = .ok (.getfield 15, 3) := by decide +kernel
theorem dX4_multipliedByCube_112 : decode cX4_multipliedByCube 112 = .ok (.invokestatic 103, 3) := by decide +kernel
theorem dX4_multipliedByCube_115 : decode cX4_multipliedByCube 115 = .ok (.ireturn, 1) := by decide +kernel
abbrev rmX4_multipliedByCube : Room := { frames := 3, cells := 0, slots := 0, locals := 65 }
theorem zyX4_multipliedByCube : zyOK yX4_multipliedByCube 3 := ⟨by decide +kernel, by decide +kernel, by decide +kernel⟩
set_option maxHeartbeats 4000000 in
set_option maxRecDepth 100000 in
theorem wX4_multipliedByCube {G : ZG} (a0 : Nat) (a1 : Int32) (a2 : Int32) (a3 : Int32) (S : ZS) (h0 : zFix G cX4_multipliedByCube RX4 9 (some .int) rmX4_multipliedByCube) (C : Option Int32 → Prop) (hC : ¬ C none) (hE : ∀ v : Int32, C (some v) → zEnd G (some (.int v)) S rmX4_multipliedByCube) : zV G 9 S 0 0 0 [(0, .ref a0), (1, .int a1), (2, .int a2), (3, .int a3)] [] (C (fX4_multipliedByCube a0 a1 a2 a3 S)) := by
  unfold fX4_multipliedByCube
  refine zr_iconst (0 : Int32) h0 (by decide) dX4_multipliedByCube_0 (n := 1) rfl ?_
  refine zr_istore [(0, .ref a0), (1, .int a1), (2, .int a2), (3, .int a3), (4, .int (0 : Int32))] h0 dX4_multipliedByCube_1 (by decide) rfl (n := 3) rfl ?_
  refine zr_iconst (0 : Int32) h0 (by decide) dX4_multipliedByCube_3 (n := 4) rfl ?_
  refine zr_istore [(0, .ref a0), (1, .int a1), (2, .int a2), (3, .int a3), (4, .int (0 : Int32)), (5, .int (0 : Int32))] h0 dX4_multipliedByCube_4 (by decide) rfl (n := 6) rfl ?_
  refine zr_loop hC (fX4_multipliedByCube_B6 a0 a1 a2 a3 S) (fun y => [(0, .ref a0), (1, .int a1), (2, .int a2), (3, .int a3), (4, .int y.1), (5, .int y.2)]) (fun y => S) zF ((0 : Int32), (0 : Int32)) (fun C6 hC6 hX6 hL6 t6 => ?_)
  unfold fX4_multipliedByCube_B6
  refine zr_iload h0 dX4_multipliedByCube_6 rfl (n := 8) rfl ?_
  refine zr_aload_n h0 dX4_multipliedByCube_8 rfl (n := 9) rfl ?_
  refine zr_getR C6 hC6 h0 zcX4 (k := 0) (by decide) zw_408 dX4_multipliedByCube_9 (n := 12) rfl (fun v25 => ?_)
  refine zr_getI C6 hC6 h0 zcX0 (k := 0) (by decide) zw_229 dX4_multipliedByCube_12 (n := 15) rfl (fun v26 => ?_)
  refine zr_icmp_ge C6 (tgt := 106) h0 dX4_multipliedByCube_15 (by decide) (n := 18) rfl ?_ ?_
  · refine zr_ex hX6 ?_
    refine zv_sub (lv' := [(0, .ref a0), (4, .int t6.1)]) ?_ (zsub_of [0, 4] rfl)
    refine zr_iload h0 dX4_multipliedByCube_106 rfl (n := 108) rfl ?_
    refine zr_aload_n h0 dX4_multipliedByCube_108 rfl (n := 109) rfl ?_
    refine zr_getI C hC h0 zcX4 (k := 1) (by decide) zw_410 dX4_multipliedByCube_109 (n := 112) rfl (fun v27 => ?_)
    refine zr_cRI C hC 0 0 (fun x hx => zk_SN (host := "Bilinearium") h0 (fun l D z0 => kX5_remainder l D z0 t6.1 v27 S x hx) (by decide +kernel) zw_286 zw_1 zw_287 zyX5_remainder (As := [.int t6.1, .int v27]) (st := []) rfl (by decide) rfl (Nat.le_of_ble_eq_true rfl) (by decide) dX4_multipliedByCube_112) rfl rfl (n := 115) rfl (fun x28 => ?_)
    exact zr_iret h0 rfl dX4_multipliedByCube_115 (hE _) (by decide) (by decide)
  · refine zr_iload_n h0 dX4_multipliedByCube_18 rfl (n := 19) rfl ?_
    refine zr_aload_n h0 dX4_multipliedByCube_19 rfl (n := 20) rfl ?_
    refine zr_getR C6 hC6 h0 zcX4 (k := 0) (by decide) zw_408 dX4_multipliedByCube_20 (n := 23) rfl (fun v29 => ?_)
    refine zr_getI C6 hC6 h0 zcX0 (k := 0) (by decide) zw_229 dX4_multipliedByCube_23 (n := 26) rfl (fun v30 => ?_)
    refine zr_iload h0 dX4_multipliedByCube_26 rfl (n := 28) rfl ?_
    refine zr_aload_n h0 dX4_multipliedByCube_28 rfl (n := 29) rfl ?_
    refine zr_getI C6 hC6 h0 zcX4 (k := 1) (by decide) zw_410 dX4_multipliedByCube_29 (n := 32) rfl (fun v31 => ?_)
    refine zr_cRI C6 hC6 0 0 (fun x hx => zk_SN (host := "Bilinearium") h0 (fun l D z0 => kX5_numberIn l D z0 a1 v30 t6.2 v31 S x hx) (by decide +kernel) zw_506 zw_1 zw_507 zyX5_numberIn (As := [.int a1, .int v30, .int t6.2, .int v31]) (st := []) rfl (by decide) rfl (Nat.le_of_ble_eq_true rfl) (by decide) dX4_multipliedByCube_32) rfl rfl (n := 35) rfl (fun x32 => ?_)
    refine zr_istore [(0, .ref a0), (1, .int a1), (2, .int a2), (3, .int a3), (4, .int t6.1), (5, .int t6.2), (6, .int x32)] h0 dX4_multipliedByCube_35 (by decide) rfl (n := 37) rfl ?_
    refine zr_iconst (0 : Int32) h0 (by decide) dX4_multipliedByCube_37 (n := 38) rfl ?_
    refine zr_istore [(0, .ref a0), (1, .int a1), (2, .int a2), (3, .int a3), (4, .int t6.1), (5, .int t6.2), (6, .int x32), (7, .int (0 : Int32))] h0 dX4_multipliedByCube_38 (by decide) rfl (n := 40) rfl ?_
    refine zr_loop hC6 (fX4_multipliedByCube_B40 a0 a1 a2 a3 t6.2 x32 S) (fun y => [(0, .ref a0), (1, .int a1), (2, .int a2), (3, .int a3), (4, .int y.1), (5, .int t6.2), (6, .int x32), (7, .int y.2)]) (fun y => S) zF (t6.1, (0 : Int32)) (fun C40 hC40 hX40 hL40 t40 => ?_)
    unfold fX4_multipliedByCube_B40
    refine zr_iload h0 dX4_multipliedByCube_40 rfl (n := 42) rfl ?_
    refine zr_aload_n h0 dX4_multipliedByCube_42 rfl (n := 43) rfl ?_
    refine zr_getR C40 hC40 h0 zcX4 (k := 0) (by decide) zw_408 dX4_multipliedByCube_43 (n := 46) rfl (fun v33 => ?_)
    refine zr_getI C40 hC40 h0 zcX0 (k := 1) (by decide) zw_233 dX4_multipliedByCube_46 (n := 49) rfl (fun v34 => ?_)
    refine zr_icmp_ge C40 (tgt := 100) h0 dX4_multipliedByCube_49 (by decide) (n := 52) rfl ?_ ?_
    · refine zr_ex hX40 ?_
      refine zv_sub (lv' := [(0, .ref a0), (1, .int a1), (2, .int a2), (3, .int a3), (4, .int t40.1), (5, .int t6.2)]) ?_ (zsub_of [0, 1, 2, 3, 4, 5] rfl)
      refine zr_iinc (1 : Int32) [(0, .ref a0), (1, .int a1), (2, .int a2), (3, .int a3), (4, .int t40.1), (5, .int (t6.2 + (1 : Int32)))] h0 dX4_multipliedByCube_100 rfl (by decide) rfl rfl (n := 103) rfl ?_
      refine zr_goto (tgt := 6) h0 dX4_multipliedByCube_103 (by decide) ?_
      exact hL6 (t40.1, t6.2 + (1 : Int32))
    · refine zr_iload_n h0 dX4_multipliedByCube_52 rfl (n := 53) rfl ?_
      refine zr_aload_n h0 dX4_multipliedByCube_53 rfl (n := 54) rfl ?_
      refine zr_getR C40 hC40 h0 zcX4 (k := 0) (by decide) zw_408 dX4_multipliedByCube_54 (n := 57) rfl (fun v35 => ?_)
      refine zr_getI C40 hC40 h0 zcX0 (k := 1) (by decide) zw_233 dX4_multipliedByCube_57 (n := 60) rfl (fun v36 => ?_)
      refine zr_iload h0 dX4_multipliedByCube_60 rfl (n := 62) rfl ?_
      refine zr_aload_n h0 dX4_multipliedByCube_62 rfl (n := 63) rfl ?_
      refine zr_getI C40 hC40 h0 zcX4 (k := 1) (by decide) zw_410 dX4_multipliedByCube_63 (n := 66) rfl (fun v37 => ?_)
      refine zr_cRI C40 hC40 0 0 (fun x hx => zk_SN (host := "Bilinearium") h0 (fun l D z0 => kX5_numberIn l D z0 a2 v36 t40.2 v37 S x hx) (by decide +kernel) zw_506 zw_1 zw_507 zyX5_numberIn (As := [.int a2, .int v36, .int t40.2, .int v37]) (st := []) rfl (by decide) rfl (Nat.le_of_ble_eq_true rfl) (by decide) dX4_multipliedByCube_66) rfl rfl (n := 69) rfl (fun x38 => ?_)
      refine zr_istore [(0, .ref a0), (1, .int a1), (2, .int a2), (3, .int a3), (4, .int t40.1), (5, .int t6.2), (6, .int x32), (7, .int t40.2), (8, .int x38)] h0 dX4_multipliedByCube_69 (by decide) rfl (n := 71) rfl ?_
      refine zr_iload h0 dX4_multipliedByCube_71 rfl (n := 73) rfl ?_
      refine zr_aload_n h0 dX4_multipliedByCube_73 rfl (n := 74) rfl ?_
      refine zr_getR C40 hC40 h0 zcX4 (k := 0) (by decide) zw_408 dX4_multipliedByCube_74 (n := 77) rfl (fun v39 => ?_)
      refine zr_iload h0 dX4_multipliedByCube_77 rfl (n := 79) rfl ?_
      refine zr_iload h0 dX4_multipliedByCube_79 rfl (n := 81) rfl ?_
      refine zr_iload_n h0 dX4_multipliedByCube_81 rfl (n := 82) rfl ?_
      refine zr_cRI C40 hC40 0 0 (fun x hx => zk_V h0 zcX0 (zcl_ex hx) (fun l D z0 => kX0_numberAt l D z0 v39 t6.2 t40.2 a3 S x (zcl_of hx)) zw_466 zw_325 zw_326 zw_10 zw_327 rfl zyX0_numberAt (As := [.int t6.2, .int t40.2, .int a3]) (st := [.int t40.1]) rfl (by decide) rfl (Nat.le_of_ble_eq_true rfl) (by decide) dX4_multipliedByCube_82) rfl rfl (n := 85) rfl (fun x40 => ?_)
      refine zr_iload h0 dX4_multipliedByCube_85 rfl (n := 87) rfl ?_
      refine zr_imul h0 dX4_multipliedByCube_87 (n := 88) rfl ?_
      refine zr_iload h0 dX4_multipliedByCube_88 rfl (n := 90) rfl ?_
      refine zr_imul h0 dX4_multipliedByCube_90 (n := 91) rfl ?_
      refine zr_iadd h0 dX4_multipliedByCube_91 (n := 92) rfl ?_
      refine zr_istore [(0, .ref a0), (1, .int a1), (2, .int a2), (3, .int a3), (4, .int (t40.1 + ((x40 * x32) * x38))), (5, .int t6.2), (6, .int x32), (7, .int t40.2), (8, .int x38)] h0 dX4_multipliedByCube_92 (by decide) rfl (n := 94) rfl ?_
      refine zr_iinc (1 : Int32) [(0, .ref a0), (1, .int a1), (2, .int a2), (3, .int a3), (4, .int (t40.1 + ((x40 * x32) * x38))), (5, .int t6.2), (6, .int x32), (7, .int (t40.2 + (1 : Int32))), (8, .int x38)] h0 dX4_multipliedByCube_94 rfl (by decide) rfl rfl (n := 97) rfl ?_
      refine zr_goto (tgt := 40) h0 dX4_multipliedByCube_97 (by decide) ?_
      refine zv_sub (lv' := [(0, .ref a0), (1, .int a1), (2, .int a2), (3, .int a3), (4, .int (t40.1 + ((x40 * x32) * x38))), (5, .int t6.2), (6, .int x32), (7, .int (t40.2 + (1 : Int32)))]) ?_ (zsub_of [0, 1, 2, 3, 4, 5, 6, 7] rfl)
      exact hL40 (t40.1 + ((x40 * x32) * x38), t40.2 + (1 : Int32))
theorem kX4_multipliedByCube (l : Launch) (D : ZD) (z0 : Nat) (a0 : Nat) (a1 : Int32) (a2 : Int32) (a3 : Int32) (S : ZS) (x : Int32) (hf : fX4_multipliedByCube a0 a1 a2 a3 S = some x) : zMet l D z0 yX4_multipliedByCube cX4_multipliedByCube 9 (some .int) rmX4_multipliedByCube [.ref a0, .int a1, .int a2, .int a3] S (some (.int x)) S :=
  zMet_of (by decide) (Nat.le_of_ble_eq_true rfl) (fun G h0 hini hE => wX4_multipliedByCube a0 a1 a2 a3 S h0 (fun o => o = some x) (fun h => nomatch h) (fun v h => by cases h; exact hE)) hf
theorem dX5_resultByCube_0 : decode cX5_resultByCube 0 = .ok (.aload_n 0, 1) := by decide +kernel
theorem dX5_resultByCube_1 : decode cX5_resultByCube 1 = .ok (.iload_n 1, 1) := by decide +kernel
theorem dX5_resultByCube_2 : decode cX5_resultByCube 2 = .ok (.invokevirtual 148, 3) := by decide +kernel
theorem dX5_resultByCube_5 : decode cX5_resultByCube 5 = .ok (.astore 5, 2) := by decide +kernel
theorem dX5_resultByCube_7 : decode cX5_resultByCube 7 = .ok (.aload_n 0, 1) := by decide +kernel
theorem dX5_resultByCube_8 : decode cX5_resultByCube 8 = .ok (.aload 5, 2) := by decide +kernel
theorem dX5_resultByCube_10 : decode cX5_resultByCube 10 = .ok (.iload_n 2, 1) := by decide +kernel
theorem dX5_resultByCube_11 : decode cX5_resultByCube 11 = .ok (.iload_n 3, 1) := by decide +kernel
theorem dX5_resultByCube_12 : decode cX5_resultByCube 12 = .ok (.iload 4, 2) := by decide +kernel
theorem dX5_resultByCube_14 : decode cX5_resultByCube 14 = .ok (.invokevirtual 230, 3) := by decide +kernel
theorem dX5_resultByCube_17 : decode cX5_resultByCube 17 = .ok (.aload 5, 2) := by decide +kernel
theorem dX5_resultByCube_19 : decode cX5_resultByCube 19 = .ok (.iload_n 2, 1) := by decide +kernel
theorem dX5_resultByCube_20 : decode cX5_resultByCube 20 = .ok (.iload_n 3, 1) := by decide +kernel
theorem dX5_resultByCube_21 : decode cX5_resultByCube 21 = .ok (.iload 4, 2) := by decide +kernel
theorem dX5_resultByCube_23 : decode cX5_resultByCube 23 = .ok (.invokevirtual 237, 3) := by decide +kernel
theorem dX5_resultByCube_26 : decode cX5_resultByCube 26 = .ok (.ireturn, 1) := by decide +kernel
abbrev rmX5_resultByCube : Room := { frames := 8, cells := 3, slots := 18, locals := 136 }
theorem zyX5_resultByCube : zyOK yX5_resultByCube 4 := ⟨by decide +kernel, by decide +kernel, by decide +kernel⟩
set_option maxHeartbeats 4000000 in
set_option maxRecDepth 100000 in
theorem wX5_resultByCube {G : ZG} (a0 : Nat) (a1 : Int32) (a2 : Int32) (a3 : Int32) (a4 : Int32) (S : ZS) (h0 : zFix G cX5_resultByCube RX5 6 (some .int) rmX5_resultByCube) (C : Option ((Int32 × ZS) ⊕ ZX) → Prop) (hC : ¬ C none) (hnt : zNoTab G) (hE : ∀ (v : Int32) (S1 : ZS), C (some (.inl (v, S1))) → zEndT G (some (.int v)) S1 rmX5_resultByCube) (hEx : ∀ (E : String) (h : ZH), C (some (.inr (E, h))) → zEndX G E h rmX5_resultByCube) : zV G 6 S 0 0 0 [(0, .ref a0), (1, .int a1), (2, .int a2), (3, .int a3), (4, .int a4)] [] (C (fX5_resultByCube a0 a1 a2 a3 a4 S)) := by
  unfold fX5_resultByCube
  refine zr_aload_n h0 dX5_resultByCube_0 rfl (n := 1) rfl ?_
  refine zr_iload_n h0 dX5_resultByCube_1 rfl (n := 2) rfl ?_
  refine zr_cTR C hC 1 6 h0 (fun x hx => zk_VT h0 zcX5 (zcl_ex hx) (fun l D z0 hlt => kX5_needWay l D z0 hlt a0 a1 S x (zcl_of hx)) hnt zw_430 zw_432 zs_3 zw_1 zw_433 rfl zyX5_needWay (As := [.int a1]) (st := []) rfl (by decide) rfl (Nat.le_of_ble_eq_true rfl) (by decide) dX5_resultByCube_2) hnt rfl rfl (by decide) (by decide) (n := 5) rfl (fun z h => hEx _ _ h) (fun x1 => ?_)
  refine zr_astore [(0, .ref a0), (1, .int a1), (2, .int a2), (3, .int a3), (4, .int a4), (5, .ref x1.1)] h0 dX5_resultByCube_5 (by decide) rfl (n := 7) rfl ?_
  refine zr_aload_n h0 dX5_resultByCube_7 rfl (n := 8) rfl ?_
  refine zr_aload h0 dX5_resultByCube_8 rfl (n := 10) rfl ?_
  refine zr_iload_n h0 dX5_resultByCube_10 rfl (n := 11) rfl ?_
  refine zr_iload_n h0 dX5_resultByCube_11 rfl (n := 12) rfl ?_
  refine zr_iload h0 dX5_resultByCube_12 rfl (n := 14) rfl ?_
  refine zr_cTV C hC 3 18 h0 (fun x hx => zk_VT h0 zcX5 (zcl_ex hx) (fun l D z0 hlt => kX5_needFactors l D z0 hlt a0 x1.1 a2 a3 a4 x1.2 x (zcl_of hx)) hnt zw_698 zw_700 zs_25 zw_1 zw_701 rfl zyX5_needFactors (As := [.ref x1.1, .int a2, .int a3, .int a4]) (st := []) rfl (by decide) rfl (Nat.le_of_ble_eq_true rfl) (by decide) dX5_resultByCube_14) hnt rfl rfl (by decide) (by decide) (n := 17) rfl (fun z h => hEx _ _ h) (fun x2 => ?_)
  refine zr_aload h0 dX5_resultByCube_17 rfl (n := 19) rfl ?_
  refine zr_iload_n h0 dX5_resultByCube_19 rfl (n := 20) rfl ?_
  refine zr_iload_n h0 dX5_resultByCube_20 rfl (n := 21) rfl ?_
  refine zr_iload h0 dX5_resultByCube_21 rfl (n := 23) rfl ?_
  refine zr_cRI C hC 3 18 (fun x hx => zk_V h0 zcX4 (zcl_ex hx) (fun l D z0 => kX4_multipliedByCube l D z0 x1.1 a2 a3 a4 x2.2 x (zcl_of hx)) zw_721 zw_722 zw_723 zw_12 zw_724 rfl zyX4_multipliedByCube (As := [.int a2, .int a3, .int a4]) (st := []) rfl (by decide) rfl (Nat.le_of_ble_eq_true rfl) (by decide) dX5_resultByCube_23) rfl rfl (n := 26) rfl (fun x3 => ?_)
  exact zr_iretT h0 rfl dX5_resultByCube_26 (hE _ _) (by decide) (by decide)
theorem kX5_resultByCube (l : Launch) (D : ZD) (z0 : Nat) (hlt : l.stackTraces = false) (a0 : Nat) (a1 : Int32) (a2 : Int32) (a3 : Int32) (a4 : Int32) (S : ZS) (x : ((Int32 × ZS) ⊕ ZX)) (hf : fX5_resultByCube a0 a1 a2 a3 a4 S = some x) : zMetT l D z0 yX5_resultByCube cX5_resultByCube 6 (some .int) rmX5_resultByCube [.ref a0, .int a1, .int a2, .int a3, .int a4] S (x.map (fun y => ((some (.int y.1)), y.2)) id) :=
  zMetT_of hlt (by decide) (Nat.le_of_ble_eq_true rfl) (fun G h0 hnt hE hEx => wX5_resultByCube a0 a1 a2 a3 a4 S h0 (fun o => o = some x) (fun h => nomatch h) hnt (fun v S1 h => by cases h; exact hE _ _ rfl) (fun E h hh => by cases hh; exact hEx _ _ rfl)) hf
theorem dX5_additionsInLevels_0 : decode cX5_additionsInLevels 0 = .ok (.aload_n 0, 1) := by decide +kernel
theorem dX5_additionsInLevels_1 : decode cX5_additionsInLevels 1 = .ok (.getfield 152, 3) := by decide +kernel
theorem dX5_additionsInLevels_4 : decode cX5_additionsInLevels 4 = .ok (.getfield 80, 3) := by decide +kernel
theorem dX5_additionsInLevels_7 : decode cX5_additionsInLevels 7 = .ok (.i2l, 1) := by decide +kernel
theorem dX5_additionsInLevels_8 : decode cX5_additionsInLevels 8 = .ok (.aload_n 0, 1) := by decide +kernel
theorem dX5_additionsInLevels_9 : decode cX5_additionsInLevels 9 = .ok (.getfield 152, 3) := by decide +kernel
theorem dX5_additionsInLevels_12 : decode cX5_additionsInLevels 12 = .ok (.getfield 80, 3) := by decide +kernel
theorem dX5_additionsInLevels_15 : decode cX5_additionsInLevels 15 = .ok (.i2l, 1) := by decide +kernel
theorem dX5_additionsInLevels_16 : decode cX5_additionsInLevels 16 = .ok (.lmul, 1) := by decide +kernel
theorem dX5_additionsInLevels_17 : decode cX5_additionsInLevels 17 = .ok (.lstore 4, 2) := by decide +kernel
theorem dX5_additionsInLevels_19 : decode cX5_additionsInLevels 19 = .ok (.lconst 1, 1) := by decide +kernel
theorem dX5_additionsInLevels_20 : decode cX5_additionsInLevels 20 = .ok (.lstore 6, 2) := by decide +kernel
theorem dX5_additionsInLevels_22 : decode cX5_additionsInLevels 22 = .ok (.lconst 0, 1) := by decide +kernel
theorem dX5_additionsInLevels_23 : decode cX5_additionsInLevels 23 = .ok (.lstore 8, 2) := by decide +kernel
theorem dX5_additionsInLevels_25 : decode cX5_additionsInLevels 25 = .ok (.iconst 1, 1) := by decide +kernel
theorem dX5_additionsInLevels_26 : decode cX5_additionsInLevels 26 = .ok (.istore 10, 2) := by decide +kernel
theorem dX5_additionsInLevels_28 : decode cX5_additionsInLevels 28 = .ok (.iload 10, 2) := by decide +kernel
theorem dX5_additionsInLevels_30 : decode cX5_additionsInLevels 30 = .ok (.iload_n 1, 1) := by decide +kernel
theorem dX5_additionsInLevels_31 : decode cX5_additionsInLevels 31 = .ok (.if_icmp .gt 31, 3) := by decide +kernel
theorem dX5_additionsInLevels_34 : decode cX5_additionsInLevels 34 = .ok (.lload 8, 2) := by decide +kernel
theorem dX5_additionsInLevels_36 : decode cX5_additionsInLevels 36 = .ok (.aload_n 0, 1) := by decide +kernel
theorem dX5_additionsInLevels_37 : decode cX5_additionsInLevels 37 = .ok (.getfield 168, 3) := by decide +kernel
theorem dX5_additionsInLevels_40 : decode cX5_additionsInLevels 40 = .ok (.i2l, 1) := by decide +kernel
theorem dX5_additionsInLevels_41 : decode cX5_additionsInLevels 41 = .ok (.lmul, 1) := by decide +kernel
theorem dX5_additionsInLevels_42 : decode cX5_additionsInLevels 42 = .ok (.lload_n 2, 1) := by decide +kernel
theorem dX5_additionsInLevels_43 : decode cX5_additionsInLevels 43 = .ok (.lload 6, 2) := by decide +kernel
theorem dX5_additionsInLevels_45 : decode cX5_additionsInLevels 45 = .ok (.lmul, 1) := by decide +kernel
theorem dX5_additionsInLevels_46 : decode cX5_additionsInLevels 46 = .ok (.ladd, 1) := by decide +kernel
theorem dX5_additionsInLevels_47 : decode cX5_additionsInLevels 47 = .ok (.lstore 8, 2) := by decide +kernel
theorem dX5_additionsInLevels_49 : decode cX5_additionsInLevels 49 = .ok (.lload 6, 2) := by decide +kernel
theorem dX5_additionsInLevels_51 : decode cX5_additionsInLevels 51 = .ok (.lload 4, 2) := by decide +kernel
theorem dX5_additionsInLevels_53 : decode cX5_additionsInLevels 53 = .ok (.lmul, 1) := by decide +kernel
theorem dX5_additionsInLevels_54 : decode cX5_additionsInLevels 54 = .ok (.lstore 6, 2) := by decide +kernel
theorem dX5_additionsInLevels_56 : decode cX5_additionsInLevels 56 = .ok (.iinc 10 1, 3) := by decide +kernel
theorem dX5_additionsInLevels_59 : decode cX5_additionsInLevels 59 = .ok (.goto (-31), 3) := by decide +kernel
theorem dX5_additionsInLevels_62 : decode cX5_additionsInLevels 62 = .ok (.lload 8, 2) := by decide +kernel
theorem dX5_additionsInLevels_64 : decode cX5_additionsInLevels 64 = .ok (.lreturn, 1) := by decide +kernel
abbrev rmX5_additionsInLevels : Room := { frames := 1, cells := 0, slots := 0, locals := 20 }
theorem zyX5_additionsInLevels : zyOK yX5_additionsInLevels 3 := ⟨by decide +kernel, by decide +kernel, by decide +kernel⟩
set_option maxHeartbeats 4000000 in
set_option maxRecDepth 100000 in
theorem wX5_additionsInLevels {G : ZG} (a0 : Nat) (a1 : Int32) (a2 : Int64) (S : ZS) (h0 : zFix G cX5_additionsInLevels RX5 11 (some .long) rmX5_additionsInLevels) (C : Option Int64 → Prop) (hC : ¬ C none) (hE : ∀ v : Int64, C (some v) → zEnd G (some (.long v)) S rmX5_additionsInLevels) : zV G 11 S 0 0 0 [(0, .ref a0), (1, .int a1), (2, .long a2)] [] (C (fX5_additionsInLevels a0 a1 a2 S)) := by
  unfold fX5_additionsInLevels
  refine zr_aload_n h0 dX5_additionsInLevels_0 rfl (n := 1) rfl ?_
  refine zr_getR C hC h0 zcX4 (k := 0) (by decide) zw_409 dX5_additionsInLevels_1 (n := 4) rfl (fun v1 => ?_)
  refine zr_getI C hC h0 zcX0 (k := 4) (by decide) zw_242 dX5_additionsInLevels_4 (n := 7) rfl (fun v2 => ?_)
  refine zr_i2l h0 dX5_additionsInLevels_7 (n := 8) rfl ?_
  refine zr_aload_n h0 dX5_additionsInLevels_8 rfl (n := 9) rfl ?_
  refine zr_getR C hC h0 zcX4 (k := 0) (by decide) zw_409 dX5_additionsInLevels_9 (n := 12) rfl (fun v3 => ?_)
  refine zr_getI C hC h0 zcX0 (k := 4) (by decide) zw_242 dX5_additionsInLevels_12 (n := 15) rfl (fun v4 => ?_)
  refine zr_i2l h0 dX5_additionsInLevels_15 (n := 16) rfl ?_
  refine zr_lmul h0 dX5_additionsInLevels_16 (n := 17) rfl ?_
  refine zr_lstore [(0, .ref a0), (1, .int a1), (2, .long a2), (4, .long ((Int32.toInt64 v2) * (Int32.toInt64 v4)))] h0 dX5_additionsInLevels_17 (by decide) rfl (n := 19) rfl ?_
  refine zr_lconst (1 : Int64) h0 (by decide) dX5_additionsInLevels_19 (n := 20) rfl ?_
  refine zr_lstore [(0, .ref a0), (1, .int a1), (2, .long a2), (4, .long ((Int32.toInt64 v2) * (Int32.toInt64 v4))), (6, .long (1 : Int64))] h0 dX5_additionsInLevels_20 (by decide) rfl (n := 22) rfl ?_
  refine zr_lconst (0 : Int64) h0 (by decide) dX5_additionsInLevels_22 (n := 23) rfl ?_
  refine zr_lstore [(0, .ref a0), (1, .int a1), (2, .long a2), (4, .long ((Int32.toInt64 v2) * (Int32.toInt64 v4))), (6, .long (1 : Int64)), (8, .long (0 : Int64))] h0 dX5_additionsInLevels_23 (by decide) rfl (n := 25) rfl ?_
  refine zr_iconst (1 : Int32) h0 (by decide) dX5_additionsInLevels_25 (n := 26) rfl ?_
  refine zr_istore [(0, .ref a0), (1, .int a1), (2, .long a2), (4, .long ((Int32.toInt64 v2) * (Int32.toInt64 v4))), (6, .long (1 : Int64)), (8, .long (0 : Int64)), (10, .int (1 : Int32))] h0 dX5_additionsInLevels_26 (by decide) rfl (n := 28) rfl ?_
  refine zr_loop hC (fX5_additionsInLevels_B28 a0 a1 a2 ((Int32.toInt64 v2) * (Int32.toInt64 v4)) S) (fun y => [(0, .ref a0), (1, .int a1), (2, .long a2), (4, .long ((Int32.toInt64 v2) * (Int32.toInt64 v4))), (6, .long y.1), (8, .long y.2.1), (10, .int y.2.2)]) (fun y => S) zF ((1 : Int64), (0 : Int64), (1 : Int32)) (fun C28 hC28 hX28 hL28 t28 => ?_)
  unfold fX5_additionsInLevels_B28
  refine zr_iload h0 dX5_additionsInLevels_28 rfl (n := 30) rfl ?_
  refine zr_iload_n h0 dX5_additionsInLevels_30 rfl (n := 31) rfl ?_
  refine zr_icmp_gt C28 (tgt := 62) h0 dX5_additionsInLevels_31 (by decide) (n := 34) rfl ?_ ?_
  · refine zr_ex hX28 ?_
    refine zv_sub (lv' := [(8, .long t28.2.1)]) ?_ (zsub_of [5] rfl)
    refine zr_lload h0 dX5_additionsInLevels_62 rfl (n := 64) rfl ?_
    exact zr_lret h0 rfl dX5_additionsInLevels_64 (hE _) (by decide) (by decide)
  · refine zr_lload h0 dX5_additionsInLevels_34 rfl (n := 36) rfl ?_
    refine zr_aload_n h0 dX5_additionsInLevels_36 rfl (n := 37) rfl ?_
    refine zr_getI C28 hC28 h0 zcX4 (k := 3) (by decide) zw_413 dX5_additionsInLevels_37 (n := 40) rfl (fun v6 => ?_)
    refine zr_i2l h0 dX5_additionsInLevels_40 (n := 41) rfl ?_
    refine zr_lmul h0 dX5_additionsInLevels_41 (n := 42) rfl ?_
    refine zr_lload_n h0 dX5_additionsInLevels_42 rfl (n := 43) rfl ?_
    refine zr_lload h0 dX5_additionsInLevels_43 rfl (n := 45) rfl ?_
    refine zr_lmul h0 dX5_additionsInLevels_45 (n := 46) rfl ?_
    refine zr_ladd h0 dX5_additionsInLevels_46 (n := 47) rfl ?_
    refine zr_lstore [(0, .ref a0), (1, .int a1), (2, .long a2), (4, .long ((Int32.toInt64 v2) * (Int32.toInt64 v4))), (6, .long t28.1), (8, .long ((t28.2.1 * (Int32.toInt64 v6)) + (a2 * t28.1))), (10, .int t28.2.2)] h0 dX5_additionsInLevels_47 (by decide) rfl (n := 49) rfl ?_
    refine zr_lload h0 dX5_additionsInLevels_49 rfl (n := 51) rfl ?_
    refine zr_lload h0 dX5_additionsInLevels_51 rfl (n := 53) rfl ?_
    refine zr_lmul h0 dX5_additionsInLevels_53 (n := 54) rfl ?_
    refine zr_lstore [(0, .ref a0), (1, .int a1), (2, .long a2), (4, .long ((Int32.toInt64 v2) * (Int32.toInt64 v4))), (6, .long (t28.1 * ((Int32.toInt64 v2) * (Int32.toInt64 v4)))), (8, .long ((t28.2.1 * (Int32.toInt64 v6)) + (a2 * t28.1))), (10, .int t28.2.2)] h0 dX5_additionsInLevels_54 (by decide) rfl (n := 56) rfl ?_
    refine zr_iinc (1 : Int32) [(0, .ref a0), (1, .int a1), (2, .long a2), (4, .long ((Int32.toInt64 v2) * (Int32.toInt64 v4))), (6, .long (t28.1 * ((Int32.toInt64 v2) * (Int32.toInt64 v4)))), (8, .long ((t28.2.1 * (Int32.toInt64 v6)) + (a2 * t28.1))), (10, .int (t28.2.2 + (1 : Int32)))] h0 dX5_additionsInLevels_56 rfl (by decide) rfl rfl (n := 59) rfl ?_
    refine zr_goto (tgt := 28) h0 dX5_additionsInLevels_59 (by decide) ?_
    exact hL28 (t28.1 * ((Int32.toInt64 v2) * (Int32.toInt64 v4)), (t28.2.1 * (Int32.toInt64 v6)) + (a2 * t28.1), t28.2.2 + (1 : Int32))
theorem kX5_additionsInLevels (l : Launch) (D : ZD) (z0 : Nat) (a0 : Nat) (a1 : Int32) (a2 : Int64) (S : ZS) (x : Int64) (hf : fX5_additionsInLevels a0 a1 a2 S = some x) : zMet l D z0 yX5_additionsInLevels cX5_additionsInLevels 11 (some .long) rmX5_additionsInLevels [.ref a0, .int a1, .long a2] S (some (.long x)) S :=
  zMet_of (by decide) (Nat.le_of_ble_eq_true rfl) (fun G h0 hini hE => wX5_additionsInLevels a0 a1 a2 S h0 (fun o => o = some x) (fun h => nomatch h) (fun v h => by cases h; exact hE)) hf
theorem dX5_multiplicationsInLevels_0 : decode cX5_multiplicationsInLevels 0 = .ok (.lconst 1, 1) := by decide +kernel
theorem dX5_multiplicationsInLevels_1 : decode cX5_multiplicationsInLevels 1 = .ok (.lstore_n 2, 1) := by decide +kernel
theorem dX5_multiplicationsInLevels_2 : decode cX5_multiplicationsInLevels 2 = .ok (.iconst 1, 1) := by decide +kernel
theorem dX5_multiplicationsInLevels_3 : decode cX5_multiplicationsInLevels 3 = .ok (.istore 4, 2) := by decide +kernel
theorem dX5_multiplicationsInLevels_5 : decode cX5_multiplicationsInLevels 5 = .ok (.iload 4, 2) := by decide +kernel
theorem dX5_multiplicationsInLevels_7 : decode cX5_multiplicationsInLevels 7 = .ok (.iload_n 1, 1) := by decide +kernel
theorem dX5_multiplicationsInLevels_8 : decode cX5_multiplicationsInLevels 8 = .ok (.if_icmp .gt 17, 3) := by decide +kernel
theorem dX5_multiplicationsInLevels_11 : decode cX5_multiplicationsInLevels 11 = .ok (.lload_n 2, 1) := by decide +kernel
theorem dX5_multiplicationsInLevels_12 : decode cX5_multiplicationsInLevels 12 = .ok (.aload_n 0, 1) := by decide +kernel
theorem dX5_multiplicationsInLevels_13 : decode cX5_multiplicationsInLevels 13 = .ok (.getfield 168, 3) := by decide +kernel
theorem dX5_multiplicationsInLevels_16 : decode cX5_multiplicationsInLevels 16 = .ok (.i2l, 1) := by decide +kernel
theorem dX5_multiplicationsInLevels_17 : decode cX5_multiplicationsInLevels 17 = .ok (.lmul, 1) := by decide +kernel
theorem dX5_multiplicationsInLevels_18 : decode cX5_multiplicationsInLevels 18 = .ok (.lstore_n 2, 1) := by decide +kernel
theorem dX5_multiplicationsInLevels_19 : decode cX5_multiplicationsInLevels 19 = .ok (.iinc 4 1, 3) := by decide +kernel
theorem dX5_multiplicationsInLevels_22 : decode cX5_multiplicationsInLevels 22 = .ok (.goto (-17), 3) := by decide +kernel
theorem dX5_multiplicationsInLevels_25 : decode cX5_multiplicationsInLevels 25 = .ok (.lload_n 2, 1) := by decide +kernel
theorem dX5_multiplicationsInLevels_26 : decode cX5_multiplicationsInLevels 26 = .ok (.lreturn, 1) := by decide +kernel
abbrev rmX5_multiplicationsInLevels : Room := { frames := 1, cells := 0, slots := 0, locals := 20 }
theorem zyX5_multiplicationsInLevels : zyOK yX5_multiplicationsInLevels 2 := ⟨by decide +kernel, by decide +kernel, by decide +kernel⟩
set_option maxHeartbeats 4000000 in
set_option maxRecDepth 100000 in
theorem wX5_multiplicationsInLevels {G : ZG} (a0 : Nat) (a1 : Int32) (S : ZS) (h0 : zFix G cX5_multiplicationsInLevels RX5 5 (some .long) rmX5_multiplicationsInLevels) (C : Option Int64 → Prop) (hC : ¬ C none) (hE : ∀ v : Int64, C (some v) → zEnd G (some (.long v)) S rmX5_multiplicationsInLevels) : zV G 5 S 0 0 0 [(0, .ref a0), (1, .int a1)] [] (C (fX5_multiplicationsInLevels a0 a1 S)) := by
  unfold fX5_multiplicationsInLevels
  refine zr_lconst (1 : Int64) h0 (by decide) dX5_multiplicationsInLevels_0 (n := 1) rfl ?_
  refine zr_lstore_n [(0, .ref a0), (1, .int a1), (2, .long (1 : Int64))] h0 dX5_multiplicationsInLevels_1 (by decide) rfl (n := 2) rfl ?_
  refine zr_iconst (1 : Int32) h0 (by decide) dX5_multiplicationsInLevels_2 (n := 3) rfl ?_
  refine zr_istore [(0, .ref a0), (1, .int a1), (2, .long (1 : Int64)), (4, .int (1 : Int32))] h0 dX5_multiplicationsInLevels_3 (by decide) rfl (n := 5) rfl ?_
  refine zr_loop hC (fX5_multiplicationsInLevels_B5 a0 a1 S) (fun y => [(0, .ref a0), (1, .int a1), (2, .long y.1), (4, .int y.2)]) (fun y => S) zF ((1 : Int64), (1 : Int32)) (fun C5 hC5 hX5 hL5 t5 => ?_)
  unfold fX5_multiplicationsInLevels_B5
  refine zr_iload h0 dX5_multiplicationsInLevels_5 rfl (n := 7) rfl ?_
  refine zr_iload_n h0 dX5_multiplicationsInLevels_7 rfl (n := 8) rfl ?_
  refine zr_icmp_gt C5 (tgt := 25) h0 dX5_multiplicationsInLevels_8 (by decide) (n := 11) rfl ?_ ?_
  · refine zr_ex hX5 ?_
    refine zv_sub (lv' := [(2, .long t5.1)]) ?_ (zsub_of [2] rfl)
    refine zr_lload_n h0 dX5_multiplicationsInLevels_25 rfl (n := 26) rfl ?_
    exact zr_lret h0 rfl dX5_multiplicationsInLevels_26 (hE _) (by decide) (by decide)
  · refine zr_lload_n h0 dX5_multiplicationsInLevels_11 rfl (n := 12) rfl ?_
    refine zr_aload_n h0 dX5_multiplicationsInLevels_12 rfl (n := 13) rfl ?_
    refine zr_getI C5 hC5 h0 zcX4 (k := 3) (by decide) zw_413 dX5_multiplicationsInLevels_13 (n := 16) rfl (fun v2 => ?_)
    refine zr_i2l h0 dX5_multiplicationsInLevels_16 (n := 17) rfl ?_
    refine zr_lmul h0 dX5_multiplicationsInLevels_17 (n := 18) rfl ?_
    refine zr_lstore_n [(0, .ref a0), (1, .int a1), (2, .long (t5.1 * (Int32.toInt64 v2))), (4, .int t5.2)] h0 dX5_multiplicationsInLevels_18 (by decide) rfl (n := 19) rfl ?_
    refine zr_iinc (1 : Int32) [(0, .ref a0), (1, .int a1), (2, .long (t5.1 * (Int32.toInt64 v2))), (4, .int (t5.2 + (1 : Int32)))] h0 dX5_multiplicationsInLevels_19 rfl (by decide) rfl rfl (n := 22) rfl ?_
    refine zr_goto (tgt := 5) h0 dX5_multiplicationsInLevels_22 (by decide) ?_
    exact hL5 (t5.1 * (Int32.toInt64 v2), t5.2 + (1 : Int32))
theorem kX5_multiplicationsInLevels (l : Launch) (D : ZD) (z0 : Nat) (a0 : Nat) (a1 : Int32) (S : ZS) (x : Int64) (hf : fX5_multiplicationsInLevels a0 a1 S = some x) : zMet l D z0 yX5_multiplicationsInLevels cX5_multiplicationsInLevels 5 (some .long) rmX5_multiplicationsInLevels [.ref a0, .int a1] S (some (.long x)) S :=
  zMet_of (by decide) (Nat.le_of_ble_eq_true rfl) (fun G h0 hini hE => wX5_multiplicationsInLevels a0 a1 S h0 (fun o => o = some x) (fun h => nomatch h) (fun v h => by cases h; exact hE)) hf
theorem dX5_levels_0 : decode cX5_levels 0 = .ok (.aload_n 0, 1) := by decide +kernel
theorem dX5_levels_1 : decode cX5_levels 1 = .ok (.iload_n 1, 1) := by decide +kernel
theorem dX5_levels_2 : decode cX5_levels 2 = .ok (.invokevirtual 148, 3) := by decide +kernel
theorem dX5_levels_5 : decode cX5_levels 5 = .ok (.astore 4, 2) := by decide +kernel
theorem dX5_levels_7 : decode cX5_levels 7 = .ok (.iload_n 2, 1) := by decide +kernel
theorem dX5_levels_8 : decode cX5_levels 8 = .ok (.ifCond .lt 9, 3) := by decide +kernel
theorem dX5_levels_11 : decode cX5_levels 11 = .ok (.iload_n 2, 1) := by decide +kernel
theorem dX5_levels_12 : decode cX5_levels 12 = .ok (.bipush 6, 2) := by decide +kernel
theorem dX5_levels_14 : decode cX5_levels 14 = .ok (.if_icmp .le 13, 3) := by decide +kernel
theorem dX5_levels_17 : decode cX5_levels 17 = .ok (.new 56, 3) := by decide +kernel
theorem dX5_levels_20 : decode cX5_levels 20 = .ok (.dup, 1) := by decide +kernel
theorem dX5_levels_21 : decode cX5_levels 21 = .ok (.ldc 240, 2) := by decide +kernel
theorem dX5_levels_23 : decode cX5_levels 23 = .ok (.invokespecial 60, 3) := by decide +kernel
theorem dX5_levels_26 : decode cX5_levels 26 = .ok (.athrow, 1) := by decide +kernel
theorem dX5_levels_27 : decode cX5_levels 27 = .ok (.aload 4, 2) := by decide +kernel
theorem dX5_levels_29 : decode cX5_levels 29 = .ok (.getfield 152, 3) := by decide +kernel
theorem dX5_levels_32 : decode cX5_levels 32 = .ok (.getfield 80, 3) := by decide +kernel
theorem dX5_levels_35 : decode cX5_levels 35 = .ok (.iconst 2, 1) := by decide +kernel
theorem dX5_levels_36 : decode cX5_levels 36 = .ok (.if_icmp .ge 13, 3) := by decide +kernel
theorem dX5_levels_39 : decode cX5_levels 39 = .ok (.new 63, 3) := by decide +kernel
theorem dX5_levels_42 : decode cX5_levels 42 = .ok (.dup, 1) := by decide +kernel
theorem dX5_levels_43 : decode cX5_levels 43 = .ok (.ldc 242, 2) := by decide +kernel
theorem dX5_levels_45 : decode cX5_levels 45 = .ok (.invokespecial 67, 3) := by decide +kernel
theorem dX5_levels_48 : decode cX5_levels 48 = .ok (.athrow, 1) := by decide +kernel
theorem dX5_levels_49 : decode cX5_levels 49 = .ok (.iload_n 3, 1) := by decide +kernel
theorem dX5_levels_50 : decode cX5_levels 50 = .ok (.ifCond .eq 20, 3) := by decide +kernel
theorem dX5_levels_53 : decode cX5_levels 53 = .ok (.aload 4, 2) := by decide +kernel
theorem dX5_levels_55 : decode cX5_levels 55 = .ok (.iload_n 2, 1) := by decide +kernel
theorem dX5_levels_56 : decode cX5_levels 56 = .ok (.aload_n 0, 1) := by decide +kernel
theorem dX5_levels_57 : decode cX5_levels 57 = .ok (.aload 4, 2) := by decide +kernel
theorem dX5_levels_59 : decode cX5_levels 59 = .ok (.iconst 0, 1) := by decide +kernel
theorem dX5_levels_60 : decode cX5_levels 60 = .ok (.invokevirtual 220, 3) := by decide +kernel
theorem dX5_levels_63 : decode cX5_levels 63 = .ok (.i2l, 1) := by decide +kernel
theorem dX5_levels_64 : decode cX5_levels 64 = .ok (.invokestatic 244, 3) := by decide +kernel
theorem dX5_levels_67 : decode cX5_levels 67 = .ok (.goto 9, 3) := by decide +kernel
theorem dX5_levels_70 : decode cX5_levels 70 = .ok (.aload 4, 2) := by decide +kernel
theorem dX5_levels_72 : decode cX5_levels 72 = .ok (.iload_n 2, 1) := by decide +kernel
theorem dX5_levels_73 : decode cX5_levels 73 = .ok (.invokestatic 248, 3) := by decide +kernel
theorem dX5_levels_76 : decode cX5_levels 76 = .ok (.lreturn, 1) := by decide +kernel
abbrev rmX5_levels : Room := { frames := 7, cells := 2, slots := 12, locals := 162 }
theorem zyX5_levels : zyOK yX5_levels 3 := ⟨by decide +kernel, by decide +kernel, by decide +kernel⟩
set_option maxHeartbeats 4000000 in
set_option maxRecDepth 100000 in
theorem wX5_levels {G : ZG} (a0 : Nat) (a1 : Int32) (a2 : Int32) (a3 : Int32) (S : ZS) (h0 : zFix G cX5_levels RX5 5 (some .long) rmX5_levels) (C : Option ((Int64 × ZS) ⊕ ZX) → Prop) (hC : ¬ C none) (hnt : zNoTab G) (hE : ∀ (v : Int64) (S1 : ZS), C (some (.inl (v, S1))) → zEndT G (some (.long v)) S1 rmX5_levels) (hEx : ∀ (E : String) (h : ZH), C (some (.inr (E, h))) → zEndX G E h rmX5_levels) : zV G 5 S 0 0 0 [(0, .ref a0), (1, .int a1), (2, .int a2), (3, .int a3)] [] (C (fX5_levels a0 a1 a2 a3 S)) := by
  have J76 : ∀ (s0_76 : Int64) (S_76 : ZS), zV G 5 S_76 1 6 76 [] [.long s0_76] (C (fX5_levels_J76 s0_76 S_76)) := by
    intro s0_76 S_76
    unfold fX5_levels_J76
    exact zr_lretT h0 rfl dX5_levels_76 (hE _ _) (by decide) (by decide)
  have J17 : ∀  (S_17 : ZS), zV G 5 S_17 1 6 17 [] [] (C (fX5_levels_J17 S_17)) := by
    intro  S_17
    unfold fX5_levels_J17
    exact zr_throw h0 hnt (cls := "java/lang/IllegalArgumentException") (text := "levels is out of range") (names := ["java/lang/RuntimeException", "java/lang/Exception"]) (by decide +kernel) zfitN zw_118 zw_8 (by decide +kernel) (by decide +kernel) zat_X5_60 zbad_X5_60 zgd_X5_60 dX5_levels_17 dX5_levels_20 dX5_levels_21 dX5_levels_23 dX5_levels_26 (by decide) (Nat.le_of_ble_eq_true rfl) (by decide) (by decide) (fun h => hEx _ _ h)
  unfold fX5_levels
  refine zr_aload_n h0 dX5_levels_0 rfl (n := 1) rfl ?_
  refine zr_iload_n h0 dX5_levels_1 rfl (n := 2) rfl ?_
  refine zr_cTR C hC 1 6 h0 (fun x hx => zk_VT h0 zcX5 (zcl_ex hx) (fun l D z0 hlt => kX5_needWay l D z0 hlt a0 a1 S x (zcl_of hx)) hnt zw_430 zw_432 zs_3 zw_1 zw_433 rfl zyX5_needWay (As := [.int a1]) (st := []) rfl (by decide) rfl (Nat.le_of_ble_eq_true rfl) (by decide) dX5_levels_2) hnt rfl rfl (by decide) (by decide) (n := 5) rfl (fun z h => hEx _ _ h) (fun x1 => ?_)
  refine zr_astore [(0, .ref a0), (1, .int a1), (2, .int a2), (3, .int a3), (4, .ref x1.1)] h0 dX5_levels_5 (by decide) rfl (n := 7) rfl ?_
  refine zr_iload_n h0 dX5_levels_7 rfl (n := 8) rfl ?_
  refine zr_if_lt C (tgt := 17) h0 dX5_levels_8 (by decide) (n := 11) rfl ?_ ?_
  · refine zv_sub (lv' := []) ?_ (zsub_of [] rfl)
    exact J17 x1.2
  · refine zv_sub (lv' := [(0, .ref a0), (2, .int a2), (3, .int a3), (4, .ref x1.1)]) ?_ (zsub_of [0, 2, 3, 4] rfl)
    refine zr_iload_n h0 dX5_levels_11 rfl (n := 12) rfl ?_
    refine zr_bipush (6 : Int32) h0 (by decide) dX5_levels_12 (n := 14) rfl ?_
    refine zr_icmp_le C (tgt := 27) h0 dX5_levels_14 (by decide) (n := 17) rfl ?_ ?_
    · refine zr_aload h0 dX5_levels_27 rfl (n := 29) rfl ?_
      refine zr_getR C hC h0 zcX4 (k := 0) (by decide) zw_409 dX5_levels_29 (n := 32) rfl (fun v2 => ?_)
      refine zr_getI C hC h0 zcX0 (k := 4) (by decide) zw_242 dX5_levels_32 (n := 35) rfl (fun v3 => ?_)
      refine zr_iconst (2 : Int32) h0 (by decide) dX5_levels_35 (n := 36) rfl ?_
      refine zr_icmp_ge C (tgt := 49) h0 dX5_levels_36 (by decide) (n := 39) rfl ?_ ?_
      · refine zr_iload_n h0 dX5_levels_49 rfl (n := 50) rfl ?_
        refine zr_if_eq C (tgt := 70) h0 dX5_levels_50 (by decide) (n := 53) rfl ?_ ?_
        · refine zv_sub (lv' := [(2, .int a2), (4, .ref x1.1)]) ?_ (zsub_of [1, 3] rfl)
          refine zr_aload h0 dX5_levels_70 rfl (n := 72) rfl ?_
          refine zr_iload_n h0 dX5_levels_72 rfl (n := 73) rfl ?_
          refine zr_cRJ C hC 1 6 (fun x hx => zk_S h0 (fun l D z0 => kX5_multiplicationsInLevels l D z0 x1.1 a2 x1.2 x hx) zw_787 zw_788 zw_1 zw_789 zyX5_multiplicationsInLevels (As := [.ref x1.1, .int a2]) (st := []) rfl (by decide) rfl (Nat.le_of_ble_eq_true rfl) (by decide) dX5_levels_73) rfl rfl (n := 76) rfl (fun x4 => ?_)
          refine zv_sub (lv' := []) ?_ (zsub_of [] rfl)
          exact J76 x4 x1.2
        · refine zv_sub (lv' := [(0, .ref a0), (2, .int a2), (4, .ref x1.1)]) ?_ (zsub_of [0, 1, 3] rfl)
          refine zr_aload h0 dX5_levels_53 rfl (n := 55) rfl ?_
          refine zr_iload_n h0 dX5_levels_55 rfl (n := 56) rfl ?_
          refine zr_aload_n h0 dX5_levels_56 rfl (n := 57) rfl ?_
          refine zr_aload h0 dX5_levels_57 rfl (n := 59) rfl ?_
          refine zr_iconst (0 : Int32) h0 (by decide) dX5_levels_59 (n := 60) rfl ?_
          refine zr_cMI C hC 1 6 (fun x hx => zk_V h0 zcX5 (zcl_ex hx) (fun l D z0 => kX5_countAdditions l D z0 a0 x1.1 (0 : Int32) x1.2 x (zcl_of hx)) zw_734 zw_736 zs_27 zw_1 zw_737 rfl zyX5_countAdditions (As := [.ref x1.1, .int (0 : Int32)]) (st := [.int a2, .ref x1.1]) rfl (by decide) rfl (Nat.le_of_ble_eq_true rfl) (by decide) dX5_levels_60) rfl rfl (n := 63) rfl (fun x5 => ?_)
          refine zr_i2l h0 dX5_levels_63 (n := 64) rfl ?_
          refine zr_cRJ C hC 1 6 (fun x hx => zk_S h0 (fun l D z0 => kX5_additionsInLevels l D z0 x1.1 a2 (Int32.toInt64 x5.1) x5.2 x hx) zw_784 zw_785 zw_1 zw_786 zyX5_additionsInLevels (As := [.ref x1.1, .int a2, .long (Int32.toInt64 x5.1)]) (st := []) rfl (by decide) rfl (Nat.le_of_ble_eq_true rfl) (by decide) dX5_levels_64) rfl rfl (n := 67) rfl (fun x6 => ?_)
          refine zr_goto (tgt := 76) h0 dX5_levels_67 (by decide) ?_
          refine zv_sub (lv' := []) ?_ (zsub_of [] rfl)
          exact J76 x6 x5.2
      · refine zv_sub (lv' := []) ?_ (zsub_of [] rfl)
        exact zr_throw h0 hnt (cls := "java/lang/IllegalStateException") (text := "the way is for no product of square matrices") (names := ["java/lang/RuntimeException", "java/lang/Exception"]) (by decide +kernel) zfitN zw_186 zw_9 (by decide +kernel) (by decide +kernel) zat_X5_67 zbad_X5_67 zgd_X5_67 dX5_levels_39 dX5_levels_42 dX5_levels_43 dX5_levels_45 dX5_levels_48 (by decide) (Nat.le_of_ble_eq_true rfl) (by decide) (by decide) (fun h => hEx _ _ h)
    · refine zv_sub (lv' := []) ?_ (zsub_of [] rfl)
      exact J17 x1.2
theorem kX5_levels (l : Launch) (D : ZD) (z0 : Nat) (hlt : l.stackTraces = false) (a0 : Nat) (a1 : Int32) (a2 : Int32) (a3 : Int32) (S : ZS) (x : ((Int64 × ZS) ⊕ ZX)) (hf : fX5_levels a0 a1 a2 a3 S = some x) : zMetT l D z0 yX5_levels cX5_levels 5 (some .long) rmX5_levels [.ref a0, .int a1, .int a2, .int a3] S (x.map (fun y => ((some (.long y.1)), y.2)) id) :=
  zMetT_of hlt (by decide) (Nat.le_of_ble_eq_true rfl) (fun G h0 hnt hE hEx => wX5_levels a0 a1 a2 a3 S h0 (fun o => o = some x) (fun h => nomatch h) hnt (fun v S1 h => by cases h; exact hE _ _ rfl) (fun E h hh => by cases hh; exact hEx _ _ rfl)) hf
