theorem dX6_digit_0 : decode cX6_digit 0 = .ok (.iload_n 3, 1) := by decide +kernel
theorem dX6_digit_1 : decode cX6_digit 1 = .ok (.istore 5, 2) := by decide +kernel
theorem dX6_digit_3 : decode cX6_digit 3 = .ok (.aload_n 0, 1) := by decide +kernel
theorem dX6_digit_4 : decode cX6_digit 4 = .ok (.getfield 23, 3) := by decide +kernel
theorem dX6_digit_7 : decode cX6_digit 7 = .ok (.iconst 3, 1) := by decide +kernel
theorem dX6_digit_8 : decode cX6_digit 8 = .ok (.iload_n 1, 1) := by decide +kernel
theorem dX6_digit_9 : decode cX6_digit 9 = .ok (.imul, 1) := by decide +kernel
theorem dX6_digit_10 : decode cX6_digit 10 = .ok (.iload_n 2, 1) := by decide +kernel
theorem dX6_digit_11 : decode cX6_digit 11 = .ok (.iadd, 1) := by decide +kernel
theorem dX6_digit_12 : decode cX6_digit 12 = .ok (.iaload, 1) := by decide +kernel
theorem dX6_digit_13 : decode cX6_digit 13 = .ok (.iconst 1, 1) := by decide +kernel
theorem dX6_digit_14 : decode cX6_digit 14 = .ok (.isub, 1) := by decide +kernel
theorem dX6_digit_15 : decode cX6_digit 15 = .ok (.istore 6, 2) := by decide +kernel
theorem dX6_digit_17 : decode cX6_digit 17 = .ok (.iload 6, 2) := by decide +kernel
theorem dX6_digit_19 : decode cX6_digit 19 = .ok (.iload 4, 2) := by decide +kernel
theorem dX6_digit_21 : decode cX6_digit 21 = .ok (.if_icmp .le 18, 3) := by decide +kernel
theorem dX6_digit_24 : decode cX6_digit 24 = .ok (.iload 5, 2) := by decide +kernel
theorem dX6_digit_26 : decode cX6_digit 26 = .ok (.aload_n 0, 1) := by decide +kernel
theorem dX6_digit_27 : decode cX6_digit 27 = .ok (.getfield 7, 3) := by decide +kernel
theorem dX6_digit_30 : decode cX6_digit 30 = .ok (.idiv, 1) := by decide +kernel
theorem dX6_digit_31 : decode cX6_digit 31 = .ok (.istore 5, 2) := by decide +kernel
theorem dX6_digit_33 : decode cX6_digit 33 = .ok (.iinc 6 (-1), 3) := by decide +kernel
theorem dX6_digit_36 : decode cX6_digit 36 = .ok (.goto (-19), 3) := by decide +kernel
theorem dX6_digit_39 : decode cX6_digit 39 = .ok (.iload 5, 2) := by decide +kernel
theorem dX6_digit_41 : decode cX6_digit 41 = .ok (.aload_n 0, 1) := by decide +kernel
theorem dX6_digit_42 : decode cX6_digit 42 = .ok (.getfield 7, 3) := by decide +kernel
theorem dX6_digit_45 : decode cX6_digit 45 = .ok (.irem, 1) := by decide +kernel
theorem dX6_digit_46 : decode cX6_digit 46 = .ok (.ireturn, 1) := by decide +kernel
abbrev rmX6_digit : Room := { frames := 1, cells := 0, slots := 0, locals := 20 }
theorem zyX6_digit : zyOK yX6_digit 4 := ⟨by decide +kernel, by decide +kernel, by decide +kernel⟩
set_option maxHeartbeats 4000000 in
set_option maxRecDepth 100000 in
theorem wX6_digit {G : ZG} (a0 : Nat) (a1 : Int32) (a2 : Int32) (a3 : Int32) (a4 : Int32) (S : ZS) (h0 : zFix G cX6_digit RX6 7 (some .int) rmX6_digit) (C : Option Int32 → Prop) (hC : ¬ C none) (hE : ∀ v : Int32, C (some v) → zEnd G (some (.int v)) S rmX6_digit) : zV G 7 S 0 0 0 [(0, .ref a0), (1, .int a1), (2, .int a2), (3, .int a3), (4, .int a4)] [] (C (fX6_digit a0 a1 a2 a3 a4 S)) := by
  unfold fX6_digit
  refine zr_iload_n h0 dX6_digit_0 rfl (n := 1) rfl ?_
  refine zr_istore [(0, .ref a0), (1, .int a1), (2, .int a2), (3, .int a3), (4, .int a4), (5, .int a3)] h0 dX6_digit_1 (by decide) rfl (n := 3) rfl ?_
  refine zr_aload_n h0 dX6_digit_3 rfl (n := 4) rfl ?_
  refine zr_getR C hC h0 zcX6 (k := 7) (by decide) zw_826 dX6_digit_4 (n := 7) rfl (fun v1 => ?_)
  refine zr_iconst (3 : Int32) h0 (by decide) dX6_digit_7 (n := 8) rfl ?_
  refine zr_iload_n h0 dX6_digit_8 rfl (n := 9) rfl ?_
  refine zr_imul h0 dX6_digit_9 (n := 10) rfl ?_
  refine zr_iload_n h0 dX6_digit_10 rfl (n := 11) rfl ?_
  refine zr_iadd h0 dX6_digit_11 (n := 12) rfl ?_
  refine zr_iaload C hC h0 dX6_digit_12 (n := 13) rfl (fun v2 => ?_)
  refine zr_iconst (1 : Int32) h0 (by decide) dX6_digit_13 (n := 14) rfl ?_
  refine zr_isub h0 dX6_digit_14 (n := 15) rfl ?_
  refine zr_istore [(0, .ref a0), (1, .int a1), (2, .int a2), (3, .int a3), (4, .int a4), (5, .int a3), (6, .int (v2 - (1 : Int32)))] h0 dX6_digit_15 (by decide) rfl (n := 17) rfl ?_
  refine zv_sub (lv' := [(0, .ref a0), (4, .int a4), (5, .int a3), (6, .int (v2 - (1 : Int32)))]) ?_ (zsub_of [0, 4, 5, 6] rfl)
  refine zr_loop hC (fX6_digit_B17 a0 a4 S) (fun y => [(0, .ref a0), (4, .int a4), (5, .int y.1), (6, .int y.2)]) (fun y => S) zF (a3, v2 - (1 : Int32)) (fun C17 hC17 hX17 hL17 t17 => ?_)
  unfold fX6_digit_B17
  refine zr_iload h0 dX6_digit_17 rfl (n := 19) rfl ?_
  refine zr_iload h0 dX6_digit_19 rfl (n := 21) rfl ?_
  refine zr_icmp_le C17 (tgt := 39) h0 dX6_digit_21 (by decide) (n := 24) rfl ?_ ?_
  · refine zr_ex hX17 ?_
    refine zv_sub (lv' := [(0, .ref a0), (5, .int t17.1)]) ?_ (zsub_of [0, 2] rfl)
    refine zr_iload h0 dX6_digit_39 rfl (n := 41) rfl ?_
    refine zr_aload_n h0 dX6_digit_41 rfl (n := 42) rfl ?_
    refine zr_getI C hC h0 zcX6 (k := 1) (by decide) zw_820 dX6_digit_42 (n := 45) rfl (fun v7 => ?_)
    refine zr_irem C hC h0 dX6_digit_45 (n := 46) rfl (fun v8 => ?_)
    exact zr_iret h0 rfl dX6_digit_46 (hE _) (by decide) (by decide)
  · refine zr_iload h0 dX6_digit_24 rfl (n := 26) rfl ?_
    refine zr_aload_n h0 dX6_digit_26 rfl (n := 27) rfl ?_
    refine zr_getI C17 hC17 h0 zcX6 (k := 1) (by decide) zw_820 dX6_digit_27 (n := 30) rfl (fun v9 => ?_)
    refine zr_idiv C17 hC17 h0 dX6_digit_30 (n := 31) rfl (fun v10 => ?_)
    refine zr_istore [(0, .ref a0), (4, .int a4), (5, .int v10), (6, .int t17.2)] h0 dX6_digit_31 (by decide) rfl (n := 33) rfl ?_
    refine zr_iinc (-1 : Int32) [(0, .ref a0), (4, .int a4), (5, .int v10), (6, .int (t17.2 + (-1 : Int32)))] h0 dX6_digit_33 rfl (by decide) rfl rfl (n := 36) rfl ?_
    refine zr_goto (tgt := 17) h0 dX6_digit_36 (by decide) ?_
    exact hL17 (v10, t17.2 + (-1 : Int32))
theorem kX6_digit (l : Launch) (D : ZD) (z0 : Nat) (a0 : Nat) (a1 : Int32) (a2 : Int32) (a3 : Int32) (a4 : Int32) (S : ZS) (x : Int32) (hf : fX6_digit a0 a1 a2 a3 a4 S = some x) : zMet l D z0 yX6_digit cX6_digit 7 (some .int) rmX6_digit [.ref a0, .int a1, .int a2, .int a3, .int a4] S (some (.int x)) S :=
  zMet_of (by decide) (Nat.le_of_ble_eq_true rfl) (fun G h0 hini hE => wX6_digit a0 a1 a2 a3 a4 S h0 (fun o => o = some x) (fun h => nomatch h) (fun v h => by cases h; exact hE)) hf
theorem dX6_times_0 : decode cX6_times 0 = .ok (.iconst 0, 1) := by decide +kernel
theorem dX6_times_1 : decode cX6_times 1 = .ok (.istore 5, 2) := by decide +kernel
theorem dX6_times_3 : decode cX6_times 3 = .ok (.iconst 0, 1) := by decide +kernel
theorem dX6_times_4 : decode cX6_times 4 = .ok (.istore 6, 2) := by decide +kernel
theorem dX6_times_6 : decode cX6_times 6 = .ok (.iload 6, 2) := by decide +kernel
theorem dX6_times_8 : decode cX6_times 8 = .ok (.aload_n 0, 1) := by decide +kernel
theorem dX6_times_9 : decode cX6_times 9 = .ok (.getfield 23, 3) := by decide +kernel
theorem dX6_times_12 : decode cX6_times 12 = .ok (.iconst 3, 1) := by decide +kernel
theorem dX6_times_13 : decode cX6_times 13 = .ok (.iload_n 1, 1) := by decide +kernel
theorem dX6_times_14 : decode cX6_times 14 = .ok (.imul, 1) := by decide +kernel
theorem dX6_times_15 : decode cX6_times 15 = .ok (.iload_n 3, 1) := by decide +kernel
theorem dX6_times_16 : decode cX6_times 16 = .ok (.iadd, 1) := by decide +kernel
theorem dX6_times_17 : decode cX6_times 17 = .ok (.iaload, 1) := by decide +kernel
theorem dX6_times_18 : decode cX6_times 18 = .ok (.if_icmp .ge 39, 3) := by decide +kernel
theorem dX6_times_21 : decode cX6_times 21 = .ok (.iload 5, 2) := by decide +kernel
theorem dX6_times_23 : decode cX6_times 23 = .ok (.aload_n 0, 1) := by decide +kernel
theorem dX6_times_24 : decode cX6_times 24 = .ok (.getfield 35, 3) := by decide +kernel
theorem dX6_times_27 : decode cX6_times 27 = .ok (.iload_n 1, 1) := by decide +kernel
theorem dX6_times_28 : decode cX6_times 28 = .ok (.iload_n 2, 1) := by decide +kernel
theorem dX6_times_29 : decode cX6_times 29 = .ok (.iload_n 3, 1) := by decide +kernel
theorem dX6_times_30 : decode cX6_times 30 = .ok (.invokestatic 96, 3) := by decide +kernel
theorem dX6_times_33 : decode cX6_times 33 = .ok (.iload 6, 2) := by decide +kernel
theorem dX6_times_35 : decode cX6_times 35 = .ok (.iadd, 1) := by decide +kernel
theorem dX6_times_36 : decode cX6_times 36 = .ok (.iaload, 1) := by decide +kernel
theorem dX6_times_37 : decode cX6_times 37 = .ok (.aload_n 0, 1) := by decide +kernel
theorem dX6_times_38 : decode cX6_times 38 = .ok (.iload_n 1, 1) := by decide +kernel
theorem dX6_times_39 : decode cX6_times 39 = .ok (.iload_n 3, 1) := by decide +kernel
theorem dX6_times_40 : decode cX6_times 40 = .ok (.iload 4, 2) := by decide +kernel
theorem dX6_times_42 : decode cX6_times 42 = .ok (.iload 6, 2) := by decide +kernel
theorem dX6_times_44 : decode cX6_times 44 = .ok (.invokevirtual 205, 3) := by decide +kernel
theorem dX6_times_47 : decode cX6_times 47 = .ok (.imul, 1) := by decide +kernel
theorem dX6_times_48 : decode cX6_times 48 = .ok (.iadd, 1) := by decide +kernel
theorem dX6_times_49 : decode cX6_times 49 = .ok (.istore 5, 2) := by decide +kernel
theorem dX6_times_51 : decode cX6_times 51 = .ok (.iinc 6 1, 3) := by decide +kernel
theorem dX6_times_54 : decode cX6_times 54 = .ok (.goto (-48), 3) := by decide +kernel
theorem dX6_times_57 : decode cX6_times 57 = .ok (.iload 5, 2) := by decide +kernel
theorem dX6_times_59 : decode cX6_times 59 = .ok (.aload_n 0, 1) := by decide +kernel
theorem dX6_times_60 : decode cX6_times 60 = .ok (.getfield 7, 3) := by decide +kernel
theorem dX6_times_63 : decode cX6_times 63 = .ok (.irem, 1) := by decide +kernel
theorem dX6_times_64 : decode cX6_times 64 = .ok (.ireturn, 1) := by decide +kernel
abbrev rmX6_times : Room := { frames := 2, cells := 0, slots := 0, locals := 46 }
theorem zyX6_times : zyOK yX6_times 4 := ⟨by decide +kernel, by decide +kernel, by decide +kernel⟩
set_option maxHeartbeats 4000000 in
set_option maxRecDepth 100000 in
theorem wX6_times {G : ZG} (a0 : Nat) (a1 : Int32) (a2 : Int32) (a3 : Int32) (a4 : Int32) (S : ZS) (h0 : zFix G cX6_times RX6 7 (some .int) rmX6_times) (C : Option Int32 → Prop) (hC : ¬ C none) (hE : ∀ v : Int32, C (some v) → zEnd G (some (.int v)) S rmX6_times) : zV G 7 S 0 0 0 [(0, .ref a0), (1, .int a1), (2, .int a2), (3, .int a3), (4, .int a4)] [] (C (fX6_times a0 a1 a2 a3 a4 S)) := by
  unfold fX6_times
  refine zr_iconst (0 : Int32) h0 (by decide) dX6_times_0 (n := 1) rfl ?_
  refine zr_istore [(0, .ref a0), (1, .int a1), (2, .int a2), (3, .int a3), (4, .int a4), (5, .int (0 : Int32))] h0 dX6_times_1 (by decide) rfl (n := 3) rfl ?_
  refine zr_iconst (0 : Int32) h0 (by decide) dX6_times_3 (n := 4) rfl ?_
  refine zr_istore [(0, .ref a0), (1, .int a1), (2, .int a2), (3, .int a3), (4, .int a4), (5, .int (0 : Int32)), (6, .int (0 : Int32))] h0 dX6_times_4 (by decide) rfl (n := 6) rfl ?_
  refine zr_loop hC (fX6_times_B6 a0 a1 a2 a3 a4 S) (fun y => [(0, .ref a0), (1, .int a1), (2, .int a2), (3, .int a3), (4, .int a4), (5, .int y.1), (6, .int y.2)]) (fun y => S) zF ((0 : Int32), (0 : Int32)) (fun C6 hC6 hX6 hL6 t6 => ?_)
  unfold fX6_times_B6
  refine zr_iload h0 dX6_times_6 rfl (n := 8) rfl ?_
  refine zr_aload_n h0 dX6_times_8 rfl (n := 9) rfl ?_
  refine zr_getR C6 hC6 h0 zcX6 (k := 7) (by decide) zw_826 dX6_times_9 (n := 12) rfl (fun v9 => ?_)
  refine zr_iconst (3 : Int32) h0 (by decide) dX6_times_12 (n := 13) rfl ?_
  refine zr_iload_n h0 dX6_times_13 rfl (n := 14) rfl ?_
  refine zr_imul h0 dX6_times_14 (n := 15) rfl ?_
  refine zr_iload_n h0 dX6_times_15 rfl (n := 16) rfl ?_
  refine zr_iadd h0 dX6_times_16 (n := 17) rfl ?_
  refine zr_iaload C6 hC6 h0 dX6_times_17 (n := 18) rfl (fun v10 => ?_)
  refine zr_icmp_ge C6 (tgt := 57) h0 dX6_times_18 (by decide) (n := 21) rfl ?_ ?_
  · refine zr_ex hX6 ?_
    refine zv_sub (lv' := [(0, .ref a0), (5, .int t6.1)]) ?_ (zsub_of [0, 5] rfl)
    refine zr_iload h0 dX6_times_57 rfl (n := 59) rfl ?_
    refine zr_aload_n h0 dX6_times_59 rfl (n := 60) rfl ?_
    refine zr_getI C hC h0 zcX6 (k := 1) (by decide) zw_820 dX6_times_60 (n := 63) rfl (fun v11 => ?_)
    refine zr_irem C hC h0 dX6_times_63 (n := 64) rfl (fun v12 => ?_)
    exact zr_iret h0 rfl dX6_times_64 (hE _) (by decide) (by decide)
  · refine zr_iload h0 dX6_times_21 rfl (n := 23) rfl ?_
    refine zr_aload_n h0 dX6_times_23 rfl (n := 24) rfl ?_
    refine zr_getR C6 hC6 h0 zcX6 (k := 11) (by decide) zw_830 dX6_times_24 (n := 27) rfl (fun v13 => ?_)
    refine zr_iload_n h0 dX6_times_27 rfl (n := 28) rfl ?_
    refine zr_iload_n h0 dX6_times_28 rfl (n := 29) rfl ?_
    refine zr_iload_n h0 dX6_times_29 rfl (n := 30) rfl ?_
    refine zr_cRI C6 hC6 0 0 (fun x hx => zk_S h0 (fun l D z0 => kX6_from l D z0 a1 a2 a3 S x hx) zw_974 zw_975 zw_5 zw_976 zyX6_from (As := [.int a1, .int a2, .int a3]) (st := [.ref v13, .int t6.1]) rfl (by decide) rfl (Nat.le_of_ble_eq_true rfl) (by decide) dX6_times_30) rfl rfl (n := 33) rfl (fun x14 => ?_)
    refine zr_iload h0 dX6_times_33 rfl (n := 35) rfl ?_
    refine zr_iadd h0 dX6_times_35 (n := 36) rfl ?_
    refine zr_iaload C6 hC6 h0 dX6_times_36 (n := 37) rfl (fun v15 => ?_)
    refine zr_aload_n h0 dX6_times_37 rfl (n := 38) rfl ?_
    refine zr_iload_n h0 dX6_times_38 rfl (n := 39) rfl ?_
    refine zr_iload_n h0 dX6_times_39 rfl (n := 40) rfl ?_
    refine zr_iload h0 dX6_times_40 rfl (n := 42) rfl ?_
    refine zr_iload h0 dX6_times_42 rfl (n := 44) rfl ?_
    refine zr_cRI C6 hC6 0 0 (fun x hx => zk_V h0 zcX6 (zcl_ex hx) (fun l D z0 => kX6_digit l D z0 a0 a1 a3 a4 t6.2 S x (zcl_of hx)) zw_1138 zw_1140 zs_70 zw_5 zw_1141 rfl zyX6_digit (As := [.int a1, .int a3, .int a4, .int t6.2]) (st := [.int v15, .int t6.1]) rfl (by decide) rfl (Nat.le_of_ble_eq_true rfl) (by decide) dX6_times_44) rfl rfl (n := 47) rfl (fun x16 => ?_)
    refine zr_imul h0 dX6_times_47 (n := 48) rfl ?_
    refine zr_iadd h0 dX6_times_48 (n := 49) rfl ?_
    refine zr_istore [(0, .ref a0), (1, .int a1), (2, .int a2), (3, .int a3), (4, .int a4), (5, .int (t6.1 + (v15 * x16))), (6, .int t6.2)] h0 dX6_times_49 (by decide) rfl (n := 51) rfl ?_
    refine zr_iinc (1 : Int32) [(0, .ref a0), (1, .int a1), (2, .int a2), (3, .int a3), (4, .int a4), (5, .int (t6.1 + (v15 * x16))), (6, .int (t6.2 + (1 : Int32)))] h0 dX6_times_51 rfl (by decide) rfl rfl (n := 54) rfl ?_
    refine zr_goto (tgt := 6) h0 dX6_times_54 (by decide) ?_
    exact hL6 (t6.1 + (v15 * x16), t6.2 + (1 : Int32))
theorem kX6_times (l : Launch) (D : ZD) (z0 : Nat) (a0 : Nat) (a1 : Int32) (a2 : Int32) (a3 : Int32) (a4 : Int32) (S : ZS) (x : Int32) (hf : fX6_times a0 a1 a2 a3 a4 S = some x) : zMet l D z0 yX6_times cX6_times 7 (some .int) rmX6_times [.ref a0, .int a1, .int a2, .int a3, .int a4] S (some (.int x)) S :=
  zMet_of (by decide) (Nat.le_of_ble_eq_true rfl) (fun G h0 hini hE => wX6_times a0 a1 a2 a3 a4 S h0 (fun o => o = some x) (fun h => nomatch h) (fun v h => by cases h; exact hE)) hf
theorem dX6_canAsk_0 : decode cX6_canAsk 0 = .ok (.aload_n 0, 1) := by decide +kernel
theorem dX6_canAsk_1 : decode cX6_canAsk 1 = .ok (.iload_n 1, 1) := by decide +kernel
theorem dX6_canAsk_2 : decode cX6_canAsk 2 = .ok (.invokevirtual 99, 3) := by decide +kernel
theorem dX6_canAsk_5 : decode cX6_canAsk 5 = .ok (.ifCond .eq 28, 3) := by decide +kernel
theorem dX6_canAsk_8 : decode cX6_canAsk 8 = .ok (.iload 4, 2) := by decide +kernel
theorem dX6_canAsk_10 : decode cX6_canAsk 10 = .ok (.iconst 0, 1) := by decide +kernel
theorem dX6_canAsk_11 : decode cX6_canAsk 11 = .ok (.aload_n 0, 1) := by decide +kernel
theorem dX6_canAsk_12 : decode cX6_canAsk 12 = .ok (.getfield 23, 3) := by decide +kernel
theorem dX6_canAsk_15 : decode cX6_canAsk 15 = .ok (.iconst 3, 1) := by decide +kernel
theorem dX6_canAsk_16 : decode cX6_canAsk 16 = .ok (.iload_n 1, 1) := by decide +kernel
theorem dX6_canAsk_17 : decode cX6_canAsk 17 = .ok (.imul, 1) := by decide +kernel
theorem dX6_canAsk_18 : decode cX6_canAsk 18 = .ok (.iconst 2, 1) := by decide +kernel
theorem dX6_canAsk_19 : decode cX6_canAsk 19 = .ok (.iadd, 1) := by decide +kernel
theorem dX6_canAsk_20 : decode cX6_canAsk 20 = .ok (.iaload, 1) := by decide +kernel
theorem dX6_canAsk_21 : decode cX6_canAsk 21 = .ok (.iconst 1, 1) := by decide +kernel
theorem dX6_canAsk_22 : decode cX6_canAsk 22 = .ok (.isub, 1) := by decide +kernel
theorem dX6_canAsk_23 : decode cX6_canAsk 23 = .ok (.invokestatic 57, 3) := by decide +kernel
theorem dX6_canAsk_26 : decode cX6_canAsk 26 = .ok (.ifCond .eq 7, 3) := by decide +kernel
theorem dX6_canAsk_29 : decode cX6_canAsk 29 = .ok (.iconst 1, 1) := by decide +kernel
theorem dX6_canAsk_30 : decode cX6_canAsk 30 = .ok (.goto 4, 3) := by decide +kernel
theorem dX6_canAsk_33 : decode cX6_canAsk 33 = .ok (.iconst 0, 1) := by decide +kernel
theorem dX6_canAsk_34 : decode cX6_canAsk 34 = .ok (.istore 5, 2) := by decide +kernel
theorem dX6_canAsk_36 : decode cX6_canAsk 36 = .ok (.aload_n 0, 1) := by decide +kernel
theorem dX6_canAsk_37 : decode cX6_canAsk 37 = .ok (.iload 5, 2) := by decide +kernel
theorem dX6_canAsk_39 : decode cX6_canAsk 39 = .ok (.ifCond .ne 7, 3) := by decide +kernel
theorem dX6_canAsk_42 : decode cX6_canAsk 42 = .ok (.iconst 1, 1) := by decide +kernel
theorem dX6_canAsk_43 : decode cX6_canAsk 43 = .ok (.goto 28, 3) := by decide +kernel
theorem dX6_canAsk_46 : decode cX6_canAsk 46 = .ok (.aload_n 0, 1) := by decide +kernel
theorem dX6_canAsk_47 : decode cX6_canAsk 47 = .ok (.iload_n 1, 1) := by decide +kernel
theorem dX6_canAsk_48 : decode cX6_canAsk 48 = .ok (.iconst 0, 1) := by decide +kernel
theorem dX6_canAsk_49 : decode cX6_canAsk 49 = .ok (.iload_n 2, 1) := by decide +kernel
theorem dX6_canAsk_50 : decode cX6_canAsk 50 = .ok (.invokevirtual 102, 3) := by decide +kernel
theorem dX6_canAsk_53 : decode cX6_canAsk 53 = .ok (.ifCond .eq 17, 3) := by decide +kernel
theorem dX6_canAsk_56 : decode cX6_canAsk 56 = .ok (.aload_n 0, 1) := by decide +kernel
theorem dX6_canAsk_57 : decode cX6_canAsk 57 = .ok (.iload_n 1, 1) := by decide +kernel
theorem dX6_canAsk_58 : decode cX6_canAsk 58 = .ok (.iconst 1, 1) := by decide +kernel
theorem dX6_canAsk_59 : decode cX6_canAsk 59 = .ok (.iload_n 3, 1) := by decide +kernel
theorem dX6_canAsk_60 : decode cX6_canAsk 60 = .ok (.invokevirtual 102, 3) := by decide +kernel
theorem dX6_canAsk_63 : decode cX6_canAsk 63 = .ok (.ifCond .eq 7, 3) := by decide +kernel
theorem dX6_canAsk_66 : decode cX6_canAsk 66 = .ok (.iconst 0, 1) := by decide +kernel
theorem dX6_canAsk_67 : decode cX6_canAsk 67 = .ok (.goto 4, 3) := by decide +kernel
theorem dX6_canAsk_70 : decode cX6_canAsk 70 = .ok (.iconst 2, 1) := by decide +kernel
theorem dX6_canAsk_71 : decode cX6_canAsk 71 = .ok (.invokevirtual 64, 3) := by decide +kernel
theorem dX6_canAsk_74 : decode cX6_canAsk 74 = .ok (.ireturn, 1) := by decide +kernel
abbrev rmX6_canAsk : Room := { frames := 3, cells := 0, slots := 0, locals := 67 }
theorem zyX6_canAsk : zyOK yX6_canAsk 4 := ⟨by decide +kernel, by decide +kernel, by decide +kernel⟩
set_option maxHeartbeats 4000000 in
set_option maxRecDepth 100000 in
theorem wX6_canAsk {G : ZG} (a0 : Nat) (a1 : Int32) (a2 : Int32) (a3 : Int32) (a4 : Int32) (S : ZS) (h0 : zFix G cX6_canAsk RX6 6 (some .boolean) rmX6_canAsk) (C : Option (Int32 × ZS) → Prop) (hC : ¬ C none) (hE : ∀ (v : Int32) (S1 : ZS), C (some (v, S1)) → zEnd G (some (.int v)) S1 rmX6_canAsk) : zV G 6 S 0 0 0 [(0, .ref a0), (1, .int a1), (2, .int a2), (3, .int a3), (4, .int a4)] [] (C (fX6_canAsk a0 a1 a2 a3 a4 S)) := by
  have J71 : ∀ (s0_71 : Nat) (s1_71 : Int32) (S_71 : ZS), zV G 6 S_71 0 0 71 [] [.int s1_71, .ref s0_71] (C (fX6_canAsk_J71 s0_71 s1_71 S_71)) := by
    intro s0_71 s1_71 S_71
    unfold fX6_canAsk_J71
    refine zr_cMI C hC 0 0 (fun x hx => zk_V h0 zcX6 (zcl_ex hx) (fun l D z0 => kX6_goesWell l D z0 s0_71 s1_71 S_71 x (zcl_of hx)) zw_886 zw_888 zs_34 zw_5 zw_889 rfl zyX6_goesWell (As := [.int s1_71]) (st := []) rfl (by decide) rfl (Nat.le_of_ble_eq_true rfl) (by decide) dX6_canAsk_71) rfl rfl (n := 74) rfl (fun x8 => ?_)
    exact zr_zret C hC h0 rfl dX6_canAsk_74 (fun w h => hE _ _ h) (by decide) (by decide)
  have J70 : ∀ (s0_70 : Nat) (S_70 : ZS), zV G 6 S_70 0 0 70 [] [.ref s0_70] (C (fX6_canAsk_J70 s0_70 S_70)) := by
    intro s0_70 S_70
    unfold fX6_canAsk_J70
    refine zr_iconst (2 : Int32) h0 (by decide) dX6_canAsk_70 (n := 71) rfl ?_
    exact J71 s0_70 (2 : Int32) S_70
  have J34 : ∀ (l0_34 : Nat) (l1_34 : Int32) (l2_34 : Int32) (l3_34 : Int32) (s0_34 : Int32) (S_34 : ZS), zV G 6 S_34 0 0 34 [(0, .ref l0_34), (1, .int l1_34), (2, .int l2_34), (3, .int l3_34)] [.int s0_34] (C (fX6_canAsk_J34 l0_34 l1_34 l2_34 l3_34 s0_34 S_34)) := by
    intro l0_34 l1_34 l2_34 l3_34 s0_34 S_34
    unfold fX6_canAsk_J34
    refine zr_istore [(0, .ref l0_34), (1, .int l1_34), (2, .int l2_34), (3, .int l3_34), (5, .int s0_34)] h0 dX6_canAsk_34 (by decide) rfl (n := 36) rfl ?_
    refine zr_aload_n h0 dX6_canAsk_36 rfl (n := 37) rfl ?_
    refine zr_iload h0 dX6_canAsk_37 rfl (n := 39) rfl ?_
    refine zr_if_ne C (tgt := 46) h0 dX6_canAsk_39 (by decide) (n := 42) rfl ?_ ?_
    · refine zv_sub (lv' := []) ?_ (zsub_of [] rfl)
      refine zr_iconst (1 : Int32) h0 (by decide) dX6_canAsk_42 (n := 43) rfl ?_
      refine zr_goto (tgt := 71) h0 dX6_canAsk_43 (by decide) ?_
      exact J71 l0_34 (1 : Int32) S_34
    · refine zv_sub (lv' := [(0, .ref l0_34), (1, .int l1_34), (2, .int l2_34), (3, .int l3_34)]) ?_ (zsub_of [0, 1, 2, 3] rfl)
      refine zr_aload_n h0 dX6_canAsk_46 rfl (n := 47) rfl ?_
      refine zr_iload_n h0 dX6_canAsk_47 rfl (n := 48) rfl ?_
      refine zr_iconst (0 : Int32) h0 (by decide) dX6_canAsk_48 (n := 49) rfl ?_
      refine zr_iload_n h0 dX6_canAsk_49 rfl (n := 50) rfl ?_
      refine zr_cRI C hC 0 0 (fun x hx => zk_V h0 zcX6 (zcl_ex hx) (fun l D z0 => kX6_isCode l D z0 l0_34 l1_34 (0 : Int32) l2_34 S_34 x (zcl_of hx)) zw_962 zw_964 zs_40 zw_5 zw_965 rfl zyX6_isCode (As := [.int l1_34, .int (0 : Int32), .int l2_34]) (st := [.ref l0_34]) rfl (by decide) rfl (Nat.le_of_ble_eq_true rfl) (by decide) dX6_canAsk_50) rfl rfl (n := 53) rfl (fun x9 => ?_)
      refine zr_if_eq C (tgt := 70) h0 dX6_canAsk_53 (by decide) (n := 56) rfl ?_ ?_
      · refine zv_sub (lv' := []) ?_ (zsub_of [] rfl)
        exact J70 l0_34 S_34
      · refine zv_sub (lv' := [(0, .ref l0_34), (1, .int l1_34), (3, .int l3_34)]) ?_ (zsub_of [0, 1, 3] rfl)
        refine zr_aload_n h0 dX6_canAsk_56 rfl (n := 57) rfl ?_
        refine zr_iload_n h0 dX6_canAsk_57 rfl (n := 58) rfl ?_
        refine zr_iconst (1 : Int32) h0 (by decide) dX6_canAsk_58 (n := 59) rfl ?_
        refine zr_iload_n h0 dX6_canAsk_59 rfl (n := 60) rfl ?_
        refine zr_cRI C hC 0 0 (fun x hx => zk_V h0 zcX6 (zcl_ex hx) (fun l D z0 => kX6_isCode l D z0 l0_34 l1_34 (1 : Int32) l3_34 S_34 x (zcl_of hx)) zw_962 zw_964 zs_40 zw_5 zw_965 rfl zyX6_isCode (As := [.int l1_34, .int (1 : Int32), .int l3_34]) (st := [.ref l0_34]) rfl (by decide) rfl (Nat.le_of_ble_eq_true rfl) (by decide) dX6_canAsk_60) rfl rfl (n := 63) rfl (fun x10 => ?_)
        refine zr_if_eq C (tgt := 70) h0 dX6_canAsk_63 (by decide) (n := 66) rfl ?_ ?_
        · refine zv_sub (lv' := []) ?_ (zsub_of [] rfl)
          exact J70 l0_34 S_34
        · refine zv_sub (lv' := []) ?_ (zsub_of [] rfl)
          refine zr_iconst (0 : Int32) h0 (by decide) dX6_canAsk_66 (n := 67) rfl ?_
          refine zr_goto (tgt := 71) h0 dX6_canAsk_67 (by decide) ?_
          exact J71 l0_34 (0 : Int32) S_34
  have J33 : ∀ (l0_33 : Nat) (l1_33 : Int32) (l2_33 : Int32) (l3_33 : Int32) (S_33 : ZS), zV G 6 S_33 0 0 33 [(0, .ref l0_33), (1, .int l1_33), (2, .int l2_33), (3, .int l3_33)] [] (C (fX6_canAsk_J33 l0_33 l1_33 l2_33 l3_33 S_33)) := by
    intro l0_33 l1_33 l2_33 l3_33 S_33
    unfold fX6_canAsk_J33
    refine zr_iconst (0 : Int32) h0 (by decide) dX6_canAsk_33 (n := 34) rfl ?_
    exact J34 l0_33 l1_33 l2_33 l3_33 (0 : Int32) S_33
  unfold fX6_canAsk
  refine zr_aload_n h0 dX6_canAsk_0 rfl (n := 1) rfl ?_
  refine zr_iload_n h0 dX6_canAsk_1 rfl (n := 2) rfl ?_
  refine zr_cRI C hC 0 0 (fun x hx => zk_V h0 zcX6 (zcl_ex hx) (fun l D z0 => kX6_isWay l D z0 a0 a1 S x (zcl_of hx)) zw_958 zw_960 zs_39 zw_5 zw_961 rfl zyX6_isWay (As := [.int a1]) (st := []) rfl (by decide) rfl (Nat.le_of_ble_eq_true rfl) (by decide) dX6_canAsk_2) rfl rfl (n := 5) rfl (fun x1 => ?_)
  refine zr_if_eq C (tgt := 33) h0 dX6_canAsk_5 (by decide) (n := 8) rfl ?_ ?_
  · refine zv_sub (lv' := [(0, .ref a0), (1, .int a1), (2, .int a2), (3, .int a3)]) ?_ (zsub_of [0, 1, 2, 3] rfl)
    exact J33 a0 a1 a2 a3 S
  · refine zr_iload h0 dX6_canAsk_8 rfl (n := 10) rfl ?_
    refine zr_iconst (0 : Int32) h0 (by decide) dX6_canAsk_10 (n := 11) rfl ?_
    refine zr_aload_n h0 dX6_canAsk_11 rfl (n := 12) rfl ?_
    refine zr_getR C hC h0 zcX6 (k := 7) (by decide) zw_826 dX6_canAsk_12 (n := 15) rfl (fun v5 => ?_)
    refine zr_iconst (3 : Int32) h0 (by decide) dX6_canAsk_15 (n := 16) rfl ?_
    refine zr_iload_n h0 dX6_canAsk_16 rfl (n := 17) rfl ?_
    refine zr_imul h0 dX6_canAsk_17 (n := 18) rfl ?_
    refine zr_iconst (2 : Int32) h0 (by decide) dX6_canAsk_18 (n := 19) rfl ?_
    refine zr_iadd h0 dX6_canAsk_19 (n := 20) rfl ?_
    refine zr_iaload C hC h0 dX6_canAsk_20 (n := 21) rfl (fun v6 => ?_)
    refine zr_iconst (1 : Int32) h0 (by decide) dX6_canAsk_21 (n := 22) rfl ?_
    refine zr_isub h0 dX6_canAsk_22 (n := 23) rfl ?_
    refine zr_cRI C hC 0 0 (fun x hx => zk_S h0 (fun l D z0 => kX6_in l D z0 a4 (0 : Int32) (v6 - (1 : Int32)) S x hx) zw_898 zw_899 zw_5 zw_900 zyX6_in (As := [.int a4, .int (0 : Int32), .int (v6 - (1 : Int32))]) (st := []) rfl (by decide) rfl (Nat.le_of_ble_eq_true rfl) (by decide) dX6_canAsk_23) rfl rfl (n := 26) rfl (fun x7 => ?_)
    refine zr_if_eq C (tgt := 33) h0 dX6_canAsk_26 (by decide) (n := 29) rfl ?_ ?_
    · refine zv_sub (lv' := [(0, .ref a0), (1, .int a1), (2, .int a2), (3, .int a3)]) ?_ (zsub_of [0, 1, 2, 3] rfl)
      exact J33 a0 a1 a2 a3 S
    · refine zv_sub (lv' := [(0, .ref a0), (1, .int a1), (2, .int a2), (3, .int a3)]) ?_ (zsub_of [0, 1, 2, 3] rfl)
      refine zr_iconst (1 : Int32) h0 (by decide) dX6_canAsk_29 (n := 30) rfl ?_
      refine zr_goto (tgt := 34) h0 dX6_canAsk_30 (by decide) ?_
      exact J34 a0 a1 a2 a3 (1 : Int32) S
theorem kX6_canAsk (l : Launch) (D : ZD) (z0 : Nat) (a0 : Nat) (a1 : Int32) (a2 : Int32) (a3 : Int32) (a4 : Int32) (S : ZS) (x : Int32 × ZS) (hf : fX6_canAsk a0 a1 a2 a3 a4 S = some x) : zMet l D z0 yX6_canAsk cX6_canAsk 6 (some .boolean) rmX6_canAsk [.ref a0, .int a1, .int a2, .int a3, .int a4] S (some (.int x.1)) x.2 :=
  zMet_of (by decide) (Nat.le_of_ble_eq_true rfl) (fun G h0 hini hE => wX6_canAsk a0 a1 a2 a3 a4 S h0 (fun o => o = some x) (fun h => nomatch h) (fun v S1 h => by cases h; exact hE)) hf
theorem dX6_result_0 : decode cX6_result 0 = .ok (.aload_n 0, 1) := by decide +kernel
theorem dX6_result_1 : decode cX6_result 1 = .ok (.iload_n 1, 1) := by decide +kernel
theorem dX6_result_2 : decode cX6_result 2 = .ok (.iload_n 2, 1) := by decide +kernel
theorem dX6_result_3 : decode cX6_result 3 = .ok (.iload_n 3, 1) := by decide +kernel
theorem dX6_result_4 : decode cX6_result 4 = .ok (.iload 4, 2) := by decide +kernel
theorem dX6_result_6 : decode cX6_result 6 = .ok (.invokevirtual 208, 3) := by decide +kernel
theorem dX6_result_9 : decode cX6_result 9 = .ok (.ifCond .ne 5, 3) := by decide +kernel
theorem dX6_result_12 : decode cX6_result 12 = .ok (.iconst 0, 1) := by decide +kernel
theorem dX6_result_13 : decode cX6_result 13 = .ok (.ireturn, 1) := by decide +kernel
theorem dX6_result_14 : decode cX6_result 14 = .ok (.iconst 0, 1) := by decide +kernel
theorem dX6_result_15 : decode cX6_result 15 = .ok (.istore 5, 2) := by decide +kernel
theorem dX6_result_17 : decode cX6_result 17 = .ok (.iconst 0, 1) := by decide +kernel
theorem dX6_result_18 : decode cX6_result 18 = .ok (.istore 6, 2) := by decide +kernel
theorem dX6_result_20 : decode cX6_result 20 = .ok (.iload 6, 2) := by decide +kernel
theorem dX6_result_22 : decode cX6_result 22 = .ok (.aload_n 0, 1) := by decide +kernel
theorem dX6_result_23 : decode cX6_result 23 = .ok (.getfield 32, 3) := by decide +kernel
theorem dX6_result_26 : decode cX6_result 26 = .ok (.iload_n 1, 1) := by decide +kernel
theorem dX6_result_27 : decode cX6_result 27 = .ok (.iaload, 1) := by decide +kernel
theorem dX6_result_28 : decode cX6_result 28 = .ok (.if_icmp .ge 49, 3) := by decide +kernel
theorem dX6_result_31 : decode cX6_result 31 = .ok (.iload 5, 2) := by decide +kernel
theorem dX6_result_33 : decode cX6_result 33 = .ok (.aload_n 0, 1) := by decide +kernel
theorem dX6_result_34 : decode cX6_result 34 = .ok (.getfield 35, 3) := by decide +kernel
theorem dX6_result_37 : decode cX6_result 37 = .ok (.iload_n 1, 1) := by decide +kernel
theorem dX6_result_38 : decode cX6_result 38 = .ok (.iload 6, 2) := by decide +kernel
theorem dX6_result_40 : decode cX6_result 40 = .ok (.iconst 2, 1) := by decide +kernel
theorem dX6_result_41 : decode cX6_result 41 = .ok (.invokestatic 96, 3) := by decide +kernel
theorem dX6_result_44 : decode cX6_result 44 = .ok (.iload 4, 2) := by decide +kernel
theorem dX6_result_46 : decode cX6_result 46 = .ok (.iadd, 1) := by decide +kernel
theorem dX6_result_47 : decode cX6_result 47 = .ok (.iaload, 1) := by decide +kernel
theorem dX6_result_48 : decode cX6_result 48 = .ok (.aload_n 0, 1) := by decide +kernel
theorem dX6_result_49 : decode cX6_result 49 = .ok (.iload_n 1, 1) := by decide +kernel
theorem dX6_result_50 : decode cX6_result 50 = .ok (.iload 6, 2) := by decide +kernel
theorem dX6_result_52 : decode cX6_result 52 = .ok (.iconst 0, 1) := by decide +kernel
theorem dX6_result_53 : decode cX6_result 53 = .ok (.iload_n 2, 1) := by decide +kernel
theorem dX6_result_54 : decode cX6_result 54 = .ok (.invokevirtual 211, 3) := by decide +kernel
theorem dX6_result_57 : decode cX6_result 57 = .ok (.imul, 1) := by decide +kernel
theorem dX6_result_58 : decode cX6_result 58 = .ok (.aload_n 0, 1) := by decide +kernel
theorem dX6_result_59 : decode cX6_result 59 = .ok (.iload_n 1, 1) := by decide +kernel
theorem dX6_result_60 : decode cX6_result 60 = .ok (.iload 6, 2) := by decide +kernel
theorem dX6_result_62 : decode cX6_result 62 = .ok (.iconst 1, 1) := by decide +kernel
theorem dX6_result_63 : decode cX6_result 63 = .ok (.iload_n 3, 1) := by decide +kernel
theorem dX6_result_64 : decode cX6_result 64 = .ok (.invokevirtual 211, 3) := by decide +kernel
theorem dX6_result_67 : decode cX6_result 67 = .ok (.imul, 1) := by decide +kernel
theorem dX6_result_68 : decode cX6_result 68 = .ok (.iadd, 1) := by decide +kernel
theorem dX6_result_69 : decode cX6_result 69 = .ok (.istore 5, 2) := by decide +kernel
theorem dX6_result_71 : decode cX6_result 71 = .ok (.iinc 6 1, 3) := by decide +kernel
theorem dX6_result_74 : decode cX6_result 74 = .ok (.goto (-54), 3) := by decide +kernel
theorem dX6_result_77 : decode cX6_result 77 = .ok (.iload 5, 2) := by decide +kernel
theorem dX6_result_79 : decode cX6_result 79 = .ok (.aload_n 0, 1) := by decide +kernel
theorem dX6_result_80 : decode cX6_result 80 = .ok (.getfield 7, 3) := by decide +kernel
theorem dX6_result_83 : decode cX6_result 83 = .ok (.irem, 1) := by decide +kernel
theorem dX6_result_84 : decode cX6_result 84 = .ok (.ireturn, 1) := by decide +kernel
abbrev rmX6_result : Room := { frames := 4, cells := 0, slots := 0, locals := 92 }
theorem zyX6_result : zyOK yX6_result 4 := ⟨by decide +kernel, by decide +kernel, by decide +kernel⟩
set_option maxHeartbeats 4000000 in
set_option maxRecDepth 100000 in
theorem wX6_result {G : ZG} (a0 : Nat) (a1 : Int32) (a2 : Int32) (a3 : Int32) (a4 : Int32) (S : ZS) (h0 : zFix G cX6_result RX6 7 (some .int) rmX6_result) (C : Option (Int32 × ZS) → Prop) (hC : ¬ C none) (hE : ∀ (v : Int32) (S1 : ZS), C (some (v, S1)) → zEnd G (some (.int v)) S1 rmX6_result) : zV G 7 S 0 0 0 [(0, .ref a0), (1, .int a1), (2, .int a2), (3, .int a3), (4, .int a4)] [] (C (fX6_result a0 a1 a2 a3 a4 S)) := by
  unfold fX6_result
  refine zr_aload_n h0 dX6_result_0 rfl (n := 1) rfl ?_
  refine zr_iload_n h0 dX6_result_1 rfl (n := 2) rfl ?_
  refine zr_iload_n h0 dX6_result_2 rfl (n := 3) rfl ?_
  refine zr_iload_n h0 dX6_result_3 rfl (n := 4) rfl ?_
  refine zr_iload h0 dX6_result_4 rfl (n := 6) rfl ?_
  refine zr_cMI C hC 0 0 (fun x hx => zk_V h0 zcX6 (zcl_ex hx) (fun l D z0 => kX6_canAsk l D z0 a0 a1 a2 a3 a4 S x (zcl_of hx)) zw_1130 zw_1132 zs_68 zw_5 zw_1133 rfl zyX6_canAsk (As := [.int a1, .int a2, .int a3, .int a4]) (st := []) rfl (by decide) rfl (Nat.le_of_ble_eq_true rfl) (by decide) dX6_result_6) rfl rfl (n := 9) rfl (fun x1 => ?_)
  refine zr_if_ne C (tgt := 14) h0 dX6_result_9 (by decide) (n := 12) rfl ?_ ?_
  · refine zv_sub (lv' := []) ?_ (zsub_of [] rfl)
    refine zr_iconst (0 : Int32) h0 (by decide) dX6_result_12 (n := 13) rfl ?_
    exact zr_iret h0 rfl dX6_result_13 (hE _ _) (by decide) (by decide)
  · refine zr_iconst (0 : Int32) h0 (by decide) dX6_result_14 (n := 15) rfl ?_
    refine zr_istore [(0, .ref a0), (1, .int a1), (2, .int a2), (3, .int a3), (4, .int a4), (5, .int (0 : Int32))] h0 dX6_result_15 (by decide) rfl (n := 17) rfl ?_
    refine zr_iconst (0 : Int32) h0 (by decide) dX6_result_17 (n := 18) rfl ?_
    refine zr_istore [(0, .ref a0), (1, .int a1), (2, .int a2), (3, .int a3), (4, .int a4), (5, .int (0 : Int32)), (6, .int (0 : Int32))] h0 dX6_result_18 (by decide) rfl (n := 20) rfl ?_
    refine zr_loop hC (fX6_result_B20 a0 a1 a2 a3 a4 x1.2) (fun y => [(0, .ref a0), (1, .int a1), (2, .int a2), (3, .int a3), (4, .int a4), (5, .int y.1), (6, .int y.2)]) (fun y => x1.2) zF ((0 : Int32), (0 : Int32)) (fun C20 hC20 hX20 hL20 t20 => ?_)
    unfold fX6_result_B20
    refine zr_iload h0 dX6_result_20 rfl (n := 22) rfl ?_
    refine zr_aload_n h0 dX6_result_22 rfl (n := 23) rfl ?_
    refine zr_getR C20 hC20 h0 zcX6 (k := 10) (by decide) zw_829 dX6_result_23 (n := 26) rfl (fun v11 => ?_)
    refine zr_iload_n h0 dX6_result_26 rfl (n := 27) rfl ?_
    refine zr_iaload C20 hC20 h0 dX6_result_27 (n := 28) rfl (fun v12 => ?_)
    refine zr_icmp_ge C20 (tgt := 77) h0 dX6_result_28 (by decide) (n := 31) rfl ?_ ?_
    · refine zr_ex hX20 ?_
      refine zv_sub (lv' := [(0, .ref a0), (5, .int t20.1)]) ?_ (zsub_of [0, 5] rfl)
      refine zr_iload h0 dX6_result_77 rfl (n := 79) rfl ?_
      refine zr_aload_n h0 dX6_result_79 rfl (n := 80) rfl ?_
      refine zr_getI C hC h0 zcX6 (k := 1) (by decide) zw_820 dX6_result_80 (n := 83) rfl (fun v13 => ?_)
      refine zr_irem C hC h0 dX6_result_83 (n := 84) rfl (fun v14 => ?_)
      exact zr_iret h0 rfl dX6_result_84 (hE _ _) (by decide) (by decide)
    · refine zr_iload h0 dX6_result_31 rfl (n := 33) rfl ?_
      refine zr_aload_n h0 dX6_result_33 rfl (n := 34) rfl ?_
      refine zr_getR C20 hC20 h0 zcX6 (k := 11) (by decide) zw_830 dX6_result_34 (n := 37) rfl (fun v15 => ?_)
      refine zr_iload_n h0 dX6_result_37 rfl (n := 38) rfl ?_
      refine zr_iload h0 dX6_result_38 rfl (n := 40) rfl ?_
      refine zr_iconst (2 : Int32) h0 (by decide) dX6_result_40 (n := 41) rfl ?_
      refine zr_cRI C20 hC20 0 0 (fun x hx => zk_S h0 (fun l D z0 => kX6_from l D z0 a1 t20.2 (2 : Int32) x1.2 x hx) zw_974 zw_975 zw_5 zw_976 zyX6_from (As := [.int a1, .int t20.2, .int (2 : Int32)]) (st := [.ref v15, .int t20.1]) rfl (by decide) rfl (Nat.le_of_ble_eq_true rfl) (by decide) dX6_result_41) rfl rfl (n := 44) rfl (fun x16 => ?_)
      refine zr_iload h0 dX6_result_44 rfl (n := 46) rfl ?_
      refine zr_iadd h0 dX6_result_46 (n := 47) rfl ?_
      refine zr_iaload C20 hC20 h0 dX6_result_47 (n := 48) rfl (fun v17 => ?_)
      refine zr_aload_n h0 dX6_result_48 rfl (n := 49) rfl ?_
      refine zr_iload_n h0 dX6_result_49 rfl (n := 50) rfl ?_
      refine zr_iload h0 dX6_result_50 rfl (n := 52) rfl ?_
      refine zr_iconst (0 : Int32) h0 (by decide) dX6_result_52 (n := 53) rfl ?_
      refine zr_iload_n h0 dX6_result_53 rfl (n := 54) rfl ?_
      refine zr_cRI C20 hC20 0 0 (fun x hx => zk_V h0 zcX6 (zcl_ex hx) (fun l D z0 => kX6_times l D z0 a0 a1 t20.2 (0 : Int32) a2 x1.2 x (zcl_of hx)) zw_1134 zw_1136 zs_69 zw_5 zw_1137 rfl zyX6_times (As := [.int a1, .int t20.2, .int (0 : Int32), .int a2]) (st := [.int v17, .int t20.1]) rfl (by decide) rfl (Nat.le_of_ble_eq_true rfl) (by decide) dX6_result_54) rfl rfl (n := 57) rfl (fun x18 => ?_)
      refine zr_imul h0 dX6_result_57 (n := 58) rfl ?_
      refine zr_aload_n h0 dX6_result_58 rfl (n := 59) rfl ?_
      refine zr_iload_n h0 dX6_result_59 rfl (n := 60) rfl ?_
      refine zr_iload h0 dX6_result_60 rfl (n := 62) rfl ?_
      refine zr_iconst (1 : Int32) h0 (by decide) dX6_result_62 (n := 63) rfl ?_
      refine zr_iload_n h0 dX6_result_63 rfl (n := 64) rfl ?_
      refine zr_cRI C20 hC20 0 0 (fun x hx => zk_V h0 zcX6 (zcl_ex hx) (fun l D z0 => kX6_times l D z0 a0 a1 t20.2 (1 : Int32) a3 x1.2 x (zcl_of hx)) zw_1134 zw_1136 zs_69 zw_5 zw_1137 rfl zyX6_times (As := [.int a1, .int t20.2, .int (1 : Int32), .int a3]) (st := [.int (v17 * x18), .int t20.1]) rfl (by decide) rfl (Nat.le_of_ble_eq_true rfl) (by decide) dX6_result_64) rfl rfl (n := 67) rfl (fun x19 => ?_)
      refine zr_imul h0 dX6_result_67 (n := 68) rfl ?_
      refine zr_iadd h0 dX6_result_68 (n := 69) rfl ?_
      refine zr_istore [(0, .ref a0), (1, .int a1), (2, .int a2), (3, .int a3), (4, .int a4), (5, .int (t20.1 + ((v17 * x18) * x19))), (6, .int t20.2)] h0 dX6_result_69 (by decide) rfl (n := 71) rfl ?_
      refine zr_iinc (1 : Int32) [(0, .ref a0), (1, .int a1), (2, .int a2), (3, .int a3), (4, .int a4), (5, .int (t20.1 + ((v17 * x18) * x19))), (6, .int (t20.2 + (1 : Int32)))] h0 dX6_result_71 rfl (by decide) rfl rfl (n := 74) rfl ?_
      refine zr_goto (tgt := 20) h0 dX6_result_74 (by decide) ?_
      exact hL20 (t20.1 + ((v17 * x18) * x19), t20.2 + (1 : Int32))
theorem kX6_result (l : Launch) (D : ZD) (z0 : Nat) (a0 : Nat) (a1 : Int32) (a2 : Int32) (a3 : Int32) (a4 : Int32) (S : ZS) (x : Int32 × ZS) (hf : fX6_result a0 a1 a2 a3 a4 S = some x) : zMet l D z0 yX6_result cX6_result 7 (some .int) rmX6_result [.ref a0, .int a1, .int a2, .int a3, .int a4] S (some (.int x.1)) x.2 :=
  zMet_of (by decide) (Nat.le_of_ble_eq_true rfl) (fun G h0 hini hE => wX6_result a0 a1 a2 a3 a4 S h0 (fun o => o = some x) (fun h => nomatch h) (fun v S1 h => by cases h; exact hE)) hf
theorem dX6_resultByCube_0 : decode cX6_resultByCube 0 = .ok (.aload_n 0, 1) := by decide +kernel
theorem dX6_resultByCube_1 : decode cX6_resultByCube 1 = .ok (.iload_n 1, 1) := by decide +kernel
theorem dX6_resultByCube_2 : decode cX6_resultByCube 2 = .ok (.iload_n 2, 1) := by decide +kernel
theorem dX6_resultByCube_3 : decode cX6_resultByCube 3 = .ok (.iload_n 3, 1) := by decide +kernel
theorem dX6_resultByCube_4 : decode cX6_resultByCube 4 = .ok (.iload 4, 2) := by decide +kernel
theorem dX6_resultByCube_6 : decode cX6_resultByCube 6 = .ok (.invokevirtual 208, 3) := by decide +kernel
theorem dX6_resultByCube_9 : decode cX6_resultByCube 9 = .ok (.ifCond .ne 5, 3) := by decide +kernel
theorem dX6_resultByCube_12 : decode cX6_resultByCube 12 = .ok (.iconst 0, 1) := by decide +kernel
theorem dX6_resultByCube_13 : decode cX6_resultByCube 13 = .ok (.ireturn, 1) := by decide +kernel
theorem dX6_resultByCube_14 : decode cX6_resultByCube 14 = .ok (.iconst 0, 1) := by decide +kernel
theorem dX6_resultByCube_15 : decode cX6_resultByCube 15 = .ok (.istore 5, 2) := by decide +kernel
theorem dX6_resultByCube_17 : decode cX6_resultByCube 17 = .ok (.iconst 0, 1) := by decide +kernel
theorem dX6_resultByCube_18 : decode cX6_resultByCube 18 = .ok (.istore 6, 2) := by decide +kernel
theorem dX6_resultByCube_20 : decode cX6_resultByCube 20 = .ok (.iload 6, 2) := by decide +kernel
theorem dX6_resultByCube_22 : decode cX6_resultByCube 22 = .ok (.aload_n 0, 1) := by decide +kernel
theorem dX6_resultByCube_23 : decode cX6_resultByCube 23 = .ok (.getfield 23, 3) := by decide +kernel
theorem dX6_resultByCube_26 : decode cX6_resultByCube 26 = .ok (.iconst 3, 1) := by decide +kernel
theorem dX6_resultByCube_27 : decode cX6_resultByCube 27 = .ok (.iload_n 1, 1) := by decide +kernel
theorem dX6_resultByCube_28 : decode cX6_resultByCube 28 = .ok (.imul, 1) := by decide +kernel
theorem dX6_resultByCube_29 : decode cX6_resultByCube 29 = .ok (.iaload, 1) := by decide +kernel
theorem dX6_resultByCube_30 : decode cX6_resultByCube 30 = .ok (.if_icmp .ge 77, 3) := by decide +kernel
theorem dX6_resultByCube_33 : decode cX6_resultByCube 33 = .ok (.iconst 0, 1) := by decide +kernel
theorem dX6_resultByCube_34 : decode cX6_resultByCube 34 = .ok (.istore 7, 2) := by decide +kernel
theorem dX6_resultByCube_36 : decode cX6_resultByCube 36 = .ok (.iload 7, 2) := by decide +kernel
theorem dX6_resultByCube_38 : decode cX6_resultByCube 38 = .ok (.aload_n 0, 1) := by decide +kernel
theorem dX6_resultByCube_39 : decode cX6_resultByCube 39 = .ok (.getfield 23, 3) := by decide +kernel
theorem dX6_resultByCube_42 : decode cX6_resultByCube 42 = .ok (.iconst 3, 1) := by decide +kernel
theorem dX6_resultByCube_43 : decode cX6_resultByCube 43 = .ok (.iload_n 1, 1) := by decide +kernel
theorem dX6_resultByCube_44 : decode cX6_resultByCube 44 = .ok (.imul, 1) := by decide +kernel
theorem dX6_resultByCube_45 : decode cX6_resultByCube 45 = .ok (.iconst 1, 1) := by decide +kernel
theorem dX6_resultByCube_46 : decode cX6_resultByCube 46 = .ok (.iadd, 1) := by decide +kernel
theorem dX6_resultByCube_47 : decode cX6_resultByCube 47 = .ok (.iaload, 1) := by decide +kernel
theorem dX6_resultByCube_48 : decode cX6_resultByCube 48 = .ok (.if_icmp .ge 53, 3) := by decide +kernel
theorem dX6_resultByCube_51 : decode cX6_resultByCube 51 = .ok (.iload 5, 2) := by decide +kernel
theorem dX6_resultByCube_53 : decode cX6_resultByCube 53 = .ok (.aload_n 0, 1) := by decide +kernel
theorem dX6_resultByCube_54 : decode cX6_resultByCube 54 = .ok (.getfield 26, 3) := by decide +kernel
theorem dX6_resultByCube_57 : decode cX6_resultByCube 57 = .ok (.bipush 64, 2) := by decide +kernel
theorem dX6_resultByCube_59 : decode cX6_resultByCube 59 = .ok (.iload_n 1, 1) := by decide +kernel
theorem dX6_resultByCube_60 : decode cX6_resultByCube 60 = .ok (.imul, 1) := by decide +kernel
theorem dX6_resultByCube_61 : decode cX6_resultByCube 61 = .ok (.iload 6, 2) := by decide +kernel
theorem dX6_resultByCube_63 : decode cX6_resultByCube 63 = .ok (.iload 7, 2) := by decide +kernel
theorem dX6_resultByCube_65 : decode cX6_resultByCube 65 = .ok (.iload 4, 2) := by decide +kernel
theorem dX6_resultByCube_67 : decode cX6_resultByCube 67 = .ok (.invokestatic 75, 3) := by decide +kernel
theorem dX6_resultByCube_70 : decode cX6_resultByCube 70 = .ok (.iadd, 1) := by decide +kernel
theorem dX6_resultByCube_71 : decode cX6_resultByCube 71 = .ok (.iaload, 1) := by decide +kernel
theorem dX6_resultByCube_72 : decode cX6_resultByCube 72 = .ok (.aload_n 0, 1) := by decide +kernel
theorem dX6_resultByCube_73 : decode cX6_resultByCube 73 = .ok (.iload_n 1, 1) := by decide +kernel
theorem dX6_resultByCube_74 : decode cX6_resultByCube 74 = .ok (.iconst 0, 1) := by decide +kernel
theorem dX6_resultByCube_75 : decode cX6_resultByCube 75 = .ok (.iload_n 2, 1) := by decide +kernel
theorem dX6_resultByCube_76 : decode cX6_resultByCube 76 = .ok (.iload 6, 2) := by decide +kernel
theorem dX6_resultByCube_78 : decode cX6_resultByCube 78 = .ok (.invokevirtual 205, 3) := by decide +kernel
theorem dX6_resultByCube_81 : decode cX6_resultByCube 81 = .ok (.imul, 1) := by decide +kernel
theorem dX6_resultByCube_82 : decode cX6_resultByCube 82 = .ok (.aload_n 0, 1) := by decide +kernel
theorem dX6_resultByCube_83 : decode cX6_resultByCube 83 = .ok (.iload_n 1, 1) := by decide +kernel
theorem dX6_resultByCube_84 : decode cX6_resultByCube 84 = .ok (.iconst 1, 1) := by decide +kernel
theorem dX6_resultByCube_85 : decode cX6_resultByCube 85 = .ok (.iload_n 3, 1) := by decide +kernel
theorem dX6_resultByCube_86 : decode cX6_resultByCube 86 = .ok (.iload 7, 2) := by decide +kernel
theorem dX6_resultByCube_88 : decode cX6_resultByCube 88 = .ok (.invokevirtual 205, 3) := by decide +kernel
theorem dX6_resultByCube_91 : decode cX6_resultByCube 91 = .ok (.imul, 1) := by decide +kernel
theorem dX6_resultByCube_92 : decode cX6_resultByCube 92 = .ok (.iadd, 1) := by decide +kernel
theorem dX6_resultByCube_93 : decode cX6_resultByCube 93 = .ok (.istore 5, 2) := by decide +kernel
theorem dX6_resultByCube_95 : decode cX6_resultByCube 95 = .ok (.iinc 7 1, 3) := by decide +kernel
theorem dX6_resultByCube_98 : decode cX6_resultByCube 98 = .ok (.goto (-62), 3) := by decide +kernel
theorem dX6_resultByCube_101 : decode cX6_resultByCube 101 = .ok (.iinc 6 1, 3) := by decide +kernel
theorem dX6_resultByCube_104 : decode cX6_resultByCube 104 = .ok (.goto (-84), 3) := by decide +kernel
theorem dX6_resultByCube_107 : decode cX6_resultByCube 107 = .ok (.iload 5, 2) := by decide +kernel
theorem dX6_resultByCube_109 : decode cX6_resultByCube 109 = .ok (.aload_n 0, 1) := by decide +kernel
theorem dX6_resultByCube_110 : decode cX6_resultByCube 110 = .ok (.getfield 7, 3) := by decide +kernel
theorem dX6_resultByCube_113 : decode cX6_resultByCube 113 = .ok (.irem, 1) := by decide +kernel
theorem dX6_resultByCube_114 : decode cX6_resultByCube 114 = .ok (.ireturn, 1) := by decide +kernel
abbrev rmX6_resultByCube : Room := { frames := 4, cells := 0, slots := 0, locals := 92 }
theorem zyX6_resultByCube : zyOK yX6_resultByCube 4 := ⟨by decide +kernel, by decide +kernel, by decide +kernel⟩
set_option maxHeartbeats 4000000 in
set_option maxRecDepth 100000 in
theorem wX6_resultByCube {G : ZG} (a0 : Nat) (a1 : Int32) (a2 : Int32) (a3 : Int32) (a4 : Int32) (S : ZS) (h0 : zFix G cX6_resultByCube RX6 8 (some .int) rmX6_resultByCube) (C : Option (Int32 × ZS) → Prop) (hC : ¬ C none) (hE : ∀ (v : Int32) (S1 : ZS), C (some (v, S1)) → zEnd G (some (.int v)) S1 rmX6_resultByCube) : zV G 8 S 0 0 0 [(0, .ref a0), (1, .int a1), (2, .int a2), (3, .int a3), (4, .int a4)] [] (C (fX6_resultByCube a0 a1 a2 a3 a4 S)) := by
  unfold fX6_resultByCube
  refine zr_aload_n h0 dX6_resultByCube_0 rfl (n := 1) rfl ?_
  refine zr_iload_n h0 dX6_resultByCube_1 rfl (n := 2) rfl ?_
  refine zr_iload_n h0 dX6_resultByCube_2 rfl (n := 3) rfl ?_
  refine zr_iload_n h0 dX6_resultByCube_3 rfl (n := 4) rfl ?_
  refine zr_iload h0 dX6_resultByCube_4 rfl (n := 6) rfl ?_
  refine zr_cMI C hC 0 0 (fun x hx => zk_V h0 zcX6 (zcl_ex hx) (fun l D z0 => kX6_canAsk l D z0 a0 a1 a2 a3 a4 S x (zcl_of hx)) zw_1130 zw_1132 zs_68 zw_5 zw_1133 rfl zyX6_canAsk (As := [.int a1, .int a2, .int a3, .int a4]) (st := []) rfl (by decide) rfl (Nat.le_of_ble_eq_true rfl) (by decide) dX6_resultByCube_6) rfl rfl (n := 9) rfl (fun x1 => ?_)
  refine zr_if_ne C (tgt := 14) h0 dX6_resultByCube_9 (by decide) (n := 12) rfl ?_ ?_
  · refine zv_sub (lv' := []) ?_ (zsub_of [] rfl)
    refine zr_iconst (0 : Int32) h0 (by decide) dX6_resultByCube_12 (n := 13) rfl ?_
    exact zr_iret h0 rfl dX6_resultByCube_13 (hE _ _) (by decide) (by decide)
  · refine zr_iconst (0 : Int32) h0 (by decide) dX6_resultByCube_14 (n := 15) rfl ?_
    refine zr_istore [(0, .ref a0), (1, .int a1), (2, .int a2), (3, .int a3), (4, .int a4), (5, .int (0 : Int32))] h0 dX6_resultByCube_15 (by decide) rfl (n := 17) rfl ?_
    refine zr_iconst (0 : Int32) h0 (by decide) dX6_resultByCube_17 (n := 18) rfl ?_
    refine zr_istore [(0, .ref a0), (1, .int a1), (2, .int a2), (3, .int a3), (4, .int a4), (5, .int (0 : Int32)), (6, .int (0 : Int32))] h0 dX6_resultByCube_18 (by decide) rfl (n := 20) rfl ?_
    refine zr_loop hC (fX6_resultByCube_B20 a0 a1 a2 a3 a4 x1.2) (fun y => [(0, .ref a0), (1, .int a1), (2, .int a2), (3, .int a3), (4, .int a4), (5, .int y.1), (6, .int y.2)]) (fun y => x1.2) zF ((0 : Int32), (0 : Int32)) (fun C20 hC20 hX20 hL20 t20 => ?_)
    unfold fX6_resultByCube_B20
    refine zr_iload h0 dX6_resultByCube_20 rfl (n := 22) rfl ?_
    refine zr_aload_n h0 dX6_resultByCube_22 rfl (n := 23) rfl ?_
    refine zr_getR C20 hC20 h0 zcX6 (k := 7) (by decide) zw_826 dX6_resultByCube_23 (n := 26) rfl (fun v20 => ?_)
    refine zr_iconst (3 : Int32) h0 (by decide) dX6_resultByCube_26 (n := 27) rfl ?_
    refine zr_iload_n h0 dX6_resultByCube_27 rfl (n := 28) rfl ?_
    refine zr_imul h0 dX6_resultByCube_28 (n := 29) rfl ?_
    refine zr_iaload C20 hC20 h0 dX6_resultByCube_29 (n := 30) rfl (fun v21 => ?_)
    refine zr_icmp_ge C20 (tgt := 107) h0 dX6_resultByCube_30 (by decide) (n := 33) rfl ?_ ?_
    · refine zr_ex hX20 ?_
      refine zv_sub (lv' := [(0, .ref a0), (5, .int t20.1)]) ?_ (zsub_of [0, 5] rfl)
      refine zr_iload h0 dX6_resultByCube_107 rfl (n := 109) rfl ?_
      refine zr_aload_n h0 dX6_resultByCube_109 rfl (n := 110) rfl ?_
      refine zr_getI C hC h0 zcX6 (k := 1) (by decide) zw_820 dX6_resultByCube_110 (n := 113) rfl (fun v22 => ?_)
      refine zr_irem C hC h0 dX6_resultByCube_113 (n := 114) rfl (fun v23 => ?_)
      exact zr_iret h0 rfl dX6_resultByCube_114 (hE _ _) (by decide) (by decide)
    · refine zr_iconst (0 : Int32) h0 (by decide) dX6_resultByCube_33 (n := 34) rfl ?_
      refine zr_istore [(0, .ref a0), (1, .int a1), (2, .int a2), (3, .int a3), (4, .int a4), (5, .int t20.1), (6, .int t20.2), (7, .int (0 : Int32))] h0 dX6_resultByCube_34 (by decide) rfl (n := 36) rfl ?_
      refine zr_loop hC20 (fX6_resultByCube_B36 a0 a1 a2 a3 a4 t20.2 x1.2) (fun y => [(0, .ref a0), (1, .int a1), (2, .int a2), (3, .int a3), (4, .int a4), (5, .int y.1), (6, .int t20.2), (7, .int y.2)]) (fun y => x1.2) zF (t20.1, (0 : Int32)) (fun C36 hC36 hX36 hL36 t36 => ?_)
      unfold fX6_resultByCube_B36
      refine zr_iload h0 dX6_resultByCube_36 rfl (n := 38) rfl ?_
      refine zr_aload_n h0 dX6_resultByCube_38 rfl (n := 39) rfl ?_
      refine zr_getR C36 hC36 h0 zcX6 (k := 7) (by decide) zw_826 dX6_resultByCube_39 (n := 42) rfl (fun v24 => ?_)
      refine zr_iconst (3 : Int32) h0 (by decide) dX6_resultByCube_42 (n := 43) rfl ?_
      refine zr_iload_n h0 dX6_resultByCube_43 rfl (n := 44) rfl ?_
      refine zr_imul h0 dX6_resultByCube_44 (n := 45) rfl ?_
      refine zr_iconst (1 : Int32) h0 (by decide) dX6_resultByCube_45 (n := 46) rfl ?_
      refine zr_iadd h0 dX6_resultByCube_46 (n := 47) rfl ?_
      refine zr_iaload C36 hC36 h0 dX6_resultByCube_47 (n := 48) rfl (fun v25 => ?_)
      refine zr_icmp_ge C36 (tgt := 101) h0 dX6_resultByCube_48 (by decide) (n := 51) rfl ?_ ?_
      · refine zr_ex hX36 ?_
        refine zv_sub (lv' := [(0, .ref a0), (1, .int a1), (2, .int a2), (3, .int a3), (4, .int a4), (5, .int t36.1), (6, .int t20.2)]) ?_ (zsub_of [0, 1, 2, 3, 4, 5, 6] rfl)
        refine zr_iinc (1 : Int32) [(0, .ref a0), (1, .int a1), (2, .int a2), (3, .int a3), (4, .int a4), (5, .int t36.1), (6, .int (t20.2 + (1 : Int32)))] h0 dX6_resultByCube_101 rfl (by decide) rfl rfl (n := 104) rfl ?_
        refine zr_goto (tgt := 20) h0 dX6_resultByCube_104 (by decide) ?_
        exact hL20 (t36.1, t20.2 + (1 : Int32))
      · refine zr_iload h0 dX6_resultByCube_51 rfl (n := 53) rfl ?_
        refine zr_aload_n h0 dX6_resultByCube_53 rfl (n := 54) rfl ?_
        refine zr_getR C36 hC36 h0 zcX6 (k := 8) (by decide) zw_827 dX6_resultByCube_54 (n := 57) rfl (fun v26 => ?_)
        refine zr_bipush (64 : Int32) h0 (by decide) dX6_resultByCube_57 (n := 59) rfl ?_
        refine zr_iload_n h0 dX6_resultByCube_59 rfl (n := 60) rfl ?_
        refine zr_imul h0 dX6_resultByCube_60 (n := 61) rfl ?_
        refine zr_iload h0 dX6_resultByCube_61 rfl (n := 63) rfl ?_
        refine zr_iload h0 dX6_resultByCube_63 rfl (n := 65) rfl ?_
        refine zr_iload h0 dX6_resultByCube_65 rfl (n := 67) rfl ?_
        refine zr_cRI C36 hC36 0 0 (fun x hx => zk_S h0 (fun l D z0 => kX6_place l D z0 t20.2 t36.2 a4 x1.2 x hx) zw_909 zw_910 zw_5 zw_911 zyX6_place (As := [.int t20.2, .int t36.2, .int a4]) (st := [.int ((64 : Int32) * a1), .ref v26, .int t36.1]) rfl (by decide) rfl (Nat.le_of_ble_eq_true rfl) (by decide) dX6_resultByCube_67) rfl rfl (n := 70) rfl (fun x27 => ?_)
        refine zr_iadd h0 dX6_resultByCube_70 (n := 71) rfl ?_
        refine zr_iaload C36 hC36 h0 dX6_resultByCube_71 (n := 72) rfl (fun v28 => ?_)
        refine zr_aload_n h0 dX6_resultByCube_72 rfl (n := 73) rfl ?_
        refine zr_iload_n h0 dX6_resultByCube_73 rfl (n := 74) rfl ?_
        refine zr_iconst (0 : Int32) h0 (by decide) dX6_resultByCube_74 (n := 75) rfl ?_
        refine zr_iload_n h0 dX6_resultByCube_75 rfl (n := 76) rfl ?_
        refine zr_iload h0 dX6_resultByCube_76 rfl (n := 78) rfl ?_
        refine zr_cRI C36 hC36 0 0 (fun x hx => zk_V h0 zcX6 (zcl_ex hx) (fun l D z0 => kX6_digit l D z0 a0 a1 (0 : Int32) a2 t20.2 x1.2 x (zcl_of hx)) zw_1138 zw_1140 zs_70 zw_5 zw_1141 rfl zyX6_digit (As := [.int a1, .int (0 : Int32), .int a2, .int t20.2]) (st := [.int v28, .int t36.1]) rfl (by decide) rfl (Nat.le_of_ble_eq_true rfl) (by decide) dX6_resultByCube_78) rfl rfl (n := 81) rfl (fun x29 => ?_)
        refine zr_imul h0 dX6_resultByCube_81 (n := 82) rfl ?_
        refine zr_aload_n h0 dX6_resultByCube_82 rfl (n := 83) rfl ?_
        refine zr_iload_n h0 dX6_resultByCube_83 rfl (n := 84) rfl ?_
        refine zr_iconst (1 : Int32) h0 (by decide) dX6_resultByCube_84 (n := 85) rfl ?_
        refine zr_iload_n h0 dX6_resultByCube_85 rfl (n := 86) rfl ?_
        refine zr_iload h0 dX6_resultByCube_86 rfl (n := 88) rfl ?_
        refine zr_cRI C36 hC36 0 0 (fun x hx => zk_V h0 zcX6 (zcl_ex hx) (fun l D z0 => kX6_digit l D z0 a0 a1 (1 : Int32) a3 t36.2 x1.2 x (zcl_of hx)) zw_1138 zw_1140 zs_70 zw_5 zw_1141 rfl zyX6_digit (As := [.int a1, .int (1 : Int32), .int a3, .int t36.2]) (st := [.int (v28 * x29), .int t36.1]) rfl (by decide) rfl (Nat.le_of_ble_eq_true rfl) (by decide) dX6_resultByCube_88) rfl rfl (n := 91) rfl (fun x30 => ?_)
        refine zr_imul h0 dX6_resultByCube_91 (n := 92) rfl ?_
        refine zr_iadd h0 dX6_resultByCube_92 (n := 93) rfl ?_
        refine zr_istore [(0, .ref a0), (1, .int a1), (2, .int a2), (3, .int a3), (4, .int a4), (5, .int (t36.1 + ((v28 * x29) * x30))), (6, .int t20.2), (7, .int t36.2)] h0 dX6_resultByCube_93 (by decide) rfl (n := 95) rfl ?_
        refine zr_iinc (1 : Int32) [(0, .ref a0), (1, .int a1), (2, .int a2), (3, .int a3), (4, .int a4), (5, .int (t36.1 + ((v28 * x29) * x30))), (6, .int t20.2), (7, .int (t36.2 + (1 : Int32)))] h0 dX6_resultByCube_95 rfl (by decide) rfl rfl (n := 98) rfl ?_
        refine zr_goto (tgt := 36) h0 dX6_resultByCube_98 (by decide) ?_
        exact hL36 (t36.1 + ((v28 * x29) * x30), t36.2 + (1 : Int32))
theorem kX6_resultByCube (l : Launch) (D : ZD) (z0 : Nat) (a0 : Nat) (a1 : Int32) (a2 : Int32) (a3 : Int32) (a4 : Int32) (S : ZS) (x : Int32 × ZS) (hf : fX6_resultByCube a0 a1 a2 a3 a4 S = some x) : zMet l D z0 yX6_resultByCube cX6_resultByCube 8 (some .int) rmX6_resultByCube [.ref a0, .int a1, .int a2, .int a3, .int a4] S (some (.int x.1)) x.2 :=
  zMet_of (by decide) (Nat.le_of_ble_eq_true rfl) (fun G h0 hini hE => wX6_resultByCube a0 a1 a2 a3 a4 S h0 (fun o => o = some x) (fun h => nomatch h) (fun v S1 h => by cases h; exact hE)) hf
theorem dX6_levels_0 : decode cX6_levels 0 = .ok (.aload_n 0, 1) := by decide +kernel
theorem dX6_levels_1 : decode cX6_levels 1 = .ok (.iload_n 1, 1) := by decide +kernel
theorem dX6_levels_2 : decode cX6_levels 2 = .ok (.invokevirtual 99, 3) := by decide +kernel
theorem dX6_levels_5 : decode cX6_levels 5 = .ok (.istore 4, 2) := by decide +kernel
theorem dX6_levels_7 : decode cX6_levels 7 = .ok (.aload_n 0, 1) := by decide +kernel
theorem dX6_levels_8 : decode cX6_levels 8 = .ok (.iload 4, 2) := by decide +kernel
theorem dX6_levels_10 : decode cX6_levels 10 = .ok (.ifCond .ne 7, 3) := by decide +kernel
theorem dX6_levels_13 : decode cX6_levels 13 = .ok (.iconst 1, 1) := by decide +kernel
theorem dX6_levels_14 : decode cX6_levels 14 = .ok (.goto 31, 3) := by decide +kernel
theorem dX6_levels_17 : decode cX6_levels 17 = .ok (.iload_n 2, 1) := by decide +kernel
theorem dX6_levels_18 : decode cX6_levels 18 = .ok (.iconst 0, 1) := by decide +kernel
theorem dX6_levels_19 : decode cX6_levels 19 = .ok (.bipush 6, 2) := by decide +kernel
theorem dX6_levels_21 : decode cX6_levels 21 = .ok (.invokestatic 57, 3) := by decide +kernel
theorem dX6_levels_24 : decode cX6_levels 24 = .ok (.ifCond .ne 7, 3) := by decide +kernel
theorem dX6_levels_27 : decode cX6_levels 27 = .ok (.iconst 2, 1) := by decide +kernel
theorem dX6_levels_28 : decode cX6_levels 28 = .ok (.goto 17, 3) := by decide +kernel
theorem dX6_levels_31 : decode cX6_levels 31 = .ok (.aload_n 0, 1) := by decide +kernel
theorem dX6_levels_32 : decode cX6_levels 32 = .ok (.getfield 29, 3) := by decide +kernel
theorem dX6_levels_35 : decode cX6_levels 35 = .ok (.iload_n 1, 1) := by decide +kernel
theorem dX6_levels_36 : decode cX6_levels 36 = .ok (.iaload, 1) := by decide +kernel
theorem dX6_levels_37 : decode cX6_levels 37 = .ok (.ifCond .ne 7, 3) := by decide +kernel
theorem dX6_levels_40 : decode cX6_levels 40 = .ok (.iconst 3, 1) := by decide +kernel
theorem dX6_levels_41 : decode cX6_levels 41 = .ok (.goto 4, 3) := by decide +kernel
theorem dX6_levels_44 : decode cX6_levels 44 = .ok (.iconst 0, 1) := by decide +kernel
theorem dX6_levels_45 : decode cX6_levels 45 = .ok (.invokevirtual 64, 3) := by decide +kernel
theorem dX6_levels_48 : decode cX6_levels 48 = .ok (.ifCond .ne 5, 3) := by decide +kernel
theorem dX6_levels_51 : decode cX6_levels 51 = .ok (.lconst 0, 1) := by decide +kernel
theorem dX6_levels_52 : decode cX6_levels 52 = .ok (.lreturn, 1) := by decide +kernel
theorem dX6_levels_53 : decode cX6_levels 53 = .ok (.lconst 1, 1) := by decide +kernel
theorem dX6_levels_54 : decode cX6_levels 54 = .ok (.lstore 5, 2) := by decide +kernel
theorem dX6_levels_56 : decode cX6_levels 56 = .ok (.lconst 0, 1) := by decide +kernel
theorem dX6_levels_57 : decode cX6_levels 57 = .ok (.lstore 7, 2) := by decide +kernel
theorem dX6_levels_59 : decode cX6_levels 59 = .ok (.lconst 1, 1) := by decide +kernel
theorem dX6_levels_60 : decode cX6_levels 60 = .ok (.lstore 9, 2) := by decide +kernel
theorem dX6_levels_62 : decode cX6_levels 62 = .ok (.aload_n 0, 1) := by decide +kernel
theorem dX6_levels_63 : decode cX6_levels 63 = .ok (.iload_n 1, 1) := by decide +kernel
theorem dX6_levels_64 : decode cX6_levels 64 = .ok (.iconst 0, 1) := by decide +kernel
theorem dX6_levels_65 : decode cX6_levels 65 = .ok (.invokevirtual 201, 3) := by decide +kernel
theorem dX6_levels_68 : decode cX6_levels 68 = .ok (.i2l, 1) := by decide +kernel
theorem dX6_levels_69 : decode cX6_levels 69 = .ok (.lstore 11, 2) := by decide +kernel
theorem dX6_levels_71 : decode cX6_levels 71 = .ok (.iconst 0, 1) := by decide +kernel
theorem dX6_levels_72 : decode cX6_levels 72 = .ok (.istore 13, 2) := by decide +kernel
theorem dX6_levels_74 : decode cX6_levels 74 = .ok (.iload 13, 2) := by decide +kernel
theorem dX6_levels_76 : decode cX6_levels 76 = .ok (.iload_n 2, 1) := by decide +kernel
theorem dX6_levels_77 : decode cX6_levels 77 = .ok (.if_icmp .ge 59, 3) := by decide +kernel
theorem dX6_levels_80 : decode cX6_levels 80 = .ok (.lload 5, 2) := by decide +kernel
theorem dX6_levels_82 : decode cX6_levels 82 = .ok (.aload_n 0, 1) := by decide +kernel
theorem dX6_levels_83 : decode cX6_levels 83 = .ok (.getfield 32, 3) := by decide +kernel
theorem dX6_levels_86 : decode cX6_levels 86 = .ok (.iload_n 1, 1) := by decide +kernel
theorem dX6_levels_87 : decode cX6_levels 87 = .ok (.iaload, 1) := by decide +kernel
theorem dX6_levels_88 : decode cX6_levels 88 = .ok (.i2l, 1) := by decide +kernel
theorem dX6_levels_89 : decode cX6_levels 89 = .ok (.lmul, 1) := by decide +kernel
theorem dX6_levels_90 : decode cX6_levels 90 = .ok (.lstore 5, 2) := by decide +kernel
theorem dX6_levels_92 : decode cX6_levels 92 = .ok (.lload 7, 2) := by decide +kernel
theorem dX6_levels_94 : decode cX6_levels 94 = .ok (.aload_n 0, 1) := by decide +kernel
theorem dX6_levels_95 : decode cX6_levels 95 = .ok (.getfield 32, 3) := by decide +kernel
theorem dX6_levels_98 : decode cX6_levels 98 = .ok (.iload_n 1, 1) := by decide +kernel
theorem dX6_levels_99 : decode cX6_levels 99 = .ok (.iaload, 1) := by decide +kernel
theorem dX6_levels_100 : decode cX6_levels 100 = .ok (.i2l, 1) := by decide +kernel
theorem dX6_levels_101 : decode cX6_levels 101 = .ok (.lmul, 1) := by decide +kernel
theorem dX6_levels_102 : decode cX6_levels 102 = .ok (.lload 11, 2) := by decide +kernel
theorem dX6_levels_104 : decode cX6_levels 104 = .ok (.lload 9, 2) := by decide +kernel
theorem dX6_levels_106 : decode cX6_levels 106 = .ok (.lmul, 1) := by decide +kernel
theorem dX6_levels_107 : decode cX6_levels 107 = .ok (.ladd, 1) := by decide +kernel
theorem dX6_levels_108 : decode cX6_levels 108 = .ok (.lstore 7, 2) := by decide +kernel
theorem dX6_levels_110 : decode cX6_levels 110 = .ok (.lload 9, 2) := by decide +kernel
theorem dX6_levels_112 : decode cX6_levels 112 = .ok (.aload_n 0, 1) := by decide +kernel
theorem dX6_levels_113 : decode cX6_levels 113 = .ok (.getfield 29, 3) := by decide +kernel
theorem dX6_levels_116 : decode cX6_levels 116 = .ok (.iload_n 1, 1) := by decide +kernel
theorem dX6_levels_117 : decode cX6_levels 117 = .ok (.iaload, 1) := by decide +kernel
theorem dX6_levels_118 : decode cX6_levels 118 = .ok (.i2l, 1) := by decide +kernel
theorem dX6_levels_119 : decode cX6_levels 119 = .ok (.aload_n 0, 1) := by decide +kernel
theorem dX6_levels_120 : decode cX6_levels 120 = .ok (.getfield 29, 3) := by decide +kernel
theorem dX6_levels_123 : decode cX6_levels 123 = .ok (.iload_n 1, 1) := by decide +kernel
theorem dX6_levels_124 : decode cX6_levels 124 = .ok (.iaload, 1) := by decide +kernel
theorem dX6_levels_125 : decode cX6_levels 125 = .ok (.i2l, 1) := by decide +kernel
theorem dX6_levels_126 : decode cX6_levels 126 = .ok (.lmul, 1) := by decide +kernel
theorem dX6_levels_127 : decode cX6_levels 127 = .ok (.lmul, 1) := by decide +kernel
theorem dX6_levels_128 : decode cX6_levels 128 = .ok (.lstore 9, 2) := by decide +kernel
theorem dX6_levels_130 : decode cX6_levels 130 = .ok (.iinc 13 1, 3) := by decide +kernel
theorem dX6_levels_133 : decode cX6_levels 133 = .ok (.goto (-59), 3) := by decide +kernel
theorem dX6_levels_136 : decode cX6_levels 136 = .ok (.iload_n 3, 1) := by decide +kernel
theorem dX6_levels_137 : decode cX6_levels 137 = .ok (.ifCond .eq 8, 3) := by decide +kernel
theorem dX6_levels_140 : decode cX6_levels 140 = .ok (.lload 7, 2) := by decide +kernel
theorem dX6_levels_142 : decode cX6_levels 142 = .ok (.goto 5, 3) := by decide +kernel
theorem dX6_levels_145 : decode cX6_levels 145 = .ok (.lload 5, 2) := by decide +kernel
theorem dX6_levels_147 : decode cX6_levels 147 = .ok (.lreturn, 1) := by decide +kernel
abbrev rmX6_levels : Room := { frames := 4, cells := 0, slots := 0, locals := 94 }
theorem zyX6_levels : zyOK yX6_levels 3 := ⟨by decide +kernel, by decide +kernel, by decide +kernel⟩
set_option maxHeartbeats 4000000 in
set_option maxRecDepth 100000 in
theorem wX6_levels {G : ZG} (a0 : Nat) (a1 : Int32) (a2 : Int32) (a3 : Int32) (S : ZS) (h0 : zFix G cX6_levels RX6 14 (some .long) rmX6_levels) (C : Option (Int64 × ZS) → Prop) (hC : ¬ C none) (hE : ∀ (v : Int64) (S1 : ZS), C (some (v, S1)) → zEnd G (some (.long v)) S1 rmX6_levels) : zV G 14 S 0 0 0 [(0, .ref a0), (1, .int a1), (2, .int a2), (3, .int a3)] [] (C (fX6_levels a0 a1 a2 a3 S)) := by
  have J147 : ∀ (s0_147 : Int64) (S_147 : ZS), zV G 14 S_147 0 0 147 [] [.long s0_147] (C (fX6_levels_J147 s0_147 S_147)) := by
    intro s0_147 S_147
    unfold fX6_levels_J147
    exact zr_lret h0 rfl dX6_levels_147 (hE _ _) (by decide) (by decide)
  have J45 : ∀ (l0_45 : Nat) (l1_45 : Int32) (l2_45 : Int32) (l3_45 : Int32) (s0_45 : Nat) (s1_45 : Int32) (S_45 : ZS), zV G 14 S_45 0 0 45 [(0, .ref l0_45), (1, .int l1_45), (2, .int l2_45), (3, .int l3_45)] [.int s1_45, .ref s0_45] (C (fX6_levels_J45 l0_45 l1_45 l2_45 l3_45 s0_45 s1_45 S_45)) := by
    intro l0_45 l1_45 l2_45 l3_45 s0_45 s1_45 S_45
    unfold fX6_levels_J45
    refine zr_cMI C hC 0 0 (fun x hx => zk_V h0 zcX6 (zcl_ex hx) (fun l D z0 => kX6_goesWell l D z0 s0_45 s1_45 S_45 x (zcl_of hx)) zw_886 zw_888 zs_34 zw_5 zw_889 rfl zyX6_goesWell (As := [.int s1_45]) (st := []) rfl (by decide) rfl (Nat.le_of_ble_eq_true rfl) (by decide) dX6_levels_45) rfl rfl (n := 48) rfl (fun x23 => ?_)
    refine zr_if_ne C (tgt := 53) h0 dX6_levels_48 (by decide) (n := 51) rfl ?_ ?_
    · refine zv_sub (lv' := []) ?_ (zsub_of [] rfl)
      refine zr_lconst (0 : Int64) h0 (by decide) dX6_levels_51 (n := 52) rfl ?_
      exact zr_lret h0 rfl dX6_levels_52 (hE _ _) (by decide) (by decide)
    · refine zr_lconst (1 : Int64) h0 (by decide) dX6_levels_53 (n := 54) rfl ?_
      refine zr_lstore [(0, .ref l0_45), (1, .int l1_45), (2, .int l2_45), (3, .int l3_45), (5, .long (1 : Int64))] h0 dX6_levels_54 (by decide) rfl (n := 56) rfl ?_
      refine zr_lconst (0 : Int64) h0 (by decide) dX6_levels_56 (n := 57) rfl ?_
      refine zr_lstore [(0, .ref l0_45), (1, .int l1_45), (2, .int l2_45), (3, .int l3_45), (5, .long (1 : Int64)), (7, .long (0 : Int64))] h0 dX6_levels_57 (by decide) rfl (n := 59) rfl ?_
      refine zr_lconst (1 : Int64) h0 (by decide) dX6_levels_59 (n := 60) rfl ?_
      refine zr_lstore [(0, .ref l0_45), (1, .int l1_45), (2, .int l2_45), (3, .int l3_45), (5, .long (1 : Int64)), (7, .long (0 : Int64)), (9, .long (1 : Int64))] h0 dX6_levels_60 (by decide) rfl (n := 62) rfl ?_
      refine zr_aload_n h0 dX6_levels_62 rfl (n := 63) rfl ?_
      refine zr_iload_n h0 dX6_levels_63 rfl (n := 64) rfl ?_
      refine zr_iconst (0 : Int32) h0 (by decide) dX6_levels_64 (n := 65) rfl ?_
      refine zr_cMI C hC 0 0 (fun x hx => zk_V h0 zcX6 (zcl_ex hx) (fun l D z0 => kX6_additions l D z0 l0_45 l1_45 (0 : Int32) x23.2 x (zcl_of hx)) zw_1102 zw_1104 zs_63 zw_5 zw_1105 rfl zyX6_additions (As := [.int l1_45, .int (0 : Int32)]) (st := []) rfl (by decide) rfl (Nat.le_of_ble_eq_true rfl) (by decide) dX6_levels_65) rfl rfl (n := 68) rfl (fun x24 => ?_)
      refine zr_i2l h0 dX6_levels_68 (n := 69) rfl ?_
      refine zr_lstore [(0, .ref l0_45), (1, .int l1_45), (2, .int l2_45), (3, .int l3_45), (5, .long (1 : Int64)), (7, .long (0 : Int64)), (9, .long (1 : Int64)), (11, .long (Int32.toInt64 x24.1))] h0 dX6_levels_69 (by decide) rfl (n := 71) rfl ?_
      refine zr_iconst (0 : Int32) h0 (by decide) dX6_levels_71 (n := 72) rfl ?_
      refine zr_istore [(0, .ref l0_45), (1, .int l1_45), (2, .int l2_45), (3, .int l3_45), (5, .long (1 : Int64)), (7, .long (0 : Int64)), (9, .long (1 : Int64)), (11, .long (Int32.toInt64 x24.1)), (13, .int (0 : Int32))] h0 dX6_levels_72 (by decide) rfl (n := 74) rfl ?_
      refine zr_loop hC (fX6_levels_B74 l0_45 l1_45 l2_45 l3_45 (Int32.toInt64 x24.1) x24.2) (fun y => [(0, .ref l0_45), (1, .int l1_45), (2, .int l2_45), (3, .int l3_45), (5, .long y.1), (7, .long y.2.1), (9, .long y.2.2.1), (11, .long (Int32.toInt64 x24.1)), (13, .int y.2.2.2)]) (fun y => x24.2) zF ((1 : Int64), (0 : Int64), (1 : Int64), (0 : Int32)) (fun C74 hC74 hX74 hL74 t74 => ?_)
      unfold fX6_levels_B74
      refine zr_iload h0 dX6_levels_74 rfl (n := 76) rfl ?_
      refine zr_iload_n h0 dX6_levels_76 rfl (n := 77) rfl ?_
      refine zr_icmp_ge C74 (tgt := 136) h0 dX6_levels_77 (by decide) (n := 80) rfl ?_ ?_
      · refine zr_ex hX74 ?_
        refine zv_sub (lv' := [(3, .int l3_45), (5, .long t74.1), (7, .long t74.2.1)]) ?_ (zsub_of [3, 4, 5] rfl)
        refine zr_iload_n h0 dX6_levels_136 rfl (n := 137) rfl ?_
        refine zr_if_eq C (tgt := 145) h0 dX6_levels_137 (by decide) (n := 140) rfl ?_ ?_
        · refine zv_sub (lv' := [(5, .long t74.1)]) ?_ (zsub_of [1] rfl)
          refine zr_lload h0 dX6_levels_145 rfl (n := 147) rfl ?_
          refine zv_sub (lv' := []) ?_ (zsub_of [] rfl)
          exact J147 t74.1 x24.2
        · refine zv_sub (lv' := [(7, .long t74.2.1)]) ?_ (zsub_of [2] rfl)
          refine zr_lload h0 dX6_levels_140 rfl (n := 142) rfl ?_
          refine zr_goto (tgt := 147) h0 dX6_levels_142 (by decide) ?_
          refine zv_sub (lv' := []) ?_ (zsub_of [] rfl)
          exact J147 t74.2.1 x24.2
      · refine zr_lload h0 dX6_levels_80 rfl (n := 82) rfl ?_
        refine zr_aload_n h0 dX6_levels_82 rfl (n := 83) rfl ?_
        refine zr_getR C74 hC74 h0 zcX6 (k := 10) (by decide) zw_829 dX6_levels_83 (n := 86) rfl (fun v25 => ?_)
        refine zr_iload_n h0 dX6_levels_86 rfl (n := 87) rfl ?_
        refine zr_iaload C74 hC74 h0 dX6_levels_87 (n := 88) rfl (fun v26 => ?_)
        refine zr_i2l h0 dX6_levels_88 (n := 89) rfl ?_
        refine zr_lmul h0 dX6_levels_89 (n := 90) rfl ?_
        refine zr_lstore [(0, .ref l0_45), (1, .int l1_45), (2, .int l2_45), (3, .int l3_45), (5, .long (t74.1 * (Int32.toInt64 v26))), (7, .long t74.2.1), (9, .long t74.2.2.1), (11, .long (Int32.toInt64 x24.1)), (13, .int t74.2.2.2)] h0 dX6_levels_90 (by decide) rfl (n := 92) rfl ?_
        refine zr_lload h0 dX6_levels_92 rfl (n := 94) rfl ?_
        refine zr_aload_n h0 dX6_levels_94 rfl (n := 95) rfl ?_
        refine zr_getR C74 hC74 h0 zcX6 (k := 10) (by decide) zw_829 dX6_levels_95 (n := 98) rfl (fun v27 => ?_)
        refine zr_iload_n h0 dX6_levels_98 rfl (n := 99) rfl ?_
        refine zr_iaload C74 hC74 h0 dX6_levels_99 (n := 100) rfl (fun v28 => ?_)
        refine zr_i2l h0 dX6_levels_100 (n := 101) rfl ?_
        refine zr_lmul h0 dX6_levels_101 (n := 102) rfl ?_
        refine zr_lload h0 dX6_levels_102 rfl (n := 104) rfl ?_
        refine zr_lload h0 dX6_levels_104 rfl (n := 106) rfl ?_
        refine zr_lmul h0 dX6_levels_106 (n := 107) rfl ?_
        refine zr_ladd h0 dX6_levels_107 (n := 108) rfl ?_
        refine zr_lstore [(0, .ref l0_45), (1, .int l1_45), (2, .int l2_45), (3, .int l3_45), (5, .long (t74.1 * (Int32.toInt64 v26))), (7, .long ((t74.2.1 * (Int32.toInt64 v28)) + ((Int32.toInt64 x24.1) * t74.2.2.1))), (9, .long t74.2.2.1), (11, .long (Int32.toInt64 x24.1)), (13, .int t74.2.2.2)] h0 dX6_levels_108 (by decide) rfl (n := 110) rfl ?_
        refine zr_lload h0 dX6_levels_110 rfl (n := 112) rfl ?_
        refine zr_aload_n h0 dX6_levels_112 rfl (n := 113) rfl ?_
        refine zr_getR C74 hC74 h0 zcX6 (k := 9) (by decide) zw_828 dX6_levels_113 (n := 116) rfl (fun v29 => ?_)
        refine zr_iload_n h0 dX6_levels_116 rfl (n := 117) rfl ?_
        refine zr_iaload C74 hC74 h0 dX6_levels_117 (n := 118) rfl (fun v30 => ?_)
        refine zr_i2l h0 dX6_levels_118 (n := 119) rfl ?_
        refine zr_aload_n h0 dX6_levels_119 rfl (n := 120) rfl ?_
        refine zr_getR C74 hC74 h0 zcX6 (k := 9) (by decide) zw_828 dX6_levels_120 (n := 123) rfl (fun v31 => ?_)
        refine zr_iload_n h0 dX6_levels_123 rfl (n := 124) rfl ?_
        refine zr_iaload C74 hC74 h0 dX6_levels_124 (n := 125) rfl (fun v32 => ?_)
        refine zr_i2l h0 dX6_levels_125 (n := 126) rfl ?_
        refine zr_lmul h0 dX6_levels_126 (n := 127) rfl ?_
        refine zr_lmul h0 dX6_levels_127 (n := 128) rfl ?_
        refine zr_lstore [(0, .ref l0_45), (1, .int l1_45), (2, .int l2_45), (3, .int l3_45), (5, .long (t74.1 * (Int32.toInt64 v26))), (7, .long ((t74.2.1 * (Int32.toInt64 v28)) + ((Int32.toInt64 x24.1) * t74.2.2.1))), (9, .long (t74.2.2.1 * ((Int32.toInt64 v30) * (Int32.toInt64 v32)))), (11, .long (Int32.toInt64 x24.1)), (13, .int t74.2.2.2)] h0 dX6_levels_128 (by decide) rfl (n := 130) rfl ?_
        refine zr_iinc (1 : Int32) [(0, .ref l0_45), (1, .int l1_45), (2, .int l2_45), (3, .int l3_45), (5, .long (t74.1 * (Int32.toInt64 v26))), (7, .long ((t74.2.1 * (Int32.toInt64 v28)) + ((Int32.toInt64 x24.1) * t74.2.2.1))), (9, .long (t74.2.2.1 * ((Int32.toInt64 v30) * (Int32.toInt64 v32)))), (11, .long (Int32.toInt64 x24.1)), (13, .int (t74.2.2.2 + (1 : Int32)))] h0 dX6_levels_130 rfl (by decide) rfl rfl (n := 133) rfl ?_
        refine zr_goto (tgt := 74) h0 dX6_levels_133 (by decide) ?_
        exact hL74 (t74.1 * (Int32.toInt64 v26), (t74.2.1 * (Int32.toInt64 v28)) + ((Int32.toInt64 x24.1) * t74.2.2.1), t74.2.2.1 * ((Int32.toInt64 v30) * (Int32.toInt64 v32)), t74.2.2.2 + (1 : Int32))
  unfold fX6_levels
  refine zr_aload_n h0 dX6_levels_0 rfl (n := 1) rfl ?_
  refine zr_iload_n h0 dX6_levels_1 rfl (n := 2) rfl ?_
  refine zr_cRI C hC 0 0 (fun x hx => zk_V h0 zcX6 (zcl_ex hx) (fun l D z0 => kX6_isWay l D z0 a0 a1 S x (zcl_of hx)) zw_958 zw_960 zs_39 zw_5 zw_961 rfl zyX6_isWay (As := [.int a1]) (st := []) rfl (by decide) rfl (Nat.le_of_ble_eq_true rfl) (by decide) dX6_levels_2) rfl rfl (n := 5) rfl (fun x1 => ?_)
  refine zr_istore [(0, .ref a0), (1, .int a1), (2, .int a2), (3, .int a3), (4, .int x1)] h0 dX6_levels_5 (by decide) rfl (n := 7) rfl ?_
  refine zr_aload_n h0 dX6_levels_7 rfl (n := 8) rfl ?_
  refine zr_iload h0 dX6_levels_8 rfl (n := 10) rfl ?_
  refine zr_if_ne C (tgt := 17) h0 dX6_levels_10 (by decide) (n := 13) rfl ?_ ?_
  · refine zv_sub (lv' := [(0, .ref a0), (1, .int a1), (2, .int a2), (3, .int a3)]) ?_ (zsub_of [0, 1, 2, 3] rfl)
    refine zr_iconst (1 : Int32) h0 (by decide) dX6_levels_13 (n := 14) rfl ?_
    refine zr_goto (tgt := 45) h0 dX6_levels_14 (by decide) ?_
    exact J45 a0 a1 a2 a3 a0 (1 : Int32) S
  · refine zv_sub (lv' := [(0, .ref a0), (1, .int a1), (2, .int a2), (3, .int a3)]) ?_ (zsub_of [0, 1, 2, 3] rfl)
    refine zr_iload_n h0 dX6_levels_17 rfl (n := 18) rfl ?_
    refine zr_iconst (0 : Int32) h0 (by decide) dX6_levels_18 (n := 19) rfl ?_
    refine zr_bipush (6 : Int32) h0 (by decide) dX6_levels_19 (n := 21) rfl ?_
    refine zr_cRI C hC 0 0 (fun x hx => zk_S h0 (fun l D z0 => kX6_in l D z0 a2 (0 : Int32) (6 : Int32) S x hx) zw_898 zw_899 zw_5 zw_900 zyX6_in (As := [.int a2, .int (0 : Int32), .int (6 : Int32)]) (st := [.ref a0]) rfl (by decide) rfl (Nat.le_of_ble_eq_true rfl) (by decide) dX6_levels_21) rfl rfl (n := 24) rfl (fun x20 => ?_)
    refine zr_if_ne C (tgt := 31) h0 dX6_levels_24 (by decide) (n := 27) rfl ?_ ?_
    · refine zr_iconst (2 : Int32) h0 (by decide) dX6_levels_27 (n := 28) rfl ?_
      refine zr_goto (tgt := 45) h0 dX6_levels_28 (by decide) ?_
      exact J45 a0 a1 a2 a3 a0 (2 : Int32) S
    · refine zr_aload_n h0 dX6_levels_31 rfl (n := 32) rfl ?_
      refine zr_getR C hC h0 zcX6 (k := 9) (by decide) zw_828 dX6_levels_32 (n := 35) rfl (fun v21 => ?_)
      refine zr_iload_n h0 dX6_levels_35 rfl (n := 36) rfl ?_
      refine zr_iaload C hC h0 dX6_levels_36 (n := 37) rfl (fun v22 => ?_)
      refine zr_if_ne C (tgt := 44) h0 dX6_levels_37 (by decide) (n := 40) rfl ?_ ?_
      · refine zr_iconst (3 : Int32) h0 (by decide) dX6_levels_40 (n := 41) rfl ?_
        refine zr_goto (tgt := 45) h0 dX6_levels_41 (by decide) ?_
        exact J45 a0 a1 a2 a3 a0 (3 : Int32) S
      · refine zr_iconst (0 : Int32) h0 (by decide) dX6_levels_44 (n := 45) rfl ?_
        exact J45 a0 a1 a2 a3 a0 (0 : Int32) S
theorem kX6_levels (l : Launch) (D : ZD) (z0 : Nat) (a0 : Nat) (a1 : Int32) (a2 : Int32) (a3 : Int32) (S : ZS) (x : Int64 × ZS) (hf : fX6_levels a0 a1 a2 a3 S = some x) : zMet l D z0 yX6_levels cX6_levels 14 (some .long) rmX6_levels [.ref a0, .int a1, .int a2, .int a3] S (some (.long x.1)) x.2 :=
  zMet_of (by decide) (Nat.le_of_ble_eq_true rfl) (fun G h0 hini hE => wX6_levels a0 a1 a2 a3 S h0 (fun o => o = some x) (fun h => nomatch h) (fun v S1 h => by cases h; exact hE)) hf
