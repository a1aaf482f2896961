theorem dX6_areAlike_0 : decode cX6_areAlike 0 = .ok (.iconst 1, 1) := by decide +kernel
theorem dX6_areAlike_1 : decode cX6_areAlike 1 = .ok (.istore 5, 2) := by decide +kernel
theorem dX6_areAlike_3 : decode cX6_areAlike 3 = .ok (.iconst 0, 1) := by decide +kernel
theorem dX6_areAlike_4 : decode cX6_areAlike 4 = .ok (.istore 6, 2) := by decide +kernel
theorem dX6_areAlike_6 : decode cX6_areAlike 6 = .ok (.iload 6, 2) := by decide +kernel
theorem dX6_areAlike_8 : decode cX6_areAlike 8 = .ok (.aload_n 0, 1) := by decide +kernel
theorem dX6_areAlike_9 : decode cX6_areAlike 9 = .ok (.getfield 23, 3) := by decide +kernel
theorem dX6_areAlike_12 : decode cX6_areAlike 12 = .ok (.iconst 3, 1) := by decide +kernel
theorem dX6_areAlike_13 : decode cX6_areAlike 13 = .ok (.iload_n 1, 1) := by decide +kernel
theorem dX6_areAlike_14 : decode cX6_areAlike 14 = .ok (.imul, 1) := by decide +kernel
theorem dX6_areAlike_15 : decode cX6_areAlike 15 = .ok (.iload 4, 2) := by decide +kernel
theorem dX6_areAlike_17 : decode cX6_areAlike 17 = .ok (.iadd, 1) := by decide +kernel
theorem dX6_areAlike_18 : decode cX6_areAlike 18 = .ok (.iaload, 1) := by decide +kernel
theorem dX6_areAlike_19 : decode cX6_areAlike 19 = .ok (.if_icmp .ge 54, 3) := by decide +kernel
theorem dX6_areAlike_22 : decode cX6_areAlike 22 = .ok (.iload 5, 2) := by decide +kernel
theorem dX6_areAlike_24 : decode cX6_areAlike 24 = .ok (.ifCond .eq 40, 3) := by decide +kernel
theorem dX6_areAlike_27 : decode cX6_areAlike 27 = .ok (.aload_n 0, 1) := by decide +kernel
theorem dX6_areAlike_28 : decode cX6_areAlike 28 = .ok (.getfield 35, 3) := by decide +kernel
theorem dX6_areAlike_31 : decode cX6_areAlike 31 = .ok (.iload_n 1, 1) := by decide +kernel
theorem dX6_areAlike_32 : decode cX6_areAlike 32 = .ok (.iload_n 2, 1) := by decide +kernel
theorem dX6_areAlike_33 : decode cX6_areAlike 33 = .ok (.iload 4, 2) := by decide +kernel
theorem dX6_areAlike_35 : decode cX6_areAlike 35 = .ok (.invokestatic 96, 3) := by decide +kernel
theorem dX6_areAlike_38 : decode cX6_areAlike 38 = .ok (.iload 6, 2) := by decide +kernel
theorem dX6_areAlike_40 : decode cX6_areAlike 40 = .ok (.iadd, 1) := by decide +kernel
theorem dX6_areAlike_41 : decode cX6_areAlike 41 = .ok (.iaload, 1) := by decide +kernel
theorem dX6_areAlike_42 : decode cX6_areAlike 42 = .ok (.aload_n 0, 1) := by decide +kernel
theorem dX6_areAlike_43 : decode cX6_areAlike 43 = .ok (.getfield 35, 3) := by decide +kernel
theorem dX6_areAlike_46 : decode cX6_areAlike 46 = .ok (.iload_n 1, 1) := by decide +kernel
theorem dX6_areAlike_47 : decode cX6_areAlike 47 = .ok (.iload_n 3, 1) := by decide +kernel
theorem dX6_areAlike_48 : decode cX6_areAlike 48 = .ok (.iload 4, 2) := by decide +kernel
theorem dX6_areAlike_50 : decode cX6_areAlike 50 = .ok (.invokestatic 96, 3) := by decide +kernel
theorem dX6_areAlike_53 : decode cX6_areAlike 53 = .ok (.iload 6, 2) := by decide +kernel
theorem dX6_areAlike_55 : decode cX6_areAlike 55 = .ok (.iadd, 1) := by decide +kernel
theorem dX6_areAlike_56 : decode cX6_areAlike 56 = .ok (.iaload, 1) := by decide +kernel
theorem dX6_areAlike_57 : decode cX6_areAlike 57 = .ok (.if_icmp .ne 7, 3) := by decide +kernel
theorem dX6_areAlike_60 : decode cX6_areAlike 60 = .ok (.iconst 1, 1) := by decide +kernel
theorem dX6_areAlike_61 : decode cX6_areAlike 61 = .ok (.goto 4, 3) := by decide +kernel
theorem dX6_areAlike_64 : decode cX6_areAlike 64 = .ok (.iconst 0, 1) := by decide +kernel
theorem dX6_areAlike_65 : decode cX6_areAlike 65 = .ok (.istore 5, 2) := by decide +kernel
theorem dX6_areAlike_67 : decode cX6_areAlike 67 = .ok (.iinc 6 1, 3) := by decide +kernel
theorem dX6_areAlike_70 : decode cX6_areAlike 70 = .ok (.goto (-64), 3) := by decide +kernel
theorem dX6_areAlike_73 : decode cX6_areAlike 73 = .ok (.iload 5, 2) := by decide +kernel
theorem dX6_areAlike_75 : decode cX6_areAlike 75 = .ok (.ireturn, 1) := by decide +kernel
abbrev rmX6_areAlike : Room := { frames := 2, cells := 0, slots := 0, locals := 42 }
theorem zyX6_areAlike : zyOK yX6_areAlike 4 := ⟨by decide +kernel, by decide +kernel, by decide +kernel⟩
set_option maxHeartbeats 4000000 in
set_option maxRecDepth 100000 in
theorem wX6_areAlike {G : ZG} (a0 : Nat) (a1 : Int32) (a2 : Int32) (a3 : Int32) (a4 : Int32) (S : ZS) (h0 : zFix G cX6_areAlike RX6 7 (some .boolean) rmX6_areAlike) (C : Option Int32 → Prop) (hC : ¬ C none) (hE : ∀ v : Int32, C (some v) → zEnd G (some (.int v)) S rmX6_areAlike) : zV G 7 S 0 0 0 [(0, .ref a0), (1, .int a1), (2, .int a2), (3, .int a3), (4, .int a4)] [] (C (fX6_areAlike a0 a1 a2 a3 a4 S)) := by
  unfold fX6_areAlike
  refine zr_iconst (1 : Int32) h0 (by decide) dX6_areAlike_0 (n := 1) rfl ?_
  refine zr_istore [(0, .ref a0), (1, .int a1), (2, .int a2), (3, .int a3), (4, .int a4), (5, .int (1 : Int32))] h0 dX6_areAlike_1 (by decide) rfl (n := 3) rfl ?_
  refine zr_iconst (0 : Int32) h0 (by decide) dX6_areAlike_3 (n := 4) rfl ?_
  refine zr_istore [(0, .ref a0), (1, .int a1), (2, .int a2), (3, .int a3), (4, .int a4), (5, .int (1 : Int32)), (6, .int (0 : Int32))] h0 dX6_areAlike_4 (by decide) rfl (n := 6) rfl ?_
  refine zr_loop hC (fX6_areAlike_B6 a0 a1 a2 a3 a4 S) (fun y => [(0, .ref a0), (1, .int a1), (2, .int a2), (3, .int a3), (4, .int a4), (5, .int y.1), (6, .int y.2)]) (fun y => S) zF ((1 : Int32), (0 : Int32)) (fun C6 hC6 hX6 hL6 t6 => ?_)
  have J65 : ∀ (l6_65 : Int32) (s0_65 : Int32), zV G 7 S 0 0 65 [(0, .ref a0), (1, .int a1), (2, .int a2), (3, .int a3), (4, .int a4), (6, .int l6_65)] [.int s0_65] (C6 (fX6_areAlike_J65 a0 a1 a2 a3 a4 l6_65 s0_65 S)) := by
    intro l6_65 s0_65
    unfold fX6_areAlike_J65
    refine zr_istore [(0, .ref a0), (1, .int a1), (2, .int a2), (3, .int a3), (4, .int a4), (5, .int s0_65), (6, .int l6_65)] h0 dX6_areAlike_65 (by decide) rfl (n := 67) rfl ?_
    refine zr_iinc (1 : Int32) [(0, .ref a0), (1, .int a1), (2, .int a2), (3, .int a3), (4, .int a4), (5, .int s0_65), (6, .int (l6_65 + (1 : Int32)))] h0 dX6_areAlike_67 rfl (by decide) rfl rfl (n := 70) rfl ?_
    refine zr_goto (tgt := 6) h0 dX6_areAlike_70 (by decide) ?_
    exact hL6 (s0_65, l6_65 + (1 : Int32))
  have J64 : ∀ (l6_64 : Int32), zV G 7 S 0 0 64 [(0, .ref a0), (1, .int a1), (2, .int a2), (3, .int a3), (4, .int a4), (6, .int l6_64)] [] (C6 (fX6_areAlike_J64 a0 a1 a2 a3 a4 l6_64 S)) := by
    intro l6_64
    unfold fX6_areAlike_J64
    refine zr_iconst (0 : Int32) h0 (by decide) dX6_areAlike_64 (n := 65) rfl ?_
    exact J65 l6_64 (0 : Int32)
  unfold fX6_areAlike_B6
  refine zr_iload h0 dX6_areAlike_6 rfl (n := 8) rfl ?_
  refine zr_aload_n h0 dX6_areAlike_8 rfl (n := 9) rfl ?_
  refine zr_getR C6 hC6 h0 zcX6 (k := 7) (by decide) zw_826 dX6_areAlike_9 (n := 12) rfl (fun v9 => ?_)
  refine zr_iconst (3 : Int32) h0 (by decide) dX6_areAlike_12 (n := 13) rfl ?_
  refine zr_iload_n h0 dX6_areAlike_13 rfl (n := 14) rfl ?_
  refine zr_imul h0 dX6_areAlike_14 (n := 15) rfl ?_
  refine zr_iload h0 dX6_areAlike_15 rfl (n := 17) rfl ?_
  refine zr_iadd h0 dX6_areAlike_17 (n := 18) rfl ?_
  refine zr_iaload C6 hC6 h0 dX6_areAlike_18 (n := 19) rfl (fun v10 => ?_)
  refine zr_icmp_ge C6 (tgt := 73) h0 dX6_areAlike_19 (by decide) (n := 22) rfl ?_ ?_
  · refine zr_ex hX6 ?_
    refine zv_sub (lv' := [(5, .int t6.1)]) ?_ (zsub_of [5] rfl)
    refine zr_iload h0 dX6_areAlike_73 rfl (n := 75) rfl ?_
    exact zr_zret C hC h0 rfl dX6_areAlike_75 (fun w h => hE _ h) (by decide) (by decide)
  · refine zr_iload h0 dX6_areAlike_22 rfl (n := 24) rfl ?_
    refine zr_if_eq C6 (tgt := 64) h0 dX6_areAlike_24 (by decide) (n := 27) rfl ?_ ?_
    · refine zv_sub (lv' := [(0, .ref a0), (1, .int a1), (2, .int a2), (3, .int a3), (4, .int a4), (6, .int t6.2)]) ?_ (zsub_of [0, 1, 2, 3, 4, 6] rfl)
      exact J64 t6.2
    · refine zv_sub (lv' := [(0, .ref a0), (1, .int a1), (2, .int a2), (3, .int a3), (4, .int a4), (6, .int t6.2)]) ?_ (zsub_of [0, 1, 2, 3, 4, 6] rfl)
      refine zr_aload_n h0 dX6_areAlike_27 rfl (n := 28) rfl ?_
      refine zr_getR C6 hC6 h0 zcX6 (k := 11) (by decide) zw_830 dX6_areAlike_28 (n := 31) rfl (fun v11 => ?_)
      refine zr_iload_n h0 dX6_areAlike_31 rfl (n := 32) rfl ?_
      refine zr_iload_n h0 dX6_areAlike_32 rfl (n := 33) rfl ?_
      refine zr_iload h0 dX6_areAlike_33 rfl (n := 35) rfl ?_
      refine zr_cRI C6 hC6 0 0 (fun x hx => zk_S h0 (fun l D z0 => kX6_from l D z0 a1 a2 a4 S x hx) zw_974 zw_975 zw_5 zw_976 zyX6_from (As := [.int a1, .int a2, .int a4]) (st := [.ref v11]) rfl (by decide) rfl (Nat.le_of_ble_eq_true rfl) (by decide) dX6_areAlike_35) rfl rfl (n := 38) rfl (fun x12 => ?_)
      refine zr_iload h0 dX6_areAlike_38 rfl (n := 40) rfl ?_
      refine zr_iadd h0 dX6_areAlike_40 (n := 41) rfl ?_
      refine zr_iaload C6 hC6 h0 dX6_areAlike_41 (n := 42) rfl (fun v13 => ?_)
      refine zr_aload_n h0 dX6_areAlike_42 rfl (n := 43) rfl ?_
      refine zr_getR C6 hC6 h0 zcX6 (k := 11) (by decide) zw_830 dX6_areAlike_43 (n := 46) rfl (fun v14 => ?_)
      refine zr_iload_n h0 dX6_areAlike_46 rfl (n := 47) rfl ?_
      refine zr_iload_n h0 dX6_areAlike_47 rfl (n := 48) rfl ?_
      refine zr_iload h0 dX6_areAlike_48 rfl (n := 50) rfl ?_
      refine zr_cRI C6 hC6 0 0 (fun x hx => zk_S h0 (fun l D z0 => kX6_from l D z0 a1 a3 a4 S x hx) zw_974 zw_975 zw_5 zw_976 zyX6_from (As := [.int a1, .int a3, .int a4]) (st := [.ref v14, .int v13]) rfl (by decide) rfl (Nat.le_of_ble_eq_true rfl) (by decide) dX6_areAlike_50) rfl rfl (n := 53) rfl (fun x15 => ?_)
      refine zr_iload h0 dX6_areAlike_53 rfl (n := 55) rfl ?_
      refine zr_iadd h0 dX6_areAlike_55 (n := 56) rfl ?_
      refine zr_iaload C6 hC6 h0 dX6_areAlike_56 (n := 57) rfl (fun v16 => ?_)
      refine zr_icmp_ne C6 (tgt := 64) h0 dX6_areAlike_57 (by decide) (n := 60) rfl ?_ ?_
      · refine zr_iconst (1 : Int32) h0 (by decide) dX6_areAlike_60 (n := 61) rfl ?_
        refine zr_goto (tgt := 65) h0 dX6_areAlike_61 (by decide) ?_
        exact J65 t6.2 (1 : Int32)
      · exact J64 t6.2
theorem kX6_areAlike (l : Launch) (D : ZD) (z0 : Nat) (a0 : Nat) (a1 : Int32) (a2 : Int32) (a3 : Int32) (a4 : Int32) (S : ZS) (x : Int32) (hf : fX6_areAlike a0 a1 a2 a3 a4 S = some x) : zMet l D z0 yX6_areAlike cX6_areAlike 7 (some .boolean) rmX6_areAlike [.ref a0, .int a1, .int a2, .int a3, .int a4] S (some (.int x)) S :=
  zMet_of (by decide) (Nat.le_of_ble_eq_true rfl) (fun G h0 hini hE => wX6_areAlike a0 a1 a2 a3 a4 S h0 (fun o => o = some x) (fun h => nomatch h) (fun v h => by cases h; exact hE)) hf
theorem dX6_add_0 : decode cX6_add 0 = .ok (.iconst 0, 1) := by decide +kernel
theorem dX6_add_1 : decode cX6_add 1 = .ok (.istore 6, 2) := by decide +kernel
theorem dX6_add_3 : decode cX6_add 3 = .ok (.iload 6, 2) := by decide +kernel
theorem dX6_add_5 : decode cX6_add 5 = .ok (.aload_n 0, 1) := by decide +kernel
theorem dX6_add_6 : decode cX6_add 6 = .ok (.getfield 23, 3) := by decide +kernel
theorem dX6_add_9 : decode cX6_add 9 = .ok (.iconst 3, 1) := by decide +kernel
theorem dX6_add_10 : decode cX6_add 10 = .ok (.iload_n 1, 1) := by decide +kernel
theorem dX6_add_11 : decode cX6_add 11 = .ok (.imul, 1) := by decide +kernel
theorem dX6_add_12 : decode cX6_add 12 = .ok (.iload 4, 2) := by decide +kernel
theorem dX6_add_14 : decode cX6_add 14 = .ok (.iadd, 1) := by decide +kernel
theorem dX6_add_15 : decode cX6_add 15 = .ok (.iaload, 1) := by decide +kernel
theorem dX6_add_16 : decode cX6_add 16 = .ok (.if_icmp .ge 63, 3) := by decide +kernel
theorem dX6_add_19 : decode cX6_add 19 = .ok (.aload_n 0, 1) := by decide +kernel
theorem dX6_add_20 : decode cX6_add 20 = .ok (.getfield 35, 3) := by decide +kernel
theorem dX6_add_23 : decode cX6_add 23 = .ok (.iload_n 1, 1) := by decide +kernel
theorem dX6_add_24 : decode cX6_add 24 = .ok (.iload_n 2, 1) := by decide +kernel
theorem dX6_add_25 : decode cX6_add 25 = .ok (.iload 4, 2) := by decide +kernel
theorem dX6_add_27 : decode cX6_add 27 = .ok (.invokestatic 96, 3) := by decide +kernel
theorem dX6_add_30 : decode cX6_add 30 = .ok (.iload 6, 2) := by decide +kernel
theorem dX6_add_32 : decode cX6_add 32 = .ok (.iadd, 1) := by decide +kernel
theorem dX6_add_33 : decode cX6_add 33 = .ok (.aload_n 0, 1) := by decide +kernel
theorem dX6_add_34 : decode cX6_add 34 = .ok (.getfield 35, 3) := by decide +kernel
theorem dX6_add_37 : decode cX6_add 37 = .ok (.iload_n 1, 1) := by decide +kernel
theorem dX6_add_38 : decode cX6_add 38 = .ok (.iload_n 2, 1) := by decide +kernel
theorem dX6_add_39 : decode cX6_add 39 = .ok (.iload 4, 2) := by decide +kernel
theorem dX6_add_41 : decode cX6_add 41 = .ok (.invokestatic 96, 3) := by decide +kernel
theorem dX6_add_44 : decode cX6_add 44 = .ok (.iload 6, 2) := by decide +kernel
theorem dX6_add_46 : decode cX6_add 46 = .ok (.iadd, 1) := by decide +kernel
theorem dX6_add_47 : decode cX6_add 47 = .ok (.iaload, 1) := by decide +kernel
theorem dX6_add_48 : decode cX6_add 48 = .ok (.iload 5, 2) := by decide +kernel
theorem dX6_add_50 : decode cX6_add 50 = .ok (.aload_n 0, 1) := by decide +kernel
theorem dX6_add_51 : decode cX6_add 51 = .ok (.getfield 35, 3) := by decide +kernel
theorem dX6_add_54 : decode cX6_add 54 = .ok (.iload_n 1, 1) := by decide +kernel
theorem dX6_add_55 : decode cX6_add 55 = .ok (.iload_n 3, 1) := by decide +kernel
theorem dX6_add_56 : decode cX6_add 56 = .ok (.iload 4, 2) := by decide +kernel
theorem dX6_add_58 : decode cX6_add 58 = .ok (.invokestatic 96, 3) := by decide +kernel
theorem dX6_add_61 : decode cX6_add 61 = .ok (.iload 6, 2) := by decide +kernel
theorem dX6_add_63 : decode cX6_add 63 = .ok (.iadd, 1) := by decide +kernel
theorem dX6_add_64 : decode cX6_add 64 = .ok (.iaload, 1) := by decide +kernel
theorem dX6_add_65 : decode cX6_add 65 = .ok (.imul, 1) := by decide +kernel
theorem dX6_add_66 : decode cX6_add 66 = .ok (.iadd, 1) := by decide +kernel
theorem dX6_add_67 : decode cX6_add 67 = .ok (.aload_n 0, 1) := by decide +kernel
theorem dX6_add_68 : decode cX6_add 68 = .ok (.getfield 7, 3) := by decide +kernel
theorem dX6_add_71 : decode cX6_add 71 = .ok (.irem, 1) := by decide +kernel
theorem dX6_add_72 : decode cX6_add 72 = .ok (.iastore, 1) := by decide +kernel
theorem dX6_add_73 : decode cX6_add 73 = .ok (.iinc 6 1, 3) := by decide +kernel
theorem dX6_add_76 : decode cX6_add 76 = .ok (.goto (-73), 3) := by decide +kernel
theorem dX6_add_79 : decode cX6_add 79 = .ok (.return_, 1) := by decide +kernel
abbrev rmX6_add : Room := { frames := 2, cells := 0, slots := 0, locals := 42 }
theorem zyX6_add : zyOK yX6_add 5 := ⟨by decide +kernel, by decide +kernel, by decide +kernel⟩
set_option maxHeartbeats 4000000 in
set_option maxRecDepth 100000 in
theorem wX6_add {G : ZG} (a0 : Nat) (a1 : Int32) (a2 : Int32) (a3 : Int32) (a4 : Int32) (a5 : Int32) (S : ZS) (h0 : zFix G cX6_add RX6 7 none rmX6_add) (C : Option ZS → Prop) (hC : ¬ C none) (hE : ∀ S1 : ZS, C (some S1) → zEnd G none S1 rmX6_add) : zV G 7 S 0 0 0 [(0, .ref a0), (1, .int a1), (2, .int a2), (3, .int a3), (4, .int a4), (5, .int a5)] [] (C (fX6_add a0 a1 a2 a3 a4 a5 S)) := by
  unfold fX6_add
  refine zr_iconst (0 : Int32) h0 (by decide) dX6_add_0 (n := 1) rfl ?_
  refine zr_istore [(0, .ref a0), (1, .int a1), (2, .int a2), (3, .int a3), (4, .int a4), (5, .int a5), (6, .int (0 : Int32))] h0 dX6_add_1 (by decide) rfl (n := 3) rfl ?_
  refine zr_loop hC (fX6_add_B3 a0 a1 a2 a3 a4 a5) (fun y => [(0, .ref a0), (1, .int a1), (2, .int a2), (3, .int a3), (4, .int a4), (5, .int a5), (6, .int y.1)]) (fun y => y.2) zF ((0 : Int32), S) (fun C3 hC3 hX3 hL3 t3 => ?_)
  unfold fX6_add_B3
  refine zr_iload h0 dX6_add_3 rfl (n := 5) rfl ?_
  refine zr_aload_n h0 dX6_add_5 rfl (n := 6) rfl ?_
  refine zr_getR C3 hC3 h0 zcX6 (k := 7) (by decide) zw_826 dX6_add_6 (n := 9) rfl (fun v14 => ?_)
  refine zr_iconst (3 : Int32) h0 (by decide) dX6_add_9 (n := 10) rfl ?_
  refine zr_iload_n h0 dX6_add_10 rfl (n := 11) rfl ?_
  refine zr_imul h0 dX6_add_11 (n := 12) rfl ?_
  refine zr_iload h0 dX6_add_12 rfl (n := 14) rfl ?_
  refine zr_iadd h0 dX6_add_14 (n := 15) rfl ?_
  refine zr_iaload C3 hC3 h0 dX6_add_15 (n := 16) rfl (fun v15 => ?_)
  refine zr_icmp_ge C3 (tgt := 79) h0 dX6_add_16 (by decide) (n := 19) rfl ?_ ?_
  · refine zr_ex hX3 ?_
    refine zv_sub (lv' := []) ?_ (zsub_of [] rfl)
    exact zr_vret h0 rfl dX6_add_79 (fun h => hE _ h) (by decide) (by decide)
  · refine zr_aload_n h0 dX6_add_19 rfl (n := 20) rfl ?_
    refine zr_getR C3 hC3 h0 zcX6 (k := 11) (by decide) zw_830 dX6_add_20 (n := 23) rfl (fun v16 => ?_)
    refine zr_iload_n h0 dX6_add_23 rfl (n := 24) rfl ?_
    refine zr_iload_n h0 dX6_add_24 rfl (n := 25) rfl ?_
    refine zr_iload h0 dX6_add_25 rfl (n := 27) rfl ?_
    refine zr_cRI C3 hC3 0 0 (fun x hx => zk_S h0 (fun l D z0 => kX6_from l D z0 a1 a2 a4 t3.2 x hx) zw_974 zw_975 zw_5 zw_976 zyX6_from (As := [.int a1, .int a2, .int a4]) (st := [.ref v16]) rfl (by decide) rfl (Nat.le_of_ble_eq_true rfl) (by decide) dX6_add_27) rfl rfl (n := 30) rfl (fun x17 => ?_)
    refine zr_iload h0 dX6_add_30 rfl (n := 32) rfl ?_
    refine zr_iadd h0 dX6_add_32 (n := 33) rfl ?_
    refine zr_aload_n h0 dX6_add_33 rfl (n := 34) rfl ?_
    refine zr_getR C3 hC3 h0 zcX6 (k := 11) (by decide) zw_830 dX6_add_34 (n := 37) rfl (fun v18 => ?_)
    refine zr_iload_n h0 dX6_add_37 rfl (n := 38) rfl ?_
    refine zr_iload_n h0 dX6_add_38 rfl (n := 39) rfl ?_
    refine zr_iload h0 dX6_add_39 rfl (n := 41) rfl ?_
    refine zr_cRI C3 hC3 0 0 (fun x hx => zk_S h0 (fun l D z0 => kX6_from l D z0 a1 a2 a4 t3.2 x hx) zw_974 zw_975 zw_5 zw_976 zyX6_from (As := [.int a1, .int a2, .int a4]) (st := [.ref v18, .int (x17 + t3.1), .ref v16]) rfl (by decide) rfl (Nat.le_of_ble_eq_true rfl) (by decide) dX6_add_41) rfl rfl (n := 44) rfl (fun x19 => ?_)
    refine zr_iload h0 dX6_add_44 rfl (n := 46) rfl ?_
    refine zr_iadd h0 dX6_add_46 (n := 47) rfl ?_
    refine zr_iaload C3 hC3 h0 dX6_add_47 (n := 48) rfl (fun v20 => ?_)
    refine zr_iload h0 dX6_add_48 rfl (n := 50) rfl ?_
    refine zr_aload_n h0 dX6_add_50 rfl (n := 51) rfl ?_
    refine zr_getR C3 hC3 h0 zcX6 (k := 11) (by decide) zw_830 dX6_add_51 (n := 54) rfl (fun v21 => ?_)
    refine zr_iload_n h0 dX6_add_54 rfl (n := 55) rfl ?_
    refine zr_iload_n h0 dX6_add_55 rfl (n := 56) rfl ?_
    refine zr_iload h0 dX6_add_56 rfl (n := 58) rfl ?_
    refine zr_cRI C3 hC3 0 0 (fun x hx => zk_S h0 (fun l D z0 => kX6_from l D z0 a1 a3 a4 t3.2 x hx) zw_974 zw_975 zw_5 zw_976 zyX6_from (As := [.int a1, .int a3, .int a4]) (st := [.ref v21, .int a5, .int v20, .int (x17 + t3.1), .ref v16]) rfl (by decide) rfl (Nat.le_of_ble_eq_true rfl) (by decide) dX6_add_58) rfl rfl (n := 61) rfl (fun x22 => ?_)
    refine zr_iload h0 dX6_add_61 rfl (n := 63) rfl ?_
    refine zr_iadd h0 dX6_add_63 (n := 64) rfl ?_
    refine zr_iaload C3 hC3 h0 dX6_add_64 (n := 65) rfl (fun v23 => ?_)
    refine zr_imul h0 dX6_add_65 (n := 66) rfl ?_
    refine zr_iadd h0 dX6_add_66 (n := 67) rfl ?_
    refine zr_aload_n h0 dX6_add_67 rfl (n := 68) rfl ?_
    refine zr_getI C3 hC3 h0 zcX6 (k := 1) (by decide) zw_820 dX6_add_68 (n := 71) rfl (fun v24 => ?_)
    refine zr_irem C3 hC3 h0 dX6_add_71 (n := 72) rfl (fun v25 => ?_)
    refine zr_iastore C3 hC3 h0 dX6_add_72 (n := 73) rfl (fun S26 => ?_)
    refine zr_iinc (1 : Int32) [(0, .ref a0), (1, .int a1), (2, .int a2), (3, .int a3), (4, .int a4), (5, .int a5), (6, .int (t3.1 + (1 : Int32)))] h0 dX6_add_73 rfl (by decide) rfl rfl (n := 76) rfl ?_
    refine zr_goto (tgt := 3) h0 dX6_add_76 (by decide) ?_
    exact hL3 (t3.1 + (1 : Int32), S26)
theorem kX6_add (l : Launch) (D : ZD) (z0 : Nat) (a0 : Nat) (a1 : Int32) (a2 : Int32) (a3 : Int32) (a4 : Int32) (a5 : Int32) (S : ZS) (x : ZS) (hf : fX6_add a0 a1 a2 a3 a4 a5 S = some x) : zMet l D z0 yX6_add cX6_add 7 none rmX6_add [.ref a0, .int a1, .int a2, .int a3, .int a4, .int a5] S none x :=
  zMet_of (by decide) (Nat.le_of_ble_eq_true rfl) (fun G h0 hini hE => wX6_add a0 a1 a2 a3 a4 a5 S h0 (fun o => o = some x) (fun h => nomatch h) (fun S1 h => by cases h; exact hE)) hf
theorem dX6_turn_0 : decode cX6_turn 0 = .ok (.iload 4, 2) := by decide +kernel
theorem dX6_turn_2 : decode cX6_turn 2 = .ok (.ifCond .ne 7, 3) := by decide +kernel
theorem dX6_turn_5 : decode cX6_turn 5 = .ok (.iconst 1, 1) := by decide +kernel
theorem dX6_turn_6 : decode cX6_turn 6 = .ok (.goto 4, 3) := by decide +kernel
theorem dX6_turn_9 : decode cX6_turn 9 = .ok (.iconst 0, 1) := by decide +kernel
theorem dX6_turn_10 : decode cX6_turn 10 = .ok (.istore 5, 2) := by decide +kernel
theorem dX6_turn_12 : decode cX6_turn 12 = .ok (.iload 4, 2) := by decide +kernel
theorem dX6_turn_14 : decode cX6_turn 14 = .ok (.iconst 2, 1) := by decide +kernel
theorem dX6_turn_15 : decode cX6_turn 15 = .ok (.if_icmp .ne 7, 3) := by decide +kernel
theorem dX6_turn_18 : decode cX6_turn 18 = .ok (.iconst 1, 1) := by decide +kernel
theorem dX6_turn_19 : decode cX6_turn 19 = .ok (.goto 4, 3) := by decide +kernel
theorem dX6_turn_22 : decode cX6_turn 22 = .ok (.iconst 2, 1) := by decide +kernel
theorem dX6_turn_23 : decode cX6_turn 23 = .ok (.istore 6, 2) := by decide +kernel
theorem dX6_turn_25 : decode cX6_turn 25 = .ok (.aload_n 0, 1) := by decide +kernel
theorem dX6_turn_26 : decode cX6_turn 26 = .ok (.iload_n 1, 1) := by decide +kernel
theorem dX6_turn_27 : decode cX6_turn 27 = .ok (.iload_n 2, 1) := by decide +kernel
theorem dX6_turn_28 : decode cX6_turn 28 = .ok (.iload_n 3, 1) := by decide +kernel
theorem dX6_turn_29 : decode cX6_turn 29 = .ok (.iload 5, 2) := by decide +kernel
theorem dX6_turn_31 : decode cX6_turn 31 = .ok (.iconst 1, 1) := by decide +kernel
theorem dX6_turn_32 : decode cX6_turn 32 = .ok (.invokevirtual 109, 3) := by decide +kernel
theorem dX6_turn_35 : decode cX6_turn 35 = .ok (.aload_n 0, 1) := by decide +kernel
theorem dX6_turn_36 : decode cX6_turn 36 = .ok (.iload_n 1, 1) := by decide +kernel
theorem dX6_turn_37 : decode cX6_turn 37 = .ok (.iload_n 3, 1) := by decide +kernel
theorem dX6_turn_38 : decode cX6_turn 38 = .ok (.iload_n 2, 1) := by decide +kernel
theorem dX6_turn_39 : decode cX6_turn 39 = .ok (.iload 6, 2) := by decide +kernel
theorem dX6_turn_41 : decode cX6_turn 41 = .ok (.aload_n 0, 1) := by decide +kernel
theorem dX6_turn_42 : decode cX6_turn 42 = .ok (.getfield 7, 3) := by decide +kernel
theorem dX6_turn_45 : decode cX6_turn 45 = .ok (.iconst 1, 1) := by decide +kernel
theorem dX6_turn_46 : decode cX6_turn 46 = .ok (.isub, 1) := by decide +kernel
theorem dX6_turn_47 : decode cX6_turn 47 = .ok (.invokevirtual 109, 3) := by decide +kernel
theorem dX6_turn_50 : decode cX6_turn 50 = .ok (.return_, 1) := by decide +kernel
abbrev rmX6_turn : Room := { frames := 3, cells := 0, slots := 0, locals := 68 }
theorem zyX6_turn : zyOK yX6_turn 4 := ⟨by decide +kernel, by decide +kernel, by decide +kernel⟩
set_option maxHeartbeats 4000000 in
set_option maxRecDepth 100000 in
theorem wX6_turn {G : ZG} (a0 : Nat) (a1 : Int32) (a2 : Int32) (a3 : Int32) (a4 : Int32) (S : ZS) (h0 : zFix G cX6_turn RX6 7 none rmX6_turn) (C : Option ZS → Prop) (hC : ¬ C none) (hE : ∀ S1 : ZS, C (some S1) → zEnd G none S1 rmX6_turn) : zV G 7 S 0 0 0 [(0, .ref a0), (1, .int a1), (2, .int a2), (3, .int a3), (4, .int a4)] [] (C (fX6_turn a0 a1 a2 a3 a4 S)) := by
  have J23 : ∀ (l0_23 : Nat) (l1_23 : Int32) (l2_23 : Int32) (l3_23 : Int32) (l5_23 : Int32) (s0_23 : Int32) (S_23 : ZS), zV G 7 S_23 0 0 23 [(0, .ref l0_23), (1, .int l1_23), (2, .int l2_23), (3, .int l3_23), (5, .int l5_23)] [.int s0_23] (C (fX6_turn_J23 l0_23 l1_23 l2_23 l3_23 l5_23 s0_23 S_23)) := by
    intro l0_23 l1_23 l2_23 l3_23 l5_23 s0_23 S_23
    unfold fX6_turn_J23
    refine zr_istore [(0, .ref l0_23), (1, .int l1_23), (2, .int l2_23), (3, .int l3_23), (5, .int l5_23), (6, .int s0_23)] h0 dX6_turn_23 (by decide) rfl (n := 25) rfl ?_
    refine zr_aload_n h0 dX6_turn_25 rfl (n := 26) rfl ?_
    refine zr_iload_n h0 dX6_turn_26 rfl (n := 27) rfl ?_
    refine zr_iload_n h0 dX6_turn_27 rfl (n := 28) rfl ?_
    refine zr_iload_n h0 dX6_turn_28 rfl (n := 29) rfl ?_
    refine zr_iload h0 dX6_turn_29 rfl (n := 31) rfl ?_
    refine zr_iconst (1 : Int32) h0 (by decide) dX6_turn_31 (n := 32) rfl ?_
    refine zr_cMV C hC 0 0 (fun x hx => zk_V h0 zcX6 (zcl_ex hx) (fun l D z0 => kX6_add l D z0 l0_23 l1_23 l2_23 l3_23 l5_23 (1 : Int32) S_23 x (zcl_of hx)) zw_997 zw_999 zs_46 zw_5 zw_1000 rfl zyX6_add (As := [.int l1_23, .int l2_23, .int l3_23, .int l5_23, .int (1 : Int32)]) (st := []) rfl (by decide) rfl (Nat.le_of_ble_eq_true rfl) (by decide) dX6_turn_32) rfl rfl (n := 35) rfl (fun x4 => ?_)
    refine zr_aload_n h0 dX6_turn_35 rfl (n := 36) rfl ?_
    refine zr_iload_n h0 dX6_turn_36 rfl (n := 37) rfl ?_
    refine zr_iload_n h0 dX6_turn_37 rfl (n := 38) rfl ?_
    refine zr_iload_n h0 dX6_turn_38 rfl (n := 39) rfl ?_
    refine zr_iload h0 dX6_turn_39 rfl (n := 41) rfl ?_
    refine zr_aload_n h0 dX6_turn_41 rfl (n := 42) rfl ?_
    refine zr_getI C hC h0 zcX6 (k := 1) (by decide) zw_820 dX6_turn_42 (n := 45) rfl (fun v5 => ?_)
    refine zr_iconst (1 : Int32) h0 (by decide) dX6_turn_45 (n := 46) rfl ?_
    refine zr_isub h0 dX6_turn_46 (n := 47) rfl ?_
    refine zr_cMV C hC 0 0 (fun x hx => zk_V h0 zcX6 (zcl_ex hx) (fun l D z0 => kX6_add l D z0 l0_23 l1_23 l3_23 l2_23 s0_23 (v5 - (1 : Int32)) x4 x (zcl_of hx)) zw_997 zw_999 zs_46 zw_5 zw_1000 rfl zyX6_add (As := [.int l1_23, .int l3_23, .int l2_23, .int s0_23, .int (v5 - (1 : Int32))]) (st := []) rfl (by decide) rfl (Nat.le_of_ble_eq_true rfl) (by decide) dX6_turn_47) rfl rfl (n := 50) rfl (fun x6 => ?_)
    exact zr_vret h0 rfl dX6_turn_50 (fun h => hE _ h) (by decide) (by decide)
  have J10 : ∀ (l0_10 : Nat) (l1_10 : Int32) (l2_10 : Int32) (l3_10 : Int32) (l4_10 : Int32) (s0_10 : Int32) (S_10 : ZS), zV G 7 S_10 0 0 10 [(0, .ref l0_10), (1, .int l1_10), (2, .int l2_10), (3, .int l3_10), (4, .int l4_10)] [.int s0_10] (C (fX6_turn_J10 l0_10 l1_10 l2_10 l3_10 l4_10 s0_10 S_10)) := by
    intro l0_10 l1_10 l2_10 l3_10 l4_10 s0_10 S_10
    unfold fX6_turn_J10
    refine zr_istore [(0, .ref l0_10), (1, .int l1_10), (2, .int l2_10), (3, .int l3_10), (4, .int l4_10), (5, .int s0_10)] h0 dX6_turn_10 (by decide) rfl (n := 12) rfl ?_
    refine zr_iload h0 dX6_turn_12 rfl (n := 14) rfl ?_
    refine zr_iconst (2 : Int32) h0 (by decide) dX6_turn_14 (n := 15) rfl ?_
    refine zr_icmp_ne C (tgt := 22) h0 dX6_turn_15 (by decide) (n := 18) rfl ?_ ?_
    · refine zv_sub (lv' := [(0, .ref l0_10), (1, .int l1_10), (2, .int l2_10), (3, .int l3_10), (5, .int s0_10)]) ?_ (zsub_of [0, 1, 2, 3, 5] rfl)
      refine zr_iconst (1 : Int32) h0 (by decide) dX6_turn_18 (n := 19) rfl ?_
      refine zr_goto (tgt := 23) h0 dX6_turn_19 (by decide) ?_
      exact J23 l0_10 l1_10 l2_10 l3_10 s0_10 (1 : Int32) S_10
    · refine zv_sub (lv' := [(0, .ref l0_10), (1, .int l1_10), (2, .int l2_10), (3, .int l3_10), (5, .int s0_10)]) ?_ (zsub_of [0, 1, 2, 3, 5] rfl)
      refine zr_iconst (2 : Int32) h0 (by decide) dX6_turn_22 (n := 23) rfl ?_
      exact J23 l0_10 l1_10 l2_10 l3_10 s0_10 (2 : Int32) S_10
  unfold fX6_turn
  refine zr_iload h0 dX6_turn_0 rfl (n := 2) rfl ?_
  refine zr_if_ne C (tgt := 9) h0 dX6_turn_2 (by decide) (n := 5) rfl ?_ ?_
  · refine zr_iconst (1 : Int32) h0 (by decide) dX6_turn_5 (n := 6) rfl ?_
    refine zr_goto (tgt := 10) h0 dX6_turn_6 (by decide) ?_
    exact J10 a0 a1 a2 a3 a4 (1 : Int32) S
  · refine zr_iconst (0 : Int32) h0 (by decide) dX6_turn_9 (n := 10) rfl ?_
    exact J10 a0 a1 a2 a3 a4 (0 : Int32) S
theorem kX6_turn (l : Launch) (D : ZD) (z0 : Nat) (a0 : Nat) (a1 : Int32) (a2 : Int32) (a3 : Int32) (a4 : Int32) (S : ZS) (x : ZS) (hf : fX6_turn a0 a1 a2 a3 a4 S = some x) : zMet l D z0 yX6_turn cX6_turn 7 none rmX6_turn [.ref a0, .int a1, .int a2, .int a3, .int a4] S none x :=
  zMet_of (by decide) (Nat.le_of_ble_eq_true rfl) (fun G h0 hini hE => wX6_turn a0 a1 a2 a3 a4 S h0 (fun o => o = some x) (fun h => nomatch h) (fun S1 h => by cases h; exact hE)) hf
theorem dX6_isProduct_0 : decode cX6_isProduct 0 = .ok (.aload_n 0, 1) := by decide +kernel
theorem dX6_isProduct_1 : decode cX6_isProduct 1 = .ok (.iload_n 1, 1) := by decide +kernel
theorem dX6_isProduct_2 : decode cX6_isProduct 2 = .ok (.invokevirtual 99, 3) := by decide +kernel
theorem dX6_isProduct_5 : decode cX6_isProduct 5 = .ok (.ifCond .eq 23, 3) := by decide +kernel
theorem dX6_isProduct_8 : decode cX6_isProduct 8 = .ok (.iload_n 2, 1) := by decide +kernel
theorem dX6_isProduct_9 : decode cX6_isProduct 9 = .ok (.iconst 0, 1) := by decide +kernel
theorem dX6_isProduct_10 : decode cX6_isProduct 10 = .ok (.aload_n 0, 1) := by decide +kernel
theorem dX6_isProduct_11 : decode cX6_isProduct 11 = .ok (.getfield 32, 3) := by decide +kernel
theorem dX6_isProduct_14 : decode cX6_isProduct 14 = .ok (.iload_n 1, 1) := by decide +kernel
theorem dX6_isProduct_15 : decode cX6_isProduct 15 = .ok (.iaload, 1) := by decide +kernel
theorem dX6_isProduct_16 : decode cX6_isProduct 16 = .ok (.iconst 1, 1) := by decide +kernel
theorem dX6_isProduct_17 : decode cX6_isProduct 17 = .ok (.isub, 1) := by decide +kernel
theorem dX6_isProduct_18 : decode cX6_isProduct 18 = .ok (.invokestatic 57, 3) := by decide +kernel
theorem dX6_isProduct_21 : decode cX6_isProduct 21 = .ok (.ifCond .eq 7, 3) := by decide +kernel
theorem dX6_isProduct_24 : decode cX6_isProduct 24 = .ok (.iconst 1, 1) := by decide +kernel
theorem dX6_isProduct_25 : decode cX6_isProduct 25 = .ok (.goto 4, 3) := by decide +kernel
theorem dX6_isProduct_28 : decode cX6_isProduct 28 = .ok (.iconst 0, 1) := by decide +kernel
theorem dX6_isProduct_29 : decode cX6_isProduct 29 = .ok (.ireturn, 1) := by decide +kernel
abbrev rmX6_isProduct : Room := { frames := 3, cells := 0, slots := 0, locals := 63 }
theorem zyX6_isProduct : zyOK yX6_isProduct 2 := ⟨by decide +kernel, by decide +kernel, by decide +kernel⟩
set_option maxHeartbeats 4000000 in
set_option maxRecDepth 100000 in
theorem wX6_isProduct {G : ZG} (a0 : Nat) (a1 : Int32) (a2 : Int32) (S : ZS) (h0 : zFix G cX6_isProduct RX6 3 (some .boolean) rmX6_isProduct) (C : Option Int32 → Prop) (hC : ¬ C none) (hE : ∀ v : Int32, C (some v) → zEnd G (some (.int v)) S rmX6_isProduct) : zV G 3 S 0 0 0 [(0, .ref a0), (1, .int a1), (2, .int a2)] [] (C (fX6_isProduct a0 a1 a2 S)) := by
  have J29 : ∀ (s0_29 : Int32), zV G 3 S 0 0 29 [] [.int s0_29] (C (fX6_isProduct_J29 s0_29 S)) := by
    intro s0_29
    unfold fX6_isProduct_J29
    exact zr_zret C hC h0 rfl dX6_isProduct_29 (fun w h => hE _ h) (by decide) (by decide)
  have J28 : zV G 3 S 0 0 28 [] [] (C (fX6_isProduct_J28 S)) := by
    unfold fX6_isProduct_J28
    refine zr_iconst (0 : Int32) h0 (by decide) dX6_isProduct_28 (n := 29) rfl ?_
    exact J29 (0 : Int32)
  unfold fX6_isProduct
  refine zr_aload_n h0 dX6_isProduct_0 rfl (n := 1) rfl ?_
  refine zr_iload_n h0 dX6_isProduct_1 rfl (n := 2) rfl ?_
  refine zr_cRI C hC 0 0 (fun x hx => zk_V h0 zcX6 (zcl_ex hx) (fun l D z0 => kX6_isWay l D z0 a0 a1 S x (zcl_of hx)) zw_958 zw_960 zs_39 zw_5 zw_961 rfl zyX6_isWay (As := [.int a1]) (st := []) rfl (by decide) rfl (Nat.le_of_ble_eq_true rfl) (by decide) dX6_isProduct_2) rfl rfl (n := 5) rfl (fun x1 => ?_)
  refine zr_if_eq C (tgt := 28) h0 dX6_isProduct_5 (by decide) (n := 8) rfl ?_ ?_
  · refine zv_sub (lv' := []) ?_ (zsub_of [] rfl)
    exact J28
  · refine zr_iload_n h0 dX6_isProduct_8 rfl (n := 9) rfl ?_
    refine zr_iconst (0 : Int32) h0 (by decide) dX6_isProduct_9 (n := 10) rfl ?_
    refine zr_aload_n h0 dX6_isProduct_10 rfl (n := 11) rfl ?_
    refine zr_getR C hC h0 zcX6 (k := 10) (by decide) zw_829 dX6_isProduct_11 (n := 14) rfl (fun v2 => ?_)
    refine zr_iload_n h0 dX6_isProduct_14 rfl (n := 15) rfl ?_
    refine zr_iaload C hC h0 dX6_isProduct_15 (n := 16) rfl (fun v3 => ?_)
    refine zr_iconst (1 : Int32) h0 (by decide) dX6_isProduct_16 (n := 17) rfl ?_
    refine zr_isub h0 dX6_isProduct_17 (n := 18) rfl ?_
    refine zr_cRI C hC 0 0 (fun x hx => zk_S h0 (fun l D z0 => kX6_in l D z0 a2 (0 : Int32) (v3 - (1 : Int32)) S x hx) zw_898 zw_899 zw_5 zw_900 zyX6_in (As := [.int a2, .int (0 : Int32), .int (v3 - (1 : Int32))]) (st := []) rfl (by decide) rfl (Nat.le_of_ble_eq_true rfl) (by decide) dX6_isProduct_18) rfl rfl (n := 21) rfl (fun x4 => ?_)
    refine zr_if_eq C (tgt := 28) h0 dX6_isProduct_21 (by decide) (n := 24) rfl ?_ ?_
    · refine zv_sub (lv' := []) ?_ (zsub_of [] rfl)
      exact J28
    · refine zv_sub (lv' := []) ?_ (zsub_of [] rfl)
      refine zr_iconst (1 : Int32) h0 (by decide) dX6_isProduct_24 (n := 25) rfl ?_
      refine zr_goto (tgt := 29) h0 dX6_isProduct_25 (by decide) ?_
      exact J29 (1 : Int32)
theorem kX6_isProduct (l : Launch) (D : ZD) (z0 : Nat) (a0 : Nat) (a1 : Int32) (a2 : Int32) (S : ZS) (x : Int32) (hf : fX6_isProduct a0 a1 a2 S = some x) : zMet l D z0 yX6_isProduct cX6_isProduct 3 (some .boolean) rmX6_isProduct [.ref a0, .int a1, .int a2] S (some (.int x)) S :=
  zMet_of (by decide) (Nat.le_of_ble_eq_true rfl) (fun G h0 hini hE => wX6_isProduct a0 a1 a2 S h0 (fun o => o = some x) (fun h => nomatch h) (fun v h => by cases h; exact hE)) hf
theorem dX6_flip_0 : decode cX6_flip 0 = .ok (.aload_n 0, 1) := by decide +kernel
theorem dX6_flip_1 : decode cX6_flip 1 = .ok (.iload_n 1, 1) := by decide +kernel
theorem dX6_flip_2 : decode cX6_flip 2 = .ok (.iload_n 2, 1) := by decide +kernel
theorem dX6_flip_3 : decode cX6_flip 3 = .ok (.invokevirtual 113, 3) := by decide +kernel
theorem dX6_flip_6 : decode cX6_flip 6 = .ok (.ifCond .eq 24, 3) := by decide +kernel
theorem dX6_flip_9 : decode cX6_flip 9 = .ok (.aload_n 0, 1) := by decide +kernel
theorem dX6_flip_10 : decode cX6_flip 10 = .ok (.iload_n 1, 1) := by decide +kernel
theorem dX6_flip_11 : decode cX6_flip 11 = .ok (.iload_n 3, 1) := by decide +kernel
theorem dX6_flip_12 : decode cX6_flip 12 = .ok (.invokevirtual 113, 3) := by decide +kernel
theorem dX6_flip_15 : decode cX6_flip 15 = .ok (.ifCond .eq 15, 3) := by decide +kernel
theorem dX6_flip_18 : decode cX6_flip 18 = .ok (.iload 4, 2) := by decide +kernel
theorem dX6_flip_20 : decode cX6_flip 20 = .ok (.invokestatic 85, 3) := by decide +kernel
theorem dX6_flip_23 : decode cX6_flip 23 = .ok (.ifCond .eq 7, 3) := by decide +kernel
theorem dX6_flip_26 : decode cX6_flip 26 = .ok (.iconst 1, 1) := by decide +kernel
theorem dX6_flip_27 : decode cX6_flip 27 = .ok (.goto 4, 3) := by decide +kernel
theorem dX6_flip_30 : decode cX6_flip 30 = .ok (.iconst 0, 1) := by decide +kernel
theorem dX6_flip_31 : decode cX6_flip 31 = .ok (.istore 5, 2) := by decide +kernel
theorem dX6_flip_33 : decode cX6_flip 33 = .ok (.aload_n 0, 1) := by decide +kernel
theorem dX6_flip_34 : decode cX6_flip 34 = .ok (.iload 5, 2) := by decide +kernel
theorem dX6_flip_36 : decode cX6_flip 36 = .ok (.ifCond .ne 7, 3) := by decide +kernel
theorem dX6_flip_39 : decode cX6_flip 39 = .ok (.iconst 1, 1) := by decide +kernel
theorem dX6_flip_40 : decode cX6_flip 40 = .ok (.goto 29, 3) := by decide +kernel
theorem dX6_flip_43 : decode cX6_flip 43 = .ok (.iload_n 2, 1) := by decide +kernel
theorem dX6_flip_44 : decode cX6_flip 44 = .ok (.iload_n 3, 1) := by decide +kernel
theorem dX6_flip_45 : decode cX6_flip 45 = .ok (.if_icmp .ne 7, 3) := by decide +kernel
theorem dX6_flip_48 : decode cX6_flip 48 = .ok (.iconst 2, 1) := by decide +kernel
theorem dX6_flip_49 : decode cX6_flip 49 = .ok (.goto 20, 3) := by decide +kernel
theorem dX6_flip_52 : decode cX6_flip 52 = .ok (.aload_n 0, 1) := by decide +kernel
theorem dX6_flip_53 : decode cX6_flip 53 = .ok (.iload_n 1, 1) := by decide +kernel
theorem dX6_flip_54 : decode cX6_flip 54 = .ok (.iload_n 2, 1) := by decide +kernel
theorem dX6_flip_55 : decode cX6_flip 55 = .ok (.iload_n 3, 1) := by decide +kernel
theorem dX6_flip_56 : decode cX6_flip 56 = .ok (.iload 4, 2) := by decide +kernel
theorem dX6_flip_58 : decode cX6_flip 58 = .ok (.invokevirtual 117, 3) := by decide +kernel
theorem dX6_flip_61 : decode cX6_flip 61 = .ok (.ifCond .eq 7, 3) := by decide +kernel
theorem dX6_flip_64 : decode cX6_flip 64 = .ok (.iconst 0, 1) := by decide +kernel
theorem dX6_flip_65 : decode cX6_flip 65 = .ok (.goto 4, 3) := by decide +kernel
theorem dX6_flip_68 : decode cX6_flip 68 = .ok (.iconst 3, 1) := by decide +kernel
theorem dX6_flip_69 : decode cX6_flip 69 = .ok (.invokevirtual 64, 3) := by decide +kernel
theorem dX6_flip_72 : decode cX6_flip 72 = .ok (.ifCond .eq 12, 3) := by decide +kernel
theorem dX6_flip_75 : decode cX6_flip 75 = .ok (.aload_n 0, 1) := by decide +kernel
theorem dX6_flip_76 : decode cX6_flip 76 = .ok (.iload_n 1, 1) := by decide +kernel
theorem dX6_flip_77 : decode cX6_flip 77 = .ok (.iload_n 2, 1) := by decide +kernel
theorem dX6_flip_78 : decode cX6_flip 78 = .ok (.iload_n 3, 1) := by decide +kernel
theorem dX6_flip_79 : decode cX6_flip 79 = .ok (.iload 4, 2) := by decide +kernel
theorem dX6_flip_81 : decode cX6_flip 81 = .ok (.invokevirtual 120, 3) := by decide +kernel
theorem dX6_flip_84 : decode cX6_flip 84 = .ok (.return_, 1) := by decide +kernel
abbrev rmX6_flip : Room := { frames := 4, cells := 0, slots := 0, locals := 94 }
theorem zyX6_flip : zyOK yX6_flip 4 := ⟨by decide +kernel, by decide +kernel, by decide +kernel⟩
set_option maxHeartbeats 4000000 in
set_option maxRecDepth 100000 in
theorem wX6_flip {G : ZG} (a0 : Nat) (a1 : Int32) (a2 : Int32) (a3 : Int32) (a4 : Int32) (S : ZS) (h0 : zFix G cX6_flip RX6 6 none rmX6_flip) (C : Option ZS → Prop) (hC : ¬ C none) (hE : ∀ S1 : ZS, C (some S1) → zEnd G none S1 rmX6_flip) : zV G 6 S 0 0 0 [(0, .ref a0), (1, .int a1), (2, .int a2), (3, .int a3), (4, .int a4)] [] (C (fX6_flip a0 a1 a2 a3 a4 S)) := by
  have J84 : ∀  (S_84 : ZS), zV G 6 S_84 0 0 84 [] [] (C (fX6_flip_J84 S_84)) := by
    intro  S_84
    unfold fX6_flip_J84
    exact zr_vret h0 rfl dX6_flip_84 (fun h => hE _ h) (by decide) (by decide)
  have J69 : ∀ (l0_69 : Nat) (l1_69 : Int32) (l2_69 : Int32) (l3_69 : Int32) (l4_69 : Int32) (s0_69 : Nat) (s1_69 : Int32) (S_69 : ZS), zV G 6 S_69 0 0 69 [(0, .ref l0_69), (1, .int l1_69), (2, .int l2_69), (3, .int l3_69), (4, .int l4_69)] [.int s1_69, .ref s0_69] (C (fX6_flip_J69 l0_69 l1_69 l2_69 l3_69 l4_69 s0_69 s1_69 S_69)) := by
    intro l0_69 l1_69 l2_69 l3_69 l4_69 s0_69 s1_69 S_69
    unfold fX6_flip_J69
    refine zr_cMI C hC 0 0 (fun x hx => zk_V h0 zcX6 (zcl_ex hx) (fun l D z0 => kX6_goesWell l D z0 s0_69 s1_69 S_69 x (zcl_of hx)) zw_886 zw_888 zs_34 zw_5 zw_889 rfl zyX6_goesWell (As := [.int s1_69]) (st := []) rfl (by decide) rfl (Nat.le_of_ble_eq_true rfl) (by decide) dX6_flip_69) rfl rfl (n := 72) rfl (fun x7 => ?_)
    refine zr_if_eq C (tgt := 84) h0 dX6_flip_72 (by decide) (n := 75) rfl ?_ ?_
    · refine zv_sub (lv' := []) ?_ (zsub_of [] rfl)
      exact J84 x7.2
    · refine zr_aload_n h0 dX6_flip_75 rfl (n := 76) rfl ?_
      refine zr_iload_n h0 dX6_flip_76 rfl (n := 77) rfl ?_
      refine zr_iload_n h0 dX6_flip_77 rfl (n := 78) rfl ?_
      refine zr_iload_n h0 dX6_flip_78 rfl (n := 79) rfl ?_
      refine zr_iload h0 dX6_flip_79 rfl (n := 81) rfl ?_
      refine zr_cMV C hC 0 0 (fun x hx => zk_V h0 zcX6 (zcl_ex hx) (fun l D z0 => kX6_turn l D z0 l0_69 l1_69 l2_69 l3_69 l4_69 x7.2 x (zcl_of hx)) zw_993 zw_995 zs_45 zw_5 zw_996 rfl zyX6_turn (As := [.int l1_69, .int l2_69, .int l3_69, .int l4_69]) (st := []) rfl (by decide) rfl (Nat.le_of_ble_eq_true rfl) (by decide) dX6_flip_81) rfl rfl (n := 84) rfl (fun x8 => ?_)
      refine zv_sub (lv' := []) ?_ (zsub_of [] rfl)
      exact J84 x8
  have J31 : ∀ (l0_31 : Nat) (l1_31 : Int32) (l2_31 : Int32) (l3_31 : Int32) (l4_31 : Int32) (s0_31 : Int32) (S_31 : ZS), zV G 6 S_31 0 0 31 [(0, .ref l0_31), (1, .int l1_31), (2, .int l2_31), (3, .int l3_31), (4, .int l4_31)] [.int s0_31] (C (fX6_flip_J31 l0_31 l1_31 l2_31 l3_31 l4_31 s0_31 S_31)) := by
    intro l0_31 l1_31 l2_31 l3_31 l4_31 s0_31 S_31
    unfold fX6_flip_J31
    refine zr_istore [(0, .ref l0_31), (1, .int l1_31), (2, .int l2_31), (3, .int l3_31), (4, .int l4_31), (5, .int s0_31)] h0 dX6_flip_31 (by decide) rfl (n := 33) rfl ?_
    refine zr_aload_n h0 dX6_flip_33 rfl (n := 34) rfl ?_
    refine zr_iload h0 dX6_flip_34 rfl (n := 36) rfl ?_
    refine zr_if_ne C (tgt := 43) h0 dX6_flip_36 (by decide) (n := 39) rfl ?_ ?_
    · refine zv_sub (lv' := [(0, .ref l0_31), (1, .int l1_31), (2, .int l2_31), (3, .int l3_31), (4, .int l4_31)]) ?_ (zsub_of [0, 1, 2, 3, 4] rfl)
      refine zr_iconst (1 : Int32) h0 (by decide) dX6_flip_39 (n := 40) rfl ?_
      refine zr_goto (tgt := 69) h0 dX6_flip_40 (by decide) ?_
      exact J69 l0_31 l1_31 l2_31 l3_31 l4_31 l0_31 (1 : Int32) S_31
    · refine zv_sub (lv' := [(0, .ref l0_31), (1, .int l1_31), (2, .int l2_31), (3, .int l3_31), (4, .int l4_31)]) ?_ (zsub_of [0, 1, 2, 3, 4] rfl)
      refine zr_iload_n h0 dX6_flip_43 rfl (n := 44) rfl ?_
      refine zr_iload_n h0 dX6_flip_44 rfl (n := 45) rfl ?_
      refine zr_icmp_ne C (tgt := 52) h0 dX6_flip_45 (by decide) (n := 48) rfl ?_ ?_
      · refine zr_iconst (2 : Int32) h0 (by decide) dX6_flip_48 (n := 49) rfl ?_
        refine zr_goto (tgt := 69) h0 dX6_flip_49 (by decide) ?_
        exact J69 l0_31 l1_31 l2_31 l3_31 l4_31 l0_31 (2 : Int32) S_31
      · refine zr_aload_n h0 dX6_flip_52 rfl (n := 53) rfl ?_
        refine zr_iload_n h0 dX6_flip_53 rfl (n := 54) rfl ?_
        refine zr_iload_n h0 dX6_flip_54 rfl (n := 55) rfl ?_
        refine zr_iload_n h0 dX6_flip_55 rfl (n := 56) rfl ?_
        refine zr_iload h0 dX6_flip_56 rfl (n := 58) rfl ?_
        refine zr_cRI C hC 0 0 (fun x hx => zk_V h0 zcX6 (zcl_ex hx) (fun l D z0 => kX6_areAlike l D z0 l0_31 l1_31 l2_31 l3_31 l4_31 S_31 x (zcl_of hx)) zw_989 zw_991 zs_44 zw_5 zw_992 rfl zyX6_areAlike (As := [.int l1_31, .int l2_31, .int l3_31, .int l4_31]) (st := [.ref l0_31]) rfl (by decide) rfl (Nat.le_of_ble_eq_true rfl) (by decide) dX6_flip_58) rfl rfl (n := 61) rfl (fun x9 => ?_)
        refine zr_if_eq C (tgt := 68) h0 dX6_flip_61 (by decide) (n := 64) rfl ?_ ?_
        · refine zr_iconst (3 : Int32) h0 (by decide) dX6_flip_68 (n := 69) rfl ?_
          exact J69 l0_31 l1_31 l2_31 l3_31 l4_31 l0_31 (3 : Int32) S_31
        · refine zr_iconst (0 : Int32) h0 (by decide) dX6_flip_64 (n := 65) rfl ?_
          refine zr_goto (tgt := 69) h0 dX6_flip_65 (by decide) ?_
          exact J69 l0_31 l1_31 l2_31 l3_31 l4_31 l0_31 (0 : Int32) S_31
  have J30 : ∀ (l0_30 : Nat) (l1_30 : Int32) (l2_30 : Int32) (l3_30 : Int32) (l4_30 : Int32) (S_30 : ZS), zV G 6 S_30 0 0 30 [(0, .ref l0_30), (1, .int l1_30), (2, .int l2_30), (3, .int l3_30), (4, .int l4_30)] [] (C (fX6_flip_J30 l0_30 l1_30 l2_30 l3_30 l4_30 S_30)) := by
    intro l0_30 l1_30 l2_30 l3_30 l4_30 S_30
    unfold fX6_flip_J30
    refine zr_iconst (0 : Int32) h0 (by decide) dX6_flip_30 (n := 31) rfl ?_
    exact J31 l0_30 l1_30 l2_30 l3_30 l4_30 (0 : Int32) S_30
  unfold fX6_flip
  refine zr_aload_n h0 dX6_flip_0 rfl (n := 1) rfl ?_
  refine zr_iload_n h0 dX6_flip_1 rfl (n := 2) rfl ?_
  refine zr_iload_n h0 dX6_flip_2 rfl (n := 3) rfl ?_
  refine zr_cRI C hC 0 0 (fun x hx => zk_V h0 zcX6 (zcl_ex hx) (fun l D z0 => kX6_isProduct l D z0 a0 a1 a2 S x (zcl_of hx)) zw_985 zw_987 zs_43 zw_5 zw_988 rfl zyX6_isProduct (As := [.int a1, .int a2]) (st := []) rfl (by decide) rfl (Nat.le_of_ble_eq_true rfl) (by decide) dX6_flip_3) rfl rfl (n := 6) rfl (fun x1 => ?_)
  refine zr_if_eq C (tgt := 30) h0 dX6_flip_6 (by decide) (n := 9) rfl ?_ ?_
  · exact J30 a0 a1 a2 a3 a4 S
  · refine zr_aload_n h0 dX6_flip_9 rfl (n := 10) rfl ?_
    refine zr_iload_n h0 dX6_flip_10 rfl (n := 11) rfl ?_
    refine zr_iload_n h0 dX6_flip_11 rfl (n := 12) rfl ?_
    refine zr_cRI C hC 0 0 (fun x hx => zk_V h0 zcX6 (zcl_ex hx) (fun l D z0 => kX6_isProduct l D z0 a0 a1 a3 S x (zcl_of hx)) zw_985 zw_987 zs_43 zw_5 zw_988 rfl zyX6_isProduct (As := [.int a1, .int a3]) (st := []) rfl (by decide) rfl (Nat.le_of_ble_eq_true rfl) (by decide) dX6_flip_12) rfl rfl (n := 15) rfl (fun x5 => ?_)
    refine zr_if_eq C (tgt := 30) h0 dX6_flip_15 (by decide) (n := 18) rfl ?_ ?_
    · exact J30 a0 a1 a2 a3 a4 S
    · refine zr_iload h0 dX6_flip_18 rfl (n := 20) rfl ?_
      refine zr_cRI C hC 0 0 (fun x hx => zk_S h0 (fun l D z0 => kX6_isSide l D z0 a4 S x hx) zw_936 zw_937 zw_5 zw_938 zyX6_isSide (As := [.int a4]) (st := []) rfl (by decide) rfl (Nat.le_of_ble_eq_true rfl) (by decide) dX6_flip_20) rfl rfl (n := 23) rfl (fun x6 => ?_)
      refine zr_if_eq C (tgt := 30) h0 dX6_flip_23 (by decide) (n := 26) rfl ?_ ?_
      · exact J30 a0 a1 a2 a3 a4 S
      · refine zr_iconst (1 : Int32) h0 (by decide) dX6_flip_26 (n := 27) rfl ?_
        refine zr_goto (tgt := 31) h0 dX6_flip_27 (by decide) ?_
        exact J31 a0 a1 a2 a3 a4 (1 : Int32) S
theorem kX6_flip (l : Launch) (D : ZD) (z0 : Nat) (a0 : Nat) (a1 : Int32) (a2 : Int32) (a3 : Int32) (a4 : Int32) (S : ZS) (x : ZS) (hf : fX6_flip a0 a1 a2 a3 a4 S = some x) : zMet l D z0 yX6_flip cX6_flip 6 none rmX6_flip [.ref a0, .int a1, .int a2, .int a3, .int a4] S none x :=
  zMet_of (by decide) (Nat.le_of_ble_eq_true rfl) (fun G h0 hini hE => wX6_flip a0 a1 a2 a3 a4 S h0 (fun o => o = some x) (fun h => nomatch h) (fun S1 h => by cases h; exact hE)) hf
theorem dX6_isNothing_0 : decode cX6_isNothing 0 = .ok (.iconst 0, 1) := by decide +kernel
theorem dX6_isNothing_1 : decode cX6_isNothing 1 = .ok (.istore_n 3, 1) := by decide +kernel
theorem dX6_isNothing_2 : decode cX6_isNothing 2 = .ok (.iconst 0, 1) := by decide +kernel
theorem dX6_isNothing_3 : decode cX6_isNothing 3 = .ok (.istore 4, 2) := by decide +kernel
theorem dX6_isNothing_5 : decode cX6_isNothing 5 = .ok (.iload 4, 2) := by decide +kernel
theorem dX6_isNothing_7 : decode cX6_isNothing 7 = .ok (.iconst 3, 1) := by decide +kernel
theorem dX6_isNothing_8 : decode cX6_isNothing 8 = .ok (.if_icmp .ge 82, 3) := by decide +kernel
theorem dX6_isNothing_11 : decode cX6_isNothing 11 = .ok (.iconst 1, 1) := by decide +kernel
theorem dX6_isNothing_12 : decode cX6_isNothing 12 = .ok (.istore 5, 2) := by decide +kernel
theorem dX6_isNothing_14 : decode cX6_isNothing 14 = .ok (.iconst 0, 1) := by decide +kernel
theorem dX6_isNothing_15 : decode cX6_isNothing 15 = .ok (.istore 6, 2) := by decide +kernel
theorem dX6_isNothing_17 : decode cX6_isNothing 17 = .ok (.iload 6, 2) := by decide +kernel
theorem dX6_isNothing_19 : decode cX6_isNothing 19 = .ok (.aload_n 0, 1) := by decide +kernel
theorem dX6_isNothing_20 : decode cX6_isNothing 20 = .ok (.getfield 23, 3) := by decide +kernel
theorem dX6_isNothing_23 : decode cX6_isNothing 23 = .ok (.iconst 3, 1) := by decide +kernel
theorem dX6_isNothing_24 : decode cX6_isNothing 24 = .ok (.iload_n 1, 1) := by decide +kernel
theorem dX6_isNothing_25 : decode cX6_isNothing 25 = .ok (.imul, 1) := by decide +kernel
theorem dX6_isNothing_26 : decode cX6_isNothing 26 = .ok (.iload 4, 2) := by decide +kernel
theorem dX6_isNothing_28 : decode cX6_isNothing 28 = .ok (.iadd, 1) := by decide +kernel
theorem dX6_isNothing_29 : decode cX6_isNothing 29 = .ok (.iaload, 1) := by decide +kernel
theorem dX6_isNothing_30 : decode cX6_isNothing 30 = .ok (.if_icmp .ge 39, 3) := by decide +kernel
theorem dX6_isNothing_33 : decode cX6_isNothing 33 = .ok (.iload 5, 2) := by decide +kernel
theorem dX6_isNothing_35 : decode cX6_isNothing 35 = .ok (.ifCond .eq 25, 3) := by decide +kernel
theorem dX6_isNothing_38 : decode cX6_isNothing 38 = .ok (.aload_n 0, 1) := by decide +kernel
theorem dX6_isNothing_39 : decode cX6_isNothing 39 = .ok (.getfield 35, 3) := by decide +kernel
theorem dX6_isNothing_42 : decode cX6_isNothing 42 = .ok (.iload_n 1, 1) := by decide +kernel
theorem dX6_isNothing_43 : decode cX6_isNothing 43 = .ok (.iload_n 2, 1) := by decide +kernel
theorem dX6_isNothing_44 : decode cX6_isNothing 44 = .ok (.iload 4, 2) := by decide +kernel
theorem dX6_isNothing_46 : decode cX6_isNothing 46 = .ok (.invokestatic 96, 3) := by decide +kernel
theorem dX6_isNothing_49 : decode cX6_isNothing 49 = .ok (.iload 6, 2) := by decide +kernel
theorem dX6_isNothing_51 : decode cX6_isNothing 51 = .ok (.iadd, 1) := by decide +kernel
theorem dX6_isNothing_52 : decode cX6_isNothing 52 = .ok (.iaload, 1) := by decide +kernel
theorem dX6_isNothing_53 : decode cX6_isNothing 53 = .ok (.ifCond .ne 7, 3) := by decide +kernel
theorem dX6_isNothing_56 : decode cX6_isNothing 56 = .ok (.iconst 1, 1) := by decide +kernel
theorem dX6_isNothing_57 : decode cX6_isNothing 57 = .ok (.goto 4, 3) := by decide +kernel
theorem dX6_isNothing_60 : decode cX6_isNothing 60 = .ok (.iconst 0, 1) := by decide +kernel
theorem dX6_isNothing_61 : decode cX6_isNothing 61 = .ok (.istore 5, 2) := by decide +kernel
theorem dX6_isNothing_63 : decode cX6_isNothing 63 = .ok (.iinc 6 1, 3) := by decide +kernel
theorem dX6_isNothing_66 : decode cX6_isNothing 66 = .ok (.goto (-49), 3) := by decide +kernel
theorem dX6_isNothing_69 : decode cX6_isNothing 69 = .ok (.iload_n 3, 1) := by decide +kernel
theorem dX6_isNothing_70 : decode cX6_isNothing 70 = .ok (.ifCond .ne 8, 3) := by decide +kernel
theorem dX6_isNothing_73 : decode cX6_isNothing 73 = .ok (.iload 5, 2) := by decide +kernel
theorem dX6_isNothing_75 : decode cX6_isNothing 75 = .ok (.ifCond .eq 7, 3) := by decide +kernel
theorem dX6_isNothing_78 : decode cX6_isNothing 78 = .ok (.iconst 1, 1) := by decide +kernel
theorem dX6_isNothing_79 : decode cX6_isNothing 79 = .ok (.goto 4, 3) := by decide +kernel
theorem dX6_isNothing_82 : decode cX6_isNothing 82 = .ok (.iconst 0, 1) := by decide +kernel
theorem dX6_isNothing_83 : decode cX6_isNothing 83 = .ok (.istore_n 3, 1) := by decide +kernel
theorem dX6_isNothing_84 : decode cX6_isNothing 84 = .ok (.iinc 4 1, 3) := by decide +kernel
theorem dX6_isNothing_87 : decode cX6_isNothing 87 = .ok (.goto (-82), 3) := by decide +kernel
theorem dX6_isNothing_90 : decode cX6_isNothing 90 = .ok (.iload_n 3, 1) := by decide +kernel
theorem dX6_isNothing_91 : decode cX6_isNothing 91 = .ok (.ireturn, 1) := by decide +kernel
abbrev rmX6_isNothing : Room := { frames := 2, cells := 0, slots := 0, locals := 42 }
theorem zyX6_isNothing : zyOK yX6_isNothing 2 := ⟨by decide +kernel, by decide +kernel, by decide +kernel⟩
set_option maxHeartbeats 4000000 in
set_option maxRecDepth 100000 in
theorem wX6_isNothing {G : ZG} (a0 : Nat) (a1 : Int32) (a2 : Int32) (S : ZS) (h0 : zFix G cX6_isNothing RX6 7 (some .boolean) rmX6_isNothing) (C : Option Int32 → Prop) (hC : ¬ C none) (hE : ∀ v : Int32, C (some v) → zEnd G (some (.int v)) S rmX6_isNothing) : zV G 7 S 0 0 0 [(0, .ref a0), (1, .int a1), (2, .int a2)] [] (C (fX6_isNothing a0 a1 a2 S)) := by
  unfold fX6_isNothing
  refine zr_iconst (0 : Int32) h0 (by decide) dX6_isNothing_0 (n := 1) rfl ?_
  refine zr_istore_n [(0, .ref a0), (1, .int a1), (2, .int a2), (3, .int (0 : Int32))] h0 dX6_isNothing_1 (by decide) rfl (n := 2) rfl ?_
  refine zr_iconst (0 : Int32) h0 (by decide) dX6_isNothing_2 (n := 3) rfl ?_
  refine zr_istore [(0, .ref a0), (1, .int a1), (2, .int a2), (3, .int (0 : Int32)), (4, .int (0 : Int32))] h0 dX6_isNothing_3 (by decide) rfl (n := 5) rfl ?_
  refine zr_loop hC (fX6_isNothing_B5 a0 a1 a2 S) (fun y => [(0, .ref a0), (1, .int a1), (2, .int a2), (3, .int y.1), (4, .int y.2)]) (fun y => S) zF ((0 : Int32), (0 : Int32)) (fun C5 hC5 hX5 hL5 t5 => ?_)
  have J83 : ∀ (l4_83 : Int32) (s0_83 : Int32), zV G 7 S 0 0 83 [(0, .ref a0), (1, .int a1), (2, .int a2), (4, .int l4_83)] [.int s0_83] (C5 (fX6_isNothing_J83 a0 a1 a2 l4_83 s0_83 S)) := by
    intro l4_83 s0_83
    unfold fX6_isNothing_J83
    refine zr_istore_n [(0, .ref a0), (1, .int a1), (2, .int a2), (3, .int s0_83), (4, .int l4_83)] h0 dX6_isNothing_83 (by decide) rfl (n := 84) rfl ?_
    refine zr_iinc (1 : Int32) [(0, .ref a0), (1, .int a1), (2, .int a2), (3, .int s0_83), (4, .int (l4_83 + (1 : Int32)))] h0 dX6_isNothing_84 rfl (by decide) rfl rfl (n := 87) rfl ?_
    refine zr_goto (tgt := 5) h0 dX6_isNothing_87 (by decide) ?_
    exact hL5 (s0_83, l4_83 + (1 : Int32))
  have J78 : ∀ (l4_78 : Int32), zV G 7 S 0 0 78 [(0, .ref a0), (1, .int a1), (2, .int a2), (4, .int l4_78)] [] (C5 (fX6_isNothing_J78 a0 a1 a2 l4_78 S)) := by
    intro l4_78
    unfold fX6_isNothing_J78
    refine zr_iconst (1 : Int32) h0 (by decide) dX6_isNothing_78 (n := 79) rfl ?_
    refine zr_goto (tgt := 83) h0 dX6_isNothing_79 (by decide) ?_
    exact J83 l4_78 (1 : Int32)
  unfold fX6_isNothing_B5
  refine zr_iload h0 dX6_isNothing_5 rfl (n := 7) rfl ?_
  refine zr_iconst (3 : Int32) h0 (by decide) dX6_isNothing_7 (n := 8) rfl ?_
  refine zr_icmp_ge C5 (tgt := 90) h0 dX6_isNothing_8 (by decide) (n := 11) rfl ?_ ?_
  · refine zr_ex hX5 ?_
    refine zv_sub (lv' := [(3, .int t5.1)]) ?_ (zsub_of [3] rfl)
    refine zr_iload_n h0 dX6_isNothing_90 rfl (n := 91) rfl ?_
    exact zr_zret C hC h0 rfl dX6_isNothing_91 (fun w h => hE _ h) (by decide) (by decide)
  · refine zr_iconst (1 : Int32) h0 (by decide) dX6_isNothing_11 (n := 12) rfl ?_
    refine zr_istore [(0, .ref a0), (1, .int a1), (2, .int a2), (3, .int t5.1), (4, .int t5.2), (5, .int (1 : Int32))] h0 dX6_isNothing_12 (by decide) rfl (n := 14) rfl ?_
    refine zr_iconst (0 : Int32) h0 (by decide) dX6_isNothing_14 (n := 15) rfl ?_
    refine zr_istore [(0, .ref a0), (1, .int a1), (2, .int a2), (3, .int t5.1), (4, .int t5.2), (5, .int (1 : Int32)), (6, .int (0 : Int32))] h0 dX6_isNothing_15 (by decide) rfl (n := 17) rfl ?_
    refine zr_loop hC5 (fX6_isNothing_B17 a0 a1 a2 t5.1 t5.2 S) (fun y => [(0, .ref a0), (1, .int a1), (2, .int a2), (3, .int t5.1), (4, .int t5.2), (5, .int y.1), (6, .int y.2)]) (fun y => S) zF ((1 : Int32), (0 : Int32)) (fun C17 hC17 hX17 hL17 t17 => ?_)
    have J61 : ∀ (l6_61 : Int32) (s0_61 : Int32), zV G 7 S 0 0 61 [(0, .ref a0), (1, .int a1), (2, .int a2), (3, .int t5.1), (4, .int t5.2), (6, .int l6_61)] [.int s0_61] (C17 (fX6_isNothing_J61 a0 a1 a2 t5.1 t5.2 l6_61 s0_61 S)) := by
      intro l6_61 s0_61
      unfold fX6_isNothing_J61
      refine zr_istore [(0, .ref a0), (1, .int a1), (2, .int a2), (3, .int t5.1), (4, .int t5.2), (5, .int s0_61), (6, .int l6_61)] h0 dX6_isNothing_61 (by decide) rfl (n := 63) rfl ?_
      refine zr_iinc (1 : Int32) [(0, .ref a0), (1, .int a1), (2, .int a2), (3, .int t5.1), (4, .int t5.2), (5, .int s0_61), (6, .int (l6_61 + (1 : Int32)))] h0 dX6_isNothing_63 rfl (by decide) rfl rfl (n := 66) rfl ?_
      refine zr_goto (tgt := 17) h0 dX6_isNothing_66 (by decide) ?_
      exact hL17 (s0_61, l6_61 + (1 : Int32))
    have J60 : ∀ (l6_60 : Int32), zV G 7 S 0 0 60 [(0, .ref a0), (1, .int a1), (2, .int a2), (3, .int t5.1), (4, .int t5.2), (6, .int l6_60)] [] (C17 (fX6_isNothing_J60 a0 a1 a2 t5.1 t5.2 l6_60 S)) := by
      intro l6_60
      unfold fX6_isNothing_J60
      refine zr_iconst (0 : Int32) h0 (by decide) dX6_isNothing_60 (n := 61) rfl ?_
      exact J61 l6_60 (0 : Int32)
    unfold fX6_isNothing_B17
    refine zr_iload h0 dX6_isNothing_17 rfl (n := 19) rfl ?_
    refine zr_aload_n h0 dX6_isNothing_19 rfl (n := 20) rfl ?_
    refine zr_getR C17 hC17 h0 zcX6 (k := 7) (by decide) zw_826 dX6_isNothing_20 (n := 23) rfl (fun v11 => ?_)
    refine zr_iconst (3 : Int32) h0 (by decide) dX6_isNothing_23 (n := 24) rfl ?_
    refine zr_iload_n h0 dX6_isNothing_24 rfl (n := 25) rfl ?_
    refine zr_imul h0 dX6_isNothing_25 (n := 26) rfl ?_
    refine zr_iload h0 dX6_isNothing_26 rfl (n := 28) rfl ?_
    refine zr_iadd h0 dX6_isNothing_28 (n := 29) rfl ?_
    refine zr_iaload C17 hC17 h0 dX6_isNothing_29 (n := 30) rfl (fun v12 => ?_)
    refine zr_icmp_ge C17 (tgt := 69) h0 dX6_isNothing_30 (by decide) (n := 33) rfl ?_ ?_
    · refine zr_ex hX17 ?_
      refine zv_sub (lv' := [(0, .ref a0), (1, .int a1), (2, .int a2), (3, .int t5.1), (4, .int t5.2), (5, .int t17.1)]) ?_ (zsub_of [0, 1, 2, 3, 4, 5] rfl)
      refine zr_iload_n h0 dX6_isNothing_69 rfl (n := 70) rfl ?_
      refine zr_if_ne C5 (tgt := 78) h0 dX6_isNothing_70 (by decide) (n := 73) rfl ?_ ?_
      · refine zv_sub (lv' := [(0, .ref a0), (1, .int a1), (2, .int a2), (4, .int t5.2), (5, .int t17.1)]) ?_ (zsub_of [0, 1, 2, 4, 5] rfl)
        refine zr_iload h0 dX6_isNothing_73 rfl (n := 75) rfl ?_
        refine zr_if_eq C5 (tgt := 82) h0 dX6_isNothing_75 (by decide) (n := 78) rfl ?_ ?_
        · refine zv_sub (lv' := [(0, .ref a0), (1, .int a1), (2, .int a2), (4, .int t5.2)]) ?_ (zsub_of [0, 1, 2, 3] rfl)
          refine zr_iconst (0 : Int32) h0 (by decide) dX6_isNothing_82 (n := 83) rfl ?_
          exact J83 t5.2 (0 : Int32)
        · refine zv_sub (lv' := [(0, .ref a0), (1, .int a1), (2, .int a2), (4, .int t5.2)]) ?_ (zsub_of [0, 1, 2, 3] rfl)
          exact J78 t5.2
      · refine zv_sub (lv' := [(0, .ref a0), (1, .int a1), (2, .int a2), (4, .int t5.2)]) ?_ (zsub_of [0, 1, 2, 4] rfl)
        exact J78 t5.2
    · refine zr_iload h0 dX6_isNothing_33 rfl (n := 35) rfl ?_
      refine zr_if_eq C17 (tgt := 60) h0 dX6_isNothing_35 (by decide) (n := 38) rfl ?_ ?_
      · refine zv_sub (lv' := [(0, .ref a0), (1, .int a1), (2, .int a2), (3, .int t5.1), (4, .int t5.2), (6, .int t17.2)]) ?_ (zsub_of [0, 1, 2, 3, 4, 6] rfl)
        exact J60 t17.2
      · refine zv_sub (lv' := [(0, .ref a0), (1, .int a1), (2, .int a2), (3, .int t5.1), (4, .int t5.2), (6, .int t17.2)]) ?_ (zsub_of [0, 1, 2, 3, 4, 6] rfl)
        refine zr_aload_n h0 dX6_isNothing_38 rfl (n := 39) rfl ?_
        refine zr_getR C17 hC17 h0 zcX6 (k := 11) (by decide) zw_830 dX6_isNothing_39 (n := 42) rfl (fun v13 => ?_)
        refine zr_iload_n h0 dX6_isNothing_42 rfl (n := 43) rfl ?_
        refine zr_iload_n h0 dX6_isNothing_43 rfl (n := 44) rfl ?_
        refine zr_iload h0 dX6_isNothing_44 rfl (n := 46) rfl ?_
        refine zr_cRI C17 hC17 0 0 (fun x hx => zk_S h0 (fun l D z0 => kX6_from l D z0 a1 a2 t5.2 S x hx) zw_974 zw_975 zw_5 zw_976 zyX6_from (As := [.int a1, .int a2, .int t5.2]) (st := [.ref v13]) rfl (by decide) rfl (Nat.le_of_ble_eq_true rfl) (by decide) dX6_isNothing_46) rfl rfl (n := 49) rfl (fun x14 => ?_)
        refine zr_iload h0 dX6_isNothing_49 rfl (n := 51) rfl ?_
        refine zr_iadd h0 dX6_isNothing_51 (n := 52) rfl ?_
        refine zr_iaload C17 hC17 h0 dX6_isNothing_52 (n := 53) rfl (fun v15 => ?_)
        refine zr_if_ne C17 (tgt := 60) h0 dX6_isNothing_53 (by decide) (n := 56) rfl ?_ ?_
        · refine zr_iconst (1 : Int32) h0 (by decide) dX6_isNothing_56 (n := 57) rfl ?_
          refine zr_goto (tgt := 61) h0 dX6_isNothing_57 (by decide) ?_
          exact J61 t17.2 (1 : Int32)
        · exact J60 t17.2
theorem kX6_isNothing (l : Launch) (D : ZD) (z0 : Nat) (a0 : Nat) (a1 : Int32) (a2 : Int32) (S : ZS) (x : Int32) (hf : fX6_isNothing a0 a1 a2 S = some x) : zMet l D z0 yX6_isNothing cX6_isNothing 7 (some .boolean) rmX6_isNothing [.ref a0, .int a1, .int a2] S (some (.int x)) S :=
  zMet_of (by decide) (Nat.le_of_ble_eq_true rfl) (fun G h0 hini hE => wX6_isNothing a0 a1 a2 S h0 (fun o => o = some x) (fun h => nomatch h) (fun v h => by cases h; exact hE)) hf
theorem dX6_takeOut_0 : decode cX6_takeOut 0 = .ok (.aload_n 0, 1) := by decide +kernel
theorem dX6_takeOut_1 : decode cX6_takeOut 1 = .ok (.getfield 32, 3) := by decide +kernel
theorem dX6_takeOut_4 : decode cX6_takeOut 4 = .ok (.iload_n 1, 1) := by decide +kernel
theorem dX6_takeOut_5 : decode cX6_takeOut 5 = .ok (.dup2, 1) := by decide +kernel
theorem dX6_takeOut_6 : decode cX6_takeOut 6 = .ok (.iaload, 1) := by decide +kernel
theorem dX6_takeOut_7 : decode cX6_takeOut 7 = .ok (.iconst 1, 1) := by decide +kernel
theorem dX6_takeOut_8 : decode cX6_takeOut 8 = .ok (.isub, 1) := by decide +kernel
theorem dX6_takeOut_9 : decode cX6_takeOut 9 = .ok (.iastore, 1) := by decide +kernel
theorem dX6_takeOut_10 : decode cX6_takeOut 10 = .ok (.iload_n 1, 1) := by decide +kernel
theorem dX6_takeOut_11 : decode cX6_takeOut 11 = .ok (.iload_n 2, 1) := by decide +kernel
theorem dX6_takeOut_12 : decode cX6_takeOut 12 = .ok (.iconst 0, 1) := by decide +kernel
theorem dX6_takeOut_13 : decode cX6_takeOut 13 = .ok (.invokestatic 96, 3) := by decide +kernel
theorem dX6_takeOut_16 : decode cX6_takeOut 16 = .ok (.istore_n 3, 1) := by decide +kernel
theorem dX6_takeOut_17 : decode cX6_takeOut 17 = .ok (.iload_n 3, 1) := by decide +kernel
theorem dX6_takeOut_18 : decode cX6_takeOut 18 = .ok (.iload_n 1, 1) := by decide +kernel
theorem dX6_takeOut_19 : decode cX6_takeOut 19 = .ok (.aload_n 0, 1) := by decide +kernel
theorem dX6_takeOut_20 : decode cX6_takeOut 20 = .ok (.getfield 32, 3) := by decide +kernel
theorem dX6_takeOut_23 : decode cX6_takeOut 23 = .ok (.iload_n 1, 1) := by decide +kernel
theorem dX6_takeOut_24 : decode cX6_takeOut 24 = .ok (.iaload, 1) := by decide +kernel
theorem dX6_takeOut_25 : decode cX6_takeOut 25 = .ok (.iconst 0, 1) := by decide +kernel
theorem dX6_takeOut_26 : decode cX6_takeOut 26 = .ok (.invokestatic 96, 3) := by decide +kernel
theorem dX6_takeOut_29 : decode cX6_takeOut 29 = .ok (.if_icmp .ge 24, 3) := by decide +kernel
theorem dX6_takeOut_32 : decode cX6_takeOut 32 = .ok (.aload_n 0, 1) := by decide +kernel
theorem dX6_takeOut_33 : decode cX6_takeOut 33 = .ok (.getfield 35, 3) := by decide +kernel
theorem dX6_takeOut_36 : decode cX6_takeOut 36 = .ok (.iload_n 3, 1) := by decide +kernel
theorem dX6_takeOut_37 : decode cX6_takeOut 37 = .ok (.aload_n 0, 1) := by decide +kernel
theorem dX6_takeOut_38 : decode cX6_takeOut 38 = .ok (.getfield 35, 3) := by decide +kernel
theorem dX6_takeOut_41 : decode cX6_takeOut 41 = .ok (.iload_n 3, 1) := by decide +kernel
theorem dX6_takeOut_42 : decode cX6_takeOut 42 = .ok (.bipush 12, 2) := by decide +kernel
theorem dX6_takeOut_44 : decode cX6_takeOut 44 = .ok (.iadd, 1) := by decide +kernel
theorem dX6_takeOut_45 : decode cX6_takeOut 45 = .ok (.iaload, 1) := by decide +kernel
theorem dX6_takeOut_46 : decode cX6_takeOut 46 = .ok (.iastore, 1) := by decide +kernel
theorem dX6_takeOut_47 : decode cX6_takeOut 47 = .ok (.iinc 3 1, 3) := by decide +kernel
theorem dX6_takeOut_50 : decode cX6_takeOut 50 = .ok (.goto (-33), 3) := by decide +kernel
theorem dX6_takeOut_53 : decode cX6_takeOut 53 = .ok (.return_, 1) := by decide +kernel
abbrev rmX6_takeOut : Room := { frames := 2, cells := 0, slots := 0, locals := 42 }
theorem zyX6_takeOut : zyOK yX6_takeOut 2 := ⟨by decide +kernel, by decide +kernel, by decide +kernel⟩
set_option maxHeartbeats 4000000 in
set_option maxRecDepth 100000 in
theorem wX6_takeOut {G : ZG} (a0 : Nat) (a1 : Int32) (a2 : Int32) (S : ZS) (h0 : zFix G cX6_takeOut RX6 4 none rmX6_takeOut) (C : Option ZS → Prop) (hC : ¬ C none) (hE : ∀ S1 : ZS, C (some S1) → zEnd G none S1 rmX6_takeOut) : zV G 4 S 0 0 0 [(0, .ref a0), (1, .int a1), (2, .int a2)] [] (C (fX6_takeOut a0 a1 a2 S)) := by
  unfold fX6_takeOut
  refine zr_aload_n h0 dX6_takeOut_0 rfl (n := 1) rfl ?_
  refine zr_getR C hC h0 zcX6 (k := 10) (by decide) zw_829 dX6_takeOut_1 (n := 4) rfl (fun v1 => ?_)
  refine zr_iload_n h0 dX6_takeOut_4 rfl (n := 5) rfl ?_
  refine zr_dup2 h0 rfl rfl dX6_takeOut_5 (n := 6) rfl ?_
  refine zr_iaload C hC h0 dX6_takeOut_6 (n := 7) rfl (fun v2 => ?_)
  refine zr_iconst (1 : Int32) h0 (by decide) dX6_takeOut_7 (n := 8) rfl ?_
  refine zr_isub h0 dX6_takeOut_8 (n := 9) rfl ?_
  refine zr_iastore C hC h0 dX6_takeOut_9 (n := 10) rfl (fun S3 => ?_)
  refine zr_iload_n h0 dX6_takeOut_10 rfl (n := 11) rfl ?_
  refine zr_iload_n h0 dX6_takeOut_11 rfl (n := 12) rfl ?_
  refine zr_iconst (0 : Int32) h0 (by decide) dX6_takeOut_12 (n := 13) rfl ?_
  refine zr_cRI C hC 0 0 (fun x hx => zk_S h0 (fun l D z0 => kX6_from l D z0 a1 a2 (0 : Int32) S3 x hx) zw_974 zw_975 zw_5 zw_976 zyX6_from (As := [.int a1, .int a2, .int (0 : Int32)]) (st := []) rfl (by decide) rfl (Nat.le_of_ble_eq_true rfl) (by decide) dX6_takeOut_13) rfl rfl (n := 16) rfl (fun x4 => ?_)
  refine zr_istore_n [(0, .ref a0), (1, .int a1), (2, .int a2), (3, .int x4)] h0 dX6_takeOut_16 (by decide) rfl (n := 17) rfl ?_
  refine zv_sub (lv' := [(0, .ref a0), (1, .int a1), (3, .int x4)]) ?_ (zsub_of [0, 1, 3] rfl)
  refine zr_loop hC (fX6_takeOut_B17 a0 a1) (fun y => [(0, .ref a0), (1, .int a1), (3, .int y.1)]) (fun y => y.2) zF (x4, S3) (fun C17 hC17 hX17 hL17 t17 => ?_)
  unfold fX6_takeOut_B17
  refine zr_iload_n h0 dX6_takeOut_17 rfl (n := 18) rfl ?_
  refine zr_iload_n h0 dX6_takeOut_18 rfl (n := 19) rfl ?_
  refine zr_aload_n h0 dX6_takeOut_19 rfl (n := 20) rfl ?_
  refine zr_getR C17 hC17 h0 zcX6 (k := 10) (by decide) zw_829 dX6_takeOut_20 (n := 23) rfl (fun v12 => ?_)
  refine zr_iload_n h0 dX6_takeOut_23 rfl (n := 24) rfl ?_
  refine zr_iaload C17 hC17 h0 dX6_takeOut_24 (n := 25) rfl (fun v13 => ?_)
  refine zr_iconst (0 : Int32) h0 (by decide) dX6_takeOut_25 (n := 26) rfl ?_
  refine zr_cRI C17 hC17 0 0 (fun x hx => zk_S h0 (fun l D z0 => kX6_from l D z0 a1 v13 (0 : Int32) t17.2 x hx) zw_974 zw_975 zw_5 zw_976 zyX6_from (As := [.int a1, .int v13, .int (0 : Int32)]) (st := [.int t17.1]) rfl (by decide) rfl (Nat.le_of_ble_eq_true rfl) (by decide) dX6_takeOut_26) rfl rfl (n := 29) rfl (fun x14 => ?_)
  refine zr_icmp_ge C17 (tgt := 53) h0 dX6_takeOut_29 (by decide) (n := 32) rfl ?_ ?_
  · refine zr_ex hX17 ?_
    refine zv_sub (lv' := []) ?_ (zsub_of [] rfl)
    exact zr_vret h0 rfl dX6_takeOut_53 (fun h => hE _ h) (by decide) (by decide)
  · refine zr_aload_n h0 dX6_takeOut_32 rfl (n := 33) rfl ?_
    refine zr_getR C17 hC17 h0 zcX6 (k := 11) (by decide) zw_830 dX6_takeOut_33 (n := 36) rfl (fun v15 => ?_)
    refine zr_iload_n h0 dX6_takeOut_36 rfl (n := 37) rfl ?_
    refine zr_aload_n h0 dX6_takeOut_37 rfl (n := 38) rfl ?_
    refine zr_getR C17 hC17 h0 zcX6 (k := 11) (by decide) zw_830 dX6_takeOut_38 (n := 41) rfl (fun v16 => ?_)
    refine zr_iload_n h0 dX6_takeOut_41 rfl (n := 42) rfl ?_
    refine zr_bipush (12 : Int32) h0 (by decide) dX6_takeOut_42 (n := 44) rfl ?_
    refine zr_iadd h0 dX6_takeOut_44 (n := 45) rfl ?_
    refine zr_iaload C17 hC17 h0 dX6_takeOut_45 (n := 46) rfl (fun v17 => ?_)
    refine zr_iastore C17 hC17 h0 dX6_takeOut_46 (n := 47) rfl (fun S18 => ?_)
    refine zr_iinc (1 : Int32) [(0, .ref a0), (1, .int a1), (3, .int (t17.1 + (1 : Int32)))] h0 dX6_takeOut_47 rfl (by decide) rfl rfl (n := 50) rfl ?_
    refine zr_goto (tgt := 17) h0 dX6_takeOut_50 (by decide) ?_
    exact hL17 (t17.1 + (1 : Int32), S18)
theorem kX6_takeOut (l : Launch) (D : ZD) (z0 : Nat) (a0 : Nat) (a1 : Int32) (a2 : Int32) (S : ZS) (x : ZS) (hf : fX6_takeOut a0 a1 a2 S = some x) : zMet l D z0 yX6_takeOut cX6_takeOut 4 none rmX6_takeOut [.ref a0, .int a1, .int a2] S none x :=
  zMet_of (by decide) (Nat.le_of_ble_eq_true rfl) (fun G h0 hini hE => wX6_takeOut a0 a1 a2 S h0 (fun o => o = some x) (fun h => nomatch h) (fun S1 h => by cases h; exact hE)) hf
theorem dX6_third_0 : decode cX6_third 0 = .ok (.aload_n 0, 1) := by decide +kernel
theorem dX6_third_1 : decode cX6_third 1 = .ok (.iload_n 1, 1) := by decide +kernel
theorem dX6_third_2 : decode cX6_third 2 = .ok (.iload_n 2, 1) := by decide +kernel
theorem dX6_third_3 : decode cX6_third 3 = .ok (.iload_n 3, 1) := by decide +kernel
theorem dX6_third_4 : decode cX6_third 4 = .ok (.iconst 0, 1) := by decide +kernel
theorem dX6_third_5 : decode cX6_third 5 = .ok (.invokevirtual 117, 3) := by decide +kernel
theorem dX6_third_8 : decode cX6_third 8 = .ok (.istore 4, 2) := by decide +kernel
theorem dX6_third_10 : decode cX6_third 10 = .ok (.aload_n 0, 1) := by decide +kernel
theorem dX6_third_11 : decode cX6_third 11 = .ok (.iload_n 1, 1) := by decide +kernel
theorem dX6_third_12 : decode cX6_third 12 = .ok (.iload_n 2, 1) := by decide +kernel
theorem dX6_third_13 : decode cX6_third 13 = .ok (.iload_n 3, 1) := by decide +kernel
theorem dX6_third_14 : decode cX6_third 14 = .ok (.iconst 1, 1) := by decide +kernel
theorem dX6_third_15 : decode cX6_third 15 = .ok (.invokevirtual 117, 3) := by decide +kernel
theorem dX6_third_18 : decode cX6_third 18 = .ok (.istore 5, 2) := by decide +kernel
theorem dX6_third_20 : decode cX6_third 20 = .ok (.aload_n 0, 1) := by decide +kernel
theorem dX6_third_21 : decode cX6_third 21 = .ok (.iload_n 1, 1) := by decide +kernel
theorem dX6_third_22 : decode cX6_third 22 = .ok (.iload_n 2, 1) := by decide +kernel
theorem dX6_third_23 : decode cX6_third 23 = .ok (.iload_n 3, 1) := by decide +kernel
theorem dX6_third_24 : decode cX6_third 24 = .ok (.iconst 2, 1) := by decide +kernel
theorem dX6_third_25 : decode cX6_third 25 = .ok (.invokevirtual 117, 3) := by decide +kernel
theorem dX6_third_28 : decode cX6_third 28 = .ok (.istore 6, 2) := by decide +kernel
theorem dX6_third_30 : decode cX6_third 30 = .ok (.iload 4, 2) := by decide +kernel
theorem dX6_third_32 : decode cX6_third 32 = .ok (.ifCond .eq 12, 3) := by decide +kernel
theorem dX6_third_35 : decode cX6_third 35 = .ok (.iload 5, 2) := by decide +kernel
theorem dX6_third_37 : decode cX6_third 37 = .ok (.ifCond .eq 7, 3) := by decide +kernel
theorem dX6_third_40 : decode cX6_third 40 = .ok (.iconst 2, 1) := by decide +kernel
theorem dX6_third_41 : decode cX6_third 41 = .ok (.goto 32, 3) := by decide +kernel
theorem dX6_third_44 : decode cX6_third 44 = .ok (.iload 4, 2) := by decide +kernel
theorem dX6_third_46 : decode cX6_third 46 = .ok (.ifCond .eq 12, 3) := by decide +kernel
theorem dX6_third_49 : decode cX6_third 49 = .ok (.iload 6, 2) := by decide +kernel
theorem dX6_third_51 : decode cX6_third 51 = .ok (.ifCond .eq 7, 3) := by decide +kernel
theorem dX6_third_54 : decode cX6_third 54 = .ok (.iconst 1, 1) := by decide +kernel
theorem dX6_third_55 : decode cX6_third 55 = .ok (.goto 18, 3) := by decide +kernel
theorem dX6_third_58 : decode cX6_third 58 = .ok (.iload 5, 2) := by decide +kernel
theorem dX6_third_60 : decode cX6_third 60 = .ok (.ifCond .eq 12, 3) := by decide +kernel
theorem dX6_third_63 : decode cX6_third 63 = .ok (.iload 6, 2) := by decide +kernel
theorem dX6_third_65 : decode cX6_third 65 = .ok (.ifCond .eq 7, 3) := by decide +kernel
theorem dX6_third_68 : decode cX6_third 68 = .ok (.iconst 0, 1) := by decide +kernel
theorem dX6_third_69 : decode cX6_third 69 = .ok (.goto 4, 3) := by decide +kernel
theorem dX6_third_72 : decode cX6_third 72 = .ok (.iconst (-1), 1) := by decide +kernel
theorem dX6_third_73 : decode cX6_third 73 = .ok (.ireturn, 1) := by decide +kernel
abbrev rmX6_third : Room := { frames := 3, cells := 0, slots := 0, locals := 68 }
theorem zyX6_third : zyOK yX6_third 3 := ⟨by decide +kernel, by decide +kernel, by decide +kernel⟩
set_option maxHeartbeats 4000000 in
set_option maxRecDepth 100000 in
theorem wX6_third {G : ZG} (a0 : Nat) (a1 : Int32) (a2 : Int32) (a3 : Int32) (S : ZS) (h0 : zFix G cX6_third RX6 7 (some .int) rmX6_third) (C : Option Int32 → Prop) (hC : ¬ C none) (hE : ∀ v : Int32, C (some v) → zEnd G (some (.int v)) S rmX6_third) : zV G 7 S 0 0 0 [(0, .ref a0), (1, .int a1), (2, .int a2), (3, .int a3)] [] (C (fX6_third a0 a1 a2 a3 S)) := by
  have J73 : ∀ (s0_73 : Int32), zV G 7 S 0 0 73 [] [.int s0_73] (C (fX6_third_J73 s0_73 S)) := by
    intro s0_73
    unfold fX6_third_J73
    exact zr_iret h0 rfl dX6_third_73 (hE _) (by decide) (by decide)
  have J72 : zV G 7 S 0 0 72 [] [] (C (fX6_third_J72 S)) := by
    unfold fX6_third_J72
    refine zr_iconst (-1 : Int32) h0 (by decide) dX6_third_72 (n := 73) rfl ?_
    exact J73 (-1 : Int32)
  have J58 : ∀ (l5_58 : Int32) (l6_58 : Int32), zV G 7 S 0 0 58 [(5, .int l5_58), (6, .int l6_58)] [] (C (fX6_third_J58 l5_58 l6_58 S)) := by
    intro l5_58 l6_58
    unfold fX6_third_J58
    refine zr_iload h0 dX6_third_58 rfl (n := 60) rfl ?_
    refine zr_if_eq C (tgt := 72) h0 dX6_third_60 (by decide) (n := 63) rfl ?_ ?_
    · refine zv_sub (lv' := []) ?_ (zsub_of [] rfl)
      exact J72
    · refine zv_sub (lv' := [(6, .int l6_58)]) ?_ (zsub_of [1] rfl)
      refine zr_iload h0 dX6_third_63 rfl (n := 65) rfl ?_
      refine zr_if_eq C (tgt := 72) h0 dX6_third_65 (by decide) (n := 68) rfl ?_ ?_
      · refine zv_sub (lv' := []) ?_ (zsub_of [] rfl)
        exact J72
      · refine zv_sub (lv' := []) ?_ (zsub_of [] rfl)
        refine zr_iconst (0 : Int32) h0 (by decide) dX6_third_68 (n := 69) rfl ?_
        refine zr_goto (tgt := 73) h0 dX6_third_69 (by decide) ?_
        exact J73 (0 : Int32)
  have J44 : ∀ (l4_44 : Int32) (l5_44 : Int32) (l6_44 : Int32), zV G 7 S 0 0 44 [(4, .int l4_44), (5, .int l5_44), (6, .int l6_44)] [] (C (fX6_third_J44 l4_44 l5_44 l6_44 S)) := by
    intro l4_44 l5_44 l6_44
    unfold fX6_third_J44
    refine zr_iload h0 dX6_third_44 rfl (n := 46) rfl ?_
    refine zr_if_eq C (tgt := 58) h0 dX6_third_46 (by decide) (n := 49) rfl ?_ ?_
    · refine zv_sub (lv' := [(5, .int l5_44), (6, .int l6_44)]) ?_ (zsub_of [1, 2] rfl)
      exact J58 l5_44 l6_44
    · refine zv_sub (lv' := [(5, .int l5_44), (6, .int l6_44)]) ?_ (zsub_of [1, 2] rfl)
      refine zr_iload h0 dX6_third_49 rfl (n := 51) rfl ?_
      refine zr_if_eq C (tgt := 58) h0 dX6_third_51 (by decide) (n := 54) rfl ?_ ?_
      · exact J58 l5_44 l6_44
      · refine zv_sub (lv' := []) ?_ (zsub_of [] rfl)
        refine zr_iconst (1 : Int32) h0 (by decide) dX6_third_54 (n := 55) rfl ?_
        refine zr_goto (tgt := 73) h0 dX6_third_55 (by decide) ?_
        exact J73 (1 : Int32)
  unfold fX6_third
  refine zr_aload_n h0 dX6_third_0 rfl (n := 1) rfl ?_
  refine zr_iload_n h0 dX6_third_1 rfl (n := 2) rfl ?_
  refine zr_iload_n h0 dX6_third_2 rfl (n := 3) rfl ?_
  refine zr_iload_n h0 dX6_third_3 rfl (n := 4) rfl ?_
  refine zr_iconst (0 : Int32) h0 (by decide) dX6_third_4 (n := 5) rfl ?_
  refine zr_cRI C hC 0 0 (fun x hx => zk_V h0 zcX6 (zcl_ex hx) (fun l D z0 => kX6_areAlike l D z0 a0 a1 a2 a3 (0 : Int32) S x (zcl_of hx)) zw_989 zw_991 zs_44 zw_5 zw_992 rfl zyX6_areAlike (As := [.int a1, .int a2, .int a3, .int (0 : Int32)]) (st := []) rfl (by decide) rfl (Nat.le_of_ble_eq_true rfl) (by decide) dX6_third_5) rfl rfl (n := 8) rfl (fun x1 => ?_)
  refine zr_istore [(0, .ref a0), (1, .int a1), (2, .int a2), (3, .int a3), (4, .int x1)] h0 dX6_third_8 (by decide) rfl (n := 10) rfl ?_
  refine zr_aload_n h0 dX6_third_10 rfl (n := 11) rfl ?_
  refine zr_iload_n h0 dX6_third_11 rfl (n := 12) rfl ?_
  refine zr_iload_n h0 dX6_third_12 rfl (n := 13) rfl ?_
  refine zr_iload_n h0 dX6_third_13 rfl (n := 14) rfl ?_
  refine zr_iconst (1 : Int32) h0 (by decide) dX6_third_14 (n := 15) rfl ?_
  refine zr_cRI C hC 0 0 (fun x hx => zk_V h0 zcX6 (zcl_ex hx) (fun l D z0 => kX6_areAlike l D z0 a0 a1 a2 a3 (1 : Int32) S x (zcl_of hx)) zw_989 zw_991 zs_44 zw_5 zw_992 rfl zyX6_areAlike (As := [.int a1, .int a2, .int a3, .int (1 : Int32)]) (st := []) rfl (by decide) rfl (Nat.le_of_ble_eq_true rfl) (by decide) dX6_third_15) rfl rfl (n := 18) rfl (fun x2 => ?_)
  refine zr_istore [(0, .ref a0), (1, .int a1), (2, .int a2), (3, .int a3), (4, .int x1), (5, .int x2)] h0 dX6_third_18 (by decide) rfl (n := 20) rfl ?_
  refine zr_aload_n h0 dX6_third_20 rfl (n := 21) rfl ?_
  refine zr_iload_n h0 dX6_third_21 rfl (n := 22) rfl ?_
  refine zr_iload_n h0 dX6_third_22 rfl (n := 23) rfl ?_
  refine zr_iload_n h0 dX6_third_23 rfl (n := 24) rfl ?_
  refine zr_iconst (2 : Int32) h0 (by decide) dX6_third_24 (n := 25) rfl ?_
  refine zr_cRI C hC 0 0 (fun x hx => zk_V h0 zcX6 (zcl_ex hx) (fun l D z0 => kX6_areAlike l D z0 a0 a1 a2 a3 (2 : Int32) S x (zcl_of hx)) zw_989 zw_991 zs_44 zw_5 zw_992 rfl zyX6_areAlike (As := [.int a1, .int a2, .int a3, .int (2 : Int32)]) (st := []) rfl (by decide) rfl (Nat.le_of_ble_eq_true rfl) (by decide) dX6_third_25) rfl rfl (n := 28) rfl (fun x3 => ?_)
  refine zr_istore [(0, .ref a0), (1, .int a1), (2, .int a2), (3, .int a3), (4, .int x1), (5, .int x2), (6, .int x3)] h0 dX6_third_28 (by decide) rfl (n := 30) rfl ?_
  refine zr_iload h0 dX6_third_30 rfl (n := 32) rfl ?_
  refine zr_if_eq C (tgt := 44) h0 dX6_third_32 (by decide) (n := 35) rfl ?_ ?_
  · refine zv_sub (lv' := [(4, .int x1), (5, .int x2), (6, .int x3)]) ?_ (zsub_of [4, 5, 6] rfl)
    exact J44 x1 x2 x3
  · refine zv_sub (lv' := [(4, .int x1), (5, .int x2), (6, .int x3)]) ?_ (zsub_of [4, 5, 6] rfl)
    refine zr_iload h0 dX6_third_35 rfl (n := 37) rfl ?_
    refine zr_if_eq C (tgt := 44) h0 dX6_third_37 (by decide) (n := 40) rfl ?_ ?_
    · exact J44 x1 x2 x3
    · refine zv_sub (lv' := []) ?_ (zsub_of [] rfl)
      refine zr_iconst (2 : Int32) h0 (by decide) dX6_third_40 (n := 41) rfl ?_
      refine zr_goto (tgt := 73) h0 dX6_third_41 (by decide) ?_
      exact J73 (2 : Int32)
theorem kX6_third (l : Launch) (D : ZD) (z0 : Nat) (a0 : Nat) (a1 : Int32) (a2 : Int32) (a3 : Int32) (S : ZS) (x : Int32) (hf : fX6_third a0 a1 a2 a3 S = some x) : zMet l D z0 yX6_third cX6_third 7 (some .int) rmX6_third [.ref a0, .int a1, .int a2, .int a3] S (some (.int x)) S :=
  zMet_of (by decide) (Nat.le_of_ble_eq_true rfl) (fun G h0 hini hE => wX6_third a0 a1 a2 a3 S h0 (fun o => o = some x) (fun h => nomatch h) (fun v h => by cases h; exact hE)) hf
theorem dX6_reducesOnce_0 : decode cX6_reducesOnce 0 = .ok (.iconst 0, 1) := by decide +kernel
theorem dX6_reducesOnce_1 : decode cX6_reducesOnce 1 = .ok (.istore_n 2, 1) := by decide +kernel
theorem dX6_reducesOnce_2 : decode cX6_reducesOnce 2 = .ok (.iload_n 2, 1) := by decide +kernel
theorem dX6_reducesOnce_3 : decode cX6_reducesOnce 3 = .ok (.aload_n 0, 1) := by decide +kernel
theorem dX6_reducesOnce_4 : decode cX6_reducesOnce 4 = .ok (.getfield 32, 3) := by decide +kernel
theorem dX6_reducesOnce_7 : decode cX6_reducesOnce 7 = .ok (.iload_n 1, 1) := by decide +kernel
theorem dX6_reducesOnce_8 : decode cX6_reducesOnce 8 = .ok (.iaload, 1) := by decide +kernel
theorem dX6_reducesOnce_9 : decode cX6_reducesOnce 9 = .ok (.if_icmp .ge 26, 3) := by decide +kernel
theorem dX6_reducesOnce_12 : decode cX6_reducesOnce 12 = .ok (.aload_n 0, 1) := by decide +kernel
theorem dX6_reducesOnce_13 : decode cX6_reducesOnce 13 = .ok (.iload_n 1, 1) := by decide +kernel
theorem dX6_reducesOnce_14 : decode cX6_reducesOnce 14 = .ok (.iload_n 2, 1) := by decide +kernel
theorem dX6_reducesOnce_15 : decode cX6_reducesOnce 15 = .ok (.invokevirtual 123, 3) := by decide +kernel
theorem dX6_reducesOnce_18 : decode cX6_reducesOnce 18 = .ok (.ifCond .eq 11, 3) := by decide +kernel
theorem dX6_reducesOnce_21 : decode cX6_reducesOnce 21 = .ok (.aload_n 0, 1) := by decide +kernel
theorem dX6_reducesOnce_22 : decode cX6_reducesOnce 22 = .ok (.iload_n 1, 1) := by decide +kernel
theorem dX6_reducesOnce_23 : decode cX6_reducesOnce 23 = .ok (.iload_n 2, 1) := by decide +kernel
theorem dX6_reducesOnce_24 : decode cX6_reducesOnce 24 = .ok (.invokevirtual 126, 3) := by decide +kernel
theorem dX6_reducesOnce_27 : decode cX6_reducesOnce 27 = .ok (.iconst 1, 1) := by decide +kernel
theorem dX6_reducesOnce_28 : decode cX6_reducesOnce 28 = .ok (.ireturn, 1) := by decide +kernel
theorem dX6_reducesOnce_29 : decode cX6_reducesOnce 29 = .ok (.iinc 2 1, 3) := by decide +kernel
theorem dX6_reducesOnce_32 : decode cX6_reducesOnce 32 = .ok (.goto (-30), 3) := by decide +kernel
theorem dX6_reducesOnce_35 : decode cX6_reducesOnce 35 = .ok (.iconst 0, 1) := by decide +kernel
theorem dX6_reducesOnce_36 : decode cX6_reducesOnce 36 = .ok (.istore_n 2, 1) := by decide +kernel
theorem dX6_reducesOnce_37 : decode cX6_reducesOnce 37 = .ok (.iload_n 2, 1) := by decide +kernel
theorem dX6_reducesOnce_38 : decode cX6_reducesOnce 38 = .ok (.aload_n 0, 1) := by decide +kernel
theorem dX6_reducesOnce_39 : decode cX6_reducesOnce 39 = .ok (.getfield 32, 3) := by decide +kernel
theorem dX6_reducesOnce_42 : decode cX6_reducesOnce 42 = .ok (.iload_n 1, 1) := by decide +kernel
theorem dX6_reducesOnce_43 : decode cX6_reducesOnce 43 = .ok (.iaload, 1) := by decide +kernel
theorem dX6_reducesOnce_44 : decode cX6_reducesOnce 44 = .ok (.if_icmp .ge 62, 3) := by decide +kernel
theorem dX6_reducesOnce_47 : decode cX6_reducesOnce 47 = .ok (.iload_n 2, 1) := by decide +kernel
theorem dX6_reducesOnce_48 : decode cX6_reducesOnce 48 = .ok (.iconst 1, 1) := by decide +kernel
theorem dX6_reducesOnce_49 : decode cX6_reducesOnce 49 = .ok (.iadd, 1) := by decide +kernel
theorem dX6_reducesOnce_50 : decode cX6_reducesOnce 50 = .ok (.istore_n 3, 1) := by decide +kernel
theorem dX6_reducesOnce_51 : decode cX6_reducesOnce 51 = .ok (.iload_n 3, 1) := by decide +kernel
theorem dX6_reducesOnce_52 : decode cX6_reducesOnce 52 = .ok (.aload_n 0, 1) := by decide +kernel
theorem dX6_reducesOnce_53 : decode cX6_reducesOnce 53 = .ok (.getfield 32, 3) := by decide +kernel
theorem dX6_reducesOnce_56 : decode cX6_reducesOnce 56 = .ok (.iload_n 1, 1) := by decide +kernel
theorem dX6_reducesOnce_57 : decode cX6_reducesOnce 57 = .ok (.iaload, 1) := by decide +kernel
theorem dX6_reducesOnce_58 : decode cX6_reducesOnce 58 = .ok (.if_icmp .ge 42, 3) := by decide +kernel
theorem dX6_reducesOnce_61 : decode cX6_reducesOnce 61 = .ok (.aload_n 0, 1) := by decide +kernel
theorem dX6_reducesOnce_62 : decode cX6_reducesOnce 62 = .ok (.iload_n 1, 1) := by decide +kernel
theorem dX6_reducesOnce_63 : decode cX6_reducesOnce 63 = .ok (.iload_n 2, 1) := by decide +kernel
theorem dX6_reducesOnce_64 : decode cX6_reducesOnce 64 = .ok (.iload_n 3, 1) := by decide +kernel
theorem dX6_reducesOnce_65 : decode cX6_reducesOnce 65 = .ok (.invokevirtual 130, 3) := by decide +kernel
theorem dX6_reducesOnce_68 : decode cX6_reducesOnce 68 = .ok (.istore 4, 2) := by decide +kernel
theorem dX6_reducesOnce_70 : decode cX6_reducesOnce 70 = .ok (.iload 4, 2) := by decide +kernel
theorem dX6_reducesOnce_72 : decode cX6_reducesOnce 72 = .ok (.iconst (-1), 1) := by decide +kernel
theorem dX6_reducesOnce_73 : decode cX6_reducesOnce 73 = .ok (.if_icmp .eq 21, 3) := by decide +kernel
theorem dX6_reducesOnce_76 : decode cX6_reducesOnce 76 = .ok (.aload_n 0, 1) := by decide +kernel
theorem dX6_reducesOnce_77 : decode cX6_reducesOnce 77 = .ok (.iload_n 1, 1) := by decide +kernel
theorem dX6_reducesOnce_78 : decode cX6_reducesOnce 78 = .ok (.iload_n 2, 1) := by decide +kernel
theorem dX6_reducesOnce_79 : decode cX6_reducesOnce 79 = .ok (.iload_n 3, 1) := by decide +kernel
theorem dX6_reducesOnce_80 : decode cX6_reducesOnce 80 = .ok (.iload 4, 2) := by decide +kernel
theorem dX6_reducesOnce_82 : decode cX6_reducesOnce 82 = .ok (.iconst 1, 1) := by decide +kernel
theorem dX6_reducesOnce_83 : decode cX6_reducesOnce 83 = .ok (.invokevirtual 109, 3) := by decide +kernel
theorem dX6_reducesOnce_86 : decode cX6_reducesOnce 86 = .ok (.aload_n 0, 1) := by decide +kernel
theorem dX6_reducesOnce_87 : decode cX6_reducesOnce 87 = .ok (.iload_n 1, 1) := by decide +kernel
theorem dX6_reducesOnce_88 : decode cX6_reducesOnce 88 = .ok (.iload_n 3, 1) := by decide +kernel
theorem dX6_reducesOnce_89 : decode cX6_reducesOnce 89 = .ok (.invokevirtual 126, 3) := by decide +kernel
theorem dX6_reducesOnce_92 : decode cX6_reducesOnce 92 = .ok (.iconst 1, 1) := by decide +kernel
theorem dX6_reducesOnce_93 : decode cX6_reducesOnce 93 = .ok (.ireturn, 1) := by decide +kernel
theorem dX6_reducesOnce_94 : decode cX6_reducesOnce 94 = .ok (.iinc 3 1, 3) := by decide +kernel
theorem dX6_reducesOnce_97 : decode cX6_reducesOnce 97 = .ok (.goto (-46), 3) := by decide +kernel
theorem dX6_reducesOnce_100 : decode cX6_reducesOnce 100 = .ok (.iinc 2 1, 3) := by decide +kernel
theorem dX6_reducesOnce_103 : decode cX6_reducesOnce 103 = .ok (.goto (-66), 3) := by decide +kernel
theorem dX6_reducesOnce_106 : decode cX6_reducesOnce 106 = .ok (.iconst 0, 1) := by decide +kernel
theorem dX6_reducesOnce_107 : decode cX6_reducesOnce 107 = .ok (.ireturn, 1) := by decide +kernel
abbrev rmX6_reducesOnce : Room := { frames := 4, cells := 0, slots := 0, locals := 94 }
theorem zyX6_reducesOnce : zyOK yX6_reducesOnce 1 := ⟨by decide +kernel, by decide +kernel, by decide +kernel⟩
set_option maxHeartbeats 4000000 in
set_option maxRecDepth 100000 in
theorem wX6_reducesOnce {G : ZG} (a0 : Nat) (a1 : Int32) (S : ZS) (h0 : zFix G cX6_reducesOnce RX6 5 (some .boolean) rmX6_reducesOnce) (C : Option (Int32 × ZS) → Prop) (hC : ¬ C none) (hE : ∀ (v : Int32) (S1 : ZS), C (some (v, S1)) → zEnd G (some (.int v)) S1 rmX6_reducesOnce) : zV G 5 S 0 0 0 [(0, .ref a0), (1, .int a1)] [] (C (fX6_reducesOnce a0 a1 S)) := by
  unfold fX6_reducesOnce
  refine zr_iconst (0 : Int32) h0 (by decide) dX6_reducesOnce_0 (n := 1) rfl ?_
  refine zr_istore_n [(0, .ref a0), (1, .int a1), (2, .int (0 : Int32))] h0 dX6_reducesOnce_1 (by decide) rfl (n := 2) rfl ?_
  refine zr_loop hC (fX6_reducesOnce_B2 a0 a1 S) (fun y => [(0, .ref a0), (1, .int a1), (2, .int y)]) (fun y => S) zF (0 : Int32) (fun C2 hC2 hX2 hL2 t2 => ?_)
  unfold fX6_reducesOnce_B2
  refine zr_iload_n h0 dX6_reducesOnce_2 rfl (n := 3) rfl ?_
  refine zr_aload_n h0 dX6_reducesOnce_3 rfl (n := 4) rfl ?_
  refine zr_getR C2 hC2 h0 zcX6 (k := 10) (by decide) zw_829 dX6_reducesOnce_4 (n := 7) rfl (fun v24 => ?_)
  refine zr_iload_n h0 dX6_reducesOnce_7 rfl (n := 8) rfl ?_
  refine zr_iaload C2 hC2 h0 dX6_reducesOnce_8 (n := 9) rfl (fun v25 => ?_)
  refine zr_icmp_ge C2 (tgt := 35) h0 dX6_reducesOnce_9 (by decide) (n := 12) rfl ?_ ?_
  · refine zr_ex hX2 ?_
    refine zv_sub (lv' := [(0, .ref a0), (1, .int a1)]) ?_ (zsub_of [0, 1] rfl)
    refine zr_iconst (0 : Int32) h0 (by decide) dX6_reducesOnce_35 (n := 36) rfl ?_
    refine zr_istore_n [(0, .ref a0), (1, .int a1), (2, .int (0 : Int32))] h0 dX6_reducesOnce_36 (by decide) rfl (n := 37) rfl ?_
    refine zr_loop hC (fX6_reducesOnce_B37 a0 a1 S) (fun y => [(0, .ref a0), (1, .int a1), (2, .int y)]) (fun y => S) zF (0 : Int32) (fun C37 hC37 hX37 hL37 t37 => ?_)
    unfold fX6_reducesOnce_B37
    refine zr_iload_n h0 dX6_reducesOnce_37 rfl (n := 38) rfl ?_
    refine zr_aload_n h0 dX6_reducesOnce_38 rfl (n := 39) rfl ?_
    refine zr_getR C37 hC37 h0 zcX6 (k := 10) (by decide) zw_829 dX6_reducesOnce_39 (n := 42) rfl (fun v26 => ?_)
    refine zr_iload_n h0 dX6_reducesOnce_42 rfl (n := 43) rfl ?_
    refine zr_iaload C37 hC37 h0 dX6_reducesOnce_43 (n := 44) rfl (fun v27 => ?_)
    refine zr_icmp_ge C37 (tgt := 106) h0 dX6_reducesOnce_44 (by decide) (n := 47) rfl ?_ ?_
    · refine zr_ex hX37 ?_
      refine zv_sub (lv' := []) ?_ (zsub_of [] rfl)
      refine zr_iconst (0 : Int32) h0 (by decide) dX6_reducesOnce_106 (n := 107) rfl ?_
      exact zr_zret0 h0 rfl rfl dX6_reducesOnce_107 (hE _ _) (by decide) (by decide)
    · refine zr_iload_n h0 dX6_reducesOnce_47 rfl (n := 48) rfl ?_
      refine zr_iconst (1 : Int32) h0 (by decide) dX6_reducesOnce_48 (n := 49) rfl ?_
      refine zr_iadd h0 dX6_reducesOnce_49 (n := 50) rfl ?_
      refine zr_istore_n [(0, .ref a0), (1, .int a1), (2, .int t37), (3, .int (t37 + (1 : Int32)))] h0 dX6_reducesOnce_50 (by decide) rfl (n := 51) rfl ?_
      refine zr_loop hC37 (fX6_reducesOnce_B51 a0 a1 t37 S) (fun y => [(0, .ref a0), (1, .int a1), (2, .int t37), (3, .int y)]) (fun y => S) zF (t37 + (1 : Int32)) (fun C51 hC51 hX51 hL51 t51 => ?_)
      unfold fX6_reducesOnce_B51
      refine zr_iload_n h0 dX6_reducesOnce_51 rfl (n := 52) rfl ?_
      refine zr_aload_n h0 dX6_reducesOnce_52 rfl (n := 53) rfl ?_
      refine zr_getR C51 hC51 h0 zcX6 (k := 10) (by decide) zw_829 dX6_reducesOnce_53 (n := 56) rfl (fun v28 => ?_)
      refine zr_iload_n h0 dX6_reducesOnce_56 rfl (n := 57) rfl ?_
      refine zr_iaload C51 hC51 h0 dX6_reducesOnce_57 (n := 58) rfl (fun v29 => ?_)
      refine zr_icmp_ge C51 (tgt := 100) h0 dX6_reducesOnce_58 (by decide) (n := 61) rfl ?_ ?_
      · refine zr_ex hX51 ?_
        refine zv_sub (lv' := [(0, .ref a0), (1, .int a1), (2, .int t37)]) ?_ (zsub_of [0, 1, 2] rfl)
        refine zr_iinc (1 : Int32) [(0, .ref a0), (1, .int a1), (2, .int (t37 + (1 : Int32)))] h0 dX6_reducesOnce_100 rfl (by decide) rfl rfl (n := 103) rfl ?_
        refine zr_goto (tgt := 37) h0 dX6_reducesOnce_103 (by decide) ?_
        exact hL37 (t37 + (1 : Int32))
      · refine zr_aload_n h0 dX6_reducesOnce_61 rfl (n := 62) rfl ?_
        refine zr_iload_n h0 dX6_reducesOnce_62 rfl (n := 63) rfl ?_
        refine zr_iload_n h0 dX6_reducesOnce_63 rfl (n := 64) rfl ?_
        refine zr_iload_n h0 dX6_reducesOnce_64 rfl (n := 65) rfl ?_
        refine zr_cRI C51 hC51 0 0 (fun x hx => zk_V h0 zcX6 (zcl_ex hx) (fun l D z0 => kX6_third l D z0 a0 a1 t37 t51 S x (zcl_of hx)) zw_1021 zw_1023 zs_51 zw_5 zw_1024 rfl zyX6_third (As := [.int a1, .int t37, .int t51]) (st := []) rfl (by decide) rfl (Nat.le_of_ble_eq_true rfl) (by decide) dX6_reducesOnce_65) rfl rfl (n := 68) rfl (fun x30 => ?_)
        refine zr_istore [(0, .ref a0), (1, .int a1), (2, .int t37), (3, .int t51), (4, .int x30)] h0 dX6_reducesOnce_68 (by decide) rfl (n := 70) rfl ?_
        refine zr_iload h0 dX6_reducesOnce_70 rfl (n := 72) rfl ?_
        refine zr_iconst (-1 : Int32) h0 (by decide) dX6_reducesOnce_72 (n := 73) rfl ?_
        refine zr_icmp_eq C51 (tgt := 94) h0 dX6_reducesOnce_73 (by decide) (n := 76) rfl ?_ ?_
        · refine zv_sub (lv' := [(0, .ref a0), (1, .int a1), (2, .int t37), (3, .int t51)]) ?_ (zsub_of [0, 1, 2, 3] rfl)
          refine zr_iinc (1 : Int32) [(0, .ref a0), (1, .int a1), (2, .int t37), (3, .int (t51 + (1 : Int32)))] h0 dX6_reducesOnce_94 rfl (by decide) rfl rfl (n := 97) rfl ?_
          refine zr_goto (tgt := 51) h0 dX6_reducesOnce_97 (by decide) ?_
          exact hL51 (t51 + (1 : Int32))
        · refine zr_ex hX51 ?_
          refine zr_ex hX37 ?_
          refine zr_aload_n h0 dX6_reducesOnce_76 rfl (n := 77) rfl ?_
          refine zr_iload_n h0 dX6_reducesOnce_77 rfl (n := 78) rfl ?_
          refine zr_iload_n h0 dX6_reducesOnce_78 rfl (n := 79) rfl ?_
          refine zr_iload_n h0 dX6_reducesOnce_79 rfl (n := 80) rfl ?_
          refine zr_iload h0 dX6_reducesOnce_80 rfl (n := 82) rfl ?_
          refine zr_iconst (1 : Int32) h0 (by decide) dX6_reducesOnce_82 (n := 83) rfl ?_
          refine zr_cMV C hC 0 0 (fun x hx => zk_V h0 zcX6 (zcl_ex hx) (fun l D z0 => kX6_add l D z0 a0 a1 t37 t51 x30 (1 : Int32) S x (zcl_of hx)) zw_997 zw_999 zs_46 zw_5 zw_1000 rfl zyX6_add (As := [.int a1, .int t37, .int t51, .int x30, .int (1 : Int32)]) (st := []) rfl (by decide) rfl (Nat.le_of_ble_eq_true rfl) (by decide) dX6_reducesOnce_83) rfl rfl (n := 86) rfl (fun x31 => ?_)
          refine zr_aload_n h0 dX6_reducesOnce_86 rfl (n := 87) rfl ?_
          refine zr_iload_n h0 dX6_reducesOnce_87 rfl (n := 88) rfl ?_
          refine zr_iload_n h0 dX6_reducesOnce_88 rfl (n := 89) rfl ?_
          refine zr_cMV C hC 0 0 (fun x hx => zk_V h0 zcX6 (zcl_ex hx) (fun l D z0 => kX6_takeOut l D z0 a0 a1 t51 x31 x (zcl_of hx)) zw_1017 zw_1019 zs_50 zw_5 zw_1020 rfl zyX6_takeOut (As := [.int a1, .int t51]) (st := []) rfl (by decide) rfl (Nat.le_of_ble_eq_true rfl) (by decide) dX6_reducesOnce_89) rfl rfl (n := 92) rfl (fun x32 => ?_)
          refine zr_iconst (1 : Int32) h0 (by decide) dX6_reducesOnce_92 (n := 93) rfl ?_
          exact zr_zret0 h0 rfl rfl dX6_reducesOnce_93 (hE _ _) (by decide) (by decide)
  · refine zr_aload_n h0 dX6_reducesOnce_12 rfl (n := 13) rfl ?_
    refine zr_iload_n h0 dX6_reducesOnce_13 rfl (n := 14) rfl ?_
    refine zr_iload_n h0 dX6_reducesOnce_14 rfl (n := 15) rfl ?_
    refine zr_cRI C2 hC2 0 0 (fun x hx => zk_V h0 zcX6 (zcl_ex hx) (fun l D z0 => kX6_isNothing l D z0 a0 a1 t2 S x (zcl_of hx)) zw_1013 zw_1015 zs_49 zw_5 zw_1016 rfl zyX6_isNothing (As := [.int a1, .int t2]) (st := []) rfl (by decide) rfl (Nat.le_of_ble_eq_true rfl) (by decide) dX6_reducesOnce_15) rfl rfl (n := 18) rfl (fun x33 => ?_)
    refine zr_if_eq C2 (tgt := 29) h0 dX6_reducesOnce_18 (by decide) (n := 21) rfl ?_ ?_
    · refine zr_iinc (1 : Int32) [(0, .ref a0), (1, .int a1), (2, .int (t2 + (1 : Int32)))] h0 dX6_reducesOnce_29 rfl (by decide) rfl rfl (n := 32) rfl ?_
      refine zr_goto (tgt := 2) h0 dX6_reducesOnce_32 (by decide) ?_
      exact hL2 (t2 + (1 : Int32))
    · refine zr_ex hX2 ?_
      refine zr_aload_n h0 dX6_reducesOnce_21 rfl (n := 22) rfl ?_
      refine zr_iload_n h0 dX6_reducesOnce_22 rfl (n := 23) rfl ?_
      refine zr_iload_n h0 dX6_reducesOnce_23 rfl (n := 24) rfl ?_
      refine zr_cMV C hC 0 0 (fun x hx => zk_V h0 zcX6 (zcl_ex hx) (fun l D z0 => kX6_takeOut l D z0 a0 a1 t2 S x (zcl_of hx)) zw_1017 zw_1019 zs_50 zw_5 zw_1020 rfl zyX6_takeOut (As := [.int a1, .int t2]) (st := []) rfl (by decide) rfl (Nat.le_of_ble_eq_true rfl) (by decide) dX6_reducesOnce_24) rfl rfl (n := 27) rfl (fun x34 => ?_)
      refine zr_iconst (1 : Int32) h0 (by decide) dX6_reducesOnce_27 (n := 28) rfl ?_
      exact zr_zret0 h0 rfl rfl dX6_reducesOnce_28 (hE _ _) (by decide) (by decide)
theorem kX6_reducesOnce (l : Launch) (D : ZD) (z0 : Nat) (a0 : Nat) (a1 : Int32) (S : ZS) (x : Int32 × ZS) (hf : fX6_reducesOnce a0 a1 S = some x) : zMet l D z0 yX6_reducesOnce cX6_reducesOnce 5 (some .boolean) rmX6_reducesOnce [.ref a0, .int a1] S (some (.int x.1)) x.2 :=
  zMet_of (by decide) (Nat.le_of_ble_eq_true rfl) (fun G h0 hini hE => wX6_reducesOnce a0 a1 S h0 (fun o => o = some x) (fun h => nomatch h) (fun v S1 h => by cases h; exact hE)) hf
theorem dX6_reduceAll_0 : decode cX6_reduceAll 0 = .ok (.iconst 0, 1) := by decide +kernel
theorem dX6_reduceAll_1 : decode cX6_reduceAll 1 = .ok (.istore_n 2, 1) := by decide +kernel
theorem dX6_reduceAll_2 : decode cX6_reduceAll 2 = .ok (.aload_n 0, 1) := by decide +kernel
theorem dX6_reduceAll_3 : decode cX6_reduceAll 3 = .ok (.iload_n 1, 1) := by decide +kernel
theorem dX6_reduceAll_4 : decode cX6_reduceAll 4 = .ok (.invokevirtual 133, 3) := by decide +kernel
theorem dX6_reduceAll_7 : decode cX6_reduceAll 7 = .ok (.ifCond .eq 9, 3) := by decide +kernel
theorem dX6_reduceAll_10 : decode cX6_reduceAll 10 = .ok (.iinc 2 1, 3) := by decide +kernel
theorem dX6_reduceAll_13 : decode cX6_reduceAll 13 = .ok (.goto (-11), 3) := by decide +kernel
theorem dX6_reduceAll_16 : decode cX6_reduceAll 16 = .ok (.iload_n 2, 1) := by decide +kernel
theorem dX6_reduceAll_17 : decode cX6_reduceAll 17 = .ok (.ireturn, 1) := by decide +kernel
abbrev rmX6_reduceAll : Room := { frames := 5, cells := 0, slots := 0, locals := 118 }
theorem zyX6_reduceAll : zyOK yX6_reduceAll 1 := ⟨by decide +kernel, by decide +kernel, by decide +kernel⟩
set_option maxHeartbeats 4000000 in
set_option maxRecDepth 100000 in
theorem wX6_reduceAll {G : ZG} (a0 : Nat) (a1 : Int32) (S : ZS) (h0 : zFix G cX6_reduceAll RX6 3 (some .int) rmX6_reduceAll) (C : Option (Int32 × ZS) → Prop) (hC : ¬ C none) (hE : ∀ (v : Int32) (S1 : ZS), C (some (v, S1)) → zEnd G (some (.int v)) S1 rmX6_reduceAll) : zV G 3 S 0 0 0 [(0, .ref a0), (1, .int a1)] [] (C (fX6_reduceAll a0 a1 S)) := by
  unfold fX6_reduceAll
  refine zr_iconst (0 : Int32) h0 (by decide) dX6_reduceAll_0 (n := 1) rfl ?_
  refine zr_istore_n [(0, .ref a0), (1, .int a1), (2, .int (0 : Int32))] h0 dX6_reduceAll_1 (by decide) rfl (n := 2) rfl ?_
  refine zr_loop hC (fX6_reduceAll_B2 a0 a1) (fun y => [(0, .ref a0), (1, .int a1), (2, .int y.1)]) (fun y => y.2) zF ((0 : Int32), S) (fun C2 hC2 hX2 hL2 t2 => ?_)
  unfold fX6_reduceAll_B2
  refine zr_aload_n h0 dX6_reduceAll_2 rfl (n := 3) rfl ?_
  refine zr_iload_n h0 dX6_reduceAll_3 rfl (n := 4) rfl ?_
  refine zr_cMI C2 hC2 0 0 (fun x hx => zk_V h0 zcX6 (zcl_ex hx) (fun l D z0 => kX6_reducesOnce l D z0 a0 a1 t2.2 x (zcl_of hx)) zw_1009 zw_1011 zs_48 zw_5 zw_1012 rfl zyX6_reducesOnce (As := [.int a1]) (st := []) rfl (by decide) rfl (Nat.le_of_ble_eq_true rfl) (by decide) dX6_reduceAll_4) rfl rfl (n := 7) rfl (fun x2 => ?_)
  refine zr_if_eq C2 (tgt := 16) h0 dX6_reduceAll_7 (by decide) (n := 10) rfl ?_ ?_
  · refine zr_ex hX2 ?_
    refine zv_sub (lv' := [(2, .int t2.1)]) ?_ (zsub_of [2] rfl)
    refine zr_iload_n h0 dX6_reduceAll_16 rfl (n := 17) rfl ?_
    exact zr_iret h0 rfl dX6_reduceAll_17 (hE _ _) (by decide) (by decide)
  · refine zr_iinc (1 : Int32) [(0, .ref a0), (1, .int a1), (2, .int (t2.1 + (1 : Int32)))] h0 dX6_reduceAll_10 rfl (by decide) rfl rfl (n := 13) rfl ?_
    refine zr_goto (tgt := 2) h0 dX6_reduceAll_13 (by decide) ?_
    exact hL2 (t2.1 + (1 : Int32), x2.2)
theorem kX6_reduceAll (l : Launch) (D : ZD) (z0 : Nat) (a0 : Nat) (a1 : Int32) (S : ZS) (x : Int32 × ZS) (hf : fX6_reduceAll a0 a1 S = some x) : zMet l D z0 yX6_reduceAll cX6_reduceAll 3 (some .int) rmX6_reduceAll [.ref a0, .int a1] S (some (.int x.1)) x.2 :=
  zMet_of (by decide) (Nat.le_of_ble_eq_true rfl) (fun G h0 hini hE => wX6_reduceAll a0 a1 S h0 (fun o => o = some x) (fun h => nomatch h) (fun v S1 h => by cases h; exact hE)) hf
theorem dX6_reduce_0 : decode cX6_reduce 0 = .ok (.aload_n 0, 1) := by decide +kernel
theorem dX6_reduce_1 : decode cX6_reduce 1 = .ok (.aload_n 0, 1) := by decide +kernel
theorem dX6_reduce_2 : decode cX6_reduce 2 = .ok (.iload_n 1, 1) := by decide +kernel
theorem dX6_reduce_3 : decode cX6_reduce 3 = .ok (.invokevirtual 99, 3) := by decide +kernel
theorem dX6_reduce_6 : decode cX6_reduce 6 = .ok (.ifCond .eq 7, 3) := by decide +kernel
theorem dX6_reduce_9 : decode cX6_reduce 9 = .ok (.iconst 0, 1) := by decide +kernel
theorem dX6_reduce_10 : decode cX6_reduce 10 = .ok (.goto 4, 3) := by decide +kernel
theorem dX6_reduce_13 : decode cX6_reduce 13 = .ok (.iconst 1, 1) := by decide +kernel
theorem dX6_reduce_14 : decode cX6_reduce 14 = .ok (.invokevirtual 64, 3) := by decide +kernel
theorem dX6_reduce_17 : decode cX6_reduce 17 = .ok (.ifCond .eq 11, 3) := by decide +kernel
theorem dX6_reduce_20 : decode cX6_reduce 20 = .ok (.aload_n 0, 1) := by decide +kernel
theorem dX6_reduce_21 : decode cX6_reduce 21 = .ok (.iload_n 1, 1) := by decide +kernel
theorem dX6_reduce_22 : decode cX6_reduce 22 = .ok (.invokevirtual 136, 3) := by decide +kernel
theorem dX6_reduce_25 : decode cX6_reduce 25 = .ok (.goto 4, 3) := by decide +kernel
theorem dX6_reduce_28 : decode cX6_reduce 28 = .ok (.iconst 0, 1) := by decide +kernel
theorem dX6_reduce_29 : decode cX6_reduce 29 = .ok (.ireturn, 1) := by decide +kernel
abbrev rmX6_reduce : Room := { frames := 6, cells := 0, slots := 0, locals := 140 }
theorem zyX6_reduce : zyOK yX6_reduce 1 := ⟨by decide +kernel, by decide +kernel, by decide +kernel⟩
set_option maxHeartbeats 4000000 in
set_option maxRecDepth 100000 in
theorem wX6_reduce {G : ZG} (a0 : Nat) (a1 : Int32) (S : ZS) (h0 : zFix G cX6_reduce RX6 2 (some .int) rmX6_reduce) (C : Option (Int32 × ZS) → Prop) (hC : ¬ C none) (hE : ∀ (v : Int32) (S1 : ZS), C (some (v, S1)) → zEnd G (some (.int v)) S1 rmX6_reduce) : zV G 2 S 0 0 0 [(0, .ref a0), (1, .int a1)] [] (C (fX6_reduce a0 a1 S)) := by
  have J29 : ∀ (s0_29 : Int32) (S_29 : ZS), zV G 2 S_29 0 0 29 [] [.int s0_29] (C (fX6_reduce_J29 s0_29 S_29)) := by
    intro s0_29 S_29
    unfold fX6_reduce_J29
    exact zr_iret h0 rfl dX6_reduce_29 (hE _ _) (by decide) (by decide)
  have J14 : ∀ (l0_14 : Nat) (l1_14 : Int32) (s0_14 : Nat) (s1_14 : Int32) (S_14 : ZS), zV G 2 S_14 0 0 14 [(0, .ref l0_14), (1, .int l1_14)] [.int s1_14, .ref s0_14] (C (fX6_reduce_J14 l0_14 l1_14 s0_14 s1_14 S_14)) := by
    intro l0_14 l1_14 s0_14 s1_14 S_14
    unfold fX6_reduce_J14
    refine zr_cMI C hC 0 0 (fun x hx => zk_V h0 zcX6 (zcl_ex hx) (fun l D z0 => kX6_goesWell l D z0 s0_14 s1_14 S_14 x (zcl_of hx)) zw_886 zw_888 zs_34 zw_5 zw_889 rfl zyX6_goesWell (As := [.int s1_14]) (st := []) rfl (by decide) rfl (Nat.le_of_ble_eq_true rfl) (by decide) dX6_reduce_14) rfl rfl (n := 17) rfl (fun x4 => ?_)
    refine zr_if_eq C (tgt := 28) h0 dX6_reduce_17 (by decide) (n := 20) rfl ?_ ?_
    · refine zv_sub (lv' := []) ?_ (zsub_of [] rfl)
      refine zr_iconst (0 : Int32) h0 (by decide) dX6_reduce_28 (n := 29) rfl ?_
      exact J29 (0 : Int32) x4.2
    · refine zr_aload_n h0 dX6_reduce_20 rfl (n := 21) rfl ?_
      refine zr_iload_n h0 dX6_reduce_21 rfl (n := 22) rfl ?_
      refine zr_cMI C hC 0 0 (fun x hx => zk_V h0 zcX6 (zcl_ex hx) (fun l D z0 => kX6_reduceAll l D z0 l0_14 l1_14 x4.2 x (zcl_of hx)) zw_1005 zw_1007 zs_47 zw_5 zw_1008 rfl zyX6_reduceAll (As := [.int l1_14]) (st := []) rfl (by decide) rfl (Nat.le_of_ble_eq_true rfl) (by decide) dX6_reduce_22) rfl rfl (n := 25) rfl (fun x5 => ?_)
      refine zr_goto (tgt := 29) h0 dX6_reduce_25 (by decide) ?_
      refine zv_sub (lv' := []) ?_ (zsub_of [] rfl)
      exact J29 x5.1 x5.2
  unfold fX6_reduce
  refine zr_aload_n h0 dX6_reduce_0 rfl (n := 1) rfl ?_
  refine zr_aload_n h0 dX6_reduce_1 rfl (n := 2) rfl ?_
  refine zr_iload_n h0 dX6_reduce_2 rfl (n := 3) rfl ?_
  refine zr_cRI C hC 0 0 (fun x hx => zk_V h0 zcX6 (zcl_ex hx) (fun l D z0 => kX6_isWay l D z0 a0 a1 S x (zcl_of hx)) zw_958 zw_960 zs_39 zw_5 zw_961 rfl zyX6_isWay (As := [.int a1]) (st := [.ref a0]) rfl (by decide) rfl (Nat.le_of_ble_eq_true rfl) (by decide) dX6_reduce_3) rfl rfl (n := 6) rfl (fun x1 => ?_)
  refine zr_if_eq C (tgt := 13) h0 dX6_reduce_6 (by decide) (n := 9) rfl ?_ ?_
  · refine zr_iconst (1 : Int32) h0 (by decide) dX6_reduce_13 (n := 14) rfl ?_
    exact J14 a0 a1 a0 (1 : Int32) S
  · refine zr_iconst (0 : Int32) h0 (by decide) dX6_reduce_9 (n := 10) rfl ?_
    refine zr_goto (tgt := 14) h0 dX6_reduce_10 (by decide) ?_
    exact J14 a0 a1 a0 (0 : Int32) S
theorem kX6_reduce (l : Launch) (D : ZD) (z0 : Nat) (a0 : Nat) (a1 : Int32) (S : ZS) (x : Int32 × ZS) (hf : fX6_reduce a0 a1 S = some x) : zMet l D z0 yX6_reduce cX6_reduce 2 (some .int) rmX6_reduce [.ref a0, .int a1] S (some (.int x.1)) x.2 :=
  zMet_of (by decide) (Nat.le_of_ble_eq_true rfl) (fun G h0 hini hE => wX6_reduce a0 a1 S h0 (fun o => o = some x) (fun h => nomatch h) (fun v S1 h => by cases h; exact hE)) hf
theorem dX6_draw_0 : decode cX6_draw 0 = .ok (.sipush 25173, 3) := by decide +kernel
theorem dX6_draw_3 : decode cX6_draw 3 = .ok (.iload_n 0, 1) := by decide +kernel
theorem dX6_draw_4 : decode cX6_draw 4 = .ok (.imul, 1) := by decide +kernel
theorem dX6_draw_5 : decode cX6_draw 5 = .ok (.sipush 13849, 3) := by decide +kernel
theorem dX6_draw_8 : decode cX6_draw 8 = .ok (.iadd, 1) := by decide +kernel
theorem dX6_draw_9 : decode cX6_draw 9 = .ok (.ldc 140, 2) := by decide +kernel
theorem dX6_draw_11 : decode cX6_draw 11 = .ok (.irem, 1) := by decide +kernel
theorem dX6_draw_12 : decode cX6_draw 12 = .ok (.ireturn, 1) := by decide +kernel
abbrev rmX6_draw : Room := { frames := 1, cells := 0, slots := 0, locals := 20 }
theorem zyX6_draw : zyOK yX6_draw 1 := ⟨by decide +kernel, by decide +kernel, by decide +kernel⟩
set_option maxHeartbeats 4000000 in
set_option maxRecDepth 100000 in
theorem wX6_draw {G : ZG} (a0 : Int32) (S : ZS) (h0 : zFix G cX6_draw RX6 1 (some .int) rmX6_draw) (C : Option Int32 → Prop) (hC : ¬ C none) (hE : ∀ v : Int32, C (some v) → zEnd G (some (.int v)) S rmX6_draw) : zV G 1 S 0 0 0 [(0, .int a0)] [] (C (fX6_draw a0)) := by
  unfold fX6_draw
  refine zr_sipush (25173 : Int32) h0 (by decide) dX6_draw_0 (n := 3) rfl ?_
  refine zr_iload_n h0 dX6_draw_3 rfl (n := 4) rfl ?_
  refine zr_imul h0 dX6_draw_4 (n := 5) rfl ?_
  refine zr_sipush (13849 : Int32) h0 (by decide) dX6_draw_5 (n := 8) rfl ?_
  refine zr_iadd h0 dX6_draw_8 (n := 9) rfl ?_
  refine zr_ldc h0 zw_1033 dX6_draw_9 (n := 11) rfl ?_
  refine zr_iremK h0 (by decide) dX6_draw_11 (n := 12) rfl ?_
  exact zr_iret h0 rfl dX6_draw_12 (hE _) (by decide) (by decide)
theorem kX6_draw (l : Launch) (D : ZD) (z0 : Nat) (a0 : Int32) (S : ZS) (x : Int32) (hf : fX6_draw a0 = some x) : zMet l D z0 yX6_draw cX6_draw 1 (some .int) rmX6_draw [.int a0] S (some (.int x)) S :=
  zMet_of (by decide) (Nat.le_of_ble_eq_true rfl) (fun G h0 hini hE => wX6_draw a0 S h0 (fun o => o = some x) (fun h => nomatch h) (fun v h => by cases h; exact hE)) hf
theorem dX6_walk_0 : decode cX6_walk 0 = .ok (.aload_n 0, 1) := by decide +kernel
theorem dX6_walk_1 : decode cX6_walk 1 = .ok (.iload_n 1, 1) := by decide +kernel
theorem dX6_walk_2 : decode cX6_walk 2 = .ok (.invokevirtual 99, 3) := by decide +kernel
theorem dX6_walk_5 : decode cX6_walk 5 = .ok (.istore 4, 2) := by decide +kernel
theorem dX6_walk_7 : decode cX6_walk 7 = .ok (.aload_n 0, 1) := by decide +kernel
theorem dX6_walk_8 : decode cX6_walk 8 = .ok (.iload 4, 2) := by decide +kernel
theorem dX6_walk_10 : decode cX6_walk 10 = .ok (.ifCond .ne 7, 3) := by decide +kernel
theorem dX6_walk_13 : decode cX6_walk 13 = .ok (.iconst 1, 1) := by decide +kernel
theorem dX6_walk_14 : decode cX6_walk 14 = .ok (.goto 29, 3) := by decide +kernel
theorem dX6_walk_17 : decode cX6_walk 17 = .ok (.iload_n 2, 1) := by decide +kernel
theorem dX6_walk_18 : decode cX6_walk 18 = .ok (.iconst 0, 1) := by decide +kernel
theorem dX6_walk_19 : decode cX6_walk 19 = .ok (.ldc 141, 2) := by decide +kernel
theorem dX6_walk_21 : decode cX6_walk 21 = .ok (.invokestatic 57, 3) := by decide +kernel
theorem dX6_walk_24 : decode cX6_walk 24 = .ok (.ifCond .eq 18, 3) := by decide +kernel
theorem dX6_walk_27 : decode cX6_walk 27 = .ok (.iload_n 3, 1) := by decide +kernel
theorem dX6_walk_28 : decode cX6_walk 28 = .ok (.iconst 1, 1) := by decide +kernel
theorem dX6_walk_29 : decode cX6_walk 29 = .ok (.sipush 200, 3) := by decide +kernel
theorem dX6_walk_32 : decode cX6_walk 32 = .ok (.invokestatic 57, 3) := by decide +kernel
theorem dX6_walk_35 : decode cX6_walk 35 = .ok (.ifCond .eq 7, 3) := by decide +kernel
theorem dX6_walk_38 : decode cX6_walk 38 = .ok (.iconst 0, 1) := by decide +kernel
theorem dX6_walk_39 : decode cX6_walk 39 = .ok (.goto 4, 3) := by decide +kernel
theorem dX6_walk_42 : decode cX6_walk 42 = .ok (.iconst 2, 1) := by decide +kernel
theorem dX6_walk_43 : decode cX6_walk 43 = .ok (.invokevirtual 64, 3) := by decide +kernel
theorem dX6_walk_46 : decode cX6_walk 46 = .ok (.ifCond .ne 5, 3) := by decide +kernel
theorem dX6_walk_49 : decode cX6_walk 49 = .ok (.iconst 0, 1) := by decide +kernel
theorem dX6_walk_50 : decode cX6_walk 50 = .ok (.ireturn, 1) := by decide +kernel
theorem dX6_walk_51 : decode cX6_walk 51 = .ok (.iload_n 2, 1) := by decide +kernel
theorem dX6_walk_52 : decode cX6_walk 52 = .ok (.istore 5, 2) := by decide +kernel
theorem dX6_walk_54 : decode cX6_walk 54 = .ok (.iconst 0, 1) := by decide +kernel
theorem dX6_walk_55 : decode cX6_walk 55 = .ok (.istore 6, 2) := by decide +kernel
theorem dX6_walk_57 : decode cX6_walk 57 = .ok (.iconst 0, 1) := by decide +kernel
theorem dX6_walk_58 : decode cX6_walk 58 = .ok (.istore 7, 2) := by decide +kernel
theorem dX6_walk_60 : decode cX6_walk 60 = .ok (.iload 7, 2) := by decide +kernel
theorem dX6_walk_62 : decode cX6_walk 62 = .ok (.iload_n 3, 1) := by decide +kernel
theorem dX6_walk_63 : decode cX6_walk 63 = .ok (.if_icmp .ge 107, 3) := by decide +kernel
theorem dX6_walk_66 : decode cX6_walk 66 = .ok (.aload_n 0, 1) := by decide +kernel
theorem dX6_walk_67 : decode cX6_walk 67 = .ok (.getfield 32, 3) := by decide +kernel
theorem dX6_walk_70 : decode cX6_walk 70 = .ok (.iload_n 1, 1) := by decide +kernel
theorem dX6_walk_71 : decode cX6_walk 71 = .ok (.iaload, 1) := by decide +kernel
theorem dX6_walk_72 : decode cX6_walk 72 = .ok (.ifCond .le 98, 3) := by decide +kernel
theorem dX6_walk_75 : decode cX6_walk 75 = .ok (.aload_n 0, 1) := by decide +kernel
theorem dX6_walk_76 : decode cX6_walk 76 = .ok (.getfield 32, 3) := by decide +kernel
theorem dX6_walk_79 : decode cX6_walk 79 = .ok (.iload_n 1, 1) := by decide +kernel
theorem dX6_walk_80 : decode cX6_walk 80 = .ok (.iaload, 1) := by decide +kernel
theorem dX6_walk_81 : decode cX6_walk 81 = .ok (.istore 8, 2) := by decide +kernel
theorem dX6_walk_83 : decode cX6_walk 83 = .ok (.iload 5, 2) := by decide +kernel
theorem dX6_walk_85 : decode cX6_walk 85 = .ok (.invokestatic 142, 3) := by decide +kernel
theorem dX6_walk_88 : decode cX6_walk 88 = .ok (.istore 5, 2) := by decide +kernel
theorem dX6_walk_90 : decode cX6_walk 90 = .ok (.iload 5, 2) := by decide +kernel
theorem dX6_walk_92 : decode cX6_walk 92 = .ok (.iload 8, 2) := by decide +kernel
theorem dX6_walk_94 : decode cX6_walk 94 = .ok (.irem, 1) := by decide +kernel
theorem dX6_walk_95 : decode cX6_walk 95 = .ok (.istore 9, 2) := by decide +kernel
theorem dX6_walk_97 : decode cX6_walk 97 = .ok (.iload 5, 2) := by decide +kernel
theorem dX6_walk_99 : decode cX6_walk 99 = .ok (.invokestatic 142, 3) := by decide +kernel
theorem dX6_walk_102 : decode cX6_walk 102 = .ok (.istore 5, 2) := by decide +kernel
theorem dX6_walk_104 : decode cX6_walk 104 = .ok (.iload 5, 2) := by decide +kernel
theorem dX6_walk_106 : decode cX6_walk 106 = .ok (.iload 8, 2) := by decide +kernel
theorem dX6_walk_108 : decode cX6_walk 108 = .ok (.irem, 1) := by decide +kernel
theorem dX6_walk_109 : decode cX6_walk 109 = .ok (.istore 10, 2) := by decide +kernel
theorem dX6_walk_111 : decode cX6_walk 111 = .ok (.iload 5, 2) := by decide +kernel
theorem dX6_walk_113 : decode cX6_walk 113 = .ok (.invokestatic 142, 3) := by decide +kernel
theorem dX6_walk_116 : decode cX6_walk 116 = .ok (.istore 5, 2) := by decide +kernel
theorem dX6_walk_118 : decode cX6_walk 118 = .ok (.iload 9, 2) := by decide +kernel
theorem dX6_walk_120 : decode cX6_walk 120 = .ok (.iload 10, 2) := by decide +kernel
theorem dX6_walk_122 : decode cX6_walk 122 = .ok (.if_icmp .eq 32, 3) := by decide +kernel
theorem dX6_walk_125 : decode cX6_walk 125 = .ok (.aload_n 0, 1) := by decide +kernel
theorem dX6_walk_126 : decode cX6_walk 126 = .ok (.iload_n 1, 1) := by decide +kernel
theorem dX6_walk_127 : decode cX6_walk 127 = .ok (.iload 9, 2) := by decide +kernel
theorem dX6_walk_129 : decode cX6_walk 129 = .ok (.iload 10, 2) := by decide +kernel
theorem dX6_walk_131 : decode cX6_walk 131 = .ok (.iload 5, 2) := by decide +kernel
theorem dX6_walk_133 : decode cX6_walk 133 = .ok (.iconst 3, 1) := by decide +kernel
theorem dX6_walk_134 : decode cX6_walk 134 = .ok (.irem, 1) := by decide +kernel
theorem dX6_walk_135 : decode cX6_walk 135 = .ok (.invokevirtual 117, 3) := by decide +kernel
theorem dX6_walk_138 : decode cX6_walk 138 = .ok (.ifCond .eq 16, 3) := by decide +kernel
theorem dX6_walk_141 : decode cX6_walk 141 = .ok (.aload_n 0, 1) := by decide +kernel
theorem dX6_walk_142 : decode cX6_walk 142 = .ok (.iload_n 1, 1) := by decide +kernel
theorem dX6_walk_143 : decode cX6_walk 143 = .ok (.iload 9, 2) := by decide +kernel
theorem dX6_walk_145 : decode cX6_walk 145 = .ok (.iload 10, 2) := by decide +kernel
theorem dX6_walk_147 : decode cX6_walk 147 = .ok (.iload 5, 2) := by decide +kernel
theorem dX6_walk_149 : decode cX6_walk 149 = .ok (.iconst 3, 1) := by decide +kernel
theorem dX6_walk_150 : decode cX6_walk 150 = .ok (.irem, 1) := by decide +kernel
theorem dX6_walk_151 : decode cX6_walk 151 = .ok (.invokevirtual 120, 3) := by decide +kernel
theorem dX6_walk_154 : decode cX6_walk 154 = .ok (.iload 6, 2) := by decide +kernel
theorem dX6_walk_156 : decode cX6_walk 156 = .ok (.aload_n 0, 1) := by decide +kernel
theorem dX6_walk_157 : decode cX6_walk 157 = .ok (.iload_n 1, 1) := by decide +kernel
theorem dX6_walk_158 : decode cX6_walk 158 = .ok (.invokevirtual 136, 3) := by decide +kernel
theorem dX6_walk_161 : decode cX6_walk 161 = .ok (.iadd, 1) := by decide +kernel
theorem dX6_walk_162 : decode cX6_walk 162 = .ok (.istore 6, 2) := by decide +kernel
theorem dX6_walk_164 : decode cX6_walk 164 = .ok (.iinc 7 1, 3) := by decide +kernel
theorem dX6_walk_167 : decode cX6_walk 167 = .ok (.goto (-107), 3) := by decide +kernel
theorem dX6_walk_170 : decode cX6_walk 170 = .ok (.iload 5, 2) := by decide +kernel
theorem dX6_walk_172 : decode cX6_walk 172 = .ok (.ireturn, 1) := by decide +kernel
abbrev rmX6_walk : Room := { frames := 6, cells := 0, slots := 0, locals := 140 }
theorem zyX6_walk : zyOK yX6_walk 3 := ⟨by decide +kernel, by decide +kernel, by decide +kernel⟩
set_option maxHeartbeats 4000000 in
set_option maxRecDepth 100000 in
theorem wX6_walk {G : ZG} (a0 : Nat) (a1 : Int32) (a2 : Int32) (a3 : Int32) (S : ZS) (h0 : zFix G cX6_walk RX6 11 (some .int) rmX6_walk) (C : Option (Int32 × ZS) → Prop) (hC : ¬ C none) (hE : ∀ (v : Int32) (S1 : ZS), C (some (v, S1)) → zEnd G (some (.int v)) S1 rmX6_walk) : zV G 11 S 0 0 0 [(0, .ref a0), (1, .int a1), (2, .int a2), (3, .int a3)] [] (C (fX6_walk a0 a1 a2 a3 S)) := by
  have J170 : ∀ (l5_170 : Int32) (S_170 : ZS), zV G 11 S_170 0 0 170 [(5, .int l5_170)] [] (C (fX6_walk_J170 l5_170 S_170)) := by
    intro l5_170 S_170
    unfold fX6_walk_J170
    refine zr_iload h0 dX6_walk_170 rfl (n := 172) rfl ?_
    exact zr_iret h0 rfl dX6_walk_172 (hE _ _) (by decide) (by decide)
  have J43 : ∀ (l0_43 : Nat) (l1_43 : Int32) (l2_43 : Int32) (l3_43 : Int32) (s0_43 : Nat) (s1_43 : Int32) (S_43 : ZS), zV G 11 S_43 0 0 43 [(0, .ref l0_43), (1, .int l1_43), (2, .int l2_43), (3, .int l3_43)] [.int s1_43, .ref s0_43] (C (fX6_walk_J43 l0_43 l1_43 l2_43 l3_43 s0_43 s1_43 S_43)) := by
    intro l0_43 l1_43 l2_43 l3_43 s0_43 s1_43 S_43
    unfold fX6_walk_J43
    refine zr_cMI C hC 0 0 (fun x hx => zk_V h0 zcX6 (zcl_ex hx) (fun l D z0 => kX6_goesWell l D z0 s0_43 s1_43 S_43 x (zcl_of hx)) zw_886 zw_888 zs_34 zw_5 zw_889 rfl zyX6_goesWell (As := [.int s1_43]) (st := []) rfl (by decide) rfl (Nat.le_of_ble_eq_true rfl) (by decide) dX6_walk_43) rfl rfl (n := 46) rfl (fun x29 => ?_)
    refine zr_if_ne C (tgt := 51) h0 dX6_walk_46 (by decide) (n := 49) rfl ?_ ?_
    · refine zv_sub (lv' := []) ?_ (zsub_of [] rfl)
      refine zr_iconst (0 : Int32) h0 (by decide) dX6_walk_49 (n := 50) rfl ?_
      exact zr_iret h0 rfl dX6_walk_50 (hE _ _) (by decide) (by decide)
    · refine zr_iload_n h0 dX6_walk_51 rfl (n := 52) rfl ?_
      refine zr_istore [(0, .ref l0_43), (1, .int l1_43), (2, .int l2_43), (3, .int l3_43), (5, .int l2_43)] h0 dX6_walk_52 (by decide) rfl (n := 54) rfl ?_
      refine zr_iconst (0 : Int32) h0 (by decide) dX6_walk_54 (n := 55) rfl ?_
      refine zr_istore [(0, .ref l0_43), (1, .int l1_43), (2, .int l2_43), (3, .int l3_43), (5, .int l2_43), (6, .int (0 : Int32))] h0 dX6_walk_55 (by decide) rfl (n := 57) rfl ?_
      refine zr_iconst (0 : Int32) h0 (by decide) dX6_walk_57 (n := 58) rfl ?_
      refine zr_istore [(0, .ref l0_43), (1, .int l1_43), (2, .int l2_43), (3, .int l3_43), (5, .int l2_43), (6, .int (0 : Int32)), (7, .int (0 : Int32))] h0 dX6_walk_58 (by decide) rfl (n := 60) rfl ?_
      refine zv_sub (lv' := [(0, .ref l0_43), (1, .int l1_43), (3, .int l3_43), (5, .int l2_43), (6, .int (0 : Int32)), (7, .int (0 : Int32))]) ?_ (zsub_of [0, 1, 3, 4, 5, 6] rfl)
      refine zr_loop hC (fX6_walk_B60 l0_43 l1_43 l3_43) (fun y => [(0, .ref l0_43), (1, .int l1_43), (3, .int l3_43), (5, .int y.1), (6, .int y.2.1), (7, .int y.2.2.1)]) (fun y => y.2.2.2) zF (l2_43, (0 : Int32), (0 : Int32), x29.2) (fun C60 hC60 hX60 hL60 t60 => ?_)
      have J154 : ∀ (l5_154 : Int32) (l6_154 : Int32) (l7_154 : Int32) (S_154 : ZS), zV G 11 S_154 0 0 154 [(0, .ref l0_43), (1, .int l1_43), (3, .int l3_43), (5, .int l5_154), (6, .int l6_154), (7, .int l7_154)] [] (C60 (fX6_walk_J154 l0_43 l1_43 l3_43 l5_154 l6_154 l7_154 S_154)) := by
        intro l5_154 l6_154 l7_154 S_154
        unfold fX6_walk_J154
        refine zr_iload h0 dX6_walk_154 rfl (n := 156) rfl ?_
        refine zr_aload_n h0 dX6_walk_156 rfl (n := 157) rfl ?_
        refine zr_iload_n h0 dX6_walk_157 rfl (n := 158) rfl ?_
        refine zr_cMI C60 hC60 0 0 (fun x hx => zk_V h0 zcX6 (zcl_ex hx) (fun l D z0 => kX6_reduceAll l D z0 l0_43 l1_43 S_154 x (zcl_of hx)) zw_1005 zw_1007 zs_47 zw_5 zw_1008 rfl zyX6_reduceAll (As := [.int l1_43]) (st := [.int l6_154]) rfl (by decide) rfl (Nat.le_of_ble_eq_true rfl) (by decide) dX6_walk_158) rfl rfl (n := 161) rfl (fun x30 => ?_)
        refine zr_iadd h0 dX6_walk_161 (n := 162) rfl ?_
        refine zr_istore [(0, .ref l0_43), (1, .int l1_43), (3, .int l3_43), (5, .int l5_154), (6, .int (l6_154 + x30.1)), (7, .int l7_154)] h0 dX6_walk_162 (by decide) rfl (n := 164) rfl ?_
        refine zr_iinc (1 : Int32) [(0, .ref l0_43), (1, .int l1_43), (3, .int l3_43), (5, .int l5_154), (6, .int (l6_154 + x30.1)), (7, .int (l7_154 + (1 : Int32)))] h0 dX6_walk_164 rfl (by decide) rfl rfl (n := 167) rfl ?_
        refine zr_goto (tgt := 60) h0 dX6_walk_167 (by decide) ?_
        exact hL60 (l5_154, l6_154 + x30.1, l7_154 + (1 : Int32), x30.2)
      unfold fX6_walk_B60
      refine zr_iload h0 dX6_walk_60 rfl (n := 62) rfl ?_
      refine zr_iload_n h0 dX6_walk_62 rfl (n := 63) rfl ?_
      refine zr_icmp_ge C60 (tgt := 170) h0 dX6_walk_63 (by decide) (n := 66) rfl ?_ ?_
      · refine zr_ex hX60 ?_
        refine zv_sub (lv' := [(5, .int t60.1)]) ?_ (zsub_of [3] rfl)
        exact J170 t60.1 t60.2.2.2
      · refine zr_aload_n h0 dX6_walk_66 rfl (n := 67) rfl ?_
        refine zr_getR C60 hC60 h0 zcX6 (k := 10) (by decide) zw_829 dX6_walk_67 (n := 70) rfl (fun v31 => ?_)
        refine zr_iload_n h0 dX6_walk_70 rfl (n := 71) rfl ?_
        refine zr_iaload C60 hC60 h0 dX6_walk_71 (n := 72) rfl (fun v32 => ?_)
        refine zr_if_le C60 (tgt := 170) h0 dX6_walk_72 (by decide) (n := 75) rfl ?_ ?_
        · refine zr_ex hX60 ?_
          refine zv_sub (lv' := [(5, .int t60.1)]) ?_ (zsub_of [3] rfl)
          exact J170 t60.1 t60.2.2.2
        · refine zr_aload_n h0 dX6_walk_75 rfl (n := 76) rfl ?_
          refine zr_getR C60 hC60 h0 zcX6 (k := 10) (by decide) zw_829 dX6_walk_76 (n := 79) rfl (fun v33 => ?_)
          refine zr_iload_n h0 dX6_walk_79 rfl (n := 80) rfl ?_
          refine zr_iaload C60 hC60 h0 dX6_walk_80 (n := 81) rfl (fun v34 => ?_)
          refine zr_istore [(0, .ref l0_43), (1, .int l1_43), (3, .int l3_43), (5, .int t60.1), (6, .int t60.2.1), (7, .int t60.2.2.1), (8, .int v34)] h0 dX6_walk_81 (by decide) rfl (n := 83) rfl ?_
          refine zr_iload h0 dX6_walk_83 rfl (n := 85) rfl ?_
          refine zr_cRI C60 hC60 0 0 (fun x hx => zk_S h0 (fun l D z0 => kX6_draw l D z0 t60.1 t60.2.2.2 x hx) zw_1030 zw_1031 zw_5 zw_1032 zyX6_draw (As := [.int t60.1]) (st := []) rfl (by decide) rfl (Nat.le_of_ble_eq_true rfl) (by decide) dX6_walk_85) rfl rfl (n := 88) rfl (fun x35 => ?_)
          refine zr_istore [(0, .ref l0_43), (1, .int l1_43), (3, .int l3_43), (5, .int x35), (6, .int t60.2.1), (7, .int t60.2.2.1), (8, .int v34)] h0 dX6_walk_88 (by decide) rfl (n := 90) rfl ?_
          refine zr_iload h0 dX6_walk_90 rfl (n := 92) rfl ?_
          refine zr_iload h0 dX6_walk_92 rfl (n := 94) rfl ?_
          refine zr_irem C60 hC60 h0 dX6_walk_94 (n := 95) rfl (fun v36 => ?_)
          refine zr_istore [(0, .ref l0_43), (1, .int l1_43), (3, .int l3_43), (5, .int x35), (6, .int t60.2.1), (7, .int t60.2.2.1), (8, .int v34), (9, .int v36)] h0 dX6_walk_95 (by decide) rfl (n := 97) rfl ?_
          refine zr_iload h0 dX6_walk_97 rfl (n := 99) rfl ?_
          refine zr_cRI C60 hC60 0 0 (fun x hx => zk_S h0 (fun l D z0 => kX6_draw l D z0 x35 t60.2.2.2 x hx) zw_1030 zw_1031 zw_5 zw_1032 zyX6_draw (As := [.int x35]) (st := []) rfl (by decide) rfl (Nat.le_of_ble_eq_true rfl) (by decide) dX6_walk_99) rfl rfl (n := 102) rfl (fun x37 => ?_)
          refine zr_istore [(0, .ref l0_43), (1, .int l1_43), (3, .int l3_43), (5, .int x37), (6, .int t60.2.1), (7, .int t60.2.2.1), (8, .int v34), (9, .int v36)] h0 dX6_walk_102 (by decide) rfl (n := 104) rfl ?_
          refine zr_iload h0 dX6_walk_104 rfl (n := 106) rfl ?_
          refine zr_iload h0 dX6_walk_106 rfl (n := 108) rfl ?_
          refine zr_irem C60 hC60 h0 dX6_walk_108 (n := 109) rfl (fun v38 => ?_)
          refine zr_istore [(0, .ref l0_43), (1, .int l1_43), (3, .int l3_43), (5, .int x37), (6, .int t60.2.1), (7, .int t60.2.2.1), (8, .int v34), (9, .int v36), (10, .int v38)] h0 dX6_walk_109 (by decide) rfl (n := 111) rfl ?_
          refine zr_iload h0 dX6_walk_111 rfl (n := 113) rfl ?_
          refine zr_cRI C60 hC60 0 0 (fun x hx => zk_S h0 (fun l D z0 => kX6_draw l D z0 x37 t60.2.2.2 x hx) zw_1030 zw_1031 zw_5 zw_1032 zyX6_draw (As := [.int x37]) (st := []) rfl (by decide) rfl (Nat.le_of_ble_eq_true rfl) (by decide) dX6_walk_113) rfl rfl (n := 116) rfl (fun x39 => ?_)
          refine zr_istore [(0, .ref l0_43), (1, .int l1_43), (3, .int l3_43), (5, .int x39), (6, .int t60.2.1), (7, .int t60.2.2.1), (8, .int v34), (9, .int v36), (10, .int v38)] h0 dX6_walk_116 (by decide) rfl (n := 118) rfl ?_
          refine zr_iload h0 dX6_walk_118 rfl (n := 120) rfl ?_
          refine zr_iload h0 dX6_walk_120 rfl (n := 122) rfl ?_
          refine zr_icmp_eq C60 (tgt := 154) h0 dX6_walk_122 (by decide) (n := 125) rfl ?_ ?_
          · refine zv_sub (lv' := [(0, .ref l0_43), (1, .int l1_43), (3, .int l3_43), (5, .int x39), (6, .int t60.2.1), (7, .int t60.2.2.1)]) ?_ (zsub_of [0, 1, 2, 3, 4, 5] rfl)
            exact J154 x39 t60.2.1 t60.2.2.1 t60.2.2.2
          · refine zv_sub (lv' := [(0, .ref l0_43), (1, .int l1_43), (3, .int l3_43), (5, .int x39), (6, .int t60.2.1), (7, .int t60.2.2.1), (9, .int v36), (10, .int v38)]) ?_ (zsub_of [0, 1, 2, 3, 4, 5, 7, 8] rfl)
            refine zr_aload_n h0 dX6_walk_125 rfl (n := 126) rfl ?_
            refine zr_iload_n h0 dX6_walk_126 rfl (n := 127) rfl ?_
            refine zr_iload h0 dX6_walk_127 rfl (n := 129) rfl ?_
            refine zr_iload h0 dX6_walk_129 rfl (n := 131) rfl ?_
            refine zr_iload h0 dX6_walk_131 rfl (n := 133) rfl ?_
            refine zr_iconst (3 : Int32) h0 (by decide) dX6_walk_133 (n := 134) rfl ?_
            refine zr_iremK h0 (by decide) dX6_walk_134 (n := 135) rfl ?_
            refine zr_cRI C60 hC60 0 0 (fun x hx => zk_V h0 zcX6 (zcl_ex hx) (fun l D z0 => kX6_areAlike l D z0 l0_43 l1_43 v36 v38 (x39 % (3 : Int32)) t60.2.2.2 x (zcl_of hx)) zw_989 zw_991 zs_44 zw_5 zw_992 rfl zyX6_areAlike (As := [.int l1_43, .int v36, .int v38, .int (x39 % (3 : Int32))]) (st := []) rfl (by decide) rfl (Nat.le_of_ble_eq_true rfl) (by decide) dX6_walk_135) rfl rfl (n := 138) rfl (fun x40 => ?_)
            refine zr_if_eq C60 (tgt := 154) h0 dX6_walk_138 (by decide) (n := 141) rfl ?_ ?_
            · refine zv_sub (lv' := [(0, .ref l0_43), (1, .int l1_43), (3, .int l3_43), (5, .int x39), (6, .int t60.2.1), (7, .int t60.2.2.1)]) ?_ (zsub_of [0, 1, 2, 3, 4, 5] rfl)
              exact J154 x39 t60.2.1 t60.2.2.1 t60.2.2.2
            · refine zr_aload_n h0 dX6_walk_141 rfl (n := 142) rfl ?_
              refine zr_iload_n h0 dX6_walk_142 rfl (n := 143) rfl ?_
              refine zr_iload h0 dX6_walk_143 rfl (n := 145) rfl ?_
              refine zr_iload h0 dX6_walk_145 rfl (n := 147) rfl ?_
              refine zr_iload h0 dX6_walk_147 rfl (n := 149) rfl ?_
              refine zr_iconst (3 : Int32) h0 (by decide) dX6_walk_149 (n := 150) rfl ?_
              refine zr_iremK h0 (by decide) dX6_walk_150 (n := 151) rfl ?_
              refine zr_cMV C60 hC60 0 0 (fun x hx => zk_V h0 zcX6 (zcl_ex hx) (fun l D z0 => kX6_turn l D z0 l0_43 l1_43 v36 v38 (x39 % (3 : Int32)) t60.2.2.2 x (zcl_of hx)) zw_993 zw_995 zs_45 zw_5 zw_996 rfl zyX6_turn (As := [.int l1_43, .int v36, .int v38, .int (x39 % (3 : Int32))]) (st := []) rfl (by decide) rfl (Nat.le_of_ble_eq_true rfl) (by decide) dX6_walk_151) rfl rfl (n := 154) rfl (fun x41 => ?_)
              refine zv_sub (lv' := [(0, .ref l0_43), (1, .int l1_43), (3, .int l3_43), (5, .int x39), (6, .int t60.2.1), (7, .int t60.2.2.1)]) ?_ (zsub_of [0, 1, 2, 3, 4, 5] rfl)
              exact J154 x39 t60.2.1 t60.2.2.1 x41
  have J42 : ∀ (l0_42 : Nat) (l1_42 : Int32) (l2_42 : Int32) (l3_42 : Int32) (s0_42 : Nat) (S_42 : ZS), zV G 11 S_42 0 0 42 [(0, .ref l0_42), (1, .int l1_42), (2, .int l2_42), (3, .int l3_42)] [.ref s0_42] (C (fX6_walk_J42 l0_42 l1_42 l2_42 l3_42 s0_42 S_42)) := by
    intro l0_42 l1_42 l2_42 l3_42 s0_42 S_42
    unfold fX6_walk_J42
    refine zr_iconst (2 : Int32) h0 (by decide) dX6_walk_42 (n := 43) rfl ?_
    exact J43 l0_42 l1_42 l2_42 l3_42 s0_42 (2 : Int32) S_42
  unfold fX6_walk
  refine zr_aload_n h0 dX6_walk_0 rfl (n := 1) rfl ?_
  refine zr_iload_n h0 dX6_walk_1 rfl (n := 2) rfl ?_
  refine zr_cRI C hC 0 0 (fun x hx => zk_V h0 zcX6 (zcl_ex hx) (fun l D z0 => kX6_isWay l D z0 a0 a1 S x (zcl_of hx)) zw_958 zw_960 zs_39 zw_5 zw_961 rfl zyX6_isWay (As := [.int a1]) (st := []) rfl (by decide) rfl (Nat.le_of_ble_eq_true rfl) (by decide) dX6_walk_2) rfl rfl (n := 5) rfl (fun x1 => ?_)
  refine zr_istore [(0, .ref a0), (1, .int a1), (2, .int a2), (3, .int a3), (4, .int x1)] h0 dX6_walk_5 (by decide) rfl (n := 7) rfl ?_
  refine zr_aload_n h0 dX6_walk_7 rfl (n := 8) rfl ?_
  refine zr_iload h0 dX6_walk_8 rfl (n := 10) rfl ?_
  refine zr_if_ne C (tgt := 17) h0 dX6_walk_10 (by decide) (n := 13) rfl ?_ ?_
  · refine zv_sub (lv' := [(0, .ref a0), (1, .int a1), (2, .int a2), (3, .int a3)]) ?_ (zsub_of [0, 1, 2, 3] rfl)
    refine zr_iconst (1 : Int32) h0 (by decide) dX6_walk_13 (n := 14) rfl ?_
    refine zr_goto (tgt := 43) h0 dX6_walk_14 (by decide) ?_
    exact J43 a0 a1 a2 a3 a0 (1 : Int32) S
  · refine zv_sub (lv' := [(0, .ref a0), (1, .int a1), (2, .int a2), (3, .int a3)]) ?_ (zsub_of [0, 1, 2, 3] rfl)
    refine zr_iload_n h0 dX6_walk_17 rfl (n := 18) rfl ?_
    refine zr_iconst (0 : Int32) h0 (by decide) dX6_walk_18 (n := 19) rfl ?_
    refine zr_ldc h0 zw_1029 dX6_walk_19 (n := 21) rfl ?_
    refine zr_cRI C hC 0 0 (fun x hx => zk_S h0 (fun l D z0 => kX6_in l D z0 a2 (0 : Int32) (65535 : Int32) S x hx) zw_898 zw_899 zw_5 zw_900 zyX6_in (As := [.int a2, .int (0 : Int32), .int (65535 : Int32)]) (st := [.ref a0]) rfl (by decide) rfl (Nat.le_of_ble_eq_true rfl) (by decide) dX6_walk_21) rfl rfl (n := 24) rfl (fun x27 => ?_)
    refine zr_if_eq C (tgt := 42) h0 dX6_walk_24 (by decide) (n := 27) rfl ?_ ?_
    · exact J42 a0 a1 a2 a3 a0 S
    · refine zr_iload_n h0 dX6_walk_27 rfl (n := 28) rfl ?_
      refine zr_iconst (1 : Int32) h0 (by decide) dX6_walk_28 (n := 29) rfl ?_
      refine zr_sipush (200 : Int32) h0 (by decide) dX6_walk_29 (n := 32) rfl ?_
      refine zr_cRI C hC 0 0 (fun x hx => zk_S h0 (fun l D z0 => kX6_in l D z0 a3 (1 : Int32) (200 : Int32) S x hx) zw_898 zw_899 zw_5 zw_900 zyX6_in (As := [.int a3, .int (1 : Int32), .int (200 : Int32)]) (st := [.ref a0]) rfl (by decide) rfl (Nat.le_of_ble_eq_true rfl) (by decide) dX6_walk_32) rfl rfl (n := 35) rfl (fun x28 => ?_)
      refine zr_if_eq C (tgt := 42) h0 dX6_walk_35 (by decide) (n := 38) rfl ?_ ?_
      · exact J42 a0 a1 a2 a3 a0 S
      · refine zr_iconst (0 : Int32) h0 (by decide) dX6_walk_38 (n := 39) rfl ?_
        refine zr_goto (tgt := 43) h0 dX6_walk_39 (by decide) ?_
        exact J43 a0 a1 a2 a3 a0 (0 : Int32) S
theorem kX6_walk (l : Launch) (D : ZD) (z0 : Nat) (a0 : Nat) (a1 : Int32) (a2 : Int32) (a3 : Int32) (S : ZS) (x : Int32 × ZS) (hf : fX6_walk a0 a1 a2 a3 S = some x) : zMet l D z0 yX6_walk cX6_walk 11 (some .int) rmX6_walk [.ref a0, .int a1, .int a2, .int a3] S (some (.int x.1)) x.2 :=
  zMet_of (by decide) (Nat.le_of_ble_eq_true rfl) (fun G h0 hini hE => wX6_walk a0 a1 a2 a3 S h0 (fun o => o = some x) (fun h => nomatch h) (fun v S1 h => by cases h; exact hE)) hf
theorem dX6_at_0 : decode cX6_at 0 = .ok (.aload_n 0, 1) := by decide +kernel
theorem dX6_at_1 : decode cX6_at 1 = .ok (.aload_n 0, 1) := by decide +kernel
theorem dX6_at_2 : decode cX6_at 2 = .ok (.iload_n 1, 1) := by decide +kernel
theorem dX6_at_3 : decode cX6_at 3 = .ok (.iload_n 2, 1) := by decide +kernel
theorem dX6_at_4 : decode cX6_at 4 = .ok (.iload_n 3, 1) := by decide +kernel
theorem dX6_at_5 : decode cX6_at 5 = .ok (.iload 4, 2) := by decide +kernel
theorem dX6_at_7 : decode cX6_at 7 = .ok (.invokevirtual 81, 3) := by decide +kernel
theorem dX6_at_10 : decode cX6_at 10 = .ok (.ifCond .eq 7, 3) := by decide +kernel
theorem dX6_at_13 : decode cX6_at 13 = .ok (.iconst 0, 1) := by decide +kernel
theorem dX6_at_14 : decode cX6_at 14 = .ok (.goto 4, 3) := by decide +kernel
theorem dX6_at_17 : decode cX6_at 17 = .ok (.iconst 1, 1) := by decide +kernel
theorem dX6_at_18 : decode cX6_at 18 = .ok (.invokevirtual 64, 3) := by decide +kernel
theorem dX6_at_21 : decode cX6_at 21 = .ok (.ifCond .eq 23, 3) := by decide +kernel
theorem dX6_at_24 : decode cX6_at 24 = .ok (.aload_n 0, 1) := by decide +kernel
theorem dX6_at_25 : decode cX6_at 25 = .ok (.getfield 17, 3) := by decide +kernel
theorem dX6_at_28 : decode cX6_at 28 = .ok (.bipush 64, 2) := by decide +kernel
theorem dX6_at_30 : decode cX6_at 30 = .ok (.iload_n 1, 1) := by decide +kernel
theorem dX6_at_31 : decode cX6_at 31 = .ok (.imul, 1) := by decide +kernel
theorem dX6_at_32 : decode cX6_at 32 = .ok (.iload_n 2, 1) := by decide +kernel
theorem dX6_at_33 : decode cX6_at 33 = .ok (.iload_n 3, 1) := by decide +kernel
theorem dX6_at_34 : decode cX6_at 34 = .ok (.iload 4, 2) := by decide +kernel
theorem dX6_at_36 : decode cX6_at 36 = .ok (.invokestatic 75, 3) := by decide +kernel
theorem dX6_at_39 : decode cX6_at 39 = .ok (.iadd, 1) := by decide +kernel
theorem dX6_at_40 : decode cX6_at 40 = .ok (.iaload, 1) := by decide +kernel
theorem dX6_at_41 : decode cX6_at 41 = .ok (.goto 4, 3) := by decide +kernel
theorem dX6_at_44 : decode cX6_at 44 = .ok (.iconst 0, 1) := by decide +kernel
theorem dX6_at_45 : decode cX6_at 45 = .ok (.ireturn, 1) := by decide +kernel
abbrev rmX6_at : Room := { frames := 4, cells := 0, slots := 0, locals := 87 }
theorem zyX6_at : zyOK yX6_at 4 := ⟨by decide +kernel, by decide +kernel, by decide +kernel⟩
set_option maxHeartbeats 4000000 in
set_option maxRecDepth 100000 in
theorem wX6_at {G : ZG} (a0 : Nat) (a1 : Int32) (a2 : Int32) (a3 : Int32) (a4 : Int32) (S : ZS) (h0 : zFix G cX6_at RX6 5 (some .int) rmX6_at) (C : Option (Int32 × ZS) → Prop) (hC : ¬ C none) (hE : ∀ (v : Int32) (S1 : ZS), C (some (v, S1)) → zEnd G (some (.int v)) S1 rmX6_at) : zV G 5 S 0 0 0 [(0, .ref a0), (1, .int a1), (2, .int a2), (3, .int a3), (4, .int a4)] [] (C (fX6_at a0 a1 a2 a3 a4 S)) := by
  have J45 : ∀ (s0_45 : Int32) (S_45 : ZS), zV G 5 S_45 0 0 45 [] [.int s0_45] (C (fX6_at_J45 s0_45 S_45)) := by
    intro s0_45 S_45
    unfold fX6_at_J45
    exact zr_iret h0 rfl dX6_at_45 (hE _ _) (by decide) (by decide)
  have J18 : ∀ (l0_18 : Nat) (l1_18 : Int32) (l2_18 : Int32) (l3_18 : Int32) (l4_18 : Int32) (s0_18 : Nat) (s1_18 : Int32) (S_18 : ZS), zV G 5 S_18 0 0 18 [(0, .ref l0_18), (1, .int l1_18), (2, .int l2_18), (3, .int l3_18), (4, .int l4_18)] [.int s1_18, .ref s0_18] (C (fX6_at_J18 l0_18 l1_18 l2_18 l3_18 l4_18 s0_18 s1_18 S_18)) := by
    intro l0_18 l1_18 l2_18 l3_18 l4_18 s0_18 s1_18 S_18
    unfold fX6_at_J18
    refine zr_cMI C hC 0 0 (fun x hx => zk_V h0 zcX6 (zcl_ex hx) (fun l D z0 => kX6_goesWell l D z0 s0_18 s1_18 S_18 x (zcl_of hx)) zw_886 zw_888 zs_34 zw_5 zw_889 rfl zyX6_goesWell (As := [.int s1_18]) (st := []) rfl (by decide) rfl (Nat.le_of_ble_eq_true rfl) (by decide) dX6_at_18) rfl rfl (n := 21) rfl (fun x6 => ?_)
    refine zr_if_eq C (tgt := 44) h0 dX6_at_21 (by decide) (n := 24) rfl ?_ ?_
    · refine zv_sub (lv' := []) ?_ (zsub_of [] rfl)
      refine zr_iconst (0 : Int32) h0 (by decide) dX6_at_44 (n := 45) rfl ?_
      exact J45 (0 : Int32) x6.2
    · refine zr_aload_n h0 dX6_at_24 rfl (n := 25) rfl ?_
      refine zr_getR C hC h0 zcX6 (k := 4) (by decide) zw_823 dX6_at_25 (n := 28) rfl (fun v7 => ?_)
      refine zr_bipush (64 : Int32) h0 (by decide) dX6_at_28 (n := 30) rfl ?_
      refine zr_iload_n h0 dX6_at_30 rfl (n := 31) rfl ?_
      refine zr_imul h0 dX6_at_31 (n := 32) rfl ?_
      refine zr_iload_n h0 dX6_at_32 rfl (n := 33) rfl ?_
      refine zr_iload_n h0 dX6_at_33 rfl (n := 34) rfl ?_
      refine zr_iload h0 dX6_at_34 rfl (n := 36) rfl ?_
      refine zr_cRI C hC 0 0 (fun x hx => zk_S h0 (fun l D z0 => kX6_place l D z0 l2_18 l3_18 l4_18 x6.2 x hx) zw_909 zw_910 zw_5 zw_911 zyX6_place (As := [.int l2_18, .int l3_18, .int l4_18]) (st := [.int ((64 : Int32) * l1_18), .ref v7]) rfl (by decide) rfl (Nat.le_of_ble_eq_true rfl) (by decide) dX6_at_36) rfl rfl (n := 39) rfl (fun x8 => ?_)
      refine zr_iadd h0 dX6_at_39 (n := 40) rfl ?_
      refine zr_iaload C hC h0 dX6_at_40 (n := 41) rfl (fun v9 => ?_)
      refine zr_goto (tgt := 45) h0 dX6_at_41 (by decide) ?_
      refine zv_sub (lv' := []) ?_ (zsub_of [] rfl)
      exact J45 v9 x6.2
  unfold fX6_at
  refine zr_aload_n h0 dX6_at_0 rfl (n := 1) rfl ?_
  refine zr_aload_n h0 dX6_at_1 rfl (n := 2) rfl ?_
  refine zr_iload_n h0 dX6_at_2 rfl (n := 3) rfl ?_
  refine zr_iload_n h0 dX6_at_3 rfl (n := 4) rfl ?_
  refine zr_iload_n h0 dX6_at_4 rfl (n := 5) rfl ?_
  refine zr_iload h0 dX6_at_5 rfl (n := 7) rfl ?_
  refine zr_cRI C hC 0 0 (fun x hx => zk_V h0 zcX6 (zcl_ex hx) (fun l D z0 => kX6_isPlace l D z0 a0 a1 a2 a3 a4 S x (zcl_of hx)) zw_924 zw_926 zs_37 zw_5 zw_927 rfl zyX6_isPlace (As := [.int a1, .int a2, .int a3, .int a4]) (st := [.ref a0]) rfl (by decide) rfl (Nat.le_of_ble_eq_true rfl) (by decide) dX6_at_7) rfl rfl (n := 10) rfl (fun x1 => ?_)
  refine zr_if_eq C (tgt := 17) h0 dX6_at_10 (by decide) (n := 13) rfl ?_ ?_
  · refine zr_iconst (1 : Int32) h0 (by decide) dX6_at_17 (n := 18) rfl ?_
    exact J18 a0 a1 a2 a3 a4 a0 (1 : Int32) S
  · refine zr_iconst (0 : Int32) h0 (by decide) dX6_at_13 (n := 14) rfl ?_
    refine zr_goto (tgt := 18) h0 dX6_at_14 (by decide) ?_
    exact J18 a0 a1 a2 a3 a4 a0 (0 : Int32) S
theorem kX6_at (l : Launch) (D : ZD) (z0 : Nat) (a0 : Nat) (a1 : Int32) (a2 : Int32) (a3 : Int32) (a4 : Int32) (S : ZS) (x : Int32 × ZS) (hf : fX6_at a0 a1 a2 a3 a4 S = some x) : zMet l D z0 yX6_at cX6_at 5 (some .int) rmX6_at [.ref a0, .int a1, .int a2, .int a3, .int a4] S (some (.int x.1)) x.2 :=
  zMet_of (by decide) (Nat.le_of_ble_eq_true rfl) (fun G h0 hini hE => wX6_at a0 a1 a2 a3 a4 S h0 (fun o => o = some x) (fun h => nomatch h) (fun v S1 h => by cases h; exact hE)) hf
theorem dX6_inverse_0 : decode cX6_inverse 0 = .ok (.iconst 1, 1) := by decide +kernel
theorem dX6_inverse_1 : decode cX6_inverse 1 = .ok (.istore_n 2, 1) := by decide +kernel
theorem dX6_inverse_2 : decode cX6_inverse 2 = .ok (.iconst 1, 1) := by decide +kernel
theorem dX6_inverse_3 : decode cX6_inverse 3 = .ok (.istore_n 3, 1) := by decide +kernel
theorem dX6_inverse_4 : decode cX6_inverse 4 = .ok (.iload_n 3, 1) := by decide +kernel
theorem dX6_inverse_5 : decode cX6_inverse 5 = .ok (.aload_n 0, 1) := by decide +kernel
theorem dX6_inverse_6 : decode cX6_inverse 6 = .ok (.getfield 7, 3) := by decide +kernel
theorem dX6_inverse_9 : decode cX6_inverse 9 = .ok (.if_icmp .ge 27, 3) := by decide +kernel
theorem dX6_inverse_12 : decode cX6_inverse 12 = .ok (.iload_n 3, 1) := by decide +kernel
theorem dX6_inverse_13 : decode cX6_inverse 13 = .ok (.iload_n 1, 1) := by decide +kernel
theorem dX6_inverse_14 : decode cX6_inverse 14 = .ok (.imul, 1) := by decide +kernel
theorem dX6_inverse_15 : decode cX6_inverse 15 = .ok (.aload_n 0, 1) := by decide +kernel
theorem dX6_inverse_16 : decode cX6_inverse 16 = .ok (.getfield 7, 3) := by decide +kernel
theorem dX6_inverse_19 : decode cX6_inverse 19 = .ok (.irem, 1) := by decide +kernel
theorem dX6_inverse_20 : decode cX6_inverse 20 = .ok (.iconst 1, 1) := by decide +kernel
theorem dX6_inverse_21 : decode cX6_inverse 21 = .ok (.if_icmp .ne 7, 3) := by decide +kernel
theorem dX6_inverse_24 : decode cX6_inverse 24 = .ok (.iload_n 3, 1) := by decide +kernel
theorem dX6_inverse_25 : decode cX6_inverse 25 = .ok (.goto 4, 3) := by decide +kernel
theorem dX6_inverse_28 : decode cX6_inverse 28 = .ok (.iload_n 2, 1) := by decide +kernel
theorem dX6_inverse_29 : decode cX6_inverse 29 = .ok (.istore_n 2, 1) := by decide +kernel
theorem dX6_inverse_30 : decode cX6_inverse 30 = .ok (.iinc 3 1, 3) := by decide +kernel
theorem dX6_inverse_33 : decode cX6_inverse 33 = .ok (.goto (-29), 3) := by decide +kernel
theorem dX6_inverse_36 : decode cX6_inverse 36 = .ok (.iload_n 2, 1) := by decide +kernel
theorem dX6_inverse_37 : decode cX6_inverse 37 = .ok (.ireturn, 1) := by decide +kernel
abbrev rmX6_inverse : Room := { frames := 1, cells := 0, slots := 0, locals := 20 }
theorem zyX6_inverse : zyOK yX6_inverse 1 := ⟨by decide +kernel, by decide +kernel, by decide +kernel⟩
set_option maxHeartbeats 4000000 in
set_option maxRecDepth 100000 in
theorem wX6_inverse {G : ZG} (a0 : Nat) (a1 : Int32) (S : ZS) (h0 : zFix G cX6_inverse RX6 4 (some .int) rmX6_inverse) (C : Option Int32 → Prop) (hC : ¬ C none) (hE : ∀ v : Int32, C (some v) → zEnd G (some (.int v)) S rmX6_inverse) : zV G 4 S 0 0 0 [(0, .ref a0), (1, .int a1)] [] (C (fX6_inverse a0 a1 S)) := by
  unfold fX6_inverse
  refine zr_iconst (1 : Int32) h0 (by decide) dX6_inverse_0 (n := 1) rfl ?_
  refine zr_istore_n [(0, .ref a0), (1, .int a1), (2, .int (1 : Int32))] h0 dX6_inverse_1 (by decide) rfl (n := 2) rfl ?_
  refine zr_iconst (1 : Int32) h0 (by decide) dX6_inverse_2 (n := 3) rfl ?_
  refine zr_istore_n [(0, .ref a0), (1, .int a1), (2, .int (1 : Int32)), (3, .int (1 : Int32))] h0 dX6_inverse_3 (by decide) rfl (n := 4) rfl ?_
  refine zr_loop hC (fX6_inverse_B4 a0 a1 S) (fun y => [(0, .ref a0), (1, .int a1), (2, .int y.1), (3, .int y.2)]) (fun y => S) zF ((1 : Int32), (1 : Int32)) (fun C4 hC4 hX4 hL4 t4 => ?_)
  have J29 : ∀ (l3_29 : Int32) (s0_29 : Int32), zV G 4 S 0 0 29 [(0, .ref a0), (1, .int a1), (3, .int l3_29)] [.int s0_29] (C4 (fX6_inverse_J29 a0 a1 l3_29 s0_29 S)) := by
    intro l3_29 s0_29
    unfold fX6_inverse_J29
    refine zr_istore_n [(0, .ref a0), (1, .int a1), (2, .int s0_29), (3, .int l3_29)] h0 dX6_inverse_29 (by decide) rfl (n := 30) rfl ?_
    refine zr_iinc (1 : Int32) [(0, .ref a0), (1, .int a1), (2, .int s0_29), (3, .int (l3_29 + (1 : Int32)))] h0 dX6_inverse_30 rfl (by decide) rfl rfl (n := 33) rfl ?_
    refine zr_goto (tgt := 4) h0 dX6_inverse_33 (by decide) ?_
    exact hL4 (s0_29, l3_29 + (1 : Int32))
  unfold fX6_inverse_B4
  refine zr_iload_n h0 dX6_inverse_4 rfl (n := 5) rfl ?_
  refine zr_aload_n h0 dX6_inverse_5 rfl (n := 6) rfl ?_
  refine zr_getI C4 hC4 h0 zcX6 (k := 1) (by decide) zw_820 dX6_inverse_6 (n := 9) rfl (fun v4 => ?_)
  refine zr_icmp_ge C4 (tgt := 36) h0 dX6_inverse_9 (by decide) (n := 12) rfl ?_ ?_
  · refine zr_ex hX4 ?_
    refine zv_sub (lv' := [(2, .int t4.1)]) ?_ (zsub_of [2] rfl)
    refine zr_iload_n h0 dX6_inverse_36 rfl (n := 37) rfl ?_
    exact zr_iret h0 rfl dX6_inverse_37 (hE _) (by decide) (by decide)
  · refine zr_iload_n h0 dX6_inverse_12 rfl (n := 13) rfl ?_
    refine zr_iload_n h0 dX6_inverse_13 rfl (n := 14) rfl ?_
    refine zr_imul h0 dX6_inverse_14 (n := 15) rfl ?_
    refine zr_aload_n h0 dX6_inverse_15 rfl (n := 16) rfl ?_
    refine zr_getI C4 hC4 h0 zcX6 (k := 1) (by decide) zw_820 dX6_inverse_16 (n := 19) rfl (fun v5 => ?_)
    refine zr_irem C4 hC4 h0 dX6_inverse_19 (n := 20) rfl (fun v6 => ?_)
    refine zr_iconst (1 : Int32) h0 (by decide) dX6_inverse_20 (n := 21) rfl ?_
    refine zr_icmp_ne C4 (tgt := 28) h0 dX6_inverse_21 (by decide) (n := 24) rfl ?_ ?_
    · refine zv_sub (lv' := [(0, .ref a0), (1, .int a1), (3, .int t4.2)]) ?_ (zsub_of [0, 1, 3] rfl)
      refine zr_iload_n h0 dX6_inverse_24 rfl (n := 25) rfl ?_
      refine zr_goto (tgt := 29) h0 dX6_inverse_25 (by decide) ?_
      exact J29 t4.2 t4.2
    · refine zr_iload_n h0 dX6_inverse_28 rfl (n := 29) rfl ?_
      refine zv_sub (lv' := [(0, .ref a0), (1, .int a1), (3, .int t4.2)]) ?_ (zsub_of [0, 1, 3] rfl)
      exact J29 t4.2 t4.1
theorem kX6_inverse (l : Launch) (D : ZD) (z0 : Nat) (a0 : Nat) (a1 : Int32) (S : ZS) (x : Int32) (hf : fX6_inverse a0 a1 S = some x) : zMet l D z0 yX6_inverse cX6_inverse 4 (some .int) rmX6_inverse [.ref a0, .int a1] S (some (.int x)) S :=
  zMet_of (by decide) (Nat.le_of_ble_eq_true rfl) (fun G h0 hini hE => wX6_inverse a0 a1 S h0 (fun o => o = some x) (fun h => nomatch h) (fun v h => by cases h; exact hE)) hf
theorem dX6_rank_0 : decode cX6_rank 0 = .ok (.iconst 0, 1) := by decide +kernel
theorem dX6_rank_1 : decode cX6_rank 1 = .ok (.istore_n 2, 1) := by decide +kernel
theorem dX6_rank_2 : decode cX6_rank 2 = .ok (.iconst 0, 1) := by decide +kernel
theorem dX6_rank_3 : decode cX6_rank 3 = .ok (.istore_n 3, 1) := by decide +kernel
theorem dX6_rank_4 : decode cX6_rank 4 = .ok (.iload_n 3, 1) := by decide +kernel
theorem dX6_rank_5 : decode cX6_rank 5 = .ok (.bipush 16, 2) := by decide +kernel
theorem dX6_rank_7 : decode cX6_rank 7 = .ok (.if_icmp .ge 261, 3) := by decide +kernel
theorem dX6_rank_10 : decode cX6_rank 10 = .ok (.iload_n 2, 1) := by decide +kernel
theorem dX6_rank_11 : decode cX6_rank 11 = .ok (.iload_n 1, 1) := by decide +kernel
theorem dX6_rank_12 : decode cX6_rank 12 = .ok (.if_icmp .ge 256, 3) := by decide +kernel
theorem dX6_rank_15 : decode cX6_rank 15 = .ok (.iconst (-1), 1) := by decide +kernel
theorem dX6_rank_16 : decode cX6_rank 16 = .ok (.istore 4, 2) := by decide +kernel
theorem dX6_rank_18 : decode cX6_rank 18 = .ok (.iload_n 1, 1) := by decide +kernel
theorem dX6_rank_19 : decode cX6_rank 19 = .ok (.iconst 1, 1) := by decide +kernel
theorem dX6_rank_20 : decode cX6_rank 20 = .ok (.isub, 1) := by decide +kernel
theorem dX6_rank_21 : decode cX6_rank 21 = .ok (.istore 5, 2) := by decide +kernel
theorem dX6_rank_23 : decode cX6_rank 23 = .ok (.iload 5, 2) := by decide +kernel
theorem dX6_rank_25 : decode cX6_rank 25 = .ok (.iload_n 2, 1) := by decide +kernel
theorem dX6_rank_26 : decode cX6_rank 26 = .ok (.if_icmp .lt 33, 3) := by decide +kernel
theorem dX6_rank_29 : decode cX6_rank 29 = .ok (.aload_n 0, 1) := by decide +kernel
theorem dX6_rank_30 : decode cX6_rank 30 = .ok (.getfield 38, 3) := by decide +kernel
theorem dX6_rank_33 : decode cX6_rank 33 = .ok (.bipush 16, 2) := by decide +kernel
theorem dX6_rank_35 : decode cX6_rank 35 = .ok (.iload 5, 2) := by decide +kernel
theorem dX6_rank_37 : decode cX6_rank 37 = .ok (.imul, 1) := by decide +kernel
theorem dX6_rank_38 : decode cX6_rank 38 = .ok (.iload_n 3, 1) := by decide +kernel
theorem dX6_rank_39 : decode cX6_rank 39 = .ok (.iadd, 1) := by decide +kernel
theorem dX6_rank_40 : decode cX6_rank 40 = .ok (.iaload, 1) := by decide +kernel
theorem dX6_rank_41 : decode cX6_rank 41 = .ok (.ifCond .eq 8, 3) := by decide +kernel
theorem dX6_rank_44 : decode cX6_rank 44 = .ok (.iload 5, 2) := by decide +kernel
theorem dX6_rank_46 : decode cX6_rank 46 = .ok (.goto 5, 3) := by decide +kernel
theorem dX6_rank_49 : decode cX6_rank 49 = .ok (.iload 4, 2) := by decide +kernel
theorem dX6_rank_51 : decode cX6_rank 51 = .ok (.istore 4, 2) := by decide +kernel
theorem dX6_rank_53 : decode cX6_rank 53 = .ok (.iinc 5 (-1), 3) := by decide +kernel
theorem dX6_rank_56 : decode cX6_rank 56 = .ok (.goto (-33), 3) := by decide +kernel
theorem dX6_rank_59 : decode cX6_rank 59 = .ok (.iload 4, 2) := by decide +kernel
theorem dX6_rank_61 : decode cX6_rank 61 = .ok (.iconst (-1), 1) := by decide +kernel
theorem dX6_rank_62 : decode cX6_rank 62 = .ok (.if_icmp .eq 200, 3) := by decide +kernel
theorem dX6_rank_65 : decode cX6_rank 65 = .ok (.iconst 0, 1) := by decide +kernel
theorem dX6_rank_66 : decode cX6_rank 66 = .ok (.istore 5, 2) := by decide +kernel
theorem dX6_rank_68 : decode cX6_rank 68 = .ok (.iload 5, 2) := by decide +kernel
theorem dX6_rank_70 : decode cX6_rank 70 = .ok (.bipush 16, 2) := by decide +kernel
theorem dX6_rank_72 : decode cX6_rank 72 = .ok (.if_icmp .ge 63, 3) := by decide +kernel
theorem dX6_rank_75 : decode cX6_rank 75 = .ok (.aload_n 0, 1) := by decide +kernel
theorem dX6_rank_76 : decode cX6_rank 76 = .ok (.getfield 38, 3) := by decide +kernel
theorem dX6_rank_79 : decode cX6_rank 79 = .ok (.bipush 16, 2) := by decide +kernel
theorem dX6_rank_81 : decode cX6_rank 81 = .ok (.iload_n 2, 1) := by decide +kernel
theorem dX6_rank_82 : decode cX6_rank 82 = .ok (.imul, 1) := by decide +kernel
theorem dX6_rank_83 : decode cX6_rank 83 = .ok (.iload 5, 2) := by decide +kernel
theorem dX6_rank_85 : decode cX6_rank 85 = .ok (.iadd, 1) := by decide +kernel
theorem dX6_rank_86 : decode cX6_rank 86 = .ok (.iaload, 1) := by decide +kernel
theorem dX6_rank_87 : decode cX6_rank 87 = .ok (.istore 6, 2) := by decide +kernel
theorem dX6_rank_89 : decode cX6_rank 89 = .ok (.aload_n 0, 1) := by decide +kernel
theorem dX6_rank_90 : decode cX6_rank 90 = .ok (.getfield 38, 3) := by decide +kernel
theorem dX6_rank_93 : decode cX6_rank 93 = .ok (.bipush 16, 2) := by decide +kernel
theorem dX6_rank_95 : decode cX6_rank 95 = .ok (.iload_n 2, 1) := by decide +kernel
theorem dX6_rank_96 : decode cX6_rank 96 = .ok (.imul, 1) := by decide +kernel
theorem dX6_rank_97 : decode cX6_rank 97 = .ok (.iload 5, 2) := by decide +kernel
theorem dX6_rank_99 : decode cX6_rank 99 = .ok (.iadd, 1) := by decide +kernel
theorem dX6_rank_100 : decode cX6_rank 100 = .ok (.aload_n 0, 1) := by decide +kernel
theorem dX6_rank_101 : decode cX6_rank 101 = .ok (.getfield 38, 3) := by decide +kernel
theorem dX6_rank_104 : decode cX6_rank 104 = .ok (.bipush 16, 2) := by decide +kernel
theorem dX6_rank_106 : decode cX6_rank 106 = .ok (.iload 4, 2) := by decide +kernel
theorem dX6_rank_108 : decode cX6_rank 108 = .ok (.imul, 1) := by decide +kernel
theorem dX6_rank_109 : decode cX6_rank 109 = .ok (.iload 5, 2) := by decide +kernel
theorem dX6_rank_111 : decode cX6_rank 111 = .ok (.iadd, 1) := by decide +kernel
theorem dX6_rank_112 : decode cX6_rank 112 = .ok (.iaload, 1) := by decide +kernel
theorem dX6_rank_113 : decode cX6_rank 113 = .ok (.iastore, 1) := by decide +kernel
theorem dX6_rank_114 : decode cX6_rank 114 = .ok (.aload_n 0, 1) := by decide +kernel
theorem dX6_rank_115 : decode cX6_rank 115 = .ok (.getfield 38, 3) := by decide +kernel
theorem dX6_rank_118 : decode cX6_rank 118 = .ok (.bipush 16, 2) := by decide +kernel
theorem dX6_rank_120 : decode cX6_rank 120 = .ok (.iload 4, 2) := by decide +kernel
theorem dX6_rank_122 : decode cX6_rank 122 = .ok (.imul, 1) := by decide +kernel
theorem dX6_rank_123 : decode cX6_rank 123 = .ok (.iload 5, 2) := by decide +kernel
theorem dX6_rank_125 : decode cX6_rank 125 = .ok (.iadd, 1) := by decide +kernel
theorem dX6_rank_126 : decode cX6_rank 126 = .ok (.iload 6, 2) := by decide +kernel
theorem dX6_rank_128 : decode cX6_rank 128 = .ok (.iastore, 1) := by decide +kernel
theorem dX6_rank_129 : decode cX6_rank 129 = .ok (.iinc 5 1, 3) := by decide +kernel
theorem dX6_rank_132 : decode cX6_rank 132 = .ok (.goto (-64), 3) := by decide +kernel
theorem dX6_rank_135 : decode cX6_rank 135 = .ok (.aload_n 0, 1) := by decide +kernel
theorem dX6_rank_136 : decode cX6_rank 136 = .ok (.aload_n 0, 1) := by decide +kernel
theorem dX6_rank_137 : decode cX6_rank 137 = .ok (.getfield 38, 3) := by decide +kernel
theorem dX6_rank_140 : decode cX6_rank 140 = .ok (.bipush 16, 2) := by decide +kernel
theorem dX6_rank_142 : decode cX6_rank 142 = .ok (.iload_n 2, 1) := by decide +kernel
theorem dX6_rank_143 : decode cX6_rank 143 = .ok (.imul, 1) := by decide +kernel
theorem dX6_rank_144 : decode cX6_rank 144 = .ok (.iload_n 3, 1) := by decide +kernel
theorem dX6_rank_145 : decode cX6_rank 145 = .ok (.iadd, 1) := by decide +kernel
theorem dX6_rank_146 : decode cX6_rank 146 = .ok (.iaload, 1) := by decide +kernel
theorem dX6_rank_147 : decode cX6_rank 147 = .ok (.invokevirtual 145, 3) := by decide +kernel
theorem dX6_rank_150 : decode cX6_rank 150 = .ok (.istore 5, 2) := by decide +kernel
theorem dX6_rank_152 : decode cX6_rank 152 = .ok (.iload_n 2, 1) := by decide +kernel
theorem dX6_rank_153 : decode cX6_rank 153 = .ok (.iconst 1, 1) := by decide +kernel
theorem dX6_rank_154 : decode cX6_rank 154 = .ok (.iadd, 1) := by decide +kernel
theorem dX6_rank_155 : decode cX6_rank 155 = .ok (.istore 6, 2) := by decide +kernel
theorem dX6_rank_157 : decode cX6_rank 157 = .ok (.iload 6, 2) := by decide +kernel
theorem dX6_rank_159 : decode cX6_rank 159 = .ok (.iload_n 1, 1) := by decide +kernel
theorem dX6_rank_160 : decode cX6_rank 160 = .ok (.if_icmp .ge 99, 3) := by decide +kernel
theorem dX6_rank_163 : decode cX6_rank 163 = .ok (.aload_n 0, 1) := by decide +kernel
theorem dX6_rank_164 : decode cX6_rank 164 = .ok (.getfield 7, 3) := by decide +kernel
theorem dX6_rank_167 : decode cX6_rank 167 = .ok (.aload_n 0, 1) := by decide +kernel
theorem dX6_rank_168 : decode cX6_rank 168 = .ok (.getfield 38, 3) := by decide +kernel
theorem dX6_rank_171 : decode cX6_rank 171 = .ok (.bipush 16, 2) := by decide +kernel
theorem dX6_rank_173 : decode cX6_rank 173 = .ok (.iload 6, 2) := by decide +kernel
theorem dX6_rank_175 : decode cX6_rank 175 = .ok (.imul, 1) := by decide +kernel
theorem dX6_rank_176 : decode cX6_rank 176 = .ok (.iload_n 3, 1) := by decide +kernel
theorem dX6_rank_177 : decode cX6_rank 177 = .ok (.iadd, 1) := by decide +kernel
theorem dX6_rank_178 : decode cX6_rank 178 = .ok (.iaload, 1) := by decide +kernel
theorem dX6_rank_179 : decode cX6_rank 179 = .ok (.iload 5, 2) := by decide +kernel
theorem dX6_rank_181 : decode cX6_rank 181 = .ok (.imul, 1) := by decide +kernel
theorem dX6_rank_182 : decode cX6_rank 182 = .ok (.aload_n 0, 1) := by decide +kernel
theorem dX6_rank_183 : decode cX6_rank 183 = .ok (.getfield 7, 3) := by decide +kernel
theorem dX6_rank_186 : decode cX6_rank 186 = .ok (.irem, 1) := by decide +kernel
theorem dX6_rank_187 : decode cX6_rank 187 = .ok (.isub, 1) := by decide +kernel
theorem dX6_rank_188 : decode cX6_rank 188 = .ok (.istore 7, 2) := by decide +kernel
theorem dX6_rank_190 : decode cX6_rank 190 = .ok (.iconst 0, 1) := by decide +kernel
theorem dX6_rank_191 : decode cX6_rank 191 = .ok (.istore 8, 2) := by decide +kernel
theorem dX6_rank_193 : decode cX6_rank 193 = .ok (.iload 8, 2) := by decide +kernel
theorem dX6_rank_195 : decode cX6_rank 195 = .ok (.bipush 16, 2) := by decide +kernel
theorem dX6_rank_197 : decode cX6_rank 197 = .ok (.if_icmp .ge 56, 3) := by decide +kernel
theorem dX6_rank_200 : decode cX6_rank 200 = .ok (.aload_n 0, 1) := by decide +kernel
theorem dX6_rank_201 : decode cX6_rank 201 = .ok (.getfield 38, 3) := by decide +kernel
theorem dX6_rank_204 : decode cX6_rank 204 = .ok (.bipush 16, 2) := by decide +kernel
theorem dX6_rank_206 : decode cX6_rank 206 = .ok (.iload 6, 2) := by decide +kernel
theorem dX6_rank_208 : decode cX6_rank 208 = .ok (.imul, 1) := by decide +kernel
theorem dX6_rank_209 : decode cX6_rank 209 = .ok (.iload 8, 2) := by decide +kernel
theorem dX6_rank_211 : decode cX6_rank 211 = .ok (.iadd, 1) := by decide +kernel
theorem dX6_rank_212 : decode cX6_rank 212 = .ok (.aload_n 0, 1) := by decide +kernel
theorem dX6_rank_213 : decode cX6_rank 213 = .ok (.getfield 38, 3) := by decide +kernel
theorem dX6_rank_216 : decode cX6_rank 216 = .ok (.bipush 16, 2) := by decide +kernel
theorem dX6_rank_218 : decode cX6_rank 218 = .ok (.iload 6, 2) := by decide +kernel
theorem dX6_rank_220 : decode cX6_rank 220 = .ok (.imul, 1) := by decide +kernel
theorem dX6_rank_221 : decode cX6_rank 221 = .ok (.iload 8, 2) := by decide +kernel
theorem dX6_rank_223 : decode cX6_rank 223 = .ok (.iadd, 1) := by decide +kernel
theorem dX6_rank_224 : decode cX6_rank 224 = .ok (.iaload, 1) := by decide +kernel
theorem dX6_rank_225 : decode cX6_rank 225 = .ok (.iload 7, 2) := by decide +kernel
theorem dX6_rank_227 : decode cX6_rank 227 = .ok (.aload_n 0, 1) := by decide +kernel
theorem dX6_rank_228 : decode cX6_rank 228 = .ok (.getfield 38, 3) := by decide +kernel
theorem dX6_rank_231 : decode cX6_rank 231 = .ok (.bipush 16, 2) := by decide +kernel
theorem dX6_rank_233 : decode cX6_rank 233 = .ok (.iload_n 2, 1) := by decide +kernel
theorem dX6_rank_234 : decode cX6_rank 234 = .ok (.imul, 1) := by decide +kernel
theorem dX6_rank_235 : decode cX6_rank 235 = .ok (.iload 8, 2) := by decide +kernel
theorem dX6_rank_237 : decode cX6_rank 237 = .ok (.iadd, 1) := by decide +kernel
theorem dX6_rank_238 : decode cX6_rank 238 = .ok (.iaload, 1) := by decide +kernel
theorem dX6_rank_239 : decode cX6_rank 239 = .ok (.imul, 1) := by decide +kernel
theorem dX6_rank_240 : decode cX6_rank 240 = .ok (.iadd, 1) := by decide +kernel
theorem dX6_rank_241 : decode cX6_rank 241 = .ok (.aload_n 0, 1) := by decide +kernel
theorem dX6_rank_242 : decode cX6_rank 242 = .ok (.getfield 7, 3) := by decide +kernel
theorem dX6_rank_245 : decode cX6_rank 245 = .ok (.irem, 1) := by decide +kernel
theorem dX6_rank_246 : decode cX6_rank 246 = .ok (.iastore, 1) := by decide +kernel
theorem dX6_rank_247 : decode cX6_rank 247 = .ok (.iinc 8 1, 3) := by decide +kernel
theorem dX6_rank_250 : decode cX6_rank 250 = .ok (.goto (-57), 3) := by decide +kernel
theorem dX6_rank_253 : decode cX6_rank 253 = .ok (.iinc 6 1, 3) := by decide +kernel
theorem dX6_rank_256 : decode cX6_rank 256 = .ok (.goto (-99), 3) := by decide +kernel
theorem dX6_rank_259 : decode cX6_rank 259 = .ok (.iinc 2 1, 3) := by decide +kernel
theorem dX6_rank_262 : decode cX6_rank 262 = .ok (.iinc 3 1, 3) := by decide +kernel
theorem dX6_rank_265 : decode cX6_rank 265 = .ok (.goto (-261), 3) := by decide +kernel
theorem dX6_rank_268 : decode cX6_rank 268 = .ok (.iload_n 2, 1) := by decide +kernel
theorem dX6_rank_269 : decode cX6_rank 269 = .ok (.ireturn, 1) := by decide +kernel
abbrev rmX6_rank : Room := { frames := 2, cells := 0, slots := 0, locals := 43 }
theorem zyX6_rank : zyOK yX6_rank 1 := ⟨by decide +kernel, by decide +kernel, by decide +kernel⟩
set_option maxHeartbeats 4000000 in
set_option maxRecDepth 100000 in
theorem wX6_rank {G : ZG} (a0 : Nat) (a1 : Int32) (S : ZS) (h0 : zFix G cX6_rank RX6 9 (some .int) rmX6_rank) (C : Option (Int32 × ZS) → Prop) (hC : ¬ C none) (hE : ∀ (v : Int32) (S1 : ZS), C (some (v, S1)) → zEnd G (some (.int v)) S1 rmX6_rank) : zV G 9 S 0 0 0 [(0, .ref a0), (1, .int a1)] [] (C (fX6_rank a0 a1 S)) := by
  have J268 : ∀ (l2_268 : Int32) (S_268 : ZS), zV G 9 S_268 0 0 268 [(2, .int l2_268)] [] (C (fX6_rank_J268 l2_268 S_268)) := by
    intro l2_268 S_268
    unfold fX6_rank_J268
    refine zr_iload_n h0 dX6_rank_268 rfl (n := 269) rfl ?_
    exact zr_iret h0 rfl dX6_rank_269 (hE _ _) (by decide) (by decide)
  unfold fX6_rank
  refine zr_iconst (0 : Int32) h0 (by decide) dX6_rank_0 (n := 1) rfl ?_
  refine zr_istore_n [(0, .ref a0), (1, .int a1), (2, .int (0 : Int32))] h0 dX6_rank_1 (by decide) rfl (n := 2) rfl ?_
  refine zr_iconst (0 : Int32) h0 (by decide) dX6_rank_2 (n := 3) rfl ?_
  refine zr_istore_n [(0, .ref a0), (1, .int a1), (2, .int (0 : Int32)), (3, .int (0 : Int32))] h0 dX6_rank_3 (by decide) rfl (n := 4) rfl ?_
  refine zr_loop hC (fX6_rank_B4 a0 a1) (fun y => [(0, .ref a0), (1, .int a1), (2, .int y.1), (3, .int y.2.1)]) (fun y => y.2.2) zF ((0 : Int32), (0 : Int32), S) (fun C4 hC4 hX4 hL4 t4 => ?_)
  have J262 : ∀ (l2_262 : Int32) (l3_262 : Int32) (S_262 : ZS), zV G 9 S_262 0 0 262 [(0, .ref a0), (1, .int a1), (2, .int l2_262), (3, .int l3_262)] [] (C4 (fX6_rank_J262 a0 a1 l2_262 l3_262 S_262)) := by
    intro l2_262 l3_262 S_262
    unfold fX6_rank_J262
    refine zr_iinc (1 : Int32) [(0, .ref a0), (1, .int a1), (2, .int l2_262), (3, .int (l3_262 + (1 : Int32)))] h0 dX6_rank_262 rfl (by decide) rfl rfl (n := 265) rfl ?_
    refine zr_goto (tgt := 4) h0 dX6_rank_265 (by decide) ?_
    exact hL4 (l2_262, l3_262 + (1 : Int32), S_262)
  unfold fX6_rank_B4
  refine zr_iload_n h0 dX6_rank_4 rfl (n := 5) rfl ?_
  refine zr_bipush (16 : Int32) h0 (by decide) dX6_rank_5 (n := 7) rfl ?_
  refine zr_icmp_ge C4 (tgt := 268) h0 dX6_rank_7 (by decide) (n := 10) rfl ?_ ?_
  · refine zr_ex hX4 ?_
    refine zv_sub (lv' := [(2, .int t4.1)]) ?_ (zsub_of [2] rfl)
    exact J268 t4.1 t4.2.2
  · refine zr_iload_n h0 dX6_rank_10 rfl (n := 11) rfl ?_
    refine zr_iload_n h0 dX6_rank_11 rfl (n := 12) rfl ?_
    refine zr_icmp_ge C4 (tgt := 268) h0 dX6_rank_12 (by decide) (n := 15) rfl ?_ ?_
    · refine zr_ex hX4 ?_
      refine zv_sub (lv' := [(2, .int t4.1)]) ?_ (zsub_of [2] rfl)
      exact J268 t4.1 t4.2.2
    · refine zr_iconst (-1 : Int32) h0 (by decide) dX6_rank_15 (n := 16) rfl ?_
      refine zr_istore [(0, .ref a0), (1, .int a1), (2, .int t4.1), (3, .int t4.2.1), (4, .int (-1 : Int32))] h0 dX6_rank_16 (by decide) rfl (n := 18) rfl ?_
      refine zr_iload_n h0 dX6_rank_18 rfl (n := 19) rfl ?_
      refine zr_iconst (1 : Int32) h0 (by decide) dX6_rank_19 (n := 20) rfl ?_
      refine zr_isub h0 dX6_rank_20 (n := 21) rfl ?_
      refine zr_istore [(0, .ref a0), (1, .int a1), (2, .int t4.1), (3, .int t4.2.1), (4, .int (-1 : Int32)), (5, .int (a1 - (1 : Int32)))] h0 dX6_rank_21 (by decide) rfl (n := 23) rfl ?_
      refine zr_loop hC4 (fX6_rank_B23 a0 a1 t4.1 t4.2.1 t4.2.2) (fun y => [(0, .ref a0), (1, .int a1), (2, .int t4.1), (3, .int t4.2.1), (4, .int y.1), (5, .int y.2)]) (fun y => t4.2.2) zF ((-1 : Int32), a1 - (1 : Int32)) (fun C23 hC23 hX23 hL23 t23 => ?_)
      have J51 : ∀ (l5_51 : Int32) (s0_51 : Int32), zV G 9 t4.2.2 0 0 51 [(0, .ref a0), (1, .int a1), (2, .int t4.1), (3, .int t4.2.1), (5, .int l5_51)] [.int s0_51] (C23 (fX6_rank_J51 a0 a1 t4.1 t4.2.1 l5_51 s0_51 t4.2.2)) := by
        intro l5_51 s0_51
        unfold fX6_rank_J51
        refine zr_istore [(0, .ref a0), (1, .int a1), (2, .int t4.1), (3, .int t4.2.1), (4, .int s0_51), (5, .int l5_51)] h0 dX6_rank_51 (by decide) rfl (n := 53) rfl ?_
        refine zr_iinc (-1 : Int32) [(0, .ref a0), (1, .int a1), (2, .int t4.1), (3, .int t4.2.1), (4, .int s0_51), (5, .int (l5_51 + (-1 : Int32)))] h0 dX6_rank_53 rfl (by decide) rfl rfl (n := 56) rfl ?_
        refine zr_goto (tgt := 23) h0 dX6_rank_56 (by decide) ?_
        exact hL23 (s0_51, l5_51 + (-1 : Int32))
      unfold fX6_rank_B23
      refine zr_iload h0 dX6_rank_23 rfl (n := 25) rfl ?_
      refine zr_iload_n h0 dX6_rank_25 rfl (n := 26) rfl ?_
      refine zr_icmp_lt C23 (tgt := 59) h0 dX6_rank_26 (by decide) (n := 29) rfl ?_ ?_
      · refine zr_ex hX23 ?_
        refine zv_sub (lv' := [(0, .ref a0), (1, .int a1), (2, .int t4.1), (3, .int t4.2.1), (4, .int t23.1)]) ?_ (zsub_of [0, 1, 2, 3, 4] rfl)
        refine zr_iload h0 dX6_rank_59 rfl (n := 61) rfl ?_
        refine zr_iconst (-1 : Int32) h0 (by decide) dX6_rank_61 (n := 62) rfl ?_
        refine zr_icmp_eq C4 (tgt := 262) h0 dX6_rank_62 (by decide) (n := 65) rfl ?_ ?_
        · refine zv_sub (lv' := [(0, .ref a0), (1, .int a1), (2, .int t4.1), (3, .int t4.2.1)]) ?_ (zsub_of [0, 1, 2, 3] rfl)
          exact J262 t4.1 t4.2.1 t4.2.2
        · refine zr_iconst (0 : Int32) h0 (by decide) dX6_rank_65 (n := 66) rfl ?_
          refine zr_istore [(0, .ref a0), (1, .int a1), (2, .int t4.1), (3, .int t4.2.1), (4, .int t23.1), (5, .int (0 : Int32))] h0 dX6_rank_66 (by decide) rfl (n := 68) rfl ?_
          refine zr_loop hC4 (fX6_rank_B68 a0 a1 t4.1 t4.2.1 t23.1) (fun y => [(0, .ref a0), (1, .int a1), (2, .int t4.1), (3, .int t4.2.1), (4, .int t23.1), (5, .int y.1)]) (fun y => y.2) zF ((0 : Int32), t4.2.2) (fun C68 hC68 hX68 hL68 t68 => ?_)
          unfold fX6_rank_B68
          refine zr_iload h0 dX6_rank_68 rfl (n := 70) rfl ?_
          refine zr_bipush (16 : Int32) h0 (by decide) dX6_rank_70 (n := 72) rfl ?_
          refine zr_icmp_ge C68 (tgt := 135) h0 dX6_rank_72 (by decide) (n := 75) rfl ?_ ?_
          · refine zr_ex hX68 ?_
            refine zv_sub (lv' := [(0, .ref a0), (1, .int a1), (2, .int t4.1), (3, .int t4.2.1)]) ?_ (zsub_of [0, 1, 2, 3] rfl)
            refine zr_aload_n h0 dX6_rank_135 rfl (n := 136) rfl ?_
            refine zr_aload_n h0 dX6_rank_136 rfl (n := 137) rfl ?_
            refine zr_getR C4 hC4 h0 zcX6 (k := 12) (by decide) zw_831 dX6_rank_137 (n := 140) rfl (fun v98 => ?_)
            refine zr_bipush (16 : Int32) h0 (by decide) dX6_rank_140 (n := 142) rfl ?_
            refine zr_iload_n h0 dX6_rank_142 rfl (n := 143) rfl ?_
            refine zr_imul h0 dX6_rank_143 (n := 144) rfl ?_
            refine zr_iload_n h0 dX6_rank_144 rfl (n := 145) rfl ?_
            refine zr_iadd h0 dX6_rank_145 (n := 146) rfl ?_
            refine zr_iaload C4 hC4 h0 dX6_rank_146 (n := 147) rfl (fun v99 => ?_)
            refine zr_cRI C4 hC4 0 0 (fun x hx => zk_V h0 zcX6 (zcl_ex hx) (fun l D z0 => kX6_inverse l D z0 a0 v99 t68.2 x (zcl_of hx)) zw_1050 zw_1052 zs_54 zw_5 zw_1053 rfl zyX6_inverse (As := [.int v99]) (st := []) rfl (by decide) rfl (Nat.le_of_ble_eq_true rfl) (by decide) dX6_rank_147) rfl rfl (n := 150) rfl (fun x100 => ?_)
            refine zr_istore [(0, .ref a0), (1, .int a1), (2, .int t4.1), (3, .int t4.2.1), (5, .int x100)] h0 dX6_rank_150 (by decide) rfl (n := 152) rfl ?_
            refine zr_iload_n h0 dX6_rank_152 rfl (n := 153) rfl ?_
            refine zr_iconst (1 : Int32) h0 (by decide) dX6_rank_153 (n := 154) rfl ?_
            refine zr_iadd h0 dX6_rank_154 (n := 155) rfl ?_
            refine zr_istore [(0, .ref a0), (1, .int a1), (2, .int t4.1), (3, .int t4.2.1), (5, .int x100), (6, .int (t4.1 + (1 : Int32)))] h0 dX6_rank_155 (by decide) rfl (n := 157) rfl ?_
            refine zr_loop hC4 (fX6_rank_B157 a0 a1 t4.1 t4.2.1 x100) (fun y => [(0, .ref a0), (1, .int a1), (2, .int t4.1), (3, .int t4.2.1), (5, .int x100), (6, .int y.1)]) (fun y => y.2) zF (t4.1 + (1 : Int32), t68.2) (fun C157 hC157 hX157 hL157 t157 => ?_)
            unfold fX6_rank_B157
            refine zr_iload h0 dX6_rank_157 rfl (n := 159) rfl ?_
            refine zr_iload_n h0 dX6_rank_159 rfl (n := 160) rfl ?_
            refine zr_icmp_ge C157 (tgt := 259) h0 dX6_rank_160 (by decide) (n := 163) rfl ?_ ?_
            · refine zr_ex hX157 ?_
              refine zv_sub (lv' := [(0, .ref a0), (1, .int a1), (2, .int t4.1), (3, .int t4.2.1)]) ?_ (zsub_of [0, 1, 2, 3] rfl)
              refine zr_iinc (1 : Int32) [(0, .ref a0), (1, .int a1), (2, .int (t4.1 + (1 : Int32))), (3, .int t4.2.1)] h0 dX6_rank_259 rfl (by decide) rfl rfl (n := 262) rfl ?_
              exact J262 (t4.1 + (1 : Int32)) t4.2.1 t157.2
            · refine zr_aload_n h0 dX6_rank_163 rfl (n := 164) rfl ?_
              refine zr_getI C157 hC157 h0 zcX6 (k := 1) (by decide) zw_820 dX6_rank_164 (n := 167) rfl (fun v101 => ?_)
              refine zr_aload_n h0 dX6_rank_167 rfl (n := 168) rfl ?_
              refine zr_getR C157 hC157 h0 zcX6 (k := 12) (by decide) zw_831 dX6_rank_168 (n := 171) rfl (fun v102 => ?_)
              refine zr_bipush (16 : Int32) h0 (by decide) dX6_rank_171 (n := 173) rfl ?_
              refine zr_iload h0 dX6_rank_173 rfl (n := 175) rfl ?_
              refine zr_imul h0 dX6_rank_175 (n := 176) rfl ?_
              refine zr_iload_n h0 dX6_rank_176 rfl (n := 177) rfl ?_
              refine zr_iadd h0 dX6_rank_177 (n := 178) rfl ?_
              refine zr_iaload C157 hC157 h0 dX6_rank_178 (n := 179) rfl (fun v103 => ?_)
              refine zr_iload h0 dX6_rank_179 rfl (n := 181) rfl ?_
              refine zr_imul h0 dX6_rank_181 (n := 182) rfl ?_
              refine zr_aload_n h0 dX6_rank_182 rfl (n := 183) rfl ?_
              refine zr_getI C157 hC157 h0 zcX6 (k := 1) (by decide) zw_820 dX6_rank_183 (n := 186) rfl (fun v104 => ?_)
              refine zr_irem C157 hC157 h0 dX6_rank_186 (n := 187) rfl (fun v105 => ?_)
              refine zr_isub h0 dX6_rank_187 (n := 188) rfl ?_
              refine zr_istore [(0, .ref a0), (1, .int a1), (2, .int t4.1), (3, .int t4.2.1), (5, .int x100), (6, .int t157.1), (7, .int (v101 - v105))] h0 dX6_rank_188 (by decide) rfl (n := 190) rfl ?_
              refine zr_iconst (0 : Int32) h0 (by decide) dX6_rank_190 (n := 191) rfl ?_
              refine zr_istore [(0, .ref a0), (1, .int a1), (2, .int t4.1), (3, .int t4.2.1), (5, .int x100), (6, .int t157.1), (7, .int (v101 - v105)), (8, .int (0 : Int32))] h0 dX6_rank_191 (by decide) rfl (n := 193) rfl ?_
              refine zr_loop hC157 (fX6_rank_B193 a0 a1 t4.1 t4.2.1 x100 t157.1 (v101 - v105)) (fun y => [(0, .ref a0), (1, .int a1), (2, .int t4.1), (3, .int t4.2.1), (5, .int x100), (6, .int t157.1), (7, .int (v101 - v105)), (8, .int y.1)]) (fun y => y.2) zF ((0 : Int32), t157.2) (fun C193 hC193 hX193 hL193 t193 => ?_)
              unfold fX6_rank_B193
              refine zr_iload h0 dX6_rank_193 rfl (n := 195) rfl ?_
              refine zr_bipush (16 : Int32) h0 (by decide) dX6_rank_195 (n := 197) rfl ?_
              refine zr_icmp_ge C193 (tgt := 253) h0 dX6_rank_197 (by decide) (n := 200) rfl ?_ ?_
              · refine zr_ex hX193 ?_
                refine zv_sub (lv' := [(0, .ref a0), (1, .int a1), (2, .int t4.1), (3, .int t4.2.1), (5, .int x100), (6, .int t157.1)]) ?_ (zsub_of [0, 1, 2, 3, 4, 5] rfl)
                refine zr_iinc (1 : Int32) [(0, .ref a0), (1, .int a1), (2, .int t4.1), (3, .int t4.2.1), (5, .int x100), (6, .int (t157.1 + (1 : Int32)))] h0 dX6_rank_253 rfl (by decide) rfl rfl (n := 256) rfl ?_
                refine zr_goto (tgt := 157) h0 dX6_rank_256 (by decide) ?_
                exact hL157 (t157.1 + (1 : Int32), t193.2)
              · refine zr_aload_n h0 dX6_rank_200 rfl (n := 201) rfl ?_
                refine zr_getR C193 hC193 h0 zcX6 (k := 12) (by decide) zw_831 dX6_rank_201 (n := 204) rfl (fun v106 => ?_)
                refine zr_bipush (16 : Int32) h0 (by decide) dX6_rank_204 (n := 206) rfl ?_
                refine zr_iload h0 dX6_rank_206 rfl (n := 208) rfl ?_
                refine zr_imul h0 dX6_rank_208 (n := 209) rfl ?_
                refine zr_iload h0 dX6_rank_209 rfl (n := 211) rfl ?_
                refine zr_iadd h0 dX6_rank_211 (n := 212) rfl ?_
                refine zr_aload_n h0 dX6_rank_212 rfl (n := 213) rfl ?_
                refine zr_getR C193 hC193 h0 zcX6 (k := 12) (by decide) zw_831 dX6_rank_213 (n := 216) rfl (fun v107 => ?_)
                refine zr_bipush (16 : Int32) h0 (by decide) dX6_rank_216 (n := 218) rfl ?_
                refine zr_iload h0 dX6_rank_218 rfl (n := 220) rfl ?_
                refine zr_imul h0 dX6_rank_220 (n := 221) rfl ?_
                refine zr_iload h0 dX6_rank_221 rfl (n := 223) rfl ?_
                refine zr_iadd h0 dX6_rank_223 (n := 224) rfl ?_
                refine zr_iaload C193 hC193 h0 dX6_rank_224 (n := 225) rfl (fun v108 => ?_)
                refine zr_iload h0 dX6_rank_225 rfl (n := 227) rfl ?_
                refine zr_aload_n h0 dX6_rank_227 rfl (n := 228) rfl ?_
                refine zr_getR C193 hC193 h0 zcX6 (k := 12) (by decide) zw_831 dX6_rank_228 (n := 231) rfl (fun v109 => ?_)
                refine zr_bipush (16 : Int32) h0 (by decide) dX6_rank_231 (n := 233) rfl ?_
                refine zr_iload_n h0 dX6_rank_233 rfl (n := 234) rfl ?_
                refine zr_imul h0 dX6_rank_234 (n := 235) rfl ?_
                refine zr_iload h0 dX6_rank_235 rfl (n := 237) rfl ?_
                refine zr_iadd h0 dX6_rank_237 (n := 238) rfl ?_
                refine zr_iaload C193 hC193 h0 dX6_rank_238 (n := 239) rfl (fun v110 => ?_)
                refine zr_imul h0 dX6_rank_239 (n := 240) rfl ?_
                refine zr_iadd h0 dX6_rank_240 (n := 241) rfl ?_
                refine zr_aload_n h0 dX6_rank_241 rfl (n := 242) rfl ?_
                refine zr_getI C193 hC193 h0 zcX6 (k := 1) (by decide) zw_820 dX6_rank_242 (n := 245) rfl (fun v111 => ?_)
                refine zr_irem C193 hC193 h0 dX6_rank_245 (n := 246) rfl (fun v112 => ?_)
                refine zr_iastore C193 hC193 h0 dX6_rank_246 (n := 247) rfl (fun S113 => ?_)
                refine zr_iinc (1 : Int32) [(0, .ref a0), (1, .int a1), (2, .int t4.1), (3, .int t4.2.1), (5, .int x100), (6, .int t157.1), (7, .int (v101 - v105)), (8, .int (t193.1 + (1 : Int32)))] h0 dX6_rank_247 rfl (by decide) rfl rfl (n := 250) rfl ?_
                refine zr_goto (tgt := 193) h0 dX6_rank_250 (by decide) ?_
                exact hL193 (t193.1 + (1 : Int32), S113)
          · refine zr_aload_n h0 dX6_rank_75 rfl (n := 76) rfl ?_
            refine zr_getR C68 hC68 h0 zcX6 (k := 12) (by decide) zw_831 dX6_rank_76 (n := 79) rfl (fun v114 => ?_)
            refine zr_bipush (16 : Int32) h0 (by decide) dX6_rank_79 (n := 81) rfl ?_
            refine zr_iload_n h0 dX6_rank_81 rfl (n := 82) rfl ?_
            refine zr_imul h0 dX6_rank_82 (n := 83) rfl ?_
            refine zr_iload h0 dX6_rank_83 rfl (n := 85) rfl ?_
            refine zr_iadd h0 dX6_rank_85 (n := 86) rfl ?_
            refine zr_iaload C68 hC68 h0 dX6_rank_86 (n := 87) rfl (fun v115 => ?_)
            refine zr_istore [(0, .ref a0), (1, .int a1), (2, .int t4.1), (3, .int t4.2.1), (4, .int t23.1), (5, .int t68.1), (6, .int v115)] h0 dX6_rank_87 (by decide) rfl (n := 89) rfl ?_
            refine zr_aload_n h0 dX6_rank_89 rfl (n := 90) rfl ?_
            refine zr_getR C68 hC68 h0 zcX6 (k := 12) (by decide) zw_831 dX6_rank_90 (n := 93) rfl (fun v116 => ?_)
            refine zr_bipush (16 : Int32) h0 (by decide) dX6_rank_93 (n := 95) rfl ?_
            refine zr_iload_n h0 dX6_rank_95 rfl (n := 96) rfl ?_
            refine zr_imul h0 dX6_rank_96 (n := 97) rfl ?_
            refine zr_iload h0 dX6_rank_97 rfl (n := 99) rfl ?_
            refine zr_iadd h0 dX6_rank_99 (n := 100) rfl ?_
            refine zr_aload_n h0 dX6_rank_100 rfl (n := 101) rfl ?_
            refine zr_getR C68 hC68 h0 zcX6 (k := 12) (by decide) zw_831 dX6_rank_101 (n := 104) rfl (fun v117 => ?_)
            refine zr_bipush (16 : Int32) h0 (by decide) dX6_rank_104 (n := 106) rfl ?_
            refine zr_iload h0 dX6_rank_106 rfl (n := 108) rfl ?_
            refine zr_imul h0 dX6_rank_108 (n := 109) rfl ?_
            refine zr_iload h0 dX6_rank_109 rfl (n := 111) rfl ?_
            refine zr_iadd h0 dX6_rank_111 (n := 112) rfl ?_
            refine zr_iaload C68 hC68 h0 dX6_rank_112 (n := 113) rfl (fun v118 => ?_)
            refine zr_iastore C68 hC68 h0 dX6_rank_113 (n := 114) rfl (fun S119 => ?_)
            refine zr_aload_n h0 dX6_rank_114 rfl (n := 115) rfl ?_
            refine zr_getR C68 hC68 h0 zcX6 (k := 12) (by decide) zw_831 dX6_rank_115 (n := 118) rfl (fun v120 => ?_)
            refine zr_bipush (16 : Int32) h0 (by decide) dX6_rank_118 (n := 120) rfl ?_
            refine zr_iload h0 dX6_rank_120 rfl (n := 122) rfl ?_
            refine zr_imul h0 dX6_rank_122 (n := 123) rfl ?_
            refine zr_iload h0 dX6_rank_123 rfl (n := 125) rfl ?_
            refine zr_iadd h0 dX6_rank_125 (n := 126) rfl ?_
            refine zr_iload h0 dX6_rank_126 rfl (n := 128) rfl ?_
            refine zr_iastore C68 hC68 h0 dX6_rank_128 (n := 129) rfl (fun S121 => ?_)
            refine zr_iinc (1 : Int32) [(0, .ref a0), (1, .int a1), (2, .int t4.1), (3, .int t4.2.1), (4, .int t23.1), (5, .int (t68.1 + (1 : Int32))), (6, .int v115)] h0 dX6_rank_129 rfl (by decide) rfl rfl (n := 132) rfl ?_
            refine zr_goto (tgt := 68) h0 dX6_rank_132 (by decide) ?_
            refine zv_sub (lv' := [(0, .ref a0), (1, .int a1), (2, .int t4.1), (3, .int t4.2.1), (4, .int t23.1), (5, .int (t68.1 + (1 : Int32)))]) ?_ (zsub_of [0, 1, 2, 3, 4, 5] rfl)
            exact hL68 (t68.1 + (1 : Int32), S121)
      · refine zr_aload_n h0 dX6_rank_29 rfl (n := 30) rfl ?_
        refine zr_getR C23 hC23 h0 zcX6 (k := 12) (by decide) zw_831 dX6_rank_30 (n := 33) rfl (fun v122 => ?_)
        refine zr_bipush (16 : Int32) h0 (by decide) dX6_rank_33 (n := 35) rfl ?_
        refine zr_iload h0 dX6_rank_35 rfl (n := 37) rfl ?_
        refine zr_imul h0 dX6_rank_37 (n := 38) rfl ?_
        refine zr_iload_n h0 dX6_rank_38 rfl (n := 39) rfl ?_
        refine zr_iadd h0 dX6_rank_39 (n := 40) rfl ?_
        refine zr_iaload C23 hC23 h0 dX6_rank_40 (n := 41) rfl (fun v123 => ?_)
        refine zr_if_eq C23 (tgt := 49) h0 dX6_rank_41 (by decide) (n := 44) rfl ?_ ?_
        · refine zr_iload h0 dX6_rank_49 rfl (n := 51) rfl ?_
          refine zv_sub (lv' := [(0, .ref a0), (1, .int a1), (2, .int t4.1), (3, .int t4.2.1), (5, .int t23.2)]) ?_ (zsub_of [0, 1, 2, 3, 5] rfl)
          exact J51 t23.2 t23.1
        · refine zv_sub (lv' := [(0, .ref a0), (1, .int a1), (2, .int t4.1), (3, .int t4.2.1), (5, .int t23.2)]) ?_ (zsub_of [0, 1, 2, 3, 5] rfl)
          refine zr_iload h0 dX6_rank_44 rfl (n := 46) rfl ?_
          refine zr_goto (tgt := 51) h0 dX6_rank_46 (by decide) ?_
          exact J51 t23.2 t23.2
theorem kX6_rank (l : Launch) (D : ZD) (z0 : Nat) (a0 : Nat) (a1 : Int32) (S : ZS) (x : Int32 × ZS) (hf : fX6_rank a0 a1 S = some x) : zMet l D z0 yX6_rank cX6_rank 9 (some .int) rmX6_rank [.ref a0, .int a1] S (some (.int x.1)) x.2 :=
  zMet_of (by decide) (Nat.le_of_ble_eq_true rfl) (fun G h0 hini hE => wX6_rank a0 a1 S h0 (fun o => o = some x) (fun h => nomatch h) (fun v S1 h => by cases h; exact hE)) hf
theorem dX6_flat_0 : decode cX6_flat 0 = .ok (.iconst 0, 1) := by decide +kernel
theorem dX6_flat_1 : decode cX6_flat 1 = .ok (.istore_n 3, 1) := by decide +kernel
theorem dX6_flat_2 : decode cX6_flat 2 = .ok (.iload_n 3, 1) := by decide +kernel
theorem dX6_flat_3 : decode cX6_flat 3 = .ok (.iconst 4, 1) := by decide +kernel
theorem dX6_flat_4 : decode cX6_flat 4 = .ok (.if_icmp .ge 60, 3) := by decide +kernel
theorem dX6_flat_7 : decode cX6_flat 7 = .ok (.iconst 0, 1) := by decide +kernel
theorem dX6_flat_8 : decode cX6_flat 8 = .ok (.istore 4, 2) := by decide +kernel
theorem dX6_flat_10 : decode cX6_flat 10 = .ok (.iload 4, 2) := by decide +kernel
theorem dX6_flat_12 : decode cX6_flat 12 = .ok (.bipush 16, 2) := by decide +kernel
theorem dX6_flat_14 : decode cX6_flat 14 = .ok (.if_icmp .ge 44, 3) := by decide +kernel
theorem dX6_flat_17 : decode cX6_flat 17 = .ok (.aload_n 0, 1) := by decide +kernel
theorem dX6_flat_18 : decode cX6_flat 18 = .ok (.getfield 38, 3) := by decide +kernel
theorem dX6_flat_21 : decode cX6_flat 21 = .ok (.bipush 16, 2) := by decide +kernel
theorem dX6_flat_23 : decode cX6_flat 23 = .ok (.iload_n 3, 1) := by decide +kernel
theorem dX6_flat_24 : decode cX6_flat 24 = .ok (.imul, 1) := by decide +kernel
theorem dX6_flat_25 : decode cX6_flat 25 = .ok (.iload 4, 2) := by decide +kernel
theorem dX6_flat_27 : decode cX6_flat 27 = .ok (.iadd, 1) := by decide +kernel
theorem dX6_flat_28 : decode cX6_flat 28 = .ok (.aload_n 0, 1) := by decide +kernel
theorem dX6_flat_29 : decode cX6_flat 29 = .ok (.getfield 17, 3) := by decide +kernel
theorem dX6_flat_32 : decode cX6_flat 32 = .ok (.bipush 64, 2) := by decide +kernel
theorem dX6_flat_34 : decode cX6_flat 34 = .ok (.iload_n 1, 1) := by decide +kernel
theorem dX6_flat_35 : decode cX6_flat 35 = .ok (.imul, 1) := by decide +kernel
theorem dX6_flat_36 : decode cX6_flat 36 = .ok (.iload_n 2, 1) := by decide +kernel
theorem dX6_flat_37 : decode cX6_flat 37 = .ok (.iload_n 3, 1) := by decide +kernel
theorem dX6_flat_38 : decode cX6_flat 38 = .ok (.iload 4, 2) := by decide +kernel
theorem dX6_flat_40 : decode cX6_flat 40 = .ok (.iconst 4, 1) := by decide +kernel
theorem dX6_flat_41 : decode cX6_flat 41 = .ok (.idiv, 1) := by decide +kernel
theorem dX6_flat_42 : decode cX6_flat 42 = .ok (.iload 4, 2) := by decide +kernel
theorem dX6_flat_44 : decode cX6_flat 44 = .ok (.iconst 4, 1) := by decide +kernel
theorem dX6_flat_45 : decode cX6_flat 45 = .ok (.irem, 1) := by decide +kernel
theorem dX6_flat_46 : decode cX6_flat 46 = .ok (.invokestatic 88, 3) := by decide +kernel
theorem dX6_flat_49 : decode cX6_flat 49 = .ok (.iadd, 1) := by decide +kernel
theorem dX6_flat_50 : decode cX6_flat 50 = .ok (.iaload, 1) := by decide +kernel
theorem dX6_flat_51 : decode cX6_flat 51 = .ok (.iastore, 1) := by decide +kernel
theorem dX6_flat_52 : decode cX6_flat 52 = .ok (.iinc 4 1, 3) := by decide +kernel
theorem dX6_flat_55 : decode cX6_flat 55 = .ok (.goto (-45), 3) := by decide +kernel
theorem dX6_flat_58 : decode cX6_flat 58 = .ok (.iinc 3 1, 3) := by decide +kernel
theorem dX6_flat_61 : decode cX6_flat 61 = .ok (.goto (-59), 3) := by decide +kernel
theorem dX6_flat_64 : decode cX6_flat 64 = .ok (.aload_n 0, 1) := by decide +kernel
theorem dX6_flat_65 : decode cX6_flat 65 = .ok (.aload_n 0, 1) := by decide +kernel
theorem dX6_flat_66 : decode cX6_flat 66 = .ok (.getfield 13, 3) := by decide +kernel
theorem dX6_flat_69 : decode cX6_flat 69 = .ok (.iconst 3, 1) := by decide +kernel
theorem dX6_flat_70 : decode cX6_flat 70 = .ok (.iload_n 1, 1) := by decide +kernel
theorem dX6_flat_71 : decode cX6_flat 71 = .ok (.imul, 1) := by decide +kernel
theorem dX6_flat_72 : decode cX6_flat 72 = .ok (.iload_n 2, 1) := by decide +kernel
theorem dX6_flat_73 : decode cX6_flat 73 = .ok (.iadd, 1) := by decide +kernel
theorem dX6_flat_74 : decode cX6_flat 74 = .ok (.iaload, 1) := by decide +kernel
theorem dX6_flat_75 : decode cX6_flat 75 = .ok (.invokevirtual 148, 3) := by decide +kernel
theorem dX6_flat_78 : decode cX6_flat 78 = .ok (.ireturn, 1) := by decide +kernel
abbrev rmX6_flat : Room := { frames := 3, cells := 0, slots := 0, locals := 71 }
theorem zyX6_flat : zyOK yX6_flat 2 := ⟨by decide +kernel, by decide +kernel, by decide +kernel⟩
set_option maxHeartbeats 4000000 in
set_option maxRecDepth 100000 in
theorem wX6_flat {G : ZG} (a0 : Nat) (a1 : Int32) (a2 : Int32) (S : ZS) (h0 : zFix G cX6_flat RX6 5 (some .int) rmX6_flat) (C : Option (Int32 × ZS) → Prop) (hC : ¬ C none) (hE : ∀ (v : Int32) (S1 : ZS), C (some (v, S1)) → zEnd G (some (.int v)) S1 rmX6_flat) : zV G 5 S 0 0 0 [(0, .ref a0), (1, .int a1), (2, .int a2)] [] (C (fX6_flat a0 a1 a2 S)) := by
  unfold fX6_flat
  refine zr_iconst (0 : Int32) h0 (by decide) dX6_flat_0 (n := 1) rfl ?_
  refine zr_istore_n [(0, .ref a0), (1, .int a1), (2, .int a2), (3, .int (0 : Int32))] h0 dX6_flat_1 (by decide) rfl (n := 2) rfl ?_
  refine zr_loop hC (fX6_flat_B2 a0 a1 a2) (fun y => [(0, .ref a0), (1, .int a1), (2, .int a2), (3, .int y.1)]) (fun y => y.2) zF ((0 : Int32), S) (fun C2 hC2 hX2 hL2 t2 => ?_)
  unfold fX6_flat_B2
  refine zr_iload_n h0 dX6_flat_2 rfl (n := 3) rfl ?_
  refine zr_iconst (4 : Int32) h0 (by decide) dX6_flat_3 (n := 4) rfl ?_
  refine zr_icmp_ge C2 (tgt := 64) h0 dX6_flat_4 (by decide) (n := 7) rfl ?_ ?_
  · refine zr_ex hX2 ?_
    refine zv_sub (lv' := [(0, .ref a0), (1, .int a1), (2, .int a2)]) ?_ (zsub_of [0, 1, 2] rfl)
    refine zr_aload_n h0 dX6_flat_64 rfl (n := 65) rfl ?_
    refine zr_aload_n h0 dX6_flat_65 rfl (n := 66) rfl ?_
    refine zr_getR C hC h0 zcX6 (k := 3) (by decide) zw_822 dX6_flat_66 (n := 69) rfl (fun v14 => ?_)
    refine zr_iconst (3 : Int32) h0 (by decide) dX6_flat_69 (n := 70) rfl ?_
    refine zr_iload_n h0 dX6_flat_70 rfl (n := 71) rfl ?_
    refine zr_imul h0 dX6_flat_71 (n := 72) rfl ?_
    refine zr_iload_n h0 dX6_flat_72 rfl (n := 73) rfl ?_
    refine zr_iadd h0 dX6_flat_73 (n := 74) rfl ?_
    refine zr_iaload C hC h0 dX6_flat_74 (n := 75) rfl (fun v15 => ?_)
    refine zr_cMI C hC 0 0 (fun x hx => zk_V h0 zcX6 (zcl_ex hx) (fun l D z0 => kX6_rank l D z0 a0 v15 t2.2 x (zcl_of hx)) zw_1046 zw_1048 zs_53 zw_5 zw_1049 rfl zyX6_rank (As := [.int v15]) (st := []) rfl (by decide) rfl (Nat.le_of_ble_eq_true rfl) (by decide) dX6_flat_75) rfl rfl (n := 78) rfl (fun x16 => ?_)
    exact zr_iret h0 rfl dX6_flat_78 (hE _ _) (by decide) (by decide)
  · refine zr_iconst (0 : Int32) h0 (by decide) dX6_flat_7 (n := 8) rfl ?_
    refine zr_istore [(0, .ref a0), (1, .int a1), (2, .int a2), (3, .int t2.1), (4, .int (0 : Int32))] h0 dX6_flat_8 (by decide) rfl (n := 10) rfl ?_
    refine zr_loop hC2 (fX6_flat_B10 a0 a1 a2 t2.1) (fun y => [(0, .ref a0), (1, .int a1), (2, .int a2), (3, .int t2.1), (4, .int y.1)]) (fun y => y.2) zF ((0 : Int32), t2.2) (fun C10 hC10 hX10 hL10 t10 => ?_)
    unfold fX6_flat_B10
    refine zr_iload h0 dX6_flat_10 rfl (n := 12) rfl ?_
    refine zr_bipush (16 : Int32) h0 (by decide) dX6_flat_12 (n := 14) rfl ?_
    refine zr_icmp_ge C10 (tgt := 58) h0 dX6_flat_14 (by decide) (n := 17) rfl ?_ ?_
    · refine zr_ex hX10 ?_
      refine zv_sub (lv' := [(0, .ref a0), (1, .int a1), (2, .int a2), (3, .int t2.1)]) ?_ (zsub_of [0, 1, 2, 3] rfl)
      refine zr_iinc (1 : Int32) [(0, .ref a0), (1, .int a1), (2, .int a2), (3, .int (t2.1 + (1 : Int32)))] h0 dX6_flat_58 rfl (by decide) rfl rfl (n := 61) rfl ?_
      refine zr_goto (tgt := 2) h0 dX6_flat_61 (by decide) ?_
      exact hL2 (t2.1 + (1 : Int32), t10.2)
    · refine zr_aload_n h0 dX6_flat_17 rfl (n := 18) rfl ?_
      refine zr_getR C10 hC10 h0 zcX6 (k := 12) (by decide) zw_831 dX6_flat_18 (n := 21) rfl (fun v17 => ?_)
      refine zr_bipush (16 : Int32) h0 (by decide) dX6_flat_21 (n := 23) rfl ?_
      refine zr_iload_n h0 dX6_flat_23 rfl (n := 24) rfl ?_
      refine zr_imul h0 dX6_flat_24 (n := 25) rfl ?_
      refine zr_iload h0 dX6_flat_25 rfl (n := 27) rfl ?_
      refine zr_iadd h0 dX6_flat_27 (n := 28) rfl ?_
      refine zr_aload_n h0 dX6_flat_28 rfl (n := 29) rfl ?_
      refine zr_getR C10 hC10 h0 zcX6 (k := 4) (by decide) zw_823 dX6_flat_29 (n := 32) rfl (fun v18 => ?_)
      refine zr_bipush (64 : Int32) h0 (by decide) dX6_flat_32 (n := 34) rfl ?_
      refine zr_iload_n h0 dX6_flat_34 rfl (n := 35) rfl ?_
      refine zr_imul h0 dX6_flat_35 (n := 36) rfl ?_
      refine zr_iload_n h0 dX6_flat_36 rfl (n := 37) rfl ?_
      refine zr_iload_n h0 dX6_flat_37 rfl (n := 38) rfl ?_
      refine zr_iload h0 dX6_flat_38 rfl (n := 40) rfl ?_
      refine zr_iconst (4 : Int32) h0 (by decide) dX6_flat_40 (n := 41) rfl ?_
      refine zr_idivK h0 (by decide) dX6_flat_41 (n := 42) rfl ?_
      refine zr_iload h0 dX6_flat_42 rfl (n := 44) rfl ?_
      refine zr_iconst (4 : Int32) h0 (by decide) dX6_flat_44 (n := 45) rfl ?_
      refine zr_iremK h0 (by decide) dX6_flat_45 (n := 46) rfl ?_
      refine zr_cRI C10 hC10 0 0 (fun x hx => zk_S h0 (fun l D z0 => kX6_placeBy l D z0 a2 t2.1 (t10.1 / (4 : Int32)) (t10.1 % (4 : Int32)) t10.2 x hx) zw_939 zw_940 zw_5 zw_941 zyX6_placeBy (As := [.int a2, .int t2.1, .int (t10.1 / (4 : Int32)), .int (t10.1 % (4 : Int32))]) (st := [.int ((64 : Int32) * a1), .ref v18, .int (((16 : Int32) * t2.1) + t10.1), .ref v17]) rfl (by decide) rfl (Nat.le_of_ble_eq_true rfl) (by decide) dX6_flat_46) rfl rfl (n := 49) rfl (fun x19 => ?_)
      refine zr_iadd h0 dX6_flat_49 (n := 50) rfl ?_
      refine zr_iaload C10 hC10 h0 dX6_flat_50 (n := 51) rfl (fun v20 => ?_)
      refine zr_iastore C10 hC10 h0 dX6_flat_51 (n := 52) rfl (fun S21 => ?_)
      refine zr_iinc (1 : Int32) [(0, .ref a0), (1, .int a1), (2, .int a2), (3, .int t2.1), (4, .int (t10.1 + (1 : Int32)))] h0 dX6_flat_52 rfl (by decide) rfl rfl (n := 55) rfl ?_
      refine zr_goto (tgt := 10) h0 dX6_flat_55 (by decide) ?_
      exact hL10 (t10.1 + (1 : Int32), S21)
theorem kX6_flat (l : Launch) (D : ZD) (z0 : Nat) (a0 : Nat) (a1 : Int32) (a2 : Int32) (S : ZS) (x : Int32 × ZS) (hf : fX6_flat a0 a1 a2 S = some x) : zMet l D z0 yX6_flat cX6_flat 5 (some .int) rmX6_flat [.ref a0, .int a1, .int a2] S (some (.int x.1)) x.2 :=
  zMet_of (by decide) (Nat.le_of_ble_eq_true rfl) (fun G h0 hini hE => wX6_flat a0 a1 a2 S h0 (fun o => o = some x) (fun h => nomatch h) (fun v S1 h => by cases h; exact hE)) hf
theorem dX6_flattening_0 : decode cX6_flattening 0 = .ok (.aload_n 0, 1) := by decide +kernel
theorem dX6_flattening_1 : decode cX6_flattening 1 = .ok (.aload_n 0, 1) := by decide +kernel
theorem dX6_flattening_2 : decode cX6_flattening 2 = .ok (.iload_n 1, 1) := by decide +kernel
theorem dX6_flattening_3 : decode cX6_flattening 3 = .ok (.invokevirtual 78, 3) := by decide +kernel
theorem dX6_flattening_6 : decode cX6_flattening 6 = .ok (.ifCond .eq 14, 3) := by decide +kernel
theorem dX6_flattening_9 : decode cX6_flattening 9 = .ok (.iload_n 2, 1) := by decide +kernel
theorem dX6_flattening_10 : decode cX6_flattening 10 = .ok (.invokestatic 85, 3) := by decide +kernel
theorem dX6_flattening_13 : decode cX6_flattening 13 = .ok (.ifCond .eq 7, 3) := by decide +kernel
theorem dX6_flattening_16 : decode cX6_flattening 16 = .ok (.iconst 0, 1) := by decide +kernel
theorem dX6_flattening_17 : decode cX6_flattening 17 = .ok (.goto 4, 3) := by decide +kernel
theorem dX6_flattening_20 : decode cX6_flattening 20 = .ok (.iconst 1, 1) := by decide +kernel
theorem dX6_flattening_21 : decode cX6_flattening 21 = .ok (.invokevirtual 64, 3) := by decide +kernel
theorem dX6_flattening_24 : decode cX6_flattening 24 = .ok (.ifCond .eq 12, 3) := by decide +kernel
theorem dX6_flattening_27 : decode cX6_flattening 27 = .ok (.aload_n 0, 1) := by decide +kernel
theorem dX6_flattening_28 : decode cX6_flattening 28 = .ok (.iload_n 1, 1) := by decide +kernel
theorem dX6_flattening_29 : decode cX6_flattening 29 = .ok (.iload_n 2, 1) := by decide +kernel
theorem dX6_flattening_30 : decode cX6_flattening 30 = .ok (.invokevirtual 151, 3) := by decide +kernel
theorem dX6_flattening_33 : decode cX6_flattening 33 = .ok (.goto 4, 3) := by decide +kernel
theorem dX6_flattening_36 : decode cX6_flattening 36 = .ok (.iconst 0, 1) := by decide +kernel
theorem dX6_flattening_37 : decode cX6_flattening 37 = .ok (.ireturn, 1) := by decide +kernel
abbrev rmX6_flattening : Room := { frames := 4, cells := 0, slots := 0, locals := 95 }
theorem zyX6_flattening : zyOK yX6_flattening 2 := ⟨by decide +kernel, by decide +kernel, by decide +kernel⟩
set_option maxHeartbeats 4000000 in
set_option maxRecDepth 100000 in
theorem wX6_flattening {G : ZG} (a0 : Nat) (a1 : Int32) (a2 : Int32) (S : ZS) (h0 : zFix G cX6_flattening RX6 3 (some .int) rmX6_flattening) (C : Option (Int32 × ZS) → Prop) (hC : ¬ C none) (hE : ∀ (v : Int32) (S1 : ZS), C (some (v, S1)) → zEnd G (some (.int v)) S1 rmX6_flattening) : zV G 3 S 0 0 0 [(0, .ref a0), (1, .int a1), (2, .int a2)] [] (C (fX6_flattening a0 a1 a2 S)) := by
  have J37 : ∀ (s0_37 : Int32) (S_37 : ZS), zV G 3 S_37 0 0 37 [] [.int s0_37] (C (fX6_flattening_J37 s0_37 S_37)) := by
    intro s0_37 S_37
    unfold fX6_flattening_J37
    exact zr_iret h0 rfl dX6_flattening_37 (hE _ _) (by decide) (by decide)
  have J21 : ∀ (l0_21 : Nat) (l1_21 : Int32) (l2_21 : Int32) (s0_21 : Nat) (s1_21 : Int32) (S_21 : ZS), zV G 3 S_21 0 0 21 [(0, .ref l0_21), (1, .int l1_21), (2, .int l2_21)] [.int s1_21, .ref s0_21] (C (fX6_flattening_J21 l0_21 l1_21 l2_21 s0_21 s1_21 S_21)) := by
    intro l0_21 l1_21 l2_21 s0_21 s1_21 S_21
    unfold fX6_flattening_J21
    refine zr_cMI C hC 0 0 (fun x hx => zk_V h0 zcX6 (zcl_ex hx) (fun l D z0 => kX6_goesWell l D z0 s0_21 s1_21 S_21 x (zcl_of hx)) zw_886 zw_888 zs_34 zw_5 zw_889 rfl zyX6_goesWell (As := [.int s1_21]) (st := []) rfl (by decide) rfl (Nat.le_of_ble_eq_true rfl) (by decide) dX6_flattening_21) rfl rfl (n := 24) rfl (fun x5 => ?_)
    refine zr_if_eq C (tgt := 36) h0 dX6_flattening_24 (by decide) (n := 27) rfl ?_ ?_
    · refine zv_sub (lv' := []) ?_ (zsub_of [] rfl)
      refine zr_iconst (0 : Int32) h0 (by decide) dX6_flattening_36 (n := 37) rfl ?_
      exact J37 (0 : Int32) x5.2
    · refine zr_aload_n h0 dX6_flattening_27 rfl (n := 28) rfl ?_
      refine zr_iload_n h0 dX6_flattening_28 rfl (n := 29) rfl ?_
      refine zr_iload_n h0 dX6_flattening_29 rfl (n := 30) rfl ?_
      refine zr_cMI C hC 0 0 (fun x hx => zk_V h0 zcX6 (zcl_ex hx) (fun l D z0 => kX6_flat l D z0 l0_21 l1_21 l2_21 x5.2 x (zcl_of hx)) zw_1042 zw_1044 zs_52 zw_5 zw_1045 rfl zyX6_flat (As := [.int l1_21, .int l2_21]) (st := []) rfl (by decide) rfl (Nat.le_of_ble_eq_true rfl) (by decide) dX6_flattening_30) rfl rfl (n := 33) rfl (fun x6 => ?_)
      refine zr_goto (tgt := 37) h0 dX6_flattening_33 (by decide) ?_
      refine zv_sub (lv' := []) ?_ (zsub_of [] rfl)
      exact J37 x6.1 x6.2
  have J20 : ∀ (l0_20 : Nat) (l1_20 : Int32) (l2_20 : Int32) (s0_20 : Nat) (S_20 : ZS), zV G 3 S_20 0 0 20 [(0, .ref l0_20), (1, .int l1_20), (2, .int l2_20)] [.ref s0_20] (C (fX6_flattening_J20 l0_20 l1_20 l2_20 s0_20 S_20)) := by
    intro l0_20 l1_20 l2_20 s0_20 S_20
    unfold fX6_flattening_J20
    refine zr_iconst (1 : Int32) h0 (by decide) dX6_flattening_20 (n := 21) rfl ?_
    exact J21 l0_20 l1_20 l2_20 s0_20 (1 : Int32) S_20
  unfold fX6_flattening
  refine zr_aload_n h0 dX6_flattening_0 rfl (n := 1) rfl ?_
  refine zr_aload_n h0 dX6_flattening_1 rfl (n := 2) rfl ?_
  refine zr_iload_n h0 dX6_flattening_2 rfl (n := 3) rfl ?_
  refine zr_cRI C hC 0 0 (fun x hx => zk_V h0 zcX6 (zcl_ex hx) (fun l D z0 => kX6_isCube l D z0 a0 a1 S x (zcl_of hx)) zw_928 zw_930 zs_38 zw_5 zw_931 rfl zyX6_isCube (As := [.int a1]) (st := [.ref a0]) rfl (by decide) rfl (Nat.le_of_ble_eq_true rfl) (by decide) dX6_flattening_3) rfl rfl (n := 6) rfl (fun x1 => ?_)
  refine zr_if_eq C (tgt := 20) h0 dX6_flattening_6 (by decide) (n := 9) rfl ?_ ?_
  · exact J20 a0 a1 a2 a0 S
  · refine zr_iload_n h0 dX6_flattening_9 rfl (n := 10) rfl ?_
    refine zr_cRI C hC 0 0 (fun x hx => zk_S h0 (fun l D z0 => kX6_isSide l D z0 a2 S x hx) zw_936 zw_937 zw_5 zw_938 zyX6_isSide (As := [.int a2]) (st := [.ref a0]) rfl (by decide) rfl (Nat.le_of_ble_eq_true rfl) (by decide) dX6_flattening_10) rfl rfl (n := 13) rfl (fun x4 => ?_)
    refine zr_if_eq C (tgt := 20) h0 dX6_flattening_13 (by decide) (n := 16) rfl ?_ ?_
    · exact J20 a0 a1 a2 a0 S
    · refine zr_iconst (0 : Int32) h0 (by decide) dX6_flattening_16 (n := 17) rfl ?_
      refine zr_goto (tgt := 21) h0 dX6_flattening_17 (by decide) ?_
      exact J21 a0 a1 a2 a0 (0 : Int32) S
theorem kX6_flattening (l : Launch) (D : ZD) (z0 : Nat) (a0 : Nat) (a1 : Int32) (a2 : Int32) (S : ZS) (x : Int32 × ZS) (hf : fX6_flattening a0 a1 a2 S = some x) : zMet l D z0 yX6_flattening cX6_flattening 3 (some .int) rmX6_flattening [.ref a0, .int a1, .int a2] S (some (.int x.1)) x.2 :=
  zMet_of (by decide) (Nat.le_of_ble_eq_true rfl) (fun G h0 hini hE => wX6_flattening a0 a1 a2 S h0 (fun o => o = some x) (fun h => nomatch h) (fun v S1 h => by cases h; exact hE)) hf
theorem dX6_bound_0 : decode cX6_bound 0 = .ok (.aload_n 0, 1) := by decide +kernel
theorem dX6_bound_1 : decode cX6_bound 1 = .ok (.aload_n 0, 1) := by decide +kernel
theorem dX6_bound_2 : decode cX6_bound 2 = .ok (.iload_n 1, 1) := by decide +kernel
theorem dX6_bound_3 : decode cX6_bound 3 = .ok (.invokevirtual 78, 3) := by decide +kernel
theorem dX6_bound_6 : decode cX6_bound 6 = .ok (.ifCond .eq 7, 3) := by decide +kernel
theorem dX6_bound_9 : decode cX6_bound 9 = .ok (.iconst 0, 1) := by decide +kernel
theorem dX6_bound_10 : decode cX6_bound 10 = .ok (.goto 4, 3) := by decide +kernel
theorem dX6_bound_13 : decode cX6_bound 13 = .ok (.iconst 1, 1) := by decide +kernel
theorem dX6_bound_14 : decode cX6_bound 14 = .ok (.invokevirtual 64, 3) := by decide +kernel
theorem dX6_bound_17 : decode cX6_bound 17 = .ok (.ifCond .ne 5, 3) := by decide +kernel
theorem dX6_bound_20 : decode cX6_bound 20 = .ok (.iconst 0, 1) := by decide +kernel
theorem dX6_bound_21 : decode cX6_bound 21 = .ok (.ireturn, 1) := by decide +kernel
theorem dX6_bound_22 : decode cX6_bound 22 = .ok (.aload_n 0, 1) := by decide +kernel
theorem dX6_bound_23 : decode cX6_bound 23 = .ok (.iload_n 1, 1) := by decide +kernel
theorem dX6_bound_24 : decode cX6_bound 24 = .ok (.iconst 0, 1) := by decide +kernel
theorem dX6_bound_25 : decode cX6_bound 25 = .ok (.invokevirtual 151, 3) := by decide +kernel
theorem dX6_bound_28 : decode cX6_bound 28 = .ok (.istore_n 2, 1) := by decide +kernel
theorem dX6_bound_29 : decode cX6_bound 29 = .ok (.aload_n 0, 1) := by decide +kernel
theorem dX6_bound_30 : decode cX6_bound 30 = .ok (.iload_n 1, 1) := by decide +kernel
theorem dX6_bound_31 : decode cX6_bound 31 = .ok (.iconst 1, 1) := by decide +kernel
theorem dX6_bound_32 : decode cX6_bound 32 = .ok (.invokevirtual 151, 3) := by decide +kernel
theorem dX6_bound_35 : decode cX6_bound 35 = .ok (.iload_n 2, 1) := by decide +kernel
theorem dX6_bound_36 : decode cX6_bound 36 = .ok (.if_icmp .le 12, 3) := by decide +kernel
theorem dX6_bound_39 : decode cX6_bound 39 = .ok (.aload_n 0, 1) := by decide +kernel
theorem dX6_bound_40 : decode cX6_bound 40 = .ok (.iload_n 1, 1) := by decide +kernel
theorem dX6_bound_41 : decode cX6_bound 41 = .ok (.iconst 1, 1) := by decide +kernel
theorem dX6_bound_42 : decode cX6_bound 42 = .ok (.invokevirtual 151, 3) := by decide +kernel
theorem dX6_bound_45 : decode cX6_bound 45 = .ok (.goto 4, 3) := by decide +kernel
theorem dX6_bound_48 : decode cX6_bound 48 = .ok (.iload_n 2, 1) := by decide +kernel
theorem dX6_bound_49 : decode cX6_bound 49 = .ok (.istore_n 2, 1) := by decide +kernel
theorem dX6_bound_50 : decode cX6_bound 50 = .ok (.aload_n 0, 1) := by decide +kernel
theorem dX6_bound_51 : decode cX6_bound 51 = .ok (.iload_n 1, 1) := by decide +kernel
theorem dX6_bound_52 : decode cX6_bound 52 = .ok (.iconst 2, 1) := by decide +kernel
theorem dX6_bound_53 : decode cX6_bound 53 = .ok (.invokevirtual 151, 3) := by decide +kernel
theorem dX6_bound_56 : decode cX6_bound 56 = .ok (.iload_n 2, 1) := by decide +kernel
theorem dX6_bound_57 : decode cX6_bound 57 = .ok (.if_icmp .le 12, 3) := by decide +kernel
theorem dX6_bound_60 : decode cX6_bound 60 = .ok (.aload_n 0, 1) := by decide +kernel
theorem dX6_bound_61 : decode cX6_bound 61 = .ok (.iload_n 1, 1) := by decide +kernel
theorem dX6_bound_62 : decode cX6_bound 62 = .ok (.iconst 2, 1) := by decide +kernel
theorem dX6_bound_63 : decode cX6_bound 63 = .ok (.invokevirtual 151, 3) := by decide +kernel
theorem dX6_bound_66 : decode cX6_bound 66 = .ok (.goto 4, 3) := by decide +kernel
theorem dX6_bound_69 : decode cX6_bound 69 = .ok (.iload_n 2, 1) := by decide +kernel
theorem dX6_bound_70 : decode cX6_bound 70 = .ok (.ireturn, 1) := by decide +kernel
abbrev rmX6_bound : Room := { frames := 4, cells := 0, slots := 0, locals := 95 }
theorem zyX6_bound : zyOK yX6_bound 1 := ⟨by decide +kernel, by decide +kernel, by decide +kernel⟩
set_option maxHeartbeats 4000000 in
set_option maxRecDepth 100000 in
theorem wX6_bound {G : ZG} (a0 : Nat) (a1 : Int32) (S : ZS) (h0 : zFix G cX6_bound RX6 3 (some .int) rmX6_bound) (C : Option (Int32 × ZS) → Prop) (hC : ¬ C none) (hE : ∀ (v : Int32) (S1 : ZS), C (some (v, S1)) → zEnd G (some (.int v)) S1 rmX6_bound) : zV G 3 S 0 0 0 [(0, .ref a0), (1, .int a1)] [] (C (fX6_bound a0 a1 S)) := by
  have J70 : ∀ (s0_70 : Int32) (S_70 : ZS), zV G 3 S_70 0 0 70 [] [.int s0_70] (C (fX6_bound_J70 s0_70 S_70)) := by
    intro s0_70 S_70
    unfold fX6_bound_J70
    exact zr_iret h0 rfl dX6_bound_70 (hE _ _) (by decide) (by decide)
  have J49 : ∀ (l0_49 : Nat) (l1_49 : Int32) (s0_49 : Int32) (S_49 : ZS), zV G 3 S_49 0 0 49 [(0, .ref l0_49), (1, .int l1_49)] [.int s0_49] (C (fX6_bound_J49 l0_49 l1_49 s0_49 S_49)) := by
    intro l0_49 l1_49 s0_49 S_49
    unfold fX6_bound_J49
    refine zr_istore_n [(0, .ref l0_49), (1, .int l1_49), (2, .int s0_49)] h0 dX6_bound_49 (by decide) rfl (n := 50) rfl ?_
    refine zr_aload_n h0 dX6_bound_50 rfl (n := 51) rfl ?_
    refine zr_iload_n h0 dX6_bound_51 rfl (n := 52) rfl ?_
    refine zr_iconst (2 : Int32) h0 (by decide) dX6_bound_52 (n := 53) rfl ?_
    refine zr_cMI C hC 0 0 (fun x hx => zk_V h0 zcX6 (zcl_ex hx) (fun l D z0 => kX6_flat l D z0 l0_49 l1_49 (2 : Int32) S_49 x (zcl_of hx)) zw_1042 zw_1044 zs_52 zw_5 zw_1045 rfl zyX6_flat (As := [.int l1_49, .int (2 : Int32)]) (st := []) rfl (by decide) rfl (Nat.le_of_ble_eq_true rfl) (by decide) dX6_bound_53) rfl rfl (n := 56) rfl (fun x8 => ?_)
    refine zr_iload_n h0 dX6_bound_56 rfl (n := 57) rfl ?_
    refine zr_icmp_le C (tgt := 69) h0 dX6_bound_57 (by decide) (n := 60) rfl ?_ ?_
    · refine zv_sub (lv' := [(2, .int s0_49)]) ?_ (zsub_of [2] rfl)
      refine zr_iload_n h0 dX6_bound_69 rfl (n := 70) rfl ?_
      refine zv_sub (lv' := []) ?_ (zsub_of [] rfl)
      exact J70 s0_49 x8.2
    · refine zv_sub (lv' := [(0, .ref l0_49), (1, .int l1_49)]) ?_ (zsub_of [0, 1] rfl)
      refine zr_aload_n h0 dX6_bound_60 rfl (n := 61) rfl ?_
      refine zr_iload_n h0 dX6_bound_61 rfl (n := 62) rfl ?_
      refine zr_iconst (2 : Int32) h0 (by decide) dX6_bound_62 (n := 63) rfl ?_
      refine zr_cMI C hC 0 0 (fun x hx => zk_V h0 zcX6 (zcl_ex hx) (fun l D z0 => kX6_flat l D z0 l0_49 l1_49 (2 : Int32) x8.2 x (zcl_of hx)) zw_1042 zw_1044 zs_52 zw_5 zw_1045 rfl zyX6_flat (As := [.int l1_49, .int (2 : Int32)]) (st := []) rfl (by decide) rfl (Nat.le_of_ble_eq_true rfl) (by decide) dX6_bound_63) rfl rfl (n := 66) rfl (fun x9 => ?_)
      refine zr_goto (tgt := 70) h0 dX6_bound_66 (by decide) ?_
      refine zv_sub (lv' := []) ?_ (zsub_of [] rfl)
      exact J70 x9.1 x9.2
  have J14 : ∀ (l0_14 : Nat) (l1_14 : Int32) (s0_14 : Nat) (s1_14 : Int32) (S_14 : ZS), zV G 3 S_14 0 0 14 [(0, .ref l0_14), (1, .int l1_14)] [.int s1_14, .ref s0_14] (C (fX6_bound_J14 l0_14 l1_14 s0_14 s1_14 S_14)) := by
    intro l0_14 l1_14 s0_14 s1_14 S_14
    unfold fX6_bound_J14
    refine zr_cMI C hC 0 0 (fun x hx => zk_V h0 zcX6 (zcl_ex hx) (fun l D z0 => kX6_goesWell l D z0 s0_14 s1_14 S_14 x (zcl_of hx)) zw_886 zw_888 zs_34 zw_5 zw_889 rfl zyX6_goesWell (As := [.int s1_14]) (st := []) rfl (by decide) rfl (Nat.le_of_ble_eq_true rfl) (by decide) dX6_bound_14) rfl rfl (n := 17) rfl (fun x10 => ?_)
    refine zr_if_ne C (tgt := 22) h0 dX6_bound_17 (by decide) (n := 20) rfl ?_ ?_
    · refine zv_sub (lv' := []) ?_ (zsub_of [] rfl)
      refine zr_iconst (0 : Int32) h0 (by decide) dX6_bound_20 (n := 21) rfl ?_
      exact zr_iret h0 rfl dX6_bound_21 (hE _ _) (by decide) (by decide)
    · refine zr_aload_n h0 dX6_bound_22 rfl (n := 23) rfl ?_
      refine zr_iload_n h0 dX6_bound_23 rfl (n := 24) rfl ?_
      refine zr_iconst (0 : Int32) h0 (by decide) dX6_bound_24 (n := 25) rfl ?_
      refine zr_cMI C hC 0 0 (fun x hx => zk_V h0 zcX6 (zcl_ex hx) (fun l D z0 => kX6_flat l D z0 l0_14 l1_14 (0 : Int32) x10.2 x (zcl_of hx)) zw_1042 zw_1044 zs_52 zw_5 zw_1045 rfl zyX6_flat (As := [.int l1_14, .int (0 : Int32)]) (st := []) rfl (by decide) rfl (Nat.le_of_ble_eq_true rfl) (by decide) dX6_bound_25) rfl rfl (n := 28) rfl (fun x11 => ?_)
      refine zr_istore_n [(0, .ref l0_14), (1, .int l1_14), (2, .int x11.1)] h0 dX6_bound_28 (by decide) rfl (n := 29) rfl ?_
      refine zr_aload_n h0 dX6_bound_29 rfl (n := 30) rfl ?_
      refine zr_iload_n h0 dX6_bound_30 rfl (n := 31) rfl ?_
      refine zr_iconst (1 : Int32) h0 (by decide) dX6_bound_31 (n := 32) rfl ?_
      refine zr_cMI C hC 0 0 (fun x hx => zk_V h0 zcX6 (zcl_ex hx) (fun l D z0 => kX6_flat l D z0 l0_14 l1_14 (1 : Int32) x11.2 x (zcl_of hx)) zw_1042 zw_1044 zs_52 zw_5 zw_1045 rfl zyX6_flat (As := [.int l1_14, .int (1 : Int32)]) (st := []) rfl (by decide) rfl (Nat.le_of_ble_eq_true rfl) (by decide) dX6_bound_32) rfl rfl (n := 35) rfl (fun x12 => ?_)
      refine zr_iload_n h0 dX6_bound_35 rfl (n := 36) rfl ?_
      refine zr_icmp_le C (tgt := 48) h0 dX6_bound_36 (by decide) (n := 39) rfl ?_ ?_
      · refine zr_iload_n h0 dX6_bound_48 rfl (n := 49) rfl ?_
        refine zv_sub (lv' := [(0, .ref l0_14), (1, .int l1_14)]) ?_ (zsub_of [0, 1] rfl)
        exact J49 l0_14 l1_14 x11.1 x12.2
      · refine zv_sub (lv' := [(0, .ref l0_14), (1, .int l1_14)]) ?_ (zsub_of [0, 1] rfl)
        refine zr_aload_n h0 dX6_bound_39 rfl (n := 40) rfl ?_
        refine zr_iload_n h0 dX6_bound_40 rfl (n := 41) rfl ?_
        refine zr_iconst (1 : Int32) h0 (by decide) dX6_bound_41 (n := 42) rfl ?_
        refine zr_cMI C hC 0 0 (fun x hx => zk_V h0 zcX6 (zcl_ex hx) (fun l D z0 => kX6_flat l D z0 l0_14 l1_14 (1 : Int32) x12.2 x (zcl_of hx)) zw_1042 zw_1044 zs_52 zw_5 zw_1045 rfl zyX6_flat (As := [.int l1_14, .int (1 : Int32)]) (st := []) rfl (by decide) rfl (Nat.le_of_ble_eq_true rfl) (by decide) dX6_bound_42) rfl rfl (n := 45) rfl (fun x13 => ?_)
        refine zr_goto (tgt := 49) h0 dX6_bound_45 (by decide) ?_
        exact J49 l0_14 l1_14 x13.1 x13.2
  unfold fX6_bound
  refine zr_aload_n h0 dX6_bound_0 rfl (n := 1) rfl ?_
  refine zr_aload_n h0 dX6_bound_1 rfl (n := 2) rfl ?_
  refine zr_iload_n h0 dX6_bound_2 rfl (n := 3) rfl ?_
  refine zr_cRI C hC 0 0 (fun x hx => zk_V h0 zcX6 (zcl_ex hx) (fun l D z0 => kX6_isCube l D z0 a0 a1 S x (zcl_of hx)) zw_928 zw_930 zs_38 zw_5 zw_931 rfl zyX6_isCube (As := [.int a1]) (st := [.ref a0]) rfl (by decide) rfl (Nat.le_of_ble_eq_true rfl) (by decide) dX6_bound_3) rfl rfl (n := 6) rfl (fun x1 => ?_)
  refine zr_if_eq C (tgt := 13) h0 dX6_bound_6 (by decide) (n := 9) rfl ?_ ?_
  · refine zr_iconst (1 : Int32) h0 (by decide) dX6_bound_13 (n := 14) rfl ?_
    exact J14 a0 a1 a0 (1 : Int32) S
  · refine zr_iconst (0 : Int32) h0 (by decide) dX6_bound_9 (n := 10) rfl ?_
    refine zr_goto (tgt := 14) h0 dX6_bound_10 (by decide) ?_
    exact J14 a0 a1 a0 (0 : Int32) S
theorem kX6_bound (l : Launch) (D : ZD) (z0 : Nat) (a0 : Nat) (a1 : Int32) (S : ZS) (x : Int32 × ZS) (hf : fX6_bound a0 a1 S = some x) : zMet l D z0 yX6_bound cX6_bound 3 (some .int) rmX6_bound [.ref a0, .int a1] S (some (.int x.1)) x.2 :=
  zMet_of (by decide) (Nat.le_of_ble_eq_true rfl) (fun G h0 hini hE => wX6_bound a0 a1 S h0 (fun o => o = some x) (fun h => nomatch h) (fun v S1 h => by cases h; exact hE)) hf
theorem dX6_single_0 : decode cX6_single 0 = .ok (.aload_n 0, 1) := by decide +kernel
theorem dX6_single_1 : decode cX6_single 1 = .ok (.getfield 13, 3) := by decide +kernel
theorem dX6_single_4 : decode cX6_single 4 = .ok (.iconst 3, 1) := by decide +kernel
theorem dX6_single_5 : decode cX6_single 5 = .ok (.iload_n 1, 1) := by decide +kernel
theorem dX6_single_6 : decode cX6_single 6 = .ok (.imul, 1) := by decide +kernel
theorem dX6_single_7 : decode cX6_single 7 = .ok (.iconst 1, 1) := by decide +kernel
theorem dX6_single_8 : decode cX6_single 8 = .ok (.iadd, 1) := by decide +kernel
theorem dX6_single_9 : decode cX6_single 9 = .ok (.iaload, 1) := by decide +kernel
theorem dX6_single_10 : decode cX6_single 10 = .ok (.istore 5, 2) := by decide +kernel
theorem dX6_single_12 : decode cX6_single 12 = .ok (.aload_n 0, 1) := by decide +kernel
theorem dX6_single_13 : decode cX6_single 13 = .ok (.getfield 13, 3) := by decide +kernel
theorem dX6_single_16 : decode cX6_single 16 = .ok (.iconst 3, 1) := by decide +kernel
theorem dX6_single_17 : decode cX6_single 17 = .ok (.iload_n 1, 1) := by decide +kernel
theorem dX6_single_18 : decode cX6_single 18 = .ok (.imul, 1) := by decide +kernel
theorem dX6_single_19 : decode cX6_single 19 = .ok (.iconst 2, 1) := by decide +kernel
theorem dX6_single_20 : decode cX6_single 20 = .ok (.iadd, 1) := by decide +kernel
theorem dX6_single_21 : decode cX6_single 21 = .ok (.iaload, 1) := by decide +kernel
theorem dX6_single_22 : decode cX6_single 22 = .ok (.istore 6, 2) := by decide +kernel
theorem dX6_single_24 : decode cX6_single 24 = .ok (.iconst 0, 1) := by decide +kernel
theorem dX6_single_25 : decode cX6_single 25 = .ok (.istore 7, 2) := by decide +kernel
theorem dX6_single_27 : decode cX6_single 27 = .ok (.iconst 0, 1) := by decide +kernel
theorem dX6_single_28 : decode cX6_single 28 = .ok (.istore 8, 2) := by decide +kernel
theorem dX6_single_30 : decode cX6_single 30 = .ok (.iload 8, 2) := by decide +kernel
theorem dX6_single_32 : decode cX6_single 32 = .ok (.aload_n 0, 1) := by decide +kernel
theorem dX6_single_33 : decode cX6_single 33 = .ok (.getfield 13, 3) := by decide +kernel
theorem dX6_single_36 : decode cX6_single 36 = .ok (.iconst 3, 1) := by decide +kernel
theorem dX6_single_37 : decode cX6_single 37 = .ok (.iload_n 1, 1) := by decide +kernel
theorem dX6_single_38 : decode cX6_single 38 = .ok (.imul, 1) := by decide +kernel
theorem dX6_single_39 : decode cX6_single 39 = .ok (.iaload, 1) := by decide +kernel
theorem dX6_single_40 : decode cX6_single 40 = .ok (.if_icmp .ge 80, 3) := by decide +kernel
theorem dX6_single_43 : decode cX6_single 43 = .ok (.iconst 0, 1) := by decide +kernel
theorem dX6_single_44 : decode cX6_single 44 = .ok (.istore 9, 2) := by decide +kernel
theorem dX6_single_46 : decode cX6_single 46 = .ok (.iload 9, 2) := by decide +kernel
theorem dX6_single_48 : decode cX6_single 48 = .ok (.iload 5, 2) := by decide +kernel
theorem dX6_single_50 : decode cX6_single 50 = .ok (.if_icmp .ge 64, 3) := by decide +kernel
theorem dX6_single_53 : decode cX6_single 53 = .ok (.iload_n 2, 1) := by decide +kernel
theorem dX6_single_54 : decode cX6_single 54 = .ok (.iload 8, 2) := by decide +kernel
theorem dX6_single_56 : decode cX6_single 56 = .ok (.ishr, 1) := by decide +kernel
theorem dX6_single_57 : decode cX6_single 57 = .ok (.iconst 1, 1) := by decide +kernel
theorem dX6_single_58 : decode cX6_single 58 = .ok (.iand, 1) := by decide +kernel
theorem dX6_single_59 : decode cX6_single 59 = .ok (.iconst 1, 1) := by decide +kernel
theorem dX6_single_60 : decode cX6_single 60 = .ok (.if_icmp .ne 17, 3) := by decide +kernel
theorem dX6_single_63 : decode cX6_single 63 = .ok (.iload_n 3, 1) := by decide +kernel
theorem dX6_single_64 : decode cX6_single 64 = .ok (.iload 9, 2) := by decide +kernel
theorem dX6_single_66 : decode cX6_single 66 = .ok (.ishr, 1) := by decide +kernel
theorem dX6_single_67 : decode cX6_single 67 = .ok (.iconst 1, 1) := by decide +kernel
theorem dX6_single_68 : decode cX6_single 68 = .ok (.iand, 1) := by decide +kernel
theorem dX6_single_69 : decode cX6_single 69 = .ok (.iconst 1, 1) := by decide +kernel
theorem dX6_single_70 : decode cX6_single 70 = .ok (.if_icmp .ne 7, 3) := by decide +kernel
theorem dX6_single_73 : decode cX6_single 73 = .ok (.iconst 1, 1) := by decide +kernel
theorem dX6_single_74 : decode cX6_single 74 = .ok (.goto 4, 3) := by decide +kernel
theorem dX6_single_77 : decode cX6_single 77 = .ok (.iconst 0, 1) := by decide +kernel
theorem dX6_single_78 : decode cX6_single 78 = .ok (.istore 10, 2) := by decide +kernel
theorem dX6_single_80 : decode cX6_single 80 = .ok (.iload 7, 2) := by decide +kernel
theorem dX6_single_82 : decode cX6_single 82 = .ok (.iload 10, 2) := by decide +kernel
theorem dX6_single_84 : decode cX6_single 84 = .ok (.ifCond .eq 20, 3) := by decide +kernel
theorem dX6_single_87 : decode cX6_single 87 = .ok (.iload 4, 2) := by decide +kernel
theorem dX6_single_89 : decode cX6_single 89 = .ok (.iload 6, 2) := by decide +kernel
theorem dX6_single_91 : decode cX6_single 91 = .ok (.iload 5, 2) := by decide +kernel
theorem dX6_single_93 : decode cX6_single 93 = .ok (.iload 8, 2) := by decide +kernel
theorem dX6_single_95 : decode cX6_single 95 = .ok (.imul, 1) := by decide +kernel
theorem dX6_single_96 : decode cX6_single 96 = .ok (.iload 9, 2) := by decide +kernel
theorem dX6_single_98 : decode cX6_single 98 = .ok (.iadd, 1) := by decide +kernel
theorem dX6_single_99 : decode cX6_single 99 = .ok (.imul, 1) := by decide +kernel
theorem dX6_single_100 : decode cX6_single 100 = .ok (.ishl, 1) := by decide +kernel
theorem dX6_single_101 : decode cX6_single 101 = .ok (.goto 4, 3) := by decide +kernel
theorem dX6_single_104 : decode cX6_single 104 = .ok (.iconst 0, 1) := by decide +kernel
theorem dX6_single_105 : decode cX6_single 105 = .ok (.ior, 1) := by decide +kernel
theorem dX6_single_106 : decode cX6_single 106 = .ok (.istore 7, 2) := by decide +kernel
theorem dX6_single_108 : decode cX6_single 108 = .ok (.iinc 9 1, 3) := by decide +kernel
theorem dX6_single_111 : decode cX6_single 111 = .ok (.goto (-65), 3) := by decide +kernel
theorem dX6_single_114 : decode cX6_single 114 = .ok (.iinc 8 1, 3) := by decide +kernel
theorem dX6_single_117 : decode cX6_single 117 = .ok (.goto (-87), 3) := by decide +kernel
theorem dX6_single_120 : decode cX6_single 120 = .ok (.iload 7, 2) := by decide +kernel
theorem dX6_single_122 : decode cX6_single 122 = .ok (.ireturn, 1) := by decide +kernel
abbrev rmX6_single : Room := { frames := 1, cells := 0, slots := 0, locals := 20 }
theorem zyX6_single : zyOK yX6_single 4 := ⟨by decide +kernel, by decide +kernel, by decide +kernel⟩
set_option maxHeartbeats 4000000 in
set_option maxRecDepth 100000 in
theorem wX6_single {G : ZG} (a0 : Nat) (a1 : Int32) (a2 : Int32) (a3 : Int32) (a4 : Int32) (S : ZS) (h0 : zFix G cX6_single RX6 11 (some .int) rmX6_single) (C : Option Int32 → Prop) (hC : ¬ C none) (hE : ∀ v : Int32, C (some v) → zEnd G (some (.int v)) S rmX6_single) : zV G 11 S 0 0 0 [(0, .ref a0), (1, .int a1), (2, .int a2), (3, .int a3), (4, .int a4)] [] (C (fX6_single a0 a1 a2 a3 a4 S)) := by
  unfold fX6_single
  refine zr_aload_n h0 dX6_single_0 rfl (n := 1) rfl ?_
  refine zr_getR C hC h0 zcX6 (k := 3) (by decide) zw_822 dX6_single_1 (n := 4) rfl (fun v1 => ?_)
  refine zr_iconst (3 : Int32) h0 (by decide) dX6_single_4 (n := 5) rfl ?_
  refine zr_iload_n h0 dX6_single_5 rfl (n := 6) rfl ?_
  refine zr_imul h0 dX6_single_6 (n := 7) rfl ?_
  refine zr_iconst (1 : Int32) h0 (by decide) dX6_single_7 (n := 8) rfl ?_
  refine zr_iadd h0 dX6_single_8 (n := 9) rfl ?_
  refine zr_iaload C hC h0 dX6_single_9 (n := 10) rfl (fun v2 => ?_)
  refine zr_istore [(0, .ref a0), (1, .int a1), (2, .int a2), (3, .int a3), (4, .int a4), (5, .int v2)] h0 dX6_single_10 (by decide) rfl (n := 12) rfl ?_
  refine zr_aload_n h0 dX6_single_12 rfl (n := 13) rfl ?_
  refine zr_getR C hC h0 zcX6 (k := 3) (by decide) zw_822 dX6_single_13 (n := 16) rfl (fun v3 => ?_)
  refine zr_iconst (3 : Int32) h0 (by decide) dX6_single_16 (n := 17) rfl ?_
  refine zr_iload_n h0 dX6_single_17 rfl (n := 18) rfl ?_
  refine zr_imul h0 dX6_single_18 (n := 19) rfl ?_
  refine zr_iconst (2 : Int32) h0 (by decide) dX6_single_19 (n := 20) rfl ?_
  refine zr_iadd h0 dX6_single_20 (n := 21) rfl ?_
  refine zr_iaload C hC h0 dX6_single_21 (n := 22) rfl (fun v4 => ?_)
  refine zr_istore [(0, .ref a0), (1, .int a1), (2, .int a2), (3, .int a3), (4, .int a4), (5, .int v2), (6, .int v4)] h0 dX6_single_22 (by decide) rfl (n := 24) rfl ?_
  refine zr_iconst (0 : Int32) h0 (by decide) dX6_single_24 (n := 25) rfl ?_
  refine zr_istore [(0, .ref a0), (1, .int a1), (2, .int a2), (3, .int a3), (4, .int a4), (5, .int v2), (6, .int v4), (7, .int (0 : Int32))] h0 dX6_single_25 (by decide) rfl (n := 27) rfl ?_
  refine zr_iconst (0 : Int32) h0 (by decide) dX6_single_27 (n := 28) rfl ?_
  refine zr_istore [(0, .ref a0), (1, .int a1), (2, .int a2), (3, .int a3), (4, .int a4), (5, .int v2), (6, .int v4), (7, .int (0 : Int32)), (8, .int (0 : Int32))] h0 dX6_single_28 (by decide) rfl (n := 30) rfl ?_
  refine zr_loop hC (fX6_single_B30 a0 a1 a2 a3 a4 v2 v4 S) (fun y => [(0, .ref a0), (1, .int a1), (2, .int a2), (3, .int a3), (4, .int a4), (5, .int v2), (6, .int v4), (7, .int y.1), (8, .int y.2)]) (fun y => S) zF ((0 : Int32), (0 : Int32)) (fun C30 hC30 hX30 hL30 t30 => ?_)
  unfold fX6_single_B30
  refine zr_iload h0 dX6_single_30 rfl (n := 32) rfl ?_
  refine zr_aload_n h0 dX6_single_32 rfl (n := 33) rfl ?_
  refine zr_getR C30 hC30 h0 zcX6 (k := 3) (by decide) zw_822 dX6_single_33 (n := 36) rfl (fun v7 => ?_)
  refine zr_iconst (3 : Int32) h0 (by decide) dX6_single_36 (n := 37) rfl ?_
  refine zr_iload_n h0 dX6_single_37 rfl (n := 38) rfl ?_
  refine zr_imul h0 dX6_single_38 (n := 39) rfl ?_
  refine zr_iaload C30 hC30 h0 dX6_single_39 (n := 40) rfl (fun v8 => ?_)
  refine zr_icmp_ge C30 (tgt := 120) h0 dX6_single_40 (by decide) (n := 43) rfl ?_ ?_
  · refine zr_ex hX30 ?_
    refine zv_sub (lv' := [(7, .int t30.1)]) ?_ (zsub_of [7] rfl)
    refine zr_iload h0 dX6_single_120 rfl (n := 122) rfl ?_
    exact zr_iret h0 rfl dX6_single_122 (hE _) (by decide) (by decide)
  · refine zr_iconst (0 : Int32) h0 (by decide) dX6_single_43 (n := 44) rfl ?_
    refine zr_istore [(0, .ref a0), (1, .int a1), (2, .int a2), (3, .int a3), (4, .int a4), (5, .int v2), (6, .int v4), (7, .int t30.1), (8, .int t30.2), (9, .int (0 : Int32))] h0 dX6_single_44 (by decide) rfl (n := 46) rfl ?_
    refine zr_loop hC30 (fX6_single_B46 a0 a1 a2 a3 a4 v2 v4 t30.2 S) (fun y => [(0, .ref a0), (1, .int a1), (2, .int a2), (3, .int a3), (4, .int a4), (5, .int v2), (6, .int v4), (7, .int y.1), (8, .int t30.2), (9, .int y.2)]) (fun y => S) zF (t30.1, (0 : Int32)) (fun C46 hC46 hX46 hL46 t46 => ?_)
    have J105 : ∀ (l9_105 : Int32) (s0_105 : Int32) (s1_105 : Int32), zV G 11 S 0 0 105 [(0, .ref a0), (1, .int a1), (2, .int a2), (3, .int a3), (4, .int a4), (5, .int v2), (6, .int v4), (8, .int t30.2), (9, .int l9_105)] [.int s1_105, .int s0_105] (C46 (fX6_single_J105 a0 a1 a2 a3 a4 v2 v4 t30.2 l9_105 s0_105 s1_105 S)) := by
      intro l9_105 s0_105 s1_105
      unfold fX6_single_J105
      refine zr_ior h0 dX6_single_105 (n := 106) rfl ?_
      refine zr_istore [(0, .ref a0), (1, .int a1), (2, .int a2), (3, .int a3), (4, .int a4), (5, .int v2), (6, .int v4), (7, .int (s0_105 ||| s1_105)), (8, .int t30.2), (9, .int l9_105)] h0 dX6_single_106 (by decide) rfl (n := 108) rfl ?_
      refine zr_iinc (1 : Int32) [(0, .ref a0), (1, .int a1), (2, .int a2), (3, .int a3), (4, .int a4), (5, .int v2), (6, .int v4), (7, .int (s0_105 ||| s1_105)), (8, .int t30.2), (9, .int (l9_105 + (1 : Int32)))] h0 dX6_single_108 rfl (by decide) rfl rfl (n := 111) rfl ?_
      refine zr_goto (tgt := 46) h0 dX6_single_111 (by decide) ?_
      exact hL46 (s0_105 ||| s1_105, l9_105 + (1 : Int32))
    have J78 : ∀ (l7_78 : Int32) (l9_78 : Int32) (s0_78 : Int32), zV G 11 S 0 0 78 [(0, .ref a0), (1, .int a1), (2, .int a2), (3, .int a3), (4, .int a4), (5, .int v2), (6, .int v4), (7, .int l7_78), (8, .int t30.2), (9, .int l9_78)] [.int s0_78] (C46 (fX6_single_J78 a0 a1 a2 a3 a4 v2 v4 l7_78 t30.2 l9_78 s0_78 S)) := by
      intro l7_78 l9_78 s0_78
      unfold fX6_single_J78
      refine zr_istore [(0, .ref a0), (1, .int a1), (2, .int a2), (3, .int a3), (4, .int a4), (5, .int v2), (6, .int v4), (7, .int l7_78), (8, .int t30.2), (9, .int l9_78), (10, .int s0_78)] h0 dX6_single_78 (by decide) rfl (n := 80) rfl ?_
      refine zr_iload h0 dX6_single_80 rfl (n := 82) rfl ?_
      refine zr_iload h0 dX6_single_82 rfl (n := 84) rfl ?_
      refine zr_if_eq C46 (tgt := 104) h0 dX6_single_84 (by decide) (n := 87) rfl ?_ ?_
      · refine zv_sub (lv' := [(0, .ref a0), (1, .int a1), (2, .int a2), (3, .int a3), (4, .int a4), (5, .int v2), (6, .int v4), (8, .int t30.2), (9, .int l9_78)]) ?_ (zsub_of [0, 1, 2, 3, 4, 5, 6, 8, 9] rfl)
        refine zr_iconst (0 : Int32) h0 (by decide) dX6_single_104 (n := 105) rfl ?_
        exact J105 l9_78 l7_78 (0 : Int32)
      · refine zv_sub (lv' := [(0, .ref a0), (1, .int a1), (2, .int a2), (3, .int a3), (4, .int a4), (5, .int v2), (6, .int v4), (8, .int t30.2), (9, .int l9_78)]) ?_ (zsub_of [0, 1, 2, 3, 4, 5, 6, 8, 9] rfl)
        refine zr_iload h0 dX6_single_87 rfl (n := 89) rfl ?_
        refine zr_iload h0 dX6_single_89 rfl (n := 91) rfl ?_
        refine zr_iload h0 dX6_single_91 rfl (n := 93) rfl ?_
        refine zr_iload h0 dX6_single_93 rfl (n := 95) rfl ?_
        refine zr_imul h0 dX6_single_95 (n := 96) rfl ?_
        refine zr_iload h0 dX6_single_96 rfl (n := 98) rfl ?_
        refine zr_iadd h0 dX6_single_98 (n := 99) rfl ?_
        refine zr_imul h0 dX6_single_99 (n := 100) rfl ?_
        refine zr_ishl h0 dX6_single_100 (n := 101) rfl ?_
        refine zr_goto (tgt := 105) h0 dX6_single_101 (by decide) ?_
        exact J105 l9_78 l7_78 (a4 <<< ((v4 * ((v2 * t30.2) + l9_78)) &&& 31))
    have J77 : ∀ (l7_77 : Int32) (l9_77 : Int32), zV G 11 S 0 0 77 [(0, .ref a0), (1, .int a1), (2, .int a2), (3, .int a3), (4, .int a4), (5, .int v2), (6, .int v4), (7, .int l7_77), (8, .int t30.2), (9, .int l9_77)] [] (C46 (fX6_single_J77 a0 a1 a2 a3 a4 v2 v4 l7_77 t30.2 l9_77 S)) := by
      intro l7_77 l9_77
      unfold fX6_single_J77
      refine zr_iconst (0 : Int32) h0 (by decide) dX6_single_77 (n := 78) rfl ?_
      exact J78 l7_77 l9_77 (0 : Int32)
    unfold fX6_single_B46
    refine zr_iload h0 dX6_single_46 rfl (n := 48) rfl ?_
    refine zr_iload h0 dX6_single_48 rfl (n := 50) rfl ?_
    refine zr_icmp_ge C46 (tgt := 114) h0 dX6_single_50 (by decide) (n := 53) rfl ?_ ?_
    · refine zr_ex hX46 ?_
      refine zv_sub (lv' := [(0, .ref a0), (1, .int a1), (2, .int a2), (3, .int a3), (4, .int a4), (5, .int v2), (6, .int v4), (7, .int t46.1), (8, .int t30.2)]) ?_ (zsub_of [0, 1, 2, 3, 4, 5, 6, 7, 8] rfl)
      refine zr_iinc (1 : Int32) [(0, .ref a0), (1, .int a1), (2, .int a2), (3, .int a3), (4, .int a4), (5, .int v2), (6, .int v4), (7, .int t46.1), (8, .int (t30.2 + (1 : Int32)))] h0 dX6_single_114 rfl (by decide) rfl rfl (n := 117) rfl ?_
      refine zr_goto (tgt := 30) h0 dX6_single_117 (by decide) ?_
      exact hL30 (t46.1, t30.2 + (1 : Int32))
    · refine zr_iload_n h0 dX6_single_53 rfl (n := 54) rfl ?_
      refine zr_iload h0 dX6_single_54 rfl (n := 56) rfl ?_
      refine zr_ishr h0 dX6_single_56 (n := 57) rfl ?_
      refine zr_iconst (1 : Int32) h0 (by decide) dX6_single_57 (n := 58) rfl ?_
      refine zr_iand h0 dX6_single_58 (n := 59) rfl ?_
      refine zr_iconst (1 : Int32) h0 (by decide) dX6_single_59 (n := 60) rfl ?_
      refine zr_icmp_ne C46 (tgt := 77) h0 dX6_single_60 (by decide) (n := 63) rfl ?_ ?_
      · refine zr_iload_n h0 dX6_single_63 rfl (n := 64) rfl ?_
        refine zr_iload h0 dX6_single_64 rfl (n := 66) rfl ?_
        refine zr_ishr h0 dX6_single_66 (n := 67) rfl ?_
        refine zr_iconst (1 : Int32) h0 (by decide) dX6_single_67 (n := 68) rfl ?_
        refine zr_iand h0 dX6_single_68 (n := 69) rfl ?_
        refine zr_iconst (1 : Int32) h0 (by decide) dX6_single_69 (n := 70) rfl ?_
        refine zr_icmp_ne C46 (tgt := 77) h0 dX6_single_70 (by decide) (n := 73) rfl ?_ ?_
        · refine zr_iconst (1 : Int32) h0 (by decide) dX6_single_73 (n := 74) rfl ?_
          refine zr_goto (tgt := 78) h0 dX6_single_74 (by decide) ?_
          exact J78 t46.1 t46.2 (1 : Int32)
        · exact J77 t46.1 t46.2
      · exact J77 t46.1 t46.2
theorem kX6_single (l : Launch) (D : ZD) (z0 : Nat) (a0 : Nat) (a1 : Int32) (a2 : Int32) (a3 : Int32) (a4 : Int32) (S : ZS) (x : Int32) (hf : fX6_single a0 a1 a2 a3 a4 S = some x) : zMet l D z0 yX6_single cX6_single 11 (some .int) rmX6_single [.ref a0, .int a1, .int a2, .int a3, .int a4] S (some (.int x)) S :=
  zMet_of (by decide) (Nat.le_of_ble_eq_true rfl) (fun G h0 hini hE => wX6_single a0 a1 a2 a3 a4 S h0 (fun o => o = some x) (fun h => nomatch h) (fun v h => by cases h; exact hE)) hf
