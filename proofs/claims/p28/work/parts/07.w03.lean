theorem dX1_rankOf_0 : decode cX1_rankOf 0 = .ok (.aload_n 0, 1) := by decide +kernel
theorem dX1_rankOf_1 : decode cX1_rankOf 1 = .ok (.aload_n 1, 1) := by decide +kernel
theorem dX1_rankOf_2 : decode cX1_rankOf 2 = .ok (.iload_n 2, 1) := by decide +kernel
theorem dX1_rankOf_3 : decode cX1_rankOf 3 = .ok (.iload_n 3, 1) := by decide +kernel
theorem dX1_rankOf_4 : decode cX1_rankOf 4 = .ok (.invokevirtual 15, 3) := by decide +kernel
theorem dX1_rankOf_7 : decode cX1_rankOf 7 = .ok (.iconst 0, 1) := by decide +kernel
theorem dX1_rankOf_8 : decode cX1_rankOf 8 = .ok (.istore 4, 2) := by decide +kernel
theorem dX1_rankOf_10 : decode cX1_rankOf 10 = .ok (.iconst 0, 1) := by decide +kernel
theorem dX1_rankOf_11 : decode cX1_rankOf 11 = .ok (.istore 5, 2) := by decide +kernel
theorem dX1_rankOf_13 : decode cX1_rankOf 13 = .ok (.iload 5, 2) := by decide +kernel
theorem dX1_rankOf_15 : decode cX1_rankOf 15 = .ok (.bipush 16, 2) := by decide +kernel
theorem dX1_rankOf_17 : decode cX1_rankOf 17 = .ok (.if_icmp .ge 44, 3) := by decide +kernel
theorem dX1_rankOf_20 : decode cX1_rankOf 20 = .ok (.aload_n 0, 1) := by decide +kernel
theorem dX1_rankOf_21 : decode cX1_rankOf 21 = .ok (.iload 5, 2) := by decide +kernel
theorem dX1_rankOf_23 : decode cX1_rankOf 23 = .ok (.iload 4, 2) := by decide +kernel
theorem dX1_rankOf_25 : decode cX1_rankOf 25 = .ok (.invokevirtual 19, 3) := by decide +kernel
theorem dX1_rankOf_28 : decode cX1_rankOf 28 = .ok (.istore 6, 2) := by decide +kernel
theorem dX1_rankOf_30 : decode cX1_rankOf 30 = .ok (.iload 6, 2) := by decide +kernel
theorem dX1_rankOf_32 : decode cX1_rankOf 32 = .ok (.iconst (-1), 1) := by decide +kernel
theorem dX1_rankOf_33 : decode cX1_rankOf 33 = .ok (.if_icmp .eq 22, 3) := by decide +kernel
theorem dX1_rankOf_36 : decode cX1_rankOf 36 = .ok (.aload_n 0, 1) := by decide +kernel
theorem dX1_rankOf_37 : decode cX1_rankOf 37 = .ok (.iload 6, 2) := by decide +kernel
theorem dX1_rankOf_39 : decode cX1_rankOf 39 = .ok (.iload 4, 2) := by decide +kernel
theorem dX1_rankOf_41 : decode cX1_rankOf 41 = .ok (.invokevirtual 23, 3) := by decide +kernel
theorem dX1_rankOf_44 : decode cX1_rankOf 44 = .ok (.aload_n 0, 1) := by decide +kernel
theorem dX1_rankOf_45 : decode cX1_rankOf 45 = .ok (.iload 5, 2) := by decide +kernel
theorem dX1_rankOf_47 : decode cX1_rankOf 47 = .ok (.iload 4, 2) := by decide +kernel
theorem dX1_rankOf_49 : decode cX1_rankOf 49 = .ok (.invokevirtual 27, 3) := by decide +kernel
theorem dX1_rankOf_52 : decode cX1_rankOf 52 = .ok (.iinc 4 1, 3) := by decide +kernel
theorem dX1_rankOf_55 : decode cX1_rankOf 55 = .ok (.iinc 5 1, 3) := by decide +kernel
theorem dX1_rankOf_58 : decode cX1_rankOf 58 = .ok (.goto (-45), 3) := by decide +kernel
theorem dX1_rankOf_61 : decode cX1_rankOf 61 = .ok (.iload 4, 2) := by decide +kernel
theorem dX1_rankOf_63 : decode cX1_rankOf 63 = .ok (.ireturn, 1) := by decide +kernel
abbrev rmX1_rankOf : Room := { frames := 5, cells := 0, slots := 0, locals := 114 }
theorem zyX1_rankOf : zyOK yX1_rankOf 3 := ⟨by decide +kernel, by decide +kernel, by decide +kernel⟩
set_option maxHeartbeats 4000000 in
set_option maxRecDepth 100000 in
theorem wX1_rankOf {G : ZG} (a0 : Nat) (a1 : Nat) (a2 : Int32) (a3 : Int32) (S : ZS) (h0 : zFix G cX1_rankOf RX1 7 (some .int) rmX1_rankOf) (C : Option (Int32 × ZS) → Prop) (hC : ¬ C none) (hE : ∀ (v : Int32) (S1 : ZS), C (some (v, S1)) → zEnd G (some (.int v)) S1 rmX1_rankOf) : zV G 7 S 0 0 0 [(0, .ref a0), (1, .ref a1), (2, .int a2), (3, .int a3)] [] (C (fX1_rankOf a0 a1 a2 a3 S)) := by
  unfold fX1_rankOf
  refine zr_aload_n h0 dX1_rankOf_0 rfl (n := 1) rfl ?_
  refine zr_aload_n h0 dX1_rankOf_1 rfl (n := 2) rfl ?_
  refine zr_iload_n h0 dX1_rankOf_2 rfl (n := 3) rfl ?_
  refine zr_iload_n h0 dX1_rankOf_3 rfl (n := 4) rfl ?_
  refine zr_cMV C hC 0 0 (fun x hx => zk_V h0 zcX1 (zcl_ex hx) (fun l D z0 => kX1_take l D z0 a0 a1 a2 a3 S x (zcl_of hx)) zw_588 zw_590 zs_13 zw_2 zw_591 rfl zyX1_take (As := [.ref a1, .int a2, .int a3]) (st := []) rfl (by decide) rfl (Nat.le_of_ble_eq_true rfl) (by decide) dX1_rankOf_4) rfl rfl (n := 7) rfl (fun x1 => ?_)
  refine zr_iconst (0 : Int32) h0 (by decide) dX1_rankOf_7 (n := 8) rfl ?_
  refine zr_istore [(0, .ref a0), (1, .ref a1), (2, .int a2), (3, .int a3), (4, .int (0 : Int32))] h0 dX1_rankOf_8 (by decide) rfl (n := 10) rfl ?_
  refine zr_iconst (0 : Int32) h0 (by decide) dX1_rankOf_10 (n := 11) rfl ?_
  refine zr_istore [(0, .ref a0), (1, .ref a1), (2, .int a2), (3, .int a3), (4, .int (0 : Int32)), (5, .int (0 : Int32))] h0 dX1_rankOf_11 (by decide) rfl (n := 13) rfl ?_
  refine zv_sub (lv' := [(0, .ref a0), (4, .int (0 : Int32)), (5, .int (0 : Int32))]) ?_ (zsub_of [0, 4, 5] rfl)
  refine zr_loop hC (fX1_rankOf_B13 a0) (fun y => [(0, .ref a0), (4, .int y.1), (5, .int y.2.1)]) (fun y => y.2.2) zF ((0 : Int32), (0 : Int32), x1) (fun C13 hC13 hX13 hL13 t13 => ?_)
  have J55 : ∀ (l4_55 : Int32) (l5_55 : Int32) (S_55 : ZS), zV G 7 S_55 0 0 55 [(0, .ref a0), (4, .int l4_55), (5, .int l5_55)] [] (C13 (fX1_rankOf_J55 a0 l4_55 l5_55 S_55)) := by
    intro l4_55 l5_55 S_55
    unfold fX1_rankOf_J55
    refine zr_iinc (1 : Int32) [(0, .ref a0), (4, .int l4_55), (5, .int (l5_55 + (1 : Int32)))] h0 dX1_rankOf_55 rfl (by decide) rfl rfl (n := 58) rfl ?_
    refine zr_goto (tgt := 13) h0 dX1_rankOf_58 (by decide) ?_
    exact hL13 (l4_55, l5_55 + (1 : Int32), S_55)
  unfold fX1_rankOf_B13
  refine zr_iload h0 dX1_rankOf_13 rfl (n := 15) rfl ?_
  refine zr_bipush (16 : Int32) h0 (by decide) dX1_rankOf_15 (n := 17) rfl ?_
  refine zr_icmp_ge C13 (tgt := 61) h0 dX1_rankOf_17 (by decide) (n := 20) rfl ?_ ?_
  · refine zr_ex hX13 ?_
    refine zv_sub (lv' := [(4, .int t13.1)]) ?_ (zsub_of [1] rfl)
    refine zr_iload h0 dX1_rankOf_61 rfl (n := 63) rfl ?_
    exact zr_iret h0 rfl dX1_rankOf_63 (hE _ _) (by decide) (by decide)
  · refine zr_aload_n h0 dX1_rankOf_20 rfl (n := 21) rfl ?_
    refine zr_iload h0 dX1_rankOf_21 rfl (n := 23) rfl ?_
    refine zr_iload h0 dX1_rankOf_23 rfl (n := 25) rfl ?_
    refine zr_cRI C13 hC13 0 0 (fun x hx => zk_V h0 zcX1 (zcl_ex hx) (fun l D z0 => kX1_rowWithNumber l D z0 a0 t13.2.1 t13.1 t13.2.2 x (zcl_of hx)) zw_602 zw_604 zs_15 zw_2 zw_605 rfl zyX1_rowWithNumber (As := [.int t13.2.1, .int t13.1]) (st := []) rfl (by decide) rfl (Nat.le_of_ble_eq_true rfl) (by decide) dX1_rankOf_25) rfl rfl (n := 28) rfl (fun x5 => ?_)
    refine zr_istore [(0, .ref a0), (4, .int t13.1), (5, .int t13.2.1), (6, .int x5)] h0 dX1_rankOf_28 (by decide) rfl (n := 30) rfl ?_
    refine zr_iload h0 dX1_rankOf_30 rfl (n := 32) rfl ?_
    refine zr_iconst (-1 : Int32) h0 (by decide) dX1_rankOf_32 (n := 33) rfl ?_
    refine zr_icmp_eq C13 (tgt := 55) h0 dX1_rankOf_33 (by decide) (n := 36) rfl ?_ ?_
    · refine zv_sub (lv' := [(0, .ref a0), (4, .int t13.1), (5, .int t13.2.1)]) ?_ (zsub_of [0, 1, 2] rfl)
      exact J55 t13.1 t13.2.1 t13.2.2
    · refine zr_aload_n h0 dX1_rankOf_36 rfl (n := 37) rfl ?_
      refine zr_iload h0 dX1_rankOf_37 rfl (n := 39) rfl ?_
      refine zr_iload h0 dX1_rankOf_39 rfl (n := 41) rfl ?_
      refine zr_cMV C13 hC13 0 0 (fun x hx => zk_V h0 zcX1 (zcl_ex hx) (fun l D z0 => kX1_swapRows l D z0 a0 x5 t13.1 t13.2.2 x (zcl_of hx)) zw_611 zw_613 zs_17 zw_2 zw_614 rfl zyX1_swapRows (As := [.int x5, .int t13.1]) (st := []) rfl (by decide) rfl (Nat.le_of_ble_eq_true rfl) (by decide) dX1_rankOf_41) rfl rfl (n := 44) rfl (fun x6 => ?_)
      refine zr_aload_n h0 dX1_rankOf_44 rfl (n := 45) rfl ?_
      refine zr_iload h0 dX1_rankOf_45 rfl (n := 47) rfl ?_
      refine zr_iload h0 dX1_rankOf_47 rfl (n := 49) rfl ?_
      refine zr_cMV C13 hC13 0 0 (fun x hx => zk_V h0 zcX1 (zcl_ex hx) (fun l D z0 => kX1_clearBelow l D z0 a0 t13.2.1 t13.1 x6 x (zcl_of hx)) zw_615 zw_617 zs_18 zw_2 zw_618 rfl zyX1_clearBelow (As := [.int t13.2.1, .int t13.1]) (st := []) rfl (by decide) rfl (Nat.le_of_ble_eq_true rfl) (by decide) dX1_rankOf_49) rfl rfl (n := 52) rfl (fun x7 => ?_)
      refine zr_iinc (1 : Int32) [(0, .ref a0), (4, .int (t13.1 + (1 : Int32))), (5, .int t13.2.1), (6, .int x5)] h0 dX1_rankOf_52 rfl (by decide) rfl rfl (n := 55) rfl ?_
      refine zv_sub (lv' := [(0, .ref a0), (4, .int (t13.1 + (1 : Int32))), (5, .int t13.2.1)]) ?_ (zsub_of [0, 1, 2] rfl)
      exact J55 (t13.1 + (1 : Int32)) t13.2.1 x7
theorem kX1_rankOf (l : Launch) (D : ZD) (z0 : Nat) (a0 : Nat) (a1 : Nat) (a2 : Int32) (a3 : Int32) (S : ZS) (x : Int32 × ZS) (hf : fX1_rankOf a0 a1 a2 a3 S = some x) : zMet l D z0 yX1_rankOf cX1_rankOf 7 (some .int) rmX1_rankOf [.ref a0, .ref a1, .int a2, .int a3] S (some (.int x.1)) x.2 :=
  zMet_of (by decide) (Nat.le_of_ble_eq_true rfl) (fun G h0 hini hE => wX1_rankOf a0 a1 a2 a3 S h0 (fun o => o = some x) (fun h => nomatch h) (fun v S1 h => by cases h; exact hE)) hf
theorem dX5_flattening_0 : decode cX5_flattening 0 = .ok (.aload_n 0, 1) := by decide +kernel
theorem dX5_flattening_1 : decode cX5_flattening 1 = .ok (.iload_n 1, 1) := by decide +kernel
theorem dX5_flattening_2 : decode cX5_flattening 2 = .ok (.invokevirtual 87, 3) := by decide +kernel
theorem dX5_flattening_5 : decode cX5_flattening 5 = .ok (.astore_n 3, 1) := by decide +kernel
theorem dX5_flattening_6 : decode cX5_flattening 6 = .ok (.iload_n 2, 1) := by decide +kernel
theorem dX5_flattening_7 : decode cX5_flattening 7 = .ok (.invokestatic 101, 3) := by decide +kernel
theorem dX5_flattening_10 : decode cX5_flattening 10 = .ok (.aload_n 0, 1) := by decide +kernel
theorem dX5_flattening_11 : decode cX5_flattening 11 = .ok (.getfield 24, 3) := by decide +kernel
theorem dX5_flattening_14 : decode cX5_flattening 14 = .ok (.aload_n 3, 1) := by decide +kernel
theorem dX5_flattening_15 : decode cX5_flattening 15 = .ok (.iload_n 2, 1) := by decide +kernel
theorem dX5_flattening_16 : decode cX5_flattening 16 = .ok (.aload_n 0, 1) := by decide +kernel
theorem dX5_flattening_17 : decode cX5_flattening 17 = .ok (.getfield 46, 3) := by decide +kernel
theorem dX5_flattening_20 : decode cX5_flattening 20 = .ok (.invokevirtual 199, 3) := by decide +kernel
theorem dX5_flattening_23 : decode cX5_flattening 23 = .ok (.ireturn, 1) := by decide +kernel
abbrev rmX5_flattening : Room := { frames := 7, cells := 2, slots := 12, locals := 140 }
theorem zyX5_flattening : zyOK yX5_flattening 2 := ⟨by decide +kernel, by decide +kernel, by decide +kernel⟩
set_option maxHeartbeats 4000000 in
set_option maxRecDepth 100000 in
theorem wX5_flattening {G : ZG} (a0 : Nat) (a1 : Int32) (a2 : Int32) (S : ZS) (h0 : zFix G cX5_flattening RX5 4 (some .int) rmX5_flattening) (C : Option ((Int32 × ZS) ⊕ ZX) → Prop) (hC : ¬ C none) (hnt : zNoTab G) (hE : ∀ (v : Int32) (S1 : ZS), C (some (.inl (v, S1))) → zEndT G (some (.int v)) S1 rmX5_flattening) (hEx : ∀ (E : String) (h : ZH), C (some (.inr (E, h))) → zEndX G E h rmX5_flattening) : zV G 4 S 0 0 0 [(0, .ref a0), (1, .int a1), (2, .int a2)] [] (C (fX5_flattening a0 a1 a2 S)) := by
  unfold fX5_flattening
  refine zr_aload_n h0 dX5_flattening_0 rfl (n := 1) rfl ?_
  refine zr_iload_n h0 dX5_flattening_1 rfl (n := 2) rfl ?_
  refine zr_cTR C hC 1 6 h0 (fun x hx => zk_VT h0 zcX5 (zcl_ex hx) (fun l D z0 hlt => kX5_needCube l D z0 hlt a0 a1 S x (zcl_of hx)) hnt zw_296 zw_298 zs_2 zw_1 zw_299 rfl zyX5_needCube (As := [.int a1]) (st := []) rfl (by decide) rfl (Nat.le_of_ble_eq_true rfl) (by decide) dX5_flattening_2) hnt rfl rfl (by decide) (by decide) (n := 5) rfl (fun z h => hEx _ _ h) (fun x1 => ?_)
  refine zr_astore_n [(0, .ref a0), (1, .int a1), (2, .int a2), (3, .ref x1.1)] h0 dX5_flattening_5 (by decide) rfl (n := 6) rfl ?_
  refine zr_iload_n h0 dX5_flattening_6 rfl (n := 7) rfl ?_
  refine zr_cTV C hC 2 12 h0 (fun x hx => zk_ST h0 (fun l D z0 hlt => kX5_needSide l D z0 hlt a2 x1.2 x hx) hnt zw_338 zw_339 zw_1 zw_340 zyX5_needSide (As := [.int a2]) (st := []) rfl (by decide) rfl (Nat.le_of_ble_eq_true rfl) (by decide) dX5_flattening_7) hnt rfl rfl (by decide) (by decide) (n := 10) rfl (fun z h => hEx _ _ h) (fun x2 => ?_)
  refine zr_aload_n h0 dX5_flattening_10 rfl (n := 11) rfl ?_
  refine zr_getR C hC h0 zcX5 (k := 2) (by decide) zw_76 dX5_flattening_11 (n := 14) rfl (fun v3 => ?_)
  refine zr_aload_n h0 dX5_flattening_14 rfl (n := 15) rfl ?_
  refine zr_iload_n h0 dX5_flattening_15 rfl (n := 16) rfl ?_
  refine zr_aload_n h0 dX5_flattening_16 rfl (n := 17) rfl ?_
  refine zr_getI C hC h0 zcX5 (k := 6) (by decide) zw_80 dX5_flattening_17 (n := 20) rfl (fun v4 => ?_)
  refine zr_cMI C hC 2 12 (fun x hx => zk_V h0 zcX1 (zcl_ex hx) (fun l D z0 => kX1_rankOf l D z0 v3 x1.1 a2 v4 x2.2 x (zcl_of hx)) zw_584 zw_585 zw_586 zw_2 zw_587 rfl zyX1_rankOf (As := [.ref x1.1, .int a2, .int v4]) (st := []) rfl (by decide) rfl (Nat.le_of_ble_eq_true rfl) (by decide) dX5_flattening_20) rfl rfl (n := 23) rfl (fun x5 => ?_)
  exact zr_iretT h0 rfl dX5_flattening_23 (hE _ _) (by decide) (by decide)
theorem kX5_flattening (l : Launch) (D : ZD) (z0 : Nat) (hlt : l.stackTraces = false) (a0 : Nat) (a1 : Int32) (a2 : Int32) (S : ZS) (x : ((Int32 × ZS) ⊕ ZX)) (hf : fX5_flattening a0 a1 a2 S = some x) : zMetT l D z0 yX5_flattening cX5_flattening 4 (some .int) rmX5_flattening [.ref a0, .int a1, .int a2] S (x.map (fun y => ((some (.int y.1)), y.2)) id) :=
  zMetT_of hlt (by decide) (Nat.le_of_ble_eq_true rfl) (fun G h0 hnt hE hEx => wX5_flattening a0 a1 a2 S h0 (fun o => o = some x) (fun h => nomatch h) hnt (fun v S1 h => by cases h; exact hE _ _ rfl) (fun E h hh => by cases hh; exact hEx _ _ rfl)) hf
theorem dX5_greatestRank_0 : decode cX5_greatestRank 0 = .ok (.iconst 0, 1) := by decide +kernel
theorem dX5_greatestRank_1 : decode cX5_greatestRank 1 = .ok (.istore_n 2, 1) := by decide +kernel
theorem dX5_greatestRank_2 : decode cX5_greatestRank 2 = .ok (.iconst 0, 1) := by decide +kernel
theorem dX5_greatestRank_3 : decode cX5_greatestRank 3 = .ok (.istore_n 3, 1) := by decide +kernel
theorem dX5_greatestRank_4 : decode cX5_greatestRank 4 = .ok (.iload_n 3, 1) := by decide +kernel
theorem dX5_greatestRank_5 : decode cX5_greatestRank 5 = .ok (.iconst 3, 1) := by decide +kernel
theorem dX5_greatestRank_6 : decode cX5_greatestRank 6 = .ok (.if_icmp .ge 27, 3) := by decide +kernel
theorem dX5_greatestRank_9 : decode cX5_greatestRank 9 = .ok (.iload_n 2, 1) := by decide +kernel
theorem dX5_greatestRank_10 : decode cX5_greatestRank 10 = .ok (.aload_n 0, 1) := by decide +kernel
theorem dX5_greatestRank_11 : decode cX5_greatestRank 11 = .ok (.getfield 24, 3) := by decide +kernel
theorem dX5_greatestRank_14 : decode cX5_greatestRank 14 = .ok (.aload_n 1, 1) := by decide +kernel
theorem dX5_greatestRank_15 : decode cX5_greatestRank 15 = .ok (.iload_n 3, 1) := by decide +kernel
theorem dX5_greatestRank_16 : decode cX5_greatestRank 16 = .ok (.aload_n 0, 1) := by decide +kernel
theorem dX5_greatestRank_17 : decode cX5_greatestRank 17 = .ok (.getfield 46, 3) := by decide +kernel
theorem dX5_greatestRank_20 : decode cX5_greatestRank 20 = .ok (.invokevirtual 199, 3) := by decide +kernel
theorem dX5_greatestRank_23 : decode cX5_greatestRank 23 = .ok (.invokestatic 293, 3) := by decide +kernel
theorem dX5_greatestRank_26 : decode cX5_greatestRank 26 = .ok (.istore_n 2, 1) := by decide +kernel
theorem dX5_greatestRank_27 : decode cX5_greatestRank 27 = .ok (.iinc 3 1, 3) := by decide +kernel
theorem dX5_greatestRank_30 : decode cX5_greatestRank 30 = .ok (.goto (-26), 3) := by decide +kernel
theorem dX5_greatestRank_33 : decode cX5_greatestRank 33 = .ok (.iload_n 2, 1) := by decide +kernel
theorem dX5_greatestRank_34 : decode cX5_greatestRank 34 = .ok (.ireturn, 1) := by decide +kernel
abbrev rmX5_greatestRank : Room := { frames := 6, cells := 0, slots := 0, locals := 140 }
theorem zyX5_greatestRank : zyOK yX5_greatestRank 1 := ⟨by decide +kernel, by decide +kernel, by decide +kernel⟩
set_option maxHeartbeats 4000000 in
set_option maxRecDepth 100000 in
theorem wX5_greatestRank {G : ZG} (a0 : Nat) (a1 : Nat) (S : ZS) (h0 : zFix G cX5_greatestRank RX5 4 (some .int) rmX5_greatestRank) (C : Option (Int32 × ZS) → Prop) (hC : ¬ C none) (hE : ∀ (v : Int32) (S1 : ZS), C (some (v, S1)) → zEnd G (some (.int v)) S1 rmX5_greatestRank) : zV G 4 S 0 0 0 [(0, .ref a0), (1, .ref a1)] [] (C (fX5_greatestRank a0 a1 S)) := by
  unfold fX5_greatestRank
  refine zr_iconst (0 : Int32) h0 (by decide) dX5_greatestRank_0 (n := 1) rfl ?_
  refine zr_istore_n [(0, .ref a0), (1, .ref a1), (2, .int (0 : Int32))] h0 dX5_greatestRank_1 (by decide) rfl (n := 2) rfl ?_
  refine zr_iconst (0 : Int32) h0 (by decide) dX5_greatestRank_2 (n := 3) rfl ?_
  refine zr_istore_n [(0, .ref a0), (1, .ref a1), (2, .int (0 : Int32)), (3, .int (0 : Int32))] h0 dX5_greatestRank_3 (by decide) rfl (n := 4) rfl ?_
  refine zr_loop hC (fX5_greatestRank_B4 a0 a1) (fun y => [(0, .ref a0), (1, .ref a1), (2, .int y.1), (3, .int y.2.1)]) (fun y => y.2.2) zF ((0 : Int32), (0 : Int32), S) (fun C4 hC4 hX4 hL4 t4 => ?_)
  unfold fX5_greatestRank_B4
  refine zr_iload_n h0 dX5_greatestRank_4 rfl (n := 5) rfl ?_
  refine zr_iconst (3 : Int32) h0 (by decide) dX5_greatestRank_5 (n := 6) rfl ?_
  refine zr_icmp_ge C4 (tgt := 33) h0 dX5_greatestRank_6 (by decide) (n := 9) rfl ?_ ?_
  · refine zr_ex hX4 ?_
    refine zv_sub (lv' := [(2, .int t4.1)]) ?_ (zsub_of [2] rfl)
    refine zr_iload_n h0 dX5_greatestRank_33 rfl (n := 34) rfl ?_
    exact zr_iret h0 rfl dX5_greatestRank_34 (hE _ _) (by decide) (by decide)
  · refine zr_iload_n h0 dX5_greatestRank_9 rfl (n := 10) rfl ?_
    refine zr_aload_n h0 dX5_greatestRank_10 rfl (n := 11) rfl ?_
    refine zr_getR C4 hC4 h0 zcX5 (k := 2) (by decide) zw_76 dX5_greatestRank_11 (n := 14) rfl (fun v4 => ?_)
    refine zr_aload_n h0 dX5_greatestRank_14 rfl (n := 15) rfl ?_
    refine zr_iload_n h0 dX5_greatestRank_15 rfl (n := 16) rfl ?_
    refine zr_aload_n h0 dX5_greatestRank_16 rfl (n := 17) rfl ?_
    refine zr_getI C4 hC4 h0 zcX5 (k := 6) (by decide) zw_80 dX5_greatestRank_17 (n := 20) rfl (fun v5 => ?_)
    refine zr_cMI C4 hC4 0 0 (fun x hx => zk_V h0 zcX1 (zcl_ex hx) (fun l D z0 => kX1_rankOf l D z0 v4 a1 t4.2.1 v5 t4.2.2 x (zcl_of hx)) zw_584 zw_585 zw_586 zw_2 zw_587 rfl zyX1_rankOf (As := [.ref a1, .int t4.2.1, .int v5]) (st := [.int t4.1]) rfl (by decide) rfl (Nat.le_of_ble_eq_true rfl) (by decide) dX5_greatestRank_20) rfl rfl (n := 23) rfl (fun x6 => ?_)
    refine zr_mmax h0 zw_631 zw_632 zw_13 zw_633 (by decide) (Nat.le_of_ble_eq_true rfl) (by decide) (by decide) dX5_greatestRank_23 (n := 26) rfl ?_
    refine zr_istore_n [(0, .ref a0), (1, .ref a1), (2, .int (if t4.1 < x6.1 then x6.1 else t4.1)), (3, .int t4.2.1)] h0 dX5_greatestRank_26 (by decide) rfl (n := 27) rfl ?_
    refine zr_iinc (1 : Int32) [(0, .ref a0), (1, .ref a1), (2, .int (if t4.1 < x6.1 then x6.1 else t4.1)), (3, .int (t4.2.1 + (1 : Int32)))] h0 dX5_greatestRank_27 rfl (by decide) rfl rfl (n := 30) rfl ?_
    refine zr_goto (tgt := 4) h0 dX5_greatestRank_30 (by decide) ?_
    exact hL4 ((if t4.1 < x6.1 then x6.1 else t4.1), t4.2.1 + (1 : Int32), x6.2)
theorem kX5_greatestRank (l : Launch) (D : ZD) (z0 : Nat) (a0 : Nat) (a1 : Nat) (S : ZS) (x : Int32 × ZS) (hf : fX5_greatestRank a0 a1 S = some x) : zMet l D z0 yX5_greatestRank cX5_greatestRank 4 (some .int) rmX5_greatestRank [.ref a0, .ref a1] S (some (.int x.1)) x.2 :=
  zMet_of (by decide) (Nat.le_of_ble_eq_true rfl) (fun G h0 hini hE => wX5_greatestRank a0 a1 S h0 (fun o => o = some x) (fun h => nomatch h) (fun v S1 h => by cases h; exact hE)) hf
theorem dX5_bound_0 : decode cX5_bound 0 = .ok (.aload_n 0, 1) := by decide +kernel
theorem dX5_bound_1 : decode cX5_bound 1 = .ok (.aload_n 0, 1) := by decide +kernel
theorem dX5_bound_2 : decode cX5_bound 2 = .ok (.iload_n 1, 1) := by decide +kernel
theorem dX5_bound_3 : decode cX5_bound 3 = .ok (.invokevirtual 87, 3) := by decide +kernel
theorem dX5_bound_6 : decode cX5_bound 6 = .ok (.invokevirtual 203, 3) := by decide +kernel
theorem dX5_bound_9 : decode cX5_bound 9 = .ok (.ireturn, 1) := by decide +kernel
abbrev rmX5_bound : Room := { frames := 7, cells := 1, slots := 6, locals := 163 }
theorem zyX5_bound : zyOK yX5_bound 1 := ⟨by decide +kernel, by decide +kernel, by decide +kernel⟩
set_option maxHeartbeats 4000000 in
set_option maxRecDepth 100000 in
theorem wX5_bound {G : ZG} (a0 : Nat) (a1 : Int32) (S : ZS) (h0 : zFix G cX5_bound RX5 2 (some .int) rmX5_bound) (C : Option ((Int32 × ZS) ⊕ ZX) → Prop) (hC : ¬ C none) (hnt : zNoTab G) (hE : ∀ (v : Int32) (S1 : ZS), C (some (.inl (v, S1))) → zEndT G (some (.int v)) S1 rmX5_bound) (hEx : ∀ (E : String) (h : ZH), C (some (.inr (E, h))) → zEndX G E h rmX5_bound) : zV G 2 S 0 0 0 [(0, .ref a0), (1, .int a1)] [] (C (fX5_bound a0 a1 S)) := by
  unfold fX5_bound
  refine zr_aload_n h0 dX5_bound_0 rfl (n := 1) rfl ?_
  refine zr_aload_n h0 dX5_bound_1 rfl (n := 2) rfl ?_
  refine zr_iload_n h0 dX5_bound_2 rfl (n := 3) rfl ?_
  refine zr_cTR C hC 1 6 h0 (fun x hx => zk_VT h0 zcX5 (zcl_ex hx) (fun l D z0 hlt => kX5_needCube l D z0 hlt a0 a1 S x (zcl_of hx)) hnt zw_296 zw_298 zs_2 zw_1 zw_299 rfl zyX5_needCube (As := [.int a1]) (st := [.ref a0]) rfl (by decide) rfl (Nat.le_of_ble_eq_true rfl) (by decide) dX5_bound_3) hnt rfl rfl (by decide) (by decide) (n := 6) rfl (fun z h => hEx _ _ h) (fun x1 => ?_)
  refine zr_cMI C hC 1 6 (fun x hx => zk_V h0 zcX5 (zcl_ex hx) (fun l D z0 => kX5_greatestRank l D z0 a0 x1.1 x1.2 x (zcl_of hx)) zw_627 zw_629 zs_19 zw_1 zw_630 rfl zyX5_greatestRank (As := [.ref x1.1]) (st := []) rfl (by decide) rfl (Nat.le_of_ble_eq_true rfl) (by decide) dX5_bound_6) rfl rfl (n := 9) rfl (fun x2 => ?_)
  exact zr_iretT h0 rfl dX5_bound_9 (hE _ _) (by decide) (by decide)
theorem kX5_bound (l : Launch) (D : ZD) (z0 : Nat) (hlt : l.stackTraces = false) (a0 : Nat) (a1 : Int32) (S : ZS) (x : ((Int32 × ZS) ⊕ ZX)) (hf : fX5_bound a0 a1 S = some x) : zMetT l D z0 yX5_bound cX5_bound 2 (some .int) rmX5_bound [.ref a0, .int a1] S (x.map (fun y => ((some (.int y.1)), y.2)) id) :=
  zMetT_of hlt (by decide) (Nat.le_of_ble_eq_true rfl) (fun G h0 hnt hE hEx => wX5_bound a0 a1 S h0 (fun o => o = some x) (fun h => nomatch h) hnt (fun v S1 h => by cases h; exact hE _ _ rfl) (fun E h hh => by cases hh; exact hEx _ _ rfl)) hf
theorem dX5_needSmall_0 : decode cX5_needSmall 0 = .ok (.aload_n 0, 1) := by decide +kernel
theorem dX5_needSmall_1 : decode cX5_needSmall 1 = .ok (.getfield 46, 3) := by decide +kernel
theorem dX5_needSmall_4 : decode cX5_needSmall 4 = .ok (.iconst 2, 1) := by decide +kernel
theorem dX5_needSmall_5 : decode cX5_needSmall 5 = .ok (.if_icmp .ne 21, 3) := by decide +kernel
theorem dX5_needSmall_8 : decode cX5_needSmall 8 = .ok (.aload_n 1, 1) := by decide +kernel
theorem dX5_needSmall_9 : decode cX5_needSmall 9 = .ok (.getfield 126, 3) := by decide +kernel
theorem dX5_needSmall_12 : decode cX5_needSmall 12 = .ok (.aload_n 1, 1) := by decide +kernel
theorem dX5_needSmall_13 : decode cX5_needSmall 13 = .ok (.getfield 129, 3) := by decide +kernel
theorem dX5_needSmall_16 : decode cX5_needSmall 16 = .ok (.imul, 1) := by decide +kernel
theorem dX5_needSmall_17 : decode cX5_needSmall 17 = .ok (.aload_n 1, 1) := by decide +kernel
theorem dX5_needSmall_18 : decode cX5_needSmall 18 = .ok (.getfield 132, 3) := by decide +kernel
theorem dX5_needSmall_21 : decode cX5_needSmall 21 = .ok (.imul, 1) := by decide +kernel
theorem dX5_needSmall_22 : decode cX5_needSmall 22 = .ok (.iload_n 2, 1) := by decide +kernel
theorem dX5_needSmall_23 : decode cX5_needSmall 23 = .ok (.if_icmp .le 14, 3) := by decide +kernel
theorem dX5_needSmall_26 : decode cX5_needSmall 26 = .ok (.new 63, 3) := by decide +kernel
theorem dX5_needSmall_29 : decode cX5_needSmall 29 = .ok (.dup, 1) := by decide +kernel
theorem dX5_needSmall_30 : decode cX5_needSmall 30 = .ok (.ldc_w 284, 3) := by decide +kernel
theorem dX5_needSmall_33 : decode cX5_needSmall 33 = .ok (.invokespecial 67, 3) := by decide +kernel
theorem dX5_needSmall_36 : decode cX5_needSmall 36 = .ok (.athrow, 1) := by decide +kernel
theorem dX5_needSmall_37 : decode cX5_needSmall 37 = .ok (.return_, 1) := by decide +kernel
abbrev rmX5_needSmall : Room := { frames := 6, cells := 1, slots := 6, locals := 90 }
theorem zyX5_needSmall : zyOK yX5_needSmall 2 := ⟨by decide +kernel, by decide +kernel, by decide +kernel⟩
set_option maxHeartbeats 4000000 in
set_option maxRecDepth 100000 in
theorem wX5_needSmall {G : ZG} (a0 : Nat) (a1 : Nat) (a2 : Int32) (S : ZS) (h0 : zFix G cX5_needSmall RX5 3 none rmX5_needSmall) (C : Option ((Unit × ZS) ⊕ ZX) → Prop) (hC : ¬ C none) (hnt : zNoTab G) (hE : ∀ (v : Unit) (S1 : ZS), C (some (.inl (v, S1))) → zEndT G none S1 rmX5_needSmall) (hEx : ∀ (E : String) (h : ZH), C (some (.inr (E, h))) → zEndX G E h rmX5_needSmall) : zV G 3 S 0 0 0 [(0, .ref a0), (1, .ref a1), (2, .int a2)] [] (C (fX5_needSmall a0 a1 a2 S)) := by
  have J26 : ∀  (S_26 : ZS), zV G 3 S_26 0 0 26 [] [] (C (fX5_needSmall_J26 S_26)) := by
    intro  S_26
    unfold fX5_needSmall_J26
    exact zr_throwW h0 hnt (cls := "java/lang/IllegalStateException") (text := "the least is told for the prime 2 and small cubes") (names := ["java/lang/RuntimeException", "java/lang/Exception"]) (by decide +kernel) zfitN zw_186 zw_9 (by decide +kernel) (by decide +kernel) zat_X5_67 zbad_X5_67 zgd_X5_67 dX5_needSmall_26 dX5_needSmall_29 dX5_needSmall_30 dX5_needSmall_33 dX5_needSmall_36 (by decide) (Nat.le_of_ble_eq_true rfl) (by decide) (by decide) (fun h => hEx _ _ h)
  unfold fX5_needSmall
  refine zr_aload_n h0 dX5_needSmall_0 rfl (n := 1) rfl ?_
  refine zr_getI C hC h0 zcX5 (k := 6) (by decide) zw_80 dX5_needSmall_1 (n := 4) rfl (fun v1 => ?_)
  refine zr_iconst (2 : Int32) h0 (by decide) dX5_needSmall_4 (n := 5) rfl ?_
  refine zr_icmp_ne C (tgt := 26) h0 dX5_needSmall_5 (by decide) (n := 8) rfl ?_ ?_
  · refine zv_sub (lv' := [(1, .ref a1), (2, .int a2)]) ?_ (zsub_of [1, 2] rfl)
    refine zr_aload_n h0 dX5_needSmall_8 rfl (n := 9) rfl ?_
    refine zr_getI C hC h0 zcX0 (k := 0) (by decide) zw_230 dX5_needSmall_9 (n := 12) rfl (fun v2 => ?_)
    refine zr_aload_n h0 dX5_needSmall_12 rfl (n := 13) rfl ?_
    refine zr_getI C hC h0 zcX0 (k := 1) (by decide) zw_234 dX5_needSmall_13 (n := 16) rfl (fun v3 => ?_)
    refine zr_imul h0 dX5_needSmall_16 (n := 17) rfl ?_
    refine zr_aload_n h0 dX5_needSmall_17 rfl (n := 18) rfl ?_
    refine zr_getI C hC h0 zcX0 (k := 2) (by decide) zw_238 dX5_needSmall_18 (n := 21) rfl (fun v4 => ?_)
    refine zr_imul h0 dX5_needSmall_21 (n := 22) rfl ?_
    refine zr_iload_n h0 dX5_needSmall_22 rfl (n := 23) rfl ?_
    refine zr_icmp_le C (tgt := 37) h0 dX5_needSmall_23 (by decide) (n := 26) rfl ?_ ?_
    · refine zv_sub (lv' := []) ?_ (zsub_of [] rfl)
      exact zr_vretT h0 rfl dX5_needSmall_37 (fun h => hE _ _ h) (by decide) (by decide)
    · refine zv_sub (lv' := []) ?_ (zsub_of [] rfl)
      exact J26 S
  · refine zv_sub (lv' := []) ?_ (zsub_of [] rfl)
    exact J26 S
theorem kX5_needSmall (l : Launch) (D : ZD) (z0 : Nat) (hlt : l.stackTraces = false) (a0 : Nat) (a1 : Nat) (a2 : Int32) (S : ZS) (x : ((Unit × ZS) ⊕ ZX)) (hf : fX5_needSmall a0 a1 a2 S = some x) : zMetT l D z0 yX5_needSmall cX5_needSmall 3 none rmX5_needSmall [.ref a0, .ref a1, .int a2] S (x.map (fun y => (none, y.2)) id) :=
  zMetT_of hlt (by decide) (Nat.le_of_ble_eq_true rfl) (fun G h0 hnt hE hEx => wX5_needSmall a0 a1 a2 S h0 (fun o => o = some x) (fun h => nomatch h) hnt (fun v S1 h => by cases h; exact hE _ _ rfl) (fun E h hh => by cases hh; exact hEx _ _ rfl)) hf
theorem dX5_putLong_0 : decode cX5_putLong 0 = .ok (.aload_n 0, 1) := by decide +kernel
theorem dX5_putLong_1 : decode cX5_putLong 1 = .ok (.ifnull 17, 3) := by decide +kernel
theorem dX5_putLong_4 : decode cX5_putLong 4 = .ok (.iload_n 1, 1) := by decide +kernel
theorem dX5_putLong_5 : decode cX5_putLong 5 = .ok (.ifCond .lt 13, 3) := by decide +kernel
theorem dX5_putLong_8 : decode cX5_putLong 8 = .ok (.iload_n 1, 1) := by decide +kernel
theorem dX5_putLong_9 : decode cX5_putLong 9 = .ok (.aload_n 0, 1) := by decide +kernel
theorem dX5_putLong_10 : decode cX5_putLong 10 = .ok (.arraylength, 1) := by decide +kernel
theorem dX5_putLong_11 : decode cX5_putLong 11 = .ok (.if_icmp .ge 7, 3) := by decide +kernel
theorem dX5_putLong_14 : decode cX5_putLong 14 = .ok (.aload_n 0, 1) := by decide +kernel
theorem dX5_putLong_15 : decode cX5_putLong 15 = .ok (.iload_n 1, 1) := by decide +kernel
theorem dX5_putLong_16 : decode cX5_putLong 16 = .ok (.lload_n 2, 1) := by decide +kernel
theorem dX5_putLong_17 : decode cX5_putLong 17 = .ok (.lastore, 1) := by decide +kernel
theorem dX5_putLong_18 : decode cX5_putLong 18 = .ok (.return_, 1) := by decide +kernel
abbrev rmX5_putLong : Room := { frames := 1, cells := 0, slots := 0, locals := 20 }
theorem zyX5_putLong : zyOK yX5_putLong 3 := ⟨by decide +kernel, by decide +kernel, by decide +kernel⟩
set_option maxHeartbeats 4000000 in
set_option maxRecDepth 100000 in
theorem wX5_putLong {G : ZG} (a0 : Nat) (a1 : Int32) (a2 : Int64) (S : ZS) (h0 : zFix G cX5_putLong RX5 4 none rmX5_putLong) (C : Option ZS → Prop) (hC : ¬ C none) (hE : ∀ S1 : ZS, C (some S1) → zEnd G none S1 rmX5_putLong) : zV G 4 S 0 0 0 [(0, .ref a0), (1, .int a1), (2, .long a2)] [] (C (fX5_putLong a0 a1 a2 S)) := by
  have J18 : ∀  (S_18 : ZS), zV G 4 S_18 0 0 18 [] [] (C (fX5_putLong_J18 S_18)) := by
    intro  S_18
    unfold fX5_putLong_J18
    exact zr_vret h0 rfl dX5_putLong_18 (fun h => hE _ h) (by decide) (by decide)
  unfold fX5_putLong
  refine zr_aload_n h0 dX5_putLong_0 rfl (n := 1) rfl ?_
  refine zr_nullR h0 dX5_putLong_1 (n := 4) rfl ?_
  refine zr_iload_n h0 dX5_putLong_4 rfl (n := 5) rfl ?_
  refine zr_if_lt C (tgt := 18) h0 dX5_putLong_5 (by decide) (n := 8) rfl ?_ ?_
  · refine zv_sub (lv' := []) ?_ (zsub_of [] rfl)
    exact J18 S
  · refine zr_iload_n h0 dX5_putLong_8 rfl (n := 9) rfl ?_
    refine zr_aload_n h0 dX5_putLong_9 rfl (n := 10) rfl ?_
    refine zr_alen C hC h0 dX5_putLong_10 (n := 11) rfl (fun v1 => ?_)
    refine zr_icmp_ge C (tgt := 18) h0 dX5_putLong_11 (by decide) (n := 14) rfl ?_ ?_
    · refine zv_sub (lv' := []) ?_ (zsub_of [] rfl)
      exact J18 S
    · refine zr_aload_n h0 dX5_putLong_14 rfl (n := 15) rfl ?_
      refine zr_iload_n h0 dX5_putLong_15 rfl (n := 16) rfl ?_
      refine zr_lload_n h0 dX5_putLong_16 rfl (n := 17) rfl ?_
      refine zr_lastore C hC h0 dX5_putLong_17 (n := 18) rfl (fun S2 => ?_)
      refine zv_sub (lv' := []) ?_ (zsub_of [] rfl)
      exact J18 S2
theorem kX5_putLong (l : Launch) (D : ZD) (z0 : Nat) (a0 : Nat) (a1 : Int32) (a2 : Int64) (S : ZS) (x : ZS) (hf : fX5_putLong a0 a1 a2 S = some x) : zMet l D z0 yX5_putLong cX5_putLong 4 none rmX5_putLong [.ref a0, .int a1, .long a2] S none x :=
  zMet_of (by decide) (Nat.le_of_ble_eq_true rfl) (fun G h0 hini hE => wX5_putLong a0 a1 a2 S h0 (fun o => o = some x) (fun h => nomatch h) (fun S1 h => by cases h; exact hE)) hf
theorem dX2_bitsOfSingle_0 : decode cX2_bitsOfSingle 0 = .ok (.iconst 0, 1) := by decide +kernel
theorem dX2_bitsOfSingle_1 : decode cX2_bitsOfSingle 1 = .ok (.istore 4, 2) := by decide +kernel
theorem dX2_bitsOfSingle_3 : decode cX2_bitsOfSingle 3 = .ok (.iconst 0, 1) := by decide +kernel
theorem dX2_bitsOfSingle_4 : decode cX2_bitsOfSingle 4 = .ok (.istore 5, 2) := by decide +kernel
theorem dX2_bitsOfSingle_6 : decode cX2_bitsOfSingle 6 = .ok (.iload 5, 2) := by decide +kernel
theorem dX2_bitsOfSingle_8 : decode cX2_bitsOfSingle 8 = .ok (.aload_n 0, 1) := by decide +kernel
theorem dX2_bitsOfSingle_9 : decode cX2_bitsOfSingle 9 = .ok (.getfield 51, 3) := by decide +kernel
theorem dX2_bitsOfSingle_12 : decode cX2_bitsOfSingle 12 = .ok (.if_icmp .ge 70, 3) := by decide +kernel
theorem dX2_bitsOfSingle_15 : decode cX2_bitsOfSingle 15 = .ok (.iload_n 1, 1) := by decide +kernel
theorem dX2_bitsOfSingle_16 : decode cX2_bitsOfSingle 16 = .ok (.aload_n 0, 1) := by decide +kernel
theorem dX2_bitsOfSingle_17 : decode cX2_bitsOfSingle 17 = .ok (.getfield 51, 3) := by decide +kernel
theorem dX2_bitsOfSingle_20 : decode cX2_bitsOfSingle 20 = .ok (.iload 5, 2) := by decide +kernel
theorem dX2_bitsOfSingle_22 : decode cX2_bitsOfSingle 22 = .ok (.iconst 2, 1) := by decide +kernel
theorem dX2_bitsOfSingle_23 : decode cX2_bitsOfSingle 23 = .ok (.invokestatic 78, 3) := by decide +kernel
theorem dX2_bitsOfSingle_26 : decode cX2_bitsOfSingle 26 = .ok (.istore 6, 2) := by decide +kernel
theorem dX2_bitsOfSingle_28 : decode cX2_bitsOfSingle 28 = .ok (.iconst 0, 1) := by decide +kernel
theorem dX2_bitsOfSingle_29 : decode cX2_bitsOfSingle 29 = .ok (.istore 7, 2) := by decide +kernel
theorem dX2_bitsOfSingle_31 : decode cX2_bitsOfSingle 31 = .ok (.iload 7, 2) := by decide +kernel
theorem dX2_bitsOfSingle_33 : decode cX2_bitsOfSingle 33 = .ok (.aload_n 0, 1) := by decide +kernel
theorem dX2_bitsOfSingle_34 : decode cX2_bitsOfSingle 34 = .ok (.getfield 60, 3) := by decide +kernel
theorem dX2_bitsOfSingle_37 : decode cX2_bitsOfSingle 37 = .ok (.if_icmp .ge 39, 3) := by decide +kernel
theorem dX2_bitsOfSingle_40 : decode cX2_bitsOfSingle 40 = .ok (.iload 6, 2) := by decide +kernel
theorem dX2_bitsOfSingle_42 : decode cX2_bitsOfSingle 42 = .ok (.iload_n 2, 1) := by decide +kernel
theorem dX2_bitsOfSingle_43 : decode cX2_bitsOfSingle 43 = .ok (.aload_n 0, 1) := by decide +kernel
theorem dX2_bitsOfSingle_44 : decode cX2_bitsOfSingle 44 = .ok (.getfield 60, 3) := by decide +kernel
theorem dX2_bitsOfSingle_47 : decode cX2_bitsOfSingle 47 = .ok (.iload 7, 2) := by decide +kernel
theorem dX2_bitsOfSingle_49 : decode cX2_bitsOfSingle 49 = .ok (.iconst 2, 1) := by decide +kernel
theorem dX2_bitsOfSingle_50 : decode cX2_bitsOfSingle 50 = .ok (.invokestatic 78, 3) := by decide +kernel
theorem dX2_bitsOfSingle_53 : decode cX2_bitsOfSingle 53 = .ok (.imul, 1) := by decide +kernel
theorem dX2_bitsOfSingle_54 : decode cX2_bitsOfSingle 54 = .ok (.istore 8, 2) := by decide +kernel
theorem dX2_bitsOfSingle_56 : decode cX2_bitsOfSingle 56 = .ok (.iload 4, 2) := by decide +kernel
theorem dX2_bitsOfSingle_58 : decode cX2_bitsOfSingle 58 = .ok (.aload_n 0, 1) := by decide +kernel
theorem dX2_bitsOfSingle_59 : decode cX2_bitsOfSingle 59 = .ok (.getfield 63, 3) := by decide +kernel
theorem dX2_bitsOfSingle_62 : decode cX2_bitsOfSingle 62 = .ok (.ishl, 1) := by decide +kernel
theorem dX2_bitsOfSingle_63 : decode cX2_bitsOfSingle 63 = .ok (.iload 8, 2) := by decide +kernel
theorem dX2_bitsOfSingle_65 : decode cX2_bitsOfSingle 65 = .ok (.iload_n 3, 1) := by decide +kernel
theorem dX2_bitsOfSingle_66 : decode cX2_bitsOfSingle 66 = .ok (.imul, 1) := by decide +kernel
theorem dX2_bitsOfSingle_67 : decode cX2_bitsOfSingle 67 = .ok (.ior, 1) := by decide +kernel
theorem dX2_bitsOfSingle_68 : decode cX2_bitsOfSingle 68 = .ok (.istore 4, 2) := by decide +kernel
theorem dX2_bitsOfSingle_70 : decode cX2_bitsOfSingle 70 = .ok (.iinc 7 1, 3) := by decide +kernel
theorem dX2_bitsOfSingle_73 : decode cX2_bitsOfSingle 73 = .ok (.goto (-42), 3) := by decide +kernel
theorem dX2_bitsOfSingle_76 : decode cX2_bitsOfSingle 76 = .ok (.iinc 5 1, 3) := by decide +kernel
theorem dX2_bitsOfSingle_79 : decode cX2_bitsOfSingle 79 = .ok (.goto (-73), 3) := by decide +kernel
theorem dX2_bitsOfSingle_82 : decode cX2_bitsOfSingle 82 = .ok (.iload 4, 2) := by decide +kernel
theorem dX2_bitsOfSingle_84 : decode cX2_bitsOfSingle 84 = .ok (.ireturn, 1) := by decide +kernel
abbrev rmX2_bitsOfSingle : Room := { frames := 2, cells := 0, slots := 0, locals := 45 }
theorem zyX2_bitsOfSingle : zyOK yX2_bitsOfSingle 4 := ⟨by decide +kernel, by decide +kernel, by decide +kernel⟩
set_option maxHeartbeats 4000000 in
set_option maxRecDepth 100000 in
theorem wX2_bitsOfSingle {G : ZG} (a0 : Nat) (a1 : Int32) (a2 : Int32) (a3 : Int32) (S : ZS) (h0 : zFix G cX2_bitsOfSingle RX2 9 (some .int) rmX2_bitsOfSingle) (C : Option Int32 → Prop) (hC : ¬ C none) (hE : ∀ v : Int32, C (some v) → zEnd G (some (.int v)) S rmX2_bitsOfSingle) : zV G 9 S 0 0 0 [(0, .ref a0), (1, .int a1), (2, .int a2), (3, .int a3)] [] (C (fX2_bitsOfSingle a0 a1 a2 a3 S)) := by
  unfold fX2_bitsOfSingle
  refine zr_iconst (0 : Int32) h0 (by decide) dX2_bitsOfSingle_0 (n := 1) rfl ?_
  refine zr_istore [(0, .ref a0), (1, .int a1), (2, .int a2), (3, .int a3), (4, .int (0 : Int32))] h0 dX2_bitsOfSingle_1 (by decide) rfl (n := 3) rfl ?_
  refine zr_iconst (0 : Int32) h0 (by decide) dX2_bitsOfSingle_3 (n := 4) rfl ?_
  refine zr_istore [(0, .ref a0), (1, .int a1), (2, .int a2), (3, .int a3), (4, .int (0 : Int32)), (5, .int (0 : Int32))] h0 dX2_bitsOfSingle_4 (by decide) rfl (n := 6) rfl ?_
  refine zr_loop hC (fX2_bitsOfSingle_B6 a0 a1 a2 a3 S) (fun y => [(0, .ref a0), (1, .int a1), (2, .int a2), (3, .int a3), (4, .int y.1), (5, .int y.2)]) (fun y => S) zF ((0 : Int32), (0 : Int32)) (fun C6 hC6 hX6 hL6 t6 => ?_)
  unfold fX2_bitsOfSingle_B6
  refine zr_iload h0 dX2_bitsOfSingle_6 rfl (n := 8) rfl ?_
  refine zr_aload_n h0 dX2_bitsOfSingle_8 rfl (n := 9) rfl ?_
  refine zr_getI C6 hC6 h0 zcX0 (k := 0) (by decide) zw_228 dX2_bitsOfSingle_9 (n := 12) rfl (fun v12 => ?_)
  refine zr_icmp_ge C6 (tgt := 82) h0 dX2_bitsOfSingle_12 (by decide) (n := 15) rfl ?_ ?_
  · refine zr_ex hX6 ?_
    refine zv_sub (lv' := [(4, .int t6.1)]) ?_ (zsub_of [4] rfl)
    refine zr_iload h0 dX2_bitsOfSingle_82 rfl (n := 84) rfl ?_
    exact zr_iret h0 rfl dX2_bitsOfSingle_84 (hE _) (by decide) (by decide)
  · refine zr_iload_n h0 dX2_bitsOfSingle_15 rfl (n := 16) rfl ?_
    refine zr_aload_n h0 dX2_bitsOfSingle_16 rfl (n := 17) rfl ?_
    refine zr_getI C6 hC6 h0 zcX0 (k := 0) (by decide) zw_228 dX2_bitsOfSingle_17 (n := 20) rfl (fun v13 => ?_)
    refine zr_iload h0 dX2_bitsOfSingle_20 rfl (n := 22) rfl ?_
    refine zr_iconst (2 : Int32) h0 (by decide) dX2_bitsOfSingle_22 (n := 23) rfl ?_
    refine zr_cRI C6 hC6 0 0 (fun x hx => zk_SN (host := "Bilinearium") h0 (fun l D z0 => kX5_numberIn l D z0 a1 v13 t6.2 (2 : Int32) S x hx) (by decide +kernel) zw_506 zw_1 zw_507 zyX5_numberIn (As := [.int a1, .int v13, .int t6.2, .int (2 : Int32)]) (st := []) rfl (by decide) rfl (Nat.le_of_ble_eq_true rfl) (by decide) dX2_bitsOfSingle_23) rfl rfl (n := 26) rfl (fun x14 => ?_)
    refine zr_istore [(0, .ref a0), (1, .int a1), (2, .int a2), (3, .int a3), (4, .int t6.1), (5, .int t6.2), (6, .int x14)] h0 dX2_bitsOfSingle_26 (by decide) rfl (n := 28) rfl ?_
    refine zr_iconst (0 : Int32) h0 (by decide) dX2_bitsOfSingle_28 (n := 29) rfl ?_
    refine zr_istore [(0, .ref a0), (1, .int a1), (2, .int a2), (3, .int a3), (4, .int t6.1), (5, .int t6.2), (6, .int x14), (7, .int (0 : Int32))] h0 dX2_bitsOfSingle_29 (by decide) rfl (n := 31) rfl ?_
    refine zr_loop hC6 (fX2_bitsOfSingle_B31 a0 a1 a2 a3 t6.2 x14 S) (fun y => [(0, .ref a0), (1, .int a1), (2, .int a2), (3, .int a3), (4, .int y.1), (5, .int t6.2), (6, .int x14), (7, .int y.2)]) (fun y => S) zF (t6.1, (0 : Int32)) (fun C31 hC31 hX31 hL31 t31 => ?_)
    unfold fX2_bitsOfSingle_B31
    refine zr_iload h0 dX2_bitsOfSingle_31 rfl (n := 33) rfl ?_
    refine zr_aload_n h0 dX2_bitsOfSingle_33 rfl (n := 34) rfl ?_
    refine zr_getI C31 hC31 h0 zcX0 (k := 1) (by decide) zw_232 dX2_bitsOfSingle_34 (n := 37) rfl (fun v15 => ?_)
    refine zr_icmp_ge C31 (tgt := 76) h0 dX2_bitsOfSingle_37 (by decide) (n := 40) rfl ?_ ?_
    · refine zr_ex hX31 ?_
      refine zv_sub (lv' := [(0, .ref a0), (1, .int a1), (2, .int a2), (3, .int a3), (4, .int t31.1), (5, .int t6.2)]) ?_ (zsub_of [0, 1, 2, 3, 4, 5] rfl)
      refine zr_iinc (1 : Int32) [(0, .ref a0), (1, .int a1), (2, .int a2), (3, .int a3), (4, .int t31.1), (5, .int (t6.2 + (1 : Int32)))] h0 dX2_bitsOfSingle_76 rfl (by decide) rfl rfl (n := 79) rfl ?_
      refine zr_goto (tgt := 6) h0 dX2_bitsOfSingle_79 (by decide) ?_
      exact hL6 (t31.1, t6.2 + (1 : Int32))
    · refine zr_iload h0 dX2_bitsOfSingle_40 rfl (n := 42) rfl ?_
      refine zr_iload_n h0 dX2_bitsOfSingle_42 rfl (n := 43) rfl ?_
      refine zr_aload_n h0 dX2_bitsOfSingle_43 rfl (n := 44) rfl ?_
      refine zr_getI C31 hC31 h0 zcX0 (k := 1) (by decide) zw_232 dX2_bitsOfSingle_44 (n := 47) rfl (fun v16 => ?_)
      refine zr_iload h0 dX2_bitsOfSingle_47 rfl (n := 49) rfl ?_
      refine zr_iconst (2 : Int32) h0 (by decide) dX2_bitsOfSingle_49 (n := 50) rfl ?_
      refine zr_cRI C31 hC31 0 0 (fun x hx => zk_SN (host := "Bilinearium") h0 (fun l D z0 => kX5_numberIn l D z0 a2 v16 t31.2 (2 : Int32) S x hx) (by decide +kernel) zw_506 zw_1 zw_507 zyX5_numberIn (As := [.int a2, .int v16, .int t31.2, .int (2 : Int32)]) (st := [.int x14]) rfl (by decide) rfl (Nat.le_of_ble_eq_true rfl) (by decide) dX2_bitsOfSingle_50) rfl rfl (n := 53) rfl (fun x17 => ?_)
      refine zr_imul h0 dX2_bitsOfSingle_53 (n := 54) rfl ?_
      refine zr_istore [(0, .ref a0), (1, .int a1), (2, .int a2), (3, .int a3), (4, .int t31.1), (5, .int t6.2), (6, .int x14), (7, .int t31.2), (8, .int (x14 * x17))] h0 dX2_bitsOfSingle_54 (by decide) rfl (n := 56) rfl ?_
      refine zr_iload h0 dX2_bitsOfSingle_56 rfl (n := 58) rfl ?_
      refine zr_aload_n h0 dX2_bitsOfSingle_58 rfl (n := 59) rfl ?_
      refine zr_getI C31 hC31 h0 zcX0 (k := 2) (by decide) zw_236 dX2_bitsOfSingle_59 (n := 62) rfl (fun v18 => ?_)
      refine zr_ishl h0 dX2_bitsOfSingle_62 (n := 63) rfl ?_
      refine zr_iload h0 dX2_bitsOfSingle_63 rfl (n := 65) rfl ?_
      refine zr_iload_n h0 dX2_bitsOfSingle_65 rfl (n := 66) rfl ?_
      refine zr_imul h0 dX2_bitsOfSingle_66 (n := 67) rfl ?_
      refine zr_ior h0 dX2_bitsOfSingle_67 (n := 68) rfl ?_
      refine zr_istore [(0, .ref a0), (1, .int a1), (2, .int a2), (3, .int a3), (4, .int ((t31.1 <<< (v18 &&& 31)) ||| ((x14 * x17) * a3))), (5, .int t6.2), (6, .int x14), (7, .int t31.2), (8, .int (x14 * x17))] h0 dX2_bitsOfSingle_68 (by decide) rfl (n := 70) rfl ?_
      refine zr_iinc (1 : Int32) [(0, .ref a0), (1, .int a1), (2, .int a2), (3, .int a3), (4, .int ((t31.1 <<< (v18 &&& 31)) ||| ((x14 * x17) * a3))), (5, .int t6.2), (6, .int x14), (7, .int (t31.2 + (1 : Int32))), (8, .int (x14 * x17))] h0 dX2_bitsOfSingle_70 rfl (by decide) rfl rfl (n := 73) rfl ?_
      refine zr_goto (tgt := 31) h0 dX2_bitsOfSingle_73 (by decide) ?_
      refine zv_sub (lv' := [(0, .ref a0), (1, .int a1), (2, .int a2), (3, .int a3), (4, .int ((t31.1 <<< (v18 &&& 31)) ||| ((x14 * x17) * a3))), (5, .int t6.2), (6, .int x14), (7, .int (t31.2 + (1 : Int32)))]) ?_ (zsub_of [0, 1, 2, 3, 4, 5, 6, 7] rfl)
      exact hL31 ((t31.1 <<< (v18 &&& 31)) ||| ((x14 * x17) * a3), t31.2 + (1 : Int32))
theorem kX2_bitsOfSingle (l : Launch) (D : ZD) (z0 : Nat) (a0 : Nat) (a1 : Int32) (a2 : Int32) (a3 : Int32) (S : ZS) (x : Int32) (hf : fX2_bitsOfSingle a0 a1 a2 a3 S = some x) : zMet l D z0 yX2_bitsOfSingle cX2_bitsOfSingle 9 (some .int) rmX2_bitsOfSingle [.ref a0, .int a1, .int a2, .int a3] S (some (.int x)) S :=
  zMet_of (by decide) (Nat.le_of_ble_eq_true rfl) (fun G h0 hini hE => wX2_bitsOfSingle a0 a1 a2 a3 S h0 (fun o => o = some x) (fun h => nomatch h) (fun v h => by cases h; exact hE)) hf
theorem dX5_getLong_0 : decode cX5_getLong 0 = .ok (.aload_n 0, 1) := by decide +kernel
theorem dX5_getLong_1 : decode cX5_getLong 1 = .ok (.ifnull 19, 3) := by decide +kernel
theorem dX5_getLong_4 : decode cX5_getLong 4 = .ok (.iload_n 1, 1) := by decide +kernel
theorem dX5_getLong_5 : decode cX5_getLong 5 = .ok (.ifCond .lt 15, 3) := by decide +kernel
theorem dX5_getLong_8 : decode cX5_getLong 8 = .ok (.iload_n 1, 1) := by decide +kernel
theorem dX5_getLong_9 : decode cX5_getLong 9 = .ok (.aload_n 0, 1) := by decide +kernel
theorem dX5_getLong_10 : decode cX5_getLong 10 = .ok (.arraylength, 1) := by decide +kernel
theorem dX5_getLong_11 : decode cX5_getLong 11 = .ok (.if_icmp .ge 9, 3) := by decide +kernel
theorem dX5_getLong_14 : decode cX5_getLong 14 = .ok (.aload_n 0, 1) := by decide +kernel
theorem dX5_getLong_15 : decode cX5_getLong 15 = .ok (.iload_n 1, 1) := by decide +kernel
theorem dX5_getLong_16 : decode cX5_getLong 16 = .ok (.laload, 1) := by decide +kernel
theorem dX5_getLong_17 : decode cX5_getLong 17 = .ok (.goto 4, 3) := by decide +kernel
theorem dX5_getLong_20 : decode cX5_getLong 20 = .ok (.lconst 0, 1) := by decide +kernel
theorem dX5_getLong_21 : decode cX5_getLong 21 = .ok (.lreturn, 1) := by decide +kernel
abbrev rmX5_getLong : Room := { frames := 1, cells := 0, slots := 0, locals := 20 }
theorem zyX5_getLong : zyOK yX5_getLong 2 := ⟨by decide +kernel, by decide +kernel, by decide +kernel⟩
set_option maxHeartbeats 4000000 in
set_option maxRecDepth 100000 in
theorem wX5_getLong {G : ZG} (a0 : Nat) (a1 : Int32) (S : ZS) (h0 : zFix G cX5_getLong RX5 2 (some .long) rmX5_getLong) (C : Option Int64 → Prop) (hC : ¬ C none) (hE : ∀ v : Int64, C (some v) → zEnd G (some (.long v)) S rmX5_getLong) : zV G 2 S 0 0 0 [(0, .ref a0), (1, .int a1)] [] (C (fX5_getLong a0 a1 S)) := by
  have J21 : ∀ (s0_21 : Int64), zV G 2 S 0 0 21 [] [.long s0_21] (C (fX5_getLong_J21 s0_21 S)) := by
    intro s0_21
    unfold fX5_getLong_J21
    exact zr_lret h0 rfl dX5_getLong_21 (hE _) (by decide) (by decide)
  have J20 : zV G 2 S 0 0 20 [] [] (C (fX5_getLong_J20 S)) := by
    unfold fX5_getLong_J20
    refine zr_lconst (0 : Int64) h0 (by decide) dX5_getLong_20 (n := 21) rfl ?_
    exact J21 (0 : Int64)
  unfold fX5_getLong
  refine zr_aload_n h0 dX5_getLong_0 rfl (n := 1) rfl ?_
  refine zr_nullR h0 dX5_getLong_1 (n := 4) rfl ?_
  refine zr_iload_n h0 dX5_getLong_4 rfl (n := 5) rfl ?_
  refine zr_if_lt C (tgt := 20) h0 dX5_getLong_5 (by decide) (n := 8) rfl ?_ ?_
  · refine zv_sub (lv' := []) ?_ (zsub_of [] rfl)
    exact J20
  · refine zr_iload_n h0 dX5_getLong_8 rfl (n := 9) rfl ?_
    refine zr_aload_n h0 dX5_getLong_9 rfl (n := 10) rfl ?_
    refine zr_alen C hC h0 dX5_getLong_10 (n := 11) rfl (fun v1 => ?_)
    refine zr_icmp_ge C (tgt := 20) h0 dX5_getLong_11 (by decide) (n := 14) rfl ?_ ?_
    · refine zv_sub (lv' := []) ?_ (zsub_of [] rfl)
      exact J20
    · refine zr_aload_n h0 dX5_getLong_14 rfl (n := 15) rfl ?_
      refine zr_iload_n h0 dX5_getLong_15 rfl (n := 16) rfl ?_
      refine zr_laload C hC h0 dX5_getLong_16 (n := 17) rfl (fun v2 => ?_)
      refine zr_goto (tgt := 21) h0 dX5_getLong_17 (by decide) ?_
      refine zv_sub (lv' := []) ?_ (zsub_of [] rfl)
      exact J21 v2
theorem kX5_getLong (l : Launch) (D : ZD) (z0 : Nat) (a0 : Nat) (a1 : Int32) (S : ZS) (x : Int64) (hf : fX5_getLong a0 a1 S = some x) : zMet l D z0 yX5_getLong cX5_getLong 2 (some .long) rmX5_getLong [.ref a0, .int a1] S (some (.long x)) S :=
  zMet_of (by decide) (Nat.le_of_ble_eq_true rfl) (fun G h0 hini hE => wX5_getLong a0 a1 S h0 (fun o => o = some x) (fun h => nomatch h) (fun v h => by cases h; exact hE)) hf
theorem dX2_addSingle_0 : decode cX2_addSingle 0 = .ok (.aload_n 0, 1) := by decide +kernel
theorem dX2_addSingle_1 : decode cX2_addSingle 1 = .ok (.getfield 11, 3) := by decide +kernel
theorem dX2_addSingle_4 : decode cX2_addSingle 4 = .ok (.aload_n 0, 1) := by decide +kernel
theorem dX2_addSingle_5 : decode cX2_addSingle 5 = .ok (.getfield 35, 3) := by decide +kernel
theorem dX2_addSingle_8 : decode cX2_addSingle 8 = .ok (.iload_n 1, 1) := by decide +kernel
theorem dX2_addSingle_9 : decode cX2_addSingle 9 = .ok (.invokestatic 74, 3) := by decide +kernel
theorem dX2_addSingle_12 : decode cX2_addSingle 12 = .ok (.aload_n 0, 1) := by decide +kernel
theorem dX2_addSingle_13 : decode cX2_addSingle 13 = .ok (.dup, 1) := by decide +kernel
theorem dX2_addSingle_14 : decode cX2_addSingle 14 = .ok (.getfield 35, 3) := by decide +kernel
theorem dX2_addSingle_17 : decode cX2_addSingle 17 = .ok (.iconst 1, 1) := by decide +kernel
theorem dX2_addSingle_18 : decode cX2_addSingle 18 = .ok (.iadd, 1) := by decide +kernel
theorem dX2_addSingle_19 : decode cX2_addSingle 19 = .ok (.putfield 35, 3) := by decide +kernel
theorem dX2_addSingle_22 : decode cX2_addSingle 22 = .ok (.iload_n 1, 1) := by decide +kernel
theorem dX2_addSingle_23 : decode cX2_addSingle 23 = .ok (.bipush 64, 2) := by decide +kernel
theorem dX2_addSingle_25 : decode cX2_addSingle 25 = .ok (.idiv, 1) := by decide +kernel
theorem dX2_addSingle_26 : decode cX2_addSingle 26 = .ok (.istore_n 2, 1) := by decide +kernel
theorem dX2_addSingle_27 : decode cX2_addSingle 27 = .ok (.aload_n 0, 1) := by decide +kernel
theorem dX2_addSingle_28 : decode cX2_addSingle 28 = .ok (.getfield 15, 3) := by decide +kernel
theorem dX2_addSingle_31 : decode cX2_addSingle 31 = .ok (.iload_n 2, 1) := by decide +kernel
theorem dX2_addSingle_32 : decode cX2_addSingle 32 = .ok (.aload_n 0, 1) := by decide +kernel
theorem dX2_addSingle_33 : decode cX2_addSingle 33 = .ok (.getfield 15, 3) := by decide +kernel
theorem dX2_addSingle_36 : decode cX2_addSingle 36 = .ok (.iload_n 2, 1) := by decide +kernel
theorem dX2_addSingle_37 : decode cX2_addSingle 37 = .ok (.invokestatic 43, 3) := by decide +kernel
theorem dX2_addSingle_40 : decode cX2_addSingle 40 = .ok (.lconst 1, 1) := by decide +kernel
theorem dX2_addSingle_41 : decode cX2_addSingle 41 = .ok (.iload_n 1, 1) := by decide +kernel
theorem dX2_addSingle_42 : decode cX2_addSingle 42 = .ok (.bipush 64, 2) := by decide +kernel
theorem dX2_addSingle_44 : decode cX2_addSingle 44 = .ok (.irem, 1) := by decide +kernel
theorem dX2_addSingle_45 : decode cX2_addSingle 45 = .ok (.lshl, 1) := by decide +kernel
theorem dX2_addSingle_46 : decode cX2_addSingle 46 = .ok (.lor, 1) := by decide +kernel
theorem dX2_addSingle_47 : decode cX2_addSingle 47 = .ok (.invokestatic 47, 3) := by decide +kernel
theorem dX2_addSingle_50 : decode cX2_addSingle 50 = .ok (.return_, 1) := by decide +kernel
abbrev rmX2_addSingle : Room := { frames := 2, cells := 0, slots := 0, locals := 43 }
theorem zyX2_addSingle : zyOK yX2_addSingle 1 := ⟨by decide +kernel, by decide +kernel, by decide +kernel⟩
set_option maxHeartbeats 4000000 in
set_option maxRecDepth 100000 in
theorem wX2_addSingle {G : ZG} (a0 : Nat) (a1 : Int32) (S : ZS) (h0 : zFix G cX2_addSingle RX2 3 none rmX2_addSingle) (C : Option ZS → Prop) (hC : ¬ C none) (hE : ∀ S1 : ZS, C (some S1) → zEnd G none S1 rmX2_addSingle) : zV G 3 S 0 0 0 [(0, .ref a0), (1, .int a1)] [] (C (fX2_addSingle a0 a1 S)) := by
  unfold fX2_addSingle
  refine zr_aload_n h0 dX2_addSingle_0 rfl (n := 1) rfl ?_
  refine zr_getR C hC h0 zcX2 (k := 0) (by decide) zw_50 dX2_addSingle_1 (n := 4) rfl (fun v1 => ?_)
  refine zr_aload_n h0 dX2_addSingle_4 rfl (n := 5) rfl ?_
  refine zr_getI C hC h0 zcX2 (k := 2) (by decide) zw_52 dX2_addSingle_5 (n := 8) rfl (fun v2 => ?_)
  refine zr_iload_n h0 dX2_addSingle_8 rfl (n := 9) rfl ?_
  refine zr_cMV C hC 0 0 (fun x hx => zk_SN (host := "Bilinearium") h0 (fun l D z0 => kX5_put l D z0 v1 v2 a1 S x hx) (by decide +kernel) zw_269 zw_1 zw_270 zyX5_put (As := [.ref v1, .int v2, .int a1]) (st := []) rfl (by decide) rfl (Nat.le_of_ble_eq_true rfl) (by decide) dX2_addSingle_9) rfl rfl (n := 12) rfl (fun x3 => ?_)
  refine zr_aload_n h0 dX2_addSingle_12 rfl (n := 13) rfl ?_
  refine zr_dup h0 rfl dX2_addSingle_13 (n := 14) rfl ?_
  refine zr_getI C hC h0 zcX2 (k := 2) (by decide) zw_52 dX2_addSingle_14 (n := 17) rfl (fun v4 => ?_)
  refine zr_iconst (1 : Int32) h0 (by decide) dX2_addSingle_17 (n := 18) rfl ?_
  refine zr_iadd h0 dX2_addSingle_18 (n := 19) rfl ?_
  refine zr_putF C hC h0 zcX2 (k := 2) (by decide) zw_52 rfl rfl rfl dX2_addSingle_19 (n := 22) rfl (fun S5 => ?_)
  refine zr_iload_n h0 dX2_addSingle_22 rfl (n := 23) rfl ?_
  refine zr_bipush (64 : Int32) h0 (by decide) dX2_addSingle_23 (n := 25) rfl ?_
  refine zr_idivK h0 (by decide) dX2_addSingle_25 (n := 26) rfl ?_
  refine zr_istore_n [(0, .ref a0), (1, .int a1), (2, .int (a1 / (64 : Int32)))] h0 dX2_addSingle_26 (by decide) rfl (n := 27) rfl ?_
  refine zr_aload_n h0 dX2_addSingle_27 rfl (n := 28) rfl ?_
  refine zr_getR C hC h0 zcX2 (k := 1) (by decide) zw_51 dX2_addSingle_28 (n := 31) rfl (fun v6 => ?_)
  refine zr_iload_n h0 dX2_addSingle_31 rfl (n := 32) rfl ?_
  refine zr_aload_n h0 dX2_addSingle_32 rfl (n := 33) rfl ?_
  refine zr_getR C hC h0 zcX2 (k := 1) (by decide) zw_51 dX2_addSingle_33 (n := 36) rfl (fun v7 => ?_)
  refine zr_iload_n h0 dX2_addSingle_36 rfl (n := 37) rfl ?_
  refine zr_cRJ C hC 0 0 (fun x hx => zk_SN (host := "Bilinearium") h0 (fun l D z0 => kX5_getLong l D z0 v7 (a1 / (64 : Int32)) S5 x hx) (by decide +kernel) zw_668 zw_1 zw_669 zyX5_getLong (As := [.ref v7, .int (a1 / (64 : Int32))]) (st := [.int (a1 / (64 : Int32)), .ref v6]) rfl (by decide) rfl (Nat.le_of_ble_eq_true rfl) (by decide) dX2_addSingle_37) rfl rfl (n := 40) rfl (fun x8 => ?_)
  refine zr_lconst (1 : Int64) h0 (by decide) dX2_addSingle_40 (n := 41) rfl ?_
  refine zr_iload_n h0 dX2_addSingle_41 rfl (n := 42) rfl ?_
  refine zr_bipush (64 : Int32) h0 (by decide) dX2_addSingle_42 (n := 44) rfl ?_
  refine zr_iremK h0 (by decide) dX2_addSingle_44 (n := 45) rfl ?_
  refine zr_lshl h0 dX2_addSingle_45 (n := 46) rfl ?_
  refine zr_lor h0 dX2_addSingle_46 (n := 47) rfl ?_
  refine zr_cMV C hC 0 0 (fun x hx => zk_SN (host := "Bilinearium") h0 (fun l D z0 => kX5_putLong l D z0 v6 (a1 / (64 : Int32)) (x8 ||| ((1 : Int64) <<< ((Int32.toInt64 (a1 % (64 : Int32))) &&& 63))) S5 x hx) (by decide +kernel) zw_655 zw_1 zw_656 zyX5_putLong (As := [.ref v6, .int (a1 / (64 : Int32)), .long (x8 ||| ((1 : Int64) <<< ((Int32.toInt64 (a1 % (64 : Int32))) &&& 63)))]) (st := []) rfl (by decide) rfl (Nat.le_of_ble_eq_true rfl) (by decide) dX2_addSingle_47) rfl rfl (n := 50) rfl (fun x9 => ?_)
  exact zr_vret h0 rfl dX2_addSingle_50 (fun h => hE _ h) (by decide) (by decide)
theorem kX2_addSingle (l : Launch) (D : ZD) (z0 : Nat) (a0 : Nat) (a1 : Int32) (S : ZS) (x : ZS) (hf : fX2_addSingle a0 a1 S = some x) : zMet l D z0 yX2_addSingle cX2_addSingle 3 none rmX2_addSingle [.ref a0, .int a1] S none x :=
  zMet_of (by decide) (Nat.le_of_ble_eq_true rfl) (fun G h0 hini hE => wX2_addSingle a0 a1 S h0 (fun o => o = some x) (fun h => nomatch h) (fun S1 h => by cases h; exact hE)) hf
theorem dX2_gatherSingles_0 : decode cX2_gatherSingles 0 = .ok (.iconst 0, 1) := by decide +kernel
theorem dX2_gatherSingles_1 : decode cX2_gatherSingles 1 = .ok (.istore_n 2, 1) := by decide +kernel
theorem dX2_gatherSingles_2 : decode cX2_gatherSingles 2 = .ok (.iload_n 2, 1) := by decide +kernel
theorem dX2_gatherSingles_3 : decode cX2_gatherSingles 3 = .ok (.bipush 64, 2) := by decide +kernel
theorem dX2_gatherSingles_5 : decode cX2_gatherSingles 5 = .ok (.if_icmp .ge 18, 3) := by decide +kernel
theorem dX2_gatherSingles_8 : decode cX2_gatherSingles 8 = .ok (.aload_n 0, 1) := by decide +kernel
theorem dX2_gatherSingles_9 : decode cX2_gatherSingles 9 = .ok (.getfield 15, 3) := by decide +kernel
theorem dX2_gatherSingles_12 : decode cX2_gatherSingles 12 = .ok (.iload_n 2, 1) := by decide +kernel
theorem dX2_gatherSingles_13 : decode cX2_gatherSingles 13 = .ok (.lconst 0, 1) := by decide +kernel
theorem dX2_gatherSingles_14 : decode cX2_gatherSingles 14 = .ok (.invokestatic 47, 3) := by decide +kernel
theorem dX2_gatherSingles_17 : decode cX2_gatherSingles 17 = .ok (.iinc 2 1, 3) := by decide +kernel
theorem dX2_gatherSingles_20 : decode cX2_gatherSingles 20 = .ok (.goto (-18), 3) := by decide +kernel
theorem dX2_gatherSingles_23 : decode cX2_gatherSingles 23 = .ok (.aload_n 0, 1) := by decide +kernel
theorem dX2_gatherSingles_24 : decode cX2_gatherSingles 24 = .ok (.iconst 0, 1) := by decide +kernel
theorem dX2_gatherSingles_25 : decode cX2_gatherSingles 25 = .ok (.putfield 35, 3) := by decide +kernel
theorem dX2_gatherSingles_28 : decode cX2_gatherSingles 28 = .ok (.iconst 1, 1) := by decide +kernel
theorem dX2_gatherSingles_29 : decode cX2_gatherSingles 29 = .ok (.istore_n 2, 1) := by decide +kernel
theorem dX2_gatherSingles_30 : decode cX2_gatherSingles 30 = .ok (.iload_n 2, 1) := by decide +kernel
theorem dX2_gatherSingles_31 : decode cX2_gatherSingles 31 = .ok (.iconst 2, 1) := by decide +kernel
theorem dX2_gatherSingles_32 : decode cX2_gatherSingles 32 = .ok (.aload_n 1, 1) := by decide +kernel
theorem dX2_gatherSingles_33 : decode cX2_gatherSingles 33 = .ok (.getfield 51, 3) := by decide +kernel
theorem dX2_gatherSingles_36 : decode cX2_gatherSingles 36 = .ok (.invokestatic 56, 3) := by decide +kernel
theorem dX2_gatherSingles_39 : decode cX2_gatherSingles 39 = .ok (.if_icmp .ge 63, 3) := by decide +kernel
theorem dX2_gatherSingles_42 : decode cX2_gatherSingles 42 = .ok (.iconst 1, 1) := by decide +kernel
theorem dX2_gatherSingles_43 : decode cX2_gatherSingles 43 = .ok (.istore_n 3, 1) := by decide +kernel
theorem dX2_gatherSingles_44 : decode cX2_gatherSingles 44 = .ok (.iload_n 3, 1) := by decide +kernel
theorem dX2_gatherSingles_45 : decode cX2_gatherSingles 45 = .ok (.iconst 2, 1) := by decide +kernel
theorem dX2_gatherSingles_46 : decode cX2_gatherSingles 46 = .ok (.aload_n 1, 1) := by decide +kernel
theorem dX2_gatherSingles_47 : decode cX2_gatherSingles 47 = .ok (.getfield 60, 3) := by decide +kernel
theorem dX2_gatherSingles_50 : decode cX2_gatherSingles 50 = .ok (.invokestatic 56, 3) := by decide +kernel
theorem dX2_gatherSingles_53 : decode cX2_gatherSingles 53 = .ok (.if_icmp .ge 43, 3) := by decide +kernel
theorem dX2_gatherSingles_56 : decode cX2_gatherSingles 56 = .ok (.iconst 1, 1) := by decide +kernel
theorem dX2_gatherSingles_57 : decode cX2_gatherSingles 57 = .ok (.istore 4, 2) := by decide +kernel
theorem dX2_gatherSingles_59 : decode cX2_gatherSingles 59 = .ok (.iload 4, 2) := by decide +kernel
theorem dX2_gatherSingles_61 : decode cX2_gatherSingles 61 = .ok (.iconst 2, 1) := by decide +kernel
theorem dX2_gatherSingles_62 : decode cX2_gatherSingles 62 = .ok (.aload_n 1, 1) := by decide +kernel
theorem dX2_gatherSingles_63 : decode cX2_gatherSingles 63 = .ok (.getfield 63, 3) := by decide +kernel
theorem dX2_gatherSingles_66 : decode cX2_gatherSingles 66 = .ok (.invokestatic 56, 3) := by decide +kernel
theorem dX2_gatherSingles_69 : decode cX2_gatherSingles 69 = .ok (.if_icmp .ge 21, 3) := by decide +kernel
theorem dX2_gatherSingles_72 : decode cX2_gatherSingles 72 = .ok (.aload_n 0, 1) := by decide +kernel
theorem dX2_gatherSingles_73 : decode cX2_gatherSingles 73 = .ok (.aload_n 1, 1) := by decide +kernel
theorem dX2_gatherSingles_74 : decode cX2_gatherSingles 74 = .ok (.iload_n 2, 1) := by decide +kernel
theorem dX2_gatherSingles_75 : decode cX2_gatherSingles 75 = .ok (.iload_n 3, 1) := by decide +kernel
theorem dX2_gatherSingles_76 : decode cX2_gatherSingles 76 = .ok (.iload 4, 2) := by decide +kernel
theorem dX2_gatherSingles_78 : decode cX2_gatherSingles 78 = .ok (.invokestatic 66, 3) := by decide +kernel
theorem dX2_gatherSingles_81 : decode cX2_gatherSingles 81 = .ok (.invokevirtual 70, 3) := by decide +kernel
theorem dX2_gatherSingles_84 : decode cX2_gatherSingles 84 = .ok (.iinc 4 1, 3) := by decide +kernel
theorem dX2_gatherSingles_87 : decode cX2_gatherSingles 87 = .ok (.goto (-28), 3) := by decide +kernel
theorem dX2_gatherSingles_90 : decode cX2_gatherSingles 90 = .ok (.iinc 3 1, 3) := by decide +kernel
theorem dX2_gatherSingles_93 : decode cX2_gatherSingles 93 = .ok (.goto (-49), 3) := by decide +kernel
theorem dX2_gatherSingles_96 : decode cX2_gatherSingles 96 = .ok (.iinc 2 1, 3) := by decide +kernel
theorem dX2_gatherSingles_99 : decode cX2_gatherSingles 99 = .ok (.goto (-69), 3) := by decide +kernel
theorem dX2_gatherSingles_102 : decode cX2_gatherSingles 102 = .ok (.return_, 1) := by decide +kernel
abbrev rmX2_gatherSingles : Room := { frames := 3, cells := 0, slots := 0, locals := 73 }
theorem zyX2_gatherSingles : zyOK yX2_gatherSingles 1 := ⟨by decide +kernel, by decide +kernel, by decide +kernel⟩
set_option maxHeartbeats 4000000 in
set_option maxRecDepth 100000 in
theorem wX2_gatherSingles {G : ZG} (a0 : Nat) (a1 : Nat) (S : ZS) (h0 : zFix G cX2_gatherSingles RX2 5 none rmX2_gatherSingles) (C : Option ZS → Prop) (hC : ¬ C none) (hE : ∀ S1 : ZS, C (some S1) → zEnd G none S1 rmX2_gatherSingles) : zV G 5 S 0 0 0 [(0, .ref a0), (1, .ref a1)] [] (C (fX2_gatherSingles a0 a1 S)) := by
  unfold fX2_gatherSingles
  refine zr_iconst (0 : Int32) h0 (by decide) dX2_gatherSingles_0 (n := 1) rfl ?_
  refine zr_istore_n [(0, .ref a0), (1, .ref a1), (2, .int (0 : Int32))] h0 dX2_gatherSingles_1 (by decide) rfl (n := 2) rfl ?_
  refine zr_loop hC (fX2_gatherSingles_B2 a0 a1) (fun y => [(0, .ref a0), (1, .ref a1), (2, .int y.1)]) (fun y => y.2) zF ((0 : Int32), S) (fun C2 hC2 hX2 hL2 t2 => ?_)
  unfold fX2_gatherSingles_B2
  refine zr_iload_n h0 dX2_gatherSingles_2 rfl (n := 3) rfl ?_
  refine zr_bipush (64 : Int32) h0 (by decide) dX2_gatherSingles_3 (n := 5) rfl ?_
  refine zr_icmp_ge C2 (tgt := 23) h0 dX2_gatherSingles_5 (by decide) (n := 8) rfl ?_ ?_
  · refine zr_ex hX2 ?_
    refine zv_sub (lv' := [(0, .ref a0), (1, .ref a1)]) ?_ (zsub_of [0, 1] rfl)
    refine zr_aload_n h0 dX2_gatherSingles_23 rfl (n := 24) rfl ?_
    refine zr_iconst (0 : Int32) h0 (by decide) dX2_gatherSingles_24 (n := 25) rfl ?_
    refine zr_putF C hC h0 zcX2 (k := 2) (by decide) zw_52 rfl rfl rfl dX2_gatherSingles_25 (n := 28) rfl (fun S30 => ?_)
    refine zr_iconst (1 : Int32) h0 (by decide) dX2_gatherSingles_28 (n := 29) rfl ?_
    refine zr_istore_n [(0, .ref a0), (1, .ref a1), (2, .int (1 : Int32))] h0 dX2_gatherSingles_29 (by decide) rfl (n := 30) rfl ?_
    refine zr_loop hC (fX2_gatherSingles_B30 a0 a1) (fun y => [(0, .ref a0), (1, .ref a1), (2, .int y.1)]) (fun y => y.2) zF ((1 : Int32), S30) (fun C30 hC30 hX30 hL30 t30 => ?_)
    unfold fX2_gatherSingles_B30
    refine zr_iload_n h0 dX2_gatherSingles_30 rfl (n := 31) rfl ?_
    refine zr_iconst (2 : Int32) h0 (by decide) dX2_gatherSingles_31 (n := 32) rfl ?_
    refine zr_aload_n h0 dX2_gatherSingles_32 rfl (n := 33) rfl ?_
    refine zr_getI C30 hC30 h0 zcX0 (k := 0) (by decide) zw_228 dX2_gatherSingles_33 (n := 36) rfl (fun v31 => ?_)
    refine zr_cRI C30 hC30 0 0 (fun x hx => zk_SN (host := "Bilinearium") h0 (fun l D z0 => kX5_power l D z0 (2 : Int32) v31 t30.2 x hx) (by decide +kernel) zw_440 zw_1 zw_441 zyX5_power (As := [.int (2 : Int32), .int v31]) (st := [.int t30.1]) rfl (by decide) rfl (Nat.le_of_ble_eq_true rfl) (by decide) dX2_gatherSingles_36) rfl rfl (n := 39) rfl (fun x32 => ?_)
    refine zr_icmp_ge C30 (tgt := 102) h0 dX2_gatherSingles_39 (by decide) (n := 42) rfl ?_ ?_
    · refine zr_ex hX30 ?_
      refine zv_sub (lv' := []) ?_ (zsub_of [] rfl)
      exact zr_vret h0 rfl dX2_gatherSingles_102 (fun h => hE _ h) (by decide) (by decide)
    · refine zr_iconst (1 : Int32) h0 (by decide) dX2_gatherSingles_42 (n := 43) rfl ?_
      refine zr_istore_n [(0, .ref a0), (1, .ref a1), (2, .int t30.1), (3, .int (1 : Int32))] h0 dX2_gatherSingles_43 (by decide) rfl (n := 44) rfl ?_
      refine zr_loop hC30 (fX2_gatherSingles_B44 a0 a1 t30.1) (fun y => [(0, .ref a0), (1, .ref a1), (2, .int t30.1), (3, .int y.1)]) (fun y => y.2) zF ((1 : Int32), t30.2) (fun C44 hC44 hX44 hL44 t44 => ?_)
      unfold fX2_gatherSingles_B44
      refine zr_iload_n h0 dX2_gatherSingles_44 rfl (n := 45) rfl ?_
      refine zr_iconst (2 : Int32) h0 (by decide) dX2_gatherSingles_45 (n := 46) rfl ?_
      refine zr_aload_n h0 dX2_gatherSingles_46 rfl (n := 47) rfl ?_
      refine zr_getI C44 hC44 h0 zcX0 (k := 1) (by decide) zw_232 dX2_gatherSingles_47 (n := 50) rfl (fun v33 => ?_)
      refine zr_cRI C44 hC44 0 0 (fun x hx => zk_SN (host := "Bilinearium") h0 (fun l D z0 => kX5_power l D z0 (2 : Int32) v33 t44.2 x hx) (by decide +kernel) zw_440 zw_1 zw_441 zyX5_power (As := [.int (2 : Int32), .int v33]) (st := [.int t44.1]) rfl (by decide) rfl (Nat.le_of_ble_eq_true rfl) (by decide) dX2_gatherSingles_50) rfl rfl (n := 53) rfl (fun x34 => ?_)
      refine zr_icmp_ge C44 (tgt := 96) h0 dX2_gatherSingles_53 (by decide) (n := 56) rfl ?_ ?_
      · refine zr_ex hX44 ?_
        refine zv_sub (lv' := [(0, .ref a0), (1, .ref a1), (2, .int t30.1)]) ?_ (zsub_of [0, 1, 2] rfl)
        refine zr_iinc (1 : Int32) [(0, .ref a0), (1, .ref a1), (2, .int (t30.1 + (1 : Int32)))] h0 dX2_gatherSingles_96 rfl (by decide) rfl rfl (n := 99) rfl ?_
        refine zr_goto (tgt := 30) h0 dX2_gatherSingles_99 (by decide) ?_
        exact hL30 (t30.1 + (1 : Int32), t44.2)
      · refine zr_iconst (1 : Int32) h0 (by decide) dX2_gatherSingles_56 (n := 57) rfl ?_
        refine zr_istore [(0, .ref a0), (1, .ref a1), (2, .int t30.1), (3, .int t44.1), (4, .int (1 : Int32))] h0 dX2_gatherSingles_57 (by decide) rfl (n := 59) rfl ?_
        refine zr_loop hC44 (fX2_gatherSingles_B59 a0 a1 t30.1 t44.1) (fun y => [(0, .ref a0), (1, .ref a1), (2, .int t30.1), (3, .int t44.1), (4, .int y.1)]) (fun y => y.2) zF ((1 : Int32), t44.2) (fun C59 hC59 hX59 hL59 t59 => ?_)
        unfold fX2_gatherSingles_B59
        refine zr_iload h0 dX2_gatherSingles_59 rfl (n := 61) rfl ?_
        refine zr_iconst (2 : Int32) h0 (by decide) dX2_gatherSingles_61 (n := 62) rfl ?_
        refine zr_aload_n h0 dX2_gatherSingles_62 rfl (n := 63) rfl ?_
        refine zr_getI C59 hC59 h0 zcX0 (k := 2) (by decide) zw_236 dX2_gatherSingles_63 (n := 66) rfl (fun v35 => ?_)
        refine zr_cRI C59 hC59 0 0 (fun x hx => zk_SN (host := "Bilinearium") h0 (fun l D z0 => kX5_power l D z0 (2 : Int32) v35 t59.2 x hx) (by decide +kernel) zw_440 zw_1 zw_441 zyX5_power (As := [.int (2 : Int32), .int v35]) (st := [.int t59.1]) rfl (by decide) rfl (Nat.le_of_ble_eq_true rfl) (by decide) dX2_gatherSingles_66) rfl rfl (n := 69) rfl (fun x36 => ?_)
        refine zr_icmp_ge C59 (tgt := 90) h0 dX2_gatherSingles_69 (by decide) (n := 72) rfl ?_ ?_
        · refine zr_ex hX59 ?_
          refine zv_sub (lv' := [(0, .ref a0), (1, .ref a1), (2, .int t30.1), (3, .int t44.1)]) ?_ (zsub_of [0, 1, 2, 3] rfl)
          refine zr_iinc (1 : Int32) [(0, .ref a0), (1, .ref a1), (2, .int t30.1), (3, .int (t44.1 + (1 : Int32)))] h0 dX2_gatherSingles_90 rfl (by decide) rfl rfl (n := 93) rfl ?_
          refine zr_goto (tgt := 44) h0 dX2_gatherSingles_93 (by decide) ?_
          exact hL44 (t44.1 + (1 : Int32), t59.2)
        · refine zr_aload_n h0 dX2_gatherSingles_72 rfl (n := 73) rfl ?_
          refine zr_aload_n h0 dX2_gatherSingles_73 rfl (n := 74) rfl ?_
          refine zr_iload_n h0 dX2_gatherSingles_74 rfl (n := 75) rfl ?_
          refine zr_iload_n h0 dX2_gatherSingles_75 rfl (n := 76) rfl ?_
          refine zr_iload h0 dX2_gatherSingles_76 rfl (n := 78) rfl ?_
          refine zr_cRI C59 hC59 0 0 (fun x hx => zk_S h0 (fun l D z0 => kX2_bitsOfSingle l D z0 a1 t30.1 t44.1 t59.1 t59.2 x hx) zw_658 zw_659 zw_3 zw_660 zyX2_bitsOfSingle (As := [.ref a1, .int t30.1, .int t44.1, .int t59.1]) (st := [.ref a0]) rfl (by decide) rfl (Nat.le_of_ble_eq_true rfl) (by decide) dX2_gatherSingles_78) rfl rfl (n := 81) rfl (fun x37 => ?_)
          refine zr_cMV C59 hC59 0 0 (fun x hx => zk_V h0 zcX2 (zcl_ex hx) (fun l D z0 => kX2_addSingle l D z0 a0 x37 t59.2 x (zcl_of hx)) zw_662 zw_664 zs_22 zw_3 zw_665 rfl zyX2_addSingle (As := [.int x37]) (st := []) rfl (by decide) rfl (Nat.le_of_ble_eq_true rfl) (by decide) dX2_gatherSingles_81) rfl rfl (n := 84) rfl (fun x38 => ?_)
          refine zr_iinc (1 : Int32) [(0, .ref a0), (1, .ref a1), (2, .int t30.1), (3, .int t44.1), (4, .int (t59.1 + (1 : Int32)))] h0 dX2_gatherSingles_84 rfl (by decide) rfl rfl (n := 87) rfl ?_
          refine zr_goto (tgt := 59) h0 dX2_gatherSingles_87 (by decide) ?_
          exact hL59 (t59.1 + (1 : Int32), x38)
  · refine zr_aload_n h0 dX2_gatherSingles_8 rfl (n := 9) rfl ?_
    refine zr_getR C2 hC2 h0 zcX2 (k := 1) (by decide) zw_51 dX2_gatherSingles_9 (n := 12) rfl (fun v39 => ?_)
    refine zr_iload_n h0 dX2_gatherSingles_12 rfl (n := 13) rfl ?_
    refine zr_lconst (0 : Int64) h0 (by decide) dX2_gatherSingles_13 (n := 14) rfl ?_
    refine zr_cMV C2 hC2 0 0 (fun x hx => zk_SN (host := "Bilinearium") h0 (fun l D z0 => kX5_putLong l D z0 v39 t2.1 (0 : Int64) t2.2 x hx) (by decide +kernel) zw_655 zw_1 zw_656 zyX5_putLong (As := [.ref v39, .int t2.1, .long (0 : Int64)]) (st := []) rfl (by decide) rfl (Nat.le_of_ble_eq_true rfl) (by decide) dX2_gatherSingles_14) rfl rfl (n := 17) rfl (fun x40 => ?_)
    refine zr_iinc (1 : Int32) [(0, .ref a0), (1, .ref a1), (2, .int (t2.1 + (1 : Int32)))] h0 dX2_gatherSingles_17 rfl (by decide) rfl rfl (n := 20) rfl ?_
    refine zr_goto (tgt := 2) h0 dX2_gatherSingles_20 (by decide) ?_
    exact hL2 (t2.1 + (1 : Int32), x40)
theorem kX2_gatherSingles (l : Launch) (D : ZD) (z0 : Nat) (a0 : Nat) (a1 : Nat) (S : ZS) (x : ZS) (hf : fX2_gatherSingles a0 a1 S = some x) : zMet l D z0 yX2_gatherSingles cX2_gatherSingles 5 none rmX2_gatherSingles [.ref a0, .ref a1] S none x :=
  zMet_of (by decide) (Nat.le_of_ble_eq_true rfl) (fun G h0 hini hE => wX2_gatherSingles a0 a1 S h0 (fun o => o = some x) (fun h => nomatch h) (fun S1 h => by cases h; exact hE)) hf
theorem dX2_bitsOf_0 : decode cX2_bitsOf 0 = .ok (.iconst 0, 1) := by decide +kernel
theorem dX2_bitsOf_1 : decode cX2_bitsOf 1 = .ok (.istore_n 1, 1) := by decide +kernel
theorem dX2_bitsOf_2 : decode cX2_bitsOf 2 = .ok (.iconst 0, 1) := by decide +kernel
theorem dX2_bitsOf_3 : decode cX2_bitsOf 3 = .ok (.istore_n 2, 1) := by decide +kernel
theorem dX2_bitsOf_4 : decode cX2_bitsOf 4 = .ok (.iload_n 2, 1) := by decide +kernel
theorem dX2_bitsOf_5 : decode cX2_bitsOf 5 = .ok (.aload_n 0, 1) := by decide +kernel
theorem dX2_bitsOf_6 : decode cX2_bitsOf 6 = .ok (.getfield 51, 3) := by decide +kernel
theorem dX2_bitsOf_9 : decode cX2_bitsOf 9 = .ok (.if_icmp .ge 56, 3) := by decide +kernel
theorem dX2_bitsOf_12 : decode cX2_bitsOf 12 = .ok (.iconst 0, 1) := by decide +kernel
theorem dX2_bitsOf_13 : decode cX2_bitsOf 13 = .ok (.istore_n 3, 1) := by decide +kernel
theorem dX2_bitsOf_14 : decode cX2_bitsOf 14 = .ok (.iload_n 3, 1) := by decide +kernel
theorem dX2_bitsOf_15 : decode cX2_bitsOf 15 = .ok (.aload_n 0, 1) := by decide +kernel
theorem dX2_bitsOf_16 : decode cX2_bitsOf 16 = .ok (.getfield 60, 3) := by decide +kernel
theorem dX2_bitsOf_19 : decode cX2_bitsOf 19 = .ok (.if_icmp .ge 40, 3) := by decide +kernel
theorem dX2_bitsOf_22 : decode cX2_bitsOf 22 = .ok (.iconst 0, 1) := by decide +kernel
theorem dX2_bitsOf_23 : decode cX2_bitsOf 23 = .ok (.istore 4, 2) := by decide +kernel
theorem dX2_bitsOf_25 : decode cX2_bitsOf 25 = .ok (.iload 4, 2) := by decide +kernel
theorem dX2_bitsOf_27 : decode cX2_bitsOf 27 = .ok (.aload_n 0, 1) := by decide +kernel
theorem dX2_bitsOf_28 : decode cX2_bitsOf 28 = .ok (.getfield 63, 3) := by decide +kernel
theorem dX2_bitsOf_31 : decode cX2_bitsOf 31 = .ok (.if_icmp .ge 22, 3) := by decide +kernel
theorem dX2_bitsOf_34 : decode cX2_bitsOf 34 = .ok (.iload_n 1, 1) := by decide +kernel
theorem dX2_bitsOf_35 : decode cX2_bitsOf 35 = .ok (.iconst 1, 1) := by decide +kernel
theorem dX2_bitsOf_36 : decode cX2_bitsOf 36 = .ok (.ishl, 1) := by decide +kernel
theorem dX2_bitsOf_37 : decode cX2_bitsOf 37 = .ok (.aload_n 0, 1) := by decide +kernel
theorem dX2_bitsOf_38 : decode cX2_bitsOf 38 = .ok (.iload_n 2, 1) := by decide +kernel
theorem dX2_bitsOf_39 : decode cX2_bitsOf 39 = .ok (.iload_n 3, 1) := by decide +kernel
theorem dX2_bitsOf_40 : decode cX2_bitsOf 40 = .ok (.iload 4, 2) := by decide +kernel
theorem dX2_bitsOf_42 : decode cX2_bitsOf 42 = .ok (.invokevirtual 82, 3) := by decide +kernel
theorem dX2_bitsOf_45 : decode cX2_bitsOf 45 = .ok (.ior, 1) := by decide +kernel
theorem dX2_bitsOf_46 : decode cX2_bitsOf 46 = .ok (.istore_n 1, 1) := by decide +kernel
theorem dX2_bitsOf_47 : decode cX2_bitsOf 47 = .ok (.iinc 4 1, 3) := by decide +kernel
theorem dX2_bitsOf_50 : decode cX2_bitsOf 50 = .ok (.goto (-25), 3) := by decide +kernel
theorem dX2_bitsOf_53 : decode cX2_bitsOf 53 = .ok (.iinc 3 1, 3) := by decide +kernel
theorem dX2_bitsOf_56 : decode cX2_bitsOf 56 = .ok (.goto (-42), 3) := by decide +kernel
theorem dX2_bitsOf_59 : decode cX2_bitsOf 59 = .ok (.iinc 2 1, 3) := by decide +kernel
theorem dX2_bitsOf_62 : decode cX2_bitsOf 62 = .ok (.goto (-58), 3) := by decide +kernel
theorem dX2_bitsOf_65 : decode cX2_bitsOf 65 = .ok (.iload_n 1, 1) := by decide +kernel
theorem dX2_bitsOf_66 : decode cX2_bitsOf 66 = .ok (.ireturn, 1) := by decide +kernel
abbrev rmX2_bitsOf : Room := { frames := 3, cells := 0, slots := 0, locals := 65 }
theorem zyX2_bitsOf : zyOK yX2_bitsOf 1 := ⟨by decide +kernel, by decide +kernel, by decide +kernel⟩
set_option maxHeartbeats 4000000 in
set_option maxRecDepth 100000 in
theorem wX2_bitsOf {G : ZG} (a0 : Nat) (S : ZS) (h0 : zFix G cX2_bitsOf RX2 5 (some .int) rmX2_bitsOf) (C : Option Int32 → Prop) (hC : ¬ C none) (hE : ∀ v : Int32, C (some v) → zEnd G (some (.int v)) S rmX2_bitsOf) : zV G 5 S 0 0 0 [(0, .ref a0)] [] (C (fX2_bitsOf a0 S)) := by
  unfold fX2_bitsOf
  refine zr_iconst (0 : Int32) h0 (by decide) dX2_bitsOf_0 (n := 1) rfl ?_
  refine zr_istore_n [(0, .ref a0), (1, .int (0 : Int32))] h0 dX2_bitsOf_1 (by decide) rfl (n := 2) rfl ?_
  refine zr_iconst (0 : Int32) h0 (by decide) dX2_bitsOf_2 (n := 3) rfl ?_
  refine zr_istore_n [(0, .ref a0), (1, .int (0 : Int32)), (2, .int (0 : Int32))] h0 dX2_bitsOf_3 (by decide) rfl (n := 4) rfl ?_
  refine zr_loop hC (fX2_bitsOf_B4 a0 S) (fun y => [(0, .ref a0), (1, .int y.1), (2, .int y.2)]) (fun y => S) zF ((0 : Int32), (0 : Int32)) (fun C4 hC4 hX4 hL4 t4 => ?_)
  unfold fX2_bitsOf_B4
  refine zr_iload_n h0 dX2_bitsOf_4 rfl (n := 5) rfl ?_
  refine zr_aload_n h0 dX2_bitsOf_5 rfl (n := 6) rfl ?_
  refine zr_getI C4 hC4 h0 zcX0 (k := 0) (by decide) zw_228 dX2_bitsOf_6 (n := 9) rfl (fun v10 => ?_)
  refine zr_icmp_ge C4 (tgt := 65) h0 dX2_bitsOf_9 (by decide) (n := 12) rfl ?_ ?_
  · refine zr_ex hX4 ?_
    refine zv_sub (lv' := [(1, .int t4.1)]) ?_ (zsub_of [1] rfl)
    refine zr_iload_n h0 dX2_bitsOf_65 rfl (n := 66) rfl ?_
    exact zr_iret h0 rfl dX2_bitsOf_66 (hE _) (by decide) (by decide)
  · refine zr_iconst (0 : Int32) h0 (by decide) dX2_bitsOf_12 (n := 13) rfl ?_
    refine zr_istore_n [(0, .ref a0), (1, .int t4.1), (2, .int t4.2), (3, .int (0 : Int32))] h0 dX2_bitsOf_13 (by decide) rfl (n := 14) rfl ?_
    refine zr_loop hC4 (fX2_bitsOf_B14 a0 t4.2 S) (fun y => [(0, .ref a0), (1, .int y.1), (2, .int t4.2), (3, .int y.2)]) (fun y => S) zF (t4.1, (0 : Int32)) (fun C14 hC14 hX14 hL14 t14 => ?_)
    unfold fX2_bitsOf_B14
    refine zr_iload_n h0 dX2_bitsOf_14 rfl (n := 15) rfl ?_
    refine zr_aload_n h0 dX2_bitsOf_15 rfl (n := 16) rfl ?_
    refine zr_getI C14 hC14 h0 zcX0 (k := 1) (by decide) zw_232 dX2_bitsOf_16 (n := 19) rfl (fun v11 => ?_)
    refine zr_icmp_ge C14 (tgt := 59) h0 dX2_bitsOf_19 (by decide) (n := 22) rfl ?_ ?_
    · refine zr_ex hX14 ?_
      refine zv_sub (lv' := [(0, .ref a0), (1, .int t14.1), (2, .int t4.2)]) ?_ (zsub_of [0, 1, 2] rfl)
      refine zr_iinc (1 : Int32) [(0, .ref a0), (1, .int t14.1), (2, .int (t4.2 + (1 : Int32)))] h0 dX2_bitsOf_59 rfl (by decide) rfl rfl (n := 62) rfl ?_
      refine zr_goto (tgt := 4) h0 dX2_bitsOf_62 (by decide) ?_
      exact hL4 (t14.1, t4.2 + (1 : Int32))
    · refine zr_iconst (0 : Int32) h0 (by decide) dX2_bitsOf_22 (n := 23) rfl ?_
      refine zr_istore [(0, .ref a0), (1, .int t14.1), (2, .int t4.2), (3, .int t14.2), (4, .int (0 : Int32))] h0 dX2_bitsOf_23 (by decide) rfl (n := 25) rfl ?_
      refine zr_loop hC14 (fX2_bitsOf_B25 a0 t4.2 t14.2 S) (fun y => [(0, .ref a0), (1, .int y.1), (2, .int t4.2), (3, .int t14.2), (4, .int y.2)]) (fun y => S) zF (t14.1, (0 : Int32)) (fun C25 hC25 hX25 hL25 t25 => ?_)
      unfold fX2_bitsOf_B25
      refine zr_iload h0 dX2_bitsOf_25 rfl (n := 27) rfl ?_
      refine zr_aload_n h0 dX2_bitsOf_27 rfl (n := 28) rfl ?_
      refine zr_getI C25 hC25 h0 zcX0 (k := 2) (by decide) zw_236 dX2_bitsOf_28 (n := 31) rfl (fun v12 => ?_)
      refine zr_icmp_ge C25 (tgt := 53) h0 dX2_bitsOf_31 (by decide) (n := 34) rfl ?_ ?_
      · refine zr_ex hX25 ?_
        refine zv_sub (lv' := [(0, .ref a0), (1, .int t25.1), (2, .int t4.2), (3, .int t14.2)]) ?_ (zsub_of [0, 1, 2, 3] rfl)
        refine zr_iinc (1 : Int32) [(0, .ref a0), (1, .int t25.1), (2, .int t4.2), (3, .int (t14.2 + (1 : Int32)))] h0 dX2_bitsOf_53 rfl (by decide) rfl rfl (n := 56) rfl ?_
        refine zr_goto (tgt := 14) h0 dX2_bitsOf_56 (by decide) ?_
        exact hL14 (t25.1, t14.2 + (1 : Int32))
      · refine zr_iload_n h0 dX2_bitsOf_34 rfl (n := 35) rfl ?_
        refine zr_iconst (1 : Int32) h0 (by decide) dX2_bitsOf_35 (n := 36) rfl ?_
        refine zr_ishl h0 dX2_bitsOf_36 (n := 37) rfl ?_
        refine zr_aload_n h0 dX2_bitsOf_37 rfl (n := 38) rfl ?_
        refine zr_iload_n h0 dX2_bitsOf_38 rfl (n := 39) rfl ?_
        refine zr_iload_n h0 dX2_bitsOf_39 rfl (n := 40) rfl ?_
        refine zr_iload h0 dX2_bitsOf_40 rfl (n := 42) rfl ?_
        refine zr_cRI C25 hC25 0 0 (fun x hx => zk_V h0 zcX0 (zcl_ex hx) (fun l D z0 => kX0_numberAt l D z0 a0 t4.2 t14.2 t25.2 S x (zcl_of hx)) zw_673 zw_325 zw_326 zw_10 zw_327 rfl zyX0_numberAt (As := [.int t4.2, .int t14.2, .int t25.2]) (st := [.int (t25.1 <<< ((1 : Int32) &&& 31))]) rfl (by decide) rfl (Nat.le_of_ble_eq_true rfl) (by decide) dX2_bitsOf_42) rfl rfl (n := 45) rfl (fun x13 => ?_)
        refine zr_ior h0 dX2_bitsOf_45 (n := 46) rfl ?_
        refine zr_istore_n [(0, .ref a0), (1, .int ((t25.1 <<< ((1 : Int32) &&& 31)) ||| x13)), (2, .int t4.2), (3, .int t14.2), (4, .int t25.2)] h0 dX2_bitsOf_46 (by decide) rfl (n := 47) rfl ?_
        refine zr_iinc (1 : Int32) [(0, .ref a0), (1, .int ((t25.1 <<< ((1 : Int32) &&& 31)) ||| x13)), (2, .int t4.2), (3, .int t14.2), (4, .int (t25.2 + (1 : Int32)))] h0 dX2_bitsOf_47 rfl (by decide) rfl rfl (n := 50) rfl ?_
        refine zr_goto (tgt := 25) h0 dX2_bitsOf_50 (by decide) ?_
        exact hL25 ((t25.1 <<< ((1 : Int32) &&& 31)) ||| x13, t25.2 + (1 : Int32))
theorem kX2_bitsOf (l : Launch) (D : ZD) (z0 : Nat) (a0 : Nat) (S : ZS) (x : Int32) (hf : fX2_bitsOf a0 S = some x) : zMet l D z0 yX2_bitsOf cX2_bitsOf 5 (some .int) rmX2_bitsOf [.ref a0] S (some (.int x)) S :=
  zMet_of (by decide) (Nat.le_of_ble_eq_true rfl) (fun G h0 hini hE => wX2_bitsOf a0 S h0 (fun o => o = some x) (fun h => nomatch h) (fun v h => by cases h; exact hE)) hf
theorem dX2_isSingle_0 : decode cX2_isSingle 0 = .ok (.aload_n 0, 1) := by decide +kernel
theorem dX2_isSingle_1 : decode cX2_isSingle 1 = .ok (.getfield 15, 3) := by decide +kernel
theorem dX2_isSingle_4 : decode cX2_isSingle 4 = .ok (.iload_n 1, 1) := by decide +kernel
theorem dX2_isSingle_5 : decode cX2_isSingle 5 = .ok (.bipush 64, 2) := by decide +kernel
theorem dX2_isSingle_7 : decode cX2_isSingle 7 = .ok (.idiv, 1) := by decide +kernel
theorem dX2_isSingle_8 : decode cX2_isSingle 8 = .ok (.invokestatic 43, 3) := by decide +kernel
theorem dX2_isSingle_11 : decode cX2_isSingle 11 = .ok (.iload_n 1, 1) := by decide +kernel
theorem dX2_isSingle_12 : decode cX2_isSingle 12 = .ok (.bipush 64, 2) := by decide +kernel
theorem dX2_isSingle_14 : decode cX2_isSingle 14 = .ok (.irem, 1) := by decide +kernel
theorem dX2_isSingle_15 : decode cX2_isSingle 15 = .ok (.lushr, 1) := by decide +kernel
theorem dX2_isSingle_16 : decode cX2_isSingle 16 = .ok (.lconst 1, 1) := by decide +kernel
theorem dX2_isSingle_17 : decode cX2_isSingle 17 = .ok (.land, 1) := by decide +kernel
theorem dX2_isSingle_18 : decode cX2_isSingle 18 = .ok (.lconst 0, 1) := by decide +kernel
theorem dX2_isSingle_19 : decode cX2_isSingle 19 = .ok (.lcmp, 1) := by decide +kernel
theorem dX2_isSingle_20 : decode cX2_isSingle 20 = .ok (.ifCond .eq 7, 3) := by decide +kernel
theorem dX2_isSingle_23 : decode cX2_isSingle 23 = .ok (.iconst 1, 1) := by decide +kernel
theorem dX2_isSingle_24 : decode cX2_isSingle 24 = .ok (.goto 4, 3) := by decide +kernel
theorem dX2_isSingle_27 : decode cX2_isSingle 27 = .ok (.iconst 0, 1) := by decide +kernel
theorem dX2_isSingle_28 : decode cX2_isSingle 28 = .ok (.ireturn, 1) := by decide +kernel
abbrev rmX2_isSingle : Room := { frames := 2, cells := 0, slots := 0, locals := 41 }
theorem zyX2_isSingle : zyOK yX2_isSingle 1 := ⟨by decide +kernel, by decide +kernel, by decide +kernel⟩
set_option maxHeartbeats 4000000 in
set_option maxRecDepth 100000 in
theorem wX2_isSingle {G : ZG} (a0 : Nat) (a1 : Int32) (S : ZS) (h0 : zFix G cX2_isSingle RX2 2 (some .boolean) rmX2_isSingle) (C : Option Int32 → Prop) (hC : ¬ C none) (hE : ∀ v : Int32, C (some v) → zEnd G (some (.int v)) S rmX2_isSingle) : zV G 2 S 0 0 0 [(0, .ref a0), (1, .int a1)] [] (C (fX2_isSingle a0 a1 S)) := by
  have J28 : ∀ (s0_28 : Int32), zV G 2 S 0 0 28 [] [.int s0_28] (C (fX2_isSingle_J28 s0_28 S)) := by
    intro s0_28
    unfold fX2_isSingle_J28
    exact zr_zret C hC h0 rfl dX2_isSingle_28 (fun w h => hE _ h) (by decide) (by decide)
  unfold fX2_isSingle
  refine zr_aload_n h0 dX2_isSingle_0 rfl (n := 1) rfl ?_
  refine zr_getR C hC h0 zcX2 (k := 1) (by decide) zw_51 dX2_isSingle_1 (n := 4) rfl (fun v1 => ?_)
  refine zr_iload_n h0 dX2_isSingle_4 rfl (n := 5) rfl ?_
  refine zr_bipush (64 : Int32) h0 (by decide) dX2_isSingle_5 (n := 7) rfl ?_
  refine zr_idivK h0 (by decide) dX2_isSingle_7 (n := 8) rfl ?_
  refine zr_cRJ C hC 0 0 (fun x hx => zk_SN (host := "Bilinearium") h0 (fun l D z0 => kX5_getLong l D z0 v1 (a1 / (64 : Int32)) S x hx) (by decide +kernel) zw_668 zw_1 zw_669 zyX5_getLong (As := [.ref v1, .int (a1 / (64 : Int32))]) (st := []) rfl (by decide) rfl (Nat.le_of_ble_eq_true rfl) (by decide) dX2_isSingle_8) rfl rfl (n := 11) rfl (fun x2 => ?_)
  refine zr_iload_n h0 dX2_isSingle_11 rfl (n := 12) rfl ?_
  refine zr_bipush (64 : Int32) h0 (by decide) dX2_isSingle_12 (n := 14) rfl ?_
  refine zr_iremK h0 (by decide) dX2_isSingle_14 (n := 15) rfl ?_
  refine zr_lushr h0 dX2_isSingle_15 (n := 16) rfl ?_
  refine zr_lconst (1 : Int64) h0 (by decide) dX2_isSingle_16 (n := 17) rfl ?_
  refine zr_land h0 dX2_isSingle_17 (n := 18) rfl ?_
  refine zr_lconst (0 : Int64) h0 (by decide) dX2_isSingle_18 (n := 19) rfl ?_
  refine zr_lcmp h0 dX2_isSingle_19 (n := 20) rfl ?_
  refine zr_if_eq C (tgt := 27) h0 dX2_isSingle_20 (by decide) (n := 23) rfl ?_ ?_
  · refine zv_sub (lv' := []) ?_ (zsub_of [] rfl)
    refine zr_iconst (0 : Int32) h0 (by decide) dX2_isSingle_27 (n := 28) rfl ?_
    exact J28 (0 : Int32)
  · refine zv_sub (lv' := []) ?_ (zsub_of [] rfl)
    refine zr_iconst (1 : Int32) h0 (by decide) dX2_isSingle_23 (n := 24) rfl ?_
    refine zr_goto (tgt := 28) h0 dX2_isSingle_24 (by decide) ?_
    exact J28 (1 : Int32)
theorem kX2_isSingle (l : Launch) (D : ZD) (z0 : Nat) (a0 : Nat) (a1 : Int32) (S : ZS) (x : Int32) (hf : fX2_isSingle a0 a1 S = some x) : zMet l D z0 yX2_isSingle cX2_isSingle 2 (some .boolean) rmX2_isSingle [.ref a0, .int a1] S (some (.int x)) S :=
  zMet_of (by decide) (Nat.le_of_ble_eq_true rfl) (fun G h0 hini hE => wX2_isSingle a0 a1 S h0 (fun o => o = some x) (fun h => nomatch h) (fun v h => by cases h; exact hE)) hf
theorem dX2_isMade_0 : decode cX2_isMade 0 = .ok (.iload_n 2, 1) := by decide +kernel
theorem dX2_isMade_1 : decode cX2_isMade 1 = .ok (.iconst 1, 1) := by decide +kernel
theorem dX2_isMade_2 : decode cX2_isMade 2 = .ok (.if_icmp .ge 13, 3) := by decide +kernel
theorem dX2_isMade_5 : decode cX2_isMade 5 = .ok (.iload_n 1, 1) := by decide +kernel
theorem dX2_isMade_6 : decode cX2_isMade 6 = .ok (.ifCond .ne 7, 3) := by decide +kernel
theorem dX2_isMade_9 : decode cX2_isMade 9 = .ok (.iconst 1, 1) := by decide +kernel
theorem dX2_isMade_10 : decode cX2_isMade 10 = .ok (.goto 4, 3) := by decide +kernel
theorem dX2_isMade_13 : decode cX2_isMade 13 = .ok (.iconst 0, 1) := by decide +kernel
theorem dX2_isMade_14 : decode cX2_isMade 14 = .ok (.ireturn, 1) := by decide +kernel
theorem dX2_isMade_15 : decode cX2_isMade 15 = .ok (.iload_n 2, 1) := by decide +kernel
theorem dX2_isMade_16 : decode cX2_isMade 16 = .ok (.iconst 1, 1) := by decide +kernel
theorem dX2_isMade_17 : decode cX2_isMade 17 = .ok (.if_icmp .ne 9, 3) := by decide +kernel
theorem dX2_isMade_20 : decode cX2_isMade 20 = .ok (.aload_n 0, 1) := by decide +kernel
theorem dX2_isMade_21 : decode cX2_isMade 21 = .ok (.iload_n 1, 1) := by decide +kernel
theorem dX2_isMade_22 : decode cX2_isMade 22 = .ok (.invokevirtual 31, 3) := by decide +kernel
theorem dX2_isMade_25 : decode cX2_isMade 25 = .ok (.ireturn, 1) := by decide +kernel
theorem dX2_isMade_26 : decode cX2_isMade 26 = .ok (.iload_n 3, 1) := by decide +kernel
theorem dX2_isMade_27 : decode cX2_isMade 27 = .ok (.istore 4, 2) := by decide +kernel
theorem dX2_isMade_29 : decode cX2_isMade 29 = .ok (.iload 4, 2) := by decide +kernel
theorem dX2_isMade_31 : decode cX2_isMade 31 = .ok (.aload_n 0, 1) := by decide +kernel
theorem dX2_isMade_32 : decode cX2_isMade 32 = .ok (.getfield 35, 3) := by decide +kernel
theorem dX2_isMade_35 : decode cX2_isMade 35 = .ok (.if_icmp .ge 36, 3) := by decide +kernel
theorem dX2_isMade_38 : decode cX2_isMade 38 = .ok (.aload_n 0, 1) := by decide +kernel
theorem dX2_isMade_39 : decode cX2_isMade 39 = .ok (.iload_n 1, 1) := by decide +kernel
theorem dX2_isMade_40 : decode cX2_isMade 40 = .ok (.aload_n 0, 1) := by decide +kernel
theorem dX2_isMade_41 : decode cX2_isMade 41 = .ok (.getfield 11, 3) := by decide +kernel
theorem dX2_isMade_44 : decode cX2_isMade 44 = .ok (.iload 4, 2) := by decide +kernel
theorem dX2_isMade_46 : decode cX2_isMade 46 = .ok (.invokestatic 39, 3) := by decide +kernel
theorem dX2_isMade_49 : decode cX2_isMade 49 = .ok (.ixor, 1) := by decide +kernel
theorem dX2_isMade_50 : decode cX2_isMade 50 = .ok (.iload_n 2, 1) := by decide +kernel
theorem dX2_isMade_51 : decode cX2_isMade 51 = .ok (.iconst 1, 1) := by decide +kernel
theorem dX2_isMade_52 : decode cX2_isMade 52 = .ok (.isub, 1) := by decide +kernel
theorem dX2_isMade_53 : decode cX2_isMade 53 = .ok (.iload 4, 2) := by decide +kernel
theorem dX2_isMade_55 : decode cX2_isMade 55 = .ok (.iconst 1, 1) := by decide +kernel
theorem dX2_isMade_56 : decode cX2_isMade 56 = .ok (.iadd, 1) := by decide +kernel
theorem dX2_isMade_57 : decode cX2_isMade 57 = .ok (.invokevirtual 27, 3) := by decide +kernel
theorem dX2_isMade_60 : decode cX2_isMade 60 = .ok (.ifCond .eq 5, 3) := by decide +kernel
theorem dX2_isMade_63 : decode cX2_isMade 63 = .ok (.iconst 1, 1) := by decide +kernel
theorem dX2_isMade_64 : decode cX2_isMade 64 = .ok (.ireturn, 1) := by decide +kernel
theorem dX2_isMade_65 : decode cX2_isMade 65 = .ok (.iinc 4 1, 3) := by decide +kernel
theorem dX2_isMade_68 : decode cX2_isMade 68 = .ok (.goto (-39), 3) := by decide +kernel
theorem dX2_isMade_71 : decode cX2_isMade 71 = .ok (.iconst 0, 1) := by decide +kernel
theorem dX2_isMade_72 : decode cX2_isMade 72 = .ok (.ireturn, 1) := by decide +kernel
abbrev rmX2_isMade (d : Nat) : Room := { frames := 3 + d, cells := 0, slots := 0, locals := 62 + 24 * d }
theorem zyX2_isMade : zyOK yX2_isMade 3 := ⟨by decide +kernel, by decide +kernel, by decide +kernel⟩
set_option maxHeartbeats 4000000 in
set_option maxRecDepth 100000 in
theorem wX2_isMade (d : Nat) (rc : Nat → Int32 → Int32 → Int32 → ZS → Option Int32) (hrc : ∀ (a0 : Nat) (a1 : Int32) (a2 : Int32) (a3 : Int32) (S : ZS), ∀ x, rc a0 a1 a2 a3 S = some x → ∀ l D z0, zMet l D z0 yX2_isMade cX2_isMade 5 (some .boolean) (rmX2_isMade d) [.ref a0, .int a1, .int a2, .int a3] S (some (.int x)) S) {G : ZG} (a0 : Nat) (a1 : Int32) (a2 : Int32) (a3 : Int32) (S : ZS) (h0 : zFix G cX2_isMade RX2 5 (some .boolean) (rmX2_isMade (d + 1))) (C : Option Int32 → Prop) (hC : ¬ C none) (hE : ∀ v : Int32, C (some v) → zEnd G (some (.int v)) S (rmX2_isMade (d + 1))) : zV G 5 S 0 0 0 [(0, .ref a0), (1, .int a1), (2, .int a2), (3, .int a3)] [] (C (fX2_isMade_F rc a0 a1 a2 a3 S)) := by
  have J14 : ∀ (s0_14 : Int32), zV G 5 S 0 0 14 [] [.int s0_14] (C (fX2_isMade_J14 rc s0_14 S)) := by
    intro s0_14
    unfold fX2_isMade_J14
    exact zr_zret C hC h0 rfl dX2_isMade_14 (fun w h => hE _ h) (Nat.zero_le _) (Nat.zero_le _)
  unfold fX2_isMade_F
  refine zr_iload_n h0 dX2_isMade_0 rfl (n := 1) rfl ?_
  refine zr_iconst (1 : Int32) h0 (by decide) dX2_isMade_1 (n := 2) rfl ?_
  refine zr_icmp_ge C (tgt := 15) h0 dX2_isMade_2 (by decide) (n := 5) rfl ?_ ?_
  · refine zr_iload_n h0 dX2_isMade_15 rfl (n := 16) rfl ?_
    refine zr_iconst (1 : Int32) h0 (by decide) dX2_isMade_16 (n := 17) rfl ?_
    refine zr_icmp_ne C (tgt := 26) h0 dX2_isMade_17 (by decide) (n := 20) rfl ?_ ?_
    · refine zv_sub (lv' := [(0, .ref a0), (1, .int a1)]) ?_ (zsub_of [0, 1] rfl)
      refine zr_aload_n h0 dX2_isMade_20 rfl (n := 21) rfl ?_
      refine zr_iload_n h0 dX2_isMade_21 rfl (n := 22) rfl ?_
      refine zr_cRI C hC 0 0 (fun x hx => zk_V h0 zcX2 (zcl_ex hx) (fun l D z0 => kX2_isSingle l D z0 a0 a1 S x (zcl_of hx)) zw_678 zw_680 zs_24 zw_3 zw_681 rfl zyX2_isSingle (As := [.int a1]) (st := []) rfl (by constructor <;> simp [rmX2_isMade, rmX2_isSingle] <;> omega) rfl (Nat.le_of_ble_eq_true rfl) (by constructor <;> simp [rmX2_isMade, rmX2_isSingle]) dX2_isMade_22) rfl rfl (n := 25) rfl (fun x1 => ?_)
      exact zr_zret C hC h0 rfl dX2_isMade_25 (fun w h => hE _ h) (Nat.zero_le _) (Nat.zero_le _)
    · refine zr_iload_n h0 dX2_isMade_26 rfl (n := 27) rfl ?_
      refine zr_istore [(0, .ref a0), (1, .int a1), (2, .int a2), (3, .int a3), (4, .int a3)] h0 dX2_isMade_27 (by decide) rfl (n := 29) rfl ?_
      refine zv_sub (lv' := [(0, .ref a0), (1, .int a1), (2, .int a2), (4, .int a3)]) ?_ (zsub_of [0, 1, 2, 4] rfl)
      refine zr_loop hC (fX2_isMade_B29 rc a0 a1 a2 S) (fun y => [(0, .ref a0), (1, .int a1), (2, .int a2), (4, .int y)]) (fun y => S) zF a3 (fun C29 hC29 hX29 hL29 t29 => ?_)
      unfold fX2_isMade_B29
      refine zr_iload h0 dX2_isMade_29 rfl (n := 31) rfl ?_
      refine zr_aload_n h0 dX2_isMade_31 rfl (n := 32) rfl ?_
      refine zr_getI C29 hC29 h0 zcX2 (k := 2) (by decide) zw_52 dX2_isMade_32 (n := 35) rfl (fun v6 => ?_)
      refine zr_icmp_ge C29 (tgt := 71) h0 dX2_isMade_35 (by decide) (n := 38) rfl ?_ ?_
      · refine zr_ex hX29 ?_
        refine zv_sub (lv' := []) ?_ (zsub_of [] rfl)
        refine zr_iconst (0 : Int32) h0 (by decide) dX2_isMade_71 (n := 72) rfl ?_
        exact zr_zret0 h0 rfl rfl dX2_isMade_72 (hE _) (Nat.zero_le _) (Nat.zero_le _)
      · refine zr_aload_n h0 dX2_isMade_38 rfl (n := 39) rfl ?_
        refine zr_iload_n h0 dX2_isMade_39 rfl (n := 40) rfl ?_
        refine zr_aload_n h0 dX2_isMade_40 rfl (n := 41) rfl ?_
        refine zr_getR C29 hC29 h0 zcX2 (k := 0) (by decide) zw_50 dX2_isMade_41 (n := 44) rfl (fun v7 => ?_)
        refine zr_iload h0 dX2_isMade_44 rfl (n := 46) rfl ?_
        refine zr_cRI C29 hC29 0 0 (fun x hx => zk_SN (host := "Bilinearium") h0 (fun l D z0 => kX5_get l D z0 v7 t29 S x hx) (by decide +kernel) zw_329 zw_1 zw_330 zyX5_get (As := [.ref v7, .int t29]) (st := [.int a1, .ref a0]) rfl (by constructor <;> simp [rmX2_isMade, rmX5_get] <;> omega) rfl (Nat.le_of_ble_eq_true rfl) (by constructor <;> simp [rmX2_isMade, rmX5_get]) dX2_isMade_46) rfl rfl (n := 49) rfl (fun x8 => ?_)
        refine zr_ixor h0 dX2_isMade_49 (n := 50) rfl ?_
        refine zr_iload_n h0 dX2_isMade_50 rfl (n := 51) rfl ?_
        refine zr_iconst (1 : Int32) h0 (by decide) dX2_isMade_51 (n := 52) rfl ?_
        refine zr_isub h0 dX2_isMade_52 (n := 53) rfl ?_
        refine zr_iload h0 dX2_isMade_53 rfl (n := 55) rfl ?_
        refine zr_iconst (1 : Int32) h0 (by decide) dX2_isMade_55 (n := 56) rfl ?_
        refine zr_iadd h0 dX2_isMade_56 (n := 57) rfl ?_
        refine zr_cRI C29 hC29 0 0 (fun x hx => zk_V h0 zcX2 (zcl_ex hx) (fun l D z0 => hrc a0 (a1 ^^^ x8) (a2 - (1 : Int32)) (t29 + (1 : Int32)) S x (zcl_of hx) l D z0) zw_674 zw_676 zs_23 zw_3 zw_677 rfl zyX2_isMade (As := [.int (a1 ^^^ x8), .int (a2 - (1 : Int32)), .int (t29 + (1 : Int32))]) (st := []) rfl (by constructor <;> simp [rmX2_isMade, rmX2_isMade] <;> omega) rfl (Nat.le_of_ble_eq_true rfl) (by constructor <;> simp [rmX2_isMade, rmX2_isMade]) dX2_isMade_57) rfl rfl (n := 60) rfl (fun x9 => ?_)
        refine zr_if_eq C29 (tgt := 65) h0 dX2_isMade_60 (by decide) (n := 63) rfl ?_ ?_
        · refine zr_iinc (1 : Int32) [(0, .ref a0), (1, .int a1), (2, .int a2), (4, .int (t29 + (1 : Int32)))] h0 dX2_isMade_65 rfl (by decide) rfl rfl (n := 68) rfl ?_
          refine zr_goto (tgt := 29) h0 dX2_isMade_68 (by decide) ?_
          exact hL29 (t29 + (1 : Int32))
        · refine zr_ex hX29 ?_
          refine zv_sub (lv' := []) ?_ (zsub_of [] rfl)
          refine zr_iconst (1 : Int32) h0 (by decide) dX2_isMade_63 (n := 64) rfl ?_
          exact zr_zret0 h0 rfl rfl dX2_isMade_64 (hE _) (Nat.zero_le _) (Nat.zero_le _)
  · refine zv_sub (lv' := [(1, .int a1)]) ?_ (zsub_of [1] rfl)
    refine zr_iload_n h0 dX2_isMade_5 rfl (n := 6) rfl ?_
    refine zr_if_ne C (tgt := 13) h0 dX2_isMade_6 (by decide) (n := 9) rfl ?_ ?_
    · refine zv_sub (lv' := []) ?_ (zsub_of [] rfl)
      refine zr_iconst (1 : Int32) h0 (by decide) dX2_isMade_9 (n := 10) rfl ?_
      refine zr_goto (tgt := 14) h0 dX2_isMade_10 (by decide) ?_
      exact J14 (1 : Int32)
    · refine zv_sub (lv' := []) ?_ (zsub_of [] rfl)
      refine zr_iconst (0 : Int32) h0 (by decide) dX2_isMade_13 (n := 14) rfl ?_
      exact J14 (0 : Int32)
theorem kX2_isMade : ∀ (d : Nat) (l : Launch) (D : ZD) (z0 : Nat) (a0 : Nat) (a1 : Int32) (a2 : Int32) (a3 : Int32) (S : ZS) (x : Int32) (hf : fX2_isMade d a0 a1 a2 a3 S = some x), zMet l D z0 yX2_isMade cX2_isMade 5 (some .boolean) (rmX2_isMade d) [.ref a0, .int a1, .int a2, .int a3] S (some (.int x)) S
  | 0, l, D, z0, a0, a1, a2, a3, S, x, hf => nomatch hf
  | d + 1, l, D, z0, a0, a1, a2, a3, S, x, hf => zMet_of (by decide) (Nat.le_of_ble_eq_true rfl) (fun G h0 hini hE => wX2_isMade d (fX2_isMade d) (fun a0 a1 a2 a3 S x hx l D z0 => kX2_isMade d l D z0 a0 a1 a2 a3 S x hx) a0 a1 a2 a3 S h0 (fun o => o = some x) (fun h => nomatch h) (fun v h => by cases h; exact hE)) hf
theorem dX2_fewest_0 : decode cX2_fewest 0 = .ok (.aload_n 0, 1) := by decide +kernel
theorem dX2_fewest_1 : decode cX2_fewest 1 = .ok (.aload_n 1, 1) := by decide +kernel
theorem dX2_fewest_2 : decode cX2_fewest 2 = .ok (.invokevirtual 19, 3) := by decide +kernel
theorem dX2_fewest_5 : decode cX2_fewest 5 = .ok (.aload_n 1, 1) := by decide +kernel
theorem dX2_fewest_6 : decode cX2_fewest 6 = .ok (.invokestatic 23, 3) := by decide +kernel
theorem dX2_fewest_9 : decode cX2_fewest 9 = .ok (.istore_n 3, 1) := by decide +kernel
theorem dX2_fewest_10 : decode cX2_fewest 10 = .ok (.iload_n 2, 1) := by decide +kernel
theorem dX2_fewest_11 : decode cX2_fewest 11 = .ok (.istore 4, 2) := by decide +kernel
theorem dX2_fewest_13 : decode cX2_fewest 13 = .ok (.iload 4, 2) := by decide +kernel
theorem dX2_fewest_15 : decode cX2_fewest 15 = .ok (.bipush 12, 2) := by decide +kernel
theorem dX2_fewest_17 : decode cX2_fewest 17 = .ok (.if_icmp .ge 23, 3) := by decide +kernel
theorem dX2_fewest_20 : decode cX2_fewest 20 = .ok (.aload_n 0, 1) := by decide +kernel
theorem dX2_fewest_21 : decode cX2_fewest 21 = .ok (.iload_n 3, 1) := by decide +kernel
theorem dX2_fewest_22 : decode cX2_fewest 22 = .ok (.iload 4, 2) := by decide +kernel
theorem dX2_fewest_24 : decode cX2_fewest 24 = .ok (.iconst 0, 1) := by decide +kernel
theorem dX2_fewest_25 : decode cX2_fewest 25 = .ok (.invokevirtual 27, 3) := by decide +kernel
theorem dX2_fewest_28 : decode cX2_fewest 28 = .ok (.ifCond .eq 6, 3) := by decide +kernel
theorem dX2_fewest_31 : decode cX2_fewest 31 = .ok (.iload 4, 2) := by decide +kernel
theorem dX2_fewest_33 : decode cX2_fewest 33 = .ok (.ireturn, 1) := by decide +kernel
theorem dX2_fewest_34 : decode cX2_fewest 34 = .ok (.iinc 4 1, 3) := by decide +kernel
theorem dX2_fewest_37 : decode cX2_fewest 37 = .ok (.goto (-24), 3) := by decide +kernel
theorem dX2_fewest_40 : decode cX2_fewest 40 = .ok (.bipush 12, 2) := by decide +kernel
theorem dX2_fewest_42 : decode cX2_fewest 42 = .ok (.ireturn, 1) := by decide +kernel
abbrev rmX2_fewest : Room := { frames := 17, cells := 0, slots := 0, locals := 398 }
theorem zyX2_fewest : zyOK yX2_fewest 2 := ⟨by decide +kernel, by decide +kernel, by decide +kernel⟩
set_option maxHeartbeats 4000000 in
set_option maxRecDepth 100000 in
theorem wX2_fewest {G : ZG} (a0 : Nat) (a1 : Nat) (a2 : Int32) (S : ZS) (h0 : zFix G cX2_fewest RX2 5 (some .int) rmX2_fewest) (C : Option (Int32 × ZS) → Prop) (hC : ¬ C none) (hE : ∀ (v : Int32) (S1 : ZS), C (some (v, S1)) → zEnd G (some (.int v)) S1 rmX2_fewest) : zV G 5 S 0 0 0 [(0, .ref a0), (1, .ref a1), (2, .int a2)] [] (C (fX2_fewest a0 a1 a2 S)) := by
  unfold fX2_fewest
  refine zr_aload_n h0 dX2_fewest_0 rfl (n := 1) rfl ?_
  refine zr_aload_n h0 dX2_fewest_1 rfl (n := 2) rfl ?_
  refine zr_cMV C hC 0 0 (fun x hx => zk_V h0 zcX2 (zcl_ex hx) (fun l D z0 => kX2_gatherSingles l D z0 a0 a1 S x (zcl_of hx)) zw_650 zw_652 zs_21 zw_3 zw_653 rfl zyX2_gatherSingles (As := [.ref a1]) (st := []) rfl (by decide) rfl (Nat.le_of_ble_eq_true rfl) (by decide) dX2_fewest_2) rfl rfl (n := 5) rfl (fun x1 => ?_)
  refine zr_aload_n h0 dX2_fewest_5 rfl (n := 6) rfl ?_
  refine zr_cRI C hC 0 0 (fun x hx => zk_S h0 (fun l D z0 => kX2_bitsOf l D z0 a1 x1 x hx) zw_670 zw_671 zw_3 zw_672 zyX2_bitsOf (As := [.ref a1]) (st := []) rfl (by decide) rfl (Nat.le_of_ble_eq_true rfl) (by decide) dX2_fewest_6) rfl rfl (n := 9) rfl (fun x2 => ?_)
  refine zr_istore_n [(0, .ref a0), (1, .ref a1), (2, .int a2), (3, .int x2)] h0 dX2_fewest_9 (by decide) rfl (n := 10) rfl ?_
  refine zr_iload_n h0 dX2_fewest_10 rfl (n := 11) rfl ?_
  refine zr_istore [(0, .ref a0), (1, .ref a1), (2, .int a2), (3, .int x2), (4, .int a2)] h0 dX2_fewest_11 (by decide) rfl (n := 13) rfl ?_
  refine zv_sub (lv' := [(0, .ref a0), (3, .int x2), (4, .int a2)]) ?_ (zsub_of [0, 3, 4] rfl)
  refine zr_loop hC (fX2_fewest_B13 a0 x2 x1) (fun y => [(0, .ref a0), (3, .int x2), (4, .int y)]) (fun y => x1) zF a2 (fun C13 hC13 hX13 hL13 t13 => ?_)
  unfold fX2_fewest_B13
  refine zr_iload h0 dX2_fewest_13 rfl (n := 15) rfl ?_
  refine zr_bipush (12 : Int32) h0 (by decide) dX2_fewest_15 (n := 17) rfl ?_
  refine zr_icmp_ge C13 (tgt := 40) h0 dX2_fewest_17 (by decide) (n := 20) rfl ?_ ?_
  · refine zr_ex hX13 ?_
    refine zv_sub (lv' := []) ?_ (zsub_of [] rfl)
    refine zr_bipush (12 : Int32) h0 (by decide) dX2_fewest_40 (n := 42) rfl ?_
    exact zr_iret h0 rfl dX2_fewest_42 (hE _ _) (by decide) (by decide)
  · refine zr_aload_n h0 dX2_fewest_20 rfl (n := 21) rfl ?_
    refine zr_iload_n h0 dX2_fewest_21 rfl (n := 22) rfl ?_
    refine zr_iload h0 dX2_fewest_22 rfl (n := 24) rfl ?_
    refine zr_iconst (0 : Int32) h0 (by decide) dX2_fewest_24 (n := 25) rfl ?_
    refine zr_cRI C13 hC13 0 0 (fun x hx => zk_V h0 zcX2 (zcl_ex hx) (fun l D z0 => kX2_isMade 13 l D z0 a0 x2 t13 (0 : Int32) x1 x (zcl_of hx)) zw_674 zw_676 zs_23 zw_3 zw_677 rfl zyX2_isMade (As := [.int x2, .int t13, .int (0 : Int32)]) (st := []) rfl (by decide) rfl (Nat.le_of_ble_eq_true rfl) (by decide) dX2_fewest_25) rfl rfl (n := 28) rfl (fun x4 => ?_)
    refine zr_if_eq C13 (tgt := 34) h0 dX2_fewest_28 (by decide) (n := 31) rfl ?_ ?_
    · refine zr_iinc (1 : Int32) [(0, .ref a0), (3, .int x2), (4, .int (t13 + (1 : Int32)))] h0 dX2_fewest_34 rfl (by decide) rfl rfl (n := 37) rfl ?_
      refine zr_goto (tgt := 13) h0 dX2_fewest_37 (by decide) ?_
      exact hL13 (t13 + (1 : Int32))
    · refine zr_ex hX13 ?_
      refine zv_sub (lv' := [(4, .int t13)]) ?_ (zsub_of [2] rfl)
      refine zr_iload h0 dX2_fewest_31 rfl (n := 33) rfl ?_
      exact zr_iret h0 rfl dX2_fewest_33 (hE _ _) (by decide) (by decide)
theorem kX2_fewest (l : Launch) (D : ZD) (z0 : Nat) (a0 : Nat) (a1 : Nat) (a2 : Int32) (S : ZS) (x : Int32 × ZS) (hf : fX2_fewest a0 a1 a2 S = some x) : zMet l D z0 yX2_fewest cX2_fewest 5 (some .int) rmX2_fewest [.ref a0, .ref a1, .int a2] S (some (.int x.1)) x.2 :=
  zMet_of (by decide) (Nat.le_of_ble_eq_true rfl) (fun G h0 hini hE => wX2_fewest a0 a1 a2 S h0 (fun o => o = some x) (fun h => nomatch h) (fun v S1 h => by cases h; exact hE)) hf
theorem dX5_least_0 : decode cX5_least 0 = .ok (.aload_n 0, 1) := by decide +kernel
theorem dX5_least_1 : decode cX5_least 1 = .ok (.iload_n 1, 1) := by decide +kernel
theorem dX5_least_2 : decode cX5_least 2 = .ok (.invokevirtual 87, 3) := by decide +kernel
theorem dX5_least_5 : decode cX5_least 5 = .ok (.astore_n 2, 1) := by decide +kernel
theorem dX5_least_6 : decode cX5_least 6 = .ok (.aload_n 0, 1) := by decide +kernel
theorem dX5_least_7 : decode cX5_least 7 = .ok (.aload_n 2, 1) := by decide +kernel
theorem dX5_least_8 : decode cX5_least 8 = .ok (.bipush 12, 2) := by decide +kernel
theorem dX5_least_10 : decode cX5_least 10 = .ok (.invokevirtual 207, 3) := by decide +kernel
theorem dX5_least_13 : decode cX5_least 13 = .ok (.aload_n 0, 1) := by decide +kernel
theorem dX5_least_14 : decode cX5_least 14 = .ok (.getfield 31, 3) := by decide +kernel
theorem dX5_least_17 : decode cX5_least 17 = .ok (.aload_n 2, 1) := by decide +kernel
theorem dX5_least_18 : decode cX5_least 18 = .ok (.aload_n 0, 1) := by decide +kernel
theorem dX5_least_19 : decode cX5_least 19 = .ok (.aload_n 2, 1) := by decide +kernel
theorem dX5_least_20 : decode cX5_least 20 = .ok (.invokevirtual 203, 3) := by decide +kernel
theorem dX5_least_23 : decode cX5_least 23 = .ok (.invokevirtual 210, 3) := by decide +kernel
theorem dX5_least_26 : decode cX5_least 26 = .ok (.ireturn, 1) := by decide +kernel
abbrev rmX5_least : Room := { frames := 18, cells := 2, slots := 12, locals := 422 }
theorem zyX5_least : zyOK yX5_least 1 := ⟨by decide +kernel, by decide +kernel, by decide +kernel⟩
set_option maxHeartbeats 4000000 in
set_option maxRecDepth 100000 in
theorem wX5_least {G : ZG} (a0 : Nat) (a1 : Int32) (S : ZS) (h0 : zFix G cX5_least RX5 3 (some .int) rmX5_least) (C : Option ((Int32 × ZS) ⊕ ZX) → Prop) (hC : ¬ C none) (hnt : zNoTab G) (hE : ∀ (v : Int32) (S1 : ZS), C (some (.inl (v, S1))) → zEndT G (some (.int v)) S1 rmX5_least) (hEx : ∀ (E : String) (h : ZH), C (some (.inr (E, h))) → zEndX G E h rmX5_least) : zV G 3 S 0 0 0 [(0, .ref a0), (1, .int a1)] [] (C (fX5_least a0 a1 S)) := by
  unfold fX5_least
  refine zr_aload_n h0 dX5_least_0 rfl (n := 1) rfl ?_
  refine zr_iload_n h0 dX5_least_1 rfl (n := 2) rfl ?_
  refine zr_cTR C hC 1 6 h0 (fun x hx => zk_VT h0 zcX5 (zcl_ex hx) (fun l D z0 hlt => kX5_needCube l D z0 hlt a0 a1 S x (zcl_of hx)) hnt zw_296 zw_298 zs_2 zw_1 zw_299 rfl zyX5_needCube (As := [.int a1]) (st := []) rfl (by decide) rfl (Nat.le_of_ble_eq_true rfl) (by decide) dX5_least_2) hnt rfl rfl (by decide) (by decide) (n := 5) rfl (fun z h => hEx _ _ h) (fun x1 => ?_)
  refine zr_astore_n [(0, .ref a0), (1, .int a1), (2, .ref x1.1)] h0 dX5_least_5 (by decide) rfl (n := 6) rfl ?_
  refine zr_aload_n h0 dX5_least_6 rfl (n := 7) rfl ?_
  refine zr_aload_n h0 dX5_least_7 rfl (n := 8) rfl ?_
  refine zr_bipush (12 : Int32) h0 (by decide) dX5_least_8 (n := 10) rfl ?_
  refine zr_cTV C hC 2 12 h0 (fun x hx => zk_VT h0 zcX5 (zcl_ex hx) (fun l D z0 hlt => kX5_needSmall l D z0 hlt a0 x1.1 (12 : Int32) x1.2 x (zcl_of hx)) hnt zw_641 zw_643 zs_20 zw_1 zw_644 rfl zyX5_needSmall (As := [.ref x1.1, .int (12 : Int32)]) (st := []) rfl (by decide) rfl (Nat.le_of_ble_eq_true rfl) (by decide) dX5_least_10) hnt rfl rfl (by decide) (by decide) (n := 13) rfl (fun z h => hEx _ _ h) (fun x2 => ?_)
  refine zr_aload_n h0 dX5_least_13 rfl (n := 14) rfl ?_
  refine zr_getR C hC h0 zcX5 (k := 3) (by decide) zw_77 dX5_least_14 (n := 17) rfl (fun v3 => ?_)
  refine zr_aload_n h0 dX5_least_17 rfl (n := 18) rfl ?_
  refine zr_aload_n h0 dX5_least_18 rfl (n := 19) rfl ?_
  refine zr_aload_n h0 dX5_least_19 rfl (n := 20) rfl ?_
  refine zr_cMI C hC 2 12 (fun x hx => zk_V h0 zcX5 (zcl_ex hx) (fun l D z0 => kX5_greatestRank l D z0 a0 x1.1 x2.2 x (zcl_of hx)) zw_627 zw_629 zs_19 zw_1 zw_630 rfl zyX5_greatestRank (As := [.ref x1.1]) (st := [.ref x1.1, .ref v3]) rfl (by decide) rfl (Nat.le_of_ble_eq_true rfl) (by decide) dX5_least_20) rfl rfl (n := 23) rfl (fun x4 => ?_)
  refine zr_cMI C hC 2 12 (fun x hx => zk_V h0 zcX2 (zcl_ex hx) (fun l D z0 => kX2_fewest l D z0 v3 x1.1 x4.1 x4.2 x (zcl_of hx)) zw_646 zw_647 zw_648 zw_3 zw_649 rfl zyX2_fewest (As := [.ref x1.1, .int x4.1]) (st := []) rfl (by decide) rfl (Nat.le_of_ble_eq_true rfl) (by decide) dX5_least_23) rfl rfl (n := 26) rfl (fun x5 => ?_)
  exact zr_iretT h0 rfl dX5_least_26 (hE _ _) (by decide) (by decide)
theorem kX5_least (l : Launch) (D : ZD) (z0 : Nat) (hlt : l.stackTraces = false) (a0 : Nat) (a1 : Int32) (S : ZS) (x : ((Int32 × ZS) ⊕ ZX)) (hf : fX5_least a0 a1 S = some x) : zMetT l D z0 yX5_least cX5_least 3 (some .int) rmX5_least [.ref a0, .int a1] S (x.map (fun y => ((some (.int y.1)), y.2)) id) :=
  zMetT_of hlt (by decide) (Nat.le_of_ble_eq_true rfl) (fun G h0 hnt hE hEx => wX5_least a0 a1 S h0 (fun o => o = some x) (fun h => nomatch h) hnt (fun v S1 h => by cases h; exact hE _ _ rfl) (fun E h hh => by cases hh; exact hEx _ _ rfl)) hf
theorem dX5_leastAnew_0 : decode cX5_leastAnew 0 = .ok (.aload_n 0, 1) := by decide +kernel
theorem dX5_leastAnew_1 : decode cX5_leastAnew 1 = .ok (.iload_n 1, 1) := by decide +kernel
theorem dX5_leastAnew_2 : decode cX5_leastAnew 2 = .ok (.invokevirtual 87, 3) := by decide +kernel
theorem dX5_leastAnew_5 : decode cX5_leastAnew 5 = .ok (.astore_n 2, 1) := by decide +kernel
theorem dX5_leastAnew_6 : decode cX5_leastAnew 6 = .ok (.aload_n 0, 1) := by decide +kernel
theorem dX5_leastAnew_7 : decode cX5_leastAnew 7 = .ok (.aload_n 2, 1) := by decide +kernel
theorem dX5_leastAnew_8 : decode cX5_leastAnew 8 = .ok (.bipush 8, 2) := by decide +kernel
theorem dX5_leastAnew_10 : decode cX5_leastAnew 10 = .ok (.invokevirtual 207, 3) := by decide +kernel
theorem dX5_leastAnew_13 : decode cX5_leastAnew 13 = .ok (.aload_n 0, 1) := by decide +kernel
theorem dX5_leastAnew_14 : decode cX5_leastAnew 14 = .ok (.getfield 31, 3) := by decide +kernel
theorem dX5_leastAnew_17 : decode cX5_leastAnew 17 = .ok (.aload_n 2, 1) := by decide +kernel
theorem dX5_leastAnew_18 : decode cX5_leastAnew 18 = .ok (.iconst 0, 1) := by decide +kernel
theorem dX5_leastAnew_19 : decode cX5_leastAnew 19 = .ok (.invokevirtual 210, 3) := by decide +kernel
theorem dX5_leastAnew_22 : decode cX5_leastAnew 22 = .ok (.ireturn, 1) := by decide +kernel
abbrev rmX5_leastAnew : Room := { frames := 18, cells := 2, slots := 12, locals := 422 }
theorem zyX5_leastAnew : zyOK yX5_leastAnew 1 := ⟨by decide +kernel, by decide +kernel, by decide +kernel⟩
set_option maxHeartbeats 4000000 in
set_option maxRecDepth 100000 in
theorem wX5_leastAnew {G : ZG} (a0 : Nat) (a1 : Int32) (S : ZS) (h0 : zFix G cX5_leastAnew RX5 3 (some .int) rmX5_leastAnew) (C : Option ((Int32 × ZS) ⊕ ZX) → Prop) (hC : ¬ C none) (hnt : zNoTab G) (hE : ∀ (v : Int32) (S1 : ZS), C (some (.inl (v, S1))) → zEndT G (some (.int v)) S1 rmX5_leastAnew) (hEx : ∀ (E : String) (h : ZH), C (some (.inr (E, h))) → zEndX G E h rmX5_leastAnew) : zV G 3 S 0 0 0 [(0, .ref a0), (1, .int a1)] [] (C (fX5_leastAnew a0 a1 S)) := by
  unfold fX5_leastAnew
  refine zr_aload_n h0 dX5_leastAnew_0 rfl (n := 1) rfl ?_
  refine zr_iload_n h0 dX5_leastAnew_1 rfl (n := 2) rfl ?_
  refine zr_cTR C hC 1 6 h0 (fun x hx => zk_VT h0 zcX5 (zcl_ex hx) (fun l D z0 hlt => kX5_needCube l D z0 hlt a0 a1 S x (zcl_of hx)) hnt zw_296 zw_298 zs_2 zw_1 zw_299 rfl zyX5_needCube (As := [.int a1]) (st := []) rfl (by decide) rfl (Nat.le_of_ble_eq_true rfl) (by decide) dX5_leastAnew_2) hnt rfl rfl (by decide) (by decide) (n := 5) rfl (fun z h => hEx _ _ h) (fun x1 => ?_)
  refine zr_astore_n [(0, .ref a0), (1, .int a1), (2, .ref x1.1)] h0 dX5_leastAnew_5 (by decide) rfl (n := 6) rfl ?_
  refine zr_aload_n h0 dX5_leastAnew_6 rfl (n := 7) rfl ?_
  refine zr_aload_n h0 dX5_leastAnew_7 rfl (n := 8) rfl ?_
  refine zr_bipush (8 : Int32) h0 (by decide) dX5_leastAnew_8 (n := 10) rfl ?_
  refine zr_cTV C hC 2 12 h0 (fun x hx => zk_VT h0 zcX5 (zcl_ex hx) (fun l D z0 hlt => kX5_needSmall l D z0 hlt a0 x1.1 (8 : Int32) x1.2 x (zcl_of hx)) hnt zw_641 zw_643 zs_20 zw_1 zw_644 rfl zyX5_needSmall (As := [.ref x1.1, .int (8 : Int32)]) (st := []) rfl (by decide) rfl (Nat.le_of_ble_eq_true rfl) (by decide) dX5_leastAnew_10) hnt rfl rfl (by decide) (by decide) (n := 13) rfl (fun z h => hEx _ _ h) (fun x2 => ?_)
  refine zr_aload_n h0 dX5_leastAnew_13 rfl (n := 14) rfl ?_
  refine zr_getR C hC h0 zcX5 (k := 3) (by decide) zw_77 dX5_leastAnew_14 (n := 17) rfl (fun v3 => ?_)
  refine zr_aload_n h0 dX5_leastAnew_17 rfl (n := 18) rfl ?_
  refine zr_iconst (0 : Int32) h0 (by decide) dX5_leastAnew_18 (n := 19) rfl ?_
  refine zr_cMI C hC 2 12 (fun x hx => zk_V h0 zcX2 (zcl_ex hx) (fun l D z0 => kX2_fewest l D z0 v3 x1.1 (0 : Int32) x2.2 x (zcl_of hx)) zw_646 zw_647 zw_648 zw_3 zw_649 rfl zyX2_fewest (As := [.ref x1.1, .int (0 : Int32)]) (st := []) rfl (by decide) rfl (Nat.le_of_ble_eq_true rfl) (by decide) dX5_leastAnew_19) rfl rfl (n := 22) rfl (fun x4 => ?_)
  exact zr_iretT h0 rfl dX5_leastAnew_22 (hE _ _) (by decide) (by decide)
theorem kX5_leastAnew (l : Launch) (D : ZD) (z0 : Nat) (hlt : l.stackTraces = false) (a0 : Nat) (a1 : Int32) (S : ZS) (x : ((Int32 × ZS) ⊕ ZX)) (hf : fX5_leastAnew a0 a1 S = some x) : zMetT l D z0 yX5_leastAnew cX5_leastAnew 3 (some .int) rmX5_leastAnew [.ref a0, .int a1] S (x.map (fun y => ((some (.int y.1)), y.2)) id) :=
  zMetT_of hlt (by decide) (Nat.le_of_ble_eq_true rfl) (fun G h0 hnt hE hEx => wX5_leastAnew a0 a1 S h0 (fun o => o = some x) (fun h => nomatch h) hnt (fun v S1 h => by cases h; exact hE _ _ rfl) (fun E h hh => by cases hh; exact hEx _ _ rfl)) hf
theorem dX4_number_0 : decode cX4_number 0 = .ok (.aload_n 0, 1) := by decide +kernel
theorem dX4_number_1 : decode cX4_number 1 = .ok (.iload_n 1, 1) := by decide +kernel
theorem dX4_number_2 : decode cX4_number 2 = .ok (.iload_n 2, 1) := by decide +kernel
theorem dX4_number_3 : decode cX4_number 3 = .ok (.invokevirtual 38, 3) := by decide +kernel
theorem dX4_number_6 : decode cX4_number 6 = .ok (.aload_n 0, 1) := by decide +kernel
theorem dX4_number_7 : decode cX4_number 7 = .ok (.getfield 11, 3) := by decide +kernel
theorem dX4_number_10 : decode cX4_number 10 = .ok (.iload_n 2, 1) := by decide +kernel
theorem dX4_number_11 : decode cX4_number 11 = .ok (.invokevirtual 42, 3) := by decide +kernel
theorem dX4_number_14 : decode cX4_number 14 = .ok (.iload_n 3, 1) := by decide +kernel
theorem dX4_number_15 : decode cX4_number 15 = .ok (.aload_n 0, 1) := by decide +kernel
theorem dX4_number_16 : decode cX4_number 16 = .ok (.getfield 15, 3) := by decide +kernel
theorem dX4_number_19 : decode cX4_number 19 = .ok (.invokestatic 47, 3) := by decide +kernel
theorem dX4_number_22 : decode cX4_number 22 = .ok (.ireturn, 1) := by decide +kernel
abbrev rmX4_number : Room := { frames := 3, cells := 0, slots := 0, locals := 63 }
theorem zyX4_number : zyOK yX4_number 3 := ⟨by decide +kernel, by decide +kernel, by decide +kernel⟩
set_option maxHeartbeats 4000000 in
set_option maxRecDepth 100000 in
theorem wX4_number {G : ZG} (a0 : Nat) (a1 : Int32) (a2 : Int32) (a3 : Int32) (S : ZS) (h0 : zFix G cX4_number RX4 4 (some .int) rmX4_number) (C : Option Int32 → Prop) (hC : ¬ C none) (hE : ∀ v : Int32, C (some v) → zEnd G (some (.int v)) S rmX4_number) : zV G 4 S 0 0 0 [(0, .ref a0), (1, .int a1), (2, .int a2), (3, .int a3)] [] (C (fX4_number a0 a1 a2 a3 S)) := by
  unfold fX4_number
  refine zr_aload_n h0 dX4_number_0 rfl (n := 1) rfl ?_
  refine zr_iload_n h0 dX4_number_1 rfl (n := 2) rfl ?_
  refine zr_iload_n h0 dX4_number_2 rfl (n := 3) rfl ?_
  refine zr_cRI C hC 0 0 (fun x hx => zk_V h0 zcX4 (zcl_ex hx) (fun l D z0 => kX4_code l D z0 a0 a1 a2 S x (zcl_of hx)) zw_487 zw_488 zw_489 zw_12 zw_490 rfl zyX4_code (As := [.int a1, .int a2]) (st := []) rfl (by decide) rfl (Nat.le_of_ble_eq_true rfl) (by decide) dX4_number_3) rfl rfl (n := 6) rfl (fun x1 => ?_)
  refine zr_aload_n h0 dX4_number_6 rfl (n := 7) rfl ?_
  refine zr_getR C hC h0 zcX4 (k := 0) (by decide) zw_408 dX4_number_7 (n := 10) rfl (fun v2 => ?_)
  refine zr_iload_n h0 dX4_number_10 rfl (n := 11) rfl ?_
  refine zr_cRI C hC 0 0 (fun x hx => zk_V h0 zcX0 (zcl_ex hx) (fun l D z0 => kX0_sizeOf l D z0 v2 a2 S x (zcl_of hx)) zw_501 zw_346 zw_347 zw_10 zw_348 rfl zyX0_sizeOf (As := [.int a2]) (st := [.int x1]) rfl (by decide) rfl (Nat.le_of_ble_eq_true rfl) (by decide) dX4_number_11) rfl rfl (n := 14) rfl (fun x3 => ?_)
  refine zr_iload_n h0 dX4_number_14 rfl (n := 15) rfl ?_
  refine zr_aload_n h0 dX4_number_15 rfl (n := 16) rfl ?_
  refine zr_getI C hC h0 zcX4 (k := 1) (by decide) zw_410 dX4_number_16 (n := 19) rfl (fun v4 => ?_)
  refine zr_cRI C hC 0 0 (fun x hx => zk_SN (host := "Bilinearium") h0 (fun l D z0 => kX5_numberIn l D z0 x1 x3 a3 v4 S x hx) (by decide +kernel) zw_506 zw_1 zw_507 zyX5_numberIn (As := [.int x1, .int x3, .int a3, .int v4]) (st := []) rfl (by decide) rfl (Nat.le_of_ble_eq_true rfl) (by decide) dX4_number_19) rfl rfl (n := 22) rfl (fun x5 => ?_)
  exact zr_iret h0 rfl dX4_number_22 (hE _) (by decide) (by decide)
theorem kX4_number (l : Launch) (D : ZD) (z0 : Nat) (a0 : Nat) (a1 : Int32) (a2 : Int32) (a3 : Int32) (S : ZS) (x : Int32) (hf : fX4_number a0 a1 a2 a3 S = some x) : zMet l D z0 yX4_number cX4_number 4 (some .int) rmX4_number [.ref a0, .int a1, .int a2, .int a3] S (some (.int x)) S :=
  zMet_of (by decide) (Nat.le_of_ble_eq_true rfl) (fun G h0 hini hE => wX4_number a0 a1 a2 a3 S h0 (fun o => o = some x) (fun h => nomatch h) (fun v h => by cases h; exact hE)) hf
theorem dX4_addEntries_0 : decode cX4_addEntries 0 = .ok (.iconst 0, 1) := by decide +kernel
theorem dX4_addEntries_1 : decode cX4_addEntries 1 = .ok (.istore_n 3, 1) := by decide +kernel
theorem dX4_addEntries_2 : decode cX4_addEntries 2 = .ok (.iload_n 3, 1) := by decide +kernel
theorem dX4_addEntries_3 : decode cX4_addEntries 3 = .ok (.aload_n 0, 1) := by decide +kernel
theorem dX4_addEntries_4 : decode cX4_addEntries 4 = .ok (.getfield 11, 3) := by decide +kernel
theorem dX4_addEntries_7 : decode cX4_addEntries 7 = .ok (.getfield 51, 3) := by decide +kernel
theorem dX4_addEntries_10 : decode cX4_addEntries 10 = .ok (.if_icmp .ge 117, 3) := by decide +kernel
theorem dX4_addEntries_13 : decode cX4_addEntries 13 = .ok (.aload_n 0, 1) := by decide +kernel
theorem dX4_addEntries_14 : decode cX4_addEntries 14 = .ok (.iload_n 1, 1) := by decide +kernel
theorem dX4_addEntries_15 : decode cX4_addEntries 15 = .ok (.iconst 0, 1) := by decide +kernel
theorem dX4_addEntries_16 : decode cX4_addEntries 16 = .ok (.iload_n 3, 1) := by decide +kernel
theorem dX4_addEntries_17 : decode cX4_addEntries 17 = .ok (.invokevirtual 128, 3) := by decide +kernel
theorem dX4_addEntries_20 : decode cX4_addEntries 20 = .ok (.istore 4, 2) := by decide +kernel
theorem dX4_addEntries_22 : decode cX4_addEntries 22 = .ok (.iconst 0, 1) := by decide +kernel
theorem dX4_addEntries_23 : decode cX4_addEntries 23 = .ok (.istore 5, 2) := by decide +kernel
theorem dX4_addEntries_25 : decode cX4_addEntries 25 = .ok (.iload 5, 2) := by decide +kernel
theorem dX4_addEntries_27 : decode cX4_addEntries 27 = .ok (.aload_n 0, 1) := by decide +kernel
theorem dX4_addEntries_28 : decode cX4_addEntries 28 = .ok (.getfield 11, 3) := by decide +kernel
theorem dX4_addEntries_31 : decode cX4_addEntries 31 = .ok (.getfield 54, 3) := by decide +kernel
theorem dX4_addEntries_34 : decode cX4_addEntries 34 = .ok (.if_icmp .ge 87, 3) := by decide +kernel
theorem dX4_addEntries_37 : decode cX4_addEntries 37 = .ok (.iload 4, 2) := by decide +kernel
theorem dX4_addEntries_39 : decode cX4_addEntries 39 = .ok (.ifCond .eq 82, 3) := by decide +kernel
theorem dX4_addEntries_42 : decode cX4_addEntries 42 = .ok (.iload 4, 2) := by decide +kernel
theorem dX4_addEntries_44 : decode cX4_addEntries 44 = .ok (.aload_n 0, 1) := by decide +kernel
theorem dX4_addEntries_45 : decode cX4_addEntries 45 = .ok (.iload_n 1, 1) := by decide +kernel
theorem dX4_addEntries_46 : decode cX4_addEntries 46 = .ok (.iconst 1, 1) := by decide +kernel
theorem dX4_addEntries_47 : decode cX4_addEntries 47 = .ok (.iload 5, 2) := by decide +kernel
theorem dX4_addEntries_49 : decode cX4_addEntries 49 = .ok (.invokevirtual 128, 3) := by decide +kernel
theorem dX4_addEntries_52 : decode cX4_addEntries 52 = .ok (.imul, 1) := by decide +kernel
theorem dX4_addEntries_53 : decode cX4_addEntries 53 = .ok (.istore 6, 2) := by decide +kernel
theorem dX4_addEntries_55 : decode cX4_addEntries 55 = .ok (.iconst 0, 1) := by decide +kernel
theorem dX4_addEntries_56 : decode cX4_addEntries 56 = .ok (.istore 7, 2) := by decide +kernel
theorem dX4_addEntries_58 : decode cX4_addEntries 58 = .ok (.iload 7, 2) := by decide +kernel
theorem dX4_addEntries_60 : decode cX4_addEntries 60 = .ok (.aload_n 0, 1) := by decide +kernel
theorem dX4_addEntries_61 : decode cX4_addEntries 61 = .ok (.getfield 11, 3) := by decide +kernel
theorem dX4_addEntries_64 : decode cX4_addEntries 64 = .ok (.getfield 57, 3) := by decide +kernel
theorem dX4_addEntries_67 : decode cX4_addEntries 67 = .ok (.if_icmp .ge 48, 3) := by decide +kernel
theorem dX4_addEntries_70 : decode cX4_addEntries 70 = .ok (.iload 6, 2) := by decide +kernel
theorem dX4_addEntries_72 : decode cX4_addEntries 72 = .ok (.ifCond .eq 43, 3) := by decide +kernel
theorem dX4_addEntries_75 : decode cX4_addEntries 75 = .ok (.iload_n 3, 1) := by decide +kernel
theorem dX4_addEntries_76 : decode cX4_addEntries 76 = .ok (.iload 5, 2) := by decide +kernel
theorem dX4_addEntries_78 : decode cX4_addEntries 78 = .ok (.iload 7, 2) := by decide +kernel
theorem dX4_addEntries_80 : decode cX4_addEntries 80 = .ok (.invokestatic 131, 3) := by decide +kernel
theorem dX4_addEntries_83 : decode cX4_addEntries 83 = .ok (.istore 8, 2) := by decide +kernel
theorem dX4_addEntries_85 : decode cX4_addEntries 85 = .ok (.aload_n 2, 1) := by decide +kernel
theorem dX4_addEntries_86 : decode cX4_addEntries 86 = .ok (.iload 8, 2) := by decide +kernel
theorem dX4_addEntries_88 : decode cX4_addEntries 88 = .ok (.aload_n 2, 1) := by decide +kernel
theorem dX4_addEntries_89 : decode cX4_addEntries 89 = .ok (.iload 8, 2) := by decide +kernel
theorem dX4_addEntries_91 : decode cX4_addEntries 91 = .ok (.invokestatic 26, 3) := by decide +kernel
theorem dX4_addEntries_94 : decode cX4_addEntries 94 = .ok (.iload 6, 2) := by decide +kernel
theorem dX4_addEntries_96 : decode cX4_addEntries 96 = .ok (.aload_n 0, 1) := by decide +kernel
theorem dX4_addEntries_97 : decode cX4_addEntries 97 = .ok (.iload_n 1, 1) := by decide +kernel
theorem dX4_addEntries_98 : decode cX4_addEntries 98 = .ok (.iconst 2, 1) := by decide +kernel
theorem dX4_addEntries_99 : decode cX4_addEntries 99 = .ok (.iload 7, 2) := by decide +kernel
theorem dX4_addEntries_101 : decode cX4_addEntries 101 = .ok (.invokevirtual 128, 3) := by decide +kernel
theorem dX4_addEntries_104 : decode cX4_addEntries 104 = .ok (.imul, 1) := by decide +kernel
theorem dX4_addEntries_105 : decode cX4_addEntries 105 = .ok (.iadd, 1) := by decide +kernel
theorem dX4_addEntries_106 : decode cX4_addEntries 106 = .ok (.invokestatic 34, 3) := by decide +kernel
theorem dX4_addEntries_109 : decode cX4_addEntries 109 = .ok (.iinc 7 1, 3) := by decide +kernel
theorem dX4_addEntries_112 : decode cX4_addEntries 112 = .ok (.goto (-54), 3) := by decide +kernel
theorem dX4_addEntries_115 : decode cX4_addEntries 115 = .ok (.iinc 5 1, 3) := by decide +kernel
theorem dX4_addEntries_118 : decode cX4_addEntries 118 = .ok (.goto (-93), 3) := by decide +kernel
theorem dX4_addEntries_121 : decode cX4_addEntries 121 = .ok (.iinc 3 1, 3) := by decide +kernel
theorem dX4_addEntries_124 : decode cX4_addEntries 124 = .ok (.goto (-122), 3) := by decide +kernel
theorem dX4_addEntries_127 : decode cX4_addEntries 127 = .ok (.return_, 1) := by decide +kernel
abbrev rmX4_addEntries : Room := { frames := 4, cells := 0, slots := 0, locals := 86 }
theorem zyX4_addEntries : zyOK yX4_addEntries 2 := ⟨by decide +kernel, by decide +kernel, by decide +kernel⟩
set_option maxHeartbeats 4000000 in
set_option maxRecDepth 100000 in
theorem wX4_addEntries {G : ZG} (a0 : Nat) (a1 : Int32) (a2 : Nat) (S : ZS) (h0 : zFix G cX4_addEntries RX4 9 none rmX4_addEntries) (C : Option ZS → Prop) (hC : ¬ C none) (hE : ∀ S1 : ZS, C (some S1) → zEnd G none S1 rmX4_addEntries) : zV G 9 S 0 0 0 [(0, .ref a0), (1, .int a1), (2, .ref a2)] [] (C (fX4_addEntries a0 a1 a2 S)) := by
  unfold fX4_addEntries
  refine zr_iconst (0 : Int32) h0 (by decide) dX4_addEntries_0 (n := 1) rfl ?_
  refine zr_istore_n [(0, .ref a0), (1, .int a1), (2, .ref a2), (3, .int (0 : Int32))] h0 dX4_addEntries_1 (by decide) rfl (n := 2) rfl ?_
  refine zr_loop hC (fX4_addEntries_B2 a0 a1 a2) (fun y => [(0, .ref a0), (1, .int a1), (2, .ref a2), (3, .int y.1)]) (fun y => y.2) zF ((0 : Int32), S) (fun C2 hC2 hX2 hL2 t2 => ?_)
  have J121 : ∀ (l3_121 : Int32) (S_121 : ZS), zV G 9 S_121 0 0 121 [(0, .ref a0), (1, .int a1), (2, .ref a2), (3, .int l3_121)] [] (C2 (fX4_addEntries_J121 a0 a1 a2 l3_121 S_121)) := by
    intro l3_121 S_121
    unfold fX4_addEntries_J121
    refine zr_iinc (1 : Int32) [(0, .ref a0), (1, .int a1), (2, .ref a2), (3, .int (l3_121 + (1 : Int32)))] h0 dX4_addEntries_121 rfl (by decide) rfl rfl (n := 124) rfl ?_
    refine zr_goto (tgt := 2) h0 dX4_addEntries_124 (by decide) ?_
    exact hL2 (l3_121 + (1 : Int32), S_121)
  unfold fX4_addEntries_B2
  refine zr_iload_n h0 dX4_addEntries_2 rfl (n := 3) rfl ?_
  refine zr_aload_n h0 dX4_addEntries_3 rfl (n := 4) rfl ?_
  refine zr_getR C2 hC2 h0 zcX4 (k := 0) (by decide) zw_408 dX4_addEntries_4 (n := 7) rfl (fun v28 => ?_)
  refine zr_getI C2 hC2 h0 zcX0 (k := 0) (by decide) zw_229 dX4_addEntries_7 (n := 10) rfl (fun v29 => ?_)
  refine zr_icmp_ge C2 (tgt := 127) h0 dX4_addEntries_10 (by decide) (n := 13) rfl ?_ ?_
  · refine zr_ex hX2 ?_
    refine zv_sub (lv' := []) ?_ (zsub_of [] rfl)
    exact zr_vret h0 rfl dX4_addEntries_127 (fun h => hE _ h) (by decide) (by decide)
  · refine zr_aload_n h0 dX4_addEntries_13 rfl (n := 14) rfl ?_
    refine zr_iload_n h0 dX4_addEntries_14 rfl (n := 15) rfl ?_
    refine zr_iconst (0 : Int32) h0 (by decide) dX4_addEntries_15 (n := 16) rfl ?_
    refine zr_iload_n h0 dX4_addEntries_16 rfl (n := 17) rfl ?_
    refine zr_cRI C2 hC2 0 0 (fun x hx => zk_V h0 zcX4 (zcl_ex hx) (fun l D z0 => kX4_number l D z0 a0 a1 (0 : Int32) t2.1 t2.2 x (zcl_of hx)) zw_709 zw_711 zs_26 zw_12 zw_712 rfl zyX4_number (As := [.int a1, .int (0 : Int32), .int t2.1]) (st := []) rfl (by decide) rfl (Nat.le_of_ble_eq_true rfl) (by decide) dX4_addEntries_17) rfl rfl (n := 20) rfl (fun x30 => ?_)
    refine zr_istore [(0, .ref a0), (1, .int a1), (2, .ref a2), (3, .int t2.1), (4, .int x30)] h0 dX4_addEntries_20 (by decide) rfl (n := 22) rfl ?_
    refine zr_iconst (0 : Int32) h0 (by decide) dX4_addEntries_22 (n := 23) rfl ?_
    refine zr_istore [(0, .ref a0), (1, .int a1), (2, .ref a2), (3, .int t2.1), (4, .int x30), (5, .int (0 : Int32))] h0 dX4_addEntries_23 (by decide) rfl (n := 25) rfl ?_
    refine zr_loop hC2 (fX4_addEntries_B25 a0 a1 a2 t2.1 x30) (fun y => [(0, .ref a0), (1, .int a1), (2, .ref a2), (3, .int t2.1), (4, .int x30), (5, .int y.1)]) (fun y => y.2) zF ((0 : Int32), t2.2) (fun C25 hC25 hX25 hL25 t25 => ?_)
    have J115 : ∀ (l5_115 : Int32) (S_115 : ZS), zV G 9 S_115 0 0 115 [(0, .ref a0), (1, .int a1), (2, .ref a2), (3, .int t2.1), (4, .int x30), (5, .int l5_115)] [] (C25 (fX4_addEntries_J115 a0 a1 a2 t2.1 x30 l5_115 S_115)) := by
      intro l5_115 S_115
      unfold fX4_addEntries_J115
      refine zr_iinc (1 : Int32) [(0, .ref a0), (1, .int a1), (2, .ref a2), (3, .int t2.1), (4, .int x30), (5, .int (l5_115 + (1 : Int32)))] h0 dX4_addEntries_115 rfl (by decide) rfl rfl (n := 118) rfl ?_
      refine zr_goto (tgt := 25) h0 dX4_addEntries_118 (by decide) ?_
      exact hL25 (l5_115 + (1 : Int32), S_115)
    unfold fX4_addEntries_B25
    refine zr_iload h0 dX4_addEntries_25 rfl (n := 27) rfl ?_
    refine zr_aload_n h0 dX4_addEntries_27 rfl (n := 28) rfl ?_
    refine zr_getR C25 hC25 h0 zcX4 (k := 0) (by decide) zw_408 dX4_addEntries_28 (n := 31) rfl (fun v31 => ?_)
    refine zr_getI C25 hC25 h0 zcX0 (k := 1) (by decide) zw_233 dX4_addEntries_31 (n := 34) rfl (fun v32 => ?_)
    refine zr_icmp_ge C25 (tgt := 121) h0 dX4_addEntries_34 (by decide) (n := 37) rfl ?_ ?_
    · refine zr_ex hX25 ?_
      refine zv_sub (lv' := [(0, .ref a0), (1, .int a1), (2, .ref a2), (3, .int t2.1)]) ?_ (zsub_of [0, 1, 2, 3] rfl)
      exact J121 t2.1 t25.2
    · refine zr_iload h0 dX4_addEntries_37 rfl (n := 39) rfl ?_
      refine zr_if_eq C25 (tgt := 121) h0 dX4_addEntries_39 (by decide) (n := 42) rfl ?_ ?_
      · refine zr_ex hX25 ?_
        refine zv_sub (lv' := [(0, .ref a0), (1, .int a1), (2, .ref a2), (3, .int t2.1)]) ?_ (zsub_of [0, 1, 2, 3] rfl)
        exact J121 t2.1 t25.2
      · refine zr_iload h0 dX4_addEntries_42 rfl (n := 44) rfl ?_
        refine zr_aload_n h0 dX4_addEntries_44 rfl (n := 45) rfl ?_
        refine zr_iload_n h0 dX4_addEntries_45 rfl (n := 46) rfl ?_
        refine zr_iconst (1 : Int32) h0 (by decide) dX4_addEntries_46 (n := 47) rfl ?_
        refine zr_iload h0 dX4_addEntries_47 rfl (n := 49) rfl ?_
        refine zr_cRI C25 hC25 0 0 (fun x hx => zk_V h0 zcX4 (zcl_ex hx) (fun l D z0 => kX4_number l D z0 a0 a1 (1 : Int32) t25.1 t25.2 x (zcl_of hx)) zw_709 zw_711 zs_26 zw_12 zw_712 rfl zyX4_number (As := [.int a1, .int (1 : Int32), .int t25.1]) (st := [.int x30]) rfl (by decide) rfl (Nat.le_of_ble_eq_true rfl) (by decide) dX4_addEntries_49) rfl rfl (n := 52) rfl (fun x33 => ?_)
        refine zr_imul h0 dX4_addEntries_52 (n := 53) rfl ?_
        refine zr_istore [(0, .ref a0), (1, .int a1), (2, .ref a2), (3, .int t2.1), (4, .int x30), (5, .int t25.1), (6, .int (x30 * x33))] h0 dX4_addEntries_53 (by decide) rfl (n := 55) rfl ?_
        refine zr_iconst (0 : Int32) h0 (by decide) dX4_addEntries_55 (n := 56) rfl ?_
        refine zr_istore [(0, .ref a0), (1, .int a1), (2, .ref a2), (3, .int t2.1), (4, .int x30), (5, .int t25.1), (6, .int (x30 * x33)), (7, .int (0 : Int32))] h0 dX4_addEntries_56 (by decide) rfl (n := 58) rfl ?_
        refine zr_loop hC25 (fX4_addEntries_B58 a0 a1 a2 t2.1 x30 t25.1 (x30 * x33)) (fun y => [(0, .ref a0), (1, .int a1), (2, .ref a2), (3, .int t2.1), (4, .int x30), (5, .int t25.1), (6, .int (x30 * x33)), (7, .int y.1)]) (fun y => y.2) zF ((0 : Int32), t25.2) (fun C58 hC58 hX58 hL58 t58 => ?_)
        unfold fX4_addEntries_B58
        refine zr_iload h0 dX4_addEntries_58 rfl (n := 60) rfl ?_
        refine zr_aload_n h0 dX4_addEntries_60 rfl (n := 61) rfl ?_
        refine zr_getR C58 hC58 h0 zcX4 (k := 0) (by decide) zw_408 dX4_addEntries_61 (n := 64) rfl (fun v34 => ?_)
        refine zr_getI C58 hC58 h0 zcX0 (k := 2) (by decide) zw_237 dX4_addEntries_64 (n := 67) rfl (fun v35 => ?_)
        refine zr_icmp_ge C58 (tgt := 115) h0 dX4_addEntries_67 (by decide) (n := 70) rfl ?_ ?_
        · refine zr_ex hX58 ?_
          refine zv_sub (lv' := [(0, .ref a0), (1, .int a1), (2, .ref a2), (3, .int t2.1), (4, .int x30), (5, .int t25.1)]) ?_ (zsub_of [0, 1, 2, 3, 4, 5] rfl)
          exact J115 t25.1 t58.2
        · refine zr_iload h0 dX4_addEntries_70 rfl (n := 72) rfl ?_
          refine zr_if_eq C58 (tgt := 115) h0 dX4_addEntries_72 (by decide) (n := 75) rfl ?_ ?_
          · refine zr_ex hX58 ?_
            refine zv_sub (lv' := [(0, .ref a0), (1, .int a1), (2, .ref a2), (3, .int t2.1), (4, .int x30), (5, .int t25.1)]) ?_ (zsub_of [0, 1, 2, 3, 4, 5] rfl)
            exact J115 t25.1 t58.2
          · refine zr_iload_n h0 dX4_addEntries_75 rfl (n := 76) rfl ?_
            refine zr_iload h0 dX4_addEntries_76 rfl (n := 78) rfl ?_
            refine zr_iload h0 dX4_addEntries_78 rfl (n := 80) rfl ?_
            refine zr_cRI C58 hC58 0 0 (fun x hx => zk_S h0 (fun l D z0 => kX0_indexOf l D z0 t2.1 t25.1 t58.1 t58.2 x hx) zw_807 zw_266 zw_10 zw_267 zyX0_indexOf (As := [.int t2.1, .int t25.1, .int t58.1]) (st := []) rfl (by decide) rfl (Nat.le_of_ble_eq_true rfl) (by decide) dX4_addEntries_80) rfl rfl (n := 83) rfl (fun x36 => ?_)
            refine zr_istore [(0, .ref a0), (1, .int a1), (2, .ref a2), (3, .int t2.1), (4, .int x30), (5, .int t25.1), (6, .int (x30 * x33)), (7, .int t58.1), (8, .int x36)] h0 dX4_addEntries_83 (by decide) rfl (n := 85) rfl ?_
            refine zr_aload_n h0 dX4_addEntries_85 rfl (n := 86) rfl ?_
            refine zr_iload h0 dX4_addEntries_86 rfl (n := 88) rfl ?_
            refine zr_aload_n h0 dX4_addEntries_88 rfl (n := 89) rfl ?_
            refine zr_iload h0 dX4_addEntries_89 rfl (n := 91) rfl ?_
            refine zr_cRI C58 hC58 0 0 (fun x hx => zk_SN (host := "Bilinearium") h0 (fun l D z0 => kX5_get l D z0 a2 x36 t58.2 x hx) (by decide +kernel) zw_329 zw_1 zw_330 zyX5_get (As := [.ref a2, .int x36]) (st := [.int x36, .ref a2]) rfl (by decide) rfl (Nat.le_of_ble_eq_true rfl) (by decide) dX4_addEntries_91) rfl rfl (n := 94) rfl (fun x37 => ?_)
            refine zr_iload h0 dX4_addEntries_94 rfl (n := 96) rfl ?_
            refine zr_aload_n h0 dX4_addEntries_96 rfl (n := 97) rfl ?_
            refine zr_iload_n h0 dX4_addEntries_97 rfl (n := 98) rfl ?_
            refine zr_iconst (2 : Int32) h0 (by decide) dX4_addEntries_98 (n := 99) rfl ?_
            refine zr_iload h0 dX4_addEntries_99 rfl (n := 101) rfl ?_
            refine zr_cRI C58 hC58 0 0 (fun x hx => zk_V h0 zcX4 (zcl_ex hx) (fun l D z0 => kX4_number l D z0 a0 a1 (2 : Int32) t58.1 t58.2 x (zcl_of hx)) zw_709 zw_711 zs_26 zw_12 zw_712 rfl zyX4_number (As := [.int a1, .int (2 : Int32), .int t58.1]) (st := [.int (x30 * x33), .int x37, .int x36, .ref a2]) rfl (by decide) rfl (Nat.le_of_ble_eq_true rfl) (by decide) dX4_addEntries_101) rfl rfl (n := 104) rfl (fun x38 => ?_)
            refine zr_imul h0 dX4_addEntries_104 (n := 105) rfl ?_
            refine zr_iadd h0 dX4_addEntries_105 (n := 106) rfl ?_
            refine zr_cMV C58 hC58 0 0 (fun x hx => zk_SN (host := "Bilinearium") h0 (fun l D z0 => kX5_put l D z0 a2 x36 (x37 + ((x30 * x33) * x38)) t58.2 x hx) (by decide +kernel) zw_269 zw_1 zw_270 zyX5_put (As := [.ref a2, .int x36, .int (x37 + ((x30 * x33) * x38))]) (st := []) rfl (by decide) rfl (Nat.le_of_ble_eq_true rfl) (by decide) dX4_addEntries_106) rfl rfl (n := 109) rfl (fun x39 => ?_)
            refine zr_iinc (1 : Int32) [(0, .ref a0), (1, .int a1), (2, .ref a2), (3, .int t2.1), (4, .int x30), (5, .int t25.1), (6, .int (x30 * x33)), (7, .int (t58.1 + (1 : Int32))), (8, .int x36)] h0 dX4_addEntries_109 rfl (by decide) rfl rfl (n := 112) rfl ?_
            refine zr_goto (tgt := 58) h0 dX4_addEntries_112 (by decide) ?_
            refine zv_sub (lv' := [(0, .ref a0), (1, .int a1), (2, .ref a2), (3, .int t2.1), (4, .int x30), (5, .int t25.1), (6, .int (x30 * x33)), (7, .int (t58.1 + (1 : Int32)))]) ?_ (zsub_of [0, 1, 2, 3, 4, 5, 6, 7] rfl)
            exact hL58 (t58.1 + (1 : Int32), x39)
theorem kX4_addEntries (l : Launch) (D : ZD) (z0 : Nat) (a0 : Nat) (a1 : Int32) (a2 : Nat) (S : ZS) (x : ZS) (hf : fX4_addEntries a0 a1 a2 S = some x) : zMet l D z0 yX4_addEntries cX4_addEntries 9 none rmX4_addEntries [.ref a0, .int a1, .ref a2] S none x :=
  zMet_of (by decide) (Nat.le_of_ble_eq_true rfl) (fun G h0 hini hE => wX4_addEntries a0 a1 a2 S h0 (fun o => o = some x) (fun h => nomatch h) (fun S1 h => by cases h; exact hE)) hf
theorem dX4_countWrongPlaces_0 : decode cX4_countWrongPlaces 0 = .ok (.iconst 0, 1) := by decide +kernel
theorem dX4_countWrongPlaces_1 : decode cX4_countWrongPlaces 1 = .ok (.istore_n 2, 1) := by decide +kernel
theorem dX4_countWrongPlaces_2 : decode cX4_countWrongPlaces 2 = .ok (.iload_n 2, 1) := by decide +kernel
theorem dX4_countWrongPlaces_3 : decode cX4_countWrongPlaces 3 = .ok (.bipush 64, 2) := by decide +kernel
theorem dX4_countWrongPlaces_5 : decode cX4_countWrongPlaces 5 = .ok (.if_icmp .ge 15, 3) := by decide +kernel
theorem dX4_countWrongPlaces_8 : decode cX4_countWrongPlaces 8 = .ok (.aload_n 1, 1) := by decide +kernel
theorem dX4_countWrongPlaces_9 : decode cX4_countWrongPlaces 9 = .ok (.iload_n 2, 1) := by decide +kernel
theorem dX4_countWrongPlaces_10 : decode cX4_countWrongPlaces 10 = .ok (.iconst 0, 1) := by decide +kernel
theorem dX4_countWrongPlaces_11 : decode cX4_countWrongPlaces 11 = .ok (.invokestatic 34, 3) := by decide +kernel
theorem dX4_countWrongPlaces_14 : decode cX4_countWrongPlaces 14 = .ok (.iinc 2 1, 3) := by decide +kernel
theorem dX4_countWrongPlaces_17 : decode cX4_countWrongPlaces 17 = .ok (.goto (-15), 3) := by decide +kernel
theorem dX4_countWrongPlaces_20 : decode cX4_countWrongPlaces 20 = .ok (.iconst 0, 1) := by decide +kernel
theorem dX4_countWrongPlaces_21 : decode cX4_countWrongPlaces 21 = .ok (.istore_n 2, 1) := by decide +kernel
theorem dX4_countWrongPlaces_22 : decode cX4_countWrongPlaces 22 = .ok (.iload_n 2, 1) := by decide +kernel
theorem dX4_countWrongPlaces_23 : decode cX4_countWrongPlaces 23 = .ok (.aload_n 0, 1) := by decide +kernel
theorem dX4_countWrongPlaces_24 : decode cX4_countWrongPlaces 24 = .ok (.getfield 23, 3) := by decide +kernel
theorem dX4_countWrongPlaces_27 : decode cX4_countWrongPlaces 27 = .ok (.if_icmp .ge 15, 3) := by decide +kernel
theorem dX4_countWrongPlaces_30 : decode cX4_countWrongPlaces 30 = .ok (.aload_n 0, 1) := by decide +kernel
theorem dX4_countWrongPlaces_31 : decode cX4_countWrongPlaces 31 = .ok (.iload_n 2, 1) := by decide +kernel
theorem dX4_countWrongPlaces_32 : decode cX4_countWrongPlaces 32 = .ok (.aload_n 1, 1) := by decide +kernel
theorem dX4_countWrongPlaces_33 : decode cX4_countWrongPlaces 33 = .ok (.invokevirtual 121, 3) := by decide +kernel
theorem dX4_countWrongPlaces_36 : decode cX4_countWrongPlaces 36 = .ok (.iinc 2 1, 3) := by decide +kernel
theorem dX4_countWrongPlaces_39 : decode cX4_countWrongPlaces 39 = .ok (.goto (-17), 3) := by decide +kernel
theorem dX4_countWrongPlaces_42 : decode cX4_countWrongPlaces 42 = .ok (.iconst 0, 1) := by decide +kernel
theorem dX4_countWrongPlaces_43 : decode cX4_countWrongPlaces 43 = .ok (.istore_n 2, 1) := by decide +kernel
theorem dX4_countWrongPlaces_44 : decode cX4_countWrongPlaces 44 = .ok (.iconst 0, 1) := by decide +kernel
theorem dX4_countWrongPlaces_45 : decode cX4_countWrongPlaces 45 = .ok (.istore_n 3, 1) := by decide +kernel
theorem dX4_countWrongPlaces_46 : decode cX4_countWrongPlaces 46 = .ok (.iload_n 3, 1) := by decide +kernel
theorem dX4_countWrongPlaces_47 : decode cX4_countWrongPlaces 47 = .ok (.bipush 64, 2) := by decide +kernel
theorem dX4_countWrongPlaces_49 : decode cX4_countWrongPlaces 49 = .ok (.if_icmp .ge 43, 3) := by decide +kernel
theorem dX4_countWrongPlaces_52 : decode cX4_countWrongPlaces 52 = .ok (.iload_n 2, 1) := by decide +kernel
theorem dX4_countWrongPlaces_53 : decode cX4_countWrongPlaces 53 = .ok (.aload_n 1, 1) := by decide +kernel
theorem dX4_countWrongPlaces_54 : decode cX4_countWrongPlaces 54 = .ok (.iload_n 3, 1) := by decide +kernel
theorem dX4_countWrongPlaces_55 : decode cX4_countWrongPlaces 55 = .ok (.invokestatic 26, 3) := by decide +kernel
theorem dX4_countWrongPlaces_58 : decode cX4_countWrongPlaces 58 = .ok (.aload_n 0, 1) := by decide +kernel
theorem dX4_countWrongPlaces_59 : decode cX4_countWrongPlaces 59 = .ok (.getfield 15, 3) := by decide +kernel
theorem dX4_countWrongPlaces_62 : decode cX4_countWrongPlaces 62 = .ok (.invokestatic 103, 3) := by decide +kernel
theorem dX4_countWrongPlaces_65 : decode cX4_countWrongPlaces 65 = .ok (.aload_n 0, 1) := by decide +kernel
theorem dX4_countWrongPlaces_66 : decode cX4_countWrongPlaces 66 = .ok (.getfield 11, 3) := by decide +kernel
theorem dX4_countWrongPlaces_69 : decode cX4_countWrongPlaces 69 = .ok (.getfield 125, 3) := by decide +kernel
theorem dX4_countWrongPlaces_72 : decode cX4_countWrongPlaces 72 = .ok (.iload_n 3, 1) := by decide +kernel
theorem dX4_countWrongPlaces_73 : decode cX4_countWrongPlaces 73 = .ok (.invokestatic 26, 3) := by decide +kernel
theorem dX4_countWrongPlaces_76 : decode cX4_countWrongPlaces 76 = .ok (.if_icmp .eq 7, 3) := by decide +kernel
theorem dX4_countWrongPlaces_79 : decode cX4_countWrongPlaces 79 = .ok (.iconst 1, 1) := by decide +kernel
theorem dX4_countWrongPlaces_80 : decode cX4_countWrongPlaces 80 = .ok (.goto 4, 3) := by decide +kernel
theorem dX4_countWrongPlaces_83 : decode cX4_countWrongPlaces 83 = .ok (.iconst 0, 1) := by decide +kernel
theorem dX4_countWrongPlaces_84 : decode cX4_countWrongPlaces 84 = .ok (.iadd, 1) := by decide +kernel
theorem dX4_countWrongPlaces_85 : decode cX4_countWrongPlaces 85 = .ok (.istore_n 2, 1) := by decide +kernel
theorem dX4_countWrongPlaces_86 : decode cX4_countWrongPlaces 86 = .ok (.iinc 3 1, 3) := by decide +kernel
theorem dX4_countWrongPlaces_89 : decode cX4_countWrongPlaces 89 = .ok (.goto (-43), 3) := by decide +kernel
theorem dX4_countWrongPlaces_92 : decode cX4_countWrongPlaces 92 = .ok (.iload_n 2, 1) := by decide +kernel
theorem dX4_countWrongPlaces_93 : decode cX4_countWrongPlaces 93 = .ok (.ireturn, 1) := by decide +kernel
abbrev rmX4_countWrongPlaces : Room := { frames := 5, cells := 0, slots := 0, locals := 114 }
theorem zyX4_countWrongPlaces : zyOK yX4_countWrongPlaces 1 := ⟨by decide +kernel, by decide +kernel, by decide +kernel⟩
set_option maxHeartbeats 4000000 in
set_option maxRecDepth 100000 in
theorem wX4_countWrongPlaces {G : ZG} (a0 : Nat) (a1 : Nat) (S : ZS) (h0 : zFix G cX4_countWrongPlaces RX4 4 (some .int) rmX4_countWrongPlaces) (C : Option (Int32 × ZS) → Prop) (hC : ¬ C none) (hE : ∀ (v : Int32) (S1 : ZS), C (some (v, S1)) → zEnd G (some (.int v)) S1 rmX4_countWrongPlaces) : zV G 4 S 0 0 0 [(0, .ref a0), (1, .ref a1)] [] (C (fX4_countWrongPlaces a0 a1 S)) := by
  unfold fX4_countWrongPlaces
  refine zr_iconst (0 : Int32) h0 (by decide) dX4_countWrongPlaces_0 (n := 1) rfl ?_
  refine zr_istore_n [(0, .ref a0), (1, .ref a1), (2, .int (0 : Int32))] h0 dX4_countWrongPlaces_1 (by decide) rfl (n := 2) rfl ?_
  refine zr_loop hC (fX4_countWrongPlaces_B2 a0 a1) (fun y => [(0, .ref a0), (1, .ref a1), (2, .int y.1)]) (fun y => y.2) zF ((0 : Int32), S) (fun C2 hC2 hX2 hL2 t2 => ?_)
  unfold fX4_countWrongPlaces_B2
  refine zr_iload_n h0 dX4_countWrongPlaces_2 rfl (n := 3) rfl ?_
  refine zr_bipush (64 : Int32) h0 (by decide) dX4_countWrongPlaces_3 (n := 5) rfl ?_
  refine zr_icmp_ge C2 (tgt := 20) h0 dX4_countWrongPlaces_5 (by decide) (n := 8) rfl ?_ ?_
  · refine zr_ex hX2 ?_
    refine zv_sub (lv' := [(0, .ref a0), (1, .ref a1)]) ?_ (zsub_of [0, 1] rfl)
    refine zr_iconst (0 : Int32) h0 (by decide) dX4_countWrongPlaces_20 (n := 21) rfl ?_
    refine zr_istore_n [(0, .ref a0), (1, .ref a1), (2, .int (0 : Int32))] h0 dX4_countWrongPlaces_21 (by decide) rfl (n := 22) rfl ?_
    refine zr_loop hC (fX4_countWrongPlaces_B22 a0 a1) (fun y => [(0, .ref a0), (1, .ref a1), (2, .int y.1)]) (fun y => y.2) zF ((0 : Int32), t2.2) (fun C22 hC22 hX22 hL22 t22 => ?_)
    unfold fX4_countWrongPlaces_B22
    refine zr_iload_n h0 dX4_countWrongPlaces_22 rfl (n := 23) rfl ?_
    refine zr_aload_n h0 dX4_countWrongPlaces_23 rfl (n := 24) rfl ?_
    refine zr_getI C22 hC22 h0 zcX4 (k := 3) (by decide) zw_412 dX4_countWrongPlaces_24 (n := 27) rfl (fun v24 => ?_)
    refine zr_icmp_ge C22 (tgt := 42) h0 dX4_countWrongPlaces_27 (by decide) (n := 30) rfl ?_ ?_
    · refine zr_ex hX22 ?_
      refine zv_sub (lv' := [(0, .ref a0), (1, .ref a1)]) ?_ (zsub_of [0, 1] rfl)
      refine zr_iconst (0 : Int32) h0 (by decide) dX4_countWrongPlaces_42 (n := 43) rfl ?_
      refine zr_istore_n [(0, .ref a0), (1, .ref a1), (2, .int (0 : Int32))] h0 dX4_countWrongPlaces_43 (by decide) rfl (n := 44) rfl ?_
      refine zr_iconst (0 : Int32) h0 (by decide) dX4_countWrongPlaces_44 (n := 45) rfl ?_
      refine zr_istore_n [(0, .ref a0), (1, .ref a1), (2, .int (0 : Int32)), (3, .int (0 : Int32))] h0 dX4_countWrongPlaces_45 (by decide) rfl (n := 46) rfl ?_
      refine zr_loop hC (fX4_countWrongPlaces_B46 a0 a1 t22.2) (fun y => [(0, .ref a0), (1, .ref a1), (2, .int y.1), (3, .int y.2)]) (fun y => t22.2) zF ((0 : Int32), (0 : Int32)) (fun C46 hC46 hX46 hL46 t46 => ?_)
      have J84 : ∀ (l3_84 : Int32) (s0_84 : Int32) (s1_84 : Int32), zV G 4 t22.2 0 0 84 [(0, .ref a0), (1, .ref a1), (3, .int l3_84)] [.int s1_84, .int s0_84] (C46 (fX4_countWrongPlaces_J84 a0 a1 l3_84 s0_84 s1_84 t22.2)) := by
        intro l3_84 s0_84 s1_84
        unfold fX4_countWrongPlaces_J84
        refine zr_iadd h0 dX4_countWrongPlaces_84 (n := 85) rfl ?_
        refine zr_istore_n [(0, .ref a0), (1, .ref a1), (2, .int (s0_84 + s1_84)), (3, .int l3_84)] h0 dX4_countWrongPlaces_85 (by decide) rfl (n := 86) rfl ?_
        refine zr_iinc (1 : Int32) [(0, .ref a0), (1, .ref a1), (2, .int (s0_84 + s1_84)), (3, .int (l3_84 + (1 : Int32)))] h0 dX4_countWrongPlaces_86 rfl (by decide) rfl rfl (n := 89) rfl ?_
        refine zr_goto (tgt := 46) h0 dX4_countWrongPlaces_89 (by decide) ?_
        exact hL46 (s0_84 + s1_84, l3_84 + (1 : Int32))
      unfold fX4_countWrongPlaces_B46
      refine zr_iload_n h0 dX4_countWrongPlaces_46 rfl (n := 47) rfl ?_
      refine zr_bipush (64 : Int32) h0 (by decide) dX4_countWrongPlaces_47 (n := 49) rfl ?_
      refine zr_icmp_ge C46 (tgt := 92) h0 dX4_countWrongPlaces_49 (by decide) (n := 52) rfl ?_ ?_
      · refine zr_ex hX46 ?_
        refine zv_sub (lv' := [(2, .int t46.1)]) ?_ (zsub_of [2] rfl)
        refine zr_iload_n h0 dX4_countWrongPlaces_92 rfl (n := 93) rfl ?_
        exact zr_iret h0 rfl dX4_countWrongPlaces_93 (hE _ _) (by decide) (by decide)
      · refine zr_iload_n h0 dX4_countWrongPlaces_52 rfl (n := 53) rfl ?_
        refine zr_aload_n h0 dX4_countWrongPlaces_53 rfl (n := 54) rfl ?_
        refine zr_iload_n h0 dX4_countWrongPlaces_54 rfl (n := 55) rfl ?_
        refine zr_cRI C46 hC46 0 0 (fun x hx => zk_SN (host := "Bilinearium") h0 (fun l D z0 => kX5_get l D z0 a1 t46.2 t22.2 x hx) (by decide +kernel) zw_329 zw_1 zw_330 zyX5_get (As := [.ref a1, .int t46.2]) (st := [.int t46.1]) rfl (by decide) rfl (Nat.le_of_ble_eq_true rfl) (by decide) dX4_countWrongPlaces_55) rfl rfl (n := 58) rfl (fun x25 => ?_)
        refine zr_aload_n h0 dX4_countWrongPlaces_58 rfl (n := 59) rfl ?_
        refine zr_getI C46 hC46 h0 zcX4 (k := 1) (by decide) zw_410 dX4_countWrongPlaces_59 (n := 62) rfl (fun v26 => ?_)
        refine zr_cRI C46 hC46 0 0 (fun x hx => zk_SN (host := "Bilinearium") h0 (fun l D z0 => kX5_remainder l D z0 x25 v26 t22.2 x hx) (by decide +kernel) zw_286 zw_1 zw_287 zyX5_remainder (As := [.int x25, .int v26]) (st := [.int t46.1]) rfl (by decide) rfl (Nat.le_of_ble_eq_true rfl) (by decide) dX4_countWrongPlaces_62) rfl rfl (n := 65) rfl (fun x27 => ?_)
        refine zr_aload_n h0 dX4_countWrongPlaces_65 rfl (n := 66) rfl ?_
        refine zr_getR C46 hC46 h0 zcX4 (k := 0) (by decide) zw_408 dX4_countWrongPlaces_66 (n := 69) rfl (fun v28 => ?_)
        refine zr_getR C46 hC46 h0 zcX0 (k := 3) (by decide) zw_240 dX4_countWrongPlaces_69 (n := 72) rfl (fun v29 => ?_)
        refine zr_iload_n h0 dX4_countWrongPlaces_72 rfl (n := 73) rfl ?_
        refine zr_cRI C46 hC46 0 0 (fun x hx => zk_SN (host := "Bilinearium") h0 (fun l D z0 => kX5_get l D z0 v29 t46.2 t22.2 x hx) (by decide +kernel) zw_329 zw_1 zw_330 zyX5_get (As := [.ref v29, .int t46.2]) (st := [.int x27, .int t46.1]) rfl (by decide) rfl (Nat.le_of_ble_eq_true rfl) (by decide) dX4_countWrongPlaces_73) rfl rfl (n := 76) rfl (fun x30 => ?_)
        refine zr_icmp_eq C46 (tgt := 83) h0 dX4_countWrongPlaces_76 (by decide) (n := 79) rfl ?_ ?_
        · refine zv_sub (lv' := [(0, .ref a0), (1, .ref a1), (3, .int t46.2)]) ?_ (zsub_of [0, 1, 3] rfl)
          refine zr_iconst (0 : Int32) h0 (by decide) dX4_countWrongPlaces_83 (n := 84) rfl ?_
          exact J84 t46.2 t46.1 (0 : Int32)
        · refine zv_sub (lv' := [(0, .ref a0), (1, .ref a1), (3, .int t46.2)]) ?_ (zsub_of [0, 1, 3] rfl)
          refine zr_iconst (1 : Int32) h0 (by decide) dX4_countWrongPlaces_79 (n := 80) rfl ?_
          refine zr_goto (tgt := 84) h0 dX4_countWrongPlaces_80 (by decide) ?_
          exact J84 t46.2 t46.1 (1 : Int32)
    · refine zr_aload_n h0 dX4_countWrongPlaces_30 rfl (n := 31) rfl ?_
      refine zr_iload_n h0 dX4_countWrongPlaces_31 rfl (n := 32) rfl ?_
      refine zr_aload_n h0 dX4_countWrongPlaces_32 rfl (n := 33) rfl ?_
      refine zr_cMV C22 hC22 0 0 (fun x hx => zk_V h0 zcX4 (zcl_ex hx) (fun l D z0 => kX4_addEntries l D z0 a0 t22.1 a1 t22.2 x (zcl_of hx)) zw_803 zw_805 zs_32 zw_12 zw_806 rfl zyX4_addEntries (As := [.int t22.1, .ref a1]) (st := []) rfl (by decide) rfl (Nat.le_of_ble_eq_true rfl) (by decide) dX4_countWrongPlaces_33) rfl rfl (n := 36) rfl (fun x31 => ?_)
      refine zr_iinc (1 : Int32) [(0, .ref a0), (1, .ref a1), (2, .int (t22.1 + (1 : Int32)))] h0 dX4_countWrongPlaces_36 rfl (by decide) rfl rfl (n := 39) rfl ?_
      refine zr_goto (tgt := 22) h0 dX4_countWrongPlaces_39 (by decide) ?_
      exact hL22 (t22.1 + (1 : Int32), x31)
  · refine zr_aload_n h0 dX4_countWrongPlaces_8 rfl (n := 9) rfl ?_
    refine zr_iload_n h0 dX4_countWrongPlaces_9 rfl (n := 10) rfl ?_
    refine zr_iconst (0 : Int32) h0 (by decide) dX4_countWrongPlaces_10 (n := 11) rfl ?_
    refine zr_cMV C2 hC2 0 0 (fun x hx => zk_SN (host := "Bilinearium") h0 (fun l D z0 => kX5_put l D z0 a1 t2.1 (0 : Int32) t2.2 x hx) (by decide +kernel) zw_269 zw_1 zw_270 zyX5_put (As := [.ref a1, .int t2.1, .int (0 : Int32)]) (st := []) rfl (by decide) rfl (Nat.le_of_ble_eq_true rfl) (by decide) dX4_countWrongPlaces_11) rfl rfl (n := 14) rfl (fun x32 => ?_)
    refine zr_iinc (1 : Int32) [(0, .ref a0), (1, .ref a1), (2, .int (t2.1 + (1 : Int32)))] h0 dX4_countWrongPlaces_14 rfl (by decide) rfl rfl (n := 17) rfl ?_
    refine zr_goto (tgt := 2) h0 dX4_countWrongPlaces_17 (by decide) ?_
    exact hL2 (t2.1 + (1 : Int32), x32)
theorem kX4_countWrongPlaces (l : Launch) (D : ZD) (z0 : Nat) (a0 : Nat) (a1 : Nat) (S : ZS) (x : Int32 × ZS) (hf : fX4_countWrongPlaces a0 a1 S = some x) : zMet l D z0 yX4_countWrongPlaces cX4_countWrongPlaces 4 (some .int) rmX4_countWrongPlaces [.ref a0, .ref a1] S (some (.int x.1)) x.2 :=
  zMet_of (by decide) (Nat.le_of_ble_eq_true rfl) (fun G h0 hini hE => wX4_countWrongPlaces a0 a1 S h0 (fun o => o = some x) (fun h => nomatch h) (fun v S1 h => by cases h; exact hE)) hf
theorem dX3_clear_0 : decode cX3_clear 0 = .ok (.aload_n 0, 1) := by decide +kernel
theorem dX3_clear_1 : decode cX3_clear 1 = .ok (.iconst 0, 1) := by decide +kernel
theorem dX3_clear_2 : decode cX3_clear 2 = .ok (.putfield 15, 3) := by decide +kernel
theorem dX3_clear_5 : decode cX3_clear 5 = .ok (.return_, 1) := by decide +kernel
abbrev rmX3_clear : Room := { frames := 1, cells := 0, slots := 0, locals := 20 }
theorem zyX3_clear : zyOK yX3_clear 0 := ⟨by decide +kernel, by decide +kernel, by decide +kernel⟩
set_option maxHeartbeats 4000000 in
set_option maxRecDepth 100000 in
theorem wX3_clear {G : ZG} (a0 : Nat) (S : ZS) (h0 : zFix G cX3_clear RX3 1 none rmX3_clear) (C : Option ZS → Prop) (hC : ¬ C none) (hE : ∀ S1 : ZS, C (some S1) → zEnd G none S1 rmX3_clear) : zV G 1 S 0 0 0 [(0, .ref a0)] [] (C (fX3_clear a0 S)) := by
  unfold fX3_clear
  refine zr_aload_n h0 dX3_clear_0 rfl (n := 1) rfl ?_
  refine zr_iconst (0 : Int32) h0 (by decide) dX3_clear_1 (n := 2) rfl ?_
  refine zr_putF C hC h0 zcX3 (k := 1) (by decide) zw_68 rfl rfl rfl dX3_clear_2 (n := 5) rfl (fun S1 => ?_)
  exact zr_vret h0 rfl dX3_clear_5 (fun h => hE _ h) (by decide) (by decide)
theorem kX3_clear (l : Launch) (D : ZD) (z0 : Nat) (a0 : Nat) (S : ZS) (x : ZS) (hf : fX3_clear a0 S = some x) : zMet l D z0 yX3_clear cX3_clear 1 none rmX3_clear [.ref a0] S none x :=
  zMet_of (by decide) (Nat.le_of_ble_eq_true rfl) (fun G h0 hini hE => wX3_clear a0 S h0 (fun o => o = some x) (fun h => nomatch h) (fun S1 h => by cases h; exact hE)) hf
theorem dX4_filledPlaces_0 : decode cX4_filledPlaces 0 = .ok (.lconst 0, 1) := by decide +kernel
theorem dX4_filledPlaces_1 : decode cX4_filledPlaces 1 = .ok (.lstore_n 3, 1) := by decide +kernel
theorem dX4_filledPlaces_2 : decode cX4_filledPlaces 2 = .ok (.iconst 0, 1) := by decide +kernel
theorem dX4_filledPlaces_3 : decode cX4_filledPlaces 3 = .ok (.istore 5, 2) := by decide +kernel
theorem dX4_filledPlaces_5 : decode cX4_filledPlaces 5 = .ok (.iload 5, 2) := by decide +kernel
theorem dX4_filledPlaces_7 : decode cX4_filledPlaces 7 = .ok (.aload_n 0, 1) := by decide +kernel
theorem dX4_filledPlaces_8 : decode cX4_filledPlaces 8 = .ok (.getfield 11, 3) := by decide +kernel
theorem dX4_filledPlaces_11 : decode cX4_filledPlaces 11 = .ok (.iload_n 2, 1) := by decide +kernel
theorem dX4_filledPlaces_12 : decode cX4_filledPlaces 12 = .ok (.invokevirtual 42, 3) := by decide +kernel
theorem dX4_filledPlaces_15 : decode cX4_filledPlaces 15 = .ok (.if_icmp .ge 31, 3) := by decide +kernel
theorem dX4_filledPlaces_18 : decode cX4_filledPlaces 18 = .ok (.lload_n 3, 1) := by decide +kernel
theorem dX4_filledPlaces_19 : decode cX4_filledPlaces 19 = .ok (.aload_n 0, 1) := by decide +kernel
theorem dX4_filledPlaces_20 : decode cX4_filledPlaces 20 = .ok (.iload_n 1, 1) := by decide +kernel
theorem dX4_filledPlaces_21 : decode cX4_filledPlaces 21 = .ok (.iload_n 2, 1) := by decide +kernel
theorem dX4_filledPlaces_22 : decode cX4_filledPlaces 22 = .ok (.iload 5, 2) := by decide +kernel
theorem dX4_filledPlaces_24 : decode cX4_filledPlaces 24 = .ok (.invokevirtual 128, 3) := by decide +kernel
theorem dX4_filledPlaces_27 : decode cX4_filledPlaces 27 = .ok (.ifCond .eq 10, 3) := by decide +kernel
theorem dX4_filledPlaces_30 : decode cX4_filledPlaces 30 = .ok (.lconst 1, 1) := by decide +kernel
theorem dX4_filledPlaces_31 : decode cX4_filledPlaces 31 = .ok (.iload 5, 2) := by decide +kernel
theorem dX4_filledPlaces_33 : decode cX4_filledPlaces 33 = .ok (.lshl, 1) := by decide +kernel
theorem dX4_filledPlaces_34 : decode cX4_filledPlaces 34 = .ok (.goto 4, 3) := by decide +kernel
theorem dX4_filledPlaces_37 : decode cX4_filledPlaces 37 = .ok (.lconst 0, 1) := by decide +kernel
theorem dX4_filledPlaces_38 : decode cX4_filledPlaces 38 = .ok (.lor, 1) := by decide +kernel
theorem dX4_filledPlaces_39 : decode cX4_filledPlaces 39 = .ok (.lstore_n 3, 1) := by decide +kernel
theorem dX4_filledPlaces_40 : decode cX4_filledPlaces 40 = .ok (.iinc 5 1, 3) := by decide +kernel
theorem dX4_filledPlaces_43 : decode cX4_filledPlaces 43 = .ok (.goto (-38), 3) := by decide +kernel
theorem dX4_filledPlaces_46 : decode cX4_filledPlaces 46 = .ok (.lload_n 3, 1) := by decide +kernel
theorem dX4_filledPlaces_47 : decode cX4_filledPlaces 47 = .ok (.lreturn, 1) := by decide +kernel
abbrev rmX4_filledPlaces : Room := { frames := 4, cells := 0, slots := 0, locals := 86 }
theorem zyX4_filledPlaces : zyOK yX4_filledPlaces 2 := ⟨by decide +kernel, by decide +kernel, by decide +kernel⟩
set_option maxHeartbeats 4000000 in
set_option maxRecDepth 100000 in
theorem wX4_filledPlaces {G : ZG} (a0 : Nat) (a1 : Int32) (a2 : Int32) (S : ZS) (h0 : zFix G cX4_filledPlaces RX4 6 (some .long) rmX4_filledPlaces) (C : Option Int64 → Prop) (hC : ¬ C none) (hE : ∀ v : Int64, C (some v) → zEnd G (some (.long v)) S rmX4_filledPlaces) : zV G 6 S 0 0 0 [(0, .ref a0), (1, .int a1), (2, .int a2)] [] (C (fX4_filledPlaces a0 a1 a2 S)) := by
  unfold fX4_filledPlaces
  refine zr_lconst (0 : Int64) h0 (by decide) dX4_filledPlaces_0 (n := 1) rfl ?_
  refine zr_lstore_n [(0, .ref a0), (1, .int a1), (2, .int a2), (3, .long (0 : Int64))] h0 dX4_filledPlaces_1 (by decide) rfl (n := 2) rfl ?_
  refine zr_iconst (0 : Int32) h0 (by decide) dX4_filledPlaces_2 (n := 3) rfl ?_
  refine zr_istore [(0, .ref a0), (1, .int a1), (2, .int a2), (3, .long (0 : Int64)), (5, .int (0 : Int32))] h0 dX4_filledPlaces_3 (by decide) rfl (n := 5) rfl ?_
  refine zr_loop hC (fX4_filledPlaces_B5 a0 a1 a2 S) (fun y => [(0, .ref a0), (1, .int a1), (2, .int a2), (3, .long y.1), (5, .int y.2)]) (fun y => S) zF ((0 : Int64), (0 : Int32)) (fun C5 hC5 hX5 hL5 t5 => ?_)
  have J38 : ∀ (l5_38 : Int32) (s0_38 : Int64) (s1_38 : Int64), zV G 6 S 0 0 38 [(0, .ref a0), (1, .int a1), (2, .int a2), (5, .int l5_38)] [.long s1_38, .long s0_38] (C5 (fX4_filledPlaces_J38 a0 a1 a2 l5_38 s0_38 s1_38 S)) := by
    intro l5_38 s0_38 s1_38
    unfold fX4_filledPlaces_J38
    refine zr_lor h0 dX4_filledPlaces_38 (n := 39) rfl ?_
    refine zr_lstore_n [(0, .ref a0), (1, .int a1), (2, .int a2), (3, .long (s0_38 ||| s1_38)), (5, .int l5_38)] h0 dX4_filledPlaces_39 (by decide) rfl (n := 40) rfl ?_
    refine zr_iinc (1 : Int32) [(0, .ref a0), (1, .int a1), (2, .int a2), (3, .long (s0_38 ||| s1_38)), (5, .int (l5_38 + (1 : Int32)))] h0 dX4_filledPlaces_40 rfl (by decide) rfl rfl (n := 43) rfl ?_
    refine zr_goto (tgt := 5) h0 dX4_filledPlaces_43 (by decide) ?_
    exact hL5 (s0_38 ||| s1_38, l5_38 + (1 : Int32))
  unfold fX4_filledPlaces_B5
  refine zr_iload h0 dX4_filledPlaces_5 rfl (n := 7) rfl ?_
  refine zr_aload_n h0 dX4_filledPlaces_7 rfl (n := 8) rfl ?_
  refine zr_getR C5 hC5 h0 zcX4 (k := 0) (by decide) zw_408 dX4_filledPlaces_8 (n := 11) rfl (fun v4 => ?_)
  refine zr_iload_n h0 dX4_filledPlaces_11 rfl (n := 12) rfl ?_
  refine zr_cRI C5 hC5 0 0 (fun x hx => zk_V h0 zcX0 (zcl_ex hx) (fun l D z0 => kX0_sizeOf l D z0 v4 a2 S x (zcl_of hx)) zw_501 zw_346 zw_347 zw_10 zw_348 rfl zyX0_sizeOf (As := [.int a2]) (st := [.int t5.2]) rfl (by decide) rfl (Nat.le_of_ble_eq_true rfl) (by decide) dX4_filledPlaces_12) rfl rfl (n := 15) rfl (fun x5 => ?_)
  refine zr_icmp_ge C5 (tgt := 46) h0 dX4_filledPlaces_15 (by decide) (n := 18) rfl ?_ ?_
  · refine zr_ex hX5 ?_
    refine zv_sub (lv' := [(3, .long t5.1)]) ?_ (zsub_of [3] rfl)
    refine zr_lload_n h0 dX4_filledPlaces_46 rfl (n := 47) rfl ?_
    exact zr_lret h0 rfl dX4_filledPlaces_47 (hE _) (by decide) (by decide)
  · refine zr_lload_n h0 dX4_filledPlaces_18 rfl (n := 19) rfl ?_
    refine zr_aload_n h0 dX4_filledPlaces_19 rfl (n := 20) rfl ?_
    refine zr_iload_n h0 dX4_filledPlaces_20 rfl (n := 21) rfl ?_
    refine zr_iload_n h0 dX4_filledPlaces_21 rfl (n := 22) rfl ?_
    refine zr_iload h0 dX4_filledPlaces_22 rfl (n := 24) rfl ?_
    refine zr_cRI C5 hC5 0 0 (fun x hx => zk_V h0 zcX4 (zcl_ex hx) (fun l D z0 => kX4_number l D z0 a0 a1 a2 t5.2 S x (zcl_of hx)) zw_709 zw_711 zs_26 zw_12 zw_712 rfl zyX4_number (As := [.int a1, .int a2, .int t5.2]) (st := [.long t5.1]) rfl (by decide) rfl (Nat.le_of_ble_eq_true rfl) (by decide) dX4_filledPlaces_24) rfl rfl (n := 27) rfl (fun x6 => ?_)
    refine zr_if_eq C5 (tgt := 37) h0 dX4_filledPlaces_27 (by decide) (n := 30) rfl ?_ ?_
    · refine zv_sub (lv' := [(0, .ref a0), (1, .int a1), (2, .int a2), (5, .int t5.2)]) ?_ (zsub_of [0, 1, 2, 4] rfl)
      refine zr_lconst (0 : Int64) h0 (by decide) dX4_filledPlaces_37 (n := 38) rfl ?_
      exact J38 t5.2 t5.1 (0 : Int64)
    · refine zv_sub (lv' := [(0, .ref a0), (1, .int a1), (2, .int a2), (5, .int t5.2)]) ?_ (zsub_of [0, 1, 2, 4] rfl)
      refine zr_lconst (1 : Int64) h0 (by decide) dX4_filledPlaces_30 (n := 31) rfl ?_
      refine zr_iload h0 dX4_filledPlaces_31 rfl (n := 33) rfl ?_
      refine zr_lshl h0 dX4_filledPlaces_33 (n := 34) rfl ?_
      refine zr_goto (tgt := 38) h0 dX4_filledPlaces_34 (by decide) ?_
      exact J38 t5.2 t5.1 ((1 : Int64) <<< ((Int32.toInt64 t5.2) &&& 63))
theorem kX4_filledPlaces (l : Launch) (D : ZD) (z0 : Nat) (a0 : Nat) (a1 : Int32) (a2 : Int32) (S : ZS) (x : Int64) (hf : fX4_filledPlaces a0 a1 a2 S = some x) : zMet l D z0 yX4_filledPlaces cX4_filledPlaces 6 (some .long) rmX4_filledPlaces [.ref a0, .int a1, .int a2] S (some (.long x)) S :=
  zMet_of (by decide) (Nat.le_of_ble_eq_true rfl) (fun G h0 hini hE => wX4_filledPlaces a0 a1 a2 S h0 (fun o => o = some x) (fun h => nomatch h) (fun v h => by cases h; exact hE)) hf
theorem dX3_append_0 : decode cX3_append 0 = .ok (.aload_n 0, 1) := by decide +kernel
theorem dX3_append_1 : decode cX3_append 1 = .ok (.getfield 11, 3) := by decide +kernel
theorem dX3_append_4 : decode cX3_append 4 = .ok (.aload_n 0, 1) := by decide +kernel
theorem dX3_append_5 : decode cX3_append 5 = .ok (.getfield 15, 3) := by decide +kernel
theorem dX3_append_8 : decode cX3_append 8 = .ok (.lload_n 1, 1) := by decide +kernel
theorem dX3_append_9 : decode cX3_append 9 = .ok (.invokestatic 19, 3) := by decide +kernel
theorem dX3_append_12 : decode cX3_append 12 = .ok (.aload_n 0, 1) := by decide +kernel
theorem dX3_append_13 : decode cX3_append 13 = .ok (.dup, 1) := by decide +kernel
theorem dX3_append_14 : decode cX3_append 14 = .ok (.getfield 15, 3) := by decide +kernel
theorem dX3_append_17 : decode cX3_append 17 = .ok (.iconst 1, 1) := by decide +kernel
theorem dX3_append_18 : decode cX3_append 18 = .ok (.iadd, 1) := by decide +kernel
theorem dX3_append_19 : decode cX3_append 19 = .ok (.putfield 15, 3) := by decide +kernel
theorem dX3_append_22 : decode cX3_append 22 = .ok (.return_, 1) := by decide +kernel
abbrev rmX3_append : Room := { frames := 2, cells := 0, slots := 0, locals := 43 }
theorem zyX3_append : zyOK yX3_append 1 := ⟨by decide +kernel, by decide +kernel, by decide +kernel⟩
set_option maxHeartbeats 4000000 in
set_option maxRecDepth 100000 in
theorem wX3_append {G : ZG} (a0 : Nat) (a1 : Int64) (S : ZS) (h0 : zFix G cX3_append RX3 3 none rmX3_append) (C : Option ZS → Prop) (hC : ¬ C none) (hE : ∀ S1 : ZS, C (some S1) → zEnd G none S1 rmX3_append) : zV G 3 S 0 0 0 [(0, .ref a0), (1, .long a1)] [] (C (fX3_append a0 a1 S)) := by
  unfold fX3_append
  refine zr_aload_n h0 dX3_append_0 rfl (n := 1) rfl ?_
  refine zr_getR C hC h0 zcX3 (k := 0) (by decide) zw_67 dX3_append_1 (n := 4) rfl (fun v1 => ?_)
  refine zr_aload_n h0 dX3_append_4 rfl (n := 5) rfl ?_
  refine zr_getI C hC h0 zcX3 (k := 1) (by decide) zw_68 dX3_append_5 (n := 8) rfl (fun v2 => ?_)
  refine zr_lload_n h0 dX3_append_8 rfl (n := 9) rfl ?_
  refine zr_cMV C hC 0 0 (fun x hx => zk_SN (host := "Bilinearium") h0 (fun l D z0 => kX5_putLong l D z0 v1 v2 a1 S x hx) (by decide +kernel) zw_655 zw_1 zw_656 zyX5_putLong (As := [.ref v1, .int v2, .long a1]) (st := []) rfl (by decide) rfl (Nat.le_of_ble_eq_true rfl) (by decide) dX3_append_9) rfl rfl (n := 12) rfl (fun x3 => ?_)
  refine zr_aload_n h0 dX3_append_12 rfl (n := 13) rfl ?_
  refine zr_dup h0 rfl dX3_append_13 (n := 14) rfl ?_
  refine zr_getI C hC h0 zcX3 (k := 1) (by decide) zw_68 dX3_append_14 (n := 17) rfl (fun v4 => ?_)
  refine zr_iconst (1 : Int32) h0 (by decide) dX3_append_17 (n := 18) rfl ?_
  refine zr_iadd h0 dX3_append_18 (n := 19) rfl ?_
  refine zr_putF C hC h0 zcX3 (k := 1) (by decide) zw_68 rfl rfl rfl dX3_append_19 (n := 22) rfl (fun S5 => ?_)
  exact zr_vret h0 rfl dX3_append_22 (fun h => hE _ h) (by decide) (by decide)
theorem kX3_append (l : Launch) (D : ZD) (z0 : Nat) (a0 : Nat) (a1 : Int64) (S : ZS) (x : ZS) (hf : fX3_append a0 a1 S = some x) : zMet l D z0 yX3_append cX3_append 3 none rmX3_append [.ref a0, .long a1] S none x :=
  zMet_of (by decide) (Nat.le_of_ble_eq_true rfl) (fun G h0 hini hE => wX3_append a0 a1 S h0 (fun o => o = some x) (fun h => nomatch h) (fun S1 h => by cases h; exact hE)) hf
theorem dX4_filledProducts_0 : decode cX4_filledProducts 0 = .ok (.lconst 0, 1) := by decide +kernel
theorem dX4_filledProducts_1 : decode cX4_filledProducts 1 = .ok (.lstore_n 3, 1) := by decide +kernel
theorem dX4_filledProducts_2 : decode cX4_filledProducts 2 = .ok (.iconst 0, 1) := by decide +kernel
theorem dX4_filledProducts_3 : decode cX4_filledProducts 3 = .ok (.istore 5, 2) := by decide +kernel
theorem dX4_filledProducts_5 : decode cX4_filledProducts 5 = .ok (.iload 5, 2) := by decide +kernel
theorem dX4_filledProducts_7 : decode cX4_filledProducts 7 = .ok (.aload_n 0, 1) := by decide +kernel
theorem dX4_filledProducts_8 : decode cX4_filledProducts 8 = .ok (.getfield 23, 3) := by decide +kernel
theorem dX4_filledProducts_11 : decode cX4_filledProducts 11 = .ok (.if_icmp .ge 31, 3) := by decide +kernel
theorem dX4_filledProducts_14 : decode cX4_filledProducts 14 = .ok (.lload_n 3, 1) := by decide +kernel
theorem dX4_filledProducts_15 : decode cX4_filledProducts 15 = .ok (.aload_n 0, 1) := by decide +kernel
theorem dX4_filledProducts_16 : decode cX4_filledProducts 16 = .ok (.iload 5, 2) := by decide +kernel
theorem dX4_filledProducts_18 : decode cX4_filledProducts 18 = .ok (.iload_n 1, 1) := by decide +kernel
theorem dX4_filledProducts_19 : decode cX4_filledProducts 19 = .ok (.iload_n 2, 1) := by decide +kernel
theorem dX4_filledProducts_20 : decode cX4_filledProducts 20 = .ok (.invokevirtual 128, 3) := by decide +kernel
theorem dX4_filledProducts_23 : decode cX4_filledProducts 23 = .ok (.ifCond .eq 10, 3) := by decide +kernel
theorem dX4_filledProducts_26 : decode cX4_filledProducts 26 = .ok (.lconst 1, 1) := by decide +kernel
theorem dX4_filledProducts_27 : decode cX4_filledProducts 27 = .ok (.iload 5, 2) := by decide +kernel
theorem dX4_filledProducts_29 : decode cX4_filledProducts 29 = .ok (.lshl, 1) := by decide +kernel
theorem dX4_filledProducts_30 : decode cX4_filledProducts 30 = .ok (.goto 4, 3) := by decide +kernel
theorem dX4_filledProducts_33 : decode cX4_filledProducts 33 = .ok (.lconst 0, 1) := by decide +kernel
theorem dX4_filledProducts_34 : decode cX4_filledProducts 34 = .ok (.lor, 1) := by decide +kernel
theorem dX4_filledProducts_35 : decode cX4_filledProducts 35 = .ok (.lstore_n 3, 1) := by decide +kernel
theorem dX4_filledProducts_36 : decode cX4_filledProducts 36 = .ok (.iinc 5 1, 3) := by decide +kernel
theorem dX4_filledProducts_39 : decode cX4_filledProducts 39 = .ok (.goto (-34), 3) := by decide +kernel
theorem dX4_filledProducts_42 : decode cX4_filledProducts 42 = .ok (.lload_n 3, 1) := by decide +kernel
theorem dX4_filledProducts_43 : decode cX4_filledProducts 43 = .ok (.lreturn, 1) := by decide +kernel
abbrev rmX4_filledProducts : Room := { frames := 4, cells := 0, slots := 0, locals := 86 }
theorem zyX4_filledProducts : zyOK yX4_filledProducts 2 := ⟨by decide +kernel, by decide +kernel, by decide +kernel⟩
set_option maxHeartbeats 4000000 in
set_option maxRecDepth 100000 in
theorem wX4_filledProducts {G : ZG} (a0 : Nat) (a1 : Int32) (a2 : Int32) (S : ZS) (h0 : zFix G cX4_filledProducts RX4 6 (some .long) rmX4_filledProducts) (C : Option Int64 → Prop) (hC : ¬ C none) (hE : ∀ v : Int64, C (some v) → zEnd G (some (.long v)) S rmX4_filledProducts) : zV G 6 S 0 0 0 [(0, .ref a0), (1, .int a1), (2, .int a2)] [] (C (fX4_filledProducts a0 a1 a2 S)) := by
  unfold fX4_filledProducts
  refine zr_lconst (0 : Int64) h0 (by decide) dX4_filledProducts_0 (n := 1) rfl ?_
  refine zr_lstore_n [(0, .ref a0), (1, .int a1), (2, .int a2), (3, .long (0 : Int64))] h0 dX4_filledProducts_1 (by decide) rfl (n := 2) rfl ?_
  refine zr_iconst (0 : Int32) h0 (by decide) dX4_filledProducts_2 (n := 3) rfl ?_
  refine zr_istore [(0, .ref a0), (1, .int a1), (2, .int a2), (3, .long (0 : Int64)), (5, .int (0 : Int32))] h0 dX4_filledProducts_3 (by decide) rfl (n := 5) rfl ?_
  refine zr_loop hC (fX4_filledProducts_B5 a0 a1 a2 S) (fun y => [(0, .ref a0), (1, .int a1), (2, .int a2), (3, .long y.1), (5, .int y.2)]) (fun y => S) zF ((0 : Int64), (0 : Int32)) (fun C5 hC5 hX5 hL5 t5 => ?_)
  have J34 : ∀ (l5_34 : Int32) (s0_34 : Int64) (s1_34 : Int64), zV G 6 S 0 0 34 [(0, .ref a0), (1, .int a1), (2, .int a2), (5, .int l5_34)] [.long s1_34, .long s0_34] (C5 (fX4_filledProducts_J34 a0 a1 a2 l5_34 s0_34 s1_34 S)) := by
    intro l5_34 s0_34 s1_34
    unfold fX4_filledProducts_J34
    refine zr_lor h0 dX4_filledProducts_34 (n := 35) rfl ?_
    refine zr_lstore_n [(0, .ref a0), (1, .int a1), (2, .int a2), (3, .long (s0_34 ||| s1_34)), (5, .int l5_34)] h0 dX4_filledProducts_35 (by decide) rfl (n := 36) rfl ?_
    refine zr_iinc (1 : Int32) [(0, .ref a0), (1, .int a1), (2, .int a2), (3, .long (s0_34 ||| s1_34)), (5, .int (l5_34 + (1 : Int32)))] h0 dX4_filledProducts_36 rfl (by decide) rfl rfl (n := 39) rfl ?_
    refine zr_goto (tgt := 5) h0 dX4_filledProducts_39 (by decide) ?_
    exact hL5 (s0_34 ||| s1_34, l5_34 + (1 : Int32))
  unfold fX4_filledProducts_B5
  refine zr_iload h0 dX4_filledProducts_5 rfl (n := 7) rfl ?_
  refine zr_aload_n h0 dX4_filledProducts_7 rfl (n := 8) rfl ?_
  refine zr_getI C5 hC5 h0 zcX4 (k := 3) (by decide) zw_412 dX4_filledProducts_8 (n := 11) rfl (fun v3 => ?_)
  refine zr_icmp_ge C5 (tgt := 42) h0 dX4_filledProducts_11 (by decide) (n := 14) rfl ?_ ?_
  · refine zr_ex hX5 ?_
    refine zv_sub (lv' := [(3, .long t5.1)]) ?_ (zsub_of [3] rfl)
    refine zr_lload_n h0 dX4_filledProducts_42 rfl (n := 43) rfl ?_
    exact zr_lret h0 rfl dX4_filledProducts_43 (hE _) (by decide) (by decide)
  · refine zr_lload_n h0 dX4_filledProducts_14 rfl (n := 15) rfl ?_
    refine zr_aload_n h0 dX4_filledProducts_15 rfl (n := 16) rfl ?_
    refine zr_iload h0 dX4_filledProducts_16 rfl (n := 18) rfl ?_
    refine zr_iload_n h0 dX4_filledProducts_18 rfl (n := 19) rfl ?_
    refine zr_iload_n h0 dX4_filledProducts_19 rfl (n := 20) rfl ?_
    refine zr_cRI C5 hC5 0 0 (fun x hx => zk_V h0 zcX4 (zcl_ex hx) (fun l D z0 => kX4_number l D z0 a0 t5.2 a1 a2 S x (zcl_of hx)) zw_709 zw_711 zs_26 zw_12 zw_712 rfl zyX4_number (As := [.int t5.2, .int a1, .int a2]) (st := [.long t5.1]) rfl (by decide) rfl (Nat.le_of_ble_eq_true rfl) (by decide) dX4_filledProducts_20) rfl rfl (n := 23) rfl (fun x4 => ?_)
    refine zr_if_eq C5 (tgt := 33) h0 dX4_filledProducts_23 (by decide) (n := 26) rfl ?_ ?_
    · refine zv_sub (lv' := [(0, .ref a0), (1, .int a1), (2, .int a2), (5, .int t5.2)]) ?_ (zsub_of [0, 1, 2, 4] rfl)
      refine zr_lconst (0 : Int64) h0 (by decide) dX4_filledProducts_33 (n := 34) rfl ?_
      exact J34 t5.2 t5.1 (0 : Int64)
    · refine zv_sub (lv' := [(0, .ref a0), (1, .int a1), (2, .int a2), (5, .int t5.2)]) ?_ (zsub_of [0, 1, 2, 4] rfl)
      refine zr_lconst (1 : Int64) h0 (by decide) dX4_filledProducts_26 (n := 27) rfl ?_
      refine zr_iload h0 dX4_filledProducts_27 rfl (n := 29) rfl ?_
      refine zr_lshl h0 dX4_filledProducts_29 (n := 30) rfl ?_
      refine zr_goto (tgt := 34) h0 dX4_filledProducts_30 (by decide) ?_
      exact J34 t5.2 t5.1 ((1 : Int64) <<< ((Int32.toInt64 t5.2) &&& 63))
theorem kX4_filledProducts (l : Launch) (D : ZD) (z0 : Nat) (a0 : Nat) (a1 : Int32) (a2 : Int32) (S : ZS) (x : Int64) (hf : fX4_filledProducts a0 a1 a2 S = some x) : zMet l D z0 yX4_filledProducts cX4_filledProducts 6 (some .long) rmX4_filledProducts [.ref a0, .int a1, .int a2] S (some (.long x)) S :=
  zMet_of (by decide) (Nat.le_of_ble_eq_true rfl) (fun G h0 hini hE => wX4_filledProducts a0 a1 a2 S h0 (fun o => o = some x) (fun h => nomatch h) (fun v h => by cases h; exact hE)) hf
theorem dX4_tellSums_0 : decode cX4_tellSums 0 = .ok (.aload_n 2, 1) := by decide +kernel
theorem dX4_tellSums_1 : decode cX4_tellSums 1 = .ok (.invokevirtual 134, 3) := by decide +kernel
theorem dX4_tellSums_4 : decode cX4_tellSums 4 = .ok (.iload_n 1, 1) := by decide +kernel
theorem dX4_tellSums_5 : decode cX4_tellSums 5 = .ok (.iconst 2, 1) := by decide +kernel
theorem dX4_tellSums_6 : decode cX4_tellSums 6 = .ok (.if_icmp .ne 32, 3) := by decide +kernel
theorem dX4_tellSums_9 : decode cX4_tellSums 9 = .ok (.iconst 0, 1) := by decide +kernel
theorem dX4_tellSums_10 : decode cX4_tellSums 10 = .ok (.istore_n 3, 1) := by decide +kernel
theorem dX4_tellSums_11 : decode cX4_tellSums 11 = .ok (.iload_n 3, 1) := by decide +kernel
theorem dX4_tellSums_12 : decode cX4_tellSums 12 = .ok (.aload_n 0, 1) := by decide +kernel
theorem dX4_tellSums_13 : decode cX4_tellSums 13 = .ok (.getfield 23, 3) := by decide +kernel
theorem dX4_tellSums_16 : decode cX4_tellSums 16 = .ok (.if_icmp .ge 19, 3) := by decide +kernel
theorem dX4_tellSums_19 : decode cX4_tellSums 19 = .ok (.aload_n 2, 1) := by decide +kernel
theorem dX4_tellSums_20 : decode cX4_tellSums 20 = .ok (.aload_n 0, 1) := by decide +kernel
theorem dX4_tellSums_21 : decode cX4_tellSums 21 = .ok (.iload_n 3, 1) := by decide +kernel
theorem dX4_tellSums_22 : decode cX4_tellSums 22 = .ok (.iload_n 1, 1) := by decide +kernel
theorem dX4_tellSums_23 : decode cX4_tellSums 23 = .ok (.invokevirtual 139, 3) := by decide +kernel
theorem dX4_tellSums_26 : decode cX4_tellSums 26 = .ok (.invokevirtual 143, 3) := by decide +kernel
theorem dX4_tellSums_29 : decode cX4_tellSums 29 = .ok (.iinc 3 1, 3) := by decide +kernel
theorem dX4_tellSums_32 : decode cX4_tellSums 32 = .ok (.goto (-21), 3) := by decide +kernel
theorem dX4_tellSums_35 : decode cX4_tellSums 35 = .ok (.goto 33, 3) := by decide +kernel
theorem dX4_tellSums_38 : decode cX4_tellSums 38 = .ok (.iconst 0, 1) := by decide +kernel
theorem dX4_tellSums_39 : decode cX4_tellSums 39 = .ok (.istore_n 3, 1) := by decide +kernel
theorem dX4_tellSums_40 : decode cX4_tellSums 40 = .ok (.iload_n 3, 1) := by decide +kernel
theorem dX4_tellSums_41 : decode cX4_tellSums 41 = .ok (.aload_n 0, 1) := by decide +kernel
theorem dX4_tellSums_42 : decode cX4_tellSums 42 = .ok (.getfield 11, 3) := by decide +kernel
theorem dX4_tellSums_45 : decode cX4_tellSums 45 = .ok (.iload_n 1, 1) := by decide +kernel
theorem dX4_tellSums_46 : decode cX4_tellSums 46 = .ok (.invokevirtual 42, 3) := by decide +kernel
theorem dX4_tellSums_49 : decode cX4_tellSums 49 = .ok (.if_icmp .ge 19, 3) := by decide +kernel
theorem dX4_tellSums_52 : decode cX4_tellSums 52 = .ok (.aload_n 2, 1) := by decide +kernel
theorem dX4_tellSums_53 : decode cX4_tellSums 53 = .ok (.aload_n 0, 1) := by decide +kernel
theorem dX4_tellSums_54 : decode cX4_tellSums 54 = .ok (.iload_n 1, 1) := by decide +kernel
theorem dX4_tellSums_55 : decode cX4_tellSums 55 = .ok (.iload_n 3, 1) := by decide +kernel
theorem dX4_tellSums_56 : decode cX4_tellSums 56 = .ok (.invokevirtual 146, 3) := by decide +kernel
theorem dX4_tellSums_59 : decode cX4_tellSums 59 = .ok (.invokevirtual 143, 3) := by decide +kernel
theorem dX4_tellSums_62 : decode cX4_tellSums 62 = .ok (.iinc 3 1, 3) := by decide +kernel
theorem dX4_tellSums_65 : decode cX4_tellSums 65 = .ok (.goto (-25), 3) := by decide +kernel
theorem dX4_tellSums_68 : decode cX4_tellSums 68 = .ok (.return_, 1) := by decide +kernel
abbrev rmX4_tellSums : Room := { frames := 5, cells := 0, slots := 0, locals := 111 }
theorem zyX4_tellSums : zyOK yX4_tellSums 2 := ⟨by decide +kernel, by decide +kernel, by decide +kernel⟩
set_option maxHeartbeats 4000000 in
set_option maxRecDepth 100000 in
theorem wX4_tellSums {G : ZG} (a0 : Nat) (a1 : Int32) (a2 : Nat) (S : ZS) (h0 : zFix G cX4_tellSums RX4 4 none rmX4_tellSums) (C : Option ZS → Prop) (hC : ¬ C none) (hE : ∀ S1 : ZS, C (some S1) → zEnd G none S1 rmX4_tellSums) : zV G 4 S 0 0 0 [(0, .ref a0), (1, .int a1), (2, .ref a2)] [] (C (fX4_tellSums a0 a1 a2 S)) := by
  have J68 : ∀  (S_68 : ZS), zV G 4 S_68 0 0 68 [] [] (C (fX4_tellSums_J68 S_68)) := by
    intro  S_68
    unfold fX4_tellSums_J68
    exact zr_vret h0 rfl dX4_tellSums_68 (fun h => hE _ h) (by decide) (by decide)
  unfold fX4_tellSums
  refine zr_aload_n h0 dX4_tellSums_0 rfl (n := 1) rfl ?_
  refine zr_cMV C hC 0 0 (fun x hx => zk_V h0 zcX3 (zcl_ex hx) (fun l D z0 => kX3_clear l D z0 a2 S x (zcl_of hx)) zw_742 zw_743 zw_744 zw_4 zw_745 rfl zyX3_clear (As := []) (st := []) rfl (by decide) rfl (Nat.le_of_ble_eq_true rfl) (by decide) dX4_tellSums_1) rfl rfl (n := 4) rfl (fun x1 => ?_)
  refine zr_iload_n h0 dX4_tellSums_4 rfl (n := 5) rfl ?_
  refine zr_iconst (2 : Int32) h0 (by decide) dX4_tellSums_5 (n := 6) rfl ?_
  refine zr_icmp_ne C (tgt := 38) h0 dX4_tellSums_6 (by decide) (n := 9) rfl ?_ ?_
  · refine zr_iconst (0 : Int32) h0 (by decide) dX4_tellSums_9 (n := 10) rfl ?_
    refine zr_istore_n [(0, .ref a0), (1, .int a1), (2, .ref a2), (3, .int (0 : Int32))] h0 dX4_tellSums_10 (by decide) rfl (n := 11) rfl ?_
    refine zr_loop hC (fX4_tellSums_B11 a0 a1 a2) (fun y => [(0, .ref a0), (1, .int a1), (2, .ref a2), (3, .int y.1)]) (fun y => y.2) zF ((0 : Int32), x1) (fun C11 hC11 hX11 hL11 t11 => ?_)
    unfold fX4_tellSums_B11
    refine zr_iload_n h0 dX4_tellSums_11 rfl (n := 12) rfl ?_
    refine zr_aload_n h0 dX4_tellSums_12 rfl (n := 13) rfl ?_
    refine zr_getI C11 hC11 h0 zcX4 (k := 3) (by decide) zw_412 dX4_tellSums_13 (n := 16) rfl (fun v5 => ?_)
    refine zr_icmp_ge C11 (tgt := 35) h0 dX4_tellSums_16 (by decide) (n := 19) rfl ?_ ?_
    · refine zr_ex hX11 ?_
      refine zv_sub (lv' := []) ?_ (zsub_of [] rfl)
      refine zr_goto (tgt := 68) h0 dX4_tellSums_35 (by decide) ?_
      exact J68 t11.2
    · refine zr_aload_n h0 dX4_tellSums_19 rfl (n := 20) rfl ?_
      refine zr_aload_n h0 dX4_tellSums_20 rfl (n := 21) rfl ?_
      refine zr_iload_n h0 dX4_tellSums_21 rfl (n := 22) rfl ?_
      refine zr_iload_n h0 dX4_tellSums_22 rfl (n := 23) rfl ?_
      refine zr_cRJ C11 hC11 0 0 (fun x hx => zk_V h0 zcX4 (zcl_ex hx) (fun l D z0 => kX4_filledPlaces l D z0 a0 t11.1 a1 t11.2 x (zcl_of hx)) zw_746 zw_748 zs_28 zw_12 zw_749 rfl zyX4_filledPlaces (As := [.int t11.1, .int a1]) (st := [.ref a2]) rfl (by decide) rfl (Nat.le_of_ble_eq_true rfl) (by decide) dX4_tellSums_23) rfl rfl (n := 26) rfl (fun x6 => ?_)
      refine zr_cMV C11 hC11 0 0 (fun x hx => zk_V h0 zcX3 (zcl_ex hx) (fun l D z0 => kX3_append l D z0 a2 x6 t11.2 x (zcl_of hx)) zw_750 zw_751 zw_752 zw_4 zw_753 rfl zyX3_append (As := [.long x6]) (st := []) rfl (by decide) rfl (Nat.le_of_ble_eq_true rfl) (by decide) dX4_tellSums_26) rfl rfl (n := 29) rfl (fun x7 => ?_)
      refine zr_iinc (1 : Int32) [(0, .ref a0), (1, .int a1), (2, .ref a2), (3, .int (t11.1 + (1 : Int32)))] h0 dX4_tellSums_29 rfl (by decide) rfl rfl (n := 32) rfl ?_
      refine zr_goto (tgt := 11) h0 dX4_tellSums_32 (by decide) ?_
      exact hL11 (t11.1 + (1 : Int32), x7)
  · refine zr_iconst (0 : Int32) h0 (by decide) dX4_tellSums_38 (n := 39) rfl ?_
    refine zr_istore_n [(0, .ref a0), (1, .int a1), (2, .ref a2), (3, .int (0 : Int32))] h0 dX4_tellSums_39 (by decide) rfl (n := 40) rfl ?_
    refine zr_loop hC (fX4_tellSums_B40 a0 a1 a2) (fun y => [(0, .ref a0), (1, .int a1), (2, .ref a2), (3, .int y.1)]) (fun y => y.2) zF ((0 : Int32), x1) (fun C40 hC40 hX40 hL40 t40 => ?_)
    unfold fX4_tellSums_B40
    refine zr_iload_n h0 dX4_tellSums_40 rfl (n := 41) rfl ?_
    refine zr_aload_n h0 dX4_tellSums_41 rfl (n := 42) rfl ?_
    refine zr_getR C40 hC40 h0 zcX4 (k := 0) (by decide) zw_408 dX4_tellSums_42 (n := 45) rfl (fun v12 => ?_)
    refine zr_iload_n h0 dX4_tellSums_45 rfl (n := 46) rfl ?_
    refine zr_cRI C40 hC40 0 0 (fun x hx => zk_V h0 zcX0 (zcl_ex hx) (fun l D z0 => kX0_sizeOf l D z0 v12 a1 t40.2 x (zcl_of hx)) zw_501 zw_346 zw_347 zw_10 zw_348 rfl zyX0_sizeOf (As := [.int a1]) (st := [.int t40.1]) rfl (by decide) rfl (Nat.le_of_ble_eq_true rfl) (by decide) dX4_tellSums_46) rfl rfl (n := 49) rfl (fun x13 => ?_)
    refine zr_icmp_ge C40 (tgt := 68) h0 dX4_tellSums_49 (by decide) (n := 52) rfl ?_ ?_
    · refine zr_ex hX40 ?_
      refine zv_sub (lv' := []) ?_ (zsub_of [] rfl)
      exact J68 t40.2
    · refine zr_aload_n h0 dX4_tellSums_52 rfl (n := 53) rfl ?_
      refine zr_aload_n h0 dX4_tellSums_53 rfl (n := 54) rfl ?_
      refine zr_iload_n h0 dX4_tellSums_54 rfl (n := 55) rfl ?_
      refine zr_iload_n h0 dX4_tellSums_55 rfl (n := 56) rfl ?_
      refine zr_cRJ C40 hC40 0 0 (fun x hx => zk_V h0 zcX4 (zcl_ex hx) (fun l D z0 => kX4_filledProducts l D z0 a0 a1 t40.1 t40.2 x (zcl_of hx)) zw_755 zw_757 zs_29 zw_12 zw_758 rfl zyX4_filledProducts (As := [.int a1, .int t40.1]) (st := [.ref a2]) rfl (by decide) rfl (Nat.le_of_ble_eq_true rfl) (by decide) dX4_tellSums_56) rfl rfl (n := 59) rfl (fun x14 => ?_)
      refine zr_cMV C40 hC40 0 0 (fun x hx => zk_V h0 zcX3 (zcl_ex hx) (fun l D z0 => kX3_append l D z0 a2 x14 t40.2 x (zcl_of hx)) zw_750 zw_751 zw_752 zw_4 zw_753 rfl zyX3_append (As := [.long x14]) (st := []) rfl (by decide) rfl (Nat.le_of_ble_eq_true rfl) (by decide) dX4_tellSums_59) rfl rfl (n := 62) rfl (fun x15 => ?_)
      refine zr_iinc (1 : Int32) [(0, .ref a0), (1, .int a1), (2, .ref a2), (3, .int (t40.1 + (1 : Int32)))] h0 dX4_tellSums_62 rfl (by decide) rfl rfl (n := 65) rfl ?_
      refine zr_goto (tgt := 40) h0 dX4_tellSums_65 (by decide) ?_
      exact hL40 (t40.1 + (1 : Int32), x15)
theorem kX4_tellSums (l : Launch) (D : ZD) (z0 : Nat) (a0 : Nat) (a1 : Int32) (a2 : Nat) (S : ZS) (x : ZS) (hf : fX4_tellSums a0 a1 a2 S = some x) : zMet l D z0 yX4_tellSums cX4_tellSums 4 none rmX4_tellSums [.ref a0, .int a1, .ref a2] S none x :=
  zMet_of (by decide) (Nat.le_of_ble_eq_true rfl) (fun G h0 hini hE => wX4_tellSums a0 a1 a2 S h0 (fun o => o = some x) (fun h => nomatch h) (fun S1 h => by cases h; exact hE)) hf
theorem dJ13_bitCount_95d88_0 : decode cJ13_bitCount_95d88 0 = .ok (.lload_n 0, 1) := by decide +kernel
theorem dJ13_bitCount_95d88_1 : decode cJ13_bitCount_95d88 1 = .ok (.lload_n 0, 1) := by decide +kernel
theorem dJ13_bitCount_95d88_2 : decode cJ13_bitCount_95d88 2 = .ok (.iconst 1, 1) := by decide +kernel
theorem dJ13_bitCount_95d88_3 : decode cJ13_bitCount_95d88 3 = .ok (.lushr, 1) := by decide +kernel
theorem dJ13_bitCount_95d88_4 : decode cJ13_bitCount_95d88 4 = .ok (.ldc2_w 314, 3) := by decide +kernel
theorem dJ13_bitCount_95d88_7 : decode cJ13_bitCount_95d88 7 = .ok (.land, 1) := by decide +kernel
theorem dJ13_bitCount_95d88_8 : decode cJ13_bitCount_95d88 8 = .ok (.lsub, 1) := by decide +kernel
theorem dJ13_bitCount_95d88_9 : decode cJ13_bitCount_95d88 9 = .ok (.lstore_n 0, 1) := by decide +kernel
theorem dJ13_bitCount_95d88_10 : decode cJ13_bitCount_95d88 10 = .ok (.lload_n 0, 1) := by decide +kernel
theorem dJ13_bitCount_95d88_11 : decode cJ13_bitCount_95d88 11 = .ok (.ldc2_w 316, 3) := by decide +kernel
theorem dJ13_bitCount_95d88_14 : decode cJ13_bitCount_95d88 14 = .ok (.land, 1) := by decide +kernel
theorem dJ13_bitCount_95d88_15 : decode cJ13_bitCount_95d88 15 = .ok (.lload_n 0, 1) := by decide +kernel
theorem dJ13_bitCount_95d88_16 : decode cJ13_bitCount_95d88 16 = .ok (.iconst 2, 1) := by decide +kernel
theorem dJ13_bitCount_95d88_17 : decode cJ13_bitCount_95d88 17 = .ok (.lushr, 1) := by decide +kernel
theorem dJ13_bitCount_95d88_18 : decode cJ13_bitCount_95d88 18 = .ok (.ldc2_w 316, 3) := by decide +kernel
theorem dJ13_bitCount_95d88_21 : decode cJ13_bitCount_95d88 21 = .ok (.land, 1) := by decide +kernel
theorem dJ13_bitCount_95d88_22 : decode cJ13_bitCount_95d88 22 = .ok (.ladd, 1) := by decide +kernel
theorem dJ13_bitCount_95d88_23 : decode cJ13_bitCount_95d88 23 = .ok (.lstore_n 0, 1) := by decide +kernel
theorem dJ13_bitCount_95d88_24 : decode cJ13_bitCount_95d88 24 = .ok (.lload_n 0, 1) := by decide +kernel
theorem dJ13_bitCount_95d88_25 : decode cJ13_bitCount_95d88 25 = .ok (.lload_n 0, 1) := by decide +kernel
theorem dJ13_bitCount_95d88_26 : decode cJ13_bitCount_95d88 26 = .ok (.iconst 4, 1) := by decide +kernel
theorem dJ13_bitCount_95d88_27 : decode cJ13_bitCount_95d88 27 = .ok (.lushr, 1) := by decide +kernel
theorem dJ13_bitCount_95d88_28 : decode cJ13_bitCount_95d88 28 = .ok (.ladd, 1) := by decide +kernel
theorem dJ13_bitCount_95d88_29 : decode cJ13_bitCount_95d88 29 = .ok (.ldc2_w 318, 3) := by decide +kernel
theorem dJ13_bitCount_95d88_32 : decode cJ13_bitCount_95d88 32 = .ok (.land, 1) := by decide +kernel
theorem dJ13_bitCount_95d88_33 : decode cJ13_bitCount_95d88 33 = .ok (.lstore_n 0, 1) := by decide +kernel
theorem dJ13_bitCount_95d88_34 : decode cJ13_bitCount_95d88 34 = .ok (.lload_n 0, 1) := by decide +kernel
theorem dJ13_bitCount_95d88_35 : decode cJ13_bitCount_95d88 35 = .ok (.lload_n 0, 1) := by decide +kernel
theorem dJ13_bitCount_95d88_36 : decode cJ13_bitCount_95d88 36 = .ok (.bipush 8, 2) := by decide +kernel
theorem dJ13_bitCount_95d88_38 : decode cJ13_bitCount_95d88 38 = .ok (.lushr, 1) := by decide +kernel
theorem dJ13_bitCount_95d88_39 : decode cJ13_bitCount_95d88 39 = .ok (.ladd, 1) := by decide +kernel
theorem dJ13_bitCount_95d88_40 : decode cJ13_bitCount_95d88 40 = .ok (.lstore_n 0, 1) := by decide +kernel
theorem dJ13_bitCount_95d88_41 : decode cJ13_bitCount_95d88 41 = .ok (.lload_n 0, 1) := by decide +kernel
theorem dJ13_bitCount_95d88_42 : decode cJ13_bitCount_95d88 42 = .ok (.lload_n 0, 1) := by decide +kernel
theorem dJ13_bitCount_95d88_43 : decode cJ13_bitCount_95d88 43 = .ok (.bipush 16, 2) := by decide +kernel
theorem dJ13_bitCount_95d88_45 : decode cJ13_bitCount_95d88 45 = .ok (.lushr, 1) := by decide +kernel
theorem dJ13_bitCount_95d88_46 : decode cJ13_bitCount_95d88 46 = .ok (.ladd, 1) := by decide +kernel
theorem dJ13_bitCount_95d88_47 : decode cJ13_bitCount_95d88 47 = .ok (.lstore_n 0, 1) := by decide +kernel
theorem dJ13_bitCount_95d88_48 : decode cJ13_bitCount_95d88 48 = .ok (.lload_n 0, 1) := by decide +kernel
theorem dJ13_bitCount_95d88_49 : decode cJ13_bitCount_95d88 49 = .ok (.lload_n 0, 1) := by decide +kernel
theorem dJ13_bitCount_95d88_50 : decode cJ13_bitCount_95d88 50 = .ok (.bipush 32, 2) := by decide +kernel
theorem dJ13_bitCount_95d88_52 : decode cJ13_bitCount_95d88 52 = .ok (.lushr, 1) := by decide +kernel
theorem dJ13_bitCount_95d88_53 : decode cJ13_bitCount_95d88 53 = .ok (.ladd, 1) := by decide +kernel
theorem dJ13_bitCount_95d88_54 : decode cJ13_bitCount_95d88 54 = .ok (.lstore_n 0, 1) := by decide +kernel
theorem dJ13_bitCount_95d88_55 : decode cJ13_bitCount_95d88 55 = .ok (.lload_n 0, 1) := by decide +kernel
theorem dJ13_bitCount_95d88_56 : decode cJ13_bitCount_95d88 56 = .ok (.l2i, 1) := by decide +kernel
theorem dJ13_bitCount_95d88_57 : decode cJ13_bitCount_95d88 57 = .ok (.bipush 127, 2) := by decide +kernel
theorem dJ13_bitCount_95d88_59 : decode cJ13_bitCount_95d88 59 = .ok (.iand, 1) := by decide +kernel
theorem dJ13_bitCount_95d88_60 : decode cJ13_bitCount_95d88 60 = .ok (.ireturn, 1) := by decide +kernel
abbrev rmJ13_bitCount_95d88 : Room := { frames := 1, cells := 0, slots := 0, locals := 20 }
theorem zyJ13_bitCount_95d88 : zyOK yJ13_bitCount_95d88 1 := ⟨by decide +kernel, by decide +kernel, by decide +kernel⟩
set_option maxHeartbeats 4000000 in
set_option maxRecDepth 100000 in
theorem wJ13_bitCount_95d88 {G : ZG} (a0 : Int64) (S : ZS) (h0 : zFix G cJ13_bitCount_95d88 RJ13 2 (some .int) rmJ13_bitCount_95d88) (C : Option Int32 → Prop) (hC : ¬ C none) (hE : ∀ v : Int32, C (some v) → zEnd G (some (.int v)) S rmJ13_bitCount_95d88) : zV G 2 S 0 0 0 [(0, .long a0)] [] (C (fJ13_bitCount_95d88 a0)) := by
  unfold fJ13_bitCount_95d88
  refine zr_lload_n h0 dJ13_bitCount_95d88_0 rfl (n := 1) rfl ?_
  refine zr_lload_n h0 dJ13_bitCount_95d88_1 rfl (n := 2) rfl ?_
  refine zr_iconst (1 : Int32) h0 (by decide) dJ13_bitCount_95d88_2 (n := 3) rfl ?_
  refine zr_lushr h0 dJ13_bitCount_95d88_3 (n := 4) rfl ?_
  refine zr_ldc2 h0 zw_771 dJ13_bitCount_95d88_4 (n := 7) rfl ?_
  refine zr_land h0 dJ13_bitCount_95d88_7 (n := 8) rfl ?_
  refine zr_lsub h0 dJ13_bitCount_95d88_8 (n := 9) rfl ?_
  refine zr_lstore_n [(0, .long (a0 - ((((Int64.toUInt64 a0) >>> ((Int64.toUInt64 (Int32.toInt64 (1 : Int32))) &&& Int64.toUInt64 63)).toInt64) &&& (6148914691236517205 : Int64))))] h0 dJ13_bitCount_95d88_9 (by decide) rfl (n := 10) rfl ?_
  refine zr_lload_n h0 dJ13_bitCount_95d88_10 rfl (n := 11) rfl ?_
  refine zr_ldc2 h0 zw_772 dJ13_bitCount_95d88_11 (n := 14) rfl ?_
  refine zr_land h0 dJ13_bitCount_95d88_14 (n := 15) rfl ?_
  refine zr_lload_n h0 dJ13_bitCount_95d88_15 rfl (n := 16) rfl ?_
  refine zr_iconst (2 : Int32) h0 (by decide) dJ13_bitCount_95d88_16 (n := 17) rfl ?_
  refine zr_lushr h0 dJ13_bitCount_95d88_17 (n := 18) rfl ?_
  refine zr_ldc2 h0 zw_772 dJ13_bitCount_95d88_18 (n := 21) rfl ?_
  refine zr_land h0 dJ13_bitCount_95d88_21 (n := 22) rfl ?_
  refine zr_ladd h0 dJ13_bitCount_95d88_22 (n := 23) rfl ?_
  refine zr_lstore_n [(0, .long (((a0 - ((((Int64.toUInt64 a0) >>> ((Int64.toUInt64 (Int32.toInt64 (1 : Int32))) &&& Int64.toUInt64 63)).toInt64) &&& (6148914691236517205 : Int64))) &&& (3689348814741910323 : Int64)) + ((((Int64.toUInt64 (a0 - ((((Int64.toUInt64 a0) >>> ((Int64.toUInt64 (Int32.toInt64 (1 : Int32))) &&& Int64.toUInt64 63)).toInt64) &&& (6148914691236517205 : Int64)))) >>> ((Int64.toUInt64 (Int32.toInt64 (2 : Int32))) &&& Int64.toUInt64 63)).toInt64) &&& (3689348814741910323 : Int64))))] h0 dJ13_bitCount_95d88_23 (by decide) rfl (n := 24) rfl ?_
  refine zr_lload_n h0 dJ13_bitCount_95d88_24 rfl (n := 25) rfl ?_
  refine zr_lload_n h0 dJ13_bitCount_95d88_25 rfl (n := 26) rfl ?_
  refine zr_iconst (4 : Int32) h0 (by decide) dJ13_bitCount_95d88_26 (n := 27) rfl ?_
  refine zr_lushr h0 dJ13_bitCount_95d88_27 (n := 28) rfl ?_
  refine zr_ladd h0 dJ13_bitCount_95d88_28 (n := 29) rfl ?_
  refine zr_ldc2 h0 zw_773 dJ13_bitCount_95d88_29 (n := 32) rfl ?_
  refine zr_land h0 dJ13_bitCount_95d88_32 (n := 33) rfl ?_
  refine zr_lstore_n [(0, .long (((((a0 - ((((Int64.toUInt64 a0) >>> ((Int64.toUInt64 (Int32.toInt64 (1 : Int32))) &&& Int64.toUInt64 63)).toInt64) &&& (6148914691236517205 : Int64))) &&& (3689348814741910323 : Int64)) + ((((Int64.toUInt64 (a0 - ((((Int64.toUInt64 a0) >>> ((Int64.toUInt64 (Int32.toInt64 (1 : Int32))) &&& Int64.toUInt64 63)).toInt64) &&& (6148914691236517205 : Int64)))) >>> ((Int64.toUInt64 (Int32.toInt64 (2 : Int32))) &&& Int64.toUInt64 63)).toInt64) &&& (3689348814741910323 : Int64))) + (((Int64.toUInt64 (((a0 - ((((Int64.toUInt64 a0) >>> ((Int64.toUInt64 (Int32.toInt64 (1 : Int32))) &&& Int64.toUInt64 63)).toInt64) &&& (6148914691236517205 : Int64))) &&& (3689348814741910323 : Int64)) + ((((Int64.toUInt64 (a0 - ((((Int64.toUInt64 a0) >>> ((Int64.toUInt64 (Int32.toInt64 (1 : Int32))) &&& Int64.toUInt64 63)).toInt64) &&& (6148914691236517205 : Int64)))) >>> ((Int64.toUInt64 (Int32.toInt64 (2 : Int32))) &&& Int64.toUInt64 63)).toInt64) &&& (3689348814741910323 : Int64)))) >>> ((Int64.toUInt64 (Int32.toInt64 (4 : Int32))) &&& Int64.toUInt64 63)).toInt64)) &&& (1085102592571150095 : Int64)))] h0 dJ13_bitCount_95d88_33 (by decide) rfl (n := 34) rfl ?_
  refine zr_lload_n h0 dJ13_bitCount_95d88_34 rfl (n := 35) rfl ?_
  refine zr_lload_n h0 dJ13_bitCount_95d88_35 rfl (n := 36) rfl ?_
  refine zr_bipush (8 : Int32) h0 (by decide) dJ13_bitCount_95d88_36 (n := 38) rfl ?_
  refine zr_lushr h0 dJ13_bitCount_95d88_38 (n := 39) rfl ?_
  refine zr_ladd h0 dJ13_bitCount_95d88_39 (n := 40) rfl ?_
  refine zr_lstore_n [(0, .long ((((((a0 - ((((Int64.toUInt64 a0) >>> ((Int64.toUInt64 (Int32.toInt64 (1 : Int32))) &&& Int64.toUInt64 63)).toInt64) &&& (6148914691236517205 : Int64))) &&& (3689348814741910323 : Int64)) + ((((Int64.toUInt64 (a0 - ((((Int64.toUInt64 a0) >>> ((Int64.toUInt64 (Int32.toInt64 (1 : Int32))) &&& Int64.toUInt64 63)).toInt64) &&& (6148914691236517205 : Int64)))) >>> ((Int64.toUInt64 (Int32.toInt64 (2 : Int32))) &&& Int64.toUInt64 63)).toInt64) &&& (3689348814741910323 : Int64))) + (((Int64.toUInt64 (((a0 - ((((Int64.toUInt64 a0) >>> ((Int64.toUInt64 (Int32.toInt64 (1 : Int32))) &&& Int64.toUInt64 63)).toInt64) &&& (6148914691236517205 : Int64))) &&& (3689348814741910323 : Int64)) + ((((Int64.toUInt64 (a0 - ((((Int64.toUInt64 a0) >>> ((Int64.toUInt64 (Int32.toInt64 (1 : Int32))) &&& Int64.toUInt64 63)).toInt64) &&& (6148914691236517205 : Int64)))) >>> ((Int64.toUInt64 (Int32.toInt64 (2 : Int32))) &&& Int64.toUInt64 63)).toInt64) &&& (3689348814741910323 : Int64)))) >>> ((Int64.toUInt64 (Int32.toInt64 (4 : Int32))) &&& Int64.toUInt64 63)).toInt64)) &&& (1085102592571150095 : Int64)) + (((Int64.toUInt64 (((((a0 - ((((Int64.toUInt64 a0) >>> ((Int64.toUInt64 (Int32.toInt64 (1 : Int32))) &&& Int64.toUInt64 63)).toInt64) &&& (6148914691236517205 : Int64))) &&& (3689348814741910323 : Int64)) + ((((Int64.toUInt64 (a0 - ((((Int64.toUInt64 a0) >>> ((Int64.toUInt64 (Int32.toInt64 (1 : Int32))) &&& Int64.toUInt64 63)).toInt64) &&& (6148914691236517205 : Int64)))) >>> ((Int64.toUInt64 (Int32.toInt64 (2 : Int32))) &&& Int64.toUInt64 63)).toInt64) &&& (3689348814741910323 : Int64))) + (((Int64.toUInt64 (((a0 - ((((Int64.toUInt64 a0) >>> ((Int64.toUInt64 (Int32.toInt64 (1 : Int32))) &&& Int64.toUInt64 63)).toInt64) &&& (6148914691236517205 : Int64))) &&& (3689348814741910323 : Int64)) + ((((Int64.toUInt64 (a0 - ((((Int64.toUInt64 a0) >>> ((Int64.toUInt64 (Int32.toInt64 (1 : Int32))) &&& Int64.toUInt64 63)).toInt64) &&& (6148914691236517205 : Int64)))) >>> ((Int64.toUInt64 (Int32.toInt64 (2 : Int32))) &&& Int64.toUInt64 63)).toInt64) &&& (3689348814741910323 : Int64)))) >>> ((Int64.toUInt64 (Int32.toInt64 (4 : Int32))) &&& Int64.toUInt64 63)).toInt64)) &&& (1085102592571150095 : Int64))) >>> ((Int64.toUInt64 (Int32.toInt64 (8 : Int32))) &&& Int64.toUInt64 63)).toInt64)))] h0 dJ13_bitCount_95d88_40 (by decide) rfl (n := 41) rfl ?_
  refine zr_lload_n h0 dJ13_bitCount_95d88_41 rfl (n := 42) rfl ?_
  refine zr_lload_n h0 dJ13_bitCount_95d88_42 rfl (n := 43) rfl ?_
  refine zr_bipush (16 : Int32) h0 (by decide) dJ13_bitCount_95d88_43 (n := 45) rfl ?_
  refine zr_lushr h0 dJ13_bitCount_95d88_45 (n := 46) rfl ?_
  refine zr_ladd h0 dJ13_bitCount_95d88_46 (n := 47) rfl ?_
  refine zr_lstore_n [(0, .long (((((((a0 - ((((Int64.toUInt64 a0) >>> ((Int64.toUInt64 (Int32.toInt64 (1 : Int32))) &&& Int64.toUInt64 63)).toInt64) &&& (6148914691236517205 : Int64))) &&& (3689348814741910323 : Int64)) + ((((Int64.toUInt64 (a0 - ((((Int64.toUInt64 a0) >>> ((Int64.toUInt64 (Int32.toInt64 (1 : Int32))) &&& Int64.toUInt64 63)).toInt64) &&& (6148914691236517205 : Int64)))) >>> ((Int64.toUInt64 (Int32.toInt64 (2 : Int32))) &&& Int64.toUInt64 63)).toInt64) &&& (3689348814741910323 : Int64))) + (((Int64.toUInt64 (((a0 - ((((Int64.toUInt64 a0) >>> ((Int64.toUInt64 (Int32.toInt64 (1 : Int32))) &&& Int64.toUInt64 63)).toInt64) &&& (6148914691236517205 : Int64))) &&& (3689348814741910323 : Int64)) + ((((Int64.toUInt64 (a0 - ((((Int64.toUInt64 a0) >>> ((Int64.toUInt64 (Int32.toInt64 (1 : Int32))) &&& Int64.toUInt64 63)).toInt64) &&& (6148914691236517205 : Int64)))) >>> ((Int64.toUInt64 (Int32.toInt64 (2 : Int32))) &&& Int64.toUInt64 63)).toInt64) &&& (3689348814741910323 : Int64)))) >>> ((Int64.toUInt64 (Int32.toInt64 (4 : Int32))) &&& Int64.toUInt64 63)).toInt64)) &&& (1085102592571150095 : Int64)) + (((Int64.toUInt64 (((((a0 - ((((Int64.toUInt64 a0) >>> ((Int64.toUInt64 (Int32.toInt64 (1 : Int32))) &&& Int64.toUInt64 63)).toInt64) &&& (6148914691236517205 : Int64))) &&& (3689348814741910323 : Int64)) + ((((Int64.toUInt64 (a0 - ((((Int64.toUInt64 a0) >>> ((Int64.toUInt64 (Int32.toInt64 (1 : Int32))) &&& Int64.toUInt64 63)).toInt64) &&& (6148914691236517205 : Int64)))) >>> ((Int64.toUInt64 (Int32.toInt64 (2 : Int32))) &&& Int64.toUInt64 63)).toInt64) &&& (3689348814741910323 : Int64))) + (((Int64.toUInt64 (((a0 - ((((Int64.toUInt64 a0) >>> ((Int64.toUInt64 (Int32.toInt64 (1 : Int32))) &&& Int64.toUInt64 63)).toInt64) &&& (6148914691236517205 : Int64))) &&& (3689348814741910323 : Int64)) + ((((Int64.toUInt64 (a0 - ((((Int64.toUInt64 a0) >>> ((Int64.toUInt64 (Int32.toInt64 (1 : Int32))) &&& Int64.toUInt64 63)).toInt64) &&& (6148914691236517205 : Int64)))) >>> ((Int64.toUInt64 (Int32.toInt64 (2 : Int32))) &&& Int64.toUInt64 63)).toInt64) &&& (3689348814741910323 : Int64)))) >>> ((Int64.toUInt64 (Int32.toInt64 (4 : Int32))) &&& Int64.toUInt64 63)).toInt64)) &&& (1085102592571150095 : Int64))) >>> ((Int64.toUInt64 (Int32.toInt64 (8 : Int32))) &&& Int64.toUInt64 63)).toInt64)) + (((Int64.toUInt64 ((((((a0 - ((((Int64.toUInt64 a0) >>> ((Int64.toUInt64 (Int32.toInt64 (1 : Int32))) &&& Int64.toUInt64 63)).toInt64) &&& (6148914691236517205 : Int64))) &&& (3689348814741910323 : Int64)) + ((((Int64.toUInt64 (a0 - ((((Int64.toUInt64 a0) >>> ((Int64.toUInt64 (Int32.toInt64 (1 : Int32))) &&& Int64.toUInt64 63)).toInt64) &&& (6148914691236517205 : Int64)))) >>> ((Int64.toUInt64 (Int32.toInt64 (2 : Int32))) &&& Int64.toUInt64 63)).toInt64) &&& (3689348814741910323 : Int64))) + (((Int64.toUInt64 (((a0 - ((((Int64.toUInt64 a0) >>> ((Int64.toUInt64 (Int32.toInt64 (1 : Int32))) &&& Int64.toUInt64 63)).toInt64) &&& (6148914691236517205 : Int64))) &&& (3689348814741910323 : Int64)) + ((((Int64.toUInt64 (a0 - ((((Int64.toUInt64 a0) >>> ((Int64.toUInt64 (Int32.toInt64 (1 : Int32))) &&& Int64.toUInt64 63)).toInt64) &&& (6148914691236517205 : Int64)))) >>> ((Int64.toUInt64 (Int32.toInt64 (2 : Int32))) &&& Int64.toUInt64 63)).toInt64) &&& (3689348814741910323 : Int64)))) >>> ((Int64.toUInt64 (Int32.toInt64 (4 : Int32))) &&& Int64.toUInt64 63)).toInt64)) &&& (1085102592571150095 : Int64)) + (((Int64.toUInt64 (((((a0 - ((((Int64.toUInt64 a0) >>> ((Int64.toUInt64 (Int32.toInt64 (1 : Int32))) &&& Int64.toUInt64 63)).toInt64) &&& (6148914691236517205 : Int64))) &&& (3689348814741910323 : Int64)) + ((((Int64.toUInt64 (a0 - ((((Int64.toUInt64 a0) >>> ((Int64.toUInt64 (Int32.toInt64 (1 : Int32))) &&& Int64.toUInt64 63)).toInt64) &&& (6148914691236517205 : Int64)))) >>> ((Int64.toUInt64 (Int32.toInt64 (2 : Int32))) &&& Int64.toUInt64 63)).toInt64) &&& (3689348814741910323 : Int64))) + (((Int64.toUInt64 (((a0 - ((((Int64.toUInt64 a0) >>> ((Int64.toUInt64 (Int32.toInt64 (1 : Int32))) &&& Int64.toUInt64 63)).toInt64) &&& (6148914691236517205 : Int64))) &&& (3689348814741910323 : Int64)) + ((((Int64.toUInt64 (a0 - ((((Int64.toUInt64 a0) >>> ((Int64.toUInt64 (Int32.toInt64 (1 : Int32))) &&& Int64.toUInt64 63)).toInt64) &&& (6148914691236517205 : Int64)))) >>> ((Int64.toUInt64 (Int32.toInt64 (2 : Int32))) &&& Int64.toUInt64 63)).toInt64) &&& (3689348814741910323 : Int64)))) >>> ((Int64.toUInt64 (Int32.toInt64 (4 : Int32))) &&& Int64.toUInt64 63)).toInt64)) &&& (1085102592571150095 : Int64))) >>> ((Int64.toUInt64 (Int32.toInt64 (8 : Int32))) &&& Int64.toUInt64 63)).toInt64))) >>> ((Int64.toUInt64 (Int32.toInt64 (16 : Int32))) &&& Int64.toUInt64 63)).toInt64)))] h0 dJ13_bitCount_95d88_47 (by decide) rfl (n := 48) rfl ?_
  refine zr_lload_n h0 dJ13_bitCount_95d88_48 rfl (n := 49) rfl ?_
  refine zr_lload_n h0 dJ13_bitCount_95d88_49 rfl (n := 50) rfl ?_
  refine zr_bipush (32 : Int32) h0 (by decide) dJ13_bitCount_95d88_50 (n := 52) rfl ?_
  refine zr_lushr h0 dJ13_bitCount_95d88_52 (n := 53) rfl ?_
  refine zr_ladd h0 dJ13_bitCount_95d88_53 (n := 54) rfl ?_
  refine zr_lstore_n [(0, .long ((((((((a0 - ((((Int64.toUInt64 a0) >>> ((Int64.toUInt64 (Int32.toInt64 (1 : Int32))) &&& Int64.toUInt64 63)).toInt64) &&& (6148914691236517205 : Int64))) &&& (3689348814741910323 : Int64)) + ((((Int64.toUInt64 (a0 - ((((Int64.toUInt64 a0) >>> ((Int64.toUInt64 (Int32.toInt64 (1 : Int32))) &&& Int64.toUInt64 63)).toInt64) &&& (6148914691236517205 : Int64)))) >>> ((Int64.toUInt64 (Int32.toInt64 (2 : Int32))) &&& Int64.toUInt64 63)).toInt64) &&& (3689348814741910323 : Int64))) + (((Int64.toUInt64 (((a0 - ((((Int64.toUInt64 a0) >>> ((Int64.toUInt64 (Int32.toInt64 (1 : Int32))) &&& Int64.toUInt64 63)).toInt64) &&& (6148914691236517205 : Int64))) &&& (3689348814741910323 : Int64)) + ((((Int64.toUInt64 (a0 - ((((Int64.toUInt64 a0) >>> ((Int64.toUInt64 (Int32.toInt64 (1 : Int32))) &&& Int64.toUInt64 63)).toInt64) &&& (6148914691236517205 : Int64)))) >>> ((Int64.toUInt64 (Int32.toInt64 (2 : Int32))) &&& Int64.toUInt64 63)).toInt64) &&& (3689348814741910323 : Int64)))) >>> ((Int64.toUInt64 (Int32.toInt64 (4 : Int32))) &&& Int64.toUInt64 63)).toInt64)) &&& (1085102592571150095 : Int64)) + (((Int64.toUInt64 (((((a0 - ((((Int64.toUInt64 a0) >>> ((Int64.toUInt64 (Int32.toInt64 (1 : Int32))) &&& Int64.toUInt64 63)).toInt64) &&& (6148914691236517205 : Int64))) &&& (3689348814741910323 : Int64)) + ((((Int64.toUInt64 (a0 - ((((Int64.toUInt64 a0) >>> ((Int64.toUInt64 (Int32.toInt64 (1 : Int32))) &&& Int64.toUInt64 63)).toInt64) &&& (6148914691236517205 : Int64)))) >>> ((Int64.toUInt64 (Int32.toInt64 (2 : Int32))) &&& Int64.toUInt64 63)).toInt64) &&& (3689348814741910323 : Int64))) + (((Int64.toUInt64 (((a0 - ((((Int64.toUInt64 a0) >>> ((Int64.toUInt64 (Int32.toInt64 (1 : Int32))) &&& Int64.toUInt64 63)).toInt64) &&& (6148914691236517205 : Int64))) &&& (3689348814741910323 : Int64)) + ((((Int64.toUInt64 (a0 - ((((Int64.toUInt64 a0) >>> ((Int64.toUInt64 (Int32.toInt64 (1 : Int32))) &&& Int64.toUInt64 63)).toInt64) &&& (6148914691236517205 : Int64)))) >>> ((Int64.toUInt64 (Int32.toInt64 (2 : Int32))) &&& Int64.toUInt64 63)).toInt64) &&& (3689348814741910323 : Int64)))) >>> ((Int64.toUInt64 (Int32.toInt64 (4 : Int32))) &&& Int64.toUInt64 63)).toInt64)) &&& (1085102592571150095 : Int64))) >>> ((Int64.toUInt64 (Int32.toInt64 (8 : Int32))) &&& Int64.toUInt64 63)).toInt64)) + (((Int64.toUInt64 ((((((a0 - ((((Int64.toUInt64 a0) >>> ((Int64.toUInt64 (Int32.toInt64 (1 : Int32))) &&& Int64.toUInt64 63)).toInt64) &&& (6148914691236517205 : Int64))) &&& (3689348814741910323 : Int64)) + ((((Int64.toUInt64 (a0 - ((((Int64.toUInt64 a0) >>> ((Int64.toUInt64 (Int32.toInt64 (1 : Int32))) &&& Int64.toUInt64 63)).toInt64) &&& (6148914691236517205 : Int64)))) >>> ((Int64.toUInt64 (Int32.toInt64 (2 : Int32))) &&& Int64.toUInt64 63)).toInt64) &&& (3689348814741910323 : Int64))) + (((Int64.toUInt64 (((a0 - ((((Int64.toUInt64 a0) >>> ((Int64.toUInt64 (Int32.toInt64 (1 : Int32))) &&& Int64.toUInt64 63)).toInt64) &&& (6148914691236517205 : Int64))) &&& (3689348814741910323 : Int64)) + ((((Int64.toUInt64 (a0 - ((((Int64.toUInt64 a0) >>> ((Int64.toUInt64 (Int32.toInt64 (1 : Int32))) &&& Int64.toUInt64 63)).toInt64) &&& (6148914691236517205 : Int64)))) >>> ((Int64.toUInt64 (Int32.toInt64 (2 : Int32))) &&& Int64.toUInt64 63)).toInt64) &&& (3689348814741910323 : Int64)))) >>> ((Int64.toUInt64 (Int32.toInt64 (4 : Int32))) &&& Int64.toUInt64 63)).toInt64)) &&& (1085102592571150095 : Int64)) + (((Int64.toUInt64 (((((a0 - ((((Int64.toUInt64 a0) >>> ((Int64.toUInt64 (Int32.toInt64 (1 : Int32))) &&& Int64.toUInt64 63)).toInt64) &&& (6148914691236517205 : Int64))) &&& (3689348814741910323 : Int64)) + ((((Int64.toUInt64 (a0 - ((((Int64.toUInt64 a0) >>> ((Int64.toUInt64 (Int32.toInt64 (1 : Int32))) &&& Int64.toUInt64 63)).toInt64) &&& (6148914691236517205 : Int64)))) >>> ((Int64.toUInt64 (Int32.toInt64 (2 : Int32))) &&& Int64.toUInt64 63)).toInt64) &&& (3689348814741910323 : Int64))) + (((Int64.toUInt64 (((a0 - ((((Int64.toUInt64 a0) >>> ((Int64.toUInt64 (Int32.toInt64 (1 : Int32))) &&& Int64.toUInt64 63)).toInt64) &&& (6148914691236517205 : Int64))) &&& (3689348814741910323 : Int64)) + ((((Int64.toUInt64 (a0 - ((((Int64.toUInt64 a0) >>> ((Int64.toUInt64 (Int32.toInt64 (1 : Int32))) &&& Int64.toUInt64 63)).toInt64) &&& (6148914691236517205 : Int64)))) >>> ((Int64.toUInt64 (Int32.toInt64 (2 : Int32))) &&& Int64.toUInt64 63)).toInt64) &&& (3689348814741910323 : Int64)))) >>> ((Int64.toUInt64 (Int32.toInt64 (4 : Int32))) &&& Int64.toUInt64 63)).toInt64)) &&& (1085102592571150095 : Int64))) >>> ((Int64.toUInt64 (Int32.toInt64 (8 : Int32))) &&& Int64.toUInt64 63)).toInt64))) >>> ((Int64.toUInt64 (Int32.toInt64 (16 : Int32))) &&& Int64.toUInt64 63)).toInt64)) + (((Int64.toUInt64 (((((((a0 - ((((Int64.toUInt64 a0) >>> ((Int64.toUInt64 (Int32.toInt64 (1 : Int32))) &&& Int64.toUInt64 63)).toInt64) &&& (6148914691236517205 : Int64))) &&& (3689348814741910323 : Int64)) + ((((Int64.toUInt64 (a0 - ((((Int64.toUInt64 a0) >>> ((Int64.toUInt64 (Int32.toInt64 (1 : Int32))) &&& Int64.toUInt64 63)).toInt64) &&& (6148914691236517205 : Int64)))) >>> ((Int64.toUInt64 (Int32.toInt64 (2 : Int32))) &&& Int64.toUInt64 63)).toInt64) &&& (3689348814741910323 : Int64))) + (((Int64.toUInt64 (((a0 - ((((Int64.toUInt64 a0) >>> ((Int64.toUInt64 (Int32.toInt64 (1 : Int32))) &&& Int64.toUInt64 63)).toInt64) &&& (6148914691236517205 : Int64))) &&& (3689348814741910323 : Int64)) + ((((Int64.toUInt64 (a0 - ((((Int64.toUInt64 a0) >>> ((Int64.toUInt64 (Int32.toInt64 (1 : Int32))) &&& Int64.toUInt64 63)).toInt64) &&& (6148914691236517205 : Int64)))) >>> ((Int64.toUInt64 (Int32.toInt64 (2 : Int32))) &&& Int64.toUInt64 63)).toInt64) &&& (3689348814741910323 : Int64)))) >>> ((Int64.toUInt64 (Int32.toInt64 (4 : Int32))) &&& Int64.toUInt64 63)).toInt64)) &&& (1085102592571150095 : Int64)) + (((Int64.toUInt64 (((((a0 - ((((Int64.toUInt64 a0) >>> ((Int64.toUInt64 (Int32.toInt64 (1 : Int32))) &&& Int64.toUInt64 63)).toInt64) &&& (6148914691236517205 : Int64))) &&& (3689348814741910323 : Int64)) + ((((Int64.toUInt64 (a0 - ((((Int64.toUInt64 a0) >>> ((Int64.toUInt64 (Int32.toInt64 (1 : Int32))) &&& Int64.toUInt64 63)).toInt64) &&& (6148914691236517205 : Int64)))) >>> ((Int64.toUInt64 (Int32.toInt64 (2 : Int32))) &&& Int64.toUInt64 63)).toInt64) &&& (3689348814741910323 : Int64))) + (((Int64.toUInt64 (((a0 - ((((Int64.toUInt64 a0) >>> ((Int64.toUInt64 (Int32.toInt64 (1 : Int32))) &&& Int64.toUInt64 63)).toInt64) &&& (6148914691236517205 : Int64))) &&& (3689348814741910323 : Int64)) + ((((Int64.toUInt64 (a0 - ((((Int64.toUInt64 a0) >>> ((Int64.toUInt64 (Int32.toInt64 (1 : Int32))) &&& Int64.toUInt64 63)).toInt64) &&& (6148914691236517205 : Int64)))) >>> ((Int64.toUInt64 (Int32.toInt64 (2 : Int32))) &&& Int64.toUInt64 63)).toInt64) &&& (3689348814741910323 : Int64)))) >>> ((Int64.toUInt64 (Int32.toInt64 (4 : Int32))) &&& Int64.toUInt64 63)).toInt64)) &&& (1085102592571150095 : Int64))) >>> ((Int64.toUInt64 (Int32.toInt64 (8 : Int32))) &&& Int64.toUInt64 63)).toInt64)) + (((Int64.toUInt64 ((((((a0 - ((((Int64.toUInt64 a0) >>> ((Int64.toUInt64 (Int32.toInt64 (1 : Int32))) &&& Int64.toUInt64 63)).toInt64) &&& (6148914691236517205 : Int64))) &&& (3689348814741910323 : Int64)) + ((((Int64.toUInt64 (a0 - ((((Int64.toUInt64 a0) >>> ((Int64.toUInt64 (Int32.toInt64 (1 : Int32))) &&& Int64.toUInt64 63)).toInt64) &&& (6148914691236517205 : Int64)))) >>> ((Int64.toUInt64 (Int32.toInt64 (2 : Int32))) &&& Int64.toUInt64 63)).toInt64) &&& (3689348814741910323 : Int64))) + (((Int64.toUInt64 (((a0 - ((((Int64.toUInt64 a0) >>> ((Int64.toUInt64 (Int32.toInt64 (1 : Int32))) &&& Int64.toUInt64 63)).toInt64) &&& (6148914691236517205 : Int64))) &&& (3689348814741910323 : Int64)) + ((((Int64.toUInt64 (a0 - ((((Int64.toUInt64 a0) >>> ((Int64.toUInt64 (Int32.toInt64 (1 : Int32))) &&& Int64.toUInt64 63)).toInt64) &&& (6148914691236517205 : Int64)))) >>> ((Int64.toUInt64 (Int32.toInt64 (2 : Int32))) &&& Int64.toUInt64 63)).toInt64) &&& (3689348814741910323 : Int64)))) >>> ((Int64.toUInt64 (Int32.toInt64 (4 : Int32))) &&& Int64.toUInt64 63)).toInt64)) &&& (1085102592571150095 : Int64)) + (((Int64.toUInt64 (((((a0 - ((((Int64.toUInt64 a0) >>> ((Int64.toUInt64 (Int32.toInt64 (1 : Int32))) &&& Int64.toUInt64 63)).toInt64) &&& (6148914691236517205 : Int64))) &&& (3689348814741910323 : Int64)) + ((((Int64.toUInt64 (a0 - ((((Int64.toUInt64 a0) >>> ((Int64.toUInt64 (Int32.toInt64 (1 : Int32))) &&& Int64.toUInt64 63)).toInt64) &&& (6148914691236517205 : Int64)))) >>> ((Int64.toUInt64 (Int32.toInt64 (2 : Int32))) &&& Int64.toUInt64 63)).toInt64) &&& (3689348814741910323 : Int64))) + (((Int64.toUInt64 (((a0 - ((((Int64.toUInt64 a0) >>> ((Int64.toUInt64 (Int32.toInt64 (1 : Int32))) &&& Int64.toUInt64 63)).toInt64) &&& (6148914691236517205 : Int64))) &&& (3689348814741910323 : Int64)) + ((((Int64.toUInt64 (a0 - ((((Int64.toUInt64 a0) >>> ((Int64.toUInt64 (Int32.toInt64 (1 : Int32))) &&& Int64.toUInt64 63)).toInt64) &&& (6148914691236517205 : Int64)))) >>> ((Int64.toUInt64 (Int32.toInt64 (2 : Int32))) &&& Int64.toUInt64 63)).toInt64) &&& (3689348814741910323 : Int64)))) >>> ((Int64.toUInt64 (Int32.toInt64 (4 : Int32))) &&& Int64.toUInt64 63)).toInt64)) &&& (1085102592571150095 : Int64))) >>> ((Int64.toUInt64 (Int32.toInt64 (8 : Int32))) &&& Int64.toUInt64 63)).toInt64))) >>> ((Int64.toUInt64 (Int32.toInt64 (16 : Int32))) &&& Int64.toUInt64 63)).toInt64))) >>> ((Int64.toUInt64 (Int32.toInt64 (32 : Int32))) &&& Int64.toUInt64 63)).toInt64)))] h0 dJ13_bitCount_95d88_54 (by decide) rfl (n := 55) rfl ?_
  refine zr_lload_n h0 dJ13_bitCount_95d88_55 rfl (n := 56) rfl ?_
  refine zr_l2i h0 dJ13_bitCount_95d88_56 (n := 57) rfl ?_
  refine zr_bipush (127 : Int32) h0 (by decide) dJ13_bitCount_95d88_57 (n := 59) rfl ?_
  refine zr_iand h0 dJ13_bitCount_95d88_59 (n := 60) rfl ?_
  exact zr_iret h0 rfl dJ13_bitCount_95d88_60 (hE _) (by decide) (by decide)
theorem kJ13_bitCount_95d88 (l : Launch) (D : ZD) (z0 : Nat) (a0 : Int64) (S : ZS) (x : Int32) (hf : fJ13_bitCount_95d88 a0 = some x) : zMet l D z0 yJ13_bitCount_95d88 cJ13_bitCount_95d88 2 (some .int) rmJ13_bitCount_95d88 [.long a0] S (some (.int x)) S :=
  zMet_of (by decide) (Nat.le_of_ble_eq_true rfl) (fun G h0 hini hE => wJ13_bitCount_95d88 a0 S h0 (fun o => o = some x) (fun h => nomatch h) (fun v h => by cases h; exact hE)) hf
theorem dX3_replace_0 : decode cX3_replace 0 = .ok (.aload_n 0, 1) := by decide +kernel
theorem dX3_replace_1 : decode cX3_replace 1 = .ok (.getfield 11, 3) := by decide +kernel
theorem dX3_replace_4 : decode cX3_replace 4 = .ok (.iload_n 1, 1) := by decide +kernel
theorem dX3_replace_5 : decode cX3_replace 5 = .ok (.invokestatic 23, 3) := by decide +kernel
theorem dX3_replace_8 : decode cX3_replace 8 = .ok (.aload_n 0, 1) := by decide +kernel
theorem dX3_replace_9 : decode cX3_replace 9 = .ok (.getfield 11, 3) := by decide +kernel
theorem dX3_replace_12 : decode cX3_replace 12 = .ok (.iload_n 2, 1) := by decide +kernel
theorem dX3_replace_13 : decode cX3_replace 13 = .ok (.invokestatic 23, 3) := by decide +kernel
theorem dX3_replace_16 : decode cX3_replace 16 = .ok (.land, 1) := by decide +kernel
theorem dX3_replace_17 : decode cX3_replace 17 = .ok (.lstore_n 3, 1) := by decide +kernel
theorem dX3_replace_18 : decode cX3_replace 18 = .ok (.aload_n 0, 1) := by decide +kernel
theorem dX3_replace_19 : decode cX3_replace 19 = .ok (.getfield 11, 3) := by decide +kernel
theorem dX3_replace_22 : decode cX3_replace 22 = .ok (.iload_n 1, 1) := by decide +kernel
theorem dX3_replace_23 : decode cX3_replace 23 = .ok (.aload_n 0, 1) := by decide +kernel
theorem dX3_replace_24 : decode cX3_replace 24 = .ok (.getfield 11, 3) := by decide +kernel
theorem dX3_replace_27 : decode cX3_replace 27 = .ok (.iload_n 1, 1) := by decide +kernel
theorem dX3_replace_28 : decode cX3_replace 28 = .ok (.invokestatic 23, 3) := by decide +kernel
theorem dX3_replace_31 : decode cX3_replace 31 = .ok (.lload_n 3, 1) := by decide +kernel
theorem dX3_replace_32 : decode cX3_replace 32 = .ok (.ldc2_w 41, 3) := by decide +kernel
theorem dX3_replace_35 : decode cX3_replace 35 = .ok (.lxor, 1) := by decide +kernel
theorem dX3_replace_36 : decode cX3_replace 36 = .ok (.land, 1) := by decide +kernel
theorem dX3_replace_37 : decode cX3_replace 37 = .ok (.invokestatic 19, 3) := by decide +kernel
theorem dX3_replace_40 : decode cX3_replace 40 = .ok (.aload_n 0, 1) := by decide +kernel
theorem dX3_replace_41 : decode cX3_replace 41 = .ok (.getfield 11, 3) := by decide +kernel
theorem dX3_replace_44 : decode cX3_replace 44 = .ok (.iload_n 2, 1) := by decide +kernel
theorem dX3_replace_45 : decode cX3_replace 45 = .ok (.aload_n 0, 1) := by decide +kernel
theorem dX3_replace_46 : decode cX3_replace 46 = .ok (.getfield 11, 3) := by decide +kernel
theorem dX3_replace_49 : decode cX3_replace 49 = .ok (.iload_n 2, 1) := by decide +kernel
theorem dX3_replace_50 : decode cX3_replace 50 = .ok (.invokestatic 23, 3) := by decide +kernel
theorem dX3_replace_53 : decode cX3_replace 53 = .ok (.lload_n 3, 1) := by decide +kernel
theorem dX3_replace_54 : decode cX3_replace 54 = .ok (.ldc2_w 41, 3) := by decide +kernel
theorem dX3_replace_57 : decode cX3_replace 57 = .ok (.lxor, 1) := by decide +kernel
theorem dX3_replace_58 : decode cX3_replace 58 = .ok (.land, 1) := by decide +kernel
theorem dX3_replace_59 : decode cX3_replace 59 = .ok (.invokestatic 19, 3) := by decide +kernel
theorem dX3_replace_62 : decode cX3_replace 62 = .ok (.aload_n 0, 1) := by decide +kernel
theorem dX3_replace_63 : decode cX3_replace 63 = .ok (.lload_n 3, 1) := by decide +kernel
theorem dX3_replace_64 : decode cX3_replace 64 = .ok (.invokevirtual 43, 3) := by decide +kernel
theorem dX3_replace_67 : decode cX3_replace 67 = .ok (.return_, 1) := by decide +kernel
abbrev rmX3_replace : Room := { frames := 3, cells := 0, slots := 0, locals := 65 }
theorem zyX3_replace : zyOK yX3_replace 2 := ⟨by decide +kernel, by decide +kernel, by decide +kernel⟩
set_option maxHeartbeats 4000000 in
set_option maxRecDepth 100000 in
theorem wX3_replace {G : ZG} (a0 : Nat) (a1 : Int32) (a2 : Int32) (S : ZS) (h0 : zFix G cX3_replace RX3 5 none rmX3_replace) (C : Option ZS → Prop) (hC : ¬ C none) (hE : ∀ S1 : ZS, C (some S1) → zEnd G none S1 rmX3_replace) : zV G 5 S 0 0 0 [(0, .ref a0), (1, .int a1), (2, .int a2)] [] (C (fX3_replace a0 a1 a2 S)) := by
  unfold fX3_replace
  refine zr_aload_n h0 dX3_replace_0 rfl (n := 1) rfl ?_
  refine zr_getR C hC h0 zcX3 (k := 0) (by decide) zw_67 dX3_replace_1 (n := 4) rfl (fun v1 => ?_)
  refine zr_iload_n h0 dX3_replace_4 rfl (n := 5) rfl ?_
  refine zr_cRJ C hC 0 0 (fun x hx => zk_SN (host := "Bilinearium") h0 (fun l D z0 => kX5_getLong l D z0 v1 a1 S x hx) (by decide +kernel) zw_668 zw_1 zw_669 zyX5_getLong (As := [.ref v1, .int a1]) (st := []) rfl (by decide) rfl (Nat.le_of_ble_eq_true rfl) (by decide) dX3_replace_5) rfl rfl (n := 8) rfl (fun x2 => ?_)
  refine zr_aload_n h0 dX3_replace_8 rfl (n := 9) rfl ?_
  refine zr_getR C hC h0 zcX3 (k := 0) (by decide) zw_67 dX3_replace_9 (n := 12) rfl (fun v3 => ?_)
  refine zr_iload_n h0 dX3_replace_12 rfl (n := 13) rfl ?_
  refine zr_cRJ C hC 0 0 (fun x hx => zk_SN (host := "Bilinearium") h0 (fun l D z0 => kX5_getLong l D z0 v3 a2 S x hx) (by decide +kernel) zw_668 zw_1 zw_669 zyX5_getLong (As := [.ref v3, .int a2]) (st := [.long x2]) rfl (by decide) rfl (Nat.le_of_ble_eq_true rfl) (by decide) dX3_replace_13) rfl rfl (n := 16) rfl (fun x4 => ?_)
  refine zr_land h0 dX3_replace_16 (n := 17) rfl ?_
  refine zr_lstore_n [(0, .ref a0), (1, .int a1), (2, .int a2), (3, .long (x2 &&& x4))] h0 dX3_replace_17 (by decide) rfl (n := 18) rfl ?_
  refine zr_aload_n h0 dX3_replace_18 rfl (n := 19) rfl ?_
  refine zr_getR C hC h0 zcX3 (k := 0) (by decide) zw_67 dX3_replace_19 (n := 22) rfl (fun v5 => ?_)
  refine zr_iload_n h0 dX3_replace_22 rfl (n := 23) rfl ?_
  refine zr_aload_n h0 dX3_replace_23 rfl (n := 24) rfl ?_
  refine zr_getR C hC h0 zcX3 (k := 0) (by decide) zw_67 dX3_replace_24 (n := 27) rfl (fun v6 => ?_)
  refine zr_iload_n h0 dX3_replace_27 rfl (n := 28) rfl ?_
  refine zr_cRJ C hC 0 0 (fun x hx => zk_SN (host := "Bilinearium") h0 (fun l D z0 => kX5_getLong l D z0 v6 a1 S x hx) (by decide +kernel) zw_668 zw_1 zw_669 zyX5_getLong (As := [.ref v6, .int a1]) (st := [.int a1, .ref v5]) rfl (by decide) rfl (Nat.le_of_ble_eq_true rfl) (by decide) dX3_replace_28) rfl rfl (n := 31) rfl (fun x7 => ?_)
  refine zr_lload_n h0 dX3_replace_31 rfl (n := 32) rfl ?_
  refine zr_ldc2 h0 zw_778 dX3_replace_32 (n := 35) rfl ?_
  refine zr_lxor h0 dX3_replace_35 (n := 36) rfl ?_
  refine zr_land h0 dX3_replace_36 (n := 37) rfl ?_
  refine zr_cMV C hC 0 0 (fun x hx => zk_SN (host := "Bilinearium") h0 (fun l D z0 => kX5_putLong l D z0 v5 a1 (x7 &&& ((x2 &&& x4) ^^^ (-1 : Int64))) S x hx) (by decide +kernel) zw_655 zw_1 zw_656 zyX5_putLong (As := [.ref v5, .int a1, .long (x7 &&& ((x2 &&& x4) ^^^ (-1 : Int64)))]) (st := []) rfl (by decide) rfl (Nat.le_of_ble_eq_true rfl) (by decide) dX3_replace_37) rfl rfl (n := 40) rfl (fun x8 => ?_)
  refine zr_aload_n h0 dX3_replace_40 rfl (n := 41) rfl ?_
  refine zr_getR C hC h0 zcX3 (k := 0) (by decide) zw_67 dX3_replace_41 (n := 44) rfl (fun v9 => ?_)
  refine zr_iload_n h0 dX3_replace_44 rfl (n := 45) rfl ?_
  refine zr_aload_n h0 dX3_replace_45 rfl (n := 46) rfl ?_
  refine zr_getR C hC h0 zcX3 (k := 0) (by decide) zw_67 dX3_replace_46 (n := 49) rfl (fun v10 => ?_)
  refine zr_iload_n h0 dX3_replace_49 rfl (n := 50) rfl ?_
  refine zr_cRJ C hC 0 0 (fun x hx => zk_SN (host := "Bilinearium") h0 (fun l D z0 => kX5_getLong l D z0 v10 a2 x8 x hx) (by decide +kernel) zw_668 zw_1 zw_669 zyX5_getLong (As := [.ref v10, .int a2]) (st := [.int a2, .ref v9]) rfl (by decide) rfl (Nat.le_of_ble_eq_true rfl) (by decide) dX3_replace_50) rfl rfl (n := 53) rfl (fun x11 => ?_)
  refine zr_lload_n h0 dX3_replace_53 rfl (n := 54) rfl ?_
  refine zr_ldc2 h0 zw_778 dX3_replace_54 (n := 57) rfl ?_
  refine zr_lxor h0 dX3_replace_57 (n := 58) rfl ?_
  refine zr_land h0 dX3_replace_58 (n := 59) rfl ?_
  refine zr_cMV C hC 0 0 (fun x hx => zk_SN (host := "Bilinearium") h0 (fun l D z0 => kX5_putLong l D z0 v9 a2 (x11 &&& ((x2 &&& x4) ^^^ (-1 : Int64))) x8 x hx) (by decide +kernel) zw_655 zw_1 zw_656 zyX5_putLong (As := [.ref v9, .int a2, .long (x11 &&& ((x2 &&& x4) ^^^ (-1 : Int64)))]) (st := []) rfl (by decide) rfl (Nat.le_of_ble_eq_true rfl) (by decide) dX3_replace_59) rfl rfl (n := 62) rfl (fun x12 => ?_)
  refine zr_aload_n h0 dX3_replace_62 rfl (n := 63) rfl ?_
  refine zr_lload_n h0 dX3_replace_63 rfl (n := 64) rfl ?_
  refine zr_cMV C hC 0 0 (fun x hx => zk_V h0 zcX3 (zcl_ex hx) (fun l D z0 => kX3_append l D z0 a0 (x2 &&& x4) x12 x (zcl_of hx)) zw_779 zw_751 zw_752 zw_4 zw_753 rfl zyX3_append (As := [.long (x2 &&& x4)]) (st := []) rfl (by decide) rfl (Nat.le_of_ble_eq_true rfl) (by decide) dX3_replace_64) rfl rfl (n := 67) rfl (fun x13 => ?_)
  exact zr_vret h0 rfl dX3_replace_67 (fun h => hE _ h) (by decide) (by decide)
theorem kX3_replace (l : Launch) (D : ZD) (z0 : Nat) (a0 : Nat) (a1 : Int32) (a2 : Int32) (S : ZS) (x : ZS) (hf : fX3_replace a0 a1 a2 S = some x) : zMet l D z0 yX3_replace cX3_replace 5 none rmX3_replace [.ref a0, .int a1, .int a2] S none x :=
  zMet_of (by decide) (Nat.le_of_ble_eq_true rfl) (fun G h0 hini hE => wX3_replace a0 a1 a2 S h0 (fun o => o = some x) (fun h => nomatch h) (fun S1 h => by cases h; exact hE)) hf
theorem dX3_shareBestPair_0 : decode cX3_shareBestPair 0 = .ok (.iconst (-1), 1) := by decide +kernel
theorem dX3_shareBestPair_1 : decode cX3_shareBestPair 1 = .ok (.istore_n 1, 1) := by decide +kernel
theorem dX3_shareBestPair_2 : decode cX3_shareBestPair 2 = .ok (.iconst (-1), 1) := by decide +kernel
theorem dX3_shareBestPair_3 : decode cX3_shareBestPair 3 = .ok (.istore_n 2, 1) := by decide +kernel
theorem dX3_shareBestPair_4 : decode cX3_shareBestPair 4 = .ok (.iconst 1, 1) := by decide +kernel
theorem dX3_shareBestPair_5 : decode cX3_shareBestPair 5 = .ok (.istore_n 3, 1) := by decide +kernel
theorem dX3_shareBestPair_6 : decode cX3_shareBestPair 6 = .ok (.iconst 0, 1) := by decide +kernel
theorem dX3_shareBestPair_7 : decode cX3_shareBestPair 7 = .ok (.istore 4, 2) := by decide +kernel
theorem dX3_shareBestPair_9 : decode cX3_shareBestPair 9 = .ok (.iload 4, 2) := by decide +kernel
theorem dX3_shareBestPair_11 : decode cX3_shareBestPair 11 = .ok (.aload_n 0, 1) := by decide +kernel
theorem dX3_shareBestPair_12 : decode cX3_shareBestPair 12 = .ok (.getfield 15, 3) := by decide +kernel
theorem dX3_shareBestPair_15 : decode cX3_shareBestPair 15 = .ok (.if_icmp .ge 82, 3) := by decide +kernel
theorem dX3_shareBestPair_18 : decode cX3_shareBestPair 18 = .ok (.aload_n 0, 1) := by decide +kernel
theorem dX3_shareBestPair_19 : decode cX3_shareBestPair 19 = .ok (.getfield 11, 3) := by decide +kernel
theorem dX3_shareBestPair_22 : decode cX3_shareBestPair 22 = .ok (.iload 4, 2) := by decide +kernel
theorem dX3_shareBestPair_24 : decode cX3_shareBestPair 24 = .ok (.invokestatic 23, 3) := by decide +kernel
theorem dX3_shareBestPair_27 : decode cX3_shareBestPair 27 = .ok (.lstore 5, 2) := by decide +kernel
theorem dX3_shareBestPair_29 : decode cX3_shareBestPair 29 = .ok (.iload 4, 2) := by decide +kernel
theorem dX3_shareBestPair_31 : decode cX3_shareBestPair 31 = .ok (.iconst 1, 1) := by decide +kernel
theorem dX3_shareBestPair_32 : decode cX3_shareBestPair 32 = .ok (.iadd, 1) := by decide +kernel
theorem dX3_shareBestPair_33 : decode cX3_shareBestPair 33 = .ok (.istore 7, 2) := by decide +kernel
theorem dX3_shareBestPair_35 : decode cX3_shareBestPair 35 = .ok (.iload 7, 2) := by decide +kernel
theorem dX3_shareBestPair_37 : decode cX3_shareBestPair 37 = .ok (.aload_n 0, 1) := by decide +kernel
theorem dX3_shareBestPair_38 : decode cX3_shareBestPair 38 = .ok (.getfield 15, 3) := by decide +kernel
theorem dX3_shareBestPair_41 : decode cX3_shareBestPair 41 = .ok (.if_icmp .ge 50, 3) := by decide +kernel
theorem dX3_shareBestPair_44 : decode cX3_shareBestPair 44 = .ok (.lload 5, 2) := by decide +kernel
theorem dX3_shareBestPair_46 : decode cX3_shareBestPair 46 = .ok (.invokestatic 27, 3) := by decide +kernel
theorem dX3_shareBestPair_49 : decode cX3_shareBestPair 49 = .ok (.iload_n 3, 1) := by decide +kernel
theorem dX3_shareBestPair_50 : decode cX3_shareBestPair 50 = .ok (.if_icmp .le 41, 3) := by decide +kernel
theorem dX3_shareBestPair_53 : decode cX3_shareBestPair 53 = .ok (.lload 5, 2) := by decide +kernel
theorem dX3_shareBestPair_55 : decode cX3_shareBestPair 55 = .ok (.aload_n 0, 1) := by decide +kernel
theorem dX3_shareBestPair_56 : decode cX3_shareBestPair 56 = .ok (.getfield 11, 3) := by decide +kernel
theorem dX3_shareBestPair_59 : decode cX3_shareBestPair 59 = .ok (.iload 7, 2) := by decide +kernel
theorem dX3_shareBestPair_61 : decode cX3_shareBestPair 61 = .ok (.invokestatic 23, 3) := by decide +kernel
theorem dX3_shareBestPair_64 : decode cX3_shareBestPair 64 = .ok (.land, 1) := by decide +kernel
theorem dX3_shareBestPair_65 : decode cX3_shareBestPair 65 = .ok (.invokestatic 27, 3) := by decide +kernel
theorem dX3_shareBestPair_68 : decode cX3_shareBestPair 68 = .ok (.istore 8, 2) := by decide +kernel
theorem dX3_shareBestPair_70 : decode cX3_shareBestPair 70 = .ok (.iload 8, 2) := by decide +kernel
theorem dX3_shareBestPair_72 : decode cX3_shareBestPair 72 = .ok (.iload_n 3, 1) := by decide +kernel
theorem dX3_shareBestPair_73 : decode cX3_shareBestPair 73 = .ok (.if_icmp .le 12, 3) := by decide +kernel
theorem dX3_shareBestPair_76 : decode cX3_shareBestPair 76 = .ok (.iload 4, 2) := by decide +kernel
theorem dX3_shareBestPair_78 : decode cX3_shareBestPair 78 = .ok (.istore_n 1, 1) := by decide +kernel
theorem dX3_shareBestPair_79 : decode cX3_shareBestPair 79 = .ok (.iload 7, 2) := by decide +kernel
theorem dX3_shareBestPair_81 : decode cX3_shareBestPair 81 = .ok (.istore_n 2, 1) := by decide +kernel
theorem dX3_shareBestPair_82 : decode cX3_shareBestPair 82 = .ok (.iload 8, 2) := by decide +kernel
theorem dX3_shareBestPair_84 : decode cX3_shareBestPair 84 = .ok (.istore_n 3, 1) := by decide +kernel
theorem dX3_shareBestPair_85 : decode cX3_shareBestPair 85 = .ok (.iinc 7 1, 3) := by decide +kernel
theorem dX3_shareBestPair_88 : decode cX3_shareBestPair 88 = .ok (.goto (-53), 3) := by decide +kernel
theorem dX3_shareBestPair_91 : decode cX3_shareBestPair 91 = .ok (.iinc 4 1, 3) := by decide +kernel
theorem dX3_shareBestPair_94 : decode cX3_shareBestPair 94 = .ok (.goto (-85), 3) := by decide +kernel
theorem dX3_shareBestPair_97 : decode cX3_shareBestPair 97 = .ok (.iload_n 1, 1) := by decide +kernel
theorem dX3_shareBestPair_98 : decode cX3_shareBestPair 98 = .ok (.iconst (-1), 1) := by decide +kernel
theorem dX3_shareBestPair_99 : decode cX3_shareBestPair 99 = .ok (.if_icmp .ne 5, 3) := by decide +kernel
theorem dX3_shareBestPair_102 : decode cX3_shareBestPair 102 = .ok (.iconst 0, 1) := by decide +kernel
theorem dX3_shareBestPair_103 : decode cX3_shareBestPair 103 = .ok (.ireturn, 1) := by decide +kernel
theorem dX3_shareBestPair_104 : decode cX3_shareBestPair 104 = .ok (.aload_n 0, 1) := by decide +kernel
theorem dX3_shareBestPair_105 : decode cX3_shareBestPair 105 = .ok (.iload_n 1, 1) := by decide +kernel
theorem dX3_shareBestPair_106 : decode cX3_shareBestPair 106 = .ok (.iload_n 2, 1) := by decide +kernel
theorem dX3_shareBestPair_107 : decode cX3_shareBestPair 107 = .ok (.invokevirtual 37, 3) := by decide +kernel
theorem dX3_shareBestPair_110 : decode cX3_shareBestPair 110 = .ok (.iconst 1, 1) := by decide +kernel
theorem dX3_shareBestPair_111 : decode cX3_shareBestPair 111 = .ok (.ireturn, 1) := by decide +kernel
abbrev rmX3_shareBestPair : Room := { frames := 4, cells := 0, slots := 0, locals := 89 }
theorem zyX3_shareBestPair : zyOK yX3_shareBestPair 0 := ⟨by decide +kernel, by decide +kernel, by decide +kernel⟩
set_option maxHeartbeats 4000000 in
set_option maxRecDepth 100000 in
theorem wX3_shareBestPair {G : ZG} (a0 : Nat) (S : ZS) (h0 : zFix G cX3_shareBestPair RX3 9 (some .boolean) rmX3_shareBestPair) (C : Option (Int32 × ZS) → Prop) (hC : ¬ C none) (hE : ∀ (v : Int32) (S1 : ZS), C (some (v, S1)) → zEnd G (some (.int v)) S1 rmX3_shareBestPair) : zV G 9 S 0 0 0 [(0, .ref a0)] [] (C (fX3_shareBestPair a0 S)) := by
  unfold fX3_shareBestPair
  refine zr_iconst (-1 : Int32) h0 (by decide) dX3_shareBestPair_0 (n := 1) rfl ?_
  refine zr_istore_n [(0, .ref a0), (1, .int (-1 : Int32))] h0 dX3_shareBestPair_1 (by decide) rfl (n := 2) rfl ?_
  refine zr_iconst (-1 : Int32) h0 (by decide) dX3_shareBestPair_2 (n := 3) rfl ?_
  refine zr_istore_n [(0, .ref a0), (1, .int (-1 : Int32)), (2, .int (-1 : Int32))] h0 dX3_shareBestPair_3 (by decide) rfl (n := 4) rfl ?_
  refine zr_iconst (1 : Int32) h0 (by decide) dX3_shareBestPair_4 (n := 5) rfl ?_
  refine zr_istore_n [(0, .ref a0), (1, .int (-1 : Int32)), (2, .int (-1 : Int32)), (3, .int (1 : Int32))] h0 dX3_shareBestPair_5 (by decide) rfl (n := 6) rfl ?_
  refine zr_iconst (0 : Int32) h0 (by decide) dX3_shareBestPair_6 (n := 7) rfl ?_
  refine zr_istore [(0, .ref a0), (1, .int (-1 : Int32)), (2, .int (-1 : Int32)), (3, .int (1 : Int32)), (4, .int (0 : Int32))] h0 dX3_shareBestPair_7 (by decide) rfl (n := 9) rfl ?_
  refine zr_loop hC (fX3_shareBestPair_B9 a0 S) (fun y => [(0, .ref a0), (1, .int y.1), (2, .int y.2.1), (3, .int y.2.2.1), (4, .int y.2.2.2)]) (fun y => S) zF ((-1 : Int32), (-1 : Int32), (1 : Int32), (0 : Int32)) (fun C9 hC9 hX9 hL9 t9 => ?_)
  have J91 : ∀ (l1_91 : Int32) (l2_91 : Int32) (l3_91 : Int32) (l4_91 : Int32), zV G 9 S 0 0 91 [(0, .ref a0), (1, .int l1_91), (2, .int l2_91), (3, .int l3_91), (4, .int l4_91)] [] (C9 (fX3_shareBestPair_J91 a0 l1_91 l2_91 l3_91 l4_91 S)) := by
    intro l1_91 l2_91 l3_91 l4_91
    unfold fX3_shareBestPair_J91
    refine zr_iinc (1 : Int32) [(0, .ref a0), (1, .int l1_91), (2, .int l2_91), (3, .int l3_91), (4, .int (l4_91 + (1 : Int32)))] h0 dX3_shareBestPair_91 rfl (by decide) rfl rfl (n := 94) rfl ?_
    refine zr_goto (tgt := 9) h0 dX3_shareBestPair_94 (by decide) ?_
    exact hL9 (l1_91, l2_91, l3_91, l4_91 + (1 : Int32))
  unfold fX3_shareBestPair_B9
  refine zr_iload h0 dX3_shareBestPair_9 rfl (n := 11) rfl ?_
  refine zr_aload_n h0 dX3_shareBestPair_11 rfl (n := 12) rfl ?_
  refine zr_getI C9 hC9 h0 zcX3 (k := 1) (by decide) zw_68 dX3_shareBestPair_12 (n := 15) rfl (fun v15 => ?_)
  refine zr_icmp_ge C9 (tgt := 97) h0 dX3_shareBestPair_15 (by decide) (n := 18) rfl ?_ ?_
  · refine zr_ex hX9 ?_
    refine zv_sub (lv' := [(0, .ref a0), (1, .int t9.1), (2, .int t9.2.1)]) ?_ (zsub_of [0, 1, 2] rfl)
    refine zr_iload_n h0 dX3_shareBestPair_97 rfl (n := 98) rfl ?_
    refine zr_iconst (-1 : Int32) h0 (by decide) dX3_shareBestPair_98 (n := 99) rfl ?_
    refine zr_icmp_ne C (tgt := 104) h0 dX3_shareBestPair_99 (by decide) (n := 102) rfl ?_ ?_
    · refine zv_sub (lv' := []) ?_ (zsub_of [] rfl)
      refine zr_iconst (0 : Int32) h0 (by decide) dX3_shareBestPair_102 (n := 103) rfl ?_
      exact zr_zret0 h0 rfl rfl dX3_shareBestPair_103 (hE _ _) (by decide) (by decide)
    · refine zr_aload_n h0 dX3_shareBestPair_104 rfl (n := 105) rfl ?_
      refine zr_iload_n h0 dX3_shareBestPair_105 rfl (n := 106) rfl ?_
      refine zr_iload_n h0 dX3_shareBestPair_106 rfl (n := 107) rfl ?_
      refine zr_cMV C hC 0 0 (fun x hx => zk_V h0 zcX3 (zcl_ex hx) (fun l D z0 => kX3_replace l D z0 a0 t9.1 t9.2.1 S x (zcl_of hx)) zw_774 zw_776 zs_31 zw_4 zw_777 rfl zyX3_replace (As := [.int t9.1, .int t9.2.1]) (st := []) rfl (by decide) rfl (Nat.le_of_ble_eq_true rfl) (by decide) dX3_shareBestPair_107) rfl rfl (n := 110) rfl (fun x16 => ?_)
      refine zr_iconst (1 : Int32) h0 (by decide) dX3_shareBestPair_110 (n := 111) rfl ?_
      exact zr_zret0 h0 rfl rfl dX3_shareBestPair_111 (hE _ _) (by decide) (by decide)
  · refine zr_aload_n h0 dX3_shareBestPair_18 rfl (n := 19) rfl ?_
    refine zr_getR C9 hC9 h0 zcX3 (k := 0) (by decide) zw_67 dX3_shareBestPair_19 (n := 22) rfl (fun v17 => ?_)
    refine zr_iload h0 dX3_shareBestPair_22 rfl (n := 24) rfl ?_
    refine zr_cRJ C9 hC9 0 0 (fun x hx => zk_SN (host := "Bilinearium") h0 (fun l D z0 => kX5_getLong l D z0 v17 t9.2.2.2 S x hx) (by decide +kernel) zw_668 zw_1 zw_669 zyX5_getLong (As := [.ref v17, .int t9.2.2.2]) (st := []) rfl (by decide) rfl (Nat.le_of_ble_eq_true rfl) (by decide) dX3_shareBestPair_24) rfl rfl (n := 27) rfl (fun x18 => ?_)
    refine zr_lstore [(0, .ref a0), (1, .int t9.1), (2, .int t9.2.1), (3, .int t9.2.2.1), (4, .int t9.2.2.2), (5, .long x18)] h0 dX3_shareBestPair_27 (by decide) rfl (n := 29) rfl ?_
    refine zr_iload h0 dX3_shareBestPair_29 rfl (n := 31) rfl ?_
    refine zr_iconst (1 : Int32) h0 (by decide) dX3_shareBestPair_31 (n := 32) rfl ?_
    refine zr_iadd h0 dX3_shareBestPair_32 (n := 33) rfl ?_
    refine zr_istore [(0, .ref a0), (1, .int t9.1), (2, .int t9.2.1), (3, .int t9.2.2.1), (4, .int t9.2.2.2), (5, .long x18), (7, .int (t9.2.2.2 + (1 : Int32)))] h0 dX3_shareBestPair_33 (by decide) rfl (n := 35) rfl ?_
    refine zr_loop hC9 (fX3_shareBestPair_B35 a0 t9.2.2.2 x18 S) (fun y => [(0, .ref a0), (1, .int y.1), (2, .int y.2.1), (3, .int y.2.2.1), (4, .int t9.2.2.2), (5, .long x18), (7, .int y.2.2.2)]) (fun y => S) zF (t9.1, t9.2.1, t9.2.2.1, t9.2.2.2 + (1 : Int32)) (fun C35 hC35 hX35 hL35 t35 => ?_)
    have J85 : ∀ (l1_85 : Int32) (l2_85 : Int32) (l3_85 : Int32) (l7_85 : Int32), zV G 9 S 0 0 85 [(0, .ref a0), (1, .int l1_85), (2, .int l2_85), (3, .int l3_85), (4, .int t9.2.2.2), (5, .long x18), (7, .int l7_85)] [] (C35 (fX3_shareBestPair_J85 a0 l1_85 l2_85 l3_85 t9.2.2.2 x18 l7_85 S)) := by
      intro l1_85 l2_85 l3_85 l7_85
      unfold fX3_shareBestPair_J85
      refine zr_iinc (1 : Int32) [(0, .ref a0), (1, .int l1_85), (2, .int l2_85), (3, .int l3_85), (4, .int t9.2.2.2), (5, .long x18), (7, .int (l7_85 + (1 : Int32)))] h0 dX3_shareBestPair_85 rfl (by decide) rfl rfl (n := 88) rfl ?_
      refine zr_goto (tgt := 35) h0 dX3_shareBestPair_88 (by decide) ?_
      exact hL35 (l1_85, l2_85, l3_85, l7_85 + (1 : Int32))
    unfold fX3_shareBestPair_B35
    refine zr_iload h0 dX3_shareBestPair_35 rfl (n := 37) rfl ?_
    refine zr_aload_n h0 dX3_shareBestPair_37 rfl (n := 38) rfl ?_
    refine zr_getI C35 hC35 h0 zcX3 (k := 1) (by decide) zw_68 dX3_shareBestPair_38 (n := 41) rfl (fun v19 => ?_)
    refine zr_icmp_ge C35 (tgt := 91) h0 dX3_shareBestPair_41 (by decide) (n := 44) rfl ?_ ?_
    · refine zr_ex hX35 ?_
      refine zv_sub (lv' := [(0, .ref a0), (1, .int t35.1), (2, .int t35.2.1), (3, .int t35.2.2.1), (4, .int t9.2.2.2)]) ?_ (zsub_of [0, 1, 2, 3, 4] rfl)
      exact J91 t35.1 t35.2.1 t35.2.2.1 t9.2.2.2
    · refine zr_lload h0 dX3_shareBestPair_44 rfl (n := 46) rfl ?_
      refine zr_cRI C35 hC35 0 0 (fun x hx => zk_S h0 (fun l D z0 => kJ13_bitCount_95d88 l D z0 x18 S x hx) zw_768 zw_769 zw_14 zw_770 zyJ13_bitCount_95d88 (As := [.long x18]) (st := []) rfl (by decide) rfl (Nat.le_of_ble_eq_true rfl) (by decide) dX3_shareBestPair_46) rfl rfl (n := 49) rfl (fun x20 => ?_)
      refine zr_iload_n h0 dX3_shareBestPair_49 rfl (n := 50) rfl ?_
      refine zr_icmp_le C35 (tgt := 91) h0 dX3_shareBestPair_50 (by decide) (n := 53) rfl ?_ ?_
      · refine zr_ex hX35 ?_
        refine zv_sub (lv' := [(0, .ref a0), (1, .int t35.1), (2, .int t35.2.1), (3, .int t35.2.2.1), (4, .int t9.2.2.2)]) ?_ (zsub_of [0, 1, 2, 3, 4] rfl)
        exact J91 t35.1 t35.2.1 t35.2.2.1 t9.2.2.2
      · refine zr_lload h0 dX3_shareBestPair_53 rfl (n := 55) rfl ?_
        refine zr_aload_n h0 dX3_shareBestPair_55 rfl (n := 56) rfl ?_
        refine zr_getR C35 hC35 h0 zcX3 (k := 0) (by decide) zw_67 dX3_shareBestPair_56 (n := 59) rfl (fun v21 => ?_)
        refine zr_iload h0 dX3_shareBestPair_59 rfl (n := 61) rfl ?_
        refine zr_cRJ C35 hC35 0 0 (fun x hx => zk_SN (host := "Bilinearium") h0 (fun l D z0 => kX5_getLong l D z0 v21 t35.2.2.2 S x hx) (by decide +kernel) zw_668 zw_1 zw_669 zyX5_getLong (As := [.ref v21, .int t35.2.2.2]) (st := [.long x18]) rfl (by decide) rfl (Nat.le_of_ble_eq_true rfl) (by decide) dX3_shareBestPair_61) rfl rfl (n := 64) rfl (fun x22 => ?_)
        refine zr_land h0 dX3_shareBestPair_64 (n := 65) rfl ?_
        refine zr_cRI C35 hC35 0 0 (fun x hx => zk_S h0 (fun l D z0 => kJ13_bitCount_95d88 l D z0 (x18 &&& x22) S x hx) zw_768 zw_769 zw_14 zw_770 zyJ13_bitCount_95d88 (As := [.long (x18 &&& x22)]) (st := []) rfl (by decide) rfl (Nat.le_of_ble_eq_true rfl) (by decide) dX3_shareBestPair_65) rfl rfl (n := 68) rfl (fun x23 => ?_)
        refine zr_istore [(0, .ref a0), (1, .int t35.1), (2, .int t35.2.1), (3, .int t35.2.2.1), (4, .int t9.2.2.2), (5, .long x18), (7, .int t35.2.2.2), (8, .int x23)] h0 dX3_shareBestPair_68 (by decide) rfl (n := 70) rfl ?_
        refine zr_iload h0 dX3_shareBestPair_70 rfl (n := 72) rfl ?_
        refine zr_iload_n h0 dX3_shareBestPair_72 rfl (n := 73) rfl ?_
        refine zr_icmp_le C35 (tgt := 85) h0 dX3_shareBestPair_73 (by decide) (n := 76) rfl ?_ ?_
        · refine zv_sub (lv' := [(0, .ref a0), (1, .int t35.1), (2, .int t35.2.1), (3, .int t35.2.2.1), (4, .int t9.2.2.2), (5, .long x18), (7, .int t35.2.2.2)]) ?_ (zsub_of [0, 1, 2, 3, 4, 5, 6] rfl)
          exact J85 t35.1 t35.2.1 t35.2.2.1 t35.2.2.2
        · refine zv_sub (lv' := [(0, .ref a0), (4, .int t9.2.2.2), (5, .long x18), (7, .int t35.2.2.2), (8, .int x23)]) ?_ (zsub_of [0, 4, 5, 6, 7] rfl)
          refine zr_iload h0 dX3_shareBestPair_76 rfl (n := 78) rfl ?_
          refine zr_istore_n [(0, .ref a0), (1, .int t9.2.2.2), (4, .int t9.2.2.2), (5, .long x18), (7, .int t35.2.2.2), (8, .int x23)] h0 dX3_shareBestPair_78 (by decide) rfl (n := 79) rfl ?_
          refine zr_iload h0 dX3_shareBestPair_79 rfl (n := 81) rfl ?_
          refine zr_istore_n [(0, .ref a0), (1, .int t9.2.2.2), (2, .int t35.2.2.2), (4, .int t9.2.2.2), (5, .long x18), (7, .int t35.2.2.2), (8, .int x23)] h0 dX3_shareBestPair_81 (by decide) rfl (n := 82) rfl ?_
          refine zr_iload h0 dX3_shareBestPair_82 rfl (n := 84) rfl ?_
          refine zr_istore_n [(0, .ref a0), (1, .int t9.2.2.2), (2, .int t35.2.2.2), (3, .int x23), (4, .int t9.2.2.2), (5, .long x18), (7, .int t35.2.2.2), (8, .int x23)] h0 dX3_shareBestPair_84 (by decide) rfl (n := 85) rfl ?_
          refine zv_sub (lv' := [(0, .ref a0), (1, .int t9.2.2.2), (2, .int t35.2.2.2), (3, .int x23), (4, .int t9.2.2.2), (5, .long x18), (7, .int t35.2.2.2)]) ?_ (zsub_of [0, 1, 2, 3, 4, 5, 6] rfl)
          exact J85 t9.2.2.2 t35.2.2.2 x23 t35.2.2.2
theorem kX3_shareBestPair (l : Launch) (D : ZD) (z0 : Nat) (a0 : Nat) (S : ZS) (x : Int32 × ZS) (hf : fX3_shareBestPair a0 S = some x) : zMet l D z0 yX3_shareBestPair cX3_shareBestPair 9 (some .boolean) rmX3_shareBestPair [.ref a0] S (some (.int x.1)) x.2 :=
  zMet_of (by decide) (Nat.le_of_ble_eq_true rfl) (fun G h0 hini hE => wX3_shareBestPair a0 S h0 (fun o => o = some x) (fun h => nomatch h) (fun v S1 h => by cases h; exact hE)) hf
theorem dX3_sharePairs_0 : decode cX3_sharePairs 0 = .ok (.iconst 0, 1) := by decide +kernel
theorem dX3_sharePairs_1 : decode cX3_sharePairs 1 = .ok (.istore_n 1, 1) := by decide +kernel
theorem dX3_sharePairs_2 : decode cX3_sharePairs 2 = .ok (.iload_n 1, 1) := by decide +kernel
theorem dX3_sharePairs_3 : decode cX3_sharePairs 3 = .ok (.bipush 80, 2) := by decide +kernel
theorem dX3_sharePairs_5 : decode cX3_sharePairs 5 = .ok (.if_icmp .ge 16, 3) := by decide +kernel
theorem dX3_sharePairs_8 : decode cX3_sharePairs 8 = .ok (.aload_n 0, 1) := by decide +kernel
theorem dX3_sharePairs_9 : decode cX3_sharePairs 9 = .ok (.invokevirtual 33, 3) := by decide +kernel
theorem dX3_sharePairs_12 : decode cX3_sharePairs 12 = .ok (.ifCond .eq 9, 3) := by decide +kernel
theorem dX3_sharePairs_15 : decode cX3_sharePairs 15 = .ok (.iinc 1 1, 3) := by decide +kernel
theorem dX3_sharePairs_18 : decode cX3_sharePairs 18 = .ok (.goto (-16), 3) := by decide +kernel
theorem dX3_sharePairs_21 : decode cX3_sharePairs 21 = .ok (.iload_n 1, 1) := by decide +kernel
theorem dX3_sharePairs_22 : decode cX3_sharePairs 22 = .ok (.ireturn, 1) := by decide +kernel
abbrev rmX3_sharePairs : Room := { frames := 5, cells := 0, slots := 0, locals := 117 }
theorem zyX3_sharePairs : zyOK yX3_sharePairs 0 := ⟨by decide +kernel, by decide +kernel, by decide +kernel⟩
set_option maxHeartbeats 4000000 in
set_option maxRecDepth 100000 in
theorem wX3_sharePairs {G : ZG} (a0 : Nat) (S : ZS) (h0 : zFix G cX3_sharePairs RX3 2 (some .int) rmX3_sharePairs) (C : Option (Int32 × ZS) → Prop) (hC : ¬ C none) (hE : ∀ (v : Int32) (S1 : ZS), C (some (v, S1)) → zEnd G (some (.int v)) S1 rmX3_sharePairs) : zV G 2 S 0 0 0 [(0, .ref a0)] [] (C (fX3_sharePairs a0 S)) := by
  have J21 : ∀ (l1_21 : Int32) (S_21 : ZS), zV G 2 S_21 0 0 21 [(1, .int l1_21)] [] (C (fX3_sharePairs_J21 l1_21 S_21)) := by
    intro l1_21 S_21
    unfold fX3_sharePairs_J21
    refine zr_iload_n h0 dX3_sharePairs_21 rfl (n := 22) rfl ?_
    exact zr_iret h0 rfl dX3_sharePairs_22 (hE _ _) (by decide) (by decide)
  unfold fX3_sharePairs
  refine zr_iconst (0 : Int32) h0 (by decide) dX3_sharePairs_0 (n := 1) rfl ?_
  refine zr_istore_n [(0, .ref a0), (1, .int (0 : Int32))] h0 dX3_sharePairs_1 (by decide) rfl (n := 2) rfl ?_
  refine zr_loop hC (fX3_sharePairs_B2 a0) (fun y => [(0, .ref a0), (1, .int y.1)]) (fun y => y.2) zF ((0 : Int32), S) (fun C2 hC2 hX2 hL2 t2 => ?_)
  unfold fX3_sharePairs_B2
  refine zr_iload_n h0 dX3_sharePairs_2 rfl (n := 3) rfl ?_
  refine zr_bipush (80 : Int32) h0 (by decide) dX3_sharePairs_3 (n := 5) rfl ?_
  refine zr_icmp_ge C2 (tgt := 21) h0 dX3_sharePairs_5 (by decide) (n := 8) rfl ?_ ?_
  · refine zr_ex hX2 ?_
    refine zv_sub (lv' := [(1, .int t2.1)]) ?_ (zsub_of [1] rfl)
    exact J21 t2.1 t2.2
  · refine zr_aload_n h0 dX3_sharePairs_8 rfl (n := 9) rfl ?_
    refine zr_cMI C2 hC2 0 0 (fun x hx => zk_V h0 zcX3 (zcl_ex hx) (fun l D z0 => kX3_shareBestPair l D z0 a0 t2.2 x (zcl_of hx)) zw_763 zw_765 zs_30 zw_4 zw_766 rfl zyX3_shareBestPair (As := []) (st := []) rfl (by decide) rfl (Nat.le_of_ble_eq_true rfl) (by decide) dX3_sharePairs_9) rfl rfl (n := 12) rfl (fun x2 => ?_)
    refine zr_if_eq C2 (tgt := 21) h0 dX3_sharePairs_12 (by decide) (n := 15) rfl ?_ ?_
    · refine zr_ex hX2 ?_
      refine zv_sub (lv' := [(1, .int t2.1)]) ?_ (zsub_of [1] rfl)
      exact J21 t2.1 x2.2
    · refine zr_iinc (1 : Int32) [(0, .ref a0), (1, .int (t2.1 + (1 : Int32)))] h0 dX3_sharePairs_15 rfl (by decide) rfl rfl (n := 18) rfl ?_
      refine zr_goto (tgt := 2) h0 dX3_sharePairs_18 (by decide) ?_
      exact hL2 (t2.1 + (1 : Int32), x2.2)
theorem kX3_sharePairs (l : Launch) (D : ZD) (z0 : Nat) (a0 : Nat) (S : ZS) (x : Int32 × ZS) (hf : fX3_sharePairs a0 S = some x) : zMet l D z0 yX3_sharePairs cX3_sharePairs 2 (some .int) rmX3_sharePairs [.ref a0] S (some (.int x.1)) x.2 :=
  zMet_of (by decide) (Nat.le_of_ble_eq_true rfl) (fun G h0 hini hE => wX3_sharePairs a0 S h0 (fun o => o = some x) (fun h => nomatch h) (fun v S1 h => by cases h; exact hE)) hf
theorem dX3_countAdditions_0 : decode cX3_countAdditions 0 = .ok (.iconst 0, 1) := by decide +kernel
theorem dX3_countAdditions_1 : decode cX3_countAdditions 1 = .ok (.istore_n 1, 1) := by decide +kernel
theorem dX3_countAdditions_2 : decode cX3_countAdditions 2 = .ok (.lconst 0, 1) := by decide +kernel
theorem dX3_countAdditions_3 : decode cX3_countAdditions 3 = .ok (.lstore_n 2, 1) := by decide +kernel
theorem dX3_countAdditions_4 : decode cX3_countAdditions 4 = .ok (.iconst 0, 1) := by decide +kernel
theorem dX3_countAdditions_5 : decode cX3_countAdditions 5 = .ok (.istore 4, 2) := by decide +kernel
theorem dX3_countAdditions_7 : decode cX3_countAdditions 7 = .ok (.iload 4, 2) := by decide +kernel
theorem dX3_countAdditions_9 : decode cX3_countAdditions 9 = .ok (.aload_n 0, 1) := by decide +kernel
theorem dX3_countAdditions_10 : decode cX3_countAdditions 10 = .ok (.getfield 15, 3) := by decide +kernel
theorem dX3_countAdditions_13 : decode cX3_countAdditions 13 = .ok (.if_icmp .ge 33, 3) := by decide +kernel
theorem dX3_countAdditions_16 : decode cX3_countAdditions 16 = .ok (.aload_n 0, 1) := by decide +kernel
theorem dX3_countAdditions_17 : decode cX3_countAdditions 17 = .ok (.getfield 11, 3) := by decide +kernel
theorem dX3_countAdditions_20 : decode cX3_countAdditions 20 = .ok (.iload 4, 2) := by decide +kernel
theorem dX3_countAdditions_22 : decode cX3_countAdditions 22 = .ok (.invokestatic 23, 3) := by decide +kernel
theorem dX3_countAdditions_25 : decode cX3_countAdditions 25 = .ok (.lstore 5, 2) := by decide +kernel
theorem dX3_countAdditions_27 : decode cX3_countAdditions 27 = .ok (.iload_n 1, 1) := by decide +kernel
theorem dX3_countAdditions_28 : decode cX3_countAdditions 28 = .ok (.lload 5, 2) := by decide +kernel
theorem dX3_countAdditions_30 : decode cX3_countAdditions 30 = .ok (.invokestatic 27, 3) := by decide +kernel
theorem dX3_countAdditions_33 : decode cX3_countAdditions 33 = .ok (.iadd, 1) := by decide +kernel
theorem dX3_countAdditions_34 : decode cX3_countAdditions 34 = .ok (.istore_n 1, 1) := by decide +kernel
theorem dX3_countAdditions_35 : decode cX3_countAdditions 35 = .ok (.lload_n 2, 1) := by decide +kernel
theorem dX3_countAdditions_36 : decode cX3_countAdditions 36 = .ok (.lload 5, 2) := by decide +kernel
theorem dX3_countAdditions_38 : decode cX3_countAdditions 38 = .ok (.lor, 1) := by decide +kernel
theorem dX3_countAdditions_39 : decode cX3_countAdditions 39 = .ok (.lstore_n 2, 1) := by decide +kernel
theorem dX3_countAdditions_40 : decode cX3_countAdditions 40 = .ok (.iinc 4 1, 3) := by decide +kernel
theorem dX3_countAdditions_43 : decode cX3_countAdditions 43 = .ok (.goto (-36), 3) := by decide +kernel
theorem dX3_countAdditions_46 : decode cX3_countAdditions 46 = .ok (.iload_n 1, 1) := by decide +kernel
theorem dX3_countAdditions_47 : decode cX3_countAdditions 47 = .ok (.lload_n 2, 1) := by decide +kernel
theorem dX3_countAdditions_48 : decode cX3_countAdditions 48 = .ok (.invokestatic 27, 3) := by decide +kernel
theorem dX3_countAdditions_51 : decode cX3_countAdditions 51 = .ok (.isub, 1) := by decide +kernel
theorem dX3_countAdditions_52 : decode cX3_countAdditions 52 = .ok (.ireturn, 1) := by decide +kernel
abbrev rmX3_countAdditions : Room := { frames := 2, cells := 0, slots := 0, locals := 41 }
theorem zyX3_countAdditions : zyOK yX3_countAdditions 0 := ⟨by decide +kernel, by decide +kernel, by decide +kernel⟩
set_option maxHeartbeats 4000000 in
set_option maxRecDepth 100000 in
theorem wX3_countAdditions {G : ZG} (a0 : Nat) (S : ZS) (h0 : zFix G cX3_countAdditions RX3 7 (some .int) rmX3_countAdditions) (C : Option Int32 → Prop) (hC : ¬ C none) (hE : ∀ v : Int32, C (some v) → zEnd G (some (.int v)) S rmX3_countAdditions) : zV G 7 S 0 0 0 [(0, .ref a0)] [] (C (fX3_countAdditions a0 S)) := by
  unfold fX3_countAdditions
  refine zr_iconst (0 : Int32) h0 (by decide) dX3_countAdditions_0 (n := 1) rfl ?_
  refine zr_istore_n [(0, .ref a0), (1, .int (0 : Int32))] h0 dX3_countAdditions_1 (by decide) rfl (n := 2) rfl ?_
  refine zr_lconst (0 : Int64) h0 (by decide) dX3_countAdditions_2 (n := 3) rfl ?_
  refine zr_lstore_n [(0, .ref a0), (1, .int (0 : Int32)), (2, .long (0 : Int64))] h0 dX3_countAdditions_3 (by decide) rfl (n := 4) rfl ?_
  refine zr_iconst (0 : Int32) h0 (by decide) dX3_countAdditions_4 (n := 5) rfl ?_
  refine zr_istore [(0, .ref a0), (1, .int (0 : Int32)), (2, .long (0 : Int64)), (4, .int (0 : Int32))] h0 dX3_countAdditions_5 (by decide) rfl (n := 7) rfl ?_
  refine zr_loop hC (fX3_countAdditions_B7 a0 S) (fun y => [(0, .ref a0), (1, .int y.1), (2, .long y.2.1), (4, .int y.2.2)]) (fun y => S) zF ((0 : Int32), (0 : Int64), (0 : Int32)) (fun C7 hC7 hX7 hL7 t7 => ?_)
  unfold fX3_countAdditions_B7
  refine zr_iload h0 dX3_countAdditions_7 rfl (n := 9) rfl ?_
  refine zr_aload_n h0 dX3_countAdditions_9 rfl (n := 10) rfl ?_
  refine zr_getI C7 hC7 h0 zcX3 (k := 1) (by decide) zw_68 dX3_countAdditions_10 (n := 13) rfl (fun v6 => ?_)
  refine zr_icmp_ge C7 (tgt := 46) h0 dX3_countAdditions_13 (by decide) (n := 16) rfl ?_ ?_
  · refine zr_ex hX7 ?_
    refine zv_sub (lv' := [(1, .int t7.1), (2, .long t7.2.1)]) ?_ (zsub_of [1, 2] rfl)
    refine zr_iload_n h0 dX3_countAdditions_46 rfl (n := 47) rfl ?_
    refine zr_lload_n h0 dX3_countAdditions_47 rfl (n := 48) rfl ?_
    refine zr_cRI C hC 0 0 (fun x hx => zk_S h0 (fun l D z0 => kJ13_bitCount_95d88 l D z0 t7.2.1 S x hx) zw_768 zw_769 zw_14 zw_770 zyJ13_bitCount_95d88 (As := [.long t7.2.1]) (st := [.int t7.1]) rfl (by decide) rfl (Nat.le_of_ble_eq_true rfl) (by decide) dX3_countAdditions_48) rfl rfl (n := 51) rfl (fun x7 => ?_)
    refine zr_isub h0 dX3_countAdditions_51 (n := 52) rfl ?_
    exact zr_iret h0 rfl dX3_countAdditions_52 (hE _) (by decide) (by decide)
  · refine zr_aload_n h0 dX3_countAdditions_16 rfl (n := 17) rfl ?_
    refine zr_getR C7 hC7 h0 zcX3 (k := 0) (by decide) zw_67 dX3_countAdditions_17 (n := 20) rfl (fun v8 => ?_)
    refine zr_iload h0 dX3_countAdditions_20 rfl (n := 22) rfl ?_
    refine zr_cRJ C7 hC7 0 0 (fun x hx => zk_SN (host := "Bilinearium") h0 (fun l D z0 => kX5_getLong l D z0 v8 t7.2.2 S x hx) (by decide +kernel) zw_668 zw_1 zw_669 zyX5_getLong (As := [.ref v8, .int t7.2.2]) (st := []) rfl (by decide) rfl (Nat.le_of_ble_eq_true rfl) (by decide) dX3_countAdditions_22) rfl rfl (n := 25) rfl (fun x9 => ?_)
    refine zr_lstore [(0, .ref a0), (1, .int t7.1), (2, .long t7.2.1), (4, .int t7.2.2), (5, .long x9)] h0 dX3_countAdditions_25 (by decide) rfl (n := 27) rfl ?_
    refine zr_iload_n h0 dX3_countAdditions_27 rfl (n := 28) rfl ?_
    refine zr_lload h0 dX3_countAdditions_28 rfl (n := 30) rfl ?_
    refine zr_cRI C7 hC7 0 0 (fun x hx => zk_S h0 (fun l D z0 => kJ13_bitCount_95d88 l D z0 x9 S x hx) zw_768 zw_769 zw_14 zw_770 zyJ13_bitCount_95d88 (As := [.long x9]) (st := [.int t7.1]) rfl (by decide) rfl (Nat.le_of_ble_eq_true rfl) (by decide) dX3_countAdditions_30) rfl rfl (n := 33) rfl (fun x10 => ?_)
    refine zr_iadd h0 dX3_countAdditions_33 (n := 34) rfl ?_
    refine zr_istore_n [(0, .ref a0), (1, .int (t7.1 + x10)), (2, .long t7.2.1), (4, .int t7.2.2), (5, .long x9)] h0 dX3_countAdditions_34 (by decide) rfl (n := 35) rfl ?_
    refine zr_lload_n h0 dX3_countAdditions_35 rfl (n := 36) rfl ?_
    refine zr_lload h0 dX3_countAdditions_36 rfl (n := 38) rfl ?_
    refine zr_lor h0 dX3_countAdditions_38 (n := 39) rfl ?_
    refine zr_lstore_n [(0, .ref a0), (1, .int (t7.1 + x10)), (2, .long (t7.2.1 ||| x9)), (4, .int t7.2.2), (5, .long x9)] h0 dX3_countAdditions_39 (by decide) rfl (n := 40) rfl ?_
    refine zr_iinc (1 : Int32) [(0, .ref a0), (1, .int (t7.1 + x10)), (2, .long (t7.2.1 ||| x9)), (4, .int (t7.2.2 + (1 : Int32))), (5, .long x9)] h0 dX3_countAdditions_40 rfl (by decide) rfl rfl (n := 43) rfl ?_
    refine zr_goto (tgt := 7) h0 dX3_countAdditions_43 (by decide) ?_
    refine zv_sub (lv' := [(0, .ref a0), (1, .int (t7.1 + x10)), (2, .long (t7.2.1 ||| x9)), (4, .int (t7.2.2 + (1 : Int32)))]) ?_ (zsub_of [0, 1, 2, 3] rfl)
    exact hL7 (t7.1 + x10, t7.2.1 ||| x9, t7.2.2 + (1 : Int32))
theorem kX3_countAdditions (l : Launch) (D : ZD) (z0 : Nat) (a0 : Nat) (S : ZS) (x : Int32) (hf : fX3_countAdditions a0 S = some x) : zMet l D z0 yX3_countAdditions cX3_countAdditions 7 (some .int) rmX3_countAdditions [.ref a0] S (some (.int x)) S :=
  zMet_of (by decide) (Nat.le_of_ble_eq_true rfl) (fun G h0 hini hE => wX3_countAdditions a0 S h0 (fun o => o = some x) (fun h => nomatch h) (fun v h => by cases h; exact hE)) hf
theorem dX5_countAdditions_0 : decode cX5_countAdditions 0 = .ok (.iconst 0, 1) := by decide +kernel
theorem dX5_countAdditions_1 : decode cX5_countAdditions 1 = .ok (.istore_n 3, 1) := by decide +kernel
theorem dX5_countAdditions_2 : decode cX5_countAdditions 2 = .ok (.iconst 0, 1) := by decide +kernel
theorem dX5_countAdditions_3 : decode cX5_countAdditions 3 = .ok (.istore 4, 2) := by decide +kernel
theorem dX5_countAdditions_5 : decode cX5_countAdditions 5 = .ok (.iload 4, 2) := by decide +kernel
theorem dX5_countAdditions_7 : decode cX5_countAdditions 7 = .ok (.iconst 3, 1) := by decide +kernel
theorem dX5_countAdditions_8 : decode cX5_countAdditions 8 = .ok (.if_icmp .ge 47, 3) := by decide +kernel
theorem dX5_countAdditions_11 : decode cX5_countAdditions 11 = .ok (.aload_n 1, 1) := by decide +kernel
theorem dX5_countAdditions_12 : decode cX5_countAdditions 12 = .ok (.iload 4, 2) := by decide +kernel
theorem dX5_countAdditions_14 : decode cX5_countAdditions 14 = .ok (.aload_n 0, 1) := by decide +kernel
theorem dX5_countAdditions_15 : decode cX5_countAdditions 15 = .ok (.getfield 38, 3) := by decide +kernel
theorem dX5_countAdditions_18 : decode cX5_countAdditions 18 = .ok (.invokevirtual 298, 3) := by decide +kernel
theorem dX5_countAdditions_21 : decode cX5_countAdditions 21 = .ok (.iload_n 3, 1) := by decide +kernel
theorem dX5_countAdditions_22 : decode cX5_countAdditions 22 = .ok (.iload_n 2, 1) := by decide +kernel
theorem dX5_countAdditions_23 : decode cX5_countAdditions 23 = .ok (.ifCond .eq 13, 3) := by decide +kernel
theorem dX5_countAdditions_26 : decode cX5_countAdditions 26 = .ok (.aload_n 0, 1) := by decide +kernel
theorem dX5_countAdditions_27 : decode cX5_countAdditions 27 = .ok (.getfield 38, 3) := by decide +kernel
theorem dX5_countAdditions_30 : decode cX5_countAdditions 30 = .ok (.invokevirtual 302, 3) := by decide +kernel
theorem dX5_countAdditions_33 : decode cX5_countAdditions 33 = .ok (.goto 4, 3) := by decide +kernel
theorem dX5_countAdditions_36 : decode cX5_countAdditions 36 = .ok (.iconst 0, 1) := by decide +kernel
theorem dX5_countAdditions_37 : decode cX5_countAdditions 37 = .ok (.iadd, 1) := by decide +kernel
theorem dX5_countAdditions_38 : decode cX5_countAdditions 38 = .ok (.istore_n 3, 1) := by decide +kernel
theorem dX5_countAdditions_39 : decode cX5_countAdditions 39 = .ok (.iload_n 3, 1) := by decide +kernel
theorem dX5_countAdditions_40 : decode cX5_countAdditions 40 = .ok (.aload_n 0, 1) := by decide +kernel
theorem dX5_countAdditions_41 : decode cX5_countAdditions 41 = .ok (.getfield 38, 3) := by decide +kernel
theorem dX5_countAdditions_44 : decode cX5_countAdditions 44 = .ok (.invokevirtual 305, 3) := by decide +kernel
theorem dX5_countAdditions_47 : decode cX5_countAdditions 47 = .ok (.iadd, 1) := by decide +kernel
theorem dX5_countAdditions_48 : decode cX5_countAdditions 48 = .ok (.istore_n 3, 1) := by decide +kernel
theorem dX5_countAdditions_49 : decode cX5_countAdditions 49 = .ok (.iinc 4 1, 3) := by decide +kernel
theorem dX5_countAdditions_52 : decode cX5_countAdditions 52 = .ok (.goto (-47), 3) := by decide +kernel
theorem dX5_countAdditions_55 : decode cX5_countAdditions 55 = .ok (.iload_n 3, 1) := by decide +kernel
theorem dX5_countAdditions_56 : decode cX5_countAdditions 56 = .ok (.ireturn, 1) := by decide +kernel
abbrev rmX5_countAdditions : Room := { frames := 6, cells := 0, slots := 0, locals := 138 }
theorem zyX5_countAdditions : zyOK yX5_countAdditions 2 := ⟨by decide +kernel, by decide +kernel, by decide +kernel⟩
set_option maxHeartbeats 4000000 in
set_option maxRecDepth 100000 in
theorem wX5_countAdditions {G : ZG} (a0 : Nat) (a1 : Nat) (a2 : Int32) (S : ZS) (h0 : zFix G cX5_countAdditions RX5 5 (some .int) rmX5_countAdditions) (C : Option (Int32 × ZS) → Prop) (hC : ¬ C none) (hE : ∀ (v : Int32) (S1 : ZS), C (some (v, S1)) → zEnd G (some (.int v)) S1 rmX5_countAdditions) : zV G 5 S 0 0 0 [(0, .ref a0), (1, .ref a1), (2, .int a2)] [] (C (fX5_countAdditions a0 a1 a2 S)) := by
  unfold fX5_countAdditions
  refine zr_iconst (0 : Int32) h0 (by decide) dX5_countAdditions_0 (n := 1) rfl ?_
  refine zr_istore_n [(0, .ref a0), (1, .ref a1), (2, .int a2), (3, .int (0 : Int32))] h0 dX5_countAdditions_1 (by decide) rfl (n := 2) rfl ?_
  refine zr_iconst (0 : Int32) h0 (by decide) dX5_countAdditions_2 (n := 3) rfl ?_
  refine zr_istore [(0, .ref a0), (1, .ref a1), (2, .int a2), (3, .int (0 : Int32)), (4, .int (0 : Int32))] h0 dX5_countAdditions_3 (by decide) rfl (n := 5) rfl ?_
  refine zr_loop hC (fX5_countAdditions_B5 a0 a1 a2) (fun y => [(0, .ref a0), (1, .ref a1), (2, .int a2), (3, .int y.1), (4, .int y.2.1)]) (fun y => y.2.2) zF ((0 : Int32), (0 : Int32), S) (fun C5 hC5 hX5 hL5 t5 => ?_)
  have J37 : ∀ (l4_37 : Int32) (s0_37 : Int32) (s1_37 : Int32) (S_37 : ZS), zV G 5 S_37 0 0 37 [(0, .ref a0), (1, .ref a1), (2, .int a2), (4, .int l4_37)] [.int s1_37, .int s0_37] (C5 (fX5_countAdditions_J37 a0 a1 a2 l4_37 s0_37 s1_37 S_37)) := by
    intro l4_37 s0_37 s1_37 S_37
    unfold fX5_countAdditions_J37
    refine zr_iadd h0 dX5_countAdditions_37 (n := 38) rfl ?_
    refine zr_istore_n [(0, .ref a0), (1, .ref a1), (2, .int a2), (3, .int (s0_37 + s1_37)), (4, .int l4_37)] h0 dX5_countAdditions_38 (by decide) rfl (n := 39) rfl ?_
    refine zr_iload_n h0 dX5_countAdditions_39 rfl (n := 40) rfl ?_
    refine zr_aload_n h0 dX5_countAdditions_40 rfl (n := 41) rfl ?_
    refine zr_getR C5 hC5 h0 zcX5 (k := 4) (by decide) zw_78 dX5_countAdditions_41 (n := 44) rfl (fun v7 => ?_)
    refine zr_cRI C5 hC5 0 0 (fun x hx => zk_V h0 zcX3 (zcl_ex hx) (fun l D z0 => kX3_countAdditions l D z0 v7 S_37 x (zcl_of hx)) zw_780 zw_781 zw_782 zw_4 zw_783 rfl zyX3_countAdditions (As := []) (st := [.int (s0_37 + s1_37)]) rfl (by decide) rfl (Nat.le_of_ble_eq_true rfl) (by decide) dX5_countAdditions_44) rfl rfl (n := 47) rfl (fun x8 => ?_)
    refine zr_iadd h0 dX5_countAdditions_47 (n := 48) rfl ?_
    refine zr_istore_n [(0, .ref a0), (1, .ref a1), (2, .int a2), (3, .int ((s0_37 + s1_37) + x8)), (4, .int l4_37)] h0 dX5_countAdditions_48 (by decide) rfl (n := 49) rfl ?_
    refine zr_iinc (1 : Int32) [(0, .ref a0), (1, .ref a1), (2, .int a2), (3, .int ((s0_37 + s1_37) + x8)), (4, .int (l4_37 + (1 : Int32)))] h0 dX5_countAdditions_49 rfl (by decide) rfl rfl (n := 52) rfl ?_
    refine zr_goto (tgt := 5) h0 dX5_countAdditions_52 (by decide) ?_
    exact hL5 ((s0_37 + s1_37) + x8, l4_37 + (1 : Int32), S_37)
  unfold fX5_countAdditions_B5
  refine zr_iload h0 dX5_countAdditions_5 rfl (n := 7) rfl ?_
  refine zr_iconst (3 : Int32) h0 (by decide) dX5_countAdditions_7 (n := 8) rfl ?_
  refine zr_icmp_ge C5 (tgt := 55) h0 dX5_countAdditions_8 (by decide) (n := 11) rfl ?_ ?_
  · refine zr_ex hX5 ?_
    refine zv_sub (lv' := [(3, .int t5.1)]) ?_ (zsub_of [3] rfl)
    refine zr_iload_n h0 dX5_countAdditions_55 rfl (n := 56) rfl ?_
    exact zr_iret h0 rfl dX5_countAdditions_56 (hE _ _) (by decide) (by decide)
  · refine zr_aload_n h0 dX5_countAdditions_11 rfl (n := 12) rfl ?_
    refine zr_iload h0 dX5_countAdditions_12 rfl (n := 14) rfl ?_
    refine zr_aload_n h0 dX5_countAdditions_14 rfl (n := 15) rfl ?_
    refine zr_getR C5 hC5 h0 zcX5 (k := 4) (by decide) zw_78 dX5_countAdditions_15 (n := 18) rfl (fun v9 => ?_)
    refine zr_cMV C5 hC5 0 0 (fun x hx => zk_V h0 zcX4 (zcl_ex hx) (fun l D z0 => kX4_tellSums l D z0 a1 t5.2.1 v9 t5.2.2 x (zcl_of hx)) zw_738 zw_739 zw_740 zw_12 zw_741 rfl zyX4_tellSums (As := [.int t5.2.1, .ref v9]) (st := []) rfl (by decide) rfl (Nat.le_of_ble_eq_true rfl) (by decide) dX5_countAdditions_18) rfl rfl (n := 21) rfl (fun x10 => ?_)
    refine zr_iload_n h0 dX5_countAdditions_21 rfl (n := 22) rfl ?_
    refine zr_iload_n h0 dX5_countAdditions_22 rfl (n := 23) rfl ?_
    refine zr_if_eq C5 (tgt := 36) h0 dX5_countAdditions_23 (by decide) (n := 26) rfl ?_ ?_
    · refine zv_sub (lv' := [(0, .ref a0), (1, .ref a1), (2, .int a2), (4, .int t5.2.1)]) ?_ (zsub_of [0, 1, 2, 4] rfl)
      refine zr_iconst (0 : Int32) h0 (by decide) dX5_countAdditions_36 (n := 37) rfl ?_
      exact J37 t5.2.1 t5.1 (0 : Int32) x10
    · refine zv_sub (lv' := [(0, .ref a0), (1, .ref a1), (2, .int a2), (4, .int t5.2.1)]) ?_ (zsub_of [0, 1, 2, 4] rfl)
      refine zr_aload_n h0 dX5_countAdditions_26 rfl (n := 27) rfl ?_
      refine zr_getR C5 hC5 h0 zcX5 (k := 4) (by decide) zw_78 dX5_countAdditions_27 (n := 30) rfl (fun v11 => ?_)
      refine zr_cMI C5 hC5 0 0 (fun x hx => zk_V h0 zcX3 (zcl_ex hx) (fun l D z0 => kX3_sharePairs l D z0 v11 x10 x (zcl_of hx)) zw_759 zw_760 zw_761 zw_4 zw_762 rfl zyX3_sharePairs (As := []) (st := [.int t5.1]) rfl (by decide) rfl (Nat.le_of_ble_eq_true rfl) (by decide) dX5_countAdditions_30) rfl rfl (n := 33) rfl (fun x12 => ?_)
      refine zr_goto (tgt := 37) h0 dX5_countAdditions_33 (by decide) ?_
      exact J37 t5.2.1 t5.1 x12.1 x12.2
theorem kX5_countAdditions (l : Launch) (D : ZD) (z0 : Nat) (a0 : Nat) (a1 : Nat) (a2 : Int32) (S : ZS) (x : Int32 × ZS) (hf : fX5_countAdditions a0 a1 a2 S = some x) : zMet l D z0 yX5_countAdditions cX5_countAdditions 5 (some .int) rmX5_countAdditions [.ref a0, .ref a1, .int a2] S (some (.int x.1)) x.2 :=
  zMet_of (by decide) (Nat.le_of_ble_eq_true rfl) (fun G h0 hini hE => wX5_countAdditions a0 a1 a2 S h0 (fun o => o = some x) (fun h => nomatch h) (fun v S1 h => by cases h; exact hE)) hf
theorem dX4_growthAt_0 : decode cX4_growthAt 0 = .ok (.iconst 0, 1) := by decide +kernel
theorem dX4_growthAt_1 : decode cX4_growthAt 1 = .ok (.istore_n 2, 1) := by decide +kernel
theorem dX4_growthAt_2 : decode cX4_growthAt 2 = .ok (.iconst 0, 1) := by decide +kernel
theorem dX4_growthAt_3 : decode cX4_growthAt 3 = .ok (.istore_n 3, 1) := by decide +kernel
theorem dX4_growthAt_4 : decode cX4_growthAt 4 = .ok (.iload_n 3, 1) := by decide +kernel
theorem dX4_growthAt_5 : decode cX4_growthAt 5 = .ok (.aload_n 0, 1) := by decide +kernel
theorem dX4_growthAt_6 : decode cX4_growthAt 6 = .ok (.getfield 23, 3) := by decide +kernel
theorem dX4_growthAt_9 : decode cX4_growthAt 9 = .ok (.if_icmp .ge 49, 3) := by decide +kernel
theorem dX4_growthAt_12 : decode cX4_growthAt 12 = .ok (.aload_n 0, 1) := by decide +kernel
theorem dX4_growthAt_13 : decode cX4_growthAt 13 = .ok (.iload_n 3, 1) := by decide +kernel
theorem dX4_growthAt_14 : decode cX4_growthAt 14 = .ok (.iconst 2, 1) := by decide +kernel
theorem dX4_growthAt_15 : decode cX4_growthAt 15 = .ok (.iload_n 1, 1) := by decide +kernel
theorem dX4_growthAt_16 : decode cX4_growthAt 16 = .ok (.invokevirtual 128, 3) := by decide +kernel
theorem dX4_growthAt_19 : decode cX4_growthAt 19 = .ok (.ifCond .eq 33, 3) := by decide +kernel
theorem dX4_growthAt_22 : decode cX4_growthAt 22 = .ok (.aload_n 0, 1) := by decide +kernel
theorem dX4_growthAt_23 : decode cX4_growthAt 23 = .ok (.iload_n 3, 1) := by decide +kernel
theorem dX4_growthAt_24 : decode cX4_growthAt 24 = .ok (.iconst 0, 1) := by decide +kernel
theorem dX4_growthAt_25 : decode cX4_growthAt 25 = .ok (.invokevirtual 139, 3) := by decide +kernel
theorem dX4_growthAt_28 : decode cX4_growthAt 28 = .ok (.invokestatic 157, 3) := by decide +kernel
theorem dX4_growthAt_31 : decode cX4_growthAt 31 = .ok (.istore 4, 2) := by decide +kernel
theorem dX4_growthAt_33 : decode cX4_growthAt 33 = .ok (.aload_n 0, 1) := by decide +kernel
theorem dX4_growthAt_34 : decode cX4_growthAt 34 = .ok (.iload_n 3, 1) := by decide +kernel
theorem dX4_growthAt_35 : decode cX4_growthAt 35 = .ok (.iconst 1, 1) := by decide +kernel
theorem dX4_growthAt_36 : decode cX4_growthAt 36 = .ok (.invokevirtual 139, 3) := by decide +kernel
theorem dX4_growthAt_39 : decode cX4_growthAt 39 = .ok (.invokestatic 157, 3) := by decide +kernel
theorem dX4_growthAt_42 : decode cX4_growthAt 42 = .ok (.istore 5, 2) := by decide +kernel
theorem dX4_growthAt_44 : decode cX4_growthAt 44 = .ok (.iload_n 2, 1) := by decide +kernel
theorem dX4_growthAt_45 : decode cX4_growthAt 45 = .ok (.iload 4, 2) := by decide +kernel
theorem dX4_growthAt_47 : decode cX4_growthAt 47 = .ok (.iload 5, 2) := by decide +kernel
theorem dX4_growthAt_49 : decode cX4_growthAt 49 = .ok (.imul, 1) := by decide +kernel
theorem dX4_growthAt_50 : decode cX4_growthAt 50 = .ok (.iadd, 1) := by decide +kernel
theorem dX4_growthAt_51 : decode cX4_growthAt 51 = .ok (.istore_n 2, 1) := by decide +kernel
theorem dX4_growthAt_52 : decode cX4_growthAt 52 = .ok (.iinc 3 1, 3) := by decide +kernel
theorem dX4_growthAt_55 : decode cX4_growthAt 55 = .ok (.goto (-51), 3) := by decide +kernel
theorem dX4_growthAt_58 : decode cX4_growthAt 58 = .ok (.iload_n 2, 1) := by decide +kernel
theorem dX4_growthAt_59 : decode cX4_growthAt 59 = .ok (.ireturn, 1) := by decide +kernel
abbrev rmX4_growthAt : Room := { frames := 5, cells := 0, slots := 0, locals := 111 }
theorem zyX4_growthAt : zyOK yX4_growthAt 1 := ⟨by decide +kernel, by decide +kernel, by decide +kernel⟩
set_option maxHeartbeats 4000000 in
set_option maxRecDepth 100000 in
theorem wX4_growthAt {G : ZG} (a0 : Nat) (a1 : Int32) (S : ZS) (h0 : zFix G cX4_growthAt RX4 6 (some .int) rmX4_growthAt) (C : Option Int32 → Prop) (hC : ¬ C none) (hE : ∀ v : Int32, C (some v) → zEnd G (some (.int v)) S rmX4_growthAt) : zV G 6 S 0 0 0 [(0, .ref a0), (1, .int a1)] [] (C (fX4_growthAt a0 a1 S)) := by
  unfold fX4_growthAt
  refine zr_iconst (0 : Int32) h0 (by decide) dX4_growthAt_0 (n := 1) rfl ?_
  refine zr_istore_n [(0, .ref a0), (1, .int a1), (2, .int (0 : Int32))] h0 dX4_growthAt_1 (by decide) rfl (n := 2) rfl ?_
  refine zr_iconst (0 : Int32) h0 (by decide) dX4_growthAt_2 (n := 3) rfl ?_
  refine zr_istore_n [(0, .ref a0), (1, .int a1), (2, .int (0 : Int32)), (3, .int (0 : Int32))] h0 dX4_growthAt_3 (by decide) rfl (n := 4) rfl ?_
  refine zr_loop hC (fX4_growthAt_B4 a0 a1 S) (fun y => [(0, .ref a0), (1, .int a1), (2, .int y.1), (3, .int y.2)]) (fun y => S) zF ((0 : Int32), (0 : Int32)) (fun C4 hC4 hX4 hL4 t4 => ?_)
  have J52 : ∀ (l2_52 : Int32) (l3_52 : Int32), zV G 6 S 0 0 52 [(0, .ref a0), (1, .int a1), (2, .int l2_52), (3, .int l3_52)] [] (C4 (fX4_growthAt_J52 a0 a1 l2_52 l3_52 S)) := by
    intro l2_52 l3_52
    unfold fX4_growthAt_J52
    refine zr_iinc (1 : Int32) [(0, .ref a0), (1, .int a1), (2, .int l2_52), (3, .int (l3_52 + (1 : Int32)))] h0 dX4_growthAt_52 rfl (by decide) rfl rfl (n := 55) rfl ?_
    refine zr_goto (tgt := 4) h0 dX4_growthAt_55 (by decide) ?_
    exact hL4 (l2_52, l3_52 + (1 : Int32))
  unfold fX4_growthAt_B4
  refine zr_iload_n h0 dX4_growthAt_4 rfl (n := 5) rfl ?_
  refine zr_aload_n h0 dX4_growthAt_5 rfl (n := 6) rfl ?_
  refine zr_getI C4 hC4 h0 zcX4 (k := 3) (by decide) zw_412 dX4_growthAt_6 (n := 9) rfl (fun v7 => ?_)
  refine zr_icmp_ge C4 (tgt := 58) h0 dX4_growthAt_9 (by decide) (n := 12) rfl ?_ ?_
  · refine zr_ex hX4 ?_
    refine zv_sub (lv' := [(2, .int t4.1)]) ?_ (zsub_of [2] rfl)
    refine zr_iload_n h0 dX4_growthAt_58 rfl (n := 59) rfl ?_
    exact zr_iret h0 rfl dX4_growthAt_59 (hE _) (by decide) (by decide)
  · refine zr_aload_n h0 dX4_growthAt_12 rfl (n := 13) rfl ?_
    refine zr_iload_n h0 dX4_growthAt_13 rfl (n := 14) rfl ?_
    refine zr_iconst (2 : Int32) h0 (by decide) dX4_growthAt_14 (n := 15) rfl ?_
    refine zr_iload_n h0 dX4_growthAt_15 rfl (n := 16) rfl ?_
    refine zr_cRI C4 hC4 0 0 (fun x hx => zk_V h0 zcX4 (zcl_ex hx) (fun l D z0 => kX4_number l D z0 a0 t4.2 (2 : Int32) a1 S x (zcl_of hx)) zw_709 zw_711 zs_26 zw_12 zw_712 rfl zyX4_number (As := [.int t4.2, .int (2 : Int32), .int a1]) (st := []) rfl (by decide) rfl (Nat.le_of_ble_eq_true rfl) (by decide) dX4_growthAt_16) rfl rfl (n := 19) rfl (fun x8 => ?_)
    refine zr_if_eq C4 (tgt := 52) h0 dX4_growthAt_19 (by decide) (n := 22) rfl ?_ ?_
    · exact J52 t4.1 t4.2
    · refine zr_aload_n h0 dX4_growthAt_22 rfl (n := 23) rfl ?_
      refine zr_iload_n h0 dX4_growthAt_23 rfl (n := 24) rfl ?_
      refine zr_iconst (0 : Int32) h0 (by decide) dX4_growthAt_24 (n := 25) rfl ?_
      refine zr_cRJ C4 hC4 0 0 (fun x hx => zk_V h0 zcX4 (zcl_ex hx) (fun l D z0 => kX4_filledPlaces l D z0 a0 t4.2 (0 : Int32) S x (zcl_of hx)) zw_746 zw_748 zs_28 zw_12 zw_749 rfl zyX4_filledPlaces (As := [.int t4.2, .int (0 : Int32)]) (st := []) rfl (by decide) rfl (Nat.le_of_ble_eq_true rfl) (by decide) dX4_growthAt_25) rfl rfl (n := 28) rfl (fun x9 => ?_)
      refine zr_cRI C4 hC4 0 0 (fun x hx => zk_S h0 (fun l D z0 => kJ13_bitCount_95d88 l D z0 x9 S x hx) zw_816 zw_769 zw_14 zw_770 zyJ13_bitCount_95d88 (As := [.long x9]) (st := []) rfl (by decide) rfl (Nat.le_of_ble_eq_true rfl) (by decide) dX4_growthAt_28) rfl rfl (n := 31) rfl (fun x10 => ?_)
      refine zr_istore [(0, .ref a0), (1, .int a1), (2, .int t4.1), (3, .int t4.2), (4, .int x10)] h0 dX4_growthAt_31 (by decide) rfl (n := 33) rfl ?_
      refine zr_aload_n h0 dX4_growthAt_33 rfl (n := 34) rfl ?_
      refine zr_iload_n h0 dX4_growthAt_34 rfl (n := 35) rfl ?_
      refine zr_iconst (1 : Int32) h0 (by decide) dX4_growthAt_35 (n := 36) rfl ?_
      refine zr_cRJ C4 hC4 0 0 (fun x hx => zk_V h0 zcX4 (zcl_ex hx) (fun l D z0 => kX4_filledPlaces l D z0 a0 t4.2 (1 : Int32) S x (zcl_of hx)) zw_746 zw_748 zs_28 zw_12 zw_749 rfl zyX4_filledPlaces (As := [.int t4.2, .int (1 : Int32)]) (st := []) rfl (by decide) rfl (Nat.le_of_ble_eq_true rfl) (by decide) dX4_growthAt_36) rfl rfl (n := 39) rfl (fun x11 => ?_)
      refine zr_cRI C4 hC4 0 0 (fun x hx => zk_S h0 (fun l D z0 => kJ13_bitCount_95d88 l D z0 x11 S x hx) zw_816 zw_769 zw_14 zw_770 zyJ13_bitCount_95d88 (As := [.long x11]) (st := []) rfl (by decide) rfl (Nat.le_of_ble_eq_true rfl) (by decide) dX4_growthAt_39) rfl rfl (n := 42) rfl (fun x12 => ?_)
      refine zr_istore [(0, .ref a0), (1, .int a1), (2, .int t4.1), (3, .int t4.2), (4, .int x10), (5, .int x12)] h0 dX4_growthAt_42 (by decide) rfl (n := 44) rfl ?_
      refine zr_iload_n h0 dX4_growthAt_44 rfl (n := 45) rfl ?_
      refine zr_iload h0 dX4_growthAt_45 rfl (n := 47) rfl ?_
      refine zr_iload h0 dX4_growthAt_47 rfl (n := 49) rfl ?_
      refine zr_imul h0 dX4_growthAt_49 (n := 50) rfl ?_
      refine zr_iadd h0 dX4_growthAt_50 (n := 51) rfl ?_
      refine zr_istore_n [(0, .ref a0), (1, .int a1), (2, .int (t4.1 + (x10 * x12))), (3, .int t4.2), (4, .int x10), (5, .int x12)] h0 dX4_growthAt_51 (by decide) rfl (n := 52) rfl ?_
      refine zv_sub (lv' := [(0, .ref a0), (1, .int a1), (2, .int (t4.1 + (x10 * x12))), (3, .int t4.2)]) ?_ (zsub_of [0, 1, 2, 3] rfl)
      exact J52 (t4.1 + (x10 * x12)) t4.2
theorem kX4_growthAt (l : Launch) (D : ZD) (z0 : Nat) (a0 : Nat) (a1 : Int32) (S : ZS) (x : Int32) (hf : fX4_growthAt a0 a1 S = some x) : zMet l D z0 yX4_growthAt cX4_growthAt 6 (some .int) rmX4_growthAt [.ref a0, .int a1] S (some (.int x)) S :=
  zMet_of (by decide) (Nat.le_of_ble_eq_true rfl) (fun G h0 hini hE => wX4_growthAt a0 a1 S h0 (fun o => o = some x) (fun h => nomatch h) (fun v h => by cases h; exact hE)) hf
theorem dX4_greatestGrowth_0 : decode cX4_greatestGrowth 0 = .ok (.iconst 0, 1) := by decide +kernel
theorem dX4_greatestGrowth_1 : decode cX4_greatestGrowth 1 = .ok (.istore_n 1, 1) := by decide +kernel
theorem dX4_greatestGrowth_2 : decode cX4_greatestGrowth 2 = .ok (.iconst 0, 1) := by decide +kernel
theorem dX4_greatestGrowth_3 : decode cX4_greatestGrowth 3 = .ok (.istore_n 2, 1) := by decide +kernel
theorem dX4_greatestGrowth_4 : decode cX4_greatestGrowth 4 = .ok (.iload_n 2, 1) := by decide +kernel
theorem dX4_greatestGrowth_5 : decode cX4_greatestGrowth 5 = .ok (.aload_n 0, 1) := by decide +kernel
theorem dX4_greatestGrowth_6 : decode cX4_greatestGrowth 6 = .ok (.getfield 11, 3) := by decide +kernel
theorem dX4_greatestGrowth_9 : decode cX4_greatestGrowth 9 = .ok (.getfield 57, 3) := by decide +kernel
theorem dX4_greatestGrowth_12 : decode cX4_greatestGrowth 12 = .ok (.if_icmp .ge 19, 3) := by decide +kernel
theorem dX4_greatestGrowth_15 : decode cX4_greatestGrowth 15 = .ok (.iload_n 1, 1) := by decide +kernel
theorem dX4_greatestGrowth_16 : decode cX4_greatestGrowth 16 = .ok (.aload_n 0, 1) := by decide +kernel
theorem dX4_greatestGrowth_17 : decode cX4_greatestGrowth 17 = .ok (.iload_n 2, 1) := by decide +kernel
theorem dX4_greatestGrowth_18 : decode cX4_greatestGrowth 18 = .ok (.invokevirtual 149, 3) := by decide +kernel
theorem dX4_greatestGrowth_21 : decode cX4_greatestGrowth 21 = .ok (.invokestatic 152, 3) := by decide +kernel
theorem dX4_greatestGrowth_24 : decode cX4_greatestGrowth 24 = .ok (.istore_n 1, 1) := by decide +kernel
theorem dX4_greatestGrowth_25 : decode cX4_greatestGrowth 25 = .ok (.iinc 2 1, 3) := by decide +kernel
theorem dX4_greatestGrowth_28 : decode cX4_greatestGrowth 28 = .ok (.goto (-24), 3) := by decide +kernel
theorem dX4_greatestGrowth_31 : decode cX4_greatestGrowth 31 = .ok (.iload_n 1, 1) := by decide +kernel
theorem dX4_greatestGrowth_32 : decode cX4_greatestGrowth 32 = .ok (.ireturn, 1) := by decide +kernel
abbrev rmX4_greatestGrowth : Room := { frames := 6, cells := 0, slots := 0, locals := 136 }
theorem zyX4_greatestGrowth : zyOK yX4_greatestGrowth 0 := ⟨by decide +kernel, by decide +kernel, by decide +kernel⟩
set_option maxHeartbeats 4000000 in
set_option maxRecDepth 100000 in
theorem wX4_greatestGrowth {G : ZG} (a0 : Nat) (S : ZS) (h0 : zFix G cX4_greatestGrowth RX4 3 (some .int) rmX4_greatestGrowth) (C : Option Int32 → Prop) (hC : ¬ C none) (hE : ∀ v : Int32, C (some v) → zEnd G (some (.int v)) S rmX4_greatestGrowth) : zV G 3 S 0 0 0 [(0, .ref a0)] [] (C (fX4_greatestGrowth a0 S)) := by
  unfold fX4_greatestGrowth
  refine zr_iconst (0 : Int32) h0 (by decide) dX4_greatestGrowth_0 (n := 1) rfl ?_
  refine zr_istore_n [(0, .ref a0), (1, .int (0 : Int32))] h0 dX4_greatestGrowth_1 (by decide) rfl (n := 2) rfl ?_
  refine zr_iconst (0 : Int32) h0 (by decide) dX4_greatestGrowth_2 (n := 3) rfl ?_
  refine zr_istore_n [(0, .ref a0), (1, .int (0 : Int32)), (2, .int (0 : Int32))] h0 dX4_greatestGrowth_3 (by decide) rfl (n := 4) rfl ?_
  refine zr_loop hC (fX4_greatestGrowth_B4 a0 S) (fun y => [(0, .ref a0), (1, .int y.1), (2, .int y.2)]) (fun y => S) zF ((0 : Int32), (0 : Int32)) (fun C4 hC4 hX4 hL4 t4 => ?_)
  unfold fX4_greatestGrowth_B4
  refine zr_iload_n h0 dX4_greatestGrowth_4 rfl (n := 5) rfl ?_
  refine zr_aload_n h0 dX4_greatestGrowth_5 rfl (n := 6) rfl ?_
  refine zr_getR C4 hC4 h0 zcX4 (k := 0) (by decide) zw_408 dX4_greatestGrowth_6 (n := 9) rfl (fun v4 => ?_)
  refine zr_getI C4 hC4 h0 zcX0 (k := 2) (by decide) zw_237 dX4_greatestGrowth_9 (n := 12) rfl (fun v5 => ?_)
  refine zr_icmp_ge C4 (tgt := 31) h0 dX4_greatestGrowth_12 (by decide) (n := 15) rfl ?_ ?_
  · refine zr_ex hX4 ?_
    refine zv_sub (lv' := [(1, .int t4.1)]) ?_ (zsub_of [1] rfl)
    refine zr_iload_n h0 dX4_greatestGrowth_31 rfl (n := 32) rfl ?_
    exact zr_iret h0 rfl dX4_greatestGrowth_32 (hE _) (by decide) (by decide)
  · refine zr_iload_n h0 dX4_greatestGrowth_15 rfl (n := 16) rfl ?_
    refine zr_aload_n h0 dX4_greatestGrowth_16 rfl (n := 17) rfl ?_
    refine zr_iload_n h0 dX4_greatestGrowth_17 rfl (n := 18) rfl ?_
    refine zr_cRI C4 hC4 0 0 (fun x hx => zk_V h0 zcX4 (zcl_ex hx) (fun l D z0 => kX4_growthAt l D z0 a0 t4.2 S x (zcl_of hx)) zw_812 zw_814 zs_33 zw_12 zw_815 rfl zyX4_growthAt (As := [.int t4.2]) (st := [.int t4.1]) rfl (by decide) rfl (Nat.le_of_ble_eq_true rfl) (by decide) dX4_greatestGrowth_18) rfl rfl (n := 21) rfl (fun x6 => ?_)
    refine zr_mmax h0 zw_817 zw_632 zw_13 zw_633 (by decide) (Nat.le_of_ble_eq_true rfl) (by decide) (by decide) dX4_greatestGrowth_21 (n := 24) rfl ?_
    refine zr_istore_n [(0, .ref a0), (1, .int (if t4.1 < x6 then x6 else t4.1)), (2, .int t4.2)] h0 dX4_greatestGrowth_24 (by decide) rfl (n := 25) rfl ?_
    refine zr_iinc (1 : Int32) [(0, .ref a0), (1, .int (if t4.1 < x6 then x6 else t4.1)), (2, .int (t4.2 + (1 : Int32)))] h0 dX4_greatestGrowth_25 rfl (by decide) rfl rfl (n := 28) rfl ?_
    refine zr_goto (tgt := 4) h0 dX4_greatestGrowth_28 (by decide) ?_
    exact hL4 ((if t4.1 < x6 then x6 else t4.1), t4.2 + (1 : Int32))
theorem kX4_greatestGrowth (l : Launch) (D : ZD) (z0 : Nat) (a0 : Nat) (S : ZS) (x : Int32) (hf : fX4_greatestGrowth a0 S = some x) : zMet l D z0 yX4_greatestGrowth cX4_greatestGrowth 3 (some .int) rmX4_greatestGrowth [.ref a0] S (some (.int x)) S :=
  zMet_of (by decide) (Nat.le_of_ble_eq_true rfl) (fun G h0 hini hE => wX4_greatestGrowth a0 S h0 (fun o => o = some x) (fun h => nomatch h) (fun v h => by cases h; exact hE)) hf
