theorem dX1_init_0 : decode cX1_init 0 = .ok (.aload_n 0, 1) := by decide +kernel
theorem dX1_init_1 : decode cX1_init 1 = .ok (.invokespecial 3, 3) := by decide +kernel
theorem dX1_init_4 : decode cX1_init 4 = .ok (.aload_n 0, 1) := by decide +kernel
theorem dX1_init_5 : decode cX1_init 5 = .ok (.bipush 64, 2) := by decide +kernel
theorem dX1_init_7 : decode cX1_init 7 = .ok (.newarray .int, 2) := by decide +kernel
theorem dX1_init_9 : decode cX1_init 9 = .ok (.putfield 9, 3) := by decide +kernel
theorem dX1_init_12 : decode cX1_init 12 = .ok (.return_, 1) := by decide +kernel
abbrev rmX1_init : Room := { frames := 1, cells := 1, slots := 64, locals := 23 }
theorem zyX1_init : zyOK yX1_init 0 := ⟨by decide +kernel, by decide +kernel, by decide +kernel⟩
set_option maxHeartbeats 4000000 in
set_option maxRecDepth 100000 in
theorem wX1_init {G : ZG} (a0 : Nat) (S : ZS) (h0 : zFix G cX1_init RX1 1 none rmX1_init) (hini : zIni G) (C : Option ZS → Prop) (hC : ¬ C none) (hE : ∀ S1 : ZS, C (some S1) → zEnd G none S1 rmX1_init) : zV G 1 S 0 0 0 [(0, .ref a0)] [] (C (fX1_init a0 S)) := by
  unfold fX1_init
  refine zr_aload_n h0 dX1_init_0 rfl (n := 1) rfl ?_
  refine zr_objInit h0 zw_32 zw_21 zw_22 (by decide) (Nat.le_of_ble_eq_true rfl) dX1_init_1 (n := 4) rfl ?_
  refine zr_aload_n h0 dX1_init_4 rfl (n := 5) rfl ?_
  refine zr_bipush (64 : Int32) h0 (by decide) dX1_init_5 (n := 7) rfl ?_
  refine zr_newarray (t := 0) (N := 64) (ce' := 1) (sl' := 64) h0 rfl rfl (fun _ => rfl) rfl (fun _ h => nomatch h) zw_43 (by decide) rfl (by decide) rfl rfl (by decide) (by decide) dX1_init_7 (n := 9) rfl ?_
  refine zr_putK C hC h0 zcX1 (k := 0) (by decide) zw_33 rfl hini rfl rfl rfl dX1_init_9 (n := 12) rfl (fun S1 => ?_)
  exact zr_vret h0 rfl dX1_init_12 (fun h => hE _ h) (by decide) (by decide)
theorem kX1_init (l : Launch) (D : ZD) (z0 : Nat) (a0 : Nat) (S : ZS) (x : ZS) (hf : fX1_init a0 S = some x) : zMet l D z0 yX1_init cX1_init 1 none rmX1_init [.ref a0] S none x :=
  zMet_of (by decide) (Nat.le_of_ble_eq_true rfl) (fun G h0 hini hE => wX1_init a0 S h0 (hini rfl) (fun o => o = some x) (fun h => nomatch h) (fun S1 h => by cases h; exact hE)) hf
theorem dX2_init_0 : decode cX2_init 0 = .ok (.aload_n 0, 1) := by decide +kernel
theorem dX2_init_1 : decode cX2_init 1 = .ok (.invokespecial 5, 3) := by decide +kernel
theorem dX2_init_4 : decode cX2_init 4 = .ok (.aload_n 0, 1) := by decide +kernel
theorem dX2_init_5 : decode cX2_init 5 = .ok (.bipush 105, 2) := by decide +kernel
theorem dX2_init_7 : decode cX2_init 7 = .ok (.newarray .int, 2) := by decide +kernel
theorem dX2_init_9 : decode cX2_init 9 = .ok (.putfield 11, 3) := by decide +kernel
theorem dX2_init_12 : decode cX2_init 12 = .ok (.aload_n 0, 1) := by decide +kernel
theorem dX2_init_13 : decode cX2_init 13 = .ok (.bipush 64, 2) := by decide +kernel
theorem dX2_init_15 : decode cX2_init 15 = .ok (.newarray .long, 2) := by decide +kernel
theorem dX2_init_17 : decode cX2_init 17 = .ok (.putfield 15, 3) := by decide +kernel
theorem dX2_init_20 : decode cX2_init 20 = .ok (.return_, 1) := by decide +kernel
abbrev rmX2_init : Room := { frames := 1, cells := 2, slots := 169, locals := 23 }
theorem zyX2_init : zyOK yX2_init 0 := ⟨by decide +kernel, by decide +kernel, by decide +kernel⟩
set_option maxHeartbeats 4000000 in
set_option maxRecDepth 100000 in
theorem wX2_init {G : ZG} (a0 : Nat) (S : ZS) (h0 : zFix G cX2_init RX2 1 none rmX2_init) (hini : zIni G) (C : Option ZS → Prop) (hC : ¬ C none) (hE : ∀ S1 : ZS, C (some S1) → zEnd G none S1 rmX2_init) : zV G 1 S 0 0 0 [(0, .ref a0)] [] (C (fX2_init a0 S)) := by
  unfold fX2_init
  refine zr_aload_n h0 dX2_init_0 rfl (n := 1) rfl ?_
  refine zr_objInit h0 zw_49 zw_21 zw_22 (by decide) (Nat.le_of_ble_eq_true rfl) dX2_init_1 (n := 4) rfl ?_
  refine zr_aload_n h0 dX2_init_4 rfl (n := 5) rfl ?_
  refine zr_bipush (105 : Int32) h0 (by decide) dX2_init_5 (n := 7) rfl ?_
  refine zr_newarray (t := 0) (N := 105) (ce' := 1) (sl' := 105) h0 rfl rfl (fun _ => rfl) rfl (fun _ h => nomatch h) zw_43 (by decide) rfl (by decide) rfl rfl (by decide) (by decide) dX2_init_7 (n := 9) rfl ?_
  refine zr_putK C hC h0 zcX2 (k := 0) (by decide) zw_50 rfl hini rfl rfl rfl dX2_init_9 (n := 12) rfl (fun S1 => ?_)
  refine zr_aload_n h0 dX2_init_12 rfl (n := 13) rfl ?_
  refine zr_bipush (64 : Int32) h0 (by decide) dX2_init_13 (n := 15) rfl ?_
  refine zr_newarray (t := 1) (N := 64) (ce' := 2) (sl' := 169) h0 rfl rfl (fun _ => rfl) rfl (fun _ h => nomatch h) zw_60 (by decide) rfl (by decide) rfl rfl (by decide) (by decide) dX2_init_15 (n := 17) rfl ?_
  refine zr_putK C hC h0 zcX2 (k := 1) (by decide) zw_51 rfl hini rfl rfl rfl dX2_init_17 (n := 20) rfl (fun S2 => ?_)
  exact zr_vret h0 rfl dX2_init_20 (fun h => hE _ h) (by decide) (by decide)
theorem kX2_init (l : Launch) (D : ZD) (z0 : Nat) (a0 : Nat) (S : ZS) (x : ZS) (hf : fX2_init a0 S = some x) : zMet l D z0 yX2_init cX2_init 1 none rmX2_init [.ref a0] S none x :=
  zMet_of (by decide) (Nat.le_of_ble_eq_true rfl) (fun G h0 hini hE => wX2_init a0 S h0 (hini rfl) (fun o => o = some x) (fun h => nomatch h) (fun S1 h => by cases h; exact hE)) hf
theorem dX3_init_0 : decode cX3_init 0 = .ok (.aload_n 0, 1) := by decide +kernel
theorem dX3_init_1 : decode cX3_init 1 = .ok (.invokespecial 3, 3) := by decide +kernel
theorem dX3_init_4 : decode cX3_init 4 = .ok (.aload_n 0, 1) := by decide +kernel
theorem dX3_init_5 : decode cX3_init 5 = .ok (.bipush 120, 2) := by decide +kernel
theorem dX3_init_7 : decode cX3_init 7 = .ok (.newarray .long, 2) := by decide +kernel
theorem dX3_init_9 : decode cX3_init 9 = .ok (.putfield 11, 3) := by decide +kernel
theorem dX3_init_12 : decode cX3_init 12 = .ok (.return_, 1) := by decide +kernel
abbrev rmX3_init : Room := { frames := 1, cells := 1, slots := 120, locals := 23 }
theorem zyX3_init : zyOK yX3_init 0 := ⟨by decide +kernel, by decide +kernel, by decide +kernel⟩
set_option maxHeartbeats 4000000 in
set_option maxRecDepth 100000 in
theorem wX3_init {G : ZG} (a0 : Nat) (S : ZS) (h0 : zFix G cX3_init RX3 1 none rmX3_init) (hini : zIni G) (C : Option ZS → Prop) (hC : ¬ C none) (hE : ∀ S1 : ZS, C (some S1) → zEnd G none S1 rmX3_init) : zV G 1 S 0 0 0 [(0, .ref a0)] [] (C (fX3_init a0 S)) := by
  unfold fX3_init
  refine zr_aload_n h0 dX3_init_0 rfl (n := 1) rfl ?_
  refine zr_objInit h0 zw_66 zw_21 zw_22 (by decide) (Nat.le_of_ble_eq_true rfl) dX3_init_1 (n := 4) rfl ?_
  refine zr_aload_n h0 dX3_init_4 rfl (n := 5) rfl ?_
  refine zr_bipush (120 : Int32) h0 (by decide) dX3_init_5 (n := 7) rfl ?_
  refine zr_newarray (t := 1) (N := 120) (ce' := 1) (sl' := 120) h0 rfl rfl (fun _ => rfl) rfl (fun _ h => nomatch h) zw_60 (by decide) rfl (by decide) rfl rfl (by decide) (by decide) dX3_init_7 (n := 9) rfl ?_
  refine zr_putK C hC h0 zcX3 (k := 0) (by decide) zw_67 rfl hini rfl rfl rfl dX3_init_9 (n := 12) rfl (fun S1 => ?_)
  exact zr_vret h0 rfl dX3_init_12 (fun h => hE _ h) (by decide) (by decide)
theorem kX3_init (l : Launch) (D : ZD) (z0 : Nat) (a0 : Nat) (S : ZS) (x : ZS) (hf : fX3_init a0 S = some x) : zMet l D z0 yX3_init cX3_init 1 none rmX3_init [.ref a0] S none x :=
  zMet_of (by decide) (Nat.le_of_ble_eq_true rfl) (fun G h0 hini hE => wX3_init a0 S h0 (hini rfl) (fun o => o = some x) (fun h => nomatch h) (fun S1 h => by cases h; exact hE)) hf
theorem dX5_init_0 : decode cX5_init 0 = .ok (.aload_n 0, 1) := by decide +kernel
theorem dX5_init_1 : decode cX5_init 1 = .ok (.invokespecial 3, 3) := by decide +kernel
theorem dX5_init_4 : decode cX5_init 4 = .ok (.aload_n 0, 1) := by decide +kernel
theorem dX5_init_5 : decode cX5_init 5 = .ok (.bipush 16, 2) := by decide +kernel
theorem dX5_init_7 : decode cX5_init 7 = .ok (.anewarray 9, 3) := by decide +kernel
theorem dX5_init_10 : decode cX5_init 10 = .ok (.putfield 11, 3) := by decide +kernel
theorem dX5_init_13 : decode cX5_init 13 = .ok (.aload_n 0, 1) := by decide +kernel
theorem dX5_init_14 : decode cX5_init 14 = .ok (.bipush 16, 2) := by decide +kernel
theorem dX5_init_16 : decode cX5_init 16 = .ok (.anewarray 15, 3) := by decide +kernel
theorem dX5_init_19 : decode cX5_init 19 = .ok (.putfield 17, 3) := by decide +kernel
theorem dX5_init_22 : decode cX5_init 22 = .ok (.aload_n 0, 1) := by decide +kernel
theorem dX5_init_23 : decode cX5_init 23 = .ok (.new 21, 3) := by decide +kernel
theorem dX5_init_26 : decode cX5_init 26 = .ok (.dup, 1) := by decide +kernel
theorem dX5_init_27 : decode cX5_init 27 = .ok (.invokespecial 23, 3) := by decide +kernel
theorem dX5_init_30 : decode cX5_init 30 = .ok (.putfield 24, 3) := by decide +kernel
theorem dX5_init_33 : decode cX5_init 33 = .ok (.aload_n 0, 1) := by decide +kernel
theorem dX5_init_34 : decode cX5_init 34 = .ok (.new 28, 3) := by decide +kernel
theorem dX5_init_37 : decode cX5_init 37 = .ok (.dup, 1) := by decide +kernel
theorem dX5_init_38 : decode cX5_init 38 = .ok (.invokespecial 30, 3) := by decide +kernel
theorem dX5_init_41 : decode cX5_init 41 = .ok (.putfield 31, 3) := by decide +kernel
theorem dX5_init_44 : decode cX5_init 44 = .ok (.aload_n 0, 1) := by decide +kernel
theorem dX5_init_45 : decode cX5_init 45 = .ok (.new 35, 3) := by decide +kernel
theorem dX5_init_48 : decode cX5_init 48 = .ok (.dup, 1) := by decide +kernel
theorem dX5_init_49 : decode cX5_init 49 = .ok (.invokespecial 37, 3) := by decide +kernel
theorem dX5_init_52 : decode cX5_init 52 = .ok (.putfield 38, 3) := by decide +kernel
theorem dX5_init_55 : decode cX5_init 55 = .ok (.aload_n 0, 1) := by decide +kernel
theorem dX5_init_56 : decode cX5_init 56 = .ok (.bipush 64, 2) := by decide +kernel
theorem dX5_init_58 : decode cX5_init 58 = .ok (.newarray .int, 2) := by decide +kernel
theorem dX5_init_60 : decode cX5_init 60 = .ok (.putfield 42, 3) := by decide +kernel
theorem dX5_init_63 : decode cX5_init 63 = .ok (.aload_n 0, 1) := by decide +kernel
theorem dX5_init_64 : decode cX5_init 64 = .ok (.iconst 2, 1) := by decide +kernel
theorem dX5_init_65 : decode cX5_init 65 = .ok (.putfield 46, 3) := by decide +kernel
theorem dX5_init_68 : decode cX5_init 68 = .ok (.aload_n 0, 1) := by decide +kernel
theorem dX5_init_69 : decode cX5_init 69 = .ok (.iconst 0, 1) := by decide +kernel
theorem dX5_init_70 : decode cX5_init 70 = .ok (.putfield 50, 3) := by decide +kernel
theorem dX5_init_73 : decode cX5_init 73 = .ok (.aload_n 0, 1) := by decide +kernel
theorem dX5_init_74 : decode cX5_init 74 = .ok (.iconst 0, 1) := by decide +kernel
theorem dX5_init_75 : decode cX5_init 75 = .ok (.putfield 53, 3) := by decide +kernel
theorem dX5_init_78 : decode cX5_init 78 = .ok (.return_, 1) := by decide +kernel
abbrev rmX5_init : Room := { frames := 2, cells := 10, slots := 457, locals := 43 }
theorem zyX5_init : zyOK yX5_init 0 := ⟨by decide +kernel, by decide +kernel, by decide +kernel⟩
set_option maxHeartbeats 4000000 in
set_option maxRecDepth 100000 in
theorem wX5_init {G : ZG} (a0 : Nat) (S : ZS) (h0 : zFix G cX5_init RX5 1 none rmX5_init) (hini : zIni G) (C : Option ZS → Prop) (hC : ¬ C none) (hE : ∀ S1 : ZS, C (some S1) → zEnd G none S1 rmX5_init) : zV G 1 S 0 0 0 [(0, .ref a0)] [] (C (fX5_init a0 S)) := by
  unfold fX5_init
  refine zr_aload_n h0 dX5_init_0 rfl (n := 1) rfl ?_
  refine zr_objInit h0 zw_20 zw_21 zw_22 (by decide) (Nat.le_of_ble_eq_true rfl) dX5_init_1 (n := 4) rfl ?_
  refine zr_aload_n h0 dX5_init_4 rfl (n := 5) rfl ?_
  refine zr_bipush (16 : Int32) h0 (by decide) dX5_init_5 (n := 7) rfl ?_
  refine zr_anewarray (t := 3) (N := 16) (ce' := 1) (sl' := 16) h0 rfl zAO3 (by decide) zw_23 (by decide) rfl (by decide) rfl rfl (by decide) (by decide) dX5_init_7 (n := 10) rfl ?_
  refine zr_putK C hC h0 zcX5 (k := 0) (by decide) zw_74 rfl hini rfl rfl rfl dX5_init_10 (n := 13) rfl (fun S1 => ?_)
  refine zr_aload_n h0 dX5_init_13 rfl (n := 14) rfl ?_
  refine zr_bipush (16 : Int32) h0 (by decide) dX5_init_14 (n := 16) rfl ?_
  refine zr_anewarray (t := 4) (N := 16) (ce' := 2) (sl' := 32) h0 rfl zAO4 (by decide) zw_25 (by decide) rfl (by decide) rfl rfl (by decide) (by decide) dX5_init_16 (n := 19) rfl ?_
  refine zr_putK C hC h0 zcX5 (k := 1) (by decide) zw_75 rfl hini rfl rfl rfl dX5_init_19 (n := 22) rfl (fun S2 => ?_)
  refine zr_aload_n h0 dX5_init_22 rfl (n := 23) rfl ?_
  refine zr_new (fs := [.null, .int 0, .int 0]) (ce' := 3) (sl' := 35) h0 zcX1 znwX1 zw_27 zw_28 zw_2 rfl rfl (by decide) (by decide) dX5_init_23 (n := 26) rfl ?_
  refine zr_dup h0 rfl dX5_init_26 (n := 27) rfl ?_
  refine zr_cMV C hC 4 99 (fun x hx => zk_IN (host := "Bilinearium") h0 (fun l D z0 => kX1_init l D z0 S2.2 (zno S2 1 [.null, .int 0, .int 0]) x hx) (by decide +kernel) zw_30 zw_2 zw_31 rfl zyX1_init (As := []) (st := [.ref S2.2, .ref a0]) rfl (by decide) rfl (Nat.le_of_ble_eq_true rfl) (by decide) dX5_init_27) rfl rfl (n := 30) rfl (fun x3 => ?_)
  refine zr_putK C hC h0 zcX5 (k := 2) (by decide) zw_76 rfl hini rfl rfl rfl dX5_init_30 (n := 33) rfl (fun S4 => ?_)
  refine zr_aload_n h0 dX5_init_33 rfl (n := 34) rfl ?_
  refine zr_new (fs := [.null, .null, .int 0]) (ce' := 5) (sl' := 102) h0 zcX2 znwX2 zw_44 zw_45 zw_3 rfl rfl (by decide) (by decide) dX5_init_34 (n := 37) rfl ?_
  refine zr_dup h0 rfl dX5_init_37 (n := 38) rfl ?_
  refine zr_cMV C hC 7 271 (fun x hx => zk_IN (host := "Bilinearium") h0 (fun l D z0 => kX2_init l D z0 S4.2 (zno S4 2 [.null, .null, .int 0]) x hx) (by decide +kernel) zw_47 zw_3 zw_48 rfl zyX2_init (As := []) (st := [.ref S4.2, .ref a0]) rfl (by decide) rfl (Nat.le_of_ble_eq_true rfl) (by decide) dX5_init_38) rfl rfl (n := 41) rfl (fun x5 => ?_)
  refine zr_putK C hC h0 zcX5 (k := 3) (by decide) zw_77 rfl hini rfl rfl rfl dX5_init_41 (n := 44) rfl (fun S6 => ?_)
  refine zr_aload_n h0 dX5_init_44 rfl (n := 45) rfl ?_
  refine zr_new (fs := [.null, .int 0]) (ce' := 8) (sl' := 273) h0 zcX3 znwX3 zw_61 zw_62 zw_4 rfl rfl (by decide) (by decide) dX5_init_45 (n := 48) rfl ?_
  refine zr_dup h0 rfl dX5_init_48 (n := 49) rfl ?_
  refine zr_cMV C hC 9 393 (fun x hx => zk_IN (host := "Bilinearium") h0 (fun l D z0 => kX3_init l D z0 S6.2 (zno S6 3 [.null, .int 0]) x hx) (by decide +kernel) zw_64 zw_4 zw_65 rfl zyX3_init (As := []) (st := [.ref S6.2, .ref a0]) rfl (by decide) rfl (Nat.le_of_ble_eq_true rfl) (by decide) dX5_init_49) rfl rfl (n := 52) rfl (fun x7 => ?_)
  refine zr_putK C hC h0 zcX5 (k := 4) (by decide) zw_78 rfl hini rfl rfl rfl dX5_init_52 (n := 55) rfl (fun S8 => ?_)
  refine zr_aload_n h0 dX5_init_55 rfl (n := 56) rfl ?_
  refine zr_bipush (64 : Int32) h0 (by decide) dX5_init_56 (n := 58) rfl ?_
  refine zr_newarray (t := 0) (N := 64) (ce' := 10) (sl' := 457) h0 rfl rfl (fun _ => rfl) rfl (fun _ h => nomatch h) zw_43 (by decide) rfl (by decide) rfl rfl (by decide) (by decide) dX5_init_58 (n := 60) rfl ?_
  refine zr_putK C hC h0 zcX5 (k := 5) (by decide) zw_79 rfl hini rfl rfl rfl dX5_init_60 (n := 63) rfl (fun S9 => ?_)
  refine zr_aload_n h0 dX5_init_63 rfl (n := 64) rfl ?_
  refine zr_iconst (2 : Int32) h0 (by decide) dX5_init_64 (n := 65) rfl ?_
  refine zr_putF C hC h0 zcX5 (k := 6) (by decide) zw_80 rfl rfl rfl dX5_init_65 (n := 68) rfl (fun S10 => ?_)
  refine zr_aload_n h0 dX5_init_68 rfl (n := 69) rfl ?_
  refine zr_iconst (0 : Int32) h0 (by decide) dX5_init_69 (n := 70) rfl ?_
  refine zr_putF C hC h0 zcX5 (k := 7) (by decide) zw_81 rfl rfl rfl dX5_init_70 (n := 73) rfl (fun S11 => ?_)
  refine zr_aload_n h0 dX5_init_73 rfl (n := 74) rfl ?_
  refine zr_iconst (0 : Int32) h0 (by decide) dX5_init_74 (n := 75) rfl ?_
  refine zr_putF C hC h0 zcX5 (k := 8) (by decide) zw_82 rfl rfl rfl dX5_init_75 (n := 78) rfl (fun S12 => ?_)
  exact zr_vret h0 rfl dX5_init_78 (fun h => hE _ h) (by decide) (by decide)
theorem kX5_init (l : Launch) (D : ZD) (z0 : Nat) (a0 : Nat) (S : ZS) (x : ZS) (hf : fX5_init a0 S = some x) : zMet l D z0 yX5_init cX5_init 1 none rmX5_init [.ref a0] S none x :=
  zMet_of (by decide) (Nat.le_of_ble_eq_true rfl) (fun G h0 hini hE => wX5_init a0 S h0 (hini rfl) (fun o => o = some x) (fun h => nomatch h) (fun S1 h => by cases h; exact hE)) hf
theorem dX5_prime_0 : decode cX5_prime 0 = .ok (.iload_n 1, 1) := by decide +kernel
theorem dX5_prime_1 : decode cX5_prime 1 = .ok (.iconst 2, 1) := by decide +kernel
theorem dX5_prime_2 : decode cX5_prime 2 = .ok (.if_icmp .eq 23, 3) := by decide +kernel
theorem dX5_prime_5 : decode cX5_prime 5 = .ok (.iload_n 1, 1) := by decide +kernel
theorem dX5_prime_6 : decode cX5_prime 6 = .ok (.iconst 3, 1) := by decide +kernel
theorem dX5_prime_7 : decode cX5_prime 7 = .ok (.if_icmp .eq 18, 3) := by decide +kernel
theorem dX5_prime_10 : decode cX5_prime 10 = .ok (.iload_n 1, 1) := by decide +kernel
theorem dX5_prime_11 : decode cX5_prime 11 = .ok (.iconst 5, 1) := by decide +kernel
theorem dX5_prime_12 : decode cX5_prime 12 = .ok (.if_icmp .eq 13, 3) := by decide +kernel
theorem dX5_prime_15 : decode cX5_prime 15 = .ok (.new 56, 3) := by decide +kernel
theorem dX5_prime_18 : decode cX5_prime 18 = .ok (.dup, 1) := by decide +kernel
theorem dX5_prime_19 : decode cX5_prime 19 = .ok (.ldc 58, 2) := by decide +kernel
theorem dX5_prime_21 : decode cX5_prime 21 = .ok (.invokespecial 60, 3) := by decide +kernel
theorem dX5_prime_24 : decode cX5_prime 24 = .ok (.athrow, 1) := by decide +kernel
theorem dX5_prime_25 : decode cX5_prime 25 = .ok (.aload_n 0, 1) := by decide +kernel
theorem dX5_prime_26 : decode cX5_prime 26 = .ok (.getfield 50, 3) := by decide +kernel
theorem dX5_prime_29 : decode cX5_prime 29 = .ok (.ifCond .le 13, 3) := by decide +kernel
theorem dX5_prime_32 : decode cX5_prime 32 = .ok (.new 63, 3) := by decide +kernel
theorem dX5_prime_35 : decode cX5_prime 35 = .ok (.dup, 1) := by decide +kernel
theorem dX5_prime_36 : decode cX5_prime 36 = .ok (.ldc 65, 2) := by decide +kernel
theorem dX5_prime_38 : decode cX5_prime 38 = .ok (.invokespecial 67, 3) := by decide +kernel
theorem dX5_prime_41 : decode cX5_prime 41 = .ok (.athrow, 1) := by decide +kernel
theorem dX5_prime_42 : decode cX5_prime 42 = .ok (.aload_n 0, 1) := by decide +kernel
theorem dX5_prime_43 : decode cX5_prime 43 = .ok (.getfield 46, 3) := by decide +kernel
theorem dX5_prime_46 : decode cX5_prime 46 = .ok (.istore_n 2, 1) := by decide +kernel
theorem dX5_prime_47 : decode cX5_prime 47 = .ok (.aload_n 0, 1) := by decide +kernel
theorem dX5_prime_48 : decode cX5_prime 48 = .ok (.iload_n 1, 1) := by decide +kernel
theorem dX5_prime_49 : decode cX5_prime 49 = .ok (.putfield 46, 3) := by decide +kernel
theorem dX5_prime_52 : decode cX5_prime 52 = .ok (.iload_n 2, 1) := by decide +kernel
theorem dX5_prime_53 : decode cX5_prime 53 = .ok (.ireturn, 1) := by decide +kernel
abbrev rmX5_prime : Room := { frames := 6, cells := 1, slots := 6, locals := 90 }
theorem zyX5_prime : zyOK yX5_prime 1 := ⟨by decide +kernel, by decide +kernel, by decide +kernel⟩
set_option maxHeartbeats 4000000 in
set_option maxRecDepth 100000 in
theorem wX5_prime {G : ZG} (a0 : Nat) (a1 : Int32) (S : ZS) (h0 : zFix G cX5_prime RX5 3 (some .int) rmX5_prime) (C : Option ((Int32 × ZS) ⊕ ZX) → Prop) (hC : ¬ C none) (hnt : zNoTab G) (hE : ∀ (v : Int32) (S1 : ZS), C (some (.inl (v, S1))) → zEndT G (some (.int v)) S1 rmX5_prime) (hEx : ∀ (E : String) (h : ZH), C (some (.inr (E, h))) → zEndX G E h rmX5_prime) : zV G 3 S 0 0 0 [(0, .ref a0), (1, .int a1)] [] (C (fX5_prime a0 a1 S)) := by
  have J25 : ∀ (l0_25 : Nat) (l1_25 : Int32) (S_25 : ZS), zV G 3 S_25 0 0 25 [(0, .ref l0_25), (1, .int l1_25)] [] (C (fX5_prime_J25 l0_25 l1_25 S_25)) := by
    intro l0_25 l1_25 S_25
    unfold fX5_prime_J25
    refine zr_aload_n h0 dX5_prime_25 rfl (n := 26) rfl ?_
    refine zr_getI C hC h0 zcX5 (k := 7) (by decide) zw_81 dX5_prime_26 (n := 29) rfl (fun v4 => ?_)
    refine zr_if_le C (tgt := 42) h0 dX5_prime_29 (by decide) (n := 32) rfl ?_ ?_
    · refine zr_aload_n h0 dX5_prime_42 rfl (n := 43) rfl ?_
      refine zr_getI C hC h0 zcX5 (k := 6) (by decide) zw_80 dX5_prime_43 (n := 46) rfl (fun v5 => ?_)
      refine zr_istore_n [(0, .ref l0_25), (1, .int l1_25), (2, .int v5)] h0 dX5_prime_46 (by decide) rfl (n := 47) rfl ?_
      refine zr_aload_n h0 dX5_prime_47 rfl (n := 48) rfl ?_
      refine zr_iload_n h0 dX5_prime_48 rfl (n := 49) rfl ?_
      refine zr_putF C hC h0 zcX5 (k := 6) (by decide) zw_80 rfl rfl rfl dX5_prime_49 (n := 52) rfl (fun S6 => ?_)
      refine zr_iload_n h0 dX5_prime_52 rfl (n := 53) rfl ?_
      exact zr_iretT h0 rfl dX5_prime_53 (hE _ _) (by decide) (by decide)
    · refine zv_sub (lv' := []) ?_ (zsub_of [] rfl)
      exact zr_throw h0 hnt (cls := "java/lang/IllegalStateException") (text := "there are cubes") (names := ["java/lang/RuntimeException", "java/lang/Exception"]) (by decide +kernel) zfitN zw_186 zw_9 (by decide +kernel) (by decide +kernel) zat_X5_67 zbad_X5_67 zgd_X5_67 dX5_prime_32 dX5_prime_35 dX5_prime_36 dX5_prime_38 dX5_prime_41 (by decide) (Nat.le_of_ble_eq_true rfl) (by decide) (by decide) (fun h => hEx _ _ h)
  unfold fX5_prime
  refine zr_iload_n h0 dX5_prime_0 rfl (n := 1) rfl ?_
  refine zr_iconst (2 : Int32) h0 (by decide) dX5_prime_1 (n := 2) rfl ?_
  refine zr_icmp_eq C (tgt := 25) h0 dX5_prime_2 (by decide) (n := 5) rfl ?_ ?_
  · exact J25 a0 a1 S
  · refine zr_iload_n h0 dX5_prime_5 rfl (n := 6) rfl ?_
    refine zr_iconst (3 : Int32) h0 (by decide) dX5_prime_6 (n := 7) rfl ?_
    refine zr_icmp_eq C (tgt := 25) h0 dX5_prime_7 (by decide) (n := 10) rfl ?_ ?_
    · exact J25 a0 a1 S
    · refine zr_iload_n h0 dX5_prime_10 rfl (n := 11) rfl ?_
      refine zr_iconst (5 : Int32) h0 (by decide) dX5_prime_11 (n := 12) rfl ?_
      refine zr_icmp_eq C (tgt := 25) h0 dX5_prime_12 (by decide) (n := 15) rfl ?_ ?_
      · exact J25 a0 a1 S
      · refine zv_sub (lv' := []) ?_ (zsub_of [] rfl)
        exact zr_throw h0 hnt (cls := "java/lang/IllegalArgumentException") (text := "the prime is 2, 3 or 5") (names := ["java/lang/RuntimeException", "java/lang/Exception"]) (by decide +kernel) zfitN zw_118 zw_8 (by decide +kernel) (by decide +kernel) zat_X5_60 zbad_X5_60 zgd_X5_60 dX5_prime_15 dX5_prime_18 dX5_prime_19 dX5_prime_21 dX5_prime_24 (by decide) (Nat.le_of_ble_eq_true rfl) (by decide) (by decide) (fun h => hEx _ _ h)
theorem kX5_prime (l : Launch) (D : ZD) (z0 : Nat) (hlt : l.stackTraces = false) (a0 : Nat) (a1 : Int32) (S : ZS) (x : ((Int32 × ZS) ⊕ ZX)) (hf : fX5_prime a0 a1 S = some x) : zMetT l D z0 yX5_prime cX5_prime 3 (some .int) rmX5_prime [.ref a0, .int a1] S (x.map (fun y => ((some (.int y.1)), y.2)) id) :=
  zMetT_of hlt (by decide) (Nat.le_of_ble_eq_true rfl) (fun G h0 hnt hE hEx => wX5_prime a0 a1 S h0 (fun o => o = some x) (fun h => nomatch h) hnt (fun v S1 h => by cases h; exact hE _ _ rfl) (fun E h hh => by cases hh; exact hEx _ _ rfl)) hf
theorem dX5_needSize_0 : decode cX5_needSize 0 = .ok (.iload_n 0, 1) := by decide +kernel
theorem dX5_needSize_1 : decode cX5_needSize 1 = .ok (.iconst 1, 1) := by decide +kernel
theorem dX5_needSize_2 : decode cX5_needSize 2 = .ok (.if_icmp .lt 8, 3) := by decide +kernel
theorem dX5_needSize_5 : decode cX5_needSize 5 = .ok (.iload_n 0, 1) := by decide +kernel
theorem dX5_needSize_6 : decode cX5_needSize 6 = .ok (.iconst 4, 1) := by decide +kernel
theorem dX5_needSize_7 : decode cX5_needSize 7 = .ok (.if_icmp .le 13, 3) := by decide +kernel
theorem dX5_needSize_10 : decode cX5_needSize 10 = .ok (.new 56, 3) := by decide +kernel
theorem dX5_needSize_13 : decode cX5_needSize 13 = .ok (.dup, 1) := by decide +kernel
theorem dX5_needSize_14 : decode cX5_needSize 14 = .ok (.ldc 252, 2) := by decide +kernel
theorem dX5_needSize_16 : decode cX5_needSize 16 = .ok (.invokespecial 60, 3) := by decide +kernel
theorem dX5_needSize_19 : decode cX5_needSize 19 = .ok (.athrow, 1) := by decide +kernel
theorem dX5_needSize_20 : decode cX5_needSize 20 = .ok (.return_, 1) := by decide +kernel
abbrev rmX5_needSize : Room := { frames := 6, cells := 1, slots := 6, locals := 90 }
theorem zyX5_needSize : zyOK yX5_needSize 1 := ⟨by decide +kernel, by decide +kernel, by decide +kernel⟩
set_option maxHeartbeats 4000000 in
set_option maxRecDepth 100000 in
theorem wX5_needSize {G : ZG} (a0 : Int32) (S : ZS) (h0 : zFix G cX5_needSize RX5 1 none rmX5_needSize) (C : Option ((Unit × ZS) ⊕ ZX) → Prop) (hC : ¬ C none) (hnt : zNoTab G) (hE : ∀ (v : Unit) (S1 : ZS), C (some (.inl (v, S1))) → zEndT G none S1 rmX5_needSize) (hEx : ∀ (E : String) (h : ZH), C (some (.inr (E, h))) → zEndX G E h rmX5_needSize) : zV G 1 S 0 0 0 [(0, .int a0)] [] (C (fX5_needSize a0 S)) := by
  have J10 : ∀  (S_10 : ZS), zV G 1 S_10 0 0 10 [] [] (C (fX5_needSize_J10 S_10)) := by
    intro  S_10
    unfold fX5_needSize_J10
    exact zr_throw h0 hnt (cls := "java/lang/IllegalArgumentException") (text := "a size is out of range") (names := ["java/lang/RuntimeException", "java/lang/Exception"]) (by decide +kernel) zfitN zw_118 zw_8 (by decide +kernel) (by decide +kernel) zat_X5_60 zbad_X5_60 zgd_X5_60 dX5_needSize_10 dX5_needSize_13 dX5_needSize_14 dX5_needSize_16 dX5_needSize_19 (by decide) (Nat.le_of_ble_eq_true rfl) (by decide) (by decide) (fun h => hEx _ _ h)
  unfold fX5_needSize
  refine zr_iload_n h0 dX5_needSize_0 rfl (n := 1) rfl ?_
  refine zr_iconst (1 : Int32) h0 (by decide) dX5_needSize_1 (n := 2) rfl ?_
  refine zr_icmp_lt C (tgt := 10) h0 dX5_needSize_2 (by decide) (n := 5) rfl ?_ ?_
  · refine zv_sub (lv' := []) ?_ (zsub_of [] rfl)
    exact J10 S
  · refine zr_iload_n h0 dX5_needSize_5 rfl (n := 6) rfl ?_
    refine zr_iconst (4 : Int32) h0 (by decide) dX5_needSize_6 (n := 7) rfl ?_
    refine zr_icmp_le C (tgt := 20) h0 dX5_needSize_7 (by decide) (n := 10) rfl ?_ ?_
    · refine zv_sub (lv' := []) ?_ (zsub_of [] rfl)
      exact zr_vretT h0 rfl dX5_needSize_20 (fun h => hE _ _ h) (by decide) (by decide)
    · refine zv_sub (lv' := []) ?_ (zsub_of [] rfl)
      exact J10 S
theorem kX5_needSize (l : Launch) (D : ZD) (z0 : Nat) (hlt : l.stackTraces = false) (a0 : Int32) (S : ZS) (x : ((Unit × ZS) ⊕ ZX)) (hf : fX5_needSize a0 S = some x) : zMetT l D z0 yX5_needSize cX5_needSize 1 none rmX5_needSize [.int a0] S (x.map (fun y => (none, y.2)) id) :=
  zMetT_of hlt (by decide) (Nat.le_of_ble_eq_true rfl) (fun G h0 hnt hE hEx => wX5_needSize a0 S h0 (fun o => o = some x) (fun h => nomatch h) hnt (fun v S1 h => by cases h; exact hE _ _ rfl) (fun E h hh => by cases hh; exact hEx _ _ rfl)) hf
theorem dX0_init_0 : decode cX0_init 0 = .ok (.aload_n 0, 1) := by decide +kernel
theorem dX0_init_1 : decode cX0_init 1 = .ok (.invokespecial 3, 3) := by decide +kernel
theorem dX0_init_4 : decode cX0_init 4 = .ok (.aload_n 0, 1) := by decide +kernel
theorem dX0_init_5 : decode cX0_init 5 = .ok (.iload_n 1, 1) := by decide +kernel
theorem dX0_init_6 : decode cX0_init 6 = .ok (.putfield 9, 3) := by decide +kernel
theorem dX0_init_9 : decode cX0_init 9 = .ok (.aload_n 0, 1) := by decide +kernel
theorem dX0_init_10 : decode cX0_init 10 = .ok (.iload_n 2, 1) := by decide +kernel
theorem dX0_init_11 : decode cX0_init 11 = .ok (.putfield 15, 3) := by decide +kernel
theorem dX0_init_14 : decode cX0_init 14 = .ok (.aload_n 0, 1) := by decide +kernel
theorem dX0_init_15 : decode cX0_init 15 = .ok (.iload_n 3, 1) := by decide +kernel
theorem dX0_init_16 : decode cX0_init 16 = .ok (.putfield 18, 3) := by decide +kernel
theorem dX0_init_19 : decode cX0_init 19 = .ok (.aload_n 0, 1) := by decide +kernel
theorem dX0_init_20 : decode cX0_init 20 = .ok (.bipush 64, 2) := by decide +kernel
theorem dX0_init_22 : decode cX0_init 22 = .ok (.newarray .int, 2) := by decide +kernel
theorem dX0_init_24 : decode cX0_init 24 = .ok (.putfield 21, 3) := by decide +kernel
theorem dX0_init_27 : decode cX0_init 27 = .ok (.aload_n 0, 1) := by decide +kernel
theorem dX0_init_28 : decode cX0_init 28 = .ok (.iconst 0, 1) := by decide +kernel
theorem dX0_init_29 : decode cX0_init 29 = .ok (.putfield 25, 3) := by decide +kernel
theorem dX0_init_32 : decode cX0_init 32 = .ok (.return_, 1) := by decide +kernel
abbrev rmX0_init : Room := { frames := 1, cells := 1, slots := 64, locals := 23 }
theorem zyX0_init : zyOK yX0_init 3 := ⟨by decide +kernel, by decide +kernel, by decide +kernel⟩
set_option maxHeartbeats 4000000 in
set_option maxRecDepth 100000 in
theorem wX0_init {G : ZG} (a0 : Nat) (a1 : Int32) (a2 : Int32) (a3 : Int32) (S : ZS) (h0 : zFix G cX0_init RX0 4 none rmX0_init) (hini : zIni G) (C : Option ZS → Prop) (hC : ¬ C none) (hE : ∀ S1 : ZS, C (some S1) → zEnd G none S1 rmX0_init) : zV G 4 S 0 0 0 [(0, .ref a0), (1, .int a1), (2, .int a2), (3, .int a3)] [] (C (fX0_init a0 a1 a2 a3 S)) := by
  unfold fX0_init
  refine zr_aload_n h0 dX0_init_0 rfl (n := 1) rfl ?_
  refine zr_objInit h0 zw_226 zw_21 zw_22 (by decide) (Nat.le_of_ble_eq_true rfl) dX0_init_1 (n := 4) rfl ?_
  refine zr_aload_n h0 dX0_init_4 rfl (n := 5) rfl ?_
  refine zr_iload_n h0 dX0_init_5 rfl (n := 6) rfl ?_
  refine zr_putK C hC h0 zcX0 (k := 0) (by decide) zw_227 rfl hini rfl rfl rfl dX0_init_6 (n := 9) rfl (fun S1 => ?_)
  refine zr_aload_n h0 dX0_init_9 rfl (n := 10) rfl ?_
  refine zr_iload_n h0 dX0_init_10 rfl (n := 11) rfl ?_
  refine zr_putK C hC h0 zcX0 (k := 1) (by decide) zw_231 rfl hini rfl rfl rfl dX0_init_11 (n := 14) rfl (fun S2 => ?_)
  refine zr_aload_n h0 dX0_init_14 rfl (n := 15) rfl ?_
  refine zr_iload_n h0 dX0_init_15 rfl (n := 16) rfl ?_
  refine zr_putK C hC h0 zcX0 (k := 2) (by decide) zw_235 rfl hini rfl rfl rfl dX0_init_16 (n := 19) rfl (fun S3 => ?_)
  refine zr_aload_n h0 dX0_init_19 rfl (n := 20) rfl ?_
  refine zr_bipush (64 : Int32) h0 (by decide) dX0_init_20 (n := 22) rfl ?_
  refine zr_newarray (t := 0) (N := 64) (ce' := 1) (sl' := 64) h0 rfl rfl (fun _ => rfl) rfl (fun _ h => nomatch h) zw_43 (by decide) rfl (by decide) rfl rfl (by decide) (by decide) dX0_init_22 (n := 24) rfl ?_
  refine zr_putK C hC h0 zcX0 (k := 3) (by decide) zw_239 rfl hini rfl rfl rfl dX0_init_24 (n := 27) rfl (fun S4 => ?_)
  refine zr_aload_n h0 dX0_init_27 rfl (n := 28) rfl ?_
  refine zr_iconst (0 : Int32) h0 (by decide) dX0_init_28 (n := 29) rfl ?_
  refine zr_putF C hC h0 zcX0 (k := 4) (by decide) zw_241 rfl rfl rfl dX0_init_29 (n := 32) rfl (fun S5 => ?_)
  exact zr_vret h0 rfl dX0_init_32 (fun h => hE _ h) (by decide) (by decide)
theorem kX0_init (l : Launch) (D : ZD) (z0 : Nat) (a0 : Nat) (a1 : Int32) (a2 : Int32) (a3 : Int32) (S : ZS) (x : ZS) (hf : fX0_init a0 a1 a2 a3 S = some x) : zMet l D z0 yX0_init cX0_init 4 none rmX0_init [.ref a0, .int a1, .int a2, .int a3] S none x :=
  zMet_of (by decide) (Nat.le_of_ble_eq_true rfl) (fun G h0 hini hE => wX0_init a0 a1 a2 a3 S h0 (hini rfl) (fun o => o = some x) (fun h => nomatch h) (fun S1 h => by cases h; exact hE)) hf
theorem dX5_addCube_0 : decode cX5_addCube 0 = .ok (.iload_n 1, 1) := by decide +kernel
theorem dX5_addCube_1 : decode cX5_addCube 1 = .ok (.invokestatic 72, 3) := by decide +kernel
theorem dX5_addCube_4 : decode cX5_addCube 4 = .ok (.iload_n 2, 1) := by decide +kernel
theorem dX5_addCube_5 : decode cX5_addCube 5 = .ok (.invokestatic 72, 3) := by decide +kernel
theorem dX5_addCube_8 : decode cX5_addCube 8 = .ok (.iload_n 3, 1) := by decide +kernel
theorem dX5_addCube_9 : decode cX5_addCube 9 = .ok (.invokestatic 72, 3) := by decide +kernel
theorem dX5_addCube_12 : decode cX5_addCube 12 = .ok (.aload_n 0, 1) := by decide +kernel
theorem dX5_addCube_13 : decode cX5_addCube 13 = .ok (.getfield 50, 3) := by decide +kernel
theorem dX5_addCube_16 : decode cX5_addCube 16 = .ok (.ifCond .lt 15, 3) := by decide +kernel
theorem dX5_addCube_19 : decode cX5_addCube 19 = .ok (.aload_n 0, 1) := by decide +kernel
theorem dX5_addCube_20 : decode cX5_addCube 20 = .ok (.getfield 50, 3) := by decide +kernel
theorem dX5_addCube_23 : decode cX5_addCube 23 = .ok (.aload_n 0, 1) := by decide +kernel
theorem dX5_addCube_24 : decode cX5_addCube 24 = .ok (.getfield 11, 3) := by decide +kernel
theorem dX5_addCube_27 : decode cX5_addCube 27 = .ok (.arraylength, 1) := by decide +kernel
theorem dX5_addCube_28 : decode cX5_addCube 28 = .ok (.if_icmp .lt 14, 3) := by decide +kernel
theorem dX5_addCube_31 : decode cX5_addCube 31 = .ok (.new 63, 3) := by decide +kernel
theorem dX5_addCube_34 : decode cX5_addCube 34 = .ok (.dup, 1) := by decide +kernel
theorem dX5_addCube_35 : decode cX5_addCube 35 = .ok (.ldc_w 286, 3) := by decide +kernel
theorem dX5_addCube_38 : decode cX5_addCube 38 = .ok (.invokespecial 67, 3) := by decide +kernel
theorem dX5_addCube_41 : decode cX5_addCube 41 = .ok (.athrow, 1) := by decide +kernel
theorem dX5_addCube_42 : decode cX5_addCube 42 = .ok (.new 9, 3) := by decide +kernel
theorem dX5_addCube_45 : decode cX5_addCube 45 = .ok (.dup, 1) := by decide +kernel
theorem dX5_addCube_46 : decode cX5_addCube 46 = .ok (.iload_n 1, 1) := by decide +kernel
theorem dX5_addCube_47 : decode cX5_addCube 47 = .ok (.iload_n 2, 1) := by decide +kernel
theorem dX5_addCube_48 : decode cX5_addCube 48 = .ok (.iload_n 3, 1) := by decide +kernel
theorem dX5_addCube_49 : decode cX5_addCube 49 = .ok (.invokespecial 288, 3) := by decide +kernel
theorem dX5_addCube_52 : decode cX5_addCube 52 = .ok (.astore 4, 2) := by decide +kernel
theorem dX5_addCube_54 : decode cX5_addCube 54 = .ok (.aload_n 0, 1) := by decide +kernel
theorem dX5_addCube_55 : decode cX5_addCube 55 = .ok (.getfield 11, 3) := by decide +kernel
theorem dX5_addCube_58 : decode cX5_addCube 58 = .ok (.aload_n 0, 1) := by decide +kernel
theorem dX5_addCube_59 : decode cX5_addCube 59 = .ok (.getfield 50, 3) := by decide +kernel
theorem dX5_addCube_62 : decode cX5_addCube 62 = .ok (.aload 4, 2) := by decide +kernel
theorem dX5_addCube_64 : decode cX5_addCube 64 = .ok (.aastore, 1) := by decide +kernel
theorem dX5_addCube_65 : decode cX5_addCube 65 = .ok (.aload_n 0, 1) := by decide +kernel
theorem dX5_addCube_66 : decode cX5_addCube 66 = .ok (.dup, 1) := by decide +kernel
theorem dX5_addCube_67 : decode cX5_addCube 67 = .ok (.getfield 50, 3) := by decide +kernel
theorem dX5_addCube_70 : decode cX5_addCube 70 = .ok (.iconst 1, 1) := by decide +kernel
theorem dX5_addCube_71 : decode cX5_addCube 71 = .ok (.iadd, 1) := by decide +kernel
theorem dX5_addCube_72 : decode cX5_addCube 72 = .ok (.putfield 50, 3) := by decide +kernel
theorem dX5_addCube_75 : decode cX5_addCube 75 = .ok (.aload 4, 2) := by decide +kernel
theorem dX5_addCube_77 : decode cX5_addCube 77 = .ok (.areturn, 1) := by decide +kernel
abbrev rmX5_addCube : Room := { frames := 7, cells := 5, slots := 87, locals := 110 }
theorem zyX5_addCube : zyOK yX5_addCube 3 := ⟨by decide +kernel, by decide +kernel, by decide +kernel⟩
set_option maxHeartbeats 4000000 in
set_option maxRecDepth 100000 in
theorem wX5_addCube {G : ZG} (a0 : Nat) (a1 : Int32) (a2 : Int32) (a3 : Int32) (S : ZS) (h0 : zFix G cX5_addCube RX5 5 (some (.object "Bilinearium$Cube")) rmX5_addCube) (C : Option ((Nat × ZS) ⊕ ZX) → Prop) (hC : ¬ C none) (hnt : zNoTab G) (hE : ∀ (v : Nat) (S1 : ZS), C (some (.inl (v, S1))) → zEndT G (some (.ref v)) S1 rmX5_addCube) (hEx : ∀ (E : String) (h : ZH), C (some (.inr (E, h))) → zEndX G E h rmX5_addCube) : zV G 5 S 0 0 0 [(0, .ref a0), (1, .int a1), (2, .int a2), (3, .int a3)] [] (C (fX5_addCube a0 a1 a2 a3 S)) := by
  have J31 : ∀  (S_31 : ZS), zV G 5 S_31 3 18 31 [] [] (C (fX5_addCube_J31 S_31)) := by
    intro  S_31
    unfold fX5_addCube_J31
    exact zr_throwW h0 hnt (cls := "java/lang/IllegalStateException") (text := "there are 16 cubes") (names := ["java/lang/RuntimeException", "java/lang/Exception"]) (by decide +kernel) zfitN zw_186 zw_9 (by decide +kernel) (by decide +kernel) zat_X5_67 zbad_X5_67 zgd_X5_67 dX5_addCube_31 dX5_addCube_34 dX5_addCube_35 dX5_addCube_38 dX5_addCube_41 (by decide) (Nat.le_of_ble_eq_true rfl) (by decide) (by decide) (fun h => hEx _ _ h)
  unfold fX5_addCube
  refine zr_iload_n h0 dX5_addCube_0 rfl (n := 1) rfl ?_
  refine zr_cTV C hC 1 6 h0 (fun x hx => zk_ST h0 (fun l D z0 hlt => kX5_needSize l D z0 hlt a1 S x hx) hnt zw_217 zw_218 zw_1 zw_219 zyX5_needSize (As := [.int a1]) (st := []) rfl (by decide) rfl (Nat.le_of_ble_eq_true rfl) (by decide) dX5_addCube_1) hnt rfl rfl (by decide) (by decide) (n := 4) rfl (fun z h => hEx _ _ h) (fun x1 => ?_)
  refine zr_iload_n h0 dX5_addCube_4 rfl (n := 5) rfl ?_
  refine zr_cTV C hC 2 12 h0 (fun x hx => zk_ST h0 (fun l D z0 hlt => kX5_needSize l D z0 hlt a2 x1.2 x hx) hnt zw_217 zw_218 zw_1 zw_219 zyX5_needSize (As := [.int a2]) (st := []) rfl (by decide) rfl (Nat.le_of_ble_eq_true rfl) (by decide) dX5_addCube_5) hnt rfl rfl (by decide) (by decide) (n := 8) rfl (fun z h => hEx _ _ h) (fun x2 => ?_)
  refine zr_iload_n h0 dX5_addCube_8 rfl (n := 9) rfl ?_
  refine zr_cTV C hC 3 18 h0 (fun x hx => zk_ST h0 (fun l D z0 hlt => kX5_needSize l D z0 hlt a3 x2.2 x hx) hnt zw_217 zw_218 zw_1 zw_219 zyX5_needSize (As := [.int a3]) (st := []) rfl (by decide) rfl (Nat.le_of_ble_eq_true rfl) (by decide) dX5_addCube_9) hnt rfl rfl (by decide) (by decide) (n := 12) rfl (fun z h => hEx _ _ h) (fun x3 => ?_)
  refine zr_aload_n h0 dX5_addCube_12 rfl (n := 13) rfl ?_
  refine zr_getI C hC h0 zcX5 (k := 7) (by decide) zw_81 dX5_addCube_13 (n := 16) rfl (fun v4 => ?_)
  refine zr_if_lt C (tgt := 31) h0 dX5_addCube_16 (by decide) (n := 19) rfl ?_ ?_
  · refine zv_sub (lv' := []) ?_ (zsub_of [] rfl)
    exact J31 x3.2
  · refine zr_aload_n h0 dX5_addCube_19 rfl (n := 20) rfl ?_
    refine zr_getI C hC h0 zcX5 (k := 7) (by decide) zw_81 dX5_addCube_20 (n := 23) rfl (fun v5 => ?_)
    refine zr_aload_n h0 dX5_addCube_23 rfl (n := 24) rfl ?_
    refine zr_getR C hC h0 zcX5 (k := 0) (by decide) zw_74 dX5_addCube_24 (n := 27) rfl (fun v6 => ?_)
    refine zr_alen C hC h0 dX5_addCube_27 (n := 28) rfl (fun v7 => ?_)
    refine zr_icmp_lt C (tgt := 42) h0 dX5_addCube_28 (by decide) (n := 31) rfl ?_ ?_
    · refine zr_new (fs := [.int 0, .int 0, .int 0, .null, .int 0]) (ce' := 4) (sl' := 23) h0 zcX0 znwX0 zw_23 zw_222 zw_10 rfl rfl (by decide) (by decide) dX5_addCube_42 (n := 45) rfl ?_
      refine zr_dup h0 rfl dX5_addCube_45 (n := 46) rfl ?_
      refine zr_iload_n h0 dX5_addCube_46 rfl (n := 47) rfl ?_
      refine zr_iload_n h0 dX5_addCube_47 rfl (n := 48) rfl ?_
      refine zr_iload_n h0 dX5_addCube_48 rfl (n := 49) rfl ?_
      refine zr_cMV C hC 5 87 (fun x hx => zk_I h0 (fun l D z0 => kX0_init l D z0 (Prod.snd x3.2) a1 a2 a3 (zno x3.2 0 [.int 0, .int 0, .int 0, .null, .int 0]) x hx) zw_223 zw_224 zw_10 zw_225 rfl zyX0_init (As := [.int a1, .int a2, .int a3]) (st := [.ref (Prod.snd x3.2)]) rfl (by decide) rfl (Nat.le_of_ble_eq_true rfl) (by decide) dX5_addCube_49) rfl rfl (n := 52) rfl (fun x8 => ?_)
      refine zr_astore [(0, .ref a0), (1, .int a1), (2, .int a2), (3, .int a3), (4, .ref (Prod.snd x3.2))] h0 dX5_addCube_52 (by decide) rfl (n := 54) rfl ?_
      refine zr_aload_n h0 dX5_addCube_54 rfl (n := 55) rfl ?_
      refine zr_getR C hC h0 zcX5 (k := 0) (by decide) zw_74 dX5_addCube_55 (n := 58) rfl (fun v9 => ?_)
      refine zr_aload_n h0 dX5_addCube_58 rfl (n := 59) rfl ?_
      refine zr_getI C hC h0 zcX5 (k := 7) (by decide) zw_81 dX5_addCube_59 (n := 62) rfl (fun v10 => ?_)
      refine zr_aload h0 dX5_addCube_62 rfl (n := 64) rfl ?_
      refine zr_aastore C hC (t := 3) h0 zcX0 rfl dX5_addCube_64 (n := 65) rfl (fun S11 => ?_)
      refine zr_aload_n h0 dX5_addCube_65 rfl (n := 66) rfl ?_
      refine zr_dup h0 rfl dX5_addCube_66 (n := 67) rfl ?_
      refine zr_getI C hC h0 zcX5 (k := 7) (by decide) zw_81 dX5_addCube_67 (n := 70) rfl (fun v12 => ?_)
      refine zr_iconst (1 : Int32) h0 (by decide) dX5_addCube_70 (n := 71) rfl ?_
      refine zr_iadd h0 dX5_addCube_71 (n := 72) rfl ?_
      refine zr_putF C hC h0 zcX5 (k := 7) (by decide) zw_81 rfl rfl rfl dX5_addCube_72 (n := 75) rfl (fun S13 => ?_)
      refine zr_aload h0 dX5_addCube_75 rfl (n := 77) rfl ?_
      exact zr_aretT h0 rfl (Or.inl ⟨_, rfl⟩) dX5_addCube_77 (hE _ _) (by decide) (by decide)
    · refine zv_sub (lv' := []) ?_ (zsub_of [] rfl)
      exact J31 x3.2
theorem kX5_addCube (l : Launch) (D : ZD) (z0 : Nat) (hlt : l.stackTraces = false) (a0 : Nat) (a1 : Int32) (a2 : Int32) (a3 : Int32) (S : ZS) (x : ((Nat × ZS) ⊕ ZX)) (hf : fX5_addCube a0 a1 a2 a3 S = some x) : zMetT l D z0 yX5_addCube cX5_addCube 5 (some (.object "Bilinearium$Cube")) rmX5_addCube [.ref a0, .int a1, .int a2, .int a3] S (x.map (fun y => ((some (.ref y.1)), y.2)) id) :=
  zMetT_of hlt (by decide) (Nat.le_of_ble_eq_true rfl) (fun G h0 hnt hE hEx => wX5_addCube a0 a1 a2 a3 S h0 (fun o => o = some x) (fun h => nomatch h) hnt (fun v S1 h => by cases h; exact hE _ _ rfl) (fun E h hh => by cases hh; exact hEx _ _ rfl)) hf
theorem dX5_cube_0 : decode cX5_cube 0 = .ok (.aload_n 0, 1) := by decide +kernel
theorem dX5_cube_1 : decode cX5_cube 1 = .ok (.iload_n 1, 1) := by decide +kernel
theorem dX5_cube_2 : decode cX5_cube 2 = .ok (.iload_n 2, 1) := by decide +kernel
theorem dX5_cube_3 : decode cX5_cube 3 = .ok (.iload_n 3, 1) := by decide +kernel
theorem dX5_cube_4 : decode cX5_cube 4 = .ok (.invokevirtual 68, 3) := by decide +kernel
theorem dX5_cube_7 : decode cX5_cube 7 = .ok (.pop, 1) := by decide +kernel
theorem dX5_cube_8 : decode cX5_cube 8 = .ok (.aload_n 0, 1) := by decide +kernel
theorem dX5_cube_9 : decode cX5_cube 9 = .ok (.getfield 50, 3) := by decide +kernel
theorem dX5_cube_12 : decode cX5_cube 12 = .ok (.iconst 1, 1) := by decide +kernel
theorem dX5_cube_13 : decode cX5_cube 13 = .ok (.isub, 1) := by decide +kernel
theorem dX5_cube_14 : decode cX5_cube 14 = .ok (.ireturn, 1) := by decide +kernel
abbrev rmX5_cube : Room := { frames := 8, cells := 5, slots := 87, locals := 134 }
theorem zyX5_cube : zyOK yX5_cube 3 := ⟨by decide +kernel, by decide +kernel, by decide +kernel⟩
set_option maxHeartbeats 4000000 in
set_option maxRecDepth 100000 in
theorem wX5_cube {G : ZG} (a0 : Nat) (a1 : Int32) (a2 : Int32) (a3 : Int32) (S : ZS) (h0 : zFix G cX5_cube RX5 4 (some .int) rmX5_cube) (C : Option ((Int32 × ZS) ⊕ ZX) → Prop) (hC : ¬ C none) (hnt : zNoTab G) (hE : ∀ (v : Int32) (S1 : ZS), C (some (.inl (v, S1))) → zEndT G (some (.int v)) S1 rmX5_cube) (hEx : ∀ (E : String) (h : ZH), C (some (.inr (E, h))) → zEndX G E h rmX5_cube) : zV G 4 S 0 0 0 [(0, .ref a0), (1, .int a1), (2, .int a2), (3, .int a3)] [] (C (fX5_cube a0 a1 a2 a3 S)) := by
  unfold fX5_cube
  refine zr_aload_n h0 dX5_cube_0 rfl (n := 1) rfl ?_
  refine zr_iload_n h0 dX5_cube_1 rfl (n := 2) rfl ?_
  refine zr_iload_n h0 dX5_cube_2 rfl (n := 3) rfl ?_
  refine zr_iload_n h0 dX5_cube_3 rfl (n := 4) rfl ?_
  refine zr_cTR C hC 5 87 h0 (fun x hx => zk_VT h0 zcX5 (zcl_ex hx) (fun l D z0 hlt => kX5_addCube l D z0 hlt a0 a1 a2 a3 S x (zcl_of hx)) hnt zw_213 zw_215 zs_1 zw_1 zw_216 rfl zyX5_addCube (As := [.int a1, .int a2, .int a3]) (st := []) rfl (by decide) rfl (Nat.le_of_ble_eq_true rfl) (by decide) dX5_cube_4) hnt rfl rfl (by decide) (by decide) (n := 7) rfl (fun z h => hEx _ _ h) (fun x1 => ?_)
  refine zr_pop h0 rfl dX5_cube_7 (n := 8) rfl ?_
  refine zr_aload_n h0 dX5_cube_8 rfl (n := 9) rfl ?_
  refine zr_getI C hC h0 zcX5 (k := 7) (by decide) zw_81 dX5_cube_9 (n := 12) rfl (fun v2 => ?_)
  refine zr_iconst (1 : Int32) h0 (by decide) dX5_cube_12 (n := 13) rfl ?_
  refine zr_isub h0 dX5_cube_13 (n := 14) rfl ?_
  exact zr_iretT h0 rfl dX5_cube_14 (hE _ _) (by decide) (by decide)
theorem kX5_cube (l : Launch) (D : ZD) (z0 : Nat) (hlt : l.stackTraces = false) (a0 : Nat) (a1 : Int32) (a2 : Int32) (a3 : Int32) (S : ZS) (x : ((Int32 × ZS) ⊕ ZX)) (hf : fX5_cube a0 a1 a2 a3 S = some x) : zMetT l D z0 yX5_cube cX5_cube 4 (some .int) rmX5_cube [.ref a0, .int a1, .int a2, .int a3] S (x.map (fun y => ((some (.int y.1)), y.2)) id) :=
  zMetT_of hlt (by decide) (Nat.le_of_ble_eq_true rfl) (fun G h0 hnt hE hEx => wX5_cube a0 a1 a2 a3 S h0 (fun o => o = some x) (fun h => nomatch h) hnt (fun v S1 h => by cases h; exact hE _ _ rfl) (fun E h hh => by cases hh; exact hEx _ _ rfl)) hf
theorem dX0_indexOf_0 : decode cX0_indexOf 0 = .ok (.iload_n 0, 1) := by decide +kernel
theorem dX0_indexOf_1 : decode cX0_indexOf 1 = .ok (.iconst 4, 1) := by decide +kernel
theorem dX0_indexOf_2 : decode cX0_indexOf 2 = .ok (.imul, 1) := by decide +kernel
theorem dX0_indexOf_3 : decode cX0_indexOf 3 = .ok (.iload_n 1, 1) := by decide +kernel
theorem dX0_indexOf_4 : decode cX0_indexOf 4 = .ok (.iadd, 1) := by decide +kernel
theorem dX0_indexOf_5 : decode cX0_indexOf 5 = .ok (.iconst 4, 1) := by decide +kernel
theorem dX0_indexOf_6 : decode cX0_indexOf 6 = .ok (.imul, 1) := by decide +kernel
theorem dX0_indexOf_7 : decode cX0_indexOf 7 = .ok (.iload_n 2, 1) := by decide +kernel
theorem dX0_indexOf_8 : decode cX0_indexOf 8 = .ok (.iadd, 1) := by decide +kernel
theorem dX0_indexOf_9 : decode cX0_indexOf 9 = .ok (.ireturn, 1) := by decide +kernel
abbrev rmX0_indexOf : Room := { frames := 1, cells := 0, slots := 0, locals := 20 }
theorem zyX0_indexOf : zyOK yX0_indexOf 3 := ⟨by decide +kernel, by decide +kernel, by decide +kernel⟩
set_option maxHeartbeats 4000000 in
set_option maxRecDepth 100000 in
theorem wX0_indexOf {G : ZG} (a0 : Int32) (a1 : Int32) (a2 : Int32) (S : ZS) (h0 : zFix G cX0_indexOf RX0 3 (some .int) rmX0_indexOf) (C : Option Int32 → Prop) (hC : ¬ C none) (hE : ∀ v : Int32, C (some v) → zEnd G (some (.int v)) S rmX0_indexOf) : zV G 3 S 0 0 0 [(0, .int a0), (1, .int a1), (2, .int a2)] [] (C (fX0_indexOf a0 a1 a2)) := by
  unfold fX0_indexOf
  refine zr_iload_n h0 dX0_indexOf_0 rfl (n := 1) rfl ?_
  refine zr_iconst (4 : Int32) h0 (by decide) dX0_indexOf_1 (n := 2) rfl ?_
  refine zr_imul h0 dX0_indexOf_2 (n := 3) rfl ?_
  refine zr_iload_n h0 dX0_indexOf_3 rfl (n := 4) rfl ?_
  refine zr_iadd h0 dX0_indexOf_4 (n := 5) rfl ?_
  refine zr_iconst (4 : Int32) h0 (by decide) dX0_indexOf_5 (n := 6) rfl ?_
  refine zr_imul h0 dX0_indexOf_6 (n := 7) rfl ?_
  refine zr_iload_n h0 dX0_indexOf_7 rfl (n := 8) rfl ?_
  refine zr_iadd h0 dX0_indexOf_8 (n := 9) rfl ?_
  exact zr_iret h0 rfl dX0_indexOf_9 (hE _) (by decide) (by decide)
theorem kX0_indexOf (l : Launch) (D : ZD) (z0 : Nat) (a0 : Int32) (a1 : Int32) (a2 : Int32) (S : ZS) (x : Int32) (hf : fX0_indexOf a0 a1 a2 = some x) : zMet l D z0 yX0_indexOf cX0_indexOf 3 (some .int) rmX0_indexOf [.int a0, .int a1, .int a2] S (some (.int x)) S :=
  zMet_of (by decide) (Nat.le_of_ble_eq_true rfl) (fun G h0 hini hE => wX0_indexOf a0 a1 a2 S h0 (fun o => o = some x) (fun h => nomatch h) (fun v h => by cases h; exact hE)) hf
theorem dX5_put_0 : decode cX5_put 0 = .ok (.aload_n 0, 1) := by decide +kernel
theorem dX5_put_1 : decode cX5_put 1 = .ok (.ifnull 17, 3) := by decide +kernel
theorem dX5_put_4 : decode cX5_put 4 = .ok (.iload_n 1, 1) := by decide +kernel
theorem dX5_put_5 : decode cX5_put 5 = .ok (.ifCond .lt 13, 3) := by decide +kernel
theorem dX5_put_8 : decode cX5_put 8 = .ok (.iload_n 1, 1) := by decide +kernel
theorem dX5_put_9 : decode cX5_put 9 = .ok (.aload_n 0, 1) := by decide +kernel
theorem dX5_put_10 : decode cX5_put 10 = .ok (.arraylength, 1) := by decide +kernel
theorem dX5_put_11 : decode cX5_put 11 = .ok (.if_icmp .ge 7, 3) := by decide +kernel
theorem dX5_put_14 : decode cX5_put 14 = .ok (.aload_n 0, 1) := by decide +kernel
theorem dX5_put_15 : decode cX5_put 15 = .ok (.iload_n 1, 1) := by decide +kernel
theorem dX5_put_16 : decode cX5_put 16 = .ok (.iload_n 2, 1) := by decide +kernel
theorem dX5_put_17 : decode cX5_put 17 = .ok (.iastore, 1) := by decide +kernel
theorem dX5_put_18 : decode cX5_put 18 = .ok (.return_, 1) := by decide +kernel
abbrev rmX5_put : Room := { frames := 1, cells := 0, slots := 0, locals := 20 }
theorem zyX5_put : zyOK yX5_put 3 := ⟨by decide +kernel, by decide +kernel, by decide +kernel⟩
set_option maxHeartbeats 4000000 in
set_option maxRecDepth 100000 in
theorem wX5_put {G : ZG} (a0 : Nat) (a1 : Int32) (a2 : Int32) (S : ZS) (h0 : zFix G cX5_put RX5 3 none rmX5_put) (C : Option ZS → Prop) (hC : ¬ C none) (hE : ∀ S1 : ZS, C (some S1) → zEnd G none S1 rmX5_put) : zV G 3 S 0 0 0 [(0, .ref a0), (1, .int a1), (2, .int a2)] [] (C (fX5_put a0 a1 a2 S)) := by
  have J18 : ∀  (S_18 : ZS), zV G 3 S_18 0 0 18 [] [] (C (fX5_put_J18 S_18)) := by
    intro  S_18
    unfold fX5_put_J18
    exact zr_vret h0 rfl dX5_put_18 (fun h => hE _ h) (by decide) (by decide)
  unfold fX5_put
  refine zr_aload_n h0 dX5_put_0 rfl (n := 1) rfl ?_
  refine zr_nullR h0 dX5_put_1 (n := 4) rfl ?_
  refine zr_iload_n h0 dX5_put_4 rfl (n := 5) rfl ?_
  refine zr_if_lt C (tgt := 18) h0 dX5_put_5 (by decide) (n := 8) rfl ?_ ?_
  · refine zv_sub (lv' := []) ?_ (zsub_of [] rfl)
    exact J18 S
  · refine zr_iload_n h0 dX5_put_8 rfl (n := 9) rfl ?_
    refine zr_aload_n h0 dX5_put_9 rfl (n := 10) rfl ?_
    refine zr_alen C hC h0 dX5_put_10 (n := 11) rfl (fun v1 => ?_)
    refine zr_icmp_ge C (tgt := 18) h0 dX5_put_11 (by decide) (n := 14) rfl ?_ ?_
    · refine zv_sub (lv' := []) ?_ (zsub_of [] rfl)
      exact J18 S
    · refine zr_aload_n h0 dX5_put_14 rfl (n := 15) rfl ?_
      refine zr_iload_n h0 dX5_put_15 rfl (n := 16) rfl ?_
      refine zr_iload_n h0 dX5_put_16 rfl (n := 17) rfl ?_
      refine zr_iastore C hC h0 dX5_put_17 (n := 18) rfl (fun S2 => ?_)
      refine zv_sub (lv' := []) ?_ (zsub_of [] rfl)
      exact J18 S2
theorem kX5_put (l : Launch) (D : ZD) (z0 : Nat) (a0 : Nat) (a1 : Int32) (a2 : Int32) (S : ZS) (x : ZS) (hf : fX5_put a0 a1 a2 S = some x) : zMet l D z0 yX5_put cX5_put 3 none rmX5_put [.ref a0, .int a1, .int a2] S none x :=
  zMet_of (by decide) (Nat.le_of_ble_eq_true rfl) (fun G h0 hini hE => wX5_put a0 a1 a2 S h0 (fun o => o = some x) (fun h => nomatch h) (fun S1 h => by cases h; exact hE)) hf
theorem dX0_enter_0 : decode cX0_enter 0 = .ok (.aload_n 0, 1) := by decide +kernel
theorem dX0_enter_1 : decode cX0_enter 1 = .ok (.getfield 21, 3) := by decide +kernel
theorem dX0_enter_4 : decode cX0_enter 4 = .ok (.iload_n 1, 1) := by decide +kernel
theorem dX0_enter_5 : decode cX0_enter 5 = .ok (.iload_n 2, 1) := by decide +kernel
theorem dX0_enter_6 : decode cX0_enter 6 = .ok (.iload_n 3, 1) := by decide +kernel
theorem dX0_enter_7 : decode cX0_enter 7 = .ok (.invokestatic 39, 3) := by decide +kernel
theorem dX0_enter_10 : decode cX0_enter 10 = .ok (.iload 4, 2) := by decide +kernel
theorem dX0_enter_12 : decode cX0_enter 12 = .ok (.invokestatic 35, 3) := by decide +kernel
theorem dX0_enter_15 : decode cX0_enter 15 = .ok (.return_, 1) := by decide +kernel
abbrev rmX0_enter : Room := { frames := 2, cells := 0, slots := 0, locals := 42 }
theorem zyX0_enter : zyOK yX0_enter 4 := ⟨by decide +kernel, by decide +kernel, by decide +kernel⟩
set_option maxHeartbeats 4000000 in
set_option maxRecDepth 100000 in
theorem wX0_enter {G : ZG} (a0 : Nat) (a1 : Int32) (a2 : Int32) (a3 : Int32) (a4 : Int32) (S : ZS) (h0 : zFix G cX0_enter RX0 5 none rmX0_enter) (C : Option ZS → Prop) (hC : ¬ C none) (hE : ∀ S1 : ZS, C (some S1) → zEnd G none S1 rmX0_enter) : zV G 5 S 0 0 0 [(0, .ref a0), (1, .int a1), (2, .int a2), (3, .int a3), (4, .int a4)] [] (C (fX0_enter a0 a1 a2 a3 a4 S)) := by
  unfold fX0_enter
  refine zr_aload_n h0 dX0_enter_0 rfl (n := 1) rfl ?_
  refine zr_getR C hC h0 zcX0 (k := 3) (by decide) zw_239 dX0_enter_1 (n := 4) rfl (fun v1 => ?_)
  refine zr_iload_n h0 dX0_enter_4 rfl (n := 5) rfl ?_
  refine zr_iload_n h0 dX0_enter_5 rfl (n := 6) rfl ?_
  refine zr_iload_n h0 dX0_enter_6 rfl (n := 7) rfl ?_
  refine zr_cRI C hC 0 0 (fun x hx => zk_S h0 (fun l D z0 => kX0_indexOf l D z0 a1 a2 a3 S x hx) zw_265 zw_266 zw_10 zw_267 zyX0_indexOf (As := [.int a1, .int a2, .int a3]) (st := [.ref v1]) rfl (by decide) rfl (Nat.le_of_ble_eq_true rfl) (by decide) dX0_enter_7) rfl rfl (n := 10) rfl (fun x2 => ?_)
  refine zr_iload h0 dX0_enter_10 rfl (n := 12) rfl ?_
  refine zr_cMV C hC 0 0 (fun x hx => zk_SN (host := "Bilinearium") h0 (fun l D z0 => kX5_put l D z0 v1 x2 a4 S x hx) (by decide +kernel) zw_269 zw_1 zw_270 zyX5_put (As := [.ref v1, .int x2, .int a4]) (st := []) rfl (by decide) rfl (Nat.le_of_ble_eq_true rfl) (by decide) dX0_enter_12) rfl rfl (n := 15) rfl (fun x3 => ?_)
  exact zr_vret h0 rfl dX0_enter_15 (fun h => hE _ h) (by decide) (by decide)
theorem kX0_enter (l : Launch) (D : ZD) (z0 : Nat) (a0 : Nat) (a1 : Int32) (a2 : Int32) (a3 : Int32) (a4 : Int32) (S : ZS) (x : ZS) (hf : fX0_enter a0 a1 a2 a3 a4 S = some x) : zMet l D z0 yX0_enter cX0_enter 5 none rmX0_enter [.ref a0, .int a1, .int a2, .int a3, .int a4] S none x :=
  zMet_of (by decide) (Nat.le_of_ble_eq_true rfl) (fun G h0 hini hE => wX0_enter a0 a1 a2 a3 a4 S h0 (fun o => o = some x) (fun h => nomatch h) (fun S1 h => by cases h; exact hE)) hf
theorem dX5_matrices_0 : decode cX5_matrices 0 = .ok (.iload_n 1, 1) := by decide +kernel
theorem dX5_matrices_1 : decode cX5_matrices 1 = .ok (.invokestatic 72, 3) := by decide +kernel
theorem dX5_matrices_4 : decode cX5_matrices 4 = .ok (.iload_n 2, 1) := by decide +kernel
theorem dX5_matrices_5 : decode cX5_matrices 5 = .ok (.invokestatic 72, 3) := by decide +kernel
theorem dX5_matrices_8 : decode cX5_matrices 8 = .ok (.iload_n 3, 1) := by decide +kernel
theorem dX5_matrices_9 : decode cX5_matrices 9 = .ok (.invokestatic 72, 3) := by decide +kernel
theorem dX5_matrices_12 : decode cX5_matrices 12 = .ok (.aload_n 0, 1) := by decide +kernel
theorem dX5_matrices_13 : decode cX5_matrices 13 = .ok (.iload_n 1, 1) := by decide +kernel
theorem dX5_matrices_14 : decode cX5_matrices 14 = .ok (.iload_n 2, 1) := by decide +kernel
theorem dX5_matrices_15 : decode cX5_matrices 15 = .ok (.imul, 1) := by decide +kernel
theorem dX5_matrices_16 : decode cX5_matrices 16 = .ok (.iload_n 2, 1) := by decide +kernel
theorem dX5_matrices_17 : decode cX5_matrices 17 = .ok (.iload_n 3, 1) := by decide +kernel
theorem dX5_matrices_18 : decode cX5_matrices 18 = .ok (.imul, 1) := by decide +kernel
theorem dX5_matrices_19 : decode cX5_matrices 19 = .ok (.iload_n 1, 1) := by decide +kernel
theorem dX5_matrices_20 : decode cX5_matrices 20 = .ok (.iload_n 3, 1) := by decide +kernel
theorem dX5_matrices_21 : decode cX5_matrices 21 = .ok (.imul, 1) := by decide +kernel
theorem dX5_matrices_22 : decode cX5_matrices 22 = .ok (.invokevirtual 68, 3) := by decide +kernel
theorem dX5_matrices_25 : decode cX5_matrices 25 = .ok (.astore 4, 2) := by decide +kernel
theorem dX5_matrices_27 : decode cX5_matrices 27 = .ok (.iconst 0, 1) := by decide +kernel
theorem dX5_matrices_28 : decode cX5_matrices 28 = .ok (.istore 5, 2) := by decide +kernel
theorem dX5_matrices_30 : decode cX5_matrices 30 = .ok (.iload 5, 2) := by decide +kernel
theorem dX5_matrices_32 : decode cX5_matrices 32 = .ok (.iload_n 1, 1) := by decide +kernel
theorem dX5_matrices_33 : decode cX5_matrices 33 = .ok (.if_icmp .ge 66, 3) := by decide +kernel
theorem dX5_matrices_36 : decode cX5_matrices 36 = .ok (.iconst 0, 1) := by decide +kernel
theorem dX5_matrices_37 : decode cX5_matrices 37 = .ok (.istore 6, 2) := by decide +kernel
theorem dX5_matrices_39 : decode cX5_matrices 39 = .ok (.iload 6, 2) := by decide +kernel
theorem dX5_matrices_41 : decode cX5_matrices 41 = .ok (.iload_n 2, 1) := by decide +kernel
theorem dX5_matrices_42 : decode cX5_matrices 42 = .ok (.if_icmp .ge 51, 3) := by decide +kernel
theorem dX5_matrices_45 : decode cX5_matrices 45 = .ok (.iconst 0, 1) := by decide +kernel
theorem dX5_matrices_46 : decode cX5_matrices 46 = .ok (.istore 7, 2) := by decide +kernel
theorem dX5_matrices_48 : decode cX5_matrices 48 = .ok (.iload 7, 2) := by decide +kernel
theorem dX5_matrices_50 : decode cX5_matrices 50 = .ok (.iload_n 3, 1) := by decide +kernel
theorem dX5_matrices_51 : decode cX5_matrices 51 = .ok (.if_icmp .ge 36, 3) := by decide +kernel
theorem dX5_matrices_54 : decode cX5_matrices 54 = .ok (.aload 4, 2) := by decide +kernel
theorem dX5_matrices_56 : decode cX5_matrices 56 = .ok (.iload 5, 2) := by decide +kernel
theorem dX5_matrices_58 : decode cX5_matrices 58 = .ok (.iload_n 2, 1) := by decide +kernel
theorem dX5_matrices_59 : decode cX5_matrices 59 = .ok (.imul, 1) := by decide +kernel
theorem dX5_matrices_60 : decode cX5_matrices 60 = .ok (.iload 6, 2) := by decide +kernel
theorem dX5_matrices_62 : decode cX5_matrices 62 = .ok (.iadd, 1) := by decide +kernel
theorem dX5_matrices_63 : decode cX5_matrices 63 = .ok (.iload 6, 2) := by decide +kernel
theorem dX5_matrices_65 : decode cX5_matrices 65 = .ok (.iload_n 3, 1) := by decide +kernel
theorem dX5_matrices_66 : decode cX5_matrices 66 = .ok (.imul, 1) := by decide +kernel
theorem dX5_matrices_67 : decode cX5_matrices 67 = .ok (.iload 7, 2) := by decide +kernel
theorem dX5_matrices_69 : decode cX5_matrices 69 = .ok (.iadd, 1) := by decide +kernel
theorem dX5_matrices_70 : decode cX5_matrices 70 = .ok (.iload 5, 2) := by decide +kernel
theorem dX5_matrices_72 : decode cX5_matrices 72 = .ok (.iload_n 3, 1) := by decide +kernel
theorem dX5_matrices_73 : decode cX5_matrices 73 = .ok (.imul, 1) := by decide +kernel
theorem dX5_matrices_74 : decode cX5_matrices 74 = .ok (.iload 7, 2) := by decide +kernel
theorem dX5_matrices_76 : decode cX5_matrices 76 = .ok (.iadd, 1) := by decide +kernel
theorem dX5_matrices_77 : decode cX5_matrices 77 = .ok (.iconst 1, 1) := by decide +kernel
theorem dX5_matrices_78 : decode cX5_matrices 78 = .ok (.invokevirtual 76, 3) := by decide +kernel
theorem dX5_matrices_81 : decode cX5_matrices 81 = .ok (.iinc 7 1, 3) := by decide +kernel
theorem dX5_matrices_84 : decode cX5_matrices 84 = .ok (.goto (-36), 3) := by decide +kernel
theorem dX5_matrices_87 : decode cX5_matrices 87 = .ok (.iinc 6 1, 3) := by decide +kernel
theorem dX5_matrices_90 : decode cX5_matrices 90 = .ok (.goto (-51), 3) := by decide +kernel
theorem dX5_matrices_93 : decode cX5_matrices 93 = .ok (.iinc 5 1, 3) := by decide +kernel
theorem dX5_matrices_96 : decode cX5_matrices 96 = .ok (.goto (-66), 3) := by decide +kernel
theorem dX5_matrices_99 : decode cX5_matrices 99 = .ok (.aload 4, 2) := by decide +kernel
theorem dX5_matrices_101 : decode cX5_matrices 101 = .ok (.iload_n 1, 1) := by decide +kernel
theorem dX5_matrices_102 : decode cX5_matrices 102 = .ok (.iload_n 2, 1) := by decide +kernel
theorem dX5_matrices_103 : decode cX5_matrices 103 = .ok (.if_icmp .ne 12, 3) := by decide +kernel
theorem dX5_matrices_106 : decode cX5_matrices 106 = .ok (.iload_n 2, 1) := by decide +kernel
theorem dX5_matrices_107 : decode cX5_matrices 107 = .ok (.iload_n 3, 1) := by decide +kernel
theorem dX5_matrices_108 : decode cX5_matrices 108 = .ok (.if_icmp .ne 7, 3) := by decide +kernel
theorem dX5_matrices_111 : decode cX5_matrices 111 = .ok (.iload_n 1, 1) := by decide +kernel
theorem dX5_matrices_112 : decode cX5_matrices 112 = .ok (.goto 4, 3) := by decide +kernel
theorem dX5_matrices_115 : decode cX5_matrices 115 = .ok (.iconst 0, 1) := by decide +kernel
theorem dX5_matrices_116 : decode cX5_matrices 116 = .ok (.putfield 80, 3) := by decide +kernel
theorem dX5_matrices_119 : decode cX5_matrices 119 = .ok (.aload_n 0, 1) := by decide +kernel
theorem dX5_matrices_120 : decode cX5_matrices 120 = .ok (.getfield 50, 3) := by decide +kernel
theorem dX5_matrices_123 : decode cX5_matrices 123 = .ok (.iconst 1, 1) := by decide +kernel
theorem dX5_matrices_124 : decode cX5_matrices 124 = .ok (.isub, 1) := by decide +kernel
theorem dX5_matrices_125 : decode cX5_matrices 125 = .ok (.ireturn, 1) := by decide +kernel
abbrev rmX5_matrices : Room := { frames := 8, cells := 8, slots := 105, locals := 134 }
theorem zyX5_matrices : zyOK yX5_matrices 3 := ⟨by decide +kernel, by decide +kernel, by decide +kernel⟩
set_option maxHeartbeats 4000000 in
set_option maxRecDepth 100000 in
theorem wX5_matrices {G : ZG} (a0 : Nat) (a1 : Int32) (a2 : Int32) (a3 : Int32) (S : ZS) (h0 : zFix G cX5_matrices RX5 8 (some .int) rmX5_matrices) (C : Option ((Int32 × ZS) ⊕ ZX) → Prop) (hC : ¬ C none) (hnt : zNoTab G) (hE : ∀ (v : Int32) (S1 : ZS), C (some (.inl (v, S1))) → zEndT G (some (.int v)) S1 rmX5_matrices) (hEx : ∀ (E : String) (h : ZH), C (some (.inr (E, h))) → zEndX G E h rmX5_matrices) : zV G 8 S 0 0 0 [(0, .ref a0), (1, .int a1), (2, .int a2), (3, .int a3)] [] (C (fX5_matrices a0 a1 a2 a3 S)) := by
  have J116 : ∀ (l0_116 : Nat) (s0_116 : Nat) (s1_116 : Int32) (S_116 : ZS), zV G 8 S_116 8 105 116 [(0, .ref l0_116)] [.int s1_116, .ref s0_116] (C (fX5_matrices_J116 l0_116 s0_116 s1_116 S_116)) := by
    intro l0_116 s0_116 s1_116 S_116
    unfold fX5_matrices_J116
    refine zr_putF C hC h0 zcX0 (k := 4) (by decide) zw_242 rfl rfl rfl dX5_matrices_116 (n := 119) rfl (fun S11 => ?_)
    refine zr_aload_n h0 dX5_matrices_119 rfl (n := 120) rfl ?_
    refine zr_getI C hC h0 zcX5 (k := 7) (by decide) zw_81 dX5_matrices_120 (n := 123) rfl (fun v12 => ?_)
    refine zr_iconst (1 : Int32) h0 (by decide) dX5_matrices_123 (n := 124) rfl ?_
    refine zr_isub h0 dX5_matrices_124 (n := 125) rfl ?_
    exact zr_iretT h0 rfl dX5_matrices_125 (hE _ _) (by decide) (by decide)
  have J115 : ∀ (l0_115 : Nat) (s0_115 : Nat) (S_115 : ZS), zV G 8 S_115 8 105 115 [(0, .ref l0_115)] [.ref s0_115] (C (fX5_matrices_J115 l0_115 s0_115 S_115)) := by
    intro l0_115 s0_115 S_115
    unfold fX5_matrices_J115
    refine zr_iconst (0 : Int32) h0 (by decide) dX5_matrices_115 (n := 116) rfl ?_
    exact J116 l0_115 s0_115 (0 : Int32) S_115
  unfold fX5_matrices
  refine zr_iload_n h0 dX5_matrices_0 rfl (n := 1) rfl ?_
  refine zr_cTV C hC 1 6 h0 (fun x hx => zk_ST h0 (fun l D z0 hlt => kX5_needSize l D z0 hlt a1 S x hx) hnt zw_217 zw_218 zw_1 zw_219 zyX5_needSize (As := [.int a1]) (st := []) rfl (by decide) rfl (Nat.le_of_ble_eq_true rfl) (by decide) dX5_matrices_1) hnt rfl rfl (by decide) (by decide) (n := 4) rfl (fun z h => hEx _ _ h) (fun x1 => ?_)
  refine zr_iload_n h0 dX5_matrices_4 rfl (n := 5) rfl ?_
  refine zr_cTV C hC 2 12 h0 (fun x hx => zk_ST h0 (fun l D z0 hlt => kX5_needSize l D z0 hlt a2 x1.2 x hx) hnt zw_217 zw_218 zw_1 zw_219 zyX5_needSize (As := [.int a2]) (st := []) rfl (by decide) rfl (Nat.le_of_ble_eq_true rfl) (by decide) dX5_matrices_5) hnt rfl rfl (by decide) (by decide) (n := 8) rfl (fun z h => hEx _ _ h) (fun x2 => ?_)
  refine zr_iload_n h0 dX5_matrices_8 rfl (n := 9) rfl ?_
  refine zr_cTV C hC 3 18 h0 (fun x hx => zk_ST h0 (fun l D z0 hlt => kX5_needSize l D z0 hlt a3 x2.2 x hx) hnt zw_217 zw_218 zw_1 zw_219 zyX5_needSize (As := [.int a3]) (st := []) rfl (by decide) rfl (Nat.le_of_ble_eq_true rfl) (by decide) dX5_matrices_9) hnt rfl rfl (by decide) (by decide) (n := 12) rfl (fun z h => hEx _ _ h) (fun x3 => ?_)
  refine zr_aload_n h0 dX5_matrices_12 rfl (n := 13) rfl ?_
  refine zr_iload_n h0 dX5_matrices_13 rfl (n := 14) rfl ?_
  refine zr_iload_n h0 dX5_matrices_14 rfl (n := 15) rfl ?_
  refine zr_imul h0 dX5_matrices_15 (n := 16) rfl ?_
  refine zr_iload_n h0 dX5_matrices_16 rfl (n := 17) rfl ?_
  refine zr_iload_n h0 dX5_matrices_17 rfl (n := 18) rfl ?_
  refine zr_imul h0 dX5_matrices_18 (n := 19) rfl ?_
  refine zr_iload_n h0 dX5_matrices_19 rfl (n := 20) rfl ?_
  refine zr_iload_n h0 dX5_matrices_20 rfl (n := 21) rfl ?_
  refine zr_imul h0 dX5_matrices_21 (n := 22) rfl ?_
  refine zr_cTR C hC 8 105 h0 (fun x hx => zk_VT h0 zcX5 (zcl_ex hx) (fun l D z0 hlt => kX5_addCube l D z0 hlt a0 (a1 * a2) (a2 * a3) (a1 * a3) x3.2 x (zcl_of hx)) hnt zw_213 zw_215 zs_1 zw_1 zw_216 rfl zyX5_addCube (As := [.int (a1 * a2), .int (a2 * a3), .int (a1 * a3)]) (st := []) rfl (by decide) rfl (Nat.le_of_ble_eq_true rfl) (by decide) dX5_matrices_22) hnt rfl rfl (by decide) (by decide) (n := 25) rfl (fun z h => hEx _ _ h) (fun x4 => ?_)
  refine zr_astore [(0, .ref a0), (1, .int a1), (2, .int a2), (3, .int a3), (4, .ref x4.1)] h0 dX5_matrices_25 (by decide) rfl (n := 27) rfl ?_
  refine zr_iconst (0 : Int32) h0 (by decide) dX5_matrices_27 (n := 28) rfl ?_
  refine zr_istore [(0, .ref a0), (1, .int a1), (2, .int a2), (3, .int a3), (4, .ref x4.1), (5, .int (0 : Int32))] h0 dX5_matrices_28 (by decide) rfl (n := 30) rfl ?_
  refine zr_loop hC (fX5_matrices_B30 a0 a1 a2 a3 x4.1) (fun y => [(0, .ref a0), (1, .int a1), (2, .int a2), (3, .int a3), (4, .ref x4.1), (5, .int y.1)]) (fun y => y.2) zF ((0 : Int32), x4.2) (fun C30 hC30 hX30 hL30 t30 => ?_)
  unfold fX5_matrices_B30
  refine zr_iload h0 dX5_matrices_30 rfl (n := 32) rfl ?_
  refine zr_iload_n h0 dX5_matrices_32 rfl (n := 33) rfl ?_
  refine zr_icmp_ge C30 (tgt := 99) h0 dX5_matrices_33 (by decide) (n := 36) rfl ?_ ?_
  · refine zr_ex hX30 ?_
    refine zv_sub (lv' := [(0, .ref a0), (1, .int a1), (2, .int a2), (3, .int a3), (4, .ref x4.1)]) ?_ (zsub_of [0, 1, 2, 3, 4] rfl)
    refine zr_aload h0 dX5_matrices_99 rfl (n := 101) rfl ?_
    refine zr_iload_n h0 dX5_matrices_101 rfl (n := 102) rfl ?_
    refine zr_iload_n h0 dX5_matrices_102 rfl (n := 103) rfl ?_
    refine zr_icmp_ne C (tgt := 115) h0 dX5_matrices_103 (by decide) (n := 106) rfl ?_ ?_
    · refine zv_sub (lv' := [(0, .ref a0), (1, .int a1), (2, .int a2), (3, .int a3)]) ?_ (zsub_of [0, 1, 2, 3] rfl)
      refine zr_iload_n h0 dX5_matrices_106 rfl (n := 107) rfl ?_
      refine zr_iload_n h0 dX5_matrices_107 rfl (n := 108) rfl ?_
      refine zr_icmp_ne C (tgt := 115) h0 dX5_matrices_108 (by decide) (n := 111) rfl ?_ ?_
      · refine zv_sub (lv' := [(0, .ref a0), (1, .int a1)]) ?_ (zsub_of [0, 1] rfl)
        refine zr_iload_n h0 dX5_matrices_111 rfl (n := 112) rfl ?_
        refine zr_goto (tgt := 116) h0 dX5_matrices_112 (by decide) ?_
        refine zv_sub (lv' := [(0, .ref a0)]) ?_ (zsub_of [0] rfl)
        exact J116 a0 x4.1 a1 t30.2
      · refine zv_sub (lv' := [(0, .ref a0)]) ?_ (zsub_of [0] rfl)
        exact J115 a0 x4.1 t30.2
    · refine zv_sub (lv' := [(0, .ref a0)]) ?_ (zsub_of [0] rfl)
      exact J115 a0 x4.1 t30.2
  · refine zr_iconst (0 : Int32) h0 (by decide) dX5_matrices_36 (n := 37) rfl ?_
    refine zr_istore [(0, .ref a0), (1, .int a1), (2, .int a2), (3, .int a3), (4, .ref x4.1), (5, .int t30.1), (6, .int (0 : Int32))] h0 dX5_matrices_37 (by decide) rfl (n := 39) rfl ?_
    refine zr_loop hC30 (fX5_matrices_B39 a0 a1 a2 a3 x4.1 t30.1) (fun y => [(0, .ref a0), (1, .int a1), (2, .int a2), (3, .int a3), (4, .ref x4.1), (5, .int t30.1), (6, .int y.1)]) (fun y => y.2) zF ((0 : Int32), t30.2) (fun C39 hC39 hX39 hL39 t39 => ?_)
    unfold fX5_matrices_B39
    refine zr_iload h0 dX5_matrices_39 rfl (n := 41) rfl ?_
    refine zr_iload_n h0 dX5_matrices_41 rfl (n := 42) rfl ?_
    refine zr_icmp_ge C39 (tgt := 93) h0 dX5_matrices_42 (by decide) (n := 45) rfl ?_ ?_
    · refine zr_ex hX39 ?_
      refine zv_sub (lv' := [(0, .ref a0), (1, .int a1), (2, .int a2), (3, .int a3), (4, .ref x4.1), (5, .int t30.1)]) ?_ (zsub_of [0, 1, 2, 3, 4, 5] rfl)
      refine zr_iinc (1 : Int32) [(0, .ref a0), (1, .int a1), (2, .int a2), (3, .int a3), (4, .ref x4.1), (5, .int (t30.1 + (1 : Int32)))] h0 dX5_matrices_93 rfl (by decide) rfl rfl (n := 96) rfl ?_
      refine zr_goto (tgt := 30) h0 dX5_matrices_96 (by decide) ?_
      exact hL30 (t30.1 + (1 : Int32), t39.2)
    · refine zr_iconst (0 : Int32) h0 (by decide) dX5_matrices_45 (n := 46) rfl ?_
      refine zr_istore [(0, .ref a0), (1, .int a1), (2, .int a2), (3, .int a3), (4, .ref x4.1), (5, .int t30.1), (6, .int t39.1), (7, .int (0 : Int32))] h0 dX5_matrices_46 (by decide) rfl (n := 48) rfl ?_
      refine zr_loop hC39 (fX5_matrices_B48 a0 a1 a2 a3 x4.1 t30.1 t39.1) (fun y => [(0, .ref a0), (1, .int a1), (2, .int a2), (3, .int a3), (4, .ref x4.1), (5, .int t30.1), (6, .int t39.1), (7, .int y.1)]) (fun y => y.2) zF ((0 : Int32), t39.2) (fun C48 hC48 hX48 hL48 t48 => ?_)
      unfold fX5_matrices_B48
      refine zr_iload h0 dX5_matrices_48 rfl (n := 50) rfl ?_
      refine zr_iload_n h0 dX5_matrices_50 rfl (n := 51) rfl ?_
      refine zr_icmp_ge C48 (tgt := 87) h0 dX5_matrices_51 (by decide) (n := 54) rfl ?_ ?_
      · refine zr_ex hX48 ?_
        refine zv_sub (lv' := [(0, .ref a0), (1, .int a1), (2, .int a2), (3, .int a3), (4, .ref x4.1), (5, .int t30.1), (6, .int t39.1)]) ?_ (zsub_of [0, 1, 2, 3, 4, 5, 6] rfl)
        refine zr_iinc (1 : Int32) [(0, .ref a0), (1, .int a1), (2, .int a2), (3, .int a3), (4, .ref x4.1), (5, .int t30.1), (6, .int (t39.1 + (1 : Int32)))] h0 dX5_matrices_87 rfl (by decide) rfl rfl (n := 90) rfl ?_
        refine zr_goto (tgt := 39) h0 dX5_matrices_90 (by decide) ?_
        exact hL39 (t39.1 + (1 : Int32), t48.2)
      · refine zr_aload h0 dX5_matrices_54 rfl (n := 56) rfl ?_
        refine zr_iload h0 dX5_matrices_56 rfl (n := 58) rfl ?_
        refine zr_iload_n h0 dX5_matrices_58 rfl (n := 59) rfl ?_
        refine zr_imul h0 dX5_matrices_59 (n := 60) rfl ?_
        refine zr_iload h0 dX5_matrices_60 rfl (n := 62) rfl ?_
        refine zr_iadd h0 dX5_matrices_62 (n := 63) rfl ?_
        refine zr_iload h0 dX5_matrices_63 rfl (n := 65) rfl ?_
        refine zr_iload_n h0 dX5_matrices_65 rfl (n := 66) rfl ?_
        refine zr_imul h0 dX5_matrices_66 (n := 67) rfl ?_
        refine zr_iload h0 dX5_matrices_67 rfl (n := 69) rfl ?_
        refine zr_iadd h0 dX5_matrices_69 (n := 70) rfl ?_
        refine zr_iload h0 dX5_matrices_70 rfl (n := 72) rfl ?_
        refine zr_iload_n h0 dX5_matrices_72 rfl (n := 73) rfl ?_
        refine zr_imul h0 dX5_matrices_73 (n := 74) rfl ?_
        refine zr_iload h0 dX5_matrices_74 rfl (n := 76) rfl ?_
        refine zr_iadd h0 dX5_matrices_76 (n := 77) rfl ?_
        refine zr_iconst (1 : Int32) h0 (by decide) dX5_matrices_77 (n := 78) rfl ?_
        refine zr_cMV C48 hC48 8 105 (fun x hx => zk_V h0 zcX0 (zcl_ex hx) (fun l D z0 => kX0_enter l D z0 x4.1 ((t30.1 * a2) + t39.1) ((t39.1 * a3) + t48.1) ((t30.1 * a3) + t48.1) (1 : Int32) t48.2 x (zcl_of hx)) zw_261 zw_262 zw_263 zw_10 zw_264 rfl zyX0_enter (As := [.int ((t30.1 * a2) + t39.1), .int ((t39.1 * a3) + t48.1), .int ((t30.1 * a3) + t48.1), .int (1 : Int32)]) (st := []) rfl (by decide) rfl (Nat.le_of_ble_eq_true rfl) (by decide) dX5_matrices_78) rfl rfl (n := 81) rfl (fun x10 => ?_)
        refine zr_iinc (1 : Int32) [(0, .ref a0), (1, .int a1), (2, .int a2), (3, .int a3), (4, .ref x4.1), (5, .int t30.1), (6, .int t39.1), (7, .int (t48.1 + (1 : Int32)))] h0 dX5_matrices_81 rfl (by decide) rfl rfl (n := 84) rfl ?_
        refine zr_goto (tgt := 48) h0 dX5_matrices_84 (by decide) ?_
        exact hL48 (t48.1 + (1 : Int32), x10)
theorem kX5_matrices (l : Launch) (D : ZD) (z0 : Nat) (hlt : l.stackTraces = false) (a0 : Nat) (a1 : Int32) (a2 : Int32) (a3 : Int32) (S : ZS) (x : ((Int32 × ZS) ⊕ ZX)) (hf : fX5_matrices a0 a1 a2 a3 S = some x) : zMetT l D z0 yX5_matrices cX5_matrices 8 (some .int) rmX5_matrices [.ref a0, .int a1, .int a2, .int a3] S (x.map (fun y => ((some (.int y.1)), y.2)) id) :=
  zMetT_of hlt (by decide) (Nat.le_of_ble_eq_true rfl) (fun G h0 hnt hE hEx => wX5_matrices a0 a1 a2 a3 S h0 (fun o => o = some x) (fun h => nomatch h) hnt (fun v S1 h => by cases h; exact hE _ _ rfl) (fun E h hh => by cases hh; exact hEx _ _ rfl)) hf
theorem dX5_polynomials_0 : decode cX5_polynomials 0 = .ok (.iload_n 1, 1) := by decide +kernel
theorem dX5_polynomials_1 : decode cX5_polynomials 1 = .ok (.invokestatic 72, 3) := by decide +kernel
theorem dX5_polynomials_4 : decode cX5_polynomials 4 = .ok (.iload_n 2, 1) := by decide +kernel
theorem dX5_polynomials_5 : decode cX5_polynomials 5 = .ok (.invokestatic 72, 3) := by decide +kernel
theorem dX5_polynomials_8 : decode cX5_polynomials 8 = .ok (.aload_n 0, 1) := by decide +kernel
theorem dX5_polynomials_9 : decode cX5_polynomials 9 = .ok (.iload_n 1, 1) := by decide +kernel
theorem dX5_polynomials_10 : decode cX5_polynomials 10 = .ok (.iload_n 2, 1) := by decide +kernel
theorem dX5_polynomials_11 : decode cX5_polynomials 11 = .ok (.iload_n 1, 1) := by decide +kernel
theorem dX5_polynomials_12 : decode cX5_polynomials 12 = .ok (.iload_n 2, 1) := by decide +kernel
theorem dX5_polynomials_13 : decode cX5_polynomials 13 = .ok (.iadd, 1) := by decide +kernel
theorem dX5_polynomials_14 : decode cX5_polynomials 14 = .ok (.iconst 1, 1) := by decide +kernel
theorem dX5_polynomials_15 : decode cX5_polynomials 15 = .ok (.isub, 1) := by decide +kernel
theorem dX5_polynomials_16 : decode cX5_polynomials 16 = .ok (.invokevirtual 68, 3) := by decide +kernel
theorem dX5_polynomials_19 : decode cX5_polynomials 19 = .ok (.astore_n 3, 1) := by decide +kernel
theorem dX5_polynomials_20 : decode cX5_polynomials 20 = .ok (.iconst 0, 1) := by decide +kernel
theorem dX5_polynomials_21 : decode cX5_polynomials 21 = .ok (.istore 4, 2) := by decide +kernel
theorem dX5_polynomials_23 : decode cX5_polynomials 23 = .ok (.iload 4, 2) := by decide +kernel
theorem dX5_polynomials_25 : decode cX5_polynomials 25 = .ok (.iload_n 1, 1) := by decide +kernel
theorem dX5_polynomials_26 : decode cX5_polynomials 26 = .ok (.if_icmp .ge 38, 3) := by decide +kernel
theorem dX5_polynomials_29 : decode cX5_polynomials 29 = .ok (.iconst 0, 1) := by decide +kernel
theorem dX5_polynomials_30 : decode cX5_polynomials 30 = .ok (.istore 5, 2) := by decide +kernel
theorem dX5_polynomials_32 : decode cX5_polynomials 32 = .ok (.iload 5, 2) := by decide +kernel
theorem dX5_polynomials_34 : decode cX5_polynomials 34 = .ok (.iload_n 2, 1) := by decide +kernel
theorem dX5_polynomials_35 : decode cX5_polynomials 35 = .ok (.if_icmp .ge 23, 3) := by decide +kernel
theorem dX5_polynomials_38 : decode cX5_polynomials 38 = .ok (.aload_n 3, 1) := by decide +kernel
theorem dX5_polynomials_39 : decode cX5_polynomials 39 = .ok (.iload 4, 2) := by decide +kernel
theorem dX5_polynomials_41 : decode cX5_polynomials 41 = .ok (.iload 5, 2) := by decide +kernel
theorem dX5_polynomials_43 : decode cX5_polynomials 43 = .ok (.iload 4, 2) := by decide +kernel
theorem dX5_polynomials_45 : decode cX5_polynomials 45 = .ok (.iload 5, 2) := by decide +kernel
theorem dX5_polynomials_47 : decode cX5_polynomials 47 = .ok (.iadd, 1) := by decide +kernel
theorem dX5_polynomials_48 : decode cX5_polynomials 48 = .ok (.iconst 1, 1) := by decide +kernel
theorem dX5_polynomials_49 : decode cX5_polynomials 49 = .ok (.invokevirtual 76, 3) := by decide +kernel
theorem dX5_polynomials_52 : decode cX5_polynomials 52 = .ok (.iinc 5 1, 3) := by decide +kernel
theorem dX5_polynomials_55 : decode cX5_polynomials 55 = .ok (.goto (-23), 3) := by decide +kernel
theorem dX5_polynomials_58 : decode cX5_polynomials 58 = .ok (.iinc 4 1, 3) := by decide +kernel
theorem dX5_polynomials_61 : decode cX5_polynomials 61 = .ok (.goto (-38), 3) := by decide +kernel
theorem dX5_polynomials_64 : decode cX5_polynomials 64 = .ok (.aload_n 0, 1) := by decide +kernel
theorem dX5_polynomials_65 : decode cX5_polynomials 65 = .ok (.getfield 50, 3) := by decide +kernel
theorem dX5_polynomials_68 : decode cX5_polynomials 68 = .ok (.iconst 1, 1) := by decide +kernel
theorem dX5_polynomials_69 : decode cX5_polynomials 69 = .ok (.isub, 1) := by decide +kernel
theorem dX5_polynomials_70 : decode cX5_polynomials 70 = .ok (.ireturn, 1) := by decide +kernel
abbrev rmX5_polynomials : Room := { frames := 8, cells := 7, slots := 99, locals := 134 }
theorem zyX5_polynomials : zyOK yX5_polynomials 2 := ⟨by decide +kernel, by decide +kernel, by decide +kernel⟩
set_option maxHeartbeats 4000000 in
set_option maxRecDepth 100000 in
theorem wX5_polynomials {G : ZG} (a0 : Nat) (a1 : Int32) (a2 : Int32) (S : ZS) (h0 : zFix G cX5_polynomials RX5 6 (some .int) rmX5_polynomials) (C : Option ((Int32 × ZS) ⊕ ZX) → Prop) (hC : ¬ C none) (hnt : zNoTab G) (hE : ∀ (v : Int32) (S1 : ZS), C (some (.inl (v, S1))) → zEndT G (some (.int v)) S1 rmX5_polynomials) (hEx : ∀ (E : String) (h : ZH), C (some (.inr (E, h))) → zEndX G E h rmX5_polynomials) : zV G 6 S 0 0 0 [(0, .ref a0), (1, .int a1), (2, .int a2)] [] (C (fX5_polynomials a0 a1 a2 S)) := by
  unfold fX5_polynomials
  refine zr_iload_n h0 dX5_polynomials_0 rfl (n := 1) rfl ?_
  refine zr_cTV C hC 1 6 h0 (fun x hx => zk_ST h0 (fun l D z0 hlt => kX5_needSize l D z0 hlt a1 S x hx) hnt zw_217 zw_218 zw_1 zw_219 zyX5_needSize (As := [.int a1]) (st := []) rfl (by decide) rfl (Nat.le_of_ble_eq_true rfl) (by decide) dX5_polynomials_1) hnt rfl rfl (by decide) (by decide) (n := 4) rfl (fun z h => hEx _ _ h) (fun x1 => ?_)
  refine zr_iload_n h0 dX5_polynomials_4 rfl (n := 5) rfl ?_
  refine zr_cTV C hC 2 12 h0 (fun x hx => zk_ST h0 (fun l D z0 hlt => kX5_needSize l D z0 hlt a2 x1.2 x hx) hnt zw_217 zw_218 zw_1 zw_219 zyX5_needSize (As := [.int a2]) (st := []) rfl (by decide) rfl (Nat.le_of_ble_eq_true rfl) (by decide) dX5_polynomials_5) hnt rfl rfl (by decide) (by decide) (n := 8) rfl (fun z h => hEx _ _ h) (fun x2 => ?_)
  refine zr_aload_n h0 dX5_polynomials_8 rfl (n := 9) rfl ?_
  refine zr_iload_n h0 dX5_polynomials_9 rfl (n := 10) rfl ?_
  refine zr_iload_n h0 dX5_polynomials_10 rfl (n := 11) rfl ?_
  refine zr_iload_n h0 dX5_polynomials_11 rfl (n := 12) rfl ?_
  refine zr_iload_n h0 dX5_polynomials_12 rfl (n := 13) rfl ?_
  refine zr_iadd h0 dX5_polynomials_13 (n := 14) rfl ?_
  refine zr_iconst (1 : Int32) h0 (by decide) dX5_polynomials_14 (n := 15) rfl ?_
  refine zr_isub h0 dX5_polynomials_15 (n := 16) rfl ?_
  refine zr_cTR C hC 7 99 h0 (fun x hx => zk_VT h0 zcX5 (zcl_ex hx) (fun l D z0 hlt => kX5_addCube l D z0 hlt a0 a1 a2 ((a1 + a2) - (1 : Int32)) x2.2 x (zcl_of hx)) hnt zw_213 zw_215 zs_1 zw_1 zw_216 rfl zyX5_addCube (As := [.int a1, .int a2, .int ((a1 + a2) - (1 : Int32))]) (st := []) rfl (by decide) rfl (Nat.le_of_ble_eq_true rfl) (by decide) dX5_polynomials_16) hnt rfl rfl (by decide) (by decide) (n := 19) rfl (fun z h => hEx _ _ h) (fun x3 => ?_)
  refine zr_astore_n [(0, .ref a0), (1, .int a1), (2, .int a2), (3, .ref x3.1)] h0 dX5_polynomials_19 (by decide) rfl (n := 20) rfl ?_
  refine zr_iconst (0 : Int32) h0 (by decide) dX5_polynomials_20 (n := 21) rfl ?_
  refine zr_istore [(0, .ref a0), (1, .int a1), (2, .int a2), (3, .ref x3.1), (4, .int (0 : Int32))] h0 dX5_polynomials_21 (by decide) rfl (n := 23) rfl ?_
  refine zr_loop hC (fX5_polynomials_B23 a0 a1 a2 x3.1) (fun y => [(0, .ref a0), (1, .int a1), (2, .int a2), (3, .ref x3.1), (4, .int y.1)]) (fun y => y.2) zF ((0 : Int32), x3.2) (fun C23 hC23 hX23 hL23 t23 => ?_)
  unfold fX5_polynomials_B23
  refine zr_iload h0 dX5_polynomials_23 rfl (n := 25) rfl ?_
  refine zr_iload_n h0 dX5_polynomials_25 rfl (n := 26) rfl ?_
  refine zr_icmp_ge C23 (tgt := 64) h0 dX5_polynomials_26 (by decide) (n := 29) rfl ?_ ?_
  · refine zr_ex hX23 ?_
    refine zv_sub (lv' := [(0, .ref a0)]) ?_ (zsub_of [0] rfl)
    refine zr_aload_n h0 dX5_polynomials_64 rfl (n := 65) rfl ?_
    refine zr_getI C hC h0 zcX5 (k := 7) (by decide) zw_81 dX5_polynomials_65 (n := 68) rfl (fun v7 => ?_)
    refine zr_iconst (1 : Int32) h0 (by decide) dX5_polynomials_68 (n := 69) rfl ?_
    refine zr_isub h0 dX5_polynomials_69 (n := 70) rfl ?_
    exact zr_iretT h0 rfl dX5_polynomials_70 (hE _ _) (by decide) (by decide)
  · refine zr_iconst (0 : Int32) h0 (by decide) dX5_polynomials_29 (n := 30) rfl ?_
    refine zr_istore [(0, .ref a0), (1, .int a1), (2, .int a2), (3, .ref x3.1), (4, .int t23.1), (5, .int (0 : Int32))] h0 dX5_polynomials_30 (by decide) rfl (n := 32) rfl ?_
    refine zr_loop hC23 (fX5_polynomials_B32 a0 a1 a2 x3.1 t23.1) (fun y => [(0, .ref a0), (1, .int a1), (2, .int a2), (3, .ref x3.1), (4, .int t23.1), (5, .int y.1)]) (fun y => y.2) zF ((0 : Int32), t23.2) (fun C32 hC32 hX32 hL32 t32 => ?_)
    unfold fX5_polynomials_B32
    refine zr_iload h0 dX5_polynomials_32 rfl (n := 34) rfl ?_
    refine zr_iload_n h0 dX5_polynomials_34 rfl (n := 35) rfl ?_
    refine zr_icmp_ge C32 (tgt := 58) h0 dX5_polynomials_35 (by decide) (n := 38) rfl ?_ ?_
    · refine zr_ex hX32 ?_
      refine zv_sub (lv' := [(0, .ref a0), (1, .int a1), (2, .int a2), (3, .ref x3.1), (4, .int t23.1)]) ?_ (zsub_of [0, 1, 2, 3, 4] rfl)
      refine zr_iinc (1 : Int32) [(0, .ref a0), (1, .int a1), (2, .int a2), (3, .ref x3.1), (4, .int (t23.1 + (1 : Int32)))] h0 dX5_polynomials_58 rfl (by decide) rfl rfl (n := 61) rfl ?_
      refine zr_goto (tgt := 23) h0 dX5_polynomials_61 (by decide) ?_
      exact hL23 (t23.1 + (1 : Int32), t32.2)
    · refine zr_aload_n h0 dX5_polynomials_38 rfl (n := 39) rfl ?_
      refine zr_iload h0 dX5_polynomials_39 rfl (n := 41) rfl ?_
      refine zr_iload h0 dX5_polynomials_41 rfl (n := 43) rfl ?_
      refine zr_iload h0 dX5_polynomials_43 rfl (n := 45) rfl ?_
      refine zr_iload h0 dX5_polynomials_45 rfl (n := 47) rfl ?_
      refine zr_iadd h0 dX5_polynomials_47 (n := 48) rfl ?_
      refine zr_iconst (1 : Int32) h0 (by decide) dX5_polynomials_48 (n := 49) rfl ?_
      refine zr_cMV C32 hC32 7 99 (fun x hx => zk_V h0 zcX0 (zcl_ex hx) (fun l D z0 => kX0_enter l D z0 x3.1 t23.1 t32.1 (t23.1 + t32.1) (1 : Int32) t32.2 x (zcl_of hx)) zw_261 zw_262 zw_263 zw_10 zw_264 rfl zyX0_enter (As := [.int t23.1, .int t32.1, .int (t23.1 + t32.1), .int (1 : Int32)]) (st := []) rfl (by decide) rfl (Nat.le_of_ble_eq_true rfl) (by decide) dX5_polynomials_49) rfl rfl (n := 52) rfl (fun x8 => ?_)
      refine zr_iinc (1 : Int32) [(0, .ref a0), (1, .int a1), (2, .int a2), (3, .ref x3.1), (4, .int t23.1), (5, .int (t32.1 + (1 : Int32)))] h0 dX5_polynomials_52 rfl (by decide) rfl rfl (n := 55) rfl ?_
      refine zr_goto (tgt := 32) h0 dX5_polynomials_55 (by decide) ?_
      exact hL32 (t32.1 + (1 : Int32), x8)
theorem kX5_polynomials (l : Launch) (D : ZD) (z0 : Nat) (hlt : l.stackTraces = false) (a0 : Nat) (a1 : Int32) (a2 : Int32) (S : ZS) (x : ((Int32 × ZS) ⊕ ZX)) (hf : fX5_polynomials a0 a1 a2 S = some x) : zMetT l D z0 yX5_polynomials cX5_polynomials 6 (some .int) rmX5_polynomials [.ref a0, .int a1, .int a2] S (x.map (fun y => ((some (.int y.1)), y.2)) id) :=
  zMetT_of hlt (by decide) (Nat.le_of_ble_eq_true rfl) (fun G h0 hnt hE hEx => wX5_polynomials a0 a1 a2 S h0 (fun o => o = some x) (fun h => nomatch h) hnt (fun v S1 h => by cases h; exact hE _ _ rfl) (fun E h hh => by cases hh; exact hEx _ _ rfl)) hf
theorem dX5_remainder_0 : decode cX5_remainder 0 = .ok (.iload_n 1, 1) := by decide +kernel
theorem dX5_remainder_1 : decode cX5_remainder 1 = .ok (.ifCond .le 9, 3) := by decide +kernel
theorem dX5_remainder_4 : decode cX5_remainder 4 = .ok (.iload_n 0, 1) := by decide +kernel
theorem dX5_remainder_5 : decode cX5_remainder 5 = .ok (.iload_n 1, 1) := by decide +kernel
theorem dX5_remainder_6 : decode cX5_remainder 6 = .ok (.irem, 1) := by decide +kernel
theorem dX5_remainder_7 : decode cX5_remainder 7 = .ok (.goto 4, 3) := by decide +kernel
theorem dX5_remainder_10 : decode cX5_remainder 10 = .ok (.iconst 0, 1) := by decide +kernel
theorem dX5_remainder_11 : decode cX5_remainder 11 = .ok (.ireturn, 1) := by decide +kernel
abbrev rmX5_remainder : Room := { frames := 1, cells := 0, slots := 0, locals := 20 }
theorem zyX5_remainder : zyOK yX5_remainder 2 := ⟨by decide +kernel, by decide +kernel, by decide +kernel⟩
set_option maxHeartbeats 4000000 in
set_option maxRecDepth 100000 in
theorem wX5_remainder {G : ZG} (a0 : Int32) (a1 : Int32) (S : ZS) (h0 : zFix G cX5_remainder RX5 2 (some .int) rmX5_remainder) (C : Option Int32 → Prop) (hC : ¬ C none) (hE : ∀ v : Int32, C (some v) → zEnd G (some (.int v)) S rmX5_remainder) : zV G 2 S 0 0 0 [(0, .int a0), (1, .int a1)] [] (C (fX5_remainder a0 a1)) := by
  have J11 : ∀ (s0_11 : Int32), zV G 2 S 0 0 11 [] [.int s0_11] (C (fX5_remainder_J11 s0_11)) := by
    intro s0_11
    unfold fX5_remainder_J11
    exact zr_iret h0 rfl dX5_remainder_11 (hE _) (by decide) (by decide)
  unfold fX5_remainder
  refine zr_iload_n h0 dX5_remainder_0 rfl (n := 1) rfl ?_
  refine zr_if_le C (tgt := 10) h0 dX5_remainder_1 (by decide) (n := 4) rfl ?_ ?_
  · refine zv_sub (lv' := []) ?_ (zsub_of [] rfl)
    refine zr_iconst (0 : Int32) h0 (by decide) dX5_remainder_10 (n := 11) rfl ?_
    exact J11 (0 : Int32)
  · refine zr_iload_n h0 dX5_remainder_4 rfl (n := 5) rfl ?_
    refine zr_iload_n h0 dX5_remainder_5 rfl (n := 6) rfl ?_
    refine zr_irem C hC h0 dX5_remainder_6 (n := 7) rfl (fun v1 => ?_)
    refine zr_goto (tgt := 11) h0 dX5_remainder_7 (by decide) ?_
    refine zv_sub (lv' := []) ?_ (zsub_of [] rfl)
    exact J11 v1
theorem kX5_remainder (l : Launch) (D : ZD) (z0 : Nat) (a0 : Int32) (a1 : Int32) (S : ZS) (x : Int32) (hf : fX5_remainder a0 a1 = some x) : zMet l D z0 yX5_remainder cX5_remainder 2 (some .int) rmX5_remainder [.int a0, .int a1] S (some (.int x)) S :=
  zMet_of (by decide) (Nat.le_of_ble_eq_true rfl) (fun G h0 hini hE => wX5_remainder a0 a1 S h0 (fun o => o = some x) (fun h => nomatch h) (fun v h => by cases h; exact hE)) hf
theorem dX5_group_0 : decode cX5_group 0 = .ok (.aload_n 0, 1) := by decide +kernel
theorem dX5_group_1 : decode cX5_group 1 = .ok (.iload_n 1, 1) := by decide +kernel
theorem dX5_group_2 : decode cX5_group 2 = .ok (.iload_n 1, 1) := by decide +kernel
theorem dX5_group_3 : decode cX5_group 3 = .ok (.iload_n 1, 1) := by decide +kernel
theorem dX5_group_4 : decode cX5_group 4 = .ok (.invokevirtual 68, 3) := by decide +kernel
theorem dX5_group_7 : decode cX5_group 7 = .ok (.astore_n 2, 1) := by decide +kernel
theorem dX5_group_8 : decode cX5_group 8 = .ok (.iconst 0, 1) := by decide +kernel
theorem dX5_group_9 : decode cX5_group 9 = .ok (.istore_n 3, 1) := by decide +kernel
theorem dX5_group_10 : decode cX5_group 10 = .ok (.iload_n 3, 1) := by decide +kernel
theorem dX5_group_11 : decode cX5_group 11 = .ok (.iload_n 1, 1) := by decide +kernel
theorem dX5_group_12 : decode cX5_group 12 = .ok (.if_icmp .ge 40, 3) := by decide +kernel
theorem dX5_group_15 : decode cX5_group 15 = .ok (.iconst 0, 1) := by decide +kernel
theorem dX5_group_16 : decode cX5_group 16 = .ok (.istore 4, 2) := by decide +kernel
theorem dX5_group_18 : decode cX5_group 18 = .ok (.iload 4, 2) := by decide +kernel
theorem dX5_group_20 : decode cX5_group 20 = .ok (.iload_n 1, 1) := by decide +kernel
theorem dX5_group_21 : decode cX5_group 21 = .ok (.if_icmp .ge 25, 3) := by decide +kernel
theorem dX5_group_24 : decode cX5_group 24 = .ok (.aload_n 2, 1) := by decide +kernel
theorem dX5_group_25 : decode cX5_group 25 = .ok (.iload_n 3, 1) := by decide +kernel
theorem dX5_group_26 : decode cX5_group 26 = .ok (.iload 4, 2) := by decide +kernel
theorem dX5_group_28 : decode cX5_group 28 = .ok (.iload_n 3, 1) := by decide +kernel
theorem dX5_group_29 : decode cX5_group 29 = .ok (.iload 4, 2) := by decide +kernel
theorem dX5_group_31 : decode cX5_group 31 = .ok (.iadd, 1) := by decide +kernel
theorem dX5_group_32 : decode cX5_group 32 = .ok (.iload_n 1, 1) := by decide +kernel
theorem dX5_group_33 : decode cX5_group 33 = .ok (.invokestatic 83, 3) := by decide +kernel
theorem dX5_group_36 : decode cX5_group 36 = .ok (.iconst 1, 1) := by decide +kernel
theorem dX5_group_37 : decode cX5_group 37 = .ok (.invokevirtual 76, 3) := by decide +kernel
theorem dX5_group_40 : decode cX5_group 40 = .ok (.iinc 4 1, 3) := by decide +kernel
theorem dX5_group_43 : decode cX5_group 43 = .ok (.goto (-25), 3) := by decide +kernel
theorem dX5_group_46 : decode cX5_group 46 = .ok (.iinc 3 1, 3) := by decide +kernel
theorem dX5_group_49 : decode cX5_group 49 = .ok (.goto (-39), 3) := by decide +kernel
theorem dX5_group_52 : decode cX5_group 52 = .ok (.aload_n 0, 1) := by decide +kernel
theorem dX5_group_53 : decode cX5_group 53 = .ok (.getfield 50, 3) := by decide +kernel
theorem dX5_group_56 : decode cX5_group 56 = .ok (.iconst 1, 1) := by decide +kernel
theorem dX5_group_57 : decode cX5_group 57 = .ok (.isub, 1) := by decide +kernel
theorem dX5_group_58 : decode cX5_group 58 = .ok (.ireturn, 1) := by decide +kernel
abbrev rmX5_group : Room := { frames := 8, cells := 5, slots := 87, locals := 134 }
theorem zyX5_group : zyOK yX5_group 1 := ⟨by decide +kernel, by decide +kernel, by decide +kernel⟩
set_option maxHeartbeats 4000000 in
set_option maxRecDepth 100000 in
theorem wX5_group {G : ZG} (a0 : Nat) (a1 : Int32) (S : ZS) (h0 : zFix G cX5_group RX5 5 (some .int) rmX5_group) (C : Option ((Int32 × ZS) ⊕ ZX) → Prop) (hC : ¬ C none) (hnt : zNoTab G) (hE : ∀ (v : Int32) (S1 : ZS), C (some (.inl (v, S1))) → zEndT G (some (.int v)) S1 rmX5_group) (hEx : ∀ (E : String) (h : ZH), C (some (.inr (E, h))) → zEndX G E h rmX5_group) : zV G 5 S 0 0 0 [(0, .ref a0), (1, .int a1)] [] (C (fX5_group a0 a1 S)) := by
  unfold fX5_group
  refine zr_aload_n h0 dX5_group_0 rfl (n := 1) rfl ?_
  refine zr_iload_n h0 dX5_group_1 rfl (n := 2) rfl ?_
  refine zr_iload_n h0 dX5_group_2 rfl (n := 3) rfl ?_
  refine zr_iload_n h0 dX5_group_3 rfl (n := 4) rfl ?_
  refine zr_cTR C hC 5 87 h0 (fun x hx => zk_VT h0 zcX5 (zcl_ex hx) (fun l D z0 hlt => kX5_addCube l D z0 hlt a0 a1 a1 a1 S x (zcl_of hx)) hnt zw_213 zw_215 zs_1 zw_1 zw_216 rfl zyX5_addCube (As := [.int a1, .int a1, .int a1]) (st := []) rfl (by decide) rfl (Nat.le_of_ble_eq_true rfl) (by decide) dX5_group_4) hnt rfl rfl (by decide) (by decide) (n := 7) rfl (fun z h => hEx _ _ h) (fun x1 => ?_)
  refine zr_astore_n [(0, .ref a0), (1, .int a1), (2, .ref x1.1)] h0 dX5_group_7 (by decide) rfl (n := 8) rfl ?_
  refine zr_iconst (0 : Int32) h0 (by decide) dX5_group_8 (n := 9) rfl ?_
  refine zr_istore_n [(0, .ref a0), (1, .int a1), (2, .ref x1.1), (3, .int (0 : Int32))] h0 dX5_group_9 (by decide) rfl (n := 10) rfl ?_
  refine zr_loop hC (fX5_group_B10 a0 a1 x1.1) (fun y => [(0, .ref a0), (1, .int a1), (2, .ref x1.1), (3, .int y.1)]) (fun y => y.2) zF ((0 : Int32), x1.2) (fun C10 hC10 hX10 hL10 t10 => ?_)
  unfold fX5_group_B10
  refine zr_iload_n h0 dX5_group_10 rfl (n := 11) rfl ?_
  refine zr_iload_n h0 dX5_group_11 rfl (n := 12) rfl ?_
  refine zr_icmp_ge C10 (tgt := 52) h0 dX5_group_12 (by decide) (n := 15) rfl ?_ ?_
  · refine zr_ex hX10 ?_
    refine zv_sub (lv' := [(0, .ref a0)]) ?_ (zsub_of [0] rfl)
    refine zr_aload_n h0 dX5_group_52 rfl (n := 53) rfl ?_
    refine zr_getI C hC h0 zcX5 (k := 7) (by decide) zw_81 dX5_group_53 (n := 56) rfl (fun v7 => ?_)
    refine zr_iconst (1 : Int32) h0 (by decide) dX5_group_56 (n := 57) rfl ?_
    refine zr_isub h0 dX5_group_57 (n := 58) rfl ?_
    exact zr_iretT h0 rfl dX5_group_58 (hE _ _) (by decide) (by decide)
  · refine zr_iconst (0 : Int32) h0 (by decide) dX5_group_15 (n := 16) rfl ?_
    refine zr_istore [(0, .ref a0), (1, .int a1), (2, .ref x1.1), (3, .int t10.1), (4, .int (0 : Int32))] h0 dX5_group_16 (by decide) rfl (n := 18) rfl ?_
    refine zr_loop hC10 (fX5_group_B18 a0 a1 x1.1 t10.1) (fun y => [(0, .ref a0), (1, .int a1), (2, .ref x1.1), (3, .int t10.1), (4, .int y.1)]) (fun y => y.2) zF ((0 : Int32), t10.2) (fun C18 hC18 hX18 hL18 t18 => ?_)
    unfold fX5_group_B18
    refine zr_iload h0 dX5_group_18 rfl (n := 20) rfl ?_
    refine zr_iload_n h0 dX5_group_20 rfl (n := 21) rfl ?_
    refine zr_icmp_ge C18 (tgt := 46) h0 dX5_group_21 (by decide) (n := 24) rfl ?_ ?_
    · refine zr_ex hX18 ?_
      refine zv_sub (lv' := [(0, .ref a0), (1, .int a1), (2, .ref x1.1), (3, .int t10.1)]) ?_ (zsub_of [0, 1, 2, 3] rfl)
      refine zr_iinc (1 : Int32) [(0, .ref a0), (1, .int a1), (2, .ref x1.1), (3, .int (t10.1 + (1 : Int32)))] h0 dX5_group_46 rfl (by decide) rfl rfl (n := 49) rfl ?_
      refine zr_goto (tgt := 10) h0 dX5_group_49 (by decide) ?_
      exact hL10 (t10.1 + (1 : Int32), t18.2)
    · refine zr_aload_n h0 dX5_group_24 rfl (n := 25) rfl ?_
      refine zr_iload_n h0 dX5_group_25 rfl (n := 26) rfl ?_
      refine zr_iload h0 dX5_group_26 rfl (n := 28) rfl ?_
      refine zr_iload_n h0 dX5_group_28 rfl (n := 29) rfl ?_
      refine zr_iload h0 dX5_group_29 rfl (n := 31) rfl ?_
      refine zr_iadd h0 dX5_group_31 (n := 32) rfl ?_
      refine zr_iload_n h0 dX5_group_32 rfl (n := 33) rfl ?_
      refine zr_cRI C18 hC18 5 87 (fun x hx => zk_S h0 (fun l D z0 => kX5_remainder l D z0 (t10.1 + t18.1) a1 t18.2 x hx) zw_285 zw_286 zw_1 zw_287 zyX5_remainder (As := [.int (t10.1 + t18.1), .int a1]) (st := [.int t18.1, .int t10.1, .ref x1.1]) rfl (by decide) rfl (Nat.le_of_ble_eq_true rfl) (by decide) dX5_group_33) rfl rfl (n := 36) rfl (fun x8 => ?_)
      refine zr_iconst (1 : Int32) h0 (by decide) dX5_group_36 (n := 37) rfl ?_
      refine zr_cMV C18 hC18 5 87 (fun x hx => zk_V h0 zcX0 (zcl_ex hx) (fun l D z0 => kX0_enter l D z0 x1.1 t10.1 t18.1 x8 (1 : Int32) t18.2 x (zcl_of hx)) zw_261 zw_262 zw_263 zw_10 zw_264 rfl zyX0_enter (As := [.int t10.1, .int t18.1, .int x8, .int (1 : Int32)]) (st := []) rfl (by decide) rfl (Nat.le_of_ble_eq_true rfl) (by decide) dX5_group_37) rfl rfl (n := 40) rfl (fun x9 => ?_)
      refine zr_iinc (1 : Int32) [(0, .ref a0), (1, .int a1), (2, .ref x1.1), (3, .int t10.1), (4, .int (t18.1 + (1 : Int32)))] h0 dX5_group_40 rfl (by decide) rfl rfl (n := 43) rfl ?_
      refine zr_goto (tgt := 18) h0 dX5_group_43 (by decide) ?_
      exact hL18 (t18.1 + (1 : Int32), x9)
theorem kX5_group (l : Launch) (D : ZD) (z0 : Nat) (hlt : l.stackTraces = false) (a0 : Nat) (a1 : Int32) (S : ZS) (x : ((Int32 × ZS) ⊕ ZX)) (hf : fX5_group a0 a1 S = some x) : zMetT l D z0 yX5_group cX5_group 5 (some .int) rmX5_group [.ref a0, .int a1] S (x.map (fun y => ((some (.int y.1)), y.2)) id) :=
  zMetT_of hlt (by decide) (Nat.le_of_ble_eq_true rfl) (fun G h0 hnt hE hEx => wX5_group a0 a1 S h0 (fun o => o = some x) (fun h => nomatch h) hnt (fun v S1 h => by cases h; exact hE _ _ rfl) (fun E h hh => by cases hh; exact hEx _ _ rfl)) hf
theorem dX5_needCube_0 : decode cX5_needCube 0 = .ok (.iload_n 1, 1) := by decide +kernel
theorem dX5_needCube_1 : decode cX5_needCube 1 = .ok (.ifCond .lt 21, 3) := by decide +kernel
theorem dX5_needCube_4 : decode cX5_needCube 4 = .ok (.iload_n 1, 1) := by decide +kernel
theorem dX5_needCube_5 : decode cX5_needCube 5 = .ok (.aload_n 0, 1) := by decide +kernel
theorem dX5_needCube_6 : decode cX5_needCube 6 = .ok (.getfield 11, 3) := by decide +kernel
theorem dX5_needCube_9 : decode cX5_needCube 9 = .ok (.arraylength, 1) := by decide +kernel
theorem dX5_needCube_10 : decode cX5_needCube 10 = .ok (.if_icmp .ge 12, 3) := by decide +kernel
theorem dX5_needCube_13 : decode cX5_needCube 13 = .ok (.aload_n 0, 1) := by decide +kernel
theorem dX5_needCube_14 : decode cX5_needCube 14 = .ok (.getfield 11, 3) := by decide +kernel
theorem dX5_needCube_17 : decode cX5_needCube 17 = .ok (.iload_n 1, 1) := by decide +kernel
theorem dX5_needCube_18 : decode cX5_needCube 18 = .ok (.aaload, 1) := by decide +kernel
theorem dX5_needCube_19 : decode cX5_needCube 19 = .ok (.goto 4, 3) := by decide +kernel
theorem dX5_needCube_22 : decode cX5_needCube 22 = .ok (.aconst_null, 1) := by decide +kernel
theorem dX5_needCube_23 : decode cX5_needCube 23 = .ok (.astore_n 2, 1) := by decide +kernel
theorem dX5_needCube_24 : decode cX5_needCube 24 = .ok (.aload_n 2, 1) := by decide +kernel
theorem dX5_needCube_25 : decode cX5_needCube 25 = .ok (.ifnonnull 14, 3) := by decide +kernel
theorem dX5_needCube_28 : decode cX5_needCube 28 = .ok (.new 254, 3) := by decide +kernel
theorem dX5_needCube_31 : decode cX5_needCube 31 = .ok (.dup, 1) := by decide +kernel
theorem dX5_needCube_32 : decode cX5_needCube 32 = .ok (.ldc_w 256, 3) := by decide +kernel
theorem dX5_needCube_35 : decode cX5_needCube 35 = .ok (.invokespecial 258, 3) := by decide +kernel
theorem dX5_needCube_38 : decode cX5_needCube 38 = .ok (.athrow, 1) := by decide +kernel
theorem dX5_needCube_39 : decode cX5_needCube 39 = .ok (.aload_n 2, 1) := by decide +kernel
theorem dX5_needCube_40 : decode cX5_needCube 40 = .ok (.areturn, 1) := by decide +kernel
abbrev rmX5_needCube : Room := { frames := 6, cells := 1, slots := 6, locals := 90 }
theorem zyX5_needCube : zyOK yX5_needCube 1 := ⟨by decide +kernel, by decide +kernel, by decide +kernel⟩
set_option maxHeartbeats 4000000 in
set_option maxRecDepth 100000 in
theorem wX5_needCube {G : ZG} (a0 : Nat) (a1 : Int32) (S : ZS) (h0 : zFix G cX5_needCube RX5 3 (some (.object "Bilinearium$Cube")) rmX5_needCube) (C : Option ((Nat × ZS) ⊕ ZX) → Prop) (hC : ¬ C none) (hnt : zNoTab G) (hE : ∀ (v : Nat) (S1 : ZS), C (some (.inl (v, S1))) → zEndT G (some (.ref v)) S1 rmX5_needCube) (hEx : ∀ (E : String) (h : ZH), C (some (.inr (E, h))) → zEndX G E h rmX5_needCube) : zV G 3 S 0 0 0 [(0, .ref a0), (1, .int a1)] [] (C (fX5_needCube a0 a1 S)) := by
  have J23 : ∀ (s0_23 : Option Nat) (S_23 : ZS), zV G 3 S_23 0 0 23 [] [va_rf s0_23] (C (fX5_needCube_J23 s0_23 S_23)) := by
    intro s0_23 S_23
    unfold fX5_needCube_J23
    refine zr_astoreQ_n [(2, va_rf s0_23)] h0 dX5_needCube_23 (by decide) rfl (n := 24) rfl ?_
    refine zr_aloadQ_n h0 dX5_needCube_24 rfl (n := 25) rfl ?_
    refine zr_nonnullQ C (tgt := 39) h0 dX5_needCube_25 (by decide) (n := 28) rfl (fun hr => ?_) (fun as0_23 hr => ?_)
    · subst hr
      refine zv_sub (lv' := []) ?_ (zsub_of [] rfl)
      exact zr_throwW h0 hnt (cls := "java/lang/IndexOutOfBoundsException") (text := "there is no such cube") (names := ["java/lang/RuntimeException", "java/lang/Exception"]) (by decide +kernel) zfitN zw_300 zw_11 (by decide +kernel) (by decide +kernel) zat_X5_258 zbad_X5_258 zgd_X5_258 dX5_needCube_28 dX5_needCube_31 dX5_needCube_32 dX5_needCube_35 dX5_needCube_38 (by decide) (Nat.le_of_ble_eq_true rfl) (by decide) (by decide) (fun h => hEx _ _ h)
    · subst hr
      refine zr_aload_n h0 dX5_needCube_39 rfl (n := 40) rfl ?_
      exact zr_aretT h0 rfl (Or.inl ⟨_, rfl⟩) dX5_needCube_40 (hE _ _) (by decide) (by decide)
  have J22 : ∀  (S_22 : ZS), zV G 3 S_22 0 0 22 [] [] (C (fX5_needCube_J22 S_22)) := by
    intro  S_22
    unfold fX5_needCube_J22
    refine zr_null h0 dX5_needCube_22 (n := 23) rfl ?_
    exact J23 none S_22
  unfold fX5_needCube
  refine zr_iload_n h0 dX5_needCube_0 rfl (n := 1) rfl ?_
  refine zr_if_lt C (tgt := 22) h0 dX5_needCube_1 (by decide) (n := 4) rfl ?_ ?_
  · refine zv_sub (lv' := []) ?_ (zsub_of [] rfl)
    exact J22 S
  · refine zr_iload_n h0 dX5_needCube_4 rfl (n := 5) rfl ?_
    refine zr_aload_n h0 dX5_needCube_5 rfl (n := 6) rfl ?_
    refine zr_getR C hC h0 zcX5 (k := 0) (by decide) zw_74 dX5_needCube_6 (n := 9) rfl (fun v1 => ?_)
    refine zr_alen C hC h0 dX5_needCube_9 (n := 10) rfl (fun v2 => ?_)
    refine zr_icmp_ge C (tgt := 22) h0 dX5_needCube_10 (by decide) (n := 13) rfl ?_ ?_
    · refine zv_sub (lv' := []) ?_ (zsub_of [] rfl)
      exact J22 S
    · refine zr_aload_n h0 dX5_needCube_13 rfl (n := 14) rfl ?_
      refine zr_getR C hC h0 zcX5 (k := 0) (by decide) zw_74 dX5_needCube_14 (n := 17) rfl (fun v3 => ?_)
      refine zr_iload_n h0 dX5_needCube_17 rfl (n := 18) rfl ?_
      refine zr_aaload C hC (t := 3) h0 rfl dX5_needCube_18 (n := 19) rfl (fun v4 => ?_)
      refine zr_goto (tgt := 23) h0 dX5_needCube_19 (by decide) ?_
      refine zv_sub (lv' := []) ?_ (zsub_of [] rfl)
      exact J23 v4 S
theorem kX5_needCube (l : Launch) (D : ZD) (z0 : Nat) (hlt : l.stackTraces = false) (a0 : Nat) (a1 : Int32) (S : ZS) (x : ((Nat × ZS) ⊕ ZX)) (hf : fX5_needCube a0 a1 S = some x) : zMetT l D z0 yX5_needCube cX5_needCube 3 (some (.object "Bilinearium$Cube")) rmX5_needCube [.ref a0, .int a1] S (x.map (fun y => ((some (.ref y.1)), y.2)) id) :=
  zMetT_of hlt (by decide) (Nat.le_of_ble_eq_true rfl) (fun G h0 hnt hE hEx => wX5_needCube a0 a1 S h0 (fun o => o = some x) (fun h => nomatch h) hnt (fun v S1 h => by cases h; exact hE _ _ rfl) (fun E h hh => by cases hh; exact hEx _ _ rfl)) hf
theorem dX5_isBelow_0 : decode cX5_isBelow 0 = .ok (.iload_n 0, 1) := by decide +kernel
theorem dX5_isBelow_1 : decode cX5_isBelow 1 = .ok (.ifCond .lt 12, 3) := by decide +kernel
theorem dX5_isBelow_4 : decode cX5_isBelow 4 = .ok (.iload_n 0, 1) := by decide +kernel
theorem dX5_isBelow_5 : decode cX5_isBelow 5 = .ok (.iload_n 1, 1) := by decide +kernel
theorem dX5_isBelow_6 : decode cX5_isBelow 6 = .ok (.if_icmp .ge 7, 3) := by decide +kernel
theorem dX5_isBelow_9 : decode cX5_isBelow 9 = .ok (.iconst 1, 1) := by decide +kernel
theorem dX5_isBelow_10 : decode cX5_isBelow 10 = .ok (.goto 4, 3) := by decide +kernel
theorem dX5_isBelow_13 : decode cX5_isBelow 13 = .ok (.iconst 0, 1) := by decide +kernel
theorem dX5_isBelow_14 : decode cX5_isBelow 14 = .ok (.ireturn, 1) := by decide +kernel
abbrev rmX5_isBelow : Room := { frames := 1, cells := 0, slots := 0, locals := 20 }
theorem zyX5_isBelow : zyOK yX5_isBelow 2 := ⟨by decide +kernel, by decide +kernel, by decide +kernel⟩
set_option maxHeartbeats 4000000 in
set_option maxRecDepth 100000 in
theorem wX5_isBelow {G : ZG} (a0 : Int32) (a1 : Int32) (S : ZS) (h0 : zFix G cX5_isBelow RX5 2 (some .boolean) rmX5_isBelow) (C : Option Int32 → Prop) (hC : ¬ C none) (hE : ∀ v : Int32, C (some v) → zEnd G (some (.int v)) S rmX5_isBelow) : zV G 2 S 0 0 0 [(0, .int a0), (1, .int a1)] [] (C (fX5_isBelow a0 a1)) := by
  have J14 : ∀ (s0_14 : Int32), zV G 2 S 0 0 14 [] [.int s0_14] (C (fX5_isBelow_J14 s0_14)) := by
    intro s0_14
    unfold fX5_isBelow_J14
    exact zr_zret C hC h0 rfl dX5_isBelow_14 (fun w h => hE _ h) (by decide) (by decide)
  have J13 : zV G 2 S 0 0 13 [] [] (C (fX5_isBelow_J13)) := by
    unfold fX5_isBelow_J13
    refine zr_iconst (0 : Int32) h0 (by decide) dX5_isBelow_13 (n := 14) rfl ?_
    exact J14 (0 : Int32)
  unfold fX5_isBelow
  refine zr_iload_n h0 dX5_isBelow_0 rfl (n := 1) rfl ?_
  refine zr_if_lt C (tgt := 13) h0 dX5_isBelow_1 (by decide) (n := 4) rfl ?_ ?_
  · refine zv_sub (lv' := []) ?_ (zsub_of [] rfl)
    exact J13
  · refine zr_iload_n h0 dX5_isBelow_4 rfl (n := 5) rfl ?_
    refine zr_iload_n h0 dX5_isBelow_5 rfl (n := 6) rfl ?_
    refine zr_icmp_ge C (tgt := 13) h0 dX5_isBelow_6 (by decide) (n := 9) rfl ?_ ?_
    · refine zv_sub (lv' := []) ?_ (zsub_of [] rfl)
      exact J13
    · refine zv_sub (lv' := []) ?_ (zsub_of [] rfl)
      refine zr_iconst (1 : Int32) h0 (by decide) dX5_isBelow_9 (n := 10) rfl ?_
      refine zr_goto (tgt := 14) h0 dX5_isBelow_10 (by decide) ?_
      exact J14 (1 : Int32)
theorem kX5_isBelow (l : Launch) (D : ZD) (z0 : Nat) (a0 : Int32) (a1 : Int32) (S : ZS) (x : Int32) (hf : fX5_isBelow a0 a1 = some x) : zMet l D z0 yX5_isBelow cX5_isBelow 2 (some .boolean) rmX5_isBelow [.int a0, .int a1] S (some (.int x)) S :=
  zMet_of (by decide) (Nat.le_of_ble_eq_true rfl) (fun G h0 hini hE => wX5_isBelow a0 a1 S h0 (fun o => o = some x) (fun h => nomatch h) (fun v h => by cases h; exact hE)) hf
theorem dX5_needPlace_0 : decode cX5_needPlace 0 = .ok (.iload_n 1, 1) := by decide +kernel
theorem dX5_needPlace_1 : decode cX5_needPlace 1 = .ok (.aload_n 0, 1) := by decide +kernel
theorem dX5_needPlace_2 : decode cX5_needPlace 2 = .ok (.getfield 126, 3) := by decide +kernel
theorem dX5_needPlace_5 : decode cX5_needPlace 5 = .ok (.invokestatic 261, 3) := by decide +kernel
theorem dX5_needPlace_8 : decode cX5_needPlace 8 = .ok (.ifCond .eq 25, 3) := by decide +kernel
theorem dX5_needPlace_11 : decode cX5_needPlace 11 = .ok (.iload_n 2, 1) := by decide +kernel
theorem dX5_needPlace_12 : decode cX5_needPlace 12 = .ok (.aload_n 0, 1) := by decide +kernel
theorem dX5_needPlace_13 : decode cX5_needPlace 13 = .ok (.getfield 129, 3) := by decide +kernel
theorem dX5_needPlace_16 : decode cX5_needPlace 16 = .ok (.invokestatic 261, 3) := by decide +kernel
theorem dX5_needPlace_19 : decode cX5_needPlace 19 = .ok (.ifCond .eq 14, 3) := by decide +kernel
theorem dX5_needPlace_22 : decode cX5_needPlace 22 = .ok (.iload_n 3, 1) := by decide +kernel
theorem dX5_needPlace_23 : decode cX5_needPlace 23 = .ok (.aload_n 0, 1) := by decide +kernel
theorem dX5_needPlace_24 : decode cX5_needPlace 24 = .ok (.getfield 132, 3) := by decide +kernel
theorem dX5_needPlace_27 : decode cX5_needPlace 27 = .ok (.invokestatic 261, 3) := by decide +kernel
theorem dX5_needPlace_30 : decode cX5_needPlace 30 = .ok (.ifCond .ne 14, 3) := by decide +kernel
theorem dX5_needPlace_33 : decode cX5_needPlace 33 = .ok (.new 254, 3) := by decide +kernel
theorem dX5_needPlace_36 : decode cX5_needPlace 36 = .ok (.dup, 1) := by decide +kernel
theorem dX5_needPlace_37 : decode cX5_needPlace 37 = .ok (.ldc_w 265, 3) := by decide +kernel
theorem dX5_needPlace_40 : decode cX5_needPlace 40 = .ok (.invokespecial 258, 3) := by decide +kernel
theorem dX5_needPlace_43 : decode cX5_needPlace 43 = .ok (.athrow, 1) := by decide +kernel
theorem dX5_needPlace_44 : decode cX5_needPlace 44 = .ok (.return_, 1) := by decide +kernel
abbrev rmX5_needPlace : Room := { frames := 6, cells := 1, slots := 6, locals := 90 }
theorem zyX5_needPlace : zyOK yX5_needPlace 4 := ⟨by decide +kernel, by decide +kernel, by decide +kernel⟩
set_option maxHeartbeats 4000000 in
set_option maxRecDepth 100000 in
theorem wX5_needPlace {G : ZG} (a0 : Nat) (a1 : Int32) (a2 : Int32) (a3 : Int32) (S : ZS) (h0 : zFix G cX5_needPlace RX5 4 none rmX5_needPlace) (C : Option ((Unit × ZS) ⊕ ZX) → Prop) (hC : ¬ C none) (hnt : zNoTab G) (hE : ∀ (v : Unit) (S1 : ZS), C (some (.inl (v, S1))) → zEndT G none S1 rmX5_needPlace) (hEx : ∀ (E : String) (h : ZH), C (some (.inr (E, h))) → zEndX G E h rmX5_needPlace) : zV G 4 S 0 0 0 [(0, .ref a0), (1, .int a1), (2, .int a2), (3, .int a3)] [] (C (fX5_needPlace a0 a1 a2 a3 S)) := by
  have J33 : ∀  (S_33 : ZS), zV G 4 S_33 0 0 33 [] [] (C (fX5_needPlace_J33 S_33)) := by
    intro  S_33
    unfold fX5_needPlace_J33
    exact zr_throwW h0 hnt (cls := "java/lang/IndexOutOfBoundsException") (text := "there is no such place") (names := ["java/lang/RuntimeException", "java/lang/Exception"]) (by decide +kernel) zfitN zw_300 zw_11 (by decide +kernel) (by decide +kernel) zat_X5_258 zbad_X5_258 zgd_X5_258 dX5_needPlace_33 dX5_needPlace_36 dX5_needPlace_37 dX5_needPlace_40 dX5_needPlace_43 (by decide) (Nat.le_of_ble_eq_true rfl) (by decide) (by decide) (fun h => hEx _ _ h)
  unfold fX5_needPlace
  refine zr_iload_n h0 dX5_needPlace_0 rfl (n := 1) rfl ?_
  refine zr_aload_n h0 dX5_needPlace_1 rfl (n := 2) rfl ?_
  refine zr_getI C hC h0 zcX0 (k := 0) (by decide) zw_230 dX5_needPlace_2 (n := 5) rfl (fun v1 => ?_)
  refine zr_cRI C hC 0 0 (fun x hx => zk_S h0 (fun l D z0 => kX5_isBelow l D z0 a1 v1 S x hx) zw_319 zw_320 zw_1 zw_321 zyX5_isBelow (As := [.int a1, .int v1]) (st := []) rfl (by decide) rfl (Nat.le_of_ble_eq_true rfl) (by decide) dX5_needPlace_5) rfl rfl (n := 8) rfl (fun x2 => ?_)
  refine zr_if_eq C (tgt := 33) h0 dX5_needPlace_8 (by decide) (n := 11) rfl ?_ ?_
  · refine zv_sub (lv' := []) ?_ (zsub_of [] rfl)
    exact J33 S
  · refine zv_sub (lv' := [(0, .ref a0), (2, .int a2), (3, .int a3)]) ?_ (zsub_of [0, 2, 3] rfl)
    refine zr_iload_n h0 dX5_needPlace_11 rfl (n := 12) rfl ?_
    refine zr_aload_n h0 dX5_needPlace_12 rfl (n := 13) rfl ?_
    refine zr_getI C hC h0 zcX0 (k := 1) (by decide) zw_234 dX5_needPlace_13 (n := 16) rfl (fun v3 => ?_)
    refine zr_cRI C hC 0 0 (fun x hx => zk_S h0 (fun l D z0 => kX5_isBelow l D z0 a2 v3 S x hx) zw_319 zw_320 zw_1 zw_321 zyX5_isBelow (As := [.int a2, .int v3]) (st := []) rfl (by decide) rfl (Nat.le_of_ble_eq_true rfl) (by decide) dX5_needPlace_16) rfl rfl (n := 19) rfl (fun x4 => ?_)
    refine zr_if_eq C (tgt := 33) h0 dX5_needPlace_19 (by decide) (n := 22) rfl ?_ ?_
    · refine zv_sub (lv' := []) ?_ (zsub_of [] rfl)
      exact J33 S
    · refine zv_sub (lv' := [(0, .ref a0), (3, .int a3)]) ?_ (zsub_of [0, 2] rfl)
      refine zr_iload_n h0 dX5_needPlace_22 rfl (n := 23) rfl ?_
      refine zr_aload_n h0 dX5_needPlace_23 rfl (n := 24) rfl ?_
      refine zr_getI C hC h0 zcX0 (k := 2) (by decide) zw_238 dX5_needPlace_24 (n := 27) rfl (fun v5 => ?_)
      refine zr_cRI C hC 0 0 (fun x hx => zk_S h0 (fun l D z0 => kX5_isBelow l D z0 a3 v5 S x hx) zw_319 zw_320 zw_1 zw_321 zyX5_isBelow (As := [.int a3, .int v5]) (st := []) rfl (by decide) rfl (Nat.le_of_ble_eq_true rfl) (by decide) dX5_needPlace_27) rfl rfl (n := 30) rfl (fun x6 => ?_)
      refine zr_if_ne C (tgt := 44) h0 dX5_needPlace_30 (by decide) (n := 33) rfl ?_ ?_
      · refine zv_sub (lv' := []) ?_ (zsub_of [] rfl)
        exact J33 S
      · refine zv_sub (lv' := []) ?_ (zsub_of [] rfl)
        exact zr_vretT h0 rfl dX5_needPlace_44 (fun h => hE _ _ h) (by decide) (by decide)
theorem kX5_needPlace (l : Launch) (D : ZD) (z0 : Nat) (hlt : l.stackTraces = false) (a0 : Nat) (a1 : Int32) (a2 : Int32) (a3 : Int32) (S : ZS) (x : ((Unit × ZS) ⊕ ZX)) (hf : fX5_needPlace a0 a1 a2 a3 S = some x) : zMetT l D z0 yX5_needPlace cX5_needPlace 4 none rmX5_needPlace [.ref a0, .int a1, .int a2, .int a3] S (x.map (fun y => (none, y.2)) id) :=
  zMetT_of hlt (by decide) (Nat.le_of_ble_eq_true rfl) (fun G h0 hnt hE hEx => wX5_needPlace a0 a1 a2 a3 S h0 (fun o => o = some x) (fun h => nomatch h) hnt (fun v S1 h => by cases h; exact hE _ _ rfl) (fun E h hh => by cases hh; exact hEx _ _ rfl)) hf
theorem dX5_get_0 : decode cX5_get 0 = .ok (.aload_n 0, 1) := by decide +kernel
theorem dX5_get_1 : decode cX5_get 1 = .ok (.ifnull 19, 3) := by decide +kernel
theorem dX5_get_4 : decode cX5_get 4 = .ok (.iload_n 1, 1) := by decide +kernel
theorem dX5_get_5 : decode cX5_get 5 = .ok (.ifCond .lt 15, 3) := by decide +kernel
theorem dX5_get_8 : decode cX5_get 8 = .ok (.iload_n 1, 1) := by decide +kernel
theorem dX5_get_9 : decode cX5_get 9 = .ok (.aload_n 0, 1) := by decide +kernel
theorem dX5_get_10 : decode cX5_get 10 = .ok (.arraylength, 1) := by decide +kernel
theorem dX5_get_11 : decode cX5_get 11 = .ok (.if_icmp .ge 9, 3) := by decide +kernel
theorem dX5_get_14 : decode cX5_get 14 = .ok (.aload_n 0, 1) := by decide +kernel
theorem dX5_get_15 : decode cX5_get 15 = .ok (.iload_n 1, 1) := by decide +kernel
theorem dX5_get_16 : decode cX5_get 16 = .ok (.iaload, 1) := by decide +kernel
theorem dX5_get_17 : decode cX5_get 17 = .ok (.goto 4, 3) := by decide +kernel
theorem dX5_get_20 : decode cX5_get 20 = .ok (.iconst 0, 1) := by decide +kernel
theorem dX5_get_21 : decode cX5_get 21 = .ok (.ireturn, 1) := by decide +kernel
abbrev rmX5_get : Room := { frames := 1, cells := 0, slots := 0, locals := 20 }
theorem zyX5_get : zyOK yX5_get 2 := ⟨by decide +kernel, by decide +kernel, by decide +kernel⟩
set_option maxHeartbeats 4000000 in
set_option maxRecDepth 100000 in
theorem wX5_get {G : ZG} (a0 : Nat) (a1 : Int32) (S : ZS) (h0 : zFix G cX5_get RX5 2 (some .int) rmX5_get) (C : Option Int32 → Prop) (hC : ¬ C none) (hE : ∀ v : Int32, C (some v) → zEnd G (some (.int v)) S rmX5_get) : zV G 2 S 0 0 0 [(0, .ref a0), (1, .int a1)] [] (C (fX5_get a0 a1 S)) := by
  have J21 : ∀ (s0_21 : Int32), zV G 2 S 0 0 21 [] [.int s0_21] (C (fX5_get_J21 s0_21 S)) := by
    intro s0_21
    unfold fX5_get_J21
    exact zr_iret h0 rfl dX5_get_21 (hE _) (by decide) (by decide)
  have J20 : zV G 2 S 0 0 20 [] [] (C (fX5_get_J20 S)) := by
    unfold fX5_get_J20
    refine zr_iconst (0 : Int32) h0 (by decide) dX5_get_20 (n := 21) rfl ?_
    exact J21 (0 : Int32)
  unfold fX5_get
  refine zr_aload_n h0 dX5_get_0 rfl (n := 1) rfl ?_
  refine zr_nullR h0 dX5_get_1 (n := 4) rfl ?_
  refine zr_iload_n h0 dX5_get_4 rfl (n := 5) rfl ?_
  refine zr_if_lt C (tgt := 20) h0 dX5_get_5 (by decide) (n := 8) rfl ?_ ?_
  · refine zv_sub (lv' := []) ?_ (zsub_of [] rfl)
    exact J20
  · refine zr_iload_n h0 dX5_get_8 rfl (n := 9) rfl ?_
    refine zr_aload_n h0 dX5_get_9 rfl (n := 10) rfl ?_
    refine zr_alen C hC h0 dX5_get_10 (n := 11) rfl (fun v1 => ?_)
    refine zr_icmp_ge C (tgt := 20) h0 dX5_get_11 (by decide) (n := 14) rfl ?_ ?_
    · refine zv_sub (lv' := []) ?_ (zsub_of [] rfl)
      exact J20
    · refine zr_aload_n h0 dX5_get_14 rfl (n := 15) rfl ?_
      refine zr_iload_n h0 dX5_get_15 rfl (n := 16) rfl ?_
      refine zr_iaload C hC h0 dX5_get_16 (n := 17) rfl (fun v2 => ?_)
      refine zr_goto (tgt := 21) h0 dX5_get_17 (by decide) ?_
      refine zv_sub (lv' := []) ?_ (zsub_of [] rfl)
      exact J21 v2
theorem kX5_get (l : Launch) (D : ZD) (z0 : Nat) (a0 : Nat) (a1 : Int32) (S : ZS) (x : Int32) (hf : fX5_get a0 a1 S = some x) : zMet l D z0 yX5_get cX5_get 2 (some .int) rmX5_get [.ref a0, .int a1] S (some (.int x)) S :=
  zMet_of (by decide) (Nat.le_of_ble_eq_true rfl) (fun G h0 hini hE => wX5_get a0 a1 S h0 (fun o => o = some x) (fun h => nomatch h) (fun v h => by cases h; exact hE)) hf
theorem dX0_numberAt_0 : decode cX0_numberAt 0 = .ok (.aload_n 0, 1) := by decide +kernel
theorem dX0_numberAt_1 : decode cX0_numberAt 1 = .ok (.getfield 21, 3) := by decide +kernel
theorem dX0_numberAt_4 : decode cX0_numberAt 4 = .ok (.iload_n 1, 1) := by decide +kernel
theorem dX0_numberAt_5 : decode cX0_numberAt 5 = .ok (.iload_n 2, 1) := by decide +kernel
theorem dX0_numberAt_6 : decode cX0_numberAt 6 = .ok (.iload_n 3, 1) := by decide +kernel
theorem dX0_numberAt_7 : decode cX0_numberAt 7 = .ok (.invokestatic 39, 3) := by decide +kernel
theorem dX0_numberAt_10 : decode cX0_numberAt 10 = .ok (.invokestatic 31, 3) := by decide +kernel
theorem dX0_numberAt_13 : decode cX0_numberAt 13 = .ok (.ireturn, 1) := by decide +kernel
abbrev rmX0_numberAt : Room := { frames := 2, cells := 0, slots := 0, locals := 42 }
theorem zyX0_numberAt : zyOK yX0_numberAt 3 := ⟨by decide +kernel, by decide +kernel, by decide +kernel⟩
set_option maxHeartbeats 4000000 in
set_option maxRecDepth 100000 in
theorem wX0_numberAt {G : ZG} (a0 : Nat) (a1 : Int32) (a2 : Int32) (a3 : Int32) (S : ZS) (h0 : zFix G cX0_numberAt RX0 4 (some .int) rmX0_numberAt) (C : Option Int32 → Prop) (hC : ¬ C none) (hE : ∀ v : Int32, C (some v) → zEnd G (some (.int v)) S rmX0_numberAt) : zV G 4 S 0 0 0 [(0, .ref a0), (1, .int a1), (2, .int a2), (3, .int a3)] [] (C (fX0_numberAt a0 a1 a2 a3 S)) := by
  unfold fX0_numberAt
  refine zr_aload_n h0 dX0_numberAt_0 rfl (n := 1) rfl ?_
  refine zr_getR C hC h0 zcX0 (k := 3) (by decide) zw_239 dX0_numberAt_1 (n := 4) rfl (fun v1 => ?_)
  refine zr_iload_n h0 dX0_numberAt_4 rfl (n := 5) rfl ?_
  refine zr_iload_n h0 dX0_numberAt_5 rfl (n := 6) rfl ?_
  refine zr_iload_n h0 dX0_numberAt_6 rfl (n := 7) rfl ?_
  refine zr_cRI C hC 0 0 (fun x hx => zk_S h0 (fun l D z0 => kX0_indexOf l D z0 a1 a2 a3 S x hx) zw_265 zw_266 zw_10 zw_267 zyX0_indexOf (As := [.int a1, .int a2, .int a3]) (st := [.ref v1]) rfl (by decide) rfl (Nat.le_of_ble_eq_true rfl) (by decide) dX0_numberAt_7) rfl rfl (n := 10) rfl (fun x2 => ?_)
  refine zr_cRI C hC 0 0 (fun x hx => zk_SN (host := "Bilinearium") h0 (fun l D z0 => kX5_get l D z0 v1 x2 S x hx) (by decide +kernel) zw_329 zw_1 zw_330 zyX5_get (As := [.ref v1, .int x2]) (st := []) rfl (by decide) rfl (Nat.le_of_ble_eq_true rfl) (by decide) dX0_numberAt_10) rfl rfl (n := 13) rfl (fun x3 => ?_)
  exact zr_iret h0 rfl dX0_numberAt_13 (hE _) (by decide) (by decide)
theorem kX0_numberAt (l : Launch) (D : ZD) (z0 : Nat) (a0 : Nat) (a1 : Int32) (a2 : Int32) (a3 : Int32) (S : ZS) (x : Int32) (hf : fX0_numberAt a0 a1 a2 a3 S = some x) : zMet l D z0 yX0_numberAt cX0_numberAt 4 (some .int) rmX0_numberAt [.ref a0, .int a1, .int a2, .int a3] S (some (.int x)) S :=
  zMet_of (by decide) (Nat.le_of_ble_eq_true rfl) (fun G h0 hini hE => wX0_numberAt a0 a1 a2 a3 S h0 (fun o => o = some x) (fun h => nomatch h) (fun v h => by cases h; exact hE)) hf
theorem dX5_set_0 : decode cX5_set 0 = .ok (.aload_n 0, 1) := by decide +kernel
theorem dX5_set_1 : decode cX5_set 1 = .ok (.iload_n 1, 1) := by decide +kernel
theorem dX5_set_2 : decode cX5_set 2 = .ok (.invokevirtual 87, 3) := by decide +kernel
theorem dX5_set_5 : decode cX5_set 5 = .ok (.astore 6, 2) := by decide +kernel
theorem dX5_set_7 : decode cX5_set 7 = .ok (.aload 6, 2) := by decide +kernel
theorem dX5_set_9 : decode cX5_set 9 = .ok (.iload_n 2, 1) := by decide +kernel
theorem dX5_set_10 : decode cX5_set 10 = .ok (.iload_n 3, 1) := by decide +kernel
theorem dX5_set_11 : decode cX5_set 11 = .ok (.iload 4, 2) := by decide +kernel
theorem dX5_set_13 : decode cX5_set 13 = .ok (.invokestatic 91, 3) := by decide +kernel
theorem dX5_set_16 : decode cX5_set 16 = .ok (.iload 5, 2) := by decide +kernel
theorem dX5_set_18 : decode cX5_set 18 = .ok (.ifCond .lt 12, 3) := by decide +kernel
theorem dX5_set_21 : decode cX5_set 21 = .ok (.iload 5, 2) := by decide +kernel
theorem dX5_set_23 : decode cX5_set 23 = .ok (.aload_n 0, 1) := by decide +kernel
theorem dX5_set_24 : decode cX5_set 24 = .ok (.getfield 46, 3) := by decide +kernel
theorem dX5_set_27 : decode cX5_set 27 = .ok (.if_icmp .lt 13, 3) := by decide +kernel
theorem dX5_set_30 : decode cX5_set 30 = .ok (.new 56, 3) := by decide +kernel
theorem dX5_set_33 : decode cX5_set 33 = .ok (.dup, 1) := by decide +kernel
theorem dX5_set_34 : decode cX5_set 34 = .ok (.ldc 95, 2) := by decide +kernel
theorem dX5_set_36 : decode cX5_set 36 = .ok (.invokespecial 60, 3) := by decide +kernel
theorem dX5_set_39 : decode cX5_set 39 = .ok (.athrow, 1) := by decide +kernel
theorem dX5_set_40 : decode cX5_set 40 = .ok (.aload 6, 2) := by decide +kernel
theorem dX5_set_42 : decode cX5_set 42 = .ok (.iload_n 2, 1) := by decide +kernel
theorem dX5_set_43 : decode cX5_set 43 = .ok (.iload_n 3, 1) := by decide +kernel
theorem dX5_set_44 : decode cX5_set 44 = .ok (.iload 4, 2) := by decide +kernel
theorem dX5_set_46 : decode cX5_set 46 = .ok (.invokevirtual 97, 3) := by decide +kernel
theorem dX5_set_49 : decode cX5_set 49 = .ok (.istore 7, 2) := by decide +kernel
theorem dX5_set_51 : decode cX5_set 51 = .ok (.aload 6, 2) := by decide +kernel
theorem dX5_set_53 : decode cX5_set 53 = .ok (.iload_n 2, 1) := by decide +kernel
theorem dX5_set_54 : decode cX5_set 54 = .ok (.iload_n 3, 1) := by decide +kernel
theorem dX5_set_55 : decode cX5_set 55 = .ok (.iload 4, 2) := by decide +kernel
theorem dX5_set_57 : decode cX5_set 57 = .ok (.iload 5, 2) := by decide +kernel
theorem dX5_set_59 : decode cX5_set 59 = .ok (.invokevirtual 76, 3) := by decide +kernel
theorem dX5_set_62 : decode cX5_set 62 = .ok (.aload 6, 2) := by decide +kernel
theorem dX5_set_64 : decode cX5_set 64 = .ok (.iconst 0, 1) := by decide +kernel
theorem dX5_set_65 : decode cX5_set 65 = .ok (.putfield 80, 3) := by decide +kernel
theorem dX5_set_68 : decode cX5_set 68 = .ok (.iload 7, 2) := by decide +kernel
theorem dX5_set_70 : decode cX5_set 70 = .ok (.ireturn, 1) := by decide +kernel
abbrev rmX5_set : Room := { frames := 7, cells := 3, slots := 18, locals := 113 }
theorem zyX5_set : zyOK yX5_set 5 := ⟨by decide +kernel, by decide +kernel, by decide +kernel⟩
set_option maxHeartbeats 4000000 in
set_option maxRecDepth 100000 in
theorem wX5_set {G : ZG} (a0 : Nat) (a1 : Int32) (a2 : Int32) (a3 : Int32) (a4 : Int32) (a5 : Int32) (S : ZS) (h0 : zFix G cX5_set RX5 8 (some .int) rmX5_set) (C : Option ((Int32 × ZS) ⊕ ZX) → Prop) (hC : ¬ C none) (hnt : zNoTab G) (hE : ∀ (v : Int32) (S1 : ZS), C (some (.inl (v, S1))) → zEndT G (some (.int v)) S1 rmX5_set) (hEx : ∀ (E : String) (h : ZH), C (some (.inr (E, h))) → zEndX G E h rmX5_set) : zV G 8 S 0 0 0 [(0, .ref a0), (1, .int a1), (2, .int a2), (3, .int a3), (4, .int a4), (5, .int a5)] [] (C (fX5_set a0 a1 a2 a3 a4 a5 S)) := by
  have J30 : ∀  (S_30 : ZS), zV G 8 S_30 2 12 30 [] [] (C (fX5_set_J30 S_30)) := by
    intro  S_30
    unfold fX5_set_J30
    exact zr_throw h0 hnt (cls := "java/lang/IllegalArgumentException") (text := "the number is no remainder by the prime") (names := ["java/lang/RuntimeException", "java/lang/Exception"]) (by decide +kernel) zfitN zw_118 zw_8 (by decide +kernel) (by decide +kernel) zat_X5_60 zbad_X5_60 zgd_X5_60 dX5_set_30 dX5_set_33 dX5_set_34 dX5_set_36 dX5_set_39 (by decide) (Nat.le_of_ble_eq_true rfl) (by decide) (by decide) (fun h => hEx _ _ h)
  unfold fX5_set
  refine zr_aload_n h0 dX5_set_0 rfl (n := 1) rfl ?_
  refine zr_iload_n h0 dX5_set_1 rfl (n := 2) rfl ?_
  refine zr_cTR C hC 1 6 h0 (fun x hx => zk_VT h0 zcX5 (zcl_ex hx) (fun l D z0 hlt => kX5_needCube l D z0 hlt a0 a1 S x (zcl_of hx)) hnt zw_296 zw_298 zs_2 zw_1 zw_299 rfl zyX5_needCube (As := [.int a1]) (st := []) rfl (by decide) rfl (Nat.le_of_ble_eq_true rfl) (by decide) dX5_set_2) hnt rfl rfl (by decide) (by decide) (n := 5) rfl (fun z h => hEx _ _ h) (fun x1 => ?_)
  refine zr_astore [(0, .ref a0), (1, .int a1), (2, .int a2), (3, .int a3), (4, .int a4), (5, .int a5), (6, .ref x1.1)] h0 dX5_set_5 (by decide) rfl (n := 7) rfl ?_
  refine zr_aload h0 dX5_set_7 rfl (n := 9) rfl ?_
  refine zr_iload_n h0 dX5_set_9 rfl (n := 10) rfl ?_
  refine zr_iload_n h0 dX5_set_10 rfl (n := 11) rfl ?_
  refine zr_iload h0 dX5_set_11 rfl (n := 13) rfl ?_
  refine zr_cTV C hC 2 12 h0 (fun x hx => zk_ST h0 (fun l D z0 hlt => kX5_needPlace l D z0 hlt x1.1 a2 a3 a4 x1.2 x hx) hnt zw_316 zw_317 zw_1 zw_318 zyX5_needPlace (As := [.ref x1.1, .int a2, .int a3, .int a4]) (st := []) rfl (by decide) rfl (Nat.le_of_ble_eq_true rfl) (by decide) dX5_set_13) hnt rfl rfl (by decide) (by decide) (n := 16) rfl (fun z h => hEx _ _ h) (fun x2 => ?_)
  refine zr_iload h0 dX5_set_16 rfl (n := 18) rfl ?_
  refine zr_if_lt C (tgt := 30) h0 dX5_set_18 (by decide) (n := 21) rfl ?_ ?_
  · refine zv_sub (lv' := []) ?_ (zsub_of [] rfl)
    exact J30 x2.2
  · refine zv_sub (lv' := [(0, .ref a0), (2, .int a2), (3, .int a3), (4, .int a4), (5, .int a5), (6, .ref x1.1)]) ?_ (zsub_of [0, 2, 3, 4, 5, 6] rfl)
    refine zr_iload h0 dX5_set_21 rfl (n := 23) rfl ?_
    refine zr_aload_n h0 dX5_set_23 rfl (n := 24) rfl ?_
    refine zr_getI C hC h0 zcX5 (k := 6) (by decide) zw_80 dX5_set_24 (n := 27) rfl (fun v3 => ?_)
    refine zr_icmp_lt C (tgt := 40) h0 dX5_set_27 (by decide) (n := 30) rfl ?_ ?_
    · refine zv_sub (lv' := [(2, .int a2), (3, .int a3), (4, .int a4), (5, .int a5), (6, .ref x1.1)]) ?_ (zsub_of [1, 2, 3, 4, 5] rfl)
      refine zr_aload h0 dX5_set_40 rfl (n := 42) rfl ?_
      refine zr_iload_n h0 dX5_set_42 rfl (n := 43) rfl ?_
      refine zr_iload_n h0 dX5_set_43 rfl (n := 44) rfl ?_
      refine zr_iload h0 dX5_set_44 rfl (n := 46) rfl ?_
      refine zr_cRI C hC 2 12 (fun x hx => zk_V h0 zcX0 (zcl_ex hx) (fun l D z0 => kX0_numberAt l D z0 x1.1 a2 a3 a4 x2.2 x (zcl_of hx)) zw_324 zw_325 zw_326 zw_10 zw_327 rfl zyX0_numberAt (As := [.int a2, .int a3, .int a4]) (st := []) rfl (by decide) rfl (Nat.le_of_ble_eq_true rfl) (by decide) dX5_set_46) rfl rfl (n := 49) rfl (fun x4 => ?_)
      refine zr_istore [(2, .int a2), (3, .int a3), (4, .int a4), (5, .int a5), (6, .ref x1.1), (7, .int x4)] h0 dX5_set_49 (by decide) rfl (n := 51) rfl ?_
      refine zr_aload h0 dX5_set_51 rfl (n := 53) rfl ?_
      refine zr_iload_n h0 dX5_set_53 rfl (n := 54) rfl ?_
      refine zr_iload_n h0 dX5_set_54 rfl (n := 55) rfl ?_
      refine zr_iload h0 dX5_set_55 rfl (n := 57) rfl ?_
      refine zr_iload h0 dX5_set_57 rfl (n := 59) rfl ?_
      refine zr_cMV C hC 2 12 (fun x hx => zk_V h0 zcX0 (zcl_ex hx) (fun l D z0 => kX0_enter l D z0 x1.1 a2 a3 a4 a5 x2.2 x (zcl_of hx)) zw_261 zw_262 zw_263 zw_10 zw_264 rfl zyX0_enter (As := [.int a2, .int a3, .int a4, .int a5]) (st := []) rfl (by decide) rfl (Nat.le_of_ble_eq_true rfl) (by decide) dX5_set_59) rfl rfl (n := 62) rfl (fun x5 => ?_)
      refine zr_aload h0 dX5_set_62 rfl (n := 64) rfl ?_
      refine zr_iconst (0 : Int32) h0 (by decide) dX5_set_64 (n := 65) rfl ?_
      refine zr_putF C hC h0 zcX0 (k := 4) (by decide) zw_242 rfl rfl rfl dX5_set_65 (n := 68) rfl (fun S6 => ?_)
      refine zr_iload h0 dX5_set_68 rfl (n := 70) rfl ?_
      exact zr_iretT h0 rfl dX5_set_70 (hE _ _) (by decide) (by decide)
    · refine zv_sub (lv' := []) ?_ (zsub_of [] rfl)
      exact J30 x2.2
theorem kX5_set (l : Launch) (D : ZD) (z0 : Nat) (hlt : l.stackTraces = false) (a0 : Nat) (a1 : Int32) (a2 : Int32) (a3 : Int32) (a4 : Int32) (a5 : Int32) (S : ZS) (x : ((Int32 × ZS) ⊕ ZX)) (hf : fX5_set a0 a1 a2 a3 a4 a5 S = some x) : zMetT l D z0 yX5_set cX5_set 8 (some .int) rmX5_set [.ref a0, .int a1, .int a2, .int a3, .int a4, .int a5] S (x.map (fun y => ((some (.int y.1)), y.2)) id) :=
  zMetT_of hlt (by decide) (Nat.le_of_ble_eq_true rfl) (fun G h0 hnt hE hEx => wX5_set a0 a1 a2 a3 a4 a5 S h0 (fun o => o = some x) (fun h => nomatch h) hnt (fun v S1 h => by cases h; exact hE _ _ rfl) (fun E h hh => by cases hh; exact hEx _ _ rfl)) hf
theorem dX5_needSide_0 : decode cX5_needSide 0 = .ok (.iload_n 0, 1) := by decide +kernel
theorem dX5_needSide_1 : decode cX5_needSide 1 = .ok (.iconst 3, 1) := by decide +kernel
theorem dX5_needSide_2 : decode cX5_needSide 2 = .ok (.invokestatic 261, 3) := by decide +kernel
theorem dX5_needSide_5 : decode cX5_needSide 5 = .ok (.ifCond .ne 14, 3) := by decide +kernel
theorem dX5_needSide_8 : decode cX5_needSide 8 = .ok (.new 254, 3) := by decide +kernel
theorem dX5_needSide_11 : decode cX5_needSide 11 = .ok (.dup, 1) := by decide +kernel
theorem dX5_needSide_12 : decode cX5_needSide 12 = .ok (.ldc_w 267, 3) := by decide +kernel
theorem dX5_needSide_15 : decode cX5_needSide 15 = .ok (.invokespecial 258, 3) := by decide +kernel
theorem dX5_needSide_18 : decode cX5_needSide 18 = .ok (.athrow, 1) := by decide +kernel
theorem dX5_needSide_19 : decode cX5_needSide 19 = .ok (.return_, 1) := by decide +kernel
abbrev rmX5_needSide : Room := { frames := 6, cells := 1, slots := 6, locals := 90 }
theorem zyX5_needSide : zyOK yX5_needSide 1 := ⟨by decide +kernel, by decide +kernel, by decide +kernel⟩
set_option maxHeartbeats 4000000 in
set_option maxRecDepth 100000 in
theorem wX5_needSide {G : ZG} (a0 : Int32) (S : ZS) (h0 : zFix G cX5_needSide RX5 1 none rmX5_needSide) (C : Option ((Unit × ZS) ⊕ ZX) → Prop) (hC : ¬ C none) (hnt : zNoTab G) (hE : ∀ (v : Unit) (S1 : ZS), C (some (.inl (v, S1))) → zEndT G none S1 rmX5_needSide) (hEx : ∀ (E : String) (h : ZH), C (some (.inr (E, h))) → zEndX G E h rmX5_needSide) : zV G 1 S 0 0 0 [(0, .int a0)] [] (C (fX5_needSide a0 S)) := by
  unfold fX5_needSide
  refine zr_iload_n h0 dX5_needSide_0 rfl (n := 1) rfl ?_
  refine zr_iconst (3 : Int32) h0 (by decide) dX5_needSide_1 (n := 2) rfl ?_
  refine zr_cRI C hC 0 0 (fun x hx => zk_S h0 (fun l D z0 => kX5_isBelow l D z0 a0 (3 : Int32) S x hx) zw_319 zw_320 zw_1 zw_321 zyX5_isBelow (As := [.int a0, .int (3 : Int32)]) (st := []) rfl (by decide) rfl (Nat.le_of_ble_eq_true rfl) (by decide) dX5_needSide_2) rfl rfl (n := 5) rfl (fun x1 => ?_)
  refine zr_if_ne C (tgt := 19) h0 dX5_needSide_5 (by decide) (n := 8) rfl ?_ ?_
  · refine zv_sub (lv' := []) ?_ (zsub_of [] rfl)
    exact zr_throwW h0 hnt (cls := "java/lang/IndexOutOfBoundsException") (text := "there is no such side") (names := ["java/lang/RuntimeException", "java/lang/Exception"]) (by decide +kernel) zfitN zw_300 zw_11 (by decide +kernel) (by decide +kernel) zat_X5_258 zbad_X5_258 zgd_X5_258 dX5_needSide_8 dX5_needSide_11 dX5_needSide_12 dX5_needSide_15 dX5_needSide_18 (by decide) (Nat.le_of_ble_eq_true rfl) (by decide) (by decide) (fun h => hEx _ _ h)
  · refine zv_sub (lv' := []) ?_ (zsub_of [] rfl)
    exact zr_vretT h0 rfl dX5_needSide_19 (fun h => hE _ _ h) (by decide) (by decide)
theorem kX5_needSide (l : Launch) (D : ZD) (z0 : Nat) (hlt : l.stackTraces = false) (a0 : Int32) (S : ZS) (x : ((Unit × ZS) ⊕ ZX)) (hf : fX5_needSide a0 S = some x) : zMetT l D z0 yX5_needSide cX5_needSide 1 none rmX5_needSide [.int a0] S (x.map (fun y => (none, y.2)) id) :=
  zMetT_of hlt (by decide) (Nat.le_of_ble_eq_true rfl) (fun G h0 hnt hE hEx => wX5_needSide a0 S h0 (fun o => o = some x) (fun h => nomatch h) hnt (fun v S1 h => by cases h; exact hE _ _ rfl) (fun E h hh => by cases hh; exact hEx _ _ rfl)) hf
theorem dX0_sizeOf_0 : decode cX0_sizeOf 0 = .ok (.iload_n 1, 1) := by decide +kernel
theorem dX0_sizeOf_1 : decode cX0_sizeOf 1 = .ok (.ifCond .ne 10, 3) := by decide +kernel
theorem dX0_sizeOf_4 : decode cX0_sizeOf 4 = .ok (.aload_n 0, 1) := by decide +kernel
theorem dX0_sizeOf_5 : decode cX0_sizeOf 5 = .ok (.getfield 9, 3) := by decide +kernel
theorem dX0_sizeOf_8 : decode cX0_sizeOf 8 = .ok (.goto 19, 3) := by decide +kernel
theorem dX0_sizeOf_11 : decode cX0_sizeOf 11 = .ok (.iload_n 1, 1) := by decide +kernel
theorem dX0_sizeOf_12 : decode cX0_sizeOf 12 = .ok (.iconst 1, 1) := by decide +kernel
theorem dX0_sizeOf_13 : decode cX0_sizeOf 13 = .ok (.if_icmp .ne 10, 3) := by decide +kernel
theorem dX0_sizeOf_16 : decode cX0_sizeOf 16 = .ok (.aload_n 0, 1) := by decide +kernel
theorem dX0_sizeOf_17 : decode cX0_sizeOf 17 = .ok (.getfield 15, 3) := by decide +kernel
theorem dX0_sizeOf_20 : decode cX0_sizeOf 20 = .ok (.goto 7, 3) := by decide +kernel
theorem dX0_sizeOf_23 : decode cX0_sizeOf 23 = .ok (.aload_n 0, 1) := by decide +kernel
theorem dX0_sizeOf_24 : decode cX0_sizeOf 24 = .ok (.getfield 18, 3) := by decide +kernel
theorem dX0_sizeOf_27 : decode cX0_sizeOf 27 = .ok (.ireturn, 1) := by decide +kernel
abbrev rmX0_sizeOf : Room := { frames := 1, cells := 0, slots := 0, locals := 20 }
theorem zyX0_sizeOf : zyOK yX0_sizeOf 1 := ⟨by decide +kernel, by decide +kernel, by decide +kernel⟩
set_option maxHeartbeats 4000000 in
set_option maxRecDepth 100000 in
theorem wX0_sizeOf {G : ZG} (a0 : Nat) (a1 : Int32) (S : ZS) (h0 : zFix G cX0_sizeOf RX0 2 (some .int) rmX0_sizeOf) (C : Option Int32 → Prop) (hC : ¬ C none) (hE : ∀ v : Int32, C (some v) → zEnd G (some (.int v)) S rmX0_sizeOf) : zV G 2 S 0 0 0 [(0, .ref a0), (1, .int a1)] [] (C (fX0_sizeOf a0 a1 S)) := by
  have J27 : ∀ (s0_27 : Int32), zV G 2 S 0 0 27 [] [.int s0_27] (C (fX0_sizeOf_J27 s0_27 S)) := by
    intro s0_27
    unfold fX0_sizeOf_J27
    exact zr_iret h0 rfl dX0_sizeOf_27 (hE _) (by decide) (by decide)
  unfold fX0_sizeOf
  refine zr_iload_n h0 dX0_sizeOf_0 rfl (n := 1) rfl ?_
  refine zr_if_ne C (tgt := 11) h0 dX0_sizeOf_1 (by decide) (n := 4) rfl ?_ ?_
  · refine zv_sub (lv' := [(0, .ref a0)]) ?_ (zsub_of [0] rfl)
    refine zr_aload_n h0 dX0_sizeOf_4 rfl (n := 5) rfl ?_
    refine zr_getI C hC h0 zcX0 (k := 0) (by decide) zw_227 dX0_sizeOf_5 (n := 8) rfl (fun v1 => ?_)
    refine zr_goto (tgt := 27) h0 dX0_sizeOf_8 (by decide) ?_
    refine zv_sub (lv' := []) ?_ (zsub_of [] rfl)
    exact J27 v1
  · refine zr_iload_n h0 dX0_sizeOf_11 rfl (n := 12) rfl ?_
    refine zr_iconst (1 : Int32) h0 (by decide) dX0_sizeOf_12 (n := 13) rfl ?_
    refine zr_icmp_ne C (tgt := 23) h0 dX0_sizeOf_13 (by decide) (n := 16) rfl ?_ ?_
    · refine zv_sub (lv' := [(0, .ref a0)]) ?_ (zsub_of [0] rfl)
      refine zr_aload_n h0 dX0_sizeOf_16 rfl (n := 17) rfl ?_
      refine zr_getI C hC h0 zcX0 (k := 1) (by decide) zw_231 dX0_sizeOf_17 (n := 20) rfl (fun v2 => ?_)
      refine zr_goto (tgt := 27) h0 dX0_sizeOf_20 (by decide) ?_
      refine zv_sub (lv' := []) ?_ (zsub_of [] rfl)
      exact J27 v2
    · refine zv_sub (lv' := [(0, .ref a0)]) ?_ (zsub_of [0] rfl)
      refine zr_aload_n h0 dX0_sizeOf_23 rfl (n := 24) rfl ?_
      refine zr_getI C hC h0 zcX0 (k := 2) (by decide) zw_235 dX0_sizeOf_24 (n := 27) rfl (fun v3 => ?_)
      refine zv_sub (lv' := []) ?_ (zsub_of [] rfl)
      exact J27 v3
theorem kX0_sizeOf (l : Launch) (D : ZD) (z0 : Nat) (a0 : Nat) (a1 : Int32) (S : ZS) (x : Int32) (hf : fX0_sizeOf a0 a1 S = some x) : zMet l D z0 yX0_sizeOf cX0_sizeOf 2 (some .int) rmX0_sizeOf [.ref a0, .int a1] S (some (.int x)) S :=
  zMet_of (by decide) (Nat.le_of_ble_eq_true rfl) (fun G h0 hini hE => wX0_sizeOf a0 a1 S h0 (fun o => o = some x) (fun h => nomatch h) (fun v h => by cases h; exact hE)) hf
theorem dX5_needSlice_0 : decode cX5_needSlice 0 = .ok (.iload_n 2, 1) := by decide +kernel
theorem dX5_needSlice_1 : decode cX5_needSlice 1 = .ok (.aload_n 0, 1) := by decide +kernel
theorem dX5_needSlice_2 : decode cX5_needSlice 2 = .ok (.iload_n 1, 1) := by decide +kernel
theorem dX5_needSlice_3 : decode cX5_needSlice 3 = .ok (.invokevirtual 269, 3) := by decide +kernel
theorem dX5_needSlice_6 : decode cX5_needSlice 6 = .ok (.invokestatic 261, 3) := by decide +kernel
theorem dX5_needSlice_9 : decode cX5_needSlice 9 = .ok (.ifCond .ne 14, 3) := by decide +kernel
theorem dX5_needSlice_12 : decode cX5_needSlice 12 = .ok (.new 254, 3) := by decide +kernel
theorem dX5_needSlice_15 : decode cX5_needSlice 15 = .ok (.dup, 1) := by decide +kernel
theorem dX5_needSlice_16 : decode cX5_needSlice 16 = .ok (.ldc_w 273, 3) := by decide +kernel
theorem dX5_needSlice_19 : decode cX5_needSlice 19 = .ok (.invokespecial 258, 3) := by decide +kernel
theorem dX5_needSlice_22 : decode cX5_needSlice 22 = .ok (.athrow, 1) := by decide +kernel
theorem dX5_needSlice_23 : decode cX5_needSlice 23 = .ok (.return_, 1) := by decide +kernel
abbrev rmX5_needSlice : Room := { frames := 6, cells := 1, slots := 6, locals := 90 }
theorem zyX5_needSlice : zyOK yX5_needSlice 3 := ⟨by decide +kernel, by decide +kernel, by decide +kernel⟩
set_option maxHeartbeats 4000000 in
set_option maxRecDepth 100000 in
theorem wX5_needSlice {G : ZG} (a0 : Nat) (a1 : Int32) (a2 : Int32) (S : ZS) (h0 : zFix G cX5_needSlice RX5 3 none rmX5_needSlice) (C : Option ((Unit × ZS) ⊕ ZX) → Prop) (hC : ¬ C none) (hnt : zNoTab G) (hE : ∀ (v : Unit) (S1 : ZS), C (some (.inl (v, S1))) → zEndT G none S1 rmX5_needSlice) (hEx : ∀ (E : String) (h : ZH), C (some (.inr (E, h))) → zEndX G E h rmX5_needSlice) : zV G 3 S 0 0 0 [(0, .ref a0), (1, .int a1), (2, .int a2)] [] (C (fX5_needSlice a0 a1 a2 S)) := by
  unfold fX5_needSlice
  refine zr_iload_n h0 dX5_needSlice_0 rfl (n := 1) rfl ?_
  refine zr_aload_n h0 dX5_needSlice_1 rfl (n := 2) rfl ?_
  refine zr_iload_n h0 dX5_needSlice_2 rfl (n := 3) rfl ?_
  refine zr_cRI C hC 0 0 (fun x hx => zk_V h0 zcX0 (zcl_ex hx) (fun l D z0 => kX0_sizeOf l D z0 a0 a1 S x (zcl_of hx)) zw_345 zw_346 zw_347 zw_10 zw_348 rfl zyX0_sizeOf (As := [.int a1]) (st := [.int a2]) rfl (by decide) rfl (Nat.le_of_ble_eq_true rfl) (by decide) dX5_needSlice_3) rfl rfl (n := 6) rfl (fun x1 => ?_)
  refine zr_cRI C hC 0 0 (fun x hx => zk_S h0 (fun l D z0 => kX5_isBelow l D z0 a2 x1 S x hx) zw_319 zw_320 zw_1 zw_321 zyX5_isBelow (As := [.int a2, .int x1]) (st := []) rfl (by decide) rfl (Nat.le_of_ble_eq_true rfl) (by decide) dX5_needSlice_6) rfl rfl (n := 9) rfl (fun x2 => ?_)
  refine zr_if_ne C (tgt := 23) h0 dX5_needSlice_9 (by decide) (n := 12) rfl ?_ ?_
  · refine zv_sub (lv' := []) ?_ (zsub_of [] rfl)
    exact zr_throwW h0 hnt (cls := "java/lang/IndexOutOfBoundsException") (text := "there is no such slice") (names := ["java/lang/RuntimeException", "java/lang/Exception"]) (by decide +kernel) zfitN zw_300 zw_11 (by decide +kernel) (by decide +kernel) zat_X5_258 zbad_X5_258 zgd_X5_258 dX5_needSlice_12 dX5_needSlice_15 dX5_needSlice_16 dX5_needSlice_19 dX5_needSlice_22 (by decide) (Nat.le_of_ble_eq_true rfl) (by decide) (by decide) (fun h => hEx _ _ h)
  · refine zv_sub (lv' := []) ?_ (zsub_of [] rfl)
    exact zr_vretT h0 rfl dX5_needSlice_23 (fun h => hE _ _ h) (by decide) (by decide)
theorem kX5_needSlice (l : Launch) (D : ZD) (z0 : Nat) (hlt : l.stackTraces = false) (a0 : Nat) (a1 : Int32) (a2 : Int32) (S : ZS) (x : ((Unit × ZS) ⊕ ZX)) (hf : fX5_needSlice a0 a1 a2 S = some x) : zMetT l D z0 yX5_needSlice cX5_needSlice 3 none rmX5_needSlice [.ref a0, .int a1, .int a2] S (x.map (fun y => (none, y.2)) id) :=
  zMetT_of hlt (by decide) (Nat.le_of_ble_eq_true rfl) (fun G h0 hnt hE hEx => wX5_needSlice a0 a1 a2 S h0 (fun o => o = some x) (fun h => nomatch h) hnt (fun v S1 h => by cases h; exact hE _ _ rfl) (fun E h hh => by cases hh; exact hEx _ _ rfl)) hf
theorem dX0_indexInSlice_0 : decode cX0_indexInSlice 0 = .ok (.iload_n 2, 1) := by decide +kernel
theorem dX0_indexInSlice_1 : decode cX0_indexInSlice 1 = .ok (.iconst 4, 1) := by decide +kernel
theorem dX0_indexInSlice_2 : decode cX0_indexInSlice 2 = .ok (.idiv, 1) := by decide +kernel
theorem dX0_indexInSlice_3 : decode cX0_indexInSlice 3 = .ok (.istore_n 3, 1) := by decide +kernel
theorem dX0_indexInSlice_4 : decode cX0_indexInSlice 4 = .ok (.iload_n 2, 1) := by decide +kernel
theorem dX0_indexInSlice_5 : decode cX0_indexInSlice 5 = .ok (.iconst 4, 1) := by decide +kernel
theorem dX0_indexInSlice_6 : decode cX0_indexInSlice 6 = .ok (.irem, 1) := by decide +kernel
theorem dX0_indexInSlice_7 : decode cX0_indexInSlice 7 = .ok (.istore 4, 2) := by decide +kernel
theorem dX0_indexInSlice_9 : decode cX0_indexInSlice 9 = .ok (.iload_n 0, 1) := by decide +kernel
theorem dX0_indexInSlice_10 : decode cX0_indexInSlice 10 = .ok (.ifCond .ne 13, 3) := by decide +kernel
theorem dX0_indexInSlice_13 : decode cX0_indexInSlice 13 = .ok (.iload_n 1, 1) := by decide +kernel
theorem dX0_indexInSlice_14 : decode cX0_indexInSlice 14 = .ok (.iload_n 3, 1) := by decide +kernel
theorem dX0_indexInSlice_15 : decode cX0_indexInSlice 15 = .ok (.iload 4, 2) := by decide +kernel
theorem dX0_indexInSlice_17 : decode cX0_indexInSlice 17 = .ok (.invokestatic 39, 3) := by decide +kernel
theorem dX0_indexInSlice_20 : decode cX0_indexInSlice 20 = .ok (.goto 25, 3) := by decide +kernel
theorem dX0_indexInSlice_23 : decode cX0_indexInSlice 23 = .ok (.iload_n 0, 1) := by decide +kernel
theorem dX0_indexInSlice_24 : decode cX0_indexInSlice 24 = .ok (.iconst 1, 1) := by decide +kernel
theorem dX0_indexInSlice_25 : decode cX0_indexInSlice 25 = .ok (.if_icmp .ne 13, 3) := by decide +kernel
theorem dX0_indexInSlice_28 : decode cX0_indexInSlice 28 = .ok (.iload_n 3, 1) := by decide +kernel
theorem dX0_indexInSlice_29 : decode cX0_indexInSlice 29 = .ok (.iload_n 1, 1) := by decide +kernel
theorem dX0_indexInSlice_30 : decode cX0_indexInSlice 30 = .ok (.iload 4, 2) := by decide +kernel
theorem dX0_indexInSlice_32 : decode cX0_indexInSlice 32 = .ok (.invokestatic 39, 3) := by decide +kernel
theorem dX0_indexInSlice_35 : decode cX0_indexInSlice 35 = .ok (.goto 10, 3) := by decide +kernel
theorem dX0_indexInSlice_38 : decode cX0_indexInSlice 38 = .ok (.iload_n 3, 1) := by decide +kernel
theorem dX0_indexInSlice_39 : decode cX0_indexInSlice 39 = .ok (.iload 4, 2) := by decide +kernel
theorem dX0_indexInSlice_41 : decode cX0_indexInSlice 41 = .ok (.iload_n 1, 1) := by decide +kernel
theorem dX0_indexInSlice_42 : decode cX0_indexInSlice 42 = .ok (.invokestatic 39, 3) := by decide +kernel
theorem dX0_indexInSlice_45 : decode cX0_indexInSlice 45 = .ok (.ireturn, 1) := by decide +kernel
abbrev rmX0_indexInSlice : Room := { frames := 2, cells := 0, slots := 0, locals := 42 }
theorem zyX0_indexInSlice : zyOK yX0_indexInSlice 3 := ⟨by decide +kernel, by decide +kernel, by decide +kernel⟩
set_option maxHeartbeats 4000000 in
set_option maxRecDepth 100000 in
theorem wX0_indexInSlice {G : ZG} (a0 : Int32) (a1 : Int32) (a2 : Int32) (S : ZS) (h0 : zFix G cX0_indexInSlice RX0 5 (some .int) rmX0_indexInSlice) (C : Option Int32 → Prop) (hC : ¬ C none) (hE : ∀ v : Int32, C (some v) → zEnd G (some (.int v)) S rmX0_indexInSlice) : zV G 5 S 0 0 0 [(0, .int a0), (1, .int a1), (2, .int a2)] [] (C (fX0_indexInSlice a0 a1 a2)) := by
  have J45 : ∀ (s0_45 : Int32), zV G 5 S 0 0 45 [] [.int s0_45] (C (fX0_indexInSlice_J45 s0_45)) := by
    intro s0_45
    unfold fX0_indexInSlice_J45
    exact zr_iret h0 rfl dX0_indexInSlice_45 (hE _) (by decide) (by decide)
  unfold fX0_indexInSlice
  refine zr_iload_n h0 dX0_indexInSlice_0 rfl (n := 1) rfl ?_
  refine zr_iconst (4 : Int32) h0 (by decide) dX0_indexInSlice_1 (n := 2) rfl ?_
  refine zr_idivK h0 (by decide) dX0_indexInSlice_2 (n := 3) rfl ?_
  refine zr_istore_n [(0, .int a0), (1, .int a1), (2, .int a2), (3, .int (a2 / (4 : Int32)))] h0 dX0_indexInSlice_3 (by decide) rfl (n := 4) rfl ?_
  refine zr_iload_n h0 dX0_indexInSlice_4 rfl (n := 5) rfl ?_
  refine zr_iconst (4 : Int32) h0 (by decide) dX0_indexInSlice_5 (n := 6) rfl ?_
  refine zr_iremK h0 (by decide) dX0_indexInSlice_6 (n := 7) rfl ?_
  refine zr_istore [(0, .int a0), (1, .int a1), (2, .int a2), (3, .int (a2 / (4 : Int32))), (4, .int (a2 % (4 : Int32)))] h0 dX0_indexInSlice_7 (by decide) rfl (n := 9) rfl ?_
  refine zr_iload_n h0 dX0_indexInSlice_9 rfl (n := 10) rfl ?_
  refine zr_if_ne C (tgt := 23) h0 dX0_indexInSlice_10 (by decide) (n := 13) rfl ?_ ?_
  · refine zv_sub (lv' := [(1, .int a1), (3, .int (a2 / (4 : Int32))), (4, .int (a2 % (4 : Int32)))]) ?_ (zsub_of [1, 3, 4] rfl)
    refine zr_iload_n h0 dX0_indexInSlice_13 rfl (n := 14) rfl ?_
    refine zr_iload_n h0 dX0_indexInSlice_14 rfl (n := 15) rfl ?_
    refine zr_iload h0 dX0_indexInSlice_15 rfl (n := 17) rfl ?_
    refine zr_cRI C hC 0 0 (fun x hx => zk_S h0 (fun l D z0 => kX0_indexOf l D z0 a1 (a2 / (4 : Int32)) (a2 % (4 : Int32)) S x hx) zw_265 zw_266 zw_10 zw_267 zyX0_indexOf (As := [.int a1, .int (a2 / (4 : Int32)), .int (a2 % (4 : Int32))]) (st := []) rfl (by decide) rfl (Nat.le_of_ble_eq_true rfl) (by decide) dX0_indexInSlice_17) rfl rfl (n := 20) rfl (fun x1 => ?_)
    refine zr_goto (tgt := 45) h0 dX0_indexInSlice_20 (by decide) ?_
    refine zv_sub (lv' := []) ?_ (zsub_of [] rfl)
    exact J45 x1
  · refine zv_sub (lv' := [(0, .int a0), (1, .int a1), (3, .int (a2 / (4 : Int32))), (4, .int (a2 % (4 : Int32)))]) ?_ (zsub_of [0, 1, 3, 4] rfl)
    refine zr_iload_n h0 dX0_indexInSlice_23 rfl (n := 24) rfl ?_
    refine zr_iconst (1 : Int32) h0 (by decide) dX0_indexInSlice_24 (n := 25) rfl ?_
    refine zr_icmp_ne C (tgt := 38) h0 dX0_indexInSlice_25 (by decide) (n := 28) rfl ?_ ?_
    · refine zv_sub (lv' := [(1, .int a1), (3, .int (a2 / (4 : Int32))), (4, .int (a2 % (4 : Int32)))]) ?_ (zsub_of [1, 2, 3] rfl)
      refine zr_iload_n h0 dX0_indexInSlice_28 rfl (n := 29) rfl ?_
      refine zr_iload_n h0 dX0_indexInSlice_29 rfl (n := 30) rfl ?_
      refine zr_iload h0 dX0_indexInSlice_30 rfl (n := 32) rfl ?_
      refine zr_cRI C hC 0 0 (fun x hx => zk_S h0 (fun l D z0 => kX0_indexOf l D z0 (a2 / (4 : Int32)) a1 (a2 % (4 : Int32)) S x hx) zw_265 zw_266 zw_10 zw_267 zyX0_indexOf (As := [.int (a2 / (4 : Int32)), .int a1, .int (a2 % (4 : Int32))]) (st := []) rfl (by decide) rfl (Nat.le_of_ble_eq_true rfl) (by decide) dX0_indexInSlice_32) rfl rfl (n := 35) rfl (fun x2 => ?_)
      refine zr_goto (tgt := 45) h0 dX0_indexInSlice_35 (by decide) ?_
      refine zv_sub (lv' := []) ?_ (zsub_of [] rfl)
      exact J45 x2
    · refine zv_sub (lv' := [(1, .int a1), (3, .int (a2 / (4 : Int32))), (4, .int (a2 % (4 : Int32)))]) ?_ (zsub_of [1, 2, 3] rfl)
      refine zr_iload_n h0 dX0_indexInSlice_38 rfl (n := 39) rfl ?_
      refine zr_iload h0 dX0_indexInSlice_39 rfl (n := 41) rfl ?_
      refine zr_iload_n h0 dX0_indexInSlice_41 rfl (n := 42) rfl ?_
      refine zr_cRI C hC 0 0 (fun x hx => zk_S h0 (fun l D z0 => kX0_indexOf l D z0 (a2 / (4 : Int32)) (a2 % (4 : Int32)) a1 S x hx) zw_265 zw_266 zw_10 zw_267 zyX0_indexOf (As := [.int (a2 / (4 : Int32)), .int (a2 % (4 : Int32)), .int a1]) (st := []) rfl (by decide) rfl (Nat.le_of_ble_eq_true rfl) (by decide) dX0_indexInSlice_42) rfl rfl (n := 45) rfl (fun x3 => ?_)
      refine zv_sub (lv' := []) ?_ (zsub_of [] rfl)
      exact J45 x3
theorem kX0_indexInSlice (l : Launch) (D : ZD) (z0 : Nat) (a0 : Int32) (a1 : Int32) (a2 : Int32) (S : ZS) (x : Int32) (hf : fX0_indexInSlice a0 a1 a2 = some x) : zMet l D z0 yX0_indexInSlice cX0_indexInSlice 5 (some .int) rmX0_indexInSlice [.int a0, .int a1, .int a2] S (some (.int x)) S :=
  zMet_of (by decide) (Nat.le_of_ble_eq_true rfl) (fun G h0 hini hE => wX0_indexInSlice a0 a1 a2 S h0 (fun o => o = some x) (fun h => nomatch h) (fun v h => by cases h; exact hE)) hf
theorem dX0_addSlice_0 : decode cX0_addSlice 0 = .ok (.iconst 0, 1) := by decide +kernel
theorem dX0_addSlice_1 : decode cX0_addSlice 1 = .ok (.istore 6, 2) := by decide +kernel
theorem dX0_addSlice_3 : decode cX0_addSlice 3 = .ok (.iload 6, 2) := by decide +kernel
theorem dX0_addSlice_5 : decode cX0_addSlice 5 = .ok (.bipush 16, 2) := by decide +kernel
theorem dX0_addSlice_7 : decode cX0_addSlice 7 = .ok (.if_icmp .ge 63, 3) := by decide +kernel
theorem dX0_addSlice_10 : decode cX0_addSlice 10 = .ok (.iload_n 1, 1) := by decide +kernel
theorem dX0_addSlice_11 : decode cX0_addSlice 11 = .ok (.iload_n 3, 1) := by decide +kernel
theorem dX0_addSlice_12 : decode cX0_addSlice 12 = .ok (.iload 6, 2) := by decide +kernel
theorem dX0_addSlice_14 : decode cX0_addSlice 14 = .ok (.invokestatic 43, 3) := by decide +kernel
theorem dX0_addSlice_17 : decode cX0_addSlice 17 = .ok (.istore 7, 2) := by decide +kernel
theorem dX0_addSlice_19 : decode cX0_addSlice 19 = .ok (.aload_n 0, 1) := by decide +kernel
theorem dX0_addSlice_20 : decode cX0_addSlice 20 = .ok (.getfield 21, 3) := by decide +kernel
theorem dX0_addSlice_23 : decode cX0_addSlice 23 = .ok (.iload 7, 2) := by decide +kernel
theorem dX0_addSlice_25 : decode cX0_addSlice 25 = .ok (.invokestatic 31, 3) := by decide +kernel
theorem dX0_addSlice_28 : decode cX0_addSlice 28 = .ok (.iload 4, 2) := by decide +kernel
theorem dX0_addSlice_30 : decode cX0_addSlice 30 = .ok (.aload_n 0, 1) := by decide +kernel
theorem dX0_addSlice_31 : decode cX0_addSlice 31 = .ok (.getfield 21, 3) := by decide +kernel
theorem dX0_addSlice_34 : decode cX0_addSlice 34 = .ok (.iload_n 1, 1) := by decide +kernel
theorem dX0_addSlice_35 : decode cX0_addSlice 35 = .ok (.iload_n 2, 1) := by decide +kernel
theorem dX0_addSlice_36 : decode cX0_addSlice 36 = .ok (.iload 6, 2) := by decide +kernel
theorem dX0_addSlice_38 : decode cX0_addSlice 38 = .ok (.invokestatic 43, 3) := by decide +kernel
theorem dX0_addSlice_41 : decode cX0_addSlice 41 = .ok (.invokestatic 31, 3) := by decide +kernel
theorem dX0_addSlice_44 : decode cX0_addSlice 44 = .ok (.imul, 1) := by decide +kernel
theorem dX0_addSlice_45 : decode cX0_addSlice 45 = .ok (.iadd, 1) := by decide +kernel
theorem dX0_addSlice_46 : decode cX0_addSlice 46 = .ok (.istore 8, 2) := by decide +kernel
theorem dX0_addSlice_48 : decode cX0_addSlice 48 = .ok (.aload_n 0, 1) := by decide +kernel
theorem dX0_addSlice_49 : decode cX0_addSlice 49 = .ok (.getfield 21, 3) := by decide +kernel
theorem dX0_addSlice_52 : decode cX0_addSlice 52 = .ok (.iload 7, 2) := by decide +kernel
theorem dX0_addSlice_54 : decode cX0_addSlice 54 = .ok (.iload 8, 2) := by decide +kernel
theorem dX0_addSlice_56 : decode cX0_addSlice 56 = .ok (.iload 5, 2) := by decide +kernel
theorem dX0_addSlice_58 : decode cX0_addSlice 58 = .ok (.invokestatic 46, 3) := by decide +kernel
theorem dX0_addSlice_61 : decode cX0_addSlice 61 = .ok (.invokestatic 35, 3) := by decide +kernel
theorem dX0_addSlice_64 : decode cX0_addSlice 64 = .ok (.iinc 6 1, 3) := by decide +kernel
theorem dX0_addSlice_67 : decode cX0_addSlice 67 = .ok (.goto (-64), 3) := by decide +kernel
theorem dX0_addSlice_70 : decode cX0_addSlice 70 = .ok (.return_, 1) := by decide +kernel
abbrev rmX0_addSlice : Room := { frames := 3, cells := 0, slots := 0, locals := 66 }
theorem zyX0_addSlice : zyOK yX0_addSlice 5 := ⟨by decide +kernel, by decide +kernel, by decide +kernel⟩
set_option maxHeartbeats 4000000 in
set_option maxRecDepth 100000 in
theorem wX0_addSlice {G : ZG} (a0 : Nat) (a1 : Int32) (a2 : Int32) (a3 : Int32) (a4 : Int32) (a5 : Int32) (S : ZS) (h0 : zFix G cX0_addSlice RX0 9 none rmX0_addSlice) (C : Option ZS → Prop) (hC : ¬ C none) (hE : ∀ S1 : ZS, C (some S1) → zEnd G none S1 rmX0_addSlice) : zV G 9 S 0 0 0 [(0, .ref a0), (1, .int a1), (2, .int a2), (3, .int a3), (4, .int a4), (5, .int a5)] [] (C (fX0_addSlice a0 a1 a2 a3 a4 a5 S)) := by
  unfold fX0_addSlice
  refine zr_iconst (0 : Int32) h0 (by decide) dX0_addSlice_0 (n := 1) rfl ?_
  refine zr_istore [(0, .ref a0), (1, .int a1), (2, .int a2), (3, .int a3), (4, .int a4), (5, .int a5), (6, .int (0 : Int32))] h0 dX0_addSlice_1 (by decide) rfl (n := 3) rfl ?_
  refine zr_loop hC (fX0_addSlice_B3 a0 a1 a2 a3 a4 a5) (fun y => [(0, .ref a0), (1, .int a1), (2, .int a2), (3, .int a3), (4, .int a4), (5, .int a5), (6, .int y.1)]) (fun y => y.2) zF ((0 : Int32), S) (fun C3 hC3 hX3 hL3 t3 => ?_)
  unfold fX0_addSlice_B3
  refine zr_iload h0 dX0_addSlice_3 rfl (n := 5) rfl ?_
  refine zr_bipush (16 : Int32) h0 (by decide) dX0_addSlice_5 (n := 7) rfl ?_
  refine zr_icmp_ge C3 (tgt := 70) h0 dX0_addSlice_7 (by decide) (n := 10) rfl ?_ ?_
  · refine zr_ex hX3 ?_
    refine zv_sub (lv' := []) ?_ (zsub_of [] rfl)
    exact zr_vret h0 rfl dX0_addSlice_70 (fun h => hE _ h) (by decide) (by decide)
  · refine zr_iload_n h0 dX0_addSlice_10 rfl (n := 11) rfl ?_
    refine zr_iload_n h0 dX0_addSlice_11 rfl (n := 12) rfl ?_
    refine zr_iload h0 dX0_addSlice_12 rfl (n := 14) rfl ?_
    refine zr_cRI C3 hC3 0 0 (fun x hx => zk_S h0 (fun l D z0 => kX0_indexInSlice l D z0 a1 a3 t3.1 t3.2 x hx) zw_356 zw_357 zw_10 zw_358 zyX0_indexInSlice (As := [.int a1, .int a3, .int t3.1]) (st := []) rfl (by decide) rfl (Nat.le_of_ble_eq_true rfl) (by decide) dX0_addSlice_14) rfl rfl (n := 17) rfl (fun x10 => ?_)
    refine zr_istore [(0, .ref a0), (1, .int a1), (2, .int a2), (3, .int a3), (4, .int a4), (5, .int a5), (6, .int t3.1), (7, .int x10)] h0 dX0_addSlice_17 (by decide) rfl (n := 19) rfl ?_
    refine zr_aload_n h0 dX0_addSlice_19 rfl (n := 20) rfl ?_
    refine zr_getR C3 hC3 h0 zcX0 (k := 3) (by decide) zw_239 dX0_addSlice_20 (n := 23) rfl (fun v11 => ?_)
    refine zr_iload h0 dX0_addSlice_23 rfl (n := 25) rfl ?_
    refine zr_cRI C3 hC3 0 0 (fun x hx => zk_SN (host := "Bilinearium") h0 (fun l D z0 => kX5_get l D z0 v11 x10 t3.2 x hx) (by decide +kernel) zw_329 zw_1 zw_330 zyX5_get (As := [.ref v11, .int x10]) (st := []) rfl (by decide) rfl (Nat.le_of_ble_eq_true rfl) (by decide) dX0_addSlice_25) rfl rfl (n := 28) rfl (fun x12 => ?_)
    refine zr_iload h0 dX0_addSlice_28 rfl (n := 30) rfl ?_
    refine zr_aload_n h0 dX0_addSlice_30 rfl (n := 31) rfl ?_
    refine zr_getR C3 hC3 h0 zcX0 (k := 3) (by decide) zw_239 dX0_addSlice_31 (n := 34) rfl (fun v13 => ?_)
    refine zr_iload_n h0 dX0_addSlice_34 rfl (n := 35) rfl ?_
    refine zr_iload_n h0 dX0_addSlice_35 rfl (n := 36) rfl ?_
    refine zr_iload h0 dX0_addSlice_36 rfl (n := 38) rfl ?_
    refine zr_cRI C3 hC3 0 0 (fun x hx => zk_S h0 (fun l D z0 => kX0_indexInSlice l D z0 a1 a2 t3.1 t3.2 x hx) zw_356 zw_357 zw_10 zw_358 zyX0_indexInSlice (As := [.int a1, .int a2, .int t3.1]) (st := [.ref v13, .int a4, .int x12]) rfl (by decide) rfl (Nat.le_of_ble_eq_true rfl) (by decide) dX0_addSlice_38) rfl rfl (n := 41) rfl (fun x14 => ?_)
    refine zr_cRI C3 hC3 0 0 (fun x hx => zk_SN (host := "Bilinearium") h0 (fun l D z0 => kX5_get l D z0 v13 x14 t3.2 x hx) (by decide +kernel) zw_329 zw_1 zw_330 zyX5_get (As := [.ref v13, .int x14]) (st := [.int a4, .int x12]) rfl (by decide) rfl (Nat.le_of_ble_eq_true rfl) (by decide) dX0_addSlice_41) rfl rfl (n := 44) rfl (fun x15 => ?_)
    refine zr_imul h0 dX0_addSlice_44 (n := 45) rfl ?_
    refine zr_iadd h0 dX0_addSlice_45 (n := 46) rfl ?_
    refine zr_istore [(0, .ref a0), (1, .int a1), (2, .int a2), (3, .int a3), (4, .int a4), (5, .int a5), (6, .int t3.1), (7, .int x10), (8, .int (x12 + (a4 * x15)))] h0 dX0_addSlice_46 (by decide) rfl (n := 48) rfl ?_
    refine zr_aload_n h0 dX0_addSlice_48 rfl (n := 49) rfl ?_
    refine zr_getR C3 hC3 h0 zcX0 (k := 3) (by decide) zw_239 dX0_addSlice_49 (n := 52) rfl (fun v16 => ?_)
    refine zr_iload h0 dX0_addSlice_52 rfl (n := 54) rfl ?_
    refine zr_iload h0 dX0_addSlice_54 rfl (n := 56) rfl ?_
    refine zr_iload h0 dX0_addSlice_56 rfl (n := 58) rfl ?_
    refine zr_cRI C3 hC3 0 0 (fun x hx => zk_SN (host := "Bilinearium") h0 (fun l D z0 => kX5_remainder l D z0 (x12 + (a4 * x15)) a5 t3.2 x hx) (by decide +kernel) zw_286 zw_1 zw_287 zyX5_remainder (As := [.int (x12 + (a4 * x15)), .int a5]) (st := [.int x10, .ref v16]) rfl (by decide) rfl (Nat.le_of_ble_eq_true rfl) (by decide) dX0_addSlice_58) rfl rfl (n := 61) rfl (fun x17 => ?_)
    refine zr_cMV C3 hC3 0 0 (fun x hx => zk_SN (host := "Bilinearium") h0 (fun l D z0 => kX5_put l D z0 v16 x10 x17 t3.2 x hx) (by decide +kernel) zw_269 zw_1 zw_270 zyX5_put (As := [.ref v16, .int x10, .int x17]) (st := []) rfl (by decide) rfl (Nat.le_of_ble_eq_true rfl) (by decide) dX0_addSlice_61) rfl rfl (n := 64) rfl (fun x18 => ?_)
    refine zr_iinc (1 : Int32) [(0, .ref a0), (1, .int a1), (2, .int a2), (3, .int a3), (4, .int a4), (5, .int a5), (6, .int (t3.1 + (1 : Int32))), (7, .int x10), (8, .int (x12 + (a4 * x15)))] h0 dX0_addSlice_64 rfl (by decide) rfl rfl (n := 67) rfl ?_
    refine zr_goto (tgt := 3) h0 dX0_addSlice_67 (by decide) ?_
    refine zv_sub (lv' := [(0, .ref a0), (1, .int a1), (2, .int a2), (3, .int a3), (4, .int a4), (5, .int a5), (6, .int (t3.1 + (1 : Int32)))]) ?_ (zsub_of [0, 1, 2, 3, 4, 5, 6] rfl)
    exact hL3 (t3.1 + (1 : Int32), x18)
theorem kX0_addSlice (l : Launch) (D : ZD) (z0 : Nat) (a0 : Nat) (a1 : Int32) (a2 : Int32) (a3 : Int32) (a4 : Int32) (a5 : Int32) (S : ZS) (x : ZS) (hf : fX0_addSlice a0 a1 a2 a3 a4 a5 S = some x) : zMet l D z0 yX0_addSlice cX0_addSlice 9 none rmX0_addSlice [.ref a0, .int a1, .int a2, .int a3, .int a4, .int a5] S none x :=
  zMet_of (by decide) (Nat.le_of_ble_eq_true rfl) (fun G h0 hini hE => wX0_addSlice a0 a1 a2 a3 a4 a5 S h0 (fun o => o = some x) (fun h => nomatch h) (fun S1 h => by cases h; exact hE)) hf
theorem dX0_countOthersThanZero_0 : decode cX0_countOthersThanZero 0 = .ok (.iconst 0, 1) := by decide +kernel
theorem dX0_countOthersThanZero_1 : decode cX0_countOthersThanZero 1 = .ok (.istore_n 1, 1) := by decide +kernel
theorem dX0_countOthersThanZero_2 : decode cX0_countOthersThanZero 2 = .ok (.iconst 0, 1) := by decide +kernel
theorem dX0_countOthersThanZero_3 : decode cX0_countOthersThanZero 3 = .ok (.istore_n 2, 1) := by decide +kernel
theorem dX0_countOthersThanZero_4 : decode cX0_countOthersThanZero 4 = .ok (.iload_n 2, 1) := by decide +kernel
theorem dX0_countOthersThanZero_5 : decode cX0_countOthersThanZero 5 = .ok (.bipush 64, 2) := by decide +kernel
theorem dX0_countOthersThanZero_7 : decode cX0_countOthersThanZero 7 = .ok (.if_icmp .ge 28, 3) := by decide +kernel
theorem dX0_countOthersThanZero_10 : decode cX0_countOthersThanZero 10 = .ok (.iload_n 1, 1) := by decide +kernel
theorem dX0_countOthersThanZero_11 : decode cX0_countOthersThanZero 11 = .ok (.aload_n 0, 1) := by decide +kernel
theorem dX0_countOthersThanZero_12 : decode cX0_countOthersThanZero 12 = .ok (.getfield 21, 3) := by decide +kernel
theorem dX0_countOthersThanZero_15 : decode cX0_countOthersThanZero 15 = .ok (.iload_n 2, 1) := by decide +kernel
theorem dX0_countOthersThanZero_16 : decode cX0_countOthersThanZero 16 = .ok (.invokestatic 31, 3) := by decide +kernel
theorem dX0_countOthersThanZero_19 : decode cX0_countOthersThanZero 19 = .ok (.ifCond .eq 7, 3) := by decide +kernel
theorem dX0_countOthersThanZero_22 : decode cX0_countOthersThanZero 22 = .ok (.iconst 1, 1) := by decide +kernel
theorem dX0_countOthersThanZero_23 : decode cX0_countOthersThanZero 23 = .ok (.goto 4, 3) := by decide +kernel
theorem dX0_countOthersThanZero_26 : decode cX0_countOthersThanZero 26 = .ok (.iconst 0, 1) := by decide +kernel
theorem dX0_countOthersThanZero_27 : decode cX0_countOthersThanZero 27 = .ok (.iadd, 1) := by decide +kernel
theorem dX0_countOthersThanZero_28 : decode cX0_countOthersThanZero 28 = .ok (.istore_n 1, 1) := by decide +kernel
theorem dX0_countOthersThanZero_29 : decode cX0_countOthersThanZero 29 = .ok (.iinc 2 1, 3) := by decide +kernel
theorem dX0_countOthersThanZero_32 : decode cX0_countOthersThanZero 32 = .ok (.goto (-28), 3) := by decide +kernel
theorem dX0_countOthersThanZero_35 : decode cX0_countOthersThanZero 35 = .ok (.iload_n 1, 1) := by decide +kernel
theorem dX0_countOthersThanZero_36 : decode cX0_countOthersThanZero 36 = .ok (.ireturn, 1) := by decide +kernel
abbrev rmX0_countOthersThanZero : Room := { frames := 2, cells := 0, slots := 0, locals := 41 }
theorem zyX0_countOthersThanZero : zyOK yX0_countOthersThanZero 0 := ⟨by decide +kernel, by decide +kernel, by decide +kernel⟩
set_option maxHeartbeats 4000000 in
set_option maxRecDepth 100000 in
theorem wX0_countOthersThanZero {G : ZG} (a0 : Nat) (S : ZS) (h0 : zFix G cX0_countOthersThanZero RX0 3 (some .int) rmX0_countOthersThanZero) (C : Option Int32 → Prop) (hC : ¬ C none) (hE : ∀ v : Int32, C (some v) → zEnd G (some (.int v)) S rmX0_countOthersThanZero) : zV G 3 S 0 0 0 [(0, .ref a0)] [] (C (fX0_countOthersThanZero a0 S)) := by
  unfold fX0_countOthersThanZero
  refine zr_iconst (0 : Int32) h0 (by decide) dX0_countOthersThanZero_0 (n := 1) rfl ?_
  refine zr_istore_n [(0, .ref a0), (1, .int (0 : Int32))] h0 dX0_countOthersThanZero_1 (by decide) rfl (n := 2) rfl ?_
  refine zr_iconst (0 : Int32) h0 (by decide) dX0_countOthersThanZero_2 (n := 3) rfl ?_
  refine zr_istore_n [(0, .ref a0), (1, .int (0 : Int32)), (2, .int (0 : Int32))] h0 dX0_countOthersThanZero_3 (by decide) rfl (n := 4) rfl ?_
  refine zr_loop hC (fX0_countOthersThanZero_B4 a0 S) (fun y => [(0, .ref a0), (1, .int y.1), (2, .int y.2)]) (fun y => S) zF ((0 : Int32), (0 : Int32)) (fun C4 hC4 hX4 hL4 t4 => ?_)
  have J27 : ∀ (l2_27 : Int32) (s0_27 : Int32) (s1_27 : Int32), zV G 3 S 0 0 27 [(0, .ref a0), (2, .int l2_27)] [.int s1_27, .int s0_27] (C4 (fX0_countOthersThanZero_J27 a0 l2_27 s0_27 s1_27 S)) := by
    intro l2_27 s0_27 s1_27
    unfold fX0_countOthersThanZero_J27
    refine zr_iadd h0 dX0_countOthersThanZero_27 (n := 28) rfl ?_
    refine zr_istore_n [(0, .ref a0), (1, .int (s0_27 + s1_27)), (2, .int l2_27)] h0 dX0_countOthersThanZero_28 (by decide) rfl (n := 29) rfl ?_
    refine zr_iinc (1 : Int32) [(0, .ref a0), (1, .int (s0_27 + s1_27)), (2, .int (l2_27 + (1 : Int32)))] h0 dX0_countOthersThanZero_29 rfl (by decide) rfl rfl (n := 32) rfl ?_
    refine zr_goto (tgt := 4) h0 dX0_countOthersThanZero_32 (by decide) ?_
    exact hL4 (s0_27 + s1_27, l2_27 + (1 : Int32))
  unfold fX0_countOthersThanZero_B4
  refine zr_iload_n h0 dX0_countOthersThanZero_4 rfl (n := 5) rfl ?_
  refine zr_bipush (64 : Int32) h0 (by decide) dX0_countOthersThanZero_5 (n := 7) rfl ?_
  refine zr_icmp_ge C4 (tgt := 35) h0 dX0_countOthersThanZero_7 (by decide) (n := 10) rfl ?_ ?_
  · refine zr_ex hX4 ?_
    refine zv_sub (lv' := [(1, .int t4.1)]) ?_ (zsub_of [1] rfl)
    refine zr_iload_n h0 dX0_countOthersThanZero_35 rfl (n := 36) rfl ?_
    exact zr_iret h0 rfl dX0_countOthersThanZero_36 (hE _) (by decide) (by decide)
  · refine zr_iload_n h0 dX0_countOthersThanZero_10 rfl (n := 11) rfl ?_
    refine zr_aload_n h0 dX0_countOthersThanZero_11 rfl (n := 12) rfl ?_
    refine zr_getR C4 hC4 h0 zcX0 (k := 3) (by decide) zw_239 dX0_countOthersThanZero_12 (n := 15) rfl (fun v3 => ?_)
    refine zr_iload_n h0 dX0_countOthersThanZero_15 rfl (n := 16) rfl ?_
    refine zr_cRI C4 hC4 0 0 (fun x hx => zk_SN (host := "Bilinearium") h0 (fun l D z0 => kX5_get l D z0 v3 t4.2 S x hx) (by decide +kernel) zw_329 zw_1 zw_330 zyX5_get (As := [.ref v3, .int t4.2]) (st := [.int t4.1]) rfl (by decide) rfl (Nat.le_of_ble_eq_true rfl) (by decide) dX0_countOthersThanZero_16) rfl rfl (n := 19) rfl (fun x4 => ?_)
    refine zr_if_eq C4 (tgt := 26) h0 dX0_countOthersThanZero_19 (by decide) (n := 22) rfl ?_ ?_
    · refine zv_sub (lv' := [(0, .ref a0), (2, .int t4.2)]) ?_ (zsub_of [0, 2] rfl)
      refine zr_iconst (0 : Int32) h0 (by decide) dX0_countOthersThanZero_26 (n := 27) rfl ?_
      exact J27 t4.2 t4.1 (0 : Int32)
    · refine zv_sub (lv' := [(0, .ref a0), (2, .int t4.2)]) ?_ (zsub_of [0, 2] rfl)
      refine zr_iconst (1 : Int32) h0 (by decide) dX0_countOthersThanZero_22 (n := 23) rfl ?_
      refine zr_goto (tgt := 27) h0 dX0_countOthersThanZero_23 (by decide) ?_
      exact J27 t4.2 t4.1 (1 : Int32)
theorem kX0_countOthersThanZero (l : Launch) (D : ZD) (z0 : Nat) (a0 : Nat) (S : ZS) (x : Int32) (hf : fX0_countOthersThanZero a0 S = some x) : zMet l D z0 yX0_countOthersThanZero cX0_countOthersThanZero 3 (some .int) rmX0_countOthersThanZero [.ref a0] S (some (.int x)) S :=
  zMet_of (by decide) (Nat.le_of_ble_eq_true rfl) (fun G h0 hini hE => wX0_countOthersThanZero a0 S h0 (fun o => o = some x) (fun h => nomatch h) (fun v h => by cases h; exact hE)) hf
theorem dX5_move_0 : decode cX5_move 0 = .ok (.aload_n 0, 1) := by decide +kernel
theorem dX5_move_1 : decode cX5_move 1 = .ok (.iload_n 1, 1) := by decide +kernel
theorem dX5_move_2 : decode cX5_move 2 = .ok (.invokevirtual 87, 3) := by decide +kernel
theorem dX5_move_5 : decode cX5_move 5 = .ok (.astore 6, 2) := by decide +kernel
theorem dX5_move_7 : decode cX5_move 7 = .ok (.iload_n 2, 1) := by decide +kernel
theorem dX5_move_8 : decode cX5_move 8 = .ok (.invokestatic 101, 3) := by decide +kernel
theorem dX5_move_11 : decode cX5_move 11 = .ok (.aload 6, 2) := by decide +kernel
theorem dX5_move_13 : decode cX5_move 13 = .ok (.iload_n 2, 1) := by decide +kernel
theorem dX5_move_14 : decode cX5_move 14 = .ok (.iload_n 3, 1) := by decide +kernel
theorem dX5_move_15 : decode cX5_move 15 = .ok (.invokestatic 104, 3) := by decide +kernel
theorem dX5_move_18 : decode cX5_move 18 = .ok (.aload 6, 2) := by decide +kernel
theorem dX5_move_20 : decode cX5_move 20 = .ok (.iload_n 2, 1) := by decide +kernel
theorem dX5_move_21 : decode cX5_move 21 = .ok (.iload 4, 2) := by decide +kernel
theorem dX5_move_23 : decode cX5_move 23 = .ok (.invokestatic 104, 3) := by decide +kernel
theorem dX5_move_26 : decode cX5_move 26 = .ok (.iload_n 3, 1) := by decide +kernel
theorem dX5_move_27 : decode cX5_move 27 = .ok (.iload 4, 2) := by decide +kernel
theorem dX5_move_29 : decode cX5_move 29 = .ok (.if_icmp .ne 13, 3) := by decide +kernel
theorem dX5_move_32 : decode cX5_move 32 = .ok (.new 56, 3) := by decide +kernel
theorem dX5_move_35 : decode cX5_move 35 = .ok (.dup, 1) := by decide +kernel
theorem dX5_move_36 : decode cX5_move 36 = .ok (.ldc 108, 2) := by decide +kernel
theorem dX5_move_38 : decode cX5_move 38 = .ok (.invokespecial 60, 3) := by decide +kernel
theorem dX5_move_41 : decode cX5_move 41 = .ok (.athrow, 1) := by decide +kernel
theorem dX5_move_42 : decode cX5_move 42 = .ok (.iload 5, 2) := by decide +kernel
theorem dX5_move_44 : decode cX5_move 44 = .ok (.iconst 1, 1) := by decide +kernel
theorem dX5_move_45 : decode cX5_move 45 = .ok (.if_icmp .lt 12, 3) := by decide +kernel
theorem dX5_move_48 : decode cX5_move 48 = .ok (.iload 5, 2) := by decide +kernel
theorem dX5_move_50 : decode cX5_move 50 = .ok (.aload_n 0, 1) := by decide +kernel
theorem dX5_move_51 : decode cX5_move 51 = .ok (.getfield 46, 3) := by decide +kernel
theorem dX5_move_54 : decode cX5_move 54 = .ok (.if_icmp .lt 13, 3) := by decide +kernel
theorem dX5_move_57 : decode cX5_move 57 = .ok (.new 56, 3) := by decide +kernel
theorem dX5_move_60 : decode cX5_move 60 = .ok (.dup, 1) := by decide +kernel
theorem dX5_move_61 : decode cX5_move 61 = .ok (.ldc 110, 2) := by decide +kernel
theorem dX5_move_63 : decode cX5_move 63 = .ok (.invokespecial 60, 3) := by decide +kernel
theorem dX5_move_66 : decode cX5_move 66 = .ok (.athrow, 1) := by decide +kernel
theorem dX5_move_67 : decode cX5_move 67 = .ok (.aload 6, 2) := by decide +kernel
theorem dX5_move_69 : decode cX5_move 69 = .ok (.iload_n 2, 1) := by decide +kernel
theorem dX5_move_70 : decode cX5_move 70 = .ok (.iload_n 3, 1) := by decide +kernel
theorem dX5_move_71 : decode cX5_move 71 = .ok (.iload 4, 2) := by decide +kernel
theorem dX5_move_73 : decode cX5_move 73 = .ok (.iload 5, 2) := by decide +kernel
theorem dX5_move_75 : decode cX5_move 75 = .ok (.aload_n 0, 1) := by decide +kernel
theorem dX5_move_76 : decode cX5_move 76 = .ok (.getfield 46, 3) := by decide +kernel
theorem dX5_move_79 : decode cX5_move 79 = .ok (.invokevirtual 112, 3) := by decide +kernel
theorem dX5_move_82 : decode cX5_move 82 = .ok (.aload 6, 2) := by decide +kernel
theorem dX5_move_84 : decode cX5_move 84 = .ok (.iconst 0, 1) := by decide +kernel
theorem dX5_move_85 : decode cX5_move 85 = .ok (.putfield 80, 3) := by decide +kernel
theorem dX5_move_88 : decode cX5_move 88 = .ok (.aload 6, 2) := by decide +kernel
theorem dX5_move_90 : decode cX5_move 90 = .ok (.invokevirtual 116, 3) := by decide +kernel
theorem dX5_move_93 : decode cX5_move 93 = .ok (.ireturn, 1) := by decide +kernel
abbrev rmX5_move : Room := { frames := 7, cells := 5, slots := 30, locals := 112 }
theorem zyX5_move : zyOK yX5_move 5 := ⟨by decide +kernel, by decide +kernel, by decide +kernel⟩
set_option maxHeartbeats 4000000 in
set_option maxRecDepth 100000 in
theorem wX5_move {G : ZG} (a0 : Nat) (a1 : Int32) (a2 : Int32) (a3 : Int32) (a4 : Int32) (a5 : Int32) (S : ZS) (h0 : zFix G cX5_move RX5 7 (some .int) rmX5_move) (C : Option ((Int32 × ZS) ⊕ ZX) → Prop) (hC : ¬ C none) (hnt : zNoTab G) (hE : ∀ (v : Int32) (S1 : ZS), C (some (.inl (v, S1))) → zEndT G (some (.int v)) S1 rmX5_move) (hEx : ∀ (E : String) (h : ZH), C (some (.inr (E, h))) → zEndX G E h rmX5_move) : zV G 7 S 0 0 0 [(0, .ref a0), (1, .int a1), (2, .int a2), (3, .int a3), (4, .int a4), (5, .int a5)] [] (C (fX5_move a0 a1 a2 a3 a4 a5 S)) := by
  have J57 : ∀  (S_57 : ZS), zV G 7 S_57 4 24 57 [] [] (C (fX5_move_J57 S_57)) := by
    intro  S_57
    unfold fX5_move_J57
    exact zr_throw h0 hnt (cls := "java/lang/IllegalArgumentException") (text := "times is out of range") (names := ["java/lang/RuntimeException", "java/lang/Exception"]) (by decide +kernel) zfitN zw_118 zw_8 (by decide +kernel) (by decide +kernel) zat_X5_60 zbad_X5_60 zgd_X5_60 dX5_move_57 dX5_move_60 dX5_move_61 dX5_move_63 dX5_move_66 (by decide) (Nat.le_of_ble_eq_true rfl) (by decide) (by decide) (fun h => hEx _ _ h)
  unfold fX5_move
  refine zr_aload_n h0 dX5_move_0 rfl (n := 1) rfl ?_
  refine zr_iload_n h0 dX5_move_1 rfl (n := 2) rfl ?_
  refine zr_cTR C hC 1 6 h0 (fun x hx => zk_VT h0 zcX5 (zcl_ex hx) (fun l D z0 hlt => kX5_needCube l D z0 hlt a0 a1 S x (zcl_of hx)) hnt zw_296 zw_298 zs_2 zw_1 zw_299 rfl zyX5_needCube (As := [.int a1]) (st := []) rfl (by decide) rfl (Nat.le_of_ble_eq_true rfl) (by decide) dX5_move_2) hnt rfl rfl (by decide) (by decide) (n := 5) rfl (fun z h => hEx _ _ h) (fun x1 => ?_)
  refine zr_astore [(0, .ref a0), (1, .int a1), (2, .int a2), (3, .int a3), (4, .int a4), (5, .int a5), (6, .ref x1.1)] h0 dX5_move_5 (by decide) rfl (n := 7) rfl ?_
  refine zr_iload_n h0 dX5_move_7 rfl (n := 8) rfl ?_
  refine zr_cTV C hC 2 12 h0 (fun x hx => zk_ST h0 (fun l D z0 hlt => kX5_needSide l D z0 hlt a2 x1.2 x hx) hnt zw_338 zw_339 zw_1 zw_340 zyX5_needSide (As := [.int a2]) (st := []) rfl (by decide) rfl (Nat.le_of_ble_eq_true rfl) (by decide) dX5_move_8) hnt rfl rfl (by decide) (by decide) (n := 11) rfl (fun z h => hEx _ _ h) (fun x2 => ?_)
  refine zr_aload h0 dX5_move_11 rfl (n := 13) rfl ?_
  refine zr_iload_n h0 dX5_move_13 rfl (n := 14) rfl ?_
  refine zr_iload_n h0 dX5_move_14 rfl (n := 15) rfl ?_
  refine zr_cTV C hC 3 18 h0 (fun x hx => zk_ST h0 (fun l D z0 hlt => kX5_needSlice l D z0 hlt x1.1 a2 a3 x2.2 x hx) hnt zw_342 zw_343 zw_1 zw_344 zyX5_needSlice (As := [.ref x1.1, .int a2, .int a3]) (st := []) rfl (by decide) rfl (Nat.le_of_ble_eq_true rfl) (by decide) dX5_move_15) hnt rfl rfl (by decide) (by decide) (n := 18) rfl (fun z h => hEx _ _ h) (fun x3 => ?_)
  refine zr_aload h0 dX5_move_18 rfl (n := 20) rfl ?_
  refine zr_iload_n h0 dX5_move_20 rfl (n := 21) rfl ?_
  refine zr_iload h0 dX5_move_21 rfl (n := 23) rfl ?_
  refine zr_cTV C hC 4 24 h0 (fun x hx => zk_ST h0 (fun l D z0 hlt => kX5_needSlice l D z0 hlt x1.1 a2 a4 x3.2 x hx) hnt zw_342 zw_343 zw_1 zw_344 zyX5_needSlice (As := [.ref x1.1, .int a2, .int a4]) (st := []) rfl (by decide) rfl (Nat.le_of_ble_eq_true rfl) (by decide) dX5_move_23) hnt rfl rfl (by decide) (by decide) (n := 26) rfl (fun z h => hEx _ _ h) (fun x4 => ?_)
  refine zr_iload_n h0 dX5_move_26 rfl (n := 27) rfl ?_
  refine zr_iload h0 dX5_move_27 rfl (n := 29) rfl ?_
  refine zr_icmp_ne C (tgt := 42) h0 dX5_move_29 (by decide) (n := 32) rfl ?_ ?_
  · refine zv_sub (lv' := []) ?_ (zsub_of [] rfl)
    exact zr_throw h0 hnt (cls := "java/lang/IllegalArgumentException") (text := "the slices are the same") (names := ["java/lang/RuntimeException", "java/lang/Exception"]) (by decide +kernel) zfitN zw_118 zw_8 (by decide +kernel) (by decide +kernel) zat_X5_60 zbad_X5_60 zgd_X5_60 dX5_move_32 dX5_move_35 dX5_move_36 dX5_move_38 dX5_move_41 (by decide) (Nat.le_of_ble_eq_true rfl) (by decide) (by decide) (fun h => hEx _ _ h)
  · refine zv_sub (lv' := [(0, .ref a0), (2, .int a2), (3, .int a3), (4, .int a4), (5, .int a5), (6, .ref x1.1)]) ?_ (zsub_of [0, 2, 3, 4, 5, 6] rfl)
    refine zr_iload h0 dX5_move_42 rfl (n := 44) rfl ?_
    refine zr_iconst (1 : Int32) h0 (by decide) dX5_move_44 (n := 45) rfl ?_
    refine zr_icmp_lt C (tgt := 57) h0 dX5_move_45 (by decide) (n := 48) rfl ?_ ?_
    · refine zv_sub (lv' := []) ?_ (zsub_of [] rfl)
      exact J57 x4.2
    · refine zr_iload h0 dX5_move_48 rfl (n := 50) rfl ?_
      refine zr_aload_n h0 dX5_move_50 rfl (n := 51) rfl ?_
      refine zr_getI C hC h0 zcX5 (k := 6) (by decide) zw_80 dX5_move_51 (n := 54) rfl (fun v5 => ?_)
      refine zr_icmp_lt C (tgt := 67) h0 dX5_move_54 (by decide) (n := 57) rfl ?_ ?_
      · refine zr_aload h0 dX5_move_67 rfl (n := 69) rfl ?_
        refine zr_iload_n h0 dX5_move_69 rfl (n := 70) rfl ?_
        refine zr_iload_n h0 dX5_move_70 rfl (n := 71) rfl ?_
        refine zr_iload h0 dX5_move_71 rfl (n := 73) rfl ?_
        refine zr_iload h0 dX5_move_73 rfl (n := 75) rfl ?_
        refine zr_aload_n h0 dX5_move_75 rfl (n := 76) rfl ?_
        refine zr_getI C hC h0 zcX5 (k := 6) (by decide) zw_80 dX5_move_76 (n := 79) rfl (fun v6 => ?_)
        refine zr_cMV C hC 4 24 (fun x hx => zk_V h0 zcX0 (zcl_ex hx) (fun l D z0 => kX0_addSlice l D z0 x1.1 a2 a3 a4 a5 v6 x4.2 x (zcl_of hx)) zw_352 zw_353 zw_354 zw_10 zw_355 rfl zyX0_addSlice (As := [.int a2, .int a3, .int a4, .int a5, .int v6]) (st := []) rfl (by decide) rfl (Nat.le_of_ble_eq_true rfl) (by decide) dX5_move_79) rfl rfl (n := 82) rfl (fun x7 => ?_)
        refine zr_aload h0 dX5_move_82 rfl (n := 84) rfl ?_
        refine zr_iconst (0 : Int32) h0 (by decide) dX5_move_84 (n := 85) rfl ?_
        refine zr_putF C hC h0 zcX0 (k := 4) (by decide) zw_242 rfl rfl rfl dX5_move_85 (n := 88) rfl (fun S8 => ?_)
        refine zr_aload h0 dX5_move_88 rfl (n := 90) rfl ?_
        refine zr_cRI C hC 4 24 (fun x hx => zk_V h0 zcX0 (zcl_ex hx) (fun l D z0 => kX0_countOthersThanZero l D z0 x1.1 S8 x (zcl_of hx)) zw_360 zw_361 zw_362 zw_10 zw_363 rfl zyX0_countOthersThanZero (As := []) (st := []) rfl (by decide) rfl (Nat.le_of_ble_eq_true rfl) (by decide) dX5_move_90) rfl rfl (n := 93) rfl (fun x9 => ?_)
        exact zr_iretT h0 rfl dX5_move_93 (hE _ _) (by decide) (by decide)
      · refine zv_sub (lv' := []) ?_ (zsub_of [] rfl)
        exact J57 x4.2
theorem kX5_move (l : Launch) (D : ZD) (z0 : Nat) (hlt : l.stackTraces = false) (a0 : Nat) (a1 : Int32) (a2 : Int32) (a3 : Int32) (a4 : Int32) (a5 : Int32) (S : ZS) (x : ((Int32 × ZS) ⊕ ZX)) (hf : fX5_move a0 a1 a2 a3 a4 a5 S = some x) : zMetT l D z0 yX5_move cX5_move 7 (some .int) rmX5_move [.ref a0, .int a1, .int a2, .int a3, .int a4, .int a5] S (x.map (fun y => ((some (.int y.1)), y.2)) id) :=
  zMetT_of hlt (by decide) (Nat.le_of_ble_eq_true rfl) (fun G h0 hnt hE hEx => wX5_move a0 a1 a2 a3 a4 a5 S h0 (fun o => o = some x) (fun h => nomatch h) hnt (fun v S1 h => by cases h; exact hE _ _ rfl) (fun E h hh => by cases hh; exact hEx _ _ rfl)) hf
theorem dX0_isLike_0 : decode cX0_isLike 0 = .ok (.aload_n 0, 1) := by decide +kernel
theorem dX0_isLike_1 : decode cX0_isLike 1 = .ok (.getfield 9, 3) := by decide +kernel
theorem dX0_isLike_4 : decode cX0_isLike 4 = .ok (.aload_n 1, 1) := by decide +kernel
theorem dX0_isLike_5 : decode cX0_isLike 5 = .ok (.getfield 9, 3) := by decide +kernel
theorem dX0_isLike_8 : decode cX0_isLike 8 = .ok (.if_icmp .ne 29, 3) := by decide +kernel
theorem dX0_isLike_11 : decode cX0_isLike 11 = .ok (.aload_n 0, 1) := by decide +kernel
theorem dX0_isLike_12 : decode cX0_isLike 12 = .ok (.getfield 15, 3) := by decide +kernel
theorem dX0_isLike_15 : decode cX0_isLike 15 = .ok (.aload_n 1, 1) := by decide +kernel
theorem dX0_isLike_16 : decode cX0_isLike 16 = .ok (.getfield 15, 3) := by decide +kernel
theorem dX0_isLike_19 : decode cX0_isLike 19 = .ok (.if_icmp .ne 18, 3) := by decide +kernel
theorem dX0_isLike_22 : decode cX0_isLike 22 = .ok (.aload_n 0, 1) := by decide +kernel
theorem dX0_isLike_23 : decode cX0_isLike 23 = .ok (.getfield 18, 3) := by decide +kernel
theorem dX0_isLike_26 : decode cX0_isLike 26 = .ok (.aload_n 1, 1) := by decide +kernel
theorem dX0_isLike_27 : decode cX0_isLike 27 = .ok (.getfield 18, 3) := by decide +kernel
theorem dX0_isLike_30 : decode cX0_isLike 30 = .ok (.if_icmp .ne 7, 3) := by decide +kernel
theorem dX0_isLike_33 : decode cX0_isLike 33 = .ok (.iconst 1, 1) := by decide +kernel
theorem dX0_isLike_34 : decode cX0_isLike 34 = .ok (.goto 4, 3) := by decide +kernel
theorem dX0_isLike_37 : decode cX0_isLike 37 = .ok (.iconst 0, 1) := by decide +kernel
theorem dX0_isLike_38 : decode cX0_isLike 38 = .ok (.ireturn, 1) := by decide +kernel
abbrev rmX0_isLike : Room := { frames := 1, cells := 0, slots := 0, locals := 20 }
theorem zyX0_isLike : zyOK yX0_isLike 1 := ⟨by decide +kernel, by decide +kernel, by decide +kernel⟩
set_option maxHeartbeats 4000000 in
set_option maxRecDepth 100000 in
theorem wX0_isLike {G : ZG} (a0 : Nat) (a1 : Nat) (S : ZS) (h0 : zFix G cX0_isLike RX0 2 (some .boolean) rmX0_isLike) (C : Option Int32 → Prop) (hC : ¬ C none) (hE : ∀ v : Int32, C (some v) → zEnd G (some (.int v)) S rmX0_isLike) : zV G 2 S 0 0 0 [(0, .ref a0), (1, .ref a1)] [] (C (fX0_isLike a0 a1 S)) := by
  have J38 : ∀ (s0_38 : Int32), zV G 2 S 0 0 38 [] [.int s0_38] (C (fX0_isLike_J38 s0_38 S)) := by
    intro s0_38
    unfold fX0_isLike_J38
    exact zr_zret C hC h0 rfl dX0_isLike_38 (fun w h => hE _ h) (by decide) (by decide)
  have J37 : zV G 2 S 0 0 37 [] [] (C (fX0_isLike_J37 S)) := by
    unfold fX0_isLike_J37
    refine zr_iconst (0 : Int32) h0 (by decide) dX0_isLike_37 (n := 38) rfl ?_
    exact J38 (0 : Int32)
  unfold fX0_isLike
  refine zr_aload_n h0 dX0_isLike_0 rfl (n := 1) rfl ?_
  refine zr_getI C hC h0 zcX0 (k := 0) (by decide) zw_227 dX0_isLike_1 (n := 4) rfl (fun v1 => ?_)
  refine zr_aload_n h0 dX0_isLike_4 rfl (n := 5) rfl ?_
  refine zr_getI C hC h0 zcX0 (k := 0) (by decide) zw_227 dX0_isLike_5 (n := 8) rfl (fun v2 => ?_)
  refine zr_icmp_ne C (tgt := 37) h0 dX0_isLike_8 (by decide) (n := 11) rfl ?_ ?_
  · refine zr_aload_n h0 dX0_isLike_11 rfl (n := 12) rfl ?_
    refine zr_getI C hC h0 zcX0 (k := 1) (by decide) zw_231 dX0_isLike_12 (n := 15) rfl (fun v3 => ?_)
    refine zr_aload_n h0 dX0_isLike_15 rfl (n := 16) rfl ?_
    refine zr_getI C hC h0 zcX0 (k := 1) (by decide) zw_231 dX0_isLike_16 (n := 19) rfl (fun v4 => ?_)
    refine zr_icmp_ne C (tgt := 37) h0 dX0_isLike_19 (by decide) (n := 22) rfl ?_ ?_
    · refine zr_aload_n h0 dX0_isLike_22 rfl (n := 23) rfl ?_
      refine zr_getI C hC h0 zcX0 (k := 2) (by decide) zw_235 dX0_isLike_23 (n := 26) rfl (fun v5 => ?_)
      refine zr_aload_n h0 dX0_isLike_26 rfl (n := 27) rfl ?_
      refine zr_getI C hC h0 zcX0 (k := 2) (by decide) zw_235 dX0_isLike_27 (n := 30) rfl (fun v6 => ?_)
      refine zr_icmp_ne C (tgt := 37) h0 dX0_isLike_30 (by decide) (n := 33) rfl ?_ ?_
      · refine zv_sub (lv' := []) ?_ (zsub_of [] rfl)
        refine zr_iconst (1 : Int32) h0 (by decide) dX0_isLike_33 (n := 34) rfl ?_
        refine zr_goto (tgt := 38) h0 dX0_isLike_34 (by decide) ?_
        exact J38 (1 : Int32)
      · refine zv_sub (lv' := []) ?_ (zsub_of [] rfl)
        exact J37
    · refine zv_sub (lv' := []) ?_ (zsub_of [] rfl)
      exact J37
  · refine zv_sub (lv' := []) ?_ (zsub_of [] rfl)
    exact J37
theorem kX0_isLike (l : Launch) (D : ZD) (z0 : Nat) (a0 : Nat) (a1 : Nat) (S : ZS) (x : Int32) (hf : fX0_isLike a0 a1 S = some x) : zMet l D z0 yX0_isLike cX0_isLike 2 (some .boolean) rmX0_isLike [.ref a0, .ref a1] S (some (.int x)) S :=
  zMet_of (by decide) (Nat.le_of_ble_eq_true rfl) (fun G h0 hini hE => wX0_isLike a0 a1 S h0 (fun o => o = some x) (fun h => nomatch h) (fun v h => by cases h; exact hE)) hf
theorem dX5_sum_0 : decode cX5_sum 0 = .ok (.aload_n 0, 1) := by decide +kernel
theorem dX5_sum_1 : decode cX5_sum 1 = .ok (.iload_n 1, 1) := by decide +kernel
theorem dX5_sum_2 : decode cX5_sum 2 = .ok (.invokevirtual 87, 3) := by decide +kernel
theorem dX5_sum_5 : decode cX5_sum 5 = .ok (.astore_n 3, 1) := by decide +kernel
theorem dX5_sum_6 : decode cX5_sum 6 = .ok (.aload_n 0, 1) := by decide +kernel
theorem dX5_sum_7 : decode cX5_sum 7 = .ok (.iload_n 2, 1) := by decide +kernel
theorem dX5_sum_8 : decode cX5_sum 8 = .ok (.invokevirtual 87, 3) := by decide +kernel
theorem dX5_sum_11 : decode cX5_sum 11 = .ok (.astore 4, 2) := by decide +kernel
theorem dX5_sum_13 : decode cX5_sum 13 = .ok (.aload_n 3, 1) := by decide +kernel
theorem dX5_sum_14 : decode cX5_sum 14 = .ok (.aload 4, 2) := by decide +kernel
theorem dX5_sum_16 : decode cX5_sum 16 = .ok (.invokevirtual 120, 3) := by decide +kernel
theorem dX5_sum_19 : decode cX5_sum 19 = .ok (.ifCond .ne 13, 3) := by decide +kernel
theorem dX5_sum_22 : decode cX5_sum 22 = .ok (.new 56, 3) := by decide +kernel
theorem dX5_sum_25 : decode cX5_sum 25 = .ok (.dup, 1) := by decide +kernel
theorem dX5_sum_26 : decode cX5_sum 26 = .ok (.ldc 124, 2) := by decide +kernel
theorem dX5_sum_28 : decode cX5_sum 28 = .ok (.invokespecial 60, 3) := by decide +kernel
theorem dX5_sum_31 : decode cX5_sum 31 = .ok (.athrow, 1) := by decide +kernel
theorem dX5_sum_32 : decode cX5_sum 32 = .ok (.aload_n 0, 1) := by decide +kernel
theorem dX5_sum_33 : decode cX5_sum 33 = .ok (.aload_n 3, 1) := by decide +kernel
theorem dX5_sum_34 : decode cX5_sum 34 = .ok (.getfield 126, 3) := by decide +kernel
theorem dX5_sum_37 : decode cX5_sum 37 = .ok (.aload_n 3, 1) := by decide +kernel
theorem dX5_sum_38 : decode cX5_sum 38 = .ok (.getfield 129, 3) := by decide +kernel
theorem dX5_sum_41 : decode cX5_sum 41 = .ok (.aload_n 3, 1) := by decide +kernel
theorem dX5_sum_42 : decode cX5_sum 42 = .ok (.getfield 132, 3) := by decide +kernel
theorem dX5_sum_45 : decode cX5_sum 45 = .ok (.invokevirtual 68, 3) := by decide +kernel
theorem dX5_sum_48 : decode cX5_sum 48 = .ok (.astore 5, 2) := by decide +kernel
theorem dX5_sum_50 : decode cX5_sum 50 = .ok (.iconst 0, 1) := by decide +kernel
theorem dX5_sum_51 : decode cX5_sum 51 = .ok (.istore 6, 2) := by decide +kernel
theorem dX5_sum_53 : decode cX5_sum 53 = .ok (.iload 6, 2) := by decide +kernel
theorem dX5_sum_55 : decode cX5_sum 55 = .ok (.aload 5, 2) := by decide +kernel
theorem dX5_sum_57 : decode cX5_sum 57 = .ok (.getfield 126, 3) := by decide +kernel
theorem dX5_sum_60 : decode cX5_sum 60 = .ok (.if_icmp .ge 87, 3) := by decide +kernel
theorem dX5_sum_63 : decode cX5_sum 63 = .ok (.iconst 0, 1) := by decide +kernel
theorem dX5_sum_64 : decode cX5_sum 64 = .ok (.istore 7, 2) := by decide +kernel
theorem dX5_sum_66 : decode cX5_sum 66 = .ok (.iload 7, 2) := by decide +kernel
theorem dX5_sum_68 : decode cX5_sum 68 = .ok (.aload 5, 2) := by decide +kernel
theorem dX5_sum_70 : decode cX5_sum 70 = .ok (.getfield 129, 3) := by decide +kernel
theorem dX5_sum_73 : decode cX5_sum 73 = .ok (.if_icmp .ge 68, 3) := by decide +kernel
theorem dX5_sum_76 : decode cX5_sum 76 = .ok (.iconst 0, 1) := by decide +kernel
theorem dX5_sum_77 : decode cX5_sum 77 = .ok (.istore 8, 2) := by decide +kernel
theorem dX5_sum_79 : decode cX5_sum 79 = .ok (.iload 8, 2) := by decide +kernel
theorem dX5_sum_81 : decode cX5_sum 81 = .ok (.aload 5, 2) := by decide +kernel
theorem dX5_sum_83 : decode cX5_sum 83 = .ok (.getfield 132, 3) := by decide +kernel
theorem dX5_sum_86 : decode cX5_sum 86 = .ok (.if_icmp .ge 49, 3) := by decide +kernel
theorem dX5_sum_89 : decode cX5_sum 89 = .ok (.aload 5, 2) := by decide +kernel
theorem dX5_sum_91 : decode cX5_sum 91 = .ok (.iload 6, 2) := by decide +kernel
theorem dX5_sum_93 : decode cX5_sum 93 = .ok (.iload 7, 2) := by decide +kernel
theorem dX5_sum_95 : decode cX5_sum 95 = .ok (.iload 8, 2) := by decide +kernel
theorem dX5_sum_97 : decode cX5_sum 97 = .ok (.aload_n 3, 1) := by decide +kernel
theorem dX5_sum_98 : decode cX5_sum 98 = .ok (.iload 6, 2) := by decide +kernel
theorem dX5_sum_100 : decode cX5_sum 100 = .ok (.iload 7, 2) := by decide +kernel
theorem dX5_sum_102 : decode cX5_sum 102 = .ok (.iload 8, 2) := by decide +kernel
theorem dX5_sum_104 : decode cX5_sum 104 = .ok (.invokevirtual 97, 3) := by decide +kernel
theorem dX5_sum_107 : decode cX5_sum 107 = .ok (.aload 4, 2) := by decide +kernel
theorem dX5_sum_109 : decode cX5_sum 109 = .ok (.iload 6, 2) := by decide +kernel
theorem dX5_sum_111 : decode cX5_sum 111 = .ok (.iload 7, 2) := by decide +kernel
theorem dX5_sum_113 : decode cX5_sum 113 = .ok (.iload 8, 2) := by decide +kernel
theorem dX5_sum_115 : decode cX5_sum 115 = .ok (.invokevirtual 97, 3) := by decide +kernel
theorem dX5_sum_118 : decode cX5_sum 118 = .ok (.iadd, 1) := by decide +kernel
theorem dX5_sum_119 : decode cX5_sum 119 = .ok (.aload_n 0, 1) := by decide +kernel
theorem dX5_sum_120 : decode cX5_sum 120 = .ok (.getfield 46, 3) := by decide +kernel
theorem dX5_sum_123 : decode cX5_sum 123 = .ok (.invokestatic 83, 3) := by decide +kernel
theorem dX5_sum_126 : decode cX5_sum 126 = .ok (.invokevirtual 76, 3) := by decide +kernel
theorem dX5_sum_129 : decode cX5_sum 129 = .ok (.iinc 8 1, 3) := by decide +kernel
theorem dX5_sum_132 : decode cX5_sum 132 = .ok (.goto (-53), 3) := by decide +kernel
theorem dX5_sum_135 : decode cX5_sum 135 = .ok (.iinc 7 1, 3) := by decide +kernel
theorem dX5_sum_138 : decode cX5_sum 138 = .ok (.goto (-72), 3) := by decide +kernel
theorem dX5_sum_141 : decode cX5_sum 141 = .ok (.iinc 6 1, 3) := by decide +kernel
theorem dX5_sum_144 : decode cX5_sum 144 = .ok (.goto (-91), 3) := by decide +kernel
theorem dX5_sum_147 : decode cX5_sum 147 = .ok (.aload_n 0, 1) := by decide +kernel
theorem dX5_sum_148 : decode cX5_sum 148 = .ok (.getfield 50, 3) := by decide +kernel
theorem dX5_sum_151 : decode cX5_sum 151 = .ok (.iconst 1, 1) := by decide +kernel
theorem dX5_sum_152 : decode cX5_sum 152 = .ok (.isub, 1) := by decide +kernel
theorem dX5_sum_153 : decode cX5_sum 153 = .ok (.ireturn, 1) := by decide +kernel
abbrev rmX5_sum : Room := { frames := 8, cells := 7, slots := 99, locals := 134 }
theorem zyX5_sum : zyOK yX5_sum 2 := ⟨by decide +kernel, by decide +kernel, by decide +kernel⟩
set_option maxHeartbeats 4000000 in
set_option maxRecDepth 100000 in
theorem wX5_sum {G : ZG} (a0 : Nat) (a1 : Int32) (a2 : Int32) (S : ZS) (h0 : zFix G cX5_sum RX5 9 (some .int) rmX5_sum) (C : Option ((Int32 × ZS) ⊕ ZX) → Prop) (hC : ¬ C none) (hnt : zNoTab G) (hE : ∀ (v : Int32) (S1 : ZS), C (some (.inl (v, S1))) → zEndT G (some (.int v)) S1 rmX5_sum) (hEx : ∀ (E : String) (h : ZH), C (some (.inr (E, h))) → zEndX G E h rmX5_sum) : zV G 9 S 0 0 0 [(0, .ref a0), (1, .int a1), (2, .int a2)] [] (C (fX5_sum a0 a1 a2 S)) := by
  unfold fX5_sum
  refine zr_aload_n h0 dX5_sum_0 rfl (n := 1) rfl ?_
  refine zr_iload_n h0 dX5_sum_1 rfl (n := 2) rfl ?_
  refine zr_cTR C hC 1 6 h0 (fun x hx => zk_VT h0 zcX5 (zcl_ex hx) (fun l D z0 hlt => kX5_needCube l D z0 hlt a0 a1 S x (zcl_of hx)) hnt zw_296 zw_298 zs_2 zw_1 zw_299 rfl zyX5_needCube (As := [.int a1]) (st := []) rfl (by decide) rfl (Nat.le_of_ble_eq_true rfl) (by decide) dX5_sum_2) hnt rfl rfl (by decide) (by decide) (n := 5) rfl (fun z h => hEx _ _ h) (fun x1 => ?_)
  refine zr_astore_n [(0, .ref a0), (1, .int a1), (2, .int a2), (3, .ref x1.1)] h0 dX5_sum_5 (by decide) rfl (n := 6) rfl ?_
  refine zr_aload_n h0 dX5_sum_6 rfl (n := 7) rfl ?_
  refine zr_iload_n h0 dX5_sum_7 rfl (n := 8) rfl ?_
  refine zr_cTR C hC 2 12 h0 (fun x hx => zk_VT h0 zcX5 (zcl_ex hx) (fun l D z0 hlt => kX5_needCube l D z0 hlt a0 a2 x1.2 x (zcl_of hx)) hnt zw_296 zw_298 zs_2 zw_1 zw_299 rfl zyX5_needCube (As := [.int a2]) (st := []) rfl (by decide) rfl (Nat.le_of_ble_eq_true rfl) (by decide) dX5_sum_8) hnt rfl rfl (by decide) (by decide) (n := 11) rfl (fun z h => hEx _ _ h) (fun x2 => ?_)
  refine zr_astore [(0, .ref a0), (1, .int a1), (2, .int a2), (3, .ref x1.1), (4, .ref x2.1)] h0 dX5_sum_11 (by decide) rfl (n := 13) rfl ?_
  refine zr_aload_n h0 dX5_sum_13 rfl (n := 14) rfl ?_
  refine zr_aload h0 dX5_sum_14 rfl (n := 16) rfl ?_
  refine zr_cRI C hC 2 12 (fun x hx => zk_V h0 zcX0 (zcl_ex hx) (fun l D z0 => kX0_isLike l D z0 x1.1 x2.1 x2.2 x (zcl_of hx)) zw_371 zw_372 zw_373 zw_10 zw_374 rfl zyX0_isLike (As := [.ref x2.1]) (st := []) rfl (by decide) rfl (Nat.le_of_ble_eq_true rfl) (by decide) dX5_sum_16) rfl rfl (n := 19) rfl (fun x3 => ?_)
  refine zr_if_ne C (tgt := 32) h0 dX5_sum_19 (by decide) (n := 22) rfl ?_ ?_
  · refine zv_sub (lv' := []) ?_ (zsub_of [] rfl)
    exact zr_throw h0 hnt (cls := "java/lang/IllegalArgumentException") (text := "the sizes are unlike") (names := ["java/lang/RuntimeException", "java/lang/Exception"]) (by decide +kernel) zfitN zw_118 zw_8 (by decide +kernel) (by decide +kernel) zat_X5_60 zbad_X5_60 zgd_X5_60 dX5_sum_22 dX5_sum_25 dX5_sum_26 dX5_sum_28 dX5_sum_31 (by decide) (Nat.le_of_ble_eq_true rfl) (by decide) (by decide) (fun h => hEx _ _ h)
  · refine zv_sub (lv' := [(0, .ref a0), (3, .ref x1.1), (4, .ref x2.1)]) ?_ (zsub_of [0, 3, 4] rfl)
    refine zr_aload_n h0 dX5_sum_32 rfl (n := 33) rfl ?_
    refine zr_aload_n h0 dX5_sum_33 rfl (n := 34) rfl ?_
    refine zr_getI C hC h0 zcX0 (k := 0) (by decide) zw_230 dX5_sum_34 (n := 37) rfl (fun v4 => ?_)
    refine zr_aload_n h0 dX5_sum_37 rfl (n := 38) rfl ?_
    refine zr_getI C hC h0 zcX0 (k := 1) (by decide) zw_234 dX5_sum_38 (n := 41) rfl (fun v5 => ?_)
    refine zr_aload_n h0 dX5_sum_41 rfl (n := 42) rfl ?_
    refine zr_getI C hC h0 zcX0 (k := 2) (by decide) zw_238 dX5_sum_42 (n := 45) rfl (fun v6 => ?_)
    refine zr_cTR C hC 7 99 h0 (fun x hx => zk_VT h0 zcX5 (zcl_ex hx) (fun l D z0 hlt => kX5_addCube l D z0 hlt a0 v4 v5 v6 x2.2 x (zcl_of hx)) hnt zw_213 zw_215 zs_1 zw_1 zw_216 rfl zyX5_addCube (As := [.int v4, .int v5, .int v6]) (st := []) rfl (by decide) rfl (Nat.le_of_ble_eq_true rfl) (by decide) dX5_sum_45) hnt rfl rfl (by decide) (by decide) (n := 48) rfl (fun z h => hEx _ _ h) (fun x7 => ?_)
    refine zr_astore [(0, .ref a0), (3, .ref x1.1), (4, .ref x2.1), (5, .ref x7.1)] h0 dX5_sum_48 (by decide) rfl (n := 50) rfl ?_
    refine zr_iconst (0 : Int32) h0 (by decide) dX5_sum_50 (n := 51) rfl ?_
    refine zr_istore [(0, .ref a0), (3, .ref x1.1), (4, .ref x2.1), (5, .ref x7.1), (6, .int (0 : Int32))] h0 dX5_sum_51 (by decide) rfl (n := 53) rfl ?_
    refine zr_loop hC (fX5_sum_B53 a0 x1.1 x2.1 x7.1) (fun y => [(0, .ref a0), (3, .ref x1.1), (4, .ref x2.1), (5, .ref x7.1), (6, .int y.1)]) (fun y => y.2) zF ((0 : Int32), x7.2) (fun C53 hC53 hX53 hL53 t53 => ?_)
    unfold fX5_sum_B53
    refine zr_iload h0 dX5_sum_53 rfl (n := 55) rfl ?_
    refine zr_aload h0 dX5_sum_55 rfl (n := 57) rfl ?_
    refine zr_getI C53 hC53 h0 zcX0 (k := 0) (by decide) zw_230 dX5_sum_57 (n := 60) rfl (fun v30 => ?_)
    refine zr_icmp_ge C53 (tgt := 147) h0 dX5_sum_60 (by decide) (n := 63) rfl ?_ ?_
    · refine zr_ex hX53 ?_
      refine zv_sub (lv' := [(0, .ref a0)]) ?_ (zsub_of [0] rfl)
      refine zr_aload_n h0 dX5_sum_147 rfl (n := 148) rfl ?_
      refine zr_getI C hC h0 zcX5 (k := 7) (by decide) zw_81 dX5_sum_148 (n := 151) rfl (fun v31 => ?_)
      refine zr_iconst (1 : Int32) h0 (by decide) dX5_sum_151 (n := 152) rfl ?_
      refine zr_isub h0 dX5_sum_152 (n := 153) rfl ?_
      exact zr_iretT h0 rfl dX5_sum_153 (hE _ _) (by decide) (by decide)
    · refine zr_iconst (0 : Int32) h0 (by decide) dX5_sum_63 (n := 64) rfl ?_
      refine zr_istore [(0, .ref a0), (3, .ref x1.1), (4, .ref x2.1), (5, .ref x7.1), (6, .int t53.1), (7, .int (0 : Int32))] h0 dX5_sum_64 (by decide) rfl (n := 66) rfl ?_
      refine zr_loop hC53 (fX5_sum_B66 a0 x1.1 x2.1 x7.1 t53.1) (fun y => [(0, .ref a0), (3, .ref x1.1), (4, .ref x2.1), (5, .ref x7.1), (6, .int t53.1), (7, .int y.1)]) (fun y => y.2) zF ((0 : Int32), t53.2) (fun C66 hC66 hX66 hL66 t66 => ?_)
      unfold fX5_sum_B66
      refine zr_iload h0 dX5_sum_66 rfl (n := 68) rfl ?_
      refine zr_aload h0 dX5_sum_68 rfl (n := 70) rfl ?_
      refine zr_getI C66 hC66 h0 zcX0 (k := 1) (by decide) zw_234 dX5_sum_70 (n := 73) rfl (fun v32 => ?_)
      refine zr_icmp_ge C66 (tgt := 141) h0 dX5_sum_73 (by decide) (n := 76) rfl ?_ ?_
      · refine zr_ex hX66 ?_
        refine zv_sub (lv' := [(0, .ref a0), (3, .ref x1.1), (4, .ref x2.1), (5, .ref x7.1), (6, .int t53.1)]) ?_ (zsub_of [0, 1, 2, 3, 4] rfl)
        refine zr_iinc (1 : Int32) [(0, .ref a0), (3, .ref x1.1), (4, .ref x2.1), (5, .ref x7.1), (6, .int (t53.1 + (1 : Int32)))] h0 dX5_sum_141 rfl (by decide) rfl rfl (n := 144) rfl ?_
        refine zr_goto (tgt := 53) h0 dX5_sum_144 (by decide) ?_
        exact hL53 (t53.1 + (1 : Int32), t66.2)
      · refine zr_iconst (0 : Int32) h0 (by decide) dX5_sum_76 (n := 77) rfl ?_
        refine zr_istore [(0, .ref a0), (3, .ref x1.1), (4, .ref x2.1), (5, .ref x7.1), (6, .int t53.1), (7, .int t66.1), (8, .int (0 : Int32))] h0 dX5_sum_77 (by decide) rfl (n := 79) rfl ?_
        refine zr_loop hC66 (fX5_sum_B79 a0 x1.1 x2.1 x7.1 t53.1 t66.1) (fun y => [(0, .ref a0), (3, .ref x1.1), (4, .ref x2.1), (5, .ref x7.1), (6, .int t53.1), (7, .int t66.1), (8, .int y.1)]) (fun y => y.2) zF ((0 : Int32), t66.2) (fun C79 hC79 hX79 hL79 t79 => ?_)
        unfold fX5_sum_B79
        refine zr_iload h0 dX5_sum_79 rfl (n := 81) rfl ?_
        refine zr_aload h0 dX5_sum_81 rfl (n := 83) rfl ?_
        refine zr_getI C79 hC79 h0 zcX0 (k := 2) (by decide) zw_238 dX5_sum_83 (n := 86) rfl (fun v33 => ?_)
        refine zr_icmp_ge C79 (tgt := 135) h0 dX5_sum_86 (by decide) (n := 89) rfl ?_ ?_
        · refine zr_ex hX79 ?_
          refine zv_sub (lv' := [(0, .ref a0), (3, .ref x1.1), (4, .ref x2.1), (5, .ref x7.1), (6, .int t53.1), (7, .int t66.1)]) ?_ (zsub_of [0, 1, 2, 3, 4, 5] rfl)
          refine zr_iinc (1 : Int32) [(0, .ref a0), (3, .ref x1.1), (4, .ref x2.1), (5, .ref x7.1), (6, .int t53.1), (7, .int (t66.1 + (1 : Int32)))] h0 dX5_sum_135 rfl (by decide) rfl rfl (n := 138) rfl ?_
          refine zr_goto (tgt := 66) h0 dX5_sum_138 (by decide) ?_
          exact hL66 (t66.1 + (1 : Int32), t79.2)
        · refine zr_aload h0 dX5_sum_89 rfl (n := 91) rfl ?_
          refine zr_iload h0 dX5_sum_91 rfl (n := 93) rfl ?_
          refine zr_iload h0 dX5_sum_93 rfl (n := 95) rfl ?_
          refine zr_iload h0 dX5_sum_95 rfl (n := 97) rfl ?_
          refine zr_aload_n h0 dX5_sum_97 rfl (n := 98) rfl ?_
          refine zr_iload h0 dX5_sum_98 rfl (n := 100) rfl ?_
          refine zr_iload h0 dX5_sum_100 rfl (n := 102) rfl ?_
          refine zr_iload h0 dX5_sum_102 rfl (n := 104) rfl ?_
          refine zr_cRI C79 hC79 7 99 (fun x hx => zk_V h0 zcX0 (zcl_ex hx) (fun l D z0 => kX0_numberAt l D z0 x1.1 t53.1 t66.1 t79.1 t79.2 x (zcl_of hx)) zw_324 zw_325 zw_326 zw_10 zw_327 rfl zyX0_numberAt (As := [.int t53.1, .int t66.1, .int t79.1]) (st := [.int t79.1, .int t66.1, .int t53.1, .ref x7.1]) rfl (by decide) rfl (Nat.le_of_ble_eq_true rfl) (by decide) dX5_sum_104) rfl rfl (n := 107) rfl (fun x34 => ?_)
          refine zr_aload h0 dX5_sum_107 rfl (n := 109) rfl ?_
          refine zr_iload h0 dX5_sum_109 rfl (n := 111) rfl ?_
          refine zr_iload h0 dX5_sum_111 rfl (n := 113) rfl ?_
          refine zr_iload h0 dX5_sum_113 rfl (n := 115) rfl ?_
          refine zr_cRI C79 hC79 7 99 (fun x hx => zk_V h0 zcX0 (zcl_ex hx) (fun l D z0 => kX0_numberAt l D z0 x2.1 t53.1 t66.1 t79.1 t79.2 x (zcl_of hx)) zw_324 zw_325 zw_326 zw_10 zw_327 rfl zyX0_numberAt (As := [.int t53.1, .int t66.1, .int t79.1]) (st := [.int x34, .int t79.1, .int t66.1, .int t53.1, .ref x7.1]) rfl (by decide) rfl (Nat.le_of_ble_eq_true rfl) (by decide) dX5_sum_115) rfl rfl (n := 118) rfl (fun x35 => ?_)
          refine zr_iadd h0 dX5_sum_118 (n := 119) rfl ?_
          refine zr_aload_n h0 dX5_sum_119 rfl (n := 120) rfl ?_
          refine zr_getI C79 hC79 h0 zcX5 (k := 6) (by decide) zw_80 dX5_sum_120 (n := 123) rfl (fun v36 => ?_)
          refine zr_cRI C79 hC79 7 99 (fun x hx => zk_S h0 (fun l D z0 => kX5_remainder l D z0 (x34 + x35) v36 t79.2 x hx) zw_285 zw_286 zw_1 zw_287 zyX5_remainder (As := [.int (x34 + x35), .int v36]) (st := [.int t79.1, .int t66.1, .int t53.1, .ref x7.1]) rfl (by decide) rfl (Nat.le_of_ble_eq_true rfl) (by decide) dX5_sum_123) rfl rfl (n := 126) rfl (fun x37 => ?_)
          refine zr_cMV C79 hC79 7 99 (fun x hx => zk_V h0 zcX0 (zcl_ex hx) (fun l D z0 => kX0_enter l D z0 x7.1 t53.1 t66.1 t79.1 x37 t79.2 x (zcl_of hx)) zw_261 zw_262 zw_263 zw_10 zw_264 rfl zyX0_enter (As := [.int t53.1, .int t66.1, .int t79.1, .int x37]) (st := []) rfl (by decide) rfl (Nat.le_of_ble_eq_true rfl) (by decide) dX5_sum_126) rfl rfl (n := 129) rfl (fun x38 => ?_)
          refine zr_iinc (1 : Int32) [(0, .ref a0), (3, .ref x1.1), (4, .ref x2.1), (5, .ref x7.1), (6, .int t53.1), (7, .int t66.1), (8, .int (t79.1 + (1 : Int32)))] h0 dX5_sum_129 rfl (by decide) rfl rfl (n := 132) rfl ?_
          refine zr_goto (tgt := 79) h0 dX5_sum_132 (by decide) ?_
          exact hL79 (t79.1 + (1 : Int32), x38)
theorem kX5_sum (l : Launch) (D : ZD) (z0 : Nat) (hlt : l.stackTraces = false) (a0 : Nat) (a1 : Int32) (a2 : Int32) (S : ZS) (x : ((Int32 × ZS) ⊕ ZX)) (hf : fX5_sum a0 a1 a2 S = some x) : zMetT l D z0 yX5_sum cX5_sum 9 (some .int) rmX5_sum [.ref a0, .int a1, .int a2] S (x.map (fun y => ((some (.int y.1)), y.2)) id) :=
  zMetT_of hlt (by decide) (Nat.le_of_ble_eq_true rfl) (fun G h0 hnt hE hEx => wX5_sum a0 a1 a2 S h0 (fun o => o = some x) (fun h => nomatch h) hnt (fun v S1 h => by cases h; exact hE _ _ rfl) (fun E h hh => by cases hh; exact hEx _ _ rfl)) hf
theorem dX5_quotient_0 : decode cX5_quotient 0 = .ok (.iload_n 1, 1) := by decide +kernel
theorem dX5_quotient_1 : decode cX5_quotient 1 = .ok (.ifCond .le 9, 3) := by decide +kernel
theorem dX5_quotient_4 : decode cX5_quotient 4 = .ok (.iload_n 0, 1) := by decide +kernel
theorem dX5_quotient_5 : decode cX5_quotient 5 = .ok (.iload_n 1, 1) := by decide +kernel
theorem dX5_quotient_6 : decode cX5_quotient 6 = .ok (.idiv, 1) := by decide +kernel
theorem dX5_quotient_7 : decode cX5_quotient 7 = .ok (.goto 4, 3) := by decide +kernel
theorem dX5_quotient_10 : decode cX5_quotient 10 = .ok (.iconst 0, 1) := by decide +kernel
theorem dX5_quotient_11 : decode cX5_quotient 11 = .ok (.ireturn, 1) := by decide +kernel
abbrev rmX5_quotient : Room := { frames := 1, cells := 0, slots := 0, locals := 20 }
theorem zyX5_quotient : zyOK yX5_quotient 2 := ⟨by decide +kernel, by decide +kernel, by decide +kernel⟩
set_option maxHeartbeats 4000000 in
set_option maxRecDepth 100000 in
theorem wX5_quotient {G : ZG} (a0 : Int32) (a1 : Int32) (S : ZS) (h0 : zFix G cX5_quotient RX5 2 (some .int) rmX5_quotient) (C : Option Int32 → Prop) (hC : ¬ C none) (hE : ∀ v : Int32, C (some v) → zEnd G (some (.int v)) S rmX5_quotient) : zV G 2 S 0 0 0 [(0, .int a0), (1, .int a1)] [] (C (fX5_quotient a0 a1)) := by
  have J11 : ∀ (s0_11 : Int32), zV G 2 S 0 0 11 [] [.int s0_11] (C (fX5_quotient_J11 s0_11)) := by
    intro s0_11
    unfold fX5_quotient_J11
    exact zr_iret h0 rfl dX5_quotient_11 (hE _) (by decide) (by decide)
  unfold fX5_quotient
  refine zr_iload_n h0 dX5_quotient_0 rfl (n := 1) rfl ?_
  refine zr_if_le C (tgt := 10) h0 dX5_quotient_1 (by decide) (n := 4) rfl ?_ ?_
  · refine zv_sub (lv' := []) ?_ (zsub_of [] rfl)
    refine zr_iconst (0 : Int32) h0 (by decide) dX5_quotient_10 (n := 11) rfl ?_
    exact J11 (0 : Int32)
  · refine zr_iload_n h0 dX5_quotient_4 rfl (n := 5) rfl ?_
    refine zr_iload_n h0 dX5_quotient_5 rfl (n := 6) rfl ?_
    refine zr_idiv C hC h0 dX5_quotient_6 (n := 7) rfl (fun v1 => ?_)
    refine zr_goto (tgt := 11) h0 dX5_quotient_7 (by decide) ?_
    refine zv_sub (lv' := []) ?_ (zsub_of [] rfl)
    exact J11 v1
theorem kX5_quotient (l : Launch) (D : ZD) (z0 : Nat) (a0 : Int32) (a1 : Int32) (S : ZS) (x : Int32) (hf : fX5_quotient a0 a1 = some x) : zMet l D z0 yX5_quotient cX5_quotient 2 (some .int) rmX5_quotient [.int a0, .int a1] S (some (.int x)) S :=
  zMet_of (by decide) (Nat.le_of_ble_eq_true rfl) (fun G h0 hini hE => wX5_quotient a0 a1 S h0 (fun o => o = some x) (fun h => nomatch h) (fun v h => by cases h; exact hE)) hf
theorem dX5_numberOfProduct_0 : decode cX5_numberOfProduct 0 = .ok (.aload_n 0, 1) := by decide +kernel
theorem dX5_numberOfProduct_1 : decode cX5_numberOfProduct 1 = .ok (.iload_n 2, 1) := by decide +kernel
theorem dX5_numberOfProduct_2 : decode cX5_numberOfProduct 2 = .ok (.aload_n 1, 1) := by decide +kernel
theorem dX5_numberOfProduct_3 : decode cX5_numberOfProduct 3 = .ok (.getfield 126, 3) := by decide +kernel
theorem dX5_numberOfProduct_6 : decode cX5_numberOfProduct 6 = .ok (.invokestatic 290, 3) := by decide +kernel
theorem dX5_numberOfProduct_9 : decode cX5_numberOfProduct 9 = .ok (.iload_n 3, 1) := by decide +kernel
theorem dX5_numberOfProduct_10 : decode cX5_numberOfProduct 10 = .ok (.aload_n 1, 1) := by decide +kernel
theorem dX5_numberOfProduct_11 : decode cX5_numberOfProduct 11 = .ok (.getfield 129, 3) := by decide +kernel
theorem dX5_numberOfProduct_14 : decode cX5_numberOfProduct 14 = .ok (.invokestatic 290, 3) := by decide +kernel
theorem dX5_numberOfProduct_17 : decode cX5_numberOfProduct 17 = .ok (.iload 4, 2) := by decide +kernel
theorem dX5_numberOfProduct_19 : decode cX5_numberOfProduct 19 = .ok (.aload_n 1, 1) := by decide +kernel
theorem dX5_numberOfProduct_20 : decode cX5_numberOfProduct 20 = .ok (.getfield 132, 3) := by decide +kernel
theorem dX5_numberOfProduct_23 : decode cX5_numberOfProduct 23 = .ok (.invokestatic 290, 3) := by decide +kernel
theorem dX5_numberOfProduct_26 : decode cX5_numberOfProduct 26 = .ok (.invokevirtual 97, 3) := by decide +kernel
theorem dX5_numberOfProduct_29 : decode cX5_numberOfProduct 29 = .ok (.istore 5, 2) := by decide +kernel
theorem dX5_numberOfProduct_31 : decode cX5_numberOfProduct 31 = .ok (.aload_n 1, 1) := by decide +kernel
theorem dX5_numberOfProduct_32 : decode cX5_numberOfProduct 32 = .ok (.iload_n 2, 1) := by decide +kernel
theorem dX5_numberOfProduct_33 : decode cX5_numberOfProduct 33 = .ok (.aload_n 1, 1) := by decide +kernel
theorem dX5_numberOfProduct_34 : decode cX5_numberOfProduct 34 = .ok (.getfield 126, 3) := by decide +kernel
theorem dX5_numberOfProduct_37 : decode cX5_numberOfProduct 37 = .ok (.invokestatic 83, 3) := by decide +kernel
theorem dX5_numberOfProduct_40 : decode cX5_numberOfProduct 40 = .ok (.iload_n 3, 1) := by decide +kernel
theorem dX5_numberOfProduct_41 : decode cX5_numberOfProduct 41 = .ok (.aload_n 1, 1) := by decide +kernel
theorem dX5_numberOfProduct_42 : decode cX5_numberOfProduct 42 = .ok (.getfield 129, 3) := by decide +kernel
theorem dX5_numberOfProduct_45 : decode cX5_numberOfProduct 45 = .ok (.invokestatic 83, 3) := by decide +kernel
theorem dX5_numberOfProduct_48 : decode cX5_numberOfProduct 48 = .ok (.iload 4, 2) := by decide +kernel
theorem dX5_numberOfProduct_50 : decode cX5_numberOfProduct 50 = .ok (.aload_n 1, 1) := by decide +kernel
theorem dX5_numberOfProduct_51 : decode cX5_numberOfProduct 51 = .ok (.getfield 132, 3) := by decide +kernel
theorem dX5_numberOfProduct_54 : decode cX5_numberOfProduct 54 = .ok (.invokestatic 83, 3) := by decide +kernel
theorem dX5_numberOfProduct_57 : decode cX5_numberOfProduct 57 = .ok (.invokevirtual 97, 3) := by decide +kernel
theorem dX5_numberOfProduct_60 : decode cX5_numberOfProduct 60 = .ok (.istore 6, 2) := by decide +kernel
theorem dX5_numberOfProduct_62 : decode cX5_numberOfProduct 62 = .ok (.iload 5, 2) := by decide +kernel
theorem dX5_numberOfProduct_64 : decode cX5_numberOfProduct 64 = .ok (.iload 6, 2) := by decide +kernel
theorem dX5_numberOfProduct_66 : decode cX5_numberOfProduct 66 = .ok (.imul, 1) := by decide +kernel
theorem dX5_numberOfProduct_67 : decode cX5_numberOfProduct 67 = .ok (.ireturn, 1) := by decide +kernel
abbrev rmX5_numberOfProduct : Room := { frames := 3, cells := 0, slots := 0, locals := 65 }
theorem zyX5_numberOfProduct : zyOK yX5_numberOfProduct 5 := ⟨by decide +kernel, by decide +kernel, by decide +kernel⟩
set_option maxHeartbeats 4000000 in
set_option maxRecDepth 100000 in
theorem wX5_numberOfProduct {G : ZG} (a0 : Nat) (a1 : Nat) (a2 : Int32) (a3 : Int32) (a4 : Int32) (S : ZS) (h0 : zFix G cX5_numberOfProduct RX5 7 (some .int) rmX5_numberOfProduct) (C : Option Int32 → Prop) (hC : ¬ C none) (hE : ∀ v : Int32, C (some v) → zEnd G (some (.int v)) S rmX5_numberOfProduct) : zV G 7 S 0 0 0 [(0, .ref a0), (1, .ref a1), (2, .int a2), (3, .int a3), (4, .int a4)] [] (C (fX5_numberOfProduct a0 a1 a2 a3 a4 S)) := by
  unfold fX5_numberOfProduct
  refine zr_aload_n h0 dX5_numberOfProduct_0 rfl (n := 1) rfl ?_
  refine zr_iload_n h0 dX5_numberOfProduct_1 rfl (n := 2) rfl ?_
  refine zr_aload_n h0 dX5_numberOfProduct_2 rfl (n := 3) rfl ?_
  refine zr_getI C hC h0 zcX0 (k := 0) (by decide) zw_230 dX5_numberOfProduct_3 (n := 6) rfl (fun v1 => ?_)
  refine zr_cRI C hC 0 0 (fun x hx => zk_S h0 (fun l D z0 => kX5_quotient l D z0 a2 v1 S x hx) zw_386 zw_387 zw_1 zw_388 zyX5_quotient (As := [.int a2, .int v1]) (st := [.ref a0]) rfl (by decide) rfl (Nat.le_of_ble_eq_true rfl) (by decide) dX5_numberOfProduct_6) rfl rfl (n := 9) rfl (fun x2 => ?_)
  refine zr_iload_n h0 dX5_numberOfProduct_9 rfl (n := 10) rfl ?_
  refine zr_aload_n h0 dX5_numberOfProduct_10 rfl (n := 11) rfl ?_
  refine zr_getI C hC h0 zcX0 (k := 1) (by decide) zw_234 dX5_numberOfProduct_11 (n := 14) rfl (fun v3 => ?_)
  refine zr_cRI C hC 0 0 (fun x hx => zk_S h0 (fun l D z0 => kX5_quotient l D z0 a3 v3 S x hx) zw_386 zw_387 zw_1 zw_388 zyX5_quotient (As := [.int a3, .int v3]) (st := [.int x2, .ref a0]) rfl (by decide) rfl (Nat.le_of_ble_eq_true rfl) (by decide) dX5_numberOfProduct_14) rfl rfl (n := 17) rfl (fun x4 => ?_)
  refine zr_iload h0 dX5_numberOfProduct_17 rfl (n := 19) rfl ?_
  refine zr_aload_n h0 dX5_numberOfProduct_19 rfl (n := 20) rfl ?_
  refine zr_getI C hC h0 zcX0 (k := 2) (by decide) zw_238 dX5_numberOfProduct_20 (n := 23) rfl (fun v5 => ?_)
  refine zr_cRI C hC 0 0 (fun x hx => zk_S h0 (fun l D z0 => kX5_quotient l D z0 a4 v5 S x hx) zw_386 zw_387 zw_1 zw_388 zyX5_quotient (As := [.int a4, .int v5]) (st := [.int x4, .int x2, .ref a0]) rfl (by decide) rfl (Nat.le_of_ble_eq_true rfl) (by decide) dX5_numberOfProduct_23) rfl rfl (n := 26) rfl (fun x6 => ?_)
  refine zr_cRI C hC 0 0 (fun x hx => zk_V h0 zcX0 (zcl_ex hx) (fun l D z0 => kX0_numberAt l D z0 a0 x2 x4 x6 S x (zcl_of hx)) zw_324 zw_325 zw_326 zw_10 zw_327 rfl zyX0_numberAt (As := [.int x2, .int x4, .int x6]) (st := []) rfl (by decide) rfl (Nat.le_of_ble_eq_true rfl) (by decide) dX5_numberOfProduct_26) rfl rfl (n := 29) rfl (fun x7 => ?_)
  refine zr_istore [(0, .ref a0), (1, .ref a1), (2, .int a2), (3, .int a3), (4, .int a4), (5, .int x7)] h0 dX5_numberOfProduct_29 (by decide) rfl (n := 31) rfl ?_
  refine zr_aload_n h0 dX5_numberOfProduct_31 rfl (n := 32) rfl ?_
  refine zr_iload_n h0 dX5_numberOfProduct_32 rfl (n := 33) rfl ?_
  refine zr_aload_n h0 dX5_numberOfProduct_33 rfl (n := 34) rfl ?_
  refine zr_getI C hC h0 zcX0 (k := 0) (by decide) zw_230 dX5_numberOfProduct_34 (n := 37) rfl (fun v8 => ?_)
  refine zr_cRI C hC 0 0 (fun x hx => zk_S h0 (fun l D z0 => kX5_remainder l D z0 a2 v8 S x hx) zw_285 zw_286 zw_1 zw_287 zyX5_remainder (As := [.int a2, .int v8]) (st := [.ref a1]) rfl (by decide) rfl (Nat.le_of_ble_eq_true rfl) (by decide) dX5_numberOfProduct_37) rfl rfl (n := 40) rfl (fun x9 => ?_)
  refine zr_iload_n h0 dX5_numberOfProduct_40 rfl (n := 41) rfl ?_
  refine zr_aload_n h0 dX5_numberOfProduct_41 rfl (n := 42) rfl ?_
  refine zr_getI C hC h0 zcX0 (k := 1) (by decide) zw_234 dX5_numberOfProduct_42 (n := 45) rfl (fun v10 => ?_)
  refine zr_cRI C hC 0 0 (fun x hx => zk_S h0 (fun l D z0 => kX5_remainder l D z0 a3 v10 S x hx) zw_285 zw_286 zw_1 zw_287 zyX5_remainder (As := [.int a3, .int v10]) (st := [.int x9, .ref a1]) rfl (by decide) rfl (Nat.le_of_ble_eq_true rfl) (by decide) dX5_numberOfProduct_45) rfl rfl (n := 48) rfl (fun x11 => ?_)
  refine zr_iload h0 dX5_numberOfProduct_48 rfl (n := 50) rfl ?_
  refine zr_aload_n h0 dX5_numberOfProduct_50 rfl (n := 51) rfl ?_
  refine zr_getI C hC h0 zcX0 (k := 2) (by decide) zw_238 dX5_numberOfProduct_51 (n := 54) rfl (fun v12 => ?_)
  refine zr_cRI C hC 0 0 (fun x hx => zk_S h0 (fun l D z0 => kX5_remainder l D z0 a4 v12 S x hx) zw_285 zw_286 zw_1 zw_287 zyX5_remainder (As := [.int a4, .int v12]) (st := [.int x11, .int x9, .ref a1]) rfl (by decide) rfl (Nat.le_of_ble_eq_true rfl) (by decide) dX5_numberOfProduct_54) rfl rfl (n := 57) rfl (fun x13 => ?_)
  refine zr_cRI C hC 0 0 (fun x hx => zk_V h0 zcX0 (zcl_ex hx) (fun l D z0 => kX0_numberAt l D z0 a1 x9 x11 x13 S x (zcl_of hx)) zw_324 zw_325 zw_326 zw_10 zw_327 rfl zyX0_numberAt (As := [.int x9, .int x11, .int x13]) (st := []) rfl (by decide) rfl (Nat.le_of_ble_eq_true rfl) (by decide) dX5_numberOfProduct_57) rfl rfl (n := 60) rfl (fun x14 => ?_)
  refine zr_istore [(0, .ref a0), (1, .ref a1), (2, .int a2), (3, .int a3), (4, .int a4), (5, .int x7), (6, .int x14)] h0 dX5_numberOfProduct_60 (by decide) rfl (n := 62) rfl ?_
  refine zr_iload h0 dX5_numberOfProduct_62 rfl (n := 64) rfl ?_
  refine zr_iload h0 dX5_numberOfProduct_64 rfl (n := 66) rfl ?_
  refine zr_imul h0 dX5_numberOfProduct_66 (n := 67) rfl ?_
  exact zr_iret h0 rfl dX5_numberOfProduct_67 (hE _) (by decide) (by decide)
theorem kX5_numberOfProduct (l : Launch) (D : ZD) (z0 : Nat) (a0 : Nat) (a1 : Nat) (a2 : Int32) (a3 : Int32) (a4 : Int32) (S : ZS) (x : Int32) (hf : fX5_numberOfProduct a0 a1 a2 a3 a4 S = some x) : zMet l D z0 yX5_numberOfProduct cX5_numberOfProduct 7 (some .int) rmX5_numberOfProduct [.ref a0, .ref a1, .int a2, .int a3, .int a4] S (some (.int x)) S :=
  zMet_of (by decide) (Nat.le_of_ble_eq_true rfl) (fun G h0 hini hE => wX5_numberOfProduct a0 a1 a2 a3 a4 S h0 (fun o => o = some x) (fun h => nomatch h) (fun v h => by cases h; exact hE)) hf
theorem dX5_product_0 : decode cX5_product 0 = .ok (.aload_n 0, 1) := by decide +kernel
theorem dX5_product_1 : decode cX5_product 1 = .ok (.iload_n 1, 1) := by decide +kernel
theorem dX5_product_2 : decode cX5_product 2 = .ok (.invokevirtual 87, 3) := by decide +kernel
theorem dX5_product_5 : decode cX5_product 5 = .ok (.astore_n 3, 1) := by decide +kernel
theorem dX5_product_6 : decode cX5_product 6 = .ok (.aload_n 0, 1) := by decide +kernel
theorem dX5_product_7 : decode cX5_product 7 = .ok (.iload_n 2, 1) := by decide +kernel
theorem dX5_product_8 : decode cX5_product 8 = .ok (.invokevirtual 87, 3) := by decide +kernel
theorem dX5_product_11 : decode cX5_product 11 = .ok (.astore 4, 2) := by decide +kernel
theorem dX5_product_13 : decode cX5_product 13 = .ok (.aload_n 0, 1) := by decide +kernel
theorem dX5_product_14 : decode cX5_product 14 = .ok (.aload_n 3, 1) := by decide +kernel
theorem dX5_product_15 : decode cX5_product 15 = .ok (.getfield 126, 3) := by decide +kernel
theorem dX5_product_18 : decode cX5_product 18 = .ok (.aload 4, 2) := by decide +kernel
theorem dX5_product_20 : decode cX5_product 20 = .ok (.getfield 126, 3) := by decide +kernel
theorem dX5_product_23 : decode cX5_product 23 = .ok (.imul, 1) := by decide +kernel
theorem dX5_product_24 : decode cX5_product 24 = .ok (.aload_n 3, 1) := by decide +kernel
theorem dX5_product_25 : decode cX5_product 25 = .ok (.getfield 129, 3) := by decide +kernel
theorem dX5_product_28 : decode cX5_product 28 = .ok (.aload 4, 2) := by decide +kernel
theorem dX5_product_30 : decode cX5_product 30 = .ok (.getfield 129, 3) := by decide +kernel
theorem dX5_product_33 : decode cX5_product 33 = .ok (.imul, 1) := by decide +kernel
theorem dX5_product_34 : decode cX5_product 34 = .ok (.aload_n 3, 1) := by decide +kernel
theorem dX5_product_35 : decode cX5_product 35 = .ok (.getfield 132, 3) := by decide +kernel
theorem dX5_product_38 : decode cX5_product 38 = .ok (.aload 4, 2) := by decide +kernel
theorem dX5_product_40 : decode cX5_product 40 = .ok (.getfield 132, 3) := by decide +kernel
theorem dX5_product_43 : decode cX5_product 43 = .ok (.imul, 1) := by decide +kernel
theorem dX5_product_44 : decode cX5_product 44 = .ok (.invokevirtual 68, 3) := by decide +kernel
theorem dX5_product_47 : decode cX5_product 47 = .ok (.astore 5, 2) := by decide +kernel
theorem dX5_product_49 : decode cX5_product 49 = .ok (.iconst 0, 1) := by decide +kernel
theorem dX5_product_50 : decode cX5_product 50 = .ok (.istore 6, 2) := by decide +kernel
theorem dX5_product_52 : decode cX5_product 52 = .ok (.iload 6, 2) := by decide +kernel
theorem dX5_product_54 : decode cX5_product 54 = .ok (.aload 5, 2) := by decide +kernel
theorem dX5_product_56 : decode cX5_product 56 = .ok (.getfield 126, 3) := by decide +kernel
theorem dX5_product_59 : decode cX5_product 59 = .ok (.if_icmp .ge 77, 3) := by decide +kernel
theorem dX5_product_62 : decode cX5_product 62 = .ok (.iconst 0, 1) := by decide +kernel
theorem dX5_product_63 : decode cX5_product 63 = .ok (.istore 7, 2) := by decide +kernel
theorem dX5_product_65 : decode cX5_product 65 = .ok (.iload 7, 2) := by decide +kernel
theorem dX5_product_67 : decode cX5_product 67 = .ok (.aload 5, 2) := by decide +kernel
theorem dX5_product_69 : decode cX5_product 69 = .ok (.getfield 129, 3) := by decide +kernel
theorem dX5_product_72 : decode cX5_product 72 = .ok (.if_icmp .ge 58, 3) := by decide +kernel
theorem dX5_product_75 : decode cX5_product 75 = .ok (.iconst 0, 1) := by decide +kernel
theorem dX5_product_76 : decode cX5_product 76 = .ok (.istore 8, 2) := by decide +kernel
theorem dX5_product_78 : decode cX5_product 78 = .ok (.iload 8, 2) := by decide +kernel
theorem dX5_product_80 : decode cX5_product 80 = .ok (.aload 5, 2) := by decide +kernel
theorem dX5_product_82 : decode cX5_product 82 = .ok (.getfield 132, 3) := by decide +kernel
theorem dX5_product_85 : decode cX5_product 85 = .ok (.if_icmp .ge 39, 3) := by decide +kernel
theorem dX5_product_88 : decode cX5_product 88 = .ok (.aload 5, 2) := by decide +kernel
theorem dX5_product_90 : decode cX5_product 90 = .ok (.iload 6, 2) := by decide +kernel
theorem dX5_product_92 : decode cX5_product 92 = .ok (.iload 7, 2) := by decide +kernel
theorem dX5_product_94 : decode cX5_product 94 = .ok (.iload 8, 2) := by decide +kernel
theorem dX5_product_96 : decode cX5_product 96 = .ok (.aload_n 3, 1) := by decide +kernel
theorem dX5_product_97 : decode cX5_product 97 = .ok (.aload 4, 2) := by decide +kernel
theorem dX5_product_99 : decode cX5_product 99 = .ok (.iload 6, 2) := by decide +kernel
theorem dX5_product_101 : decode cX5_product 101 = .ok (.iload 7, 2) := by decide +kernel
theorem dX5_product_103 : decode cX5_product 103 = .ok (.iload 8, 2) := by decide +kernel
theorem dX5_product_105 : decode cX5_product 105 = .ok (.invokestatic 135, 3) := by decide +kernel
theorem dX5_product_108 : decode cX5_product 108 = .ok (.aload_n 0, 1) := by decide +kernel
theorem dX5_product_109 : decode cX5_product 109 = .ok (.getfield 46, 3) := by decide +kernel
theorem dX5_product_112 : decode cX5_product 112 = .ok (.invokestatic 83, 3) := by decide +kernel
theorem dX5_product_115 : decode cX5_product 115 = .ok (.invokevirtual 76, 3) := by decide +kernel
theorem dX5_product_118 : decode cX5_product 118 = .ok (.iinc 8 1, 3) := by decide +kernel
theorem dX5_product_121 : decode cX5_product 121 = .ok (.goto (-43), 3) := by decide +kernel
theorem dX5_product_124 : decode cX5_product 124 = .ok (.iinc 7 1, 3) := by decide +kernel
theorem dX5_product_127 : decode cX5_product 127 = .ok (.goto (-62), 3) := by decide +kernel
theorem dX5_product_130 : decode cX5_product 130 = .ok (.iinc 6 1, 3) := by decide +kernel
theorem dX5_product_133 : decode cX5_product 133 = .ok (.goto (-81), 3) := by decide +kernel
theorem dX5_product_136 : decode cX5_product 136 = .ok (.aload_n 0, 1) := by decide +kernel
theorem dX5_product_137 : decode cX5_product 137 = .ok (.getfield 50, 3) := by decide +kernel
theorem dX5_product_140 : decode cX5_product 140 = .ok (.iconst 1, 1) := by decide +kernel
theorem dX5_product_141 : decode cX5_product 141 = .ok (.isub, 1) := by decide +kernel
theorem dX5_product_142 : decode cX5_product 142 = .ok (.ireturn, 1) := by decide +kernel
abbrev rmX5_product : Room := { frames := 8, cells := 7, slots := 99, locals := 134 }
theorem zyX5_product : zyOK yX5_product 2 := ⟨by decide +kernel, by decide +kernel, by decide +kernel⟩
set_option maxHeartbeats 4000000 in
set_option maxRecDepth 100000 in
theorem wX5_product {G : ZG} (a0 : Nat) (a1 : Int32) (a2 : Int32) (S : ZS) (h0 : zFix G cX5_product RX5 9 (some .int) rmX5_product) (C : Option ((Int32 × ZS) ⊕ ZX) → Prop) (hC : ¬ C none) (hnt : zNoTab G) (hE : ∀ (v : Int32) (S1 : ZS), C (some (.inl (v, S1))) → zEndT G (some (.int v)) S1 rmX5_product) (hEx : ∀ (E : String) (h : ZH), C (some (.inr (E, h))) → zEndX G E h rmX5_product) : zV G 9 S 0 0 0 [(0, .ref a0), (1, .int a1), (2, .int a2)] [] (C (fX5_product a0 a1 a2 S)) := by
  unfold fX5_product
  refine zr_aload_n h0 dX5_product_0 rfl (n := 1) rfl ?_
  refine zr_iload_n h0 dX5_product_1 rfl (n := 2) rfl ?_
  refine zr_cTR C hC 1 6 h0 (fun x hx => zk_VT h0 zcX5 (zcl_ex hx) (fun l D z0 hlt => kX5_needCube l D z0 hlt a0 a1 S x (zcl_of hx)) hnt zw_296 zw_298 zs_2 zw_1 zw_299 rfl zyX5_needCube (As := [.int a1]) (st := []) rfl (by decide) rfl (Nat.le_of_ble_eq_true rfl) (by decide) dX5_product_2) hnt rfl rfl (by decide) (by decide) (n := 5) rfl (fun z h => hEx _ _ h) (fun x1 => ?_)
  refine zr_astore_n [(0, .ref a0), (1, .int a1), (2, .int a2), (3, .ref x1.1)] h0 dX5_product_5 (by decide) rfl (n := 6) rfl ?_
  refine zr_aload_n h0 dX5_product_6 rfl (n := 7) rfl ?_
  refine zr_iload_n h0 dX5_product_7 rfl (n := 8) rfl ?_
  refine zr_cTR C hC 2 12 h0 (fun x hx => zk_VT h0 zcX5 (zcl_ex hx) (fun l D z0 hlt => kX5_needCube l D z0 hlt a0 a2 x1.2 x (zcl_of hx)) hnt zw_296 zw_298 zs_2 zw_1 zw_299 rfl zyX5_needCube (As := [.int a2]) (st := []) rfl (by decide) rfl (Nat.le_of_ble_eq_true rfl) (by decide) dX5_product_8) hnt rfl rfl (by decide) (by decide) (n := 11) rfl (fun z h => hEx _ _ h) (fun x2 => ?_)
  refine zr_astore [(0, .ref a0), (1, .int a1), (2, .int a2), (3, .ref x1.1), (4, .ref x2.1)] h0 dX5_product_11 (by decide) rfl (n := 13) rfl ?_
  refine zr_aload_n h0 dX5_product_13 rfl (n := 14) rfl ?_
  refine zr_aload_n h0 dX5_product_14 rfl (n := 15) rfl ?_
  refine zr_getI C hC h0 zcX0 (k := 0) (by decide) zw_230 dX5_product_15 (n := 18) rfl (fun v3 => ?_)
  refine zr_aload h0 dX5_product_18 rfl (n := 20) rfl ?_
  refine zr_getI C hC h0 zcX0 (k := 0) (by decide) zw_230 dX5_product_20 (n := 23) rfl (fun v4 => ?_)
  refine zr_imul h0 dX5_product_23 (n := 24) rfl ?_
  refine zr_aload_n h0 dX5_product_24 rfl (n := 25) rfl ?_
  refine zr_getI C hC h0 zcX0 (k := 1) (by decide) zw_234 dX5_product_25 (n := 28) rfl (fun v5 => ?_)
  refine zr_aload h0 dX5_product_28 rfl (n := 30) rfl ?_
  refine zr_getI C hC h0 zcX0 (k := 1) (by decide) zw_234 dX5_product_30 (n := 33) rfl (fun v6 => ?_)
  refine zr_imul h0 dX5_product_33 (n := 34) rfl ?_
  refine zr_aload_n h0 dX5_product_34 rfl (n := 35) rfl ?_
  refine zr_getI C hC h0 zcX0 (k := 2) (by decide) zw_238 dX5_product_35 (n := 38) rfl (fun v7 => ?_)
  refine zr_aload h0 dX5_product_38 rfl (n := 40) rfl ?_
  refine zr_getI C hC h0 zcX0 (k := 2) (by decide) zw_238 dX5_product_40 (n := 43) rfl (fun v8 => ?_)
  refine zr_imul h0 dX5_product_43 (n := 44) rfl ?_
  refine zr_cTR C hC 7 99 h0 (fun x hx => zk_VT h0 zcX5 (zcl_ex hx) (fun l D z0 hlt => kX5_addCube l D z0 hlt a0 (v3 * v4) (v5 * v6) (v7 * v8) x2.2 x (zcl_of hx)) hnt zw_213 zw_215 zs_1 zw_1 zw_216 rfl zyX5_addCube (As := [.int (v3 * v4), .int (v5 * v6), .int (v7 * v8)]) (st := []) rfl (by decide) rfl (Nat.le_of_ble_eq_true rfl) (by decide) dX5_product_44) hnt rfl rfl (by decide) (by decide) (n := 47) rfl (fun z h => hEx _ _ h) (fun x9 => ?_)
  refine zr_astore [(0, .ref a0), (1, .int a1), (2, .int a2), (3, .ref x1.1), (4, .ref x2.1), (5, .ref x9.1)] h0 dX5_product_47 (by decide) rfl (n := 49) rfl ?_
  refine zr_iconst (0 : Int32) h0 (by decide) dX5_product_49 (n := 50) rfl ?_
  refine zr_istore [(0, .ref a0), (1, .int a1), (2, .int a2), (3, .ref x1.1), (4, .ref x2.1), (5, .ref x9.1), (6, .int (0 : Int32))] h0 dX5_product_50 (by decide) rfl (n := 52) rfl ?_
  refine zv_sub (lv' := [(0, .ref a0), (3, .ref x1.1), (4, .ref x2.1), (5, .ref x9.1), (6, .int (0 : Int32))]) ?_ (zsub_of [0, 3, 4, 5, 6] rfl)
  refine zr_loop hC (fX5_product_B52 a0 x1.1 x2.1 x9.1) (fun y => [(0, .ref a0), (3, .ref x1.1), (4, .ref x2.1), (5, .ref x9.1), (6, .int y.1)]) (fun y => y.2) zF ((0 : Int32), x9.2) (fun C52 hC52 hX52 hL52 t52 => ?_)
  unfold fX5_product_B52
  refine zr_iload h0 dX5_product_52 rfl (n := 54) rfl ?_
  refine zr_aload h0 dX5_product_54 rfl (n := 56) rfl ?_
  refine zr_getI C52 hC52 h0 zcX0 (k := 0) (by decide) zw_230 dX5_product_56 (n := 59) rfl (fun v29 => ?_)
  refine zr_icmp_ge C52 (tgt := 136) h0 dX5_product_59 (by decide) (n := 62) rfl ?_ ?_
  · refine zr_ex hX52 ?_
    refine zv_sub (lv' := [(0, .ref a0)]) ?_ (zsub_of [0] rfl)
    refine zr_aload_n h0 dX5_product_136 rfl (n := 137) rfl ?_
    refine zr_getI C hC h0 zcX5 (k := 7) (by decide) zw_81 dX5_product_137 (n := 140) rfl (fun v30 => ?_)
    refine zr_iconst (1 : Int32) h0 (by decide) dX5_product_140 (n := 141) rfl ?_
    refine zr_isub h0 dX5_product_141 (n := 142) rfl ?_
    exact zr_iretT h0 rfl dX5_product_142 (hE _ _) (by decide) (by decide)
  · refine zr_iconst (0 : Int32) h0 (by decide) dX5_product_62 (n := 63) rfl ?_
    refine zr_istore [(0, .ref a0), (3, .ref x1.1), (4, .ref x2.1), (5, .ref x9.1), (6, .int t52.1), (7, .int (0 : Int32))] h0 dX5_product_63 (by decide) rfl (n := 65) rfl ?_
    refine zr_loop hC52 (fX5_product_B65 a0 x1.1 x2.1 x9.1 t52.1) (fun y => [(0, .ref a0), (3, .ref x1.1), (4, .ref x2.1), (5, .ref x9.1), (6, .int t52.1), (7, .int y.1)]) (fun y => y.2) zF ((0 : Int32), t52.2) (fun C65 hC65 hX65 hL65 t65 => ?_)
    unfold fX5_product_B65
    refine zr_iload h0 dX5_product_65 rfl (n := 67) rfl ?_
    refine zr_aload h0 dX5_product_67 rfl (n := 69) rfl ?_
    refine zr_getI C65 hC65 h0 zcX0 (k := 1) (by decide) zw_234 dX5_product_69 (n := 72) rfl (fun v31 => ?_)
    refine zr_icmp_ge C65 (tgt := 130) h0 dX5_product_72 (by decide) (n := 75) rfl ?_ ?_
    · refine zr_ex hX65 ?_
      refine zv_sub (lv' := [(0, .ref a0), (3, .ref x1.1), (4, .ref x2.1), (5, .ref x9.1), (6, .int t52.1)]) ?_ (zsub_of [0, 1, 2, 3, 4] rfl)
      refine zr_iinc (1 : Int32) [(0, .ref a0), (3, .ref x1.1), (4, .ref x2.1), (5, .ref x9.1), (6, .int (t52.1 + (1 : Int32)))] h0 dX5_product_130 rfl (by decide) rfl rfl (n := 133) rfl ?_
      refine zr_goto (tgt := 52) h0 dX5_product_133 (by decide) ?_
      exact hL52 (t52.1 + (1 : Int32), t65.2)
    · refine zr_iconst (0 : Int32) h0 (by decide) dX5_product_75 (n := 76) rfl ?_
      refine zr_istore [(0, .ref a0), (3, .ref x1.1), (4, .ref x2.1), (5, .ref x9.1), (6, .int t52.1), (7, .int t65.1), (8, .int (0 : Int32))] h0 dX5_product_76 (by decide) rfl (n := 78) rfl ?_
      refine zr_loop hC65 (fX5_product_B78 a0 x1.1 x2.1 x9.1 t52.1 t65.1) (fun y => [(0, .ref a0), (3, .ref x1.1), (4, .ref x2.1), (5, .ref x9.1), (6, .int t52.1), (7, .int t65.1), (8, .int y.1)]) (fun y => y.2) zF ((0 : Int32), t65.2) (fun C78 hC78 hX78 hL78 t78 => ?_)
      unfold fX5_product_B78
      refine zr_iload h0 dX5_product_78 rfl (n := 80) rfl ?_
      refine zr_aload h0 dX5_product_80 rfl (n := 82) rfl ?_
      refine zr_getI C78 hC78 h0 zcX0 (k := 2) (by decide) zw_238 dX5_product_82 (n := 85) rfl (fun v32 => ?_)
      refine zr_icmp_ge C78 (tgt := 124) h0 dX5_product_85 (by decide) (n := 88) rfl ?_ ?_
      · refine zr_ex hX78 ?_
        refine zv_sub (lv' := [(0, .ref a0), (3, .ref x1.1), (4, .ref x2.1), (5, .ref x9.1), (6, .int t52.1), (7, .int t65.1)]) ?_ (zsub_of [0, 1, 2, 3, 4, 5] rfl)
        refine zr_iinc (1 : Int32) [(0, .ref a0), (3, .ref x1.1), (4, .ref x2.1), (5, .ref x9.1), (6, .int t52.1), (7, .int (t65.1 + (1 : Int32)))] h0 dX5_product_124 rfl (by decide) rfl rfl (n := 127) rfl ?_
        refine zr_goto (tgt := 65) h0 dX5_product_127 (by decide) ?_
        exact hL65 (t65.1 + (1 : Int32), t78.2)
      · refine zr_aload h0 dX5_product_88 rfl (n := 90) rfl ?_
        refine zr_iload h0 dX5_product_90 rfl (n := 92) rfl ?_
        refine zr_iload h0 dX5_product_92 rfl (n := 94) rfl ?_
        refine zr_iload h0 dX5_product_94 rfl (n := 96) rfl ?_
        refine zr_aload_n h0 dX5_product_96 rfl (n := 97) rfl ?_
        refine zr_aload h0 dX5_product_97 rfl (n := 99) rfl ?_
        refine zr_iload h0 dX5_product_99 rfl (n := 101) rfl ?_
        refine zr_iload h0 dX5_product_101 rfl (n := 103) rfl ?_
        refine zr_iload h0 dX5_product_103 rfl (n := 105) rfl ?_
        refine zr_cRI C78 hC78 7 99 (fun x hx => zk_S h0 (fun l D z0 => kX5_numberOfProduct l D z0 x1.1 x2.1 t52.1 t65.1 t78.1 t78.2 x hx) zw_383 zw_384 zw_1 zw_385 zyX5_numberOfProduct (As := [.ref x1.1, .ref x2.1, .int t52.1, .int t65.1, .int t78.1]) (st := [.int t78.1, .int t65.1, .int t52.1, .ref x9.1]) rfl (by decide) rfl (Nat.le_of_ble_eq_true rfl) (by decide) dX5_product_105) rfl rfl (n := 108) rfl (fun x33 => ?_)
        refine zr_aload_n h0 dX5_product_108 rfl (n := 109) rfl ?_
        refine zr_getI C78 hC78 h0 zcX5 (k := 6) (by decide) zw_80 dX5_product_109 (n := 112) rfl (fun v34 => ?_)
        refine zr_cRI C78 hC78 7 99 (fun x hx => zk_S h0 (fun l D z0 => kX5_remainder l D z0 x33 v34 t78.2 x hx) zw_285 zw_286 zw_1 zw_287 zyX5_remainder (As := [.int x33, .int v34]) (st := [.int t78.1, .int t65.1, .int t52.1, .ref x9.1]) rfl (by decide) rfl (Nat.le_of_ble_eq_true rfl) (by decide) dX5_product_112) rfl rfl (n := 115) rfl (fun x35 => ?_)
        refine zr_cMV C78 hC78 7 99 (fun x hx => zk_V h0 zcX0 (zcl_ex hx) (fun l D z0 => kX0_enter l D z0 x9.1 t52.1 t65.1 t78.1 x35 t78.2 x (zcl_of hx)) zw_261 zw_262 zw_263 zw_10 zw_264 rfl zyX0_enter (As := [.int t52.1, .int t65.1, .int t78.1, .int x35]) (st := []) rfl (by decide) rfl (Nat.le_of_ble_eq_true rfl) (by decide) dX5_product_115) rfl rfl (n := 118) rfl (fun x36 => ?_)
        refine zr_iinc (1 : Int32) [(0, .ref a0), (3, .ref x1.1), (4, .ref x2.1), (5, .ref x9.1), (6, .int t52.1), (7, .int t65.1), (8, .int (t78.1 + (1 : Int32)))] h0 dX5_product_118 rfl (by decide) rfl rfl (n := 121) rfl ?_
        refine zr_goto (tgt := 78) h0 dX5_product_121 (by decide) ?_
        exact hL78 (t78.1 + (1 : Int32), x36)
theorem kX5_product (l : Launch) (D : ZD) (z0 : Nat) (hlt : l.stackTraces = false) (a0 : Nat) (a1 : Int32) (a2 : Int32) (S : ZS) (x : ((Int32 × ZS) ⊕ ZX)) (hf : fX5_product a0 a1 a2 S = some x) : zMetT l D z0 yX5_product cX5_product 9 (some .int) rmX5_product [.ref a0, .int a1, .int a2] S (x.map (fun y => ((some (.int y.1)), y.2)) id) :=
  zMetT_of hlt (by decide) (Nat.le_of_ble_eq_true rfl) (fun G h0 hnt hE hEx => wX5_product a0 a1 a2 S h0 (fun o => o = some x) (fun h => nomatch h) hnt (fun v S1 h => by cases h; exact hE _ _ rfl) (fun E h hh => by cases hh; exact hEx _ _ rfl)) hf
theorem dX0_copied_0 : decode cX0_copied 0 = .ok (.new 10, 3) := by decide +kernel
theorem dX0_copied_3 : decode cX0_copied 3 = .ok (.dup, 1) := by decide +kernel
theorem dX0_copied_4 : decode cX0_copied 4 = .ok (.aload_n 0, 1) := by decide +kernel
theorem dX0_copied_5 : decode cX0_copied 5 = .ok (.getfield 9, 3) := by decide +kernel
theorem dX0_copied_8 : decode cX0_copied 8 = .ok (.aload_n 0, 1) := by decide +kernel
theorem dX0_copied_9 : decode cX0_copied 9 = .ok (.getfield 15, 3) := by decide +kernel
theorem dX0_copied_12 : decode cX0_copied 12 = .ok (.aload_n 0, 1) := by decide +kernel
theorem dX0_copied_13 : decode cX0_copied 13 = .ok (.getfield 18, 3) := by decide +kernel
theorem dX0_copied_16 : decode cX0_copied 16 = .ok (.invokespecial 28, 3) := by decide +kernel
theorem dX0_copied_19 : decode cX0_copied 19 = .ok (.astore_n 1, 1) := by decide +kernel
theorem dX0_copied_20 : decode cX0_copied 20 = .ok (.iconst 0, 1) := by decide +kernel
theorem dX0_copied_21 : decode cX0_copied 21 = .ok (.istore_n 2, 1) := by decide +kernel
theorem dX0_copied_22 : decode cX0_copied 22 = .ok (.iload_n 2, 1) := by decide +kernel
theorem dX0_copied_23 : decode cX0_copied 23 = .ok (.bipush 64, 2) := by decide +kernel
theorem dX0_copied_25 : decode cX0_copied 25 = .ok (.if_icmp .ge 25, 3) := by decide +kernel
theorem dX0_copied_28 : decode cX0_copied 28 = .ok (.aload_n 1, 1) := by decide +kernel
theorem dX0_copied_29 : decode cX0_copied 29 = .ok (.getfield 21, 3) := by decide +kernel
theorem dX0_copied_32 : decode cX0_copied 32 = .ok (.iload_n 2, 1) := by decide +kernel
theorem dX0_copied_33 : decode cX0_copied 33 = .ok (.aload_n 0, 1) := by decide +kernel
theorem dX0_copied_34 : decode cX0_copied 34 = .ok (.getfield 21, 3) := by decide +kernel
theorem dX0_copied_37 : decode cX0_copied 37 = .ok (.iload_n 2, 1) := by decide +kernel
theorem dX0_copied_38 : decode cX0_copied 38 = .ok (.invokestatic 31, 3) := by decide +kernel
theorem dX0_copied_41 : decode cX0_copied 41 = .ok (.invokestatic 35, 3) := by decide +kernel
theorem dX0_copied_44 : decode cX0_copied 44 = .ok (.iinc 2 1, 3) := by decide +kernel
theorem dX0_copied_47 : decode cX0_copied 47 = .ok (.goto (-25), 3) := by decide +kernel
theorem dX0_copied_50 : decode cX0_copied 50 = .ok (.aload_n 1, 1) := by decide +kernel
theorem dX0_copied_51 : decode cX0_copied 51 = .ok (.aload_n 0, 1) := by decide +kernel
theorem dX0_copied_52 : decode cX0_copied 52 = .ok (.getfield 25, 3) := by decide +kernel
theorem dX0_copied_55 : decode cX0_copied 55 = .ok (.putfield 25, 3) := by decide +kernel
theorem dX0_copied_58 : decode cX0_copied 58 = .ok (.aload_n 1, 1) := by decide +kernel
theorem dX0_copied_59 : decode cX0_copied 59 = .ok (.areturn, 1) := by decide +kernel
abbrev rmX0_copied : Room := { frames := 2, cells := 2, slots := 69, locals := 46 }
theorem zyX0_copied : zyOK yX0_copied 0 := ⟨by decide +kernel, by decide +kernel, by decide +kernel⟩
set_option maxHeartbeats 4000000 in
set_option maxRecDepth 100000 in
theorem wX0_copied {G : ZG} (a0 : Nat) (S : ZS) (h0 : zFix G cX0_copied RX0 3 (some (.object "Bilinearium$Cube")) rmX0_copied) (C : Option (Nat × ZS) → Prop) (hC : ¬ C none) (hE : ∀ (v : Nat) (S1 : ZS), C (some (v, S1)) → zEnd G (some (.ref v)) S1 rmX0_copied) : zV G 3 S 0 0 0 [(0, .ref a0)] [] (C (fX0_copied a0 S)) := by
  unfold fX0_copied
  refine zr_new (fs := [.int 0, .int 0, .int 0, .null, .int 0]) (ce' := 1) (sl' := 5) h0 zcX0 znwX0 zw_402 zw_222 zw_10 rfl rfl (by decide) (by decide) dX0_copied_0 (n := 3) rfl ?_
  refine zr_dup h0 rfl dX0_copied_3 (n := 4) rfl ?_
  refine zr_aload_n h0 dX0_copied_4 rfl (n := 5) rfl ?_
  refine zr_getI C hC h0 zcX0 (k := 0) (by decide) zw_227 dX0_copied_5 (n := 8) rfl (fun v1 => ?_)
  refine zr_aload_n h0 dX0_copied_8 rfl (n := 9) rfl ?_
  refine zr_getI C hC h0 zcX0 (k := 1) (by decide) zw_231 dX0_copied_9 (n := 12) rfl (fun v2 => ?_)
  refine zr_aload_n h0 dX0_copied_12 rfl (n := 13) rfl ?_
  refine zr_getI C hC h0 zcX0 (k := 2) (by decide) zw_235 dX0_copied_13 (n := 16) rfl (fun v3 => ?_)
  refine zr_cMV C hC 2 69 (fun x hx => zk_I h0 (fun l D z0 => kX0_init l D z0 S.2 v1 v2 v3 (zno S 0 [.int 0, .int 0, .int 0, .null, .int 0]) x hx) zw_403 zw_224 zw_10 zw_225 rfl zyX0_init (As := [.int v1, .int v2, .int v3]) (st := [.ref S.2]) rfl (by decide) rfl (Nat.le_of_ble_eq_true rfl) (by decide) dX0_copied_16) rfl rfl (n := 19) rfl (fun x4 => ?_)
  refine zr_astore_n [(0, .ref a0), (1, .ref S.2)] h0 dX0_copied_19 (by decide) rfl (n := 20) rfl ?_
  refine zr_iconst (0 : Int32) h0 (by decide) dX0_copied_20 (n := 21) rfl ?_
  refine zr_istore_n [(0, .ref a0), (1, .ref S.2), (2, .int (0 : Int32))] h0 dX0_copied_21 (by decide) rfl (n := 22) rfl ?_
  refine zr_loop hC (fX0_copied_B22 a0 S.2) (fun y => [(0, .ref a0), (1, .ref S.2), (2, .int y.1)]) (fun y => y.2) zF ((0 : Int32), x4) (fun C22 hC22 hX22 hL22 t22 => ?_)
  unfold fX0_copied_B22
  refine zr_iload_n h0 dX0_copied_22 rfl (n := 23) rfl ?_
  refine zr_bipush (64 : Int32) h0 (by decide) dX0_copied_23 (n := 25) rfl ?_
  refine zr_icmp_ge C22 (tgt := 50) h0 dX0_copied_25 (by decide) (n := 28) rfl ?_ ?_
  · refine zr_ex hX22 ?_
    refine zv_sub (lv' := [(0, .ref a0), (1, .ref S.2)]) ?_ (zsub_of [0, 1] rfl)
    refine zr_aload_n h0 dX0_copied_50 rfl (n := 51) rfl ?_
    refine zr_aload_n h0 dX0_copied_51 rfl (n := 52) rfl ?_
    refine zr_getI C hC h0 zcX0 (k := 4) (by decide) zw_241 dX0_copied_52 (n := 55) rfl (fun v11 => ?_)
    refine zr_putF C hC h0 zcX0 (k := 4) (by decide) zw_241 rfl rfl rfl dX0_copied_55 (n := 58) rfl (fun S12 => ?_)
    refine zr_aload_n h0 dX0_copied_58 rfl (n := 59) rfl ?_
    exact zr_aret h0 rfl (Or.inl ⟨_, rfl⟩) dX0_copied_59 (hE _ _) (by decide) (by decide)
  · refine zr_aload_n h0 dX0_copied_28 rfl (n := 29) rfl ?_
    refine zr_getR C22 hC22 h0 zcX0 (k := 3) (by decide) zw_239 dX0_copied_29 (n := 32) rfl (fun v13 => ?_)
    refine zr_iload_n h0 dX0_copied_32 rfl (n := 33) rfl ?_
    refine zr_aload_n h0 dX0_copied_33 rfl (n := 34) rfl ?_
    refine zr_getR C22 hC22 h0 zcX0 (k := 3) (by decide) zw_239 dX0_copied_34 (n := 37) rfl (fun v14 => ?_)
    refine zr_iload_n h0 dX0_copied_37 rfl (n := 38) rfl ?_
    refine zr_cRI C22 hC22 2 69 (fun x hx => zk_SN (host := "Bilinearium") h0 (fun l D z0 => kX5_get l D z0 v14 t22.1 t22.2 x hx) (by decide +kernel) zw_329 zw_1 zw_330 zyX5_get (As := [.ref v14, .int t22.1]) (st := [.int t22.1, .ref v13]) rfl (by decide) rfl (Nat.le_of_ble_eq_true rfl) (by decide) dX0_copied_38) rfl rfl (n := 41) rfl (fun x15 => ?_)
    refine zr_cMV C22 hC22 2 69 (fun x hx => zk_SN (host := "Bilinearium") h0 (fun l D z0 => kX5_put l D z0 v13 t22.1 x15 t22.2 x hx) (by decide +kernel) zw_269 zw_1 zw_270 zyX5_put (As := [.ref v13, .int t22.1, .int x15]) (st := []) rfl (by decide) rfl (Nat.le_of_ble_eq_true rfl) (by decide) dX0_copied_41) rfl rfl (n := 44) rfl (fun x16 => ?_)
    refine zr_iinc (1 : Int32) [(0, .ref a0), (1, .ref S.2), (2, .int (t22.1 + (1 : Int32)))] h0 dX0_copied_44 rfl (by decide) rfl rfl (n := 47) rfl ?_
    refine zr_goto (tgt := 22) h0 dX0_copied_47 (by decide) ?_
    exact hL22 (t22.1 + (1 : Int32), x16)
theorem kX0_copied (l : Launch) (D : ZD) (z0 : Nat) (a0 : Nat) (S : ZS) (x : Nat × ZS) (hf : fX0_copied a0 S = some x) : zMet l D z0 yX0_copied cX0_copied 3 (some (.object "Bilinearium$Cube")) rmX0_copied [.ref a0] S (some (.ref x.1)) x.2 :=
  zMet_of (by decide) (Nat.le_of_ble_eq_true rfl) (fun G h0 hini hE => wX0_copied a0 S h0 (fun o => o = some x) (fun h => nomatch h) (fun v S1 h => by cases h; exact hE)) hf
theorem dX4_init_0 : decode cX4_init 0 = .ok (.aload_n 0, 1) := by decide +kernel
theorem dX4_init_1 : decode cX4_init 1 = .ok (.invokespecial 5, 3) := by decide +kernel
theorem dX4_init_4 : decode cX4_init 4 = .ok (.aload_n 0, 1) := by decide +kernel
theorem dX4_init_5 : decode cX4_init 5 = .ok (.aload_n 1, 1) := by decide +kernel
theorem dX4_init_6 : decode cX4_init 6 = .ok (.putfield 11, 3) := by decide +kernel
theorem dX4_init_9 : decode cX4_init 9 = .ok (.aload_n 0, 1) := by decide +kernel
theorem dX4_init_10 : decode cX4_init 10 = .ok (.iload_n 2, 1) := by decide +kernel
theorem dX4_init_11 : decode cX4_init 11 = .ok (.putfield 15, 3) := by decide +kernel
theorem dX4_init_14 : decode cX4_init 14 = .ok (.aload_n 0, 1) := by decide +kernel
theorem dX4_init_15 : decode cX4_init 15 = .ok (.bipush 40, 2) := by decide +kernel
theorem dX4_init_17 : decode cX4_init 17 = .ok (.newarray .int, 2) := by decide +kernel
theorem dX4_init_19 : decode cX4_init 19 = .ok (.putfield 19, 3) := by decide +kernel
theorem dX4_init_22 : decode cX4_init 22 = .ok (.aload_n 0, 1) := by decide +kernel
theorem dX4_init_23 : decode cX4_init 23 = .ok (.iconst 0, 1) := by decide +kernel
theorem dX4_init_24 : decode cX4_init 24 = .ok (.putfield 23, 3) := by decide +kernel
theorem dX4_init_27 : decode cX4_init 27 = .ok (.return_, 1) := by decide +kernel
abbrev rmX4_init : Room := { frames := 1, cells := 1, slots := 40, locals := 23 }
theorem zyX4_init : zyOK yX4_init 2 := ⟨by decide +kernel, by decide +kernel, by decide +kernel⟩
set_option maxHeartbeats 4000000 in
set_option maxRecDepth 100000 in
theorem wX4_init {G : ZG} (a0 : Nat) (a1 : Nat) (a2 : Int32) (S : ZS) (h0 : zFix G cX4_init RX4 3 none rmX4_init) (hini : zIni G) (C : Option ZS → Prop) (hC : ¬ C none) (hE : ∀ S1 : ZS, C (some S1) → zEnd G none S1 rmX4_init) : zV G 3 S 0 0 0 [(0, .ref a0), (1, .ref a1), (2, .int a2)] [] (C (fX4_init a0 a1 a2 S)) := by
  unfold fX4_init
  refine zr_aload_n h0 dX4_init_0 rfl (n := 1) rfl ?_
  refine zr_objInit h0 zw_407 zw_21 zw_22 (by decide) (Nat.le_of_ble_eq_true rfl) dX4_init_1 (n := 4) rfl ?_
  refine zr_aload_n h0 dX4_init_4 rfl (n := 5) rfl ?_
  refine zr_aload_n h0 dX4_init_5 rfl (n := 6) rfl ?_
  refine zr_putK C hC h0 zcX4 (k := 0) (by decide) zw_408 rfl hini rfl rfl rfl dX4_init_6 (n := 9) rfl (fun S1 => ?_)
  refine zr_aload_n h0 dX4_init_9 rfl (n := 10) rfl ?_
  refine zr_iload_n h0 dX4_init_10 rfl (n := 11) rfl ?_
  refine zr_putK C hC h0 zcX4 (k := 1) (by decide) zw_410 rfl hini rfl rfl rfl dX4_init_11 (n := 14) rfl (fun S2 => ?_)
  refine zr_aload_n h0 dX4_init_14 rfl (n := 15) rfl ?_
  refine zr_bipush (40 : Int32) h0 (by decide) dX4_init_15 (n := 17) rfl ?_
  refine zr_newarray (t := 0) (N := 40) (ce' := 1) (sl' := 40) h0 rfl rfl (fun _ => rfl) rfl (fun _ h => nomatch h) zw_43 (by decide) rfl (by decide) rfl rfl (by decide) (by decide) dX4_init_17 (n := 19) rfl ?_
  refine zr_putK C hC h0 zcX4 (k := 2) (by decide) zw_411 rfl hini rfl rfl rfl dX4_init_19 (n := 22) rfl (fun S3 => ?_)
  refine zr_aload_n h0 dX4_init_22 rfl (n := 23) rfl ?_
  refine zr_iconst (0 : Int32) h0 (by decide) dX4_init_23 (n := 24) rfl ?_
  refine zr_putF C hC h0 zcX4 (k := 3) (by decide) zw_412 rfl rfl rfl dX4_init_24 (n := 27) rfl (fun S4 => ?_)
  exact zr_vret h0 rfl dX4_init_27 (fun h => hE _ h) (by decide) (by decide)
theorem kX4_init (l : Launch) (D : ZD) (z0 : Nat) (a0 : Nat) (a1 : Nat) (a2 : Int32) (S : ZS) (x : ZS) (hf : fX4_init a0 a1 a2 S = some x) : zMet l D z0 yX4_init cX4_init 3 none rmX4_init [.ref a0, .ref a1, .int a2] S none x :=
  zMet_of (by decide) (Nat.le_of_ble_eq_true rfl) (fun G h0 hini hE => wX4_init a0 a1 a2 S h0 (hini rfl) (fun o => o = some x) (fun h => nomatch h) (fun S1 h => by cases h; exact hE)) hf
theorem dX5_way_0 : decode cX5_way 0 = .ok (.aload_n 0, 1) := by decide +kernel
theorem dX5_way_1 : decode cX5_way 1 = .ok (.iload_n 1, 1) := by decide +kernel
theorem dX5_way_2 : decode cX5_way 2 = .ok (.invokevirtual 87, 3) := by decide +kernel
theorem dX5_way_5 : decode cX5_way 5 = .ok (.astore_n 2, 1) := by decide +kernel
theorem dX5_way_6 : decode cX5_way 6 = .ok (.aload_n 0, 1) := by decide +kernel
theorem dX5_way_7 : decode cX5_way 7 = .ok (.getfield 53, 3) := by decide +kernel
theorem dX5_way_10 : decode cX5_way 10 = .ok (.ifCond .lt 15, 3) := by decide +kernel
theorem dX5_way_13 : decode cX5_way 13 = .ok (.aload_n 0, 1) := by decide +kernel
theorem dX5_way_14 : decode cX5_way 14 = .ok (.getfield 53, 3) := by decide +kernel
theorem dX5_way_17 : decode cX5_way 17 = .ok (.aload_n 0, 1) := by decide +kernel
theorem dX5_way_18 : decode cX5_way 18 = .ok (.getfield 17, 3) := by decide +kernel
theorem dX5_way_21 : decode cX5_way 21 = .ok (.arraylength, 1) := by decide +kernel
theorem dX5_way_22 : decode cX5_way 22 = .ok (.if_icmp .lt 13, 3) := by decide +kernel
theorem dX5_way_25 : decode cX5_way 25 = .ok (.new 63, 3) := by decide +kernel
theorem dX5_way_28 : decode cX5_way 28 = .ok (.dup, 1) := by decide +kernel
theorem dX5_way_29 : decode cX5_way 29 = .ok (.ldc 139, 2) := by decide +kernel
theorem dX5_way_31 : decode cX5_way 31 = .ok (.invokespecial 67, 3) := by decide +kernel
theorem dX5_way_34 : decode cX5_way 34 = .ok (.athrow, 1) := by decide +kernel
theorem dX5_way_35 : decode cX5_way 35 = .ok (.aload_n 0, 1) := by decide +kernel
theorem dX5_way_36 : decode cX5_way 36 = .ok (.getfield 17, 3) := by decide +kernel
theorem dX5_way_39 : decode cX5_way 39 = .ok (.aload_n 0, 1) := by decide +kernel
theorem dX5_way_40 : decode cX5_way 40 = .ok (.getfield 53, 3) := by decide +kernel
theorem dX5_way_43 : decode cX5_way 43 = .ok (.new 15, 3) := by decide +kernel
theorem dX5_way_46 : decode cX5_way 46 = .ok (.dup, 1) := by decide +kernel
theorem dX5_way_47 : decode cX5_way 47 = .ok (.aload_n 2, 1) := by decide +kernel
theorem dX5_way_48 : decode cX5_way 48 = .ok (.invokevirtual 141, 3) := by decide +kernel
theorem dX5_way_51 : decode cX5_way 51 = .ok (.aload_n 0, 1) := by decide +kernel
theorem dX5_way_52 : decode cX5_way 52 = .ok (.getfield 46, 3) := by decide +kernel
theorem dX5_way_55 : decode cX5_way 55 = .ok (.invokespecial 145, 3) := by decide +kernel
theorem dX5_way_58 : decode cX5_way 58 = .ok (.aastore, 1) := by decide +kernel
theorem dX5_way_59 : decode cX5_way 59 = .ok (.aload_n 0, 1) := by decide +kernel
theorem dX5_way_60 : decode cX5_way 60 = .ok (.dup, 1) := by decide +kernel
theorem dX5_way_61 : decode cX5_way 61 = .ok (.getfield 53, 3) := by decide +kernel
theorem dX5_way_64 : decode cX5_way 64 = .ok (.iconst 1, 1) := by decide +kernel
theorem dX5_way_65 : decode cX5_way 65 = .ok (.iadd, 1) := by decide +kernel
theorem dX5_way_66 : decode cX5_way 66 = .ok (.putfield 53, 3) := by decide +kernel
theorem dX5_way_69 : decode cX5_way 69 = .ok (.aload_n 0, 1) := by decide +kernel
theorem dX5_way_70 : decode cX5_way 70 = .ok (.getfield 53, 3) := by decide +kernel
theorem dX5_way_73 : decode cX5_way 73 = .ok (.iconst 1, 1) := by decide +kernel
theorem dX5_way_74 : decode cX5_way 74 = .ok (.isub, 1) := by decide +kernel
theorem dX5_way_75 : decode cX5_way 75 = .ok (.ireturn, 1) := by decide +kernel
abbrev rmX5_way : Room := { frames := 7, cells := 5, slots := 119, locals := 112 }
theorem zyX5_way : zyOK yX5_way 1 := ⟨by decide +kernel, by decide +kernel, by decide +kernel⟩
set_option maxHeartbeats 4000000 in
set_option maxRecDepth 100000 in
theorem wX5_way {G : ZG} (a0 : Nat) (a1 : Int32) (S : ZS) (h0 : zFix G cX5_way RX5 3 (some .int) rmX5_way) (C : Option ((Int32 × ZS) ⊕ ZX) → Prop) (hC : ¬ C none) (hnt : zNoTab G) (hE : ∀ (v : Int32) (S1 : ZS), C (some (.inl (v, S1))) → zEndT G (some (.int v)) S1 rmX5_way) (hEx : ∀ (E : String) (h : ZH), C (some (.inr (E, h))) → zEndX G E h rmX5_way) : zV G 3 S 0 0 0 [(0, .ref a0), (1, .int a1)] [] (C (fX5_way a0 a1 S)) := by
  have J25 : ∀  (S_25 : ZS), zV G 3 S_25 1 6 25 [] [] (C (fX5_way_J25 S_25)) := by
    intro  S_25
    unfold fX5_way_J25
    exact zr_throw h0 hnt (cls := "java/lang/IllegalStateException") (text := "there are 16 ways") (names := ["java/lang/RuntimeException", "java/lang/Exception"]) (by decide +kernel) zfitN zw_186 zw_9 (by decide +kernel) (by decide +kernel) zat_X5_67 zbad_X5_67 zgd_X5_67 dX5_way_25 dX5_way_28 dX5_way_29 dX5_way_31 dX5_way_34 (by decide) (Nat.le_of_ble_eq_true rfl) (by decide) (by decide) (fun h => hEx _ _ h)
  unfold fX5_way
  refine zr_aload_n h0 dX5_way_0 rfl (n := 1) rfl ?_
  refine zr_iload_n h0 dX5_way_1 rfl (n := 2) rfl ?_
  refine zr_cTR C hC 1 6 h0 (fun x hx => zk_VT h0 zcX5 (zcl_ex hx) (fun l D z0 hlt => kX5_needCube l D z0 hlt a0 a1 S x (zcl_of hx)) hnt zw_296 zw_298 zs_2 zw_1 zw_299 rfl zyX5_needCube (As := [.int a1]) (st := []) rfl (by decide) rfl (Nat.le_of_ble_eq_true rfl) (by decide) dX5_way_2) hnt rfl rfl (by decide) (by decide) (n := 5) rfl (fun z h => hEx _ _ h) (fun x1 => ?_)
  refine zr_astore_n [(0, .ref a0), (1, .int a1), (2, .ref x1.1)] h0 dX5_way_5 (by decide) rfl (n := 6) rfl ?_
  refine zr_aload_n h0 dX5_way_6 rfl (n := 7) rfl ?_
  refine zr_getI C hC h0 zcX5 (k := 8) (by decide) zw_82 dX5_way_7 (n := 10) rfl (fun v2 => ?_)
  refine zr_if_lt C (tgt := 25) h0 dX5_way_10 (by decide) (n := 13) rfl ?_ ?_
  · refine zv_sub (lv' := []) ?_ (zsub_of [] rfl)
    exact J25 x1.2
  · refine zv_sub (lv' := [(0, .ref a0), (2, .ref x1.1)]) ?_ (zsub_of [0, 2] rfl)
    refine zr_aload_n h0 dX5_way_13 rfl (n := 14) rfl ?_
    refine zr_getI C hC h0 zcX5 (k := 8) (by decide) zw_82 dX5_way_14 (n := 17) rfl (fun v3 => ?_)
    refine zr_aload_n h0 dX5_way_17 rfl (n := 18) rfl ?_
    refine zr_getR C hC h0 zcX5 (k := 1) (by decide) zw_75 dX5_way_18 (n := 21) rfl (fun v4 => ?_)
    refine zr_alen C hC h0 dX5_way_21 (n := 22) rfl (fun v5 => ?_)
    refine zr_icmp_lt C (tgt := 35) h0 dX5_way_22 (by decide) (n := 25) rfl ?_ ?_
    · refine zr_aload_n h0 dX5_way_35 rfl (n := 36) rfl ?_
      refine zr_getR C hC h0 zcX5 (k := 1) (by decide) zw_75 dX5_way_36 (n := 39) rfl (fun v6 => ?_)
      refine zr_aload_n h0 dX5_way_39 rfl (n := 40) rfl ?_
      refine zr_getI C hC h0 zcX5 (k := 8) (by decide) zw_82 dX5_way_40 (n := 43) rfl (fun v7 => ?_)
      refine zr_new (fs := [.null, .int 0, .null, .int 0]) (ce' := 2) (sl' := 10) h0 zcX4 znwX4 zw_25 zw_397 zw_12 rfl rfl (by decide) (by decide) dX5_way_43 (n := 46) rfl ?_
      refine zr_dup h0 rfl dX5_way_46 (n := 47) rfl ?_
      refine zr_aload_n h0 dX5_way_47 rfl (n := 48) rfl ?_
      refine zr_cMR C hC 4 79 (fun x hx => zk_V h0 zcX0 (zcl_ex hx) (fun l D z0 => kX0_copied l D z0 x1.1 (zno x1.2 4 [.null, .int 0, .null, .int 0]) x (zcl_of hx)) zw_398 zw_399 zw_400 zw_10 zw_401 rfl zyX0_copied (As := []) (st := [.ref (Prod.snd x1.2), .ref (Prod.snd x1.2), .int v7, .ref v6]) rfl (by decide) rfl (Nat.le_of_ble_eq_true rfl) (by decide) dX5_way_48) rfl rfl (n := 51) rfl (fun x8 => ?_)
      refine zr_aload_n h0 dX5_way_51 rfl (n := 52) rfl ?_
      refine zr_getI C hC h0 zcX5 (k := 6) (by decide) zw_80 dX5_way_52 (n := 55) rfl (fun v9 => ?_)
      refine zr_cMV C hC 5 119 (fun x hx => zk_I h0 (fun l D z0 => kX4_init l D z0 (Prod.snd x1.2) x8.1 v9 x8.2 x hx) zw_404 zw_405 zw_12 zw_406 rfl zyX4_init (As := [.ref x8.1, .int v9]) (st := [.ref (Prod.snd x1.2), .int v7, .ref v6]) rfl (by decide) rfl (Nat.le_of_ble_eq_true rfl) (by decide) dX5_way_55) rfl rfl (n := 58) rfl (fun x10 => ?_)
      refine zr_aastore C hC (t := 4) h0 zcX4 rfl dX5_way_58 (n := 59) rfl (fun S11 => ?_)
      refine zr_aload_n h0 dX5_way_59 rfl (n := 60) rfl ?_
      refine zr_dup h0 rfl dX5_way_60 (n := 61) rfl ?_
      refine zr_getI C hC h0 zcX5 (k := 8) (by decide) zw_82 dX5_way_61 (n := 64) rfl (fun v12 => ?_)
      refine zr_iconst (1 : Int32) h0 (by decide) dX5_way_64 (n := 65) rfl ?_
      refine zr_iadd h0 dX5_way_65 (n := 66) rfl ?_
      refine zr_putF C hC h0 zcX5 (k := 8) (by decide) zw_82 rfl rfl rfl dX5_way_66 (n := 69) rfl (fun S13 => ?_)
      refine zr_aload_n h0 dX5_way_69 rfl (n := 70) rfl ?_
      refine zr_getI C hC h0 zcX5 (k := 8) (by decide) zw_82 dX5_way_70 (n := 73) rfl (fun v14 => ?_)
      refine zr_iconst (1 : Int32) h0 (by decide) dX5_way_73 (n := 74) rfl ?_
      refine zr_isub h0 dX5_way_74 (n := 75) rfl ?_
      exact zr_iretT h0 rfl dX5_way_75 (hE _ _) (by decide) (by decide)
    · refine zv_sub (lv' := []) ?_ (zsub_of [] rfl)
      exact J25 x1.2
theorem kX5_way (l : Launch) (D : ZD) (z0 : Nat) (hlt : l.stackTraces = false) (a0 : Nat) (a1 : Int32) (S : ZS) (x : ((Int32 × ZS) ⊕ ZX)) (hf : fX5_way a0 a1 S = some x) : zMetT l D z0 yX5_way cX5_way 3 (some .int) rmX5_way [.ref a0, .int a1] S (x.map (fun y => ((some (.int y.1)), y.2)) id) :=
  zMetT_of hlt (by decide) (Nat.le_of_ble_eq_true rfl) (fun G h0 hnt hE hEx => wX5_way a0 a1 S h0 (fun o => o = some x) (fun h => nomatch h) hnt (fun v S1 h => by cases h; exact hE _ _ rfl) (fun E h hh => by cases hh; exact hEx _ _ rfl)) hf
