theorem dX5_needWay_0 : decode cX5_needWay 0 = .ok (.iload_n 1, 1) := by decide +kernel
theorem dX5_needWay_1 : decode cX5_needWay 1 = .ok (.ifCond .lt 21, 3) := by decide +kernel
theorem dX5_needWay_4 : decode cX5_needWay 4 = .ok (.iload_n 1, 1) := by decide +kernel
theorem dX5_needWay_5 : decode cX5_needWay 5 = .ok (.aload_n 0, 1) := by decide +kernel
theorem dX5_needWay_6 : decode cX5_needWay 6 = .ok (.getfield 17, 3) := by decide +kernel
theorem dX5_needWay_9 : decode cX5_needWay 9 = .ok (.arraylength, 1) := by decide +kernel
theorem dX5_needWay_10 : decode cX5_needWay 10 = .ok (.if_icmp .ge 12, 3) := by decide +kernel
theorem dX5_needWay_13 : decode cX5_needWay 13 = .ok (.aload_n 0, 1) := by decide +kernel
theorem dX5_needWay_14 : decode cX5_needWay 14 = .ok (.getfield 17, 3) := by decide +kernel
theorem dX5_needWay_17 : decode cX5_needWay 17 = .ok (.iload_n 1, 1) := by decide +kernel
theorem dX5_needWay_18 : decode cX5_needWay 18 = .ok (.aaload, 1) := by decide +kernel
theorem dX5_needWay_19 : decode cX5_needWay 19 = .ok (.goto 4, 3) := by decide +kernel
theorem dX5_needWay_22 : decode cX5_needWay 22 = .ok (.aconst_null, 1) := by decide +kernel
theorem dX5_needWay_23 : decode cX5_needWay 23 = .ok (.astore_n 2, 1) := by decide +kernel
theorem dX5_needWay_24 : decode cX5_needWay 24 = .ok (.aload_n 2, 1) := by decide +kernel
theorem dX5_needWay_25 : decode cX5_needWay 25 = .ok (.ifnonnull 14, 3) := by decide +kernel
theorem dX5_needWay_28 : decode cX5_needWay 28 = .ok (.new 254, 3) := by decide +kernel
theorem dX5_needWay_31 : decode cX5_needWay 31 = .ok (.dup, 1) := by decide +kernel
theorem dX5_needWay_32 : decode cX5_needWay 32 = .ok (.ldc_w 259, 3) := by decide +kernel
theorem dX5_needWay_35 : decode cX5_needWay 35 = .ok (.invokespecial 258, 3) := by decide +kernel
theorem dX5_needWay_38 : decode cX5_needWay 38 = .ok (.athrow, 1) := by decide +kernel
theorem dX5_needWay_39 : decode cX5_needWay 39 = .ok (.aload_n 2, 1) := by decide +kernel
theorem dX5_needWay_40 : decode cX5_needWay 40 = .ok (.areturn, 1) := by decide +kernel
abbrev rmX5_needWay : Room := { frames := 6, cells := 1, slots := 6, locals := 90 }
theorem zyX5_needWay : zyOK yX5_needWay 1 := ⟨by decide +kernel, by decide +kernel, by decide +kernel⟩
set_option maxHeartbeats 4000000 in
set_option maxRecDepth 100000 in
theorem wX5_needWay {G : ZG} (a0 : Nat) (a1 : Int32) (S : ZS) (h0 : zFix G cX5_needWay RX5 3 (some (.object "Bilinearium$Way")) rmX5_needWay) (C : Option ((Nat × ZS) ⊕ ZX) → Prop) (hC : ¬ C none) (hnt : zNoTab G) (hE : ∀ (v : Nat) (S1 : ZS), C (some (.inl (v, S1))) → zEndT G (some (.ref v)) S1 rmX5_needWay) (hEx : ∀ (E : String) (h : ZH), C (some (.inr (E, h))) → zEndX G E h rmX5_needWay) : zV G 3 S 0 0 0 [(0, .ref a0), (1, .int a1)] [] (C (fX5_needWay a0 a1 S)) := by
  have J23 : ∀ (s0_23 : Option Nat) (S_23 : ZS), zV G 3 S_23 0 0 23 [] [va_rf s0_23] (C (fX5_needWay_J23 s0_23 S_23)) := by
    intro s0_23 S_23
    unfold fX5_needWay_J23
    refine zr_astoreQ_n [(2, va_rf s0_23)] h0 dX5_needWay_23 (by decide) rfl (n := 24) rfl ?_
    refine zr_aloadQ_n h0 dX5_needWay_24 rfl (n := 25) rfl ?_
    refine zr_nonnullQ C (tgt := 39) h0 dX5_needWay_25 (by decide) (n := 28) rfl (fun hr => ?_) (fun as0_23 hr => ?_)
    · subst hr
      refine zv_sub (lv' := []) ?_ (zsub_of [] rfl)
      exact zr_throwW h0 hnt (cls := "java/lang/IndexOutOfBoundsException") (text := "there is no such way") (names := ["java/lang/RuntimeException", "java/lang/Exception"]) (by decide +kernel) zfitN zw_300 zw_11 (by decide +kernel) (by decide +kernel) zat_X5_258 zbad_X5_258 zgd_X5_258 dX5_needWay_28 dX5_needWay_31 dX5_needWay_32 dX5_needWay_35 dX5_needWay_38 (by decide) (Nat.le_of_ble_eq_true rfl) (by decide) (by decide) (fun h => hEx _ _ h)
    · subst hr
      refine zr_aload_n h0 dX5_needWay_39 rfl (n := 40) rfl ?_
      exact zr_aretT h0 rfl (Or.inl ⟨_, rfl⟩) dX5_needWay_40 (hE _ _) (by decide) (by decide)
  have J22 : ∀  (S_22 : ZS), zV G 3 S_22 0 0 22 [] [] (C (fX5_needWay_J22 S_22)) := by
    intro  S_22
    unfold fX5_needWay_J22
    refine zr_null h0 dX5_needWay_22 (n := 23) rfl ?_
    exact J23 none S_22
  unfold fX5_needWay
  refine zr_iload_n h0 dX5_needWay_0 rfl (n := 1) rfl ?_
  refine zr_if_lt C (tgt := 22) h0 dX5_needWay_1 (by decide) (n := 4) rfl ?_ ?_
  · refine zv_sub (lv' := []) ?_ (zsub_of [] rfl)
    exact J22 S
  · refine zr_iload_n h0 dX5_needWay_4 rfl (n := 5) rfl ?_
    refine zr_aload_n h0 dX5_needWay_5 rfl (n := 6) rfl ?_
    refine zr_getR C hC h0 zcX5 (k := 1) (by decide) zw_75 dX5_needWay_6 (n := 9) rfl (fun v1 => ?_)
    refine zr_alen C hC h0 dX5_needWay_9 (n := 10) rfl (fun v2 => ?_)
    refine zr_icmp_ge C (tgt := 22) h0 dX5_needWay_10 (by decide) (n := 13) rfl ?_ ?_
    · refine zv_sub (lv' := []) ?_ (zsub_of [] rfl)
      exact J22 S
    · refine zr_aload_n h0 dX5_needWay_13 rfl (n := 14) rfl ?_
      refine zr_getR C hC h0 zcX5 (k := 1) (by decide) zw_75 dX5_needWay_14 (n := 17) rfl (fun v3 => ?_)
      refine zr_iload_n h0 dX5_needWay_17 rfl (n := 18) rfl ?_
      refine zr_aaload C hC (t := 4) h0 rfl dX5_needWay_18 (n := 19) rfl (fun v4 => ?_)
      refine zr_goto (tgt := 23) h0 dX5_needWay_19 (by decide) ?_
      refine zv_sub (lv' := []) ?_ (zsub_of [] rfl)
      exact J23 v4 S
theorem kX5_needWay (l : Launch) (D : ZD) (z0 : Nat) (hlt : l.stackTraces = false) (a0 : Nat) (a1 : Int32) (S : ZS) (x : ((Nat × ZS) ⊕ ZX)) (hf : fX5_needWay a0 a1 S = some x) : zMetT l D z0 yX5_needWay cX5_needWay 3 (some (.object "Bilinearium$Way")) rmX5_needWay [.ref a0, .int a1] S (x.map (fun y => ((some (.ref y.1)), y.2)) id) :=
  zMetT_of hlt (by decide) (Nat.le_of_ble_eq_true rfl) (fun G h0 hnt hE hEx => wX5_needWay a0 a1 S h0 (fun o => o = some x) (fun h => nomatch h) hnt (fun v S1 h => by cases h; exact hE _ _ rfl) (fun E h hh => by cases hh; exact hEx _ _ rfl)) hf
theorem dX5_power_0 : decode cX5_power 0 = .ok (.iconst 1, 1) := by decide +kernel
theorem dX5_power_1 : decode cX5_power 1 = .ok (.istore_n 2, 1) := by decide +kernel
theorem dX5_power_2 : decode cX5_power 2 = .ok (.iconst 0, 1) := by decide +kernel
theorem dX5_power_3 : decode cX5_power 3 = .ok (.istore_n 3, 1) := by decide +kernel
theorem dX5_power_4 : decode cX5_power 4 = .ok (.iload_n 3, 1) := by decide +kernel
theorem dX5_power_5 : decode cX5_power 5 = .ok (.iload_n 1, 1) := by decide +kernel
theorem dX5_power_6 : decode cX5_power 6 = .ok (.if_icmp .ge 13, 3) := by decide +kernel
theorem dX5_power_9 : decode cX5_power 9 = .ok (.iload_n 2, 1) := by decide +kernel
theorem dX5_power_10 : decode cX5_power 10 = .ok (.iload_n 0, 1) := by decide +kernel
theorem dX5_power_11 : decode cX5_power 11 = .ok (.imul, 1) := by decide +kernel
theorem dX5_power_12 : decode cX5_power 12 = .ok (.istore_n 2, 1) := by decide +kernel
theorem dX5_power_13 : decode cX5_power 13 = .ok (.iinc 3 1, 3) := by decide +kernel
theorem dX5_power_16 : decode cX5_power 16 = .ok (.goto (-12), 3) := by decide +kernel
theorem dX5_power_19 : decode cX5_power 19 = .ok (.iload_n 2, 1) := by decide +kernel
theorem dX5_power_20 : decode cX5_power 20 = .ok (.ireturn, 1) := by decide +kernel
abbrev rmX5_power : Room := { frames := 1, cells := 0, slots := 0, locals := 20 }
theorem zyX5_power : zyOK yX5_power 2 := ⟨by decide +kernel, by decide +kernel, by decide +kernel⟩
set_option maxHeartbeats 4000000 in
set_option maxRecDepth 100000 in
theorem wX5_power {G : ZG} (a0 : Int32) (a1 : Int32) (S : ZS) (h0 : zFix G cX5_power RX5 4 (some .int) rmX5_power) (C : Option Int32 → Prop) (hC : ¬ C none) (hE : ∀ v : Int32, C (some v) → zEnd G (some (.int v)) S rmX5_power) : zV G 4 S 0 0 0 [(0, .int a0), (1, .int a1)] [] (C (fX5_power a0 a1)) := by
  unfold fX5_power
  refine zr_iconst (1 : Int32) h0 (by decide) dX5_power_0 (n := 1) rfl ?_
  refine zr_istore_n [(0, .int a0), (1, .int a1), (2, .int (1 : Int32))] h0 dX5_power_1 (by decide) rfl (n := 2) rfl ?_
  refine zr_iconst (0 : Int32) h0 (by decide) dX5_power_2 (n := 3) rfl ?_
  refine zr_istore_n [(0, .int a0), (1, .int a1), (2, .int (1 : Int32)), (3, .int (0 : Int32))] h0 dX5_power_3 (by decide) rfl (n := 4) rfl ?_
  refine zr_loop hC (fX5_power_B4 a0 a1) (fun y => [(0, .int a0), (1, .int a1), (2, .int y.1), (3, .int y.2)]) (fun y => S) zF ((1 : Int32), (0 : Int32)) (fun C4 hC4 hX4 hL4 t4 => ?_)
  unfold fX5_power_B4
  refine zr_iload_n h0 dX5_power_4 rfl (n := 5) rfl ?_
  refine zr_iload_n h0 dX5_power_5 rfl (n := 6) rfl ?_
  refine zr_icmp_ge C4 (tgt := 19) h0 dX5_power_6 (by decide) (n := 9) rfl ?_ ?_
  · refine zr_ex hX4 ?_
    refine zv_sub (lv' := [(2, .int t4.1)]) ?_ (zsub_of [2] rfl)
    refine zr_iload_n h0 dX5_power_19 rfl (n := 20) rfl ?_
    exact zr_iret h0 rfl dX5_power_20 (hE _) (by decide) (by decide)
  · refine zr_iload_n h0 dX5_power_9 rfl (n := 10) rfl ?_
    refine zr_iload_n h0 dX5_power_10 rfl (n := 11) rfl ?_
    refine zr_imul h0 dX5_power_11 (n := 12) rfl ?_
    refine zr_istore_n [(0, .int a0), (1, .int a1), (2, .int (t4.1 * a0)), (3, .int t4.2)] h0 dX5_power_12 (by decide) rfl (n := 13) rfl ?_
    refine zr_iinc (1 : Int32) [(0, .int a0), (1, .int a1), (2, .int (t4.1 * a0)), (3, .int (t4.2 + (1 : Int32)))] h0 dX5_power_13 rfl (by decide) rfl rfl (n := 16) rfl ?_
    refine zr_goto (tgt := 4) h0 dX5_power_16 (by decide) ?_
    exact hL4 (t4.1 * a0, t4.2 + (1 : Int32))
theorem kX5_power (l : Launch) (D : ZD) (z0 : Nat) (a0 : Int32) (a1 : Int32) (S : ZS) (x : Int32) (hf : fX5_power a0 a1 = some x) : zMet l D z0 yX5_power cX5_power 4 (some .int) rmX5_power [.int a0, .int a1] S (some (.int x)) S :=
  zMet_of (by decide) (Nat.le_of_ble_eq_true rfl) (fun G h0 hini hE => wX5_power a0 a1 S h0 (fun o => o = some x) (fun h => nomatch h) (fun v h => by cases h; exact hE)) hf
theorem dX5_needCode_0 : decode cX5_needCode 0 = .ok (.iload_n 1, 1) := by decide +kernel
theorem dX5_needCode_1 : decode cX5_needCode 1 = .ok (.aload_n 0, 1) := by decide +kernel
theorem dX5_needCode_2 : decode cX5_needCode 2 = .ok (.getfield 46, 3) := by decide +kernel
theorem dX5_needCode_5 : decode cX5_needCode 5 = .ok (.iload_n 2, 1) := by decide +kernel
theorem dX5_needCode_6 : decode cX5_needCode 6 = .ok (.invokestatic 279, 3) := by decide +kernel
theorem dX5_needCode_9 : decode cX5_needCode 9 = .ok (.invokestatic 261, 3) := by decide +kernel
theorem dX5_needCode_12 : decode cX5_needCode 12 = .ok (.ifCond .ne 14, 3) := by decide +kernel
theorem dX5_needCode_15 : decode cX5_needCode 15 = .ok (.new 56, 3) := by decide +kernel
theorem dX5_needCode_18 : decode cX5_needCode 18 = .ok (.dup, 1) := by decide +kernel
theorem dX5_needCode_19 : decode cX5_needCode 19 = .ok (.ldc_w 282, 3) := by decide +kernel
theorem dX5_needCode_22 : decode cX5_needCode 22 = .ok (.invokespecial 60, 3) := by decide +kernel
theorem dX5_needCode_25 : decode cX5_needCode 25 = .ok (.athrow, 1) := by decide +kernel
theorem dX5_needCode_26 : decode cX5_needCode 26 = .ok (.return_, 1) := by decide +kernel
abbrev rmX5_needCode : Room := { frames := 6, cells := 1, slots := 6, locals := 90 }
theorem zyX5_needCode : zyOK yX5_needCode 2 := ⟨by decide +kernel, by decide +kernel, by decide +kernel⟩
set_option maxHeartbeats 4000000 in
set_option maxRecDepth 100000 in
theorem wX5_needCode {G : ZG} (a0 : Nat) (a1 : Int32) (a2 : Int32) (S : ZS) (h0 : zFix G cX5_needCode RX5 3 none rmX5_needCode) (C : Option ((Unit × ZS) ⊕ ZX) → Prop) (hC : ¬ C none) (hnt : zNoTab G) (hE : ∀ (v : Unit) (S1 : ZS), C (some (.inl (v, S1))) → zEndT G none S1 rmX5_needCode) (hEx : ∀ (E : String) (h : ZH), C (some (.inr (E, h))) → zEndX G E h rmX5_needCode) : zV G 3 S 0 0 0 [(0, .ref a0), (1, .int a1), (2, .int a2)] [] (C (fX5_needCode a0 a1 a2 S)) := by
  unfold fX5_needCode
  refine zr_iload_n h0 dX5_needCode_0 rfl (n := 1) rfl ?_
  refine zr_aload_n h0 dX5_needCode_1 rfl (n := 2) rfl ?_
  refine zr_getI C hC h0 zcX5 (k := 6) (by decide) zw_80 dX5_needCode_2 (n := 5) rfl (fun v1 => ?_)
  refine zr_iload_n h0 dX5_needCode_5 rfl (n := 6) rfl ?_
  refine zr_cRI C hC 0 0 (fun x hx => zk_S h0 (fun l D z0 => kX5_power l D z0 v1 a2 S x hx) zw_439 zw_440 zw_1 zw_441 zyX5_power (As := [.int v1, .int a2]) (st := [.int a1]) rfl (by decide) rfl (Nat.le_of_ble_eq_true rfl) (by decide) dX5_needCode_6) rfl rfl (n := 9) rfl (fun x2 => ?_)
  refine zr_cRI C hC 0 0 (fun x hx => zk_S h0 (fun l D z0 => kX5_isBelow l D z0 a1 x2 S x hx) zw_319 zw_320 zw_1 zw_321 zyX5_isBelow (As := [.int a1, .int x2]) (st := []) rfl (by decide) rfl (Nat.le_of_ble_eq_true rfl) (by decide) dX5_needCode_9) rfl rfl (n := 12) rfl (fun x3 => ?_)
  refine zr_if_ne C (tgt := 26) h0 dX5_needCode_12 (by decide) (n := 15) rfl ?_ ?_
  · refine zv_sub (lv' := []) ?_ (zsub_of [] rfl)
    exact zr_throwW h0 hnt (cls := "java/lang/IllegalArgumentException") (text := "there is no vector of such a code") (names := ["java/lang/RuntimeException", "java/lang/Exception"]) (by decide +kernel) zfitN zw_118 zw_8 (by decide +kernel) (by decide +kernel) zat_X5_60 zbad_X5_60 zgd_X5_60 dX5_needCode_15 dX5_needCode_18 dX5_needCode_19 dX5_needCode_22 dX5_needCode_25 (by decide) (Nat.le_of_ble_eq_true rfl) (by decide) (by decide) (fun h => hEx _ _ h)
  · refine zv_sub (lv' := []) ?_ (zsub_of [] rfl)
    exact zr_vretT h0 rfl dX5_needCode_26 (fun h => hE _ _ h) (by decide) (by decide)
theorem kX5_needCode (l : Launch) (D : ZD) (z0 : Nat) (hlt : l.stackTraces = false) (a0 : Nat) (a1 : Int32) (a2 : Int32) (S : ZS) (x : ((Unit × ZS) ⊕ ZX)) (hf : fX5_needCode a0 a1 a2 S = some x) : zMetT l D z0 yX5_needCode cX5_needCode 3 none rmX5_needCode [.ref a0, .int a1, .int a2] S (x.map (fun y => (none, y.2)) id) :=
  zMetT_of hlt (by decide) (Nat.le_of_ble_eq_true rfl) (fun G h0 hnt hE hEx => wX5_needCode a0 a1 a2 S h0 (fun o => o = some x) (fun h => nomatch h) hnt (fun v S1 h => by cases h; exact hE _ _ rfl) (fun E h hh => by cases hh; exact hEx _ _ rfl)) hf
theorem dX5_needRoom_0 : decode cX5_needRoom 0 = .ok (.aload_n 0, 1) := by decide +kernel
theorem dX5_needRoom_1 : decode cX5_needRoom 1 = .ok (.getfield 168, 3) := by decide +kernel
theorem dX5_needRoom_4 : decode cX5_needRoom 4 = .ok (.iload_n 1, 1) := by decide +kernel
theorem dX5_needRoom_5 : decode cX5_needRoom 5 = .ok (.iadd, 1) := by decide +kernel
theorem dX5_needRoom_6 : decode cX5_needRoom 6 = .ok (.bipush 40, 2) := by decide +kernel
theorem dX5_needRoom_8 : decode cX5_needRoom 8 = .ok (.if_icmp .le 14, 3) := by decide +kernel
theorem dX5_needRoom_11 : decode cX5_needRoom 11 = .ok (.new 63, 3) := by decide +kernel
theorem dX5_needRoom_14 : decode cX5_needRoom 14 = .ok (.dup, 1) := by decide +kernel
theorem dX5_needRoom_15 : decode cX5_needRoom 15 = .ok (.ldc_w 277, 3) := by decide +kernel
theorem dX5_needRoom_18 : decode cX5_needRoom 18 = .ok (.invokespecial 67, 3) := by decide +kernel
theorem dX5_needRoom_21 : decode cX5_needRoom 21 = .ok (.athrow, 1) := by decide +kernel
theorem dX5_needRoom_22 : decode cX5_needRoom 22 = .ok (.return_, 1) := by decide +kernel
abbrev rmX5_needRoom : Room := { frames := 6, cells := 1, slots := 6, locals := 90 }
theorem zyX5_needRoom : zyOK yX5_needRoom 2 := ⟨by decide +kernel, by decide +kernel, by decide +kernel⟩
set_option maxHeartbeats 4000000 in
set_option maxRecDepth 100000 in
theorem wX5_needRoom {G : ZG} (a0 : Nat) (a1 : Int32) (S : ZS) (h0 : zFix G cX5_needRoom RX5 2 none rmX5_needRoom) (C : Option ((Unit × ZS) ⊕ ZX) → Prop) (hC : ¬ C none) (hnt : zNoTab G) (hE : ∀ (v : Unit) (S1 : ZS), C (some (.inl (v, S1))) → zEndT G none S1 rmX5_needRoom) (hEx : ∀ (E : String) (h : ZH), C (some (.inr (E, h))) → zEndX G E h rmX5_needRoom) : zV G 2 S 0 0 0 [(0, .ref a0), (1, .int a1)] [] (C (fX5_needRoom a0 a1 S)) := by
  unfold fX5_needRoom
  refine zr_aload_n h0 dX5_needRoom_0 rfl (n := 1) rfl ?_
  refine zr_getI C hC h0 zcX4 (k := 3) (by decide) zw_413 dX5_needRoom_1 (n := 4) rfl (fun v1 => ?_)
  refine zr_iload_n h0 dX5_needRoom_4 rfl (n := 5) rfl ?_
  refine zr_iadd h0 dX5_needRoom_5 (n := 6) rfl ?_
  refine zr_bipush (40 : Int32) h0 (by decide) dX5_needRoom_6 (n := 8) rfl ?_
  refine zr_icmp_le C (tgt := 22) h0 dX5_needRoom_8 (by decide) (n := 11) rfl ?_ ?_
  · refine zv_sub (lv' := []) ?_ (zsub_of [] rfl)
    exact zr_vretT h0 rfl dX5_needRoom_22 (fun h => hE _ _ h) (by decide) (by decide)
  · refine zv_sub (lv' := []) ?_ (zsub_of [] rfl)
    exact zr_throwW h0 hnt (cls := "java/lang/IllegalStateException") (text := "a way has up to 40 products") (names := ["java/lang/RuntimeException", "java/lang/Exception"]) (by decide +kernel) zfitN zw_186 zw_9 (by decide +kernel) (by decide +kernel) zat_X5_67 zbad_X5_67 zgd_X5_67 dX5_needRoom_11 dX5_needRoom_14 dX5_needRoom_15 dX5_needRoom_18 dX5_needRoom_21 (by decide) (Nat.le_of_ble_eq_true rfl) (by decide) (by decide) (fun h => hEx _ _ h)
theorem kX5_needRoom (l : Launch) (D : ZD) (z0 : Nat) (hlt : l.stackTraces = false) (a0 : Nat) (a1 : Int32) (S : ZS) (x : ((Unit × ZS) ⊕ ZX)) (hf : fX5_needRoom a0 a1 S = some x) : zMetT l D z0 yX5_needRoom cX5_needRoom 2 none rmX5_needRoom [.ref a0, .int a1] S (x.map (fun y => (none, y.2)) id) :=
  zMetT_of hlt (by decide) (Nat.le_of_ble_eq_true rfl) (fun G h0 hnt hE hEx => wX5_needRoom a0 a1 S h0 (fun o => o = some x) (fun h => nomatch h) hnt (fun v S1 h => by cases h; exact hE _ _ rfl) (fun E h hh => by cases hh; exact hEx _ _ rfl)) hf
theorem dX4_shiftOf_0 : decode cX4_shiftOf 0 = .ok (.iload_n 0, 1) := by decide +kernel
theorem dX4_shiftOf_1 : decode cX4_shiftOf 1 = .ok (.bipush 10, 2) := by decide +kernel
theorem dX4_shiftOf_3 : decode cX4_shiftOf 3 = .ok (.imul, 1) := by decide +kernel
theorem dX4_shiftOf_4 : decode cX4_shiftOf 4 = .ok (.ireturn, 1) := by decide +kernel
abbrev rmX4_shiftOf : Room := { frames := 1, cells := 0, slots := 0, locals := 20 }
theorem zyX4_shiftOf : zyOK yX4_shiftOf 1 := ⟨by decide +kernel, by decide +kernel, by decide +kernel⟩
set_option maxHeartbeats 4000000 in
set_option maxRecDepth 100000 in
theorem wX4_shiftOf {G : ZG} (a0 : Int32) (S : ZS) (h0 : zFix G cX4_shiftOf RX4 1 (some .int) rmX4_shiftOf) (C : Option Int32 → Prop) (hC : ¬ C none) (hE : ∀ v : Int32, C (some v) → zEnd G (some (.int v)) S rmX4_shiftOf) : zV G 1 S 0 0 0 [(0, .int a0)] [] (C (fX4_shiftOf a0)) := by
  unfold fX4_shiftOf
  refine zr_iload_n h0 dX4_shiftOf_0 rfl (n := 1) rfl ?_
  refine zr_bipush (10 : Int32) h0 (by decide) dX4_shiftOf_1 (n := 3) rfl ?_
  refine zr_imul h0 dX4_shiftOf_3 (n := 4) rfl ?_
  exact zr_iret h0 rfl dX4_shiftOf_4 (hE _) (by decide) (by decide)
theorem kX4_shiftOf (l : Launch) (D : ZD) (z0 : Nat) (a0 : Int32) (S : ZS) (x : Int32) (hf : fX4_shiftOf a0 = some x) : zMet l D z0 yX4_shiftOf cX4_shiftOf 1 (some .int) rmX4_shiftOf [.int a0] S (some (.int x)) S :=
  zMet_of (by decide) (Nat.le_of_ble_eq_true rfl) (fun G h0 hini hE => wX4_shiftOf a0 S h0 (fun o => o = some x) (fun h => nomatch h) (fun v h => by cases h; exact hE)) hf
theorem dX4_append_0 : decode cX4_append 0 = .ok (.aload_n 0, 1) := by decide +kernel
theorem dX4_append_1 : decode cX4_append 1 = .ok (.getfield 19, 3) := by decide +kernel
theorem dX4_append_4 : decode cX4_append 4 = .ok (.aload_n 0, 1) := by decide +kernel
theorem dX4_append_5 : decode cX4_append 5 = .ok (.getfield 23, 3) := by decide +kernel
theorem dX4_append_8 : decode cX4_append 8 = .ok (.iload_n 1, 1) := by decide +kernel
theorem dX4_append_9 : decode cX4_append 9 = .ok (.iconst 0, 1) := by decide +kernel
theorem dX4_append_10 : decode cX4_append 10 = .ok (.invokestatic 30, 3) := by decide +kernel
theorem dX4_append_13 : decode cX4_append 13 = .ok (.ishl, 1) := by decide +kernel
theorem dX4_append_14 : decode cX4_append 14 = .ok (.iload_n 2, 1) := by decide +kernel
theorem dX4_append_15 : decode cX4_append 15 = .ok (.iconst 1, 1) := by decide +kernel
theorem dX4_append_16 : decode cX4_append 16 = .ok (.invokestatic 30, 3) := by decide +kernel
theorem dX4_append_19 : decode cX4_append 19 = .ok (.ishl, 1) := by decide +kernel
theorem dX4_append_20 : decode cX4_append 20 = .ok (.ior, 1) := by decide +kernel
theorem dX4_append_21 : decode cX4_append 21 = .ok (.iload_n 3, 1) := by decide +kernel
theorem dX4_append_22 : decode cX4_append 22 = .ok (.iconst 2, 1) := by decide +kernel
theorem dX4_append_23 : decode cX4_append 23 = .ok (.invokestatic 30, 3) := by decide +kernel
theorem dX4_append_26 : decode cX4_append 26 = .ok (.ishl, 1) := by decide +kernel
theorem dX4_append_27 : decode cX4_append 27 = .ok (.ior, 1) := by decide +kernel
theorem dX4_append_28 : decode cX4_append 28 = .ok (.invokestatic 34, 3) := by decide +kernel
theorem dX4_append_31 : decode cX4_append 31 = .ok (.aload_n 0, 1) := by decide +kernel
theorem dX4_append_32 : decode cX4_append 32 = .ok (.dup, 1) := by decide +kernel
theorem dX4_append_33 : decode cX4_append 33 = .ok (.getfield 23, 3) := by decide +kernel
theorem dX4_append_36 : decode cX4_append 36 = .ok (.iconst 1, 1) := by decide +kernel
theorem dX4_append_37 : decode cX4_append 37 = .ok (.iadd, 1) := by decide +kernel
theorem dX4_append_38 : decode cX4_append 38 = .ok (.putfield 23, 3) := by decide +kernel
theorem dX4_append_41 : decode cX4_append 41 = .ok (.return_, 1) := by decide +kernel
abbrev rmX4_append : Room := { frames := 2, cells := 0, slots := 0, locals := 42 }
theorem zyX4_append : zyOK yX4_append 3 := ⟨by decide +kernel, by decide +kernel, by decide +kernel⟩
set_option maxHeartbeats 4000000 in
set_option maxRecDepth 100000 in
theorem wX4_append {G : ZG} (a0 : Nat) (a1 : Int32) (a2 : Int32) (a3 : Int32) (S : ZS) (h0 : zFix G cX4_append RX4 4 none rmX4_append) (C : Option ZS → Prop) (hC : ¬ C none) (hE : ∀ S1 : ZS, C (some S1) → zEnd G none S1 rmX4_append) : zV G 4 S 0 0 0 [(0, .ref a0), (1, .int a1), (2, .int a2), (3, .int a3)] [] (C (fX4_append a0 a1 a2 a3 S)) := by
  unfold fX4_append
  refine zr_aload_n h0 dX4_append_0 rfl (n := 1) rfl ?_
  refine zr_getR C hC h0 zcX4 (k := 2) (by decide) zw_411 dX4_append_1 (n := 4) rfl (fun v1 => ?_)
  refine zr_aload_n h0 dX4_append_4 rfl (n := 5) rfl ?_
  refine zr_getI C hC h0 zcX4 (k := 3) (by decide) zw_412 dX4_append_5 (n := 8) rfl (fun v2 => ?_)
  refine zr_iload_n h0 dX4_append_8 rfl (n := 9) rfl ?_
  refine zr_iconst (0 : Int32) h0 (by decide) dX4_append_9 (n := 10) rfl ?_
  refine zr_cRI C hC 0 0 (fun x hx => zk_S h0 (fun l D z0 => kX4_shiftOf l D z0 (0 : Int32) S x hx) zw_451 zw_452 zw_12 zw_453 zyX4_shiftOf (As := [.int (0 : Int32)]) (st := [.int a1, .int v2, .ref v1]) rfl (by decide) rfl (Nat.le_of_ble_eq_true rfl) (by decide) dX4_append_10) rfl rfl (n := 13) rfl (fun x3 => ?_)
  refine zr_ishl h0 dX4_append_13 (n := 14) rfl ?_
  refine zr_iload_n h0 dX4_append_14 rfl (n := 15) rfl ?_
  refine zr_iconst (1 : Int32) h0 (by decide) dX4_append_15 (n := 16) rfl ?_
  refine zr_cRI C hC 0 0 (fun x hx => zk_S h0 (fun l D z0 => kX4_shiftOf l D z0 (1 : Int32) S x hx) zw_451 zw_452 zw_12 zw_453 zyX4_shiftOf (As := [.int (1 : Int32)]) (st := [.int a2, .int (a1 <<< (x3 &&& 31)), .int v2, .ref v1]) rfl (by decide) rfl (Nat.le_of_ble_eq_true rfl) (by decide) dX4_append_16) rfl rfl (n := 19) rfl (fun x4 => ?_)
  refine zr_ishl h0 dX4_append_19 (n := 20) rfl ?_
  refine zr_ior h0 dX4_append_20 (n := 21) rfl ?_
  refine zr_iload_n h0 dX4_append_21 rfl (n := 22) rfl ?_
  refine zr_iconst (2 : Int32) h0 (by decide) dX4_append_22 (n := 23) rfl ?_
  refine zr_cRI C hC 0 0 (fun x hx => zk_S h0 (fun l D z0 => kX4_shiftOf l D z0 (2 : Int32) S x hx) zw_451 zw_452 zw_12 zw_453 zyX4_shiftOf (As := [.int (2 : Int32)]) (st := [.int a3, .int ((a1 <<< (x3 &&& 31)) ||| (a2 <<< (x4 &&& 31))), .int v2, .ref v1]) rfl (by decide) rfl (Nat.le_of_ble_eq_true rfl) (by decide) dX4_append_23) rfl rfl (n := 26) rfl (fun x5 => ?_)
  refine zr_ishl h0 dX4_append_26 (n := 27) rfl ?_
  refine zr_ior h0 dX4_append_27 (n := 28) rfl ?_
  refine zr_cMV C hC 0 0 (fun x hx => zk_SN (host := "Bilinearium") h0 (fun l D z0 => kX5_put l D z0 v1 v2 (((a1 <<< (x3 &&& 31)) ||| (a2 <<< (x4 &&& 31))) ||| (a3 <<< (x5 &&& 31))) S x hx) (by decide +kernel) zw_269 zw_1 zw_270 zyX5_put (As := [.ref v1, .int v2, .int (((a1 <<< (x3 &&& 31)) ||| (a2 <<< (x4 &&& 31))) ||| (a3 <<< (x5 &&& 31)))]) (st := []) rfl (by decide) rfl (Nat.le_of_ble_eq_true rfl) (by decide) dX4_append_28) rfl rfl (n := 31) rfl (fun x6 => ?_)
  refine zr_aload_n h0 dX4_append_31 rfl (n := 32) rfl ?_
  refine zr_dup h0 rfl dX4_append_32 (n := 33) rfl ?_
  refine zr_getI C hC h0 zcX4 (k := 3) (by decide) zw_412 dX4_append_33 (n := 36) rfl (fun v7 => ?_)
  refine zr_iconst (1 : Int32) h0 (by decide) dX4_append_36 (n := 37) rfl ?_
  refine zr_iadd h0 dX4_append_37 (n := 38) rfl ?_
  refine zr_putF C hC h0 zcX4 (k := 3) (by decide) zw_412 rfl rfl rfl dX4_append_38 (n := 41) rfl (fun S8 => ?_)
  exact zr_vret h0 rfl dX4_append_41 (fun h => hE _ h) (by decide) (by decide)
theorem kX4_append (l : Launch) (D : ZD) (z0 : Nat) (a0 : Nat) (a1 : Int32) (a2 : Int32) (a3 : Int32) (S : ZS) (x : ZS) (hf : fX4_append a0 a1 a2 a3 S = some x) : zMet l D z0 yX4_append cX4_append 4 none rmX4_append [.ref a0, .int a1, .int a2, .int a3] S none x :=
  zMet_of (by decide) (Nat.le_of_ble_eq_true rfl) (fun G h0 hini hE => wX4_append a0 a1 a2 a3 S h0 (fun o => o = some x) (fun h => nomatch h) (fun S1 h => by cases h; exact hE)) hf
theorem dX5_multiply_0 : decode cX5_multiply 0 = .ok (.aload_n 0, 1) := by decide +kernel
theorem dX5_multiply_1 : decode cX5_multiply 1 = .ok (.iload_n 1, 1) := by decide +kernel
theorem dX5_multiply_2 : decode cX5_multiply 2 = .ok (.invokevirtual 148, 3) := by decide +kernel
theorem dX5_multiply_5 : decode cX5_multiply 5 = .ok (.astore 5, 2) := by decide +kernel
theorem dX5_multiply_7 : decode cX5_multiply 7 = .ok (.aload_n 0, 1) := by decide +kernel
theorem dX5_multiply_8 : decode cX5_multiply 8 = .ok (.iload_n 2, 1) := by decide +kernel
theorem dX5_multiply_9 : decode cX5_multiply 9 = .ok (.aload 5, 2) := by decide +kernel
theorem dX5_multiply_11 : decode cX5_multiply 11 = .ok (.getfield 152, 3) := by decide +kernel
theorem dX5_multiply_14 : decode cX5_multiply 14 = .ok (.getfield 126, 3) := by decide +kernel
theorem dX5_multiply_17 : decode cX5_multiply 17 = .ok (.invokevirtual 156, 3) := by decide +kernel
theorem dX5_multiply_20 : decode cX5_multiply 20 = .ok (.aload_n 0, 1) := by decide +kernel
theorem dX5_multiply_21 : decode cX5_multiply 21 = .ok (.iload_n 3, 1) := by decide +kernel
theorem dX5_multiply_22 : decode cX5_multiply 22 = .ok (.aload 5, 2) := by decide +kernel
theorem dX5_multiply_24 : decode cX5_multiply 24 = .ok (.getfield 152, 3) := by decide +kernel
theorem dX5_multiply_27 : decode cX5_multiply 27 = .ok (.getfield 129, 3) := by decide +kernel
theorem dX5_multiply_30 : decode cX5_multiply 30 = .ok (.invokevirtual 156, 3) := by decide +kernel
theorem dX5_multiply_33 : decode cX5_multiply 33 = .ok (.aload_n 0, 1) := by decide +kernel
theorem dX5_multiply_34 : decode cX5_multiply 34 = .ok (.iload 4, 2) := by decide +kernel
theorem dX5_multiply_36 : decode cX5_multiply 36 = .ok (.aload 5, 2) := by decide +kernel
theorem dX5_multiply_38 : decode cX5_multiply 38 = .ok (.getfield 152, 3) := by decide +kernel
theorem dX5_multiply_41 : decode cX5_multiply 41 = .ok (.getfield 132, 3) := by decide +kernel
theorem dX5_multiply_44 : decode cX5_multiply 44 = .ok (.invokevirtual 156, 3) := by decide +kernel
theorem dX5_multiply_47 : decode cX5_multiply 47 = .ok (.aload 5, 2) := by decide +kernel
theorem dX5_multiply_49 : decode cX5_multiply 49 = .ok (.iconst 1, 1) := by decide +kernel
theorem dX5_multiply_50 : decode cX5_multiply 50 = .ok (.invokestatic 160, 3) := by decide +kernel
theorem dX5_multiply_53 : decode cX5_multiply 53 = .ok (.aload 5, 2) := by decide +kernel
theorem dX5_multiply_55 : decode cX5_multiply 55 = .ok (.iload_n 2, 1) := by decide +kernel
theorem dX5_multiply_56 : decode cX5_multiply 56 = .ok (.iload_n 3, 1) := by decide +kernel
theorem dX5_multiply_57 : decode cX5_multiply 57 = .ok (.iload 4, 2) := by decide +kernel
theorem dX5_multiply_59 : decode cX5_multiply 59 = .ok (.invokevirtual 164, 3) := by decide +kernel
theorem dX5_multiply_62 : decode cX5_multiply 62 = .ok (.aload 5, 2) := by decide +kernel
theorem dX5_multiply_64 : decode cX5_multiply 64 = .ok (.getfield 168, 3) := by decide +kernel
theorem dX5_multiply_67 : decode cX5_multiply 67 = .ok (.ireturn, 1) := by decide +kernel
abbrev rmX5_multiply : Room := { frames := 7, cells := 5, slots := 30, locals := 112 }
theorem zyX5_multiply : zyOK yX5_multiply 4 := ⟨by decide +kernel, by decide +kernel, by decide +kernel⟩
set_option maxHeartbeats 4000000 in
set_option maxRecDepth 100000 in
theorem wX5_multiply {G : ZG} (a0 : Nat) (a1 : Int32) (a2 : Int32) (a3 : Int32) (a4 : Int32) (S : ZS) (h0 : zFix G cX5_multiply RX5 6 (some .int) rmX5_multiply) (C : Option ((Int32 × ZS) ⊕ ZX) → Prop) (hC : ¬ C none) (hnt : zNoTab G) (hE : ∀ (v : Int32) (S1 : ZS), C (some (.inl (v, S1))) → zEndT G (some (.int v)) S1 rmX5_multiply) (hEx : ∀ (E : String) (h : ZH), C (some (.inr (E, h))) → zEndX G E h rmX5_multiply) : zV G 6 S 0 0 0 [(0, .ref a0), (1, .int a1), (2, .int a2), (3, .int a3), (4, .int a4)] [] (C (fX5_multiply a0 a1 a2 a3 a4 S)) := by
  unfold fX5_multiply
  refine zr_aload_n h0 dX5_multiply_0 rfl (n := 1) rfl ?_
  refine zr_iload_n h0 dX5_multiply_1 rfl (n := 2) rfl ?_
  refine zr_cTR C hC 1 6 h0 (fun x hx => zk_VT h0 zcX5 (zcl_ex hx) (fun l D z0 hlt => kX5_needWay l D z0 hlt a0 a1 S x (zcl_of hx)) hnt zw_430 zw_432 zs_3 zw_1 zw_433 rfl zyX5_needWay (As := [.int a1]) (st := []) rfl (by decide) rfl (Nat.le_of_ble_eq_true rfl) (by decide) dX5_multiply_2) hnt rfl rfl (by decide) (by decide) (n := 5) rfl (fun z h => hEx _ _ h) (fun x1 => ?_)
  refine zr_astore [(0, .ref a0), (1, .int a1), (2, .int a2), (3, .int a3), (4, .int a4), (5, .ref x1.1)] h0 dX5_multiply_5 (by decide) rfl (n := 7) rfl ?_
  refine zr_aload_n h0 dX5_multiply_7 rfl (n := 8) rfl ?_
  refine zr_iload_n h0 dX5_multiply_8 rfl (n := 9) rfl ?_
  refine zr_aload h0 dX5_multiply_9 rfl (n := 11) rfl ?_
  refine zr_getR C hC h0 zcX4 (k := 0) (by decide) zw_409 dX5_multiply_11 (n := 14) rfl (fun v2 => ?_)
  refine zr_getI C hC h0 zcX0 (k := 0) (by decide) zw_230 dX5_multiply_14 (n := 17) rfl (fun v3 => ?_)
  refine zr_cTV C hC 2 12 h0 (fun x hx => zk_VT h0 zcX5 (zcl_ex hx) (fun l D z0 hlt => kX5_needCode l D z0 hlt a0 a2 v3 x1.2 x (zcl_of hx)) hnt zw_435 zw_437 zs_4 zw_1 zw_438 rfl zyX5_needCode (As := [.int a2, .int v3]) (st := []) rfl (by decide) rfl (Nat.le_of_ble_eq_true rfl) (by decide) dX5_multiply_17) hnt rfl rfl (by decide) (by decide) (n := 20) rfl (fun z h => hEx _ _ h) (fun x4 => ?_)
  refine zr_aload_n h0 dX5_multiply_20 rfl (n := 21) rfl ?_
  refine zr_iload_n h0 dX5_multiply_21 rfl (n := 22) rfl ?_
  refine zr_aload h0 dX5_multiply_22 rfl (n := 24) rfl ?_
  refine zr_getR C hC h0 zcX4 (k := 0) (by decide) zw_409 dX5_multiply_24 (n := 27) rfl (fun v5 => ?_)
  refine zr_getI C hC h0 zcX0 (k := 1) (by decide) zw_234 dX5_multiply_27 (n := 30) rfl (fun v6 => ?_)
  refine zr_cTV C hC 3 18 h0 (fun x hx => zk_VT h0 zcX5 (zcl_ex hx) (fun l D z0 hlt => kX5_needCode l D z0 hlt a0 a3 v6 x4.2 x (zcl_of hx)) hnt zw_435 zw_437 zs_4 zw_1 zw_438 rfl zyX5_needCode (As := [.int a3, .int v6]) (st := []) rfl (by decide) rfl (Nat.le_of_ble_eq_true rfl) (by decide) dX5_multiply_30) hnt rfl rfl (by decide) (by decide) (n := 33) rfl (fun z h => hEx _ _ h) (fun x7 => ?_)
  refine zr_aload_n h0 dX5_multiply_33 rfl (n := 34) rfl ?_
  refine zr_iload h0 dX5_multiply_34 rfl (n := 36) rfl ?_
  refine zr_aload h0 dX5_multiply_36 rfl (n := 38) rfl ?_
  refine zr_getR C hC h0 zcX4 (k := 0) (by decide) zw_409 dX5_multiply_38 (n := 41) rfl (fun v8 => ?_)
  refine zr_getI C hC h0 zcX0 (k := 2) (by decide) zw_238 dX5_multiply_41 (n := 44) rfl (fun v9 => ?_)
  refine zr_cTV C hC 4 24 h0 (fun x hx => zk_VT h0 zcX5 (zcl_ex hx) (fun l D z0 hlt => kX5_needCode l D z0 hlt a0 a4 v9 x7.2 x (zcl_of hx)) hnt zw_435 zw_437 zs_4 zw_1 zw_438 rfl zyX5_needCode (As := [.int a4, .int v9]) (st := []) rfl (by decide) rfl (Nat.le_of_ble_eq_true rfl) (by decide) dX5_multiply_44) hnt rfl rfl (by decide) (by decide) (n := 47) rfl (fun z h => hEx _ _ h) (fun x10 => ?_)
  refine zr_aload h0 dX5_multiply_47 rfl (n := 49) rfl ?_
  refine zr_iconst (1 : Int32) h0 (by decide) dX5_multiply_49 (n := 50) rfl ?_
  refine zr_cTV C hC 5 30 h0 (fun x hx => zk_ST h0 (fun l D z0 hlt => kX5_needRoom l D z0 hlt x1.1 (1 : Int32) x10.2 x hx) hnt zw_443 zw_444 zw_1 zw_445 zyX5_needRoom (As := [.ref x1.1, .int (1 : Int32)]) (st := []) rfl (by decide) rfl (Nat.le_of_ble_eq_true rfl) (by decide) dX5_multiply_50) hnt rfl rfl (by decide) (by decide) (n := 53) rfl (fun z h => hEx _ _ h) (fun x11 => ?_)
  refine zr_aload h0 dX5_multiply_53 rfl (n := 55) rfl ?_
  refine zr_iload_n h0 dX5_multiply_55 rfl (n := 56) rfl ?_
  refine zr_iload_n h0 dX5_multiply_56 rfl (n := 57) rfl ?_
  refine zr_iload h0 dX5_multiply_57 rfl (n := 59) rfl ?_
  refine zr_cMV C hC 5 30 (fun x hx => zk_V h0 zcX4 (zcl_ex hx) (fun l D z0 => kX4_append l D z0 x1.1 a2 a3 a4 x11.2 x (zcl_of hx)) zw_447 zw_448 zw_449 zw_12 zw_450 rfl zyX4_append (As := [.int a2, .int a3, .int a4]) (st := []) rfl (by decide) rfl (Nat.le_of_ble_eq_true rfl) (by decide) dX5_multiply_59) rfl rfl (n := 62) rfl (fun x12 => ?_)
  refine zr_aload h0 dX5_multiply_62 rfl (n := 64) rfl ?_
  refine zr_getI C hC h0 zcX4 (k := 3) (by decide) zw_413 dX5_multiply_64 (n := 67) rfl (fun v13 => ?_)
  exact zr_iretT h0 rfl dX5_multiply_67 (hE _ _) (by decide) (by decide)
theorem kX5_multiply (l : Launch) (D : ZD) (z0 : Nat) (hlt : l.stackTraces = false) (a0 : Nat) (a1 : Int32) (a2 : Int32) (a3 : Int32) (a4 : Int32) (S : ZS) (x : ((Int32 × ZS) ⊕ ZX)) (hf : fX5_multiply a0 a1 a2 a3 a4 S = some x) : zMetT l D z0 yX5_multiply cX5_multiply 6 (some .int) rmX5_multiply [.ref a0, .int a1, .int a2, .int a3, .int a4] S (x.map (fun y => ((some (.int y.1)), y.2)) id) :=
  zMetT_of hlt (by decide) (Nat.le_of_ble_eq_true rfl) (fun G h0 hnt hE hEx => wX5_multiply a0 a1 a2 a3 a4 S h0 (fun o => o = some x) (fun h => nomatch h) hnt (fun v S1 h => by cases h; exact hE _ _ rfl) (fun E h hh => by cases hh; exact hEx _ _ rfl)) hf
theorem dX5_codeOf_0 : decode cX5_codeOf 0 = .ok (.iload_n 0, 1) := by decide +kernel
theorem dX5_codeOf_1 : decode cX5_codeOf 1 = .ok (.iload_n 3, 1) := by decide +kernel
theorem dX5_codeOf_2 : decode cX5_codeOf 2 = .ok (.iload_n 1, 1) := by decide +kernel
theorem dX5_codeOf_3 : decode cX5_codeOf 3 = .ok (.iconst 1, 1) := by decide +kernel
theorem dX5_codeOf_4 : decode cX5_codeOf 4 = .ok (.isub, 1) := by decide +kernel
theorem dX5_codeOf_5 : decode cX5_codeOf 5 = .ok (.iload_n 2, 1) := by decide +kernel
theorem dX5_codeOf_6 : decode cX5_codeOf 6 = .ok (.isub, 1) := by decide +kernel
theorem dX5_codeOf_7 : decode cX5_codeOf 7 = .ok (.invokestatic 279, 3) := by decide +kernel
theorem dX5_codeOf_10 : decode cX5_codeOf 10 = .ok (.imul, 1) := by decide +kernel
theorem dX5_codeOf_11 : decode cX5_codeOf 11 = .ok (.ireturn, 1) := by decide +kernel
abbrev rmX5_codeOf : Room := { frames := 2, cells := 0, slots := 0, locals := 43 }
theorem zyX5_codeOf : zyOK yX5_codeOf 4 := ⟨by decide +kernel, by decide +kernel, by decide +kernel⟩
set_option maxHeartbeats 4000000 in
set_option maxRecDepth 100000 in
theorem wX5_codeOf {G : ZG} (a0 : Int32) (a1 : Int32) (a2 : Int32) (a3 : Int32) (S : ZS) (h0 : zFix G cX5_codeOf RX5 4 (some .int) rmX5_codeOf) (C : Option Int32 → Prop) (hC : ¬ C none) (hE : ∀ v : Int32, C (some v) → zEnd G (some (.int v)) S rmX5_codeOf) : zV G 4 S 0 0 0 [(0, .int a0), (1, .int a1), (2, .int a2), (3, .int a3)] [] (C (fX5_codeOf a0 a1 a2 a3)) := by
  unfold fX5_codeOf
  refine zr_iload_n h0 dX5_codeOf_0 rfl (n := 1) rfl ?_
  refine zr_iload_n h0 dX5_codeOf_1 rfl (n := 2) rfl ?_
  refine zr_iload_n h0 dX5_codeOf_2 rfl (n := 3) rfl ?_
  refine zr_iconst (1 : Int32) h0 (by decide) dX5_codeOf_3 (n := 4) rfl ?_
  refine zr_isub h0 dX5_codeOf_4 (n := 5) rfl ?_
  refine zr_iload_n h0 dX5_codeOf_5 rfl (n := 6) rfl ?_
  refine zr_isub h0 dX5_codeOf_6 (n := 7) rfl ?_
  refine zr_cRI C hC 0 0 (fun x hx => zk_S h0 (fun l D z0 => kX5_power l D z0 a3 ((a1 - (1 : Int32)) - a2) S x hx) zw_439 zw_440 zw_1 zw_441 zyX5_power (As := [.int a3, .int ((a1 - (1 : Int32)) - a2)]) (st := [.int a0]) rfl (by decide) rfl (Nat.le_of_ble_eq_true rfl) (by decide) dX5_codeOf_7) rfl rfl (n := 10) rfl (fun x1 => ?_)
  refine zr_imul h0 dX5_codeOf_10 (n := 11) rfl ?_
  exact zr_iret h0 rfl dX5_codeOf_11 (hE _) (by decide) (by decide)
theorem kX5_codeOf (l : Launch) (D : ZD) (z0 : Nat) (a0 : Int32) (a1 : Int32) (a2 : Int32) (a3 : Int32) (S : ZS) (x : Int32) (hf : fX5_codeOf a0 a1 a2 a3 = some x) : zMet l D z0 yX5_codeOf cX5_codeOf 4 (some .int) rmX5_codeOf [.int a0, .int a1, .int a2, .int a3] S (some (.int x)) S :=
  zMet_of (by decide) (Nat.le_of_ble_eq_true rfl) (fun G h0 hini hE => wX5_codeOf a0 a1 a2 a3 S h0 (fun o => o = some x) (fun h => nomatch h) (fun v h => by cases h; exact hE)) hf
theorem dX4_appendPlaces_0 : decode cX4_appendPlaces 0 = .ok (.iconst 0, 1) := by decide +kernel
theorem dX4_appendPlaces_1 : decode cX4_appendPlaces 1 = .ok (.istore_n 1, 1) := by decide +kernel
theorem dX4_appendPlaces_2 : decode cX4_appendPlaces 2 = .ok (.iload_n 1, 1) := by decide +kernel
theorem dX4_appendPlaces_3 : decode cX4_appendPlaces 3 = .ok (.aload_n 0, 1) := by decide +kernel
theorem dX4_appendPlaces_4 : decode cX4_appendPlaces 4 = .ok (.getfield 11, 3) := by decide +kernel
theorem dX4_appendPlaces_7 : decode cX4_appendPlaces 7 = .ok (.getfield 51, 3) := by decide +kernel
theorem dX4_appendPlaces_10 : decode cX4_appendPlaces 10 = .ok (.if_icmp .ge 117, 3) := by decide +kernel
theorem dX4_appendPlaces_13 : decode cX4_appendPlaces 13 = .ok (.iconst 0, 1) := by decide +kernel
theorem dX4_appendPlaces_14 : decode cX4_appendPlaces 14 = .ok (.istore_n 2, 1) := by decide +kernel
theorem dX4_appendPlaces_15 : decode cX4_appendPlaces 15 = .ok (.iload_n 2, 1) := by decide +kernel
theorem dX4_appendPlaces_16 : decode cX4_appendPlaces 16 = .ok (.aload_n 0, 1) := by decide +kernel
theorem dX4_appendPlaces_17 : decode cX4_appendPlaces 17 = .ok (.getfield 11, 3) := by decide +kernel
theorem dX4_appendPlaces_20 : decode cX4_appendPlaces 20 = .ok (.getfield 54, 3) := by decide +kernel
theorem dX4_appendPlaces_23 : decode cX4_appendPlaces 23 = .ok (.if_icmp .ge 98, 3) := by decide +kernel
theorem dX4_appendPlaces_26 : decode cX4_appendPlaces 26 = .ok (.iconst 0, 1) := by decide +kernel
theorem dX4_appendPlaces_27 : decode cX4_appendPlaces 27 = .ok (.istore_n 3, 1) := by decide +kernel
theorem dX4_appendPlaces_28 : decode cX4_appendPlaces 28 = .ok (.iload_n 3, 1) := by decide +kernel
theorem dX4_appendPlaces_29 : decode cX4_appendPlaces 29 = .ok (.aload_n 0, 1) := by decide +kernel
theorem dX4_appendPlaces_30 : decode cX4_appendPlaces 30 = .ok (.getfield 11, 3) := by decide +kernel
theorem dX4_appendPlaces_33 : decode cX4_appendPlaces 33 = .ok (.getfield 57, 3) := by decide +kernel
theorem dX4_appendPlaces_36 : decode cX4_appendPlaces 36 = .ok (.if_icmp .ge 79, 3) := by decide +kernel
theorem dX4_appendPlaces_39 : decode cX4_appendPlaces 39 = .ok (.aload_n 0, 1) := by decide +kernel
theorem dX4_appendPlaces_40 : decode cX4_appendPlaces 40 = .ok (.getfield 11, 3) := by decide +kernel
theorem dX4_appendPlaces_43 : decode cX4_appendPlaces 43 = .ok (.iload_n 1, 1) := by decide +kernel
theorem dX4_appendPlaces_44 : decode cX4_appendPlaces 44 = .ok (.iload_n 2, 1) := by decide +kernel
theorem dX4_appendPlaces_45 : decode cX4_appendPlaces 45 = .ok (.iload_n 3, 1) := by decide +kernel
theorem dX4_appendPlaces_46 : decode cX4_appendPlaces 46 = .ok (.invokevirtual 60, 3) := by decide +kernel
theorem dX4_appendPlaces_49 : decode cX4_appendPlaces 49 = .ok (.istore 4, 2) := by decide +kernel
theorem dX4_appendPlaces_51 : decode cX4_appendPlaces 51 = .ok (.iload 4, 2) := by decide +kernel
theorem dX4_appendPlaces_53 : decode cX4_appendPlaces 53 = .ok (.ifCond .eq 56, 3) := by decide +kernel
theorem dX4_appendPlaces_56 : decode cX4_appendPlaces 56 = .ok (.aload_n 0, 1) := by decide +kernel
theorem dX4_appendPlaces_57 : decode cX4_appendPlaces 57 = .ok (.iload 4, 2) := by decide +kernel
theorem dX4_appendPlaces_59 : decode cX4_appendPlaces 59 = .ok (.aload_n 0, 1) := by decide +kernel
theorem dX4_appendPlaces_60 : decode cX4_appendPlaces 60 = .ok (.getfield 11, 3) := by decide +kernel
theorem dX4_appendPlaces_63 : decode cX4_appendPlaces 63 = .ok (.getfield 51, 3) := by decide +kernel
theorem dX4_appendPlaces_66 : decode cX4_appendPlaces 66 = .ok (.iload_n 1, 1) := by decide +kernel
theorem dX4_appendPlaces_67 : decode cX4_appendPlaces 67 = .ok (.aload_n 0, 1) := by decide +kernel
theorem dX4_appendPlaces_68 : decode cX4_appendPlaces 68 = .ok (.getfield 15, 3) := by decide +kernel
theorem dX4_appendPlaces_71 : decode cX4_appendPlaces 71 = .ok (.invokestatic 64, 3) := by decide +kernel
theorem dX4_appendPlaces_74 : decode cX4_appendPlaces 74 = .ok (.iconst 1, 1) := by decide +kernel
theorem dX4_appendPlaces_75 : decode cX4_appendPlaces 75 = .ok (.aload_n 0, 1) := by decide +kernel
theorem dX4_appendPlaces_76 : decode cX4_appendPlaces 76 = .ok (.getfield 11, 3) := by decide +kernel
theorem dX4_appendPlaces_79 : decode cX4_appendPlaces 79 = .ok (.getfield 54, 3) := by decide +kernel
theorem dX4_appendPlaces_82 : decode cX4_appendPlaces 82 = .ok (.iload_n 2, 1) := by decide +kernel
theorem dX4_appendPlaces_83 : decode cX4_appendPlaces 83 = .ok (.aload_n 0, 1) := by decide +kernel
theorem dX4_appendPlaces_84 : decode cX4_appendPlaces 84 = .ok (.getfield 15, 3) := by decide +kernel
theorem dX4_appendPlaces_87 : decode cX4_appendPlaces 87 = .ok (.invokestatic 64, 3) := by decide +kernel
theorem dX4_appendPlaces_90 : decode cX4_appendPlaces 90 = .ok (.iconst 1, 1) := by decide +kernel
theorem dX4_appendPlaces_91 : decode cX4_appendPlaces 91 = .ok (.aload_n 0, 1) := by decide +kernel
theorem dX4_appendPlaces_92 : decode cX4_appendPlaces 92 = .ok (.getfield 11, 3) := by decide +kernel
theorem dX4_appendPlaces_95 : decode cX4_appendPlaces 95 = .ok (.getfield 57, 3) := by decide +kernel
theorem dX4_appendPlaces_98 : decode cX4_appendPlaces 98 = .ok (.iload_n 3, 1) := by decide +kernel
theorem dX4_appendPlaces_99 : decode cX4_appendPlaces 99 = .ok (.aload_n 0, 1) := by decide +kernel
theorem dX4_appendPlaces_100 : decode cX4_appendPlaces 100 = .ok (.getfield 15, 3) := by decide +kernel
theorem dX4_appendPlaces_103 : decode cX4_appendPlaces 103 = .ok (.invokestatic 64, 3) := by decide +kernel
theorem dX4_appendPlaces_106 : decode cX4_appendPlaces 106 = .ok (.invokevirtual 67, 3) := by decide +kernel
theorem dX4_appendPlaces_109 : decode cX4_appendPlaces 109 = .ok (.iinc 3 1, 3) := by decide +kernel
theorem dX4_appendPlaces_112 : decode cX4_appendPlaces 112 = .ok (.goto (-84), 3) := by decide +kernel
theorem dX4_appendPlaces_115 : decode cX4_appendPlaces 115 = .ok (.iinc 2 1, 3) := by decide +kernel
theorem dX4_appendPlaces_118 : decode cX4_appendPlaces 118 = .ok (.goto (-103), 3) := by decide +kernel
theorem dX4_appendPlaces_121 : decode cX4_appendPlaces 121 = .ok (.iinc 1 1, 3) := by decide +kernel
theorem dX4_appendPlaces_124 : decode cX4_appendPlaces 124 = .ok (.goto (-122), 3) := by decide +kernel
theorem dX4_appendPlaces_127 : decode cX4_appendPlaces 127 = .ok (.return_, 1) := by decide +kernel
abbrev rmX4_appendPlaces : Room := { frames := 3, cells := 0, slots := 0, locals := 66 }
theorem zyX4_appendPlaces : zyOK yX4_appendPlaces 0 := ⟨by decide +kernel, by decide +kernel, by decide +kernel⟩
set_option maxHeartbeats 4000000 in
set_option maxRecDepth 100000 in
theorem wX4_appendPlaces {G : ZG} (a0 : Nat) (S : ZS) (h0 : zFix G cX4_appendPlaces RX4 5 none rmX4_appendPlaces) (C : Option ZS → Prop) (hC : ¬ C none) (hE : ∀ S1 : ZS, C (some S1) → zEnd G none S1 rmX4_appendPlaces) : zV G 5 S 0 0 0 [(0, .ref a0)] [] (C (fX4_appendPlaces a0 S)) := by
  unfold fX4_appendPlaces
  refine zr_iconst (0 : Int32) h0 (by decide) dX4_appendPlaces_0 (n := 1) rfl ?_
  refine zr_istore_n [(0, .ref a0), (1, .int (0 : Int32))] h0 dX4_appendPlaces_1 (by decide) rfl (n := 2) rfl ?_
  refine zr_loop hC (fX4_appendPlaces_B2 a0) (fun y => [(0, .ref a0), (1, .int y.1)]) (fun y => y.2) zF ((0 : Int32), S) (fun C2 hC2 hX2 hL2 t2 => ?_)
  unfold fX4_appendPlaces_B2
  refine zr_iload_n h0 dX4_appendPlaces_2 rfl (n := 3) rfl ?_
  refine zr_aload_n h0 dX4_appendPlaces_3 rfl (n := 4) rfl ?_
  refine zr_getR C2 hC2 h0 zcX4 (k := 0) (by decide) zw_408 dX4_appendPlaces_4 (n := 7) rfl (fun v58 => ?_)
  refine zr_getI C2 hC2 h0 zcX0 (k := 0) (by decide) zw_229 dX4_appendPlaces_7 (n := 10) rfl (fun v59 => ?_)
  refine zr_icmp_ge C2 (tgt := 127) h0 dX4_appendPlaces_10 (by decide) (n := 13) rfl ?_ ?_
  · refine zr_ex hX2 ?_
    refine zv_sub (lv' := []) ?_ (zsub_of [] rfl)
    exact zr_vret h0 rfl dX4_appendPlaces_127 (fun h => hE _ h) (by decide) (by decide)
  · refine zr_iconst (0 : Int32) h0 (by decide) dX4_appendPlaces_13 (n := 14) rfl ?_
    refine zr_istore_n [(0, .ref a0), (1, .int t2.1), (2, .int (0 : Int32))] h0 dX4_appendPlaces_14 (by decide) rfl (n := 15) rfl ?_
    refine zr_loop hC2 (fX4_appendPlaces_B15 a0 t2.1) (fun y => [(0, .ref a0), (1, .int t2.1), (2, .int y.1)]) (fun y => y.2) zF ((0 : Int32), t2.2) (fun C15 hC15 hX15 hL15 t15 => ?_)
    unfold fX4_appendPlaces_B15
    refine zr_iload_n h0 dX4_appendPlaces_15 rfl (n := 16) rfl ?_
    refine zr_aload_n h0 dX4_appendPlaces_16 rfl (n := 17) rfl ?_
    refine zr_getR C15 hC15 h0 zcX4 (k := 0) (by decide) zw_408 dX4_appendPlaces_17 (n := 20) rfl (fun v60 => ?_)
    refine zr_getI C15 hC15 h0 zcX0 (k := 1) (by decide) zw_233 dX4_appendPlaces_20 (n := 23) rfl (fun v61 => ?_)
    refine zr_icmp_ge C15 (tgt := 121) h0 dX4_appendPlaces_23 (by decide) (n := 26) rfl ?_ ?_
    · refine zr_ex hX15 ?_
      refine zv_sub (lv' := [(0, .ref a0), (1, .int t2.1)]) ?_ (zsub_of [0, 1] rfl)
      refine zr_iinc (1 : Int32) [(0, .ref a0), (1, .int (t2.1 + (1 : Int32)))] h0 dX4_appendPlaces_121 rfl (by decide) rfl rfl (n := 124) rfl ?_
      refine zr_goto (tgt := 2) h0 dX4_appendPlaces_124 (by decide) ?_
      exact hL2 (t2.1 + (1 : Int32), t15.2)
    · refine zr_iconst (0 : Int32) h0 (by decide) dX4_appendPlaces_26 (n := 27) rfl ?_
      refine zr_istore_n [(0, .ref a0), (1, .int t2.1), (2, .int t15.1), (3, .int (0 : Int32))] h0 dX4_appendPlaces_27 (by decide) rfl (n := 28) rfl ?_
      refine zr_loop hC15 (fX4_appendPlaces_B28 a0 t2.1 t15.1) (fun y => [(0, .ref a0), (1, .int t2.1), (2, .int t15.1), (3, .int y.1)]) (fun y => y.2) zF ((0 : Int32), t15.2) (fun C28 hC28 hX28 hL28 t28 => ?_)
      have J109 : ∀ (l3_109 : Int32) (S_109 : ZS), zV G 5 S_109 0 0 109 [(0, .ref a0), (1, .int t2.1), (2, .int t15.1), (3, .int l3_109)] [] (C28 (fX4_appendPlaces_J109 a0 t2.1 t15.1 l3_109 S_109)) := by
        intro l3_109 S_109
        unfold fX4_appendPlaces_J109
        refine zr_iinc (1 : Int32) [(0, .ref a0), (1, .int t2.1), (2, .int t15.1), (3, .int (l3_109 + (1 : Int32)))] h0 dX4_appendPlaces_109 rfl (by decide) rfl rfl (n := 112) rfl ?_
        refine zr_goto (tgt := 28) h0 dX4_appendPlaces_112 (by decide) ?_
        exact hL28 (l3_109 + (1 : Int32), S_109)
      unfold fX4_appendPlaces_B28
      refine zr_iload_n h0 dX4_appendPlaces_28 rfl (n := 29) rfl ?_
      refine zr_aload_n h0 dX4_appendPlaces_29 rfl (n := 30) rfl ?_
      refine zr_getR C28 hC28 h0 zcX4 (k := 0) (by decide) zw_408 dX4_appendPlaces_30 (n := 33) rfl (fun v62 => ?_)
      refine zr_getI C28 hC28 h0 zcX0 (k := 2) (by decide) zw_237 dX4_appendPlaces_33 (n := 36) rfl (fun v63 => ?_)
      refine zr_icmp_ge C28 (tgt := 115) h0 dX4_appendPlaces_36 (by decide) (n := 39) rfl ?_ ?_
      · refine zr_ex hX28 ?_
        refine zv_sub (lv' := [(0, .ref a0), (1, .int t2.1), (2, .int t15.1)]) ?_ (zsub_of [0, 1, 2] rfl)
        refine zr_iinc (1 : Int32) [(0, .ref a0), (1, .int t2.1), (2, .int (t15.1 + (1 : Int32)))] h0 dX4_appendPlaces_115 rfl (by decide) rfl rfl (n := 118) rfl ?_
        refine zr_goto (tgt := 15) h0 dX4_appendPlaces_118 (by decide) ?_
        exact hL15 (t15.1 + (1 : Int32), t28.2)
      · refine zr_aload_n h0 dX4_appendPlaces_39 rfl (n := 40) rfl ?_
        refine zr_getR C28 hC28 h0 zcX4 (k := 0) (by decide) zw_408 dX4_appendPlaces_40 (n := 43) rfl (fun v64 => ?_)
        refine zr_iload_n h0 dX4_appendPlaces_43 rfl (n := 44) rfl ?_
        refine zr_iload_n h0 dX4_appendPlaces_44 rfl (n := 45) rfl ?_
        refine zr_iload_n h0 dX4_appendPlaces_45 rfl (n := 46) rfl ?_
        refine zr_cRI C28 hC28 0 0 (fun x hx => zk_V h0 zcX0 (zcl_ex hx) (fun l D z0 => kX0_numberAt l D z0 v64 t2.1 t15.1 t28.1 t28.2 x (zcl_of hx)) zw_466 zw_325 zw_326 zw_10 zw_327 rfl zyX0_numberAt (As := [.int t2.1, .int t15.1, .int t28.1]) (st := []) rfl (by decide) rfl (Nat.le_of_ble_eq_true rfl) (by decide) dX4_appendPlaces_46) rfl rfl (n := 49) rfl (fun x65 => ?_)
        refine zr_istore [(0, .ref a0), (1, .int t2.1), (2, .int t15.1), (3, .int t28.1), (4, .int x65)] h0 dX4_appendPlaces_49 (by decide) rfl (n := 51) rfl ?_
        refine zr_iload h0 dX4_appendPlaces_51 rfl (n := 53) rfl ?_
        refine zr_if_eq C28 (tgt := 109) h0 dX4_appendPlaces_53 (by decide) (n := 56) rfl ?_ ?_
        · refine zv_sub (lv' := [(0, .ref a0), (1, .int t2.1), (2, .int t15.1), (3, .int t28.1)]) ?_ (zsub_of [0, 1, 2, 3] rfl)
          exact J109 t28.1 t28.2
        · refine zr_aload_n h0 dX4_appendPlaces_56 rfl (n := 57) rfl ?_
          refine zr_iload h0 dX4_appendPlaces_57 rfl (n := 59) rfl ?_
          refine zr_aload_n h0 dX4_appendPlaces_59 rfl (n := 60) rfl ?_
          refine zr_getR C28 hC28 h0 zcX4 (k := 0) (by decide) zw_408 dX4_appendPlaces_60 (n := 63) rfl (fun v66 => ?_)
          refine zr_getI C28 hC28 h0 zcX0 (k := 0) (by decide) zw_229 dX4_appendPlaces_63 (n := 66) rfl (fun v67 => ?_)
          refine zr_iload_n h0 dX4_appendPlaces_66 rfl (n := 67) rfl ?_
          refine zr_aload_n h0 dX4_appendPlaces_67 rfl (n := 68) rfl ?_
          refine zr_getI C28 hC28 h0 zcX4 (k := 1) (by decide) zw_410 dX4_appendPlaces_68 (n := 71) rfl (fun v68 => ?_)
          refine zr_cRI C28 hC28 0 0 (fun x hx => zk_SN (host := "Bilinearium") h0 (fun l D z0 => kX5_codeOf l D z0 x65 v67 t2.1 v68 t28.2 x hx) (by decide +kernel) zw_468 zw_1 zw_469 zyX5_codeOf (As := [.int x65, .int v67, .int t2.1, .int v68]) (st := [.ref a0]) rfl (by decide) rfl (Nat.le_of_ble_eq_true rfl) (by decide) dX4_appendPlaces_71) rfl rfl (n := 74) rfl (fun x69 => ?_)
          refine zr_iconst (1 : Int32) h0 (by decide) dX4_appendPlaces_74 (n := 75) rfl ?_
          refine zr_aload_n h0 dX4_appendPlaces_75 rfl (n := 76) rfl ?_
          refine zr_getR C28 hC28 h0 zcX4 (k := 0) (by decide) zw_408 dX4_appendPlaces_76 (n := 79) rfl (fun v70 => ?_)
          refine zr_getI C28 hC28 h0 zcX0 (k := 1) (by decide) zw_233 dX4_appendPlaces_79 (n := 82) rfl (fun v71 => ?_)
          refine zr_iload_n h0 dX4_appendPlaces_82 rfl (n := 83) rfl ?_
          refine zr_aload_n h0 dX4_appendPlaces_83 rfl (n := 84) rfl ?_
          refine zr_getI C28 hC28 h0 zcX4 (k := 1) (by decide) zw_410 dX4_appendPlaces_84 (n := 87) rfl (fun v72 => ?_)
          refine zr_cRI C28 hC28 0 0 (fun x hx => zk_SN (host := "Bilinearium") h0 (fun l D z0 => kX5_codeOf l D z0 (1 : Int32) v71 t15.1 v72 t28.2 x hx) (by decide +kernel) zw_468 zw_1 zw_469 zyX5_codeOf (As := [.int (1 : Int32), .int v71, .int t15.1, .int v72]) (st := [.int x69, .ref a0]) rfl (by decide) rfl (Nat.le_of_ble_eq_true rfl) (by decide) dX4_appendPlaces_87) rfl rfl (n := 90) rfl (fun x73 => ?_)
          refine zr_iconst (1 : Int32) h0 (by decide) dX4_appendPlaces_90 (n := 91) rfl ?_
          refine zr_aload_n h0 dX4_appendPlaces_91 rfl (n := 92) rfl ?_
          refine zr_getR C28 hC28 h0 zcX4 (k := 0) (by decide) zw_408 dX4_appendPlaces_92 (n := 95) rfl (fun v74 => ?_)
          refine zr_getI C28 hC28 h0 zcX0 (k := 2) (by decide) zw_237 dX4_appendPlaces_95 (n := 98) rfl (fun v75 => ?_)
          refine zr_iload_n h0 dX4_appendPlaces_98 rfl (n := 99) rfl ?_
          refine zr_aload_n h0 dX4_appendPlaces_99 rfl (n := 100) rfl ?_
          refine zr_getI C28 hC28 h0 zcX4 (k := 1) (by decide) zw_410 dX4_appendPlaces_100 (n := 103) rfl (fun v76 => ?_)
          refine zr_cRI C28 hC28 0 0 (fun x hx => zk_SN (host := "Bilinearium") h0 (fun l D z0 => kX5_codeOf l D z0 (1 : Int32) v75 t28.1 v76 t28.2 x hx) (by decide +kernel) zw_468 zw_1 zw_469 zyX5_codeOf (As := [.int (1 : Int32), .int v75, .int t28.1, .int v76]) (st := [.int x73, .int x69, .ref a0]) rfl (by decide) rfl (Nat.le_of_ble_eq_true rfl) (by decide) dX4_appendPlaces_103) rfl rfl (n := 106) rfl (fun x77 => ?_)
          refine zr_cMV C28 hC28 0 0 (fun x hx => zk_V h0 zcX4 (zcl_ex hx) (fun l D z0 => kX4_append l D z0 a0 x69 x73 x77 t28.2 x (zcl_of hx)) zw_470 zw_448 zw_449 zw_12 zw_450 rfl zyX4_append (As := [.int x69, .int x73, .int x77]) (st := []) rfl (by decide) rfl (Nat.le_of_ble_eq_true rfl) (by decide) dX4_appendPlaces_106) rfl rfl (n := 109) rfl (fun x78 => ?_)
          refine zv_sub (lv' := [(0, .ref a0), (1, .int t2.1), (2, .int t15.1), (3, .int t28.1)]) ?_ (zsub_of [0, 1, 2, 3] rfl)
          exact J109 t28.1 x78
theorem kX4_appendPlaces (l : Launch) (D : ZD) (z0 : Nat) (a0 : Nat) (S : ZS) (x : ZS) (hf : fX4_appendPlaces a0 S = some x) : zMet l D z0 yX4_appendPlaces cX4_appendPlaces 5 none rmX4_appendPlaces [.ref a0] S none x :=
  zMet_of (by decide) (Nat.le_of_ble_eq_true rfl) (fun G h0 hini hE => wX4_appendPlaces a0 S h0 (fun o => o = some x) (fun h => nomatch h) (fun S1 h => by cases h; exact hE)) hf
theorem dX5_plain_0 : decode cX5_plain 0 = .ok (.aload_n 0, 1) := by decide +kernel
theorem dX5_plain_1 : decode cX5_plain 1 = .ok (.iload_n 1, 1) := by decide +kernel
theorem dX5_plain_2 : decode cX5_plain 2 = .ok (.invokevirtual 148, 3) := by decide +kernel
theorem dX5_plain_5 : decode cX5_plain 5 = .ok (.astore_n 2, 1) := by decide +kernel
theorem dX5_plain_6 : decode cX5_plain 6 = .ok (.aload_n 2, 1) := by decide +kernel
theorem dX5_plain_7 : decode cX5_plain 7 = .ok (.aload_n 2, 1) := by decide +kernel
theorem dX5_plain_8 : decode cX5_plain 8 = .ok (.getfield 152, 3) := by decide +kernel
theorem dX5_plain_11 : decode cX5_plain 11 = .ok (.invokevirtual 116, 3) := by decide +kernel
theorem dX5_plain_14 : decode cX5_plain 14 = .ok (.invokestatic 160, 3) := by decide +kernel
theorem dX5_plain_17 : decode cX5_plain 17 = .ok (.aload_n 2, 1) := by decide +kernel
theorem dX5_plain_18 : decode cX5_plain 18 = .ok (.invokevirtual 171, 3) := by decide +kernel
theorem dX5_plain_21 : decode cX5_plain 21 = .ok (.aload_n 2, 1) := by decide +kernel
theorem dX5_plain_22 : decode cX5_plain 22 = .ok (.getfield 168, 3) := by decide +kernel
theorem dX5_plain_25 : decode cX5_plain 25 = .ok (.ireturn, 1) := by decide +kernel
abbrev rmX5_plain : Room := { frames := 7, cells := 2, slots := 12, locals := 112 }
theorem zyX5_plain : zyOK yX5_plain 1 := ⟨by decide +kernel, by decide +kernel, by decide +kernel⟩
set_option maxHeartbeats 4000000 in
set_option maxRecDepth 100000 in
theorem wX5_plain {G : ZG} (a0 : Nat) (a1 : Int32) (S : ZS) (h0 : zFix G cX5_plain RX5 3 (some .int) rmX5_plain) (C : Option ((Int32 × ZS) ⊕ ZX) → Prop) (hC : ¬ C none) (hnt : zNoTab G) (hE : ∀ (v : Int32) (S1 : ZS), C (some (.inl (v, S1))) → zEndT G (some (.int v)) S1 rmX5_plain) (hEx : ∀ (E : String) (h : ZH), C (some (.inr (E, h))) → zEndX G E h rmX5_plain) : zV G 3 S 0 0 0 [(0, .ref a0), (1, .int a1)] [] (C (fX5_plain a0 a1 S)) := by
  unfold fX5_plain
  refine zr_aload_n h0 dX5_plain_0 rfl (n := 1) rfl ?_
  refine zr_iload_n h0 dX5_plain_1 rfl (n := 2) rfl ?_
  refine zr_cTR C hC 1 6 h0 (fun x hx => zk_VT h0 zcX5 (zcl_ex hx) (fun l D z0 hlt => kX5_needWay l D z0 hlt a0 a1 S x (zcl_of hx)) hnt zw_430 zw_432 zs_3 zw_1 zw_433 rfl zyX5_needWay (As := [.int a1]) (st := []) rfl (by decide) rfl (Nat.le_of_ble_eq_true rfl) (by decide) dX5_plain_2) hnt rfl rfl (by decide) (by decide) (n := 5) rfl (fun z h => hEx _ _ h) (fun x1 => ?_)
  refine zr_astore_n [(0, .ref a0), (1, .int a1), (2, .ref x1.1)] h0 dX5_plain_5 (by decide) rfl (n := 6) rfl ?_
  refine zr_aload_n h0 dX5_plain_6 rfl (n := 7) rfl ?_
  refine zr_aload_n h0 dX5_plain_7 rfl (n := 8) rfl ?_
  refine zr_getR C hC h0 zcX4 (k := 0) (by decide) zw_409 dX5_plain_8 (n := 11) rfl (fun v2 => ?_)
  refine zr_cRI C hC 1 6 (fun x hx => zk_V h0 zcX0 (zcl_ex hx) (fun l D z0 => kX0_countOthersThanZero l D z0 v2 x1.2 x (zcl_of hx)) zw_360 zw_361 zw_362 zw_10 zw_363 rfl zyX0_countOthersThanZero (As := []) (st := [.ref x1.1]) rfl (by decide) rfl (Nat.le_of_ble_eq_true rfl) (by decide) dX5_plain_11) rfl rfl (n := 14) rfl (fun x3 => ?_)
  refine zr_cTV C hC 2 12 h0 (fun x hx => zk_ST h0 (fun l D z0 hlt => kX5_needRoom l D z0 hlt x1.1 x3 x1.2 x hx) hnt zw_443 zw_444 zw_1 zw_445 zyX5_needRoom (As := [.ref x1.1, .int x3]) (st := []) rfl (by decide) rfl (Nat.le_of_ble_eq_true rfl) (by decide) dX5_plain_14) hnt rfl rfl (by decide) (by decide) (n := 17) rfl (fun z h => hEx _ _ h) (fun x4 => ?_)
  refine zr_aload_n h0 dX5_plain_17 rfl (n := 18) rfl ?_
  refine zr_cMV C hC 2 12 (fun x hx => zk_V h0 zcX4 (zcl_ex hx) (fun l D z0 => kX4_appendPlaces l D z0 x1.1 x4.2 x (zcl_of hx)) zw_462 zw_463 zw_464 zw_12 zw_465 rfl zyX4_appendPlaces (As := []) (st := []) rfl (by decide) rfl (Nat.le_of_ble_eq_true rfl) (by decide) dX5_plain_18) rfl rfl (n := 21) rfl (fun x5 => ?_)
  refine zr_aload_n h0 dX5_plain_21 rfl (n := 22) rfl ?_
  refine zr_getI C hC h0 zcX4 (k := 3) (by decide) zw_413 dX5_plain_22 (n := 25) rfl (fun v6 => ?_)
  exact zr_iretT h0 rfl dX5_plain_25 (hE _ _) (by decide) (by decide)
theorem kX5_plain (l : Launch) (D : ZD) (z0 : Nat) (hlt : l.stackTraces = false) (a0 : Nat) (a1 : Int32) (S : ZS) (x : ((Int32 × ZS) ⊕ ZX)) (hf : fX5_plain a0 a1 S = some x) : zMetT l D z0 yX5_plain cX5_plain 3 (some .int) rmX5_plain [.ref a0, .int a1] S (x.map (fun y => ((some (.int y.1)), y.2)) id) :=
  zMetT_of hlt (by decide) (Nat.le_of_ble_eq_true rfl) (fun G h0 hnt hE hEx => wX5_plain a0 a1 S h0 (fun o => o = some x) (fun h => nomatch h) hnt (fun v S1 h => by cases h; exact hE _ _ rfl) (fun E h hh => by cases hh; exact hEx _ _ rfl)) hf
theorem dX5_needProduct_0 : decode cX5_needProduct 0 = .ok (.iload_n 1, 1) := by decide +kernel
theorem dX5_needProduct_1 : decode cX5_needProduct 1 = .ok (.aload_n 0, 1) := by decide +kernel
theorem dX5_needProduct_2 : decode cX5_needProduct 2 = .ok (.getfield 168, 3) := by decide +kernel
theorem dX5_needProduct_5 : decode cX5_needProduct 5 = .ok (.invokestatic 261, 3) := by decide +kernel
theorem dX5_needProduct_8 : decode cX5_needProduct 8 = .ok (.ifCond .ne 14, 3) := by decide +kernel
theorem dX5_needProduct_11 : decode cX5_needProduct 11 = .ok (.new 254, 3) := by decide +kernel
theorem dX5_needProduct_14 : decode cX5_needProduct 14 = .ok (.dup, 1) := by decide +kernel
theorem dX5_needProduct_15 : decode cX5_needProduct 15 = .ok (.ldc_w 275, 3) := by decide +kernel
theorem dX5_needProduct_18 : decode cX5_needProduct 18 = .ok (.invokespecial 258, 3) := by decide +kernel
theorem dX5_needProduct_21 : decode cX5_needProduct 21 = .ok (.athrow, 1) := by decide +kernel
theorem dX5_needProduct_22 : decode cX5_needProduct 22 = .ok (.return_, 1) := by decide +kernel
abbrev rmX5_needProduct : Room := { frames := 6, cells := 1, slots := 6, locals := 90 }
theorem zyX5_needProduct : zyOK yX5_needProduct 2 := ⟨by decide +kernel, by decide +kernel, by decide +kernel⟩
set_option maxHeartbeats 4000000 in
set_option maxRecDepth 100000 in
theorem wX5_needProduct {G : ZG} (a0 : Nat) (a1 : Int32) (S : ZS) (h0 : zFix G cX5_needProduct RX5 2 none rmX5_needProduct) (C : Option ((Unit × ZS) ⊕ ZX) → Prop) (hC : ¬ C none) (hnt : zNoTab G) (hE : ∀ (v : Unit) (S1 : ZS), C (some (.inl (v, S1))) → zEndT G none S1 rmX5_needProduct) (hEx : ∀ (E : String) (h : ZH), C (some (.inr (E, h))) → zEndX G E h rmX5_needProduct) : zV G 2 S 0 0 0 [(0, .ref a0), (1, .int a1)] [] (C (fX5_needProduct a0 a1 S)) := by
  unfold fX5_needProduct
  refine zr_iload_n h0 dX5_needProduct_0 rfl (n := 1) rfl ?_
  refine zr_aload_n h0 dX5_needProduct_1 rfl (n := 2) rfl ?_
  refine zr_getI C hC h0 zcX4 (k := 3) (by decide) zw_413 dX5_needProduct_2 (n := 5) rfl (fun v1 => ?_)
  refine zr_cRI C hC 0 0 (fun x hx => zk_S h0 (fun l D z0 => kX5_isBelow l D z0 a1 v1 S x hx) zw_319 zw_320 zw_1 zw_321 zyX5_isBelow (As := [.int a1, .int v1]) (st := []) rfl (by decide) rfl (Nat.le_of_ble_eq_true rfl) (by decide) dX5_needProduct_5) rfl rfl (n := 8) rfl (fun x2 => ?_)
  refine zr_if_ne C (tgt := 22) h0 dX5_needProduct_8 (by decide) (n := 11) rfl ?_ ?_
  · refine zv_sub (lv' := []) ?_ (zsub_of [] rfl)
    exact zr_throwW h0 hnt (cls := "java/lang/IndexOutOfBoundsException") (text := "there is no such product") (names := ["java/lang/RuntimeException", "java/lang/Exception"]) (by decide +kernel) zfitN zw_300 zw_11 (by decide +kernel) (by decide +kernel) zat_X5_258 zbad_X5_258 zgd_X5_258 dX5_needProduct_11 dX5_needProduct_14 dX5_needProduct_15 dX5_needProduct_18 dX5_needProduct_21 (by decide) (Nat.le_of_ble_eq_true rfl) (by decide) (by decide) (fun h => hEx _ _ h)
  · refine zv_sub (lv' := []) ?_ (zsub_of [] rfl)
    exact zr_vretT h0 rfl dX5_needProduct_22 (fun h => hE _ _ h) (by decide) (by decide)
theorem kX5_needProduct (l : Launch) (D : ZD) (z0 : Nat) (hlt : l.stackTraces = false) (a0 : Nat) (a1 : Int32) (S : ZS) (x : ((Unit × ZS) ⊕ ZX)) (hf : fX5_needProduct a0 a1 S = some x) : zMetT l D z0 yX5_needProduct cX5_needProduct 2 none rmX5_needProduct [.ref a0, .int a1] S (x.map (fun y => (none, y.2)) id) :=
  zMetT_of hlt (by decide) (Nat.le_of_ble_eq_true rfl) (fun G h0 hnt hE hEx => wX5_needProduct a0 a1 S h0 (fun o => o = some x) (fun h => nomatch h) hnt (fun v S1 h => by cases h; exact hE _ _ rfl) (fun E h hh => by cases hh; exact hEx _ _ rfl)) hf
theorem dX4_code_0 : decode cX4_code 0 = .ok (.aload_n 0, 1) := by decide +kernel
theorem dX4_code_1 : decode cX4_code 1 = .ok (.getfield 19, 3) := by decide +kernel
theorem dX4_code_4 : decode cX4_code 4 = .ok (.iload_n 1, 1) := by decide +kernel
theorem dX4_code_5 : decode cX4_code 5 = .ok (.invokestatic 26, 3) := by decide +kernel
theorem dX4_code_8 : decode cX4_code 8 = .ok (.iload_n 2, 1) := by decide +kernel
theorem dX4_code_9 : decode cX4_code 9 = .ok (.invokestatic 30, 3) := by decide +kernel
theorem dX4_code_12 : decode cX4_code 12 = .ok (.iushr, 1) := by decide +kernel
theorem dX4_code_13 : decode cX4_code 13 = .ok (.sipush 1023, 3) := by decide +kernel
theorem dX4_code_16 : decode cX4_code 16 = .ok (.iand, 1) := by decide +kernel
theorem dX4_code_17 : decode cX4_code 17 = .ok (.ireturn, 1) := by decide +kernel
abbrev rmX4_code : Room := { frames := 2, cells := 0, slots := 0, locals := 41 }
theorem zyX4_code : zyOK yX4_code 2 := ⟨by decide +kernel, by decide +kernel, by decide +kernel⟩
set_option maxHeartbeats 4000000 in
set_option maxRecDepth 100000 in
theorem wX4_code {G : ZG} (a0 : Nat) (a1 : Int32) (a2 : Int32) (S : ZS) (h0 : zFix G cX4_code RX4 3 (some .int) rmX4_code) (C : Option Int32 → Prop) (hC : ¬ C none) (hE : ∀ v : Int32, C (some v) → zEnd G (some (.int v)) S rmX4_code) : zV G 3 S 0 0 0 [(0, .ref a0), (1, .int a1), (2, .int a2)] [] (C (fX4_code a0 a1 a2 S)) := by
  unfold fX4_code
  refine zr_aload_n h0 dX4_code_0 rfl (n := 1) rfl ?_
  refine zr_getR C hC h0 zcX4 (k := 2) (by decide) zw_411 dX4_code_1 (n := 4) rfl (fun v1 => ?_)
  refine zr_iload_n h0 dX4_code_4 rfl (n := 5) rfl ?_
  refine zr_cRI C hC 0 0 (fun x hx => zk_SN (host := "Bilinearium") h0 (fun l D z0 => kX5_get l D z0 v1 a1 S x hx) (by decide +kernel) zw_329 zw_1 zw_330 zyX5_get (As := [.ref v1, .int a1]) (st := []) rfl (by decide) rfl (Nat.le_of_ble_eq_true rfl) (by decide) dX4_code_5) rfl rfl (n := 8) rfl (fun x2 => ?_)
  refine zr_iload_n h0 dX4_code_8 rfl (n := 9) rfl ?_
  refine zr_cRI C hC 0 0 (fun x hx => zk_S h0 (fun l D z0 => kX4_shiftOf l D z0 a2 S x hx) zw_451 zw_452 zw_12 zw_453 zyX4_shiftOf (As := [.int a2]) (st := [.int x2]) rfl (by decide) rfl (Nat.le_of_ble_eq_true rfl) (by decide) dX4_code_9) rfl rfl (n := 12) rfl (fun x3 => ?_)
  refine zr_iushr h0 dX4_code_12 (n := 13) rfl ?_
  refine zr_sipush (1023 : Int32) h0 (by decide) dX4_code_13 (n := 16) rfl ?_
  refine zr_iand h0 dX4_code_16 (n := 17) rfl ?_
  exact zr_iret h0 rfl dX4_code_17 (hE _) (by decide) (by decide)
theorem kX4_code (l : Launch) (D : ZD) (z0 : Nat) (a0 : Nat) (a1 : Int32) (a2 : Int32) (S : ZS) (x : Int32) (hf : fX4_code a0 a1 a2 S = some x) : zMet l D z0 yX4_code cX4_code 3 (some .int) rmX4_code [.ref a0, .int a1, .int a2] S (some (.int x)) S :=
  zMet_of (by decide) (Nat.le_of_ble_eq_true rfl) (fun G h0 hini hE => wX4_code a0 a1 a2 S h0 (fun o => o = some x) (fun h => nomatch h) (fun v h => by cases h; exact hE)) hf
theorem dX4_isSame_0 : decode cX4_isSame 0 = .ok (.aload_n 0, 1) := by decide +kernel
theorem dX4_isSame_1 : decode cX4_isSame 1 = .ok (.iload_n 1, 1) := by decide +kernel
theorem dX4_isSame_2 : decode cX4_isSame 2 = .ok (.iload_n 3, 1) := by decide +kernel
theorem dX4_isSame_3 : decode cX4_isSame 3 = .ok (.invokevirtual 38, 3) := by decide +kernel
theorem dX4_isSame_6 : decode cX4_isSame 6 = .ok (.aload_n 0, 1) := by decide +kernel
theorem dX4_isSame_7 : decode cX4_isSame 7 = .ok (.iload_n 2, 1) := by decide +kernel
theorem dX4_isSame_8 : decode cX4_isSame 8 = .ok (.iload_n 3, 1) := by decide +kernel
theorem dX4_isSame_9 : decode cX4_isSame 9 = .ok (.invokevirtual 38, 3) := by decide +kernel
theorem dX4_isSame_12 : decode cX4_isSame 12 = .ok (.if_icmp .ne 7, 3) := by decide +kernel
theorem dX4_isSame_15 : decode cX4_isSame 15 = .ok (.iconst 1, 1) := by decide +kernel
theorem dX4_isSame_16 : decode cX4_isSame 16 = .ok (.goto 4, 3) := by decide +kernel
theorem dX4_isSame_19 : decode cX4_isSame 19 = .ok (.iconst 0, 1) := by decide +kernel
theorem dX4_isSame_20 : decode cX4_isSame 20 = .ok (.ireturn, 1) := by decide +kernel
abbrev rmX4_isSame : Room := { frames := 3, cells := 0, slots := 0, locals := 63 }
theorem zyX4_isSame : zyOK yX4_isSame 3 := ⟨by decide +kernel, by decide +kernel, by decide +kernel⟩
set_option maxHeartbeats 4000000 in
set_option maxRecDepth 100000 in
theorem wX4_isSame {G : ZG} (a0 : Nat) (a1 : Int32) (a2 : Int32) (a3 : Int32) (S : ZS) (h0 : zFix G cX4_isSame RX4 4 (some .boolean) rmX4_isSame) (C : Option Int32 → Prop) (hC : ¬ C none) (hE : ∀ v : Int32, C (some v) → zEnd G (some (.int v)) S rmX4_isSame) : zV G 4 S 0 0 0 [(0, .ref a0), (1, .int a1), (2, .int a2), (3, .int a3)] [] (C (fX4_isSame a0 a1 a2 a3 S)) := by
  have J20 : ∀ (s0_20 : Int32), zV G 4 S 0 0 20 [] [.int s0_20] (C (fX4_isSame_J20 s0_20 S)) := by
    intro s0_20
    unfold fX4_isSame_J20
    exact zr_zret C hC h0 rfl dX4_isSame_20 (fun w h => hE _ h) (by decide) (by decide)
  unfold fX4_isSame
  refine zr_aload_n h0 dX4_isSame_0 rfl (n := 1) rfl ?_
  refine zr_iload_n h0 dX4_isSame_1 rfl (n := 2) rfl ?_
  refine zr_iload_n h0 dX4_isSame_2 rfl (n := 3) rfl ?_
  refine zr_cRI C hC 0 0 (fun x hx => zk_V h0 zcX4 (zcl_ex hx) (fun l D z0 => kX4_code l D z0 a0 a1 a3 S x (zcl_of hx)) zw_487 zw_488 zw_489 zw_12 zw_490 rfl zyX4_code (As := [.int a1, .int a3]) (st := []) rfl (by decide) rfl (Nat.le_of_ble_eq_true rfl) (by decide) dX4_isSame_3) rfl rfl (n := 6) rfl (fun x1 => ?_)
  refine zr_aload_n h0 dX4_isSame_6 rfl (n := 7) rfl ?_
  refine zr_iload_n h0 dX4_isSame_7 rfl (n := 8) rfl ?_
  refine zr_iload_n h0 dX4_isSame_8 rfl (n := 9) rfl ?_
  refine zr_cRI C hC 0 0 (fun x hx => zk_V h0 zcX4 (zcl_ex hx) (fun l D z0 => kX4_code l D z0 a0 a2 a3 S x (zcl_of hx)) zw_487 zw_488 zw_489 zw_12 zw_490 rfl zyX4_code (As := [.int a2, .int a3]) (st := [.int x1]) rfl (by decide) rfl (Nat.le_of_ble_eq_true rfl) (by decide) dX4_isSame_9) rfl rfl (n := 12) rfl (fun x2 => ?_)
  refine zr_icmp_ne C (tgt := 19) h0 dX4_isSame_12 (by decide) (n := 15) rfl ?_ ?_
  · refine zv_sub (lv' := []) ?_ (zsub_of [] rfl)
    refine zr_iconst (1 : Int32) h0 (by decide) dX4_isSame_15 (n := 16) rfl ?_
    refine zr_goto (tgt := 20) h0 dX4_isSame_16 (by decide) ?_
    exact J20 (1 : Int32)
  · refine zv_sub (lv' := []) ?_ (zsub_of [] rfl)
    refine zr_iconst (0 : Int32) h0 (by decide) dX4_isSame_19 (n := 20) rfl ?_
    exact J20 (0 : Int32)
theorem kX4_isSame (l : Launch) (D : ZD) (z0 : Nat) (a0 : Nat) (a1 : Int32) (a2 : Int32) (a3 : Int32) (S : ZS) (x : Int32) (hf : fX4_isSame a0 a1 a2 a3 S = some x) : zMet l D z0 yX4_isSame cX4_isSame 4 (some .boolean) rmX4_isSame [.ref a0, .int a1, .int a2, .int a3] S (some (.int x)) S :=
  zMet_of (by decide) (Nat.le_of_ble_eq_true rfl) (fun G h0 hini hE => wX4_isSame a0 a1 a2 a3 S h0 (fun o => o = some x) (fun h => nomatch h) (fun v h => by cases h; exact hE)) hf
theorem dX5_numberIn_0 : decode cX5_numberIn 0 = .ok (.iload_n 3, 1) := by decide +kernel
theorem dX5_numberIn_1 : decode cX5_numberIn 1 = .ok (.iconst 2, 1) := by decide +kernel
theorem dX5_numberIn_2 : decode cX5_numberIn 2 = .ok (.if_icmp .ge 5, 3) := by decide +kernel
theorem dX5_numberIn_5 : decode cX5_numberIn 5 = .ok (.iconst 0, 1) := by decide +kernel
theorem dX5_numberIn_6 : decode cX5_numberIn 6 = .ok (.ireturn, 1) := by decide +kernel
theorem dX5_numberIn_7 : decode cX5_numberIn 7 = .ok (.iload_n 0, 1) := by decide +kernel
theorem dX5_numberIn_8 : decode cX5_numberIn 8 = .ok (.istore 4, 2) := by decide +kernel
theorem dX5_numberIn_10 : decode cX5_numberIn 10 = .ok (.iload_n 2, 1) := by decide +kernel
theorem dX5_numberIn_11 : decode cX5_numberIn 11 = .ok (.iconst 1, 1) := by decide +kernel
theorem dX5_numberIn_12 : decode cX5_numberIn 12 = .ok (.iadd, 1) := by decide +kernel
theorem dX5_numberIn_13 : decode cX5_numberIn 13 = .ok (.istore 5, 2) := by decide +kernel
theorem dX5_numberIn_15 : decode cX5_numberIn 15 = .ok (.iload 5, 2) := by decide +kernel
theorem dX5_numberIn_17 : decode cX5_numberIn 17 = .ok (.iload_n 1, 1) := by decide +kernel
theorem dX5_numberIn_18 : decode cX5_numberIn 18 = .ok (.if_icmp .ge 15, 3) := by decide +kernel
theorem dX5_numberIn_21 : decode cX5_numberIn 21 = .ok (.iload 4, 2) := by decide +kernel
theorem dX5_numberIn_23 : decode cX5_numberIn 23 = .ok (.iload_n 3, 1) := by decide +kernel
theorem dX5_numberIn_24 : decode cX5_numberIn 24 = .ok (.idiv, 1) := by decide +kernel
theorem dX5_numberIn_25 : decode cX5_numberIn 25 = .ok (.istore 4, 2) := by decide +kernel
theorem dX5_numberIn_27 : decode cX5_numberIn 27 = .ok (.iinc 5 1, 3) := by decide +kernel
theorem dX5_numberIn_30 : decode cX5_numberIn 30 = .ok (.goto (-15), 3) := by decide +kernel
theorem dX5_numberIn_33 : decode cX5_numberIn 33 = .ok (.iload 4, 2) := by decide +kernel
theorem dX5_numberIn_35 : decode cX5_numberIn 35 = .ok (.iload_n 3, 1) := by decide +kernel
theorem dX5_numberIn_36 : decode cX5_numberIn 36 = .ok (.irem, 1) := by decide +kernel
theorem dX5_numberIn_37 : decode cX5_numberIn 37 = .ok (.ireturn, 1) := by decide +kernel
abbrev rmX5_numberIn : Room := { frames := 1, cells := 0, slots := 0, locals := 20 }
theorem zyX5_numberIn : zyOK yX5_numberIn 4 := ⟨by decide +kernel, by decide +kernel, by decide +kernel⟩
set_option maxHeartbeats 4000000 in
set_option maxRecDepth 100000 in
theorem wX5_numberIn {G : ZG} (a0 : Int32) (a1 : Int32) (a2 : Int32) (a3 : Int32) (S : ZS) (h0 : zFix G cX5_numberIn RX5 6 (some .int) rmX5_numberIn) (C : Option Int32 → Prop) (hC : ¬ C none) (hE : ∀ v : Int32, C (some v) → zEnd G (some (.int v)) S rmX5_numberIn) : zV G 6 S 0 0 0 [(0, .int a0), (1, .int a1), (2, .int a2), (3, .int a3)] [] (C (fX5_numberIn a0 a1 a2 a3)) := by
  unfold fX5_numberIn
  refine zr_iload_n h0 dX5_numberIn_0 rfl (n := 1) rfl ?_
  refine zr_iconst (2 : Int32) h0 (by decide) dX5_numberIn_1 (n := 2) rfl ?_
  refine zr_icmp_ge C (tgt := 7) h0 dX5_numberIn_2 (by decide) (n := 5) rfl ?_ ?_
  · refine zr_iload_n h0 dX5_numberIn_7 rfl (n := 8) rfl ?_
    refine zr_istore [(0, .int a0), (1, .int a1), (2, .int a2), (3, .int a3), (4, .int a0)] h0 dX5_numberIn_8 (by decide) rfl (n := 10) rfl ?_
    refine zr_iload_n h0 dX5_numberIn_10 rfl (n := 11) rfl ?_
    refine zr_iconst (1 : Int32) h0 (by decide) dX5_numberIn_11 (n := 12) rfl ?_
    refine zr_iadd h0 dX5_numberIn_12 (n := 13) rfl ?_
    refine zr_istore [(0, .int a0), (1, .int a1), (2, .int a2), (3, .int a3), (4, .int a0), (5, .int (a2 + (1 : Int32)))] h0 dX5_numberIn_13 (by decide) rfl (n := 15) rfl ?_
    refine zv_sub (lv' := [(1, .int a1), (3, .int a3), (4, .int a0), (5, .int (a2 + (1 : Int32)))]) ?_ (zsub_of [1, 3, 4, 5] rfl)
    refine zr_loop hC (fX5_numberIn_B15 a1 a3) (fun y => [(1, .int a1), (3, .int a3), (4, .int y.1), (5, .int y.2)]) (fun y => S) zF (a0, a2 + (1 : Int32)) (fun C15 hC15 hX15 hL15 t15 => ?_)
    unfold fX5_numberIn_B15
    refine zr_iload h0 dX5_numberIn_15 rfl (n := 17) rfl ?_
    refine zr_iload_n h0 dX5_numberIn_17 rfl (n := 18) rfl ?_
    refine zr_icmp_ge C15 (tgt := 33) h0 dX5_numberIn_18 (by decide) (n := 21) rfl ?_ ?_
    · refine zr_ex hX15 ?_
      refine zv_sub (lv' := [(3, .int a3), (4, .int t15.1)]) ?_ (zsub_of [1, 2] rfl)
      refine zr_iload h0 dX5_numberIn_33 rfl (n := 35) rfl ?_
      refine zr_iload_n h0 dX5_numberIn_35 rfl (n := 36) rfl ?_
      refine zr_irem C hC h0 dX5_numberIn_36 (n := 37) rfl (fun v3 => ?_)
      exact zr_iret h0 rfl dX5_numberIn_37 (hE _) (by decide) (by decide)
    · refine zr_iload h0 dX5_numberIn_21 rfl (n := 23) rfl ?_
      refine zr_iload_n h0 dX5_numberIn_23 rfl (n := 24) rfl ?_
      refine zr_idiv C15 hC15 h0 dX5_numberIn_24 (n := 25) rfl (fun v4 => ?_)
      refine zr_istore [(1, .int a1), (3, .int a3), (4, .int v4), (5, .int t15.2)] h0 dX5_numberIn_25 (by decide) rfl (n := 27) rfl ?_
      refine zr_iinc (1 : Int32) [(1, .int a1), (3, .int a3), (4, .int v4), (5, .int (t15.2 + (1 : Int32)))] h0 dX5_numberIn_27 rfl (by decide) rfl rfl (n := 30) rfl ?_
      refine zr_goto (tgt := 15) h0 dX5_numberIn_30 (by decide) ?_
      exact hL15 (v4, t15.2 + (1 : Int32))
  · refine zv_sub (lv' := []) ?_ (zsub_of [] rfl)
    refine zr_iconst (0 : Int32) h0 (by decide) dX5_numberIn_5 (n := 6) rfl ?_
    exact zr_iret h0 rfl dX5_numberIn_6 (hE _) (by decide) (by decide)
theorem kX5_numberIn (l : Launch) (D : ZD) (z0 : Nat) (a0 : Int32) (a1 : Int32) (a2 : Int32) (a3 : Int32) (S : ZS) (x : Int32) (hf : fX5_numberIn a0 a1 a2 a3 = some x) : zMet l D z0 yX5_numberIn cX5_numberIn 6 (some .int) rmX5_numberIn [.int a0, .int a1, .int a2, .int a3] S (some (.int x)) S :=
  zMet_of (by decide) (Nat.le_of_ble_eq_true rfl) (fun G h0 hini hE => wX5_numberIn a0 a1 a2 a3 S h0 (fun o => o = some x) (fun h => nomatch h) (fun v h => by cases h; exact hE)) hf
theorem dX5_addedCode_0 : decode cX5_addedCode 0 = .ok (.iconst 0, 1) := by decide +kernel
theorem dX5_addedCode_1 : decode cX5_addedCode 1 = .ok (.istore 5, 2) := by decide +kernel
theorem dX5_addedCode_3 : decode cX5_addedCode 3 = .ok (.iconst 0, 1) := by decide +kernel
theorem dX5_addedCode_4 : decode cX5_addedCode 4 = .ok (.istore 6, 2) := by decide +kernel
theorem dX5_addedCode_6 : decode cX5_addedCode 6 = .ok (.iload 6, 2) := by decide +kernel
theorem dX5_addedCode_8 : decode cX5_addedCode 8 = .ok (.iload_n 3, 1) := by decide +kernel
theorem dX5_addedCode_9 : decode cX5_addedCode 9 = .ok (.if_icmp .ge 47, 3) := by decide +kernel
theorem dX5_addedCode_12 : decode cX5_addedCode 12 = .ok (.iload_n 0, 1) := by decide +kernel
theorem dX5_addedCode_13 : decode cX5_addedCode 13 = .ok (.iload_n 3, 1) := by decide +kernel
theorem dX5_addedCode_14 : decode cX5_addedCode 14 = .ok (.iload 6, 2) := by decide +kernel
theorem dX5_addedCode_16 : decode cX5_addedCode 16 = .ok (.iload 4, 2) := by decide +kernel
theorem dX5_addedCode_18 : decode cX5_addedCode 18 = .ok (.invokestatic 307, 3) := by decide +kernel
theorem dX5_addedCode_21 : decode cX5_addedCode 21 = .ok (.iload_n 2, 1) := by decide +kernel
theorem dX5_addedCode_22 : decode cX5_addedCode 22 = .ok (.iload_n 1, 1) := by decide +kernel
theorem dX5_addedCode_23 : decode cX5_addedCode 23 = .ok (.iload_n 3, 1) := by decide +kernel
theorem dX5_addedCode_24 : decode cX5_addedCode 24 = .ok (.iload 6, 2) := by decide +kernel
theorem dX5_addedCode_26 : decode cX5_addedCode 26 = .ok (.iload 4, 2) := by decide +kernel
theorem dX5_addedCode_28 : decode cX5_addedCode 28 = .ok (.invokestatic 307, 3) := by decide +kernel
theorem dX5_addedCode_31 : decode cX5_addedCode 31 = .ok (.imul, 1) := by decide +kernel
theorem dX5_addedCode_32 : decode cX5_addedCode 32 = .ok (.iadd, 1) := by decide +kernel
theorem dX5_addedCode_33 : decode cX5_addedCode 33 = .ok (.istore 7, 2) := by decide +kernel
theorem dX5_addedCode_35 : decode cX5_addedCode 35 = .ok (.iload 5, 2) := by decide +kernel
theorem dX5_addedCode_37 : decode cX5_addedCode 37 = .ok (.iload 4, 2) := by decide +kernel
theorem dX5_addedCode_39 : decode cX5_addedCode 39 = .ok (.imul, 1) := by decide +kernel
theorem dX5_addedCode_40 : decode cX5_addedCode 40 = .ok (.iload 7, 2) := by decide +kernel
theorem dX5_addedCode_42 : decode cX5_addedCode 42 = .ok (.iload 4, 2) := by decide +kernel
theorem dX5_addedCode_44 : decode cX5_addedCode 44 = .ok (.invokestatic 83, 3) := by decide +kernel
theorem dX5_addedCode_47 : decode cX5_addedCode 47 = .ok (.iadd, 1) := by decide +kernel
theorem dX5_addedCode_48 : decode cX5_addedCode 48 = .ok (.istore 5, 2) := by decide +kernel
theorem dX5_addedCode_50 : decode cX5_addedCode 50 = .ok (.iinc 6 1, 3) := by decide +kernel
theorem dX5_addedCode_53 : decode cX5_addedCode 53 = .ok (.goto (-47), 3) := by decide +kernel
theorem dX5_addedCode_56 : decode cX5_addedCode 56 = .ok (.iload 5, 2) := by decide +kernel
theorem dX5_addedCode_58 : decode cX5_addedCode 58 = .ok (.ireturn, 1) := by decide +kernel
abbrev rmX5_addedCode : Room := { frames := 2, cells := 0, slots := 0, locals := 45 }
theorem zyX5_addedCode : zyOK yX5_addedCode 5 := ⟨by decide +kernel, by decide +kernel, by decide +kernel⟩
set_option maxHeartbeats 4000000 in
set_option maxRecDepth 100000 in
theorem wX5_addedCode {G : ZG} (a0 : Int32) (a1 : Int32) (a2 : Int32) (a3 : Int32) (a4 : Int32) (S : ZS) (h0 : zFix G cX5_addedCode RX5 8 (some .int) rmX5_addedCode) (C : Option Int32 → Prop) (hC : ¬ C none) (hE : ∀ v : Int32, C (some v) → zEnd G (some (.int v)) S rmX5_addedCode) : zV G 8 S 0 0 0 [(0, .int a0), (1, .int a1), (2, .int a2), (3, .int a3), (4, .int a4)] [] (C (fX5_addedCode a0 a1 a2 a3 a4)) := by
  unfold fX5_addedCode
  refine zr_iconst (0 : Int32) h0 (by decide) dX5_addedCode_0 (n := 1) rfl ?_
  refine zr_istore [(0, .int a0), (1, .int a1), (2, .int a2), (3, .int a3), (4, .int a4), (5, .int (0 : Int32))] h0 dX5_addedCode_1 (by decide) rfl (n := 3) rfl ?_
  refine zr_iconst (0 : Int32) h0 (by decide) dX5_addedCode_3 (n := 4) rfl ?_
  refine zr_istore [(0, .int a0), (1, .int a1), (2, .int a2), (3, .int a3), (4, .int a4), (5, .int (0 : Int32)), (6, .int (0 : Int32))] h0 dX5_addedCode_4 (by decide) rfl (n := 6) rfl ?_
  refine zr_loop hC (fX5_addedCode_B6 a0 a1 a2 a3 a4) (fun y => [(0, .int a0), (1, .int a1), (2, .int a2), (3, .int a3), (4, .int a4), (5, .int y.1), (6, .int y.2)]) (fun y => S) zF ((0 : Int32), (0 : Int32)) (fun C6 hC6 hX6 hL6 t6 => ?_)
  unfold fX5_addedCode_B6
  refine zr_iload h0 dX5_addedCode_6 rfl (n := 8) rfl ?_
  refine zr_iload_n h0 dX5_addedCode_8 rfl (n := 9) rfl ?_
  refine zr_icmp_ge C6 (tgt := 56) h0 dX5_addedCode_9 (by decide) (n := 12) rfl ?_ ?_
  · refine zr_ex hX6 ?_
    refine zv_sub (lv' := [(5, .int t6.1)]) ?_ (zsub_of [5] rfl)
    refine zr_iload h0 dX5_addedCode_56 rfl (n := 58) rfl ?_
    exact zr_iret h0 rfl dX5_addedCode_58 (hE _) (by decide) (by decide)
  · refine zr_iload_n h0 dX5_addedCode_12 rfl (n := 13) rfl ?_
    refine zr_iload_n h0 dX5_addedCode_13 rfl (n := 14) rfl ?_
    refine zr_iload h0 dX5_addedCode_14 rfl (n := 16) rfl ?_
    refine zr_iload h0 dX5_addedCode_16 rfl (n := 18) rfl ?_
    refine zr_cRI C6 hC6 0 0 (fun x hx => zk_S h0 (fun l D z0 => kX5_numberIn l D z0 a0 a3 t6.2 a4 S x hx) zw_505 zw_506 zw_1 zw_507 zyX5_numberIn (As := [.int a0, .int a3, .int t6.2, .int a4]) (st := []) rfl (by decide) rfl (Nat.le_of_ble_eq_true rfl) (by decide) dX5_addedCode_18) rfl rfl (n := 21) rfl (fun x4 => ?_)
    refine zr_iload_n h0 dX5_addedCode_21 rfl (n := 22) rfl ?_
    refine zr_iload_n h0 dX5_addedCode_22 rfl (n := 23) rfl ?_
    refine zr_iload_n h0 dX5_addedCode_23 rfl (n := 24) rfl ?_
    refine zr_iload h0 dX5_addedCode_24 rfl (n := 26) rfl ?_
    refine zr_iload h0 dX5_addedCode_26 rfl (n := 28) rfl ?_
    refine zr_cRI C6 hC6 0 0 (fun x hx => zk_S h0 (fun l D z0 => kX5_numberIn l D z0 a1 a3 t6.2 a4 S x hx) zw_505 zw_506 zw_1 zw_507 zyX5_numberIn (As := [.int a1, .int a3, .int t6.2, .int a4]) (st := [.int a2, .int x4]) rfl (by decide) rfl (Nat.le_of_ble_eq_true rfl) (by decide) dX5_addedCode_28) rfl rfl (n := 31) rfl (fun x5 => ?_)
    refine zr_imul h0 dX5_addedCode_31 (n := 32) rfl ?_
    refine zr_iadd h0 dX5_addedCode_32 (n := 33) rfl ?_
    refine zr_istore [(0, .int a0), (1, .int a1), (2, .int a2), (3, .int a3), (4, .int a4), (5, .int t6.1), (6, .int t6.2), (7, .int (x4 + (a2 * x5)))] h0 dX5_addedCode_33 (by decide) rfl (n := 35) rfl ?_
    refine zr_iload h0 dX5_addedCode_35 rfl (n := 37) rfl ?_
    refine zr_iload h0 dX5_addedCode_37 rfl (n := 39) rfl ?_
    refine zr_imul h0 dX5_addedCode_39 (n := 40) rfl ?_
    refine zr_iload h0 dX5_addedCode_40 rfl (n := 42) rfl ?_
    refine zr_iload h0 dX5_addedCode_42 rfl (n := 44) rfl ?_
    refine zr_cRI C6 hC6 0 0 (fun x hx => zk_S h0 (fun l D z0 => kX5_remainder l D z0 (x4 + (a2 * x5)) a4 S x hx) zw_285 zw_286 zw_1 zw_287 zyX5_remainder (As := [.int (x4 + (a2 * x5)), .int a4]) (st := [.int (t6.1 * a4)]) rfl (by decide) rfl (Nat.le_of_ble_eq_true rfl) (by decide) dX5_addedCode_44) rfl rfl (n := 47) rfl (fun x6 => ?_)
    refine zr_iadd h0 dX5_addedCode_47 (n := 48) rfl ?_
    refine zr_istore [(0, .int a0), (1, .int a1), (2, .int a2), (3, .int a3), (4, .int a4), (5, .int ((t6.1 * a4) + x6)), (6, .int t6.2), (7, .int (x4 + (a2 * x5)))] h0 dX5_addedCode_48 (by decide) rfl (n := 50) rfl ?_
    refine zr_iinc (1 : Int32) [(0, .int a0), (1, .int a1), (2, .int a2), (3, .int a3), (4, .int a4), (5, .int ((t6.1 * a4) + x6)), (6, .int (t6.2 + (1 : Int32))), (7, .int (x4 + (a2 * x5)))] h0 dX5_addedCode_50 rfl (by decide) rfl rfl (n := 53) rfl ?_
    refine zr_goto (tgt := 6) h0 dX5_addedCode_53 (by decide) ?_
    refine zv_sub (lv' := [(0, .int a0), (1, .int a1), (2, .int a2), (3, .int a3), (4, .int a4), (5, .int ((t6.1 * a4) + x6)), (6, .int (t6.2 + (1 : Int32)))]) ?_ (zsub_of [0, 1, 2, 3, 4, 5, 6] rfl)
    exact hL6 ((t6.1 * a4) + x6, t6.2 + (1 : Int32))
theorem kX5_addedCode (l : Launch) (D : ZD) (z0 : Nat) (a0 : Int32) (a1 : Int32) (a2 : Int32) (a3 : Int32) (a4 : Int32) (S : ZS) (x : Int32) (hf : fX5_addedCode a0 a1 a2 a3 a4 = some x) : zMet l D z0 yX5_addedCode cX5_addedCode 8 (some .int) rmX5_addedCode [.int a0, .int a1, .int a2, .int a3, .int a4] S (some (.int x)) S :=
  zMet_of (by decide) (Nat.le_of_ble_eq_true rfl) (fun G h0 hini hE => wX5_addedCode a0 a1 a2 a3 a4 S h0 (fun o => o = some x) (fun h => nomatch h) (fun v h => by cases h; exact hE)) hf
theorem dX4_enterCode_0 : decode cX4_enterCode 0 = .ok (.aload_n 0, 1) := by decide +kernel
theorem dX4_enterCode_1 : decode cX4_enterCode 1 = .ok (.getfield 19, 3) := by decide +kernel
theorem dX4_enterCode_4 : decode cX4_enterCode 4 = .ok (.iload_n 1, 1) := by decide +kernel
theorem dX4_enterCode_5 : decode cX4_enterCode 5 = .ok (.invokestatic 26, 3) := by decide +kernel
theorem dX4_enterCode_8 : decode cX4_enterCode 8 = .ok (.sipush 1023, 3) := by decide +kernel
theorem dX4_enterCode_11 : decode cX4_enterCode 11 = .ok (.iload_n 2, 1) := by decide +kernel
theorem dX4_enterCode_12 : decode cX4_enterCode 12 = .ok (.invokestatic 30, 3) := by decide +kernel
theorem dX4_enterCode_15 : decode cX4_enterCode 15 = .ok (.ishl, 1) := by decide +kernel
theorem dX4_enterCode_16 : decode cX4_enterCode 16 = .ok (.iconst (-1), 1) := by decide +kernel
theorem dX4_enterCode_17 : decode cX4_enterCode 17 = .ok (.ixor, 1) := by decide +kernel
theorem dX4_enterCode_18 : decode cX4_enterCode 18 = .ok (.iand, 1) := by decide +kernel
theorem dX4_enterCode_19 : decode cX4_enterCode 19 = .ok (.istore 4, 2) := by decide +kernel
theorem dX4_enterCode_21 : decode cX4_enterCode 21 = .ok (.aload_n 0, 1) := by decide +kernel
theorem dX4_enterCode_22 : decode cX4_enterCode 22 = .ok (.getfield 19, 3) := by decide +kernel
theorem dX4_enterCode_25 : decode cX4_enterCode 25 = .ok (.iload_n 1, 1) := by decide +kernel
theorem dX4_enterCode_26 : decode cX4_enterCode 26 = .ok (.iload 4, 2) := by decide +kernel
theorem dX4_enterCode_28 : decode cX4_enterCode 28 = .ok (.iload_n 3, 1) := by decide +kernel
theorem dX4_enterCode_29 : decode cX4_enterCode 29 = .ok (.iload_n 2, 1) := by decide +kernel
theorem dX4_enterCode_30 : decode cX4_enterCode 30 = .ok (.invokestatic 30, 3) := by decide +kernel
theorem dX4_enterCode_33 : decode cX4_enterCode 33 = .ok (.ishl, 1) := by decide +kernel
theorem dX4_enterCode_34 : decode cX4_enterCode 34 = .ok (.ior, 1) := by decide +kernel
theorem dX4_enterCode_35 : decode cX4_enterCode 35 = .ok (.invokestatic 34, 3) := by decide +kernel
theorem dX4_enterCode_38 : decode cX4_enterCode 38 = .ok (.return_, 1) := by decide +kernel
abbrev rmX4_enterCode : Room := { frames := 2, cells := 0, slots := 0, locals := 42 }
theorem zyX4_enterCode : zyOK yX4_enterCode 3 := ⟨by decide +kernel, by decide +kernel, by decide +kernel⟩
set_option maxHeartbeats 4000000 in
set_option maxRecDepth 100000 in
theorem wX4_enterCode {G : ZG} (a0 : Nat) (a1 : Int32) (a2 : Int32) (a3 : Int32) (S : ZS) (h0 : zFix G cX4_enterCode RX4 5 none rmX4_enterCode) (C : Option ZS → Prop) (hC : ¬ C none) (hE : ∀ S1 : ZS, C (some S1) → zEnd G none S1 rmX4_enterCode) : zV G 5 S 0 0 0 [(0, .ref a0), (1, .int a1), (2, .int a2), (3, .int a3)] [] (C (fX4_enterCode a0 a1 a2 a3 S)) := by
  unfold fX4_enterCode
  refine zr_aload_n h0 dX4_enterCode_0 rfl (n := 1) rfl ?_
  refine zr_getR C hC h0 zcX4 (k := 2) (by decide) zw_411 dX4_enterCode_1 (n := 4) rfl (fun v1 => ?_)
  refine zr_iload_n h0 dX4_enterCode_4 rfl (n := 5) rfl ?_
  refine zr_cRI C hC 0 0 (fun x hx => zk_SN (host := "Bilinearium") h0 (fun l D z0 => kX5_get l D z0 v1 a1 S x hx) (by decide +kernel) zw_329 zw_1 zw_330 zyX5_get (As := [.ref v1, .int a1]) (st := []) rfl (by decide) rfl (Nat.le_of_ble_eq_true rfl) (by decide) dX4_enterCode_5) rfl rfl (n := 8) rfl (fun x2 => ?_)
  refine zr_sipush (1023 : Int32) h0 (by decide) dX4_enterCode_8 (n := 11) rfl ?_
  refine zr_iload_n h0 dX4_enterCode_11 rfl (n := 12) rfl ?_
  refine zr_cRI C hC 0 0 (fun x hx => zk_S h0 (fun l D z0 => kX4_shiftOf l D z0 a2 S x hx) zw_451 zw_452 zw_12 zw_453 zyX4_shiftOf (As := [.int a2]) (st := [.int (1023 : Int32), .int x2]) rfl (by decide) rfl (Nat.le_of_ble_eq_true rfl) (by decide) dX4_enterCode_12) rfl rfl (n := 15) rfl (fun x3 => ?_)
  refine zr_ishl h0 dX4_enterCode_15 (n := 16) rfl ?_
  refine zr_iconst (-1 : Int32) h0 (by decide) dX4_enterCode_16 (n := 17) rfl ?_
  refine zr_ixor h0 dX4_enterCode_17 (n := 18) rfl ?_
  refine zr_iand h0 dX4_enterCode_18 (n := 19) rfl ?_
  refine zr_istore [(0, .ref a0), (1, .int a1), (2, .int a2), (3, .int a3), (4, .int (x2 &&& (((1023 : Int32) <<< (x3 &&& 31)) ^^^ (-1 : Int32))))] h0 dX4_enterCode_19 (by decide) rfl (n := 21) rfl ?_
  refine zr_aload_n h0 dX4_enterCode_21 rfl (n := 22) rfl ?_
  refine zr_getR C hC h0 zcX4 (k := 2) (by decide) zw_411 dX4_enterCode_22 (n := 25) rfl (fun v4 => ?_)
  refine zr_iload_n h0 dX4_enterCode_25 rfl (n := 26) rfl ?_
  refine zr_iload h0 dX4_enterCode_26 rfl (n := 28) rfl ?_
  refine zr_iload_n h0 dX4_enterCode_28 rfl (n := 29) rfl ?_
  refine zr_iload_n h0 dX4_enterCode_29 rfl (n := 30) rfl ?_
  refine zr_cRI C hC 0 0 (fun x hx => zk_S h0 (fun l D z0 => kX4_shiftOf l D z0 a2 S x hx) zw_451 zw_452 zw_12 zw_453 zyX4_shiftOf (As := [.int a2]) (st := [.int a3, .int (x2 &&& (((1023 : Int32) <<< (x3 &&& 31)) ^^^ (-1 : Int32))), .int a1, .ref v4]) rfl (by decide) rfl (Nat.le_of_ble_eq_true rfl) (by decide) dX4_enterCode_30) rfl rfl (n := 33) rfl (fun x5 => ?_)
  refine zr_ishl h0 dX4_enterCode_33 (n := 34) rfl ?_
  refine zr_ior h0 dX4_enterCode_34 (n := 35) rfl ?_
  refine zr_cMV C hC 0 0 (fun x hx => zk_SN (host := "Bilinearium") h0 (fun l D z0 => kX5_put l D z0 v4 a1 ((x2 &&& (((1023 : Int32) <<< (x3 &&& 31)) ^^^ (-1 : Int32))) ||| (a3 <<< (x5 &&& 31))) S x hx) (by decide +kernel) zw_269 zw_1 zw_270 zyX5_put (As := [.ref v4, .int a1, .int ((x2 &&& (((1023 : Int32) <<< (x3 &&& 31)) ^^^ (-1 : Int32))) ||| (a3 <<< (x5 &&& 31)))]) (st := []) rfl (by decide) rfl (Nat.le_of_ble_eq_true rfl) (by decide) dX4_enterCode_35) rfl rfl (n := 38) rfl (fun x6 => ?_)
  exact zr_vret h0 rfl dX4_enterCode_38 (fun h => hE _ h) (by decide) (by decide)
theorem kX4_enterCode (l : Launch) (D : ZD) (z0 : Nat) (a0 : Nat) (a1 : Int32) (a2 : Int32) (a3 : Int32) (S : ZS) (x : ZS) (hf : fX4_enterCode a0 a1 a2 a3 S = some x) : zMet l D z0 yX4_enterCode cX4_enterCode 5 none rmX4_enterCode [.ref a0, .int a1, .int a2, .int a3] S none x :=
  zMet_of (by decide) (Nat.le_of_ble_eq_true rfl) (fun G h0 hini hE => wX4_enterCode a0 a1 a2 a3 S h0 (fun o => o = some x) (fun h => nomatch h) (fun S1 h => by cases h; exact hE)) hf
theorem dX4_addVector_0 : decode cX4_addVector 0 = .ok (.aload_n 0, 1) := by decide +kernel
theorem dX4_addVector_1 : decode cX4_addVector 1 = .ok (.getfield 11, 3) := by decide +kernel
theorem dX4_addVector_4 : decode cX4_addVector 4 = .ok (.iload_n 3, 1) := by decide +kernel
theorem dX4_addVector_5 : decode cX4_addVector 5 = .ok (.invokevirtual 42, 3) := by decide +kernel
theorem dX4_addVector_8 : decode cX4_addVector 8 = .ok (.istore 5, 2) := by decide +kernel
theorem dX4_addVector_10 : decode cX4_addVector 10 = .ok (.aload_n 0, 1) := by decide +kernel
theorem dX4_addVector_11 : decode cX4_addVector 11 = .ok (.iload_n 1, 1) := by decide +kernel
theorem dX4_addVector_12 : decode cX4_addVector 12 = .ok (.iload_n 3, 1) := by decide +kernel
theorem dX4_addVector_13 : decode cX4_addVector 13 = .ok (.aload_n 0, 1) := by decide +kernel
theorem dX4_addVector_14 : decode cX4_addVector 14 = .ok (.iload_n 1, 1) := by decide +kernel
theorem dX4_addVector_15 : decode cX4_addVector 15 = .ok (.iload_n 3, 1) := by decide +kernel
theorem dX4_addVector_16 : decode cX4_addVector 16 = .ok (.invokevirtual 38, 3) := by decide +kernel
theorem dX4_addVector_19 : decode cX4_addVector 19 = .ok (.aload_n 0, 1) := by decide +kernel
theorem dX4_addVector_20 : decode cX4_addVector 20 = .ok (.iload_n 2, 1) := by decide +kernel
theorem dX4_addVector_21 : decode cX4_addVector 21 = .ok (.iload_n 3, 1) := by decide +kernel
theorem dX4_addVector_22 : decode cX4_addVector 22 = .ok (.invokevirtual 38, 3) := by decide +kernel
theorem dX4_addVector_25 : decode cX4_addVector 25 = .ok (.iload 4, 2) := by decide +kernel
theorem dX4_addVector_27 : decode cX4_addVector 27 = .ok (.iload 5, 2) := by decide +kernel
theorem dX4_addVector_29 : decode cX4_addVector 29 = .ok (.aload_n 0, 1) := by decide +kernel
theorem dX4_addVector_30 : decode cX4_addVector 30 = .ok (.getfield 15, 3) := by decide +kernel
theorem dX4_addVector_33 : decode cX4_addVector 33 = .ok (.invokestatic 75, 3) := by decide +kernel
theorem dX4_addVector_36 : decode cX4_addVector 36 = .ok (.invokevirtual 79, 3) := by decide +kernel
theorem dX4_addVector_39 : decode cX4_addVector 39 = .ok (.return_, 1) := by decide +kernel
abbrev rmX4_addVector : Room := { frames := 3, cells := 0, slots := 0, locals := 72 }
theorem zyX4_addVector : zyOK yX4_addVector 4 := ⟨by decide +kernel, by decide +kernel, by decide +kernel⟩
set_option maxHeartbeats 4000000 in
set_option maxRecDepth 100000 in
theorem wX4_addVector {G : ZG} (a0 : Nat) (a1 : Int32) (a2 : Int32) (a3 : Int32) (a4 : Int32) (S : ZS) (h0 : zFix G cX4_addVector RX4 6 none rmX4_addVector) (C : Option ZS → Prop) (hC : ¬ C none) (hE : ∀ S1 : ZS, C (some S1) → zEnd G none S1 rmX4_addVector) : zV G 6 S 0 0 0 [(0, .ref a0), (1, .int a1), (2, .int a2), (3, .int a3), (4, .int a4)] [] (C (fX4_addVector a0 a1 a2 a3 a4 S)) := by
  unfold fX4_addVector
  refine zr_aload_n h0 dX4_addVector_0 rfl (n := 1) rfl ?_
  refine zr_getR C hC h0 zcX4 (k := 0) (by decide) zw_408 dX4_addVector_1 (n := 4) rfl (fun v1 => ?_)
  refine zr_iload_n h0 dX4_addVector_4 rfl (n := 5) rfl ?_
  refine zr_cRI C hC 0 0 (fun x hx => zk_V h0 zcX0 (zcl_ex hx) (fun l D z0 => kX0_sizeOf l D z0 v1 a3 S x (zcl_of hx)) zw_501 zw_346 zw_347 zw_10 zw_348 rfl zyX0_sizeOf (As := [.int a3]) (st := []) rfl (by decide) rfl (Nat.le_of_ble_eq_true rfl) (by decide) dX4_addVector_5) rfl rfl (n := 8) rfl (fun x2 => ?_)
  refine zr_istore [(0, .ref a0), (1, .int a1), (2, .int a2), (3, .int a3), (4, .int a4), (5, .int x2)] h0 dX4_addVector_8 (by decide) rfl (n := 10) rfl ?_
  refine zr_aload_n h0 dX4_addVector_10 rfl (n := 11) rfl ?_
  refine zr_iload_n h0 dX4_addVector_11 rfl (n := 12) rfl ?_
  refine zr_iload_n h0 dX4_addVector_12 rfl (n := 13) rfl ?_
  refine zr_aload_n h0 dX4_addVector_13 rfl (n := 14) rfl ?_
  refine zr_iload_n h0 dX4_addVector_14 rfl (n := 15) rfl ?_
  refine zr_iload_n h0 dX4_addVector_15 rfl (n := 16) rfl ?_
  refine zr_cRI C hC 0 0 (fun x hx => zk_V h0 zcX4 (zcl_ex hx) (fun l D z0 => kX4_code l D z0 a0 a1 a3 S x (zcl_of hx)) zw_487 zw_488 zw_489 zw_12 zw_490 rfl zyX4_code (As := [.int a1, .int a3]) (st := [.int a3, .int a1, .ref a0]) rfl (by decide) rfl (Nat.le_of_ble_eq_true rfl) (by decide) dX4_addVector_16) rfl rfl (n := 19) rfl (fun x3 => ?_)
  refine zr_aload_n h0 dX4_addVector_19 rfl (n := 20) rfl ?_
  refine zr_iload_n h0 dX4_addVector_20 rfl (n := 21) rfl ?_
  refine zr_iload_n h0 dX4_addVector_21 rfl (n := 22) rfl ?_
  refine zr_cRI C hC 0 0 (fun x hx => zk_V h0 zcX4 (zcl_ex hx) (fun l D z0 => kX4_code l D z0 a0 a2 a3 S x (zcl_of hx)) zw_487 zw_488 zw_489 zw_12 zw_490 rfl zyX4_code (As := [.int a2, .int a3]) (st := [.int x3, .int a3, .int a1, .ref a0]) rfl (by decide) rfl (Nat.le_of_ble_eq_true rfl) (by decide) dX4_addVector_22) rfl rfl (n := 25) rfl (fun x4 => ?_)
  refine zr_iload h0 dX4_addVector_25 rfl (n := 27) rfl ?_
  refine zr_iload h0 dX4_addVector_27 rfl (n := 29) rfl ?_
  refine zr_aload_n h0 dX4_addVector_29 rfl (n := 30) rfl ?_
  refine zr_getI C hC h0 zcX4 (k := 1) (by decide) zw_410 dX4_addVector_30 (n := 33) rfl (fun v5 => ?_)
  refine zr_cRI C hC 0 0 (fun x hx => zk_SN (host := "Bilinearium") h0 (fun l D z0 => kX5_addedCode l D z0 x3 x4 a4 x2 v5 S x hx) (by decide +kernel) zw_503 zw_1 zw_504 zyX5_addedCode (As := [.int x3, .int x4, .int a4, .int x2, .int v5]) (st := [.int a3, .int a1, .ref a0]) rfl (by decide) rfl (Nat.le_of_ble_eq_true rfl) (by decide) dX4_addVector_33) rfl rfl (n := 36) rfl (fun x6 => ?_)
  refine zr_cMV C hC 0 0 (fun x hx => zk_V h0 zcX4 (zcl_ex hx) (fun l D z0 => kX4_enterCode l D z0 a0 a1 a3 x6 S x (zcl_of hx)) zw_508 zw_510 zs_6 zw_12 zw_511 rfl zyX4_enterCode (As := [.int a1, .int a3, .int x6]) (st := []) rfl (by decide) rfl (Nat.le_of_ble_eq_true rfl) (by decide) dX4_addVector_36) rfl rfl (n := 39) rfl (fun x7 => ?_)
  exact zr_vret h0 rfl dX4_addVector_39 (fun h => hE _ h) (by decide) (by decide)
theorem kX4_addVector (l : Launch) (D : ZD) (z0 : Nat) (a0 : Nat) (a1 : Int32) (a2 : Int32) (a3 : Int32) (a4 : Int32) (S : ZS) (x : ZS) (hf : fX4_addVector a0 a1 a2 a3 a4 S = some x) : zMet l D z0 yX4_addVector cX4_addVector 6 none rmX4_addVector [.ref a0, .int a1, .int a2, .int a3, .int a4] S none x :=
  zMet_of (by decide) (Nat.le_of_ble_eq_true rfl) (fun G h0 hini hE => wX4_addVector a0 a1 a2 a3 a4 S h0 (fun o => o = some x) (fun h => nomatch h) (fun S1 h => by cases h; exact hE)) hf
theorem dX4_turn_0 : decode cX4_turn 0 = .ok (.iload_n 3, 1) := by decide +kernel
theorem dX4_turn_1 : decode cX4_turn 1 = .ok (.ifCond .ne 7, 3) := by decide +kernel
theorem dX4_turn_4 : decode cX4_turn 4 = .ok (.iconst 1, 1) := by decide +kernel
theorem dX4_turn_5 : decode cX4_turn 5 = .ok (.goto 4, 3) := by decide +kernel
theorem dX4_turn_8 : decode cX4_turn 8 = .ok (.iconst 0, 1) := by decide +kernel
theorem dX4_turn_9 : decode cX4_turn 9 = .ok (.istore 4, 2) := by decide +kernel
theorem dX4_turn_11 : decode cX4_turn 11 = .ok (.iload_n 3, 1) := by decide +kernel
theorem dX4_turn_12 : decode cX4_turn 12 = .ok (.iconst 2, 1) := by decide +kernel
theorem dX4_turn_13 : decode cX4_turn 13 = .ok (.if_icmp .ne 7, 3) := by decide +kernel
theorem dX4_turn_16 : decode cX4_turn 16 = .ok (.iconst 1, 1) := by decide +kernel
theorem dX4_turn_17 : decode cX4_turn 17 = .ok (.goto 4, 3) := by decide +kernel
theorem dX4_turn_20 : decode cX4_turn 20 = .ok (.iconst 2, 1) := by decide +kernel
theorem dX4_turn_21 : decode cX4_turn 21 = .ok (.istore 5, 2) := by decide +kernel
theorem dX4_turn_23 : decode cX4_turn 23 = .ok (.aload_n 0, 1) := by decide +kernel
theorem dX4_turn_24 : decode cX4_turn 24 = .ok (.iload_n 1, 1) := by decide +kernel
theorem dX4_turn_25 : decode cX4_turn 25 = .ok (.iload_n 2, 1) := by decide +kernel
theorem dX4_turn_26 : decode cX4_turn 26 = .ok (.iload 4, 2) := by decide +kernel
theorem dX4_turn_28 : decode cX4_turn 28 = .ok (.iconst 1, 1) := by decide +kernel
theorem dX4_turn_29 : decode cX4_turn 29 = .ok (.invokevirtual 71, 3) := by decide +kernel
theorem dX4_turn_32 : decode cX4_turn 32 = .ok (.aload_n 0, 1) := by decide +kernel
theorem dX4_turn_33 : decode cX4_turn 33 = .ok (.iload_n 2, 1) := by decide +kernel
theorem dX4_turn_34 : decode cX4_turn 34 = .ok (.iload_n 1, 1) := by decide +kernel
theorem dX4_turn_35 : decode cX4_turn 35 = .ok (.iload 5, 2) := by decide +kernel
theorem dX4_turn_37 : decode cX4_turn 37 = .ok (.aload_n 0, 1) := by decide +kernel
theorem dX4_turn_38 : decode cX4_turn 38 = .ok (.getfield 15, 3) := by decide +kernel
theorem dX4_turn_41 : decode cX4_turn 41 = .ok (.iconst 1, 1) := by decide +kernel
theorem dX4_turn_42 : decode cX4_turn 42 = .ok (.isub, 1) := by decide +kernel
theorem dX4_turn_43 : decode cX4_turn 43 = .ok (.invokevirtual 71, 3) := by decide +kernel
theorem dX4_turn_46 : decode cX4_turn 46 = .ok (.return_, 1) := by decide +kernel
abbrev rmX4_turn : Room := { frames := 4, cells := 0, slots := 0, locals := 97 }
theorem zyX4_turn : zyOK yX4_turn 3 := ⟨by decide +kernel, by decide +kernel, by decide +kernel⟩
set_option maxHeartbeats 4000000 in
set_option maxRecDepth 100000 in
theorem wX4_turn {G : ZG} (a0 : Nat) (a1 : Int32) (a2 : Int32) (a3 : Int32) (S : ZS) (h0 : zFix G cX4_turn RX4 6 none rmX4_turn) (C : Option ZS → Prop) (hC : ¬ C none) (hE : ∀ S1 : ZS, C (some S1) → zEnd G none S1 rmX4_turn) : zV G 6 S 0 0 0 [(0, .ref a0), (1, .int a1), (2, .int a2), (3, .int a3)] [] (C (fX4_turn a0 a1 a2 a3 S)) := by
  have J21 : ∀ (l0_21 : Nat) (l1_21 : Int32) (l2_21 : Int32) (l4_21 : Int32) (s0_21 : Int32) (S_21 : ZS), zV G 6 S_21 0 0 21 [(0, .ref l0_21), (1, .int l1_21), (2, .int l2_21), (4, .int l4_21)] [.int s0_21] (C (fX4_turn_J21 l0_21 l1_21 l2_21 l4_21 s0_21 S_21)) := by
    intro l0_21 l1_21 l2_21 l4_21 s0_21 S_21
    unfold fX4_turn_J21
    refine zr_istore [(0, .ref l0_21), (1, .int l1_21), (2, .int l2_21), (4, .int l4_21), (5, .int s0_21)] h0 dX4_turn_21 (by decide) rfl (n := 23) rfl ?_
    refine zr_aload_n h0 dX4_turn_23 rfl (n := 24) rfl ?_
    refine zr_iload_n h0 dX4_turn_24 rfl (n := 25) rfl ?_
    refine zr_iload_n h0 dX4_turn_25 rfl (n := 26) rfl ?_
    refine zr_iload h0 dX4_turn_26 rfl (n := 28) rfl ?_
    refine zr_iconst (1 : Int32) h0 (by decide) dX4_turn_28 (n := 29) rfl ?_
    refine zr_cMV C hC 0 0 (fun x hx => zk_V h0 zcX4 (zcl_ex hx) (fun l D z0 => kX4_addVector l D z0 l0_21 l1_21 l2_21 l4_21 (1 : Int32) S_21 x (zcl_of hx)) zw_497 zw_499 zs_5 zw_12 zw_500 rfl zyX4_addVector (As := [.int l1_21, .int l2_21, .int l4_21, .int (1 : Int32)]) (st := []) rfl (by decide) rfl (Nat.le_of_ble_eq_true rfl) (by decide) dX4_turn_29) rfl rfl (n := 32) rfl (fun x4 => ?_)
    refine zr_aload_n h0 dX4_turn_32 rfl (n := 33) rfl ?_
    refine zr_iload_n h0 dX4_turn_33 rfl (n := 34) rfl ?_
    refine zr_iload_n h0 dX4_turn_34 rfl (n := 35) rfl ?_
    refine zr_iload h0 dX4_turn_35 rfl (n := 37) rfl ?_
    refine zr_aload_n h0 dX4_turn_37 rfl (n := 38) rfl ?_
    refine zr_getI C hC h0 zcX4 (k := 1) (by decide) zw_410 dX4_turn_38 (n := 41) rfl (fun v5 => ?_)
    refine zr_iconst (1 : Int32) h0 (by decide) dX4_turn_41 (n := 42) rfl ?_
    refine zr_isub h0 dX4_turn_42 (n := 43) rfl ?_
    refine zr_cMV C hC 0 0 (fun x hx => zk_V h0 zcX4 (zcl_ex hx) (fun l D z0 => kX4_addVector l D z0 l0_21 l2_21 l1_21 s0_21 (v5 - (1 : Int32)) x4 x (zcl_of hx)) zw_497 zw_499 zs_5 zw_12 zw_500 rfl zyX4_addVector (As := [.int l2_21, .int l1_21, .int s0_21, .int (v5 - (1 : Int32))]) (st := []) rfl (by decide) rfl (Nat.le_of_ble_eq_true rfl) (by decide) dX4_turn_43) rfl rfl (n := 46) rfl (fun x6 => ?_)
    exact zr_vret h0 rfl dX4_turn_46 (fun h => hE _ h) (by decide) (by decide)
  have J9 : ∀ (l0_9 : Nat) (l1_9 : Int32) (l2_9 : Int32) (l3_9 : Int32) (s0_9 : Int32) (S_9 : ZS), zV G 6 S_9 0 0 9 [(0, .ref l0_9), (1, .int l1_9), (2, .int l2_9), (3, .int l3_9)] [.int s0_9] (C (fX4_turn_J9 l0_9 l1_9 l2_9 l3_9 s0_9 S_9)) := by
    intro l0_9 l1_9 l2_9 l3_9 s0_9 S_9
    unfold fX4_turn_J9
    refine zr_istore [(0, .ref l0_9), (1, .int l1_9), (2, .int l2_9), (3, .int l3_9), (4, .int s0_9)] h0 dX4_turn_9 (by decide) rfl (n := 11) rfl ?_
    refine zr_iload_n h0 dX4_turn_11 rfl (n := 12) rfl ?_
    refine zr_iconst (2 : Int32) h0 (by decide) dX4_turn_12 (n := 13) rfl ?_
    refine zr_icmp_ne C (tgt := 20) h0 dX4_turn_13 (by decide) (n := 16) rfl ?_ ?_
    · refine zv_sub (lv' := [(0, .ref l0_9), (1, .int l1_9), (2, .int l2_9), (4, .int s0_9)]) ?_ (zsub_of [0, 1, 2, 4] rfl)
      refine zr_iconst (1 : Int32) h0 (by decide) dX4_turn_16 (n := 17) rfl ?_
      refine zr_goto (tgt := 21) h0 dX4_turn_17 (by decide) ?_
      exact J21 l0_9 l1_9 l2_9 s0_9 (1 : Int32) S_9
    · refine zv_sub (lv' := [(0, .ref l0_9), (1, .int l1_9), (2, .int l2_9), (4, .int s0_9)]) ?_ (zsub_of [0, 1, 2, 4] rfl)
      refine zr_iconst (2 : Int32) h0 (by decide) dX4_turn_20 (n := 21) rfl ?_
      exact J21 l0_9 l1_9 l2_9 s0_9 (2 : Int32) S_9
  unfold fX4_turn
  refine zr_iload_n h0 dX4_turn_0 rfl (n := 1) rfl ?_
  refine zr_if_ne C (tgt := 8) h0 dX4_turn_1 (by decide) (n := 4) rfl ?_ ?_
  · refine zr_iconst (1 : Int32) h0 (by decide) dX4_turn_4 (n := 5) rfl ?_
    refine zr_goto (tgt := 9) h0 dX4_turn_5 (by decide) ?_
    exact J9 a0 a1 a2 a3 (1 : Int32) S
  · refine zr_iconst (0 : Int32) h0 (by decide) dX4_turn_8 (n := 9) rfl ?_
    exact J9 a0 a1 a2 a3 (0 : Int32) S
theorem kX4_turn (l : Launch) (D : ZD) (z0 : Nat) (a0 : Nat) (a1 : Int32) (a2 : Int32) (a3 : Int32) (S : ZS) (x : ZS) (hf : fX4_turn a0 a1 a2 a3 S = some x) : zMet l D z0 yX4_turn cX4_turn 6 none rmX4_turn [.ref a0, .int a1, .int a2, .int a3] S none x :=
  zMet_of (by decide) (Nat.le_of_ble_eq_true rfl) (fun G h0 hini hE => wX4_turn a0 a1 a2 a3 S h0 (fun o => o = some x) (fun h => nomatch h) (fun S1 h => by cases h; exact hE)) hf
theorem dX5_flip_0 : decode cX5_flip 0 = .ok (.aload_n 0, 1) := by decide +kernel
theorem dX5_flip_1 : decode cX5_flip 1 = .ok (.iload_n 1, 1) := by decide +kernel
theorem dX5_flip_2 : decode cX5_flip 2 = .ok (.invokevirtual 148, 3) := by decide +kernel
theorem dX5_flip_5 : decode cX5_flip 5 = .ok (.astore 5, 2) := by decide +kernel
theorem dX5_flip_7 : decode cX5_flip 7 = .ok (.aload 5, 2) := by decide +kernel
theorem dX5_flip_9 : decode cX5_flip 9 = .ok (.iload_n 2, 1) := by decide +kernel
theorem dX5_flip_10 : decode cX5_flip 10 = .ok (.invokestatic 174, 3) := by decide +kernel
theorem dX5_flip_13 : decode cX5_flip 13 = .ok (.aload 5, 2) := by decide +kernel
theorem dX5_flip_15 : decode cX5_flip 15 = .ok (.iload_n 3, 1) := by decide +kernel
theorem dX5_flip_16 : decode cX5_flip 16 = .ok (.invokestatic 174, 3) := by decide +kernel
theorem dX5_flip_19 : decode cX5_flip 19 = .ok (.iload 4, 2) := by decide +kernel
theorem dX5_flip_21 : decode cX5_flip 21 = .ok (.invokestatic 101, 3) := by decide +kernel
theorem dX5_flip_24 : decode cX5_flip 24 = .ok (.iload_n 2, 1) := by decide +kernel
theorem dX5_flip_25 : decode cX5_flip 25 = .ok (.iload_n 3, 1) := by decide +kernel
theorem dX5_flip_26 : decode cX5_flip 26 = .ok (.if_icmp .ne 13, 3) := by decide +kernel
theorem dX5_flip_29 : decode cX5_flip 29 = .ok (.new 56, 3) := by decide +kernel
theorem dX5_flip_32 : decode cX5_flip 32 = .ok (.dup, 1) := by decide +kernel
theorem dX5_flip_33 : decode cX5_flip 33 = .ok (.ldc 177, 2) := by decide +kernel
theorem dX5_flip_35 : decode cX5_flip 35 = .ok (.invokespecial 60, 3) := by decide +kernel
theorem dX5_flip_38 : decode cX5_flip 38 = .ok (.athrow, 1) := by decide +kernel
theorem dX5_flip_39 : decode cX5_flip 39 = .ok (.aload 5, 2) := by decide +kernel
theorem dX5_flip_41 : decode cX5_flip 41 = .ok (.iload_n 2, 1) := by decide +kernel
theorem dX5_flip_42 : decode cX5_flip 42 = .ok (.iload_n 3, 1) := by decide +kernel
theorem dX5_flip_43 : decode cX5_flip 43 = .ok (.iload 4, 2) := by decide +kernel
theorem dX5_flip_45 : decode cX5_flip 45 = .ok (.invokevirtual 179, 3) := by decide +kernel
theorem dX5_flip_48 : decode cX5_flip 48 = .ok (.ifCond .ne 13, 3) := by decide +kernel
theorem dX5_flip_51 : decode cX5_flip 51 = .ok (.new 63, 3) := by decide +kernel
theorem dX5_flip_54 : decode cX5_flip 54 = .ok (.dup, 1) := by decide +kernel
theorem dX5_flip_55 : decode cX5_flip 55 = .ok (.ldc 183, 2) := by decide +kernel
theorem dX5_flip_57 : decode cX5_flip 57 = .ok (.invokespecial 67, 3) := by decide +kernel
theorem dX5_flip_60 : decode cX5_flip 60 = .ok (.athrow, 1) := by decide +kernel
theorem dX5_flip_61 : decode cX5_flip 61 = .ok (.aload 5, 2) := by decide +kernel
theorem dX5_flip_63 : decode cX5_flip 63 = .ok (.iload_n 2, 1) := by decide +kernel
theorem dX5_flip_64 : decode cX5_flip 64 = .ok (.iload_n 3, 1) := by decide +kernel
theorem dX5_flip_65 : decode cX5_flip 65 = .ok (.iload 4, 2) := by decide +kernel
theorem dX5_flip_67 : decode cX5_flip 67 = .ok (.invokevirtual 185, 3) := by decide +kernel
theorem dX5_flip_70 : decode cX5_flip 70 = .ok (.return_, 1) := by decide +kernel
abbrev rmX5_flip : Room := { frames := 7, cells := 5, slots := 30, locals := 122 }
theorem zyX5_flip : zyOK yX5_flip 4 := ⟨by decide +kernel, by decide +kernel, by decide +kernel⟩
set_option maxHeartbeats 4000000 in
set_option maxRecDepth 100000 in
theorem wX5_flip {G : ZG} (a0 : Nat) (a1 : Int32) (a2 : Int32) (a3 : Int32) (a4 : Int32) (S : ZS) (h0 : zFix G cX5_flip RX5 6 none rmX5_flip) (C : Option ((Unit × ZS) ⊕ ZX) → Prop) (hC : ¬ C none) (hnt : zNoTab G) (hE : ∀ (v : Unit) (S1 : ZS), C (some (.inl (v, S1))) → zEndT G none S1 rmX5_flip) (hEx : ∀ (E : String) (h : ZH), C (some (.inr (E, h))) → zEndX G E h rmX5_flip) : zV G 6 S 0 0 0 [(0, .ref a0), (1, .int a1), (2, .int a2), (3, .int a3), (4, .int a4)] [] (C (fX5_flip a0 a1 a2 a3 a4 S)) := by
  unfold fX5_flip
  refine zr_aload_n h0 dX5_flip_0 rfl (n := 1) rfl ?_
  refine zr_iload_n h0 dX5_flip_1 rfl (n := 2) rfl ?_
  refine zr_cTR C hC 1 6 h0 (fun x hx => zk_VT h0 zcX5 (zcl_ex hx) (fun l D z0 hlt => kX5_needWay l D z0 hlt a0 a1 S x (zcl_of hx)) hnt zw_430 zw_432 zs_3 zw_1 zw_433 rfl zyX5_needWay (As := [.int a1]) (st := []) rfl (by decide) rfl (Nat.le_of_ble_eq_true rfl) (by decide) dX5_flip_2) hnt rfl rfl (by decide) (by decide) (n := 5) rfl (fun z h => hEx _ _ h) (fun x1 => ?_)
  refine zr_astore [(0, .ref a0), (1, .int a1), (2, .int a2), (3, .int a3), (4, .int a4), (5, .ref x1.1)] h0 dX5_flip_5 (by decide) rfl (n := 7) rfl ?_
  refine zr_aload h0 dX5_flip_7 rfl (n := 9) rfl ?_
  refine zr_iload_n h0 dX5_flip_9 rfl (n := 10) rfl ?_
  refine zr_cTV C hC 2 12 h0 (fun x hx => zk_ST h0 (fun l D z0 hlt => kX5_needProduct l D z0 hlt x1.1 a2 x1.2 x hx) hnt zw_478 zw_479 zw_1 zw_480 zyX5_needProduct (As := [.ref x1.1, .int a2]) (st := []) rfl (by decide) rfl (Nat.le_of_ble_eq_true rfl) (by decide) dX5_flip_10) hnt rfl rfl (by decide) (by decide) (n := 13) rfl (fun z h => hEx _ _ h) (fun x2 => ?_)
  refine zr_aload h0 dX5_flip_13 rfl (n := 15) rfl ?_
  refine zr_iload_n h0 dX5_flip_15 rfl (n := 16) rfl ?_
  refine zr_cTV C hC 3 18 h0 (fun x hx => zk_ST h0 (fun l D z0 hlt => kX5_needProduct l D z0 hlt x1.1 a3 x2.2 x hx) hnt zw_478 zw_479 zw_1 zw_480 zyX5_needProduct (As := [.ref x1.1, .int a3]) (st := []) rfl (by decide) rfl (Nat.le_of_ble_eq_true rfl) (by decide) dX5_flip_16) hnt rfl rfl (by decide) (by decide) (n := 19) rfl (fun z h => hEx _ _ h) (fun x3 => ?_)
  refine zr_iload h0 dX5_flip_19 rfl (n := 21) rfl ?_
  refine zr_cTV C hC 4 24 h0 (fun x hx => zk_ST h0 (fun l D z0 hlt => kX5_needSide l D z0 hlt a4 x3.2 x hx) hnt zw_338 zw_339 zw_1 zw_340 zyX5_needSide (As := [.int a4]) (st := []) rfl (by decide) rfl (Nat.le_of_ble_eq_true rfl) (by decide) dX5_flip_21) hnt rfl rfl (by decide) (by decide) (n := 24) rfl (fun z h => hEx _ _ h) (fun x4 => ?_)
  refine zr_iload_n h0 dX5_flip_24 rfl (n := 25) rfl ?_
  refine zr_iload_n h0 dX5_flip_25 rfl (n := 26) rfl ?_
  refine zr_icmp_ne C (tgt := 39) h0 dX5_flip_26 (by decide) (n := 29) rfl ?_ ?_
  · refine zv_sub (lv' := []) ?_ (zsub_of [] rfl)
    exact zr_throw h0 hnt (cls := "java/lang/IllegalArgumentException") (text := "the products are the same") (names := ["java/lang/RuntimeException", "java/lang/Exception"]) (by decide +kernel) zfitN zw_118 zw_8 (by decide +kernel) (by decide +kernel) zat_X5_60 zbad_X5_60 zgd_X5_60 dX5_flip_29 dX5_flip_32 dX5_flip_33 dX5_flip_35 dX5_flip_38 (by decide) (Nat.le_of_ble_eq_true rfl) (by decide) (by decide) (fun h => hEx _ _ h)
  · refine zv_sub (lv' := [(2, .int a2), (3, .int a3), (4, .int a4), (5, .ref x1.1)]) ?_ (zsub_of [2, 3, 4, 5] rfl)
    refine zr_aload h0 dX5_flip_39 rfl (n := 41) rfl ?_
    refine zr_iload_n h0 dX5_flip_41 rfl (n := 42) rfl ?_
    refine zr_iload_n h0 dX5_flip_42 rfl (n := 43) rfl ?_
    refine zr_iload h0 dX5_flip_43 rfl (n := 45) rfl ?_
    refine zr_cRI C hC 4 24 (fun x hx => zk_V h0 zcX4 (zcl_ex hx) (fun l D z0 => kX4_isSame l D z0 x1.1 a2 a3 a4 x4.2 x (zcl_of hx)) zw_483 zw_484 zw_485 zw_12 zw_486 rfl zyX4_isSame (As := [.int a2, .int a3, .int a4]) (st := []) rfl (by decide) rfl (Nat.le_of_ble_eq_true rfl) (by decide) dX5_flip_45) rfl rfl (n := 48) rfl (fun x5 => ?_)
    refine zr_if_ne C (tgt := 61) h0 dX5_flip_48 (by decide) (n := 51) rfl ?_ ?_
    · refine zv_sub (lv' := []) ?_ (zsub_of [] rfl)
      exact zr_throw h0 hnt (cls := "java/lang/IllegalStateException") (text := "the vectors are unlike") (names := ["java/lang/RuntimeException", "java/lang/Exception"]) (by decide +kernel) zfitN zw_186 zw_9 (by decide +kernel) (by decide +kernel) zat_X5_67 zbad_X5_67 zgd_X5_67 dX5_flip_51 dX5_flip_54 dX5_flip_55 dX5_flip_57 dX5_flip_60 (by decide) (Nat.le_of_ble_eq_true rfl) (by decide) (by decide) (fun h => hEx _ _ h)
    · refine zr_aload h0 dX5_flip_61 rfl (n := 63) rfl ?_
      refine zr_iload_n h0 dX5_flip_63 rfl (n := 64) rfl ?_
      refine zr_iload_n h0 dX5_flip_64 rfl (n := 65) rfl ?_
      refine zr_iload h0 dX5_flip_65 rfl (n := 67) rfl ?_
      refine zr_cMV C hC 4 24 (fun x hx => zk_V h0 zcX4 (zcl_ex hx) (fun l D z0 => kX4_turn l D z0 x1.1 a2 a3 a4 x4.2 x (zcl_of hx)) zw_493 zw_494 zw_495 zw_12 zw_496 rfl zyX4_turn (As := [.int a2, .int a3, .int a4]) (st := []) rfl (by decide) rfl (Nat.le_of_ble_eq_true rfl) (by decide) dX5_flip_67) rfl rfl (n := 70) rfl (fun x6 => ?_)
      exact zr_vretT h0 rfl dX5_flip_70 (fun h => hE _ _ h) (by decide) (by decide)
theorem kX5_flip (l : Launch) (D : ZD) (z0 : Nat) (hlt : l.stackTraces = false) (a0 : Nat) (a1 : Int32) (a2 : Int32) (a3 : Int32) (a4 : Int32) (S : ZS) (x : ((Unit × ZS) ⊕ ZX)) (hf : fX5_flip a0 a1 a2 a3 a4 S = some x) : zMetT l D z0 yX5_flip cX5_flip 6 none rmX5_flip [.ref a0, .int a1, .int a2, .int a3, .int a4] S (x.map (fun y => (none, y.2)) id) :=
  zMetT_of hlt (by decide) (Nat.le_of_ble_eq_true rfl) (fun G h0 hnt hE hEx => wX5_flip a0 a1 a2 a3 a4 S h0 (fun o => o = some x) (fun h => nomatch h) hnt (fun v S1 h => by cases h; exact hE _ _ rfl) (fun E h hh => by cases hh; exact hEx _ _ rfl)) hf
theorem dX4_hasZeros_0 : decode cX4_hasZeros 0 = .ok (.aload_n 0, 1) := by decide +kernel
theorem dX4_hasZeros_1 : decode cX4_hasZeros 1 = .ok (.iload_n 1, 1) := by decide +kernel
theorem dX4_hasZeros_2 : decode cX4_hasZeros 2 = .ok (.iconst 0, 1) := by decide +kernel
theorem dX4_hasZeros_3 : decode cX4_hasZeros 3 = .ok (.invokevirtual 38, 3) := by decide +kernel
theorem dX4_hasZeros_6 : decode cX4_hasZeros 6 = .ok (.ifCond .eq 21, 3) := by decide +kernel
theorem dX4_hasZeros_9 : decode cX4_hasZeros 9 = .ok (.aload_n 0, 1) := by decide +kernel
theorem dX4_hasZeros_10 : decode cX4_hasZeros 10 = .ok (.iload_n 1, 1) := by decide +kernel
theorem dX4_hasZeros_11 : decode cX4_hasZeros 11 = .ok (.iconst 1, 1) := by decide +kernel
theorem dX4_hasZeros_12 : decode cX4_hasZeros 12 = .ok (.invokevirtual 38, 3) := by decide +kernel
theorem dX4_hasZeros_15 : decode cX4_hasZeros 15 = .ok (.ifCond .eq 12, 3) := by decide +kernel
theorem dX4_hasZeros_18 : decode cX4_hasZeros 18 = .ok (.aload_n 0, 1) := by decide +kernel
theorem dX4_hasZeros_19 : decode cX4_hasZeros 19 = .ok (.iload_n 1, 1) := by decide +kernel
theorem dX4_hasZeros_20 : decode cX4_hasZeros 20 = .ok (.iconst 2, 1) := by decide +kernel
theorem dX4_hasZeros_21 : decode cX4_hasZeros 21 = .ok (.invokevirtual 38, 3) := by decide +kernel
theorem dX4_hasZeros_24 : decode cX4_hasZeros 24 = .ok (.ifCond .ne 7, 3) := by decide +kernel
theorem dX4_hasZeros_27 : decode cX4_hasZeros 27 = .ok (.iconst 1, 1) := by decide +kernel
theorem dX4_hasZeros_28 : decode cX4_hasZeros 28 = .ok (.goto 4, 3) := by decide +kernel
theorem dX4_hasZeros_31 : decode cX4_hasZeros 31 = .ok (.iconst 0, 1) := by decide +kernel
theorem dX4_hasZeros_32 : decode cX4_hasZeros 32 = .ok (.ireturn, 1) := by decide +kernel
abbrev rmX4_hasZeros : Room := { frames := 3, cells := 0, slots := 0, locals := 63 }
theorem zyX4_hasZeros : zyOK yX4_hasZeros 1 := ⟨by decide +kernel, by decide +kernel, by decide +kernel⟩
set_option maxHeartbeats 4000000 in
set_option maxRecDepth 100000 in
theorem wX4_hasZeros {G : ZG} (a0 : Nat) (a1 : Int32) (S : ZS) (h0 : zFix G cX4_hasZeros RX4 2 (some .boolean) rmX4_hasZeros) (C : Option Int32 → Prop) (hC : ¬ C none) (hE : ∀ v : Int32, C (some v) → zEnd G (some (.int v)) S rmX4_hasZeros) : zV G 2 S 0 0 0 [(0, .ref a0), (1, .int a1)] [] (C (fX4_hasZeros a0 a1 S)) := by
  have J32 : ∀ (s0_32 : Int32), zV G 2 S 0 0 32 [] [.int s0_32] (C (fX4_hasZeros_J32 s0_32 S)) := by
    intro s0_32
    unfold fX4_hasZeros_J32
    exact zr_zret C hC h0 rfl dX4_hasZeros_32 (fun w h => hE _ h) (by decide) (by decide)
  have J27 : zV G 2 S 0 0 27 [] [] (C (fX4_hasZeros_J27 S)) := by
    unfold fX4_hasZeros_J27
    refine zr_iconst (1 : Int32) h0 (by decide) dX4_hasZeros_27 (n := 28) rfl ?_
    refine zr_goto (tgt := 32) h0 dX4_hasZeros_28 (by decide) ?_
    exact J32 (1 : Int32)
  unfold fX4_hasZeros
  refine zr_aload_n h0 dX4_hasZeros_0 rfl (n := 1) rfl ?_
  refine zr_iload_n h0 dX4_hasZeros_1 rfl (n := 2) rfl ?_
  refine zr_iconst (0 : Int32) h0 (by decide) dX4_hasZeros_2 (n := 3) rfl ?_
  refine zr_cRI C hC 0 0 (fun x hx => zk_V h0 zcX4 (zcl_ex hx) (fun l D z0 => kX4_code l D z0 a0 a1 (0 : Int32) S x (zcl_of hx)) zw_487 zw_488 zw_489 zw_12 zw_490 rfl zyX4_code (As := [.int a1, .int (0 : Int32)]) (st := []) rfl (by decide) rfl (Nat.le_of_ble_eq_true rfl) (by decide) dX4_hasZeros_3) rfl rfl (n := 6) rfl (fun x1 => ?_)
  refine zr_if_eq C (tgt := 27) h0 dX4_hasZeros_6 (by decide) (n := 9) rfl ?_ ?_
  · refine zv_sub (lv' := []) ?_ (zsub_of [] rfl)
    exact J27
  · refine zr_aload_n h0 dX4_hasZeros_9 rfl (n := 10) rfl ?_
    refine zr_iload_n h0 dX4_hasZeros_10 rfl (n := 11) rfl ?_
    refine zr_iconst (1 : Int32) h0 (by decide) dX4_hasZeros_11 (n := 12) rfl ?_
    refine zr_cRI C hC 0 0 (fun x hx => zk_V h0 zcX4 (zcl_ex hx) (fun l D z0 => kX4_code l D z0 a0 a1 (1 : Int32) S x (zcl_of hx)) zw_487 zw_488 zw_489 zw_12 zw_490 rfl zyX4_code (As := [.int a1, .int (1 : Int32)]) (st := []) rfl (by decide) rfl (Nat.le_of_ble_eq_true rfl) (by decide) dX4_hasZeros_12) rfl rfl (n := 15) rfl (fun x2 => ?_)
    refine zr_if_eq C (tgt := 27) h0 dX4_hasZeros_15 (by decide) (n := 18) rfl ?_ ?_
    · refine zv_sub (lv' := []) ?_ (zsub_of [] rfl)
      exact J27
    · refine zr_aload_n h0 dX4_hasZeros_18 rfl (n := 19) rfl ?_
      refine zr_iload_n h0 dX4_hasZeros_19 rfl (n := 20) rfl ?_
      refine zr_iconst (2 : Int32) h0 (by decide) dX4_hasZeros_20 (n := 21) rfl ?_
      refine zr_cRI C hC 0 0 (fun x hx => zk_V h0 zcX4 (zcl_ex hx) (fun l D z0 => kX4_code l D z0 a0 a1 (2 : Int32) S x (zcl_of hx)) zw_487 zw_488 zw_489 zw_12 zw_490 rfl zyX4_code (As := [.int a1, .int (2 : Int32)]) (st := []) rfl (by decide) rfl (Nat.le_of_ble_eq_true rfl) (by decide) dX4_hasZeros_21) rfl rfl (n := 24) rfl (fun x3 => ?_)
      refine zr_if_ne C (tgt := 31) h0 dX4_hasZeros_24 (by decide) (n := 27) rfl ?_ ?_
      · refine zv_sub (lv' := []) ?_ (zsub_of [] rfl)
        exact J27
      · refine zv_sub (lv' := []) ?_ (zsub_of [] rfl)
        refine zr_iconst (0 : Int32) h0 (by decide) dX4_hasZeros_31 (n := 32) rfl ?_
        exact J32 (0 : Int32)
theorem kX4_hasZeros (l : Launch) (D : ZD) (z0 : Nat) (a0 : Nat) (a1 : Int32) (S : ZS) (x : Int32) (hf : fX4_hasZeros a0 a1 S = some x) : zMet l D z0 yX4_hasZeros cX4_hasZeros 2 (some .boolean) rmX4_hasZeros [.ref a0, .int a1] S (some (.int x)) S :=
  zMet_of (by decide) (Nat.le_of_ble_eq_true rfl) (fun G h0 hini hE => wX4_hasZeros a0 a1 S h0 (fun o => o = some x) (fun h => nomatch h) (fun v h => by cases h; exact hE)) hf
theorem dX4_takeOut_0 : decode cX4_takeOut 0 = .ok (.iload_n 1, 1) := by decide +kernel
theorem dX4_takeOut_1 : decode cX4_takeOut 1 = .ok (.iconst 1, 1) := by decide +kernel
theorem dX4_takeOut_2 : decode cX4_takeOut 2 = .ok (.iadd, 1) := by decide +kernel
theorem dX4_takeOut_3 : decode cX4_takeOut 3 = .ok (.istore_n 2, 1) := by decide +kernel
theorem dX4_takeOut_4 : decode cX4_takeOut 4 = .ok (.iload_n 2, 1) := by decide +kernel
theorem dX4_takeOut_5 : decode cX4_takeOut 5 = .ok (.aload_n 0, 1) := by decide +kernel
theorem dX4_takeOut_6 : decode cX4_takeOut 6 = .ok (.getfield 23, 3) := by decide +kernel
theorem dX4_takeOut_9 : decode cX4_takeOut 9 = .ok (.if_icmp .ge 27, 3) := by decide +kernel
theorem dX4_takeOut_12 : decode cX4_takeOut 12 = .ok (.aload_n 0, 1) := by decide +kernel
theorem dX4_takeOut_13 : decode cX4_takeOut 13 = .ok (.getfield 19, 3) := by decide +kernel
theorem dX4_takeOut_16 : decode cX4_takeOut 16 = .ok (.iload_n 2, 1) := by decide +kernel
theorem dX4_takeOut_17 : decode cX4_takeOut 17 = .ok (.iconst 1, 1) := by decide +kernel
theorem dX4_takeOut_18 : decode cX4_takeOut 18 = .ok (.isub, 1) := by decide +kernel
theorem dX4_takeOut_19 : decode cX4_takeOut 19 = .ok (.aload_n 0, 1) := by decide +kernel
theorem dX4_takeOut_20 : decode cX4_takeOut 20 = .ok (.getfield 19, 3) := by decide +kernel
theorem dX4_takeOut_23 : decode cX4_takeOut 23 = .ok (.iload_n 2, 1) := by decide +kernel
theorem dX4_takeOut_24 : decode cX4_takeOut 24 = .ok (.invokestatic 26, 3) := by decide +kernel
theorem dX4_takeOut_27 : decode cX4_takeOut 27 = .ok (.invokestatic 34, 3) := by decide +kernel
theorem dX4_takeOut_30 : decode cX4_takeOut 30 = .ok (.iinc 2 1, 3) := by decide +kernel
theorem dX4_takeOut_33 : decode cX4_takeOut 33 = .ok (.goto (-29), 3) := by decide +kernel
theorem dX4_takeOut_36 : decode cX4_takeOut 36 = .ok (.aload_n 0, 1) := by decide +kernel
theorem dX4_takeOut_37 : decode cX4_takeOut 37 = .ok (.dup, 1) := by decide +kernel
theorem dX4_takeOut_38 : decode cX4_takeOut 38 = .ok (.getfield 23, 3) := by decide +kernel
theorem dX4_takeOut_41 : decode cX4_takeOut 41 = .ok (.iconst 1, 1) := by decide +kernel
theorem dX4_takeOut_42 : decode cX4_takeOut 42 = .ok (.isub, 1) := by decide +kernel
theorem dX4_takeOut_43 : decode cX4_takeOut 43 = .ok (.putfield 23, 3) := by decide +kernel
theorem dX4_takeOut_46 : decode cX4_takeOut 46 = .ok (.return_, 1) := by decide +kernel
abbrev rmX4_takeOut : Room := { frames := 2, cells := 0, slots := 0, locals := 42 }
theorem zyX4_takeOut : zyOK yX4_takeOut 1 := ⟨by decide +kernel, by decide +kernel, by decide +kernel⟩
set_option maxHeartbeats 4000000 in
set_option maxRecDepth 100000 in
theorem wX4_takeOut {G : ZG} (a0 : Nat) (a1 : Int32) (S : ZS) (h0 : zFix G cX4_takeOut RX4 3 none rmX4_takeOut) (C : Option ZS → Prop) (hC : ¬ C none) (hE : ∀ S1 : ZS, C (some S1) → zEnd G none S1 rmX4_takeOut) : zV G 3 S 0 0 0 [(0, .ref a0), (1, .int a1)] [] (C (fX4_takeOut a0 a1 S)) := by
  unfold fX4_takeOut
  refine zr_iload_n h0 dX4_takeOut_0 rfl (n := 1) rfl ?_
  refine zr_iconst (1 : Int32) h0 (by decide) dX4_takeOut_1 (n := 2) rfl ?_
  refine zr_iadd h0 dX4_takeOut_2 (n := 3) rfl ?_
  refine zr_istore_n [(0, .ref a0), (1, .int a1), (2, .int (a1 + (1 : Int32)))] h0 dX4_takeOut_3 (by decide) rfl (n := 4) rfl ?_
  refine zv_sub (lv' := [(0, .ref a0), (2, .int (a1 + (1 : Int32)))]) ?_ (zsub_of [0, 2] rfl)
  refine zr_loop hC (fX4_takeOut_B4 a0) (fun y => [(0, .ref a0), (2, .int y.1)]) (fun y => y.2) zF (a1 + (1 : Int32), S) (fun C4 hC4 hX4 hL4 t4 => ?_)
  unfold fX4_takeOut_B4
  refine zr_iload_n h0 dX4_takeOut_4 rfl (n := 5) rfl ?_
  refine zr_aload_n h0 dX4_takeOut_5 rfl (n := 6) rfl ?_
  refine zr_getI C4 hC4 h0 zcX4 (k := 3) (by decide) zw_412 dX4_takeOut_6 (n := 9) rfl (fun v8 => ?_)
  refine zr_icmp_ge C4 (tgt := 36) h0 dX4_takeOut_9 (by decide) (n := 12) rfl ?_ ?_
  · refine zr_ex hX4 ?_
    refine zv_sub (lv' := [(0, .ref a0)]) ?_ (zsub_of [0] rfl)
    refine zr_aload_n h0 dX4_takeOut_36 rfl (n := 37) rfl ?_
    refine zr_dup h0 rfl dX4_takeOut_37 (n := 38) rfl ?_
    refine zr_getI C hC h0 zcX4 (k := 3) (by decide) zw_412 dX4_takeOut_38 (n := 41) rfl (fun v9 => ?_)
    refine zr_iconst (1 : Int32) h0 (by decide) dX4_takeOut_41 (n := 42) rfl ?_
    refine zr_isub h0 dX4_takeOut_42 (n := 43) rfl ?_
    refine zr_putF C hC h0 zcX4 (k := 3) (by decide) zw_412 rfl rfl rfl dX4_takeOut_43 (n := 46) rfl (fun S10 => ?_)
    exact zr_vret h0 rfl dX4_takeOut_46 (fun h => hE _ h) (by decide) (by decide)
  · refine zr_aload_n h0 dX4_takeOut_12 rfl (n := 13) rfl ?_
    refine zr_getR C4 hC4 h0 zcX4 (k := 2) (by decide) zw_411 dX4_takeOut_13 (n := 16) rfl (fun v11 => ?_)
    refine zr_iload_n h0 dX4_takeOut_16 rfl (n := 17) rfl ?_
    refine zr_iconst (1 : Int32) h0 (by decide) dX4_takeOut_17 (n := 18) rfl ?_
    refine zr_isub h0 dX4_takeOut_18 (n := 19) rfl ?_
    refine zr_aload_n h0 dX4_takeOut_19 rfl (n := 20) rfl ?_
    refine zr_getR C4 hC4 h0 zcX4 (k := 2) (by decide) zw_411 dX4_takeOut_20 (n := 23) rfl (fun v12 => ?_)
    refine zr_iload_n h0 dX4_takeOut_23 rfl (n := 24) rfl ?_
    refine zr_cRI C4 hC4 0 0 (fun x hx => zk_SN (host := "Bilinearium") h0 (fun l D z0 => kX5_get l D z0 v12 t4.1 t4.2 x hx) (by decide +kernel) zw_329 zw_1 zw_330 zyX5_get (As := [.ref v12, .int t4.1]) (st := [.int (t4.1 - (1 : Int32)), .ref v11]) rfl (by decide) rfl (Nat.le_of_ble_eq_true rfl) (by decide) dX4_takeOut_24) rfl rfl (n := 27) rfl (fun x13 => ?_)
    refine zr_cMV C4 hC4 0 0 (fun x hx => zk_SN (host := "Bilinearium") h0 (fun l D z0 => kX5_put l D z0 v11 (t4.1 - (1 : Int32)) x13 t4.2 x hx) (by decide +kernel) zw_269 zw_1 zw_270 zyX5_put (As := [.ref v11, .int (t4.1 - (1 : Int32)), .int x13]) (st := []) rfl (by decide) rfl (Nat.le_of_ble_eq_true rfl) (by decide) dX4_takeOut_27) rfl rfl (n := 30) rfl (fun x14 => ?_)
    refine zr_iinc (1 : Int32) [(0, .ref a0), (2, .int (t4.1 + (1 : Int32)))] h0 dX4_takeOut_30 rfl (by decide) rfl rfl (n := 33) rfl ?_
    refine zr_goto (tgt := 4) h0 dX4_takeOut_33 (by decide) ?_
    exact hL4 (t4.1 + (1 : Int32), x14)
theorem kX4_takeOut (l : Launch) (D : ZD) (z0 : Nat) (a0 : Nat) (a1 : Int32) (S : ZS) (x : ZS) (hf : fX4_takeOut a0 a1 S = some x) : zMet l D z0 yX4_takeOut cX4_takeOut 3 none rmX4_takeOut [.ref a0, .int a1] S none x :=
  zMet_of (by decide) (Nat.le_of_ble_eq_true rfl) (fun G h0 hini hE => wX4_takeOut a0 a1 S h0 (fun o => o = some x) (fun h => nomatch h) (fun S1 h => by cases h; exact hE)) hf
theorem dX4_takeOutZeros_0 : decode cX4_takeOutZeros 0 = .ok (.iconst 0, 1) := by decide +kernel
theorem dX4_takeOutZeros_1 : decode cX4_takeOutZeros 1 = .ok (.istore_n 1, 1) := by decide +kernel
theorem dX4_takeOutZeros_2 : decode cX4_takeOutZeros 2 = .ok (.iload_n 1, 1) := by decide +kernel
theorem dX4_takeOutZeros_3 : decode cX4_takeOutZeros 3 = .ok (.aload_n 0, 1) := by decide +kernel
theorem dX4_takeOutZeros_4 : decode cX4_takeOutZeros 4 = .ok (.getfield 23, 3) := by decide +kernel
theorem dX4_takeOutZeros_7 : decode cX4_takeOutZeros 7 = .ok (.if_icmp .ge 24, 3) := by decide +kernel
theorem dX4_takeOutZeros_10 : decode cX4_takeOutZeros 10 = .ok (.aload_n 0, 1) := by decide +kernel
theorem dX4_takeOutZeros_11 : decode cX4_takeOutZeros 11 = .ok (.iload_n 1, 1) := by decide +kernel
theorem dX4_takeOutZeros_12 : decode cX4_takeOutZeros 12 = .ok (.invokevirtual 89, 3) := by decide +kernel
theorem dX4_takeOutZeros_15 : decode cX4_takeOutZeros 15 = .ok (.ifCond .eq 10, 3) := by decide +kernel
theorem dX4_takeOutZeros_18 : decode cX4_takeOutZeros 18 = .ok (.aload_n 0, 1) := by decide +kernel
theorem dX4_takeOutZeros_19 : decode cX4_takeOutZeros 19 = .ok (.iload_n 1, 1) := by decide +kernel
theorem dX4_takeOutZeros_20 : decode cX4_takeOutZeros 20 = .ok (.invokevirtual 93, 3) := by decide +kernel
theorem dX4_takeOutZeros_23 : decode cX4_takeOutZeros 23 = .ok (.iconst 1, 1) := by decide +kernel
theorem dX4_takeOutZeros_24 : decode cX4_takeOutZeros 24 = .ok (.ireturn, 1) := by decide +kernel
theorem dX4_takeOutZeros_25 : decode cX4_takeOutZeros 25 = .ok (.iinc 1 1, 3) := by decide +kernel
theorem dX4_takeOutZeros_28 : decode cX4_takeOutZeros 28 = .ok (.goto (-26), 3) := by decide +kernel
theorem dX4_takeOutZeros_31 : decode cX4_takeOutZeros 31 = .ok (.iconst 0, 1) := by decide +kernel
theorem dX4_takeOutZeros_32 : decode cX4_takeOutZeros 32 = .ok (.ireturn, 1) := by decide +kernel
abbrev rmX4_takeOutZeros : Room := { frames := 4, cells := 0, slots := 0, locals := 84 }
theorem zyX4_takeOutZeros : zyOK yX4_takeOutZeros 0 := ⟨by decide +kernel, by decide +kernel, by decide +kernel⟩
set_option maxHeartbeats 4000000 in
set_option maxRecDepth 100000 in
theorem wX4_takeOutZeros {G : ZG} (a0 : Nat) (S : ZS) (h0 : zFix G cX4_takeOutZeros RX4 2 (some .boolean) rmX4_takeOutZeros) (C : Option (Int32 × ZS) → Prop) (hC : ¬ C none) (hE : ∀ (v : Int32) (S1 : ZS), C (some (v, S1)) → zEnd G (some (.int v)) S1 rmX4_takeOutZeros) : zV G 2 S 0 0 0 [(0, .ref a0)] [] (C (fX4_takeOutZeros a0 S)) := by
  unfold fX4_takeOutZeros
  refine zr_iconst (0 : Int32) h0 (by decide) dX4_takeOutZeros_0 (n := 1) rfl ?_
  refine zr_istore_n [(0, .ref a0), (1, .int (0 : Int32))] h0 dX4_takeOutZeros_1 (by decide) rfl (n := 2) rfl ?_
  refine zr_loop hC (fX4_takeOutZeros_B2 a0 S) (fun y => [(0, .ref a0), (1, .int y)]) (fun y => S) zF (0 : Int32) (fun C2 hC2 hX2 hL2 t2 => ?_)
  unfold fX4_takeOutZeros_B2
  refine zr_iload_n h0 dX4_takeOutZeros_2 rfl (n := 3) rfl ?_
  refine zr_aload_n h0 dX4_takeOutZeros_3 rfl (n := 4) rfl ?_
  refine zr_getI C2 hC2 h0 zcX4 (k := 3) (by decide) zw_412 dX4_takeOutZeros_4 (n := 7) rfl (fun v4 => ?_)
  refine zr_icmp_ge C2 (tgt := 31) h0 dX4_takeOutZeros_7 (by decide) (n := 10) rfl ?_ ?_
  · refine zr_ex hX2 ?_
    refine zv_sub (lv' := []) ?_ (zsub_of [] rfl)
    refine zr_iconst (0 : Int32) h0 (by decide) dX4_takeOutZeros_31 (n := 32) rfl ?_
    exact zr_zret0 h0 rfl rfl dX4_takeOutZeros_32 (hE _ _) (by decide) (by decide)
  · refine zr_aload_n h0 dX4_takeOutZeros_10 rfl (n := 11) rfl ?_
    refine zr_iload_n h0 dX4_takeOutZeros_11 rfl (n := 12) rfl ?_
    refine zr_cRI C2 hC2 0 0 (fun x hx => zk_V h0 zcX4 (zcl_ex hx) (fun l D z0 => kX4_hasZeros l D z0 a0 t2 S x (zcl_of hx)) zw_527 zw_529 zs_8 zw_12 zw_530 rfl zyX4_hasZeros (As := [.int t2]) (st := []) rfl (by decide) rfl (Nat.le_of_ble_eq_true rfl) (by decide) dX4_takeOutZeros_12) rfl rfl (n := 15) rfl (fun x5 => ?_)
    refine zr_if_eq C2 (tgt := 25) h0 dX4_takeOutZeros_15 (by decide) (n := 18) rfl ?_ ?_
    · refine zr_iinc (1 : Int32) [(0, .ref a0), (1, .int (t2 + (1 : Int32)))] h0 dX4_takeOutZeros_25 rfl (by decide) rfl rfl (n := 28) rfl ?_
      refine zr_goto (tgt := 2) h0 dX4_takeOutZeros_28 (by decide) ?_
      exact hL2 (t2 + (1 : Int32))
    · refine zr_ex hX2 ?_
      refine zr_aload_n h0 dX4_takeOutZeros_18 rfl (n := 19) rfl ?_
      refine zr_iload_n h0 dX4_takeOutZeros_19 rfl (n := 20) rfl ?_
      refine zr_cMV C hC 0 0 (fun x hx => zk_V h0 zcX4 (zcl_ex hx) (fun l D z0 => kX4_takeOut l D z0 a0 t2 S x (zcl_of hx)) zw_531 zw_533 zs_9 zw_12 zw_534 rfl zyX4_takeOut (As := [.int t2]) (st := []) rfl (by decide) rfl (Nat.le_of_ble_eq_true rfl) (by decide) dX4_takeOutZeros_20) rfl rfl (n := 23) rfl (fun x6 => ?_)
      refine zr_iconst (1 : Int32) h0 (by decide) dX4_takeOutZeros_23 (n := 24) rfl ?_
      exact zr_zret0 h0 rfl rfl dX4_takeOutZeros_24 (hE _ _) (by decide) (by decide)
theorem kX4_takeOutZeros (l : Launch) (D : ZD) (z0 : Nat) (a0 : Nat) (S : ZS) (x : Int32 × ZS) (hf : fX4_takeOutZeros a0 S = some x) : zMet l D z0 yX4_takeOutZeros cX4_takeOutZeros 2 (some .boolean) rmX4_takeOutZeros [.ref a0] S (some (.int x.1)) x.2 :=
  zMet_of (by decide) (Nat.le_of_ble_eq_true rfl) (fun G h0 hini hE => wX4_takeOutZeros a0 S h0 (fun o => o = some x) (fun h => nomatch h) (fun v S1 h => by cases h; exact hE)) hf
theorem dX4_sideToJoin_0 : decode cX4_sideToJoin 0 = .ok (.aload_n 0, 1) := by decide +kernel
theorem dX4_sideToJoin_1 : decode cX4_sideToJoin 1 = .ok (.getfield 19, 3) := by decide +kernel
theorem dX4_sideToJoin_4 : decode cX4_sideToJoin 4 = .ok (.iload_n 1, 1) := by decide +kernel
theorem dX4_sideToJoin_5 : decode cX4_sideToJoin 5 = .ok (.invokestatic 26, 3) := by decide +kernel
theorem dX4_sideToJoin_8 : decode cX4_sideToJoin 8 = .ok (.aload_n 0, 1) := by decide +kernel
theorem dX4_sideToJoin_9 : decode cX4_sideToJoin 9 = .ok (.getfield 19, 3) := by decide +kernel
theorem dX4_sideToJoin_12 : decode cX4_sideToJoin 12 = .ok (.iload_n 2, 1) := by decide +kernel
theorem dX4_sideToJoin_13 : decode cX4_sideToJoin 13 = .ok (.invokestatic 26, 3) := by decide +kernel
theorem dX4_sideToJoin_16 : decode cX4_sideToJoin 16 = .ok (.ixor, 1) := by decide +kernel
theorem dX4_sideToJoin_17 : decode cX4_sideToJoin 17 = .ok (.istore_n 3, 1) := by decide +kernel
theorem dX4_sideToJoin_18 : decode cX4_sideToJoin 18 = .ok (.iload_n 3, 1) := by decide +kernel
theorem dX4_sideToJoin_19 : decode cX4_sideToJoin 19 = .ok (.sipush 1023, 3) := by decide +kernel
theorem dX4_sideToJoin_22 : decode cX4_sideToJoin 22 = .ok (.iconst 0, 1) := by decide +kernel
theorem dX4_sideToJoin_23 : decode cX4_sideToJoin 23 = .ok (.invokestatic 30, 3) := by decide +kernel
theorem dX4_sideToJoin_26 : decode cX4_sideToJoin 26 = .ok (.ishl, 1) := by decide +kernel
theorem dX4_sideToJoin_27 : decode cX4_sideToJoin 27 = .ok (.iand, 1) := by decide +kernel
theorem dX4_sideToJoin_28 : decode cX4_sideToJoin 28 = .ok (.ifCond .ne 7, 3) := by decide +kernel
theorem dX4_sideToJoin_31 : decode cX4_sideToJoin 31 = .ok (.iconst 1, 1) := by decide +kernel
theorem dX4_sideToJoin_32 : decode cX4_sideToJoin 32 = .ok (.goto 4, 3) := by decide +kernel
theorem dX4_sideToJoin_35 : decode cX4_sideToJoin 35 = .ok (.iconst 0, 1) := by decide +kernel
theorem dX4_sideToJoin_36 : decode cX4_sideToJoin 36 = .ok (.istore 4, 2) := by decide +kernel
theorem dX4_sideToJoin_38 : decode cX4_sideToJoin 38 = .ok (.iload_n 3, 1) := by decide +kernel
theorem dX4_sideToJoin_39 : decode cX4_sideToJoin 39 = .ok (.sipush 1023, 3) := by decide +kernel
theorem dX4_sideToJoin_42 : decode cX4_sideToJoin 42 = .ok (.iconst 1, 1) := by decide +kernel
theorem dX4_sideToJoin_43 : decode cX4_sideToJoin 43 = .ok (.invokestatic 30, 3) := by decide +kernel
theorem dX4_sideToJoin_46 : decode cX4_sideToJoin 46 = .ok (.ishl, 1) := by decide +kernel
theorem dX4_sideToJoin_47 : decode cX4_sideToJoin 47 = .ok (.iand, 1) := by decide +kernel
theorem dX4_sideToJoin_48 : decode cX4_sideToJoin 48 = .ok (.ifCond .ne 7, 3) := by decide +kernel
theorem dX4_sideToJoin_51 : decode cX4_sideToJoin 51 = .ok (.iconst 1, 1) := by decide +kernel
theorem dX4_sideToJoin_52 : decode cX4_sideToJoin 52 = .ok (.goto 4, 3) := by decide +kernel
theorem dX4_sideToJoin_55 : decode cX4_sideToJoin 55 = .ok (.iconst 0, 1) := by decide +kernel
theorem dX4_sideToJoin_56 : decode cX4_sideToJoin 56 = .ok (.istore 5, 2) := by decide +kernel
theorem dX4_sideToJoin_58 : decode cX4_sideToJoin 58 = .ok (.iload_n 3, 1) := by decide +kernel
theorem dX4_sideToJoin_59 : decode cX4_sideToJoin 59 = .ok (.sipush 1023, 3) := by decide +kernel
theorem dX4_sideToJoin_62 : decode cX4_sideToJoin 62 = .ok (.iconst 2, 1) := by decide +kernel
theorem dX4_sideToJoin_63 : decode cX4_sideToJoin 63 = .ok (.invokestatic 30, 3) := by decide +kernel
theorem dX4_sideToJoin_66 : decode cX4_sideToJoin 66 = .ok (.ishl, 1) := by decide +kernel
theorem dX4_sideToJoin_67 : decode cX4_sideToJoin 67 = .ok (.iand, 1) := by decide +kernel
theorem dX4_sideToJoin_68 : decode cX4_sideToJoin 68 = .ok (.ifCond .ne 7, 3) := by decide +kernel
theorem dX4_sideToJoin_71 : decode cX4_sideToJoin 71 = .ok (.iconst 1, 1) := by decide +kernel
theorem dX4_sideToJoin_72 : decode cX4_sideToJoin 72 = .ok (.goto 4, 3) := by decide +kernel
theorem dX4_sideToJoin_75 : decode cX4_sideToJoin 75 = .ok (.iconst 0, 1) := by decide +kernel
theorem dX4_sideToJoin_76 : decode cX4_sideToJoin 76 = .ok (.istore 6, 2) := by decide +kernel
theorem dX4_sideToJoin_78 : decode cX4_sideToJoin 78 = .ok (.iload 4, 2) := by decide +kernel
theorem dX4_sideToJoin_80 : decode cX4_sideToJoin 80 = .ok (.ifCond .eq 10, 3) := by decide +kernel
theorem dX4_sideToJoin_83 : decode cX4_sideToJoin 83 = .ok (.iload 5, 2) := by decide +kernel
theorem dX4_sideToJoin_85 : decode cX4_sideToJoin 85 = .ok (.ifCond .eq 5, 3) := by decide +kernel
theorem dX4_sideToJoin_88 : decode cX4_sideToJoin 88 = .ok (.iconst 2, 1) := by decide +kernel
theorem dX4_sideToJoin_89 : decode cX4_sideToJoin 89 = .ok (.ireturn, 1) := by decide +kernel
theorem dX4_sideToJoin_90 : decode cX4_sideToJoin 90 = .ok (.iload 4, 2) := by decide +kernel
theorem dX4_sideToJoin_92 : decode cX4_sideToJoin 92 = .ok (.ifCond .eq 10, 3) := by decide +kernel
theorem dX4_sideToJoin_95 : decode cX4_sideToJoin 95 = .ok (.iload 6, 2) := by decide +kernel
theorem dX4_sideToJoin_97 : decode cX4_sideToJoin 97 = .ok (.ifCond .eq 5, 3) := by decide +kernel
theorem dX4_sideToJoin_100 : decode cX4_sideToJoin 100 = .ok (.iconst 1, 1) := by decide +kernel
theorem dX4_sideToJoin_101 : decode cX4_sideToJoin 101 = .ok (.ireturn, 1) := by decide +kernel
theorem dX4_sideToJoin_102 : decode cX4_sideToJoin 102 = .ok (.iload 5, 2) := by decide +kernel
theorem dX4_sideToJoin_104 : decode cX4_sideToJoin 104 = .ok (.ifCond .eq 12, 3) := by decide +kernel
theorem dX4_sideToJoin_107 : decode cX4_sideToJoin 107 = .ok (.iload 6, 2) := by decide +kernel
theorem dX4_sideToJoin_109 : decode cX4_sideToJoin 109 = .ok (.ifCond .eq 7, 3) := by decide +kernel
theorem dX4_sideToJoin_112 : decode cX4_sideToJoin 112 = .ok (.iconst 0, 1) := by decide +kernel
theorem dX4_sideToJoin_113 : decode cX4_sideToJoin 113 = .ok (.goto 4, 3) := by decide +kernel
theorem dX4_sideToJoin_116 : decode cX4_sideToJoin 116 = .ok (.iconst (-1), 1) := by decide +kernel
theorem dX4_sideToJoin_117 : decode cX4_sideToJoin 117 = .ok (.ireturn, 1) := by decide +kernel
abbrev rmX4_sideToJoin : Room := { frames := 2, cells := 0, slots := 0, locals := 41 }
theorem zyX4_sideToJoin : zyOK yX4_sideToJoin 2 := ⟨by decide +kernel, by decide +kernel, by decide +kernel⟩
set_option maxHeartbeats 4000000 in
set_option maxRecDepth 100000 in
theorem wX4_sideToJoin {G : ZG} (a0 : Nat) (a1 : Int32) (a2 : Int32) (S : ZS) (h0 : zFix G cX4_sideToJoin RX4 7 (some .int) rmX4_sideToJoin) (C : Option Int32 → Prop) (hC : ¬ C none) (hE : ∀ v : Int32, C (some v) → zEnd G (some (.int v)) S rmX4_sideToJoin) : zV G 7 S 0 0 0 [(0, .ref a0), (1, .int a1), (2, .int a2)] [] (C (fX4_sideToJoin a0 a1 a2 S)) := by
  have J117 : ∀ (s0_117 : Int32), zV G 7 S 0 0 117 [] [.int s0_117] (C (fX4_sideToJoin_J117 s0_117 S)) := by
    intro s0_117
    unfold fX4_sideToJoin_J117
    exact zr_iret h0 rfl dX4_sideToJoin_117 (hE _) (by decide) (by decide)
  have J116 : zV G 7 S 0 0 116 [] [] (C (fX4_sideToJoin_J116 S)) := by
    unfold fX4_sideToJoin_J116
    refine zr_iconst (-1 : Int32) h0 (by decide) dX4_sideToJoin_116 (n := 117) rfl ?_
    exact J117 (-1 : Int32)
  have J102 : ∀ (l5_102 : Int32) (l6_102 : Int32), zV G 7 S 0 0 102 [(5, .int l5_102), (6, .int l6_102)] [] (C (fX4_sideToJoin_J102 l5_102 l6_102 S)) := by
    intro l5_102 l6_102
    unfold fX4_sideToJoin_J102
    refine zr_iload h0 dX4_sideToJoin_102 rfl (n := 104) rfl ?_
    refine zr_if_eq C (tgt := 116) h0 dX4_sideToJoin_104 (by decide) (n := 107) rfl ?_ ?_
    · refine zv_sub (lv' := []) ?_ (zsub_of [] rfl)
      exact J116
    · refine zv_sub (lv' := [(6, .int l6_102)]) ?_ (zsub_of [1] rfl)
      refine zr_iload h0 dX4_sideToJoin_107 rfl (n := 109) rfl ?_
      refine zr_if_eq C (tgt := 116) h0 dX4_sideToJoin_109 (by decide) (n := 112) rfl ?_ ?_
      · refine zv_sub (lv' := []) ?_ (zsub_of [] rfl)
        exact J116
      · refine zv_sub (lv' := []) ?_ (zsub_of [] rfl)
        refine zr_iconst (0 : Int32) h0 (by decide) dX4_sideToJoin_112 (n := 113) rfl ?_
        refine zr_goto (tgt := 117) h0 dX4_sideToJoin_113 (by decide) ?_
        exact J117 (0 : Int32)
  have J90 : ∀ (l4_90 : Int32) (l5_90 : Int32) (l6_90 : Int32), zV G 7 S 0 0 90 [(4, .int l4_90), (5, .int l5_90), (6, .int l6_90)] [] (C (fX4_sideToJoin_J90 l4_90 l5_90 l6_90 S)) := by
    intro l4_90 l5_90 l6_90
    unfold fX4_sideToJoin_J90
    refine zr_iload h0 dX4_sideToJoin_90 rfl (n := 92) rfl ?_
    refine zr_if_eq C (tgt := 102) h0 dX4_sideToJoin_92 (by decide) (n := 95) rfl ?_ ?_
    · refine zv_sub (lv' := [(5, .int l5_90), (6, .int l6_90)]) ?_ (zsub_of [1, 2] rfl)
      exact J102 l5_90 l6_90
    · refine zv_sub (lv' := [(5, .int l5_90), (6, .int l6_90)]) ?_ (zsub_of [1, 2] rfl)
      refine zr_iload h0 dX4_sideToJoin_95 rfl (n := 97) rfl ?_
      refine zr_if_eq C (tgt := 102) h0 dX4_sideToJoin_97 (by decide) (n := 100) rfl ?_ ?_
      · exact J102 l5_90 l6_90
      · refine zv_sub (lv' := []) ?_ (zsub_of [] rfl)
        refine zr_iconst (1 : Int32) h0 (by decide) dX4_sideToJoin_100 (n := 101) rfl ?_
        exact zr_iret h0 rfl dX4_sideToJoin_101 (hE _) (by decide) (by decide)
  have J76 : ∀ (l4_76 : Int32) (l5_76 : Int32) (s0_76 : Int32), zV G 7 S 0 0 76 [(4, .int l4_76), (5, .int l5_76)] [.int s0_76] (C (fX4_sideToJoin_J76 l4_76 l5_76 s0_76 S)) := by
    intro l4_76 l5_76 s0_76
    unfold fX4_sideToJoin_J76
    refine zr_istore [(4, .int l4_76), (5, .int l5_76), (6, .int s0_76)] h0 dX4_sideToJoin_76 (by decide) rfl (n := 78) rfl ?_
    refine zr_iload h0 dX4_sideToJoin_78 rfl (n := 80) rfl ?_
    refine zr_if_eq C (tgt := 90) h0 dX4_sideToJoin_80 (by decide) (n := 83) rfl ?_ ?_
    · exact J90 l4_76 l5_76 s0_76
    · refine zr_iload h0 dX4_sideToJoin_83 rfl (n := 85) rfl ?_
      refine zr_if_eq C (tgt := 90) h0 dX4_sideToJoin_85 (by decide) (n := 88) rfl ?_ ?_
      · exact J90 l4_76 l5_76 s0_76
      · refine zv_sub (lv' := []) ?_ (zsub_of [] rfl)
        refine zr_iconst (2 : Int32) h0 (by decide) dX4_sideToJoin_88 (n := 89) rfl ?_
        exact zr_iret h0 rfl dX4_sideToJoin_89 (hE _) (by decide) (by decide)
  have J56 : ∀ (l3_56 : Int32) (l4_56 : Int32) (s0_56 : Int32), zV G 7 S 0 0 56 [(3, .int l3_56), (4, .int l4_56)] [.int s0_56] (C (fX4_sideToJoin_J56 l3_56 l4_56 s0_56 S)) := by
    intro l3_56 l4_56 s0_56
    unfold fX4_sideToJoin_J56
    refine zr_istore [(3, .int l3_56), (4, .int l4_56), (5, .int s0_56)] h0 dX4_sideToJoin_56 (by decide) rfl (n := 58) rfl ?_
    refine zr_iload_n h0 dX4_sideToJoin_58 rfl (n := 59) rfl ?_
    refine zr_sipush (1023 : Int32) h0 (by decide) dX4_sideToJoin_59 (n := 62) rfl ?_
    refine zr_iconst (2 : Int32) h0 (by decide) dX4_sideToJoin_62 (n := 63) rfl ?_
    refine zr_cRI C hC 0 0 (fun x hx => zk_S h0 (fun l D z0 => kX4_shiftOf l D z0 (2 : Int32) S x hx) zw_451 zw_452 zw_12 zw_453 zyX4_shiftOf (As := [.int (2 : Int32)]) (st := [.int (1023 : Int32), .int l3_56]) rfl (by decide) rfl (Nat.le_of_ble_eq_true rfl) (by decide) dX4_sideToJoin_63) rfl rfl (n := 66) rfl (fun x8 => ?_)
    refine zr_ishl h0 dX4_sideToJoin_66 (n := 67) rfl ?_
    refine zr_iand h0 dX4_sideToJoin_67 (n := 68) rfl ?_
    refine zr_if_ne C (tgt := 75) h0 dX4_sideToJoin_68 (by decide) (n := 71) rfl ?_ ?_
    · refine zv_sub (lv' := [(4, .int l4_56), (5, .int s0_56)]) ?_ (zsub_of [1, 2] rfl)
      refine zr_iconst (1 : Int32) h0 (by decide) dX4_sideToJoin_71 (n := 72) rfl ?_
      refine zr_goto (tgt := 76) h0 dX4_sideToJoin_72 (by decide) ?_
      exact J76 l4_56 s0_56 (1 : Int32)
    · refine zv_sub (lv' := [(4, .int l4_56), (5, .int s0_56)]) ?_ (zsub_of [1, 2] rfl)
      refine zr_iconst (0 : Int32) h0 (by decide) dX4_sideToJoin_75 (n := 76) rfl ?_
      exact J76 l4_56 s0_56 (0 : Int32)
  have J36 : ∀ (l3_36 : Int32) (s0_36 : Int32), zV G 7 S 0 0 36 [(3, .int l3_36)] [.int s0_36] (C (fX4_sideToJoin_J36 l3_36 s0_36 S)) := by
    intro l3_36 s0_36
    unfold fX4_sideToJoin_J36
    refine zr_istore [(3, .int l3_36), (4, .int s0_36)] h0 dX4_sideToJoin_36 (by decide) rfl (n := 38) rfl ?_
    refine zr_iload_n h0 dX4_sideToJoin_38 rfl (n := 39) rfl ?_
    refine zr_sipush (1023 : Int32) h0 (by decide) dX4_sideToJoin_39 (n := 42) rfl ?_
    refine zr_iconst (1 : Int32) h0 (by decide) dX4_sideToJoin_42 (n := 43) rfl ?_
    refine zr_cRI C hC 0 0 (fun x hx => zk_S h0 (fun l D z0 => kX4_shiftOf l D z0 (1 : Int32) S x hx) zw_451 zw_452 zw_12 zw_453 zyX4_shiftOf (As := [.int (1 : Int32)]) (st := [.int (1023 : Int32), .int l3_36]) rfl (by decide) rfl (Nat.le_of_ble_eq_true rfl) (by decide) dX4_sideToJoin_43) rfl rfl (n := 46) rfl (fun x9 => ?_)
    refine zr_ishl h0 dX4_sideToJoin_46 (n := 47) rfl ?_
    refine zr_iand h0 dX4_sideToJoin_47 (n := 48) rfl ?_
    refine zr_if_ne C (tgt := 55) h0 dX4_sideToJoin_48 (by decide) (n := 51) rfl ?_ ?_
    · refine zr_iconst (1 : Int32) h0 (by decide) dX4_sideToJoin_51 (n := 52) rfl ?_
      refine zr_goto (tgt := 56) h0 dX4_sideToJoin_52 (by decide) ?_
      exact J56 l3_36 s0_36 (1 : Int32)
    · refine zr_iconst (0 : Int32) h0 (by decide) dX4_sideToJoin_55 (n := 56) rfl ?_
      exact J56 l3_36 s0_36 (0 : Int32)
  unfold fX4_sideToJoin
  refine zr_aload_n h0 dX4_sideToJoin_0 rfl (n := 1) rfl ?_
  refine zr_getR C hC h0 zcX4 (k := 2) (by decide) zw_411 dX4_sideToJoin_1 (n := 4) rfl (fun v1 => ?_)
  refine zr_iload_n h0 dX4_sideToJoin_4 rfl (n := 5) rfl ?_
  refine zr_cRI C hC 0 0 (fun x hx => zk_SN (host := "Bilinearium") h0 (fun l D z0 => kX5_get l D z0 v1 a1 S x hx) (by decide +kernel) zw_329 zw_1 zw_330 zyX5_get (As := [.ref v1, .int a1]) (st := []) rfl (by decide) rfl (Nat.le_of_ble_eq_true rfl) (by decide) dX4_sideToJoin_5) rfl rfl (n := 8) rfl (fun x2 => ?_)
  refine zr_aload_n h0 dX4_sideToJoin_8 rfl (n := 9) rfl ?_
  refine zr_getR C hC h0 zcX4 (k := 2) (by decide) zw_411 dX4_sideToJoin_9 (n := 12) rfl (fun v3 => ?_)
  refine zr_iload_n h0 dX4_sideToJoin_12 rfl (n := 13) rfl ?_
  refine zr_cRI C hC 0 0 (fun x hx => zk_SN (host := "Bilinearium") h0 (fun l D z0 => kX5_get l D z0 v3 a2 S x hx) (by decide +kernel) zw_329 zw_1 zw_330 zyX5_get (As := [.ref v3, .int a2]) (st := [.int x2]) rfl (by decide) rfl (Nat.le_of_ble_eq_true rfl) (by decide) dX4_sideToJoin_13) rfl rfl (n := 16) rfl (fun x4 => ?_)
  refine zr_ixor h0 dX4_sideToJoin_16 (n := 17) rfl ?_
  refine zr_istore_n [(0, .ref a0), (1, .int a1), (2, .int a2), (3, .int (x2 ^^^ x4))] h0 dX4_sideToJoin_17 (by decide) rfl (n := 18) rfl ?_
  refine zr_iload_n h0 dX4_sideToJoin_18 rfl (n := 19) rfl ?_
  refine zr_sipush (1023 : Int32) h0 (by decide) dX4_sideToJoin_19 (n := 22) rfl ?_
  refine zr_iconst (0 : Int32) h0 (by decide) dX4_sideToJoin_22 (n := 23) rfl ?_
  refine zr_cRI C hC 0 0 (fun x hx => zk_S h0 (fun l D z0 => kX4_shiftOf l D z0 (0 : Int32) S x hx) zw_451 zw_452 zw_12 zw_453 zyX4_shiftOf (As := [.int (0 : Int32)]) (st := [.int (1023 : Int32), .int (x2 ^^^ x4)]) rfl (by decide) rfl (Nat.le_of_ble_eq_true rfl) (by decide) dX4_sideToJoin_23) rfl rfl (n := 26) rfl (fun x5 => ?_)
  refine zr_ishl h0 dX4_sideToJoin_26 (n := 27) rfl ?_
  refine zr_iand h0 dX4_sideToJoin_27 (n := 28) rfl ?_
  refine zr_if_ne C (tgt := 35) h0 dX4_sideToJoin_28 (by decide) (n := 31) rfl ?_ ?_
  · refine zv_sub (lv' := [(3, .int (x2 ^^^ x4))]) ?_ (zsub_of [3] rfl)
    refine zr_iconst (1 : Int32) h0 (by decide) dX4_sideToJoin_31 (n := 32) rfl ?_
    refine zr_goto (tgt := 36) h0 dX4_sideToJoin_32 (by decide) ?_
    exact J36 (x2 ^^^ x4) (1 : Int32)
  · refine zv_sub (lv' := [(3, .int (x2 ^^^ x4))]) ?_ (zsub_of [3] rfl)
    refine zr_iconst (0 : Int32) h0 (by decide) dX4_sideToJoin_35 (n := 36) rfl ?_
    exact J36 (x2 ^^^ x4) (0 : Int32)
theorem kX4_sideToJoin (l : Launch) (D : ZD) (z0 : Nat) (a0 : Nat) (a1 : Int32) (a2 : Int32) (S : ZS) (x : Int32) (hf : fX4_sideToJoin a0 a1 a2 S = some x) : zMet l D z0 yX4_sideToJoin cX4_sideToJoin 7 (some .int) rmX4_sideToJoin [.ref a0, .int a1, .int a2] S (some (.int x)) S :=
  zMet_of (by decide) (Nat.le_of_ble_eq_true rfl) (fun G h0 hini hE => wX4_sideToJoin a0 a1 a2 S h0 (fun o => o = some x) (fun h => nomatch h) (fun v h => by cases h; exact hE)) hf
theorem dX4_joinProducts_0 : decode cX4_joinProducts 0 = .ok (.iconst 0, 1) := by decide +kernel
theorem dX4_joinProducts_1 : decode cX4_joinProducts 1 = .ok (.istore_n 1, 1) := by decide +kernel
theorem dX4_joinProducts_2 : decode cX4_joinProducts 2 = .ok (.iload_n 1, 1) := by decide +kernel
theorem dX4_joinProducts_3 : decode cX4_joinProducts 3 = .ok (.aload_n 0, 1) := by decide +kernel
theorem dX4_joinProducts_4 : decode cX4_joinProducts 4 = .ok (.getfield 23, 3) := by decide +kernel
theorem dX4_joinProducts_7 : decode cX4_joinProducts 7 = .ok (.if_icmp .ge 54, 3) := by decide +kernel
theorem dX4_joinProducts_10 : decode cX4_joinProducts 10 = .ok (.iload_n 1, 1) := by decide +kernel
theorem dX4_joinProducts_11 : decode cX4_joinProducts 11 = .ok (.iconst 1, 1) := by decide +kernel
theorem dX4_joinProducts_12 : decode cX4_joinProducts 12 = .ok (.iadd, 1) := by decide +kernel
theorem dX4_joinProducts_13 : decode cX4_joinProducts 13 = .ok (.istore_n 2, 1) := by decide +kernel
theorem dX4_joinProducts_14 : decode cX4_joinProducts 14 = .ok (.iload_n 2, 1) := by decide +kernel
theorem dX4_joinProducts_15 : decode cX4_joinProducts 15 = .ok (.aload_n 0, 1) := by decide +kernel
theorem dX4_joinProducts_16 : decode cX4_joinProducts 16 = .ok (.getfield 23, 3) := by decide +kernel
theorem dX4_joinProducts_19 : decode cX4_joinProducts 19 = .ok (.if_icmp .ge 36, 3) := by decide +kernel
theorem dX4_joinProducts_22 : decode cX4_joinProducts 22 = .ok (.aload_n 0, 1) := by decide +kernel
theorem dX4_joinProducts_23 : decode cX4_joinProducts 23 = .ok (.iload_n 1, 1) := by decide +kernel
theorem dX4_joinProducts_24 : decode cX4_joinProducts 24 = .ok (.iload_n 2, 1) := by decide +kernel
theorem dX4_joinProducts_25 : decode cX4_joinProducts 25 = .ok (.invokevirtual 97, 3) := by decide +kernel
theorem dX4_joinProducts_28 : decode cX4_joinProducts 28 = .ok (.istore_n 3, 1) := by decide +kernel
theorem dX4_joinProducts_29 : decode cX4_joinProducts 29 = .ok (.iload_n 3, 1) := by decide +kernel
theorem dX4_joinProducts_30 : decode cX4_joinProducts 30 = .ok (.iconst (-1), 1) := by decide +kernel
theorem dX4_joinProducts_31 : decode cX4_joinProducts 31 = .ok (.if_icmp .eq 18, 3) := by decide +kernel
theorem dX4_joinProducts_34 : decode cX4_joinProducts 34 = .ok (.aload_n 0, 1) := by decide +kernel
theorem dX4_joinProducts_35 : decode cX4_joinProducts 35 = .ok (.iload_n 1, 1) := by decide +kernel
theorem dX4_joinProducts_36 : decode cX4_joinProducts 36 = .ok (.iload_n 2, 1) := by decide +kernel
theorem dX4_joinProducts_37 : decode cX4_joinProducts 37 = .ok (.iload_n 3, 1) := by decide +kernel
theorem dX4_joinProducts_38 : decode cX4_joinProducts 38 = .ok (.iconst 1, 1) := by decide +kernel
theorem dX4_joinProducts_39 : decode cX4_joinProducts 39 = .ok (.invokevirtual 71, 3) := by decide +kernel
theorem dX4_joinProducts_42 : decode cX4_joinProducts 42 = .ok (.aload_n 0, 1) := by decide +kernel
theorem dX4_joinProducts_43 : decode cX4_joinProducts 43 = .ok (.iload_n 2, 1) := by decide +kernel
theorem dX4_joinProducts_44 : decode cX4_joinProducts 44 = .ok (.invokevirtual 93, 3) := by decide +kernel
theorem dX4_joinProducts_47 : decode cX4_joinProducts 47 = .ok (.iconst 1, 1) := by decide +kernel
theorem dX4_joinProducts_48 : decode cX4_joinProducts 48 = .ok (.ireturn, 1) := by decide +kernel
theorem dX4_joinProducts_49 : decode cX4_joinProducts 49 = .ok (.iinc 2 1, 3) := by decide +kernel
theorem dX4_joinProducts_52 : decode cX4_joinProducts 52 = .ok (.goto (-38), 3) := by decide +kernel
theorem dX4_joinProducts_55 : decode cX4_joinProducts 55 = .ok (.iinc 1 1, 3) := by decide +kernel
theorem dX4_joinProducts_58 : decode cX4_joinProducts 58 = .ok (.goto (-56), 3) := by decide +kernel
theorem dX4_joinProducts_61 : decode cX4_joinProducts 61 = .ok (.iconst 0, 1) := by decide +kernel
theorem dX4_joinProducts_62 : decode cX4_joinProducts 62 = .ok (.ireturn, 1) := by decide +kernel
abbrev rmX4_joinProducts : Room := { frames := 4, cells := 0, slots := 0, locals := 97 }
theorem zyX4_joinProducts : zyOK yX4_joinProducts 0 := ⟨by decide +kernel, by decide +kernel, by decide +kernel⟩
set_option maxHeartbeats 4000000 in
set_option maxRecDepth 100000 in
theorem wX4_joinProducts {G : ZG} (a0 : Nat) (S : ZS) (h0 : zFix G cX4_joinProducts RX4 4 (some .boolean) rmX4_joinProducts) (C : Option (Int32 × ZS) → Prop) (hC : ¬ C none) (hE : ∀ (v : Int32) (S1 : ZS), C (some (v, S1)) → zEnd G (some (.int v)) S1 rmX4_joinProducts) : zV G 4 S 0 0 0 [(0, .ref a0)] [] (C (fX4_joinProducts a0 S)) := by
  unfold fX4_joinProducts
  refine zr_iconst (0 : Int32) h0 (by decide) dX4_joinProducts_0 (n := 1) rfl ?_
  refine zr_istore_n [(0, .ref a0), (1, .int (0 : Int32))] h0 dX4_joinProducts_1 (by decide) rfl (n := 2) rfl ?_
  refine zr_loop hC (fX4_joinProducts_B2 a0 S) (fun y => [(0, .ref a0), (1, .int y)]) (fun y => S) zF (0 : Int32) (fun C2 hC2 hX2 hL2 t2 => ?_)
  unfold fX4_joinProducts_B2
  refine zr_iload_n h0 dX4_joinProducts_2 rfl (n := 3) rfl ?_
  refine zr_aload_n h0 dX4_joinProducts_3 rfl (n := 4) rfl ?_
  refine zr_getI C2 hC2 h0 zcX4 (k := 3) (by decide) zw_412 dX4_joinProducts_4 (n := 7) rfl (fun v10 => ?_)
  refine zr_icmp_ge C2 (tgt := 61) h0 dX4_joinProducts_7 (by decide) (n := 10) rfl ?_ ?_
  · refine zr_ex hX2 ?_
    refine zv_sub (lv' := []) ?_ (zsub_of [] rfl)
    refine zr_iconst (0 : Int32) h0 (by decide) dX4_joinProducts_61 (n := 62) rfl ?_
    exact zr_zret0 h0 rfl rfl dX4_joinProducts_62 (hE _ _) (by decide) (by decide)
  · refine zr_iload_n h0 dX4_joinProducts_10 rfl (n := 11) rfl ?_
    refine zr_iconst (1 : Int32) h0 (by decide) dX4_joinProducts_11 (n := 12) rfl ?_
    refine zr_iadd h0 dX4_joinProducts_12 (n := 13) rfl ?_
    refine zr_istore_n [(0, .ref a0), (1, .int t2), (2, .int (t2 + (1 : Int32)))] h0 dX4_joinProducts_13 (by decide) rfl (n := 14) rfl ?_
    refine zr_loop hC2 (fX4_joinProducts_B14 a0 t2 S) (fun y => [(0, .ref a0), (1, .int t2), (2, .int y)]) (fun y => S) zF (t2 + (1 : Int32)) (fun C14 hC14 hX14 hL14 t14 => ?_)
    unfold fX4_joinProducts_B14
    refine zr_iload_n h0 dX4_joinProducts_14 rfl (n := 15) rfl ?_
    refine zr_aload_n h0 dX4_joinProducts_15 rfl (n := 16) rfl ?_
    refine zr_getI C14 hC14 h0 zcX4 (k := 3) (by decide) zw_412 dX4_joinProducts_16 (n := 19) rfl (fun v11 => ?_)
    refine zr_icmp_ge C14 (tgt := 55) h0 dX4_joinProducts_19 (by decide) (n := 22) rfl ?_ ?_
    · refine zr_ex hX14 ?_
      refine zv_sub (lv' := [(0, .ref a0), (1, .int t2)]) ?_ (zsub_of [0, 1] rfl)
      refine zr_iinc (1 : Int32) [(0, .ref a0), (1, .int (t2 + (1 : Int32)))] h0 dX4_joinProducts_55 rfl (by decide) rfl rfl (n := 58) rfl ?_
      refine zr_goto (tgt := 2) h0 dX4_joinProducts_58 (by decide) ?_
      exact hL2 (t2 + (1 : Int32))
    · refine zr_aload_n h0 dX4_joinProducts_22 rfl (n := 23) rfl ?_
      refine zr_iload_n h0 dX4_joinProducts_23 rfl (n := 24) rfl ?_
      refine zr_iload_n h0 dX4_joinProducts_24 rfl (n := 25) rfl ?_
      refine zr_cRI C14 hC14 0 0 (fun x hx => zk_V h0 zcX4 (zcl_ex hx) (fun l D z0 => kX4_sideToJoin l D z0 a0 t2 t14 S x (zcl_of hx)) zw_539 zw_541 zs_11 zw_12 zw_542 rfl zyX4_sideToJoin (As := [.int t2, .int t14]) (st := []) rfl (by decide) rfl (Nat.le_of_ble_eq_true rfl) (by decide) dX4_joinProducts_25) rfl rfl (n := 28) rfl (fun x12 => ?_)
      refine zr_istore_n [(0, .ref a0), (1, .int t2), (2, .int t14), (3, .int x12)] h0 dX4_joinProducts_28 (by decide) rfl (n := 29) rfl ?_
      refine zr_iload_n h0 dX4_joinProducts_29 rfl (n := 30) rfl ?_
      refine zr_iconst (-1 : Int32) h0 (by decide) dX4_joinProducts_30 (n := 31) rfl ?_
      refine zr_icmp_eq C14 (tgt := 49) h0 dX4_joinProducts_31 (by decide) (n := 34) rfl ?_ ?_
      · refine zv_sub (lv' := [(0, .ref a0), (1, .int t2), (2, .int t14)]) ?_ (zsub_of [0, 1, 2] rfl)
        refine zr_iinc (1 : Int32) [(0, .ref a0), (1, .int t2), (2, .int (t14 + (1 : Int32)))] h0 dX4_joinProducts_49 rfl (by decide) rfl rfl (n := 52) rfl ?_
        refine zr_goto (tgt := 14) h0 dX4_joinProducts_52 (by decide) ?_
        exact hL14 (t14 + (1 : Int32))
      · refine zr_ex hX14 ?_
        refine zr_ex hX2 ?_
        refine zr_aload_n h0 dX4_joinProducts_34 rfl (n := 35) rfl ?_
        refine zr_iload_n h0 dX4_joinProducts_35 rfl (n := 36) rfl ?_
        refine zr_iload_n h0 dX4_joinProducts_36 rfl (n := 37) rfl ?_
        refine zr_iload_n h0 dX4_joinProducts_37 rfl (n := 38) rfl ?_
        refine zr_iconst (1 : Int32) h0 (by decide) dX4_joinProducts_38 (n := 39) rfl ?_
        refine zr_cMV C hC 0 0 (fun x hx => zk_V h0 zcX4 (zcl_ex hx) (fun l D z0 => kX4_addVector l D z0 a0 t2 t14 x12 (1 : Int32) S x (zcl_of hx)) zw_497 zw_499 zs_5 zw_12 zw_500 rfl zyX4_addVector (As := [.int t2, .int t14, .int x12, .int (1 : Int32)]) (st := []) rfl (by decide) rfl (Nat.le_of_ble_eq_true rfl) (by decide) dX4_joinProducts_39) rfl rfl (n := 42) rfl (fun x13 => ?_)
        refine zr_aload_n h0 dX4_joinProducts_42 rfl (n := 43) rfl ?_
        refine zr_iload_n h0 dX4_joinProducts_43 rfl (n := 44) rfl ?_
        refine zr_cMV C hC 0 0 (fun x hx => zk_V h0 zcX4 (zcl_ex hx) (fun l D z0 => kX4_takeOut l D z0 a0 t14 x13 x (zcl_of hx)) zw_531 zw_533 zs_9 zw_12 zw_534 rfl zyX4_takeOut (As := [.int t14]) (st := []) rfl (by decide) rfl (Nat.le_of_ble_eq_true rfl) (by decide) dX4_joinProducts_44) rfl rfl (n := 47) rfl (fun x14 => ?_)
        refine zr_iconst (1 : Int32) h0 (by decide) dX4_joinProducts_47 (n := 48) rfl ?_
        exact zr_zret0 h0 rfl rfl dX4_joinProducts_48 (hE _ _) (by decide) (by decide)
theorem kX4_joinProducts (l : Launch) (D : ZD) (z0 : Nat) (a0 : Nat) (S : ZS) (x : Int32 × ZS) (hf : fX4_joinProducts a0 S = some x) : zMet l D z0 yX4_joinProducts cX4_joinProducts 4 (some .boolean) rmX4_joinProducts [.ref a0] S (some (.int x.1)) x.2 :=
  zMet_of (by decide) (Nat.le_of_ble_eq_true rfl) (fun G h0 hini hE => wX4_joinProducts a0 S h0 (fun o => o = some x) (fun h => nomatch h) (fun v S1 h => by cases h; exact hE)) hf
theorem dX4_shrink_0 : decode cX4_shrink 0 = .ok (.aload_n 0, 1) := by decide +kernel
theorem dX4_shrink_1 : decode cX4_shrink 1 = .ok (.getfield 23, 3) := by decide +kernel
theorem dX4_shrink_4 : decode cX4_shrink 4 = .ok (.istore_n 1, 1) := by decide +kernel
theorem dX4_shrink_5 : decode cX4_shrink 5 = .ok (.iconst 0, 1) := by decide +kernel
theorem dX4_shrink_6 : decode cX4_shrink 6 = .ok (.istore_n 2, 1) := by decide +kernel
theorem dX4_shrink_7 : decode cX4_shrink 7 = .ok (.iload_n 2, 1) := by decide +kernel
theorem dX4_shrink_8 : decode cX4_shrink 8 = .ok (.iload_n 1, 1) := by decide +kernel
theorem dX4_shrink_9 : decode cX4_shrink 9 = .ok (.if_icmp .ge 26, 3) := by decide +kernel
theorem dX4_shrink_12 : decode cX4_shrink 12 = .ok (.aload_n 0, 1) := by decide +kernel
theorem dX4_shrink_13 : decode cX4_shrink 13 = .ok (.invokevirtual 82, 3) := by decide +kernel
theorem dX4_shrink_16 : decode cX4_shrink 16 = .ok (.ifCond .ne 13, 3) := by decide +kernel
theorem dX4_shrink_19 : decode cX4_shrink 19 = .ok (.aload_n 0, 1) := by decide +kernel
theorem dX4_shrink_20 : decode cX4_shrink 20 = .ok (.invokevirtual 86, 3) := by decide +kernel
theorem dX4_shrink_23 : decode cX4_shrink 23 = .ok (.ifCond .ne 6, 3) := by decide +kernel
theorem dX4_shrink_26 : decode cX4_shrink 26 = .ok (.goto 9, 3) := by decide +kernel
theorem dX4_shrink_29 : decode cX4_shrink 29 = .ok (.iinc 2 1, 3) := by decide +kernel
theorem dX4_shrink_32 : decode cX4_shrink 32 = .ok (.goto (-25), 3) := by decide +kernel
theorem dX4_shrink_35 : decode cX4_shrink 35 = .ok (.iload_n 1, 1) := by decide +kernel
theorem dX4_shrink_36 : decode cX4_shrink 36 = .ok (.aload_n 0, 1) := by decide +kernel
theorem dX4_shrink_37 : decode cX4_shrink 37 = .ok (.getfield 23, 3) := by decide +kernel
theorem dX4_shrink_40 : decode cX4_shrink 40 = .ok (.isub, 1) := by decide +kernel
theorem dX4_shrink_41 : decode cX4_shrink 41 = .ok (.ireturn, 1) := by decide +kernel
abbrev rmX4_shrink : Room := { frames := 5, cells := 0, slots := 0, locals := 120 }
theorem zyX4_shrink : zyOK yX4_shrink 0 := ⟨by decide +kernel, by decide +kernel, by decide +kernel⟩
set_option maxHeartbeats 4000000 in
set_option maxRecDepth 100000 in
theorem wX4_shrink {G : ZG} (a0 : Nat) (S : ZS) (h0 : zFix G cX4_shrink RX4 3 (some .int) rmX4_shrink) (C : Option (Int32 × ZS) → Prop) (hC : ¬ C none) (hE : ∀ (v : Int32) (S1 : ZS), C (some (v, S1)) → zEnd G (some (.int v)) S1 rmX4_shrink) : zV G 3 S 0 0 0 [(0, .ref a0)] [] (C (fX4_shrink a0 S)) := by
  have J35 : ∀ (l0_35 : Nat) (l1_35 : Int32) (S_35 : ZS), zV G 3 S_35 0 0 35 [(0, .ref l0_35), (1, .int l1_35)] [] (C (fX4_shrink_J35 l0_35 l1_35 S_35)) := by
    intro l0_35 l1_35 S_35
    unfold fX4_shrink_J35
    refine zr_iload_n h0 dX4_shrink_35 rfl (n := 36) rfl ?_
    refine zr_aload_n h0 dX4_shrink_36 rfl (n := 37) rfl ?_
    refine zr_getI C hC h0 zcX4 (k := 3) (by decide) zw_412 dX4_shrink_37 (n := 40) rfl (fun v7 => ?_)
    refine zr_isub h0 dX4_shrink_40 (n := 41) rfl ?_
    exact zr_iret h0 rfl dX4_shrink_41 (hE _ _) (by decide) (by decide)
  unfold fX4_shrink
  refine zr_aload_n h0 dX4_shrink_0 rfl (n := 1) rfl ?_
  refine zr_getI C hC h0 zcX4 (k := 3) (by decide) zw_412 dX4_shrink_1 (n := 4) rfl (fun v1 => ?_)
  refine zr_istore_n [(0, .ref a0), (1, .int v1)] h0 dX4_shrink_4 (by decide) rfl (n := 5) rfl ?_
  refine zr_iconst (0 : Int32) h0 (by decide) dX4_shrink_5 (n := 6) rfl ?_
  refine zr_istore_n [(0, .ref a0), (1, .int v1), (2, .int (0 : Int32))] h0 dX4_shrink_6 (by decide) rfl (n := 7) rfl ?_
  refine zr_loop hC (fX4_shrink_B7 a0 v1) (fun y => [(0, .ref a0), (1, .int v1), (2, .int y.1)]) (fun y => y.2) zF ((0 : Int32), S) (fun C7 hC7 hX7 hL7 t7 => ?_)
  have J29 : ∀ (l2_29 : Int32) (S_29 : ZS), zV G 3 S_29 0 0 29 [(0, .ref a0), (1, .int v1), (2, .int l2_29)] [] (C7 (fX4_shrink_J29 a0 v1 l2_29 S_29)) := by
    intro l2_29 S_29
    unfold fX4_shrink_J29
    refine zr_iinc (1 : Int32) [(0, .ref a0), (1, .int v1), (2, .int (l2_29 + (1 : Int32)))] h0 dX4_shrink_29 rfl (by decide) rfl rfl (n := 32) rfl ?_
    refine zr_goto (tgt := 7) h0 dX4_shrink_32 (by decide) ?_
    exact hL7 (l2_29 + (1 : Int32), S_29)
  unfold fX4_shrink_B7
  refine zr_iload_n h0 dX4_shrink_7 rfl (n := 8) rfl ?_
  refine zr_iload_n h0 dX4_shrink_8 rfl (n := 9) rfl ?_
  refine zr_icmp_ge C7 (tgt := 35) h0 dX4_shrink_9 (by decide) (n := 12) rfl ?_ ?_
  · refine zr_ex hX7 ?_
    refine zv_sub (lv' := [(0, .ref a0), (1, .int v1)]) ?_ (zsub_of [0, 1] rfl)
    exact J35 a0 v1 t7.2
  · refine zr_aload_n h0 dX4_shrink_12 rfl (n := 13) rfl ?_
    refine zr_cMI C7 hC7 0 0 (fun x hx => zk_V h0 zcX4 (zcl_ex hx) (fun l D z0 => kX4_takeOutZeros l D z0 a0 t7.2 x (zcl_of hx)) zw_523 zw_525 zs_7 zw_12 zw_526 rfl zyX4_takeOutZeros (As := []) (st := []) rfl (by decide) rfl (Nat.le_of_ble_eq_true rfl) (by decide) dX4_shrink_13) rfl rfl (n := 16) rfl (fun x5 => ?_)
    refine zr_if_ne C7 (tgt := 29) h0 dX4_shrink_16 (by decide) (n := 19) rfl ?_ ?_
    · refine zr_aload_n h0 dX4_shrink_19 rfl (n := 20) rfl ?_
      refine zr_cMI C7 hC7 0 0 (fun x hx => zk_V h0 zcX4 (zcl_ex hx) (fun l D z0 => kX4_joinProducts l D z0 a0 x5.2 x (zcl_of hx)) zw_535 zw_537 zs_10 zw_12 zw_538 rfl zyX4_joinProducts (As := []) (st := []) rfl (by decide) rfl (Nat.le_of_ble_eq_true rfl) (by decide) dX4_shrink_20) rfl rfl (n := 23) rfl (fun x6 => ?_)
      refine zr_if_ne C7 (tgt := 29) h0 dX4_shrink_23 (by decide) (n := 26) rfl ?_ ?_
      · refine zr_ex hX7 ?_
        refine zv_sub (lv' := [(0, .ref a0), (1, .int v1)]) ?_ (zsub_of [0, 1] rfl)
        refine zr_goto (tgt := 35) h0 dX4_shrink_26 (by decide) ?_
        exact J35 a0 v1 x6.2
      · exact J29 t7.1 x6.2
    · exact J29 t7.1 x5.2
theorem kX4_shrink (l : Launch) (D : ZD) (z0 : Nat) (a0 : Nat) (S : ZS) (x : Int32 × ZS) (hf : fX4_shrink a0 S = some x) : zMet l D z0 yX4_shrink cX4_shrink 3 (some .int) rmX4_shrink [.ref a0] S (some (.int x.1)) x.2 :=
  zMet_of (by decide) (Nat.le_of_ble_eq_true rfl) (fun G h0 hini hE => wX4_shrink a0 S h0 (fun o => o = some x) (fun h => nomatch h) (fun v S1 h => by cases h; exact hE)) hf
theorem dX5_reduce_0 : decode cX5_reduce 0 = .ok (.aload_n 0, 1) := by decide +kernel
theorem dX5_reduce_1 : decode cX5_reduce 1 = .ok (.iload_n 1, 1) := by decide +kernel
theorem dX5_reduce_2 : decode cX5_reduce 2 = .ok (.invokevirtual 148, 3) := by decide +kernel
theorem dX5_reduce_5 : decode cX5_reduce 5 = .ok (.invokevirtual 188, 3) := by decide +kernel
theorem dX5_reduce_8 : decode cX5_reduce 8 = .ok (.ireturn, 1) := by decide +kernel
abbrev rmX5_reduce : Room := { frames := 7, cells := 1, slots := 6, locals := 142 }
theorem zyX5_reduce : zyOK yX5_reduce 1 := ⟨by decide +kernel, by decide +kernel, by decide +kernel⟩
set_option maxHeartbeats 4000000 in
set_option maxRecDepth 100000 in
theorem wX5_reduce {G : ZG} (a0 : Nat) (a1 : Int32) (S : ZS) (h0 : zFix G cX5_reduce RX5 2 (some .int) rmX5_reduce) (C : Option ((Int32 × ZS) ⊕ ZX) → Prop) (hC : ¬ C none) (hnt : zNoTab G) (hE : ∀ (v : Int32) (S1 : ZS), C (some (.inl (v, S1))) → zEndT G (some (.int v)) S1 rmX5_reduce) (hEx : ∀ (E : String) (h : ZH), C (some (.inr (E, h))) → zEndX G E h rmX5_reduce) : zV G 2 S 0 0 0 [(0, .ref a0), (1, .int a1)] [] (C (fX5_reduce a0 a1 S)) := by
  unfold fX5_reduce
  refine zr_aload_n h0 dX5_reduce_0 rfl (n := 1) rfl ?_
  refine zr_iload_n h0 dX5_reduce_1 rfl (n := 2) rfl ?_
  refine zr_cTR C hC 1 6 h0 (fun x hx => zk_VT h0 zcX5 (zcl_ex hx) (fun l D z0 hlt => kX5_needWay l D z0 hlt a0 a1 S x (zcl_of hx)) hnt zw_430 zw_432 zs_3 zw_1 zw_433 rfl zyX5_needWay (As := [.int a1]) (st := []) rfl (by decide) rfl (Nat.le_of_ble_eq_true rfl) (by decide) dX5_reduce_2) hnt rfl rfl (by decide) (by decide) (n := 5) rfl (fun z h => hEx _ _ h) (fun x1 => ?_)
  refine zr_cMI C hC 1 6 (fun x hx => zk_V h0 zcX4 (zcl_ex hx) (fun l D z0 => kX4_shrink l D z0 x1.1 x1.2 x (zcl_of hx)) zw_519 zw_520 zw_521 zw_12 zw_522 rfl zyX4_shrink (As := []) (st := []) rfl (by decide) rfl (Nat.le_of_ble_eq_true rfl) (by decide) dX5_reduce_5) rfl rfl (n := 8) rfl (fun x2 => ?_)
  exact zr_iretT h0 rfl dX5_reduce_8 (hE _ _) (by decide) (by decide)
theorem kX5_reduce (l : Launch) (D : ZD) (z0 : Nat) (hlt : l.stackTraces = false) (a0 : Nat) (a1 : Int32) (S : ZS) (x : ((Int32 × ZS) ⊕ ZX)) (hf : fX5_reduce a0 a1 S = some x) : zMetT l D z0 yX5_reduce cX5_reduce 2 (some .int) rmX5_reduce [.ref a0, .int a1] S (x.map (fun y => ((some (.int y.1)), y.2)) id) :=
  zMetT_of hlt (by decide) (Nat.le_of_ble_eq_true rfl) (fun G h0 hnt hE hEx => wX5_reduce a0 a1 S h0 (fun o => o = some x) (fun h => nomatch h) hnt (fun v S1 h => by cases h; exact hE _ _ rfl) (fun E h hh => by cases hh; exact hEx _ _ rfl)) hf
theorem dX4_draw_0 : decode cX4_draw 0 = .ok (.iload_n 0, 1) := by decide +kernel
theorem dX4_draw_1 : decode cX4_draw 1 = .ok (.sipush 25173, 3) := by decide +kernel
theorem dX4_draw_4 : decode cX4_draw 4 = .ok (.imul, 1) := by decide +kernel
theorem dX4_draw_5 : decode cX4_draw 5 = .ok (.sipush 13849, 3) := by decide +kernel
theorem dX4_draw_8 : decode cX4_draw 8 = .ok (.iadd, 1) := by decide +kernel
theorem dX4_draw_9 : decode cX4_draw 9 = .ok (.ldc 120, 2) := by decide +kernel
theorem dX4_draw_11 : decode cX4_draw 11 = .ok (.invokestatic 103, 3) := by decide +kernel
theorem dX4_draw_14 : decode cX4_draw 14 = .ok (.ireturn, 1) := by decide +kernel
abbrev rmX4_draw : Room := { frames := 2, cells := 0, slots := 0, locals := 41 }
theorem zyX4_draw : zyOK yX4_draw 1 := ⟨by decide +kernel, by decide +kernel, by decide +kernel⟩
set_option maxHeartbeats 4000000 in
set_option maxRecDepth 100000 in
theorem wX4_draw {G : ZG} (a0 : Int32) (S : ZS) (h0 : zFix G cX4_draw RX4 1 (some .int) rmX4_draw) (C : Option Int32 → Prop) (hC : ¬ C none) (hE : ∀ v : Int32, C (some v) → zEnd G (some (.int v)) S rmX4_draw) : zV G 1 S 0 0 0 [(0, .int a0)] [] (C (fX4_draw a0)) := by
  unfold fX4_draw
  refine zr_iload_n h0 dX4_draw_0 rfl (n := 1) rfl ?_
  refine zr_sipush (25173 : Int32) h0 (by decide) dX4_draw_1 (n := 4) rfl ?_
  refine zr_imul h0 dX4_draw_4 (n := 5) rfl ?_
  refine zr_sipush (13849 : Int32) h0 (by decide) dX4_draw_5 (n := 8) rfl ?_
  refine zr_iadd h0 dX4_draw_8 (n := 9) rfl ?_
  refine zr_ldc h0 zw_561 dX4_draw_9 (n := 11) rfl ?_
  refine zr_cRI C hC 0 0 (fun x hx => zk_SN (host := "Bilinearium") h0 (fun l D z0 => kX5_remainder l D z0 ((a0 * (25173 : Int32)) + (13849 : Int32)) (65536 : Int32) S x hx) (by decide +kernel) zw_286 zw_1 zw_287 zyX5_remainder (As := [.int ((a0 * (25173 : Int32)) + (13849 : Int32)), .int (65536 : Int32)]) (st := []) rfl (by decide) rfl (Nat.le_of_ble_eq_true rfl) (by decide) dX4_draw_11) rfl rfl (n := 14) rfl (fun x1 => ?_)
  exact zr_iret h0 rfl dX4_draw_14 (hE _) (by decide) (by decide)
theorem kX4_draw (l : Launch) (D : ZD) (z0 : Nat) (a0 : Int32) (S : ZS) (x : Int32) (hf : fX4_draw a0 = some x) : zMet l D z0 yX4_draw cX4_draw 1 (some .int) rmX4_draw [.int a0] S (some (.int x)) S :=
  zMet_of (by decide) (Nat.le_of_ble_eq_true rfl) (fun G h0 hini hE => wX4_draw a0 S h0 (fun o => o = some x) (fun h => nomatch h) (fun v h => by cases h; exact hE)) hf
theorem dX4_isReducible_0 : decode cX4_isReducible 0 = .ok (.aload_n 0, 1) := by decide +kernel
theorem dX4_isReducible_1 : decode cX4_isReducible 1 = .ok (.iload_n 1, 1) := by decide +kernel
theorem dX4_isReducible_2 : decode cX4_isReducible 2 = .ok (.invokevirtual 89, 3) := by decide +kernel
theorem dX4_isReducible_5 : decode cX4_isReducible 5 = .ok (.ifCond .eq 5, 3) := by decide +kernel
theorem dX4_isReducible_8 : decode cX4_isReducible 8 = .ok (.iconst 1, 1) := by decide +kernel
theorem dX4_isReducible_9 : decode cX4_isReducible 9 = .ok (.ireturn, 1) := by decide +kernel
theorem dX4_isReducible_10 : decode cX4_isReducible 10 = .ok (.iconst 0, 1) := by decide +kernel
theorem dX4_isReducible_11 : decode cX4_isReducible 11 = .ok (.istore_n 2, 1) := by decide +kernel
theorem dX4_isReducible_12 : decode cX4_isReducible 12 = .ok (.iload_n 2, 1) := by decide +kernel
theorem dX4_isReducible_13 : decode cX4_isReducible 13 = .ok (.aload_n 0, 1) := by decide +kernel
theorem dX4_isReducible_14 : decode cX4_isReducible 14 = .ok (.getfield 23, 3) := by decide +kernel
theorem dX4_isReducible_17 : decode cX4_isReducible 17 = .ok (.if_icmp .ge 26, 3) := by decide +kernel
theorem dX4_isReducible_20 : decode cX4_isReducible 20 = .ok (.iload_n 2, 1) := by decide +kernel
theorem dX4_isReducible_21 : decode cX4_isReducible 21 = .ok (.iload_n 1, 1) := by decide +kernel
theorem dX4_isReducible_22 : decode cX4_isReducible 22 = .ok (.if_icmp .eq 15, 3) := by decide +kernel
theorem dX4_isReducible_25 : decode cX4_isReducible 25 = .ok (.aload_n 0, 1) := by decide +kernel
theorem dX4_isReducible_26 : decode cX4_isReducible 26 = .ok (.iload_n 1, 1) := by decide +kernel
theorem dX4_isReducible_27 : decode cX4_isReducible 27 = .ok (.iload_n 2, 1) := by decide +kernel
theorem dX4_isReducible_28 : decode cX4_isReducible 28 = .ok (.invokevirtual 97, 3) := by decide +kernel
theorem dX4_isReducible_31 : decode cX4_isReducible 31 = .ok (.iconst (-1), 1) := by decide +kernel
theorem dX4_isReducible_32 : decode cX4_isReducible 32 = .ok (.if_icmp .eq 5, 3) := by decide +kernel
theorem dX4_isReducible_35 : decode cX4_isReducible 35 = .ok (.iconst 1, 1) := by decide +kernel
theorem dX4_isReducible_36 : decode cX4_isReducible 36 = .ok (.ireturn, 1) := by decide +kernel
theorem dX4_isReducible_37 : decode cX4_isReducible 37 = .ok (.iinc 2 1, 3) := by decide +kernel
theorem dX4_isReducible_40 : decode cX4_isReducible 40 = .ok (.goto (-28), 3) := by decide +kernel
theorem dX4_isReducible_43 : decode cX4_isReducible 43 = .ok (.iconst 0, 1) := by decide +kernel
theorem dX4_isReducible_44 : decode cX4_isReducible 44 = .ok (.ireturn, 1) := by decide +kernel
abbrev rmX4_isReducible : Room := { frames := 4, cells := 0, slots := 0, locals := 84 }
theorem zyX4_isReducible : zyOK yX4_isReducible 1 := ⟨by decide +kernel, by decide +kernel, by decide +kernel⟩
set_option maxHeartbeats 4000000 in
set_option maxRecDepth 100000 in
theorem wX4_isReducible {G : ZG} (a0 : Nat) (a1 : Int32) (S : ZS) (h0 : zFix G cX4_isReducible RX4 3 (some .boolean) rmX4_isReducible) (C : Option Int32 → Prop) (hC : ¬ C none) (hE : ∀ v : Int32, C (some v) → zEnd G (some (.int v)) S rmX4_isReducible) : zV G 3 S 0 0 0 [(0, .ref a0), (1, .int a1)] [] (C (fX4_isReducible a0 a1 S)) := by
  unfold fX4_isReducible
  refine zr_aload_n h0 dX4_isReducible_0 rfl (n := 1) rfl ?_
  refine zr_iload_n h0 dX4_isReducible_1 rfl (n := 2) rfl ?_
  refine zr_cRI C hC 0 0 (fun x hx => zk_V h0 zcX4 (zcl_ex hx) (fun l D z0 => kX4_hasZeros l D z0 a0 a1 S x (zcl_of hx)) zw_527 zw_529 zs_8 zw_12 zw_530 rfl zyX4_hasZeros (As := [.int a1]) (st := []) rfl (by decide) rfl (Nat.le_of_ble_eq_true rfl) (by decide) dX4_isReducible_2) rfl rfl (n := 5) rfl (fun x1 => ?_)
  refine zr_if_eq C (tgt := 10) h0 dX4_isReducible_5 (by decide) (n := 8) rfl ?_ ?_
  · refine zr_iconst (0 : Int32) h0 (by decide) dX4_isReducible_10 (n := 11) rfl ?_
    refine zr_istore_n [(0, .ref a0), (1, .int a1), (2, .int (0 : Int32))] h0 dX4_isReducible_11 (by decide) rfl (n := 12) rfl ?_
    refine zr_loop hC (fX4_isReducible_B12 a0 a1 S) (fun y => [(0, .ref a0), (1, .int a1), (2, .int y)]) (fun y => S) zF (0 : Int32) (fun C12 hC12 hX12 hL12 t12 => ?_)
    have J37 : ∀ (l2_37 : Int32), zV G 3 S 0 0 37 [(0, .ref a0), (1, .int a1), (2, .int l2_37)] [] (C12 (fX4_isReducible_J37 a0 a1 l2_37 S)) := by
      intro l2_37
      unfold fX4_isReducible_J37
      refine zr_iinc (1 : Int32) [(0, .ref a0), (1, .int a1), (2, .int (l2_37 + (1 : Int32)))] h0 dX4_isReducible_37 rfl (by decide) rfl rfl (n := 40) rfl ?_
      refine zr_goto (tgt := 12) h0 dX4_isReducible_40 (by decide) ?_
      exact hL12 (l2_37 + (1 : Int32))
    unfold fX4_isReducible_B12
    refine zr_iload_n h0 dX4_isReducible_12 rfl (n := 13) rfl ?_
    refine zr_aload_n h0 dX4_isReducible_13 rfl (n := 14) rfl ?_
    refine zr_getI C12 hC12 h0 zcX4 (k := 3) (by decide) zw_412 dX4_isReducible_14 (n := 17) rfl (fun v4 => ?_)
    refine zr_icmp_ge C12 (tgt := 43) h0 dX4_isReducible_17 (by decide) (n := 20) rfl ?_ ?_
    · refine zr_ex hX12 ?_
      refine zv_sub (lv' := []) ?_ (zsub_of [] rfl)
      refine zr_iconst (0 : Int32) h0 (by decide) dX4_isReducible_43 (n := 44) rfl ?_
      exact zr_zret0 h0 rfl rfl dX4_isReducible_44 (hE _) (by decide) (by decide)
    · refine zr_iload_n h0 dX4_isReducible_20 rfl (n := 21) rfl ?_
      refine zr_iload_n h0 dX4_isReducible_21 rfl (n := 22) rfl ?_
      refine zr_icmp_eq C12 (tgt := 37) h0 dX4_isReducible_22 (by decide) (n := 25) rfl ?_ ?_
      · exact J37 t12
      · refine zr_aload_n h0 dX4_isReducible_25 rfl (n := 26) rfl ?_
        refine zr_iload_n h0 dX4_isReducible_26 rfl (n := 27) rfl ?_
        refine zr_iload_n h0 dX4_isReducible_27 rfl (n := 28) rfl ?_
        refine zr_cRI C12 hC12 0 0 (fun x hx => zk_V h0 zcX4 (zcl_ex hx) (fun l D z0 => kX4_sideToJoin l D z0 a0 a1 t12 S x (zcl_of hx)) zw_539 zw_541 zs_11 zw_12 zw_542 rfl zyX4_sideToJoin (As := [.int a1, .int t12]) (st := []) rfl (by decide) rfl (Nat.le_of_ble_eq_true rfl) (by decide) dX4_isReducible_28) rfl rfl (n := 31) rfl (fun x5 => ?_)
        refine zr_iconst (-1 : Int32) h0 (by decide) dX4_isReducible_31 (n := 32) rfl ?_
        refine zr_icmp_eq C12 (tgt := 37) h0 dX4_isReducible_32 (by decide) (n := 35) rfl ?_ ?_
        · exact J37 t12
        · refine zr_ex hX12 ?_
          refine zv_sub (lv' := []) ?_ (zsub_of [] rfl)
          refine zr_iconst (1 : Int32) h0 (by decide) dX4_isReducible_35 (n := 36) rfl ?_
          exact zr_zret0 h0 rfl rfl dX4_isReducible_36 (hE _) (by decide) (by decide)
  · refine zv_sub (lv' := []) ?_ (zsub_of [] rfl)
    refine zr_iconst (1 : Int32) h0 (by decide) dX4_isReducible_8 (n := 9) rfl ?_
    exact zr_zret0 h0 rfl rfl dX4_isReducible_9 (hE _) (by decide) (by decide)
theorem kX4_isReducible (l : Launch) (D : ZD) (z0 : Nat) (a0 : Nat) (a1 : Int32) (S : ZS) (x : Int32) (hf : fX4_isReducible a0 a1 S = some x) : zMet l D z0 yX4_isReducible cX4_isReducible 3 (some .boolean) rmX4_isReducible [.ref a0, .int a1] S (some (.int x)) S :=
  zMet_of (by decide) (Nat.le_of_ble_eq_true rfl) (fun G h0 hini hE => wX4_isReducible a0 a1 S h0 (fun o => o = some x) (fun h => nomatch h) (fun v h => by cases h; exact hE)) hf
theorem dX4_wander_0 : decode cX4_wander 0 = .ok (.iload_n 1, 1) := by decide +kernel
theorem dX4_wander_1 : decode cX4_wander 1 = .ok (.istore_n 3, 1) := by decide +kernel
theorem dX4_wander_2 : decode cX4_wander 2 = .ok (.iconst 0, 1) := by decide +kernel
theorem dX4_wander_3 : decode cX4_wander 3 = .ok (.istore 4, 2) := by decide +kernel
theorem dX4_wander_5 : decode cX4_wander 5 = .ok (.iconst 0, 1) := by decide +kernel
theorem dX4_wander_6 : decode cX4_wander 6 = .ok (.istore 5, 2) := by decide +kernel
theorem dX4_wander_8 : decode cX4_wander 8 = .ok (.iload 5, 2) := by decide +kernel
theorem dX4_wander_10 : decode cX4_wander 10 = .ok (.iload_n 2, 1) := by decide +kernel
theorem dX4_wander_11 : decode cX4_wander 11 = .ok (.if_icmp .ge 131, 3) := by decide +kernel
theorem dX4_wander_14 : decode cX4_wander 14 = .ok (.aload_n 0, 1) := by decide +kernel
theorem dX4_wander_15 : decode cX4_wander 15 = .ok (.getfield 23, 3) := by decide +kernel
theorem dX4_wander_18 : decode cX4_wander 18 = .ok (.ifCond .le 124, 3) := by decide +kernel
theorem dX4_wander_21 : decode cX4_wander 21 = .ok (.iload_n 3, 1) := by decide +kernel
theorem dX4_wander_22 : decode cX4_wander 22 = .ok (.invokestatic 100, 3) := by decide +kernel
theorem dX4_wander_25 : decode cX4_wander 25 = .ok (.istore_n 3, 1) := by decide +kernel
theorem dX4_wander_26 : decode cX4_wander 26 = .ok (.iload_n 3, 1) := by decide +kernel
theorem dX4_wander_27 : decode cX4_wander 27 = .ok (.aload_n 0, 1) := by decide +kernel
theorem dX4_wander_28 : decode cX4_wander 28 = .ok (.getfield 23, 3) := by decide +kernel
theorem dX4_wander_31 : decode cX4_wander 31 = .ok (.invokestatic 103, 3) := by decide +kernel
theorem dX4_wander_34 : decode cX4_wander 34 = .ok (.istore 6, 2) := by decide +kernel
theorem dX4_wander_36 : decode cX4_wander 36 = .ok (.iload_n 3, 1) := by decide +kernel
theorem dX4_wander_37 : decode cX4_wander 37 = .ok (.invokestatic 100, 3) := by decide +kernel
theorem dX4_wander_40 : decode cX4_wander 40 = .ok (.istore_n 3, 1) := by decide +kernel
theorem dX4_wander_41 : decode cX4_wander 41 = .ok (.iload_n 3, 1) := by decide +kernel
theorem dX4_wander_42 : decode cX4_wander 42 = .ok (.aload_n 0, 1) := by decide +kernel
theorem dX4_wander_43 : decode cX4_wander 43 = .ok (.getfield 23, 3) := by decide +kernel
theorem dX4_wander_46 : decode cX4_wander 46 = .ok (.invokestatic 103, 3) := by decide +kernel
theorem dX4_wander_49 : decode cX4_wander 49 = .ok (.istore 7, 2) := by decide +kernel
theorem dX4_wander_51 : decode cX4_wander 51 = .ok (.iload_n 3, 1) := by decide +kernel
theorem dX4_wander_52 : decode cX4_wander 52 = .ok (.invokestatic 100, 3) := by decide +kernel
theorem dX4_wander_55 : decode cX4_wander 55 = .ok (.istore_n 3, 1) := by decide +kernel
theorem dX4_wander_56 : decode cX4_wander 56 = .ok (.iload_n 3, 1) := by decide +kernel
theorem dX4_wander_57 : decode cX4_wander 57 = .ok (.iconst 3, 1) := by decide +kernel
theorem dX4_wander_58 : decode cX4_wander 58 = .ok (.invokestatic 103, 3) := by decide +kernel
theorem dX4_wander_61 : decode cX4_wander 61 = .ok (.istore 8, 2) := by decide +kernel
theorem dX4_wander_63 : decode cX4_wander 63 = .ok (.iload 6, 2) := by decide +kernel
theorem dX4_wander_65 : decode cX4_wander 65 = .ok (.iload 7, 2) := by decide +kernel
theorem dX4_wander_67 : decode cX4_wander 67 = .ok (.if_icmp .eq 56, 3) := by decide +kernel
theorem dX4_wander_70 : decode cX4_wander 70 = .ok (.aload_n 0, 1) := by decide +kernel
theorem dX4_wander_71 : decode cX4_wander 71 = .ok (.iload 6, 2) := by decide +kernel
theorem dX4_wander_73 : decode cX4_wander 73 = .ok (.iload 7, 2) := by decide +kernel
theorem dX4_wander_75 : decode cX4_wander 75 = .ok (.iload 8, 2) := by decide +kernel
theorem dX4_wander_77 : decode cX4_wander 77 = .ok (.invokevirtual 106, 3) := by decide +kernel
theorem dX4_wander_80 : decode cX4_wander 80 = .ok (.ifCond .eq 43, 3) := by decide +kernel
theorem dX4_wander_83 : decode cX4_wander 83 = .ok (.aload_n 0, 1) := by decide +kernel
theorem dX4_wander_84 : decode cX4_wander 84 = .ok (.iload 6, 2) := by decide +kernel
theorem dX4_wander_86 : decode cX4_wander 86 = .ok (.iload 7, 2) := by decide +kernel
theorem dX4_wander_88 : decode cX4_wander 88 = .ok (.iload 8, 2) := by decide +kernel
theorem dX4_wander_90 : decode cX4_wander 90 = .ok (.invokevirtual 110, 3) := by decide +kernel
theorem dX4_wander_93 : decode cX4_wander 93 = .ok (.iload 4, 2) := by decide +kernel
theorem dX4_wander_95 : decode cX4_wander 95 = .ok (.ifCond .eq 25, 3) := by decide +kernel
theorem dX4_wander_98 : decode cX4_wander 98 = .ok (.aload_n 0, 1) := by decide +kernel
theorem dX4_wander_99 : decode cX4_wander 99 = .ok (.iload 6, 2) := by decide +kernel
theorem dX4_wander_101 : decode cX4_wander 101 = .ok (.invokevirtual 113, 3) := by decide +kernel
theorem dX4_wander_104 : decode cX4_wander 104 = .ok (.ifCond .ne 16, 3) := by decide +kernel
theorem dX4_wander_107 : decode cX4_wander 107 = .ok (.aload_n 0, 1) := by decide +kernel
theorem dX4_wander_108 : decode cX4_wander 108 = .ok (.iload 7, 2) := by decide +kernel
theorem dX4_wander_110 : decode cX4_wander 110 = .ok (.invokevirtual 113, 3) := by decide +kernel
theorem dX4_wander_113 : decode cX4_wander 113 = .ok (.ifCond .ne 7, 3) := by decide +kernel
theorem dX4_wander_116 : decode cX4_wander 116 = .ok (.iconst 1, 1) := by decide +kernel
theorem dX4_wander_117 : decode cX4_wander 117 = .ok (.goto 4, 3) := by decide +kernel
theorem dX4_wander_120 : decode cX4_wander 120 = .ok (.iconst 0, 1) := by decide +kernel
theorem dX4_wander_121 : decode cX4_wander 121 = .ok (.istore 4, 2) := by decide +kernel
theorem dX4_wander_123 : decode cX4_wander 123 = .ok (.iload 4, 2) := by decide +kernel
theorem dX4_wander_125 : decode cX4_wander 125 = .ok (.ifCond .ne 11, 3) := by decide +kernel
theorem dX4_wander_128 : decode cX4_wander 128 = .ok (.aload_n 0, 1) := by decide +kernel
theorem dX4_wander_129 : decode cX4_wander 129 = .ok (.invokevirtual 116, 3) := by decide +kernel
theorem dX4_wander_132 : decode cX4_wander 132 = .ok (.pop, 1) := by decide +kernel
theorem dX4_wander_133 : decode cX4_wander 133 = .ok (.iconst 1, 1) := by decide +kernel
theorem dX4_wander_134 : decode cX4_wander 134 = .ok (.istore 4, 2) := by decide +kernel
theorem dX4_wander_136 : decode cX4_wander 136 = .ok (.iinc 5 1, 3) := by decide +kernel
theorem dX4_wander_139 : decode cX4_wander 139 = .ok (.goto (-131), 3) := by decide +kernel
theorem dX4_wander_142 : decode cX4_wander 142 = .ok (.iload_n 3, 1) := by decide +kernel
theorem dX4_wander_143 : decode cX4_wander 143 = .ok (.ireturn, 1) := by decide +kernel
abbrev rmX4_wander : Room := { frames := 6, cells := 0, slots := 0, locals := 142 }
theorem zyX4_wander : zyOK yX4_wander 2 := ⟨by decide +kernel, by decide +kernel, by decide +kernel⟩
set_option maxHeartbeats 4000000 in
set_option maxRecDepth 100000 in
theorem wX4_wander {G : ZG} (a0 : Nat) (a1 : Int32) (a2 : Int32) (S : ZS) (h0 : zFix G cX4_wander RX4 9 (some .int) rmX4_wander) (C : Option (Int32 × ZS) → Prop) (hC : ¬ C none) (hE : ∀ (v : Int32) (S1 : ZS), C (some (v, S1)) → zEnd G (some (.int v)) S1 rmX4_wander) : zV G 9 S 0 0 0 [(0, .ref a0), (1, .int a1), (2, .int a2)] [] (C (fX4_wander a0 a1 a2 S)) := by
  have J142 : ∀ (l3_142 : Int32) (S_142 : ZS), zV G 9 S_142 0 0 142 [(3, .int l3_142)] [] (C (fX4_wander_J142 l3_142 S_142)) := by
    intro l3_142 S_142
    unfold fX4_wander_J142
    refine zr_iload_n h0 dX4_wander_142 rfl (n := 143) rfl ?_
    exact zr_iret h0 rfl dX4_wander_143 (hE _ _) (by decide) (by decide)
  unfold fX4_wander
  refine zr_iload_n h0 dX4_wander_0 rfl (n := 1) rfl ?_
  refine zr_istore_n [(0, .ref a0), (1, .int a1), (2, .int a2), (3, .int a1)] h0 dX4_wander_1 (by decide) rfl (n := 2) rfl ?_
  refine zr_iconst (0 : Int32) h0 (by decide) dX4_wander_2 (n := 3) rfl ?_
  refine zr_istore [(0, .ref a0), (1, .int a1), (2, .int a2), (3, .int a1), (4, .int (0 : Int32))] h0 dX4_wander_3 (by decide) rfl (n := 5) rfl ?_
  refine zr_iconst (0 : Int32) h0 (by decide) dX4_wander_5 (n := 6) rfl ?_
  refine zr_istore [(0, .ref a0), (1, .int a1), (2, .int a2), (3, .int a1), (4, .int (0 : Int32)), (5, .int (0 : Int32))] h0 dX4_wander_6 (by decide) rfl (n := 8) rfl ?_
  refine zv_sub (lv' := [(0, .ref a0), (2, .int a2), (3, .int a1), (4, .int (0 : Int32)), (5, .int (0 : Int32))]) ?_ (zsub_of [0, 2, 3, 4, 5] rfl)
  refine zr_loop hC (fX4_wander_B8 a0 a2) (fun y => [(0, .ref a0), (2, .int a2), (3, .int y.1), (4, .int y.2.1), (5, .int y.2.2.1)]) (fun y => y.2.2.2) zF (a1, (0 : Int32), (0 : Int32), S) (fun C8 hC8 hX8 hL8 t8 => ?_)
  have J136 : ∀ (l3_136 : Int32) (l4_136 : Int32) (l5_136 : Int32) (S_136 : ZS), zV G 9 S_136 0 0 136 [(0, .ref a0), (2, .int a2), (3, .int l3_136), (4, .int l4_136), (5, .int l5_136)] [] (C8 (fX4_wander_J136 a0 a2 l3_136 l4_136 l5_136 S_136)) := by
    intro l3_136 l4_136 l5_136 S_136
    unfold fX4_wander_J136
    refine zr_iinc (1 : Int32) [(0, .ref a0), (2, .int a2), (3, .int l3_136), (4, .int l4_136), (5, .int (l5_136 + (1 : Int32)))] h0 dX4_wander_136 rfl (by decide) rfl rfl (n := 139) rfl ?_
    refine zr_goto (tgt := 8) h0 dX4_wander_139 (by decide) ?_
    exact hL8 (l3_136, l4_136, l5_136 + (1 : Int32), S_136)
  have J123 : ∀ (l3_123 : Int32) (l4_123 : Int32) (l5_123 : Int32) (S_123 : ZS), zV G 9 S_123 0 0 123 [(0, .ref a0), (2, .int a2), (3, .int l3_123), (4, .int l4_123), (5, .int l5_123)] [] (C8 (fX4_wander_J123 a0 a2 l3_123 l4_123 l5_123 S_123)) := by
    intro l3_123 l4_123 l5_123 S_123
    unfold fX4_wander_J123
    refine zr_iload h0 dX4_wander_123 rfl (n := 125) rfl ?_
    refine zr_if_ne C8 (tgt := 136) h0 dX4_wander_125 (by decide) (n := 128) rfl ?_ ?_
    · refine zv_sub (lv' := [(0, .ref a0), (2, .int a2), (3, .int l3_123), (5, .int l5_123)]) ?_ (zsub_of [0, 1, 2, 4] rfl)
      refine zr_aload_n h0 dX4_wander_128 rfl (n := 129) rfl ?_
      refine zr_cMI C8 hC8 0 0 (fun x hx => zk_V h0 zcX4 (zcl_ex hx) (fun l D z0 => kX4_shrink l D z0 a0 S_123 x (zcl_of hx)) zw_569 zw_520 zw_521 zw_12 zw_522 rfl zyX4_shrink (As := []) (st := []) rfl (by decide) rfl (Nat.le_of_ble_eq_true rfl) (by decide) dX4_wander_129) rfl rfl (n := 132) rfl (fun x15 => ?_)
      refine zr_pop h0 rfl dX4_wander_132 (n := 133) rfl ?_
      refine zr_iconst (1 : Int32) h0 (by decide) dX4_wander_133 (n := 134) rfl ?_
      refine zr_istore [(0, .ref a0), (2, .int a2), (3, .int l3_123), (4, .int (1 : Int32)), (5, .int l5_123)] h0 dX4_wander_134 (by decide) rfl (n := 136) rfl ?_
      exact J136 l3_123 (1 : Int32) l5_123 x15.2
    · exact J136 l3_123 l4_123 l5_123 S_123
  have J121 : ∀ (l3_121 : Int32) (l5_121 : Int32) (s0_121 : Int32) (S_121 : ZS), zV G 9 S_121 0 0 121 [(0, .ref a0), (2, .int a2), (3, .int l3_121), (5, .int l5_121)] [.int s0_121] (C8 (fX4_wander_J121 a0 a2 l3_121 l5_121 s0_121 S_121)) := by
    intro l3_121 l5_121 s0_121 S_121
    unfold fX4_wander_J121
    refine zr_istore [(0, .ref a0), (2, .int a2), (3, .int l3_121), (4, .int s0_121), (5, .int l5_121)] h0 dX4_wander_121 (by decide) rfl (n := 123) rfl ?_
    exact J123 l3_121 s0_121 l5_121 S_121
  have J120 : ∀ (l3_120 : Int32) (l5_120 : Int32) (S_120 : ZS), zV G 9 S_120 0 0 120 [(0, .ref a0), (2, .int a2), (3, .int l3_120), (5, .int l5_120)] [] (C8 (fX4_wander_J120 a0 a2 l3_120 l5_120 S_120)) := by
    intro l3_120 l5_120 S_120
    unfold fX4_wander_J120
    refine zr_iconst (0 : Int32) h0 (by decide) dX4_wander_120 (n := 121) rfl ?_
    exact J121 l3_120 l5_120 (0 : Int32) S_120
  unfold fX4_wander_B8
  refine zr_iload h0 dX4_wander_8 rfl (n := 10) rfl ?_
  refine zr_iload_n h0 dX4_wander_10 rfl (n := 11) rfl ?_
  refine zr_icmp_ge C8 (tgt := 142) h0 dX4_wander_11 (by decide) (n := 14) rfl ?_ ?_
  · refine zr_ex hX8 ?_
    refine zv_sub (lv' := [(3, .int t8.1)]) ?_ (zsub_of [2] rfl)
    exact J142 t8.1 t8.2.2.2
  · refine zr_aload_n h0 dX4_wander_14 rfl (n := 15) rfl ?_
    refine zr_getI C8 hC8 h0 zcX4 (k := 3) (by decide) zw_412 dX4_wander_15 (n := 18) rfl (fun v16 => ?_)
    refine zr_if_le C8 (tgt := 142) h0 dX4_wander_18 (by decide) (n := 21) rfl ?_ ?_
    · refine zr_ex hX8 ?_
      refine zv_sub (lv' := [(3, .int t8.1)]) ?_ (zsub_of [2] rfl)
      exact J142 t8.1 t8.2.2.2
    · refine zr_iload_n h0 dX4_wander_21 rfl (n := 22) rfl ?_
      refine zr_cRI C8 hC8 0 0 (fun x hx => zk_S h0 (fun l D z0 => kX4_draw l D z0 t8.1 t8.2.2.2 x hx) zw_558 zw_559 zw_12 zw_560 zyX4_draw (As := [.int t8.1]) (st := []) rfl (by decide) rfl (Nat.le_of_ble_eq_true rfl) (by decide) dX4_wander_22) rfl rfl (n := 25) rfl (fun x17 => ?_)
      refine zr_istore_n [(0, .ref a0), (2, .int a2), (3, .int x17), (4, .int t8.2.1), (5, .int t8.2.2.1)] h0 dX4_wander_25 (by decide) rfl (n := 26) rfl ?_
      refine zr_iload_n h0 dX4_wander_26 rfl (n := 27) rfl ?_
      refine zr_aload_n h0 dX4_wander_27 rfl (n := 28) rfl ?_
      refine zr_getI C8 hC8 h0 zcX4 (k := 3) (by decide) zw_412 dX4_wander_28 (n := 31) rfl (fun v18 => ?_)
      refine zr_cRI C8 hC8 0 0 (fun x hx => zk_SN (host := "Bilinearium") h0 (fun l D z0 => kX5_remainder l D z0 x17 v18 t8.2.2.2 x hx) (by decide +kernel) zw_286 zw_1 zw_287 zyX5_remainder (As := [.int x17, .int v18]) (st := []) rfl (by decide) rfl (Nat.le_of_ble_eq_true rfl) (by decide) dX4_wander_31) rfl rfl (n := 34) rfl (fun x19 => ?_)
      refine zr_istore [(0, .ref a0), (2, .int a2), (3, .int x17), (4, .int t8.2.1), (5, .int t8.2.2.1), (6, .int x19)] h0 dX4_wander_34 (by decide) rfl (n := 36) rfl ?_
      refine zr_iload_n h0 dX4_wander_36 rfl (n := 37) rfl ?_
      refine zr_cRI C8 hC8 0 0 (fun x hx => zk_S h0 (fun l D z0 => kX4_draw l D z0 x17 t8.2.2.2 x hx) zw_558 zw_559 zw_12 zw_560 zyX4_draw (As := [.int x17]) (st := []) rfl (by decide) rfl (Nat.le_of_ble_eq_true rfl) (by decide) dX4_wander_37) rfl rfl (n := 40) rfl (fun x20 => ?_)
      refine zr_istore_n [(0, .ref a0), (2, .int a2), (3, .int x20), (4, .int t8.2.1), (5, .int t8.2.2.1), (6, .int x19)] h0 dX4_wander_40 (by decide) rfl (n := 41) rfl ?_
      refine zr_iload_n h0 dX4_wander_41 rfl (n := 42) rfl ?_
      refine zr_aload_n h0 dX4_wander_42 rfl (n := 43) rfl ?_
      refine zr_getI C8 hC8 h0 zcX4 (k := 3) (by decide) zw_412 dX4_wander_43 (n := 46) rfl (fun v21 => ?_)
      refine zr_cRI C8 hC8 0 0 (fun x hx => zk_SN (host := "Bilinearium") h0 (fun l D z0 => kX5_remainder l D z0 x20 v21 t8.2.2.2 x hx) (by decide +kernel) zw_286 zw_1 zw_287 zyX5_remainder (As := [.int x20, .int v21]) (st := []) rfl (by decide) rfl (Nat.le_of_ble_eq_true rfl) (by decide) dX4_wander_46) rfl rfl (n := 49) rfl (fun x22 => ?_)
      refine zr_istore [(0, .ref a0), (2, .int a2), (3, .int x20), (4, .int t8.2.1), (5, .int t8.2.2.1), (6, .int x19), (7, .int x22)] h0 dX4_wander_49 (by decide) rfl (n := 51) rfl ?_
      refine zr_iload_n h0 dX4_wander_51 rfl (n := 52) rfl ?_
      refine zr_cRI C8 hC8 0 0 (fun x hx => zk_S h0 (fun l D z0 => kX4_draw l D z0 x20 t8.2.2.2 x hx) zw_558 zw_559 zw_12 zw_560 zyX4_draw (As := [.int x20]) (st := []) rfl (by decide) rfl (Nat.le_of_ble_eq_true rfl) (by decide) dX4_wander_52) rfl rfl (n := 55) rfl (fun x23 => ?_)
      refine zr_istore_n [(0, .ref a0), (2, .int a2), (3, .int x23), (4, .int t8.2.1), (5, .int t8.2.2.1), (6, .int x19), (7, .int x22)] h0 dX4_wander_55 (by decide) rfl (n := 56) rfl ?_
      refine zr_iload_n h0 dX4_wander_56 rfl (n := 57) rfl ?_
      refine zr_iconst (3 : Int32) h0 (by decide) dX4_wander_57 (n := 58) rfl ?_
      refine zr_cRI C8 hC8 0 0 (fun x hx => zk_SN (host := "Bilinearium") h0 (fun l D z0 => kX5_remainder l D z0 x23 (3 : Int32) t8.2.2.2 x hx) (by decide +kernel) zw_286 zw_1 zw_287 zyX5_remainder (As := [.int x23, .int (3 : Int32)]) (st := []) rfl (by decide) rfl (Nat.le_of_ble_eq_true rfl) (by decide) dX4_wander_58) rfl rfl (n := 61) rfl (fun x24 => ?_)
      refine zr_istore [(0, .ref a0), (2, .int a2), (3, .int x23), (4, .int t8.2.1), (5, .int t8.2.2.1), (6, .int x19), (7, .int x22), (8, .int x24)] h0 dX4_wander_61 (by decide) rfl (n := 63) rfl ?_
      refine zr_iload h0 dX4_wander_63 rfl (n := 65) rfl ?_
      refine zr_iload h0 dX4_wander_65 rfl (n := 67) rfl ?_
      refine zr_icmp_eq C8 (tgt := 123) h0 dX4_wander_67 (by decide) (n := 70) rfl ?_ ?_
      · refine zv_sub (lv' := [(0, .ref a0), (2, .int a2), (3, .int x23), (4, .int t8.2.1), (5, .int t8.2.2.1)]) ?_ (zsub_of [0, 1, 2, 3, 4] rfl)
        exact J123 x23 t8.2.1 t8.2.2.1 t8.2.2.2
      · refine zr_aload_n h0 dX4_wander_70 rfl (n := 71) rfl ?_
        refine zr_iload h0 dX4_wander_71 rfl (n := 73) rfl ?_
        refine zr_iload h0 dX4_wander_73 rfl (n := 75) rfl ?_
        refine zr_iload h0 dX4_wander_75 rfl (n := 77) rfl ?_
        refine zr_cRI C8 hC8 0 0 (fun x hx => zk_V h0 zcX4 (zcl_ex hx) (fun l D z0 => kX4_isSame l D z0 a0 x19 x22 x24 t8.2.2.2 x (zcl_of hx)) zw_563 zw_484 zw_485 zw_12 zw_486 rfl zyX4_isSame (As := [.int x19, .int x22, .int x24]) (st := []) rfl (by decide) rfl (Nat.le_of_ble_eq_true rfl) (by decide) dX4_wander_77) rfl rfl (n := 80) rfl (fun x25 => ?_)
        refine zr_if_eq C8 (tgt := 123) h0 dX4_wander_80 (by decide) (n := 83) rfl ?_ ?_
        · refine zv_sub (lv' := [(0, .ref a0), (2, .int a2), (3, .int x23), (4, .int t8.2.1), (5, .int t8.2.2.1)]) ?_ (zsub_of [0, 1, 2, 3, 4] rfl)
          exact J123 x23 t8.2.1 t8.2.2.1 t8.2.2.2
        · refine zr_aload_n h0 dX4_wander_83 rfl (n := 84) rfl ?_
          refine zr_iload h0 dX4_wander_84 rfl (n := 86) rfl ?_
          refine zr_iload h0 dX4_wander_86 rfl (n := 88) rfl ?_
          refine zr_iload h0 dX4_wander_88 rfl (n := 90) rfl ?_
          refine zr_cMV C8 hC8 0 0 (fun x hx => zk_V h0 zcX4 (zcl_ex hx) (fun l D z0 => kX4_turn l D z0 a0 x19 x22 x24 t8.2.2.2 x (zcl_of hx)) zw_564 zw_494 zw_495 zw_12 zw_496 rfl zyX4_turn (As := [.int x19, .int x22, .int x24]) (st := []) rfl (by decide) rfl (Nat.le_of_ble_eq_true rfl) (by decide) dX4_wander_90) rfl rfl (n := 93) rfl (fun x26 => ?_)
          refine zr_iload h0 dX4_wander_93 rfl (n := 95) rfl ?_
          refine zr_if_eq C8 (tgt := 120) h0 dX4_wander_95 (by decide) (n := 98) rfl ?_ ?_
          · refine zv_sub (lv' := [(0, .ref a0), (2, .int a2), (3, .int x23), (5, .int t8.2.2.1)]) ?_ (zsub_of [0, 1, 2, 4] rfl)
            exact J120 x23 t8.2.2.1 x26
          · refine zv_sub (lv' := [(0, .ref a0), (2, .int a2), (3, .int x23), (5, .int t8.2.2.1), (6, .int x19), (7, .int x22)]) ?_ (zsub_of [0, 1, 2, 4, 5, 6] rfl)
            refine zr_aload_n h0 dX4_wander_98 rfl (n := 99) rfl ?_
            refine zr_iload h0 dX4_wander_99 rfl (n := 101) rfl ?_
            refine zr_cRI C8 hC8 0 0 (fun x hx => zk_V h0 zcX4 (zcl_ex hx) (fun l D z0 => kX4_isReducible l D z0 a0 x19 x26 x (zcl_of hx)) zw_565 zw_567 zs_12 zw_12 zw_568 rfl zyX4_isReducible (As := [.int x19]) (st := []) rfl (by decide) rfl (Nat.le_of_ble_eq_true rfl) (by decide) dX4_wander_101) rfl rfl (n := 104) rfl (fun x27 => ?_)
            refine zr_if_ne C8 (tgt := 120) h0 dX4_wander_104 (by decide) (n := 107) rfl ?_ ?_
            · refine zv_sub (lv' := [(0, .ref a0), (2, .int a2), (3, .int x23), (5, .int t8.2.2.1), (7, .int x22)]) ?_ (zsub_of [0, 1, 2, 3, 5] rfl)
              refine zr_aload_n h0 dX4_wander_107 rfl (n := 108) rfl ?_
              refine zr_iload h0 dX4_wander_108 rfl (n := 110) rfl ?_
              refine zr_cRI C8 hC8 0 0 (fun x hx => zk_V h0 zcX4 (zcl_ex hx) (fun l D z0 => kX4_isReducible l D z0 a0 x22 x26 x (zcl_of hx)) zw_565 zw_567 zs_12 zw_12 zw_568 rfl zyX4_isReducible (As := [.int x22]) (st := []) rfl (by decide) rfl (Nat.le_of_ble_eq_true rfl) (by decide) dX4_wander_110) rfl rfl (n := 113) rfl (fun x28 => ?_)
              refine zr_if_ne C8 (tgt := 120) h0 dX4_wander_113 (by decide) (n := 116) rfl ?_ ?_
              · refine zv_sub (lv' := [(0, .ref a0), (2, .int a2), (3, .int x23), (5, .int t8.2.2.1)]) ?_ (zsub_of [0, 1, 2, 3] rfl)
                refine zr_iconst (1 : Int32) h0 (by decide) dX4_wander_116 (n := 117) rfl ?_
                refine zr_goto (tgt := 121) h0 dX4_wander_117 (by decide) ?_
                exact J121 x23 t8.2.2.1 (1 : Int32) x26
              · refine zv_sub (lv' := [(0, .ref a0), (2, .int a2), (3, .int x23), (5, .int t8.2.2.1)]) ?_ (zsub_of [0, 1, 2, 3] rfl)
                exact J120 x23 t8.2.2.1 x26
            · refine zv_sub (lv' := [(0, .ref a0), (2, .int a2), (3, .int x23), (5, .int t8.2.2.1)]) ?_ (zsub_of [0, 1, 2, 3] rfl)
              exact J120 x23 t8.2.2.1 x26
theorem kX4_wander (l : Launch) (D : ZD) (z0 : Nat) (a0 : Nat) (a1 : Int32) (a2 : Int32) (S : ZS) (x : Int32 × ZS) (hf : fX4_wander a0 a1 a2 S = some x) : zMet l D z0 yX4_wander cX4_wander 9 (some .int) rmX4_wander [.ref a0, .int a1, .int a2] S (some (.int x.1)) x.2 :=
  zMet_of (by decide) (Nat.le_of_ble_eq_true rfl) (fun G h0 hini hE => wX4_wander a0 a1 a2 S h0 (fun o => o = some x) (fun h => nomatch h) (fun v S1 h => by cases h; exact hE)) hf
theorem dX5_walk_0 : decode cX5_walk 0 = .ok (.aload_n 0, 1) := by decide +kernel
theorem dX5_walk_1 : decode cX5_walk 1 = .ok (.iload_n 1, 1) := by decide +kernel
theorem dX5_walk_2 : decode cX5_walk 2 = .ok (.invokevirtual 148, 3) := by decide +kernel
theorem dX5_walk_5 : decode cX5_walk 5 = .ok (.astore 4, 2) := by decide +kernel
theorem dX5_walk_7 : decode cX5_walk 7 = .ok (.iload_n 2, 1) := by decide +kernel
theorem dX5_walk_8 : decode cX5_walk 8 = .ok (.ifCond .lt 9, 3) := by decide +kernel
theorem dX5_walk_11 : decode cX5_walk 11 = .ok (.iload_n 2, 1) := by decide +kernel
theorem dX5_walk_12 : decode cX5_walk 12 = .ok (.ldc 191, 2) := by decide +kernel
theorem dX5_walk_14 : decode cX5_walk 14 = .ok (.if_icmp .lt 13, 3) := by decide +kernel
theorem dX5_walk_17 : decode cX5_walk 17 = .ok (.new 56, 3) := by decide +kernel
theorem dX5_walk_20 : decode cX5_walk 20 = .ok (.dup, 1) := by decide +kernel
theorem dX5_walk_21 : decode cX5_walk 21 = .ok (.ldc 192, 2) := by decide +kernel
theorem dX5_walk_23 : decode cX5_walk 23 = .ok (.invokespecial 60, 3) := by decide +kernel
theorem dX5_walk_26 : decode cX5_walk 26 = .ok (.athrow, 1) := by decide +kernel
theorem dX5_walk_27 : decode cX5_walk 27 = .ok (.iload_n 3, 1) := by decide +kernel
theorem dX5_walk_28 : decode cX5_walk 28 = .ok (.iconst 1, 1) := by decide +kernel
theorem dX5_walk_29 : decode cX5_walk 29 = .ok (.if_icmp .lt 10, 3) := by decide +kernel
theorem dX5_walk_32 : decode cX5_walk 32 = .ok (.iload_n 3, 1) := by decide +kernel
theorem dX5_walk_33 : decode cX5_walk 33 = .ok (.sipush 200, 3) := by decide +kernel
theorem dX5_walk_36 : decode cX5_walk 36 = .ok (.if_icmp .le 13, 3) := by decide +kernel
theorem dX5_walk_39 : decode cX5_walk 39 = .ok (.new 56, 3) := by decide +kernel
theorem dX5_walk_42 : decode cX5_walk 42 = .ok (.dup, 1) := by decide +kernel
theorem dX5_walk_43 : decode cX5_walk 43 = .ok (.ldc 194, 2) := by decide +kernel
theorem dX5_walk_45 : decode cX5_walk 45 = .ok (.invokespecial 60, 3) := by decide +kernel
theorem dX5_walk_48 : decode cX5_walk 48 = .ok (.athrow, 1) := by decide +kernel
theorem dX5_walk_49 : decode cX5_walk 49 = .ok (.aload 4, 2) := by decide +kernel
theorem dX5_walk_51 : decode cX5_walk 51 = .ok (.iload_n 2, 1) := by decide +kernel
theorem dX5_walk_52 : decode cX5_walk 52 = .ok (.iload_n 3, 1) := by decide +kernel
theorem dX5_walk_53 : decode cX5_walk 53 = .ok (.invokevirtual 196, 3) := by decide +kernel
theorem dX5_walk_56 : decode cX5_walk 56 = .ok (.ireturn, 1) := by decide +kernel
abbrev rmX5_walk : Room := { frames := 7, cells := 2, slots := 12, locals := 170 }
theorem zyX5_walk : zyOK yX5_walk 3 := ⟨by decide +kernel, by decide +kernel, by decide +kernel⟩
set_option maxHeartbeats 4000000 in
set_option maxRecDepth 100000 in
theorem wX5_walk {G : ZG} (a0 : Nat) (a1 : Int32) (a2 : Int32) (a3 : Int32) (S : ZS) (h0 : zFix G cX5_walk RX5 5 (some .int) rmX5_walk) (C : Option ((Int32 × ZS) ⊕ ZX) → Prop) (hC : ¬ C none) (hnt : zNoTab G) (hE : ∀ (v : Int32) (S1 : ZS), C (some (.inl (v, S1))) → zEndT G (some (.int v)) S1 rmX5_walk) (hEx : ∀ (E : String) (h : ZH), C (some (.inr (E, h))) → zEndX G E h rmX5_walk) : zV G 5 S 0 0 0 [(0, .ref a0), (1, .int a1), (2, .int a2), (3, .int a3)] [] (C (fX5_walk a0 a1 a2 a3 S)) := by
  have J39 : ∀  (S_39 : ZS), zV G 5 S_39 1 6 39 [] [] (C (fX5_walk_J39 S_39)) := by
    intro  S_39
    unfold fX5_walk_J39
    exact zr_throw h0 hnt (cls := "java/lang/IllegalArgumentException") (text := "the steps are out of range") (names := ["java/lang/RuntimeException", "java/lang/Exception"]) (by decide +kernel) zfitN zw_118 zw_8 (by decide +kernel) (by decide +kernel) zat_X5_60 zbad_X5_60 zgd_X5_60 dX5_walk_39 dX5_walk_42 dX5_walk_43 dX5_walk_45 dX5_walk_48 (by decide) (Nat.le_of_ble_eq_true rfl) (by decide) (by decide) (fun h => hEx _ _ h)
  have J17 : ∀  (S_17 : ZS), zV G 5 S_17 1 6 17 [] [] (C (fX5_walk_J17 S_17)) := by
    intro  S_17
    unfold fX5_walk_J17
    exact zr_throw h0 hnt (cls := "java/lang/IllegalArgumentException") (text := "the state is out of range") (names := ["java/lang/RuntimeException", "java/lang/Exception"]) (by decide +kernel) zfitN zw_118 zw_8 (by decide +kernel) (by decide +kernel) zat_X5_60 zbad_X5_60 zgd_X5_60 dX5_walk_17 dX5_walk_20 dX5_walk_21 dX5_walk_23 dX5_walk_26 (by decide) (Nat.le_of_ble_eq_true rfl) (by decide) (by decide) (fun h => hEx _ _ h)
  unfold fX5_walk
  refine zr_aload_n h0 dX5_walk_0 rfl (n := 1) rfl ?_
  refine zr_iload_n h0 dX5_walk_1 rfl (n := 2) rfl ?_
  refine zr_cTR C hC 1 6 h0 (fun x hx => zk_VT h0 zcX5 (zcl_ex hx) (fun l D z0 hlt => kX5_needWay l D z0 hlt a0 a1 S x (zcl_of hx)) hnt zw_430 zw_432 zs_3 zw_1 zw_433 rfl zyX5_needWay (As := [.int a1]) (st := []) rfl (by decide) rfl (Nat.le_of_ble_eq_true rfl) (by decide) dX5_walk_2) hnt rfl rfl (by decide) (by decide) (n := 5) rfl (fun z h => hEx _ _ h) (fun x1 => ?_)
  refine zr_astore [(0, .ref a0), (1, .int a1), (2, .int a2), (3, .int a3), (4, .ref x1.1)] h0 dX5_walk_5 (by decide) rfl (n := 7) rfl ?_
  refine zr_iload_n h0 dX5_walk_7 rfl (n := 8) rfl ?_
  refine zr_if_lt C (tgt := 17) h0 dX5_walk_8 (by decide) (n := 11) rfl ?_ ?_
  · refine zv_sub (lv' := []) ?_ (zsub_of [] rfl)
    exact J17 x1.2
  · refine zv_sub (lv' := [(2, .int a2), (3, .int a3), (4, .ref x1.1)]) ?_ (zsub_of [2, 3, 4] rfl)
    refine zr_iload_n h0 dX5_walk_11 rfl (n := 12) rfl ?_
    refine zr_ldc h0 zw_551 dX5_walk_12 (n := 14) rfl ?_
    refine zr_icmp_lt C (tgt := 27) h0 dX5_walk_14 (by decide) (n := 17) rfl ?_ ?_
    · refine zr_iload_n h0 dX5_walk_27 rfl (n := 28) rfl ?_
      refine zr_iconst (1 : Int32) h0 (by decide) dX5_walk_28 (n := 29) rfl ?_
      refine zr_icmp_lt C (tgt := 39) h0 dX5_walk_29 (by decide) (n := 32) rfl ?_ ?_
      · refine zv_sub (lv' := []) ?_ (zsub_of [] rfl)
        exact J39 x1.2
      · refine zr_iload_n h0 dX5_walk_32 rfl (n := 33) rfl ?_
        refine zr_sipush (200 : Int32) h0 (by decide) dX5_walk_33 (n := 36) rfl ?_
        refine zr_icmp_le C (tgt := 49) h0 dX5_walk_36 (by decide) (n := 39) rfl ?_ ?_
        · refine zr_aload h0 dX5_walk_49 rfl (n := 51) rfl ?_
          refine zr_iload_n h0 dX5_walk_51 rfl (n := 52) rfl ?_
          refine zr_iload_n h0 dX5_walk_52 rfl (n := 53) rfl ?_
          refine zr_cMI C hC 1 6 (fun x hx => zk_V h0 zcX4 (zcl_ex hx) (fun l D z0 => kX4_wander l D z0 x1.1 a2 a3 x1.2 x (zcl_of hx)) zw_554 zw_555 zw_556 zw_12 zw_557 rfl zyX4_wander (As := [.int a2, .int a3]) (st := []) rfl (by decide) rfl (Nat.le_of_ble_eq_true rfl) (by decide) dX5_walk_53) rfl rfl (n := 56) rfl (fun x2 => ?_)
          exact zr_iretT h0 rfl dX5_walk_56 (hE _ _) (by decide) (by decide)
        · refine zv_sub (lv' := []) ?_ (zsub_of [] rfl)
          exact J39 x1.2
    · refine zv_sub (lv' := []) ?_ (zsub_of [] rfl)
      exact J17 x1.2
theorem kX5_walk (l : Launch) (D : ZD) (z0 : Nat) (hlt : l.stackTraces = false) (a0 : Nat) (a1 : Int32) (a2 : Int32) (a3 : Int32) (S : ZS) (x : ((Int32 × ZS) ⊕ ZX)) (hf : fX5_walk a0 a1 a2 a3 S = some x) : zMetT l D z0 yX5_walk cX5_walk 5 (some .int) rmX5_walk [.ref a0, .int a1, .int a2, .int a3] S (x.map (fun y => ((some (.int y.1)), y.2)) id) :=
  zMetT_of hlt (by decide) (Nat.le_of_ble_eq_true rfl) (fun G h0 hnt hE hEx => wX5_walk a0 a1 a2 a3 S h0 (fun o => o = some x) (fun h => nomatch h) hnt (fun v S1 h => by cases h; exact hE _ _ rfl) (fun E h hh => by cases hh; exact hEx _ _ rfl)) hf
theorem dX5_at_0 : decode cX5_at 0 = .ok (.aload_n 0, 1) := by decide +kernel
theorem dX5_at_1 : decode cX5_at 1 = .ok (.iload_n 1, 1) := by decide +kernel
theorem dX5_at_2 : decode cX5_at 2 = .ok (.invokevirtual 87, 3) := by decide +kernel
theorem dX5_at_5 : decode cX5_at 5 = .ok (.astore 5, 2) := by decide +kernel
theorem dX5_at_7 : decode cX5_at 7 = .ok (.aload 5, 2) := by decide +kernel
theorem dX5_at_9 : decode cX5_at 9 = .ok (.iload_n 2, 1) := by decide +kernel
theorem dX5_at_10 : decode cX5_at 10 = .ok (.iload_n 3, 1) := by decide +kernel
theorem dX5_at_11 : decode cX5_at 11 = .ok (.iload 4, 2) := by decide +kernel
theorem dX5_at_13 : decode cX5_at 13 = .ok (.invokestatic 91, 3) := by decide +kernel
theorem dX5_at_16 : decode cX5_at 16 = .ok (.aload 5, 2) := by decide +kernel
theorem dX5_at_18 : decode cX5_at 18 = .ok (.iload_n 2, 1) := by decide +kernel
theorem dX5_at_19 : decode cX5_at 19 = .ok (.iload_n 3, 1) := by decide +kernel
theorem dX5_at_20 : decode cX5_at 20 = .ok (.iload 4, 2) := by decide +kernel
theorem dX5_at_22 : decode cX5_at 22 = .ok (.invokevirtual 97, 3) := by decide +kernel
theorem dX5_at_25 : decode cX5_at 25 = .ok (.ireturn, 1) := by decide +kernel
abbrev rmX5_at : Room := { frames := 7, cells := 2, slots := 12, locals := 113 }
theorem zyX5_at : zyOK yX5_at 4 := ⟨by decide +kernel, by decide +kernel, by decide +kernel⟩
set_option maxHeartbeats 4000000 in
set_option maxRecDepth 100000 in
theorem wX5_at {G : ZG} (a0 : Nat) (a1 : Int32) (a2 : Int32) (a3 : Int32) (a4 : Int32) (S : ZS) (h0 : zFix G cX5_at RX5 6 (some .int) rmX5_at) (C : Option ((Int32 × ZS) ⊕ ZX) → Prop) (hC : ¬ C none) (hnt : zNoTab G) (hE : ∀ (v : Int32) (S1 : ZS), C (some (.inl (v, S1))) → zEndT G (some (.int v)) S1 rmX5_at) (hEx : ∀ (E : String) (h : ZH), C (some (.inr (E, h))) → zEndX G E h rmX5_at) : zV G 6 S 0 0 0 [(0, .ref a0), (1, .int a1), (2, .int a2), (3, .int a3), (4, .int a4)] [] (C (fX5_at a0 a1 a2 a3 a4 S)) := by
  unfold fX5_at
  refine zr_aload_n h0 dX5_at_0 rfl (n := 1) rfl ?_
  refine zr_iload_n h0 dX5_at_1 rfl (n := 2) rfl ?_
  refine zr_cTR C hC 1 6 h0 (fun x hx => zk_VT h0 zcX5 (zcl_ex hx) (fun l D z0 hlt => kX5_needCube l D z0 hlt a0 a1 S x (zcl_of hx)) hnt zw_296 zw_298 zs_2 zw_1 zw_299 rfl zyX5_needCube (As := [.int a1]) (st := []) rfl (by decide) rfl (Nat.le_of_ble_eq_true rfl) (by decide) dX5_at_2) hnt rfl rfl (by decide) (by decide) (n := 5) rfl (fun z h => hEx _ _ h) (fun x1 => ?_)
  refine zr_astore [(0, .ref a0), (1, .int a1), (2, .int a2), (3, .int a3), (4, .int a4), (5, .ref x1.1)] h0 dX5_at_5 (by decide) rfl (n := 7) rfl ?_
  refine zr_aload h0 dX5_at_7 rfl (n := 9) rfl ?_
  refine zr_iload_n h0 dX5_at_9 rfl (n := 10) rfl ?_
  refine zr_iload_n h0 dX5_at_10 rfl (n := 11) rfl ?_
  refine zr_iload h0 dX5_at_11 rfl (n := 13) rfl ?_
  refine zr_cTV C hC 2 12 h0 (fun x hx => zk_ST h0 (fun l D z0 hlt => kX5_needPlace l D z0 hlt x1.1 a2 a3 a4 x1.2 x hx) hnt zw_316 zw_317 zw_1 zw_318 zyX5_needPlace (As := [.ref x1.1, .int a2, .int a3, .int a4]) (st := []) rfl (by decide) rfl (Nat.le_of_ble_eq_true rfl) (by decide) dX5_at_13) hnt rfl rfl (by decide) (by decide) (n := 16) rfl (fun z h => hEx _ _ h) (fun x2 => ?_)
  refine zr_aload h0 dX5_at_16 rfl (n := 18) rfl ?_
  refine zr_iload_n h0 dX5_at_18 rfl (n := 19) rfl ?_
  refine zr_iload_n h0 dX5_at_19 rfl (n := 20) rfl ?_
  refine zr_iload h0 dX5_at_20 rfl (n := 22) rfl ?_
  refine zr_cRI C hC 2 12 (fun x hx => zk_V h0 zcX0 (zcl_ex hx) (fun l D z0 => kX0_numberAt l D z0 x1.1 a2 a3 a4 x2.2 x (zcl_of hx)) zw_324 zw_325 zw_326 zw_10 zw_327 rfl zyX0_numberAt (As := [.int a2, .int a3, .int a4]) (st := []) rfl (by decide) rfl (Nat.le_of_ble_eq_true rfl) (by decide) dX5_at_22) rfl rfl (n := 25) rfl (fun x3 => ?_)
  exact zr_iretT h0 rfl dX5_at_25 (hE _ _) (by decide) (by decide)
theorem kX5_at (l : Launch) (D : ZD) (z0 : Nat) (hlt : l.stackTraces = false) (a0 : Nat) (a1 : Int32) (a2 : Int32) (a3 : Int32) (a4 : Int32) (S : ZS) (x : ((Int32 × ZS) ⊕ ZX)) (hf : fX5_at a0 a1 a2 a3 a4 S = some x) : zMetT l D z0 yX5_at cX5_at 6 (some .int) rmX5_at [.ref a0, .int a1, .int a2, .int a3, .int a4] S (x.map (fun y => ((some (.int y.1)), y.2)) id) :=
  zMetT_of hlt (by decide) (Nat.le_of_ble_eq_true rfl) (fun G h0 hnt hE hEx => wX5_at a0 a1 a2 a3 a4 S h0 (fun o => o = some x) (fun h => nomatch h) hnt (fun v S1 h => by cases h; exact hE _ _ rfl) (fun E h hh => by cases hh; exact hEx _ _ rfl)) hf
theorem dX0_numberInSlice_0 : decode cX0_numberInSlice 0 = .ok (.aload_n 0, 1) := by decide +kernel
theorem dX0_numberInSlice_1 : decode cX0_numberInSlice 1 = .ok (.getfield 21, 3) := by decide +kernel
theorem dX0_numberInSlice_4 : decode cX0_numberInSlice 4 = .ok (.iload_n 1, 1) := by decide +kernel
theorem dX0_numberInSlice_5 : decode cX0_numberInSlice 5 = .ok (.iload_n 2, 1) := by decide +kernel
theorem dX0_numberInSlice_6 : decode cX0_numberInSlice 6 = .ok (.iload_n 3, 1) := by decide +kernel
theorem dX0_numberInSlice_7 : decode cX0_numberInSlice 7 = .ok (.invokestatic 43, 3) := by decide +kernel
theorem dX0_numberInSlice_10 : decode cX0_numberInSlice 10 = .ok (.invokestatic 31, 3) := by decide +kernel
theorem dX0_numberInSlice_13 : decode cX0_numberInSlice 13 = .ok (.ireturn, 1) := by decide +kernel
abbrev rmX0_numberInSlice : Room := { frames := 3, cells := 0, slots := 0, locals := 66 }
theorem zyX0_numberInSlice : zyOK yX0_numberInSlice 3 := ⟨by decide +kernel, by decide +kernel, by decide +kernel⟩
set_option maxHeartbeats 4000000 in
set_option maxRecDepth 100000 in
theorem wX0_numberInSlice {G : ZG} (a0 : Nat) (a1 : Int32) (a2 : Int32) (a3 : Int32) (S : ZS) (h0 : zFix G cX0_numberInSlice RX0 4 (some .int) rmX0_numberInSlice) (C : Option Int32 → Prop) (hC : ¬ C none) (hE : ∀ v : Int32, C (some v) → zEnd G (some (.int v)) S rmX0_numberInSlice) : zV G 4 S 0 0 0 [(0, .ref a0), (1, .int a1), (2, .int a2), (3, .int a3)] [] (C (fX0_numberInSlice a0 a1 a2 a3 S)) := by
  unfold fX0_numberInSlice
  refine zr_aload_n h0 dX0_numberInSlice_0 rfl (n := 1) rfl ?_
  refine zr_getR C hC h0 zcX0 (k := 3) (by decide) zw_239 dX0_numberInSlice_1 (n := 4) rfl (fun v1 => ?_)
  refine zr_iload_n h0 dX0_numberInSlice_4 rfl (n := 5) rfl ?_
  refine zr_iload_n h0 dX0_numberInSlice_5 rfl (n := 6) rfl ?_
  refine zr_iload_n h0 dX0_numberInSlice_6 rfl (n := 7) rfl ?_
  refine zr_cRI C hC 0 0 (fun x hx => zk_S h0 (fun l D z0 => kX0_indexInSlice l D z0 a1 a2 a3 S x hx) zw_356 zw_357 zw_10 zw_358 zyX0_indexInSlice (As := [.int a1, .int a2, .int a3]) (st := [.ref v1]) rfl (by decide) rfl (Nat.le_of_ble_eq_true rfl) (by decide) dX0_numberInSlice_7) rfl rfl (n := 10) rfl (fun x2 => ?_)
  refine zr_cRI C hC 0 0 (fun x hx => zk_SN (host := "Bilinearium") h0 (fun l D z0 => kX5_get l D z0 v1 x2 S x hx) (by decide +kernel) zw_329 zw_1 zw_330 zyX5_get (As := [.ref v1, .int x2]) (st := []) rfl (by decide) rfl (Nat.le_of_ble_eq_true rfl) (by decide) dX0_numberInSlice_10) rfl rfl (n := 13) rfl (fun x3 => ?_)
  exact zr_iret h0 rfl dX0_numberInSlice_13 (hE _) (by decide) (by decide)
theorem kX0_numberInSlice (l : Launch) (D : ZD) (z0 : Nat) (a0 : Nat) (a1 : Int32) (a2 : Int32) (a3 : Int32) (S : ZS) (x : Int32) (hf : fX0_numberInSlice a0 a1 a2 a3 S = some x) : zMet l D z0 yX0_numberInSlice cX0_numberInSlice 4 (some .int) rmX0_numberInSlice [.ref a0, .int a1, .int a2, .int a3] S (some (.int x)) S :=
  zMet_of (by decide) (Nat.le_of_ble_eq_true rfl) (fun G h0 hini hE => wX0_numberInSlice a0 a1 a2 a3 S h0 (fun o => o = some x) (fun h => nomatch h) (fun v h => by cases h; exact hE)) hf
theorem dX1_enter_0 : decode cX1_enter 0 = .ok (.aload_n 0, 1) := by decide +kernel
theorem dX1_enter_1 : decode cX1_enter 1 = .ok (.getfield 9, 3) := by decide +kernel
theorem dX1_enter_4 : decode cX1_enter 4 = .ok (.iload_n 1, 1) := by decide +kernel
theorem dX1_enter_5 : decode cX1_enter 5 = .ok (.bipush 16, 2) := by decide +kernel
theorem dX1_enter_7 : decode cX1_enter 7 = .ok (.imul, 1) := by decide +kernel
theorem dX1_enter_8 : decode cX1_enter 8 = .ok (.iload_n 2, 1) := by decide +kernel
theorem dX1_enter_9 : decode cX1_enter 9 = .ok (.iadd, 1) := by decide +kernel
theorem dX1_enter_10 : decode cX1_enter 10 = .ok (.iload_n 3, 1) := by decide +kernel
theorem dX1_enter_11 : decode cX1_enter 11 = .ok (.invokestatic 55, 3) := by decide +kernel
theorem dX1_enter_14 : decode cX1_enter 14 = .ok (.return_, 1) := by decide +kernel
abbrev rmX1_enter : Room := { frames := 2, cells := 0, slots := 0, locals := 42 }
theorem zyX1_enter : zyOK yX1_enter 3 := ⟨by decide +kernel, by decide +kernel, by decide +kernel⟩
set_option maxHeartbeats 4000000 in
set_option maxRecDepth 100000 in
theorem wX1_enter {G : ZG} (a0 : Nat) (a1 : Int32) (a2 : Int32) (a3 : Int32) (S : ZS) (h0 : zFix G cX1_enter RX1 4 none rmX1_enter) (C : Option ZS → Prop) (hC : ¬ C none) (hE : ∀ S1 : ZS, C (some S1) → zEnd G none S1 rmX1_enter) : zV G 4 S 0 0 0 [(0, .ref a0), (1, .int a1), (2, .int a2), (3, .int a3)] [] (C (fX1_enter a0 a1 a2 a3 S)) := by
  unfold fX1_enter
  refine zr_aload_n h0 dX1_enter_0 rfl (n := 1) rfl ?_
  refine zr_getR C hC h0 zcX1 (k := 0) (by decide) zw_33 dX1_enter_1 (n := 4) rfl (fun v1 => ?_)
  refine zr_iload_n h0 dX1_enter_4 rfl (n := 5) rfl ?_
  refine zr_bipush (16 : Int32) h0 (by decide) dX1_enter_5 (n := 7) rfl ?_
  refine zr_imul h0 dX1_enter_7 (n := 8) rfl ?_
  refine zr_iload_n h0 dX1_enter_8 rfl (n := 9) rfl ?_
  refine zr_iadd h0 dX1_enter_9 (n := 10) rfl ?_
  refine zr_iload_n h0 dX1_enter_10 rfl (n := 11) rfl ?_
  refine zr_cMV C hC 0 0 (fun x hx => zk_SN (host := "Bilinearium") h0 (fun l D z0 => kX5_put l D z0 v1 ((a1 * (16 : Int32)) + a2) a3 S x hx) (by decide +kernel) zw_269 zw_1 zw_270 zyX5_put (As := [.ref v1, .int ((a1 * (16 : Int32)) + a2), .int a3]) (st := []) rfl (by decide) rfl (Nat.le_of_ble_eq_true rfl) (by decide) dX1_enter_11) rfl rfl (n := 14) rfl (fun x2 => ?_)
  exact zr_vret h0 rfl dX1_enter_14 (fun h => hE _ h) (by decide) (by decide)
theorem kX1_enter (l : Launch) (D : ZD) (z0 : Nat) (a0 : Nat) (a1 : Int32) (a2 : Int32) (a3 : Int32) (S : ZS) (x : ZS) (hf : fX1_enter a0 a1 a2 a3 S = some x) : zMet l D z0 yX1_enter cX1_enter 4 none rmX1_enter [.ref a0, .int a1, .int a2, .int a3] S none x :=
  zMet_of (by decide) (Nat.le_of_ble_eq_true rfl) (fun G h0 hini hE => wX1_enter a0 a1 a2 a3 S h0 (fun o => o = some x) (fun h => nomatch h) (fun S1 h => by cases h; exact hE)) hf
theorem dX1_take_0 : decode cX1_take 0 = .ok (.aload_n 0, 1) := by decide +kernel
theorem dX1_take_1 : decode cX1_take 1 = .ok (.aload_n 1, 1) := by decide +kernel
theorem dX1_take_2 : decode cX1_take 2 = .ok (.iload_n 2, 1) := by decide +kernel
theorem dX1_take_3 : decode cX1_take 3 = .ok (.invokevirtual 30, 3) := by decide +kernel
theorem dX1_take_6 : decode cX1_take 6 = .ok (.putfield 36, 3) := by decide +kernel
theorem dX1_take_9 : decode cX1_take 9 = .ok (.aload_n 0, 1) := by decide +kernel
theorem dX1_take_10 : decode cX1_take 10 = .ok (.iload_n 3, 1) := by decide +kernel
theorem dX1_take_11 : decode cX1_take 11 = .ok (.putfield 40, 3) := by decide +kernel
theorem dX1_take_14 : decode cX1_take 14 = .ok (.iconst 0, 1) := by decide +kernel
theorem dX1_take_15 : decode cX1_take 15 = .ok (.istore 4, 2) := by decide +kernel
theorem dX1_take_17 : decode cX1_take 17 = .ok (.iload 4, 2) := by decide +kernel
theorem dX1_take_19 : decode cX1_take 19 = .ok (.aload_n 0, 1) := by decide +kernel
theorem dX1_take_20 : decode cX1_take 20 = .ok (.getfield 36, 3) := by decide +kernel
theorem dX1_take_23 : decode cX1_take 23 = .ok (.if_icmp .ge 42, 3) := by decide +kernel
theorem dX1_take_26 : decode cX1_take 26 = .ok (.iconst 0, 1) := by decide +kernel
theorem dX1_take_27 : decode cX1_take 27 = .ok (.istore 5, 2) := by decide +kernel
theorem dX1_take_29 : decode cX1_take 29 = .ok (.iload 5, 2) := by decide +kernel
theorem dX1_take_31 : decode cX1_take 31 = .ok (.bipush 16, 2) := by decide +kernel
theorem dX1_take_33 : decode cX1_take 33 = .ok (.if_icmp .ge 26, 3) := by decide +kernel
theorem dX1_take_36 : decode cX1_take 36 = .ok (.aload_n 0, 1) := by decide +kernel
theorem dX1_take_37 : decode cX1_take 37 = .ok (.iload 4, 2) := by decide +kernel
theorem dX1_take_39 : decode cX1_take 39 = .ok (.iload 5, 2) := by decide +kernel
theorem dX1_take_41 : decode cX1_take 41 = .ok (.aload_n 1, 1) := by decide +kernel
theorem dX1_take_42 : decode cX1_take 42 = .ok (.iload_n 2, 1) := by decide +kernel
theorem dX1_take_43 : decode cX1_take 43 = .ok (.iload 4, 2) := by decide +kernel
theorem dX1_take_45 : decode cX1_take 45 = .ok (.iload 5, 2) := by decide +kernel
theorem dX1_take_47 : decode cX1_take 47 = .ok (.invokevirtual 43, 3) := by decide +kernel
theorem dX1_take_50 : decode cX1_take 50 = .ok (.invokevirtual 47, 3) := by decide +kernel
theorem dX1_take_53 : decode cX1_take 53 = .ok (.iinc 5 1, 3) := by decide +kernel
theorem dX1_take_56 : decode cX1_take 56 = .ok (.goto (-27), 3) := by decide +kernel
theorem dX1_take_59 : decode cX1_take 59 = .ok (.iinc 4 1, 3) := by decide +kernel
theorem dX1_take_62 : decode cX1_take 62 = .ok (.goto (-45), 3) := by decide +kernel
theorem dX1_take_65 : decode cX1_take 65 = .ok (.return_, 1) := by decide +kernel
abbrev rmX1_take : Room := { frames := 4, cells := 0, slots := 0, locals := 89 }
theorem zyX1_take : zyOK yX1_take 3 := ⟨by decide +kernel, by decide +kernel, by decide +kernel⟩
set_option maxHeartbeats 4000000 in
set_option maxRecDepth 100000 in
theorem wX1_take {G : ZG} (a0 : Nat) (a1 : Nat) (a2 : Int32) (a3 : Int32) (S : ZS) (h0 : zFix G cX1_take RX1 6 none rmX1_take) (C : Option ZS → Prop) (hC : ¬ C none) (hE : ∀ S1 : ZS, C (some S1) → zEnd G none S1 rmX1_take) : zV G 6 S 0 0 0 [(0, .ref a0), (1, .ref a1), (2, .int a2), (3, .int a3)] [] (C (fX1_take a0 a1 a2 a3 S)) := by
  unfold fX1_take
  refine zr_aload_n h0 dX1_take_0 rfl (n := 1) rfl ?_
  refine zr_aload_n h0 dX1_take_1 rfl (n := 2) rfl ?_
  refine zr_iload_n h0 dX1_take_2 rfl (n := 3) rfl ?_
  refine zr_cRI C hC 0 0 (fun x hx => zk_V h0 zcX0 (zcl_ex hx) (fun l D z0 => kX0_sizeOf l D z0 a1 a2 S x (zcl_of hx)) zw_592 zw_346 zw_347 zw_10 zw_348 rfl zyX0_sizeOf (As := [.int a2]) (st := [.ref a0]) rfl (by decide) rfl (Nat.le_of_ble_eq_true rfl) (by decide) dX1_take_3) rfl rfl (n := 6) rfl (fun x1 => ?_)
  refine zr_putF C hC h0 zcX1 (k := 1) (by decide) zw_34 rfl rfl rfl dX1_take_6 (n := 9) rfl (fun S2 => ?_)
  refine zr_aload_n h0 dX1_take_9 rfl (n := 10) rfl ?_
  refine zr_iload_n h0 dX1_take_10 rfl (n := 11) rfl ?_
  refine zr_putF C hC h0 zcX1 (k := 2) (by decide) zw_35 rfl rfl rfl dX1_take_11 (n := 14) rfl (fun S3 => ?_)
  refine zr_iconst (0 : Int32) h0 (by decide) dX1_take_14 (n := 15) rfl ?_
  refine zr_istore [(0, .ref a0), (1, .ref a1), (2, .int a2), (3, .int a3), (4, .int (0 : Int32))] h0 dX1_take_15 (by decide) rfl (n := 17) rfl ?_
  refine zv_sub (lv' := [(0, .ref a0), (1, .ref a1), (2, .int a2), (4, .int (0 : Int32))]) ?_ (zsub_of [0, 1, 2, 4] rfl)
  refine zr_loop hC (fX1_take_B17 a0 a1 a2) (fun y => [(0, .ref a0), (1, .ref a1), (2, .int a2), (4, .int y.1)]) (fun y => y.2) zF ((0 : Int32), S3) (fun C17 hC17 hX17 hL17 t17 => ?_)
  unfold fX1_take_B17
  refine zr_iload h0 dX1_take_17 rfl (n := 19) rfl ?_
  refine zr_aload_n h0 dX1_take_19 rfl (n := 20) rfl ?_
  refine zr_getI C17 hC17 h0 zcX1 (k := 1) (by decide) zw_34 dX1_take_20 (n := 23) rfl (fun v9 => ?_)
  refine zr_icmp_ge C17 (tgt := 65) h0 dX1_take_23 (by decide) (n := 26) rfl ?_ ?_
  · refine zr_ex hX17 ?_
    refine zv_sub (lv' := []) ?_ (zsub_of [] rfl)
    exact zr_vret h0 rfl dX1_take_65 (fun h => hE _ h) (by decide) (by decide)
  · refine zr_iconst (0 : Int32) h0 (by decide) dX1_take_26 (n := 27) rfl ?_
    refine zr_istore [(0, .ref a0), (1, .ref a1), (2, .int a2), (4, .int t17.1), (5, .int (0 : Int32))] h0 dX1_take_27 (by decide) rfl (n := 29) rfl ?_
    refine zr_loop hC17 (fX1_take_B29 a0 a1 a2 t17.1) (fun y => [(0, .ref a0), (1, .ref a1), (2, .int a2), (4, .int t17.1), (5, .int y.1)]) (fun y => y.2) zF ((0 : Int32), t17.2) (fun C29 hC29 hX29 hL29 t29 => ?_)
    unfold fX1_take_B29
    refine zr_iload h0 dX1_take_29 rfl (n := 31) rfl ?_
    refine zr_bipush (16 : Int32) h0 (by decide) dX1_take_31 (n := 33) rfl ?_
    refine zr_icmp_ge C29 (tgt := 59) h0 dX1_take_33 (by decide) (n := 36) rfl ?_ ?_
    · refine zr_ex hX29 ?_
      refine zv_sub (lv' := [(0, .ref a0), (1, .ref a1), (2, .int a2), (4, .int t17.1)]) ?_ (zsub_of [0, 1, 2, 3] rfl)
      refine zr_iinc (1 : Int32) [(0, .ref a0), (1, .ref a1), (2, .int a2), (4, .int (t17.1 + (1 : Int32)))] h0 dX1_take_59 rfl (by decide) rfl rfl (n := 62) rfl ?_
      refine zr_goto (tgt := 17) h0 dX1_take_62 (by decide) ?_
      exact hL17 (t17.1 + (1 : Int32), t29.2)
    · refine zr_aload_n h0 dX1_take_36 rfl (n := 37) rfl ?_
      refine zr_iload h0 dX1_take_37 rfl (n := 39) rfl ?_
      refine zr_iload h0 dX1_take_39 rfl (n := 41) rfl ?_
      refine zr_aload_n h0 dX1_take_41 rfl (n := 42) rfl ?_
      refine zr_iload_n h0 dX1_take_42 rfl (n := 43) rfl ?_
      refine zr_iload h0 dX1_take_43 rfl (n := 45) rfl ?_
      refine zr_iload h0 dX1_take_45 rfl (n := 47) rfl ?_
      refine zr_cRI C29 hC29 0 0 (fun x hx => zk_V h0 zcX0 (zcl_ex hx) (fun l D z0 => kX0_numberInSlice l D z0 a1 a2 t17.1 t29.1 t29.2 x (zcl_of hx)) zw_593 zw_594 zw_595 zw_10 zw_596 rfl zyX0_numberInSlice (As := [.int a2, .int t17.1, .int t29.1]) (st := [.int t29.1, .int t17.1, .ref a0]) rfl (by decide) rfl (Nat.le_of_ble_eq_true rfl) (by decide) dX1_take_47) rfl rfl (n := 50) rfl (fun x10 => ?_)
      refine zr_cMV C29 hC29 0 0 (fun x hx => zk_V h0 zcX1 (zcl_ex hx) (fun l D z0 => kX1_enter l D z0 a0 t17.1 t29.1 x10 t29.2 x (zcl_of hx)) zw_597 zw_599 zs_14 zw_2 zw_600 rfl zyX1_enter (As := [.int t17.1, .int t29.1, .int x10]) (st := []) rfl (by decide) rfl (Nat.le_of_ble_eq_true rfl) (by decide) dX1_take_50) rfl rfl (n := 53) rfl (fun x11 => ?_)
      refine zr_iinc (1 : Int32) [(0, .ref a0), (1, .ref a1), (2, .int a2), (4, .int t17.1), (5, .int (t29.1 + (1 : Int32)))] h0 dX1_take_53 rfl (by decide) rfl rfl (n := 56) rfl ?_
      refine zr_goto (tgt := 29) h0 dX1_take_56 (by decide) ?_
      exact hL29 (t29.1 + (1 : Int32), x11)
theorem kX1_take (l : Launch) (D : ZD) (z0 : Nat) (a0 : Nat) (a1 : Nat) (a2 : Int32) (a3 : Int32) (S : ZS) (x : ZS) (hf : fX1_take a0 a1 a2 a3 S = some x) : zMet l D z0 yX1_take cX1_take 6 none rmX1_take [.ref a0, .ref a1, .int a2, .int a3] S none x :=
  zMet_of (by decide) (Nat.le_of_ble_eq_true rfl) (fun G h0 hini hE => wX1_take a0 a1 a2 a3 S h0 (fun o => o = some x) (fun h => nomatch h) (fun S1 h => by cases h; exact hE)) hf
theorem dX1_number_0 : decode cX1_number 0 = .ok (.aload_n 0, 1) := by decide +kernel
theorem dX1_number_1 : decode cX1_number 1 = .ok (.getfield 9, 3) := by decide +kernel
theorem dX1_number_4 : decode cX1_number 4 = .ok (.iload_n 1, 1) := by decide +kernel
theorem dX1_number_5 : decode cX1_number 5 = .ok (.bipush 16, 2) := by decide +kernel
theorem dX1_number_7 : decode cX1_number 7 = .ok (.imul, 1) := by decide +kernel
theorem dX1_number_8 : decode cX1_number 8 = .ok (.iload_n 2, 1) := by decide +kernel
theorem dX1_number_9 : decode cX1_number 9 = .ok (.iadd, 1) := by decide +kernel
theorem dX1_number_10 : decode cX1_number 10 = .ok (.invokestatic 51, 3) := by decide +kernel
theorem dX1_number_13 : decode cX1_number 13 = .ok (.ireturn, 1) := by decide +kernel
abbrev rmX1_number : Room := { frames := 2, cells := 0, slots := 0, locals := 41 }
theorem zyX1_number : zyOK yX1_number 2 := ⟨by decide +kernel, by decide +kernel, by decide +kernel⟩
set_option maxHeartbeats 4000000 in
set_option maxRecDepth 100000 in
theorem wX1_number {G : ZG} (a0 : Nat) (a1 : Int32) (a2 : Int32) (S : ZS) (h0 : zFix G cX1_number RX1 3 (some .int) rmX1_number) (C : Option Int32 → Prop) (hC : ¬ C none) (hE : ∀ v : Int32, C (some v) → zEnd G (some (.int v)) S rmX1_number) : zV G 3 S 0 0 0 [(0, .ref a0), (1, .int a1), (2, .int a2)] [] (C (fX1_number a0 a1 a2 S)) := by
  unfold fX1_number
  refine zr_aload_n h0 dX1_number_0 rfl (n := 1) rfl ?_
  refine zr_getR C hC h0 zcX1 (k := 0) (by decide) zw_33 dX1_number_1 (n := 4) rfl (fun v1 => ?_)
  refine zr_iload_n h0 dX1_number_4 rfl (n := 5) rfl ?_
  refine zr_bipush (16 : Int32) h0 (by decide) dX1_number_5 (n := 7) rfl ?_
  refine zr_imul h0 dX1_number_7 (n := 8) rfl ?_
  refine zr_iload_n h0 dX1_number_8 rfl (n := 9) rfl ?_
  refine zr_iadd h0 dX1_number_9 (n := 10) rfl ?_
  refine zr_cRI C hC 0 0 (fun x hx => zk_SN (host := "Bilinearium") h0 (fun l D z0 => kX5_get l D z0 v1 ((a1 * (16 : Int32)) + a2) S x hx) (by decide +kernel) zw_329 zw_1 zw_330 zyX5_get (As := [.ref v1, .int ((a1 * (16 : Int32)) + a2)]) (st := []) rfl (by decide) rfl (Nat.le_of_ble_eq_true rfl) (by decide) dX1_number_10) rfl rfl (n := 13) rfl (fun x2 => ?_)
  exact zr_iret h0 rfl dX1_number_13 (hE _) (by decide) (by decide)
theorem kX1_number (l : Launch) (D : ZD) (z0 : Nat) (a0 : Nat) (a1 : Int32) (a2 : Int32) (S : ZS) (x : Int32) (hf : fX1_number a0 a1 a2 S = some x) : zMet l D z0 yX1_number cX1_number 3 (some .int) rmX1_number [.ref a0, .int a1, .int a2] S (some (.int x)) S :=
  zMet_of (by decide) (Nat.le_of_ble_eq_true rfl) (fun G h0 hini hE => wX1_number a0 a1 a2 S h0 (fun o => o = some x) (fun h => nomatch h) (fun v h => by cases h; exact hE)) hf
theorem dX1_rowWithNumber_0 : decode cX1_rowWithNumber 0 = .ok (.iload_n 2, 1) := by decide +kernel
theorem dX1_rowWithNumber_1 : decode cX1_rowWithNumber 1 = .ok (.istore_n 3, 1) := by decide +kernel
theorem dX1_rowWithNumber_2 : decode cX1_rowWithNumber 2 = .ok (.iload_n 3, 1) := by decide +kernel
theorem dX1_rowWithNumber_3 : decode cX1_rowWithNumber 3 = .ok (.aload_n 0, 1) := by decide +kernel
theorem dX1_rowWithNumber_4 : decode cX1_rowWithNumber 4 = .ok (.getfield 36, 3) := by decide +kernel
theorem dX1_rowWithNumber_7 : decode cX1_rowWithNumber 7 = .ok (.if_icmp .ge 20, 3) := by decide +kernel
theorem dX1_rowWithNumber_10 : decode cX1_rowWithNumber 10 = .ok (.aload_n 0, 1) := by decide +kernel
theorem dX1_rowWithNumber_11 : decode cX1_rowWithNumber 11 = .ok (.iload_n 3, 1) := by decide +kernel
theorem dX1_rowWithNumber_12 : decode cX1_rowWithNumber 12 = .ok (.iload_n 1, 1) := by decide +kernel
theorem dX1_rowWithNumber_13 : decode cX1_rowWithNumber 13 = .ok (.invokevirtual 59, 3) := by decide +kernel
theorem dX1_rowWithNumber_16 : decode cX1_rowWithNumber 16 = .ok (.ifCond .eq 5, 3) := by decide +kernel
theorem dX1_rowWithNumber_19 : decode cX1_rowWithNumber 19 = .ok (.iload_n 3, 1) := by decide +kernel
theorem dX1_rowWithNumber_20 : decode cX1_rowWithNumber 20 = .ok (.ireturn, 1) := by decide +kernel
theorem dX1_rowWithNumber_21 : decode cX1_rowWithNumber 21 = .ok (.iinc 3 1, 3) := by decide +kernel
theorem dX1_rowWithNumber_24 : decode cX1_rowWithNumber 24 = .ok (.goto (-22), 3) := by decide +kernel
theorem dX1_rowWithNumber_27 : decode cX1_rowWithNumber 27 = .ok (.iconst (-1), 1) := by decide +kernel
theorem dX1_rowWithNumber_28 : decode cX1_rowWithNumber 28 = .ok (.ireturn, 1) := by decide +kernel
abbrev rmX1_rowWithNumber : Room := { frames := 3, cells := 0, slots := 0, locals := 63 }
theorem zyX1_rowWithNumber : zyOK yX1_rowWithNumber 2 := ⟨by decide +kernel, by decide +kernel, by decide +kernel⟩
set_option maxHeartbeats 4000000 in
set_option maxRecDepth 100000 in
theorem wX1_rowWithNumber {G : ZG} (a0 : Nat) (a1 : Int32) (a2 : Int32) (S : ZS) (h0 : zFix G cX1_rowWithNumber RX1 4 (some .int) rmX1_rowWithNumber) (C : Option Int32 → Prop) (hC : ¬ C none) (hE : ∀ v : Int32, C (some v) → zEnd G (some (.int v)) S rmX1_rowWithNumber) : zV G 4 S 0 0 0 [(0, .ref a0), (1, .int a1), (2, .int a2)] [] (C (fX1_rowWithNumber a0 a1 a2 S)) := by
  unfold fX1_rowWithNumber
  refine zr_iload_n h0 dX1_rowWithNumber_0 rfl (n := 1) rfl ?_
  refine zr_istore_n [(0, .ref a0), (1, .int a1), (2, .int a2), (3, .int a2)] h0 dX1_rowWithNumber_1 (by decide) rfl (n := 2) rfl ?_
  refine zv_sub (lv' := [(0, .ref a0), (1, .int a1), (3, .int a2)]) ?_ (zsub_of [0, 1, 3] rfl)
  refine zr_loop hC (fX1_rowWithNumber_B2 a0 a1 S) (fun y => [(0, .ref a0), (1, .int a1), (3, .int y)]) (fun y => S) zF a2 (fun C2 hC2 hX2 hL2 t2 => ?_)
  unfold fX1_rowWithNumber_B2
  refine zr_iload_n h0 dX1_rowWithNumber_2 rfl (n := 3) rfl ?_
  refine zr_aload_n h0 dX1_rowWithNumber_3 rfl (n := 4) rfl ?_
  refine zr_getI C2 hC2 h0 zcX1 (k := 1) (by decide) zw_34 dX1_rowWithNumber_4 (n := 7) rfl (fun v3 => ?_)
  refine zr_icmp_ge C2 (tgt := 27) h0 dX1_rowWithNumber_7 (by decide) (n := 10) rfl ?_ ?_
  · refine zr_ex hX2 ?_
    refine zv_sub (lv' := []) ?_ (zsub_of [] rfl)
    refine zr_iconst (-1 : Int32) h0 (by decide) dX1_rowWithNumber_27 (n := 28) rfl ?_
    exact zr_iret h0 rfl dX1_rowWithNumber_28 (hE _) (by decide) (by decide)
  · refine zr_aload_n h0 dX1_rowWithNumber_10 rfl (n := 11) rfl ?_
    refine zr_iload_n h0 dX1_rowWithNumber_11 rfl (n := 12) rfl ?_
    refine zr_iload_n h0 dX1_rowWithNumber_12 rfl (n := 13) rfl ?_
    refine zr_cRI C2 hC2 0 0 (fun x hx => zk_V h0 zcX1 (zcl_ex hx) (fun l D z0 => kX1_number l D z0 a0 t2 a1 S x (zcl_of hx)) zw_606 zw_608 zs_16 zw_2 zw_609 rfl zyX1_number (As := [.int t2, .int a1]) (st := []) rfl (by decide) rfl (Nat.le_of_ble_eq_true rfl) (by decide) dX1_rowWithNumber_13) rfl rfl (n := 16) rfl (fun x4 => ?_)
    refine zr_if_eq C2 (tgt := 21) h0 dX1_rowWithNumber_16 (by decide) (n := 19) rfl ?_ ?_
    · refine zr_iinc (1 : Int32) [(0, .ref a0), (1, .int a1), (3, .int (t2 + (1 : Int32)))] h0 dX1_rowWithNumber_21 rfl (by decide) rfl rfl (n := 24) rfl ?_
      refine zr_goto (tgt := 2) h0 dX1_rowWithNumber_24 (by decide) ?_
      exact hL2 (t2 + (1 : Int32))
    · refine zr_ex hX2 ?_
      refine zv_sub (lv' := [(3, .int t2)]) ?_ (zsub_of [2] rfl)
      refine zr_iload_n h0 dX1_rowWithNumber_19 rfl (n := 20) rfl ?_
      exact zr_iret h0 rfl dX1_rowWithNumber_20 (hE _) (by decide) (by decide)
theorem kX1_rowWithNumber (l : Launch) (D : ZD) (z0 : Nat) (a0 : Nat) (a1 : Int32) (a2 : Int32) (S : ZS) (x : Int32) (hf : fX1_rowWithNumber a0 a1 a2 S = some x) : zMet l D z0 yX1_rowWithNumber cX1_rowWithNumber 4 (some .int) rmX1_rowWithNumber [.ref a0, .int a1, .int a2] S (some (.int x)) S :=
  zMet_of (by decide) (Nat.le_of_ble_eq_true rfl) (fun G h0 hini hE => wX1_rowWithNumber a0 a1 a2 S h0 (fun o => o = some x) (fun h => nomatch h) (fun v h => by cases h; exact hE)) hf
theorem dX1_swapRows_0 : decode cX1_swapRows 0 = .ok (.iconst 0, 1) := by decide +kernel
theorem dX1_swapRows_1 : decode cX1_swapRows 1 = .ok (.istore_n 3, 1) := by decide +kernel
theorem dX1_swapRows_2 : decode cX1_swapRows 2 = .ok (.iload_n 3, 1) := by decide +kernel
theorem dX1_swapRows_3 : decode cX1_swapRows 3 = .ok (.bipush 16, 2) := by decide +kernel
theorem dX1_swapRows_5 : decode cX1_swapRows 5 = .ok (.if_icmp .ge 37, 3) := by decide +kernel
theorem dX1_swapRows_8 : decode cX1_swapRows 8 = .ok (.aload_n 0, 1) := by decide +kernel
theorem dX1_swapRows_9 : decode cX1_swapRows 9 = .ok (.iload_n 1, 1) := by decide +kernel
theorem dX1_swapRows_10 : decode cX1_swapRows 10 = .ok (.iload_n 3, 1) := by decide +kernel
theorem dX1_swapRows_11 : decode cX1_swapRows 11 = .ok (.invokevirtual 59, 3) := by decide +kernel
theorem dX1_swapRows_14 : decode cX1_swapRows 14 = .ok (.istore 4, 2) := by decide +kernel
theorem dX1_swapRows_16 : decode cX1_swapRows 16 = .ok (.aload_n 0, 1) := by decide +kernel
theorem dX1_swapRows_17 : decode cX1_swapRows 17 = .ok (.iload_n 1, 1) := by decide +kernel
theorem dX1_swapRows_18 : decode cX1_swapRows 18 = .ok (.iload_n 3, 1) := by decide +kernel
theorem dX1_swapRows_19 : decode cX1_swapRows 19 = .ok (.aload_n 0, 1) := by decide +kernel
theorem dX1_swapRows_20 : decode cX1_swapRows 20 = .ok (.iload_n 2, 1) := by decide +kernel
theorem dX1_swapRows_21 : decode cX1_swapRows 21 = .ok (.iload_n 3, 1) := by decide +kernel
theorem dX1_swapRows_22 : decode cX1_swapRows 22 = .ok (.invokevirtual 59, 3) := by decide +kernel
theorem dX1_swapRows_25 : decode cX1_swapRows 25 = .ok (.invokevirtual 47, 3) := by decide +kernel
theorem dX1_swapRows_28 : decode cX1_swapRows 28 = .ok (.aload_n 0, 1) := by decide +kernel
theorem dX1_swapRows_29 : decode cX1_swapRows 29 = .ok (.iload_n 2, 1) := by decide +kernel
theorem dX1_swapRows_30 : decode cX1_swapRows 30 = .ok (.iload_n 3, 1) := by decide +kernel
theorem dX1_swapRows_31 : decode cX1_swapRows 31 = .ok (.iload 4, 2) := by decide +kernel
theorem dX1_swapRows_33 : decode cX1_swapRows 33 = .ok (.invokevirtual 47, 3) := by decide +kernel
theorem dX1_swapRows_36 : decode cX1_swapRows 36 = .ok (.iinc 3 1, 3) := by decide +kernel
theorem dX1_swapRows_39 : decode cX1_swapRows 39 = .ok (.goto (-37), 3) := by decide +kernel
theorem dX1_swapRows_42 : decode cX1_swapRows 42 = .ok (.return_, 1) := by decide +kernel
abbrev rmX1_swapRows : Room := { frames := 3, cells := 0, slots := 0, locals := 65 }
theorem zyX1_swapRows : zyOK yX1_swapRows 2 := ⟨by decide +kernel, by decide +kernel, by decide +kernel⟩
set_option maxHeartbeats 4000000 in
set_option maxRecDepth 100000 in
theorem wX1_swapRows {G : ZG} (a0 : Nat) (a1 : Int32) (a2 : Int32) (S : ZS) (h0 : zFix G cX1_swapRows RX1 5 none rmX1_swapRows) (C : Option ZS → Prop) (hC : ¬ C none) (hE : ∀ S1 : ZS, C (some S1) → zEnd G none S1 rmX1_swapRows) : zV G 5 S 0 0 0 [(0, .ref a0), (1, .int a1), (2, .int a2)] [] (C (fX1_swapRows a0 a1 a2 S)) := by
  unfold fX1_swapRows
  refine zr_iconst (0 : Int32) h0 (by decide) dX1_swapRows_0 (n := 1) rfl ?_
  refine zr_istore_n [(0, .ref a0), (1, .int a1), (2, .int a2), (3, .int (0 : Int32))] h0 dX1_swapRows_1 (by decide) rfl (n := 2) rfl ?_
  refine zr_loop hC (fX1_swapRows_B2 a0 a1 a2) (fun y => [(0, .ref a0), (1, .int a1), (2, .int a2), (3, .int y.1)]) (fun y => y.2) zF ((0 : Int32), S) (fun C2 hC2 hX2 hL2 t2 => ?_)
  unfold fX1_swapRows_B2
  refine zr_iload_n h0 dX1_swapRows_2 rfl (n := 3) rfl ?_
  refine zr_bipush (16 : Int32) h0 (by decide) dX1_swapRows_3 (n := 5) rfl ?_
  refine zr_icmp_ge C2 (tgt := 42) h0 dX1_swapRows_5 (by decide) (n := 8) rfl ?_ ?_
  · refine zr_ex hX2 ?_
    refine zv_sub (lv' := []) ?_ (zsub_of [] rfl)
    exact zr_vret h0 rfl dX1_swapRows_42 (fun h => hE _ h) (by decide) (by decide)
  · refine zr_aload_n h0 dX1_swapRows_8 rfl (n := 9) rfl ?_
    refine zr_iload_n h0 dX1_swapRows_9 rfl (n := 10) rfl ?_
    refine zr_iload_n h0 dX1_swapRows_10 rfl (n := 11) rfl ?_
    refine zr_cRI C2 hC2 0 0 (fun x hx => zk_V h0 zcX1 (zcl_ex hx) (fun l D z0 => kX1_number l D z0 a0 a1 t2.1 t2.2 x (zcl_of hx)) zw_606 zw_608 zs_16 zw_2 zw_609 rfl zyX1_number (As := [.int a1, .int t2.1]) (st := []) rfl (by decide) rfl (Nat.le_of_ble_eq_true rfl) (by decide) dX1_swapRows_11) rfl rfl (n := 14) rfl (fun x5 => ?_)
    refine zr_istore [(0, .ref a0), (1, .int a1), (2, .int a2), (3, .int t2.1), (4, .int x5)] h0 dX1_swapRows_14 (by decide) rfl (n := 16) rfl ?_
    refine zr_aload_n h0 dX1_swapRows_16 rfl (n := 17) rfl ?_
    refine zr_iload_n h0 dX1_swapRows_17 rfl (n := 18) rfl ?_
    refine zr_iload_n h0 dX1_swapRows_18 rfl (n := 19) rfl ?_
    refine zr_aload_n h0 dX1_swapRows_19 rfl (n := 20) rfl ?_
    refine zr_iload_n h0 dX1_swapRows_20 rfl (n := 21) rfl ?_
    refine zr_iload_n h0 dX1_swapRows_21 rfl (n := 22) rfl ?_
    refine zr_cRI C2 hC2 0 0 (fun x hx => zk_V h0 zcX1 (zcl_ex hx) (fun l D z0 => kX1_number l D z0 a0 a2 t2.1 t2.2 x (zcl_of hx)) zw_606 zw_608 zs_16 zw_2 zw_609 rfl zyX1_number (As := [.int a2, .int t2.1]) (st := [.int t2.1, .int a1, .ref a0]) rfl (by decide) rfl (Nat.le_of_ble_eq_true rfl) (by decide) dX1_swapRows_22) rfl rfl (n := 25) rfl (fun x6 => ?_)
    refine zr_cMV C2 hC2 0 0 (fun x hx => zk_V h0 zcX1 (zcl_ex hx) (fun l D z0 => kX1_enter l D z0 a0 a1 t2.1 x6 t2.2 x (zcl_of hx)) zw_597 zw_599 zs_14 zw_2 zw_600 rfl zyX1_enter (As := [.int a1, .int t2.1, .int x6]) (st := []) rfl (by decide) rfl (Nat.le_of_ble_eq_true rfl) (by decide) dX1_swapRows_25) rfl rfl (n := 28) rfl (fun x7 => ?_)
    refine zr_aload_n h0 dX1_swapRows_28 rfl (n := 29) rfl ?_
    refine zr_iload_n h0 dX1_swapRows_29 rfl (n := 30) rfl ?_
    refine zr_iload_n h0 dX1_swapRows_30 rfl (n := 31) rfl ?_
    refine zr_iload h0 dX1_swapRows_31 rfl (n := 33) rfl ?_
    refine zr_cMV C2 hC2 0 0 (fun x hx => zk_V h0 zcX1 (zcl_ex hx) (fun l D z0 => kX1_enter l D z0 a0 a2 t2.1 x5 x7 x (zcl_of hx)) zw_597 zw_599 zs_14 zw_2 zw_600 rfl zyX1_enter (As := [.int a2, .int t2.1, .int x5]) (st := []) rfl (by decide) rfl (Nat.le_of_ble_eq_true rfl) (by decide) dX1_swapRows_33) rfl rfl (n := 36) rfl (fun x8 => ?_)
    refine zr_iinc (1 : Int32) [(0, .ref a0), (1, .int a1), (2, .int a2), (3, .int (t2.1 + (1 : Int32))), (4, .int x5)] h0 dX1_swapRows_36 rfl (by decide) rfl rfl (n := 39) rfl ?_
    refine zr_goto (tgt := 2) h0 dX1_swapRows_39 (by decide) ?_
    refine zv_sub (lv' := [(0, .ref a0), (1, .int a1), (2, .int a2), (3, .int (t2.1 + (1 : Int32)))]) ?_ (zsub_of [0, 1, 2, 3] rfl)
    exact hL2 (t2.1 + (1 : Int32), x8)
theorem kX1_swapRows (l : Launch) (D : ZD) (z0 : Nat) (a0 : Nat) (a1 : Int32) (a2 : Int32) (S : ZS) (x : ZS) (hf : fX1_swapRows a0 a1 a2 S = some x) : zMet l D z0 yX1_swapRows cX1_swapRows 5 none rmX1_swapRows [.ref a0, .int a1, .int a2] S none x :=
  zMet_of (by decide) (Nat.le_of_ble_eq_true rfl) (fun G h0 hini hE => wX1_swapRows a0 a1 a2 S h0 (fun o => o = some x) (fun h => nomatch h) (fun S1 h => by cases h; exact hE)) hf
theorem dX1_clearBelow_0 : decode cX1_clearBelow 0 = .ok (.aload_n 0, 1) := by decide +kernel
theorem dX1_clearBelow_1 : decode cX1_clearBelow 1 = .ok (.iload_n 2, 1) := by decide +kernel
theorem dX1_clearBelow_2 : decode cX1_clearBelow 2 = .ok (.iload_n 1, 1) := by decide +kernel
theorem dX1_clearBelow_3 : decode cX1_clearBelow 3 = .ok (.invokevirtual 59, 3) := by decide +kernel
theorem dX1_clearBelow_6 : decode cX1_clearBelow 6 = .ok (.istore_n 3, 1) := by decide +kernel
theorem dX1_clearBelow_7 : decode cX1_clearBelow 7 = .ok (.iload_n 2, 1) := by decide +kernel
theorem dX1_clearBelow_8 : decode cX1_clearBelow 8 = .ok (.iconst 1, 1) := by decide +kernel
theorem dX1_clearBelow_9 : decode cX1_clearBelow 9 = .ok (.iadd, 1) := by decide +kernel
theorem dX1_clearBelow_10 : decode cX1_clearBelow 10 = .ok (.istore 4, 2) := by decide +kernel
theorem dX1_clearBelow_12 : decode cX1_clearBelow 12 = .ok (.iload 4, 2) := by decide +kernel
theorem dX1_clearBelow_14 : decode cX1_clearBelow 14 = .ok (.aload_n 0, 1) := by decide +kernel
theorem dX1_clearBelow_15 : decode cX1_clearBelow 15 = .ok (.getfield 36, 3) := by decide +kernel
theorem dX1_clearBelow_18 : decode cX1_clearBelow 18 = .ok (.if_icmp .ge 75, 3) := by decide +kernel
theorem dX1_clearBelow_21 : decode cX1_clearBelow 21 = .ok (.aload_n 0, 1) := by decide +kernel
theorem dX1_clearBelow_22 : decode cX1_clearBelow 22 = .ok (.getfield 40, 3) := by decide +kernel
theorem dX1_clearBelow_25 : decode cX1_clearBelow 25 = .ok (.aload_n 0, 1) := by decide +kernel
theorem dX1_clearBelow_26 : decode cX1_clearBelow 26 = .ok (.iload 4, 2) := by decide +kernel
theorem dX1_clearBelow_28 : decode cX1_clearBelow 28 = .ok (.iload_n 1, 1) := by decide +kernel
theorem dX1_clearBelow_29 : decode cX1_clearBelow 29 = .ok (.invokevirtual 59, 3) := by decide +kernel
theorem dX1_clearBelow_32 : decode cX1_clearBelow 32 = .ok (.isub, 1) := by decide +kernel
theorem dX1_clearBelow_33 : decode cX1_clearBelow 33 = .ok (.istore 5, 2) := by decide +kernel
theorem dX1_clearBelow_35 : decode cX1_clearBelow 35 = .ok (.iload_n 1, 1) := by decide +kernel
theorem dX1_clearBelow_36 : decode cX1_clearBelow 36 = .ok (.istore 6, 2) := by decide +kernel
theorem dX1_clearBelow_38 : decode cX1_clearBelow 38 = .ok (.iload 6, 2) := by decide +kernel
theorem dX1_clearBelow_40 : decode cX1_clearBelow 40 = .ok (.bipush 16, 2) := by decide +kernel
theorem dX1_clearBelow_42 : decode cX1_clearBelow 42 = .ok (.if_icmp .ge 45, 3) := by decide +kernel
theorem dX1_clearBelow_45 : decode cX1_clearBelow 45 = .ok (.aload_n 0, 1) := by decide +kernel
theorem dX1_clearBelow_46 : decode cX1_clearBelow 46 = .ok (.iload 4, 2) := by decide +kernel
theorem dX1_clearBelow_48 : decode cX1_clearBelow 48 = .ok (.iload 6, 2) := by decide +kernel
theorem dX1_clearBelow_50 : decode cX1_clearBelow 50 = .ok (.iload_n 3, 1) := by decide +kernel
theorem dX1_clearBelow_51 : decode cX1_clearBelow 51 = .ok (.aload_n 0, 1) := by decide +kernel
theorem dX1_clearBelow_52 : decode cX1_clearBelow 52 = .ok (.iload 4, 2) := by decide +kernel
theorem dX1_clearBelow_54 : decode cX1_clearBelow 54 = .ok (.iload 6, 2) := by decide +kernel
theorem dX1_clearBelow_56 : decode cX1_clearBelow 56 = .ok (.invokevirtual 59, 3) := by decide +kernel
theorem dX1_clearBelow_59 : decode cX1_clearBelow 59 = .ok (.imul, 1) := by decide +kernel
theorem dX1_clearBelow_60 : decode cX1_clearBelow 60 = .ok (.iload 5, 2) := by decide +kernel
theorem dX1_clearBelow_62 : decode cX1_clearBelow 62 = .ok (.aload_n 0, 1) := by decide +kernel
theorem dX1_clearBelow_63 : decode cX1_clearBelow 63 = .ok (.iload_n 2, 1) := by decide +kernel
theorem dX1_clearBelow_64 : decode cX1_clearBelow 64 = .ok (.iload 6, 2) := by decide +kernel
theorem dX1_clearBelow_66 : decode cX1_clearBelow 66 = .ok (.invokevirtual 59, 3) := by decide +kernel
theorem dX1_clearBelow_69 : decode cX1_clearBelow 69 = .ok (.imul, 1) := by decide +kernel
theorem dX1_clearBelow_70 : decode cX1_clearBelow 70 = .ok (.iadd, 1) := by decide +kernel
theorem dX1_clearBelow_71 : decode cX1_clearBelow 71 = .ok (.aload_n 0, 1) := by decide +kernel
theorem dX1_clearBelow_72 : decode cX1_clearBelow 72 = .ok (.getfield 40, 3) := by decide +kernel
theorem dX1_clearBelow_75 : decode cX1_clearBelow 75 = .ok (.invokestatic 62, 3) := by decide +kernel
theorem dX1_clearBelow_78 : decode cX1_clearBelow 78 = .ok (.invokevirtual 47, 3) := by decide +kernel
theorem dX1_clearBelow_81 : decode cX1_clearBelow 81 = .ok (.iinc 6 1, 3) := by decide +kernel
theorem dX1_clearBelow_84 : decode cX1_clearBelow 84 = .ok (.goto (-46), 3) := by decide +kernel
theorem dX1_clearBelow_87 : decode cX1_clearBelow 87 = .ok (.iinc 4 1, 3) := by decide +kernel
theorem dX1_clearBelow_90 : decode cX1_clearBelow 90 = .ok (.goto (-78), 3) := by decide +kernel
theorem dX1_clearBelow_93 : decode cX1_clearBelow 93 = .ok (.return_, 1) := by decide +kernel
abbrev rmX1_clearBelow : Room := { frames := 3, cells := 0, slots := 0, locals := 65 }
theorem zyX1_clearBelow : zyOK yX1_clearBelow 2 := ⟨by decide +kernel, by decide +kernel, by decide +kernel⟩
set_option maxHeartbeats 4000000 in
set_option maxRecDepth 100000 in
theorem wX1_clearBelow {G : ZG} (a0 : Nat) (a1 : Int32) (a2 : Int32) (S : ZS) (h0 : zFix G cX1_clearBelow RX1 7 none rmX1_clearBelow) (C : Option ZS → Prop) (hC : ¬ C none) (hE : ∀ S1 : ZS, C (some S1) → zEnd G none S1 rmX1_clearBelow) : zV G 7 S 0 0 0 [(0, .ref a0), (1, .int a1), (2, .int a2)] [] (C (fX1_clearBelow a0 a1 a2 S)) := by
  unfold fX1_clearBelow
  refine zr_aload_n h0 dX1_clearBelow_0 rfl (n := 1) rfl ?_
  refine zr_iload_n h0 dX1_clearBelow_1 rfl (n := 2) rfl ?_
  refine zr_iload_n h0 dX1_clearBelow_2 rfl (n := 3) rfl ?_
  refine zr_cRI C hC 0 0 (fun x hx => zk_V h0 zcX1 (zcl_ex hx) (fun l D z0 => kX1_number l D z0 a0 a2 a1 S x (zcl_of hx)) zw_606 zw_608 zs_16 zw_2 zw_609 rfl zyX1_number (As := [.int a2, .int a1]) (st := []) rfl (by decide) rfl (Nat.le_of_ble_eq_true rfl) (by decide) dX1_clearBelow_3) rfl rfl (n := 6) rfl (fun x1 => ?_)
  refine zr_istore_n [(0, .ref a0), (1, .int a1), (2, .int a2), (3, .int x1)] h0 dX1_clearBelow_6 (by decide) rfl (n := 7) rfl ?_
  refine zr_iload_n h0 dX1_clearBelow_7 rfl (n := 8) rfl ?_
  refine zr_iconst (1 : Int32) h0 (by decide) dX1_clearBelow_8 (n := 9) rfl ?_
  refine zr_iadd h0 dX1_clearBelow_9 (n := 10) rfl ?_
  refine zr_istore [(0, .ref a0), (1, .int a1), (2, .int a2), (3, .int x1), (4, .int (a2 + (1 : Int32)))] h0 dX1_clearBelow_10 (by decide) rfl (n := 12) rfl ?_
  refine zr_loop hC (fX1_clearBelow_B12 a0 a1 a2 x1) (fun y => [(0, .ref a0), (1, .int a1), (2, .int a2), (3, .int x1), (4, .int y.1)]) (fun y => y.2) zF (a2 + (1 : Int32), S) (fun C12 hC12 hX12 hL12 t12 => ?_)
  unfold fX1_clearBelow_B12
  refine zr_iload h0 dX1_clearBelow_12 rfl (n := 14) rfl ?_
  refine zr_aload_n h0 dX1_clearBelow_14 rfl (n := 15) rfl ?_
  refine zr_getI C12 hC12 h0 zcX1 (k := 1) (by decide) zw_34 dX1_clearBelow_15 (n := 18) rfl (fun v15 => ?_)
  refine zr_icmp_ge C12 (tgt := 93) h0 dX1_clearBelow_18 (by decide) (n := 21) rfl ?_ ?_
  · refine zr_ex hX12 ?_
    refine zv_sub (lv' := []) ?_ (zsub_of [] rfl)
    exact zr_vret h0 rfl dX1_clearBelow_93 (fun h => hE _ h) (by decide) (by decide)
  · refine zr_aload_n h0 dX1_clearBelow_21 rfl (n := 22) rfl ?_
    refine zr_getI C12 hC12 h0 zcX1 (k := 2) (by decide) zw_35 dX1_clearBelow_22 (n := 25) rfl (fun v16 => ?_)
    refine zr_aload_n h0 dX1_clearBelow_25 rfl (n := 26) rfl ?_
    refine zr_iload h0 dX1_clearBelow_26 rfl (n := 28) rfl ?_
    refine zr_iload_n h0 dX1_clearBelow_28 rfl (n := 29) rfl ?_
    refine zr_cRI C12 hC12 0 0 (fun x hx => zk_V h0 zcX1 (zcl_ex hx) (fun l D z0 => kX1_number l D z0 a0 t12.1 a1 t12.2 x (zcl_of hx)) zw_606 zw_608 zs_16 zw_2 zw_609 rfl zyX1_number (As := [.int t12.1, .int a1]) (st := [.int v16]) rfl (by decide) rfl (Nat.le_of_ble_eq_true rfl) (by decide) dX1_clearBelow_29) rfl rfl (n := 32) rfl (fun x17 => ?_)
    refine zr_isub h0 dX1_clearBelow_32 (n := 33) rfl ?_
    refine zr_istore [(0, .ref a0), (1, .int a1), (2, .int a2), (3, .int x1), (4, .int t12.1), (5, .int (v16 - x17))] h0 dX1_clearBelow_33 (by decide) rfl (n := 35) rfl ?_
    refine zr_iload_n h0 dX1_clearBelow_35 rfl (n := 36) rfl ?_
    refine zr_istore [(0, .ref a0), (1, .int a1), (2, .int a2), (3, .int x1), (4, .int t12.1), (5, .int (v16 - x17)), (6, .int a1)] h0 dX1_clearBelow_36 (by decide) rfl (n := 38) rfl ?_
    refine zr_loop hC12 (fX1_clearBelow_B38 a0 a1 a2 x1 t12.1 (v16 - x17)) (fun y => [(0, .ref a0), (1, .int a1), (2, .int a2), (3, .int x1), (4, .int t12.1), (5, .int (v16 - x17)), (6, .int y.1)]) (fun y => y.2) zF (a1, t12.2) (fun C38 hC38 hX38 hL38 t38 => ?_)
    unfold fX1_clearBelow_B38
    refine zr_iload h0 dX1_clearBelow_38 rfl (n := 40) rfl ?_
    refine zr_bipush (16 : Int32) h0 (by decide) dX1_clearBelow_40 (n := 42) rfl ?_
    refine zr_icmp_ge C38 (tgt := 87) h0 dX1_clearBelow_42 (by decide) (n := 45) rfl ?_ ?_
    · refine zr_ex hX38 ?_
      refine zv_sub (lv' := [(0, .ref a0), (1, .int a1), (2, .int a2), (3, .int x1), (4, .int t12.1)]) ?_ (zsub_of [0, 1, 2, 3, 4] rfl)
      refine zr_iinc (1 : Int32) [(0, .ref a0), (1, .int a1), (2, .int a2), (3, .int x1), (4, .int (t12.1 + (1 : Int32)))] h0 dX1_clearBelow_87 rfl (by decide) rfl rfl (n := 90) rfl ?_
      refine zr_goto (tgt := 12) h0 dX1_clearBelow_90 (by decide) ?_
      exact hL12 (t12.1 + (1 : Int32), t38.2)
    · refine zr_aload_n h0 dX1_clearBelow_45 rfl (n := 46) rfl ?_
      refine zr_iload h0 dX1_clearBelow_46 rfl (n := 48) rfl ?_
      refine zr_iload h0 dX1_clearBelow_48 rfl (n := 50) rfl ?_
      refine zr_iload_n h0 dX1_clearBelow_50 rfl (n := 51) rfl ?_
      refine zr_aload_n h0 dX1_clearBelow_51 rfl (n := 52) rfl ?_
      refine zr_iload h0 dX1_clearBelow_52 rfl (n := 54) rfl ?_
      refine zr_iload h0 dX1_clearBelow_54 rfl (n := 56) rfl ?_
      refine zr_cRI C38 hC38 0 0 (fun x hx => zk_V h0 zcX1 (zcl_ex hx) (fun l D z0 => kX1_number l D z0 a0 t12.1 t38.1 t38.2 x (zcl_of hx)) zw_606 zw_608 zs_16 zw_2 zw_609 rfl zyX1_number (As := [.int t12.1, .int t38.1]) (st := [.int x1, .int t38.1, .int t12.1, .ref a0]) rfl (by decide) rfl (Nat.le_of_ble_eq_true rfl) (by decide) dX1_clearBelow_56) rfl rfl (n := 59) rfl (fun x18 => ?_)
      refine zr_imul h0 dX1_clearBelow_59 (n := 60) rfl ?_
      refine zr_iload h0 dX1_clearBelow_60 rfl (n := 62) rfl ?_
      refine zr_aload_n h0 dX1_clearBelow_62 rfl (n := 63) rfl ?_
      refine zr_iload_n h0 dX1_clearBelow_63 rfl (n := 64) rfl ?_
      refine zr_iload h0 dX1_clearBelow_64 rfl (n := 66) rfl ?_
      refine zr_cRI C38 hC38 0 0 (fun x hx => zk_V h0 zcX1 (zcl_ex hx) (fun l D z0 => kX1_number l D z0 a0 a2 t38.1 t38.2 x (zcl_of hx)) zw_606 zw_608 zs_16 zw_2 zw_609 rfl zyX1_number (As := [.int a2, .int t38.1]) (st := [.int (v16 - x17), .int (x1 * x18), .int t38.1, .int t12.1, .ref a0]) rfl (by decide) rfl (Nat.le_of_ble_eq_true rfl) (by decide) dX1_clearBelow_66) rfl rfl (n := 69) rfl (fun x19 => ?_)
      refine zr_imul h0 dX1_clearBelow_69 (n := 70) rfl ?_
      refine zr_iadd h0 dX1_clearBelow_70 (n := 71) rfl ?_
      refine zr_aload_n h0 dX1_clearBelow_71 rfl (n := 72) rfl ?_
      refine zr_getI C38 hC38 h0 zcX1 (k := 2) (by decide) zw_35 dX1_clearBelow_72 (n := 75) rfl (fun v20 => ?_)
      refine zr_cRI C38 hC38 0 0 (fun x hx => zk_SN (host := "Bilinearium") h0 (fun l D z0 => kX5_remainder l D z0 ((x1 * x18) + ((v16 - x17) * x19)) v20 t38.2 x hx) (by decide +kernel) zw_286 zw_1 zw_287 zyX5_remainder (As := [.int ((x1 * x18) + ((v16 - x17) * x19)), .int v20]) (st := [.int t38.1, .int t12.1, .ref a0]) rfl (by decide) rfl (Nat.le_of_ble_eq_true rfl) (by decide) dX1_clearBelow_75) rfl rfl (n := 78) rfl (fun x21 => ?_)
      refine zr_cMV C38 hC38 0 0 (fun x hx => zk_V h0 zcX1 (zcl_ex hx) (fun l D z0 => kX1_enter l D z0 a0 t12.1 t38.1 x21 t38.2 x (zcl_of hx)) zw_597 zw_599 zs_14 zw_2 zw_600 rfl zyX1_enter (As := [.int t12.1, .int t38.1, .int x21]) (st := []) rfl (by decide) rfl (Nat.le_of_ble_eq_true rfl) (by decide) dX1_clearBelow_78) rfl rfl (n := 81) rfl (fun x22 => ?_)
      refine zr_iinc (1 : Int32) [(0, .ref a0), (1, .int a1), (2, .int a2), (3, .int x1), (4, .int t12.1), (5, .int (v16 - x17)), (6, .int (t38.1 + (1 : Int32)))] h0 dX1_clearBelow_81 rfl (by decide) rfl rfl (n := 84) rfl ?_
      refine zr_goto (tgt := 38) h0 dX1_clearBelow_84 (by decide) ?_
      exact hL38 (t38.1 + (1 : Int32), x22)
theorem kX1_clearBelow (l : Launch) (D : ZD) (z0 : Nat) (a0 : Nat) (a1 : Int32) (a2 : Int32) (S : ZS) (x : ZS) (hf : fX1_clearBelow a0 a1 a2 S = some x) : zMet l D z0 yX1_clearBelow cX1_clearBelow 7 none rmX1_clearBelow [.ref a0, .int a1, .int a2] S none x :=
  zMet_of (by decide) (Nat.le_of_ble_eq_true rfl) (fun G h0 hini hE => wX1_clearBelow a0 a1 a2 S h0 (fun o => o = some x) (fun h => nomatch h) (fun S1 h => by cases h; exact hE)) hf
