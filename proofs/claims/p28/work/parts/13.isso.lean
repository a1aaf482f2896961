theorem dL_areAlike_0 : decode cL_areAlike 0 = .ok (.iconst 1, 1) := by decide +kernel
theorem dL_areAlike_1 : decode cL_areAlike 1 = .ok (.istore_n 3, 1) := by decide +kernel
theorem dL_areAlike_2 : decode cL_areAlike 2 = .ok (.iconst 0, 1) := by decide +kernel
theorem dL_areAlike_3 : decode cL_areAlike 3 = .ok (.istore 4, 2) := by decide +kernel
theorem dL_areAlike_5 : decode cL_areAlike 5 = .ok (.iload 4, 2) := by decide +kernel
theorem dL_areAlike_7 : decode cL_areAlike 7 = .ok (.iconst 4, 1) := by decide +kernel
theorem dL_areAlike_8 : decode cL_areAlike 8 = .ok (.if_icmp .ge 139, 3) := by decide +kernel
theorem dL_areAlike_11 : decode cL_areAlike 11 = .ok (.iload_n 3, 1) := by decide +kernel
theorem dL_areAlike_12 : decode cL_areAlike 12 = .ok (.ifCond .eq 135, 3) := by decide +kernel
theorem dL_areAlike_15 : decode cL_areAlike 15 = .ok (.aload_n 0, 1) := by decide +kernel
theorem dL_areAlike_16 : decode cL_areAlike 16 = .ok (.iload 4, 2) := by decide +kernel
theorem dL_areAlike_18 : decode cL_areAlike 18 = .ok (.iconst 0, 1) := by decide +kernel
theorem dL_areAlike_19 : decode cL_areAlike 19 = .ok (.iload_n 2, 1) := by decide +kernel
theorem dL_areAlike_20 : decode cL_areAlike 20 = .ok (.iconst 2, 1) := by decide +kernel
theorem dL_areAlike_21 : decode cL_areAlike 21 = .ok (.invokestatic 101, 3) := by decide +kernel
theorem dL_areAlike_24 : decode cL_areAlike 24 = .ok (.iload_n 2, 1) := by decide +kernel
theorem dL_areAlike_25 : decode cL_areAlike 25 = .ok (.iconst 1, 1) := by decide +kernel
theorem dL_areAlike_26 : decode cL_areAlike 26 = .ok (.ishr, 1) := by decide +kernel
theorem dL_areAlike_27 : decode cL_areAlike 27 = .ok (.iconst 2, 1) := by decide +kernel
theorem dL_areAlike_28 : decode cL_areAlike 28 = .ok (.invokestatic 101, 3) := by decide +kernel
theorem dL_areAlike_31 : decode cL_areAlike 31 = .ok (.invokestatic 140, 3) := by decide +kernel
theorem dL_areAlike_34 : decode cL_areAlike 34 = .ok (.aload_n 1, 1) := by decide +kernel
theorem dL_areAlike_35 : decode cL_areAlike 35 = .ok (.iload 4, 2) := by decide +kernel
theorem dL_areAlike_37 : decode cL_areAlike 37 = .ok (.iconst 0, 1) := by decide +kernel
theorem dL_areAlike_38 : decode cL_areAlike 38 = .ok (.iload_n 2, 1) := by decide +kernel
theorem dL_areAlike_39 : decode cL_areAlike 39 = .ok (.iconst 2, 1) := by decide +kernel
theorem dL_areAlike_40 : decode cL_areAlike 40 = .ok (.invokestatic 101, 3) := by decide +kernel
theorem dL_areAlike_43 : decode cL_areAlike 43 = .ok (.iload_n 2, 1) := by decide +kernel
theorem dL_areAlike_44 : decode cL_areAlike 44 = .ok (.iconst 1, 1) := by decide +kernel
theorem dL_areAlike_45 : decode cL_areAlike 45 = .ok (.ishr, 1) := by decide +kernel
theorem dL_areAlike_46 : decode cL_areAlike 46 = .ok (.iconst 2, 1) := by decide +kernel
theorem dL_areAlike_47 : decode cL_areAlike 47 = .ok (.invokestatic 101, 3) := by decide +kernel
theorem dL_areAlike_50 : decode cL_areAlike 50 = .ok (.invokestatic 140, 3) := by decide +kernel
theorem dL_areAlike_53 : decode cL_areAlike 53 = .ok (.if_icmp .ne 86, 3) := by decide +kernel
theorem dL_areAlike_56 : decode cL_areAlike 56 = .ok (.aload_n 0, 1) := by decide +kernel
theorem dL_areAlike_57 : decode cL_areAlike 57 = .ok (.iload 4, 2) := by decide +kernel
theorem dL_areAlike_59 : decode cL_areAlike 59 = .ok (.invokestatic 144, 3) := by decide +kernel
theorem dL_areAlike_62 : decode cL_areAlike 62 = .ok (.aload_n 1, 1) := by decide +kernel
theorem dL_areAlike_63 : decode cL_areAlike 63 = .ok (.iload 4, 2) := by decide +kernel
theorem dL_areAlike_65 : decode cL_areAlike 65 = .ok (.invokestatic 144, 3) := by decide +kernel
theorem dL_areAlike_68 : decode cL_areAlike 68 = .ok (.if_icmp .ne 71, 3) := by decide +kernel
theorem dL_areAlike_71 : decode cL_areAlike 71 = .ok (.aload_n 0, 1) := by decide +kernel
theorem dL_areAlike_72 : decode cL_areAlike 72 = .ok (.iload 4, 2) := by decide +kernel
theorem dL_areAlike_74 : decode cL_areAlike 74 = .ok (.iload_n 2, 1) := by decide +kernel
theorem dL_areAlike_75 : decode cL_areAlike 75 = .ok (.iconst 5, 1) := by decide +kernel
theorem dL_areAlike_76 : decode cL_areAlike 76 = .ok (.invokestatic 101, 3) := by decide +kernel
theorem dL_areAlike_79 : decode cL_areAlike 79 = .ok (.invokestatic 157, 3) := by decide +kernel
theorem dL_areAlike_82 : decode cL_areAlike 82 = .ok (.aload_n 1, 1) := by decide +kernel
theorem dL_areAlike_83 : decode cL_areAlike 83 = .ok (.iload 4, 2) := by decide +kernel
theorem dL_areAlike_85 : decode cL_areAlike 85 = .ok (.iload_n 2, 1) := by decide +kernel
theorem dL_areAlike_86 : decode cL_areAlike 86 = .ok (.iconst 5, 1) := by decide +kernel
theorem dL_areAlike_87 : decode cL_areAlike 87 = .ok (.invokestatic 101, 3) := by decide +kernel
theorem dL_areAlike_90 : decode cL_areAlike 90 = .ok (.invokestatic 157, 3) := by decide +kernel
theorem dL_areAlike_93 : decode cL_areAlike 93 = .ok (.if_icmp .ne 46, 3) := by decide +kernel
theorem dL_areAlike_96 : decode cL_areAlike 96 = .ok (.aload_n 0, 1) := by decide +kernel
theorem dL_areAlike_97 : decode cL_areAlike 97 = .ok (.iload 4, 2) := by decide +kernel
theorem dL_areAlike_99 : decode cL_areAlike 99 = .ok (.iload_n 2, 1) := by decide +kernel
theorem dL_areAlike_100 : decode cL_areAlike 100 = .ok (.iconst 3, 1) := by decide +kernel
theorem dL_areAlike_101 : decode cL_areAlike 101 = .ok (.invokestatic 101, 3) := by decide +kernel
theorem dL_areAlike_104 : decode cL_areAlike 104 = .ok (.iload_n 2, 1) := by decide +kernel
theorem dL_areAlike_105 : decode cL_areAlike 105 = .ok (.iconst 2, 1) := by decide +kernel
theorem dL_areAlike_106 : decode cL_areAlike 106 = .ok (.ishr, 1) := by decide +kernel
theorem dL_areAlike_107 : decode cL_areAlike 107 = .ok (.iconst 3, 1) := by decide +kernel
theorem dL_areAlike_108 : decode cL_areAlike 108 = .ok (.invokestatic 101, 3) := by decide +kernel
theorem dL_areAlike_111 : decode cL_areAlike 111 = .ok (.invokestatic 148, 3) := by decide +kernel
theorem dL_areAlike_114 : decode cL_areAlike 114 = .ok (.aload_n 1, 1) := by decide +kernel
theorem dL_areAlike_115 : decode cL_areAlike 115 = .ok (.iload 4, 2) := by decide +kernel
theorem dL_areAlike_117 : decode cL_areAlike 117 = .ok (.iload_n 2, 1) := by decide +kernel
theorem dL_areAlike_118 : decode cL_areAlike 118 = .ok (.iconst 3, 1) := by decide +kernel
theorem dL_areAlike_119 : decode cL_areAlike 119 = .ok (.invokestatic 101, 3) := by decide +kernel
theorem dL_areAlike_122 : decode cL_areAlike 122 = .ok (.iload_n 2, 1) := by decide +kernel
theorem dL_areAlike_123 : decode cL_areAlike 123 = .ok (.iconst 2, 1) := by decide +kernel
theorem dL_areAlike_124 : decode cL_areAlike 124 = .ok (.ishr, 1) := by decide +kernel
theorem dL_areAlike_125 : decode cL_areAlike 125 = .ok (.iconst 3, 1) := by decide +kernel
theorem dL_areAlike_126 : decode cL_areAlike 126 = .ok (.invokestatic 101, 3) := by decide +kernel
theorem dL_areAlike_129 : decode cL_areAlike 129 = .ok (.invokestatic 148, 3) := by decide +kernel
theorem dL_areAlike_132 : decode cL_areAlike 132 = .ok (.if_icmp .ne 7, 3) := by decide +kernel
theorem dL_areAlike_135 : decode cL_areAlike 135 = .ok (.iconst 1, 1) := by decide +kernel
theorem dL_areAlike_136 : decode cL_areAlike 136 = .ok (.goto 4, 3) := by decide +kernel
theorem dL_areAlike_139 : decode cL_areAlike 139 = .ok (.iconst 0, 1) := by decide +kernel
theorem dL_areAlike_140 : decode cL_areAlike 140 = .ok (.istore_n 3, 1) := by decide +kernel
theorem dL_areAlike_141 : decode cL_areAlike 141 = .ok (.iinc 4 1, 3) := by decide +kernel
theorem dL_areAlike_144 : decode cL_areAlike 144 = .ok (.goto (-139), 3) := by decide +kernel
theorem dL_areAlike_147 : decode cL_areAlike 147 = .ok (.iload_n 3, 1) := by decide +kernel
theorem dL_areAlike_148 : decode cL_areAlike 148 = .ok (.ireturn, 1) := by decide +kernel
abbrev rmL_areAlike : Room := { frames := 9, cells := 100, slots := 600, locals := 216 }
theorem zyL_areAlike : zyOK yL_areAlike 3 := ⟨by decide +kernel, by decide +kernel, by decide +kernel⟩
set_option maxHeartbeats 4000000 in
set_option maxRecDepth 100000 in
theorem wL_areAlike {TZ : Type} {O : Nat → TZ → List Int32 → Option (Int32 × TZ)} {OL : TZ → List Int32 → Option (Int64 × TZ)} {I : Nat → TZ → Nat → TZ → ZS → Prop} (hO : zOps I O OL) {G : ZG} (a0 : Nat) (a1 : Nat) (a2 : Int32) (T : (TZ × TZ)) (S : ZS) (hI : I a0 T.1 a1 T.2 S) (h0 : zFix G cL_areAlike RL 5 (some .boolean) rmL_areAlike) (hnt : zNoTab G) (C : Option (Int32 × (TZ × TZ)) → Prop) (hC : ¬ C none) (hE : ∀ (v : Int32) (T9 : (TZ × TZ)) (S9 : ZS), I a0 T9.1 a1 T9.2 S9 → C (some (v, T9)) → zEndT G (some (.int v)) S9 rmL_areAlike) : zV G 5 S 0 0 0 [(0, .ref a0), (1, .ref a1), (2, .int a2)] [] (C (fL_areAlike O OL a2 T)) := by
  have J147 : ∀ (l3_147 : Int32) (T_147 : (TZ × TZ)) (S_147 : ZS) (hI_147 : I a0 T_147.1 a1 T_147.2 S_147), zV G 5 S_147 100 600 147 [(3, .int l3_147)] [] (C (fL_areAlike_J147 O OL l3_147 T_147)) := by
    intro l3_147 T_147 S_147 hI_147
    unfold fL_areAlike_J147
    refine zr_iload_n h0 dL_areAlike_147 rfl (n := 148) rfl ?_
    exact zr_zretT C hC h0 rfl dL_areAlike_148 (fun w h => hE _ _ _ hI_147 h) (by decide) (by decide)
  unfold fL_areAlike
  refine zr_iconst (1 : Int32) h0 (by decide) dL_areAlike_0 (n := 1) rfl ?_
  refine zr_istore_n [(0, .ref a0), (1, .ref a1), (2, .int a2), (3, .int (1 : Int32))] h0 dL_areAlike_1 (by decide) rfl (n := 2) rfl ?_
  refine zr_iconst (0 : Int32) h0 (by decide) dL_areAlike_2 (n := 3) rfl ?_
  refine zr_istore [(0, .ref a0), (1, .ref a1), (2, .int a2), (3, .int (1 : Int32)), (4, .int (0 : Int32))] h0 dL_areAlike_3 (by decide) rfl (n := 5) rfl ?_
  refine zr_loopA hC (fL_areAlike_B5 O OL a2) (fun y9 => [(0, .ref a0), (1, .ref a1), (2, .int a2), (3, .int y9.1), (4, .int y9.2.1)]) (fun y9 S9 => I a0 y9.2.2.1 a1 y9.2.2.2 S9) 20 120 100 600 5 (fun ce5 sl5 hce5 hsl5 C5 hC5 hX5 hL5 t5 S5 hI5 => ?_) ((1 : Int32), (0 : Int32), T) S hI 0 0 (by decide) (by decide)
  have J140 : ∀ (l4_140 : Int32) (s0_140 : Int32) (T_140 : (TZ × TZ)) (S_140 : ZS) (hI_140 : I a0 T_140.1 a1 T_140.2 S_140), zV G 5 S_140 (ce5 + 16) (sl5 + 96) 140 [(0, .ref a0), (1, .ref a1), (2, .int a2), (4, .int l4_140)] [.int s0_140] (C5 (fL_areAlike_J140 O OL a2 l4_140 s0_140 T_140)) := by
    intro l4_140 s0_140 T_140 S_140 hI_140
    unfold fL_areAlike_J140
    refine zr_istore_n [(0, .ref a0), (1, .ref a1), (2, .int a2), (3, .int s0_140), (4, .int l4_140)] h0 dL_areAlike_140 (by decide) rfl (n := 141) rfl ?_
    refine zr_iinc (1 : Int32) [(0, .ref a0), (1, .ref a1), (2, .int a2), (3, .int s0_140), (4, .int (l4_140 + (1 : Int32)))] h0 dL_areAlike_141 rfl (by decide) rfl rfl (n := 144) rfl ?_
    refine zr_goto (tgt := 5) h0 dL_areAlike_144 (by decide) ?_
    refine zv_wide (ce' := (ce5 + 20)) (sl' := (sl5 + 120)) ?_ (by first | decide | omega) (by first | decide | omega)
    exact hL5 (s0_140, l4_140 + (1 : Int32), T_140) S_140 hI_140
  have J139 : ∀ (l4_139 : Int32) (T_139 : (TZ × TZ)) (S_139 : ZS) (hI_139 : I a0 T_139.1 a1 T_139.2 S_139), zV G 5 S_139 (ce5 + 16) (sl5 + 96) 139 [(0, .ref a0), (1, .ref a1), (2, .int a2), (4, .int l4_139)] [] (C5 (fL_areAlike_J139 O OL a2 l4_139 T_139)) := by
    intro l4_139 T_139 S_139 hI_139
    unfold fL_areAlike_J139
    refine zr_iconst (0 : Int32) h0 (by decide) dL_areAlike_139 (n := 140) rfl ?_
    exact J140 l4_139 (0 : Int32) T_139 S_139 hI_139
  unfold fL_areAlike_B5
  refine zr_iload h0 dL_areAlike_5 rfl (n := 7) rfl ?_
  refine zr_iconst (4 : Int32) h0 (by decide) dL_areAlike_7 (n := 8) rfl ?_
  refine zr_icmp_ge C5 (tgt := 147) h0 dL_areAlike_8 (by decide) (n := 11) rfl ?_ ?_
  · refine zr_ex hX5 ?_
    refine zv_wide (ce' := 100) (sl' := 600) ?_ (by first | decide | omega) (by first | decide | omega)
    refine zv_sub (lv' := [(3, .int t5.1)]) ?_ (zsub_of [3] rfl)
    exact J147 t5.1 t5.2.2 S5 hI5
  · refine zr_iload_n h0 dL_areAlike_11 rfl (n := 12) rfl ?_
    refine zr_if_eq C5 (tgt := 147) h0 dL_areAlike_12 (by decide) (n := 15) rfl ?_ ?_
    · refine zr_ex hX5 ?_
      refine zv_wide (ce' := 100) (sl' := 600) ?_ (by first | decide | omega) (by first | decide | omega)
      refine zv_sub (lv' := [(3, .int t5.1)]) ?_ (zsub_of [3] rfl)
      exact J147 t5.1 t5.2.2 S5 hI5
    · refine zv_sub (lv' := [(0, .ref a0), (1, .ref a1), (2, .int a2), (4, .int t5.2.1)]) ?_ (zsub_of [0, 1, 2, 4] rfl)
      refine zr_aload_n h0 dL_areAlike_15 rfl (n := 16) rfl ?_
      refine zr_iload h0 dL_areAlike_16 rfl (n := 18) rfl ?_
      refine zr_iconst (0 : Int32) h0 (by decide) dL_areAlike_18 (n := 19) rfl ?_
      refine zr_iload_n h0 dL_areAlike_19 rfl (n := 20) rfl ?_
      refine zr_iconst (2 : Int32) h0 (by decide) dL_areAlike_20 (n := 21) rfl ?_
      refine zr_cRI C5 hC5 (ce5 + 0) (sl5 + 0) (fun x hx => zk_S h0 (fun l D z0 => kL_low l D z0 a2 (2 : Int32) S5 x hx) zw_105 zw_106 zw_0 zw_107 zyL_low (As := [.int a2, .int (2 : Int32)]) (st := [.int (0 : Int32), .int t5.2.1, .ref a0]) rfl (by decide) rfl (Nat.le_of_ble_eq_true rfl) ⟨by show (ce5 + 0) + 0 ≤ 100; omega, by show (sl5 + 0) + 0 ≤ 600; omega⟩ dL_areAlike_21) rfl rfl (n := 24) rfl (fun x19 => ?_)
      refine zr_iload_n h0 dL_areAlike_24 rfl (n := 25) rfl ?_
      refine zr_iconst (1 : Int32) h0 (by decide) dL_areAlike_25 (n := 26) rfl ?_
      refine zr_ishr h0 dL_areAlike_26 (n := 27) rfl ?_
      refine zr_iconst (2 : Int32) h0 (by decide) dL_areAlike_27 (n := 28) rfl ?_
      refine zr_cRI C5 hC5 (ce5 + 0) (sl5 + 0) (fun x hx => zk_S h0 (fun l D z0 => kL_low l D z0 (a2 >>> ((1 : Int32) &&& 31)) (2 : Int32) S5 x hx) zw_105 zw_106 zw_0 zw_107 zyL_low (As := [.int (a2 >>> ((1 : Int32) &&& 31)), .int (2 : Int32)]) (st := [.int x19, .int (0 : Int32), .int t5.2.1, .ref a0]) rfl (by decide) rfl (Nat.le_of_ble_eq_true rfl) ⟨by show (ce5 + 0) + 0 ≤ 100; omega, by show (sl5 + 0) + 0 ≤ 600; omega⟩ dL_areAlike_28) rfl rfl (n := 31) rfl (fun x20 => ?_)
      refine zr_cW C5 hC5 .int (fun T9 S9 => I a0 T9 a1 t5.2.2.2 S9) (ce5 + 2) (sl5 + 12) h0 hnt.fl (fun v9 hv9 hfr => zwf_at hO hI5 hfr hv9) (fun x hx l D z0 hlt => kL_at l D z0 hlt a0 t5.2.1 (0 : Int32) x19 x20 S5 x hx) zw_570 zw_571 zw_0 zw_572 zyL_at (As := [.ref a0, .int t5.2.1, .int (0 : Int32), .int x19, .int x20]) (st := []) rfl (by decide) rfl (Nat.le_of_ble_eq_true rfl) ⟨by show (ce5 + 0) + 2 ≤ 100; omega, by show (sl5 + 0) + 12 ≤ 600; omega⟩ dL_areAlike_31 rfl rfl (n := 34) rfl (fun x21 Sx21 hx21 => ?_)
      refine zr_aload_n h0 dL_areAlike_34 rfl (n := 35) rfl ?_
      refine zr_iload h0 dL_areAlike_35 rfl (n := 37) rfl ?_
      refine zr_iconst (0 : Int32) h0 (by decide) dL_areAlike_37 (n := 38) rfl ?_
      refine zr_iload_n h0 dL_areAlike_38 rfl (n := 39) rfl ?_
      refine zr_iconst (2 : Int32) h0 (by decide) dL_areAlike_39 (n := 40) rfl ?_
      refine zr_cRI C5 hC5 (ce5 + 2) (sl5 + 12) (fun x hx => zk_S h0 (fun l D z0 => kL_low l D z0 a2 (2 : Int32) Sx21 x hx) zw_105 zw_106 zw_0 zw_107 zyL_low (As := [.int a2, .int (2 : Int32)]) (st := [.int (0 : Int32), .int t5.2.1, .ref a1, .int x21.1]) rfl (by decide) rfl (Nat.le_of_ble_eq_true rfl) ⟨by show (ce5 + 2) + 0 ≤ 100; omega, by show (sl5 + 12) + 0 ≤ 600; omega⟩ dL_areAlike_40) rfl rfl (n := 43) rfl (fun x22 => ?_)
      refine zr_iload_n h0 dL_areAlike_43 rfl (n := 44) rfl ?_
      refine zr_iconst (1 : Int32) h0 (by decide) dL_areAlike_44 (n := 45) rfl ?_
      refine zr_ishr h0 dL_areAlike_45 (n := 46) rfl ?_
      refine zr_iconst (2 : Int32) h0 (by decide) dL_areAlike_46 (n := 47) rfl ?_
      refine zr_cRI C5 hC5 (ce5 + 2) (sl5 + 12) (fun x hx => zk_S h0 (fun l D z0 => kL_low l D z0 (a2 >>> ((1 : Int32) &&& 31)) (2 : Int32) Sx21 x hx) zw_105 zw_106 zw_0 zw_107 zyL_low (As := [.int (a2 >>> ((1 : Int32) &&& 31)), .int (2 : Int32)]) (st := [.int x22, .int (0 : Int32), .int t5.2.1, .ref a1, .int x21.1]) rfl (by decide) rfl (Nat.le_of_ble_eq_true rfl) ⟨by show (ce5 + 2) + 0 ≤ 100; omega, by show (sl5 + 12) + 0 ≤ 600; omega⟩ dL_areAlike_47) rfl rfl (n := 50) rfl (fun x23 => ?_)
      refine zr_cW C5 hC5 .int (fun T9 S9 => I a1 T9 a0 (x21.2, t5.2.2.2).1 S9) (ce5 + 4) (sl5 + 24) h0 hnt.fl (fun v9 hv9 hfr => zwf_at hO (zO_sym hO hx21) hfr hv9) (fun x hx l D z0 hlt => kL_at l D z0 hlt a1 t5.2.1 (0 : Int32) x22 x23 Sx21 x hx) zw_570 zw_571 zw_0 zw_572 zyL_at (As := [.ref a1, .int t5.2.1, .int (0 : Int32), .int x22, .int x23]) (st := [.int x21.1]) rfl (by decide) rfl (Nat.le_of_ble_eq_true rfl) ⟨by show (ce5 + 2) + 2 ≤ 100; omega, by show (sl5 + 12) + 12 ≤ 600; omega⟩ dL_areAlike_50 rfl rfl (n := 53) rfl (fun x24 Sx24 hx24 => ?_)
      refine zr_icmp_ne C5 (tgt := 139) h0 dL_areAlike_53 (by decide) (n := 56) rfl ?_ ?_
      · refine zr_aload_n h0 dL_areAlike_56 rfl (n := 57) rfl ?_
        refine zr_iload h0 dL_areAlike_57 rfl (n := 59) rfl ?_
        refine zr_cW C5 hC5 .int (fun T9 S9 => I a0 T9 a1 ((x21.2, t5.2.2.2).1, x24.2).2 S9) (ce5 + 5) (sl5 + 30) h0 hnt.fl (fun v9 hv9 hfr => zwf_bound hO (zO_sym hO hx24) hfr hv9) (fun x hx l D z0 hlt => kL_bound l D z0 hlt a0 t5.2.1 Sx24 x hx) zw_620 zw_621 zw_0 zw_622 zyL_bound (As := [.ref a0, .int t5.2.1]) (st := []) rfl (by decide) rfl (Nat.le_of_ble_eq_true rfl) ⟨by show (ce5 + 4) + 1 ≤ 100; omega, by show (sl5 + 24) + 6 ≤ 600; omega⟩ dL_areAlike_59 rfl rfl (n := 62) rfl (fun x25 Sx25 hx25 => ?_)
        refine zr_aload_n h0 dL_areAlike_62 rfl (n := 63) rfl ?_
        refine zr_iload h0 dL_areAlike_63 rfl (n := 65) rfl ?_
        refine zr_cW C5 hC5 .int (fun T9 S9 => I a1 T9 a0 (x25.2, ((x21.2, t5.2.2.2).1, x24.2).2).1 S9) (ce5 + 6) (sl5 + 36) h0 hnt.fl (fun v9 hv9 hfr => zwf_bound hO (zO_sym hO hx25) hfr hv9) (fun x hx l D z0 hlt => kL_bound l D z0 hlt a1 t5.2.1 Sx25 x hx) zw_620 zw_621 zw_0 zw_622 zyL_bound (As := [.ref a1, .int t5.2.1]) (st := [.int x25.1]) rfl (by decide) rfl (Nat.le_of_ble_eq_true rfl) ⟨by show (ce5 + 5) + 1 ≤ 100; omega, by show (sl5 + 30) + 6 ≤ 600; omega⟩ dL_areAlike_65 rfl rfl (n := 68) rfl (fun x26 Sx26 hx26 => ?_)
        refine zr_icmp_ne C5 (tgt := 139) h0 dL_areAlike_68 (by decide) (n := 71) rfl ?_ ?_
        · refine zr_aload_n h0 dL_areAlike_71 rfl (n := 72) rfl ?_
          refine zr_iload h0 dL_areAlike_72 rfl (n := 74) rfl ?_
          refine zr_iload_n h0 dL_areAlike_74 rfl (n := 75) rfl ?_
          refine zr_iconst (5 : Int32) h0 (by decide) dL_areAlike_75 (n := 76) rfl ?_
          refine zr_cRI C5 hC5 (ce5 + 6) (sl5 + 36) (fun x hx => zk_S h0 (fun l D z0 => kL_low l D z0 a2 (5 : Int32) Sx26 x hx) zw_105 zw_106 zw_0 zw_107 zyL_low (As := [.int a2, .int (5 : Int32)]) (st := [.int t5.2.1, .ref a0]) rfl (by decide) rfl (Nat.le_of_ble_eq_true rfl) ⟨by show (ce5 + 6) + 0 ≤ 100; omega, by show (sl5 + 36) + 0 ≤ 600; omega⟩ dL_areAlike_76) rfl rfl (n := 79) rfl (fun x27 => ?_)
          refine zr_cW C5 hC5 .int (fun T9 S9 => I a0 T9 a1 ((x25.2, ((x21.2, t5.2.2.2).1, x24.2).2).1, x26.2).2 S9) (ce5 + 8) (sl5 + 48) h0 hnt.fl (fun v9 hv9 hfr => zwf_ofWay hO (zO_sym hO hx26) hfr hv9) (fun x hx l D z0 hlt => kL_ofWay l D z0 hlt a0 t5.2.1 x27 Sx26 x hx) zw_791 zw_792 zw_0 zw_793 zyL_ofWay (As := [.ref a0, .int t5.2.1, .int x27]) (st := []) rfl (by decide) rfl (Nat.le_of_ble_eq_true rfl) ⟨by show (ce5 + 6) + 2 ≤ 100; omega, by show (sl5 + 36) + 12 ≤ 600; omega⟩ dL_areAlike_79 rfl rfl (n := 82) rfl (fun x28 Sx28 hx28 => ?_)
          refine zr_aload_n h0 dL_areAlike_82 rfl (n := 83) rfl ?_
          refine zr_iload h0 dL_areAlike_83 rfl (n := 85) rfl ?_
          refine zr_iload_n h0 dL_areAlike_85 rfl (n := 86) rfl ?_
          refine zr_iconst (5 : Int32) h0 (by decide) dL_areAlike_86 (n := 87) rfl ?_
          refine zr_cRI C5 hC5 (ce5 + 8) (sl5 + 48) (fun x hx => zk_S h0 (fun l D z0 => kL_low l D z0 a2 (5 : Int32) Sx28 x hx) zw_105 zw_106 zw_0 zw_107 zyL_low (As := [.int a2, .int (5 : Int32)]) (st := [.int t5.2.1, .ref a1, .int x28.1]) rfl (by decide) rfl (Nat.le_of_ble_eq_true rfl) ⟨by show (ce5 + 8) + 0 ≤ 100; omega, by show (sl5 + 48) + 0 ≤ 600; omega⟩ dL_areAlike_87) rfl rfl (n := 90) rfl (fun x29 => ?_)
          refine zr_cW C5 hC5 .int (fun T9 S9 => I a1 T9 a0 (x28.2, ((x25.2, ((x21.2, t5.2.2.2).1, x24.2).2).1, x26.2).2).1 S9) (ce5 + 10) (sl5 + 60) h0 hnt.fl (fun v9 hv9 hfr => zwf_ofWay hO (zO_sym hO hx28) hfr hv9) (fun x hx l D z0 hlt => kL_ofWay l D z0 hlt a1 t5.2.1 x29 Sx28 x hx) zw_791 zw_792 zw_0 zw_793 zyL_ofWay (As := [.ref a1, .int t5.2.1, .int x29]) (st := [.int x28.1]) rfl (by decide) rfl (Nat.le_of_ble_eq_true rfl) ⟨by show (ce5 + 8) + 2 ≤ 100; omega, by show (sl5 + 48) + 12 ≤ 600; omega⟩ dL_areAlike_90 rfl rfl (n := 93) rfl (fun x30 Sx30 hx30 => ?_)
          refine zr_icmp_ne C5 (tgt := 139) h0 dL_areAlike_93 (by decide) (n := 96) rfl ?_ ?_
          · refine zr_aload_n h0 dL_areAlike_96 rfl (n := 97) rfl ?_
            refine zr_iload h0 dL_areAlike_97 rfl (n := 99) rfl ?_
            refine zr_iload_n h0 dL_areAlike_99 rfl (n := 100) rfl ?_
            refine zr_iconst (3 : Int32) h0 (by decide) dL_areAlike_100 (n := 101) rfl ?_
            refine zr_cRI C5 hC5 (ce5 + 10) (sl5 + 60) (fun x hx => zk_S h0 (fun l D z0 => kL_low l D z0 a2 (3 : Int32) Sx30 x hx) zw_105 zw_106 zw_0 zw_107 zyL_low (As := [.int a2, .int (3 : Int32)]) (st := [.int t5.2.1, .ref a0]) rfl (by decide) rfl (Nat.le_of_ble_eq_true rfl) ⟨by show (ce5 + 10) + 0 ≤ 100; omega, by show (sl5 + 60) + 0 ≤ 600; omega⟩ dL_areAlike_101) rfl rfl (n := 104) rfl (fun x31 => ?_)
            refine zr_iload_n h0 dL_areAlike_104 rfl (n := 105) rfl ?_
            refine zr_iconst (2 : Int32) h0 (by decide) dL_areAlike_105 (n := 106) rfl ?_
            refine zr_ishr h0 dL_areAlike_106 (n := 107) rfl ?_
            refine zr_iconst (3 : Int32) h0 (by decide) dL_areAlike_107 (n := 108) rfl ?_
            refine zr_cRI C5 hC5 (ce5 + 10) (sl5 + 60) (fun x hx => zk_S h0 (fun l D z0 => kL_low l D z0 (a2 >>> ((2 : Int32) &&& 31)) (3 : Int32) Sx30 x hx) zw_105 zw_106 zw_0 zw_107 zyL_low (As := [.int (a2 >>> ((2 : Int32) &&& 31)), .int (3 : Int32)]) (st := [.int x31, .int t5.2.1, .ref a0]) rfl (by decide) rfl (Nat.le_of_ble_eq_true rfl) ⟨by show (ce5 + 10) + 0 ≤ 100; omega, by show (sl5 + 60) + 0 ≤ 600; omega⟩ dL_areAlike_108) rfl rfl (n := 111) rfl (fun x32 => ?_)
            refine zr_cW C5 hC5 .int (fun T9 S9 => I a0 T9 a1 ((x28.2, ((x25.2, ((x21.2, t5.2.2.2).1, x24.2).2).1, x26.2).2).1, x30.2).2 S9) (ce5 + 13) (sl5 + 78) h0 hnt.fl (fun v9 hv9 hfr => zwf_vector hO (zO_sym hO hx30) hfr hv9) (fun x hx l D z0 hlt => kL_vector l D z0 hlt a0 t5.2.1 x31 x32 Sx30 x hx) zw_683 zw_684 zw_0 zw_685 zyL_vector (As := [.ref a0, .int t5.2.1, .int x31, .int x32]) (st := []) rfl (by decide) rfl (Nat.le_of_ble_eq_true rfl) ⟨by show (ce5 + 10) + 3 ≤ 100; omega, by show (sl5 + 60) + 18 ≤ 600; omega⟩ dL_areAlike_111 rfl rfl (n := 114) rfl (fun x33 Sx33 hx33 => ?_)
            refine zr_aload_n h0 dL_areAlike_114 rfl (n := 115) rfl ?_
            refine zr_iload h0 dL_areAlike_115 rfl (n := 117) rfl ?_
            refine zr_iload_n h0 dL_areAlike_117 rfl (n := 118) rfl ?_
            refine zr_iconst (3 : Int32) h0 (by decide) dL_areAlike_118 (n := 119) rfl ?_
            refine zr_cRI C5 hC5 (ce5 + 13) (sl5 + 78) (fun x hx => zk_S h0 (fun l D z0 => kL_low l D z0 a2 (3 : Int32) Sx33 x hx) zw_105 zw_106 zw_0 zw_107 zyL_low (As := [.int a2, .int (3 : Int32)]) (st := [.int t5.2.1, .ref a1, .int x33.1]) rfl (by decide) rfl (Nat.le_of_ble_eq_true rfl) ⟨by show (ce5 + 13) + 0 ≤ 100; omega, by show (sl5 + 78) + 0 ≤ 600; omega⟩ dL_areAlike_119) rfl rfl (n := 122) rfl (fun x34 => ?_)
            refine zr_iload_n h0 dL_areAlike_122 rfl (n := 123) rfl ?_
            refine zr_iconst (2 : Int32) h0 (by decide) dL_areAlike_123 (n := 124) rfl ?_
            refine zr_ishr h0 dL_areAlike_124 (n := 125) rfl ?_
            refine zr_iconst (3 : Int32) h0 (by decide) dL_areAlike_125 (n := 126) rfl ?_
            refine zr_cRI C5 hC5 (ce5 + 13) (sl5 + 78) (fun x hx => zk_S h0 (fun l D z0 => kL_low l D z0 (a2 >>> ((2 : Int32) &&& 31)) (3 : Int32) Sx33 x hx) zw_105 zw_106 zw_0 zw_107 zyL_low (As := [.int (a2 >>> ((2 : Int32) &&& 31)), .int (3 : Int32)]) (st := [.int x34, .int t5.2.1, .ref a1, .int x33.1]) rfl (by decide) rfl (Nat.le_of_ble_eq_true rfl) ⟨by show (ce5 + 13) + 0 ≤ 100; omega, by show (sl5 + 78) + 0 ≤ 600; omega⟩ dL_areAlike_126) rfl rfl (n := 129) rfl (fun x35 => ?_)
            refine zr_cW C5 hC5 .int (fun T9 S9 => I a1 T9 a0 (x33.2, ((x28.2, ((x25.2, ((x21.2, t5.2.2.2).1, x24.2).2).1, x26.2).2).1, x30.2).2).1 S9) (ce5 + 16) (sl5 + 96) h0 hnt.fl (fun v9 hv9 hfr => zwf_vector hO (zO_sym hO hx33) hfr hv9) (fun x hx l D z0 hlt => kL_vector l D z0 hlt a1 t5.2.1 x34 x35 Sx33 x hx) zw_683 zw_684 zw_0 zw_685 zyL_vector (As := [.ref a1, .int t5.2.1, .int x34, .int x35]) (st := [.int x33.1]) rfl (by decide) rfl (Nat.le_of_ble_eq_true rfl) ⟨by show (ce5 + 13) + 3 ≤ 100; omega, by show (sl5 + 78) + 18 ≤ 600; omega⟩ dL_areAlike_129 rfl rfl (n := 132) rfl (fun x36 Sx36 hx36 => ?_)
            refine zr_icmp_ne C5 (tgt := 139) h0 dL_areAlike_132 (by decide) (n := 135) rfl ?_ ?_
            · refine zr_iconst (1 : Int32) h0 (by decide) dL_areAlike_135 (n := 136) rfl ?_
              refine zr_goto (tgt := 140) h0 dL_areAlike_136 (by decide) ?_
              exact J140 t5.2.1 (1 : Int32) ((x33.2, ((x28.2, ((x25.2, ((x21.2, t5.2.2.2).1, x24.2).2).1, x26.2).2).1, x30.2).2).1, x36.2) Sx36 (zO_sym hO hx36)
            · exact J139 t5.2.1 ((x33.2, ((x28.2, ((x25.2, ((x21.2, t5.2.2.2).1, x24.2).2).1, x26.2).2).1, x30.2).2).1, x36.2) Sx36 (zO_sym hO hx36)
          · refine zv_wide (ce' := (ce5 + 16)) (sl' := (sl5 + 96)) ?_ (by first | decide | omega) (by first | decide | omega)
            exact J139 t5.2.1 ((x28.2, ((x25.2, ((x21.2, t5.2.2.2).1, x24.2).2).1, x26.2).2).1, x30.2) Sx30 (zO_sym hO hx30)
        · refine zv_wide (ce' := (ce5 + 16)) (sl' := (sl5 + 96)) ?_ (by first | decide | omega) (by first | decide | omega)
          exact J139 t5.2.1 ((x25.2, ((x21.2, t5.2.2.2).1, x24.2).2).1, x26.2) Sx26 (zO_sym hO hx26)
      · refine zv_wide (ce' := (ce5 + 16)) (sl' := (sl5 + 96)) ?_ (by first | decide | omega) (by first | decide | omega)
        exact J139 t5.2.1 ((x21.2, t5.2.2.2).1, x24.2) Sx24 (zO_sym hO hx24)
theorem kL_areAlike {TZ : Type} {O : Nat → TZ → List Int32 → Option (Int32 × TZ)} {OL : TZ → List Int32 → Option (Int64 × TZ)} {I : Nat → TZ → Nat → TZ → ZS → Prop} (hO : zOps I O OL) (l : Launch) (D : ZD) (z0 : Nat) (hlt : l.stackTraces = false) (a0 : Nat) (a1 : Nat) (a2 : Int32) (T : (TZ × TZ)) (S : ZS) (hI : I a0 T.1 a1 T.2 S) (x : Int32 × (TZ × TZ)) (hf : fL_areAlike O OL a2 T = some x) : zMetA l D z0 yL_areAlike cL_areAlike 5 (some .boolean) rmL_areAlike [.ref a0, .ref a1, .int a2] S (fun v S9 => v = .int x.1 ∧ I a0 x.2.1 a1 x.2.2 S9) :=
  zMetA_of hlt (by decide) (Nat.le_of_ble_eq_true rfl) (fun G h0 hnt hE => wL_areAlike hO a0 a1 a2 T S hI h0 hnt (fun o => o = some x) (fun h => nomatch h) (fun v T9 S9 hJ hh => by cases hh; exact hE _ _ ⟨rfl, hJ⟩)) hf
theorem dL_isWaySo_0 : decode cL_isWaySo 0 = .ok (.iconst 1, 1) := by decide +kernel
theorem dL_isWaySo_1 : decode cL_isWaySo 1 = .ok (.istore 4, 2) := by decide +kernel
theorem dL_isWaySo_3 : decode cL_isWaySo 3 = .ok (.aload_n 0, 1) := by decide +kernel
theorem dL_isWaySo_4 : decode cL_isWaySo 4 = .ok (.iload_n 1, 1) := by decide +kernel
theorem dL_isWaySo_5 : decode cL_isWaySo 5 = .ok (.iconst 1, 1) := by decide +kernel
theorem dL_isWaySo_6 : decode cL_isWaySo 6 = .ok (.invokevirtual 80, 3) := by decide +kernel
theorem dL_isWaySo_9 : decode cL_isWaySo 9 = .ok (.istore 5, 2) := by decide +kernel
theorem dL_isWaySo_11 : decode cL_isWaySo 11 = .ok (.aload_n 0, 1) := by decide +kernel
theorem dL_isWaySo_12 : decode cL_isWaySo 12 = .ok (.iload_n 1, 1) := by decide +kernel
theorem dL_isWaySo_13 : decode cL_isWaySo 13 = .ok (.iconst 0, 1) := by decide +kernel
theorem dL_isWaySo_14 : decode cL_isWaySo 14 = .ok (.invokevirtual 80, 3) := by decide +kernel
theorem dL_isWaySo_17 : decode cL_isWaySo 17 = .ok (.istore 6, 2) := by decide +kernel
theorem dL_isWaySo_19 : decode cL_isWaySo 19 = .ok (.aload_n 0, 1) := by decide +kernel
theorem dL_isWaySo_20 : decode cL_isWaySo 20 = .ok (.iload_n 1, 1) := by decide +kernel
theorem dL_isWaySo_21 : decode cL_isWaySo 21 = .ok (.iload_n 2, 1) := by decide +kernel
theorem dL_isWaySo_22 : decode cL_isWaySo 22 = .ok (.iload_n 3, 1) := by decide +kernel
theorem dL_isWaySo_23 : decode cL_isWaySo 23 = .ok (.invokestatic 101, 3) := by decide +kernel
theorem dL_isWaySo_26 : decode cL_isWaySo 26 = .ok (.iload_n 2, 1) := by decide +kernel
theorem dL_isWaySo_27 : decode cL_isWaySo 27 = .ok (.iconst 3, 1) := by decide +kernel
theorem dL_isWaySo_28 : decode cL_isWaySo 28 = .ok (.ishr, 1) := by decide +kernel
theorem dL_isWaySo_29 : decode cL_isWaySo 29 = .ok (.iload_n 3, 1) := by decide +kernel
theorem dL_isWaySo_30 : decode cL_isWaySo 30 = .ok (.invokestatic 101, 3) := by decide +kernel
theorem dL_isWaySo_33 : decode cL_isWaySo 33 = .ok (.iconst 0, 1) := by decide +kernel
theorem dL_isWaySo_34 : decode cL_isWaySo 34 = .ok (.invokestatic 150, 3) := by decide +kernel
theorem dL_isWaySo_37 : decode cL_isWaySo 37 = .ok (.istore 7, 2) := by decide +kernel
theorem dL_isWaySo_39 : decode cL_isWaySo 39 = .ok (.iconst 0, 1) := by decide +kernel
theorem dL_isWaySo_40 : decode cL_isWaySo 40 = .ok (.istore 8, 2) := by decide +kernel
theorem dL_isWaySo_42 : decode cL_isWaySo 42 = .ok (.iload 8, 2) := by decide +kernel
theorem dL_isWaySo_44 : decode cL_isWaySo 44 = .ok (.bipush 6, 2) := by decide +kernel
theorem dL_isWaySo_46 : decode cL_isWaySo 46 = .ok (.if_icmp .ge 88, 3) := by decide +kernel
theorem dL_isWaySo_49 : decode cL_isWaySo 49 = .ok (.iload 4, 2) := by decide +kernel
theorem dL_isWaySo_51 : decode cL_isWaySo 51 = .ok (.ifCond .eq 83, 3) := by decide +kernel
theorem dL_isWaySo_54 : decode cL_isWaySo 54 = .ok (.aload_n 0, 1) := by decide +kernel
theorem dL_isWaySo_55 : decode cL_isWaySo 55 = .ok (.iload_n 1, 1) := by decide +kernel
theorem dL_isWaySo_56 : decode cL_isWaySo 56 = .ok (.iload_n 2, 1) := by decide +kernel
theorem dL_isWaySo_57 : decode cL_isWaySo 57 = .ok (.iload 8, 2) := by decide +kernel
theorem dL_isWaySo_59 : decode cL_isWaySo 59 = .ok (.ishr, 1) := by decide +kernel
theorem dL_isWaySo_60 : decode cL_isWaySo 60 = .ok (.iconst 5, 1) := by decide +kernel
theorem dL_isWaySo_61 : decode cL_isWaySo 61 = .ok (.invokestatic 101, 3) := by decide +kernel
theorem dL_isWaySo_64 : decode cL_isWaySo 64 = .ok (.iload_n 2, 1) := by decide +kernel
theorem dL_isWaySo_65 : decode cL_isWaySo 65 = .ok (.iload 8, 2) := by decide +kernel
theorem dL_isWaySo_67 : decode cL_isWaySo 67 = .ok (.iconst 2, 1) := by decide +kernel
theorem dL_isWaySo_68 : decode cL_isWaySo 68 = .ok (.iadd, 1) := by decide +kernel
theorem dL_isWaySo_69 : decode cL_isWaySo 69 = .ok (.ishr, 1) := by decide +kernel
theorem dL_isWaySo_70 : decode cL_isWaySo 70 = .ok (.iconst 5, 1) := by decide +kernel
theorem dL_isWaySo_71 : decode cL_isWaySo 71 = .ok (.invokestatic 101, 3) := by decide +kernel
theorem dL_isWaySo_74 : decode cL_isWaySo 74 = .ok (.iload_n 2, 1) := by decide +kernel
theorem dL_isWaySo_75 : decode cL_isWaySo 75 = .ok (.iload 8, 2) := by decide +kernel
theorem dL_isWaySo_77 : decode cL_isWaySo 77 = .ok (.ishr, 1) := by decide +kernel
theorem dL_isWaySo_78 : decode cL_isWaySo 78 = .ok (.iconst 3, 1) := by decide +kernel
theorem dL_isWaySo_79 : decode cL_isWaySo 79 = .ok (.invokestatic 101, 3) := by decide +kernel
theorem dL_isWaySo_82 : decode cL_isWaySo 82 = .ok (.invokestatic 133, 3) := by decide +kernel
theorem dL_isWaySo_85 : decode cL_isWaySo 85 = .ok (.istore 9, 2) := by decide +kernel
theorem dL_isWaySo_87 : decode cL_isWaySo 87 = .ok (.aload_n 0, 1) := by decide +kernel
theorem dL_isWaySo_88 : decode cL_isWaySo 88 = .ok (.iload_n 1, 1) := by decide +kernel
theorem dL_isWaySo_89 : decode cL_isWaySo 89 = .ok (.iconst 1, 1) := by decide +kernel
theorem dL_isWaySo_90 : decode cL_isWaySo 90 = .ok (.invokevirtual 80, 3) := by decide +kernel
theorem dL_isWaySo_93 : decode cL_isWaySo 93 = .ok (.iload 5, 2) := by decide +kernel
theorem dL_isWaySo_95 : decode cL_isWaySo 95 = .ok (.if_icmp .ne 30, 3) := by decide +kernel
theorem dL_isWaySo_98 : decode cL_isWaySo 98 = .ok (.aload_n 0, 1) := by decide +kernel
theorem dL_isWaySo_99 : decode cL_isWaySo 99 = .ok (.iload_n 1, 1) := by decide +kernel
theorem dL_isWaySo_100 : decode cL_isWaySo 100 = .ok (.iconst 0, 1) := by decide +kernel
theorem dL_isWaySo_101 : decode cL_isWaySo 101 = .ok (.invokevirtual 80, 3) := by decide +kernel
theorem dL_isWaySo_104 : decode cL_isWaySo 104 = .ok (.iload 6, 2) := by decide +kernel
theorem dL_isWaySo_106 : decode cL_isWaySo 106 = .ok (.if_icmp .ne 19, 3) := by decide +kernel
theorem dL_isWaySo_109 : decode cL_isWaySo 109 = .ok (.iload 9, 2) := by decide +kernel
theorem dL_isWaySo_111 : decode cL_isWaySo 111 = .ok (.ifCond .eq 10, 3) := by decide +kernel
theorem dL_isWaySo_114 : decode cL_isWaySo 114 = .ok (.iload 9, 2) := by decide +kernel
theorem dL_isWaySo_116 : decode cL_isWaySo 116 = .ok (.ldc 16, 2) := by decide +kernel
theorem dL_isWaySo_118 : decode cL_isWaySo 118 = .ok (.if_icmp .ne 7, 3) := by decide +kernel
theorem dL_isWaySo_121 : decode cL_isWaySo 121 = .ok (.iconst 1, 1) := by decide +kernel
theorem dL_isWaySo_122 : decode cL_isWaySo 122 = .ok (.goto 4, 3) := by decide +kernel
theorem dL_isWaySo_125 : decode cL_isWaySo 125 = .ok (.iconst 0, 1) := by decide +kernel
theorem dL_isWaySo_126 : decode cL_isWaySo 126 = .ok (.istore 4, 2) := by decide +kernel
theorem dL_isWaySo_128 : decode cL_isWaySo 128 = .ok (.iinc 8 1, 3) := by decide +kernel
theorem dL_isWaySo_131 : decode cL_isWaySo 131 = .ok (.goto (-89), 3) := by decide +kernel
theorem dL_isWaySo_134 : decode cL_isWaySo 134 = .ok (.iload 4, 2) := by decide +kernel
theorem dL_isWaySo_136 : decode cL_isWaySo 136 = .ok (.ifCond .eq 75, 3) := by decide +kernel
theorem dL_isWaySo_139 : decode cL_isWaySo 139 = .ok (.aload_n 0, 1) := by decide +kernel
theorem dL_isWaySo_140 : decode cL_isWaySo 140 = .ok (.iload_n 1, 1) := by decide +kernel
theorem dL_isWaySo_141 : decode cL_isWaySo 141 = .ok (.iload_n 2, 1) := by decide +kernel
theorem dL_isWaySo_142 : decode cL_isWaySo 142 = .ok (.ldc 137, 2) := by decide +kernel
theorem dL_isWaySo_144 : decode cL_isWaySo 144 = .ok (.invokestatic 101, 3) := by decide +kernel
theorem dL_isWaySo_147 : decode cL_isWaySo 147 = .ok (.iconst 5, 1) := by decide +kernel
theorem dL_isWaySo_148 : decode cL_isWaySo 148 = .ok (.invokevirtual 62, 3) := by decide +kernel
theorem dL_isWaySo_151 : decode cL_isWaySo 151 = .ok (.ifCond .lt 60, 3) := by decide +kernel
theorem dL_isWaySo_154 : decode cL_isWaySo 154 = .ok (.aload_n 0, 1) := by decide +kernel
theorem dL_isWaySo_155 : decode cL_isWaySo 155 = .ok (.iload_n 1, 1) := by decide +kernel
theorem dL_isWaySo_156 : decode cL_isWaySo 156 = .ok (.iconst 1, 1) := by decide +kernel
theorem dL_isWaySo_157 : decode cL_isWaySo 157 = .ok (.invokevirtual 80, 3) := by decide +kernel
theorem dL_isWaySo_160 : decode cL_isWaySo 160 = .ok (.iload 5, 2) := by decide +kernel
theorem dL_isWaySo_162 : decode cL_isWaySo 162 = .ok (.if_icmp .ne 49, 3) := by decide +kernel
theorem dL_isWaySo_165 : decode cL_isWaySo 165 = .ok (.aload_n 0, 1) := by decide +kernel
theorem dL_isWaySo_166 : decode cL_isWaySo 166 = .ok (.iload_n 1, 1) := by decide +kernel
theorem dL_isWaySo_167 : decode cL_isWaySo 167 = .ok (.invokevirtual 59, 3) := by decide +kernel
theorem dL_isWaySo_170 : decode cL_isWaySo 170 = .ok (.ifCond .ne 41, 3) := by decide +kernel
theorem dL_isWaySo_173 : decode cL_isWaySo 173 = .ok (.aload_n 0, 1) := by decide +kernel
theorem dL_isWaySo_174 : decode cL_isWaySo 174 = .ok (.iload_n 1, 1) := by decide +kernel
theorem dL_isWaySo_175 : decode cL_isWaySo 175 = .ok (.iconst 0, 1) := by decide +kernel
theorem dL_isWaySo_176 : decode cL_isWaySo 176 = .ok (.invokevirtual 80, 3) := by decide +kernel
theorem dL_isWaySo_179 : decode cL_isWaySo 179 = .ok (.iload 6, 2) := by decide +kernel
theorem dL_isWaySo_181 : decode cL_isWaySo 181 = .ok (.if_icmp .gt 30, 3) := by decide +kernel
theorem dL_isWaySo_184 : decode cL_isWaySo 184 = .ok (.aload_n 0, 1) := by decide +kernel
theorem dL_isWaySo_185 : decode cL_isWaySo 185 = .ok (.iload_n 1, 1) := by decide +kernel
theorem dL_isWaySo_186 : decode cL_isWaySo 186 = .ok (.iload_n 2, 1) := by decide +kernel
theorem dL_isWaySo_187 : decode cL_isWaySo 187 = .ok (.iload_n 3, 1) := by decide +kernel
theorem dL_isWaySo_188 : decode cL_isWaySo 188 = .ok (.invokestatic 101, 3) := by decide +kernel
theorem dL_isWaySo_191 : decode cL_isWaySo 191 = .ok (.iload_n 2, 1) := by decide +kernel
theorem dL_isWaySo_192 : decode cL_isWaySo 192 = .ok (.iconst 3, 1) := by decide +kernel
theorem dL_isWaySo_193 : decode cL_isWaySo 193 = .ok (.ishr, 1) := by decide +kernel
theorem dL_isWaySo_194 : decode cL_isWaySo 194 = .ok (.iload_n 3, 1) := by decide +kernel
theorem dL_isWaySo_195 : decode cL_isWaySo 195 = .ok (.invokestatic 101, 3) := by decide +kernel
theorem dL_isWaySo_198 : decode cL_isWaySo 198 = .ok (.iconst 0, 1) := by decide +kernel
theorem dL_isWaySo_199 : decode cL_isWaySo 199 = .ok (.invokestatic 150, 3) := by decide +kernel
theorem dL_isWaySo_202 : decode cL_isWaySo 202 = .ok (.iload 7, 2) := by decide +kernel
theorem dL_isWaySo_204 : decode cL_isWaySo 204 = .ok (.if_icmp .ne 7, 3) := by decide +kernel
theorem dL_isWaySo_207 : decode cL_isWaySo 207 = .ok (.iconst 1, 1) := by decide +kernel
theorem dL_isWaySo_208 : decode cL_isWaySo 208 = .ok (.goto 4, 3) := by decide +kernel
theorem dL_isWaySo_211 : decode cL_isWaySo 211 = .ok (.iconst 0, 1) := by decide +kernel
theorem dL_isWaySo_212 : decode cL_isWaySo 212 = .ok (.istore 4, 2) := by decide +kernel
theorem dL_isWaySo_214 : decode cL_isWaySo 214 = .ok (.iconst 0, 1) := by decide +kernel
theorem dL_isWaySo_215 : decode cL_isWaySo 215 = .ok (.istore 8, 2) := by decide +kernel
theorem dL_isWaySo_217 : decode cL_isWaySo 217 = .ok (.iload 8, 2) := by decide +kernel
theorem dL_isWaySo_219 : decode cL_isWaySo 219 = .ok (.iconst 4, 1) := by decide +kernel
theorem dL_isWaySo_220 : decode cL_isWaySo 220 = .ok (.if_icmp .ge 77, 3) := by decide +kernel
theorem dL_isWaySo_223 : decode cL_isWaySo 223 = .ok (.iload 4, 2) := by decide +kernel
theorem dL_isWaySo_225 : decode cL_isWaySo 225 = .ok (.ifCond .eq 72, 3) := by decide +kernel
theorem dL_isWaySo_228 : decode cL_isWaySo 228 = .ok (.iload 5, 2) := by decide +kernel
theorem dL_isWaySo_230 : decode cL_isWaySo 230 = .ok (.ifCond .ne 67, 3) := by decide +kernel
theorem dL_isWaySo_233 : decode cL_isWaySo 233 = .ok (.aload_n 0, 1) := by decide +kernel
theorem dL_isWaySo_234 : decode cL_isWaySo 234 = .ok (.iload_n 1, 1) := by decide +kernel
theorem dL_isWaySo_235 : decode cL_isWaySo 235 = .ok (.iload_n 2, 1) := by decide +kernel
theorem dL_isWaySo_236 : decode cL_isWaySo 236 = .ok (.iload 8, 2) := by decide +kernel
theorem dL_isWaySo_238 : decode cL_isWaySo 238 = .ok (.ishr, 1) := by decide +kernel
theorem dL_isWaySo_239 : decode cL_isWaySo 239 = .ok (.iload_n 3, 1) := by decide +kernel
theorem dL_isWaySo_240 : decode cL_isWaySo 240 = .ok (.invokestatic 101, 3) := by decide +kernel
theorem dL_isWaySo_243 : decode cL_isWaySo 243 = .ok (.iload_n 2, 1) := by decide +kernel
theorem dL_isWaySo_244 : decode cL_isWaySo 244 = .ok (.iload 8, 2) := by decide +kernel
theorem dL_isWaySo_246 : decode cL_isWaySo 246 = .ok (.iconst 3, 1) := by decide +kernel
theorem dL_isWaySo_247 : decode cL_isWaySo 247 = .ok (.iadd, 1) := by decide +kernel
theorem dL_isWaySo_248 : decode cL_isWaySo 248 = .ok (.ishr, 1) := by decide +kernel
theorem dL_isWaySo_249 : decode cL_isWaySo 249 = .ok (.iload_n 3, 1) := by decide +kernel
theorem dL_isWaySo_250 : decode cL_isWaySo 250 = .ok (.invokestatic 101, 3) := by decide +kernel
theorem dL_isWaySo_253 : decode cL_isWaySo 253 = .ok (.iconst 0, 1) := by decide +kernel
theorem dL_isWaySo_254 : decode cL_isWaySo 254 = .ok (.invokestatic 150, 3) := by decide +kernel
theorem dL_isWaySo_257 : decode cL_isWaySo 257 = .ok (.aload_n 0, 1) := by decide +kernel
theorem dL_isWaySo_258 : decode cL_isWaySo 258 = .ok (.iload_n 1, 1) := by decide +kernel
theorem dL_isWaySo_259 : decode cL_isWaySo 259 = .ok (.iload_n 2, 1) := by decide +kernel
theorem dL_isWaySo_260 : decode cL_isWaySo 260 = .ok (.iload 8, 2) := by decide +kernel
theorem dL_isWaySo_262 : decode cL_isWaySo 262 = .ok (.ishr, 1) := by decide +kernel
theorem dL_isWaySo_263 : decode cL_isWaySo 263 = .ok (.iload_n 3, 1) := by decide +kernel
theorem dL_isWaySo_264 : decode cL_isWaySo 264 = .ok (.invokestatic 101, 3) := by decide +kernel
theorem dL_isWaySo_267 : decode cL_isWaySo 267 = .ok (.iload_n 2, 1) := by decide +kernel
theorem dL_isWaySo_268 : decode cL_isWaySo 268 = .ok (.iload 8, 2) := by decide +kernel
theorem dL_isWaySo_270 : decode cL_isWaySo 270 = .ok (.iconst 3, 1) := by decide +kernel
theorem dL_isWaySo_271 : decode cL_isWaySo 271 = .ok (.iadd, 1) := by decide +kernel
theorem dL_isWaySo_272 : decode cL_isWaySo 272 = .ok (.ishr, 1) := by decide +kernel
theorem dL_isWaySo_273 : decode cL_isWaySo 273 = .ok (.iload_n 3, 1) := by decide +kernel
theorem dL_isWaySo_274 : decode cL_isWaySo 274 = .ok (.invokestatic 101, 3) := by decide +kernel
theorem dL_isWaySo_277 : decode cL_isWaySo 277 = .ok (.iconst 0, 1) := by decide +kernel
theorem dL_isWaySo_278 : decode cL_isWaySo 278 = .ok (.invokestatic 152, 3) := by decide +kernel
theorem dL_isWaySo_281 : decode cL_isWaySo 281 = .ok (.if_icmp .ne 7, 3) := by decide +kernel
theorem dL_isWaySo_284 : decode cL_isWaySo 284 = .ok (.iconst 1, 1) := by decide +kernel
theorem dL_isWaySo_285 : decode cL_isWaySo 285 = .ok (.goto 4, 3) := by decide +kernel
theorem dL_isWaySo_288 : decode cL_isWaySo 288 = .ok (.iconst 0, 1) := by decide +kernel
theorem dL_isWaySo_289 : decode cL_isWaySo 289 = .ok (.istore 4, 2) := by decide +kernel
theorem dL_isWaySo_291 : decode cL_isWaySo 291 = .ok (.iinc 8 1, 3) := by decide +kernel
theorem dL_isWaySo_294 : decode cL_isWaySo 294 = .ok (.goto (-77), 3) := by decide +kernel
theorem dL_isWaySo_297 : decode cL_isWaySo 297 = .ok (.iload 4, 2) := by decide +kernel
theorem dL_isWaySo_299 : decode cL_isWaySo 299 = .ok (.ifCond .eq 31, 3) := by decide +kernel
theorem dL_isWaySo_302 : decode cL_isWaySo 302 = .ok (.aload_n 0, 1) := by decide +kernel
theorem dL_isWaySo_303 : decode cL_isWaySo 303 = .ok (.iload_n 1, 1) := by decide +kernel
theorem dL_isWaySo_304 : decode cL_isWaySo 304 = .ok (.iconst 3, 1) := by decide +kernel
theorem dL_isWaySo_305 : decode cL_isWaySo 305 = .ok (.invokevirtual 80, 3) := by decide +kernel
theorem dL_isWaySo_308 : decode cL_isWaySo 308 = .ok (.aload_n 0, 1) := by decide +kernel
theorem dL_isWaySo_309 : decode cL_isWaySo 309 = .ok (.iload_n 1, 1) := by decide +kernel
theorem dL_isWaySo_310 : decode cL_isWaySo 310 = .ok (.iconst 2, 1) := by decide +kernel
theorem dL_isWaySo_311 : decode cL_isWaySo 311 = .ok (.invokevirtual 80, 3) := by decide +kernel
theorem dL_isWaySo_314 : decode cL_isWaySo 314 = .ok (.if_icmp .gt 16, 3) := by decide +kernel
theorem dL_isWaySo_317 : decode cL_isWaySo 317 = .ok (.aload_n 0, 1) := by decide +kernel
theorem dL_isWaySo_318 : decode cL_isWaySo 318 = .ok (.iload_n 1, 1) := by decide +kernel
theorem dL_isWaySo_319 : decode cL_isWaySo 319 = .ok (.iconst 4, 1) := by decide +kernel
theorem dL_isWaySo_320 : decode cL_isWaySo 320 = .ok (.invokevirtual 80, 3) := by decide +kernel
theorem dL_isWaySo_323 : decode cL_isWaySo 323 = .ok (.ifCond .lt 7, 3) := by decide +kernel
theorem dL_isWaySo_326 : decode cL_isWaySo 326 = .ok (.iconst 1, 1) := by decide +kernel
theorem dL_isWaySo_327 : decode cL_isWaySo 327 = .ok (.goto 4, 3) := by decide +kernel
theorem dL_isWaySo_330 : decode cL_isWaySo 330 = .ok (.iconst 0, 1) := by decide +kernel
theorem dL_isWaySo_331 : decode cL_isWaySo 331 = .ok (.ireturn, 1) := by decide +kernel
abbrev rmL_isWaySo : Room := { frames := 10, cells := 263, slots := 1578, locals := 194 }
theorem zyL_isWaySo : zyOK yL_isWaySo 4 := ⟨by decide +kernel, by decide +kernel, by decide +kernel⟩
set_option maxHeartbeats 4000000 in
set_option maxRecDepth 100000 in
theorem wL_isWaySo {TZ : Type} {O : Nat → TZ → List Int32 → Option (Int32 × TZ)} {OL : TZ → List Int32 → Option (Int64 × TZ)} {I : Nat → TZ → Nat → TZ → ZS → Prop} (hO : zOps I O OL) {G : ZG} (a0 : Nat) (a1 : Int32) (a2 : Int32) (a3 : Int32) (y : Nat) (U : TZ) (T : TZ) (S : ZS) (hI : I a0 T y U S) (h0 : zFix G cL_isWaySo RL 10 (some .boolean) rmL_isWaySo) (hnt : zNoTab G) (C : Option (Int32 × TZ) → Prop) (hC : ¬ C none) (hE : ∀ (v : Int32) (T9 : TZ) (S9 : ZS), I a0 T9 y U S9 → C (some (v, T9)) → zEndT G (some (.int v)) S9 rmL_isWaySo) : zV G 10 S 0 0 0 [(0, .ref a0), (1, .int a1), (2, .int a2), (3, .int a3)] [] (C (fL_isWaySo O OL a1 a2 a3 T)) := by
  have J331 : ∀ (s0_331 : Int32) (T_331 : TZ) (S_331 : ZS) (hI_331 : I a0 T_331 y U S_331), zV G 10 S_331 263 1578 331 [] [.int s0_331] (C (fL_isWaySo_J331 O OL s0_331 T_331)) := by
    intro s0_331 T_331 S_331 hI_331
    unfold fL_isWaySo_J331
    exact zr_zretT C hC h0 rfl dL_isWaySo_331 (fun w h => hE _ _ _ hI_331 h) (by decide) (by decide)
  have J330 : ∀  (T_330 : TZ) (S_330 : ZS) (hI_330 : I a0 T_330 y U S_330), zV G 10 S_330 263 1578 330 [] [] (C (fL_isWaySo_J330 O OL T_330)) := by
    intro  T_330 S_330 hI_330
    unfold fL_isWaySo_J330
    refine zr_iconst (0 : Int32) h0 (by decide) dL_isWaySo_330 (n := 331) rfl ?_
    exact J331 (0 : Int32) T_330 S_330 hI_330
  have J297 : ∀ (l1_297 : Int32) (l4_297 : Int32) (T_297 : TZ) (S_297 : ZS) (hI_297 : I a0 T_297 y U S_297), zV G 10 S_297 257 1542 297 [(0, .ref a0), (1, .int l1_297), (4, .int l4_297)] [] (C (fL_isWaySo_J297 O OL l1_297 l4_297 T_297)) := by
    intro l1_297 l4_297 T_297 S_297 hI_297
    unfold fL_isWaySo_J297
    refine zr_iload h0 dL_isWaySo_297 rfl (n := 299) rfl ?_
    refine zr_if_eq C (tgt := 330) h0 dL_isWaySo_299 (by decide) (n := 302) rfl ?_ ?_
    · refine zv_sub (lv' := []) ?_ (zsub_of [] rfl)
      refine zv_wide (ce' := 263) (sl' := 1578) ?_ (by first | decide | omega) (by first | decide | omega)
      exact J330  T_297 S_297 hI_297
    · refine zv_sub (lv' := [(0, .ref a0), (1, .int l1_297)]) ?_ (zsub_of [0, 1] rfl)
      refine zr_aload_n h0 dL_isWaySo_302 rfl (n := 303) rfl ?_
      refine zr_iload_n h0 dL_isWaySo_303 rfl (n := 304) rfl ?_
      refine zr_iconst (3 : Int32) h0 (by decide) dL_isWaySo_304 (n := 305) rfl ?_
      refine zr_cD C hC (fun T9 S9 => I a0 T9 y U S9) 259 1554 (fun v9 hv9 hfr => zdf_ofWay hO hI_297 hfr hv9) (fun x hx => zk_VT0 h0 zcX5 (zcl_ex hx) (fun l D z0 hlt => kX5_ofWay l D z0 hlt a0 l1_297 (3 : Int32) S_297 x (zcl_of hx)) hnt.fl zw_794 zw_795 zw_796 zw_1 zw_797 rfl zyX5_ofWay (As := [.int l1_297, .int (3 : Int32)]) (st := []) rfl (by decide) rfl (Nat.le_of_ble_eq_true rfl) (by decide) dL_isWaySo_305) rfl rfl (n := 308) rfl (fun x41 Sx41 hx41 => ?_)
      refine zr_aload_n h0 dL_isWaySo_308 rfl (n := 309) rfl ?_
      refine zr_iload_n h0 dL_isWaySo_309 rfl (n := 310) rfl ?_
      refine zr_iconst (2 : Int32) h0 (by decide) dL_isWaySo_310 (n := 311) rfl ?_
      refine zr_cD C hC (fun T9 S9 => I a0 T9 y U S9) 261 1566 (fun v9 hv9 hfr => zdf_ofWay hO hx41 hfr hv9) (fun x hx => zk_VT0 h0 zcX5 (zcl_ex hx) (fun l D z0 hlt => kX5_ofWay l D z0 hlt a0 l1_297 (2 : Int32) Sx41 x (zcl_of hx)) hnt.fl zw_794 zw_795 zw_796 zw_1 zw_797 rfl zyX5_ofWay (As := [.int l1_297, .int (2 : Int32)]) (st := [.int x41.1]) rfl (by decide) rfl (Nat.le_of_ble_eq_true rfl) (by decide) dL_isWaySo_311) rfl rfl (n := 314) rfl (fun x42 Sx42 hx42 => ?_)
      refine zr_icmp_gt C (tgt := 330) h0 dL_isWaySo_314 (by decide) (n := 317) rfl ?_ ?_
      · refine zv_sub (lv' := []) ?_ (zsub_of [] rfl)
        refine zv_wide (ce' := 263) (sl' := 1578) ?_ (by first | decide | omega) (by first | decide | omega)
        exact J330  x42.2 Sx42 hx42
      · refine zr_aload_n h0 dL_isWaySo_317 rfl (n := 318) rfl ?_
        refine zr_iload_n h0 dL_isWaySo_318 rfl (n := 319) rfl ?_
        refine zr_iconst (4 : Int32) h0 (by decide) dL_isWaySo_319 (n := 320) rfl ?_
        refine zr_cD C hC (fun T9 S9 => I a0 T9 y U S9) 263 1578 (fun v9 hv9 hfr => zdf_ofWay hO hx42 hfr hv9) (fun x hx => zk_VT0 h0 zcX5 (zcl_ex hx) (fun l D z0 hlt => kX5_ofWay l D z0 hlt a0 l1_297 (4 : Int32) Sx42 x (zcl_of hx)) hnt.fl zw_794 zw_795 zw_796 zw_1 zw_797 rfl zyX5_ofWay (As := [.int l1_297, .int (4 : Int32)]) (st := []) rfl (by decide) rfl (Nat.le_of_ble_eq_true rfl) (by decide) dL_isWaySo_320) rfl rfl (n := 323) rfl (fun x43 Sx43 hx43 => ?_)
        refine zr_if_lt C (tgt := 330) h0 dL_isWaySo_323 (by decide) (n := 326) rfl ?_ ?_
        · refine zv_sub (lv' := []) ?_ (zsub_of [] rfl)
          exact J330  x43.2 Sx43 hx43
        · refine zv_sub (lv' := []) ?_ (zsub_of [] rfl)
          refine zr_iconst (1 : Int32) h0 (by decide) dL_isWaySo_326 (n := 327) rfl ?_
          refine zr_goto (tgt := 331) h0 dL_isWaySo_327 (by decide) ?_
          exact J331 (1 : Int32) x43.2 Sx43 hx43
  have J212 : ∀ (l1_212 : Int32) (l2_212 : Int32) (l3_212 : Int32) (l5_212 : Int32) (s0_212 : Int32) (T_212 : TZ) (S_212 : ZS) (hI_212 : I a0 T_212 y U S_212), zV G 10 S_212 157 942 212 [(0, .ref a0), (1, .int l1_212), (2, .int l2_212), (3, .int l3_212), (5, .int l5_212)] [.int s0_212] (C (fL_isWaySo_J212 O OL l1_212 l2_212 l3_212 l5_212 s0_212 T_212)) := by
    intro l1_212 l2_212 l3_212 l5_212 s0_212 T_212 S_212 hI_212
    unfold fL_isWaySo_J212
    refine zr_istore [(0, .ref a0), (1, .int l1_212), (2, .int l2_212), (3, .int l3_212), (4, .int s0_212), (5, .int l5_212)] h0 dL_isWaySo_212 (by decide) rfl (n := 214) rfl ?_
    refine zr_iconst (0 : Int32) h0 (by decide) dL_isWaySo_214 (n := 215) rfl ?_
    refine zr_istore [(0, .ref a0), (1, .int l1_212), (2, .int l2_212), (3, .int l3_212), (4, .int s0_212), (5, .int l5_212), (8, .int (0 : Int32))] h0 dL_isWaySo_215 (by decide) rfl (n := 217) rfl ?_
    refine zr_loopA hC (fL_isWaySo_B217 O OL l1_212 l2_212 l3_212 l5_212) (fun y9 => [(0, .ref a0), (1, .int l1_212), (2, .int l2_212), (3, .int l3_212), (4, .int y9.1), (5, .int l5_212), (8, .int y9.2.1)]) (fun y9 S9 => I a0 y9.2.2 y U S9) 20 120 257 1542 5 (fun ce217 sl217 hce217 hsl217 C217 hC217 hX217 hL217 t217 S217 hI217 => ?_) (s0_212, (0 : Int32), T_212) S_212 hI_212 157 942 (by decide) (by decide)
    have J289 : ∀ (l8_289 : Int32) (s0_289 : Int32) (T_289 : TZ) (S_289 : ZS) (hI_289 : I a0 T_289 y U S_289), zV G 10 S_289 (ce217 + 6) (sl217 + 36) 289 [(0, .ref a0), (1, .int l1_212), (2, .int l2_212), (3, .int l3_212), (5, .int l5_212), (8, .int l8_289)] [.int s0_289] (C217 (fL_isWaySo_J289 O OL l1_212 l2_212 l3_212 l5_212 l8_289 s0_289 T_289)) := by
      intro l8_289 s0_289 T_289 S_289 hI_289
      unfold fL_isWaySo_J289
      refine zr_istore [(0, .ref a0), (1, .int l1_212), (2, .int l2_212), (3, .int l3_212), (4, .int s0_289), (5, .int l5_212), (8, .int l8_289)] h0 dL_isWaySo_289 (by decide) rfl (n := 291) rfl ?_
      refine zr_iinc (1 : Int32) [(0, .ref a0), (1, .int l1_212), (2, .int l2_212), (3, .int l3_212), (4, .int s0_289), (5, .int l5_212), (8, .int (l8_289 + (1 : Int32)))] h0 dL_isWaySo_291 rfl (by decide) rfl rfl (n := 294) rfl ?_
      refine zr_goto (tgt := 217) h0 dL_isWaySo_294 (by decide) ?_
      refine zv_wide (ce' := (ce217 + 20)) (sl' := (sl217 + 120)) ?_ (by first | decide | omega) (by first | decide | omega)
      exact hL217 (s0_289, l8_289 + (1 : Int32), T_289) S_289 hI_289
    unfold fL_isWaySo_B217
    refine zr_iload h0 dL_isWaySo_217 rfl (n := 219) rfl ?_
    refine zr_iconst (4 : Int32) h0 (by decide) dL_isWaySo_219 (n := 220) rfl ?_
    refine zr_icmp_ge C217 (tgt := 297) h0 dL_isWaySo_220 (by decide) (n := 223) rfl ?_ ?_
    · refine zr_ex hX217 ?_
      refine zv_wide (ce' := 257) (sl' := 1542) ?_ (by first | decide | omega) (by first | decide | omega)
      refine zv_sub (lv' := [(0, .ref a0), (1, .int l1_212), (4, .int t217.1)]) ?_ (zsub_of [0, 1, 4] rfl)
      exact J297 l1_212 t217.1 t217.2.2 S217 hI217
    · refine zr_iload h0 dL_isWaySo_223 rfl (n := 225) rfl ?_
      refine zr_if_eq C217 (tgt := 297) h0 dL_isWaySo_225 (by decide) (n := 228) rfl ?_ ?_
      · refine zr_ex hX217 ?_
        refine zv_wide (ce' := 257) (sl' := 1542) ?_ (by first | decide | omega) (by first | decide | omega)
        refine zv_sub (lv' := [(0, .ref a0), (1, .int l1_212), (4, .int t217.1)]) ?_ (zsub_of [0, 1, 4] rfl)
        exact J297 l1_212 t217.1 t217.2.2 S217 hI217
      · refine zr_iload h0 dL_isWaySo_228 rfl (n := 230) rfl ?_
        refine zr_if_ne C217 (tgt := 297) h0 dL_isWaySo_230 (by decide) (n := 233) rfl ?_ ?_
        · refine zv_sub (lv' := [(0, .ref a0), (1, .int l1_212), (2, .int l2_212), (3, .int l3_212), (5, .int l5_212), (8, .int t217.2.1)]) ?_ (zsub_of [0, 1, 2, 3, 5, 6] rfl)
          refine zr_aload_n h0 dL_isWaySo_233 rfl (n := 234) rfl ?_
          refine zr_iload_n h0 dL_isWaySo_234 rfl (n := 235) rfl ?_
          refine zr_iload_n h0 dL_isWaySo_235 rfl (n := 236) rfl ?_
          refine zr_iload h0 dL_isWaySo_236 rfl (n := 238) rfl ?_
          refine zr_ishr h0 dL_isWaySo_238 (n := 239) rfl ?_
          refine zr_iload_n h0 dL_isWaySo_239 rfl (n := 240) rfl ?_
          refine zr_cRI C217 hC217 (ce217 + 0) (sl217 + 0) (fun x hx => zk_S h0 (fun l D z0 => kL_low l D z0 (l2_212 >>> (t217.2.1 &&& 31)) l3_212 S217 x hx) zw_105 zw_106 zw_0 zw_107 zyL_low (As := [.int (l2_212 >>> (t217.2.1 &&& 31)), .int l3_212]) (st := [.int l1_212, .ref a0]) rfl (by decide) rfl (Nat.le_of_ble_eq_true rfl) ⟨by show (ce217 + 0) + 0 ≤ 263; omega, by show (sl217 + 0) + 0 ≤ 1578; omega⟩ dL_isWaySo_240) rfl rfl (n := 243) rfl (fun x44 => ?_)
          refine zr_iload_n h0 dL_isWaySo_243 rfl (n := 244) rfl ?_
          refine zr_iload h0 dL_isWaySo_244 rfl (n := 246) rfl ?_
          refine zr_iconst (3 : Int32) h0 (by decide) dL_isWaySo_246 (n := 247) rfl ?_
          refine zr_iadd h0 dL_isWaySo_247 (n := 248) rfl ?_
          refine zr_ishr h0 dL_isWaySo_248 (n := 249) rfl ?_
          refine zr_iload_n h0 dL_isWaySo_249 rfl (n := 250) rfl ?_
          refine zr_cRI C217 hC217 (ce217 + 0) (sl217 + 0) (fun x hx => zk_S h0 (fun l D z0 => kL_low l D z0 (l2_212 >>> ((t217.2.1 + (3 : Int32)) &&& 31)) l3_212 S217 x hx) zw_105 zw_106 zw_0 zw_107 zyL_low (As := [.int (l2_212 >>> ((t217.2.1 + (3 : Int32)) &&& 31)), .int l3_212]) (st := [.int x44, .int l1_212, .ref a0]) rfl (by decide) rfl (Nat.le_of_ble_eq_true rfl) ⟨by show (ce217 + 0) + 0 ≤ 263; omega, by show (sl217 + 0) + 0 ≤ 1578; omega⟩ dL_isWaySo_250) rfl rfl (n := 253) rfl (fun x45 => ?_)
          refine zr_iconst (0 : Int32) h0 (by decide) dL_isWaySo_253 (n := 254) rfl ?_
          refine zr_cW C217 hC217 .int (fun T9 S9 => I a0 T9 y U S9) (ce217 + 3) (sl217 + 18) h0 hnt.fl (fun v9 hv9 hfr => zwf_result hO hI217 hfr hv9) (fun x hx l D z0 hlt => kL_result l D z0 hlt a0 l1_212 x44 x45 (0 : Int32) S217 x hx) zw_691 zw_692 zw_0 zw_693 zyL_result (As := [.ref a0, .int l1_212, .int x44, .int x45, .int (0 : Int32)]) (st := []) rfl (by decide) rfl (Nat.le_of_ble_eq_true rfl) ⟨by show (ce217 + 0) + 3 ≤ 263; omega, by show (sl217 + 0) + 18 ≤ 1578; omega⟩ dL_isWaySo_254 rfl rfl (n := 257) rfl (fun x46 Sx46 hx46 => ?_)
          refine zr_aload_n h0 dL_isWaySo_257 rfl (n := 258) rfl ?_
          refine zr_iload_n h0 dL_isWaySo_258 rfl (n := 259) rfl ?_
          refine zr_iload_n h0 dL_isWaySo_259 rfl (n := 260) rfl ?_
          refine zr_iload h0 dL_isWaySo_260 rfl (n := 262) rfl ?_
          refine zr_ishr h0 dL_isWaySo_262 (n := 263) rfl ?_
          refine zr_iload_n h0 dL_isWaySo_263 rfl (n := 264) rfl ?_
          refine zr_cRI C217 hC217 (ce217 + 3) (sl217 + 18) (fun x hx => zk_S h0 (fun l D z0 => kL_low l D z0 (l2_212 >>> (t217.2.1 &&& 31)) l3_212 Sx46 x hx) zw_105 zw_106 zw_0 zw_107 zyL_low (As := [.int (l2_212 >>> (t217.2.1 &&& 31)), .int l3_212]) (st := [.int l1_212, .ref a0, .int x46.1]) rfl (by decide) rfl (Nat.le_of_ble_eq_true rfl) ⟨by show (ce217 + 3) + 0 ≤ 263; omega, by show (sl217 + 18) + 0 ≤ 1578; omega⟩ dL_isWaySo_264) rfl rfl (n := 267) rfl (fun x47 => ?_)
          refine zr_iload_n h0 dL_isWaySo_267 rfl (n := 268) rfl ?_
          refine zr_iload h0 dL_isWaySo_268 rfl (n := 270) rfl ?_
          refine zr_iconst (3 : Int32) h0 (by decide) dL_isWaySo_270 (n := 271) rfl ?_
          refine zr_iadd h0 dL_isWaySo_271 (n := 272) rfl ?_
          refine zr_ishr h0 dL_isWaySo_272 (n := 273) rfl ?_
          refine zr_iload_n h0 dL_isWaySo_273 rfl (n := 274) rfl ?_
          refine zr_cRI C217 hC217 (ce217 + 3) (sl217 + 18) (fun x hx => zk_S h0 (fun l D z0 => kL_low l D z0 (l2_212 >>> ((t217.2.1 + (3 : Int32)) &&& 31)) l3_212 Sx46 x hx) zw_105 zw_106 zw_0 zw_107 zyL_low (As := [.int (l2_212 >>> ((t217.2.1 + (3 : Int32)) &&& 31)), .int l3_212]) (st := [.int x47, .int l1_212, .ref a0, .int x46.1]) rfl (by decide) rfl (Nat.le_of_ble_eq_true rfl) ⟨by show (ce217 + 3) + 0 ≤ 263; omega, by show (sl217 + 18) + 0 ≤ 1578; omega⟩ dL_isWaySo_274) rfl rfl (n := 277) rfl (fun x48 => ?_)
          refine zr_iconst (0 : Int32) h0 (by decide) dL_isWaySo_277 (n := 278) rfl ?_
          refine zr_cW C217 hC217 .int (fun T9 S9 => I a0 T9 y U S9) (ce217 + 6) (sl217 + 36) h0 hnt.fl (fun v9 hv9 hfr => zwf_resultByCube hO hx46 hfr hv9) (fun x hx l D z0 hlt => kL_resultByCube l D z0 hlt a0 l1_212 x47 x48 (0 : Int32) Sx46 x hx) zw_714 zw_715 zw_0 zw_716 zyL_resultByCube (As := [.ref a0, .int l1_212, .int x47, .int x48, .int (0 : Int32)]) (st := [.int x46.1]) rfl (by decide) rfl (Nat.le_of_ble_eq_true rfl) ⟨by show (ce217 + 3) + 3 ≤ 263; omega, by show (sl217 + 18) + 18 ≤ 1578; omega⟩ dL_isWaySo_278 rfl rfl (n := 281) rfl (fun x49 Sx49 hx49 => ?_)
          refine zr_icmp_ne C217 (tgt := 288) h0 dL_isWaySo_281 (by decide) (n := 284) rfl ?_ ?_
          · refine zr_iconst (1 : Int32) h0 (by decide) dL_isWaySo_284 (n := 285) rfl ?_
            refine zr_goto (tgt := 289) h0 dL_isWaySo_285 (by decide) ?_
            exact J289 t217.2.1 (1 : Int32) x49.2 Sx49 hx49
          · refine zr_iconst (0 : Int32) h0 (by decide) dL_isWaySo_288 (n := 289) rfl ?_
            exact J289 t217.2.1 (0 : Int32) x49.2 Sx49 hx49
        · refine zr_ex hX217 ?_
          refine zv_wide (ce' := 257) (sl' := 1542) ?_ (by first | decide | omega) (by first | decide | omega)
          refine zv_sub (lv' := [(0, .ref a0), (1, .int l1_212), (4, .int t217.1)]) ?_ (zsub_of [0, 1, 4] rfl)
          exact J297 l1_212 t217.1 t217.2.2 S217 hI217
  have J211 : ∀ (l1_211 : Int32) (l2_211 : Int32) (l3_211 : Int32) (l5_211 : Int32) (T_211 : TZ) (S_211 : ZS) (hI_211 : I a0 T_211 y U S_211), zV G 10 S_211 157 942 211 [(0, .ref a0), (1, .int l1_211), (2, .int l2_211), (3, .int l3_211), (5, .int l5_211)] [] (C (fL_isWaySo_J211 O OL l1_211 l2_211 l3_211 l5_211 T_211)) := by
    intro l1_211 l2_211 l3_211 l5_211 T_211 S_211 hI_211
    unfold fL_isWaySo_J211
    refine zr_iconst (0 : Int32) h0 (by decide) dL_isWaySo_211 (n := 212) rfl ?_
    exact J212 l1_211 l2_211 l3_211 l5_211 (0 : Int32) T_211 S_211 hI_211
  have J134 : ∀ (l1_134 : Int32) (l2_134 : Int32) (l3_134 : Int32) (l4_134 : Int32) (l5_134 : Int32) (l6_134 : Int32) (l7_134 : Int32) (T_134 : TZ) (S_134 : ZS) (hI_134 : I a0 T_134 y U S_134), zV G 10 S_134 147 882 134 [(0, .ref a0), (1, .int l1_134), (2, .int l2_134), (3, .int l3_134), (4, .int l4_134), (5, .int l5_134), (6, .int l6_134), (7, .int l7_134)] [] (C (fL_isWaySo_J134 O OL l1_134 l2_134 l3_134 l4_134 l5_134 l6_134 l7_134 T_134)) := by
    intro l1_134 l2_134 l3_134 l4_134 l5_134 l6_134 l7_134 T_134 S_134 hI_134
    unfold fL_isWaySo_J134
    refine zr_iload h0 dL_isWaySo_134 rfl (n := 136) rfl ?_
    refine zr_if_eq C (tgt := 211) h0 dL_isWaySo_136 (by decide) (n := 139) rfl ?_ ?_
    · refine zv_sub (lv' := [(0, .ref a0), (1, .int l1_134), (2, .int l2_134), (3, .int l3_134), (5, .int l5_134)]) ?_ (zsub_of [0, 1, 2, 3, 5] rfl)
      refine zv_wide (ce' := 157) (sl' := 942) ?_ (by first | decide | omega) (by first | decide | omega)
      exact J211 l1_134 l2_134 l3_134 l5_134 T_134 S_134 hI_134
    · refine zv_sub (lv' := [(0, .ref a0), (1, .int l1_134), (2, .int l2_134), (3, .int l3_134), (5, .int l5_134), (6, .int l6_134), (7, .int l7_134)]) ?_ (zsub_of [0, 1, 2, 3, 5, 6, 7] rfl)
      refine zr_aload_n h0 dL_isWaySo_139 rfl (n := 140) rfl ?_
      refine zr_iload_n h0 dL_isWaySo_140 rfl (n := 141) rfl ?_
      refine zr_iload_n h0 dL_isWaySo_141 rfl (n := 142) rfl ?_
      refine zr_ldc h0 zw_543 dL_isWaySo_142 (n := 144) rfl ?_
      refine zr_cRI C hC 147 882 (fun x hx => zk_S h0 (fun l D z0 => kL_low l D z0 l2_134 (65536 : Int32) S_134 x hx) zw_105 zw_106 zw_0 zw_107 zyL_low (As := [.int l2_134, .int (65536 : Int32)]) (st := [.int l1_134, .ref a0]) rfl (by decide) rfl (Nat.le_of_ble_eq_true rfl) (by decide) dL_isWaySo_144) rfl rfl (n := 147) rfl (fun x50 => ?_)
      refine zr_iconst (5 : Int32) h0 (by decide) dL_isWaySo_147 (n := 148) rfl ?_
      refine zr_cD C hC (fun T9 S9 => I a0 T9 y U S9) 149 894 (fun v9 hv9 hfr => zdf_walk hO hI_134 hfr hv9) (fun x hx => zk_VT0 h0 zcX5 (zcl_ex hx) (fun l D z0 hlt => kX5_walk l D z0 hlt a0 l1_134 x50 (5 : Int32) S_134 x (zcl_of hx)) hnt.fl zw_547 zw_548 zw_549 zw_1 zw_550 rfl zyX5_walk (As := [.int l1_134, .int x50, .int (5 : Int32)]) (st := []) rfl (by decide) rfl (Nat.le_of_ble_eq_true rfl) (by decide) dL_isWaySo_148) rfl rfl (n := 151) rfl (fun x51 Sx51 hx51 => ?_)
      refine zr_if_lt C (tgt := 211) h0 dL_isWaySo_151 (by decide) (n := 154) rfl ?_ ?_
      · refine zv_sub (lv' := [(0, .ref a0), (1, .int l1_134), (2, .int l2_134), (3, .int l3_134), (5, .int l5_134)]) ?_ (zsub_of [0, 1, 2, 3, 4] rfl)
        refine zv_wide (ce' := 157) (sl' := 942) ?_ (by first | decide | omega) (by first | decide | omega)
        exact J211 l1_134 l2_134 l3_134 l5_134 x51.2 Sx51 hx51
      · refine zr_aload_n h0 dL_isWaySo_154 rfl (n := 155) rfl ?_
        refine zr_iload_n h0 dL_isWaySo_155 rfl (n := 156) rfl ?_
        refine zr_iconst (1 : Int32) h0 (by decide) dL_isWaySo_156 (n := 157) rfl ?_
        refine zr_cD C hC (fun T9 S9 => I a0 T9 y U S9) 151 906 (fun v9 hv9 hfr => zdf_ofWay hO hx51 hfr hv9) (fun x hx => zk_VT0 h0 zcX5 (zcl_ex hx) (fun l D z0 hlt => kX5_ofWay l D z0 hlt a0 l1_134 (1 : Int32) Sx51 x (zcl_of hx)) hnt.fl zw_794 zw_795 zw_796 zw_1 zw_797 rfl zyX5_ofWay (As := [.int l1_134, .int (1 : Int32)]) (st := []) rfl (by decide) rfl (Nat.le_of_ble_eq_true rfl) (by decide) dL_isWaySo_157) rfl rfl (n := 160) rfl (fun x52 Sx52 hx52 => ?_)
        refine zr_iload h0 dL_isWaySo_160 rfl (n := 162) rfl ?_
        refine zr_icmp_ne C (tgt := 211) h0 dL_isWaySo_162 (by decide) (n := 165) rfl ?_ ?_
        · refine zr_aload_n h0 dL_isWaySo_165 rfl (n := 166) rfl ?_
          refine zr_iload_n h0 dL_isWaySo_166 rfl (n := 167) rfl ?_
          refine zr_cD C hC (fun T9 S9 => I a0 T9 y U S9) 152 912 (fun v9 hv9 hfr => zdf_reduce hO hx52 hfr hv9) (fun x hx => zk_VT0 h0 zcX5 (zcl_ex hx) (fun l D z0 hlt => kX5_reduce l D z0 hlt a0 l1_134 Sx52 x (zcl_of hx)) hnt.fl zw_515 zw_516 zw_517 zw_1 zw_518 rfl zyX5_reduce (As := [.int l1_134]) (st := []) rfl (by decide) rfl (Nat.le_of_ble_eq_true rfl) (by decide) dL_isWaySo_167) rfl rfl (n := 170) rfl (fun x53 Sx53 hx53 => ?_)
          refine zr_if_ne C (tgt := 211) h0 dL_isWaySo_170 (by decide) (n := 173) rfl ?_ ?_
          · refine zr_aload_n h0 dL_isWaySo_173 rfl (n := 174) rfl ?_
            refine zr_iload_n h0 dL_isWaySo_174 rfl (n := 175) rfl ?_
            refine zr_iconst (0 : Int32) h0 (by decide) dL_isWaySo_175 (n := 176) rfl ?_
            refine zr_cD C hC (fun T9 S9 => I a0 T9 y U S9) 154 924 (fun v9 hv9 hfr => zdf_ofWay hO hx53 hfr hv9) (fun x hx => zk_VT0 h0 zcX5 (zcl_ex hx) (fun l D z0 hlt => kX5_ofWay l D z0 hlt a0 l1_134 (0 : Int32) Sx53 x (zcl_of hx)) hnt.fl zw_794 zw_795 zw_796 zw_1 zw_797 rfl zyX5_ofWay (As := [.int l1_134, .int (0 : Int32)]) (st := []) rfl (by decide) rfl (Nat.le_of_ble_eq_true rfl) (by decide) dL_isWaySo_176) rfl rfl (n := 179) rfl (fun x54 Sx54 hx54 => ?_)
            refine zr_iload h0 dL_isWaySo_179 rfl (n := 181) rfl ?_
            refine zr_icmp_gt C (tgt := 211) h0 dL_isWaySo_181 (by decide) (n := 184) rfl ?_ ?_
            · refine zv_sub (lv' := [(0, .ref a0), (1, .int l1_134), (2, .int l2_134), (3, .int l3_134), (5, .int l5_134)]) ?_ (zsub_of [0, 1, 2, 3, 4] rfl)
              refine zv_wide (ce' := 157) (sl' := 942) ?_ (by first | decide | omega) (by first | decide | omega)
              exact J211 l1_134 l2_134 l3_134 l5_134 x54.2 Sx54 hx54
            · refine zv_sub (lv' := [(0, .ref a0), (1, .int l1_134), (2, .int l2_134), (3, .int l3_134), (5, .int l5_134), (7, .int l7_134)]) ?_ (zsub_of [0, 1, 2, 3, 4, 6] rfl)
              refine zr_aload_n h0 dL_isWaySo_184 rfl (n := 185) rfl ?_
              refine zr_iload_n h0 dL_isWaySo_185 rfl (n := 186) rfl ?_
              refine zr_iload_n h0 dL_isWaySo_186 rfl (n := 187) rfl ?_
              refine zr_iload_n h0 dL_isWaySo_187 rfl (n := 188) rfl ?_
              refine zr_cRI C hC 154 924 (fun x hx => zk_S h0 (fun l D z0 => kL_low l D z0 l2_134 l3_134 Sx54 x hx) zw_105 zw_106 zw_0 zw_107 zyL_low (As := [.int l2_134, .int l3_134]) (st := [.int l1_134, .ref a0]) rfl (by decide) rfl (Nat.le_of_ble_eq_true rfl) (by decide) dL_isWaySo_188) rfl rfl (n := 191) rfl (fun x55 => ?_)
              refine zr_iload_n h0 dL_isWaySo_191 rfl (n := 192) rfl ?_
              refine zr_iconst (3 : Int32) h0 (by decide) dL_isWaySo_192 (n := 193) rfl ?_
              refine zr_ishr h0 dL_isWaySo_193 (n := 194) rfl ?_
              refine zr_iload_n h0 dL_isWaySo_194 rfl (n := 195) rfl ?_
              refine zr_cRI C hC 154 924 (fun x hx => zk_S h0 (fun l D z0 => kL_low l D z0 (l2_134 >>> ((3 : Int32) &&& 31)) l3_134 Sx54 x hx) zw_105 zw_106 zw_0 zw_107 zyL_low (As := [.int (l2_134 >>> ((3 : Int32) &&& 31)), .int l3_134]) (st := [.int x55, .int l1_134, .ref a0]) rfl (by decide) rfl (Nat.le_of_ble_eq_true rfl) (by decide) dL_isWaySo_195) rfl rfl (n := 198) rfl (fun x56 => ?_)
              refine zr_iconst (0 : Int32) h0 (by decide) dL_isWaySo_198 (n := 199) rfl ?_
              refine zr_cW C hC .int (fun T9 S9 => I a0 T9 y U S9) 157 942 h0 hnt.fl (fun v9 hv9 hfr => zwf_result hO hx54 hfr hv9) (fun x hx l D z0 hlt => kL_result l D z0 hlt a0 l1_134 x55 x56 (0 : Int32) Sx54 x hx) zw_691 zw_692 zw_0 zw_693 zyL_result (As := [.ref a0, .int l1_134, .int x55, .int x56, .int (0 : Int32)]) (st := []) rfl (by decide) rfl (Nat.le_of_ble_eq_true rfl) (by decide) dL_isWaySo_199 rfl rfl (n := 202) rfl (fun x57 Sx57 hx57 => ?_)
              refine zr_iload h0 dL_isWaySo_202 rfl (n := 204) rfl ?_
              refine zr_icmp_ne C (tgt := 211) h0 dL_isWaySo_204 (by decide) (n := 207) rfl ?_ ?_
              · refine zv_sub (lv' := [(0, .ref a0), (1, .int l1_134), (2, .int l2_134), (3, .int l3_134), (5, .int l5_134)]) ?_ (zsub_of [0, 1, 2, 3, 4] rfl)
                refine zr_iconst (1 : Int32) h0 (by decide) dL_isWaySo_207 (n := 208) rfl ?_
                refine zr_goto (tgt := 212) h0 dL_isWaySo_208 (by decide) ?_
                exact J212 l1_134 l2_134 l3_134 l5_134 (1 : Int32) x57.2 Sx57 hx57
              · refine zv_sub (lv' := [(0, .ref a0), (1, .int l1_134), (2, .int l2_134), (3, .int l3_134), (5, .int l5_134)]) ?_ (zsub_of [0, 1, 2, 3, 4] rfl)
                exact J211 l1_134 l2_134 l3_134 l5_134 x57.2 Sx57 hx57
          · refine zv_sub (lv' := [(0, .ref a0), (1, .int l1_134), (2, .int l2_134), (3, .int l3_134), (5, .int l5_134)]) ?_ (zsub_of [0, 1, 2, 3, 4] rfl)
            refine zv_wide (ce' := 157) (sl' := 942) ?_ (by first | decide | omega) (by first | decide | omega)
            exact J211 l1_134 l2_134 l3_134 l5_134 x53.2 Sx53 hx53
        · refine zv_sub (lv' := [(0, .ref a0), (1, .int l1_134), (2, .int l2_134), (3, .int l3_134), (5, .int l5_134)]) ?_ (zsub_of [0, 1, 2, 3, 4] rfl)
          refine zv_wide (ce' := 157) (sl' := 942) ?_ (by first | decide | omega) (by first | decide | omega)
          exact J211 l1_134 l2_134 l3_134 l5_134 x52.2 Sx52 hx52
  unfold fL_isWaySo
  refine zr_iconst (1 : Int32) h0 (by decide) dL_isWaySo_0 (n := 1) rfl ?_
  refine zr_istore [(0, .ref a0), (1, .int a1), (2, .int a2), (3, .int a3), (4, .int (1 : Int32))] h0 dL_isWaySo_1 (by decide) rfl (n := 3) rfl ?_
  refine zr_aload_n h0 dL_isWaySo_3 rfl (n := 4) rfl ?_
  refine zr_iload_n h0 dL_isWaySo_4 rfl (n := 5) rfl ?_
  refine zr_iconst (1 : Int32) h0 (by decide) dL_isWaySo_5 (n := 6) rfl ?_
  refine zr_cD C hC (fun T9 S9 => I a0 T9 y U S9) 2 12 (fun v9 hv9 hfr => zdf_ofWay hO hI hfr hv9) (fun x hx => zk_VT0 h0 zcX5 (zcl_ex hx) (fun l D z0 hlt => kX5_ofWay l D z0 hlt a0 a1 (1 : Int32) S x (zcl_of hx)) hnt.fl zw_794 zw_795 zw_796 zw_1 zw_797 rfl zyX5_ofWay (As := [.int a1, .int (1 : Int32)]) (st := []) rfl (by decide) rfl (Nat.le_of_ble_eq_true rfl) (by decide) dL_isWaySo_6) rfl rfl (n := 9) rfl (fun x1 Sx1 hx1 => ?_)
  refine zr_istore [(0, .ref a0), (1, .int a1), (2, .int a2), (3, .int a3), (4, .int (1 : Int32)), (5, .int x1.1)] h0 dL_isWaySo_9 (by decide) rfl (n := 11) rfl ?_
  refine zr_aload_n h0 dL_isWaySo_11 rfl (n := 12) rfl ?_
  refine zr_iload_n h0 dL_isWaySo_12 rfl (n := 13) rfl ?_
  refine zr_iconst (0 : Int32) h0 (by decide) dL_isWaySo_13 (n := 14) rfl ?_
  refine zr_cD C hC (fun T9 S9 => I a0 T9 y U S9) 4 24 (fun v9 hv9 hfr => zdf_ofWay hO hx1 hfr hv9) (fun x hx => zk_VT0 h0 zcX5 (zcl_ex hx) (fun l D z0 hlt => kX5_ofWay l D z0 hlt a0 a1 (0 : Int32) Sx1 x (zcl_of hx)) hnt.fl zw_794 zw_795 zw_796 zw_1 zw_797 rfl zyX5_ofWay (As := [.int a1, .int (0 : Int32)]) (st := []) rfl (by decide) rfl (Nat.le_of_ble_eq_true rfl) (by decide) dL_isWaySo_14) rfl rfl (n := 17) rfl (fun x2 Sx2 hx2 => ?_)
  refine zr_istore [(0, .ref a0), (1, .int a1), (2, .int a2), (3, .int a3), (4, .int (1 : Int32)), (5, .int x1.1), (6, .int x2.1)] h0 dL_isWaySo_17 (by decide) rfl (n := 19) rfl ?_
  refine zr_aload_n h0 dL_isWaySo_19 rfl (n := 20) rfl ?_
  refine zr_iload_n h0 dL_isWaySo_20 rfl (n := 21) rfl ?_
  refine zr_iload_n h0 dL_isWaySo_21 rfl (n := 22) rfl ?_
  refine zr_iload_n h0 dL_isWaySo_22 rfl (n := 23) rfl ?_
  refine zr_cRI C hC 4 24 (fun x hx => zk_S h0 (fun l D z0 => kL_low l D z0 a2 a3 Sx2 x hx) zw_105 zw_106 zw_0 zw_107 zyL_low (As := [.int a2, .int a3]) (st := [.int a1, .ref a0]) rfl (by decide) rfl (Nat.le_of_ble_eq_true rfl) (by decide) dL_isWaySo_23) rfl rfl (n := 26) rfl (fun x3 => ?_)
  refine zr_iload_n h0 dL_isWaySo_26 rfl (n := 27) rfl ?_
  refine zr_iconst (3 : Int32) h0 (by decide) dL_isWaySo_27 (n := 28) rfl ?_
  refine zr_ishr h0 dL_isWaySo_28 (n := 29) rfl ?_
  refine zr_iload_n h0 dL_isWaySo_29 rfl (n := 30) rfl ?_
  refine zr_cRI C hC 4 24 (fun x hx => zk_S h0 (fun l D z0 => kL_low l D z0 (a2 >>> ((3 : Int32) &&& 31)) a3 Sx2 x hx) zw_105 zw_106 zw_0 zw_107 zyL_low (As := [.int (a2 >>> ((3 : Int32) &&& 31)), .int a3]) (st := [.int x3, .int a1, .ref a0]) rfl (by decide) rfl (Nat.le_of_ble_eq_true rfl) (by decide) dL_isWaySo_30) rfl rfl (n := 33) rfl (fun x4 => ?_)
  refine zr_iconst (0 : Int32) h0 (by decide) dL_isWaySo_33 (n := 34) rfl ?_
  refine zr_cW C hC .int (fun T9 S9 => I a0 T9 y U S9) 7 42 h0 hnt.fl (fun v9 hv9 hfr => zwf_result hO hx2 hfr hv9) (fun x hx l D z0 hlt => kL_result l D z0 hlt a0 a1 x3 x4 (0 : Int32) Sx2 x hx) zw_691 zw_692 zw_0 zw_693 zyL_result (As := [.ref a0, .int a1, .int x3, .int x4, .int (0 : Int32)]) (st := []) rfl (by decide) rfl (Nat.le_of_ble_eq_true rfl) (by decide) dL_isWaySo_34 rfl rfl (n := 37) rfl (fun x5 Sx5 hx5 => ?_)
  refine zr_istore [(0, .ref a0), (1, .int a1), (2, .int a2), (3, .int a3), (4, .int (1 : Int32)), (5, .int x1.1), (6, .int x2.1), (7, .int x5.1)] h0 dL_isWaySo_37 (by decide) rfl (n := 39) rfl ?_
  refine zr_iconst (0 : Int32) h0 (by decide) dL_isWaySo_39 (n := 40) rfl ?_
  refine zr_istore [(0, .ref a0), (1, .int a1), (2, .int a2), (3, .int a3), (4, .int (1 : Int32)), (5, .int x1.1), (6, .int x2.1), (7, .int x5.1), (8, .int (0 : Int32))] h0 dL_isWaySo_40 (by decide) rfl (n := 42) rfl ?_
  refine zr_loopA hC (fL_isWaySo_B42 O OL a1 a2 a3 x1.1 x2.1 x5.1) (fun y9 => [(0, .ref a0), (1, .int a1), (2, .int a2), (3, .int a3), (4, .int y9.1), (5, .int x1.1), (6, .int x2.1), (7, .int x5.1), (8, .int y9.2.1)]) (fun y9 S9 => I a0 y9.2.2 y U S9) 20 120 147 882 7 (fun ce42 sl42 hce42 hsl42 C42 hC42 hX42 hL42 t42 S42 hI42 => ?_) ((1 : Int32), (0 : Int32), x5.2) Sx5 hx5 7 42 (by decide) (by decide)
  have J126 : ∀ (l8_126 : Int32) (s0_126 : Int32) (T_126 : TZ) (S_126 : ZS) (hI_126 : I a0 T_126 y U S_126), zV G 10 S_126 (ce42 + 9) (sl42 + 54) 126 [(0, .ref a0), (1, .int a1), (2, .int a2), (3, .int a3), (5, .int x1.1), (6, .int x2.1), (7, .int x5.1), (8, .int l8_126)] [.int s0_126] (C42 (fL_isWaySo_J126 O OL a1 a2 a3 x1.1 x2.1 x5.1 l8_126 s0_126 T_126)) := by
    intro l8_126 s0_126 T_126 S_126 hI_126
    unfold fL_isWaySo_J126
    refine zr_istore [(0, .ref a0), (1, .int a1), (2, .int a2), (3, .int a3), (4, .int s0_126), (5, .int x1.1), (6, .int x2.1), (7, .int x5.1), (8, .int l8_126)] h0 dL_isWaySo_126 (by decide) rfl (n := 128) rfl ?_
    refine zr_iinc (1 : Int32) [(0, .ref a0), (1, .int a1), (2, .int a2), (3, .int a3), (4, .int s0_126), (5, .int x1.1), (6, .int x2.1), (7, .int x5.1), (8, .int (l8_126 + (1 : Int32)))] h0 dL_isWaySo_128 rfl (by decide) rfl rfl (n := 131) rfl ?_
    refine zr_goto (tgt := 42) h0 dL_isWaySo_131 (by decide) ?_
    refine zv_wide (ce' := (ce42 + 20)) (sl' := (sl42 + 120)) ?_ (by first | decide | omega) (by first | decide | omega)
    exact hL42 (s0_126, l8_126 + (1 : Int32), T_126) S_126 hI_126
  have J125 : ∀ (l8_125 : Int32) (T_125 : TZ) (S_125 : ZS) (hI_125 : I a0 T_125 y U S_125), zV G 10 S_125 (ce42 + 9) (sl42 + 54) 125 [(0, .ref a0), (1, .int a1), (2, .int a2), (3, .int a3), (5, .int x1.1), (6, .int x2.1), (7, .int x5.1), (8, .int l8_125)] [] (C42 (fL_isWaySo_J125 O OL a1 a2 a3 x1.1 x2.1 x5.1 l8_125 T_125)) := by
    intro l8_125 T_125 S_125 hI_125
    unfold fL_isWaySo_J125
    refine zr_iconst (0 : Int32) h0 (by decide) dL_isWaySo_125 (n := 126) rfl ?_
    exact J126 l8_125 (0 : Int32) T_125 S_125 hI_125
  have J121 : ∀ (l8_121 : Int32) (T_121 : TZ) (S_121 : ZS) (hI_121 : I a0 T_121 y U S_121), zV G 10 S_121 (ce42 + 9) (sl42 + 54) 121 [(0, .ref a0), (1, .int a1), (2, .int a2), (3, .int a3), (5, .int x1.1), (6, .int x2.1), (7, .int x5.1), (8, .int l8_121)] [] (C42 (fL_isWaySo_J121 O OL a1 a2 a3 x1.1 x2.1 x5.1 l8_121 T_121)) := by
    intro l8_121 T_121 S_121 hI_121
    unfold fL_isWaySo_J121
    refine zr_iconst (1 : Int32) h0 (by decide) dL_isWaySo_121 (n := 122) rfl ?_
    refine zr_goto (tgt := 126) h0 dL_isWaySo_122 (by decide) ?_
    exact J126 l8_121 (1 : Int32) T_121 S_121 hI_121
  unfold fL_isWaySo_B42
  refine zr_iload h0 dL_isWaySo_42 rfl (n := 44) rfl ?_
  refine zr_bipush (6 : Int32) h0 (by decide) dL_isWaySo_44 (n := 46) rfl ?_
  refine zr_icmp_ge C42 (tgt := 134) h0 dL_isWaySo_46 (by decide) (n := 49) rfl ?_ ?_
  · refine zr_ex hX42 ?_
    refine zv_wide (ce' := 147) (sl' := 882) ?_ (by first | decide | omega) (by first | decide | omega)
    refine zv_sub (lv' := [(0, .ref a0), (1, .int a1), (2, .int a2), (3, .int a3), (4, .int t42.1), (5, .int x1.1), (6, .int x2.1), (7, .int x5.1)]) ?_ (zsub_of [0, 1, 2, 3, 4, 5, 6, 7] rfl)
    exact J134 a1 a2 a3 t42.1 x1.1 x2.1 x5.1 t42.2.2 S42 hI42
  · refine zr_iload h0 dL_isWaySo_49 rfl (n := 51) rfl ?_
    refine zr_if_eq C42 (tgt := 134) h0 dL_isWaySo_51 (by decide) (n := 54) rfl ?_ ?_
    · refine zr_ex hX42 ?_
      refine zv_wide (ce' := 147) (sl' := 882) ?_ (by first | decide | omega) (by first | decide | omega)
      refine zv_sub (lv' := [(0, .ref a0), (1, .int a1), (2, .int a2), (3, .int a3), (4, .int t42.1), (5, .int x1.1), (6, .int x2.1), (7, .int x5.1)]) ?_ (zsub_of [0, 1, 2, 3, 4, 5, 6, 7] rfl)
      exact J134 a1 a2 a3 t42.1 x1.1 x2.1 x5.1 t42.2.2 S42 hI42
    · refine zv_sub (lv' := [(0, .ref a0), (1, .int a1), (2, .int a2), (3, .int a3), (5, .int x1.1), (6, .int x2.1), (7, .int x5.1), (8, .int t42.2.1)]) ?_ (zsub_of [0, 1, 2, 3, 5, 6, 7, 8] rfl)
      refine zr_aload_n h0 dL_isWaySo_54 rfl (n := 55) rfl ?_
      refine zr_iload_n h0 dL_isWaySo_55 rfl (n := 56) rfl ?_
      refine zr_iload_n h0 dL_isWaySo_56 rfl (n := 57) rfl ?_
      refine zr_iload h0 dL_isWaySo_57 rfl (n := 59) rfl ?_
      refine zr_ishr h0 dL_isWaySo_59 (n := 60) rfl ?_
      refine zr_iconst (5 : Int32) h0 (by decide) dL_isWaySo_60 (n := 61) rfl ?_
      refine zr_cRI C42 hC42 (ce42 + 0) (sl42 + 0) (fun x hx => zk_S h0 (fun l D z0 => kL_low l D z0 (a2 >>> (t42.2.1 &&& 31)) (5 : Int32) S42 x hx) zw_105 zw_106 zw_0 zw_107 zyL_low (As := [.int (a2 >>> (t42.2.1 &&& 31)), .int (5 : Int32)]) (st := [.int a1, .ref a0]) rfl (by decide) rfl (Nat.le_of_ble_eq_true rfl) ⟨by show (ce42 + 0) + 0 ≤ 263; omega, by show (sl42 + 0) + 0 ≤ 1578; omega⟩ dL_isWaySo_61) rfl rfl (n := 64) rfl (fun x35 => ?_)
      refine zr_iload_n h0 dL_isWaySo_64 rfl (n := 65) rfl ?_
      refine zr_iload h0 dL_isWaySo_65 rfl (n := 67) rfl ?_
      refine zr_iconst (2 : Int32) h0 (by decide) dL_isWaySo_67 (n := 68) rfl ?_
      refine zr_iadd h0 dL_isWaySo_68 (n := 69) rfl ?_
      refine zr_ishr h0 dL_isWaySo_69 (n := 70) rfl ?_
      refine zr_iconst (5 : Int32) h0 (by decide) dL_isWaySo_70 (n := 71) rfl ?_
      refine zr_cRI C42 hC42 (ce42 + 0) (sl42 + 0) (fun x hx => zk_S h0 (fun l D z0 => kL_low l D z0 (a2 >>> ((t42.2.1 + (2 : Int32)) &&& 31)) (5 : Int32) S42 x hx) zw_105 zw_106 zw_0 zw_107 zyL_low (As := [.int (a2 >>> ((t42.2.1 + (2 : Int32)) &&& 31)), .int (5 : Int32)]) (st := [.int x35, .int a1, .ref a0]) rfl (by decide) rfl (Nat.le_of_ble_eq_true rfl) ⟨by show (ce42 + 0) + 0 ≤ 263; omega, by show (sl42 + 0) + 0 ≤ 1578; omega⟩ dL_isWaySo_71) rfl rfl (n := 74) rfl (fun x36 => ?_)
      refine zr_iload_n h0 dL_isWaySo_74 rfl (n := 75) rfl ?_
      refine zr_iload h0 dL_isWaySo_75 rfl (n := 77) rfl ?_
      refine zr_ishr h0 dL_isWaySo_77 (n := 78) rfl ?_
      refine zr_iconst (3 : Int32) h0 (by decide) dL_isWaySo_78 (n := 79) rfl ?_
      refine zr_cRI C42 hC42 (ce42 + 0) (sl42 + 0) (fun x hx => zk_S h0 (fun l D z0 => kL_low l D z0 (a2 >>> (t42.2.1 &&& 31)) (3 : Int32) S42 x hx) zw_105 zw_106 zw_0 zw_107 zyL_low (As := [.int (a2 >>> (t42.2.1 &&& 31)), .int (3 : Int32)]) (st := [.int x36, .int x35, .int a1, .ref a0]) rfl (by decide) rfl (Nat.le_of_ble_eq_true rfl) ⟨by show (ce42 + 0) + 0 ≤ 263; omega, by show (sl42 + 0) + 0 ≤ 1578; omega⟩ dL_isWaySo_79) rfl rfl (n := 82) rfl (fun x37 => ?_)
      refine zr_cW C42 hC42 .int (fun T9 S9 => I a0 T9 y U S9) (ce42 + 5) (sl42 + 30) h0 hnt.fl (fun v9 hv9 hfr => zwf_flip hO hI42 hfr hv9) (fun x hx l D z0 hlt => kL_flip l D z0 hlt a0 a1 x35 x36 x37 S42 x hx) zw_471 zw_472 zw_0 zw_473 zyL_flip (As := [.ref a0, .int a1, .int x35, .int x36, .int x37]) (st := []) rfl (by decide) rfl (Nat.le_of_ble_eq_true rfl) ⟨by show (ce42 + 0) + 5 ≤ 263; omega, by show (sl42 + 0) + 30 ≤ 1578; omega⟩ dL_isWaySo_82 rfl rfl (n := 85) rfl (fun x38 Sx38 hx38 => ?_)
      refine zr_istore [(0, .ref a0), (1, .int a1), (2, .int a2), (3, .int a3), (5, .int x1.1), (6, .int x2.1), (7, .int x5.1), (8, .int t42.2.1), (9, .int x38.1)] h0 dL_isWaySo_85 (by decide) rfl (n := 87) rfl ?_
      refine zr_aload_n h0 dL_isWaySo_87 rfl (n := 88) rfl ?_
      refine zr_iload_n h0 dL_isWaySo_88 rfl (n := 89) rfl ?_
      refine zr_iconst (1 : Int32) h0 (by decide) dL_isWaySo_89 (n := 90) rfl ?_
      refine zr_cD C42 hC42 (fun T9 S9 => I a0 T9 y U S9) (ce42 + 7) (sl42 + 42) (fun v9 hv9 hfr => zdf_ofWay hO hx38 hfr hv9) (fun x hx => zk_VT0 h0 zcX5 (zcl_ex hx) (fun l D z0 hlt => kX5_ofWay l D z0 hlt a0 a1 (1 : Int32) Sx38 x (zcl_of hx)) hnt.fl zw_794 zw_795 zw_796 zw_1 zw_797 rfl zyX5_ofWay (As := [.int a1, .int (1 : Int32)]) (st := []) rfl (by decide) rfl (Nat.le_of_ble_eq_true rfl) ⟨by show (ce42 + 5) + 2 ≤ 263; omega, by show (sl42 + 30) + 12 ≤ 1578; omega⟩ dL_isWaySo_90) rfl rfl (n := 93) rfl (fun x39 Sx39 hx39 => ?_)
      refine zr_iload h0 dL_isWaySo_93 rfl (n := 95) rfl ?_
      refine zr_icmp_ne C42 (tgt := 125) h0 dL_isWaySo_95 (by decide) (n := 98) rfl ?_ ?_
      · refine zr_aload_n h0 dL_isWaySo_98 rfl (n := 99) rfl ?_
        refine zr_iload_n h0 dL_isWaySo_99 rfl (n := 100) rfl ?_
        refine zr_iconst (0 : Int32) h0 (by decide) dL_isWaySo_100 (n := 101) rfl ?_
        refine zr_cD C42 hC42 (fun T9 S9 => I a0 T9 y U S9) (ce42 + 9) (sl42 + 54) (fun v9 hv9 hfr => zdf_ofWay hO hx39 hfr hv9) (fun x hx => zk_VT0 h0 zcX5 (zcl_ex hx) (fun l D z0 hlt => kX5_ofWay l D z0 hlt a0 a1 (0 : Int32) Sx39 x (zcl_of hx)) hnt.fl zw_794 zw_795 zw_796 zw_1 zw_797 rfl zyX5_ofWay (As := [.int a1, .int (0 : Int32)]) (st := []) rfl (by decide) rfl (Nat.le_of_ble_eq_true rfl) ⟨by show (ce42 + 7) + 2 ≤ 263; omega, by show (sl42 + 42) + 12 ≤ 1578; omega⟩ dL_isWaySo_101) rfl rfl (n := 104) rfl (fun x40 Sx40 hx40 => ?_)
        refine zr_iload h0 dL_isWaySo_104 rfl (n := 106) rfl ?_
        refine zr_icmp_ne C42 (tgt := 125) h0 dL_isWaySo_106 (by decide) (n := 109) rfl ?_ ?_
        · refine zr_iload h0 dL_isWaySo_109 rfl (n := 111) rfl ?_
          refine zr_if_eq C42 (tgt := 121) h0 dL_isWaySo_111 (by decide) (n := 114) rfl ?_ ?_
          · refine zv_sub (lv' := [(0, .ref a0), (1, .int a1), (2, .int a2), (3, .int a3), (5, .int x1.1), (6, .int x2.1), (7, .int x5.1), (8, .int t42.2.1)]) ?_ (zsub_of [0, 1, 2, 3, 4, 5, 6, 7] rfl)
            exact J121 t42.2.1 x40.2 Sx40 hx40
          · refine zr_iload h0 dL_isWaySo_114 rfl (n := 116) rfl ?_
            refine zr_ldc h0 zw_202 dL_isWaySo_116 (n := 118) rfl ?_
            refine zr_icmp_ne C42 (tgt := 125) h0 dL_isWaySo_118 (by decide) (n := 121) rfl ?_ ?_
            · refine zv_sub (lv' := [(0, .ref a0), (1, .int a1), (2, .int a2), (3, .int a3), (5, .int x1.1), (6, .int x2.1), (7, .int x5.1), (8, .int t42.2.1)]) ?_ (zsub_of [0, 1, 2, 3, 4, 5, 6, 7] rfl)
              exact J121 t42.2.1 x40.2 Sx40 hx40
            · refine zv_sub (lv' := [(0, .ref a0), (1, .int a1), (2, .int a2), (3, .int a3), (5, .int x1.1), (6, .int x2.1), (7, .int x5.1), (8, .int t42.2.1)]) ?_ (zsub_of [0, 1, 2, 3, 4, 5, 6, 7] rfl)
              exact J125 t42.2.1 x40.2 Sx40 hx40
        · refine zv_sub (lv' := [(0, .ref a0), (1, .int a1), (2, .int a2), (3, .int a3), (5, .int x1.1), (6, .int x2.1), (7, .int x5.1), (8, .int t42.2.1)]) ?_ (zsub_of [0, 1, 2, 3, 4, 5, 6, 7] rfl)
          exact J125 t42.2.1 x40.2 Sx40 hx40
      · refine zv_sub (lv' := [(0, .ref a0), (1, .int a1), (2, .int a2), (3, .int a3), (5, .int x1.1), (6, .int x2.1), (7, .int x5.1), (8, .int t42.2.1)]) ?_ (zsub_of [0, 1, 2, 3, 4, 5, 6, 7] rfl)
        refine zv_wide (ce' := (ce42 + 9)) (sl' := (sl42 + 54)) ?_ (by first | decide | omega) (by first | decide | omega)
        exact J125 t42.2.1 x39.2 Sx39 hx39
theorem kL_isWaySo {TZ : Type} {O : Nat → TZ → List Int32 → Option (Int32 × TZ)} {OL : TZ → List Int32 → Option (Int64 × TZ)} {I : Nat → TZ → Nat → TZ → ZS → Prop} (hO : zOps I O OL) (l : Launch) (D : ZD) (z0 : Nat) (hlt : l.stackTraces = false) (a0 : Nat) (a1 : Int32) (a2 : Int32) (a3 : Int32) (y : Nat) (U : TZ) (T : TZ) (S : ZS) (hI : I a0 T y U S) (x : Int32 × TZ) (hf : fL_isWaySo O OL a1 a2 a3 T = some x) : zMetA l D z0 yL_isWaySo cL_isWaySo 10 (some .boolean) rmL_isWaySo [.ref a0, .int a1, .int a2, .int a3] S (fun v S9 => v = .int x.1 ∧ I a0 x.2 y U S9) :=
  zMetA_of hlt (by decide) (Nat.le_of_ble_eq_true rfl) (fun G h0 hnt hE => wL_isWaySo hO a0 a1 a2 a3 y U T S hI h0 hnt (fun o => o = some x) (fun h => nomatch h) (fun v T9 S9 hJ hh => by cases hh; exact hE _ _ ⟨rfl, hJ⟩)) hf
theorem dL_isSo_0 : decode cL_isSo 0 = .ok (.iconst 1, 1) := by decide +kernel
theorem dL_isSo_1 : decode cL_isSo 1 = .ok (.istore_n 3, 1) := by decide +kernel
theorem dL_isSo_2 : decode cL_isSo 2 = .ok (.iconst 0, 1) := by decide +kernel
theorem dL_isSo_3 : decode cL_isSo 3 = .ok (.istore 4, 2) := by decide +kernel
theorem dL_isSo_5 : decode cL_isSo 5 = .ok (.iload 4, 2) := by decide +kernel
theorem dL_isSo_7 : decode cL_isSo 7 = .ok (.bipush 16, 2) := by decide +kernel
theorem dL_isSo_9 : decode cL_isSo 9 = .ok (.if_icmp .ge 178, 3) := by decide +kernel
theorem dL_isSo_12 : decode cL_isSo 12 = .ok (.iload_n 3, 1) := by decide +kernel
theorem dL_isSo_13 : decode cL_isSo 13 = .ok (.ifCond .eq 174, 3) := by decide +kernel
theorem dL_isSo_16 : decode cL_isSo 16 = .ok (.aload_n 0, 1) := by decide +kernel
theorem dL_isSo_17 : decode cL_isSo 17 = .ok (.iload 4, 2) := by decide +kernel
theorem dL_isSo_19 : decode cL_isSo 19 = .ok (.invokestatic 144, 3) := by decide +kernel
theorem dL_isSo_22 : decode cL_isSo 22 = .ok (.ifCond .lt 125, 3) := by decide +kernel
theorem dL_isSo_25 : decode cL_isSo 25 = .ok (.aload_n 0, 1) := by decide +kernel
theorem dL_isSo_26 : decode cL_isSo 26 = .ok (.iload 4, 2) := by decide +kernel
theorem dL_isSo_28 : decode cL_isSo 28 = .ok (.invokevirtual 71, 3) := by decide +kernel
theorem dL_isSo_31 : decode cL_isSo 31 = .ok (.istore 5, 2) := by decide +kernel
theorem dL_isSo_33 : decode cL_isSo 33 = .ok (.iload 4, 2) := by decide +kernel
theorem dL_isSo_35 : decode cL_isSo 35 = .ok (.iconst 3, 1) := by decide +kernel
theorem dL_isSo_36 : decode cL_isSo 36 = .ok (.if_icmp .ge 12, 3) := by decide +kernel
theorem dL_isSo_39 : decode cL_isSo 39 = .ok (.aload_n 0, 1) := by decide +kernel
theorem dL_isSo_40 : decode cL_isSo 40 = .ok (.iload 4, 2) := by decide +kernel
theorem dL_isSo_42 : decode cL_isSo 42 = .ok (.invokestatic 146, 3) := by decide +kernel
theorem dL_isSo_45 : decode cL_isSo 45 = .ok (.goto 5, 3) := by decide +kernel
theorem dL_isSo_48 : decode cL_isSo 48 = .ok (.ldc 16, 2) := by decide +kernel
theorem dL_isSo_50 : decode cL_isSo 50 = .ok (.istore 6, 2) := by decide +kernel
theorem dL_isSo_52 : decode cL_isSo 52 = .ok (.iload 4, 2) := by decide +kernel
theorem dL_isSo_54 : decode cL_isSo 54 = .ok (.iconst 3, 1) := by decide +kernel
theorem dL_isSo_55 : decode cL_isSo 55 = .ok (.if_icmp .ge 12, 3) := by decide +kernel
theorem dL_isSo_58 : decode cL_isSo 58 = .ok (.aload_n 0, 1) := by decide +kernel
theorem dL_isSo_59 : decode cL_isSo 59 = .ok (.iload 4, 2) := by decide +kernel
theorem dL_isSo_61 : decode cL_isSo 61 = .ok (.invokestatic 159, 3) := by decide +kernel
theorem dL_isSo_64 : decode cL_isSo 64 = .ok (.goto 5, 3) := by decide +kernel
theorem dL_isSo_67 : decode cL_isSo 67 = .ok (.ldc 16, 2) := by decide +kernel
theorem dL_isSo_69 : decode cL_isSo 69 = .ok (.istore 7, 2) := by decide +kernel
theorem dL_isSo_71 : decode cL_isSo 71 = .ok (.iload 5, 2) := by decide +kernel
theorem dL_isSo_73 : decode cL_isSo 73 = .ok (.aload_n 0, 1) := by decide +kernel
theorem dL_isSo_74 : decode cL_isSo 74 = .ok (.iload 4, 2) := by decide +kernel
theorem dL_isSo_76 : decode cL_isSo 76 = .ok (.iconst 0, 1) := by decide +kernel
theorem dL_isSo_77 : decode cL_isSo 77 = .ok (.invokevirtual 68, 3) := by decide +kernel
theorem dL_isSo_80 : decode cL_isSo 80 = .ok (.if_icmp .lt 65, 3) := by decide +kernel
theorem dL_isSo_83 : decode cL_isSo 83 = .ok (.iload 5, 2) := by decide +kernel
theorem dL_isSo_85 : decode cL_isSo 85 = .ok (.aload_n 0, 1) := by decide +kernel
theorem dL_isSo_86 : decode cL_isSo 86 = .ok (.iload 4, 2) := by decide +kernel
theorem dL_isSo_88 : decode cL_isSo 88 = .ok (.iconst 1, 1) := by decide +kernel
theorem dL_isSo_89 : decode cL_isSo 89 = .ok (.invokevirtual 68, 3) := by decide +kernel
theorem dL_isSo_92 : decode cL_isSo 92 = .ok (.if_icmp .lt 53, 3) := by decide +kernel
theorem dL_isSo_95 : decode cL_isSo 95 = .ok (.iload 5, 2) := by decide +kernel
theorem dL_isSo_97 : decode cL_isSo 97 = .ok (.aload_n 0, 1) := by decide +kernel
theorem dL_isSo_98 : decode cL_isSo 98 = .ok (.iload 4, 2) := by decide +kernel
theorem dL_isSo_100 : decode cL_isSo 100 = .ok (.iconst 2, 1) := by decide +kernel
theorem dL_isSo_101 : decode cL_isSo 101 = .ok (.invokevirtual 68, 3) := by decide +kernel
theorem dL_isSo_104 : decode cL_isSo 104 = .ok (.if_icmp .lt 41, 3) := by decide +kernel
theorem dL_isSo_107 : decode cL_isSo 107 = .ok (.iload 6, 2) := by decide +kernel
theorem dL_isSo_109 : decode cL_isSo 109 = .ok (.ifCond .lt 10, 3) := by decide +kernel
theorem dL_isSo_112 : decode cL_isSo 112 = .ok (.iload 6, 2) := by decide +kernel
theorem dL_isSo_114 : decode cL_isSo 114 = .ok (.iload 5, 2) := by decide +kernel
theorem dL_isSo_116 : decode cL_isSo 116 = .ok (.if_icmp .lt 29, 3) := by decide +kernel
theorem dL_isSo_119 : decode cL_isSo 119 = .ok (.iload 7, 2) := by decide +kernel
theorem dL_isSo_121 : decode cL_isSo 121 = .ok (.ifCond .lt 10, 3) := by decide +kernel
theorem dL_isSo_124 : decode cL_isSo 124 = .ok (.iload 7, 2) := by decide +kernel
theorem dL_isSo_126 : decode cL_isSo 126 = .ok (.iload 6, 2) := by decide +kernel
theorem dL_isSo_128 : decode cL_isSo 128 = .ok (.if_icmp .ne 17, 3) := by decide +kernel
theorem dL_isSo_131 : decode cL_isSo 131 = .ok (.iload_n 2, 1) := by decide +kernel
theorem dL_isSo_132 : decode cL_isSo 132 = .ok (.iconst 2, 1) := by decide +kernel
theorem dL_isSo_133 : decode cL_isSo 133 = .ok (.if_icmp .eq 8, 3) := by decide +kernel
theorem dL_isSo_136 : decode cL_isSo 136 = .ok (.iload 6, 2) := by decide +kernel
theorem dL_isSo_138 : decode cL_isSo 138 = .ok (.ifCond .ge 7, 3) := by decide +kernel
theorem dL_isSo_141 : decode cL_isSo 141 = .ok (.iconst 1, 1) := by decide +kernel
theorem dL_isSo_142 : decode cL_isSo 142 = .ok (.goto 4, 3) := by decide +kernel
theorem dL_isSo_145 : decode cL_isSo 145 = .ok (.iconst 0, 1) := by decide +kernel
theorem dL_isSo_146 : decode cL_isSo 146 = .ok (.istore_n 3, 1) := by decide +kernel
theorem dL_isSo_147 : decode cL_isSo 147 = .ok (.iload_n 3, 1) := by decide +kernel
theorem dL_isSo_148 : decode cL_isSo 148 = .ok (.ifCond .eq 31, 3) := by decide +kernel
theorem dL_isSo_151 : decode cL_isSo 151 = .ok (.aload_n 0, 1) := by decide +kernel
theorem dL_isSo_152 : decode cL_isSo 152 = .ok (.iload 4, 2) := by decide +kernel
theorem dL_isSo_154 : decode cL_isSo 154 = .ok (.iconst 0, 1) := by decide +kernel
theorem dL_isSo_155 : decode cL_isSo 155 = .ok (.invokestatic 157, 3) := by decide +kernel
theorem dL_isSo_158 : decode cL_isSo 158 = .ok (.ifCond .lt 17, 3) := by decide +kernel
theorem dL_isSo_161 : decode cL_isSo 161 = .ok (.aload_n 0, 1) := by decide +kernel
theorem dL_isSo_162 : decode cL_isSo 162 = .ok (.iload 4, 2) := by decide +kernel
theorem dL_isSo_164 : decode cL_isSo 164 = .ok (.iload_n 1, 1) := by decide +kernel
theorem dL_isSo_165 : decode cL_isSo 165 = .ok (.iload 4, 2) := by decide +kernel
theorem dL_isSo_167 : decode cL_isSo 167 = .ok (.ishr, 1) := by decide +kernel
theorem dL_isSo_168 : decode cL_isSo 168 = .ok (.iload_n 2, 1) := by decide +kernel
theorem dL_isSo_169 : decode cL_isSo 169 = .ok (.invokestatic 161, 3) := by decide +kernel
theorem dL_isSo_172 : decode cL_isSo 172 = .ok (.ifCond .eq 7, 3) := by decide +kernel
theorem dL_isSo_175 : decode cL_isSo 175 = .ok (.iconst 1, 1) := by decide +kernel
theorem dL_isSo_176 : decode cL_isSo 176 = .ok (.goto 4, 3) := by decide +kernel
theorem dL_isSo_179 : decode cL_isSo 179 = .ok (.iconst 0, 1) := by decide +kernel
theorem dL_isSo_180 : decode cL_isSo 180 = .ok (.istore_n 3, 1) := by decide +kernel
theorem dL_isSo_181 : decode cL_isSo 181 = .ok (.iinc 4 1, 3) := by decide +kernel
theorem dL_isSo_184 : decode cL_isSo 184 = .ok (.goto (-179), 3) := by decide +kernel
theorem dL_isSo_187 : decode cL_isSo 187 = .ok (.iload_n 3, 1) := by decide +kernel
theorem dL_isSo_188 : decode cL_isSo 188 = .ok (.ifCond .eq 29, 3) := by decide +kernel
theorem dL_isSo_191 : decode cL_isSo 191 = .ok (.aload_n 0, 1) := by decide +kernel
theorem dL_isSo_192 : decode cL_isSo 192 = .ok (.bipush 16, 2) := by decide +kernel
theorem dL_isSo_194 : decode cL_isSo 194 = .ok (.invokestatic 144, 3) := by decide +kernel
theorem dL_isSo_197 : decode cL_isSo 197 = .ok (.ldc 16, 2) := by decide +kernel
theorem dL_isSo_199 : decode cL_isSo 199 = .ok (.if_icmp .ne 18, 3) := by decide +kernel
theorem dL_isSo_202 : decode cL_isSo 202 = .ok (.aload_n 0, 1) := by decide +kernel
theorem dL_isSo_203 : decode cL_isSo 203 = .ok (.iconst 0, 1) := by decide +kernel
theorem dL_isSo_204 : decode cL_isSo 204 = .ok (.iconst 5, 1) := by decide +kernel
theorem dL_isSo_205 : decode cL_isSo 205 = .ok (.invokestatic 157, 3) := by decide +kernel
theorem dL_isSo_208 : decode cL_isSo 208 = .ok (.ldc 16, 2) := by decide +kernel
theorem dL_isSo_210 : decode cL_isSo 210 = .ok (.if_icmp .ne 7, 3) := by decide +kernel
theorem dL_isSo_213 : decode cL_isSo 213 = .ok (.iconst 1, 1) := by decide +kernel
theorem dL_isSo_214 : decode cL_isSo 214 = .ok (.goto 4, 3) := by decide +kernel
theorem dL_isSo_217 : decode cL_isSo 217 = .ok (.iconst 0, 1) := by decide +kernel
theorem dL_isSo_218 : decode cL_isSo 218 = .ok (.ireturn, 1) := by decide +kernel
abbrev rmL_isSo : Room := { frames := 20, cells := 8503, slots := 51018, locals := 474 }
theorem zyL_isSo : zyOK yL_isSo 3 := ⟨by decide +kernel, by decide +kernel, by decide +kernel⟩
set_option maxHeartbeats 4000000 in
set_option maxRecDepth 100000 in
theorem wL_isSo {TZ : Type} {O : Nat → TZ → List Int32 → Option (Int32 × TZ)} {OL : TZ → List Int32 → Option (Int64 × TZ)} {I : Nat → TZ → Nat → TZ → ZS → Prop} (hO : zOps I O OL) {G : ZG} (a0 : Nat) (a1 : Int32) (a2 : Int32) (y : Nat) (U : TZ) (T : TZ) (S : ZS) (hI : I a0 T y U S) (h0 : zFix G cL_isSo RL 8 (some .boolean) rmL_isSo) (hnt : zNoTab G) (C : Option (Int32 × TZ) → Prop) (hC : ¬ C none) (hE : ∀ (v : Int32) (T9 : TZ) (S9 : ZS), I a0 T9 y U S9 → C (some (v, T9)) → zEndT G (some (.int v)) S9 rmL_isSo) : zV G 8 S 0 0 0 [(0, .ref a0), (1, .int a1), (2, .int a2)] [] (C (fL_isSo O OL a1 a2 T)) := by
  have J218 : ∀ (s0_218 : Int32) (T_218 : TZ) (S_218 : ZS) (hI_218 : I a0 T_218 y U S_218), zV G 8 S_218 8503 51018 218 [] [.int s0_218] (C (fL_isSo_J218 O OL s0_218 T_218)) := by
    intro s0_218 T_218 S_218 hI_218
    unfold fL_isSo_J218
    exact zr_zretT C hC h0 rfl dL_isSo_218 (fun w h => hE _ _ _ hI_218 h) (by decide) (by decide)
  have J217 : ∀  (T_217 : TZ) (S_217 : ZS) (hI_217 : I a0 T_217 y U S_217), zV G 8 S_217 8503 51018 217 [] [] (C (fL_isSo_J217 O OL T_217)) := by
    intro  T_217 S_217 hI_217
    unfold fL_isSo_J217
    refine zr_iconst (0 : Int32) h0 (by decide) dL_isSo_217 (n := 218) rfl ?_
    exact J218 (0 : Int32) T_217 S_217 hI_217
  have J187 : ∀ (l3_187 : Int32) (T_187 : TZ) (S_187 : ZS) (hI_187 : I a0 T_187 y U S_187), zV G 8 S_187 8500 51000 187 [(0, .ref a0), (3, .int l3_187)] [] (C (fL_isSo_J187 O OL l3_187 T_187)) := by
    intro l3_187 T_187 S_187 hI_187
    unfold fL_isSo_J187
    refine zr_iload_n h0 dL_isSo_187 rfl (n := 188) rfl ?_
    refine zr_if_eq C (tgt := 217) h0 dL_isSo_188 (by decide) (n := 191) rfl ?_ ?_
    · refine zv_sub (lv' := []) ?_ (zsub_of [] rfl)
      refine zv_wide (ce' := 8503) (sl' := 51018) ?_ (by first | decide | omega) (by first | decide | omega)
      exact J217  T_187 S_187 hI_187
    · refine zv_sub (lv' := [(0, .ref a0)]) ?_ (zsub_of [0] rfl)
      refine zr_aload_n h0 dL_isSo_191 rfl (n := 192) rfl ?_
      refine zr_bipush (16 : Int32) h0 (by decide) dL_isSo_192 (n := 194) rfl ?_
      refine zr_cW C hC .int (fun T9 S9 => I a0 T9 y U S9) 8501 51006 h0 hnt.fl (fun v9 hv9 hfr => zwf_bound hO hI_187 hfr hv9) (fun x hx l D z0 hlt => kL_bound l D z0 hlt a0 (16 : Int32) S_187 x hx) zw_620 zw_621 zw_0 zw_622 zyL_bound (As := [.ref a0, .int (16 : Int32)]) (st := []) rfl (by decide) rfl (Nat.le_of_ble_eq_true rfl) (by decide) dL_isSo_194 rfl rfl (n := 197) rfl (fun x21 Sx21 hx21 => ?_)
      refine zr_ldc h0 zw_202 dL_isSo_197 (n := 199) rfl ?_
      refine zr_icmp_ne C (tgt := 217) h0 dL_isSo_199 (by decide) (n := 202) rfl ?_ ?_
      · refine zr_aload_n h0 dL_isSo_202 rfl (n := 203) rfl ?_
        refine zr_iconst (0 : Int32) h0 (by decide) dL_isSo_203 (n := 204) rfl ?_
        refine zr_iconst (5 : Int32) h0 (by decide) dL_isSo_204 (n := 205) rfl ?_
        refine zr_cW C hC .int (fun T9 S9 => I a0 T9 y U S9) 8503 51018 h0 hnt.fl (fun v9 hv9 hfr => zwf_ofWay hO hx21 hfr hv9) (fun x hx l D z0 hlt => kL_ofWay l D z0 hlt a0 (0 : Int32) (5 : Int32) Sx21 x hx) zw_791 zw_792 zw_0 zw_793 zyL_ofWay (As := [.ref a0, .int (0 : Int32), .int (5 : Int32)]) (st := []) rfl (by decide) rfl (Nat.le_of_ble_eq_true rfl) (by decide) dL_isSo_205 rfl rfl (n := 208) rfl (fun x22 Sx22 hx22 => ?_)
        refine zr_ldc h0 zw_202 dL_isSo_208 (n := 210) rfl ?_
        refine zr_icmp_ne C (tgt := 217) h0 dL_isSo_210 (by decide) (n := 213) rfl ?_ ?_
        · refine zv_sub (lv' := []) ?_ (zsub_of [] rfl)
          refine zr_iconst (1 : Int32) h0 (by decide) dL_isSo_213 (n := 214) rfl ?_
          refine zr_goto (tgt := 218) h0 dL_isSo_214 (by decide) ?_
          exact J218 (1 : Int32) x22.2 Sx22 hx22
        · refine zv_sub (lv' := []) ?_ (zsub_of [] rfl)
          exact J217  x22.2 Sx22 hx22
      · refine zv_sub (lv' := []) ?_ (zsub_of [] rfl)
        refine zv_wide (ce' := 8503) (sl' := 51018) ?_ (by first | decide | omega) (by first | decide | omega)
        exact J217  x21.2 Sx21 hx21
  unfold fL_isSo
  refine zr_iconst (1 : Int32) h0 (by decide) dL_isSo_0 (n := 1) rfl ?_
  refine zr_istore_n [(0, .ref a0), (1, .int a1), (2, .int a2), (3, .int (1 : Int32))] h0 dL_isSo_1 (by decide) rfl (n := 2) rfl ?_
  refine zr_iconst (0 : Int32) h0 (by decide) dL_isSo_2 (n := 3) rfl ?_
  refine zr_istore [(0, .ref a0), (1, .int a1), (2, .int a2), (3, .int (1 : Int32)), (4, .int (0 : Int32))] h0 dL_isSo_3 (by decide) rfl (n := 5) rfl ?_
  refine zr_loopA hC (fL_isSo_B5 O OL a1 a2) (fun y9 => [(0, .ref a0), (1, .int a1), (2, .int a2), (3, .int y9.1), (4, .int y9.2.1)]) (fun y9 S9 => I a0 y9.2.2 y U S9) 500 3000 8500 51000 17 (fun ce5 sl5 hce5 hsl5 C5 hC5 hX5 hL5 t5 S5 hI5 => ?_) ((1 : Int32), (0 : Int32), T) S hI 0 0 (by decide) (by decide)
  have J180 : ∀ (l4_180 : Int32) (s0_180 : Int32) (T_180 : TZ) (S_180 : ZS) (hI_180 : I a0 T_180 y U S_180), zV G 8 S_180 (ce5 + 277) (sl5 + 1662) 180 [(0, .ref a0), (1, .int a1), (2, .int a2), (4, .int l4_180)] [.int s0_180] (C5 (fL_isSo_J180 O OL a1 a2 l4_180 s0_180 T_180)) := by
    intro l4_180 s0_180 T_180 S_180 hI_180
    unfold fL_isSo_J180
    refine zr_istore_n [(0, .ref a0), (1, .int a1), (2, .int a2), (3, .int s0_180), (4, .int l4_180)] h0 dL_isSo_180 (by decide) rfl (n := 181) rfl ?_
    refine zr_iinc (1 : Int32) [(0, .ref a0), (1, .int a1), (2, .int a2), (3, .int s0_180), (4, .int (l4_180 + (1 : Int32)))] h0 dL_isSo_181 rfl (by decide) rfl rfl (n := 184) rfl ?_
    refine zr_goto (tgt := 5) h0 dL_isSo_184 (by decide) ?_
    refine zv_wide (ce' := (ce5 + 500)) (sl' := (sl5 + 3000)) ?_ (by first | decide | omega) (by first | decide | omega)
    exact hL5 (s0_180, l4_180 + (1 : Int32), T_180) S_180 hI_180
  have J179 : ∀ (l4_179 : Int32) (T_179 : TZ) (S_179 : ZS) (hI_179 : I a0 T_179 y U S_179), zV G 8 S_179 (ce5 + 277) (sl5 + 1662) 179 [(0, .ref a0), (1, .int a1), (2, .int a2), (4, .int l4_179)] [] (C5 (fL_isSo_J179 O OL a1 a2 l4_179 T_179)) := by
    intro l4_179 T_179 S_179 hI_179
    unfold fL_isSo_J179
    refine zr_iconst (0 : Int32) h0 (by decide) dL_isSo_179 (n := 180) rfl ?_
    exact J180 l4_179 (0 : Int32) T_179 S_179 hI_179
  have J175 : ∀ (l4_175 : Int32) (T_175 : TZ) (S_175 : ZS) (hI_175 : I a0 T_175 y U S_175), zV G 8 S_175 (ce5 + 277) (sl5 + 1662) 175 [(0, .ref a0), (1, .int a1), (2, .int a2), (4, .int l4_175)] [] (C5 (fL_isSo_J175 O OL a1 a2 l4_175 T_175)) := by
    intro l4_175 T_175 S_175 hI_175
    unfold fL_isSo_J175
    refine zr_iconst (1 : Int32) h0 (by decide) dL_isSo_175 (n := 176) rfl ?_
    refine zr_goto (tgt := 180) h0 dL_isSo_176 (by decide) ?_
    exact J180 l4_175 (1 : Int32) T_175 S_175 hI_175
  have J147 : ∀ (l3_147 : Int32) (l4_147 : Int32) (T_147 : TZ) (S_147 : ZS) (hI_147 : I a0 T_147 y U S_147), zV G 8 S_147 (ce5 + 12) (sl5 + 72) 147 [(0, .ref a0), (1, .int a1), (2, .int a2), (3, .int l3_147), (4, .int l4_147)] [] (C5 (fL_isSo_J147 O OL a1 a2 l3_147 l4_147 T_147)) := by
    intro l3_147 l4_147 T_147 S_147 hI_147
    unfold fL_isSo_J147
    refine zr_iload_n h0 dL_isSo_147 rfl (n := 148) rfl ?_
    refine zr_if_eq C5 (tgt := 179) h0 dL_isSo_148 (by decide) (n := 151) rfl ?_ ?_
    · refine zv_sub (lv' := [(0, .ref a0), (1, .int a1), (2, .int a2), (4, .int l4_147)]) ?_ (zsub_of [0, 1, 2, 4] rfl)
      refine zv_wide (ce' := (ce5 + 277)) (sl' := (sl5 + 1662)) ?_ (by first | decide | omega) (by first | decide | omega)
      exact J179 l4_147 T_147 S_147 hI_147
    · refine zv_sub (lv' := [(0, .ref a0), (1, .int a1), (2, .int a2), (4, .int l4_147)]) ?_ (zsub_of [0, 1, 2, 4] rfl)
      refine zr_aload_n h0 dL_isSo_151 rfl (n := 152) rfl ?_
      refine zr_iload h0 dL_isSo_152 rfl (n := 154) rfl ?_
      refine zr_iconst (0 : Int32) h0 (by decide) dL_isSo_154 (n := 155) rfl ?_
      refine zr_cW C5 hC5 .int (fun T9 S9 => I a0 T9 y U S9) (ce5 + 14) (sl5 + 84) h0 hnt.fl (fun v9 hv9 hfr => zwf_ofWay hO hI_147 hfr hv9) (fun x hx l D z0 hlt => kL_ofWay l D z0 hlt a0 l4_147 (0 : Int32) S_147 x hx) zw_791 zw_792 zw_0 zw_793 zyL_ofWay (As := [.ref a0, .int l4_147, .int (0 : Int32)]) (st := []) rfl (by decide) rfl (Nat.le_of_ble_eq_true rfl) ⟨by show (ce5 + 12) + 2 ≤ 8503; omega, by show (sl5 + 72) + 12 ≤ 51018; omega⟩ dL_isSo_155 rfl rfl (n := 158) rfl (fun x12 Sx12 hx12 => ?_)
      refine zr_if_lt C5 (tgt := 175) h0 dL_isSo_158 (by decide) (n := 161) rfl ?_ ?_
      · refine zv_wide (ce' := (ce5 + 277)) (sl' := (sl5 + 1662)) ?_ (by first | decide | omega) (by first | decide | omega)
        exact J175 l4_147 x12.2 Sx12 hx12
      · refine zr_aload_n h0 dL_isSo_161 rfl (n := 162) rfl ?_
        refine zr_iload h0 dL_isSo_162 rfl (n := 164) rfl ?_
        refine zr_iload_n h0 dL_isSo_164 rfl (n := 165) rfl ?_
        refine zr_iload h0 dL_isSo_165 rfl (n := 167) rfl ?_
        refine zr_ishr h0 dL_isSo_167 (n := 168) rfl ?_
        refine zr_iload_n h0 dL_isSo_168 rfl (n := 169) rfl ?_
        refine zr_cA C5 hC5 (fun T9 S9 => I a0 T9 y U S9) (ce5 + 277) (sl5 + 1662) h0 hnt.fl (fun x hx l D z0 hlt => kL_isWaySo hO l D z0 hlt a0 l4_147 (a1 >>> (l4_147 &&& 31)) a2 y U x12.2 Sx12 hx12 x hx) zw_831 zw_832 zw_0 zw_833 zyL_isWaySo (As := [.ref a0, .int l4_147, .int (a1 >>> (l4_147 &&& 31)), .int a2]) (st := []) rfl (by decide) rfl (Nat.le_of_ble_eq_true rfl) ⟨by show (ce5 + 14) + 263 ≤ 8503; omega, by show (sl5 + 84) + 1578 ≤ 51018; omega⟩ dL_isSo_169 rfl rfl (n := 172) rfl (fun x13 Sx13 hx13 => ?_)
        refine zr_if_eq C5 (tgt := 179) h0 dL_isSo_172 (by decide) (n := 175) rfl ?_ ?_
        · exact J179 l4_147 x13.2 Sx13 hx13
        · exact J175 l4_147 x13.2 Sx13 hx13
  have J146 : ∀ (l4_146 : Int32) (s0_146 : Int32) (T_146 : TZ) (S_146 : ZS) (hI_146 : I a0 T_146 y U S_146), zV G 8 S_146 (ce5 + 12) (sl5 + 72) 146 [(0, .ref a0), (1, .int a1), (2, .int a2), (4, .int l4_146)] [.int s0_146] (C5 (fL_isSo_J146 O OL a1 a2 l4_146 s0_146 T_146)) := by
    intro l4_146 s0_146 T_146 S_146 hI_146
    unfold fL_isSo_J146
    refine zr_istore_n [(0, .ref a0), (1, .int a1), (2, .int a2), (3, .int s0_146), (4, .int l4_146)] h0 dL_isSo_146 (by decide) rfl (n := 147) rfl ?_
    exact J147 s0_146 l4_146 T_146 S_146 hI_146
  have J145 : ∀ (l4_145 : Int32) (T_145 : TZ) (S_145 : ZS) (hI_145 : I a0 T_145 y U S_145), zV G 8 S_145 (ce5 + 12) (sl5 + 72) 145 [(0, .ref a0), (1, .int a1), (2, .int a2), (4, .int l4_145)] [] (C5 (fL_isSo_J145 O OL a1 a2 l4_145 T_145)) := by
    intro l4_145 T_145 S_145 hI_145
    unfold fL_isSo_J145
    refine zr_iconst (0 : Int32) h0 (by decide) dL_isSo_145 (n := 146) rfl ?_
    exact J146 l4_145 (0 : Int32) T_145 S_145 hI_145
  have J141 : ∀ (l4_141 : Int32) (T_141 : TZ) (S_141 : ZS) (hI_141 : I a0 T_141 y U S_141), zV G 8 S_141 (ce5 + 12) (sl5 + 72) 141 [(0, .ref a0), (1, .int a1), (2, .int a2), (4, .int l4_141)] [] (C5 (fL_isSo_J141 O OL a1 a2 l4_141 T_141)) := by
    intro l4_141 T_141 S_141 hI_141
    unfold fL_isSo_J141
    refine zr_iconst (1 : Int32) h0 (by decide) dL_isSo_141 (n := 142) rfl ?_
    refine zr_goto (tgt := 146) h0 dL_isSo_142 (by decide) ?_
    exact J146 l4_141 (1 : Int32) T_141 S_141 hI_141
  have J131 : ∀ (l4_131 : Int32) (l6_131 : Int32) (T_131 : TZ) (S_131 : ZS) (hI_131 : I a0 T_131 y U S_131), zV G 8 S_131 (ce5 + 12) (sl5 + 72) 131 [(0, .ref a0), (1, .int a1), (2, .int a2), (4, .int l4_131), (6, .int l6_131)] [] (C5 (fL_isSo_J131 O OL a1 a2 l4_131 l6_131 T_131)) := by
    intro l4_131 l6_131 T_131 S_131 hI_131
    unfold fL_isSo_J131
    refine zr_iload_n h0 dL_isSo_131 rfl (n := 132) rfl ?_
    refine zr_iconst (2 : Int32) h0 (by decide) dL_isSo_132 (n := 133) rfl ?_
    refine zr_icmp_eq C5 (tgt := 141) h0 dL_isSo_133 (by decide) (n := 136) rfl ?_ ?_
    · refine zv_sub (lv' := [(0, .ref a0), (1, .int a1), (2, .int a2), (4, .int l4_131)]) ?_ (zsub_of [0, 1, 2, 3] rfl)
      exact J141 l4_131 T_131 S_131 hI_131
    · refine zr_iload h0 dL_isSo_136 rfl (n := 138) rfl ?_
      refine zr_if_ge C5 (tgt := 145) h0 dL_isSo_138 (by decide) (n := 141) rfl ?_ ?_
      · refine zv_sub (lv' := [(0, .ref a0), (1, .int a1), (2, .int a2), (4, .int l4_131)]) ?_ (zsub_of [0, 1, 2, 3] rfl)
        exact J145 l4_131 T_131 S_131 hI_131
      · refine zv_sub (lv' := [(0, .ref a0), (1, .int a1), (2, .int a2), (4, .int l4_131)]) ?_ (zsub_of [0, 1, 2, 3] rfl)
        exact J141 l4_131 T_131 S_131 hI_131
  have J119 : ∀ (l4_119 : Int32) (l6_119 : Int32) (l7_119 : Int32) (T_119 : TZ) (S_119 : ZS) (hI_119 : I a0 T_119 y U S_119), zV G 8 S_119 (ce5 + 12) (sl5 + 72) 119 [(0, .ref a0), (1, .int a1), (2, .int a2), (4, .int l4_119), (6, .int l6_119), (7, .int l7_119)] [] (C5 (fL_isSo_J119 O OL a1 a2 l4_119 l6_119 l7_119 T_119)) := by
    intro l4_119 l6_119 l7_119 T_119 S_119 hI_119
    unfold fL_isSo_J119
    refine zr_iload h0 dL_isSo_119 rfl (n := 121) rfl ?_
    refine zr_if_lt C5 (tgt := 131) h0 dL_isSo_121 (by decide) (n := 124) rfl ?_ ?_
    · refine zv_sub (lv' := [(0, .ref a0), (1, .int a1), (2, .int a2), (4, .int l4_119), (6, .int l6_119)]) ?_ (zsub_of [0, 1, 2, 3, 4] rfl)
      exact J131 l4_119 l6_119 T_119 S_119 hI_119
    · refine zr_iload h0 dL_isSo_124 rfl (n := 126) rfl ?_
      refine zr_iload h0 dL_isSo_126 rfl (n := 128) rfl ?_
      refine zr_icmp_ne C5 (tgt := 145) h0 dL_isSo_128 (by decide) (n := 131) rfl ?_ ?_
      · refine zv_sub (lv' := [(0, .ref a0), (1, .int a1), (2, .int a2), (4, .int l4_119), (6, .int l6_119)]) ?_ (zsub_of [0, 1, 2, 3, 4] rfl)
        exact J131 l4_119 l6_119 T_119 S_119 hI_119
      · refine zv_sub (lv' := [(0, .ref a0), (1, .int a1), (2, .int a2), (4, .int l4_119)]) ?_ (zsub_of [0, 1, 2, 3] rfl)
        exact J145 l4_119 T_119 S_119 hI_119
  have J69 : ∀ (l4_69 : Int32) (l5_69 : Int32) (l6_69 : Int32) (s0_69 : Int32) (T_69 : TZ) (S_69 : ZS) (hI_69 : I a0 T_69 y U S_69), zV G 8 S_69 (ce5 + 6) (sl5 + 36) 69 [(0, .ref a0), (1, .int a1), (2, .int a2), (4, .int l4_69), (5, .int l5_69), (6, .int l6_69)] [.int s0_69] (C5 (fL_isSo_J69 O OL a1 a2 l4_69 l5_69 l6_69 s0_69 T_69)) := by
    intro l4_69 l5_69 l6_69 s0_69 T_69 S_69 hI_69
    unfold fL_isSo_J69
    refine zr_istore [(0, .ref a0), (1, .int a1), (2, .int a2), (4, .int l4_69), (5, .int l5_69), (6, .int l6_69), (7, .int s0_69)] h0 dL_isSo_69 (by decide) rfl (n := 71) rfl ?_
    refine zr_iload h0 dL_isSo_71 rfl (n := 73) rfl ?_
    refine zr_aload_n h0 dL_isSo_73 rfl (n := 74) rfl ?_
    refine zr_iload h0 dL_isSo_74 rfl (n := 76) rfl ?_
    refine zr_iconst (0 : Int32) h0 (by decide) dL_isSo_76 (n := 77) rfl ?_
    refine zr_cD C5 hC5 (fun T9 S9 => I a0 T9 y U S9) (ce5 + 8) (sl5 + 48) (fun v9 hv9 hfr => zdf_flattening hO hI_69 hfr hv9) (fun x hx => zk_VT0 h0 zcX5 (zcl_ex hx) (fun l D z0 hlt => kX5_flattening l D z0 hlt a0 l4_69 (0 : Int32) S_69 x (zcl_of hx)) hnt.fl zw_580 zw_581 zw_582 zw_1 zw_583 rfl zyX5_flattening (As := [.int l4_69, .int (0 : Int32)]) (st := [.int l5_69]) rfl (by decide) rfl (Nat.le_of_ble_eq_true rfl) ⟨by show (ce5 + 6) + 2 ≤ 8503; omega, by show (sl5 + 36) + 12 ≤ 51018; omega⟩ dL_isSo_77) rfl rfl (n := 80) rfl (fun x14 Sx14 hx14 => ?_)
    refine zr_icmp_lt C5 (tgt := 145) h0 dL_isSo_80 (by decide) (n := 83) rfl ?_ ?_
    · refine zv_sub (lv' := [(0, .ref a0), (1, .int a1), (2, .int a2), (4, .int l4_69)]) ?_ (zsub_of [0, 1, 2, 3] rfl)
      refine zv_wide (ce' := (ce5 + 12)) (sl' := (sl5 + 72)) ?_ (by first | decide | omega) (by first | decide | omega)
      exact J145 l4_69 x14.2 Sx14 hx14
    · refine zr_iload h0 dL_isSo_83 rfl (n := 85) rfl ?_
      refine zr_aload_n h0 dL_isSo_85 rfl (n := 86) rfl ?_
      refine zr_iload h0 dL_isSo_86 rfl (n := 88) rfl ?_
      refine zr_iconst (1 : Int32) h0 (by decide) dL_isSo_88 (n := 89) rfl ?_
      refine zr_cD C5 hC5 (fun T9 S9 => I a0 T9 y U S9) (ce5 + 10) (sl5 + 60) (fun v9 hv9 hfr => zdf_flattening hO hx14 hfr hv9) (fun x hx => zk_VT0 h0 zcX5 (zcl_ex hx) (fun l D z0 hlt => kX5_flattening l D z0 hlt a0 l4_69 (1 : Int32) Sx14 x (zcl_of hx)) hnt.fl zw_580 zw_581 zw_582 zw_1 zw_583 rfl zyX5_flattening (As := [.int l4_69, .int (1 : Int32)]) (st := [.int l5_69]) rfl (by decide) rfl (Nat.le_of_ble_eq_true rfl) ⟨by show (ce5 + 8) + 2 ≤ 8503; omega, by show (sl5 + 48) + 12 ≤ 51018; omega⟩ dL_isSo_89) rfl rfl (n := 92) rfl (fun x15 Sx15 hx15 => ?_)
      refine zr_icmp_lt C5 (tgt := 145) h0 dL_isSo_92 (by decide) (n := 95) rfl ?_ ?_
      · refine zv_sub (lv' := [(0, .ref a0), (1, .int a1), (2, .int a2), (4, .int l4_69)]) ?_ (zsub_of [0, 1, 2, 3] rfl)
        refine zv_wide (ce' := (ce5 + 12)) (sl' := (sl5 + 72)) ?_ (by first | decide | omega) (by first | decide | omega)
        exact J145 l4_69 x15.2 Sx15 hx15
      · refine zr_iload h0 dL_isSo_95 rfl (n := 97) rfl ?_
        refine zr_aload_n h0 dL_isSo_97 rfl (n := 98) rfl ?_
        refine zr_iload h0 dL_isSo_98 rfl (n := 100) rfl ?_
        refine zr_iconst (2 : Int32) h0 (by decide) dL_isSo_100 (n := 101) rfl ?_
        refine zr_cD C5 hC5 (fun T9 S9 => I a0 T9 y U S9) (ce5 + 12) (sl5 + 72) (fun v9 hv9 hfr => zdf_flattening hO hx15 hfr hv9) (fun x hx => zk_VT0 h0 zcX5 (zcl_ex hx) (fun l D z0 hlt => kX5_flattening l D z0 hlt a0 l4_69 (2 : Int32) Sx15 x (zcl_of hx)) hnt.fl zw_580 zw_581 zw_582 zw_1 zw_583 rfl zyX5_flattening (As := [.int l4_69, .int (2 : Int32)]) (st := [.int l5_69]) rfl (by decide) rfl (Nat.le_of_ble_eq_true rfl) ⟨by show (ce5 + 10) + 2 ≤ 8503; omega, by show (sl5 + 60) + 12 ≤ 51018; omega⟩ dL_isSo_101) rfl rfl (n := 104) rfl (fun x16 Sx16 hx16 => ?_)
        refine zr_icmp_lt C5 (tgt := 145) h0 dL_isSo_104 (by decide) (n := 107) rfl ?_ ?_
        · refine zv_sub (lv' := [(0, .ref a0), (1, .int a1), (2, .int a2), (4, .int l4_69)]) ?_ (zsub_of [0, 1, 2, 3] rfl)
          exact J145 l4_69 x16.2 Sx16 hx16
        · refine zr_iload h0 dL_isSo_107 rfl (n := 109) rfl ?_
          refine zr_if_lt C5 (tgt := 119) h0 dL_isSo_109 (by decide) (n := 112) rfl ?_ ?_
          · refine zv_sub (lv' := [(0, .ref a0), (1, .int a1), (2, .int a2), (4, .int l4_69), (6, .int l6_69), (7, .int s0_69)]) ?_ (zsub_of [0, 1, 2, 3, 5, 6] rfl)
            exact J119 l4_69 l6_69 s0_69 x16.2 Sx16 hx16
          · refine zr_iload h0 dL_isSo_112 rfl (n := 114) rfl ?_
            refine zr_iload h0 dL_isSo_114 rfl (n := 116) rfl ?_
            refine zr_icmp_lt C5 (tgt := 145) h0 dL_isSo_116 (by decide) (n := 119) rfl ?_ ?_
            · refine zv_sub (lv' := [(0, .ref a0), (1, .int a1), (2, .int a2), (4, .int l4_69)]) ?_ (zsub_of [0, 1, 2, 3] rfl)
              exact J145 l4_69 x16.2 Sx16 hx16
            · refine zv_sub (lv' := [(0, .ref a0), (1, .int a1), (2, .int a2), (4, .int l4_69), (6, .int l6_69), (7, .int s0_69)]) ?_ (zsub_of [0, 1, 2, 3, 5, 6] rfl)
              exact J119 l4_69 l6_69 s0_69 x16.2 Sx16 hx16
  have J50 : ∀ (l4_50 : Int32) (l5_50 : Int32) (s0_50 : Int32) (T_50 : TZ) (S_50 : ZS) (hI_50 : I a0 T_50 y U S_50), zV G 8 S_50 (ce5 + 4) (sl5 + 24) 50 [(0, .ref a0), (1, .int a1), (2, .int a2), (4, .int l4_50), (5, .int l5_50)] [.int s0_50] (C5 (fL_isSo_J50 O OL a1 a2 l4_50 l5_50 s0_50 T_50)) := by
    intro l4_50 l5_50 s0_50 T_50 S_50 hI_50
    unfold fL_isSo_J50
    refine zr_istore [(0, .ref a0), (1, .int a1), (2, .int a2), (4, .int l4_50), (5, .int l5_50), (6, .int s0_50)] h0 dL_isSo_50 (by decide) rfl (n := 52) rfl ?_
    refine zr_iload h0 dL_isSo_52 rfl (n := 54) rfl ?_
    refine zr_iconst (3 : Int32) h0 (by decide) dL_isSo_54 (n := 55) rfl ?_
    refine zr_icmp_ge C5 (tgt := 67) h0 dL_isSo_55 (by decide) (n := 58) rfl ?_ ?_
    · refine zr_ldc h0 zw_202 dL_isSo_67 (n := 69) rfl ?_
      refine zv_wide (ce' := (ce5 + 6)) (sl' := (sl5 + 36)) ?_ (by first | decide | omega) (by first | decide | omega)
      exact J69 l4_50 l5_50 s0_50 (-99999999 : Int32) T_50 S_50 hI_50
    · refine zr_aload_n h0 dL_isSo_58 rfl (n := 59) rfl ?_
      refine zr_iload h0 dL_isSo_59 rfl (n := 61) rfl ?_
      refine zr_cW C5 hC5 .int (fun T9 S9 => I a0 T9 y U S9) (ce5 + 6) (sl5 + 36) h0 hnt.fl (fun v9 hv9 hfr => zwf_leastAnew hO hI_50 hfr hv9) (fun x hx l D z0 hlt => kL_leastAnew l D z0 hlt a0 l4_50 S_50 x hx) zw_824 zw_825 zw_0 zw_826 zyL_leastAnew (As := [.ref a0, .int l4_50]) (st := []) rfl (by decide) rfl (Nat.le_of_ble_eq_true rfl) ⟨by show (ce5 + 4) + 2 ≤ 8503; omega, by show (sl5 + 24) + 12 ≤ 51018; omega⟩ dL_isSo_61 rfl rfl (n := 64) rfl (fun x17 Sx17 hx17 => ?_)
      refine zr_goto (tgt := 69) h0 dL_isSo_64 (by decide) ?_
      exact J69 l4_50 l5_50 s0_50 x17.1 x17.2 Sx17 hx17
  unfold fL_isSo_B5
  refine zr_iload h0 dL_isSo_5 rfl (n := 7) rfl ?_
  refine zr_bipush (16 : Int32) h0 (by decide) dL_isSo_7 (n := 9) rfl ?_
  refine zr_icmp_ge C5 (tgt := 187) h0 dL_isSo_9 (by decide) (n := 12) rfl ?_ ?_
  · refine zr_ex hX5 ?_
    refine zv_wide (ce' := 8500) (sl' := 51000) ?_ (by first | decide | omega) (by first | decide | omega)
    refine zv_sub (lv' := [(0, .ref a0), (3, .int t5.1)]) ?_ (zsub_of [0, 3] rfl)
    exact J187 t5.1 t5.2.2 S5 hI5
  · refine zr_iload_n h0 dL_isSo_12 rfl (n := 13) rfl ?_
    refine zr_if_eq C5 (tgt := 187) h0 dL_isSo_13 (by decide) (n := 16) rfl ?_ ?_
    · refine zr_ex hX5 ?_
      refine zv_wide (ce' := 8500) (sl' := 51000) ?_ (by first | decide | omega) (by first | decide | omega)
      refine zv_sub (lv' := [(0, .ref a0), (3, .int t5.1)]) ?_ (zsub_of [0, 3] rfl)
      exact J187 t5.1 t5.2.2 S5 hI5
    · refine zr_aload_n h0 dL_isSo_16 rfl (n := 17) rfl ?_
      refine zr_iload h0 dL_isSo_17 rfl (n := 19) rfl ?_
      refine zr_cW C5 hC5 .int (fun T9 S9 => I a0 T9 y U S9) (ce5 + 1) (sl5 + 6) h0 hnt.fl (fun v9 hv9 hfr => zwf_bound hO hI5 hfr hv9) (fun x hx l D z0 hlt => kL_bound l D z0 hlt a0 t5.2.1 S5 x hx) zw_620 zw_621 zw_0 zw_622 zyL_bound (As := [.ref a0, .int t5.2.1]) (st := []) rfl (by decide) rfl (Nat.le_of_ble_eq_true rfl) ⟨by show (ce5 + 0) + 1 ≤ 8503; omega, by show (sl5 + 0) + 6 ≤ 51018; omega⟩ dL_isSo_19 rfl rfl (n := 22) rfl (fun x18 Sx18 hx18 => ?_)
      refine zr_if_lt C5 (tgt := 147) h0 dL_isSo_22 (by decide) (n := 25) rfl ?_ ?_
      · refine zv_wide (ce' := (ce5 + 12)) (sl' := (sl5 + 72)) ?_ (by first | decide | omega) (by first | decide | omega)
        exact J147 t5.1 t5.2.1 x18.2 Sx18 hx18
      · refine zv_sub (lv' := [(0, .ref a0), (1, .int a1), (2, .int a2), (4, .int t5.2.1)]) ?_ (zsub_of [0, 1, 2, 4] rfl)
        refine zr_aload_n h0 dL_isSo_25 rfl (n := 26) rfl ?_
        refine zr_iload h0 dL_isSo_26 rfl (n := 28) rfl ?_
        refine zr_cD C5 hC5 (fun T9 S9 => I a0 T9 y U S9) (ce5 + 2) (sl5 + 12) (fun v9 hv9 hfr => zdf_bound hO hx18 hfr hv9) (fun x hx => zk_VT0 h0 zcX5 (zcl_ex hx) (fun l D z0 hlt => kX5_bound l D z0 hlt a0 t5.2.1 Sx18 x (zcl_of hx)) hnt.fl zw_623 zw_624 zw_625 zw_1 zw_626 rfl zyX5_bound (As := [.int t5.2.1]) (st := []) rfl (by decide) rfl (Nat.le_of_ble_eq_true rfl) ⟨by show (ce5 + 1) + 1 ≤ 8503; omega, by show (sl5 + 6) + 6 ≤ 51018; omega⟩ dL_isSo_28) rfl rfl (n := 31) rfl (fun x19 Sx19 hx19 => ?_)
        refine zr_istore [(0, .ref a0), (1, .int a1), (2, .int a2), (4, .int t5.2.1), (5, .int x19.1)] h0 dL_isSo_31 (by decide) rfl (n := 33) rfl ?_
        refine zr_iload h0 dL_isSo_33 rfl (n := 35) rfl ?_
        refine zr_iconst (3 : Int32) h0 (by decide) dL_isSo_35 (n := 36) rfl ?_
        refine zr_icmp_ge C5 (tgt := 48) h0 dL_isSo_36 (by decide) (n := 39) rfl ?_ ?_
        · refine zr_ldc h0 zw_202 dL_isSo_48 (n := 50) rfl ?_
          refine zv_wide (ce' := (ce5 + 4)) (sl' := (sl5 + 24)) ?_ (by first | decide | omega) (by first | decide | omega)
          exact J50 t5.2.1 x19.1 (-99999999 : Int32) x19.2 Sx19 hx19
        · refine zr_aload_n h0 dL_isSo_39 rfl (n := 40) rfl ?_
          refine zr_iload h0 dL_isSo_40 rfl (n := 42) rfl ?_
          refine zr_cW C5 hC5 .int (fun T9 S9 => I a0 T9 y U S9) (ce5 + 4) (sl5 + 24) h0 hnt.fl (fun v9 hv9 hfr => zwf_least hO hx19 hfr hv9) (fun x hx l D z0 hlt => kL_least l D z0 hlt a0 t5.2.1 Sx19 x hx) zw_634 zw_635 zw_0 zw_636 zyL_least (As := [.ref a0, .int t5.2.1]) (st := []) rfl (by decide) rfl (Nat.le_of_ble_eq_true rfl) ⟨by show (ce5 + 2) + 2 ≤ 8503; omega, by show (sl5 + 12) + 12 ≤ 51018; omega⟩ dL_isSo_42 rfl rfl (n := 45) rfl (fun x20 Sx20 hx20 => ?_)
          refine zr_goto (tgt := 50) h0 dL_isSo_45 (by decide) ?_
          exact J50 t5.2.1 x19.1 x20.1 x20.2 Sx20 hx20
theorem kL_isSo {TZ : Type} {O : Nat → TZ → List Int32 → Option (Int32 × TZ)} {OL : TZ → List Int32 → Option (Int64 × TZ)} {I : Nat → TZ → Nat → TZ → ZS → Prop} (hO : zOps I O OL) (l : Launch) (D : ZD) (z0 : Nat) (hlt : l.stackTraces = false) (a0 : Nat) (a1 : Int32) (a2 : Int32) (y : Nat) (U : TZ) (T : TZ) (S : ZS) (hI : I a0 T y U S) (x : Int32 × TZ) (hf : fL_isSo O OL a1 a2 T = some x) : zMetA l D z0 yL_isSo cL_isSo 8 (some .boolean) rmL_isSo [.ref a0, .int a1, .int a2] S (fun v S9 => v = .int x.1 ∧ I a0 x.2 y U S9) :=
  zMetA_of hlt (by decide) (Nat.le_of_ble_eq_true rfl) (fun G h0 hnt hE => wL_isSo hO a0 a1 a2 y U T S hI h0 hnt (fun o => o = some x) (fun h => nomatch h) (fun v T9 S9 hJ hh => by cases hh; exact hE _ _ ⟨rfl, hJ⟩)) hf
