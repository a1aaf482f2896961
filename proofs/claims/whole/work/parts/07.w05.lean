theorem dX6_placeBy_0 : decode cX6_placeBy 0 = .ok (.iload_n 0, 1) := by decide +kernel
theorem dX6_placeBy_1 : decode cX6_placeBy 1 = .ok (.ifCond .ne 12, 3) := by decide +kernel
theorem dX6_placeBy_4 : decode cX6_placeBy 4 = .ok (.iload_n 1, 1) := by decide +kernel
theorem dX6_placeBy_5 : decode cX6_placeBy 5 = .ok (.iload_n 2, 1) := by decide +kernel
theorem dX6_placeBy_6 : decode cX6_placeBy 6 = .ok (.iload_n 3, 1) := by decide +kernel
theorem dX6_placeBy_7 : decode cX6_placeBy 7 = .ok (.invokestatic 75, 3) := by decide +kernel
theorem dX6_placeBy_10 : decode cX6_placeBy 10 = .ok (.goto 23, 3) := by decide +kernel
theorem dX6_placeBy_13 : decode cX6_placeBy 13 = .ok (.iload_n 0, 1) := by decide +kernel
theorem dX6_placeBy_14 : decode cX6_placeBy 14 = .ok (.iconst 1, 1) := by decide +kernel
theorem dX6_placeBy_15 : decode cX6_placeBy 15 = .ok (.if_icmp .ne 12, 3) := by decide +kernel
theorem dX6_placeBy_18 : decode cX6_placeBy 18 = .ok (.iload_n 2, 1) := by decide +kernel
theorem dX6_placeBy_19 : decode cX6_placeBy 19 = .ok (.iload_n 1, 1) := by decide +kernel
theorem dX6_placeBy_20 : decode cX6_placeBy 20 = .ok (.iload_n 3, 1) := by decide +kernel
theorem dX6_placeBy_21 : decode cX6_placeBy 21 = .ok (.invokestatic 75, 3) := by decide +kernel
theorem dX6_placeBy_24 : decode cX6_placeBy 24 = .ok (.goto 9, 3) := by decide +kernel
theorem dX6_placeBy_27 : decode cX6_placeBy 27 = .ok (.iload_n 2, 1) := by decide +kernel
theorem dX6_placeBy_28 : decode cX6_placeBy 28 = .ok (.iload_n 3, 1) := by decide +kernel
theorem dX6_placeBy_29 : decode cX6_placeBy 29 = .ok (.iload_n 1, 1) := by decide +kernel
theorem dX6_placeBy_30 : decode cX6_placeBy 30 = .ok (.invokestatic 75, 3) := by decide +kernel
theorem dX6_placeBy_33 : decode cX6_placeBy 33 = .ok (.ireturn, 1) := by decide +kernel
abbrev rmX6_placeBy : Room := { frames := 2, cells := 0, slots := 0, locals := 42 }
theorem zyX6_placeBy : zyOK yX6_placeBy 4 := ⟨by decide +kernel, by decide +kernel, by decide +kernel⟩
set_option maxHeartbeats 4000000 in
set_option maxRecDepth 100000 in
theorem wX6_placeBy {G : ZG} (a0 : Int32) (a1 : Int32) (a2 : Int32) (a3 : Int32) (S : ZS) (h0 : zFix G cX6_placeBy RX6 4 (some .int) rmX6_placeBy) (C : Option Int32 → Prop) (hC : ¬ C none) (hE : ∀ v : Int32, C (some v) → zEnd G (some (.int v)) S rmX6_placeBy) : zV G 4 S 0 0 0 [(0, .int a0), (1, .int a1), (2, .int a2), (3, .int a3)] [] (C (fX6_placeBy a0 a1 a2 a3)) := by
  have J33 : ∀ (s0_33 : Int32), zV G 4 S 0 0 33 [] [.int s0_33] (C (fX6_placeBy_J33 s0_33)) := by
    intro s0_33
    unfold fX6_placeBy_J33
    exact zr_iret h0 rfl dX6_placeBy_33 (hE _) (by decide) (by decide)
  unfold fX6_placeBy
  refine zr_iload_n h0 dX6_placeBy_0 rfl (n := 1) rfl ?_
  refine zr_if_ne C (tgt := 13) h0 dX6_placeBy_1 (by decide) (n := 4) rfl ?_ ?_
  · refine zv_sub (lv' := [(1, .int a1), (2, .int a2), (3, .int a3)]) ?_ (zsub_of [1, 2, 3] rfl)
    refine zr_iload_n h0 dX6_placeBy_4 rfl (n := 5) rfl ?_
    refine zr_iload_n h0 dX6_placeBy_5 rfl (n := 6) rfl ?_
    refine zr_iload_n h0 dX6_placeBy_6 rfl (n := 7) rfl ?_
    refine zr_cRI C hC 0 0 (fun x hx => zk_S h0 (fun l D z0 => kX6_place l D z0 a1 a2 a3 S x hx) zw_909 zw_910 zw_5 zw_911 zyX6_place (As := [.int a1, .int a2, .int a3]) (st := []) rfl (by decide) rfl (Nat.le_of_ble_eq_true rfl) (by decide) dX6_placeBy_7) rfl rfl (n := 10) rfl (fun x1 => ?_)
    refine zr_goto (tgt := 33) h0 dX6_placeBy_10 (by decide) ?_
    refine zv_sub (lv' := []) ?_ (zsub_of [] rfl)
    exact J33 x1
  · refine zr_iload_n h0 dX6_placeBy_13 rfl (n := 14) rfl ?_
    refine zr_iconst (1 : Int32) h0 (by decide) dX6_placeBy_14 (n := 15) rfl ?_
    refine zr_icmp_ne C (tgt := 27) h0 dX6_placeBy_15 (by decide) (n := 18) rfl ?_ ?_
    · refine zv_sub (lv' := [(1, .int a1), (2, .int a2), (3, .int a3)]) ?_ (zsub_of [1, 2, 3] rfl)
      refine zr_iload_n h0 dX6_placeBy_18 rfl (n := 19) rfl ?_
      refine zr_iload_n h0 dX6_placeBy_19 rfl (n := 20) rfl ?_
      refine zr_iload_n h0 dX6_placeBy_20 rfl (n := 21) rfl ?_
      refine zr_cRI C hC 0 0 (fun x hx => zk_S h0 (fun l D z0 => kX6_place l D z0 a2 a1 a3 S x hx) zw_909 zw_910 zw_5 zw_911 zyX6_place (As := [.int a2, .int a1, .int a3]) (st := []) rfl (by decide) rfl (Nat.le_of_ble_eq_true rfl) (by decide) dX6_placeBy_21) rfl rfl (n := 24) rfl (fun x2 => ?_)
      refine zr_goto (tgt := 33) h0 dX6_placeBy_24 (by decide) ?_
      refine zv_sub (lv' := []) ?_ (zsub_of [] rfl)
      exact J33 x2
    · refine zv_sub (lv' := [(1, .int a1), (2, .int a2), (3, .int a3)]) ?_ (zsub_of [1, 2, 3] rfl)
      refine zr_iload_n h0 dX6_placeBy_27 rfl (n := 28) rfl ?_
      refine zr_iload_n h0 dX6_placeBy_28 rfl (n := 29) rfl ?_
      refine zr_iload_n h0 dX6_placeBy_29 rfl (n := 30) rfl ?_
      refine zr_cRI C hC 0 0 (fun x hx => zk_S h0 (fun l D z0 => kX6_place l D z0 a2 a3 a1 S x hx) zw_909 zw_910 zw_5 zw_911 zyX6_place (As := [.int a2, .int a3, .int a1]) (st := []) rfl (by decide) rfl (Nat.le_of_ble_eq_true rfl) (by decide) dX6_placeBy_30) rfl rfl (n := 33) rfl (fun x3 => ?_)
      refine zv_sub (lv' := []) ?_ (zsub_of [] rfl)
      exact J33 x3
theorem kX6_placeBy (l : Launch) (D : ZD) (z0 : Nat) (a0 : Int32) (a1 : Int32) (a2 : Int32) (a3 : Int32) (S : ZS) (x : Int32) (hf : fX6_placeBy a0 a1 a2 a3 = some x) : zMet l D z0 yX6_placeBy cX6_placeBy 4 (some .int) rmX6_placeBy [.int a0, .int a1, .int a2, .int a3] S (some (.int x)) S :=
  zMet_of (by decide) (Nat.le_of_ble_eq_true rfl) (fun G h0 hini hE => wX6_placeBy a0 a1 a2 a3 S h0 (fun o => o = some x) (fun h => nomatch h) (fun v h => by cases h; exact hE)) hf
theorem dX6_move_0 : decode cX6_move 0 = .ok (.aload_n 0, 1) := by decide +kernel
theorem dX6_move_1 : decode cX6_move 1 = .ok (.iload_n 1, 1) := by decide +kernel
theorem dX6_move_2 : decode cX6_move 2 = .ok (.invokevirtual 78, 3) := by decide +kernel
theorem dX6_move_5 : decode cX6_move 5 = .ok (.ifCond .eq 55, 3) := by decide +kernel
theorem dX6_move_8 : decode cX6_move 8 = .ok (.iload_n 2, 1) := by decide +kernel
theorem dX6_move_9 : decode cX6_move 9 = .ok (.invokestatic 85, 3) := by decide +kernel
theorem dX6_move_12 : decode cX6_move 12 = .ok (.ifCond .eq 48, 3) := by decide +kernel
theorem dX6_move_15 : decode cX6_move 15 = .ok (.iload_n 3, 1) := by decide +kernel
theorem dX6_move_16 : decode cX6_move 16 = .ok (.iconst 0, 1) := by decide +kernel
theorem dX6_move_17 : decode cX6_move 17 = .ok (.aload_n 0, 1) := by decide +kernel
theorem dX6_move_18 : decode cX6_move 18 = .ok (.getfield 13, 3) := by decide +kernel
theorem dX6_move_21 : decode cX6_move 21 = .ok (.iconst 3, 1) := by decide +kernel
theorem dX6_move_22 : decode cX6_move 22 = .ok (.iload_n 1, 1) := by decide +kernel
theorem dX6_move_23 : decode cX6_move 23 = .ok (.imul, 1) := by decide +kernel
theorem dX6_move_24 : decode cX6_move 24 = .ok (.iload_n 2, 1) := by decide +kernel
theorem dX6_move_25 : decode cX6_move 25 = .ok (.iadd, 1) := by decide +kernel
theorem dX6_move_26 : decode cX6_move 26 = .ok (.iaload, 1) := by decide +kernel
theorem dX6_move_27 : decode cX6_move 27 = .ok (.iconst 1, 1) := by decide +kernel
theorem dX6_move_28 : decode cX6_move 28 = .ok (.isub, 1) := by decide +kernel
theorem dX6_move_29 : decode cX6_move 29 = .ok (.invokestatic 57, 3) := by decide +kernel
theorem dX6_move_32 : decode cX6_move 32 = .ok (.ifCond .eq 28, 3) := by decide +kernel
theorem dX6_move_35 : decode cX6_move 35 = .ok (.iload 4, 2) := by decide +kernel
theorem dX6_move_37 : decode cX6_move 37 = .ok (.iconst 0, 1) := by decide +kernel
theorem dX6_move_38 : decode cX6_move 38 = .ok (.aload_n 0, 1) := by decide +kernel
theorem dX6_move_39 : decode cX6_move 39 = .ok (.getfield 13, 3) := by decide +kernel
theorem dX6_move_42 : decode cX6_move 42 = .ok (.iconst 3, 1) := by decide +kernel
theorem dX6_move_43 : decode cX6_move 43 = .ok (.iload_n 1, 1) := by decide +kernel
theorem dX6_move_44 : decode cX6_move 44 = .ok (.imul, 1) := by decide +kernel
theorem dX6_move_45 : decode cX6_move 45 = .ok (.iload_n 2, 1) := by decide +kernel
theorem dX6_move_46 : decode cX6_move 46 = .ok (.iadd, 1) := by decide +kernel
theorem dX6_move_47 : decode cX6_move 47 = .ok (.iaload, 1) := by decide +kernel
theorem dX6_move_48 : decode cX6_move 48 = .ok (.iconst 1, 1) := by decide +kernel
theorem dX6_move_49 : decode cX6_move 49 = .ok (.isub, 1) := by decide +kernel
theorem dX6_move_50 : decode cX6_move 50 = .ok (.invokestatic 57, 3) := by decide +kernel
theorem dX6_move_53 : decode cX6_move 53 = .ok (.ifCond .eq 7, 3) := by decide +kernel
theorem dX6_move_56 : decode cX6_move 56 = .ok (.iconst 1, 1) := by decide +kernel
theorem dX6_move_57 : decode cX6_move 57 = .ok (.goto 4, 3) := by decide +kernel
theorem dX6_move_60 : decode cX6_move 60 = .ok (.iconst 0, 1) := by decide +kernel
theorem dX6_move_61 : decode cX6_move 61 = .ok (.istore 6, 2) := by decide +kernel
theorem dX6_move_63 : decode cX6_move 63 = .ok (.aload_n 0, 1) := by decide +kernel
theorem dX6_move_64 : decode cX6_move 64 = .ok (.iload 6, 2) := by decide +kernel
theorem dX6_move_66 : decode cX6_move 66 = .ok (.ifCond .ne 7, 3) := by decide +kernel
theorem dX6_move_69 : decode cX6_move 69 = .ok (.iconst 1, 1) := by decide +kernel
theorem dX6_move_70 : decode cX6_move 70 = .ok (.goto 29, 3) := by decide +kernel
theorem dX6_move_73 : decode cX6_move 73 = .ok (.iload_n 3, 1) := by decide +kernel
theorem dX6_move_74 : decode cX6_move 74 = .ok (.iload 4, 2) := by decide +kernel
theorem dX6_move_76 : decode cX6_move 76 = .ok (.if_icmp .eq 22, 3) := by decide +kernel
theorem dX6_move_79 : decode cX6_move 79 = .ok (.iload 5, 2) := by decide +kernel
theorem dX6_move_81 : decode cX6_move 81 = .ok (.iconst 1, 1) := by decide +kernel
theorem dX6_move_82 : decode cX6_move 82 = .ok (.aload_n 0, 1) := by decide +kernel
theorem dX6_move_83 : decode cX6_move 83 = .ok (.getfield 7, 3) := by decide +kernel
theorem dX6_move_86 : decode cX6_move 86 = .ok (.iconst 1, 1) := by decide +kernel
theorem dX6_move_87 : decode cX6_move 87 = .ok (.isub, 1) := by decide +kernel
theorem dX6_move_88 : decode cX6_move 88 = .ok (.invokestatic 57, 3) := by decide +kernel
theorem dX6_move_91 : decode cX6_move 91 = .ok (.ifCond .eq 7, 3) := by decide +kernel
theorem dX6_move_94 : decode cX6_move 94 = .ok (.iconst 0, 1) := by decide +kernel
theorem dX6_move_95 : decode cX6_move 95 = .ok (.goto 4, 3) := by decide +kernel
theorem dX6_move_98 : decode cX6_move 98 = .ok (.iconst 2, 1) := by decide +kernel
theorem dX6_move_99 : decode cX6_move 99 = .ok (.invokevirtual 64, 3) := by decide +kernel
theorem dX6_move_102 : decode cX6_move 102 = .ok (.ifCond .ne 5, 3) := by decide +kernel
theorem dX6_move_105 : decode cX6_move 105 = .ok (.iconst 0, 1) := by decide +kernel
theorem dX6_move_106 : decode cX6_move 106 = .ok (.ireturn, 1) := by decide +kernel
theorem dX6_move_107 : decode cX6_move 107 = .ok (.bipush 64, 2) := by decide +kernel
theorem dX6_move_109 : decode cX6_move 109 = .ok (.iload_n 1, 1) := by decide +kernel
theorem dX6_move_110 : decode cX6_move 110 = .ok (.imul, 1) := by decide +kernel
theorem dX6_move_111 : decode cX6_move 111 = .ok (.istore 7, 2) := by decide +kernel
theorem dX6_move_113 : decode cX6_move 113 = .ok (.iconst 0, 1) := by decide +kernel
theorem dX6_move_114 : decode cX6_move 114 = .ok (.istore 8, 2) := by decide +kernel
theorem dX6_move_116 : decode cX6_move 116 = .ok (.iload 8, 2) := by decide +kernel
theorem dX6_move_118 : decode cX6_move 118 = .ok (.iconst 4, 1) := by decide +kernel
theorem dX6_move_119 : decode cX6_move 119 = .ok (.if_icmp .ge 94, 3) := by decide +kernel
theorem dX6_move_122 : decode cX6_move 122 = .ok (.iconst 0, 1) := by decide +kernel
theorem dX6_move_123 : decode cX6_move 123 = .ok (.istore 9, 2) := by decide +kernel
theorem dX6_move_125 : decode cX6_move 125 = .ok (.iload 9, 2) := by decide +kernel
theorem dX6_move_127 : decode cX6_move 127 = .ok (.iconst 4, 1) := by decide +kernel
theorem dX6_move_128 : decode cX6_move 128 = .ok (.if_icmp .ge 79, 3) := by decide +kernel
theorem dX6_move_131 : decode cX6_move 131 = .ok (.aload_n 0, 1) := by decide +kernel
theorem dX6_move_132 : decode cX6_move 132 = .ok (.getfield 17, 3) := by decide +kernel
theorem dX6_move_135 : decode cX6_move 135 = .ok (.iload 7, 2) := by decide +kernel
theorem dX6_move_137 : decode cX6_move 137 = .ok (.iload_n 2, 1) := by decide +kernel
theorem dX6_move_138 : decode cX6_move 138 = .ok (.iload_n 3, 1) := by decide +kernel
theorem dX6_move_139 : decode cX6_move 139 = .ok (.iload 8, 2) := by decide +kernel
theorem dX6_move_141 : decode cX6_move 141 = .ok (.iload 9, 2) := by decide +kernel
theorem dX6_move_143 : decode cX6_move 143 = .ok (.invokestatic 88, 3) := by decide +kernel
theorem dX6_move_146 : decode cX6_move 146 = .ok (.iadd, 1) := by decide +kernel
theorem dX6_move_147 : decode cX6_move 147 = .ok (.iaload, 1) := by decide +kernel
theorem dX6_move_148 : decode cX6_move 148 = .ok (.istore 10, 2) := by decide +kernel
theorem dX6_move_150 : decode cX6_move 150 = .ok (.aload_n 0, 1) := by decide +kernel
theorem dX6_move_151 : decode cX6_move 151 = .ok (.getfield 17, 3) := by decide +kernel
theorem dX6_move_154 : decode cX6_move 154 = .ok (.iload 7, 2) := by decide +kernel
theorem dX6_move_156 : decode cX6_move 156 = .ok (.iload_n 2, 1) := by decide +kernel
theorem dX6_move_157 : decode cX6_move 157 = .ok (.iload 4, 2) := by decide +kernel
theorem dX6_move_159 : decode cX6_move 159 = .ok (.iload 8, 2) := by decide +kernel
theorem dX6_move_161 : decode cX6_move 161 = .ok (.iload 9, 2) := by decide +kernel
theorem dX6_move_163 : decode cX6_move 163 = .ok (.invokestatic 88, 3) := by decide +kernel
theorem dX6_move_166 : decode cX6_move 166 = .ok (.iadd, 1) := by decide +kernel
theorem dX6_move_167 : decode cX6_move 167 = .ok (.iaload, 1) := by decide +kernel
theorem dX6_move_168 : decode cX6_move 168 = .ok (.istore 11, 2) := by decide +kernel
theorem dX6_move_170 : decode cX6_move 170 = .ok (.aload_n 0, 1) := by decide +kernel
theorem dX6_move_171 : decode cX6_move 171 = .ok (.getfield 17, 3) := by decide +kernel
theorem dX6_move_174 : decode cX6_move 174 = .ok (.iload 7, 2) := by decide +kernel
theorem dX6_move_176 : decode cX6_move 176 = .ok (.iload_n 2, 1) := by decide +kernel
theorem dX6_move_177 : decode cX6_move 177 = .ok (.iload 4, 2) := by decide +kernel
theorem dX6_move_179 : decode cX6_move 179 = .ok (.iload 8, 2) := by decide +kernel
theorem dX6_move_181 : decode cX6_move 181 = .ok (.iload 9, 2) := by decide +kernel
theorem dX6_move_183 : decode cX6_move 183 = .ok (.invokestatic 88, 3) := by decide +kernel
theorem dX6_move_186 : decode cX6_move 186 = .ok (.iadd, 1) := by decide +kernel
theorem dX6_move_187 : decode cX6_move 187 = .ok (.iload 11, 2) := by decide +kernel
theorem dX6_move_189 : decode cX6_move 189 = .ok (.iload 5, 2) := by decide +kernel
theorem dX6_move_191 : decode cX6_move 191 = .ok (.iload 10, 2) := by decide +kernel
theorem dX6_move_193 : decode cX6_move 193 = .ok (.imul, 1) := by decide +kernel
theorem dX6_move_194 : decode cX6_move 194 = .ok (.iadd, 1) := by decide +kernel
theorem dX6_move_195 : decode cX6_move 195 = .ok (.aload_n 0, 1) := by decide +kernel
theorem dX6_move_196 : decode cX6_move 196 = .ok (.getfield 7, 3) := by decide +kernel
theorem dX6_move_199 : decode cX6_move 199 = .ok (.irem, 1) := by decide +kernel
theorem dX6_move_200 : decode cX6_move 200 = .ok (.iastore, 1) := by decide +kernel
theorem dX6_move_201 : decode cX6_move 201 = .ok (.iinc 9 1, 3) := by decide +kernel
theorem dX6_move_204 : decode cX6_move 204 = .ok (.goto (-79), 3) := by decide +kernel
theorem dX6_move_207 : decode cX6_move 207 = .ok (.iinc 8 1, 3) := by decide +kernel
theorem dX6_move_210 : decode cX6_move 210 = .ok (.goto (-94), 3) := by decide +kernel
theorem dX6_move_213 : decode cX6_move 213 = .ok (.aload_n 0, 1) := by decide +kernel
theorem dX6_move_214 : decode cX6_move 214 = .ok (.getfield 20, 3) := by decide +kernel
theorem dX6_move_217 : decode cX6_move 217 = .ok (.iload_n 1, 1) := by decide +kernel
theorem dX6_move_218 : decode cX6_move 218 = .ok (.iconst 0, 1) := by decide +kernel
theorem dX6_move_219 : decode cX6_move 219 = .ok (.iastore, 1) := by decide +kernel
theorem dX6_move_220 : decode cX6_move 220 = .ok (.iconst 0, 1) := by decide +kernel
theorem dX6_move_221 : decode cX6_move 221 = .ok (.istore 8, 2) := by decide +kernel
theorem dX6_move_223 : decode cX6_move 223 = .ok (.iconst 0, 1) := by decide +kernel
theorem dX6_move_224 : decode cX6_move 224 = .ok (.istore 9, 2) := by decide +kernel
theorem dX6_move_226 : decode cX6_move 226 = .ok (.iload 9, 2) := by decide +kernel
theorem dX6_move_228 : decode cX6_move 228 = .ok (.bipush 64, 2) := by decide +kernel
theorem dX6_move_230 : decode cX6_move 230 = .ok (.if_icmp .ge 32, 3) := by decide +kernel
theorem dX6_move_233 : decode cX6_move 233 = .ok (.iload 8, 2) := by decide +kernel
theorem dX6_move_235 : decode cX6_move 235 = .ok (.aload_n 0, 1) := by decide +kernel
theorem dX6_move_236 : decode cX6_move 236 = .ok (.getfield 17, 3) := by decide +kernel
theorem dX6_move_239 : decode cX6_move 239 = .ok (.iload 7, 2) := by decide +kernel
theorem dX6_move_241 : decode cX6_move 241 = .ok (.iload 9, 2) := by decide +kernel
theorem dX6_move_243 : decode cX6_move 243 = .ok (.iadd, 1) := by decide +kernel
theorem dX6_move_244 : decode cX6_move 244 = .ok (.iaload, 1) := by decide +kernel
theorem dX6_move_245 : decode cX6_move 245 = .ok (.ifCond .eq 7, 3) := by decide +kernel
theorem dX6_move_248 : decode cX6_move 248 = .ok (.iconst 1, 1) := by decide +kernel
theorem dX6_move_249 : decode cX6_move 249 = .ok (.goto 4, 3) := by decide +kernel
theorem dX6_move_252 : decode cX6_move 252 = .ok (.iconst 0, 1) := by decide +kernel
theorem dX6_move_253 : decode cX6_move 253 = .ok (.iadd, 1) := by decide +kernel
theorem dX6_move_254 : decode cX6_move 254 = .ok (.istore 8, 2) := by decide +kernel
theorem dX6_move_256 : decode cX6_move 256 = .ok (.iinc 9 1, 3) := by decide +kernel
theorem dX6_move_259 : decode cX6_move 259 = .ok (.goto (-33), 3) := by decide +kernel
theorem dX6_move_262 : decode cX6_move 262 = .ok (.iload 8, 2) := by decide +kernel
theorem dX6_move_264 : decode cX6_move 264 = .ok (.ireturn, 1) := by decide +kernel
abbrev rmX6_move : Room := { frames := 3, cells := 0, slots := 0, locals := 65 }
theorem zyX6_move : zyOK yX6_move 5 := ⟨by decide +kernel, by decide +kernel, by decide +kernel⟩
set_option maxHeartbeats 4000000 in
set_option maxRecDepth 100000 in
theorem wX6_move {G : ZG} (a0 : Nat) (a1 : Int32) (a2 : Int32) (a3 : Int32) (a4 : Int32) (a5 : Int32) (S : ZS) (h0 : zFix G cX6_move RX6 12 (some .int) rmX6_move) (C : Option (Int32 × ZS) → Prop) (hC : ¬ C none) (hE : ∀ (v : Int32) (S1 : ZS), C (some (v, S1)) → zEnd G (some (.int v)) S1 rmX6_move) : zV G 12 S 0 0 0 [(0, .ref a0), (1, .int a1), (2, .int a2), (3, .int a3), (4, .int a4), (5, .int a5)] [] (C (fX6_move a0 a1 a2 a3 a4 a5 S)) := by
  have J99 : ∀ (l0_99 : Nat) (l1_99 : Int32) (l2_99 : Int32) (l3_99 : Int32) (l4_99 : Int32) (l5_99 : Int32) (s0_99 : Nat) (s1_99 : Int32) (S_99 : ZS), zV G 12 S_99 0 0 99 [(0, .ref l0_99), (1, .int l1_99), (2, .int l2_99), (3, .int l3_99), (4, .int l4_99), (5, .int l5_99)] [.int s1_99, .ref s0_99] (C (fX6_move_J99 l0_99 l1_99 l2_99 l3_99 l4_99 l5_99 s0_99 s1_99 S_99)) := by
    intro l0_99 l1_99 l2_99 l3_99 l4_99 l5_99 s0_99 s1_99 S_99
    unfold fX6_move_J99
    refine zr_cMI C hC 0 0 (fun x hx => zk_V h0 zcX6 (zcl_ex hx) (fun l D z0 => kX6_goesWell l D z0 s0_99 s1_99 S_99 x (zcl_of hx)) zw_886 zw_888 zs_34 zw_5 zw_889 rfl zyX6_goesWell (As := [.int s1_99]) (st := []) rfl (by decide) rfl (Nat.le_of_ble_eq_true rfl) (by decide) dX6_move_99) rfl rfl (n := 102) rfl (fun x55 => ?_)
    refine zr_if_ne C (tgt := 107) h0 dX6_move_102 (by decide) (n := 105) rfl ?_ ?_
    · refine zv_sub (lv' := []) ?_ (zsub_of [] rfl)
      refine zr_iconst (0 : Int32) h0 (by decide) dX6_move_105 (n := 106) rfl ?_
      exact zr_iret h0 rfl dX6_move_106 (hE _ _) (by decide) (by decide)
    · refine zr_bipush (64 : Int32) h0 (by decide) dX6_move_107 (n := 109) rfl ?_
      refine zr_iload_n h0 dX6_move_109 rfl (n := 110) rfl ?_
      refine zr_imul h0 dX6_move_110 (n := 111) rfl ?_
      refine zr_istore [(0, .ref l0_99), (1, .int l1_99), (2, .int l2_99), (3, .int l3_99), (4, .int l4_99), (5, .int l5_99), (7, .int ((64 : Int32) * l1_99))] h0 dX6_move_111 (by decide) rfl (n := 113) rfl ?_
      refine zr_iconst (0 : Int32) h0 (by decide) dX6_move_113 (n := 114) rfl ?_
      refine zr_istore [(0, .ref l0_99), (1, .int l1_99), (2, .int l2_99), (3, .int l3_99), (4, .int l4_99), (5, .int l5_99), (7, .int ((64 : Int32) * l1_99)), (8, .int (0 : Int32))] h0 dX6_move_114 (by decide) rfl (n := 116) rfl ?_
      refine zr_loop hC (fX6_move_B116 l0_99 l1_99 l2_99 l3_99 l4_99 l5_99 ((64 : Int32) * l1_99)) (fun y => [(0, .ref l0_99), (1, .int l1_99), (2, .int l2_99), (3, .int l3_99), (4, .int l4_99), (5, .int l5_99), (7, .int ((64 : Int32) * l1_99)), (8, .int y.1)]) (fun y => y.2) zF ((0 : Int32), x55.2) (fun C116 hC116 hX116 hL116 t116 => ?_)
      unfold fX6_move_B116
      refine zr_iload h0 dX6_move_116 rfl (n := 118) rfl ?_
      refine zr_iconst (4 : Int32) h0 (by decide) dX6_move_118 (n := 119) rfl ?_
      refine zr_icmp_ge C116 (tgt := 213) h0 dX6_move_119 (by decide) (n := 122) rfl ?_ ?_
      · refine zr_ex hX116 ?_
        refine zv_sub (lv' := [(0, .ref l0_99), (1, .int l1_99), (7, .int ((64 : Int32) * l1_99))]) ?_ (zsub_of [0, 1, 6] rfl)
        refine zr_aload_n h0 dX6_move_213 rfl (n := 214) rfl ?_
        refine zr_getR C hC h0 zcX6 (k := 5) (by decide) zw_824 dX6_move_214 (n := 217) rfl (fun v56 => ?_)
        refine zr_iload_n h0 dX6_move_217 rfl (n := 218) rfl ?_
        refine zr_iconst (0 : Int32) h0 (by decide) dX6_move_218 (n := 219) rfl ?_
        refine zr_iastore C hC h0 dX6_move_219 (n := 220) rfl (fun S57 => ?_)
        refine zr_iconst (0 : Int32) h0 (by decide) dX6_move_220 (n := 221) rfl ?_
        refine zr_istore [(0, .ref l0_99), (1, .int l1_99), (7, .int ((64 : Int32) * l1_99)), (8, .int (0 : Int32))] h0 dX6_move_221 (by decide) rfl (n := 223) rfl ?_
        refine zr_iconst (0 : Int32) h0 (by decide) dX6_move_223 (n := 224) rfl ?_
        refine zr_istore [(0, .ref l0_99), (1, .int l1_99), (7, .int ((64 : Int32) * l1_99)), (8, .int (0 : Int32)), (9, .int (0 : Int32))] h0 dX6_move_224 (by decide) rfl (n := 226) rfl ?_
        refine zv_sub (lv' := [(0, .ref l0_99), (7, .int ((64 : Int32) * l1_99)), (8, .int (0 : Int32)), (9, .int (0 : Int32))]) ?_ (zsub_of [0, 2, 3, 4] rfl)
        refine zr_loop hC (fX6_move_B226 l0_99 ((64 : Int32) * l1_99) S57) (fun y => [(0, .ref l0_99), (7, .int ((64 : Int32) * l1_99)), (8, .int y.1), (9, .int y.2)]) (fun y => S57) zF ((0 : Int32), (0 : Int32)) (fun C226 hC226 hX226 hL226 t226 => ?_)
        have J253 : ∀ (l9_253 : Int32) (s0_253 : Int32) (s1_253 : Int32), zV G 12 S57 0 0 253 [(0, .ref l0_99), (7, .int ((64 : Int32) * l1_99)), (9, .int l9_253)] [.int s1_253, .int s0_253] (C226 (fX6_move_J253 l0_99 ((64 : Int32) * l1_99) l9_253 s0_253 s1_253 S57)) := by
          intro l9_253 s0_253 s1_253
          unfold fX6_move_J253
          refine zr_iadd h0 dX6_move_253 (n := 254) rfl ?_
          refine zr_istore [(0, .ref l0_99), (7, .int ((64 : Int32) * l1_99)), (8, .int (s0_253 + s1_253)), (9, .int l9_253)] h0 dX6_move_254 (by decide) rfl (n := 256) rfl ?_
          refine zr_iinc (1 : Int32) [(0, .ref l0_99), (7, .int ((64 : Int32) * l1_99)), (8, .int (s0_253 + s1_253)), (9, .int (l9_253 + (1 : Int32)))] h0 dX6_move_256 rfl (by decide) rfl rfl (n := 259) rfl ?_
          refine zr_goto (tgt := 226) h0 dX6_move_259 (by decide) ?_
          exact hL226 (s0_253 + s1_253, l9_253 + (1 : Int32))
        unfold fX6_move_B226
        refine zr_iload h0 dX6_move_226 rfl (n := 228) rfl ?_
        refine zr_bipush (64 : Int32) h0 (by decide) dX6_move_228 (n := 230) rfl ?_
        refine zr_icmp_ge C226 (tgt := 262) h0 dX6_move_230 (by decide) (n := 233) rfl ?_ ?_
        · refine zr_ex hX226 ?_
          refine zv_sub (lv' := [(8, .int t226.1)]) ?_ (zsub_of [2] rfl)
          refine zr_iload h0 dX6_move_262 rfl (n := 264) rfl ?_
          exact zr_iret h0 rfl dX6_move_264 (hE _ _) (by decide) (by decide)
        · refine zr_iload h0 dX6_move_233 rfl (n := 235) rfl ?_
          refine zr_aload_n h0 dX6_move_235 rfl (n := 236) rfl ?_
          refine zr_getR C226 hC226 h0 zcX6 (k := 4) (by decide) zw_823 dX6_move_236 (n := 239) rfl (fun v58 => ?_)
          refine zr_iload h0 dX6_move_239 rfl (n := 241) rfl ?_
          refine zr_iload h0 dX6_move_241 rfl (n := 243) rfl ?_
          refine zr_iadd h0 dX6_move_243 (n := 244) rfl ?_
          refine zr_iaload C226 hC226 h0 dX6_move_244 (n := 245) rfl (fun v59 => ?_)
          refine zr_if_eq C226 (tgt := 252) h0 dX6_move_245 (by decide) (n := 248) rfl ?_ ?_
          · refine zv_sub (lv' := [(0, .ref l0_99), (7, .int ((64 : Int32) * l1_99)), (9, .int t226.2)]) ?_ (zsub_of [0, 1, 3] rfl)
            refine zr_iconst (0 : Int32) h0 (by decide) dX6_move_252 (n := 253) rfl ?_
            exact J253 t226.2 t226.1 (0 : Int32)
          · refine zv_sub (lv' := [(0, .ref l0_99), (7, .int ((64 : Int32) * l1_99)), (9, .int t226.2)]) ?_ (zsub_of [0, 1, 3] rfl)
            refine zr_iconst (1 : Int32) h0 (by decide) dX6_move_248 (n := 249) rfl ?_
            refine zr_goto (tgt := 253) h0 dX6_move_249 (by decide) ?_
            exact J253 t226.2 t226.1 (1 : Int32)
      · refine zr_iconst (0 : Int32) h0 (by decide) dX6_move_122 (n := 123) rfl ?_
        refine zr_istore [(0, .ref l0_99), (1, .int l1_99), (2, .int l2_99), (3, .int l3_99), (4, .int l4_99), (5, .int l5_99), (7, .int ((64 : Int32) * l1_99)), (8, .int t116.1), (9, .int (0 : Int32))] h0 dX6_move_123 (by decide) rfl (n := 125) rfl ?_
        refine zr_loop hC116 (fX6_move_B125 l0_99 l1_99 l2_99 l3_99 l4_99 l5_99 ((64 : Int32) * l1_99) t116.1) (fun y => [(0, .ref l0_99), (1, .int l1_99), (2, .int l2_99), (3, .int l3_99), (4, .int l4_99), (5, .int l5_99), (7, .int ((64 : Int32) * l1_99)), (8, .int t116.1), (9, .int y.1)]) (fun y => y.2) zF ((0 : Int32), t116.2) (fun C125 hC125 hX125 hL125 t125 => ?_)
        unfold fX6_move_B125
        refine zr_iload h0 dX6_move_125 rfl (n := 127) rfl ?_
        refine zr_iconst (4 : Int32) h0 (by decide) dX6_move_127 (n := 128) rfl ?_
        refine zr_icmp_ge C125 (tgt := 207) h0 dX6_move_128 (by decide) (n := 131) rfl ?_ ?_
        · refine zr_ex hX125 ?_
          refine zv_sub (lv' := [(0, .ref l0_99), (1, .int l1_99), (2, .int l2_99), (3, .int l3_99), (4, .int l4_99), (5, .int l5_99), (7, .int ((64 : Int32) * l1_99)), (8, .int t116.1)]) ?_ (zsub_of [0, 1, 2, 3, 4, 5, 6, 7] rfl)
          refine zr_iinc (1 : Int32) [(0, .ref l0_99), (1, .int l1_99), (2, .int l2_99), (3, .int l3_99), (4, .int l4_99), (5, .int l5_99), (7, .int ((64 : Int32) * l1_99)), (8, .int (t116.1 + (1 : Int32)))] h0 dX6_move_207 rfl (by decide) rfl rfl (n := 210) rfl ?_
          refine zr_goto (tgt := 116) h0 dX6_move_210 (by decide) ?_
          exact hL116 (t116.1 + (1 : Int32), t125.2)
        · refine zr_aload_n h0 dX6_move_131 rfl (n := 132) rfl ?_
          refine zr_getR C125 hC125 h0 zcX6 (k := 4) (by decide) zw_823 dX6_move_132 (n := 135) rfl (fun v60 => ?_)
          refine zr_iload h0 dX6_move_135 rfl (n := 137) rfl ?_
          refine zr_iload_n h0 dX6_move_137 rfl (n := 138) rfl ?_
          refine zr_iload_n h0 dX6_move_138 rfl (n := 139) rfl ?_
          refine zr_iload h0 dX6_move_139 rfl (n := 141) rfl ?_
          refine zr_iload h0 dX6_move_141 rfl (n := 143) rfl ?_
          refine zr_cRI C125 hC125 0 0 (fun x hx => zk_S h0 (fun l D z0 => kX6_placeBy l D z0 l2_99 l3_99 t116.1 t125.1 t125.2 x hx) zw_939 zw_940 zw_5 zw_941 zyX6_placeBy (As := [.int l2_99, .int l3_99, .int t116.1, .int t125.1]) (st := [.int ((64 : Int32) * l1_99), .ref v60]) rfl (by decide) rfl (Nat.le_of_ble_eq_true rfl) (by decide) dX6_move_143) rfl rfl (n := 146) rfl (fun x61 => ?_)
          refine zr_iadd h0 dX6_move_146 (n := 147) rfl ?_
          refine zr_iaload C125 hC125 h0 dX6_move_147 (n := 148) rfl (fun v62 => ?_)
          refine zr_istore [(0, .ref l0_99), (1, .int l1_99), (2, .int l2_99), (3, .int l3_99), (4, .int l4_99), (5, .int l5_99), (7, .int ((64 : Int32) * l1_99)), (8, .int t116.1), (9, .int t125.1), (10, .int v62)] h0 dX6_move_148 (by decide) rfl (n := 150) rfl ?_
          refine zr_aload_n h0 dX6_move_150 rfl (n := 151) rfl ?_
          refine zr_getR C125 hC125 h0 zcX6 (k := 4) (by decide) zw_823 dX6_move_151 (n := 154) rfl (fun v63 => ?_)
          refine zr_iload h0 dX6_move_154 rfl (n := 156) rfl ?_
          refine zr_iload_n h0 dX6_move_156 rfl (n := 157) rfl ?_
          refine zr_iload h0 dX6_move_157 rfl (n := 159) rfl ?_
          refine zr_iload h0 dX6_move_159 rfl (n := 161) rfl ?_
          refine zr_iload h0 dX6_move_161 rfl (n := 163) rfl ?_
          refine zr_cRI C125 hC125 0 0 (fun x hx => zk_S h0 (fun l D z0 => kX6_placeBy l D z0 l2_99 l4_99 t116.1 t125.1 t125.2 x hx) zw_939 zw_940 zw_5 zw_941 zyX6_placeBy (As := [.int l2_99, .int l4_99, .int t116.1, .int t125.1]) (st := [.int ((64 : Int32) * l1_99), .ref v63]) rfl (by decide) rfl (Nat.le_of_ble_eq_true rfl) (by decide) dX6_move_163) rfl rfl (n := 166) rfl (fun x64 => ?_)
          refine zr_iadd h0 dX6_move_166 (n := 167) rfl ?_
          refine zr_iaload C125 hC125 h0 dX6_move_167 (n := 168) rfl (fun v65 => ?_)
          refine zr_istore [(0, .ref l0_99), (1, .int l1_99), (2, .int l2_99), (3, .int l3_99), (4, .int l4_99), (5, .int l5_99), (7, .int ((64 : Int32) * l1_99)), (8, .int t116.1), (9, .int t125.1), (10, .int v62), (11, .int v65)] h0 dX6_move_168 (by decide) rfl (n := 170) rfl ?_
          refine zr_aload_n h0 dX6_move_170 rfl (n := 171) rfl ?_
          refine zr_getR C125 hC125 h0 zcX6 (k := 4) (by decide) zw_823 dX6_move_171 (n := 174) rfl (fun v66 => ?_)
          refine zr_iload h0 dX6_move_174 rfl (n := 176) rfl ?_
          refine zr_iload_n h0 dX6_move_176 rfl (n := 177) rfl ?_
          refine zr_iload h0 dX6_move_177 rfl (n := 179) rfl ?_
          refine zr_iload h0 dX6_move_179 rfl (n := 181) rfl ?_
          refine zr_iload h0 dX6_move_181 rfl (n := 183) rfl ?_
          refine zr_cRI C125 hC125 0 0 (fun x hx => zk_S h0 (fun l D z0 => kX6_placeBy l D z0 l2_99 l4_99 t116.1 t125.1 t125.2 x hx) zw_939 zw_940 zw_5 zw_941 zyX6_placeBy (As := [.int l2_99, .int l4_99, .int t116.1, .int t125.1]) (st := [.int ((64 : Int32) * l1_99), .ref v66]) rfl (by decide) rfl (Nat.le_of_ble_eq_true rfl) (by decide) dX6_move_183) rfl rfl (n := 186) rfl (fun x67 => ?_)
          refine zr_iadd h0 dX6_move_186 (n := 187) rfl ?_
          refine zr_iload h0 dX6_move_187 rfl (n := 189) rfl ?_
          refine zr_iload h0 dX6_move_189 rfl (n := 191) rfl ?_
          refine zr_iload h0 dX6_move_191 rfl (n := 193) rfl ?_
          refine zr_imul h0 dX6_move_193 (n := 194) rfl ?_
          refine zr_iadd h0 dX6_move_194 (n := 195) rfl ?_
          refine zr_aload_n h0 dX6_move_195 rfl (n := 196) rfl ?_
          refine zr_getI C125 hC125 h0 zcX6 (k := 1) (by decide) zw_820 dX6_move_196 (n := 199) rfl (fun v68 => ?_)
          refine zr_irem C125 hC125 h0 dX6_move_199 (n := 200) rfl (fun v69 => ?_)
          refine zr_iastore C125 hC125 h0 dX6_move_200 (n := 201) rfl (fun S70 => ?_)
          refine zr_iinc (1 : Int32) [(0, .ref l0_99), (1, .int l1_99), (2, .int l2_99), (3, .int l3_99), (4, .int l4_99), (5, .int l5_99), (7, .int ((64 : Int32) * l1_99)), (8, .int t116.1), (9, .int (t125.1 + (1 : Int32))), (10, .int v62), (11, .int v65)] h0 dX6_move_201 rfl (by decide) rfl rfl (n := 204) rfl ?_
          refine zr_goto (tgt := 125) h0 dX6_move_204 (by decide) ?_
          refine zv_sub (lv' := [(0, .ref l0_99), (1, .int l1_99), (2, .int l2_99), (3, .int l3_99), (4, .int l4_99), (5, .int l5_99), (7, .int ((64 : Int32) * l1_99)), (8, .int t116.1), (9, .int (t125.1 + (1 : Int32)))]) ?_ (zsub_of [0, 1, 2, 3, 4, 5, 6, 7, 8] rfl)
          exact hL125 (t125.1 + (1 : Int32), S70)
  have J98 : ∀ (l0_98 : Nat) (l1_98 : Int32) (l2_98 : Int32) (l3_98 : Int32) (l4_98 : Int32) (l5_98 : Int32) (s0_98 : Nat) (S_98 : ZS), zV G 12 S_98 0 0 98 [(0, .ref l0_98), (1, .int l1_98), (2, .int l2_98), (3, .int l3_98), (4, .int l4_98), (5, .int l5_98)] [.ref s0_98] (C (fX6_move_J98 l0_98 l1_98 l2_98 l3_98 l4_98 l5_98 s0_98 S_98)) := by
    intro l0_98 l1_98 l2_98 l3_98 l4_98 l5_98 s0_98 S_98
    unfold fX6_move_J98
    refine zr_iconst (2 : Int32) h0 (by decide) dX6_move_98 (n := 99) rfl ?_
    exact J99 l0_98 l1_98 l2_98 l3_98 l4_98 l5_98 s0_98 (2 : Int32) S_98
  have J61 : ∀ (l0_61 : Nat) (l1_61 : Int32) (l2_61 : Int32) (l3_61 : Int32) (l4_61 : Int32) (l5_61 : Int32) (s0_61 : Int32) (S_61 : ZS), zV G 12 S_61 0 0 61 [(0, .ref l0_61), (1, .int l1_61), (2, .int l2_61), (3, .int l3_61), (4, .int l4_61), (5, .int l5_61)] [.int s0_61] (C (fX6_move_J61 l0_61 l1_61 l2_61 l3_61 l4_61 l5_61 s0_61 S_61)) := by
    intro l0_61 l1_61 l2_61 l3_61 l4_61 l5_61 s0_61 S_61
    unfold fX6_move_J61
    refine zr_istore [(0, .ref l0_61), (1, .int l1_61), (2, .int l2_61), (3, .int l3_61), (4, .int l4_61), (5, .int l5_61), (6, .int s0_61)] h0 dX6_move_61 (by decide) rfl (n := 63) rfl ?_
    refine zr_aload_n h0 dX6_move_63 rfl (n := 64) rfl ?_
    refine zr_iload h0 dX6_move_64 rfl (n := 66) rfl ?_
    refine zr_if_ne C (tgt := 73) h0 dX6_move_66 (by decide) (n := 69) rfl ?_ ?_
    · refine zv_sub (lv' := [(0, .ref l0_61), (1, .int l1_61), (2, .int l2_61), (3, .int l3_61), (4, .int l4_61), (5, .int l5_61)]) ?_ (zsub_of [0, 1, 2, 3, 4, 5] rfl)
      refine zr_iconst (1 : Int32) h0 (by decide) dX6_move_69 (n := 70) rfl ?_
      refine zr_goto (tgt := 99) h0 dX6_move_70 (by decide) ?_
      exact J99 l0_61 l1_61 l2_61 l3_61 l4_61 l5_61 l0_61 (1 : Int32) S_61
    · refine zv_sub (lv' := [(0, .ref l0_61), (1, .int l1_61), (2, .int l2_61), (3, .int l3_61), (4, .int l4_61), (5, .int l5_61)]) ?_ (zsub_of [0, 1, 2, 3, 4, 5] rfl)
      refine zr_iload_n h0 dX6_move_73 rfl (n := 74) rfl ?_
      refine zr_iload h0 dX6_move_74 rfl (n := 76) rfl ?_
      refine zr_icmp_eq C (tgt := 98) h0 dX6_move_76 (by decide) (n := 79) rfl ?_ ?_
      · exact J98 l0_61 l1_61 l2_61 l3_61 l4_61 l5_61 l0_61 S_61
      · refine zr_iload h0 dX6_move_79 rfl (n := 81) rfl ?_
        refine zr_iconst (1 : Int32) h0 (by decide) dX6_move_81 (n := 82) rfl ?_
        refine zr_aload_n h0 dX6_move_82 rfl (n := 83) rfl ?_
        refine zr_getI C hC h0 zcX6 (k := 1) (by decide) zw_820 dX6_move_83 (n := 86) rfl (fun v71 => ?_)
        refine zr_iconst (1 : Int32) h0 (by decide) dX6_move_86 (n := 87) rfl ?_
        refine zr_isub h0 dX6_move_87 (n := 88) rfl ?_
        refine zr_cRI C hC 0 0 (fun x hx => zk_S h0 (fun l D z0 => kX6_in l D z0 l5_61 (1 : Int32) (v71 - (1 : Int32)) S_61 x hx) zw_898 zw_899 zw_5 zw_900 zyX6_in (As := [.int l5_61, .int (1 : Int32), .int (v71 - (1 : Int32))]) (st := [.ref l0_61]) rfl (by decide) rfl (Nat.le_of_ble_eq_true rfl) (by decide) dX6_move_88) rfl rfl (n := 91) rfl (fun x72 => ?_)
        refine zr_if_eq C (tgt := 98) h0 dX6_move_91 (by decide) (n := 94) rfl ?_ ?_
        · exact J98 l0_61 l1_61 l2_61 l3_61 l4_61 l5_61 l0_61 S_61
        · refine zr_iconst (0 : Int32) h0 (by decide) dX6_move_94 (n := 95) rfl ?_
          refine zr_goto (tgt := 99) h0 dX6_move_95 (by decide) ?_
          exact J99 l0_61 l1_61 l2_61 l3_61 l4_61 l5_61 l0_61 (0 : Int32) S_61
  have J60 : ∀ (l0_60 : Nat) (l1_60 : Int32) (l2_60 : Int32) (l3_60 : Int32) (l4_60 : Int32) (l5_60 : Int32) (S_60 : ZS), zV G 12 S_60 0 0 60 [(0, .ref l0_60), (1, .int l1_60), (2, .int l2_60), (3, .int l3_60), (4, .int l4_60), (5, .int l5_60)] [] (C (fX6_move_J60 l0_60 l1_60 l2_60 l3_60 l4_60 l5_60 S_60)) := by
    intro l0_60 l1_60 l2_60 l3_60 l4_60 l5_60 S_60
    unfold fX6_move_J60
    refine zr_iconst (0 : Int32) h0 (by decide) dX6_move_60 (n := 61) rfl ?_
    exact J61 l0_60 l1_60 l2_60 l3_60 l4_60 l5_60 (0 : Int32) S_60
  unfold fX6_move
  refine zr_aload_n h0 dX6_move_0 rfl (n := 1) rfl ?_
  refine zr_iload_n h0 dX6_move_1 rfl (n := 2) rfl ?_
  refine zr_cRI C hC 0 0 (fun x hx => zk_V h0 zcX6 (zcl_ex hx) (fun l D z0 => kX6_isCube l D z0 a0 a1 S x (zcl_of hx)) zw_928 zw_930 zs_38 zw_5 zw_931 rfl zyX6_isCube (As := [.int a1]) (st := []) rfl (by decide) rfl (Nat.le_of_ble_eq_true rfl) (by decide) dX6_move_2) rfl rfl (n := 5) rfl (fun x1 => ?_)
  refine zr_if_eq C (tgt := 60) h0 dX6_move_5 (by decide) (n := 8) rfl ?_ ?_
  · exact J60 a0 a1 a2 a3 a4 a5 S
  · refine zr_iload_n h0 dX6_move_8 rfl (n := 9) rfl ?_
    refine zr_cRI C hC 0 0 (fun x hx => zk_S h0 (fun l D z0 => kX6_isSide l D z0 a2 S x hx) zw_936 zw_937 zw_5 zw_938 zyX6_isSide (As := [.int a2]) (st := []) rfl (by decide) rfl (Nat.le_of_ble_eq_true rfl) (by decide) dX6_move_9) rfl rfl (n := 12) rfl (fun x48 => ?_)
    refine zr_if_eq C (tgt := 60) h0 dX6_move_12 (by decide) (n := 15) rfl ?_ ?_
    · exact J60 a0 a1 a2 a3 a4 a5 S
    · refine zr_iload_n h0 dX6_move_15 rfl (n := 16) rfl ?_
      refine zr_iconst (0 : Int32) h0 (by decide) dX6_move_16 (n := 17) rfl ?_
      refine zr_aload_n h0 dX6_move_17 rfl (n := 18) rfl ?_
      refine zr_getR C hC h0 zcX6 (k := 3) (by decide) zw_822 dX6_move_18 (n := 21) rfl (fun v49 => ?_)
      refine zr_iconst (3 : Int32) h0 (by decide) dX6_move_21 (n := 22) rfl ?_
      refine zr_iload_n h0 dX6_move_22 rfl (n := 23) rfl ?_
      refine zr_imul h0 dX6_move_23 (n := 24) rfl ?_
      refine zr_iload_n h0 dX6_move_24 rfl (n := 25) rfl ?_
      refine zr_iadd h0 dX6_move_25 (n := 26) rfl ?_
      refine zr_iaload C hC h0 dX6_move_26 (n := 27) rfl (fun v50 => ?_)
      refine zr_iconst (1 : Int32) h0 (by decide) dX6_move_27 (n := 28) rfl ?_
      refine zr_isub h0 dX6_move_28 (n := 29) rfl ?_
      refine zr_cRI C hC 0 0 (fun x hx => zk_S h0 (fun l D z0 => kX6_in l D z0 a3 (0 : Int32) (v50 - (1 : Int32)) S x hx) zw_898 zw_899 zw_5 zw_900 zyX6_in (As := [.int a3, .int (0 : Int32), .int (v50 - (1 : Int32))]) (st := []) rfl (by decide) rfl (Nat.le_of_ble_eq_true rfl) (by decide) dX6_move_29) rfl rfl (n := 32) rfl (fun x51 => ?_)
      refine zr_if_eq C (tgt := 60) h0 dX6_move_32 (by decide) (n := 35) rfl ?_ ?_
      · exact J60 a0 a1 a2 a3 a4 a5 S
      · refine zr_iload h0 dX6_move_35 rfl (n := 37) rfl ?_
        refine zr_iconst (0 : Int32) h0 (by decide) dX6_move_37 (n := 38) rfl ?_
        refine zr_aload_n h0 dX6_move_38 rfl (n := 39) rfl ?_
        refine zr_getR C hC h0 zcX6 (k := 3) (by decide) zw_822 dX6_move_39 (n := 42) rfl (fun v52 => ?_)
        refine zr_iconst (3 : Int32) h0 (by decide) dX6_move_42 (n := 43) rfl ?_
        refine zr_iload_n h0 dX6_move_43 rfl (n := 44) rfl ?_
        refine zr_imul h0 dX6_move_44 (n := 45) rfl ?_
        refine zr_iload_n h0 dX6_move_45 rfl (n := 46) rfl ?_
        refine zr_iadd h0 dX6_move_46 (n := 47) rfl ?_
        refine zr_iaload C hC h0 dX6_move_47 (n := 48) rfl (fun v53 => ?_)
        refine zr_iconst (1 : Int32) h0 (by decide) dX6_move_48 (n := 49) rfl ?_
        refine zr_isub h0 dX6_move_49 (n := 50) rfl ?_
        refine zr_cRI C hC 0 0 (fun x hx => zk_S h0 (fun l D z0 => kX6_in l D z0 a4 (0 : Int32) (v53 - (1 : Int32)) S x hx) zw_898 zw_899 zw_5 zw_900 zyX6_in (As := [.int a4, .int (0 : Int32), .int (v53 - (1 : Int32))]) (st := []) rfl (by decide) rfl (Nat.le_of_ble_eq_true rfl) (by decide) dX6_move_50) rfl rfl (n := 53) rfl (fun x54 => ?_)
        refine zr_if_eq C (tgt := 60) h0 dX6_move_53 (by decide) (n := 56) rfl ?_ ?_
        · exact J60 a0 a1 a2 a3 a4 a5 S
        · refine zr_iconst (1 : Int32) h0 (by decide) dX6_move_56 (n := 57) rfl ?_
          refine zr_goto (tgt := 61) h0 dX6_move_57 (by decide) ?_
          exact J61 a0 a1 a2 a3 a4 a5 (1 : Int32) S
theorem kX6_move (l : Launch) (D : ZD) (z0 : Nat) (a0 : Nat) (a1 : Int32) (a2 : Int32) (a3 : Int32) (a4 : Int32) (a5 : Int32) (S : ZS) (x : Int32 × ZS) (hf : fX6_move a0 a1 a2 a3 a4 a5 S = some x) : zMet l D z0 yX6_move cX6_move 12 (some .int) rmX6_move [.ref a0, .int a1, .int a2, .int a3, .int a4, .int a5] S (some (.int x.1)) x.2 :=
  zMet_of (by decide) (Nat.le_of_ble_eq_true rfl) (fun G h0 hini hE => wX6_move a0 a1 a2 a3 a4 a5 S h0 (fun o => o = some x) (fun h => nomatch h) (fun v S1 h => by cases h; exact hE)) hf
theorem dX6_sum_0 : decode cX6_sum 0 = .ok (.aload_n 0, 1) := by decide +kernel
theorem dX6_sum_1 : decode cX6_sum 1 = .ok (.iload_n 1, 1) := by decide +kernel
theorem dX6_sum_2 : decode cX6_sum 2 = .ok (.invokevirtual 78, 3) := by decide +kernel
theorem dX6_sum_5 : decode cX6_sum 5 = .ok (.ifCond .eq 15, 3) := by decide +kernel
theorem dX6_sum_8 : decode cX6_sum 8 = .ok (.aload_n 0, 1) := by decide +kernel
theorem dX6_sum_9 : decode cX6_sum 9 = .ok (.iload_n 2, 1) := by decide +kernel
theorem dX6_sum_10 : decode cX6_sum 10 = .ok (.invokevirtual 78, 3) := by decide +kernel
theorem dX6_sum_13 : decode cX6_sum 13 = .ok (.ifCond .eq 7, 3) := by decide +kernel
theorem dX6_sum_16 : decode cX6_sum 16 = .ok (.iconst 1, 1) := by decide +kernel
theorem dX6_sum_17 : decode cX6_sum 17 = .ok (.goto 4, 3) := by decide +kernel
theorem dX6_sum_20 : decode cX6_sum 20 = .ok (.iconst 0, 1) := by decide +kernel
theorem dX6_sum_21 : decode cX6_sum 21 = .ok (.istore_n 3, 1) := by decide +kernel
theorem dX6_sum_22 : decode cX6_sum 22 = .ok (.iload_n 3, 1) := by decide +kernel
theorem dX6_sum_23 : decode cX6_sum 23 = .ok (.ifCond .eq 72, 3) := by decide +kernel
theorem dX6_sum_26 : decode cX6_sum 26 = .ok (.aload_n 0, 1) := by decide +kernel
theorem dX6_sum_27 : decode cX6_sum 27 = .ok (.getfield 13, 3) := by decide +kernel
theorem dX6_sum_30 : decode cX6_sum 30 = .ok (.iconst 3, 1) := by decide +kernel
theorem dX6_sum_31 : decode cX6_sum 31 = .ok (.iload_n 1, 1) := by decide +kernel
theorem dX6_sum_32 : decode cX6_sum 32 = .ok (.imul, 1) := by decide +kernel
theorem dX6_sum_33 : decode cX6_sum 33 = .ok (.iaload, 1) := by decide +kernel
theorem dX6_sum_34 : decode cX6_sum 34 = .ok (.aload_n 0, 1) := by decide +kernel
theorem dX6_sum_35 : decode cX6_sum 35 = .ok (.getfield 13, 3) := by decide +kernel
theorem dX6_sum_38 : decode cX6_sum 38 = .ok (.iconst 3, 1) := by decide +kernel
theorem dX6_sum_39 : decode cX6_sum 39 = .ok (.iload_n 2, 1) := by decide +kernel
theorem dX6_sum_40 : decode cX6_sum 40 = .ok (.imul, 1) := by decide +kernel
theorem dX6_sum_41 : decode cX6_sum 41 = .ok (.iaload, 1) := by decide +kernel
theorem dX6_sum_42 : decode cX6_sum 42 = .ok (.if_icmp .ne 53, 3) := by decide +kernel
theorem dX6_sum_45 : decode cX6_sum 45 = .ok (.aload_n 0, 1) := by decide +kernel
theorem dX6_sum_46 : decode cX6_sum 46 = .ok (.getfield 13, 3) := by decide +kernel
theorem dX6_sum_49 : decode cX6_sum 49 = .ok (.iconst 3, 1) := by decide +kernel
theorem dX6_sum_50 : decode cX6_sum 50 = .ok (.iload_n 1, 1) := by decide +kernel
theorem dX6_sum_51 : decode cX6_sum 51 = .ok (.imul, 1) := by decide +kernel
theorem dX6_sum_52 : decode cX6_sum 52 = .ok (.iconst 1, 1) := by decide +kernel
theorem dX6_sum_53 : decode cX6_sum 53 = .ok (.iadd, 1) := by decide +kernel
theorem dX6_sum_54 : decode cX6_sum 54 = .ok (.iaload, 1) := by decide +kernel
theorem dX6_sum_55 : decode cX6_sum 55 = .ok (.aload_n 0, 1) := by decide +kernel
theorem dX6_sum_56 : decode cX6_sum 56 = .ok (.getfield 13, 3) := by decide +kernel
theorem dX6_sum_59 : decode cX6_sum 59 = .ok (.iconst 3, 1) := by decide +kernel
theorem dX6_sum_60 : decode cX6_sum 60 = .ok (.iload_n 2, 1) := by decide +kernel
theorem dX6_sum_61 : decode cX6_sum 61 = .ok (.imul, 1) := by decide +kernel
theorem dX6_sum_62 : decode cX6_sum 62 = .ok (.iconst 1, 1) := by decide +kernel
theorem dX6_sum_63 : decode cX6_sum 63 = .ok (.iadd, 1) := by decide +kernel
theorem dX6_sum_64 : decode cX6_sum 64 = .ok (.iaload, 1) := by decide +kernel
theorem dX6_sum_65 : decode cX6_sum 65 = .ok (.if_icmp .ne 30, 3) := by decide +kernel
theorem dX6_sum_68 : decode cX6_sum 68 = .ok (.aload_n 0, 1) := by decide +kernel
theorem dX6_sum_69 : decode cX6_sum 69 = .ok (.getfield 13, 3) := by decide +kernel
theorem dX6_sum_72 : decode cX6_sum 72 = .ok (.iconst 3, 1) := by decide +kernel
theorem dX6_sum_73 : decode cX6_sum 73 = .ok (.iload_n 1, 1) := by decide +kernel
theorem dX6_sum_74 : decode cX6_sum 74 = .ok (.imul, 1) := by decide +kernel
theorem dX6_sum_75 : decode cX6_sum 75 = .ok (.iconst 2, 1) := by decide +kernel
theorem dX6_sum_76 : decode cX6_sum 76 = .ok (.iadd, 1) := by decide +kernel
theorem dX6_sum_77 : decode cX6_sum 77 = .ok (.iaload, 1) := by decide +kernel
theorem dX6_sum_78 : decode cX6_sum 78 = .ok (.aload_n 0, 1) := by decide +kernel
theorem dX6_sum_79 : decode cX6_sum 79 = .ok (.getfield 13, 3) := by decide +kernel
theorem dX6_sum_82 : decode cX6_sum 82 = .ok (.iconst 3, 1) := by decide +kernel
theorem dX6_sum_83 : decode cX6_sum 83 = .ok (.iload_n 2, 1) := by decide +kernel
theorem dX6_sum_84 : decode cX6_sum 84 = .ok (.imul, 1) := by decide +kernel
theorem dX6_sum_85 : decode cX6_sum 85 = .ok (.iconst 2, 1) := by decide +kernel
theorem dX6_sum_86 : decode cX6_sum 86 = .ok (.iadd, 1) := by decide +kernel
theorem dX6_sum_87 : decode cX6_sum 87 = .ok (.iaload, 1) := by decide +kernel
theorem dX6_sum_88 : decode cX6_sum 88 = .ok (.if_icmp .ne 7, 3) := by decide +kernel
theorem dX6_sum_91 : decode cX6_sum 91 = .ok (.iconst 1, 1) := by decide +kernel
theorem dX6_sum_92 : decode cX6_sum 92 = .ok (.goto 4, 3) := by decide +kernel
theorem dX6_sum_95 : decode cX6_sum 95 = .ok (.iconst 0, 1) := by decide +kernel
theorem dX6_sum_96 : decode cX6_sum 96 = .ok (.istore 4, 2) := by decide +kernel
theorem dX6_sum_98 : decode cX6_sum 98 = .ok (.aload_n 0, 1) := by decide +kernel
theorem dX6_sum_99 : decode cX6_sum 99 = .ok (.iload_n 3, 1) := by decide +kernel
theorem dX6_sum_100 : decode cX6_sum 100 = .ok (.ifCond .ne 7, 3) := by decide +kernel
theorem dX6_sum_103 : decode cX6_sum 103 = .ok (.iconst 1, 1) := by decide +kernel
theorem dX6_sum_104 : decode cX6_sum 104 = .ok (.goto 26, 3) := by decide +kernel
theorem dX6_sum_107 : decode cX6_sum 107 = .ok (.iload 4, 2) := by decide +kernel
theorem dX6_sum_109 : decode cX6_sum 109 = .ok (.ifCond .ne 7, 3) := by decide +kernel
theorem dX6_sum_112 : decode cX6_sum 112 = .ok (.iconst 2, 1) := by decide +kernel
theorem dX6_sum_113 : decode cX6_sum 113 = .ok (.goto 17, 3) := by decide +kernel
theorem dX6_sum_116 : decode cX6_sum 116 = .ok (.aload_n 0, 1) := by decide +kernel
theorem dX6_sum_117 : decode cX6_sum 117 = .ok (.getfield 54, 3) := by decide +kernel
theorem dX6_sum_120 : decode cX6_sum 120 = .ok (.bipush 16, 2) := by decide +kernel
theorem dX6_sum_122 : decode cX6_sum 122 = .ok (.if_icmp .ne 7, 3) := by decide +kernel
theorem dX6_sum_125 : decode cX6_sum 125 = .ok (.iconst 3, 1) := by decide +kernel
theorem dX6_sum_126 : decode cX6_sum 126 = .ok (.goto 4, 3) := by decide +kernel
theorem dX6_sum_129 : decode cX6_sum 129 = .ok (.iconst 0, 1) := by decide +kernel
theorem dX6_sum_130 : decode cX6_sum 130 = .ok (.invokevirtual 64, 3) := by decide +kernel
theorem dX6_sum_133 : decode cX6_sum 133 = .ok (.ifCond .ne 5, 3) := by decide +kernel
theorem dX6_sum_136 : decode cX6_sum 136 = .ok (.iconst 0, 1) := by decide +kernel
theorem dX6_sum_137 : decode cX6_sum 137 = .ok (.ireturn, 1) := by decide +kernel
theorem dX6_sum_138 : decode cX6_sum 138 = .ok (.aload_n 0, 1) := by decide +kernel
theorem dX6_sum_139 : decode cX6_sum 139 = .ok (.aload_n 0, 1) := by decide +kernel
theorem dX6_sum_140 : decode cX6_sum 140 = .ok (.getfield 13, 3) := by decide +kernel
theorem dX6_sum_143 : decode cX6_sum 143 = .ok (.iconst 3, 1) := by decide +kernel
theorem dX6_sum_144 : decode cX6_sum 144 = .ok (.iload_n 1, 1) := by decide +kernel
theorem dX6_sum_145 : decode cX6_sum 145 = .ok (.imul, 1) := by decide +kernel
theorem dX6_sum_146 : decode cX6_sum 146 = .ok (.iaload, 1) := by decide +kernel
theorem dX6_sum_147 : decode cX6_sum 147 = .ok (.aload_n 0, 1) := by decide +kernel
theorem dX6_sum_148 : decode cX6_sum 148 = .ok (.getfield 13, 3) := by decide +kernel
theorem dX6_sum_151 : decode cX6_sum 151 = .ok (.iconst 3, 1) := by decide +kernel
theorem dX6_sum_152 : decode cX6_sum 152 = .ok (.iload_n 1, 1) := by decide +kernel
theorem dX6_sum_153 : decode cX6_sum 153 = .ok (.imul, 1) := by decide +kernel
theorem dX6_sum_154 : decode cX6_sum 154 = .ok (.iconst 1, 1) := by decide +kernel
theorem dX6_sum_155 : decode cX6_sum 155 = .ok (.iadd, 1) := by decide +kernel
theorem dX6_sum_156 : decode cX6_sum 156 = .ok (.iaload, 1) := by decide +kernel
theorem dX6_sum_157 : decode cX6_sum 157 = .ok (.aload_n 0, 1) := by decide +kernel
theorem dX6_sum_158 : decode cX6_sum 158 = .ok (.getfield 13, 3) := by decide +kernel
theorem dX6_sum_161 : decode cX6_sum 161 = .ok (.iconst 3, 1) := by decide +kernel
theorem dX6_sum_162 : decode cX6_sum 162 = .ok (.iload_n 1, 1) := by decide +kernel
theorem dX6_sum_163 : decode cX6_sum 163 = .ok (.imul, 1) := by decide +kernel
theorem dX6_sum_164 : decode cX6_sum 164 = .ok (.iconst 2, 1) := by decide +kernel
theorem dX6_sum_165 : decode cX6_sum 165 = .ok (.iadd, 1) := by decide +kernel
theorem dX6_sum_166 : decode cX6_sum 166 = .ok (.iaload, 1) := by decide +kernel
theorem dX6_sum_167 : decode cX6_sum 167 = .ok (.invokevirtual 71, 3) := by decide +kernel
theorem dX6_sum_170 : decode cX6_sum 170 = .ok (.istore 5, 2) := by decide +kernel
theorem dX6_sum_172 : decode cX6_sum 172 = .ok (.iconst 0, 1) := by decide +kernel
theorem dX6_sum_173 : decode cX6_sum 173 = .ok (.istore 6, 2) := by decide +kernel
theorem dX6_sum_175 : decode cX6_sum 175 = .ok (.iload 6, 2) := by decide +kernel
theorem dX6_sum_177 : decode cX6_sum 177 = .ok (.bipush 64, 2) := by decide +kernel
theorem dX6_sum_179 : decode cX6_sum 179 = .ok (.if_icmp .ge 52, 3) := by decide +kernel
theorem dX6_sum_182 : decode cX6_sum 182 = .ok (.aload_n 0, 1) := by decide +kernel
theorem dX6_sum_183 : decode cX6_sum 183 = .ok (.getfield 17, 3) := by decide +kernel
theorem dX6_sum_186 : decode cX6_sum 186 = .ok (.bipush 64, 2) := by decide +kernel
theorem dX6_sum_188 : decode cX6_sum 188 = .ok (.iload 5, 2) := by decide +kernel
theorem dX6_sum_190 : decode cX6_sum 190 = .ok (.imul, 1) := by decide +kernel
theorem dX6_sum_191 : decode cX6_sum 191 = .ok (.iload 6, 2) := by decide +kernel
theorem dX6_sum_193 : decode cX6_sum 193 = .ok (.iadd, 1) := by decide +kernel
theorem dX6_sum_194 : decode cX6_sum 194 = .ok (.aload_n 0, 1) := by decide +kernel
theorem dX6_sum_195 : decode cX6_sum 195 = .ok (.getfield 17, 3) := by decide +kernel
theorem dX6_sum_198 : decode cX6_sum 198 = .ok (.bipush 64, 2) := by decide +kernel
theorem dX6_sum_200 : decode cX6_sum 200 = .ok (.iload_n 1, 1) := by decide +kernel
theorem dX6_sum_201 : decode cX6_sum 201 = .ok (.imul, 1) := by decide +kernel
theorem dX6_sum_202 : decode cX6_sum 202 = .ok (.iload 6, 2) := by decide +kernel
theorem dX6_sum_204 : decode cX6_sum 204 = .ok (.iadd, 1) := by decide +kernel
theorem dX6_sum_205 : decode cX6_sum 205 = .ok (.iaload, 1) := by decide +kernel
theorem dX6_sum_206 : decode cX6_sum 206 = .ok (.aload_n 0, 1) := by decide +kernel
theorem dX6_sum_207 : decode cX6_sum 207 = .ok (.getfield 17, 3) := by decide +kernel
theorem dX6_sum_210 : decode cX6_sum 210 = .ok (.bipush 64, 2) := by decide +kernel
theorem dX6_sum_212 : decode cX6_sum 212 = .ok (.iload_n 2, 1) := by decide +kernel
theorem dX6_sum_213 : decode cX6_sum 213 = .ok (.imul, 1) := by decide +kernel
theorem dX6_sum_214 : decode cX6_sum 214 = .ok (.iload 6, 2) := by decide +kernel
theorem dX6_sum_216 : decode cX6_sum 216 = .ok (.iadd, 1) := by decide +kernel
theorem dX6_sum_217 : decode cX6_sum 217 = .ok (.iaload, 1) := by decide +kernel
theorem dX6_sum_218 : decode cX6_sum 218 = .ok (.iadd, 1) := by decide +kernel
theorem dX6_sum_219 : decode cX6_sum 219 = .ok (.aload_n 0, 1) := by decide +kernel
theorem dX6_sum_220 : decode cX6_sum 220 = .ok (.getfield 7, 3) := by decide +kernel
theorem dX6_sum_223 : decode cX6_sum 223 = .ok (.irem, 1) := by decide +kernel
theorem dX6_sum_224 : decode cX6_sum 224 = .ok (.iastore, 1) := by decide +kernel
theorem dX6_sum_225 : decode cX6_sum 225 = .ok (.iinc 6 1, 3) := by decide +kernel
theorem dX6_sum_228 : decode cX6_sum 228 = .ok (.goto (-53), 3) := by decide +kernel
theorem dX6_sum_231 : decode cX6_sum 231 = .ok (.iload 5, 2) := by decide +kernel
theorem dX6_sum_233 : decode cX6_sum 233 = .ok (.ireturn, 1) := by decide +kernel
abbrev rmX6_sum : Room := { frames := 3, cells := 0, slots := 0, locals := 63 }
theorem zyX6_sum : zyOK yX6_sum 2 := ⟨by decide +kernel, by decide +kernel, by decide +kernel⟩
set_option maxHeartbeats 4000000 in
set_option maxRecDepth 100000 in
theorem wX6_sum {G : ZG} (a0 : Nat) (a1 : Int32) (a2 : Int32) (S : ZS) (h0 : zFix G cX6_sum RX6 7 (some .int) rmX6_sum) (C : Option (Int32 × ZS) → Prop) (hC : ¬ C none) (hE : ∀ (v : Int32) (S1 : ZS), C (some (v, S1)) → zEnd G (some (.int v)) S1 rmX6_sum) : zV G 7 S 0 0 0 [(0, .ref a0), (1, .int a1), (2, .int a2)] [] (C (fX6_sum a0 a1 a2 S)) := by
  have J130 : ∀ (l0_130 : Nat) (l1_130 : Int32) (l2_130 : Int32) (s0_130 : Nat) (s1_130 : Int32) (S_130 : ZS), zV G 7 S_130 0 0 130 [(0, .ref l0_130), (1, .int l1_130), (2, .int l2_130)] [.int s1_130, .ref s0_130] (C (fX6_sum_J130 l0_130 l1_130 l2_130 s0_130 s1_130 S_130)) := by
    intro l0_130 l1_130 l2_130 s0_130 s1_130 S_130
    unfold fX6_sum_J130
    refine zr_cMI C hC 0 0 (fun x hx => zk_V h0 zcX6 (zcl_ex hx) (fun l D z0 => kX6_goesWell l D z0 s0_130 s1_130 S_130 x (zcl_of hx)) zw_886 zw_888 zs_34 zw_5 zw_889 rfl zyX6_goesWell (As := [.int s1_130]) (st := []) rfl (by decide) rfl (Nat.le_of_ble_eq_true rfl) (by decide) dX6_sum_130) rfl rfl (n := 133) rfl (fun x40 => ?_)
    refine zr_if_ne C (tgt := 138) h0 dX6_sum_133 (by decide) (n := 136) rfl ?_ ?_
    · refine zv_sub (lv' := []) ?_ (zsub_of [] rfl)
      refine zr_iconst (0 : Int32) h0 (by decide) dX6_sum_136 (n := 137) rfl ?_
      exact zr_iret h0 rfl dX6_sum_137 (hE _ _) (by decide) (by decide)
    · refine zr_aload_n h0 dX6_sum_138 rfl (n := 139) rfl ?_
      refine zr_aload_n h0 dX6_sum_139 rfl (n := 140) rfl ?_
      refine zr_getR C hC h0 zcX6 (k := 3) (by decide) zw_822 dX6_sum_140 (n := 143) rfl (fun v41 => ?_)
      refine zr_iconst (3 : Int32) h0 (by decide) dX6_sum_143 (n := 144) rfl ?_
      refine zr_iload_n h0 dX6_sum_144 rfl (n := 145) rfl ?_
      refine zr_imul h0 dX6_sum_145 (n := 146) rfl ?_
      refine zr_iaload C hC h0 dX6_sum_146 (n := 147) rfl (fun v42 => ?_)
      refine zr_aload_n h0 dX6_sum_147 rfl (n := 148) rfl ?_
      refine zr_getR C hC h0 zcX6 (k := 3) (by decide) zw_822 dX6_sum_148 (n := 151) rfl (fun v43 => ?_)
      refine zr_iconst (3 : Int32) h0 (by decide) dX6_sum_151 (n := 152) rfl ?_
      refine zr_iload_n h0 dX6_sum_152 rfl (n := 153) rfl ?_
      refine zr_imul h0 dX6_sum_153 (n := 154) rfl ?_
      refine zr_iconst (1 : Int32) h0 (by decide) dX6_sum_154 (n := 155) rfl ?_
      refine zr_iadd h0 dX6_sum_155 (n := 156) rfl ?_
      refine zr_iaload C hC h0 dX6_sum_156 (n := 157) rfl (fun v44 => ?_)
      refine zr_aload_n h0 dX6_sum_157 rfl (n := 158) rfl ?_
      refine zr_getR C hC h0 zcX6 (k := 3) (by decide) zw_822 dX6_sum_158 (n := 161) rfl (fun v45 => ?_)
      refine zr_iconst (3 : Int32) h0 (by decide) dX6_sum_161 (n := 162) rfl ?_
      refine zr_iload_n h0 dX6_sum_162 rfl (n := 163) rfl ?_
      refine zr_imul h0 dX6_sum_163 (n := 164) rfl ?_
      refine zr_iconst (2 : Int32) h0 (by decide) dX6_sum_164 (n := 165) rfl ?_
      refine zr_iadd h0 dX6_sum_165 (n := 166) rfl ?_
      refine zr_iaload C hC h0 dX6_sum_166 (n := 167) rfl (fun v46 => ?_)
      refine zr_cMI C hC 0 0 (fun x hx => zk_V h0 zcX6 (zcl_ex hx) (fun l D z0 => kX6_make l D z0 l0_130 v42 v44 v46 x40.2 x (zcl_of hx)) zw_901 zw_903 zs_36 zw_5 zw_904 rfl zyX6_make (As := [.int v42, .int v44, .int v46]) (st := []) rfl (by decide) rfl (Nat.le_of_ble_eq_true rfl) (by decide) dX6_sum_167) rfl rfl (n := 170) rfl (fun x47 => ?_)
      refine zr_istore [(0, .ref l0_130), (1, .int l1_130), (2, .int l2_130), (5, .int x47.1)] h0 dX6_sum_170 (by decide) rfl (n := 172) rfl ?_
      refine zr_iconst (0 : Int32) h0 (by decide) dX6_sum_172 (n := 173) rfl ?_
      refine zr_istore [(0, .ref l0_130), (1, .int l1_130), (2, .int l2_130), (5, .int x47.1), (6, .int (0 : Int32))] h0 dX6_sum_173 (by decide) rfl (n := 175) rfl ?_
      refine zr_loop hC (fX6_sum_B175 l0_130 l1_130 l2_130 x47.1) (fun y => [(0, .ref l0_130), (1, .int l1_130), (2, .int l2_130), (5, .int x47.1), (6, .int y.1)]) (fun y => y.2) zF ((0 : Int32), x47.2) (fun C175 hC175 hX175 hL175 t175 => ?_)
      unfold fX6_sum_B175
      refine zr_iload h0 dX6_sum_175 rfl (n := 177) rfl ?_
      refine zr_bipush (64 : Int32) h0 (by decide) dX6_sum_177 (n := 179) rfl ?_
      refine zr_icmp_ge C175 (tgt := 231) h0 dX6_sum_179 (by decide) (n := 182) rfl ?_ ?_
      · refine zr_ex hX175 ?_
        refine zv_sub (lv' := [(5, .int x47.1)]) ?_ (zsub_of [3] rfl)
        refine zr_iload h0 dX6_sum_231 rfl (n := 233) rfl ?_
        exact zr_iret h0 rfl dX6_sum_233 (hE _ _) (by decide) (by decide)
      · refine zr_aload_n h0 dX6_sum_182 rfl (n := 183) rfl ?_
        refine zr_getR C175 hC175 h0 zcX6 (k := 4) (by decide) zw_823 dX6_sum_183 (n := 186) rfl (fun v48 => ?_)
        refine zr_bipush (64 : Int32) h0 (by decide) dX6_sum_186 (n := 188) rfl ?_
        refine zr_iload h0 dX6_sum_188 rfl (n := 190) rfl ?_
        refine zr_imul h0 dX6_sum_190 (n := 191) rfl ?_
        refine zr_iload h0 dX6_sum_191 rfl (n := 193) rfl ?_
        refine zr_iadd h0 dX6_sum_193 (n := 194) rfl ?_
        refine zr_aload_n h0 dX6_sum_194 rfl (n := 195) rfl ?_
        refine zr_getR C175 hC175 h0 zcX6 (k := 4) (by decide) zw_823 dX6_sum_195 (n := 198) rfl (fun v49 => ?_)
        refine zr_bipush (64 : Int32) h0 (by decide) dX6_sum_198 (n := 200) rfl ?_
        refine zr_iload_n h0 dX6_sum_200 rfl (n := 201) rfl ?_
        refine zr_imul h0 dX6_sum_201 (n := 202) rfl ?_
        refine zr_iload h0 dX6_sum_202 rfl (n := 204) rfl ?_
        refine zr_iadd h0 dX6_sum_204 (n := 205) rfl ?_
        refine zr_iaload C175 hC175 h0 dX6_sum_205 (n := 206) rfl (fun v50 => ?_)
        refine zr_aload_n h0 dX6_sum_206 rfl (n := 207) rfl ?_
        refine zr_getR C175 hC175 h0 zcX6 (k := 4) (by decide) zw_823 dX6_sum_207 (n := 210) rfl (fun v51 => ?_)
        refine zr_bipush (64 : Int32) h0 (by decide) dX6_sum_210 (n := 212) rfl ?_
        refine zr_iload_n h0 dX6_sum_212 rfl (n := 213) rfl ?_
        refine zr_imul h0 dX6_sum_213 (n := 214) rfl ?_
        refine zr_iload h0 dX6_sum_214 rfl (n := 216) rfl ?_
        refine zr_iadd h0 dX6_sum_216 (n := 217) rfl ?_
        refine zr_iaload C175 hC175 h0 dX6_sum_217 (n := 218) rfl (fun v52 => ?_)
        refine zr_iadd h0 dX6_sum_218 (n := 219) rfl ?_
        refine zr_aload_n h0 dX6_sum_219 rfl (n := 220) rfl ?_
        refine zr_getI C175 hC175 h0 zcX6 (k := 1) (by decide) zw_820 dX6_sum_220 (n := 223) rfl (fun v53 => ?_)
        refine zr_irem C175 hC175 h0 dX6_sum_223 (n := 224) rfl (fun v54 => ?_)
        refine zr_iastore C175 hC175 h0 dX6_sum_224 (n := 225) rfl (fun S55 => ?_)
        refine zr_iinc (1 : Int32) [(0, .ref l0_130), (1, .int l1_130), (2, .int l2_130), (5, .int x47.1), (6, .int (t175.1 + (1 : Int32)))] h0 dX6_sum_225 rfl (by decide) rfl rfl (n := 228) rfl ?_
        refine zr_goto (tgt := 175) h0 dX6_sum_228 (by decide) ?_
        exact hL175 (t175.1 + (1 : Int32), S55)
  have J96 : ∀ (l0_96 : Nat) (l1_96 : Int32) (l2_96 : Int32) (l3_96 : Int32) (s0_96 : Int32) (S_96 : ZS), zV G 7 S_96 0 0 96 [(0, .ref l0_96), (1, .int l1_96), (2, .int l2_96), (3, .int l3_96)] [.int s0_96] (C (fX6_sum_J96 l0_96 l1_96 l2_96 l3_96 s0_96 S_96)) := by
    intro l0_96 l1_96 l2_96 l3_96 s0_96 S_96
    unfold fX6_sum_J96
    refine zr_istore [(0, .ref l0_96), (1, .int l1_96), (2, .int l2_96), (3, .int l3_96), (4, .int s0_96)] h0 dX6_sum_96 (by decide) rfl (n := 98) rfl ?_
    refine zr_aload_n h0 dX6_sum_98 rfl (n := 99) rfl ?_
    refine zr_iload_n h0 dX6_sum_99 rfl (n := 100) rfl ?_
    refine zr_if_ne C (tgt := 107) h0 dX6_sum_100 (by decide) (n := 103) rfl ?_ ?_
    · refine zv_sub (lv' := [(0, .ref l0_96), (1, .int l1_96), (2, .int l2_96)]) ?_ (zsub_of [0, 1, 2] rfl)
      refine zr_iconst (1 : Int32) h0 (by decide) dX6_sum_103 (n := 104) rfl ?_
      refine zr_goto (tgt := 130) h0 dX6_sum_104 (by decide) ?_
      exact J130 l0_96 l1_96 l2_96 l0_96 (1 : Int32) S_96
    · refine zv_sub (lv' := [(0, .ref l0_96), (1, .int l1_96), (2, .int l2_96), (4, .int s0_96)]) ?_ (zsub_of [0, 1, 2, 4] rfl)
      refine zr_iload h0 dX6_sum_107 rfl (n := 109) rfl ?_
      refine zr_if_ne C (tgt := 116) h0 dX6_sum_109 (by decide) (n := 112) rfl ?_ ?_
      · refine zv_sub (lv' := [(0, .ref l0_96), (1, .int l1_96), (2, .int l2_96)]) ?_ (zsub_of [0, 1, 2] rfl)
        refine zr_iconst (2 : Int32) h0 (by decide) dX6_sum_112 (n := 113) rfl ?_
        refine zr_goto (tgt := 130) h0 dX6_sum_113 (by decide) ?_
        exact J130 l0_96 l1_96 l2_96 l0_96 (2 : Int32) S_96
      · refine zv_sub (lv' := [(0, .ref l0_96), (1, .int l1_96), (2, .int l2_96)]) ?_ (zsub_of [0, 1, 2] rfl)
        refine zr_aload_n h0 dX6_sum_116 rfl (n := 117) rfl ?_
        refine zr_getI C hC h0 zcX6 (k := 2) (by decide) zw_821 dX6_sum_117 (n := 120) rfl (fun v56 => ?_)
        refine zr_bipush (16 : Int32) h0 (by decide) dX6_sum_120 (n := 122) rfl ?_
        refine zr_icmp_ne C (tgt := 129) h0 dX6_sum_122 (by decide) (n := 125) rfl ?_ ?_
        · refine zr_iconst (3 : Int32) h0 (by decide) dX6_sum_125 (n := 126) rfl ?_
          refine zr_goto (tgt := 130) h0 dX6_sum_126 (by decide) ?_
          exact J130 l0_96 l1_96 l2_96 l0_96 (3 : Int32) S_96
        · refine zr_iconst (0 : Int32) h0 (by decide) dX6_sum_129 (n := 130) rfl ?_
          exact J130 l0_96 l1_96 l2_96 l0_96 (0 : Int32) S_96
  have J95 : ∀ (l0_95 : Nat) (l1_95 : Int32) (l2_95 : Int32) (l3_95 : Int32) (S_95 : ZS), zV G 7 S_95 0 0 95 [(0, .ref l0_95), (1, .int l1_95), (2, .int l2_95), (3, .int l3_95)] [] (C (fX6_sum_J95 l0_95 l1_95 l2_95 l3_95 S_95)) := by
    intro l0_95 l1_95 l2_95 l3_95 S_95
    unfold fX6_sum_J95
    refine zr_iconst (0 : Int32) h0 (by decide) dX6_sum_95 (n := 96) rfl ?_
    exact J96 l0_95 l1_95 l2_95 l3_95 (0 : Int32) S_95
  have J21 : ∀ (l0_21 : Nat) (l1_21 : Int32) (l2_21 : Int32) (s0_21 : Int32) (S_21 : ZS), zV G 7 S_21 0 0 21 [(0, .ref l0_21), (1, .int l1_21), (2, .int l2_21)] [.int s0_21] (C (fX6_sum_J21 l0_21 l1_21 l2_21 s0_21 S_21)) := by
    intro l0_21 l1_21 l2_21 s0_21 S_21
    unfold fX6_sum_J21
    refine zr_istore_n [(0, .ref l0_21), (1, .int l1_21), (2, .int l2_21), (3, .int s0_21)] h0 dX6_sum_21 (by decide) rfl (n := 22) rfl ?_
    refine zr_iload_n h0 dX6_sum_22 rfl (n := 23) rfl ?_
    refine zr_if_eq C (tgt := 95) h0 dX6_sum_23 (by decide) (n := 26) rfl ?_ ?_
    · exact J95 l0_21 l1_21 l2_21 s0_21 S_21
    · refine zr_aload_n h0 dX6_sum_26 rfl (n := 27) rfl ?_
      refine zr_getR C hC h0 zcX6 (k := 3) (by decide) zw_822 dX6_sum_27 (n := 30) rfl (fun v57 => ?_)
      refine zr_iconst (3 : Int32) h0 (by decide) dX6_sum_30 (n := 31) rfl ?_
      refine zr_iload_n h0 dX6_sum_31 rfl (n := 32) rfl ?_
      refine zr_imul h0 dX6_sum_32 (n := 33) rfl ?_
      refine zr_iaload C hC h0 dX6_sum_33 (n := 34) rfl (fun v58 => ?_)
      refine zr_aload_n h0 dX6_sum_34 rfl (n := 35) rfl ?_
      refine zr_getR C hC h0 zcX6 (k := 3) (by decide) zw_822 dX6_sum_35 (n := 38) rfl (fun v59 => ?_)
      refine zr_iconst (3 : Int32) h0 (by decide) dX6_sum_38 (n := 39) rfl ?_
      refine zr_iload_n h0 dX6_sum_39 rfl (n := 40) rfl ?_
      refine zr_imul h0 dX6_sum_40 (n := 41) rfl ?_
      refine zr_iaload C hC h0 dX6_sum_41 (n := 42) rfl (fun v60 => ?_)
      refine zr_icmp_ne C (tgt := 95) h0 dX6_sum_42 (by decide) (n := 45) rfl ?_ ?_
      · refine zr_aload_n h0 dX6_sum_45 rfl (n := 46) rfl ?_
        refine zr_getR C hC h0 zcX6 (k := 3) (by decide) zw_822 dX6_sum_46 (n := 49) rfl (fun v61 => ?_)
        refine zr_iconst (3 : Int32) h0 (by decide) dX6_sum_49 (n := 50) rfl ?_
        refine zr_iload_n h0 dX6_sum_50 rfl (n := 51) rfl ?_
        refine zr_imul h0 dX6_sum_51 (n := 52) rfl ?_
        refine zr_iconst (1 : Int32) h0 (by decide) dX6_sum_52 (n := 53) rfl ?_
        refine zr_iadd h0 dX6_sum_53 (n := 54) rfl ?_
        refine zr_iaload C hC h0 dX6_sum_54 (n := 55) rfl (fun v62 => ?_)
        refine zr_aload_n h0 dX6_sum_55 rfl (n := 56) rfl ?_
        refine zr_getR C hC h0 zcX6 (k := 3) (by decide) zw_822 dX6_sum_56 (n := 59) rfl (fun v63 => ?_)
        refine zr_iconst (3 : Int32) h0 (by decide) dX6_sum_59 (n := 60) rfl ?_
        refine zr_iload_n h0 dX6_sum_60 rfl (n := 61) rfl ?_
        refine zr_imul h0 dX6_sum_61 (n := 62) rfl ?_
        refine zr_iconst (1 : Int32) h0 (by decide) dX6_sum_62 (n := 63) rfl ?_
        refine zr_iadd h0 dX6_sum_63 (n := 64) rfl ?_
        refine zr_iaload C hC h0 dX6_sum_64 (n := 65) rfl (fun v64 => ?_)
        refine zr_icmp_ne C (tgt := 95) h0 dX6_sum_65 (by decide) (n := 68) rfl ?_ ?_
        · refine zr_aload_n h0 dX6_sum_68 rfl (n := 69) rfl ?_
          refine zr_getR C hC h0 zcX6 (k := 3) (by decide) zw_822 dX6_sum_69 (n := 72) rfl (fun v65 => ?_)
          refine zr_iconst (3 : Int32) h0 (by decide) dX6_sum_72 (n := 73) rfl ?_
          refine zr_iload_n h0 dX6_sum_73 rfl (n := 74) rfl ?_
          refine zr_imul h0 dX6_sum_74 (n := 75) rfl ?_
          refine zr_iconst (2 : Int32) h0 (by decide) dX6_sum_75 (n := 76) rfl ?_
          refine zr_iadd h0 dX6_sum_76 (n := 77) rfl ?_
          refine zr_iaload C hC h0 dX6_sum_77 (n := 78) rfl (fun v66 => ?_)
          refine zr_aload_n h0 dX6_sum_78 rfl (n := 79) rfl ?_
          refine zr_getR C hC h0 zcX6 (k := 3) (by decide) zw_822 dX6_sum_79 (n := 82) rfl (fun v67 => ?_)
          refine zr_iconst (3 : Int32) h0 (by decide) dX6_sum_82 (n := 83) rfl ?_
          refine zr_iload_n h0 dX6_sum_83 rfl (n := 84) rfl ?_
          refine zr_imul h0 dX6_sum_84 (n := 85) rfl ?_
          refine zr_iconst (2 : Int32) h0 (by decide) dX6_sum_85 (n := 86) rfl ?_
          refine zr_iadd h0 dX6_sum_86 (n := 87) rfl ?_
          refine zr_iaload C hC h0 dX6_sum_87 (n := 88) rfl (fun v68 => ?_)
          refine zr_icmp_ne C (tgt := 95) h0 dX6_sum_88 (by decide) (n := 91) rfl ?_ ?_
          · refine zr_iconst (1 : Int32) h0 (by decide) dX6_sum_91 (n := 92) rfl ?_
            refine zr_goto (tgt := 96) h0 dX6_sum_92 (by decide) ?_
            exact J96 l0_21 l1_21 l2_21 s0_21 (1 : Int32) S_21
          · exact J95 l0_21 l1_21 l2_21 s0_21 S_21
        · exact J95 l0_21 l1_21 l2_21 s0_21 S_21
      · exact J95 l0_21 l1_21 l2_21 s0_21 S_21
  have J20 : ∀ (l0_20 : Nat) (l1_20 : Int32) (l2_20 : Int32) (S_20 : ZS), zV G 7 S_20 0 0 20 [(0, .ref l0_20), (1, .int l1_20), (2, .int l2_20)] [] (C (fX6_sum_J20 l0_20 l1_20 l2_20 S_20)) := by
    intro l0_20 l1_20 l2_20 S_20
    unfold fX6_sum_J20
    refine zr_iconst (0 : Int32) h0 (by decide) dX6_sum_20 (n := 21) rfl ?_
    exact J21 l0_20 l1_20 l2_20 (0 : Int32) S_20
  unfold fX6_sum
  refine zr_aload_n h0 dX6_sum_0 rfl (n := 1) rfl ?_
  refine zr_iload_n h0 dX6_sum_1 rfl (n := 2) rfl ?_
  refine zr_cRI C hC 0 0 (fun x hx => zk_V h0 zcX6 (zcl_ex hx) (fun l D z0 => kX6_isCube l D z0 a0 a1 S x (zcl_of hx)) zw_928 zw_930 zs_38 zw_5 zw_931 rfl zyX6_isCube (As := [.int a1]) (st := []) rfl (by decide) rfl (Nat.le_of_ble_eq_true rfl) (by decide) dX6_sum_2) rfl rfl (n := 5) rfl (fun x1 => ?_)
  refine zr_if_eq C (tgt := 20) h0 dX6_sum_5 (by decide) (n := 8) rfl ?_ ?_
  · exact J20 a0 a1 a2 S
  · refine zr_aload_n h0 dX6_sum_8 rfl (n := 9) rfl ?_
    refine zr_iload_n h0 dX6_sum_9 rfl (n := 10) rfl ?_
    refine zr_cRI C hC 0 0 (fun x hx => zk_V h0 zcX6 (zcl_ex hx) (fun l D z0 => kX6_isCube l D z0 a0 a2 S x (zcl_of hx)) zw_928 zw_930 zs_38 zw_5 zw_931 rfl zyX6_isCube (As := [.int a2]) (st := []) rfl (by decide) rfl (Nat.le_of_ble_eq_true rfl) (by decide) dX6_sum_10) rfl rfl (n := 13) rfl (fun x39 => ?_)
    refine zr_if_eq C (tgt := 20) h0 dX6_sum_13 (by decide) (n := 16) rfl ?_ ?_
    · exact J20 a0 a1 a2 S
    · refine zr_iconst (1 : Int32) h0 (by decide) dX6_sum_16 (n := 17) rfl ?_
      refine zr_goto (tgt := 21) h0 dX6_sum_17 (by decide) ?_
      exact J21 a0 a1 a2 (1 : Int32) S
theorem kX6_sum (l : Launch) (D : ZD) (z0 : Nat) (a0 : Nat) (a1 : Int32) (a2 : Int32) (S : ZS) (x : Int32 × ZS) (hf : fX6_sum a0 a1 a2 S = some x) : zMet l D z0 yX6_sum cX6_sum 7 (some .int) rmX6_sum [.ref a0, .int a1, .int a2] S (some (.int x.1)) x.2 :=
  zMet_of (by decide) (Nat.le_of_ble_eq_true rfl) (fun G h0 hini hE => wX6_sum a0 a1 a2 S h0 (fun o => o = some x) (fun h => nomatch h) (fun v S1 h => by cases h; exact hE)) hf
theorem dX6_product_0 : decode cX6_product 0 = .ok (.aload_n 0, 1) := by decide +kernel
theorem dX6_product_1 : decode cX6_product 1 = .ok (.iload_n 1, 1) := by decide +kernel
theorem dX6_product_2 : decode cX6_product 2 = .ok (.invokevirtual 78, 3) := by decide +kernel
theorem dX6_product_5 : decode cX6_product 5 = .ok (.ifCond .eq 15, 3) := by decide +kernel
theorem dX6_product_8 : decode cX6_product 8 = .ok (.aload_n 0, 1) := by decide +kernel
theorem dX6_product_9 : decode cX6_product 9 = .ok (.iload_n 2, 1) := by decide +kernel
theorem dX6_product_10 : decode cX6_product 10 = .ok (.invokevirtual 78, 3) := by decide +kernel
theorem dX6_product_13 : decode cX6_product 13 = .ok (.ifCond .eq 7, 3) := by decide +kernel
theorem dX6_product_16 : decode cX6_product 16 = .ok (.iconst 1, 1) := by decide +kernel
theorem dX6_product_17 : decode cX6_product 17 = .ok (.goto 4, 3) := by decide +kernel
theorem dX6_product_20 : decode cX6_product 20 = .ok (.iconst 0, 1) := by decide +kernel
theorem dX6_product_21 : decode cX6_product 21 = .ok (.istore_n 3, 1) := by decide +kernel
theorem dX6_product_22 : decode cX6_product 22 = .ok (.iload_n 3, 1) := by decide +kernel
theorem dX6_product_23 : decode cX6_product 23 = .ok (.istore 4, 2) := by decide +kernel
theorem dX6_product_25 : decode cX6_product 25 = .ok (.iconst 0, 1) := by decide +kernel
theorem dX6_product_26 : decode cX6_product 26 = .ok (.istore 5, 2) := by decide +kernel
theorem dX6_product_28 : decode cX6_product 28 = .ok (.iload 5, 2) := by decide +kernel
theorem dX6_product_30 : decode cX6_product 30 = .ok (.iconst 3, 1) := by decide +kernel
theorem dX6_product_31 : decode cX6_product 31 = .ok (.if_icmp .ge 48, 3) := by decide +kernel
theorem dX6_product_34 : decode cX6_product 34 = .ok (.iload 4, 2) := by decide +kernel
theorem dX6_product_36 : decode cX6_product 36 = .ok (.ifCond .eq 43, 3) := by decide +kernel
theorem dX6_product_39 : decode cX6_product 39 = .ok (.aload_n 0, 1) := by decide +kernel
theorem dX6_product_40 : decode cX6_product 40 = .ok (.getfield 13, 3) := by decide +kernel
theorem dX6_product_43 : decode cX6_product 43 = .ok (.iconst 3, 1) := by decide +kernel
theorem dX6_product_44 : decode cX6_product 44 = .ok (.iload_n 1, 1) := by decide +kernel
theorem dX6_product_45 : decode cX6_product 45 = .ok (.imul, 1) := by decide +kernel
theorem dX6_product_46 : decode cX6_product 46 = .ok (.iload 5, 2) := by decide +kernel
theorem dX6_product_48 : decode cX6_product 48 = .ok (.iadd, 1) := by decide +kernel
theorem dX6_product_49 : decode cX6_product 49 = .ok (.iaload, 1) := by decide +kernel
theorem dX6_product_50 : decode cX6_product 50 = .ok (.aload_n 0, 1) := by decide +kernel
theorem dX6_product_51 : decode cX6_product 51 = .ok (.getfield 13, 3) := by decide +kernel
theorem dX6_product_54 : decode cX6_product 54 = .ok (.iconst 3, 1) := by decide +kernel
theorem dX6_product_55 : decode cX6_product 55 = .ok (.iload_n 2, 1) := by decide +kernel
theorem dX6_product_56 : decode cX6_product 56 = .ok (.imul, 1) := by decide +kernel
theorem dX6_product_57 : decode cX6_product 57 = .ok (.iload 5, 2) := by decide +kernel
theorem dX6_product_59 : decode cX6_product 59 = .ok (.iadd, 1) := by decide +kernel
theorem dX6_product_60 : decode cX6_product 60 = .ok (.iaload, 1) := by decide +kernel
theorem dX6_product_61 : decode cX6_product 61 = .ok (.imul, 1) := by decide +kernel
theorem dX6_product_62 : decode cX6_product 62 = .ok (.iconst 4, 1) := by decide +kernel
theorem dX6_product_63 : decode cX6_product 63 = .ok (.if_icmp .gt 7, 3) := by decide +kernel
theorem dX6_product_66 : decode cX6_product 66 = .ok (.iconst 1, 1) := by decide +kernel
theorem dX6_product_67 : decode cX6_product 67 = .ok (.goto 4, 3) := by decide +kernel
theorem dX6_product_70 : decode cX6_product 70 = .ok (.iconst 0, 1) := by decide +kernel
theorem dX6_product_71 : decode cX6_product 71 = .ok (.istore 4, 2) := by decide +kernel
theorem dX6_product_73 : decode cX6_product 73 = .ok (.iinc 5 1, 3) := by decide +kernel
theorem dX6_product_76 : decode cX6_product 76 = .ok (.goto (-48), 3) := by decide +kernel
theorem dX6_product_79 : decode cX6_product 79 = .ok (.aload_n 0, 1) := by decide +kernel
theorem dX6_product_80 : decode cX6_product 80 = .ok (.iload_n 3, 1) := by decide +kernel
theorem dX6_product_81 : decode cX6_product 81 = .ok (.ifCond .ne 7, 3) := by decide +kernel
theorem dX6_product_84 : decode cX6_product 84 = .ok (.iconst 1, 1) := by decide +kernel
theorem dX6_product_85 : decode cX6_product 85 = .ok (.goto 26, 3) := by decide +kernel
theorem dX6_product_88 : decode cX6_product 88 = .ok (.iload 4, 2) := by decide +kernel
theorem dX6_product_90 : decode cX6_product 90 = .ok (.ifCond .ne 7, 3) := by decide +kernel
theorem dX6_product_93 : decode cX6_product 93 = .ok (.iconst 2, 1) := by decide +kernel
theorem dX6_product_94 : decode cX6_product 94 = .ok (.goto 17, 3) := by decide +kernel
theorem dX6_product_97 : decode cX6_product 97 = .ok (.aload_n 0, 1) := by decide +kernel
theorem dX6_product_98 : decode cX6_product 98 = .ok (.getfield 54, 3) := by decide +kernel
theorem dX6_product_101 : decode cX6_product 101 = .ok (.bipush 16, 2) := by decide +kernel
theorem dX6_product_103 : decode cX6_product 103 = .ok (.if_icmp .ne 7, 3) := by decide +kernel
theorem dX6_product_106 : decode cX6_product 106 = .ok (.iconst 3, 1) := by decide +kernel
theorem dX6_product_107 : decode cX6_product 107 = .ok (.goto 4, 3) := by decide +kernel
theorem dX6_product_110 : decode cX6_product 110 = .ok (.iconst 0, 1) := by decide +kernel
theorem dX6_product_111 : decode cX6_product 111 = .ok (.invokevirtual 64, 3) := by decide +kernel
theorem dX6_product_114 : decode cX6_product 114 = .ok (.ifCond .ne 5, 3) := by decide +kernel
theorem dX6_product_117 : decode cX6_product 117 = .ok (.iconst 0, 1) := by decide +kernel
theorem dX6_product_118 : decode cX6_product 118 = .ok (.ireturn, 1) := by decide +kernel
theorem dX6_product_119 : decode cX6_product 119 = .ok (.aload_n 0, 1) := by decide +kernel
theorem dX6_product_120 : decode cX6_product 120 = .ok (.getfield 13, 3) := by decide +kernel
theorem dX6_product_123 : decode cX6_product 123 = .ok (.iconst 3, 1) := by decide +kernel
theorem dX6_product_124 : decode cX6_product 124 = .ok (.iload_n 2, 1) := by decide +kernel
theorem dX6_product_125 : decode cX6_product 125 = .ok (.imul, 1) := by decide +kernel
theorem dX6_product_126 : decode cX6_product 126 = .ok (.iaload, 1) := by decide +kernel
theorem dX6_product_127 : decode cX6_product 127 = .ok (.istore 5, 2) := by decide +kernel
theorem dX6_product_129 : decode cX6_product 129 = .ok (.aload_n 0, 1) := by decide +kernel
theorem dX6_product_130 : decode cX6_product 130 = .ok (.getfield 13, 3) := by decide +kernel
theorem dX6_product_133 : decode cX6_product 133 = .ok (.iconst 3, 1) := by decide +kernel
theorem dX6_product_134 : decode cX6_product 134 = .ok (.iload_n 2, 1) := by decide +kernel
theorem dX6_product_135 : decode cX6_product 135 = .ok (.imul, 1) := by decide +kernel
theorem dX6_product_136 : decode cX6_product 136 = .ok (.iconst 1, 1) := by decide +kernel
theorem dX6_product_137 : decode cX6_product 137 = .ok (.iadd, 1) := by decide +kernel
theorem dX6_product_138 : decode cX6_product 138 = .ok (.iaload, 1) := by decide +kernel
theorem dX6_product_139 : decode cX6_product 139 = .ok (.istore 6, 2) := by decide +kernel
theorem dX6_product_141 : decode cX6_product 141 = .ok (.aload_n 0, 1) := by decide +kernel
theorem dX6_product_142 : decode cX6_product 142 = .ok (.getfield 13, 3) := by decide +kernel
theorem dX6_product_145 : decode cX6_product 145 = .ok (.iconst 3, 1) := by decide +kernel
theorem dX6_product_146 : decode cX6_product 146 = .ok (.iload_n 2, 1) := by decide +kernel
theorem dX6_product_147 : decode cX6_product 147 = .ok (.imul, 1) := by decide +kernel
theorem dX6_product_148 : decode cX6_product 148 = .ok (.iconst 2, 1) := by decide +kernel
theorem dX6_product_149 : decode cX6_product 149 = .ok (.iadd, 1) := by decide +kernel
theorem dX6_product_150 : decode cX6_product 150 = .ok (.iaload, 1) := by decide +kernel
theorem dX6_product_151 : decode cX6_product 151 = .ok (.istore 7, 2) := by decide +kernel
theorem dX6_product_153 : decode cX6_product 153 = .ok (.aload_n 0, 1) := by decide +kernel
theorem dX6_product_154 : decode cX6_product 154 = .ok (.aload_n 0, 1) := by decide +kernel
theorem dX6_product_155 : decode cX6_product 155 = .ok (.getfield 13, 3) := by decide +kernel
theorem dX6_product_158 : decode cX6_product 158 = .ok (.iconst 3, 1) := by decide +kernel
theorem dX6_product_159 : decode cX6_product 159 = .ok (.iload_n 1, 1) := by decide +kernel
theorem dX6_product_160 : decode cX6_product 160 = .ok (.imul, 1) := by decide +kernel
theorem dX6_product_161 : decode cX6_product 161 = .ok (.iaload, 1) := by decide +kernel
theorem dX6_product_162 : decode cX6_product 162 = .ok (.iload 5, 2) := by decide +kernel
theorem dX6_product_164 : decode cX6_product 164 = .ok (.imul, 1) := by decide +kernel
theorem dX6_product_165 : decode cX6_product 165 = .ok (.aload_n 0, 1) := by decide +kernel
theorem dX6_product_166 : decode cX6_product 166 = .ok (.getfield 13, 3) := by decide +kernel
theorem dX6_product_169 : decode cX6_product 169 = .ok (.iconst 3, 1) := by decide +kernel
theorem dX6_product_170 : decode cX6_product 170 = .ok (.iload_n 1, 1) := by decide +kernel
theorem dX6_product_171 : decode cX6_product 171 = .ok (.imul, 1) := by decide +kernel
theorem dX6_product_172 : decode cX6_product 172 = .ok (.iconst 1, 1) := by decide +kernel
theorem dX6_product_173 : decode cX6_product 173 = .ok (.iadd, 1) := by decide +kernel
theorem dX6_product_174 : decode cX6_product 174 = .ok (.iaload, 1) := by decide +kernel
theorem dX6_product_175 : decode cX6_product 175 = .ok (.iload 6, 2) := by decide +kernel
theorem dX6_product_177 : decode cX6_product 177 = .ok (.imul, 1) := by decide +kernel
theorem dX6_product_178 : decode cX6_product 178 = .ok (.aload_n 0, 1) := by decide +kernel
theorem dX6_product_179 : decode cX6_product 179 = .ok (.getfield 13, 3) := by decide +kernel
theorem dX6_product_182 : decode cX6_product 182 = .ok (.iconst 3, 1) := by decide +kernel
theorem dX6_product_183 : decode cX6_product 183 = .ok (.iload_n 1, 1) := by decide +kernel
theorem dX6_product_184 : decode cX6_product 184 = .ok (.imul, 1) := by decide +kernel
theorem dX6_product_185 : decode cX6_product 185 = .ok (.iconst 2, 1) := by decide +kernel
theorem dX6_product_186 : decode cX6_product 186 = .ok (.iadd, 1) := by decide +kernel
theorem dX6_product_187 : decode cX6_product 187 = .ok (.iaload, 1) := by decide +kernel
theorem dX6_product_188 : decode cX6_product 188 = .ok (.iload 7, 2) := by decide +kernel
theorem dX6_product_190 : decode cX6_product 190 = .ok (.imul, 1) := by decide +kernel
theorem dX6_product_191 : decode cX6_product 191 = .ok (.invokevirtual 71, 3) := by decide +kernel
theorem dX6_product_194 : decode cX6_product 194 = .ok (.istore 8, 2) := by decide +kernel
theorem dX6_product_196 : decode cX6_product 196 = .ok (.iconst 0, 1) := by decide +kernel
theorem dX6_product_197 : decode cX6_product 197 = .ok (.istore 9, 2) := by decide +kernel
theorem dX6_product_199 : decode cX6_product 199 = .ok (.iload 9, 2) := by decide +kernel
theorem dX6_product_201 : decode cX6_product 201 = .ok (.aload_n 0, 1) := by decide +kernel
theorem dX6_product_202 : decode cX6_product 202 = .ok (.getfield 13, 3) := by decide +kernel
theorem dX6_product_205 : decode cX6_product 205 = .ok (.iconst 3, 1) := by decide +kernel
theorem dX6_product_206 : decode cX6_product 206 = .ok (.iload 8, 2) := by decide +kernel
theorem dX6_product_208 : decode cX6_product 208 = .ok (.imul, 1) := by decide +kernel
theorem dX6_product_209 : decode cX6_product 209 = .ok (.iaload, 1) := by decide +kernel
theorem dX6_product_210 : decode cX6_product 210 = .ok (.if_icmp .ge 149, 3) := by decide +kernel
theorem dX6_product_213 : decode cX6_product 213 = .ok (.iconst 0, 1) := by decide +kernel
theorem dX6_product_214 : decode cX6_product 214 = .ok (.istore 10, 2) := by decide +kernel
theorem dX6_product_216 : decode cX6_product 216 = .ok (.iload 10, 2) := by decide +kernel
theorem dX6_product_218 : decode cX6_product 218 = .ok (.aload_n 0, 1) := by decide +kernel
theorem dX6_product_219 : decode cX6_product 219 = .ok (.getfield 13, 3) := by decide +kernel
theorem dX6_product_222 : decode cX6_product 222 = .ok (.iconst 3, 1) := by decide +kernel
theorem dX6_product_223 : decode cX6_product 223 = .ok (.iload 8, 2) := by decide +kernel
theorem dX6_product_225 : decode cX6_product 225 = .ok (.imul, 1) := by decide +kernel
theorem dX6_product_226 : decode cX6_product 226 = .ok (.iconst 1, 1) := by decide +kernel
theorem dX6_product_227 : decode cX6_product 227 = .ok (.iadd, 1) := by decide +kernel
theorem dX6_product_228 : decode cX6_product 228 = .ok (.iaload, 1) := by decide +kernel
theorem dX6_product_229 : decode cX6_product 229 = .ok (.if_icmp .ge 124, 3) := by decide +kernel
theorem dX6_product_232 : decode cX6_product 232 = .ok (.iconst 0, 1) := by decide +kernel
theorem dX6_product_233 : decode cX6_product 233 = .ok (.istore 11, 2) := by decide +kernel
theorem dX6_product_235 : decode cX6_product 235 = .ok (.iload 11, 2) := by decide +kernel
theorem dX6_product_237 : decode cX6_product 237 = .ok (.aload_n 0, 1) := by decide +kernel
theorem dX6_product_238 : decode cX6_product 238 = .ok (.getfield 13, 3) := by decide +kernel
theorem dX6_product_241 : decode cX6_product 241 = .ok (.iconst 3, 1) := by decide +kernel
theorem dX6_product_242 : decode cX6_product 242 = .ok (.iload 8, 2) := by decide +kernel
theorem dX6_product_244 : decode cX6_product 244 = .ok (.imul, 1) := by decide +kernel
theorem dX6_product_245 : decode cX6_product 245 = .ok (.iconst 2, 1) := by decide +kernel
theorem dX6_product_246 : decode cX6_product 246 = .ok (.iadd, 1) := by decide +kernel
theorem dX6_product_247 : decode cX6_product 247 = .ok (.iaload, 1) := by decide +kernel
theorem dX6_product_248 : decode cX6_product 248 = .ok (.if_icmp .ge 99, 3) := by decide +kernel
theorem dX6_product_251 : decode cX6_product 251 = .ok (.aload_n 0, 1) := by decide +kernel
theorem dX6_product_252 : decode cX6_product 252 = .ok (.getfield 17, 3) := by decide +kernel
theorem dX6_product_255 : decode cX6_product 255 = .ok (.bipush 64, 2) := by decide +kernel
theorem dX6_product_257 : decode cX6_product 257 = .ok (.iload_n 1, 1) := by decide +kernel
theorem dX6_product_258 : decode cX6_product 258 = .ok (.imul, 1) := by decide +kernel
theorem dX6_product_259 : decode cX6_product 259 = .ok (.iload 9, 2) := by decide +kernel
theorem dX6_product_261 : decode cX6_product 261 = .ok (.iload 5, 2) := by decide +kernel
theorem dX6_product_263 : decode cX6_product 263 = .ok (.idiv, 1) := by decide +kernel
theorem dX6_product_264 : decode cX6_product 264 = .ok (.iload 10, 2) := by decide +kernel
theorem dX6_product_266 : decode cX6_product 266 = .ok (.iload 6, 2) := by decide +kernel
theorem dX6_product_268 : decode cX6_product 268 = .ok (.idiv, 1) := by decide +kernel
theorem dX6_product_269 : decode cX6_product 269 = .ok (.iload 11, 2) := by decide +kernel
theorem dX6_product_271 : decode cX6_product 271 = .ok (.iload 7, 2) := by decide +kernel
theorem dX6_product_273 : decode cX6_product 273 = .ok (.idiv, 1) := by decide +kernel
theorem dX6_product_274 : decode cX6_product 274 = .ok (.invokestatic 75, 3) := by decide +kernel
theorem dX6_product_277 : decode cX6_product 277 = .ok (.iadd, 1) := by decide +kernel
theorem dX6_product_278 : decode cX6_product 278 = .ok (.iaload, 1) := by decide +kernel
theorem dX6_product_279 : decode cX6_product 279 = .ok (.istore 12, 2) := by decide +kernel
theorem dX6_product_281 : decode cX6_product 281 = .ok (.aload_n 0, 1) := by decide +kernel
theorem dX6_product_282 : decode cX6_product 282 = .ok (.getfield 17, 3) := by decide +kernel
theorem dX6_product_285 : decode cX6_product 285 = .ok (.bipush 64, 2) := by decide +kernel
theorem dX6_product_287 : decode cX6_product 287 = .ok (.iload_n 2, 1) := by decide +kernel
theorem dX6_product_288 : decode cX6_product 288 = .ok (.imul, 1) := by decide +kernel
theorem dX6_product_289 : decode cX6_product 289 = .ok (.iload 9, 2) := by decide +kernel
theorem dX6_product_291 : decode cX6_product 291 = .ok (.iload 5, 2) := by decide +kernel
theorem dX6_product_293 : decode cX6_product 293 = .ok (.irem, 1) := by decide +kernel
theorem dX6_product_294 : decode cX6_product 294 = .ok (.iload 10, 2) := by decide +kernel
theorem dX6_product_296 : decode cX6_product 296 = .ok (.iload 6, 2) := by decide +kernel
theorem dX6_product_298 : decode cX6_product 298 = .ok (.irem, 1) := by decide +kernel
theorem dX6_product_299 : decode cX6_product 299 = .ok (.iload 11, 2) := by decide +kernel
theorem dX6_product_301 : decode cX6_product 301 = .ok (.iload 7, 2) := by decide +kernel
theorem dX6_product_303 : decode cX6_product 303 = .ok (.irem, 1) := by decide +kernel
theorem dX6_product_304 : decode cX6_product 304 = .ok (.invokestatic 75, 3) := by decide +kernel
theorem dX6_product_307 : decode cX6_product 307 = .ok (.iadd, 1) := by decide +kernel
theorem dX6_product_308 : decode cX6_product 308 = .ok (.iaload, 1) := by decide +kernel
theorem dX6_product_309 : decode cX6_product 309 = .ok (.istore 13, 2) := by decide +kernel
theorem dX6_product_311 : decode cX6_product 311 = .ok (.aload_n 0, 1) := by decide +kernel
theorem dX6_product_312 : decode cX6_product 312 = .ok (.getfield 17, 3) := by decide +kernel
theorem dX6_product_315 : decode cX6_product 315 = .ok (.bipush 64, 2) := by decide +kernel
theorem dX6_product_317 : decode cX6_product 317 = .ok (.iload 8, 2) := by decide +kernel
theorem dX6_product_319 : decode cX6_product 319 = .ok (.imul, 1) := by decide +kernel
theorem dX6_product_320 : decode cX6_product 320 = .ok (.iload 9, 2) := by decide +kernel
theorem dX6_product_322 : decode cX6_product 322 = .ok (.iload 10, 2) := by decide +kernel
theorem dX6_product_324 : decode cX6_product 324 = .ok (.iload 11, 2) := by decide +kernel
theorem dX6_product_326 : decode cX6_product 326 = .ok (.invokestatic 75, 3) := by decide +kernel
theorem dX6_product_329 : decode cX6_product 329 = .ok (.iadd, 1) := by decide +kernel
theorem dX6_product_330 : decode cX6_product 330 = .ok (.iload 12, 2) := by decide +kernel
theorem dX6_product_332 : decode cX6_product 332 = .ok (.iload 13, 2) := by decide +kernel
theorem dX6_product_334 : decode cX6_product 334 = .ok (.imul, 1) := by decide +kernel
theorem dX6_product_335 : decode cX6_product 335 = .ok (.aload_n 0, 1) := by decide +kernel
theorem dX6_product_336 : decode cX6_product 336 = .ok (.getfield 7, 3) := by decide +kernel
theorem dX6_product_339 : decode cX6_product 339 = .ok (.irem, 1) := by decide +kernel
theorem dX6_product_340 : decode cX6_product 340 = .ok (.iastore, 1) := by decide +kernel
theorem dX6_product_341 : decode cX6_product 341 = .ok (.iinc 11 1, 3) := by decide +kernel
theorem dX6_product_344 : decode cX6_product 344 = .ok (.goto (-109), 3) := by decide +kernel
theorem dX6_product_347 : decode cX6_product 347 = .ok (.iinc 10 1, 3) := by decide +kernel
theorem dX6_product_350 : decode cX6_product 350 = .ok (.goto (-134), 3) := by decide +kernel
theorem dX6_product_353 : decode cX6_product 353 = .ok (.iinc 9 1, 3) := by decide +kernel
theorem dX6_product_356 : decode cX6_product 356 = .ok (.goto (-157), 3) := by decide +kernel
theorem dX6_product_359 : decode cX6_product 359 = .ok (.iload 8, 2) := by decide +kernel
theorem dX6_product_361 : decode cX6_product 361 = .ok (.ireturn, 1) := by decide +kernel
abbrev rmX6_product : Room := { frames := 3, cells := 0, slots := 0, locals := 63 }
theorem zyX6_product : zyOK yX6_product 2 := ⟨by decide +kernel, by decide +kernel, by decide +kernel⟩
set_option maxHeartbeats 4000000 in
set_option maxRecDepth 100000 in
theorem wX6_product {G : ZG} (a0 : Nat) (a1 : Int32) (a2 : Int32) (S : ZS) (h0 : zFix G cX6_product RX6 14 (some .int) rmX6_product) (C : Option (Int32 × ZS) → Prop) (hC : ¬ C none) (hE : ∀ (v : Int32) (S1 : ZS), C (some (v, S1)) → zEnd G (some (.int v)) S1 rmX6_product) : zV G 14 S 0 0 0 [(0, .ref a0), (1, .int a1), (2, .int a2)] [] (C (fX6_product a0 a1 a2 S)) := by
  have J111 : ∀ (l0_111 : Nat) (l1_111 : Int32) (l2_111 : Int32) (s0_111 : Nat) (s1_111 : Int32) (S_111 : ZS), zV G 14 S_111 0 0 111 [(0, .ref l0_111), (1, .int l1_111), (2, .int l2_111)] [.int s1_111, .ref s0_111] (C (fX6_product_J111 l0_111 l1_111 l2_111 s0_111 s1_111 S_111)) := by
    intro l0_111 l1_111 l2_111 s0_111 s1_111 S_111
    unfold fX6_product_J111
    refine zr_cMI C hC 0 0 (fun x hx => zk_V h0 zcX6 (zcl_ex hx) (fun l D z0 => kX6_goesWell l D z0 s0_111 s1_111 S_111 x (zcl_of hx)) zw_886 zw_888 zs_34 zw_5 zw_889 rfl zyX6_goesWell (As := [.int s1_111]) (st := []) rfl (by decide) rfl (Nat.le_of_ble_eq_true rfl) (by decide) dX6_product_111) rfl rfl (n := 114) rfl (fun x112 => ?_)
    refine zr_if_ne C (tgt := 119) h0 dX6_product_114 (by decide) (n := 117) rfl ?_ ?_
    · refine zv_sub (lv' := []) ?_ (zsub_of [] rfl)
      refine zr_iconst (0 : Int32) h0 (by decide) dX6_product_117 (n := 118) rfl ?_
      exact zr_iret h0 rfl dX6_product_118 (hE _ _) (by decide) (by decide)
    · refine zr_aload_n h0 dX6_product_119 rfl (n := 120) rfl ?_
      refine zr_getR C hC h0 zcX6 (k := 3) (by decide) zw_822 dX6_product_120 (n := 123) rfl (fun v113 => ?_)
      refine zr_iconst (3 : Int32) h0 (by decide) dX6_product_123 (n := 124) rfl ?_
      refine zr_iload_n h0 dX6_product_124 rfl (n := 125) rfl ?_
      refine zr_imul h0 dX6_product_125 (n := 126) rfl ?_
      refine zr_iaload C hC h0 dX6_product_126 (n := 127) rfl (fun v114 => ?_)
      refine zr_istore [(0, .ref l0_111), (1, .int l1_111), (2, .int l2_111), (5, .int v114)] h0 dX6_product_127 (by decide) rfl (n := 129) rfl ?_
      refine zr_aload_n h0 dX6_product_129 rfl (n := 130) rfl ?_
      refine zr_getR C hC h0 zcX6 (k := 3) (by decide) zw_822 dX6_product_130 (n := 133) rfl (fun v115 => ?_)
      refine zr_iconst (3 : Int32) h0 (by decide) dX6_product_133 (n := 134) rfl ?_
      refine zr_iload_n h0 dX6_product_134 rfl (n := 135) rfl ?_
      refine zr_imul h0 dX6_product_135 (n := 136) rfl ?_
      refine zr_iconst (1 : Int32) h0 (by decide) dX6_product_136 (n := 137) rfl ?_
      refine zr_iadd h0 dX6_product_137 (n := 138) rfl ?_
      refine zr_iaload C hC h0 dX6_product_138 (n := 139) rfl (fun v116 => ?_)
      refine zr_istore [(0, .ref l0_111), (1, .int l1_111), (2, .int l2_111), (5, .int v114), (6, .int v116)] h0 dX6_product_139 (by decide) rfl (n := 141) rfl ?_
      refine zr_aload_n h0 dX6_product_141 rfl (n := 142) rfl ?_
      refine zr_getR C hC h0 zcX6 (k := 3) (by decide) zw_822 dX6_product_142 (n := 145) rfl (fun v117 => ?_)
      refine zr_iconst (3 : Int32) h0 (by decide) dX6_product_145 (n := 146) rfl ?_
      refine zr_iload_n h0 dX6_product_146 rfl (n := 147) rfl ?_
      refine zr_imul h0 dX6_product_147 (n := 148) rfl ?_
      refine zr_iconst (2 : Int32) h0 (by decide) dX6_product_148 (n := 149) rfl ?_
      refine zr_iadd h0 dX6_product_149 (n := 150) rfl ?_
      refine zr_iaload C hC h0 dX6_product_150 (n := 151) rfl (fun v118 => ?_)
      refine zr_istore [(0, .ref l0_111), (1, .int l1_111), (2, .int l2_111), (5, .int v114), (6, .int v116), (7, .int v118)] h0 dX6_product_151 (by decide) rfl (n := 153) rfl ?_
      refine zr_aload_n h0 dX6_product_153 rfl (n := 154) rfl ?_
      refine zr_aload_n h0 dX6_product_154 rfl (n := 155) rfl ?_
      refine zr_getR C hC h0 zcX6 (k := 3) (by decide) zw_822 dX6_product_155 (n := 158) rfl (fun v119 => ?_)
      refine zr_iconst (3 : Int32) h0 (by decide) dX6_product_158 (n := 159) rfl ?_
      refine zr_iload_n h0 dX6_product_159 rfl (n := 160) rfl ?_
      refine zr_imul h0 dX6_product_160 (n := 161) rfl ?_
      refine zr_iaload C hC h0 dX6_product_161 (n := 162) rfl (fun v120 => ?_)
      refine zr_iload h0 dX6_product_162 rfl (n := 164) rfl ?_
      refine zr_imul h0 dX6_product_164 (n := 165) rfl ?_
      refine zr_aload_n h0 dX6_product_165 rfl (n := 166) rfl ?_
      refine zr_getR C hC h0 zcX6 (k := 3) (by decide) zw_822 dX6_product_166 (n := 169) rfl (fun v121 => ?_)
      refine zr_iconst (3 : Int32) h0 (by decide) dX6_product_169 (n := 170) rfl ?_
      refine zr_iload_n h0 dX6_product_170 rfl (n := 171) rfl ?_
      refine zr_imul h0 dX6_product_171 (n := 172) rfl ?_
      refine zr_iconst (1 : Int32) h0 (by decide) dX6_product_172 (n := 173) rfl ?_
      refine zr_iadd h0 dX6_product_173 (n := 174) rfl ?_
      refine zr_iaload C hC h0 dX6_product_174 (n := 175) rfl (fun v122 => ?_)
      refine zr_iload h0 dX6_product_175 rfl (n := 177) rfl ?_
      refine zr_imul h0 dX6_product_177 (n := 178) rfl ?_
      refine zr_aload_n h0 dX6_product_178 rfl (n := 179) rfl ?_
      refine zr_getR C hC h0 zcX6 (k := 3) (by decide) zw_822 dX6_product_179 (n := 182) rfl (fun v123 => ?_)
      refine zr_iconst (3 : Int32) h0 (by decide) dX6_product_182 (n := 183) rfl ?_
      refine zr_iload_n h0 dX6_product_183 rfl (n := 184) rfl ?_
      refine zr_imul h0 dX6_product_184 (n := 185) rfl ?_
      refine zr_iconst (2 : Int32) h0 (by decide) dX6_product_185 (n := 186) rfl ?_
      refine zr_iadd h0 dX6_product_186 (n := 187) rfl ?_
      refine zr_iaload C hC h0 dX6_product_187 (n := 188) rfl (fun v124 => ?_)
      refine zr_iload h0 dX6_product_188 rfl (n := 190) rfl ?_
      refine zr_imul h0 dX6_product_190 (n := 191) rfl ?_
      refine zr_cMI C hC 0 0 (fun x hx => zk_V h0 zcX6 (zcl_ex hx) (fun l D z0 => kX6_make l D z0 l0_111 (v120 * v114) (v122 * v116) (v124 * v118) x112.2 x (zcl_of hx)) zw_901 zw_903 zs_36 zw_5 zw_904 rfl zyX6_make (As := [.int (v120 * v114), .int (v122 * v116), .int (v124 * v118)]) (st := []) rfl (by decide) rfl (Nat.le_of_ble_eq_true rfl) (by decide) dX6_product_191) rfl rfl (n := 194) rfl (fun x125 => ?_)
      refine zr_istore [(0, .ref l0_111), (1, .int l1_111), (2, .int l2_111), (5, .int v114), (6, .int v116), (7, .int v118), (8, .int x125.1)] h0 dX6_product_194 (by decide) rfl (n := 196) rfl ?_
      refine zr_iconst (0 : Int32) h0 (by decide) dX6_product_196 (n := 197) rfl ?_
      refine zr_istore [(0, .ref l0_111), (1, .int l1_111), (2, .int l2_111), (5, .int v114), (6, .int v116), (7, .int v118), (8, .int x125.1), (9, .int (0 : Int32))] h0 dX6_product_197 (by decide) rfl (n := 199) rfl ?_
      refine zr_loop hC (fX6_product_B199 l0_111 l1_111 l2_111 v114 v116 v118 x125.1) (fun y => [(0, .ref l0_111), (1, .int l1_111), (2, .int l2_111), (5, .int v114), (6, .int v116), (7, .int v118), (8, .int x125.1), (9, .int y.1)]) (fun y => y.2) zF ((0 : Int32), x125.2) (fun C199 hC199 hX199 hL199 t199 => ?_)
      unfold fX6_product_B199
      refine zr_iload h0 dX6_product_199 rfl (n := 201) rfl ?_
      refine zr_aload_n h0 dX6_product_201 rfl (n := 202) rfl ?_
      refine zr_getR C199 hC199 h0 zcX6 (k := 3) (by decide) zw_822 dX6_product_202 (n := 205) rfl (fun v126 => ?_)
      refine zr_iconst (3 : Int32) h0 (by decide) dX6_product_205 (n := 206) rfl ?_
      refine zr_iload h0 dX6_product_206 rfl (n := 208) rfl ?_
      refine zr_imul h0 dX6_product_208 (n := 209) rfl ?_
      refine zr_iaload C199 hC199 h0 dX6_product_209 (n := 210) rfl (fun v127 => ?_)
      refine zr_icmp_ge C199 (tgt := 359) h0 dX6_product_210 (by decide) (n := 213) rfl ?_ ?_
      · refine zr_ex hX199 ?_
        refine zv_sub (lv' := [(8, .int x125.1)]) ?_ (zsub_of [6] rfl)
        refine zr_iload h0 dX6_product_359 rfl (n := 361) rfl ?_
        exact zr_iret h0 rfl dX6_product_361 (hE _ _) (by decide) (by decide)
      · refine zr_iconst (0 : Int32) h0 (by decide) dX6_product_213 (n := 214) rfl ?_
        refine zr_istore [(0, .ref l0_111), (1, .int l1_111), (2, .int l2_111), (5, .int v114), (6, .int v116), (7, .int v118), (8, .int x125.1), (9, .int t199.1), (10, .int (0 : Int32))] h0 dX6_product_214 (by decide) rfl (n := 216) rfl ?_
        refine zr_loop hC199 (fX6_product_B216 l0_111 l1_111 l2_111 v114 v116 v118 x125.1 t199.1) (fun y => [(0, .ref l0_111), (1, .int l1_111), (2, .int l2_111), (5, .int v114), (6, .int v116), (7, .int v118), (8, .int x125.1), (9, .int t199.1), (10, .int y.1)]) (fun y => y.2) zF ((0 : Int32), t199.2) (fun C216 hC216 hX216 hL216 t216 => ?_)
        unfold fX6_product_B216
        refine zr_iload h0 dX6_product_216 rfl (n := 218) rfl ?_
        refine zr_aload_n h0 dX6_product_218 rfl (n := 219) rfl ?_
        refine zr_getR C216 hC216 h0 zcX6 (k := 3) (by decide) zw_822 dX6_product_219 (n := 222) rfl (fun v128 => ?_)
        refine zr_iconst (3 : Int32) h0 (by decide) dX6_product_222 (n := 223) rfl ?_
        refine zr_iload h0 dX6_product_223 rfl (n := 225) rfl ?_
        refine zr_imul h0 dX6_product_225 (n := 226) rfl ?_
        refine zr_iconst (1 : Int32) h0 (by decide) dX6_product_226 (n := 227) rfl ?_
        refine zr_iadd h0 dX6_product_227 (n := 228) rfl ?_
        refine zr_iaload C216 hC216 h0 dX6_product_228 (n := 229) rfl (fun v129 => ?_)
        refine zr_icmp_ge C216 (tgt := 353) h0 dX6_product_229 (by decide) (n := 232) rfl ?_ ?_
        · refine zr_ex hX216 ?_
          refine zv_sub (lv' := [(0, .ref l0_111), (1, .int l1_111), (2, .int l2_111), (5, .int v114), (6, .int v116), (7, .int v118), (8, .int x125.1), (9, .int t199.1)]) ?_ (zsub_of [0, 1, 2, 3, 4, 5, 6, 7] rfl)
          refine zr_iinc (1 : Int32) [(0, .ref l0_111), (1, .int l1_111), (2, .int l2_111), (5, .int v114), (6, .int v116), (7, .int v118), (8, .int x125.1), (9, .int (t199.1 + (1 : Int32)))] h0 dX6_product_353 rfl (by decide) rfl rfl (n := 356) rfl ?_
          refine zr_goto (tgt := 199) h0 dX6_product_356 (by decide) ?_
          exact hL199 (t199.1 + (1 : Int32), t216.2)
        · refine zr_iconst (0 : Int32) h0 (by decide) dX6_product_232 (n := 233) rfl ?_
          refine zr_istore [(0, .ref l0_111), (1, .int l1_111), (2, .int l2_111), (5, .int v114), (6, .int v116), (7, .int v118), (8, .int x125.1), (9, .int t199.1), (10, .int t216.1), (11, .int (0 : Int32))] h0 dX6_product_233 (by decide) rfl (n := 235) rfl ?_
          refine zr_loop hC216 (fX6_product_B235 l0_111 l1_111 l2_111 v114 v116 v118 x125.1 t199.1 t216.1) (fun y => [(0, .ref l0_111), (1, .int l1_111), (2, .int l2_111), (5, .int v114), (6, .int v116), (7, .int v118), (8, .int x125.1), (9, .int t199.1), (10, .int t216.1), (11, .int y.1)]) (fun y => y.2) zF ((0 : Int32), t216.2) (fun C235 hC235 hX235 hL235 t235 => ?_)
          unfold fX6_product_B235
          refine zr_iload h0 dX6_product_235 rfl (n := 237) rfl ?_
          refine zr_aload_n h0 dX6_product_237 rfl (n := 238) rfl ?_
          refine zr_getR C235 hC235 h0 zcX6 (k := 3) (by decide) zw_822 dX6_product_238 (n := 241) rfl (fun v130 => ?_)
          refine zr_iconst (3 : Int32) h0 (by decide) dX6_product_241 (n := 242) rfl ?_
          refine zr_iload h0 dX6_product_242 rfl (n := 244) rfl ?_
          refine zr_imul h0 dX6_product_244 (n := 245) rfl ?_
          refine zr_iconst (2 : Int32) h0 (by decide) dX6_product_245 (n := 246) rfl ?_
          refine zr_iadd h0 dX6_product_246 (n := 247) rfl ?_
          refine zr_iaload C235 hC235 h0 dX6_product_247 (n := 248) rfl (fun v131 => ?_)
          refine zr_icmp_ge C235 (tgt := 347) h0 dX6_product_248 (by decide) (n := 251) rfl ?_ ?_
          · refine zr_ex hX235 ?_
            refine zv_sub (lv' := [(0, .ref l0_111), (1, .int l1_111), (2, .int l2_111), (5, .int v114), (6, .int v116), (7, .int v118), (8, .int x125.1), (9, .int t199.1), (10, .int t216.1)]) ?_ (zsub_of [0, 1, 2, 3, 4, 5, 6, 7, 8] rfl)
            refine zr_iinc (1 : Int32) [(0, .ref l0_111), (1, .int l1_111), (2, .int l2_111), (5, .int v114), (6, .int v116), (7, .int v118), (8, .int x125.1), (9, .int t199.1), (10, .int (t216.1 + (1 : Int32)))] h0 dX6_product_347 rfl (by decide) rfl rfl (n := 350) rfl ?_
            refine zr_goto (tgt := 216) h0 dX6_product_350 (by decide) ?_
            exact hL216 (t216.1 + (1 : Int32), t235.2)
          · refine zr_aload_n h0 dX6_product_251 rfl (n := 252) rfl ?_
            refine zr_getR C235 hC235 h0 zcX6 (k := 4) (by decide) zw_823 dX6_product_252 (n := 255) rfl (fun v132 => ?_)
            refine zr_bipush (64 : Int32) h0 (by decide) dX6_product_255 (n := 257) rfl ?_
            refine zr_iload_n h0 dX6_product_257 rfl (n := 258) rfl ?_
            refine zr_imul h0 dX6_product_258 (n := 259) rfl ?_
            refine zr_iload h0 dX6_product_259 rfl (n := 261) rfl ?_
            refine zr_iload h0 dX6_product_261 rfl (n := 263) rfl ?_
            refine zr_idiv C235 hC235 h0 dX6_product_263 (n := 264) rfl (fun v133 => ?_)
            refine zr_iload h0 dX6_product_264 rfl (n := 266) rfl ?_
            refine zr_iload h0 dX6_product_266 rfl (n := 268) rfl ?_
            refine zr_idiv C235 hC235 h0 dX6_product_268 (n := 269) rfl (fun v134 => ?_)
            refine zr_iload h0 dX6_product_269 rfl (n := 271) rfl ?_
            refine zr_iload h0 dX6_product_271 rfl (n := 273) rfl ?_
            refine zr_idiv C235 hC235 h0 dX6_product_273 (n := 274) rfl (fun v135 => ?_)
            refine zr_cRI C235 hC235 0 0 (fun x hx => zk_S h0 (fun l D z0 => kX6_place l D z0 v133 v134 v135 t235.2 x hx) zw_909 zw_910 zw_5 zw_911 zyX6_place (As := [.int v133, .int v134, .int v135]) (st := [.int ((64 : Int32) * l1_111), .ref v132]) rfl (by decide) rfl (Nat.le_of_ble_eq_true rfl) (by decide) dX6_product_274) rfl rfl (n := 277) rfl (fun x136 => ?_)
            refine zr_iadd h0 dX6_product_277 (n := 278) rfl ?_
            refine zr_iaload C235 hC235 h0 dX6_product_278 (n := 279) rfl (fun v137 => ?_)
            refine zr_istore [(0, .ref l0_111), (1, .int l1_111), (2, .int l2_111), (5, .int v114), (6, .int v116), (7, .int v118), (8, .int x125.1), (9, .int t199.1), (10, .int t216.1), (11, .int t235.1), (12, .int v137)] h0 dX6_product_279 (by decide) rfl (n := 281) rfl ?_
            refine zr_aload_n h0 dX6_product_281 rfl (n := 282) rfl ?_
            refine zr_getR C235 hC235 h0 zcX6 (k := 4) (by decide) zw_823 dX6_product_282 (n := 285) rfl (fun v138 => ?_)
            refine zr_bipush (64 : Int32) h0 (by decide) dX6_product_285 (n := 287) rfl ?_
            refine zr_iload_n h0 dX6_product_287 rfl (n := 288) rfl ?_
            refine zr_imul h0 dX6_product_288 (n := 289) rfl ?_
            refine zr_iload h0 dX6_product_289 rfl (n := 291) rfl ?_
            refine zr_iload h0 dX6_product_291 rfl (n := 293) rfl ?_
            refine zr_irem C235 hC235 h0 dX6_product_293 (n := 294) rfl (fun v139 => ?_)
            refine zr_iload h0 dX6_product_294 rfl (n := 296) rfl ?_
            refine zr_iload h0 dX6_product_296 rfl (n := 298) rfl ?_
            refine zr_irem C235 hC235 h0 dX6_product_298 (n := 299) rfl (fun v140 => ?_)
            refine zr_iload h0 dX6_product_299 rfl (n := 301) rfl ?_
            refine zr_iload h0 dX6_product_301 rfl (n := 303) rfl ?_
            refine zr_irem C235 hC235 h0 dX6_product_303 (n := 304) rfl (fun v141 => ?_)
            refine zr_cRI C235 hC235 0 0 (fun x hx => zk_S h0 (fun l D z0 => kX6_place l D z0 v139 v140 v141 t235.2 x hx) zw_909 zw_910 zw_5 zw_911 zyX6_place (As := [.int v139, .int v140, .int v141]) (st := [.int ((64 : Int32) * l2_111), .ref v138]) rfl (by decide) rfl (Nat.le_of_ble_eq_true rfl) (by decide) dX6_product_304) rfl rfl (n := 307) rfl (fun x142 => ?_)
            refine zr_iadd h0 dX6_product_307 (n := 308) rfl ?_
            refine zr_iaload C235 hC235 h0 dX6_product_308 (n := 309) rfl (fun v143 => ?_)
            refine zr_istore [(0, .ref l0_111), (1, .int l1_111), (2, .int l2_111), (5, .int v114), (6, .int v116), (7, .int v118), (8, .int x125.1), (9, .int t199.1), (10, .int t216.1), (11, .int t235.1), (12, .int v137), (13, .int v143)] h0 dX6_product_309 (by decide) rfl (n := 311) rfl ?_
            refine zr_aload_n h0 dX6_product_311 rfl (n := 312) rfl ?_
            refine zr_getR C235 hC235 h0 zcX6 (k := 4) (by decide) zw_823 dX6_product_312 (n := 315) rfl (fun v144 => ?_)
            refine zr_bipush (64 : Int32) h0 (by decide) dX6_product_315 (n := 317) rfl ?_
            refine zr_iload h0 dX6_product_317 rfl (n := 319) rfl ?_
            refine zr_imul h0 dX6_product_319 (n := 320) rfl ?_
            refine zr_iload h0 dX6_product_320 rfl (n := 322) rfl ?_
            refine zr_iload h0 dX6_product_322 rfl (n := 324) rfl ?_
            refine zr_iload h0 dX6_product_324 rfl (n := 326) rfl ?_
            refine zr_cRI C235 hC235 0 0 (fun x hx => zk_S h0 (fun l D z0 => kX6_place l D z0 t199.1 t216.1 t235.1 t235.2 x hx) zw_909 zw_910 zw_5 zw_911 zyX6_place (As := [.int t199.1, .int t216.1, .int t235.1]) (st := [.int ((64 : Int32) * x125.1), .ref v144]) rfl (by decide) rfl (Nat.le_of_ble_eq_true rfl) (by decide) dX6_product_326) rfl rfl (n := 329) rfl (fun x145 => ?_)
            refine zr_iadd h0 dX6_product_329 (n := 330) rfl ?_
            refine zr_iload h0 dX6_product_330 rfl (n := 332) rfl ?_
            refine zr_iload h0 dX6_product_332 rfl (n := 334) rfl ?_
            refine zr_imul h0 dX6_product_334 (n := 335) rfl ?_
            refine zr_aload_n h0 dX6_product_335 rfl (n := 336) rfl ?_
            refine zr_getI C235 hC235 h0 zcX6 (k := 1) (by decide) zw_820 dX6_product_336 (n := 339) rfl (fun v146 => ?_)
            refine zr_irem C235 hC235 h0 dX6_product_339 (n := 340) rfl (fun v147 => ?_)
            refine zr_iastore C235 hC235 h0 dX6_product_340 (n := 341) rfl (fun S148 => ?_)
            refine zr_iinc (1 : Int32) [(0, .ref l0_111), (1, .int l1_111), (2, .int l2_111), (5, .int v114), (6, .int v116), (7, .int v118), (8, .int x125.1), (9, .int t199.1), (10, .int t216.1), (11, .int (t235.1 + (1 : Int32))), (12, .int v137), (13, .int v143)] h0 dX6_product_341 rfl (by decide) rfl rfl (n := 344) rfl ?_
            refine zr_goto (tgt := 235) h0 dX6_product_344 (by decide) ?_
            refine zv_sub (lv' := [(0, .ref l0_111), (1, .int l1_111), (2, .int l2_111), (5, .int v114), (6, .int v116), (7, .int v118), (8, .int x125.1), (9, .int t199.1), (10, .int t216.1), (11, .int (t235.1 + (1 : Int32)))]) ?_ (zsub_of [0, 1, 2, 3, 4, 5, 6, 7, 8, 9] rfl)
            exact hL235 (t235.1 + (1 : Int32), S148)
  have J79 : ∀ (l0_79 : Nat) (l1_79 : Int32) (l2_79 : Int32) (l3_79 : Int32) (l4_79 : Int32) (S_79 : ZS), zV G 14 S_79 0 0 79 [(0, .ref l0_79), (1, .int l1_79), (2, .int l2_79), (3, .int l3_79), (4, .int l4_79)] [] (C (fX6_product_J79 l0_79 l1_79 l2_79 l3_79 l4_79 S_79)) := by
    intro l0_79 l1_79 l2_79 l3_79 l4_79 S_79
    unfold fX6_product_J79
    refine zr_aload_n h0 dX6_product_79 rfl (n := 80) rfl ?_
    refine zr_iload_n h0 dX6_product_80 rfl (n := 81) rfl ?_
    refine zr_if_ne C (tgt := 88) h0 dX6_product_81 (by decide) (n := 84) rfl ?_ ?_
    · refine zv_sub (lv' := [(0, .ref l0_79), (1, .int l1_79), (2, .int l2_79)]) ?_ (zsub_of [0, 1, 2] rfl)
      refine zr_iconst (1 : Int32) h0 (by decide) dX6_product_84 (n := 85) rfl ?_
      refine zr_goto (tgt := 111) h0 dX6_product_85 (by decide) ?_
      exact J111 l0_79 l1_79 l2_79 l0_79 (1 : Int32) S_79
    · refine zv_sub (lv' := [(0, .ref l0_79), (1, .int l1_79), (2, .int l2_79), (4, .int l4_79)]) ?_ (zsub_of [0, 1, 2, 4] rfl)
      refine zr_iload h0 dX6_product_88 rfl (n := 90) rfl ?_
      refine zr_if_ne C (tgt := 97) h0 dX6_product_90 (by decide) (n := 93) rfl ?_ ?_
      · refine zv_sub (lv' := [(0, .ref l0_79), (1, .int l1_79), (2, .int l2_79)]) ?_ (zsub_of [0, 1, 2] rfl)
        refine zr_iconst (2 : Int32) h0 (by decide) dX6_product_93 (n := 94) rfl ?_
        refine zr_goto (tgt := 111) h0 dX6_product_94 (by decide) ?_
        exact J111 l0_79 l1_79 l2_79 l0_79 (2 : Int32) S_79
      · refine zv_sub (lv' := [(0, .ref l0_79), (1, .int l1_79), (2, .int l2_79)]) ?_ (zsub_of [0, 1, 2] rfl)
        refine zr_aload_n h0 dX6_product_97 rfl (n := 98) rfl ?_
        refine zr_getI C hC h0 zcX6 (k := 2) (by decide) zw_821 dX6_product_98 (n := 101) rfl (fun v149 => ?_)
        refine zr_bipush (16 : Int32) h0 (by decide) dX6_product_101 (n := 103) rfl ?_
        refine zr_icmp_ne C (tgt := 110) h0 dX6_product_103 (by decide) (n := 106) rfl ?_ ?_
        · refine zr_iconst (3 : Int32) h0 (by decide) dX6_product_106 (n := 107) rfl ?_
          refine zr_goto (tgt := 111) h0 dX6_product_107 (by decide) ?_
          exact J111 l0_79 l1_79 l2_79 l0_79 (3 : Int32) S_79
        · refine zr_iconst (0 : Int32) h0 (by decide) dX6_product_110 (n := 111) rfl ?_
          exact J111 l0_79 l1_79 l2_79 l0_79 (0 : Int32) S_79
  have J21 : ∀ (l0_21 : Nat) (l1_21 : Int32) (l2_21 : Int32) (s0_21 : Int32) (S_21 : ZS), zV G 14 S_21 0 0 21 [(0, .ref l0_21), (1, .int l1_21), (2, .int l2_21)] [.int s0_21] (C (fX6_product_J21 l0_21 l1_21 l2_21 s0_21 S_21)) := by
    intro l0_21 l1_21 l2_21 s0_21 S_21
    unfold fX6_product_J21
    refine zr_istore_n [(0, .ref l0_21), (1, .int l1_21), (2, .int l2_21), (3, .int s0_21)] h0 dX6_product_21 (by decide) rfl (n := 22) rfl ?_
    refine zr_iload_n h0 dX6_product_22 rfl (n := 23) rfl ?_
    refine zr_istore [(0, .ref l0_21), (1, .int l1_21), (2, .int l2_21), (3, .int s0_21), (4, .int s0_21)] h0 dX6_product_23 (by decide) rfl (n := 25) rfl ?_
    refine zr_iconst (0 : Int32) h0 (by decide) dX6_product_25 (n := 26) rfl ?_
    refine zr_istore [(0, .ref l0_21), (1, .int l1_21), (2, .int l2_21), (3, .int s0_21), (4, .int s0_21), (5, .int (0 : Int32))] h0 dX6_product_26 (by decide) rfl (n := 28) rfl ?_
    refine zr_loop hC (fX6_product_B28 l0_21 l1_21 l2_21 s0_21 S_21) (fun y => [(0, .ref l0_21), (1, .int l1_21), (2, .int l2_21), (3, .int s0_21), (4, .int y.1), (5, .int y.2)]) (fun y => S_21) zF (s0_21, (0 : Int32)) (fun C28 hC28 hX28 hL28 t28 => ?_)
    have J71 : ∀ (l5_71 : Int32) (s0_71 : Int32), zV G 14 S_21 0 0 71 [(0, .ref l0_21), (1, .int l1_21), (2, .int l2_21), (3, .int s0_21), (5, .int l5_71)] [.int s0_71] (C28 (fX6_product_J71 l0_21 l1_21 l2_21 s0_21 l5_71 s0_71 S_21)) := by
      intro l5_71 s0_71
      unfold fX6_product_J71
      refine zr_istore [(0, .ref l0_21), (1, .int l1_21), (2, .int l2_21), (3, .int s0_21), (4, .int s0_71), (5, .int l5_71)] h0 dX6_product_71 (by decide) rfl (n := 73) rfl ?_
      refine zr_iinc (1 : Int32) [(0, .ref l0_21), (1, .int l1_21), (2, .int l2_21), (3, .int s0_21), (4, .int s0_71), (5, .int (l5_71 + (1 : Int32)))] h0 dX6_product_73 rfl (by decide) rfl rfl (n := 76) rfl ?_
      refine zr_goto (tgt := 28) h0 dX6_product_76 (by decide) ?_
      exact hL28 (s0_71, l5_71 + (1 : Int32))
    unfold fX6_product_B28
    refine zr_iload h0 dX6_product_28 rfl (n := 30) rfl ?_
    refine zr_iconst (3 : Int32) h0 (by decide) dX6_product_30 (n := 31) rfl ?_
    refine zr_icmp_ge C28 (tgt := 79) h0 dX6_product_31 (by decide) (n := 34) rfl ?_ ?_
    · refine zr_ex hX28 ?_
      refine zv_sub (lv' := [(0, .ref l0_21), (1, .int l1_21), (2, .int l2_21), (3, .int s0_21), (4, .int t28.1)]) ?_ (zsub_of [0, 1, 2, 3, 4] rfl)
      exact J79 l0_21 l1_21 l2_21 s0_21 t28.1 S_21
    · refine zr_iload h0 dX6_product_34 rfl (n := 36) rfl ?_
      refine zr_if_eq C28 (tgt := 79) h0 dX6_product_36 (by decide) (n := 39) rfl ?_ ?_
      · refine zr_ex hX28 ?_
        refine zv_sub (lv' := [(0, .ref l0_21), (1, .int l1_21), (2, .int l2_21), (3, .int s0_21), (4, .int t28.1)]) ?_ (zsub_of [0, 1, 2, 3, 4] rfl)
        exact J79 l0_21 l1_21 l2_21 s0_21 t28.1 S_21
      · refine zv_sub (lv' := [(0, .ref l0_21), (1, .int l1_21), (2, .int l2_21), (3, .int s0_21), (5, .int t28.2)]) ?_ (zsub_of [0, 1, 2, 3, 5] rfl)
        refine zr_aload_n h0 dX6_product_39 rfl (n := 40) rfl ?_
        refine zr_getR C28 hC28 h0 zcX6 (k := 3) (by decide) zw_822 dX6_product_40 (n := 43) rfl (fun v150 => ?_)
        refine zr_iconst (3 : Int32) h0 (by decide) dX6_product_43 (n := 44) rfl ?_
        refine zr_iload_n h0 dX6_product_44 rfl (n := 45) rfl ?_
        refine zr_imul h0 dX6_product_45 (n := 46) rfl ?_
        refine zr_iload h0 dX6_product_46 rfl (n := 48) rfl ?_
        refine zr_iadd h0 dX6_product_48 (n := 49) rfl ?_
        refine zr_iaload C28 hC28 h0 dX6_product_49 (n := 50) rfl (fun v151 => ?_)
        refine zr_aload_n h0 dX6_product_50 rfl (n := 51) rfl ?_
        refine zr_getR C28 hC28 h0 zcX6 (k := 3) (by decide) zw_822 dX6_product_51 (n := 54) rfl (fun v152 => ?_)
        refine zr_iconst (3 : Int32) h0 (by decide) dX6_product_54 (n := 55) rfl ?_
        refine zr_iload_n h0 dX6_product_55 rfl (n := 56) rfl ?_
        refine zr_imul h0 dX6_product_56 (n := 57) rfl ?_
        refine zr_iload h0 dX6_product_57 rfl (n := 59) rfl ?_
        refine zr_iadd h0 dX6_product_59 (n := 60) rfl ?_
        refine zr_iaload C28 hC28 h0 dX6_product_60 (n := 61) rfl (fun v153 => ?_)
        refine zr_imul h0 dX6_product_61 (n := 62) rfl ?_
        refine zr_iconst (4 : Int32) h0 (by decide) dX6_product_62 (n := 63) rfl ?_
        refine zr_icmp_gt C28 (tgt := 70) h0 dX6_product_63 (by decide) (n := 66) rfl ?_ ?_
        · refine zr_iconst (0 : Int32) h0 (by decide) dX6_product_70 (n := 71) rfl ?_
          exact J71 t28.2 (0 : Int32)
        · refine zr_iconst (1 : Int32) h0 (by decide) dX6_product_66 (n := 67) rfl ?_
          refine zr_goto (tgt := 71) h0 dX6_product_67 (by decide) ?_
          exact J71 t28.2 (1 : Int32)
  have J20 : ∀ (l0_20 : Nat) (l1_20 : Int32) (l2_20 : Int32) (S_20 : ZS), zV G 14 S_20 0 0 20 [(0, .ref l0_20), (1, .int l1_20), (2, .int l2_20)] [] (C (fX6_product_J20 l0_20 l1_20 l2_20 S_20)) := by
    intro l0_20 l1_20 l2_20 S_20
    unfold fX6_product_J20
    refine zr_iconst (0 : Int32) h0 (by decide) dX6_product_20 (n := 21) rfl ?_
    exact J21 l0_20 l1_20 l2_20 (0 : Int32) S_20
  unfold fX6_product
  refine zr_aload_n h0 dX6_product_0 rfl (n := 1) rfl ?_
  refine zr_iload_n h0 dX6_product_1 rfl (n := 2) rfl ?_
  refine zr_cRI C hC 0 0 (fun x hx => zk_V h0 zcX6 (zcl_ex hx) (fun l D z0 => kX6_isCube l D z0 a0 a1 S x (zcl_of hx)) zw_928 zw_930 zs_38 zw_5 zw_931 rfl zyX6_isCube (As := [.int a1]) (st := []) rfl (by decide) rfl (Nat.le_of_ble_eq_true rfl) (by decide) dX6_product_2) rfl rfl (n := 5) rfl (fun x1 => ?_)
  refine zr_if_eq C (tgt := 20) h0 dX6_product_5 (by decide) (n := 8) rfl ?_ ?_
  · exact J20 a0 a1 a2 S
  · refine zr_aload_n h0 dX6_product_8 rfl (n := 9) rfl ?_
    refine zr_iload_n h0 dX6_product_9 rfl (n := 10) rfl ?_
    refine zr_cRI C hC 0 0 (fun x hx => zk_V h0 zcX6 (zcl_ex hx) (fun l D z0 => kX6_isCube l D z0 a0 a2 S x (zcl_of hx)) zw_928 zw_930 zs_38 zw_5 zw_931 rfl zyX6_isCube (As := [.int a2]) (st := []) rfl (by decide) rfl (Nat.le_of_ble_eq_true rfl) (by decide) dX6_product_10) rfl rfl (n := 13) rfl (fun x111 => ?_)
    refine zr_if_eq C (tgt := 20) h0 dX6_product_13 (by decide) (n := 16) rfl ?_ ?_
    · exact J20 a0 a1 a2 S
    · refine zr_iconst (1 : Int32) h0 (by decide) dX6_product_16 (n := 17) rfl ?_
      refine zr_goto (tgt := 21) h0 dX6_product_17 (by decide) ?_
      exact J21 a0 a1 a2 (1 : Int32) S
theorem kX6_product (l : Launch) (D : ZD) (z0 : Nat) (a0 : Nat) (a1 : Int32) (a2 : Int32) (S : ZS) (x : Int32 × ZS) (hf : fX6_product a0 a1 a2 S = some x) : zMet l D z0 yX6_product cX6_product 14 (some .int) rmX6_product [.ref a0, .int a1, .int a2] S (some (.int x.1)) x.2 :=
  zMet_of (by decide) (Nat.le_of_ble_eq_true rfl) (fun G h0 hini hE => wX6_product a0 a1 a2 S h0 (fun o => o = some x) (fun h => nomatch h) (fun v S1 h => by cases h; exact hE)) hf
theorem dX6_way_0 : decode cX6_way 0 = .ok (.aload_n 0, 1) := by decide +kernel
theorem dX6_way_1 : decode cX6_way 1 = .ok (.iload_n 1, 1) := by decide +kernel
theorem dX6_way_2 : decode cX6_way 2 = .ok (.invokevirtual 78, 3) := by decide +kernel
theorem dX6_way_5 : decode cX6_way 5 = .ok (.istore_n 2, 1) := by decide +kernel
theorem dX6_way_6 : decode cX6_way 6 = .ok (.aload_n 0, 1) := by decide +kernel
theorem dX6_way_7 : decode cX6_way 7 = .ok (.iload_n 2, 1) := by decide +kernel
theorem dX6_way_8 : decode cX6_way 8 = .ok (.ifCond .ne 7, 3) := by decide +kernel
theorem dX6_way_11 : decode cX6_way 11 = .ok (.iconst 1, 1) := by decide +kernel
theorem dX6_way_12 : decode cX6_way 12 = .ok (.goto 17, 3) := by decide +kernel
theorem dX6_way_15 : decode cX6_way 15 = .ok (.aload_n 0, 1) := by decide +kernel
theorem dX6_way_16 : decode cX6_way 16 = .ok (.getfield 61, 3) := by decide +kernel
theorem dX6_way_19 : decode cX6_way 19 = .ok (.bipush 16, 2) := by decide +kernel
theorem dX6_way_21 : decode cX6_way 21 = .ok (.if_icmp .ne 7, 3) := by decide +kernel
theorem dX6_way_24 : decode cX6_way 24 = .ok (.iconst 2, 1) := by decide +kernel
theorem dX6_way_25 : decode cX6_way 25 = .ok (.goto 4, 3) := by decide +kernel
theorem dX6_way_28 : decode cX6_way 28 = .ok (.iconst 0, 1) := by decide +kernel
theorem dX6_way_29 : decode cX6_way 29 = .ok (.invokevirtual 64, 3) := by decide +kernel
theorem dX6_way_32 : decode cX6_way 32 = .ok (.ifCond .ne 5, 3) := by decide +kernel
theorem dX6_way_35 : decode cX6_way 35 = .ok (.iconst 0, 1) := by decide +kernel
theorem dX6_way_36 : decode cX6_way 36 = .ok (.ireturn, 1) := by decide +kernel
theorem dX6_way_37 : decode cX6_way 37 = .ok (.iconst 0, 1) := by decide +kernel
theorem dX6_way_38 : decode cX6_way 38 = .ok (.istore_n 3, 1) := by decide +kernel
theorem dX6_way_39 : decode cX6_way 39 = .ok (.iload_n 3, 1) := by decide +kernel
theorem dX6_way_40 : decode cX6_way 40 = .ok (.bipush 64, 2) := by decide +kernel
theorem dX6_way_42 : decode cX6_way 42 = .ok (.if_icmp .ge 34, 3) := by decide +kernel
theorem dX6_way_45 : decode cX6_way 45 = .ok (.aload_n 0, 1) := by decide +kernel
theorem dX6_way_46 : decode cX6_way 46 = .ok (.getfield 26, 3) := by decide +kernel
theorem dX6_way_49 : decode cX6_way 49 = .ok (.bipush 64, 2) := by decide +kernel
theorem dX6_way_51 : decode cX6_way 51 = .ok (.aload_n 0, 1) := by decide +kernel
theorem dX6_way_52 : decode cX6_way 52 = .ok (.getfield 61, 3) := by decide +kernel
theorem dX6_way_55 : decode cX6_way 55 = .ok (.imul, 1) := by decide +kernel
theorem dX6_way_56 : decode cX6_way 56 = .ok (.iload_n 3, 1) := by decide +kernel
theorem dX6_way_57 : decode cX6_way 57 = .ok (.iadd, 1) := by decide +kernel
theorem dX6_way_58 : decode cX6_way 58 = .ok (.aload_n 0, 1) := by decide +kernel
theorem dX6_way_59 : decode cX6_way 59 = .ok (.getfield 17, 3) := by decide +kernel
theorem dX6_way_62 : decode cX6_way 62 = .ok (.bipush 64, 2) := by decide +kernel
theorem dX6_way_64 : decode cX6_way 64 = .ok (.iload_n 1, 1) := by decide +kernel
theorem dX6_way_65 : decode cX6_way 65 = .ok (.imul, 1) := by decide +kernel
theorem dX6_way_66 : decode cX6_way 66 = .ok (.iload_n 3, 1) := by decide +kernel
theorem dX6_way_67 : decode cX6_way 67 = .ok (.iadd, 1) := by decide +kernel
theorem dX6_way_68 : decode cX6_way 68 = .ok (.iaload, 1) := by decide +kernel
theorem dX6_way_69 : decode cX6_way 69 = .ok (.iastore, 1) := by decide +kernel
theorem dX6_way_70 : decode cX6_way 70 = .ok (.iinc 3 1, 3) := by decide +kernel
theorem dX6_way_73 : decode cX6_way 73 = .ok (.goto (-34), 3) := by decide +kernel
theorem dX6_way_76 : decode cX6_way 76 = .ok (.iconst 0, 1) := by decide +kernel
theorem dX6_way_77 : decode cX6_way 77 = .ok (.istore_n 3, 1) := by decide +kernel
theorem dX6_way_78 : decode cX6_way 78 = .ok (.iload_n 3, 1) := by decide +kernel
theorem dX6_way_79 : decode cX6_way 79 = .ok (.iconst 3, 1) := by decide +kernel
theorem dX6_way_80 : decode cX6_way 80 = .ok (.if_icmp .ge 32, 3) := by decide +kernel
theorem dX6_way_83 : decode cX6_way 83 = .ok (.aload_n 0, 1) := by decide +kernel
theorem dX6_way_84 : decode cX6_way 84 = .ok (.getfield 23, 3) := by decide +kernel
theorem dX6_way_87 : decode cX6_way 87 = .ok (.iconst 3, 1) := by decide +kernel
theorem dX6_way_88 : decode cX6_way 88 = .ok (.aload_n 0, 1) := by decide +kernel
theorem dX6_way_89 : decode cX6_way 89 = .ok (.getfield 61, 3) := by decide +kernel
theorem dX6_way_92 : decode cX6_way 92 = .ok (.imul, 1) := by decide +kernel
theorem dX6_way_93 : decode cX6_way 93 = .ok (.iload_n 3, 1) := by decide +kernel
theorem dX6_way_94 : decode cX6_way 94 = .ok (.iadd, 1) := by decide +kernel
theorem dX6_way_95 : decode cX6_way 95 = .ok (.aload_n 0, 1) := by decide +kernel
theorem dX6_way_96 : decode cX6_way 96 = .ok (.getfield 13, 3) := by decide +kernel
theorem dX6_way_99 : decode cX6_way 99 = .ok (.iconst 3, 1) := by decide +kernel
theorem dX6_way_100 : decode cX6_way 100 = .ok (.iload_n 1, 1) := by decide +kernel
theorem dX6_way_101 : decode cX6_way 101 = .ok (.imul, 1) := by decide +kernel
theorem dX6_way_102 : decode cX6_way 102 = .ok (.iload_n 3, 1) := by decide +kernel
theorem dX6_way_103 : decode cX6_way 103 = .ok (.iadd, 1) := by decide +kernel
theorem dX6_way_104 : decode cX6_way 104 = .ok (.iaload, 1) := by decide +kernel
theorem dX6_way_105 : decode cX6_way 105 = .ok (.iastore, 1) := by decide +kernel
theorem dX6_way_106 : decode cX6_way 106 = .ok (.iinc 3 1, 3) := by decide +kernel
theorem dX6_way_109 : decode cX6_way 109 = .ok (.goto (-31), 3) := by decide +kernel
theorem dX6_way_112 : decode cX6_way 112 = .ok (.aload_n 0, 1) := by decide +kernel
theorem dX6_way_113 : decode cX6_way 113 = .ok (.getfield 29, 3) := by decide +kernel
theorem dX6_way_116 : decode cX6_way 116 = .ok (.aload_n 0, 1) := by decide +kernel
theorem dX6_way_117 : decode cX6_way 117 = .ok (.getfield 61, 3) := by decide +kernel
theorem dX6_way_120 : decode cX6_way 120 = .ok (.aload_n 0, 1) := by decide +kernel
theorem dX6_way_121 : decode cX6_way 121 = .ok (.getfield 20, 3) := by decide +kernel
theorem dX6_way_124 : decode cX6_way 124 = .ok (.iload_n 1, 1) := by decide +kernel
theorem dX6_way_125 : decode cX6_way 125 = .ok (.iaload, 1) := by decide +kernel
theorem dX6_way_126 : decode cX6_way 126 = .ok (.iastore, 1) := by decide +kernel
theorem dX6_way_127 : decode cX6_way 127 = .ok (.aload_n 0, 1) := by decide +kernel
theorem dX6_way_128 : decode cX6_way 128 = .ok (.getfield 32, 3) := by decide +kernel
theorem dX6_way_131 : decode cX6_way 131 = .ok (.aload_n 0, 1) := by decide +kernel
theorem dX6_way_132 : decode cX6_way 132 = .ok (.getfield 61, 3) := by decide +kernel
theorem dX6_way_135 : decode cX6_way 135 = .ok (.iconst 0, 1) := by decide +kernel
theorem dX6_way_136 : decode cX6_way 136 = .ok (.iastore, 1) := by decide +kernel
theorem dX6_way_137 : decode cX6_way 137 = .ok (.aload_n 0, 1) := by decide +kernel
theorem dX6_way_138 : decode cX6_way 138 = .ok (.dup, 1) := by decide +kernel
theorem dX6_way_139 : decode cX6_way 139 = .ok (.getfield 61, 3) := by decide +kernel
theorem dX6_way_142 : decode cX6_way 142 = .ok (.iconst 1, 1) := by decide +kernel
theorem dX6_way_143 : decode cX6_way 143 = .ok (.iadd, 1) := by decide +kernel
theorem dX6_way_144 : decode cX6_way 144 = .ok (.putfield 61, 3) := by decide +kernel
theorem dX6_way_147 : decode cX6_way 147 = .ok (.aload_n 0, 1) := by decide +kernel
theorem dX6_way_148 : decode cX6_way 148 = .ok (.getfield 61, 3) := by decide +kernel
theorem dX6_way_151 : decode cX6_way 151 = .ok (.iconst 1, 1) := by decide +kernel
theorem dX6_way_152 : decode cX6_way 152 = .ok (.isub, 1) := by decide +kernel
theorem dX6_way_153 : decode cX6_way 153 = .ok (.ireturn, 1) := by decide +kernel
abbrev rmX6_way : Room := { frames := 3, cells := 0, slots := 0, locals := 63 }
theorem zyX6_way : zyOK yX6_way 1 := ⟨by decide +kernel, by decide +kernel, by decide +kernel⟩
set_option maxHeartbeats 4000000 in
set_option maxRecDepth 100000 in
theorem wX6_way {G : ZG} (a0 : Nat) (a1 : Int32) (S : ZS) (h0 : zFix G cX6_way RX6 4 (some .int) rmX6_way) (C : Option (Int32 × ZS) → Prop) (hC : ¬ C none) (hE : ∀ (v : Int32) (S1 : ZS), C (some (v, S1)) → zEnd G (some (.int v)) S1 rmX6_way) : zV G 4 S 0 0 0 [(0, .ref a0), (1, .int a1)] [] (C (fX6_way a0 a1 S)) := by
  have J29 : ∀ (l0_29 : Nat) (l1_29 : Int32) (s0_29 : Nat) (s1_29 : Int32) (S_29 : ZS), zV G 4 S_29 0 0 29 [(0, .ref l0_29), (1, .int l1_29)] [.int s1_29, .ref s0_29] (C (fX6_way_J29 l0_29 l1_29 s0_29 s1_29 S_29)) := by
    intro l0_29 l1_29 s0_29 s1_29 S_29
    unfold fX6_way_J29
    refine zr_cMI C hC 0 0 (fun x hx => zk_V h0 zcX6 (zcl_ex hx) (fun l D z0 => kX6_goesWell l D z0 s0_29 s1_29 S_29 x (zcl_of hx)) zw_886 zw_888 zs_34 zw_5 zw_889 rfl zyX6_goesWell (As := [.int s1_29]) (st := []) rfl (by decide) rfl (Nat.le_of_ble_eq_true rfl) (by decide) dX6_way_29) rfl rfl (n := 32) rfl (fun x62 => ?_)
    refine zr_if_ne C (tgt := 37) h0 dX6_way_32 (by decide) (n := 35) rfl ?_ ?_
    · refine zv_sub (lv' := []) ?_ (zsub_of [] rfl)
      refine zr_iconst (0 : Int32) h0 (by decide) dX6_way_35 (n := 36) rfl ?_
      exact zr_iret h0 rfl dX6_way_36 (hE _ _) (by decide) (by decide)
    · refine zr_iconst (0 : Int32) h0 (by decide) dX6_way_37 (n := 38) rfl ?_
      refine zr_istore_n [(0, .ref l0_29), (1, .int l1_29), (3, .int (0 : Int32))] h0 dX6_way_38 (by decide) rfl (n := 39) rfl ?_
      refine zr_loop hC (fX6_way_B39 l0_29 l1_29) (fun y => [(0, .ref l0_29), (1, .int l1_29), (3, .int y.1)]) (fun y => y.2) zF ((0 : Int32), x62.2) (fun C39 hC39 hX39 hL39 t39 => ?_)
      unfold fX6_way_B39
      refine zr_iload_n h0 dX6_way_39 rfl (n := 40) rfl ?_
      refine zr_bipush (64 : Int32) h0 (by decide) dX6_way_40 (n := 42) rfl ?_
      refine zr_icmp_ge C39 (tgt := 76) h0 dX6_way_42 (by decide) (n := 45) rfl ?_ ?_
      · refine zr_ex hX39 ?_
        refine zv_sub (lv' := [(0, .ref l0_29), (1, .int l1_29)]) ?_ (zsub_of [0, 1] rfl)
        refine zr_iconst (0 : Int32) h0 (by decide) dX6_way_76 (n := 77) rfl ?_
        refine zr_istore_n [(0, .ref l0_29), (1, .int l1_29), (3, .int (0 : Int32))] h0 dX6_way_77 (by decide) rfl (n := 78) rfl ?_
        refine zr_loop hC (fX6_way_B78 l0_29 l1_29) (fun y => [(0, .ref l0_29), (1, .int l1_29), (3, .int y.1)]) (fun y => y.2) zF ((0 : Int32), t39.2) (fun C78 hC78 hX78 hL78 t78 => ?_)
        unfold fX6_way_B78
        refine zr_iload_n h0 dX6_way_78 rfl (n := 79) rfl ?_
        refine zr_iconst (3 : Int32) h0 (by decide) dX6_way_79 (n := 80) rfl ?_
        refine zr_icmp_ge C78 (tgt := 112) h0 dX6_way_80 (by decide) (n := 83) rfl ?_ ?_
        · refine zr_ex hX78 ?_
          refine zv_sub (lv' := [(0, .ref l0_29), (1, .int l1_29)]) ?_ (zsub_of [0, 1] rfl)
          refine zr_aload_n h0 dX6_way_112 rfl (n := 113) rfl ?_
          refine zr_getR C hC h0 zcX6 (k := 9) (by decide) zw_828 dX6_way_113 (n := 116) rfl (fun v63 => ?_)
          refine zr_aload_n h0 dX6_way_116 rfl (n := 117) rfl ?_
          refine zr_getI C hC h0 zcX6 (k := 6) (by decide) zw_825 dX6_way_117 (n := 120) rfl (fun v64 => ?_)
          refine zr_aload_n h0 dX6_way_120 rfl (n := 121) rfl ?_
          refine zr_getR C hC h0 zcX6 (k := 5) (by decide) zw_824 dX6_way_121 (n := 124) rfl (fun v65 => ?_)
          refine zr_iload_n h0 dX6_way_124 rfl (n := 125) rfl ?_
          refine zr_iaload C hC h0 dX6_way_125 (n := 126) rfl (fun v66 => ?_)
          refine zr_iastore C hC h0 dX6_way_126 (n := 127) rfl (fun S67 => ?_)
          refine zr_aload_n h0 dX6_way_127 rfl (n := 128) rfl ?_
          refine zr_getR C hC h0 zcX6 (k := 10) (by decide) zw_829 dX6_way_128 (n := 131) rfl (fun v68 => ?_)
          refine zr_aload_n h0 dX6_way_131 rfl (n := 132) rfl ?_
          refine zr_getI C hC h0 zcX6 (k := 6) (by decide) zw_825 dX6_way_132 (n := 135) rfl (fun v69 => ?_)
          refine zr_iconst (0 : Int32) h0 (by decide) dX6_way_135 (n := 136) rfl ?_
          refine zr_iastore C hC h0 dX6_way_136 (n := 137) rfl (fun S70 => ?_)
          refine zr_aload_n h0 dX6_way_137 rfl (n := 138) rfl ?_
          refine zr_dup h0 rfl dX6_way_138 (n := 139) rfl ?_
          refine zr_getI C hC h0 zcX6 (k := 6) (by decide) zw_825 dX6_way_139 (n := 142) rfl (fun v71 => ?_)
          refine zr_iconst (1 : Int32) h0 (by decide) dX6_way_142 (n := 143) rfl ?_
          refine zr_iadd h0 dX6_way_143 (n := 144) rfl ?_
          refine zr_putF C hC h0 zcX6 (k := 6) (by decide) zw_825 rfl rfl rfl dX6_way_144 (n := 147) rfl (fun S72 => ?_)
          refine zr_aload_n h0 dX6_way_147 rfl (n := 148) rfl ?_
          refine zr_getI C hC h0 zcX6 (k := 6) (by decide) zw_825 dX6_way_148 (n := 151) rfl (fun v73 => ?_)
          refine zr_iconst (1 : Int32) h0 (by decide) dX6_way_151 (n := 152) rfl ?_
          refine zr_isub h0 dX6_way_152 (n := 153) rfl ?_
          exact zr_iret h0 rfl dX6_way_153 (hE _ _) (by decide) (by decide)
        · refine zr_aload_n h0 dX6_way_83 rfl (n := 84) rfl ?_
          refine zr_getR C78 hC78 h0 zcX6 (k := 7) (by decide) zw_826 dX6_way_84 (n := 87) rfl (fun v74 => ?_)
          refine zr_iconst (3 : Int32) h0 (by decide) dX6_way_87 (n := 88) rfl ?_
          refine zr_aload_n h0 dX6_way_88 rfl (n := 89) rfl ?_
          refine zr_getI C78 hC78 h0 zcX6 (k := 6) (by decide) zw_825 dX6_way_89 (n := 92) rfl (fun v75 => ?_)
          refine zr_imul h0 dX6_way_92 (n := 93) rfl ?_
          refine zr_iload_n h0 dX6_way_93 rfl (n := 94) rfl ?_
          refine zr_iadd h0 dX6_way_94 (n := 95) rfl ?_
          refine zr_aload_n h0 dX6_way_95 rfl (n := 96) rfl ?_
          refine zr_getR C78 hC78 h0 zcX6 (k := 3) (by decide) zw_822 dX6_way_96 (n := 99) rfl (fun v76 => ?_)
          refine zr_iconst (3 : Int32) h0 (by decide) dX6_way_99 (n := 100) rfl ?_
          refine zr_iload_n h0 dX6_way_100 rfl (n := 101) rfl ?_
          refine zr_imul h0 dX6_way_101 (n := 102) rfl ?_
          refine zr_iload_n h0 dX6_way_102 rfl (n := 103) rfl ?_
          refine zr_iadd h0 dX6_way_103 (n := 104) rfl ?_
          refine zr_iaload C78 hC78 h0 dX6_way_104 (n := 105) rfl (fun v77 => ?_)
          refine zr_iastore C78 hC78 h0 dX6_way_105 (n := 106) rfl (fun S78 => ?_)
          refine zr_iinc (1 : Int32) [(0, .ref l0_29), (1, .int l1_29), (3, .int (t78.1 + (1 : Int32)))] h0 dX6_way_106 rfl (by decide) rfl rfl (n := 109) rfl ?_
          refine zr_goto (tgt := 78) h0 dX6_way_109 (by decide) ?_
          exact hL78 (t78.1 + (1 : Int32), S78)
      · refine zr_aload_n h0 dX6_way_45 rfl (n := 46) rfl ?_
        refine zr_getR C39 hC39 h0 zcX6 (k := 8) (by decide) zw_827 dX6_way_46 (n := 49) rfl (fun v79 => ?_)
        refine zr_bipush (64 : Int32) h0 (by decide) dX6_way_49 (n := 51) rfl ?_
        refine zr_aload_n h0 dX6_way_51 rfl (n := 52) rfl ?_
        refine zr_getI C39 hC39 h0 zcX6 (k := 6) (by decide) zw_825 dX6_way_52 (n := 55) rfl (fun v80 => ?_)
        refine zr_imul h0 dX6_way_55 (n := 56) rfl ?_
        refine zr_iload_n h0 dX6_way_56 rfl (n := 57) rfl ?_
        refine zr_iadd h0 dX6_way_57 (n := 58) rfl ?_
        refine zr_aload_n h0 dX6_way_58 rfl (n := 59) rfl ?_
        refine zr_getR C39 hC39 h0 zcX6 (k := 4) (by decide) zw_823 dX6_way_59 (n := 62) rfl (fun v81 => ?_)
        refine zr_bipush (64 : Int32) h0 (by decide) dX6_way_62 (n := 64) rfl ?_
        refine zr_iload_n h0 dX6_way_64 rfl (n := 65) rfl ?_
        refine zr_imul h0 dX6_way_65 (n := 66) rfl ?_
        refine zr_iload_n h0 dX6_way_66 rfl (n := 67) rfl ?_
        refine zr_iadd h0 dX6_way_67 (n := 68) rfl ?_
        refine zr_iaload C39 hC39 h0 dX6_way_68 (n := 69) rfl (fun v82 => ?_)
        refine zr_iastore C39 hC39 h0 dX6_way_69 (n := 70) rfl (fun S83 => ?_)
        refine zr_iinc (1 : Int32) [(0, .ref l0_29), (1, .int l1_29), (3, .int (t39.1 + (1 : Int32)))] h0 dX6_way_70 rfl (by decide) rfl rfl (n := 73) rfl ?_
        refine zr_goto (tgt := 39) h0 dX6_way_73 (by decide) ?_
        exact hL39 (t39.1 + (1 : Int32), S83)
  unfold fX6_way
  refine zr_aload_n h0 dX6_way_0 rfl (n := 1) rfl ?_
  refine zr_iload_n h0 dX6_way_1 rfl (n := 2) rfl ?_
  refine zr_cRI C hC 0 0 (fun x hx => zk_V h0 zcX6 (zcl_ex hx) (fun l D z0 => kX6_isCube l D z0 a0 a1 S x (zcl_of hx)) zw_928 zw_930 zs_38 zw_5 zw_931 rfl zyX6_isCube (As := [.int a1]) (st := []) rfl (by decide) rfl (Nat.le_of_ble_eq_true rfl) (by decide) dX6_way_2) rfl rfl (n := 5) rfl (fun x1 => ?_)
  refine zr_istore_n [(0, .ref a0), (1, .int a1), (2, .int x1)] h0 dX6_way_5 (by decide) rfl (n := 6) rfl ?_
  refine zr_aload_n h0 dX6_way_6 rfl (n := 7) rfl ?_
  refine zr_iload_n h0 dX6_way_7 rfl (n := 8) rfl ?_
  refine zr_if_ne C (tgt := 15) h0 dX6_way_8 (by decide) (n := 11) rfl ?_ ?_
  · refine zv_sub (lv' := [(0, .ref a0), (1, .int a1)]) ?_ (zsub_of [0, 1] rfl)
    refine zr_iconst (1 : Int32) h0 (by decide) dX6_way_11 (n := 12) rfl ?_
    refine zr_goto (tgt := 29) h0 dX6_way_12 (by decide) ?_
    exact J29 a0 a1 a0 (1 : Int32) S
  · refine zv_sub (lv' := [(0, .ref a0), (1, .int a1)]) ?_ (zsub_of [0, 1] rfl)
    refine zr_aload_n h0 dX6_way_15 rfl (n := 16) rfl ?_
    refine zr_getI C hC h0 zcX6 (k := 6) (by decide) zw_825 dX6_way_16 (n := 19) rfl (fun v61 => ?_)
    refine zr_bipush (16 : Int32) h0 (by decide) dX6_way_19 (n := 21) rfl ?_
    refine zr_icmp_ne C (tgt := 28) h0 dX6_way_21 (by decide) (n := 24) rfl ?_ ?_
    · refine zr_iconst (2 : Int32) h0 (by decide) dX6_way_24 (n := 25) rfl ?_
      refine zr_goto (tgt := 29) h0 dX6_way_25 (by decide) ?_
      exact J29 a0 a1 a0 (2 : Int32) S
    · refine zr_iconst (0 : Int32) h0 (by decide) dX6_way_28 (n := 29) rfl ?_
      exact J29 a0 a1 a0 (0 : Int32) S
theorem kX6_way (l : Launch) (D : ZD) (z0 : Nat) (a0 : Nat) (a1 : Int32) (S : ZS) (x : Int32 × ZS) (hf : fX6_way a0 a1 S = some x) : zMet l D z0 yX6_way cX6_way 4 (some .int) rmX6_way [.ref a0, .int a1] S (some (.int x.1)) x.2 :=
  zMet_of (by decide) (Nat.le_of_ble_eq_true rfl) (fun G h0 hini hE => wX6_way a0 a1 S h0 (fun o => o = some x) (fun h => nomatch h) (fun v S1 h => by cases h; exact hE)) hf
theorem dX6_codes_0 : decode cX6_codes 0 = .ok (.iconst 1, 1) := by decide +kernel
theorem dX6_codes_1 : decode cX6_codes 1 = .ok (.istore_n 3, 1) := by decide +kernel
theorem dX6_codes_2 : decode cX6_codes 2 = .ok (.iconst 0, 1) := by decide +kernel
theorem dX6_codes_3 : decode cX6_codes 3 = .ok (.istore 4, 2) := by decide +kernel
theorem dX6_codes_5 : decode cX6_codes 5 = .ok (.iload 4, 2) := by decide +kernel
theorem dX6_codes_7 : decode cX6_codes 7 = .ok (.aload_n 0, 1) := by decide +kernel
theorem dX6_codes_8 : decode cX6_codes 8 = .ok (.getfield 23, 3) := by decide +kernel
theorem dX6_codes_11 : decode cX6_codes 11 = .ok (.iconst 3, 1) := by decide +kernel
theorem dX6_codes_12 : decode cX6_codes 12 = .ok (.iload_n 1, 1) := by decide +kernel
theorem dX6_codes_13 : decode cX6_codes 13 = .ok (.imul, 1) := by decide +kernel
theorem dX6_codes_14 : decode cX6_codes 14 = .ok (.iload_n 2, 1) := by decide +kernel
theorem dX6_codes_15 : decode cX6_codes 15 = .ok (.iadd, 1) := by decide +kernel
theorem dX6_codes_16 : decode cX6_codes 16 = .ok (.iaload, 1) := by decide +kernel
theorem dX6_codes_17 : decode cX6_codes 17 = .ok (.if_icmp .ge 16, 3) := by decide +kernel
theorem dX6_codes_20 : decode cX6_codes 20 = .ok (.iload_n 3, 1) := by decide +kernel
theorem dX6_codes_21 : decode cX6_codes 21 = .ok (.aload_n 0, 1) := by decide +kernel
theorem dX6_codes_22 : decode cX6_codes 22 = .ok (.getfield 7, 3) := by decide +kernel
theorem dX6_codes_25 : decode cX6_codes 25 = .ok (.imul, 1) := by decide +kernel
theorem dX6_codes_26 : decode cX6_codes 26 = .ok (.istore_n 3, 1) := by decide +kernel
theorem dX6_codes_27 : decode cX6_codes 27 = .ok (.iinc 4 1, 3) := by decide +kernel
theorem dX6_codes_30 : decode cX6_codes 30 = .ok (.goto (-25), 3) := by decide +kernel
theorem dX6_codes_33 : decode cX6_codes 33 = .ok (.iload_n 3, 1) := by decide +kernel
theorem dX6_codes_34 : decode cX6_codes 34 = .ok (.ireturn, 1) := by decide +kernel
abbrev rmX6_codes : Room := { frames := 1, cells := 0, slots := 0, locals := 20 }
theorem zyX6_codes : zyOK yX6_codes 2 := ⟨by decide +kernel, by decide +kernel, by decide +kernel⟩
set_option maxHeartbeats 4000000 in
set_option maxRecDepth 100000 in
theorem wX6_codes {G : ZG} (a0 : Nat) (a1 : Int32) (a2 : Int32) (S : ZS) (h0 : zFix G cX6_codes RX6 5 (some .int) rmX6_codes) (C : Option Int32 → Prop) (hC : ¬ C none) (hE : ∀ v : Int32, C (some v) → zEnd G (some (.int v)) S rmX6_codes) : zV G 5 S 0 0 0 [(0, .ref a0), (1, .int a1), (2, .int a2)] [] (C (fX6_codes a0 a1 a2 S)) := by
  unfold fX6_codes
  refine zr_iconst (1 : Int32) h0 (by decide) dX6_codes_0 (n := 1) rfl ?_
  refine zr_istore_n [(0, .ref a0), (1, .int a1), (2, .int a2), (3, .int (1 : Int32))] h0 dX6_codes_1 (by decide) rfl (n := 2) rfl ?_
  refine zr_iconst (0 : Int32) h0 (by decide) dX6_codes_2 (n := 3) rfl ?_
  refine zr_istore [(0, .ref a0), (1, .int a1), (2, .int a2), (3, .int (1 : Int32)), (4, .int (0 : Int32))] h0 dX6_codes_3 (by decide) rfl (n := 5) rfl ?_
  refine zr_loop hC (fX6_codes_B5 a0 a1 a2 S) (fun y => [(0, .ref a0), (1, .int a1), (2, .int a2), (3, .int y.1), (4, .int y.2)]) (fun y => S) zF ((1 : Int32), (0 : Int32)) (fun C5 hC5 hX5 hL5 t5 => ?_)
  unfold fX6_codes_B5
  refine zr_iload h0 dX6_codes_5 rfl (n := 7) rfl ?_
  refine zr_aload_n h0 dX6_codes_7 rfl (n := 8) rfl ?_
  refine zr_getR C5 hC5 h0 zcX6 (k := 7) (by decide) zw_826 dX6_codes_8 (n := 11) rfl (fun v4 => ?_)
  refine zr_iconst (3 : Int32) h0 (by decide) dX6_codes_11 (n := 12) rfl ?_
  refine zr_iload_n h0 dX6_codes_12 rfl (n := 13) rfl ?_
  refine zr_imul h0 dX6_codes_13 (n := 14) rfl ?_
  refine zr_iload_n h0 dX6_codes_14 rfl (n := 15) rfl ?_
  refine zr_iadd h0 dX6_codes_15 (n := 16) rfl ?_
  refine zr_iaload C5 hC5 h0 dX6_codes_16 (n := 17) rfl (fun v5 => ?_)
  refine zr_icmp_ge C5 (tgt := 33) h0 dX6_codes_17 (by decide) (n := 20) rfl ?_ ?_
  · refine zr_ex hX5 ?_
    refine zv_sub (lv' := [(3, .int t5.1)]) ?_ (zsub_of [3] rfl)
    refine zr_iload_n h0 dX6_codes_33 rfl (n := 34) rfl ?_
    exact zr_iret h0 rfl dX6_codes_34 (hE _) (by decide) (by decide)
  · refine zr_iload_n h0 dX6_codes_20 rfl (n := 21) rfl ?_
    refine zr_aload_n h0 dX6_codes_21 rfl (n := 22) rfl ?_
    refine zr_getI C5 hC5 h0 zcX6 (k := 1) (by decide) zw_820 dX6_codes_22 (n := 25) rfl (fun v6 => ?_)
    refine zr_imul h0 dX6_codes_25 (n := 26) rfl ?_
    refine zr_istore_n [(0, .ref a0), (1, .int a1), (2, .int a2), (3, .int (t5.1 * v6)), (4, .int t5.2)] h0 dX6_codes_26 (by decide) rfl (n := 27) rfl ?_
    refine zr_iinc (1 : Int32) [(0, .ref a0), (1, .int a1), (2, .int a2), (3, .int (t5.1 * v6)), (4, .int (t5.2 + (1 : Int32)))] h0 dX6_codes_27 rfl (by decide) rfl rfl (n := 30) rfl ?_
    refine zr_goto (tgt := 5) h0 dX6_codes_30 (by decide) ?_
    exact hL5 (t5.1 * v6, t5.2 + (1 : Int32))
theorem kX6_codes (l : Launch) (D : ZD) (z0 : Nat) (a0 : Nat) (a1 : Int32) (a2 : Int32) (S : ZS) (x : Int32) (hf : fX6_codes a0 a1 a2 S = some x) : zMet l D z0 yX6_codes cX6_codes 5 (some .int) rmX6_codes [.ref a0, .int a1, .int a2] S (some (.int x)) S :=
  zMet_of (by decide) (Nat.le_of_ble_eq_true rfl) (fun G h0 hini hE => wX6_codes a0 a1 a2 S h0 (fun o => o = some x) (fun h => nomatch h) (fun v h => by cases h; exact hE)) hf
theorem dX6_isCode_0 : decode cX6_isCode 0 = .ok (.iload_n 3, 1) := by decide +kernel
theorem dX6_isCode_1 : decode cX6_isCode 1 = .ok (.iconst 0, 1) := by decide +kernel
theorem dX6_isCode_2 : decode cX6_isCode 2 = .ok (.aload_n 0, 1) := by decide +kernel
theorem dX6_isCode_3 : decode cX6_isCode 3 = .ok (.iload_n 1, 1) := by decide +kernel
theorem dX6_isCode_4 : decode cX6_isCode 4 = .ok (.iload_n 2, 1) := by decide +kernel
theorem dX6_isCode_5 : decode cX6_isCode 5 = .ok (.invokevirtual 92, 3) := by decide +kernel
theorem dX6_isCode_8 : decode cX6_isCode 8 = .ok (.iconst 1, 1) := by decide +kernel
theorem dX6_isCode_9 : decode cX6_isCode 9 = .ok (.isub, 1) := by decide +kernel
theorem dX6_isCode_10 : decode cX6_isCode 10 = .ok (.invokestatic 57, 3) := by decide +kernel
theorem dX6_isCode_13 : decode cX6_isCode 13 = .ok (.ireturn, 1) := by decide +kernel
abbrev rmX6_isCode : Room := { frames := 2, cells := 0, slots := 0, locals := 44 }
theorem zyX6_isCode : zyOK yX6_isCode 3 := ⟨by decide +kernel, by decide +kernel, by decide +kernel⟩
set_option maxHeartbeats 4000000 in
set_option maxRecDepth 100000 in
theorem wX6_isCode {G : ZG} (a0 : Nat) (a1 : Int32) (a2 : Int32) (a3 : Int32) (S : ZS) (h0 : zFix G cX6_isCode RX6 4 (some .boolean) rmX6_isCode) (C : Option Int32 → Prop) (hC : ¬ C none) (hE : ∀ v : Int32, C (some v) → zEnd G (some (.int v)) S rmX6_isCode) : zV G 4 S 0 0 0 [(0, .ref a0), (1, .int a1), (2, .int a2), (3, .int a3)] [] (C (fX6_isCode a0 a1 a2 a3 S)) := by
  unfold fX6_isCode
  refine zr_iload_n h0 dX6_isCode_0 rfl (n := 1) rfl ?_
  refine zr_iconst (0 : Int32) h0 (by decide) dX6_isCode_1 (n := 2) rfl ?_
  refine zr_aload_n h0 dX6_isCode_2 rfl (n := 3) rfl ?_
  refine zr_iload_n h0 dX6_isCode_3 rfl (n := 4) rfl ?_
  refine zr_iload_n h0 dX6_isCode_4 rfl (n := 5) rfl ?_
  refine zr_cRI C hC 0 0 (fun x hx => zk_V h0 zcX6 (zcl_ex hx) (fun l D z0 => kX6_codes l D z0 a0 a1 a2 S x (zcl_of hx)) zw_966 zw_968 zs_41 zw_5 zw_969 rfl zyX6_codes (As := [.int a1, .int a2]) (st := [.int (0 : Int32), .int a3]) rfl (by decide) rfl (Nat.le_of_ble_eq_true rfl) (by decide) dX6_isCode_5) rfl rfl (n := 8) rfl (fun x1 => ?_)
  refine zr_iconst (1 : Int32) h0 (by decide) dX6_isCode_8 (n := 9) rfl ?_
  refine zr_isub h0 dX6_isCode_9 (n := 10) rfl ?_
  refine zr_cRI C hC 0 0 (fun x hx => zk_S h0 (fun l D z0 => kX6_in l D z0 a3 (0 : Int32) (x1 - (1 : Int32)) S x hx) zw_898 zw_899 zw_5 zw_900 zyX6_in (As := [.int a3, .int (0 : Int32), .int (x1 - (1 : Int32))]) (st := []) rfl (by decide) rfl (Nat.le_of_ble_eq_true rfl) (by decide) dX6_isCode_10) rfl rfl (n := 13) rfl (fun x2 => ?_)
  exact zr_zret C hC h0 rfl dX6_isCode_13 (fun w h => hE _ h) (by decide) (by decide)
theorem kX6_isCode (l : Launch) (D : ZD) (z0 : Nat) (a0 : Nat) (a1 : Int32) (a2 : Int32) (a3 : Int32) (S : ZS) (x : Int32) (hf : fX6_isCode a0 a1 a2 a3 S = some x) : zMet l D z0 yX6_isCode cX6_isCode 4 (some .boolean) rmX6_isCode [.ref a0, .int a1, .int a2, .int a3] S (some (.int x)) S :=
  zMet_of (by decide) (Nat.le_of_ble_eq_true rfl) (fun G h0 hini hE => wX6_isCode a0 a1 a2 a3 S h0 (fun o => o = some x) (fun h => nomatch h) (fun v h => by cases h; exact hE)) hf
theorem dX6_from_0 : decode cX6_from 0 = .ok (.sipush 480, 3) := by decide +kernel
theorem dX6_from_3 : decode cX6_from 3 = .ok (.iload_n 0, 1) := by decide +kernel
theorem dX6_from_4 : decode cX6_from 4 = .ok (.imul, 1) := by decide +kernel
theorem dX6_from_5 : decode cX6_from 5 = .ok (.bipush 12, 2) := by decide +kernel
theorem dX6_from_7 : decode cX6_from 7 = .ok (.iload_n 1, 1) := by decide +kernel
theorem dX6_from_8 : decode cX6_from 8 = .ok (.imul, 1) := by decide +kernel
theorem dX6_from_9 : decode cX6_from 9 = .ok (.iadd, 1) := by decide +kernel
theorem dX6_from_10 : decode cX6_from 10 = .ok (.iconst 4, 1) := by decide +kernel
theorem dX6_from_11 : decode cX6_from 11 = .ok (.iload_n 2, 1) := by decide +kernel
theorem dX6_from_12 : decode cX6_from 12 = .ok (.imul, 1) := by decide +kernel
theorem dX6_from_13 : decode cX6_from 13 = .ok (.iadd, 1) := by decide +kernel
theorem dX6_from_14 : decode cX6_from 14 = .ok (.ireturn, 1) := by decide +kernel
abbrev rmX6_from : Room := { frames := 1, cells := 0, slots := 0, locals := 20 }
theorem zyX6_from : zyOK yX6_from 3 := ⟨by decide +kernel, by decide +kernel, by decide +kernel⟩
set_option maxHeartbeats 4000000 in
set_option maxRecDepth 100000 in
theorem wX6_from {G : ZG} (a0 : Int32) (a1 : Int32) (a2 : Int32) (S : ZS) (h0 : zFix G cX6_from RX6 3 (some .int) rmX6_from) (C : Option Int32 → Prop) (hC : ¬ C none) (hE : ∀ v : Int32, C (some v) → zEnd G (some (.int v)) S rmX6_from) : zV G 3 S 0 0 0 [(0, .int a0), (1, .int a1), (2, .int a2)] [] (C (fX6_from a0 a1 a2)) := by
  unfold fX6_from
  refine zr_sipush (480 : Int32) h0 (by decide) dX6_from_0 (n := 3) rfl ?_
  refine zr_iload_n h0 dX6_from_3 rfl (n := 4) rfl ?_
  refine zr_imul h0 dX6_from_4 (n := 5) rfl ?_
  refine zr_bipush (12 : Int32) h0 (by decide) dX6_from_5 (n := 7) rfl ?_
  refine zr_iload_n h0 dX6_from_7 rfl (n := 8) rfl ?_
  refine zr_imul h0 dX6_from_8 (n := 9) rfl ?_
  refine zr_iadd h0 dX6_from_9 (n := 10) rfl ?_
  refine zr_iconst (4 : Int32) h0 (by decide) dX6_from_10 (n := 11) rfl ?_
  refine zr_iload_n h0 dX6_from_11 rfl (n := 12) rfl ?_
  refine zr_imul h0 dX6_from_12 (n := 13) rfl ?_
  refine zr_iadd h0 dX6_from_13 (n := 14) rfl ?_
  exact zr_iret h0 rfl dX6_from_14 (hE _) (by decide) (by decide)
theorem kX6_from (l : Launch) (D : ZD) (z0 : Nat) (a0 : Int32) (a1 : Int32) (a2 : Int32) (S : ZS) (x : Int32) (hf : fX6_from a0 a1 a2 = some x) : zMet l D z0 yX6_from cX6_from 3 (some .int) rmX6_from [.int a0, .int a1, .int a2] S (some (.int x)) S :=
  zMet_of (by decide) (Nat.le_of_ble_eq_true rfl) (fun G h0 hini hE => wX6_from a0 a1 a2 S h0 (fun o => o = some x) (fun h => nomatch h) (fun v h => by cases h; exact hE)) hf
theorem dX6_decode_0 : decode cX6_decode 0 = .ok (.iload 4, 2) := by decide +kernel
theorem dX6_decode_2 : decode cX6_decode 2 = .ok (.istore 5, 2) := by decide +kernel
theorem dX6_decode_4 : decode cX6_decode 4 = .ok (.aload_n 0, 1) := by decide +kernel
theorem dX6_decode_5 : decode cX6_decode 5 = .ok (.getfield 23, 3) := by decide +kernel
theorem dX6_decode_8 : decode cX6_decode 8 = .ok (.iconst 3, 1) := by decide +kernel
theorem dX6_decode_9 : decode cX6_decode 9 = .ok (.iload_n 1, 1) := by decide +kernel
theorem dX6_decode_10 : decode cX6_decode 10 = .ok (.imul, 1) := by decide +kernel
theorem dX6_decode_11 : decode cX6_decode 11 = .ok (.iload_n 3, 1) := by decide +kernel
theorem dX6_decode_12 : decode cX6_decode 12 = .ok (.iadd, 1) := by decide +kernel
theorem dX6_decode_13 : decode cX6_decode 13 = .ok (.iaload, 1) := by decide +kernel
theorem dX6_decode_14 : decode cX6_decode 14 = .ok (.iconst 1, 1) := by decide +kernel
theorem dX6_decode_15 : decode cX6_decode 15 = .ok (.isub, 1) := by decide +kernel
theorem dX6_decode_16 : decode cX6_decode 16 = .ok (.istore 6, 2) := by decide +kernel
theorem dX6_decode_18 : decode cX6_decode 18 = .ok (.iload 6, 2) := by decide +kernel
theorem dX6_decode_20 : decode cX6_decode 20 = .ok (.ifCond .lt 39, 3) := by decide +kernel
theorem dX6_decode_23 : decode cX6_decode 23 = .ok (.aload_n 0, 1) := by decide +kernel
theorem dX6_decode_24 : decode cX6_decode 24 = .ok (.getfield 35, 3) := by decide +kernel
theorem dX6_decode_27 : decode cX6_decode 27 = .ok (.iload_n 1, 1) := by decide +kernel
theorem dX6_decode_28 : decode cX6_decode 28 = .ok (.iload_n 2, 1) := by decide +kernel
theorem dX6_decode_29 : decode cX6_decode 29 = .ok (.iload_n 3, 1) := by decide +kernel
theorem dX6_decode_30 : decode cX6_decode 30 = .ok (.invokestatic 96, 3) := by decide +kernel
theorem dX6_decode_33 : decode cX6_decode 33 = .ok (.iload 6, 2) := by decide +kernel
theorem dX6_decode_35 : decode cX6_decode 35 = .ok (.iadd, 1) := by decide +kernel
theorem dX6_decode_36 : decode cX6_decode 36 = .ok (.iload 5, 2) := by decide +kernel
theorem dX6_decode_38 : decode cX6_decode 38 = .ok (.aload_n 0, 1) := by decide +kernel
theorem dX6_decode_39 : decode cX6_decode 39 = .ok (.getfield 7, 3) := by decide +kernel
theorem dX6_decode_42 : decode cX6_decode 42 = .ok (.irem, 1) := by decide +kernel
theorem dX6_decode_43 : decode cX6_decode 43 = .ok (.iastore, 1) := by decide +kernel
theorem dX6_decode_44 : decode cX6_decode 44 = .ok (.iload 5, 2) := by decide +kernel
theorem dX6_decode_46 : decode cX6_decode 46 = .ok (.aload_n 0, 1) := by decide +kernel
theorem dX6_decode_47 : decode cX6_decode 47 = .ok (.getfield 7, 3) := by decide +kernel
theorem dX6_decode_50 : decode cX6_decode 50 = .ok (.idiv, 1) := by decide +kernel
theorem dX6_decode_51 : decode cX6_decode 51 = .ok (.istore 5, 2) := by decide +kernel
theorem dX6_decode_53 : decode cX6_decode 53 = .ok (.iinc 6 (-1), 3) := by decide +kernel
theorem dX6_decode_56 : decode cX6_decode 56 = .ok (.goto (-38), 3) := by decide +kernel
theorem dX6_decode_59 : decode cX6_decode 59 = .ok (.return_, 1) := by decide +kernel
abbrev rmX6_decode : Room := { frames := 2, cells := 0, slots := 0, locals := 42 }
theorem zyX6_decode : zyOK yX6_decode 4 := ⟨by decide +kernel, by decide +kernel, by decide +kernel⟩
set_option maxHeartbeats 4000000 in
set_option maxRecDepth 100000 in
theorem wX6_decode {G : ZG} (a0 : Nat) (a1 : Int32) (a2 : Int32) (a3 : Int32) (a4 : Int32) (S : ZS) (h0 : zFix G cX6_decode RX6 7 none rmX6_decode) (C : Option ZS → Prop) (hC : ¬ C none) (hE : ∀ S1 : ZS, C (some S1) → zEnd G none S1 rmX6_decode) : zV G 7 S 0 0 0 [(0, .ref a0), (1, .int a1), (2, .int a2), (3, .int a3), (4, .int a4)] [] (C (fX6_decode a0 a1 a2 a3 a4 S)) := by
  unfold fX6_decode
  refine zr_iload h0 dX6_decode_0 rfl (n := 2) rfl ?_
  refine zr_istore [(0, .ref a0), (1, .int a1), (2, .int a2), (3, .int a3), (4, .int a4), (5, .int a4)] h0 dX6_decode_2 (by decide) rfl (n := 4) rfl ?_
  refine zr_aload_n h0 dX6_decode_4 rfl (n := 5) rfl ?_
  refine zr_getR C hC h0 zcX6 (k := 7) (by decide) zw_826 dX6_decode_5 (n := 8) rfl (fun v1 => ?_)
  refine zr_iconst (3 : Int32) h0 (by decide) dX6_decode_8 (n := 9) rfl ?_
  refine zr_iload_n h0 dX6_decode_9 rfl (n := 10) rfl ?_
  refine zr_imul h0 dX6_decode_10 (n := 11) rfl ?_
  refine zr_iload_n h0 dX6_decode_11 rfl (n := 12) rfl ?_
  refine zr_iadd h0 dX6_decode_12 (n := 13) rfl ?_
  refine zr_iaload C hC h0 dX6_decode_13 (n := 14) rfl (fun v2 => ?_)
  refine zr_iconst (1 : Int32) h0 (by decide) dX6_decode_14 (n := 15) rfl ?_
  refine zr_isub h0 dX6_decode_15 (n := 16) rfl ?_
  refine zr_istore [(0, .ref a0), (1, .int a1), (2, .int a2), (3, .int a3), (4, .int a4), (5, .int a4), (6, .int (v2 - (1 : Int32)))] h0 dX6_decode_16 (by decide) rfl (n := 18) rfl ?_
  refine zv_sub (lv' := [(0, .ref a0), (1, .int a1), (2, .int a2), (3, .int a3), (5, .int a4), (6, .int (v2 - (1 : Int32)))]) ?_ (zsub_of [0, 1, 2, 3, 5, 6] rfl)
  refine zr_loop hC (fX6_decode_B18 a0 a1 a2 a3) (fun y => [(0, .ref a0), (1, .int a1), (2, .int a2), (3, .int a3), (5, .int y.1), (6, .int y.2.1)]) (fun y => y.2.2) zF (a4, v2 - (1 : Int32), S) (fun C18 hC18 hX18 hL18 t18 => ?_)
  unfold fX6_decode_B18
  refine zr_iload h0 dX6_decode_18 rfl (n := 20) rfl ?_
  refine zr_if_lt C18 (tgt := 59) h0 dX6_decode_20 (by decide) (n := 23) rfl ?_ ?_
  · refine zr_ex hX18 ?_
    refine zv_sub (lv' := []) ?_ (zsub_of [] rfl)
    exact zr_vret h0 rfl dX6_decode_59 (fun h => hE _ h) (by decide) (by decide)
  · refine zr_aload_n h0 dX6_decode_23 rfl (n := 24) rfl ?_
    refine zr_getR C18 hC18 h0 zcX6 (k := 11) (by decide) zw_830 dX6_decode_24 (n := 27) rfl (fun v10 => ?_)
    refine zr_iload_n h0 dX6_decode_27 rfl (n := 28) rfl ?_
    refine zr_iload_n h0 dX6_decode_28 rfl (n := 29) rfl ?_
    refine zr_iload_n h0 dX6_decode_29 rfl (n := 30) rfl ?_
    refine zr_cRI C18 hC18 0 0 (fun x hx => zk_S h0 (fun l D z0 => kX6_from l D z0 a1 a2 a3 t18.2.2 x hx) zw_974 zw_975 zw_5 zw_976 zyX6_from (As := [.int a1, .int a2, .int a3]) (st := [.ref v10]) rfl (by decide) rfl (Nat.le_of_ble_eq_true rfl) (by decide) dX6_decode_30) rfl rfl (n := 33) rfl (fun x11 => ?_)
    refine zr_iload h0 dX6_decode_33 rfl (n := 35) rfl ?_
    refine zr_iadd h0 dX6_decode_35 (n := 36) rfl ?_
    refine zr_iload h0 dX6_decode_36 rfl (n := 38) rfl ?_
    refine zr_aload_n h0 dX6_decode_38 rfl (n := 39) rfl ?_
    refine zr_getI C18 hC18 h0 zcX6 (k := 1) (by decide) zw_820 dX6_decode_39 (n := 42) rfl (fun v12 => ?_)
    refine zr_irem C18 hC18 h0 dX6_decode_42 (n := 43) rfl (fun v13 => ?_)
    refine zr_iastore C18 hC18 h0 dX6_decode_43 (n := 44) rfl (fun S14 => ?_)
    refine zr_iload h0 dX6_decode_44 rfl (n := 46) rfl ?_
    refine zr_aload_n h0 dX6_decode_46 rfl (n := 47) rfl ?_
    refine zr_getI C18 hC18 h0 zcX6 (k := 1) (by decide) zw_820 dX6_decode_47 (n := 50) rfl (fun v15 => ?_)
    refine zr_idiv C18 hC18 h0 dX6_decode_50 (n := 51) rfl (fun v16 => ?_)
    refine zr_istore [(0, .ref a0), (1, .int a1), (2, .int a2), (3, .int a3), (5, .int v16), (6, .int t18.2.1)] h0 dX6_decode_51 (by decide) rfl (n := 53) rfl ?_
    refine zr_iinc (-1 : Int32) [(0, .ref a0), (1, .int a1), (2, .int a2), (3, .int a3), (5, .int v16), (6, .int (t18.2.1 + (-1 : Int32)))] h0 dX6_decode_53 rfl (by decide) rfl rfl (n := 56) rfl ?_
    refine zr_goto (tgt := 18) h0 dX6_decode_56 (by decide) ?_
    exact hL18 (v16, t18.2.1 + (-1 : Int32), S14)
theorem kX6_decode (l : Launch) (D : ZD) (z0 : Nat) (a0 : Nat) (a1 : Int32) (a2 : Int32) (a3 : Int32) (a4 : Int32) (S : ZS) (x : ZS) (hf : fX6_decode a0 a1 a2 a3 a4 S = some x) : zMet l D z0 yX6_decode cX6_decode 7 none rmX6_decode [.ref a0, .int a1, .int a2, .int a3, .int a4] S none x :=
  zMet_of (by decide) (Nat.le_of_ble_eq_true rfl) (fun G h0 hini hE => wX6_decode a0 a1 a2 a3 a4 S h0 (fun o => o = some x) (fun h => nomatch h) (fun S1 h => by cases h; exact hE)) hf
theorem dX6_multiply_0 : decode cX6_multiply 0 = .ok (.aload_n 0, 1) := by decide +kernel
theorem dX6_multiply_1 : decode cX6_multiply 1 = .ok (.iload_n 1, 1) := by decide +kernel
theorem dX6_multiply_2 : decode cX6_multiply 2 = .ok (.invokevirtual 99, 3) := by decide +kernel
theorem dX6_multiply_5 : decode cX6_multiply 5 = .ok (.istore 5, 2) := by decide +kernel
theorem dX6_multiply_7 : decode cX6_multiply 7 = .ok (.iload 5, 2) := by decide +kernel
theorem dX6_multiply_9 : decode cX6_multiply 9 = .ok (.ifCond .eq 38, 3) := by decide +kernel
theorem dX6_multiply_12 : decode cX6_multiply 12 = .ok (.aload_n 0, 1) := by decide +kernel
theorem dX6_multiply_13 : decode cX6_multiply 13 = .ok (.iload_n 1, 1) := by decide +kernel
theorem dX6_multiply_14 : decode cX6_multiply 14 = .ok (.iconst 0, 1) := by decide +kernel
theorem dX6_multiply_15 : decode cX6_multiply 15 = .ok (.iload_n 2, 1) := by decide +kernel
theorem dX6_multiply_16 : decode cX6_multiply 16 = .ok (.invokevirtual 102, 3) := by decide +kernel
theorem dX6_multiply_19 : decode cX6_multiply 19 = .ok (.ifCond .eq 28, 3) := by decide +kernel
theorem dX6_multiply_22 : decode cX6_multiply 22 = .ok (.aload_n 0, 1) := by decide +kernel
theorem dX6_multiply_23 : decode cX6_multiply 23 = .ok (.iload_n 1, 1) := by decide +kernel
theorem dX6_multiply_24 : decode cX6_multiply 24 = .ok (.iconst 1, 1) := by decide +kernel
theorem dX6_multiply_25 : decode cX6_multiply 25 = .ok (.iload_n 3, 1) := by decide +kernel
theorem dX6_multiply_26 : decode cX6_multiply 26 = .ok (.invokevirtual 102, 3) := by decide +kernel
theorem dX6_multiply_29 : decode cX6_multiply 29 = .ok (.ifCond .eq 18, 3) := by decide +kernel
theorem dX6_multiply_32 : decode cX6_multiply 32 = .ok (.aload_n 0, 1) := by decide +kernel
theorem dX6_multiply_33 : decode cX6_multiply 33 = .ok (.iload_n 1, 1) := by decide +kernel
theorem dX6_multiply_34 : decode cX6_multiply 34 = .ok (.iconst 2, 1) := by decide +kernel
theorem dX6_multiply_35 : decode cX6_multiply 35 = .ok (.iload 4, 2) := by decide +kernel
theorem dX6_multiply_37 : decode cX6_multiply 37 = .ok (.invokevirtual 102, 3) := by decide +kernel
theorem dX6_multiply_40 : decode cX6_multiply 40 = .ok (.ifCond .eq 7, 3) := by decide +kernel
theorem dX6_multiply_43 : decode cX6_multiply 43 = .ok (.iconst 1, 1) := by decide +kernel
theorem dX6_multiply_44 : decode cX6_multiply 44 = .ok (.goto 4, 3) := by decide +kernel
theorem dX6_multiply_47 : decode cX6_multiply 47 = .ok (.iconst 0, 1) := by decide +kernel
theorem dX6_multiply_48 : decode cX6_multiply 48 = .ok (.istore 6, 2) := by decide +kernel
theorem dX6_multiply_50 : decode cX6_multiply 50 = .ok (.aload_n 0, 1) := by decide +kernel
theorem dX6_multiply_51 : decode cX6_multiply 51 = .ok (.iload 5, 2) := by decide +kernel
theorem dX6_multiply_53 : decode cX6_multiply 53 = .ok (.ifCond .ne 7, 3) := by decide +kernel
theorem dX6_multiply_56 : decode cX6_multiply 56 = .ok (.iconst 1, 1) := by decide +kernel
theorem dX6_multiply_57 : decode cX6_multiply 57 = .ok (.goto 28, 3) := by decide +kernel
theorem dX6_multiply_60 : decode cX6_multiply 60 = .ok (.iload 6, 2) := by decide +kernel
theorem dX6_multiply_62 : decode cX6_multiply 62 = .ok (.ifCond .ne 7, 3) := by decide +kernel
theorem dX6_multiply_65 : decode cX6_multiply 65 = .ok (.iconst 2, 1) := by decide +kernel
theorem dX6_multiply_66 : decode cX6_multiply 66 = .ok (.goto 19, 3) := by decide +kernel
theorem dX6_multiply_69 : decode cX6_multiply 69 = .ok (.aload_n 0, 1) := by decide +kernel
theorem dX6_multiply_70 : decode cX6_multiply 70 = .ok (.getfield 32, 3) := by decide +kernel
theorem dX6_multiply_73 : decode cX6_multiply 73 = .ok (.iload_n 1, 1) := by decide +kernel
theorem dX6_multiply_74 : decode cX6_multiply 74 = .ok (.iaload, 1) := by decide +kernel
theorem dX6_multiply_75 : decode cX6_multiply 75 = .ok (.bipush 40, 2) := by decide +kernel
theorem dX6_multiply_77 : decode cX6_multiply 77 = .ok (.if_icmp .ne 7, 3) := by decide +kernel
theorem dX6_multiply_80 : decode cX6_multiply 80 = .ok (.iconst 3, 1) := by decide +kernel
theorem dX6_multiply_81 : decode cX6_multiply 81 = .ok (.goto 4, 3) := by decide +kernel
theorem dX6_multiply_84 : decode cX6_multiply 84 = .ok (.iconst 0, 1) := by decide +kernel
theorem dX6_multiply_85 : decode cX6_multiply 85 = .ok (.invokevirtual 64, 3) := by decide +kernel
theorem dX6_multiply_88 : decode cX6_multiply 88 = .ok (.ifCond .ne 5, 3) := by decide +kernel
theorem dX6_multiply_91 : decode cX6_multiply 91 = .ok (.iconst 0, 1) := by decide +kernel
theorem dX6_multiply_92 : decode cX6_multiply 92 = .ok (.ireturn, 1) := by decide +kernel
theorem dX6_multiply_93 : decode cX6_multiply 93 = .ok (.aload_n 0, 1) := by decide +kernel
theorem dX6_multiply_94 : decode cX6_multiply 94 = .ok (.getfield 32, 3) := by decide +kernel
theorem dX6_multiply_97 : decode cX6_multiply 97 = .ok (.iload_n 1, 1) := by decide +kernel
theorem dX6_multiply_98 : decode cX6_multiply 98 = .ok (.iaload, 1) := by decide +kernel
theorem dX6_multiply_99 : decode cX6_multiply 99 = .ok (.istore 7, 2) := by decide +kernel
theorem dX6_multiply_101 : decode cX6_multiply 101 = .ok (.aload_n 0, 1) := by decide +kernel
theorem dX6_multiply_102 : decode cX6_multiply 102 = .ok (.getfield 32, 3) := by decide +kernel
theorem dX6_multiply_105 : decode cX6_multiply 105 = .ok (.iload_n 1, 1) := by decide +kernel
theorem dX6_multiply_106 : decode cX6_multiply 106 = .ok (.dup2, 1) := by decide +kernel
theorem dX6_multiply_107 : decode cX6_multiply 107 = .ok (.iaload, 1) := by decide +kernel
theorem dX6_multiply_108 : decode cX6_multiply 108 = .ok (.iconst 1, 1) := by decide +kernel
theorem dX6_multiply_109 : decode cX6_multiply 109 = .ok (.iadd, 1) := by decide +kernel
theorem dX6_multiply_110 : decode cX6_multiply 110 = .ok (.iastore, 1) := by decide +kernel
theorem dX6_multiply_111 : decode cX6_multiply 111 = .ok (.aload_n 0, 1) := by decide +kernel
theorem dX6_multiply_112 : decode cX6_multiply 112 = .ok (.iload_n 1, 1) := by decide +kernel
theorem dX6_multiply_113 : decode cX6_multiply 113 = .ok (.iload 7, 2) := by decide +kernel
theorem dX6_multiply_115 : decode cX6_multiply 115 = .ok (.iconst 0, 1) := by decide +kernel
theorem dX6_multiply_116 : decode cX6_multiply 116 = .ok (.iload_n 2, 1) := by decide +kernel
theorem dX6_multiply_117 : decode cX6_multiply 117 = .ok (.invokevirtual 105, 3) := by decide +kernel
theorem dX6_multiply_120 : decode cX6_multiply 120 = .ok (.aload_n 0, 1) := by decide +kernel
theorem dX6_multiply_121 : decode cX6_multiply 121 = .ok (.iload_n 1, 1) := by decide +kernel
theorem dX6_multiply_122 : decode cX6_multiply 122 = .ok (.iload 7, 2) := by decide +kernel
theorem dX6_multiply_124 : decode cX6_multiply 124 = .ok (.iconst 1, 1) := by decide +kernel
theorem dX6_multiply_125 : decode cX6_multiply 125 = .ok (.iload_n 3, 1) := by decide +kernel
theorem dX6_multiply_126 : decode cX6_multiply 126 = .ok (.invokevirtual 105, 3) := by decide +kernel
theorem dX6_multiply_129 : decode cX6_multiply 129 = .ok (.aload_n 0, 1) := by decide +kernel
theorem dX6_multiply_130 : decode cX6_multiply 130 = .ok (.iload_n 1, 1) := by decide +kernel
theorem dX6_multiply_131 : decode cX6_multiply 131 = .ok (.iload 7, 2) := by decide +kernel
theorem dX6_multiply_133 : decode cX6_multiply 133 = .ok (.iconst 2, 1) := by decide +kernel
theorem dX6_multiply_134 : decode cX6_multiply 134 = .ok (.iload 4, 2) := by decide +kernel
theorem dX6_multiply_136 : decode cX6_multiply 136 = .ok (.invokevirtual 105, 3) := by decide +kernel
theorem dX6_multiply_139 : decode cX6_multiply 139 = .ok (.aload_n 0, 1) := by decide +kernel
theorem dX6_multiply_140 : decode cX6_multiply 140 = .ok (.getfield 32, 3) := by decide +kernel
theorem dX6_multiply_143 : decode cX6_multiply 143 = .ok (.iload_n 1, 1) := by decide +kernel
theorem dX6_multiply_144 : decode cX6_multiply 144 = .ok (.iaload, 1) := by decide +kernel
theorem dX6_multiply_145 : decode cX6_multiply 145 = .ok (.ireturn, 1) := by decide +kernel
abbrev rmX6_multiply : Room := { frames := 3, cells := 0, slots := 0, locals := 68 }
theorem zyX6_multiply : zyOK yX6_multiply 4 := ⟨by decide +kernel, by decide +kernel, by decide +kernel⟩
set_option maxHeartbeats 4000000 in
set_option maxRecDepth 100000 in
theorem wX6_multiply {G : ZG} (a0 : Nat) (a1 : Int32) (a2 : Int32) (a3 : Int32) (a4 : Int32) (S : ZS) (h0 : zFix G cX6_multiply RX6 8 (some .int) rmX6_multiply) (C : Option (Int32 × ZS) → Prop) (hC : ¬ C none) (hE : ∀ (v : Int32) (S1 : ZS), C (some (v, S1)) → zEnd G (some (.int v)) S1 rmX6_multiply) : zV G 8 S 0 0 0 [(0, .ref a0), (1, .int a1), (2, .int a2), (3, .int a3), (4, .int a4)] [] (C (fX6_multiply a0 a1 a2 a3 a4 S)) := by
  have J85 : ∀ (l0_85 : Nat) (l1_85 : Int32) (l2_85 : Int32) (l3_85 : Int32) (l4_85 : Int32) (s0_85 : Nat) (s1_85 : Int32) (S_85 : ZS), zV G 8 S_85 0 0 85 [(0, .ref l0_85), (1, .int l1_85), (2, .int l2_85), (3, .int l3_85), (4, .int l4_85)] [.int s1_85, .ref s0_85] (C (fX6_multiply_J85 l0_85 l1_85 l2_85 l3_85 l4_85 s0_85 s1_85 S_85)) := by
    intro l0_85 l1_85 l2_85 l3_85 l4_85 s0_85 s1_85 S_85
    unfold fX6_multiply_J85
    refine zr_cMI C hC 0 0 (fun x hx => zk_V h0 zcX6 (zcl_ex hx) (fun l D z0 => kX6_goesWell l D z0 s0_85 s1_85 S_85 x (zcl_of hx)) zw_886 zw_888 zs_34 zw_5 zw_889 rfl zyX6_goesWell (As := [.int s1_85]) (st := []) rfl (by decide) rfl (Nat.le_of_ble_eq_true rfl) (by decide) dX6_multiply_85) rfl rfl (n := 88) rfl (fun x18 => ?_)
    refine zr_if_ne C (tgt := 93) h0 dX6_multiply_88 (by decide) (n := 91) rfl ?_ ?_
    · refine zv_sub (lv' := []) ?_ (zsub_of [] rfl)
      refine zr_iconst (0 : Int32) h0 (by decide) dX6_multiply_91 (n := 92) rfl ?_
      exact zr_iret h0 rfl dX6_multiply_92 (hE _ _) (by decide) (by decide)
    · refine zr_aload_n h0 dX6_multiply_93 rfl (n := 94) rfl ?_
      refine zr_getR C hC h0 zcX6 (k := 10) (by decide) zw_829 dX6_multiply_94 (n := 97) rfl (fun v19 => ?_)
      refine zr_iload_n h0 dX6_multiply_97 rfl (n := 98) rfl ?_
      refine zr_iaload C hC h0 dX6_multiply_98 (n := 99) rfl (fun v20 => ?_)
      refine zr_istore [(0, .ref l0_85), (1, .int l1_85), (2, .int l2_85), (3, .int l3_85), (4, .int l4_85), (7, .int v20)] h0 dX6_multiply_99 (by decide) rfl (n := 101) rfl ?_
      refine zr_aload_n h0 dX6_multiply_101 rfl (n := 102) rfl ?_
      refine zr_getR C hC h0 zcX6 (k := 10) (by decide) zw_829 dX6_multiply_102 (n := 105) rfl (fun v21 => ?_)
      refine zr_iload_n h0 dX6_multiply_105 rfl (n := 106) rfl ?_
      refine zr_dup2 h0 rfl rfl dX6_multiply_106 (n := 107) rfl ?_
      refine zr_iaload C hC h0 dX6_multiply_107 (n := 108) rfl (fun v22 => ?_)
      refine zr_iconst (1 : Int32) h0 (by decide) dX6_multiply_108 (n := 109) rfl ?_
      refine zr_iadd h0 dX6_multiply_109 (n := 110) rfl ?_
      refine zr_iastore C hC h0 dX6_multiply_110 (n := 111) rfl (fun S23 => ?_)
      refine zr_aload_n h0 dX6_multiply_111 rfl (n := 112) rfl ?_
      refine zr_iload_n h0 dX6_multiply_112 rfl (n := 113) rfl ?_
      refine zr_iload h0 dX6_multiply_113 rfl (n := 115) rfl ?_
      refine zr_iconst (0 : Int32) h0 (by decide) dX6_multiply_115 (n := 116) rfl ?_
      refine zr_iload_n h0 dX6_multiply_116 rfl (n := 117) rfl ?_
      refine zr_cMV C hC 0 0 (fun x hx => zk_V h0 zcX6 (zcl_ex hx) (fun l D z0 => kX6_decode l D z0 l0_85 l1_85 v20 (0 : Int32) l2_85 S23 x (zcl_of hx)) zw_970 zw_972 zs_42 zw_5 zw_973 rfl zyX6_decode (As := [.int l1_85, .int v20, .int (0 : Int32), .int l2_85]) (st := []) rfl (by decide) rfl (Nat.le_of_ble_eq_true rfl) (by decide) dX6_multiply_117) rfl rfl (n := 120) rfl (fun x24 => ?_)
      refine zr_aload_n h0 dX6_multiply_120 rfl (n := 121) rfl ?_
      refine zr_iload_n h0 dX6_multiply_121 rfl (n := 122) rfl ?_
      refine zr_iload h0 dX6_multiply_122 rfl (n := 124) rfl ?_
      refine zr_iconst (1 : Int32) h0 (by decide) dX6_multiply_124 (n := 125) rfl ?_
      refine zr_iload_n h0 dX6_multiply_125 rfl (n := 126) rfl ?_
      refine zr_cMV C hC 0 0 (fun x hx => zk_V h0 zcX6 (zcl_ex hx) (fun l D z0 => kX6_decode l D z0 l0_85 l1_85 v20 (1 : Int32) l3_85 x24 x (zcl_of hx)) zw_970 zw_972 zs_42 zw_5 zw_973 rfl zyX6_decode (As := [.int l1_85, .int v20, .int (1 : Int32), .int l3_85]) (st := []) rfl (by decide) rfl (Nat.le_of_ble_eq_true rfl) (by decide) dX6_multiply_126) rfl rfl (n := 129) rfl (fun x25 => ?_)
      refine zr_aload_n h0 dX6_multiply_129 rfl (n := 130) rfl ?_
      refine zr_iload_n h0 dX6_multiply_130 rfl (n := 131) rfl ?_
      refine zr_iload h0 dX6_multiply_131 rfl (n := 133) rfl ?_
      refine zr_iconst (2 : Int32) h0 (by decide) dX6_multiply_133 (n := 134) rfl ?_
      refine zr_iload h0 dX6_multiply_134 rfl (n := 136) rfl ?_
      refine zr_cMV C hC 0 0 (fun x hx => zk_V h0 zcX6 (zcl_ex hx) (fun l D z0 => kX6_decode l D z0 l0_85 l1_85 v20 (2 : Int32) l4_85 x25 x (zcl_of hx)) zw_970 zw_972 zs_42 zw_5 zw_973 rfl zyX6_decode (As := [.int l1_85, .int v20, .int (2 : Int32), .int l4_85]) (st := []) rfl (by decide) rfl (Nat.le_of_ble_eq_true rfl) (by decide) dX6_multiply_136) rfl rfl (n := 139) rfl (fun x26 => ?_)
      refine zr_aload_n h0 dX6_multiply_139 rfl (n := 140) rfl ?_
      refine zr_getR C hC h0 zcX6 (k := 10) (by decide) zw_829 dX6_multiply_140 (n := 143) rfl (fun v27 => ?_)
      refine zr_iload_n h0 dX6_multiply_143 rfl (n := 144) rfl ?_
      refine zr_iaload C hC h0 dX6_multiply_144 (n := 145) rfl (fun v28 => ?_)
      exact zr_iret h0 rfl dX6_multiply_145 (hE _ _) (by decide) (by decide)
  have J48 : ∀ (l0_48 : Nat) (l1_48 : Int32) (l2_48 : Int32) (l3_48 : Int32) (l4_48 : Int32) (l5_48 : Int32) (s0_48 : Int32) (S_48 : ZS), zV G 8 S_48 0 0 48 [(0, .ref l0_48), (1, .int l1_48), (2, .int l2_48), (3, .int l3_48), (4, .int l4_48), (5, .int l5_48)] [.int s0_48] (C (fX6_multiply_J48 l0_48 l1_48 l2_48 l3_48 l4_48 l5_48 s0_48 S_48)) := by
    intro l0_48 l1_48 l2_48 l3_48 l4_48 l5_48 s0_48 S_48
    unfold fX6_multiply_J48
    refine zr_istore [(0, .ref l0_48), (1, .int l1_48), (2, .int l2_48), (3, .int l3_48), (4, .int l4_48), (5, .int l5_48), (6, .int s0_48)] h0 dX6_multiply_48 (by decide) rfl (n := 50) rfl ?_
    refine zr_aload_n h0 dX6_multiply_50 rfl (n := 51) rfl ?_
    refine zr_iload h0 dX6_multiply_51 rfl (n := 53) rfl ?_
    refine zr_if_ne C (tgt := 60) h0 dX6_multiply_53 (by decide) (n := 56) rfl ?_ ?_
    · refine zv_sub (lv' := [(0, .ref l0_48), (1, .int l1_48), (2, .int l2_48), (3, .int l3_48), (4, .int l4_48)]) ?_ (zsub_of [0, 1, 2, 3, 4] rfl)
      refine zr_iconst (1 : Int32) h0 (by decide) dX6_multiply_56 (n := 57) rfl ?_
      refine zr_goto (tgt := 85) h0 dX6_multiply_57 (by decide) ?_
      exact J85 l0_48 l1_48 l2_48 l3_48 l4_48 l0_48 (1 : Int32) S_48
    · refine zv_sub (lv' := [(0, .ref l0_48), (1, .int l1_48), (2, .int l2_48), (3, .int l3_48), (4, .int l4_48), (6, .int s0_48)]) ?_ (zsub_of [0, 1, 2, 3, 4, 6] rfl)
      refine zr_iload h0 dX6_multiply_60 rfl (n := 62) rfl ?_
      refine zr_if_ne C (tgt := 69) h0 dX6_multiply_62 (by decide) (n := 65) rfl ?_ ?_
      · refine zv_sub (lv' := [(0, .ref l0_48), (1, .int l1_48), (2, .int l2_48), (3, .int l3_48), (4, .int l4_48)]) ?_ (zsub_of [0, 1, 2, 3, 4] rfl)
        refine zr_iconst (2 : Int32) h0 (by decide) dX6_multiply_65 (n := 66) rfl ?_
        refine zr_goto (tgt := 85) h0 dX6_multiply_66 (by decide) ?_
        exact J85 l0_48 l1_48 l2_48 l3_48 l4_48 l0_48 (2 : Int32) S_48
      · refine zv_sub (lv' := [(0, .ref l0_48), (1, .int l1_48), (2, .int l2_48), (3, .int l3_48), (4, .int l4_48)]) ?_ (zsub_of [0, 1, 2, 3, 4] rfl)
        refine zr_aload_n h0 dX6_multiply_69 rfl (n := 70) rfl ?_
        refine zr_getR C hC h0 zcX6 (k := 10) (by decide) zw_829 dX6_multiply_70 (n := 73) rfl (fun v29 => ?_)
        refine zr_iload_n h0 dX6_multiply_73 rfl (n := 74) rfl ?_
        refine zr_iaload C hC h0 dX6_multiply_74 (n := 75) rfl (fun v30 => ?_)
        refine zr_bipush (40 : Int32) h0 (by decide) dX6_multiply_75 (n := 77) rfl ?_
        refine zr_icmp_ne C (tgt := 84) h0 dX6_multiply_77 (by decide) (n := 80) rfl ?_ ?_
        · refine zr_iconst (3 : Int32) h0 (by decide) dX6_multiply_80 (n := 81) rfl ?_
          refine zr_goto (tgt := 85) h0 dX6_multiply_81 (by decide) ?_
          exact J85 l0_48 l1_48 l2_48 l3_48 l4_48 l0_48 (3 : Int32) S_48
        · refine zr_iconst (0 : Int32) h0 (by decide) dX6_multiply_84 (n := 85) rfl ?_
          exact J85 l0_48 l1_48 l2_48 l3_48 l4_48 l0_48 (0 : Int32) S_48
  have J47 : ∀ (l0_47 : Nat) (l1_47 : Int32) (l2_47 : Int32) (l3_47 : Int32) (l4_47 : Int32) (l5_47 : Int32) (S_47 : ZS), zV G 8 S_47 0 0 47 [(0, .ref l0_47), (1, .int l1_47), (2, .int l2_47), (3, .int l3_47), (4, .int l4_47), (5, .int l5_47)] [] (C (fX6_multiply_J47 l0_47 l1_47 l2_47 l3_47 l4_47 l5_47 S_47)) := by
    intro l0_47 l1_47 l2_47 l3_47 l4_47 l5_47 S_47
    unfold fX6_multiply_J47
    refine zr_iconst (0 : Int32) h0 (by decide) dX6_multiply_47 (n := 48) rfl ?_
    exact J48 l0_47 l1_47 l2_47 l3_47 l4_47 l5_47 (0 : Int32) S_47
  unfold fX6_multiply
  refine zr_aload_n h0 dX6_multiply_0 rfl (n := 1) rfl ?_
  refine zr_iload_n h0 dX6_multiply_1 rfl (n := 2) rfl ?_
  refine zr_cRI C hC 0 0 (fun x hx => zk_V h0 zcX6 (zcl_ex hx) (fun l D z0 => kX6_isWay l D z0 a0 a1 S x (zcl_of hx)) zw_958 zw_960 zs_39 zw_5 zw_961 rfl zyX6_isWay (As := [.int a1]) (st := []) rfl (by decide) rfl (Nat.le_of_ble_eq_true rfl) (by decide) dX6_multiply_2) rfl rfl (n := 5) rfl (fun x1 => ?_)
  refine zr_istore [(0, .ref a0), (1, .int a1), (2, .int a2), (3, .int a3), (4, .int a4), (5, .int x1)] h0 dX6_multiply_5 (by decide) rfl (n := 7) rfl ?_
  refine zr_iload h0 dX6_multiply_7 rfl (n := 9) rfl ?_
  refine zr_if_eq C (tgt := 47) h0 dX6_multiply_9 (by decide) (n := 12) rfl ?_ ?_
  · exact J47 a0 a1 a2 a3 a4 x1 S
  · refine zr_aload_n h0 dX6_multiply_12 rfl (n := 13) rfl ?_
    refine zr_iload_n h0 dX6_multiply_13 rfl (n := 14) rfl ?_
    refine zr_iconst (0 : Int32) h0 (by decide) dX6_multiply_14 (n := 15) rfl ?_
    refine zr_iload_n h0 dX6_multiply_15 rfl (n := 16) rfl ?_
    refine zr_cRI C hC 0 0 (fun x hx => zk_V h0 zcX6 (zcl_ex hx) (fun l D z0 => kX6_isCode l D z0 a0 a1 (0 : Int32) a2 S x (zcl_of hx)) zw_962 zw_964 zs_40 zw_5 zw_965 rfl zyX6_isCode (As := [.int a1, .int (0 : Int32), .int a2]) (st := []) rfl (by decide) rfl (Nat.le_of_ble_eq_true rfl) (by decide) dX6_multiply_16) rfl rfl (n := 19) rfl (fun x15 => ?_)
    refine zr_if_eq C (tgt := 47) h0 dX6_multiply_19 (by decide) (n := 22) rfl ?_ ?_
    · exact J47 a0 a1 a2 a3 a4 x1 S
    · refine zr_aload_n h0 dX6_multiply_22 rfl (n := 23) rfl ?_
      refine zr_iload_n h0 dX6_multiply_23 rfl (n := 24) rfl ?_
      refine zr_iconst (1 : Int32) h0 (by decide) dX6_multiply_24 (n := 25) rfl ?_
      refine zr_iload_n h0 dX6_multiply_25 rfl (n := 26) rfl ?_
      refine zr_cRI C hC 0 0 (fun x hx => zk_V h0 zcX6 (zcl_ex hx) (fun l D z0 => kX6_isCode l D z0 a0 a1 (1 : Int32) a3 S x (zcl_of hx)) zw_962 zw_964 zs_40 zw_5 zw_965 rfl zyX6_isCode (As := [.int a1, .int (1 : Int32), .int a3]) (st := []) rfl (by decide) rfl (Nat.le_of_ble_eq_true rfl) (by decide) dX6_multiply_26) rfl rfl (n := 29) rfl (fun x16 => ?_)
      refine zr_if_eq C (tgt := 47) h0 dX6_multiply_29 (by decide) (n := 32) rfl ?_ ?_
      · exact J47 a0 a1 a2 a3 a4 x1 S
      · refine zr_aload_n h0 dX6_multiply_32 rfl (n := 33) rfl ?_
        refine zr_iload_n h0 dX6_multiply_33 rfl (n := 34) rfl ?_
        refine zr_iconst (2 : Int32) h0 (by decide) dX6_multiply_34 (n := 35) rfl ?_
        refine zr_iload h0 dX6_multiply_35 rfl (n := 37) rfl ?_
        refine zr_cRI C hC 0 0 (fun x hx => zk_V h0 zcX6 (zcl_ex hx) (fun l D z0 => kX6_isCode l D z0 a0 a1 (2 : Int32) a4 S x (zcl_of hx)) zw_962 zw_964 zs_40 zw_5 zw_965 rfl zyX6_isCode (As := [.int a1, .int (2 : Int32), .int a4]) (st := []) rfl (by decide) rfl (Nat.le_of_ble_eq_true rfl) (by decide) dX6_multiply_37) rfl rfl (n := 40) rfl (fun x17 => ?_)
        refine zr_if_eq C (tgt := 47) h0 dX6_multiply_40 (by decide) (n := 43) rfl ?_ ?_
        · exact J47 a0 a1 a2 a3 a4 x1 S
        · refine zr_iconst (1 : Int32) h0 (by decide) dX6_multiply_43 (n := 44) rfl ?_
          refine zr_goto (tgt := 48) h0 dX6_multiply_44 (by decide) ?_
          exact J48 a0 a1 a2 a3 a4 x1 (1 : Int32) S
theorem kX6_multiply (l : Launch) (D : ZD) (z0 : Nat) (a0 : Nat) (a1 : Int32) (a2 : Int32) (a3 : Int32) (a4 : Int32) (S : ZS) (x : Int32 × ZS) (hf : fX6_multiply a0 a1 a2 a3 a4 S = some x) : zMet l D z0 yX6_multiply cX6_multiply 8 (some .int) rmX6_multiply [.ref a0, .int a1, .int a2, .int a3, .int a4] S (some (.int x.1)) x.2 :=
  zMet_of (by decide) (Nat.le_of_ble_eq_true rfl) (fun G h0 hini hE => wX6_multiply a0 a1 a2 a3 a4 S h0 (fun o => o = some x) (fun h => nomatch h) (fun v S1 h => by cases h; exact hE)) hf
theorem dX6_plain_0 : decode cX6_plain 0 = .ok (.aload_n 0, 1) := by decide +kernel
theorem dX6_plain_1 : decode cX6_plain 1 = .ok (.iload_n 1, 1) := by decide +kernel
theorem dX6_plain_2 : decode cX6_plain 2 = .ok (.invokevirtual 99, 3) := by decide +kernel
theorem dX6_plain_5 : decode cX6_plain 5 = .ok (.istore_n 2, 1) := by decide +kernel
theorem dX6_plain_6 : decode cX6_plain 6 = .ok (.iconst 0, 1) := by decide +kernel
theorem dX6_plain_7 : decode cX6_plain 7 = .ok (.istore_n 3, 1) := by decide +kernel
theorem dX6_plain_8 : decode cX6_plain 8 = .ok (.iconst 0, 1) := by decide +kernel
theorem dX6_plain_9 : decode cX6_plain 9 = .ok (.istore 4, 2) := by decide +kernel
theorem dX6_plain_11 : decode cX6_plain 11 = .ok (.iload 4, 2) := by decide +kernel
theorem dX6_plain_13 : decode cX6_plain 13 = .ok (.bipush 64, 2) := by decide +kernel
theorem dX6_plain_15 : decode cX6_plain 15 = .ok (.if_icmp .ge 36, 3) := by decide +kernel
theorem dX6_plain_18 : decode cX6_plain 18 = .ok (.iload_n 2, 1) := by decide +kernel
theorem dX6_plain_19 : decode cX6_plain 19 = .ok (.ifCond .eq 32, 3) := by decide +kernel
theorem dX6_plain_22 : decode cX6_plain 22 = .ok (.iload_n 3, 1) := by decide +kernel
theorem dX6_plain_23 : decode cX6_plain 23 = .ok (.aload_n 0, 1) := by decide +kernel
theorem dX6_plain_24 : decode cX6_plain 24 = .ok (.getfield 26, 3) := by decide +kernel
theorem dX6_plain_27 : decode cX6_plain 27 = .ok (.bipush 64, 2) := by decide +kernel
theorem dX6_plain_29 : decode cX6_plain 29 = .ok (.iload_n 1, 1) := by decide +kernel
theorem dX6_plain_30 : decode cX6_plain 30 = .ok (.imul, 1) := by decide +kernel
theorem dX6_plain_31 : decode cX6_plain 31 = .ok (.iload 4, 2) := by decide +kernel
theorem dX6_plain_33 : decode cX6_plain 33 = .ok (.iadd, 1) := by decide +kernel
theorem dX6_plain_34 : decode cX6_plain 34 = .ok (.iaload, 1) := by decide +kernel
theorem dX6_plain_35 : decode cX6_plain 35 = .ok (.ifCond .eq 7, 3) := by decide +kernel
theorem dX6_plain_38 : decode cX6_plain 38 = .ok (.iconst 1, 1) := by decide +kernel
theorem dX6_plain_39 : decode cX6_plain 39 = .ok (.goto 4, 3) := by decide +kernel
theorem dX6_plain_42 : decode cX6_plain 42 = .ok (.iconst 0, 1) := by decide +kernel
theorem dX6_plain_43 : decode cX6_plain 43 = .ok (.iadd, 1) := by decide +kernel
theorem dX6_plain_44 : decode cX6_plain 44 = .ok (.istore_n 3, 1) := by decide +kernel
theorem dX6_plain_45 : decode cX6_plain 45 = .ok (.iinc 4 1, 3) := by decide +kernel
theorem dX6_plain_48 : decode cX6_plain 48 = .ok (.goto (-37), 3) := by decide +kernel
theorem dX6_plain_51 : decode cX6_plain 51 = .ok (.aload_n 0, 1) := by decide +kernel
theorem dX6_plain_52 : decode cX6_plain 52 = .ok (.iload_n 2, 1) := by decide +kernel
theorem dX6_plain_53 : decode cX6_plain 53 = .ok (.ifCond .ne 7, 3) := by decide +kernel
theorem dX6_plain_56 : decode cX6_plain 56 = .ok (.iconst 1, 1) := by decide +kernel
theorem dX6_plain_57 : decode cX6_plain 57 = .ok (.goto 21, 3) := by decide +kernel
theorem dX6_plain_60 : decode cX6_plain 60 = .ok (.aload_n 0, 1) := by decide +kernel
theorem dX6_plain_61 : decode cX6_plain 61 = .ok (.getfield 32, 3) := by decide +kernel
theorem dX6_plain_64 : decode cX6_plain 64 = .ok (.iload_n 1, 1) := by decide +kernel
theorem dX6_plain_65 : decode cX6_plain 65 = .ok (.iaload, 1) := by decide +kernel
theorem dX6_plain_66 : decode cX6_plain 66 = .ok (.iload_n 3, 1) := by decide +kernel
theorem dX6_plain_67 : decode cX6_plain 67 = .ok (.iadd, 1) := by decide +kernel
theorem dX6_plain_68 : decode cX6_plain 68 = .ok (.bipush 40, 2) := by decide +kernel
theorem dX6_plain_70 : decode cX6_plain 70 = .ok (.if_icmp .le 7, 3) := by decide +kernel
theorem dX6_plain_73 : decode cX6_plain 73 = .ok (.iconst 2, 1) := by decide +kernel
theorem dX6_plain_74 : decode cX6_plain 74 = .ok (.goto 4, 3) := by decide +kernel
theorem dX6_plain_77 : decode cX6_plain 77 = .ok (.iconst 0, 1) := by decide +kernel
theorem dX6_plain_78 : decode cX6_plain 78 = .ok (.invokevirtual 64, 3) := by decide +kernel
theorem dX6_plain_81 : decode cX6_plain 81 = .ok (.ifCond .ne 5, 3) := by decide +kernel
theorem dX6_plain_84 : decode cX6_plain 84 = .ok (.iconst 0, 1) := by decide +kernel
theorem dX6_plain_85 : decode cX6_plain 85 = .ok (.ireturn, 1) := by decide +kernel
theorem dX6_plain_86 : decode cX6_plain 86 = .ok (.iconst 0, 1) := by decide +kernel
theorem dX6_plain_87 : decode cX6_plain 87 = .ok (.istore 4, 2) := by decide +kernel
theorem dX6_plain_89 : decode cX6_plain 89 = .ok (.iload 4, 2) := by decide +kernel
theorem dX6_plain_91 : decode cX6_plain 91 = .ok (.bipush 64, 2) := by decide +kernel
theorem dX6_plain_93 : decode cX6_plain 93 = .ok (.if_icmp .ge 136, 3) := by decide +kernel
theorem dX6_plain_96 : decode cX6_plain 96 = .ok (.aload_n 0, 1) := by decide +kernel
theorem dX6_plain_97 : decode cX6_plain 97 = .ok (.getfield 26, 3) := by decide +kernel
theorem dX6_plain_100 : decode cX6_plain 100 = .ok (.bipush 64, 2) := by decide +kernel
theorem dX6_plain_102 : decode cX6_plain 102 = .ok (.iload_n 1, 1) := by decide +kernel
theorem dX6_plain_103 : decode cX6_plain 103 = .ok (.imul, 1) := by decide +kernel
theorem dX6_plain_104 : decode cX6_plain 104 = .ok (.iload 4, 2) := by decide +kernel
theorem dX6_plain_106 : decode cX6_plain 106 = .ok (.iadd, 1) := by decide +kernel
theorem dX6_plain_107 : decode cX6_plain 107 = .ok (.iaload, 1) := by decide +kernel
theorem dX6_plain_108 : decode cX6_plain 108 = .ok (.istore 5, 2) := by decide +kernel
theorem dX6_plain_110 : decode cX6_plain 110 = .ok (.iload 5, 2) := by decide +kernel
theorem dX6_plain_112 : decode cX6_plain 112 = .ok (.ifCond .eq 111, 3) := by decide +kernel
theorem dX6_plain_115 : decode cX6_plain 115 = .ok (.aload_n 0, 1) := by decide +kernel
theorem dX6_plain_116 : decode cX6_plain 116 = .ok (.getfield 32, 3) := by decide +kernel
theorem dX6_plain_119 : decode cX6_plain 119 = .ok (.iload_n 1, 1) := by decide +kernel
theorem dX6_plain_120 : decode cX6_plain 120 = .ok (.iaload, 1) := by decide +kernel
theorem dX6_plain_121 : decode cX6_plain 121 = .ok (.istore 6, 2) := by decide +kernel
theorem dX6_plain_123 : decode cX6_plain 123 = .ok (.aload_n 0, 1) := by decide +kernel
theorem dX6_plain_124 : decode cX6_plain 124 = .ok (.getfield 32, 3) := by decide +kernel
theorem dX6_plain_127 : decode cX6_plain 127 = .ok (.iload_n 1, 1) := by decide +kernel
theorem dX6_plain_128 : decode cX6_plain 128 = .ok (.dup2, 1) := by decide +kernel
theorem dX6_plain_129 : decode cX6_plain 129 = .ok (.iaload, 1) := by decide +kernel
theorem dX6_plain_130 : decode cX6_plain 130 = .ok (.iconst 1, 1) := by decide +kernel
theorem dX6_plain_131 : decode cX6_plain 131 = .ok (.iadd, 1) := by decide +kernel
theorem dX6_plain_132 : decode cX6_plain 132 = .ok (.iastore, 1) := by decide +kernel
theorem dX6_plain_133 : decode cX6_plain 133 = .ok (.iconst 0, 1) := by decide +kernel
theorem dX6_plain_134 : decode cX6_plain 134 = .ok (.istore 7, 2) := by decide +kernel
theorem dX6_plain_136 : decode cX6_plain 136 = .ok (.iload 7, 2) := by decide +kernel
theorem dX6_plain_138 : decode cX6_plain 138 = .ok (.bipush 12, 2) := by decide +kernel
theorem dX6_plain_140 : decode cX6_plain 140 = .ok (.if_icmp .ge 25, 3) := by decide +kernel
theorem dX6_plain_143 : decode cX6_plain 143 = .ok (.aload_n 0, 1) := by decide +kernel
theorem dX6_plain_144 : decode cX6_plain 144 = .ok (.getfield 35, 3) := by decide +kernel
theorem dX6_plain_147 : decode cX6_plain 147 = .ok (.iload_n 1, 1) := by decide +kernel
theorem dX6_plain_148 : decode cX6_plain 148 = .ok (.iload 6, 2) := by decide +kernel
theorem dX6_plain_150 : decode cX6_plain 150 = .ok (.iconst 0, 1) := by decide +kernel
theorem dX6_plain_151 : decode cX6_plain 151 = .ok (.invokestatic 96, 3) := by decide +kernel
theorem dX6_plain_154 : decode cX6_plain 154 = .ok (.iload 7, 2) := by decide +kernel
theorem dX6_plain_156 : decode cX6_plain 156 = .ok (.iadd, 1) := by decide +kernel
theorem dX6_plain_157 : decode cX6_plain 157 = .ok (.iconst 0, 1) := by decide +kernel
theorem dX6_plain_158 : decode cX6_plain 158 = .ok (.iastore, 1) := by decide +kernel
theorem dX6_plain_159 : decode cX6_plain 159 = .ok (.iinc 7 1, 3) := by decide +kernel
theorem dX6_plain_162 : decode cX6_plain 162 = .ok (.goto (-26), 3) := by decide +kernel
theorem dX6_plain_165 : decode cX6_plain 165 = .ok (.aload_n 0, 1) := by decide +kernel
theorem dX6_plain_166 : decode cX6_plain 166 = .ok (.getfield 35, 3) := by decide +kernel
theorem dX6_plain_169 : decode cX6_plain 169 = .ok (.iload_n 1, 1) := by decide +kernel
theorem dX6_plain_170 : decode cX6_plain 170 = .ok (.iload 6, 2) := by decide +kernel
theorem dX6_plain_172 : decode cX6_plain 172 = .ok (.iconst 0, 1) := by decide +kernel
theorem dX6_plain_173 : decode cX6_plain 173 = .ok (.invokestatic 96, 3) := by decide +kernel
theorem dX6_plain_176 : decode cX6_plain 176 = .ok (.iload 4, 2) := by decide +kernel
theorem dX6_plain_178 : decode cX6_plain 178 = .ok (.bipush 16, 2) := by decide +kernel
theorem dX6_plain_180 : decode cX6_plain 180 = .ok (.idiv, 1) := by decide +kernel
theorem dX6_plain_181 : decode cX6_plain 181 = .ok (.iadd, 1) := by decide +kernel
theorem dX6_plain_182 : decode cX6_plain 182 = .ok (.iload 5, 2) := by decide +kernel
theorem dX6_plain_184 : decode cX6_plain 184 = .ok (.iastore, 1) := by decide +kernel
theorem dX6_plain_185 : decode cX6_plain 185 = .ok (.aload_n 0, 1) := by decide +kernel
theorem dX6_plain_186 : decode cX6_plain 186 = .ok (.getfield 35, 3) := by decide +kernel
theorem dX6_plain_189 : decode cX6_plain 189 = .ok (.iload_n 1, 1) := by decide +kernel
theorem dX6_plain_190 : decode cX6_plain 190 = .ok (.iload 6, 2) := by decide +kernel
theorem dX6_plain_192 : decode cX6_plain 192 = .ok (.iconst 1, 1) := by decide +kernel
theorem dX6_plain_193 : decode cX6_plain 193 = .ok (.invokestatic 96, 3) := by decide +kernel
theorem dX6_plain_196 : decode cX6_plain 196 = .ok (.iload 4, 2) := by decide +kernel
theorem dX6_plain_198 : decode cX6_plain 198 = .ok (.iconst 4, 1) := by decide +kernel
theorem dX6_plain_199 : decode cX6_plain 199 = .ok (.idiv, 1) := by decide +kernel
theorem dX6_plain_200 : decode cX6_plain 200 = .ok (.iconst 4, 1) := by decide +kernel
theorem dX6_plain_201 : decode cX6_plain 201 = .ok (.irem, 1) := by decide +kernel
theorem dX6_plain_202 : decode cX6_plain 202 = .ok (.iadd, 1) := by decide +kernel
theorem dX6_plain_203 : decode cX6_plain 203 = .ok (.iconst 1, 1) := by decide +kernel
theorem dX6_plain_204 : decode cX6_plain 204 = .ok (.iastore, 1) := by decide +kernel
theorem dX6_plain_205 : decode cX6_plain 205 = .ok (.aload_n 0, 1) := by decide +kernel
theorem dX6_plain_206 : decode cX6_plain 206 = .ok (.getfield 35, 3) := by decide +kernel
theorem dX6_plain_209 : decode cX6_plain 209 = .ok (.iload_n 1, 1) := by decide +kernel
theorem dX6_plain_210 : decode cX6_plain 210 = .ok (.iload 6, 2) := by decide +kernel
theorem dX6_plain_212 : decode cX6_plain 212 = .ok (.iconst 2, 1) := by decide +kernel
theorem dX6_plain_213 : decode cX6_plain 213 = .ok (.invokestatic 96, 3) := by decide +kernel
theorem dX6_plain_216 : decode cX6_plain 216 = .ok (.iload 4, 2) := by decide +kernel
theorem dX6_plain_218 : decode cX6_plain 218 = .ok (.iconst 4, 1) := by decide +kernel
theorem dX6_plain_219 : decode cX6_plain 219 = .ok (.irem, 1) := by decide +kernel
theorem dX6_plain_220 : decode cX6_plain 220 = .ok (.iadd, 1) := by decide +kernel
theorem dX6_plain_221 : decode cX6_plain 221 = .ok (.iconst 1, 1) := by decide +kernel
theorem dX6_plain_222 : decode cX6_plain 222 = .ok (.iastore, 1) := by decide +kernel
theorem dX6_plain_223 : decode cX6_plain 223 = .ok (.iinc 4 1, 3) := by decide +kernel
theorem dX6_plain_226 : decode cX6_plain 226 = .ok (.goto (-137), 3) := by decide +kernel
theorem dX6_plain_229 : decode cX6_plain 229 = .ok (.aload_n 0, 1) := by decide +kernel
theorem dX6_plain_230 : decode cX6_plain 230 = .ok (.getfield 32, 3) := by decide +kernel
theorem dX6_plain_233 : decode cX6_plain 233 = .ok (.iload_n 1, 1) := by decide +kernel
theorem dX6_plain_234 : decode cX6_plain 234 = .ok (.iaload, 1) := by decide +kernel
theorem dX6_plain_235 : decode cX6_plain 235 = .ok (.ireturn, 1) := by decide +kernel
abbrev rmX6_plain : Room := { frames := 3, cells := 0, slots := 0, locals := 63 }
theorem zyX6_plain : zyOK yX6_plain 1 := ⟨by decide +kernel, by decide +kernel, by decide +kernel⟩
set_option maxHeartbeats 4000000 in
set_option maxRecDepth 100000 in
theorem wX6_plain {G : ZG} (a0 : Nat) (a1 : Int32) (S : ZS) (h0 : zFix G cX6_plain RX6 8 (some .int) rmX6_plain) (C : Option (Int32 × ZS) → Prop) (hC : ¬ C none) (hE : ∀ (v : Int32) (S1 : ZS), C (some (v, S1)) → zEnd G (some (.int v)) S1 rmX6_plain) : zV G 8 S 0 0 0 [(0, .ref a0), (1, .int a1)] [] (C (fX6_plain a0 a1 S)) := by
  have J78 : ∀ (l0_78 : Nat) (l1_78 : Int32) (s0_78 : Nat) (s1_78 : Int32) (S_78 : ZS), zV G 8 S_78 0 0 78 [(0, .ref l0_78), (1, .int l1_78)] [.int s1_78, .ref s0_78] (C (fX6_plain_J78 l0_78 l1_78 s0_78 s1_78 S_78)) := by
    intro l0_78 l1_78 s0_78 s1_78 S_78
    unfold fX6_plain_J78
    refine zr_cMI C hC 0 0 (fun x hx => zk_V h0 zcX6 (zcl_ex hx) (fun l D z0 => kX6_goesWell l D z0 s0_78 s1_78 S_78 x (zcl_of hx)) zw_886 zw_888 zs_34 zw_5 zw_889 rfl zyX6_goesWell (As := [.int s1_78]) (st := []) rfl (by decide) rfl (Nat.le_of_ble_eq_true rfl) (by decide) dX6_plain_78) rfl rfl (n := 81) rfl (fun x63 => ?_)
    refine zr_if_ne C (tgt := 86) h0 dX6_plain_81 (by decide) (n := 84) rfl ?_ ?_
    · refine zv_sub (lv' := []) ?_ (zsub_of [] rfl)
      refine zr_iconst (0 : Int32) h0 (by decide) dX6_plain_84 (n := 85) rfl ?_
      exact zr_iret h0 rfl dX6_plain_85 (hE _ _) (by decide) (by decide)
    · refine zr_iconst (0 : Int32) h0 (by decide) dX6_plain_86 (n := 87) rfl ?_
      refine zr_istore [(0, .ref l0_78), (1, .int l1_78), (4, .int (0 : Int32))] h0 dX6_plain_87 (by decide) rfl (n := 89) rfl ?_
      refine zr_loop hC (fX6_plain_B89 l0_78 l1_78) (fun y => [(0, .ref l0_78), (1, .int l1_78), (4, .int y.1)]) (fun y => y.2) zF ((0 : Int32), x63.2) (fun C89 hC89 hX89 hL89 t89 => ?_)
      have J223 : ∀ (l4_223 : Int32) (S_223 : ZS), zV G 8 S_223 0 0 223 [(0, .ref l0_78), (1, .int l1_78), (4, .int l4_223)] [] (C89 (fX6_plain_J223 l0_78 l1_78 l4_223 S_223)) := by
        intro l4_223 S_223
        unfold fX6_plain_J223
        refine zr_iinc (1 : Int32) [(0, .ref l0_78), (1, .int l1_78), (4, .int (l4_223 + (1 : Int32)))] h0 dX6_plain_223 rfl (by decide) rfl rfl (n := 226) rfl ?_
        refine zr_goto (tgt := 89) h0 dX6_plain_226 (by decide) ?_
        exact hL89 (l4_223 + (1 : Int32), S_223)
      unfold fX6_plain_B89
      refine zr_iload h0 dX6_plain_89 rfl (n := 91) rfl ?_
      refine zr_bipush (64 : Int32) h0 (by decide) dX6_plain_91 (n := 93) rfl ?_
      refine zr_icmp_ge C89 (tgt := 229) h0 dX6_plain_93 (by decide) (n := 96) rfl ?_ ?_
      · refine zr_ex hX89 ?_
        refine zv_sub (lv' := [(0, .ref l0_78), (1, .int l1_78)]) ?_ (zsub_of [0, 1] rfl)
        refine zr_aload_n h0 dX6_plain_229 rfl (n := 230) rfl ?_
        refine zr_getR C hC h0 zcX6 (k := 10) (by decide) zw_829 dX6_plain_230 (n := 233) rfl (fun v64 => ?_)
        refine zr_iload_n h0 dX6_plain_233 rfl (n := 234) rfl ?_
        refine zr_iaload C hC h0 dX6_plain_234 (n := 235) rfl (fun v65 => ?_)
        exact zr_iret h0 rfl dX6_plain_235 (hE _ _) (by decide) (by decide)
      · refine zr_aload_n h0 dX6_plain_96 rfl (n := 97) rfl ?_
        refine zr_getR C89 hC89 h0 zcX6 (k := 8) (by decide) zw_827 dX6_plain_97 (n := 100) rfl (fun v66 => ?_)
        refine zr_bipush (64 : Int32) h0 (by decide) dX6_plain_100 (n := 102) rfl ?_
        refine zr_iload_n h0 dX6_plain_102 rfl (n := 103) rfl ?_
        refine zr_imul h0 dX6_plain_103 (n := 104) rfl ?_
        refine zr_iload h0 dX6_plain_104 rfl (n := 106) rfl ?_
        refine zr_iadd h0 dX6_plain_106 (n := 107) rfl ?_
        refine zr_iaload C89 hC89 h0 dX6_plain_107 (n := 108) rfl (fun v67 => ?_)
        refine zr_istore [(0, .ref l0_78), (1, .int l1_78), (4, .int t89.1), (5, .int v67)] h0 dX6_plain_108 (by decide) rfl (n := 110) rfl ?_
        refine zr_iload h0 dX6_plain_110 rfl (n := 112) rfl ?_
        refine zr_if_eq C89 (tgt := 223) h0 dX6_plain_112 (by decide) (n := 115) rfl ?_ ?_
        · refine zv_sub (lv' := [(0, .ref l0_78), (1, .int l1_78), (4, .int t89.1)]) ?_ (zsub_of [0, 1, 2] rfl)
          exact J223 t89.1 t89.2
        · refine zr_aload_n h0 dX6_plain_115 rfl (n := 116) rfl ?_
          refine zr_getR C89 hC89 h0 zcX6 (k := 10) (by decide) zw_829 dX6_plain_116 (n := 119) rfl (fun v68 => ?_)
          refine zr_iload_n h0 dX6_plain_119 rfl (n := 120) rfl ?_
          refine zr_iaload C89 hC89 h0 dX6_plain_120 (n := 121) rfl (fun v69 => ?_)
          refine zr_istore [(0, .ref l0_78), (1, .int l1_78), (4, .int t89.1), (5, .int v67), (6, .int v69)] h0 dX6_plain_121 (by decide) rfl (n := 123) rfl ?_
          refine zr_aload_n h0 dX6_plain_123 rfl (n := 124) rfl ?_
          refine zr_getR C89 hC89 h0 zcX6 (k := 10) (by decide) zw_829 dX6_plain_124 (n := 127) rfl (fun v70 => ?_)
          refine zr_iload_n h0 dX6_plain_127 rfl (n := 128) rfl ?_
          refine zr_dup2 h0 rfl rfl dX6_plain_128 (n := 129) rfl ?_
          refine zr_iaload C89 hC89 h0 dX6_plain_129 (n := 130) rfl (fun v71 => ?_)
          refine zr_iconst (1 : Int32) h0 (by decide) dX6_plain_130 (n := 131) rfl ?_
          refine zr_iadd h0 dX6_plain_131 (n := 132) rfl ?_
          refine zr_iastore C89 hC89 h0 dX6_plain_132 (n := 133) rfl (fun S72 => ?_)
          refine zr_iconst (0 : Int32) h0 (by decide) dX6_plain_133 (n := 134) rfl ?_
          refine zr_istore [(0, .ref l0_78), (1, .int l1_78), (4, .int t89.1), (5, .int v67), (6, .int v69), (7, .int (0 : Int32))] h0 dX6_plain_134 (by decide) rfl (n := 136) rfl ?_
          refine zr_loop hC89 (fX6_plain_B136 l0_78 l1_78 t89.1 v67 v69) (fun y => [(0, .ref l0_78), (1, .int l1_78), (4, .int t89.1), (5, .int v67), (6, .int v69), (7, .int y.1)]) (fun y => y.2) zF ((0 : Int32), S72) (fun C136 hC136 hX136 hL136 t136 => ?_)
          unfold fX6_plain_B136
          refine zr_iload h0 dX6_plain_136 rfl (n := 138) rfl ?_
          refine zr_bipush (12 : Int32) h0 (by decide) dX6_plain_138 (n := 140) rfl ?_
          refine zr_icmp_ge C136 (tgt := 165) h0 dX6_plain_140 (by decide) (n := 143) rfl ?_ ?_
          · refine zr_ex hX136 ?_
            refine zv_sub (lv' := [(0, .ref l0_78), (1, .int l1_78), (4, .int t89.1), (5, .int v67), (6, .int v69)]) ?_ (zsub_of [0, 1, 2, 3, 4] rfl)
            refine zr_aload_n h0 dX6_plain_165 rfl (n := 166) rfl ?_
            refine zr_getR C89 hC89 h0 zcX6 (k := 11) (by decide) zw_830 dX6_plain_166 (n := 169) rfl (fun v73 => ?_)
            refine zr_iload_n h0 dX6_plain_169 rfl (n := 170) rfl ?_
            refine zr_iload h0 dX6_plain_170 rfl (n := 172) rfl ?_
            refine zr_iconst (0 : Int32) h0 (by decide) dX6_plain_172 (n := 173) rfl ?_
            refine zr_cRI C89 hC89 0 0 (fun x hx => zk_S h0 (fun l D z0 => kX6_from l D z0 l1_78 v69 (0 : Int32) t136.2 x hx) zw_974 zw_975 zw_5 zw_976 zyX6_from (As := [.int l1_78, .int v69, .int (0 : Int32)]) (st := [.ref v73]) rfl (by decide) rfl (Nat.le_of_ble_eq_true rfl) (by decide) dX6_plain_173) rfl rfl (n := 176) rfl (fun x74 => ?_)
            refine zr_iload h0 dX6_plain_176 rfl (n := 178) rfl ?_
            refine zr_bipush (16 : Int32) h0 (by decide) dX6_plain_178 (n := 180) rfl ?_
            refine zr_idivK h0 (by decide) dX6_plain_180 (n := 181) rfl ?_
            refine zr_iadd h0 dX6_plain_181 (n := 182) rfl ?_
            refine zr_iload h0 dX6_plain_182 rfl (n := 184) rfl ?_
            refine zr_iastore C89 hC89 h0 dX6_plain_184 (n := 185) rfl (fun S75 => ?_)
            refine zr_aload_n h0 dX6_plain_185 rfl (n := 186) rfl ?_
            refine zr_getR C89 hC89 h0 zcX6 (k := 11) (by decide) zw_830 dX6_plain_186 (n := 189) rfl (fun v76 => ?_)
            refine zr_iload_n h0 dX6_plain_189 rfl (n := 190) rfl ?_
            refine zr_iload h0 dX6_plain_190 rfl (n := 192) rfl ?_
            refine zr_iconst (1 : Int32) h0 (by decide) dX6_plain_192 (n := 193) rfl ?_
            refine zr_cRI C89 hC89 0 0 (fun x hx => zk_S h0 (fun l D z0 => kX6_from l D z0 l1_78 v69 (1 : Int32) S75 x hx) zw_974 zw_975 zw_5 zw_976 zyX6_from (As := [.int l1_78, .int v69, .int (1 : Int32)]) (st := [.ref v76]) rfl (by decide) rfl (Nat.le_of_ble_eq_true rfl) (by decide) dX6_plain_193) rfl rfl (n := 196) rfl (fun x77 => ?_)
            refine zr_iload h0 dX6_plain_196 rfl (n := 198) rfl ?_
            refine zr_iconst (4 : Int32) h0 (by decide) dX6_plain_198 (n := 199) rfl ?_
            refine zr_idivK h0 (by decide) dX6_plain_199 (n := 200) rfl ?_
            refine zr_iconst (4 : Int32) h0 (by decide) dX6_plain_200 (n := 201) rfl ?_
            refine zr_iremK h0 (by decide) dX6_plain_201 (n := 202) rfl ?_
            refine zr_iadd h0 dX6_plain_202 (n := 203) rfl ?_
            refine zr_iconst (1 : Int32) h0 (by decide) dX6_plain_203 (n := 204) rfl ?_
            refine zr_iastore C89 hC89 h0 dX6_plain_204 (n := 205) rfl (fun S78 => ?_)
            refine zr_aload_n h0 dX6_plain_205 rfl (n := 206) rfl ?_
            refine zr_getR C89 hC89 h0 zcX6 (k := 11) (by decide) zw_830 dX6_plain_206 (n := 209) rfl (fun v79 => ?_)
            refine zr_iload_n h0 dX6_plain_209 rfl (n := 210) rfl ?_
            refine zr_iload h0 dX6_plain_210 rfl (n := 212) rfl ?_
            refine zr_iconst (2 : Int32) h0 (by decide) dX6_plain_212 (n := 213) rfl ?_
            refine zr_cRI C89 hC89 0 0 (fun x hx => zk_S h0 (fun l D z0 => kX6_from l D z0 l1_78 v69 (2 : Int32) S78 x hx) zw_974 zw_975 zw_5 zw_976 zyX6_from (As := [.int l1_78, .int v69, .int (2 : Int32)]) (st := [.ref v79]) rfl (by decide) rfl (Nat.le_of_ble_eq_true rfl) (by decide) dX6_plain_213) rfl rfl (n := 216) rfl (fun x80 => ?_)
            refine zr_iload h0 dX6_plain_216 rfl (n := 218) rfl ?_
            refine zr_iconst (4 : Int32) h0 (by decide) dX6_plain_218 (n := 219) rfl ?_
            refine zr_iremK h0 (by decide) dX6_plain_219 (n := 220) rfl ?_
            refine zr_iadd h0 dX6_plain_220 (n := 221) rfl ?_
            refine zr_iconst (1 : Int32) h0 (by decide) dX6_plain_221 (n := 222) rfl ?_
            refine zr_iastore C89 hC89 h0 dX6_plain_222 (n := 223) rfl (fun S81 => ?_)
            refine zv_sub (lv' := [(0, .ref l0_78), (1, .int l1_78), (4, .int t89.1)]) ?_ (zsub_of [0, 1, 2] rfl)
            exact J223 t89.1 S81
          · refine zr_aload_n h0 dX6_plain_143 rfl (n := 144) rfl ?_
            refine zr_getR C136 hC136 h0 zcX6 (k := 11) (by decide) zw_830 dX6_plain_144 (n := 147) rfl (fun v82 => ?_)
            refine zr_iload_n h0 dX6_plain_147 rfl (n := 148) rfl ?_
            refine zr_iload h0 dX6_plain_148 rfl (n := 150) rfl ?_
            refine zr_iconst (0 : Int32) h0 (by decide) dX6_plain_150 (n := 151) rfl ?_
            refine zr_cRI C136 hC136 0 0 (fun x hx => zk_S h0 (fun l D z0 => kX6_from l D z0 l1_78 v69 (0 : Int32) t136.2 x hx) zw_974 zw_975 zw_5 zw_976 zyX6_from (As := [.int l1_78, .int v69, .int (0 : Int32)]) (st := [.ref v82]) rfl (by decide) rfl (Nat.le_of_ble_eq_true rfl) (by decide) dX6_plain_151) rfl rfl (n := 154) rfl (fun x83 => ?_)
            refine zr_iload h0 dX6_plain_154 rfl (n := 156) rfl ?_
            refine zr_iadd h0 dX6_plain_156 (n := 157) rfl ?_
            refine zr_iconst (0 : Int32) h0 (by decide) dX6_plain_157 (n := 158) rfl ?_
            refine zr_iastore C136 hC136 h0 dX6_plain_158 (n := 159) rfl (fun S84 => ?_)
            refine zr_iinc (1 : Int32) [(0, .ref l0_78), (1, .int l1_78), (4, .int t89.1), (5, .int v67), (6, .int v69), (7, .int (t136.1 + (1 : Int32)))] h0 dX6_plain_159 rfl (by decide) rfl rfl (n := 162) rfl ?_
            refine zr_goto (tgt := 136) h0 dX6_plain_162 (by decide) ?_
            exact hL136 (t136.1 + (1 : Int32), S84)
  have J51 : ∀ (l0_51 : Nat) (l1_51 : Int32) (l2_51 : Int32) (l3_51 : Int32) (S_51 : ZS), zV G 8 S_51 0 0 51 [(0, .ref l0_51), (1, .int l1_51), (2, .int l2_51), (3, .int l3_51)] [] (C (fX6_plain_J51 l0_51 l1_51 l2_51 l3_51 S_51)) := by
    intro l0_51 l1_51 l2_51 l3_51 S_51
    unfold fX6_plain_J51
    refine zr_aload_n h0 dX6_plain_51 rfl (n := 52) rfl ?_
    refine zr_iload_n h0 dX6_plain_52 rfl (n := 53) rfl ?_
    refine zr_if_ne C (tgt := 60) h0 dX6_plain_53 (by decide) (n := 56) rfl ?_ ?_
    · refine zv_sub (lv' := [(0, .ref l0_51), (1, .int l1_51)]) ?_ (zsub_of [0, 1] rfl)
      refine zr_iconst (1 : Int32) h0 (by decide) dX6_plain_56 (n := 57) rfl ?_
      refine zr_goto (tgt := 78) h0 dX6_plain_57 (by decide) ?_
      exact J78 l0_51 l1_51 l0_51 (1 : Int32) S_51
    · refine zv_sub (lv' := [(0, .ref l0_51), (1, .int l1_51), (3, .int l3_51)]) ?_ (zsub_of [0, 1, 3] rfl)
      refine zr_aload_n h0 dX6_plain_60 rfl (n := 61) rfl ?_
      refine zr_getR C hC h0 zcX6 (k := 10) (by decide) zw_829 dX6_plain_61 (n := 64) rfl (fun v85 => ?_)
      refine zr_iload_n h0 dX6_plain_64 rfl (n := 65) rfl ?_
      refine zr_iaload C hC h0 dX6_plain_65 (n := 66) rfl (fun v86 => ?_)
      refine zr_iload_n h0 dX6_plain_66 rfl (n := 67) rfl ?_
      refine zr_iadd h0 dX6_plain_67 (n := 68) rfl ?_
      refine zr_bipush (40 : Int32) h0 (by decide) dX6_plain_68 (n := 70) rfl ?_
      refine zr_icmp_le C (tgt := 77) h0 dX6_plain_70 (by decide) (n := 73) rfl ?_ ?_
      · refine zv_sub (lv' := [(0, .ref l0_51), (1, .int l1_51)]) ?_ (zsub_of [0, 1] rfl)
        refine zr_iconst (0 : Int32) h0 (by decide) dX6_plain_77 (n := 78) rfl ?_
        exact J78 l0_51 l1_51 l0_51 (0 : Int32) S_51
      · refine zv_sub (lv' := [(0, .ref l0_51), (1, .int l1_51)]) ?_ (zsub_of [0, 1] rfl)
        refine zr_iconst (2 : Int32) h0 (by decide) dX6_plain_73 (n := 74) rfl ?_
        refine zr_goto (tgt := 78) h0 dX6_plain_74 (by decide) ?_
        exact J78 l0_51 l1_51 l0_51 (2 : Int32) S_51
  unfold fX6_plain
  refine zr_aload_n h0 dX6_plain_0 rfl (n := 1) rfl ?_
  refine zr_iload_n h0 dX6_plain_1 rfl (n := 2) rfl ?_
  refine zr_cRI C hC 0 0 (fun x hx => zk_V h0 zcX6 (zcl_ex hx) (fun l D z0 => kX6_isWay l D z0 a0 a1 S x (zcl_of hx)) zw_958 zw_960 zs_39 zw_5 zw_961 rfl zyX6_isWay (As := [.int a1]) (st := []) rfl (by decide) rfl (Nat.le_of_ble_eq_true rfl) (by decide) dX6_plain_2) rfl rfl (n := 5) rfl (fun x1 => ?_)
  refine zr_istore_n [(0, .ref a0), (1, .int a1), (2, .int x1)] h0 dX6_plain_5 (by decide) rfl (n := 6) rfl ?_
  refine zr_iconst (0 : Int32) h0 (by decide) dX6_plain_6 (n := 7) rfl ?_
  refine zr_istore_n [(0, .ref a0), (1, .int a1), (2, .int x1), (3, .int (0 : Int32))] h0 dX6_plain_7 (by decide) rfl (n := 8) rfl ?_
  refine zr_iconst (0 : Int32) h0 (by decide) dX6_plain_8 (n := 9) rfl ?_
  refine zr_istore [(0, .ref a0), (1, .int a1), (2, .int x1), (3, .int (0 : Int32)), (4, .int (0 : Int32))] h0 dX6_plain_9 (by decide) rfl (n := 11) rfl ?_
  refine zr_loop hC (fX6_plain_B11 a0 a1 x1 S) (fun y => [(0, .ref a0), (1, .int a1), (2, .int x1), (3, .int y.1), (4, .int y.2)]) (fun y => S) zF ((0 : Int32), (0 : Int32)) (fun C11 hC11 hX11 hL11 t11 => ?_)
  have J43 : ∀ (l4_43 : Int32) (s0_43 : Int32) (s1_43 : Int32), zV G 8 S 0 0 43 [(0, .ref a0), (1, .int a1), (2, .int x1), (4, .int l4_43)] [.int s1_43, .int s0_43] (C11 (fX6_plain_J43 a0 a1 x1 l4_43 s0_43 s1_43 S)) := by
    intro l4_43 s0_43 s1_43
    unfold fX6_plain_J43
    refine zr_iadd h0 dX6_plain_43 (n := 44) rfl ?_
    refine zr_istore_n [(0, .ref a0), (1, .int a1), (2, .int x1), (3, .int (s0_43 + s1_43)), (4, .int l4_43)] h0 dX6_plain_44 (by decide) rfl (n := 45) rfl ?_
    refine zr_iinc (1 : Int32) [(0, .ref a0), (1, .int a1), (2, .int x1), (3, .int (s0_43 + s1_43)), (4, .int (l4_43 + (1 : Int32)))] h0 dX6_plain_45 rfl (by decide) rfl rfl (n := 48) rfl ?_
    refine zr_goto (tgt := 11) h0 dX6_plain_48 (by decide) ?_
    exact hL11 (s0_43 + s1_43, l4_43 + (1 : Int32))
  unfold fX6_plain_B11
  refine zr_iload h0 dX6_plain_11 rfl (n := 13) rfl ?_
  refine zr_bipush (64 : Int32) h0 (by decide) dX6_plain_13 (n := 15) rfl ?_
  refine zr_icmp_ge C11 (tgt := 51) h0 dX6_plain_15 (by decide) (n := 18) rfl ?_ ?_
  · refine zr_ex hX11 ?_
    refine zv_sub (lv' := [(0, .ref a0), (1, .int a1), (2, .int x1), (3, .int t11.1)]) ?_ (zsub_of [0, 1, 2, 3] rfl)
    exact J51 a0 a1 x1 t11.1 S
  · refine zr_iload_n h0 dX6_plain_18 rfl (n := 19) rfl ?_
    refine zr_if_eq C11 (tgt := 51) h0 dX6_plain_19 (by decide) (n := 22) rfl ?_ ?_
    · refine zr_ex hX11 ?_
      refine zv_sub (lv' := [(0, .ref a0), (1, .int a1), (2, .int x1), (3, .int t11.1)]) ?_ (zsub_of [0, 1, 2, 3] rfl)
      exact J51 a0 a1 x1 t11.1 S
    · refine zr_iload_n h0 dX6_plain_22 rfl (n := 23) rfl ?_
      refine zr_aload_n h0 dX6_plain_23 rfl (n := 24) rfl ?_
      refine zr_getR C11 hC11 h0 zcX6 (k := 8) (by decide) zw_827 dX6_plain_24 (n := 27) rfl (fun v61 => ?_)
      refine zr_bipush (64 : Int32) h0 (by decide) dX6_plain_27 (n := 29) rfl ?_
      refine zr_iload_n h0 dX6_plain_29 rfl (n := 30) rfl ?_
      refine zr_imul h0 dX6_plain_30 (n := 31) rfl ?_
      refine zr_iload h0 dX6_plain_31 rfl (n := 33) rfl ?_
      refine zr_iadd h0 dX6_plain_33 (n := 34) rfl ?_
      refine zr_iaload C11 hC11 h0 dX6_plain_34 (n := 35) rfl (fun v62 => ?_)
      refine zr_if_eq C11 (tgt := 42) h0 dX6_plain_35 (by decide) (n := 38) rfl ?_ ?_
      · refine zv_sub (lv' := [(0, .ref a0), (1, .int a1), (2, .int x1), (4, .int t11.2)]) ?_ (zsub_of [0, 1, 2, 4] rfl)
        refine zr_iconst (0 : Int32) h0 (by decide) dX6_plain_42 (n := 43) rfl ?_
        exact J43 t11.2 t11.1 (0 : Int32)
      · refine zv_sub (lv' := [(0, .ref a0), (1, .int a1), (2, .int x1), (4, .int t11.2)]) ?_ (zsub_of [0, 1, 2, 4] rfl)
        refine zr_iconst (1 : Int32) h0 (by decide) dX6_plain_38 (n := 39) rfl ?_
        refine zr_goto (tgt := 43) h0 dX6_plain_39 (by decide) ?_
        exact J43 t11.2 t11.1 (1 : Int32)
theorem kX6_plain (l : Launch) (D : ZD) (z0 : Nat) (a0 : Nat) (a1 : Int32) (S : ZS) (x : Int32 × ZS) (hf : fX6_plain a0 a1 S = some x) : zMet l D z0 yX6_plain cX6_plain 8 (some .int) rmX6_plain [.ref a0, .int a1] S (some (.int x.1)) x.2 :=
  zMet_of (by decide) (Nat.le_of_ble_eq_true rfl) (fun G h0 hini hE => wX6_plain a0 a1 S h0 (fun o => o = some x) (fun h => nomatch h) (fun v S1 h => by cases h; exact hE)) hf
