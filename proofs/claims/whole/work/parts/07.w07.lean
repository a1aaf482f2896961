theorem dX6_learn_0 : decode cX6_learn 0 = .ok (.aload_n 0, 1) := by decide +kernel
theorem dX6_learn_1 : decode cX6_learn 1 = .ok (.getfield 41, 3) := by decide +kernel
theorem dX6_learn_4 : decode cX6_learn 4 = .ok (.iload_n 2, 1) := by decide +kernel
theorem dX6_learn_5 : decode cX6_learn 5 = .ok (.iaload, 1) := by decide +kernel
theorem dX6_learn_6 : decode cX6_learn 6 = .ok (.iconst (-1), 1) := by decide +kernel
theorem dX6_learn_7 : decode cX6_learn 7 = .ok (.if_icmp .ne 37, 3) := by decide +kernel
theorem dX6_learn_10 : decode cX6_learn 10 = .ok (.aload_n 0, 1) := by decide +kernel
theorem dX6_learn_11 : decode cX6_learn 11 = .ok (.getfield 41, 3) := by decide +kernel
theorem dX6_learn_14 : decode cX6_learn 14 = .ok (.iload_n 2, 1) := by decide +kernel
theorem dX6_learn_15 : decode cX6_learn 15 = .ok (.aload_n 0, 1) := by decide +kernel
theorem dX6_learn_16 : decode cX6_learn 16 = .ok (.getfield 41, 3) := by decide +kernel
theorem dX6_learn_19 : decode cX6_learn 19 = .ok (.iload_n 1, 1) := by decide +kernel
theorem dX6_learn_20 : decode cX6_learn 20 = .ok (.iaload, 1) := by decide +kernel
theorem dX6_learn_21 : decode cX6_learn 21 = .ok (.iconst 1, 1) := by decide +kernel
theorem dX6_learn_22 : decode cX6_learn 22 = .ok (.iadd, 1) := by decide +kernel
theorem dX6_learn_23 : decode cX6_learn 23 = .ok (.iastore, 1) := by decide +kernel
theorem dX6_learn_24 : decode cX6_learn 24 = .ok (.aload_n 0, 1) := by decide +kernel
theorem dX6_learn_25 : decode cX6_learn 25 = .ok (.getfield 44, 3) := by decide +kernel
theorem dX6_learn_28 : decode cX6_learn 28 = .ok (.aload_n 0, 1) := by decide +kernel
theorem dX6_learn_29 : decode cX6_learn 29 = .ok (.getfield 154, 3) := by decide +kernel
theorem dX6_learn_32 : decode cX6_learn 32 = .ok (.iload_n 2, 1) := by decide +kernel
theorem dX6_learn_33 : decode cX6_learn 33 = .ok (.iastore, 1) := by decide +kernel
theorem dX6_learn_34 : decode cX6_learn 34 = .ok (.aload_n 0, 1) := by decide +kernel
theorem dX6_learn_35 : decode cX6_learn 35 = .ok (.dup, 1) := by decide +kernel
theorem dX6_learn_36 : decode cX6_learn 36 = .ok (.getfield 154, 3) := by decide +kernel
theorem dX6_learn_39 : decode cX6_learn 39 = .ok (.iconst 1, 1) := by decide +kernel
theorem dX6_learn_40 : decode cX6_learn 40 = .ok (.iadd, 1) := by decide +kernel
theorem dX6_learn_41 : decode cX6_learn 41 = .ok (.putfield 154, 3) := by decide +kernel
theorem dX6_learn_44 : decode cX6_learn 44 = .ok (.return_, 1) := by decide +kernel
abbrev rmX6_learn : Room := { frames := 1, cells := 0, slots := 0, locals := 20 }
theorem zyX6_learn : zyOK yX6_learn 2 := ⟨by decide +kernel, by decide +kernel, by decide +kernel⟩
set_option maxHeartbeats 4000000 in
set_option maxRecDepth 100000 in
theorem wX6_learn {G : ZG} (a0 : Nat) (a1 : Int32) (a2 : Int32) (S : ZS) (h0 : zFix G cX6_learn RX6 3 none rmX6_learn) (C : Option ZS → Prop) (hC : ¬ C none) (hE : ∀ S1 : ZS, C (some S1) → zEnd G none S1 rmX6_learn) : zV G 3 S 0 0 0 [(0, .ref a0), (1, .int a1), (2, .int a2)] [] (C (fX6_learn a0 a1 a2 S)) := by
  have J44 : ∀  (S_44 : ZS), zV G 3 S_44 0 0 44 [] [] (C (fX6_learn_J44 S_44)) := by
    intro  S_44
    unfold fX6_learn_J44
    exact zr_vret h0 rfl dX6_learn_44 (fun h => hE _ h) (by decide) (by decide)
  unfold fX6_learn
  refine zr_aload_n h0 dX6_learn_0 rfl (n := 1) rfl ?_
  refine zr_getR C hC h0 zcX6 (k := 13) (by decide) zw_832 dX6_learn_1 (n := 4) rfl (fun v1 => ?_)
  refine zr_iload_n h0 dX6_learn_4 rfl (n := 5) rfl ?_
  refine zr_iaload C hC h0 dX6_learn_5 (n := 6) rfl (fun v2 => ?_)
  refine zr_iconst (-1 : Int32) h0 (by decide) dX6_learn_6 (n := 7) rfl ?_
  refine zr_icmp_ne C (tgt := 44) h0 dX6_learn_7 (by decide) (n := 10) rfl ?_ ?_
  · refine zr_aload_n h0 dX6_learn_10 rfl (n := 11) rfl ?_
    refine zr_getR C hC h0 zcX6 (k := 13) (by decide) zw_832 dX6_learn_11 (n := 14) rfl (fun v3 => ?_)
    refine zr_iload_n h0 dX6_learn_14 rfl (n := 15) rfl ?_
    refine zr_aload_n h0 dX6_learn_15 rfl (n := 16) rfl ?_
    refine zr_getR C hC h0 zcX6 (k := 13) (by decide) zw_832 dX6_learn_16 (n := 19) rfl (fun v4 => ?_)
    refine zr_iload_n h0 dX6_learn_19 rfl (n := 20) rfl ?_
    refine zr_iaload C hC h0 dX6_learn_20 (n := 21) rfl (fun v5 => ?_)
    refine zr_iconst (1 : Int32) h0 (by decide) dX6_learn_21 (n := 22) rfl ?_
    refine zr_iadd h0 dX6_learn_22 (n := 23) rfl ?_
    refine zr_iastore C hC h0 dX6_learn_23 (n := 24) rfl (fun S6 => ?_)
    refine zr_aload_n h0 dX6_learn_24 rfl (n := 25) rfl ?_
    refine zr_getR C hC h0 zcX6 (k := 14) (by decide) zw_833 dX6_learn_25 (n := 28) rfl (fun v7 => ?_)
    refine zr_aload_n h0 dX6_learn_28 rfl (n := 29) rfl ?_
    refine zr_getI C hC h0 zcX6 (k := 15) (by decide) zw_834 dX6_learn_29 (n := 32) rfl (fun v8 => ?_)
    refine zr_iload_n h0 dX6_learn_32 rfl (n := 33) rfl ?_
    refine zr_iastore C hC h0 dX6_learn_33 (n := 34) rfl (fun S9 => ?_)
    refine zr_aload_n h0 dX6_learn_34 rfl (n := 35) rfl ?_
    refine zr_dup h0 rfl dX6_learn_35 (n := 36) rfl ?_
    refine zr_getI C hC h0 zcX6 (k := 15) (by decide) zw_834 dX6_learn_36 (n := 39) rfl (fun v10 => ?_)
    refine zr_iconst (1 : Int32) h0 (by decide) dX6_learn_39 (n := 40) rfl ?_
    refine zr_iadd h0 dX6_learn_40 (n := 41) rfl ?_
    refine zr_putF C hC h0 zcX6 (k := 15) (by decide) zw_834 rfl rfl rfl dX6_learn_41 (n := 44) rfl (fun S11 => ?_)
    refine zv_sub (lv' := []) ?_ (zsub_of [] rfl)
    exact J44 S11
  · refine zv_sub (lv' := []) ?_ (zsub_of [] rfl)
    exact J44 S
theorem kX6_learn (l : Launch) (D : ZD) (z0 : Nat) (a0 : Nat) (a1 : Int32) (a2 : Int32) (S : ZS) (x : ZS) (hf : fX6_learn a0 a1 a2 S = some x) : zMet l D z0 yX6_learn cX6_learn 3 none rmX6_learn [.ref a0, .int a1, .int a2] S none x :=
  zMet_of (by decide) (Nat.le_of_ble_eq_true rfl) (fun G h0 hini hE => wX6_learn a0 a1 a2 S h0 (fun o => o = some x) (fun h => nomatch h) (fun S1 h => by cases h; exact hE)) hf
theorem dX6_fewest_0 : decode cX6_fewest 0 = .ok (.aload_n 0, 1) := by decide +kernel
theorem dX6_fewest_1 : decode cX6_fewest 1 = .ok (.getfield 13, 3) := by decide +kernel
theorem dX6_fewest_4 : decode cX6_fewest 4 = .ok (.iconst 3, 1) := by decide +kernel
theorem dX6_fewest_5 : decode cX6_fewest 5 = .ok (.iload_n 1, 1) := by decide +kernel
theorem dX6_fewest_6 : decode cX6_fewest 6 = .ok (.imul, 1) := by decide +kernel
theorem dX6_fewest_7 : decode cX6_fewest 7 = .ok (.iaload, 1) := by decide +kernel
theorem dX6_fewest_8 : decode cX6_fewest 8 = .ok (.istore_n 2, 1) := by decide +kernel
theorem dX6_fewest_9 : decode cX6_fewest 9 = .ok (.aload_n 0, 1) := by decide +kernel
theorem dX6_fewest_10 : decode cX6_fewest 10 = .ok (.getfield 13, 3) := by decide +kernel
theorem dX6_fewest_13 : decode cX6_fewest 13 = .ok (.iconst 3, 1) := by decide +kernel
theorem dX6_fewest_14 : decode cX6_fewest 14 = .ok (.iload_n 1, 1) := by decide +kernel
theorem dX6_fewest_15 : decode cX6_fewest 15 = .ok (.imul, 1) := by decide +kernel
theorem dX6_fewest_16 : decode cX6_fewest 16 = .ok (.iconst 1, 1) := by decide +kernel
theorem dX6_fewest_17 : decode cX6_fewest 17 = .ok (.iadd, 1) := by decide +kernel
theorem dX6_fewest_18 : decode cX6_fewest 18 = .ok (.iaload, 1) := by decide +kernel
theorem dX6_fewest_19 : decode cX6_fewest 19 = .ok (.istore_n 3, 1) := by decide +kernel
theorem dX6_fewest_20 : decode cX6_fewest 20 = .ok (.aload_n 0, 1) := by decide +kernel
theorem dX6_fewest_21 : decode cX6_fewest 21 = .ok (.getfield 13, 3) := by decide +kernel
theorem dX6_fewest_24 : decode cX6_fewest 24 = .ok (.iconst 3, 1) := by decide +kernel
theorem dX6_fewest_25 : decode cX6_fewest 25 = .ok (.iload_n 1, 1) := by decide +kernel
theorem dX6_fewest_26 : decode cX6_fewest 26 = .ok (.imul, 1) := by decide +kernel
theorem dX6_fewest_27 : decode cX6_fewest 27 = .ok (.iconst 2, 1) := by decide +kernel
theorem dX6_fewest_28 : decode cX6_fewest 28 = .ok (.iadd, 1) := by decide +kernel
theorem dX6_fewest_29 : decode cX6_fewest 29 = .ok (.iaload, 1) := by decide +kernel
theorem dX6_fewest_30 : decode cX6_fewest 30 = .ok (.istore 4, 2) := by decide +kernel
theorem dX6_fewest_32 : decode cX6_fewest 32 = .ok (.iconst 0, 1) := by decide +kernel
theorem dX6_fewest_33 : decode cX6_fewest 33 = .ok (.istore 5, 2) := by decide +kernel
theorem dX6_fewest_35 : decode cX6_fewest 35 = .ok (.iconst 0, 1) := by decide +kernel
theorem dX6_fewest_36 : decode cX6_fewest 36 = .ok (.istore 6, 2) := by decide +kernel
theorem dX6_fewest_38 : decode cX6_fewest 38 = .ok (.iload 6, 2) := by decide +kernel
theorem dX6_fewest_40 : decode cX6_fewest 40 = .ok (.iload_n 2, 1) := by decide +kernel
theorem dX6_fewest_41 : decode cX6_fewest 41 = .ok (.iload_n 3, 1) := by decide +kernel
theorem dX6_fewest_42 : decode cX6_fewest 42 = .ok (.imul, 1) := by decide +kernel
theorem dX6_fewest_43 : decode cX6_fewest 43 = .ok (.iload 4, 2) := by decide +kernel
theorem dX6_fewest_45 : decode cX6_fewest 45 = .ok (.imul, 1) := by decide +kernel
theorem dX6_fewest_46 : decode cX6_fewest 46 = .ok (.if_icmp .ge 49, 3) := by decide +kernel
theorem dX6_fewest_49 : decode cX6_fewest 49 = .ok (.iload 5, 2) := by decide +kernel
theorem dX6_fewest_51 : decode cX6_fewest 51 = .ok (.aload_n 0, 1) := by decide +kernel
theorem dX6_fewest_52 : decode cX6_fewest 52 = .ok (.getfield 17, 3) := by decide +kernel
theorem dX6_fewest_55 : decode cX6_fewest 55 = .ok (.bipush 64, 2) := by decide +kernel
theorem dX6_fewest_57 : decode cX6_fewest 57 = .ok (.iload_n 1, 1) := by decide +kernel
theorem dX6_fewest_58 : decode cX6_fewest 58 = .ok (.imul, 1) := by decide +kernel
theorem dX6_fewest_59 : decode cX6_fewest 59 = .ok (.iload 6, 2) := by decide +kernel
theorem dX6_fewest_61 : decode cX6_fewest 61 = .ok (.iload 4, 2) := by decide +kernel
theorem dX6_fewest_63 : decode cX6_fewest 63 = .ok (.idiv, 1) := by decide +kernel
theorem dX6_fewest_64 : decode cX6_fewest 64 = .ok (.iload_n 3, 1) := by decide +kernel
theorem dX6_fewest_65 : decode cX6_fewest 65 = .ok (.idiv, 1) := by decide +kernel
theorem dX6_fewest_66 : decode cX6_fewest 66 = .ok (.iload 6, 2) := by decide +kernel
theorem dX6_fewest_68 : decode cX6_fewest 68 = .ok (.iload 4, 2) := by decide +kernel
theorem dX6_fewest_70 : decode cX6_fewest 70 = .ok (.idiv, 1) := by decide +kernel
theorem dX6_fewest_71 : decode cX6_fewest 71 = .ok (.iload_n 3, 1) := by decide +kernel
theorem dX6_fewest_72 : decode cX6_fewest 72 = .ok (.irem, 1) := by decide +kernel
theorem dX6_fewest_73 : decode cX6_fewest 73 = .ok (.iload 6, 2) := by decide +kernel
theorem dX6_fewest_75 : decode cX6_fewest 75 = .ok (.iload 4, 2) := by decide +kernel
theorem dX6_fewest_77 : decode cX6_fewest 77 = .ok (.irem, 1) := by decide +kernel
theorem dX6_fewest_78 : decode cX6_fewest 78 = .ok (.invokestatic 75, 3) := by decide +kernel
theorem dX6_fewest_81 : decode cX6_fewest 81 = .ok (.iadd, 1) := by decide +kernel
theorem dX6_fewest_82 : decode cX6_fewest 82 = .ok (.iaload, 1) := by decide +kernel
theorem dX6_fewest_83 : decode cX6_fewest 83 = .ok (.iload 6, 2) := by decide +kernel
theorem dX6_fewest_85 : decode cX6_fewest 85 = .ok (.ishl, 1) := by decide +kernel
theorem dX6_fewest_86 : decode cX6_fewest 86 = .ok (.ior, 1) := by decide +kernel
theorem dX6_fewest_87 : decode cX6_fewest 87 = .ok (.istore 5, 2) := by decide +kernel
theorem dX6_fewest_89 : decode cX6_fewest 89 = .ok (.iinc 6 1, 3) := by decide +kernel
theorem dX6_fewest_92 : decode cX6_fewest 92 = .ok (.goto (-54), 3) := by decide +kernel
theorem dX6_fewest_95 : decode cX6_fewest 95 = .ok (.iconst 0, 1) := by decide +kernel
theorem dX6_fewest_96 : decode cX6_fewest 96 = .ok (.istore 6, 2) := by decide +kernel
theorem dX6_fewest_98 : decode cX6_fewest 98 = .ok (.iload 6, 2) := by decide +kernel
theorem dX6_fewest_100 : decode cX6_fewest 100 = .ok (.iconst 1, 1) := by decide +kernel
theorem dX6_fewest_101 : decode cX6_fewest 101 = .ok (.iload_n 2, 1) := by decide +kernel
theorem dX6_fewest_102 : decode cX6_fewest 102 = .ok (.iload_n 3, 1) := by decide +kernel
theorem dX6_fewest_103 : decode cX6_fewest 103 = .ok (.imul, 1) := by decide +kernel
theorem dX6_fewest_104 : decode cX6_fewest 104 = .ok (.iload 4, 2) := by decide +kernel
theorem dX6_fewest_106 : decode cX6_fewest 106 = .ok (.imul, 1) := by decide +kernel
theorem dX6_fewest_107 : decode cX6_fewest 107 = .ok (.ishl, 1) := by decide +kernel
theorem dX6_fewest_108 : decode cX6_fewest 108 = .ok (.if_icmp .ge 17, 3) := by decide +kernel
theorem dX6_fewest_111 : decode cX6_fewest 111 = .ok (.aload_n 0, 1) := by decide +kernel
theorem dX6_fewest_112 : decode cX6_fewest 112 = .ok (.getfield 41, 3) := by decide +kernel
theorem dX6_fewest_115 : decode cX6_fewest 115 = .ok (.iload 6, 2) := by decide +kernel
theorem dX6_fewest_117 : decode cX6_fewest 117 = .ok (.iconst (-1), 1) := by decide +kernel
theorem dX6_fewest_118 : decode cX6_fewest 118 = .ok (.iastore, 1) := by decide +kernel
theorem dX6_fewest_119 : decode cX6_fewest 119 = .ok (.iinc 6 1, 3) := by decide +kernel
theorem dX6_fewest_122 : decode cX6_fewest 122 = .ok (.goto (-24), 3) := by decide +kernel
theorem dX6_fewest_125 : decode cX6_fewest 125 = .ok (.aload_n 0, 1) := by decide +kernel
theorem dX6_fewest_126 : decode cX6_fewest 126 = .ok (.getfield 41, 3) := by decide +kernel
theorem dX6_fewest_129 : decode cX6_fewest 129 = .ok (.iconst 0, 1) := by decide +kernel
theorem dX6_fewest_130 : decode cX6_fewest 130 = .ok (.iconst 0, 1) := by decide +kernel
theorem dX6_fewest_131 : decode cX6_fewest 131 = .ok (.iastore, 1) := by decide +kernel
theorem dX6_fewest_132 : decode cX6_fewest 132 = .ok (.aload_n 0, 1) := by decide +kernel
theorem dX6_fewest_133 : decode cX6_fewest 133 = .ok (.getfield 44, 3) := by decide +kernel
theorem dX6_fewest_136 : decode cX6_fewest 136 = .ok (.iconst 0, 1) := by decide +kernel
theorem dX6_fewest_137 : decode cX6_fewest 137 = .ok (.iconst 0, 1) := by decide +kernel
theorem dX6_fewest_138 : decode cX6_fewest 138 = .ok (.iastore, 1) := by decide +kernel
theorem dX6_fewest_139 : decode cX6_fewest 139 = .ok (.aload_n 0, 1) := by decide +kernel
theorem dX6_fewest_140 : decode cX6_fewest 140 = .ok (.iconst 1, 1) := by decide +kernel
theorem dX6_fewest_141 : decode cX6_fewest 141 = .ok (.putfield 154, 3) := by decide +kernel
theorem dX6_fewest_144 : decode cX6_fewest 144 = .ok (.iconst 0, 1) := by decide +kernel
theorem dX6_fewest_145 : decode cX6_fewest 145 = .ok (.istore 6, 2) := by decide +kernel
theorem dX6_fewest_147 : decode cX6_fewest 147 = .ok (.iload 6, 2) := by decide +kernel
theorem dX6_fewest_149 : decode cX6_fewest 149 = .ok (.aload_n 0, 1) := by decide +kernel
theorem dX6_fewest_150 : decode cX6_fewest 150 = .ok (.getfield 154, 3) := by decide +kernel
theorem dX6_fewest_153 : decode cX6_fewest 153 = .ok (.if_icmp .ge 117, 3) := by decide +kernel
theorem dX6_fewest_156 : decode cX6_fewest 156 = .ok (.aload_n 0, 1) := by decide +kernel
theorem dX6_fewest_157 : decode cX6_fewest 157 = .ok (.getfield 41, 3) := by decide +kernel
theorem dX6_fewest_160 : decode cX6_fewest 160 = .ok (.iload 5, 2) := by decide +kernel
theorem dX6_fewest_162 : decode cX6_fewest 162 = .ok (.iaload, 1) := by decide +kernel
theorem dX6_fewest_163 : decode cX6_fewest 163 = .ok (.iconst (-1), 1) := by decide +kernel
theorem dX6_fewest_164 : decode cX6_fewest 164 = .ok (.if_icmp .ne 106, 3) := by decide +kernel
theorem dX6_fewest_167 : decode cX6_fewest 167 = .ok (.iconst 0, 1) := by decide +kernel
theorem dX6_fewest_168 : decode cX6_fewest 168 = .ok (.istore 7, 2) := by decide +kernel
theorem dX6_fewest_170 : decode cX6_fewest 170 = .ok (.iload 7, 2) := by decide +kernel
theorem dX6_fewest_172 : decode cX6_fewest 172 = .ok (.iconst 1, 1) := by decide +kernel
theorem dX6_fewest_173 : decode cX6_fewest 173 = .ok (.iload_n 2, 1) := by decide +kernel
theorem dX6_fewest_174 : decode cX6_fewest 174 = .ok (.iload_n 3, 1) := by decide +kernel
theorem dX6_fewest_175 : decode cX6_fewest 175 = .ok (.iadd, 1) := by decide +kernel
theorem dX6_fewest_176 : decode cX6_fewest 176 = .ok (.iload 4, 2) := by decide +kernel
theorem dX6_fewest_178 : decode cX6_fewest 178 = .ok (.iadd, 1) := by decide +kernel
theorem dX6_fewest_179 : decode cX6_fewest 179 = .ok (.ishl, 1) := by decide +kernel
theorem dX6_fewest_180 : decode cX6_fewest 180 = .ok (.if_icmp .ge 84, 3) := by decide +kernel
theorem dX6_fewest_183 : decode cX6_fewest 183 = .ok (.iload 7, 2) := by decide +kernel
theorem dX6_fewest_185 : decode cX6_fewest 185 = .ok (.iconst 1, 1) := by decide +kernel
theorem dX6_fewest_186 : decode cX6_fewest 186 = .ok (.iload_n 2, 1) := by decide +kernel
theorem dX6_fewest_187 : decode cX6_fewest 187 = .ok (.ishl, 1) := by decide +kernel
theorem dX6_fewest_188 : decode cX6_fewest 188 = .ok (.iconst 1, 1) := by decide +kernel
theorem dX6_fewest_189 : decode cX6_fewest 189 = .ok (.isub, 1) := by decide +kernel
theorem dX6_fewest_190 : decode cX6_fewest 190 = .ok (.iand, 1) := by decide +kernel
theorem dX6_fewest_191 : decode cX6_fewest 191 = .ok (.istore 8, 2) := by decide +kernel
theorem dX6_fewest_193 : decode cX6_fewest 193 = .ok (.iload 7, 2) := by decide +kernel
theorem dX6_fewest_195 : decode cX6_fewest 195 = .ok (.iload_n 2, 1) := by decide +kernel
theorem dX6_fewest_196 : decode cX6_fewest 196 = .ok (.ishr, 1) := by decide +kernel
theorem dX6_fewest_197 : decode cX6_fewest 197 = .ok (.iconst 1, 1) := by decide +kernel
theorem dX6_fewest_198 : decode cX6_fewest 198 = .ok (.iload_n 3, 1) := by decide +kernel
theorem dX6_fewest_199 : decode cX6_fewest 199 = .ok (.ishl, 1) := by decide +kernel
theorem dX6_fewest_200 : decode cX6_fewest 200 = .ok (.iconst 1, 1) := by decide +kernel
theorem dX6_fewest_201 : decode cX6_fewest 201 = .ok (.isub, 1) := by decide +kernel
theorem dX6_fewest_202 : decode cX6_fewest 202 = .ok (.iand, 1) := by decide +kernel
theorem dX6_fewest_203 : decode cX6_fewest 203 = .ok (.istore 9, 2) := by decide +kernel
theorem dX6_fewest_205 : decode cX6_fewest 205 = .ok (.iload 7, 2) := by decide +kernel
theorem dX6_fewest_207 : decode cX6_fewest 207 = .ok (.iload_n 2, 1) := by decide +kernel
theorem dX6_fewest_208 : decode cX6_fewest 208 = .ok (.iload_n 3, 1) := by decide +kernel
theorem dX6_fewest_209 : decode cX6_fewest 209 = .ok (.iadd, 1) := by decide +kernel
theorem dX6_fewest_210 : decode cX6_fewest 210 = .ok (.ishr, 1) := by decide +kernel
theorem dX6_fewest_211 : decode cX6_fewest 211 = .ok (.istore 10, 2) := by decide +kernel
theorem dX6_fewest_213 : decode cX6_fewest 213 = .ok (.iload 8, 2) := by decide +kernel
theorem dX6_fewest_215 : decode cX6_fewest 215 = .ok (.ifCond .le 43, 3) := by decide +kernel
theorem dX6_fewest_218 : decode cX6_fewest 218 = .ok (.iload 9, 2) := by decide +kernel
theorem dX6_fewest_220 : decode cX6_fewest 220 = .ok (.ifCond .le 38, 3) := by decide +kernel
theorem dX6_fewest_223 : decode cX6_fewest 223 = .ok (.iload 10, 2) := by decide +kernel
theorem dX6_fewest_225 : decode cX6_fewest 225 = .ok (.ifCond .le 33, 3) := by decide +kernel
theorem dX6_fewest_228 : decode cX6_fewest 228 = .ok (.aload_n 0, 1) := by decide +kernel
theorem dX6_fewest_229 : decode cX6_fewest 229 = .ok (.aload_n 0, 1) := by decide +kernel
theorem dX6_fewest_230 : decode cX6_fewest 230 = .ok (.getfield 44, 3) := by decide +kernel
theorem dX6_fewest_233 : decode cX6_fewest 233 = .ok (.iload 6, 2) := by decide +kernel
theorem dX6_fewest_235 : decode cX6_fewest 235 = .ok (.iaload, 1) := by decide +kernel
theorem dX6_fewest_236 : decode cX6_fewest 236 = .ok (.aload_n 0, 1) := by decide +kernel
theorem dX6_fewest_237 : decode cX6_fewest 237 = .ok (.getfield 44, 3) := by decide +kernel
theorem dX6_fewest_240 : decode cX6_fewest 240 = .ok (.iload 6, 2) := by decide +kernel
theorem dX6_fewest_242 : decode cX6_fewest 242 = .ok (.iaload, 1) := by decide +kernel
theorem dX6_fewest_243 : decode cX6_fewest 243 = .ok (.aload_n 0, 1) := by decide +kernel
theorem dX6_fewest_244 : decode cX6_fewest 244 = .ok (.iload_n 1, 1) := by decide +kernel
theorem dX6_fewest_245 : decode cX6_fewest 245 = .ok (.iload 8, 2) := by decide +kernel
theorem dX6_fewest_247 : decode cX6_fewest 247 = .ok (.iload 9, 2) := by decide +kernel
theorem dX6_fewest_249 : decode cX6_fewest 249 = .ok (.iload 10, 2) := by decide +kernel
theorem dX6_fewest_251 : decode cX6_fewest 251 = .ok (.invokevirtual 157, 3) := by decide +kernel
theorem dX6_fewest_254 : decode cX6_fewest 254 = .ok (.ixor, 1) := by decide +kernel
theorem dX6_fewest_255 : decode cX6_fewest 255 = .ok (.invokevirtual 160, 3) := by decide +kernel
theorem dX6_fewest_258 : decode cX6_fewest 258 = .ok (.iinc 7 1, 3) := by decide +kernel
theorem dX6_fewest_261 : decode cX6_fewest 261 = .ok (.goto (-91), 3) := by decide +kernel
theorem dX6_fewest_264 : decode cX6_fewest 264 = .ok (.iinc 6 1, 3) := by decide +kernel
theorem dX6_fewest_267 : decode cX6_fewest 267 = .ok (.goto (-120), 3) := by decide +kernel
theorem dX6_fewest_270 : decode cX6_fewest 270 = .ok (.aload_n 0, 1) := by decide +kernel
theorem dX6_fewest_271 : decode cX6_fewest 271 = .ok (.getfield 41, 3) := by decide +kernel
theorem dX6_fewest_274 : decode cX6_fewest 274 = .ok (.iload 5, 2) := by decide +kernel
theorem dX6_fewest_276 : decode cX6_fewest 276 = .ok (.iaload, 1) := by decide +kernel
theorem dX6_fewest_277 : decode cX6_fewest 277 = .ok (.ireturn, 1) := by decide +kernel
abbrev rmX6_fewest : Room := { frames := 2, cells := 0, slots := 0, locals := 50 }
theorem zyX6_fewest : zyOK yX6_fewest 1 := ⟨by decide +kernel, by decide +kernel, by decide +kernel⟩
set_option maxHeartbeats 4000000 in
set_option maxRecDepth 100000 in
theorem wX6_fewest {G : ZG} (a0 : Nat) (a1 : Int32) (S : ZS) (h0 : zFix G cX6_fewest RX6 11 (some .int) rmX6_fewest) (C : Option (Int32 × ZS) → Prop) (hC : ¬ C none) (hE : ∀ (v : Int32) (S1 : ZS), C (some (v, S1)) → zEnd G (some (.int v)) S1 rmX6_fewest) : zV G 11 S 0 0 0 [(0, .ref a0), (1, .int a1)] [] (C (fX6_fewest a0 a1 S)) := by
  have J270 : ∀ (l0_270 : Nat) (l5_270 : Int32) (S_270 : ZS), zV G 11 S_270 0 0 270 [(0, .ref l0_270), (5, .int l5_270)] [] (C (fX6_fewest_J270 l0_270 l5_270 S_270)) := by
    intro l0_270 l5_270 S_270
    unfold fX6_fewest_J270
    refine zr_aload_n h0 dX6_fewest_270 rfl (n := 271) rfl ?_
    refine zr_getR C hC h0 zcX6 (k := 13) (by decide) zw_832 dX6_fewest_271 (n := 274) rfl (fun v88 => ?_)
    refine zr_iload h0 dX6_fewest_274 rfl (n := 276) rfl ?_
    refine zr_iaload C hC h0 dX6_fewest_276 (n := 277) rfl (fun v89 => ?_)
    exact zr_iret h0 rfl dX6_fewest_277 (hE _ _) (by decide) (by decide)
  unfold fX6_fewest
  refine zr_aload_n h0 dX6_fewest_0 rfl (n := 1) rfl ?_
  refine zr_getR C hC h0 zcX6 (k := 3) (by decide) zw_822 dX6_fewest_1 (n := 4) rfl (fun v1 => ?_)
  refine zr_iconst (3 : Int32) h0 (by decide) dX6_fewest_4 (n := 5) rfl ?_
  refine zr_iload_n h0 dX6_fewest_5 rfl (n := 6) rfl ?_
  refine zr_imul h0 dX6_fewest_6 (n := 7) rfl ?_
  refine zr_iaload C hC h0 dX6_fewest_7 (n := 8) rfl (fun v2 => ?_)
  refine zr_istore_n [(0, .ref a0), (1, .int a1), (2, .int v2)] h0 dX6_fewest_8 (by decide) rfl (n := 9) rfl ?_
  refine zr_aload_n h0 dX6_fewest_9 rfl (n := 10) rfl ?_
  refine zr_getR C hC h0 zcX6 (k := 3) (by decide) zw_822 dX6_fewest_10 (n := 13) rfl (fun v3 => ?_)
  refine zr_iconst (3 : Int32) h0 (by decide) dX6_fewest_13 (n := 14) rfl ?_
  refine zr_iload_n h0 dX6_fewest_14 rfl (n := 15) rfl ?_
  refine zr_imul h0 dX6_fewest_15 (n := 16) rfl ?_
  refine zr_iconst (1 : Int32) h0 (by decide) dX6_fewest_16 (n := 17) rfl ?_
  refine zr_iadd h0 dX6_fewest_17 (n := 18) rfl ?_
  refine zr_iaload C hC h0 dX6_fewest_18 (n := 19) rfl (fun v4 => ?_)
  refine zr_istore_n [(0, .ref a0), (1, .int a1), (2, .int v2), (3, .int v4)] h0 dX6_fewest_19 (by decide) rfl (n := 20) rfl ?_
  refine zr_aload_n h0 dX6_fewest_20 rfl (n := 21) rfl ?_
  refine zr_getR C hC h0 zcX6 (k := 3) (by decide) zw_822 dX6_fewest_21 (n := 24) rfl (fun v5 => ?_)
  refine zr_iconst (3 : Int32) h0 (by decide) dX6_fewest_24 (n := 25) rfl ?_
  refine zr_iload_n h0 dX6_fewest_25 rfl (n := 26) rfl ?_
  refine zr_imul h0 dX6_fewest_26 (n := 27) rfl ?_
  refine zr_iconst (2 : Int32) h0 (by decide) dX6_fewest_27 (n := 28) rfl ?_
  refine zr_iadd h0 dX6_fewest_28 (n := 29) rfl ?_
  refine zr_iaload C hC h0 dX6_fewest_29 (n := 30) rfl (fun v6 => ?_)
  refine zr_istore [(0, .ref a0), (1, .int a1), (2, .int v2), (3, .int v4), (4, .int v6)] h0 dX6_fewest_30 (by decide) rfl (n := 32) rfl ?_
  refine zr_iconst (0 : Int32) h0 (by decide) dX6_fewest_32 (n := 33) rfl ?_
  refine zr_istore [(0, .ref a0), (1, .int a1), (2, .int v2), (3, .int v4), (4, .int v6), (5, .int (0 : Int32))] h0 dX6_fewest_33 (by decide) rfl (n := 35) rfl ?_
  refine zr_iconst (0 : Int32) h0 (by decide) dX6_fewest_35 (n := 36) rfl ?_
  refine zr_istore [(0, .ref a0), (1, .int a1), (2, .int v2), (3, .int v4), (4, .int v6), (5, .int (0 : Int32)), (6, .int (0 : Int32))] h0 dX6_fewest_36 (by decide) rfl (n := 38) rfl ?_
  refine zr_loop hC (fX6_fewest_B38 a0 a1 v2 v4 v6 S) (fun y => [(0, .ref a0), (1, .int a1), (2, .int v2), (3, .int v4), (4, .int v6), (5, .int y.1), (6, .int y.2)]) (fun y => S) zF ((0 : Int32), (0 : Int32)) (fun C38 hC38 hX38 hL38 t38 => ?_)
  unfold fX6_fewest_B38
  refine zr_iload h0 dX6_fewest_38 rfl (n := 40) rfl ?_
  refine zr_iload_n h0 dX6_fewest_40 rfl (n := 41) rfl ?_
  refine zr_iload_n h0 dX6_fewest_41 rfl (n := 42) rfl ?_
  refine zr_imul h0 dX6_fewest_42 (n := 43) rfl ?_
  refine zr_iload h0 dX6_fewest_43 rfl (n := 45) rfl ?_
  refine zr_imul h0 dX6_fewest_45 (n := 46) rfl ?_
  refine zr_icmp_ge C38 (tgt := 95) h0 dX6_fewest_46 (by decide) (n := 49) rfl ?_ ?_
  · refine zr_ex hX38 ?_
    refine zv_sub (lv' := [(0, .ref a0), (1, .int a1), (2, .int v2), (3, .int v4), (4, .int v6), (5, .int t38.1)]) ?_ (zsub_of [0, 1, 2, 3, 4, 5] rfl)
    refine zr_iconst (0 : Int32) h0 (by decide) dX6_fewest_95 (n := 96) rfl ?_
    refine zr_istore [(0, .ref a0), (1, .int a1), (2, .int v2), (3, .int v4), (4, .int v6), (5, .int t38.1), (6, .int (0 : Int32))] h0 dX6_fewest_96 (by decide) rfl (n := 98) rfl ?_
    refine zr_loop hC (fX6_fewest_B98 a0 a1 v2 v4 v6 t38.1) (fun y => [(0, .ref a0), (1, .int a1), (2, .int v2), (3, .int v4), (4, .int v6), (5, .int t38.1), (6, .int y.1)]) (fun y => y.2) zF ((0 : Int32), S) (fun C98 hC98 hX98 hL98 t98 => ?_)
    unfold fX6_fewest_B98
    refine zr_iload h0 dX6_fewest_98 rfl (n := 100) rfl ?_
    refine zr_iconst (1 : Int32) h0 (by decide) dX6_fewest_100 (n := 101) rfl ?_
    refine zr_iload_n h0 dX6_fewest_101 rfl (n := 102) rfl ?_
    refine zr_iload_n h0 dX6_fewest_102 rfl (n := 103) rfl ?_
    refine zr_imul h0 dX6_fewest_103 (n := 104) rfl ?_
    refine zr_iload h0 dX6_fewest_104 rfl (n := 106) rfl ?_
    refine zr_imul h0 dX6_fewest_106 (n := 107) rfl ?_
    refine zr_ishl h0 dX6_fewest_107 (n := 108) rfl ?_
    refine zr_icmp_ge C98 (tgt := 125) h0 dX6_fewest_108 (by decide) (n := 111) rfl ?_ ?_
    · refine zr_ex hX98 ?_
      refine zv_sub (lv' := [(0, .ref a0), (1, .int a1), (2, .int v2), (3, .int v4), (4, .int v6), (5, .int t38.1)]) ?_ (zsub_of [0, 1, 2, 3, 4, 5] rfl)
      refine zr_aload_n h0 dX6_fewest_125 rfl (n := 126) rfl ?_
      refine zr_getR C hC h0 zcX6 (k := 13) (by decide) zw_832 dX6_fewest_126 (n := 129) rfl (fun v64 => ?_)
      refine zr_iconst (0 : Int32) h0 (by decide) dX6_fewest_129 (n := 130) rfl ?_
      refine zr_iconst (0 : Int32) h0 (by decide) dX6_fewest_130 (n := 131) rfl ?_
      refine zr_iastore C hC h0 dX6_fewest_131 (n := 132) rfl (fun S65 => ?_)
      refine zr_aload_n h0 dX6_fewest_132 rfl (n := 133) rfl ?_
      refine zr_getR C hC h0 zcX6 (k := 14) (by decide) zw_833 dX6_fewest_133 (n := 136) rfl (fun v66 => ?_)
      refine zr_iconst (0 : Int32) h0 (by decide) dX6_fewest_136 (n := 137) rfl ?_
      refine zr_iconst (0 : Int32) h0 (by decide) dX6_fewest_137 (n := 138) rfl ?_
      refine zr_iastore C hC h0 dX6_fewest_138 (n := 139) rfl (fun S67 => ?_)
      refine zr_aload_n h0 dX6_fewest_139 rfl (n := 140) rfl ?_
      refine zr_iconst (1 : Int32) h0 (by decide) dX6_fewest_140 (n := 141) rfl ?_
      refine zr_putF C hC h0 zcX6 (k := 15) (by decide) zw_834 rfl rfl rfl dX6_fewest_141 (n := 144) rfl (fun S68 => ?_)
      refine zr_iconst (0 : Int32) h0 (by decide) dX6_fewest_144 (n := 145) rfl ?_
      refine zr_istore [(0, .ref a0), (1, .int a1), (2, .int v2), (3, .int v4), (4, .int v6), (5, .int t38.1), (6, .int (0 : Int32))] h0 dX6_fewest_145 (by decide) rfl (n := 147) rfl ?_
      refine zr_loop hC (fX6_fewest_B147 a0 a1 v2 v4 v6 t38.1) (fun y => [(0, .ref a0), (1, .int a1), (2, .int v2), (3, .int v4), (4, .int v6), (5, .int t38.1), (6, .int y.1)]) (fun y => y.2) zF ((0 : Int32), S68) (fun C147 hC147 hX147 hL147 t147 => ?_)
      unfold fX6_fewest_B147
      refine zr_iload h0 dX6_fewest_147 rfl (n := 149) rfl ?_
      refine zr_aload_n h0 dX6_fewest_149 rfl (n := 150) rfl ?_
      refine zr_getI C147 hC147 h0 zcX6 (k := 15) (by decide) zw_834 dX6_fewest_150 (n := 153) rfl (fun v69 => ?_)
      refine zr_icmp_ge C147 (tgt := 270) h0 dX6_fewest_153 (by decide) (n := 156) rfl ?_ ?_
      · refine zr_ex hX147 ?_
        refine zv_sub (lv' := [(0, .ref a0), (5, .int t38.1)]) ?_ (zsub_of [0, 5] rfl)
        exact J270 a0 t38.1 t147.2
      · refine zr_aload_n h0 dX6_fewest_156 rfl (n := 157) rfl ?_
        refine zr_getR C147 hC147 h0 zcX6 (k := 13) (by decide) zw_832 dX6_fewest_157 (n := 160) rfl (fun v70 => ?_)
        refine zr_iload h0 dX6_fewest_160 rfl (n := 162) rfl ?_
        refine zr_iaload C147 hC147 h0 dX6_fewest_162 (n := 163) rfl (fun v71 => ?_)
        refine zr_iconst (-1 : Int32) h0 (by decide) dX6_fewest_163 (n := 164) rfl ?_
        refine zr_icmp_ne C147 (tgt := 270) h0 dX6_fewest_164 (by decide) (n := 167) rfl ?_ ?_
        · refine zr_iconst (0 : Int32) h0 (by decide) dX6_fewest_167 (n := 168) rfl ?_
          refine zr_istore [(0, .ref a0), (1, .int a1), (2, .int v2), (3, .int v4), (4, .int v6), (5, .int t38.1), (6, .int t147.1), (7, .int (0 : Int32))] h0 dX6_fewest_168 (by decide) rfl (n := 170) rfl ?_
          refine zr_loop hC147 (fX6_fewest_B170 a0 a1 v2 v4 v6 t38.1 t147.1) (fun y => [(0, .ref a0), (1, .int a1), (2, .int v2), (3, .int v4), (4, .int v6), (5, .int t38.1), (6, .int t147.1), (7, .int y.1)]) (fun y => y.2) zF ((0 : Int32), t147.2) (fun C170 hC170 hX170 hL170 t170 => ?_)
          have J258 : ∀ (l7_258 : Int32) (S_258 : ZS), zV G 11 S_258 0 0 258 [(0, .ref a0), (1, .int a1), (2, .int v2), (3, .int v4), (4, .int v6), (5, .int t38.1), (6, .int t147.1), (7, .int l7_258)] [] (C170 (fX6_fewest_J258 a0 a1 v2 v4 v6 t38.1 t147.1 l7_258 S_258)) := by
            intro l7_258 S_258
            unfold fX6_fewest_J258
            refine zr_iinc (1 : Int32) [(0, .ref a0), (1, .int a1), (2, .int v2), (3, .int v4), (4, .int v6), (5, .int t38.1), (6, .int t147.1), (7, .int (l7_258 + (1 : Int32)))] h0 dX6_fewest_258 rfl (by decide) rfl rfl (n := 261) rfl ?_
            refine zr_goto (tgt := 170) h0 dX6_fewest_261 (by decide) ?_
            exact hL170 (l7_258 + (1 : Int32), S_258)
          unfold fX6_fewest_B170
          refine zr_iload h0 dX6_fewest_170 rfl (n := 172) rfl ?_
          refine zr_iconst (1 : Int32) h0 (by decide) dX6_fewest_172 (n := 173) rfl ?_
          refine zr_iload_n h0 dX6_fewest_173 rfl (n := 174) rfl ?_
          refine zr_iload_n h0 dX6_fewest_174 rfl (n := 175) rfl ?_
          refine zr_iadd h0 dX6_fewest_175 (n := 176) rfl ?_
          refine zr_iload h0 dX6_fewest_176 rfl (n := 178) rfl ?_
          refine zr_iadd h0 dX6_fewest_178 (n := 179) rfl ?_
          refine zr_ishl h0 dX6_fewest_179 (n := 180) rfl ?_
          refine zr_icmp_ge C170 (tgt := 264) h0 dX6_fewest_180 (by decide) (n := 183) rfl ?_ ?_
          · refine zr_ex hX170 ?_
            refine zv_sub (lv' := [(0, .ref a0), (1, .int a1), (2, .int v2), (3, .int v4), (4, .int v6), (5, .int t38.1), (6, .int t147.1)]) ?_ (zsub_of [0, 1, 2, 3, 4, 5, 6] rfl)
            refine zr_iinc (1 : Int32) [(0, .ref a0), (1, .int a1), (2, .int v2), (3, .int v4), (4, .int v6), (5, .int t38.1), (6, .int (t147.1 + (1 : Int32)))] h0 dX6_fewest_264 rfl (by decide) rfl rfl (n := 267) rfl ?_
            refine zr_goto (tgt := 147) h0 dX6_fewest_267 (by decide) ?_
            exact hL147 (t147.1 + (1 : Int32), t170.2)
          · refine zr_iload h0 dX6_fewest_183 rfl (n := 185) rfl ?_
            refine zr_iconst (1 : Int32) h0 (by decide) dX6_fewest_185 (n := 186) rfl ?_
            refine zr_iload_n h0 dX6_fewest_186 rfl (n := 187) rfl ?_
            refine zr_ishl h0 dX6_fewest_187 (n := 188) rfl ?_
            refine zr_iconst (1 : Int32) h0 (by decide) dX6_fewest_188 (n := 189) rfl ?_
            refine zr_isub h0 dX6_fewest_189 (n := 190) rfl ?_
            refine zr_iand h0 dX6_fewest_190 (n := 191) rfl ?_
            refine zr_istore [(0, .ref a0), (1, .int a1), (2, .int v2), (3, .int v4), (4, .int v6), (5, .int t38.1), (6, .int t147.1), (7, .int t170.1), (8, .int (t170.1 &&& (((1 : Int32) <<< (v2 &&& 31)) - (1 : Int32))))] h0 dX6_fewest_191 (by decide) rfl (n := 193) rfl ?_
            refine zr_iload h0 dX6_fewest_193 rfl (n := 195) rfl ?_
            refine zr_iload_n h0 dX6_fewest_195 rfl (n := 196) rfl ?_
            refine zr_ishr h0 dX6_fewest_196 (n := 197) rfl ?_
            refine zr_iconst (1 : Int32) h0 (by decide) dX6_fewest_197 (n := 198) rfl ?_
            refine zr_iload_n h0 dX6_fewest_198 rfl (n := 199) rfl ?_
            refine zr_ishl h0 dX6_fewest_199 (n := 200) rfl ?_
            refine zr_iconst (1 : Int32) h0 (by decide) dX6_fewest_200 (n := 201) rfl ?_
            refine zr_isub h0 dX6_fewest_201 (n := 202) rfl ?_
            refine zr_iand h0 dX6_fewest_202 (n := 203) rfl ?_
            refine zr_istore [(0, .ref a0), (1, .int a1), (2, .int v2), (3, .int v4), (4, .int v6), (5, .int t38.1), (6, .int t147.1), (7, .int t170.1), (8, .int (t170.1 &&& (((1 : Int32) <<< (v2 &&& 31)) - (1 : Int32)))), (9, .int ((t170.1 >>> (v2 &&& 31)) &&& (((1 : Int32) <<< (v4 &&& 31)) - (1 : Int32))))] h0 dX6_fewest_203 (by decide) rfl (n := 205) rfl ?_
            refine zr_iload h0 dX6_fewest_205 rfl (n := 207) rfl ?_
            refine zr_iload_n h0 dX6_fewest_207 rfl (n := 208) rfl ?_
            refine zr_iload_n h0 dX6_fewest_208 rfl (n := 209) rfl ?_
            refine zr_iadd h0 dX6_fewest_209 (n := 210) rfl ?_
            refine zr_ishr h0 dX6_fewest_210 (n := 211) rfl ?_
            refine zr_istore [(0, .ref a0), (1, .int a1), (2, .int v2), (3, .int v4), (4, .int v6), (5, .int t38.1), (6, .int t147.1), (7, .int t170.1), (8, .int (t170.1 &&& (((1 : Int32) <<< (v2 &&& 31)) - (1 : Int32)))), (9, .int ((t170.1 >>> (v2 &&& 31)) &&& (((1 : Int32) <<< (v4 &&& 31)) - (1 : Int32)))), (10, .int (t170.1 >>> ((v2 + v4) &&& 31)))] h0 dX6_fewest_211 (by decide) rfl (n := 213) rfl ?_
            refine zr_iload h0 dX6_fewest_213 rfl (n := 215) rfl ?_
            refine zr_if_le C170 (tgt := 258) h0 dX6_fewest_215 (by decide) (n := 218) rfl ?_ ?_
            · refine zv_sub (lv' := [(0, .ref a0), (1, .int a1), (2, .int v2), (3, .int v4), (4, .int v6), (5, .int t38.1), (6, .int t147.1), (7, .int t170.1)]) ?_ (zsub_of [0, 1, 2, 3, 4, 5, 6, 7] rfl)
              exact J258 t170.1 t170.2
            · refine zr_iload h0 dX6_fewest_218 rfl (n := 220) rfl ?_
              refine zr_if_le C170 (tgt := 258) h0 dX6_fewest_220 (by decide) (n := 223) rfl ?_ ?_
              · refine zv_sub (lv' := [(0, .ref a0), (1, .int a1), (2, .int v2), (3, .int v4), (4, .int v6), (5, .int t38.1), (6, .int t147.1), (7, .int t170.1)]) ?_ (zsub_of [0, 1, 2, 3, 4, 5, 6, 7] rfl)
                exact J258 t170.1 t170.2
              · refine zr_iload h0 dX6_fewest_223 rfl (n := 225) rfl ?_
                refine zr_if_le C170 (tgt := 258) h0 dX6_fewest_225 (by decide) (n := 228) rfl ?_ ?_
                · refine zv_sub (lv' := [(0, .ref a0), (1, .int a1), (2, .int v2), (3, .int v4), (4, .int v6), (5, .int t38.1), (6, .int t147.1), (7, .int t170.1)]) ?_ (zsub_of [0, 1, 2, 3, 4, 5, 6, 7] rfl)
                  exact J258 t170.1 t170.2
                · refine zr_aload_n h0 dX6_fewest_228 rfl (n := 229) rfl ?_
                  refine zr_aload_n h0 dX6_fewest_229 rfl (n := 230) rfl ?_
                  refine zr_getR C170 hC170 h0 zcX6 (k := 14) (by decide) zw_833 dX6_fewest_230 (n := 233) rfl (fun v72 => ?_)
                  refine zr_iload h0 dX6_fewest_233 rfl (n := 235) rfl ?_
                  refine zr_iaload C170 hC170 h0 dX6_fewest_235 (n := 236) rfl (fun v73 => ?_)
                  refine zr_aload_n h0 dX6_fewest_236 rfl (n := 237) rfl ?_
                  refine zr_getR C170 hC170 h0 zcX6 (k := 14) (by decide) zw_833 dX6_fewest_237 (n := 240) rfl (fun v74 => ?_)
                  refine zr_iload h0 dX6_fewest_240 rfl (n := 242) rfl ?_
                  refine zr_iaload C170 hC170 h0 dX6_fewest_242 (n := 243) rfl (fun v75 => ?_)
                  refine zr_aload_n h0 dX6_fewest_243 rfl (n := 244) rfl ?_
                  refine zr_iload_n h0 dX6_fewest_244 rfl (n := 245) rfl ?_
                  refine zr_iload h0 dX6_fewest_245 rfl (n := 247) rfl ?_
                  refine zr_iload h0 dX6_fewest_247 rfl (n := 249) rfl ?_
                  refine zr_iload h0 dX6_fewest_249 rfl (n := 251) rfl ?_
                  refine zr_cRI C170 hC170 0 0 (fun x hx => zk_V h0 zcX6 (zcl_ex hx) (fun l D z0 => kX6_single l D z0 a0 a1 (t170.1 &&& (((1 : Int32) <<< (v2 &&& 31)) - (1 : Int32))) ((t170.1 >>> (v2 &&& 31)) &&& (((1 : Int32) <<< (v4 &&& 31)) - (1 : Int32))) (t170.1 >>> ((v2 + v4) &&& 31)) t170.2 x (zcl_of hx)) zw_1070 zw_1072 zs_57 zw_5 zw_1073 rfl zyX6_single (As := [.int a1, .int (t170.1 &&& (((1 : Int32) <<< (v2 &&& 31)) - (1 : Int32))), .int ((t170.1 >>> (v2 &&& 31)) &&& (((1 : Int32) <<< (v4 &&& 31)) - (1 : Int32))), .int (t170.1 >>> ((v2 + v4) &&& 31))]) (st := [.int v75, .int v73, .ref a0]) rfl (by decide) rfl (Nat.le_of_ble_eq_true rfl) (by decide) dX6_fewest_251) rfl rfl (n := 254) rfl (fun x76 => ?_)
                  refine zr_ixor h0 dX6_fewest_254 (n := 255) rfl ?_
                  refine zr_cMV C170 hC170 0 0 (fun x hx => zk_V h0 zcX6 (zcl_ex hx) (fun l D z0 => kX6_learn l D z0 a0 v73 (v75 ^^^ x76) t170.2 x (zcl_of hx)) zw_1074 zw_1076 zs_58 zw_5 zw_1077 rfl zyX6_learn (As := [.int v73, .int (v75 ^^^ x76)]) (st := []) rfl (by decide) rfl (Nat.le_of_ble_eq_true rfl) (by decide) dX6_fewest_255) rfl rfl (n := 258) rfl (fun x77 => ?_)
                  refine zv_sub (lv' := [(0, .ref a0), (1, .int a1), (2, .int v2), (3, .int v4), (4, .int v6), (5, .int t38.1), (6, .int t147.1), (7, .int t170.1)]) ?_ (zsub_of [0, 1, 2, 3, 4, 5, 6, 7] rfl)
                  exact J258 t170.1 x77
        · refine zr_ex hX147 ?_
          refine zv_sub (lv' := [(0, .ref a0), (5, .int t38.1)]) ?_ (zsub_of [0, 5] rfl)
          exact J270 a0 t38.1 t147.2
    · refine zr_aload_n h0 dX6_fewest_111 rfl (n := 112) rfl ?_
      refine zr_getR C98 hC98 h0 zcX6 (k := 13) (by decide) zw_832 dX6_fewest_112 (n := 115) rfl (fun v78 => ?_)
      refine zr_iload h0 dX6_fewest_115 rfl (n := 117) rfl ?_
      refine zr_iconst (-1 : Int32) h0 (by decide) dX6_fewest_117 (n := 118) rfl ?_
      refine zr_iastore C98 hC98 h0 dX6_fewest_118 (n := 119) rfl (fun S79 => ?_)
      refine zr_iinc (1 : Int32) [(0, .ref a0), (1, .int a1), (2, .int v2), (3, .int v4), (4, .int v6), (5, .int t38.1), (6, .int (t98.1 + (1 : Int32)))] h0 dX6_fewest_119 rfl (by decide) rfl rfl (n := 122) rfl ?_
      refine zr_goto (tgt := 98) h0 dX6_fewest_122 (by decide) ?_
      exact hL98 (t98.1 + (1 : Int32), S79)
  · refine zr_iload h0 dX6_fewest_49 rfl (n := 51) rfl ?_
    refine zr_aload_n h0 dX6_fewest_51 rfl (n := 52) rfl ?_
    refine zr_getR C38 hC38 h0 zcX6 (k := 4) (by decide) zw_823 dX6_fewest_52 (n := 55) rfl (fun v80 => ?_)
    refine zr_bipush (64 : Int32) h0 (by decide) dX6_fewest_55 (n := 57) rfl ?_
    refine zr_iload_n h0 dX6_fewest_57 rfl (n := 58) rfl ?_
    refine zr_imul h0 dX6_fewest_58 (n := 59) rfl ?_
    refine zr_iload h0 dX6_fewest_59 rfl (n := 61) rfl ?_
    refine zr_iload h0 dX6_fewest_61 rfl (n := 63) rfl ?_
    refine zr_idiv C38 hC38 h0 dX6_fewest_63 (n := 64) rfl (fun v81 => ?_)
    refine zr_iload_n h0 dX6_fewest_64 rfl (n := 65) rfl ?_
    refine zr_idiv C38 hC38 h0 dX6_fewest_65 (n := 66) rfl (fun v82 => ?_)
    refine zr_iload h0 dX6_fewest_66 rfl (n := 68) rfl ?_
    refine zr_iload h0 dX6_fewest_68 rfl (n := 70) rfl ?_
    refine zr_idiv C38 hC38 h0 dX6_fewest_70 (n := 71) rfl (fun v83 => ?_)
    refine zr_iload_n h0 dX6_fewest_71 rfl (n := 72) rfl ?_
    refine zr_irem C38 hC38 h0 dX6_fewest_72 (n := 73) rfl (fun v84 => ?_)
    refine zr_iload h0 dX6_fewest_73 rfl (n := 75) rfl ?_
    refine zr_iload h0 dX6_fewest_75 rfl (n := 77) rfl ?_
    refine zr_irem C38 hC38 h0 dX6_fewest_77 (n := 78) rfl (fun v85 => ?_)
    refine zr_cRI C38 hC38 0 0 (fun x hx => zk_S h0 (fun l D z0 => kX6_place l D z0 v82 v84 v85 S x hx) zw_909 zw_910 zw_5 zw_911 zyX6_place (As := [.int v82, .int v84, .int v85]) (st := [.int ((64 : Int32) * a1), .ref v80, .int t38.1]) rfl (by decide) rfl (Nat.le_of_ble_eq_true rfl) (by decide) dX6_fewest_78) rfl rfl (n := 81) rfl (fun x86 => ?_)
    refine zr_iadd h0 dX6_fewest_81 (n := 82) rfl ?_
    refine zr_iaload C38 hC38 h0 dX6_fewest_82 (n := 83) rfl (fun v87 => ?_)
    refine zr_iload h0 dX6_fewest_83 rfl (n := 85) rfl ?_
    refine zr_ishl h0 dX6_fewest_85 (n := 86) rfl ?_
    refine zr_ior h0 dX6_fewest_86 (n := 87) rfl ?_
    refine zr_istore [(0, .ref a0), (1, .int a1), (2, .int v2), (3, .int v4), (4, .int v6), (5, .int (t38.1 ||| (v87 <<< (t38.2 &&& 31)))), (6, .int t38.2)] h0 dX6_fewest_87 (by decide) rfl (n := 89) rfl ?_
    refine zr_iinc (1 : Int32) [(0, .ref a0), (1, .int a1), (2, .int v2), (3, .int v4), (4, .int v6), (5, .int (t38.1 ||| (v87 <<< (t38.2 &&& 31)))), (6, .int (t38.2 + (1 : Int32)))] h0 dX6_fewest_89 rfl (by decide) rfl rfl (n := 92) rfl ?_
    refine zr_goto (tgt := 38) h0 dX6_fewest_92 (by decide) ?_
    exact hL38 (t38.1 ||| (v87 <<< (t38.2 &&& 31)), t38.2 + (1 : Int32))
theorem kX6_fewest (l : Launch) (D : ZD) (z0 : Nat) (a0 : Nat) (a1 : Int32) (S : ZS) (x : Int32 × ZS) (hf : fX6_fewest a0 a1 S = some x) : zMet l D z0 yX6_fewest cX6_fewest 11 (some .int) rmX6_fewest [.ref a0, .int a1] S (some (.int x.1)) x.2 :=
  zMet_of (by decide) (Nat.le_of_ble_eq_true rfl) (fun G h0 hini hE => wX6_fewest a0 a1 S h0 (fun o => o = some x) (fun h => nomatch h) (fun v S1 h => by cases h; exact hE)) hf
theorem dX6_leastOf_0 : decode cX6_leastOf 0 = .ok (.aload_n 0, 1) := by decide +kernel
theorem dX6_leastOf_1 : decode cX6_leastOf 1 = .ok (.iload_n 1, 1) := by decide +kernel
theorem dX6_leastOf_2 : decode cX6_leastOf 2 = .ok (.invokevirtual 78, 3) := by decide +kernel
theorem dX6_leastOf_5 : decode cX6_leastOf 5 = .ok (.istore_n 3, 1) := by decide +kernel
theorem dX6_leastOf_6 : decode cX6_leastOf 6 = .ok (.iload_n 3, 1) := by decide +kernel
theorem dX6_leastOf_7 : decode cX6_leastOf 7 = .ok (.ifCond .eq 49, 3) := by decide +kernel
theorem dX6_leastOf_10 : decode cX6_leastOf 10 = .ok (.aload_n 0, 1) := by decide +kernel
theorem dX6_leastOf_11 : decode cX6_leastOf 11 = .ok (.getfield 7, 3) := by decide +kernel
theorem dX6_leastOf_14 : decode cX6_leastOf 14 = .ok (.iconst 2, 1) := by decide +kernel
theorem dX6_leastOf_15 : decode cX6_leastOf 15 = .ok (.if_icmp .ne 41, 3) := by decide +kernel
theorem dX6_leastOf_18 : decode cX6_leastOf 18 = .ok (.aload_n 0, 1) := by decide +kernel
theorem dX6_leastOf_19 : decode cX6_leastOf 19 = .ok (.getfield 13, 3) := by decide +kernel
theorem dX6_leastOf_22 : decode cX6_leastOf 22 = .ok (.iconst 3, 1) := by decide +kernel
theorem dX6_leastOf_23 : decode cX6_leastOf 23 = .ok (.iload_n 1, 1) := by decide +kernel
theorem dX6_leastOf_24 : decode cX6_leastOf 24 = .ok (.imul, 1) := by decide +kernel
theorem dX6_leastOf_25 : decode cX6_leastOf 25 = .ok (.iaload, 1) := by decide +kernel
theorem dX6_leastOf_26 : decode cX6_leastOf 26 = .ok (.aload_n 0, 1) := by decide +kernel
theorem dX6_leastOf_27 : decode cX6_leastOf 27 = .ok (.getfield 13, 3) := by decide +kernel
theorem dX6_leastOf_30 : decode cX6_leastOf 30 = .ok (.iconst 3, 1) := by decide +kernel
theorem dX6_leastOf_31 : decode cX6_leastOf 31 = .ok (.iload_n 1, 1) := by decide +kernel
theorem dX6_leastOf_32 : decode cX6_leastOf 32 = .ok (.imul, 1) := by decide +kernel
theorem dX6_leastOf_33 : decode cX6_leastOf 33 = .ok (.iconst 1, 1) := by decide +kernel
theorem dX6_leastOf_34 : decode cX6_leastOf 34 = .ok (.iadd, 1) := by decide +kernel
theorem dX6_leastOf_35 : decode cX6_leastOf 35 = .ok (.iaload, 1) := by decide +kernel
theorem dX6_leastOf_36 : decode cX6_leastOf 36 = .ok (.imul, 1) := by decide +kernel
theorem dX6_leastOf_37 : decode cX6_leastOf 37 = .ok (.aload_n 0, 1) := by decide +kernel
theorem dX6_leastOf_38 : decode cX6_leastOf 38 = .ok (.getfield 13, 3) := by decide +kernel
theorem dX6_leastOf_41 : decode cX6_leastOf 41 = .ok (.iconst 3, 1) := by decide +kernel
theorem dX6_leastOf_42 : decode cX6_leastOf 42 = .ok (.iload_n 1, 1) := by decide +kernel
theorem dX6_leastOf_43 : decode cX6_leastOf 43 = .ok (.imul, 1) := by decide +kernel
theorem dX6_leastOf_44 : decode cX6_leastOf 44 = .ok (.iconst 2, 1) := by decide +kernel
theorem dX6_leastOf_45 : decode cX6_leastOf 45 = .ok (.iadd, 1) := by decide +kernel
theorem dX6_leastOf_46 : decode cX6_leastOf 46 = .ok (.iaload, 1) := by decide +kernel
theorem dX6_leastOf_47 : decode cX6_leastOf 47 = .ok (.imul, 1) := by decide +kernel
theorem dX6_leastOf_48 : decode cX6_leastOf 48 = .ok (.iload_n 2, 1) := by decide +kernel
theorem dX6_leastOf_49 : decode cX6_leastOf 49 = .ok (.if_icmp .gt 7, 3) := by decide +kernel
theorem dX6_leastOf_52 : decode cX6_leastOf 52 = .ok (.iconst 1, 1) := by decide +kernel
theorem dX6_leastOf_53 : decode cX6_leastOf 53 = .ok (.goto 4, 3) := by decide +kernel
theorem dX6_leastOf_56 : decode cX6_leastOf 56 = .ok (.iconst 0, 1) := by decide +kernel
theorem dX6_leastOf_57 : decode cX6_leastOf 57 = .ok (.istore 4, 2) := by decide +kernel
theorem dX6_leastOf_59 : decode cX6_leastOf 59 = .ok (.aload_n 0, 1) := by decide +kernel
theorem dX6_leastOf_60 : decode cX6_leastOf 60 = .ok (.iload_n 3, 1) := by decide +kernel
theorem dX6_leastOf_61 : decode cX6_leastOf 61 = .ok (.ifCond .ne 7, 3) := by decide +kernel
theorem dX6_leastOf_64 : decode cX6_leastOf 64 = .ok (.iconst 1, 1) := by decide +kernel
theorem dX6_leastOf_65 : decode cX6_leastOf 65 = .ok (.goto 13, 3) := by decide +kernel
theorem dX6_leastOf_68 : decode cX6_leastOf 68 = .ok (.iload 4, 2) := by decide +kernel
theorem dX6_leastOf_70 : decode cX6_leastOf 70 = .ok (.ifCond .eq 7, 3) := by decide +kernel
theorem dX6_leastOf_73 : decode cX6_leastOf 73 = .ok (.iconst 0, 1) := by decide +kernel
theorem dX6_leastOf_74 : decode cX6_leastOf 74 = .ok (.goto 4, 3) := by decide +kernel
theorem dX6_leastOf_77 : decode cX6_leastOf 77 = .ok (.iconst 2, 1) := by decide +kernel
theorem dX6_leastOf_78 : decode cX6_leastOf 78 = .ok (.invokevirtual 64, 3) := by decide +kernel
theorem dX6_leastOf_81 : decode cX6_leastOf 81 = .ok (.ifCond .eq 11, 3) := by decide +kernel
theorem dX6_leastOf_84 : decode cX6_leastOf 84 = .ok (.aload_n 0, 1) := by decide +kernel
theorem dX6_leastOf_85 : decode cX6_leastOf 85 = .ok (.iload_n 1, 1) := by decide +kernel
theorem dX6_leastOf_86 : decode cX6_leastOf 86 = .ok (.invokevirtual 163, 3) := by decide +kernel
theorem dX6_leastOf_89 : decode cX6_leastOf 89 = .ok (.goto 4, 3) := by decide +kernel
theorem dX6_leastOf_92 : decode cX6_leastOf 92 = .ok (.iconst 0, 1) := by decide +kernel
theorem dX6_leastOf_93 : decode cX6_leastOf 93 = .ok (.ireturn, 1) := by decide +kernel
abbrev rmX6_leastOf : Room := { frames := 3, cells := 0, slots := 0, locals := 80 }
theorem zyX6_leastOf : zyOK yX6_leastOf 2 := ⟨by decide +kernel, by decide +kernel, by decide +kernel⟩
set_option maxHeartbeats 4000000 in
set_option maxRecDepth 100000 in
theorem wX6_leastOf {G : ZG} (a0 : Nat) (a1 : Int32) (a2 : Int32) (S : ZS) (h0 : zFix G cX6_leastOf RX6 5 (some .int) rmX6_leastOf) (C : Option (Int32 × ZS) → Prop) (hC : ¬ C none) (hE : ∀ (v : Int32) (S1 : ZS), C (some (v, S1)) → zEnd G (some (.int v)) S1 rmX6_leastOf) : zV G 5 S 0 0 0 [(0, .ref a0), (1, .int a1), (2, .int a2)] [] (C (fX6_leastOf a0 a1 a2 S)) := by
  have J93 : ∀ (s0_93 : Int32) (S_93 : ZS), zV G 5 S_93 0 0 93 [] [.int s0_93] (C (fX6_leastOf_J93 s0_93 S_93)) := by
    intro s0_93 S_93
    unfold fX6_leastOf_J93
    exact zr_iret h0 rfl dX6_leastOf_93 (hE _ _) (by decide) (by decide)
  have J78 : ∀ (l0_78 : Nat) (l1_78 : Int32) (s0_78 : Nat) (s1_78 : Int32) (S_78 : ZS), zV G 5 S_78 0 0 78 [(0, .ref l0_78), (1, .int l1_78)] [.int s1_78, .ref s0_78] (C (fX6_leastOf_J78 l0_78 l1_78 s0_78 s1_78 S_78)) := by
    intro l0_78 l1_78 s0_78 s1_78 S_78
    unfold fX6_leastOf_J78
    refine zr_cMI C hC 0 0 (fun x hx => zk_V h0 zcX6 (zcl_ex hx) (fun l D z0 => kX6_goesWell l D z0 s0_78 s1_78 S_78 x (zcl_of hx)) zw_886 zw_888 zs_34 zw_5 zw_889 rfl zyX6_goesWell (As := [.int s1_78]) (st := []) rfl (by decide) rfl (Nat.le_of_ble_eq_true rfl) (by decide) dX6_leastOf_78) rfl rfl (n := 81) rfl (fun x11 => ?_)
    refine zr_if_eq C (tgt := 92) h0 dX6_leastOf_81 (by decide) (n := 84) rfl ?_ ?_
    · refine zv_sub (lv' := []) ?_ (zsub_of [] rfl)
      refine zr_iconst (0 : Int32) h0 (by decide) dX6_leastOf_92 (n := 93) rfl ?_
      exact J93 (0 : Int32) x11.2
    · refine zr_aload_n h0 dX6_leastOf_84 rfl (n := 85) rfl ?_
      refine zr_iload_n h0 dX6_leastOf_85 rfl (n := 86) rfl ?_
      refine zr_cMI C hC 0 0 (fun x hx => zk_V h0 zcX6 (zcl_ex hx) (fun l D z0 => kX6_fewest l D z0 l0_78 l1_78 x11.2 x (zcl_of hx)) zw_1066 zw_1068 zs_56 zw_5 zw_1069 rfl zyX6_fewest (As := [.int l1_78]) (st := []) rfl (by decide) rfl (Nat.le_of_ble_eq_true rfl) (by decide) dX6_leastOf_86) rfl rfl (n := 89) rfl (fun x12 => ?_)
      refine zr_goto (tgt := 93) h0 dX6_leastOf_89 (by decide) ?_
      refine zv_sub (lv' := []) ?_ (zsub_of [] rfl)
      exact J93 x12.1 x12.2
  have J57 : ∀ (l0_57 : Nat) (l1_57 : Int32) (l3_57 : Int32) (s0_57 : Int32) (S_57 : ZS), zV G 5 S_57 0 0 57 [(0, .ref l0_57), (1, .int l1_57), (3, .int l3_57)] [.int s0_57] (C (fX6_leastOf_J57 l0_57 l1_57 l3_57 s0_57 S_57)) := by
    intro l0_57 l1_57 l3_57 s0_57 S_57
    unfold fX6_leastOf_J57
    refine zr_istore [(0, .ref l0_57), (1, .int l1_57), (3, .int l3_57), (4, .int s0_57)] h0 dX6_leastOf_57 (by decide) rfl (n := 59) rfl ?_
    refine zr_aload_n h0 dX6_leastOf_59 rfl (n := 60) rfl ?_
    refine zr_iload_n h0 dX6_leastOf_60 rfl (n := 61) rfl ?_
    refine zr_if_ne C (tgt := 68) h0 dX6_leastOf_61 (by decide) (n := 64) rfl ?_ ?_
    · refine zv_sub (lv' := [(0, .ref l0_57), (1, .int l1_57)]) ?_ (zsub_of [0, 1] rfl)
      refine zr_iconst (1 : Int32) h0 (by decide) dX6_leastOf_64 (n := 65) rfl ?_
      refine zr_goto (tgt := 78) h0 dX6_leastOf_65 (by decide) ?_
      exact J78 l0_57 l1_57 l0_57 (1 : Int32) S_57
    · refine zv_sub (lv' := [(0, .ref l0_57), (1, .int l1_57), (4, .int s0_57)]) ?_ (zsub_of [0, 1, 3] rfl)
      refine zr_iload h0 dX6_leastOf_68 rfl (n := 70) rfl ?_
      refine zr_if_eq C (tgt := 77) h0 dX6_leastOf_70 (by decide) (n := 73) rfl ?_ ?_
      · refine zv_sub (lv' := [(0, .ref l0_57), (1, .int l1_57)]) ?_ (zsub_of [0, 1] rfl)
        refine zr_iconst (2 : Int32) h0 (by decide) dX6_leastOf_77 (n := 78) rfl ?_
        exact J78 l0_57 l1_57 l0_57 (2 : Int32) S_57
      · refine zv_sub (lv' := [(0, .ref l0_57), (1, .int l1_57)]) ?_ (zsub_of [0, 1] rfl)
        refine zr_iconst (0 : Int32) h0 (by decide) dX6_leastOf_73 (n := 74) rfl ?_
        refine zr_goto (tgt := 78) h0 dX6_leastOf_74 (by decide) ?_
        exact J78 l0_57 l1_57 l0_57 (0 : Int32) S_57
  have J56 : ∀ (l0_56 : Nat) (l1_56 : Int32) (l3_56 : Int32) (S_56 : ZS), zV G 5 S_56 0 0 56 [(0, .ref l0_56), (1, .int l1_56), (3, .int l3_56)] [] (C (fX6_leastOf_J56 l0_56 l1_56 l3_56 S_56)) := by
    intro l0_56 l1_56 l3_56 S_56
    unfold fX6_leastOf_J56
    refine zr_iconst (0 : Int32) h0 (by decide) dX6_leastOf_56 (n := 57) rfl ?_
    exact J57 l0_56 l1_56 l3_56 (0 : Int32) S_56
  unfold fX6_leastOf
  refine zr_aload_n h0 dX6_leastOf_0 rfl (n := 1) rfl ?_
  refine zr_iload_n h0 dX6_leastOf_1 rfl (n := 2) rfl ?_
  refine zr_cRI C hC 0 0 (fun x hx => zk_V h0 zcX6 (zcl_ex hx) (fun l D z0 => kX6_isCube l D z0 a0 a1 S x (zcl_of hx)) zw_928 zw_930 zs_38 zw_5 zw_931 rfl zyX6_isCube (As := [.int a1]) (st := []) rfl (by decide) rfl (Nat.le_of_ble_eq_true rfl) (by decide) dX6_leastOf_2) rfl rfl (n := 5) rfl (fun x1 => ?_)
  refine zr_istore_n [(0, .ref a0), (1, .int a1), (2, .int a2), (3, .int x1)] h0 dX6_leastOf_5 (by decide) rfl (n := 6) rfl ?_
  refine zr_iload_n h0 dX6_leastOf_6 rfl (n := 7) rfl ?_
  refine zr_if_eq C (tgt := 56) h0 dX6_leastOf_7 (by decide) (n := 10) rfl ?_ ?_
  · refine zv_sub (lv' := [(0, .ref a0), (1, .int a1), (3, .int x1)]) ?_ (zsub_of [0, 1, 3] rfl)
    exact J56 a0 a1 x1 S
  · refine zr_aload_n h0 dX6_leastOf_10 rfl (n := 11) rfl ?_
    refine zr_getI C hC h0 zcX6 (k := 1) (by decide) zw_820 dX6_leastOf_11 (n := 14) rfl (fun v4 => ?_)
    refine zr_iconst (2 : Int32) h0 (by decide) dX6_leastOf_14 (n := 15) rfl ?_
    refine zr_icmp_ne C (tgt := 56) h0 dX6_leastOf_15 (by decide) (n := 18) rfl ?_ ?_
    · refine zr_aload_n h0 dX6_leastOf_18 rfl (n := 19) rfl ?_
      refine zr_getR C hC h0 zcX6 (k := 3) (by decide) zw_822 dX6_leastOf_19 (n := 22) rfl (fun v5 => ?_)
      refine zr_iconst (3 : Int32) h0 (by decide) dX6_leastOf_22 (n := 23) rfl ?_
      refine zr_iload_n h0 dX6_leastOf_23 rfl (n := 24) rfl ?_
      refine zr_imul h0 dX6_leastOf_24 (n := 25) rfl ?_
      refine zr_iaload C hC h0 dX6_leastOf_25 (n := 26) rfl (fun v6 => ?_)
      refine zr_aload_n h0 dX6_leastOf_26 rfl (n := 27) rfl ?_
      refine zr_getR C hC h0 zcX6 (k := 3) (by decide) zw_822 dX6_leastOf_27 (n := 30) rfl (fun v7 => ?_)
      refine zr_iconst (3 : Int32) h0 (by decide) dX6_leastOf_30 (n := 31) rfl ?_
      refine zr_iload_n h0 dX6_leastOf_31 rfl (n := 32) rfl ?_
      refine zr_imul h0 dX6_leastOf_32 (n := 33) rfl ?_
      refine zr_iconst (1 : Int32) h0 (by decide) dX6_leastOf_33 (n := 34) rfl ?_
      refine zr_iadd h0 dX6_leastOf_34 (n := 35) rfl ?_
      refine zr_iaload C hC h0 dX6_leastOf_35 (n := 36) rfl (fun v8 => ?_)
      refine zr_imul h0 dX6_leastOf_36 (n := 37) rfl ?_
      refine zr_aload_n h0 dX6_leastOf_37 rfl (n := 38) rfl ?_
      refine zr_getR C hC h0 zcX6 (k := 3) (by decide) zw_822 dX6_leastOf_38 (n := 41) rfl (fun v9 => ?_)
      refine zr_iconst (3 : Int32) h0 (by decide) dX6_leastOf_41 (n := 42) rfl ?_
      refine zr_iload_n h0 dX6_leastOf_42 rfl (n := 43) rfl ?_
      refine zr_imul h0 dX6_leastOf_43 (n := 44) rfl ?_
      refine zr_iconst (2 : Int32) h0 (by decide) dX6_leastOf_44 (n := 45) rfl ?_
      refine zr_iadd h0 dX6_leastOf_45 (n := 46) rfl ?_
      refine zr_iaload C hC h0 dX6_leastOf_46 (n := 47) rfl (fun v10 => ?_)
      refine zr_imul h0 dX6_leastOf_47 (n := 48) rfl ?_
      refine zr_iload_n h0 dX6_leastOf_48 rfl (n := 49) rfl ?_
      refine zr_icmp_gt C (tgt := 56) h0 dX6_leastOf_49 (by decide) (n := 52) rfl ?_ ?_
      · refine zv_sub (lv' := [(0, .ref a0), (1, .int a1), (3, .int x1)]) ?_ (zsub_of [0, 1, 3] rfl)
        exact J56 a0 a1 x1 S
      · refine zv_sub (lv' := [(0, .ref a0), (1, .int a1), (3, .int x1)]) ?_ (zsub_of [0, 1, 3] rfl)
        refine zr_iconst (1 : Int32) h0 (by decide) dX6_leastOf_52 (n := 53) rfl ?_
        refine zr_goto (tgt := 57) h0 dX6_leastOf_53 (by decide) ?_
        exact J57 a0 a1 x1 (1 : Int32) S
    · refine zv_sub (lv' := [(0, .ref a0), (1, .int a1), (3, .int x1)]) ?_ (zsub_of [0, 1, 3] rfl)
      exact J56 a0 a1 x1 S
theorem kX6_leastOf (l : Launch) (D : ZD) (z0 : Nat) (a0 : Nat) (a1 : Int32) (a2 : Int32) (S : ZS) (x : Int32 × ZS) (hf : fX6_leastOf a0 a1 a2 S = some x) : zMet l D z0 yX6_leastOf cX6_leastOf 5 (some .int) rmX6_leastOf [.ref a0, .int a1, .int a2] S (some (.int x.1)) x.2 :=
  zMet_of (by decide) (Nat.le_of_ble_eq_true rfl) (fun G h0 hini hE => wX6_leastOf a0 a1 a2 S h0 (fun o => o = some x) (fun h => nomatch h) (fun v S1 h => by cases h; exact hE)) hf
theorem dX6_least_0 : decode cX6_least 0 = .ok (.aload_n 0, 1) := by decide +kernel
theorem dX6_least_1 : decode cX6_least 1 = .ok (.iload_n 1, 1) := by decide +kernel
theorem dX6_least_2 : decode cX6_least 2 = .ok (.bipush 12, 2) := by decide +kernel
theorem dX6_least_4 : decode cX6_least 4 = .ok (.invokevirtual 166, 3) := by decide +kernel
theorem dX6_least_7 : decode cX6_least 7 = .ok (.ireturn, 1) := by decide +kernel
abbrev rmX6_least : Room := { frames := 4, cells := 0, slots := 0, locals := 104 }
theorem zyX6_least : zyOK yX6_least 1 := ⟨by decide +kernel, by decide +kernel, by decide +kernel⟩
set_option maxHeartbeats 4000000 in
set_option maxRecDepth 100000 in
theorem wX6_least {G : ZG} (a0 : Nat) (a1 : Int32) (S : ZS) (h0 : zFix G cX6_least RX6 2 (some .int) rmX6_least) (C : Option (Int32 × ZS) → Prop) (hC : ¬ C none) (hE : ∀ (v : Int32) (S1 : ZS), C (some (v, S1)) → zEnd G (some (.int v)) S1 rmX6_least) : zV G 2 S 0 0 0 [(0, .ref a0), (1, .int a1)] [] (C (fX6_least a0 a1 S)) := by
  unfold fX6_least
  refine zr_aload_n h0 dX6_least_0 rfl (n := 1) rfl ?_
  refine zr_iload_n h0 dX6_least_1 rfl (n := 2) rfl ?_
  refine zr_bipush (12 : Int32) h0 (by decide) dX6_least_2 (n := 4) rfl ?_
  refine zr_cMI C hC 0 0 (fun x hx => zk_V h0 zcX6 (zcl_ex hx) (fun l D z0 => kX6_leastOf l D z0 a0 a1 (12 : Int32) S x (zcl_of hx)) zw_1062 zw_1064 zs_55 zw_5 zw_1065 rfl zyX6_leastOf (As := [.int a1, .int (12 : Int32)]) (st := []) rfl (by decide) rfl (Nat.le_of_ble_eq_true rfl) (by decide) dX6_least_4) rfl rfl (n := 7) rfl (fun x1 => ?_)
  exact zr_iret h0 rfl dX6_least_7 (hE _ _) (by decide) (by decide)
theorem kX6_least (l : Launch) (D : ZD) (z0 : Nat) (a0 : Nat) (a1 : Int32) (S : ZS) (x : Int32 × ZS) (hf : fX6_least a0 a1 S = some x) : zMet l D z0 yX6_least cX6_least 2 (some .int) rmX6_least [.ref a0, .int a1] S (some (.int x.1)) x.2 :=
  zMet_of (by decide) (Nat.le_of_ble_eq_true rfl) (fun G h0 hini hE => wX6_least a0 a1 S h0 (fun o => o = some x) (fun h => nomatch h) (fun v S1 h => by cases h; exact hE)) hf
theorem dX6_leastAnew_0 : decode cX6_leastAnew 0 = .ok (.aload_n 0, 1) := by decide +kernel
theorem dX6_leastAnew_1 : decode cX6_leastAnew 1 = .ok (.iload_n 1, 1) := by decide +kernel
theorem dX6_leastAnew_2 : decode cX6_leastAnew 2 = .ok (.bipush 8, 2) := by decide +kernel
theorem dX6_leastAnew_4 : decode cX6_leastAnew 4 = .ok (.invokevirtual 166, 3) := by decide +kernel
theorem dX6_leastAnew_7 : decode cX6_leastAnew 7 = .ok (.ireturn, 1) := by decide +kernel
abbrev rmX6_leastAnew : Room := { frames := 4, cells := 0, slots := 0, locals := 104 }
theorem zyX6_leastAnew : zyOK yX6_leastAnew 1 := ⟨by decide +kernel, by decide +kernel, by decide +kernel⟩
set_option maxHeartbeats 4000000 in
set_option maxRecDepth 100000 in
theorem wX6_leastAnew {G : ZG} (a0 : Nat) (a1 : Int32) (S : ZS) (h0 : zFix G cX6_leastAnew RX6 2 (some .int) rmX6_leastAnew) (C : Option (Int32 × ZS) → Prop) (hC : ¬ C none) (hE : ∀ (v : Int32) (S1 : ZS), C (some (v, S1)) → zEnd G (some (.int v)) S1 rmX6_leastAnew) : zV G 2 S 0 0 0 [(0, .ref a0), (1, .int a1)] [] (C (fX6_leastAnew a0 a1 S)) := by
  unfold fX6_leastAnew
  refine zr_aload_n h0 dX6_leastAnew_0 rfl (n := 1) rfl ?_
  refine zr_iload_n h0 dX6_leastAnew_1 rfl (n := 2) rfl ?_
  refine zr_bipush (8 : Int32) h0 (by decide) dX6_leastAnew_2 (n := 4) rfl ?_
  refine zr_cMI C hC 0 0 (fun x hx => zk_V h0 zcX6 (zcl_ex hx) (fun l D z0 => kX6_leastOf l D z0 a0 a1 (8 : Int32) S x (zcl_of hx)) zw_1062 zw_1064 zs_55 zw_5 zw_1065 rfl zyX6_leastOf (As := [.int a1, .int (8 : Int32)]) (st := []) rfl (by decide) rfl (Nat.le_of_ble_eq_true rfl) (by decide) dX6_leastAnew_4) rfl rfl (n := 7) rfl (fun x1 => ?_)
  exact zr_iret h0 rfl dX6_leastAnew_7 (hE _ _) (by decide) (by decide)
theorem kX6_leastAnew (l : Launch) (D : ZD) (z0 : Nat) (a0 : Nat) (a1 : Int32) (S : ZS) (x : Int32 × ZS) (hf : fX6_leastAnew a0 a1 S = some x) : zMet l D z0 yX6_leastAnew cX6_leastAnew 2 (some .int) rmX6_leastAnew [.ref a0, .int a1] S (some (.int x.1)) x.2 :=
  zMet_of (by decide) (Nat.le_of_ble_eq_true rfl) (fun G h0 hini hE => wX6_leastAnew a0 a1 S h0 (fun o => o = some x) (fun h => nomatch h) (fun v S1 h => by cases h; exact hE)) hf
theorem dX6_made_0 : decode cX6_made 0 = .ok (.iconst 0, 1) := by decide +kernel
theorem dX6_made_1 : decode cX6_made 1 = .ok (.istore_n 3, 1) := by decide +kernel
theorem dX6_made_2 : decode cX6_made 2 = .ok (.iconst 0, 1) := by decide +kernel
theorem dX6_made_3 : decode cX6_made 3 = .ok (.istore 4, 2) := by decide +kernel
theorem dX6_made_5 : decode cX6_made 5 = .ok (.iload 4, 2) := by decide +kernel
theorem dX6_made_7 : decode cX6_made 7 = .ok (.aload_n 0, 1) := by decide +kernel
theorem dX6_made_8 : decode cX6_made 8 = .ok (.getfield 32, 3) := by decide +kernel
theorem dX6_made_11 : decode cX6_made 11 = .ok (.iload_n 1, 1) := by decide +kernel
theorem dX6_made_12 : decode cX6_made 12 = .ok (.iaload, 1) := by decide +kernel
theorem dX6_made_13 : decode cX6_made 13 = .ok (.if_icmp .ge 65, 3) := by decide +kernel
theorem dX6_made_16 : decode cX6_made 16 = .ok (.iload_n 3, 1) := by decide +kernel
theorem dX6_made_17 : decode cX6_made 17 = .ok (.aload_n 0, 1) := by decide +kernel
theorem dX6_made_18 : decode cX6_made 18 = .ok (.getfield 35, 3) := by decide +kernel
theorem dX6_made_21 : decode cX6_made 21 = .ok (.iload_n 1, 1) := by decide +kernel
theorem dX6_made_22 : decode cX6_made 22 = .ok (.iload 4, 2) := by decide +kernel
theorem dX6_made_24 : decode cX6_made 24 = .ok (.iconst 0, 1) := by decide +kernel
theorem dX6_made_25 : decode cX6_made 25 = .ok (.invokestatic 96, 3) := by decide +kernel
theorem dX6_made_28 : decode cX6_made 28 = .ok (.iload_n 2, 1) := by decide +kernel
theorem dX6_made_29 : decode cX6_made 29 = .ok (.bipush 16, 2) := by decide +kernel
theorem dX6_made_31 : decode cX6_made 31 = .ok (.idiv, 1) := by decide +kernel
theorem dX6_made_32 : decode cX6_made 32 = .ok (.iadd, 1) := by decide +kernel
theorem dX6_made_33 : decode cX6_made 33 = .ok (.iaload, 1) := by decide +kernel
theorem dX6_made_34 : decode cX6_made 34 = .ok (.aload_n 0, 1) := by decide +kernel
theorem dX6_made_35 : decode cX6_made 35 = .ok (.getfield 35, 3) := by decide +kernel
theorem dX6_made_38 : decode cX6_made 38 = .ok (.iload_n 1, 1) := by decide +kernel
theorem dX6_made_39 : decode cX6_made 39 = .ok (.iload 4, 2) := by decide +kernel
theorem dX6_made_41 : decode cX6_made 41 = .ok (.iconst 1, 1) := by decide +kernel
theorem dX6_made_42 : decode cX6_made 42 = .ok (.invokestatic 96, 3) := by decide +kernel
theorem dX6_made_45 : decode cX6_made 45 = .ok (.iload_n 2, 1) := by decide +kernel
theorem dX6_made_46 : decode cX6_made 46 = .ok (.iconst 4, 1) := by decide +kernel
theorem dX6_made_47 : decode cX6_made 47 = .ok (.idiv, 1) := by decide +kernel
theorem dX6_made_48 : decode cX6_made 48 = .ok (.iconst 4, 1) := by decide +kernel
theorem dX6_made_49 : decode cX6_made 49 = .ok (.irem, 1) := by decide +kernel
theorem dX6_made_50 : decode cX6_made 50 = .ok (.iadd, 1) := by decide +kernel
theorem dX6_made_51 : decode cX6_made 51 = .ok (.iaload, 1) := by decide +kernel
theorem dX6_made_52 : decode cX6_made 52 = .ok (.imul, 1) := by decide +kernel
theorem dX6_made_53 : decode cX6_made 53 = .ok (.aload_n 0, 1) := by decide +kernel
theorem dX6_made_54 : decode cX6_made 54 = .ok (.getfield 35, 3) := by decide +kernel
theorem dX6_made_57 : decode cX6_made 57 = .ok (.iload_n 1, 1) := by decide +kernel
theorem dX6_made_58 : decode cX6_made 58 = .ok (.iload 4, 2) := by decide +kernel
theorem dX6_made_60 : decode cX6_made 60 = .ok (.iconst 2, 1) := by decide +kernel
theorem dX6_made_61 : decode cX6_made 61 = .ok (.invokestatic 96, 3) := by decide +kernel
theorem dX6_made_64 : decode cX6_made 64 = .ok (.iload_n 2, 1) := by decide +kernel
theorem dX6_made_65 : decode cX6_made 65 = .ok (.iconst 4, 1) := by decide +kernel
theorem dX6_made_66 : decode cX6_made 66 = .ok (.irem, 1) := by decide +kernel
theorem dX6_made_67 : decode cX6_made 67 = .ok (.iadd, 1) := by decide +kernel
theorem dX6_made_68 : decode cX6_made 68 = .ok (.iaload, 1) := by decide +kernel
theorem dX6_made_69 : decode cX6_made 69 = .ok (.imul, 1) := by decide +kernel
theorem dX6_made_70 : decode cX6_made 70 = .ok (.iadd, 1) := by decide +kernel
theorem dX6_made_71 : decode cX6_made 71 = .ok (.istore_n 3, 1) := by decide +kernel
theorem dX6_made_72 : decode cX6_made 72 = .ok (.iinc 4 1, 3) := by decide +kernel
theorem dX6_made_75 : decode cX6_made 75 = .ok (.goto (-70), 3) := by decide +kernel
theorem dX6_made_78 : decode cX6_made 78 = .ok (.iload_n 3, 1) := by decide +kernel
theorem dX6_made_79 : decode cX6_made 79 = .ok (.aload_n 0, 1) := by decide +kernel
theorem dX6_made_80 : decode cX6_made 80 = .ok (.getfield 7, 3) := by decide +kernel
theorem dX6_made_83 : decode cX6_made 83 = .ok (.irem, 1) := by decide +kernel
theorem dX6_made_84 : decode cX6_made 84 = .ok (.ireturn, 1) := by decide +kernel
abbrev rmX6_made : Room := { frames := 2, cells := 0, slots := 0, locals := 42 }
theorem zyX6_made : zyOK yX6_made 2 := ⟨by decide +kernel, by decide +kernel, by decide +kernel⟩
set_option maxHeartbeats 4000000 in
set_option maxRecDepth 100000 in
theorem wX6_made {G : ZG} (a0 : Nat) (a1 : Int32) (a2 : Int32) (S : ZS) (h0 : zFix G cX6_made RX6 5 (some .int) rmX6_made) (C : Option Int32 → Prop) (hC : ¬ C none) (hE : ∀ v : Int32, C (some v) → zEnd G (some (.int v)) S rmX6_made) : zV G 5 S 0 0 0 [(0, .ref a0), (1, .int a1), (2, .int a2)] [] (C (fX6_made a0 a1 a2 S)) := by
  unfold fX6_made
  refine zr_iconst (0 : Int32) h0 (by decide) dX6_made_0 (n := 1) rfl ?_
  refine zr_istore_n [(0, .ref a0), (1, .int a1), (2, .int a2), (3, .int (0 : Int32))] h0 dX6_made_1 (by decide) rfl (n := 2) rfl ?_
  refine zr_iconst (0 : Int32) h0 (by decide) dX6_made_2 (n := 3) rfl ?_
  refine zr_istore [(0, .ref a0), (1, .int a1), (2, .int a2), (3, .int (0 : Int32)), (4, .int (0 : Int32))] h0 dX6_made_3 (by decide) rfl (n := 5) rfl ?_
  refine zr_loop hC (fX6_made_B5 a0 a1 a2 S) (fun y => [(0, .ref a0), (1, .int a1), (2, .int a2), (3, .int y.1), (4, .int y.2)]) (fun y => S) zF ((0 : Int32), (0 : Int32)) (fun C5 hC5 hX5 hL5 t5 => ?_)
  unfold fX6_made_B5
  refine zr_iload h0 dX6_made_5 rfl (n := 7) rfl ?_
  refine zr_aload_n h0 dX6_made_7 rfl (n := 8) rfl ?_
  refine zr_getR C5 hC5 h0 zcX6 (k := 10) (by decide) zw_829 dX6_made_8 (n := 11) rfl (fun v14 => ?_)
  refine zr_iload_n h0 dX6_made_11 rfl (n := 12) rfl ?_
  refine zr_iaload C5 hC5 h0 dX6_made_12 (n := 13) rfl (fun v15 => ?_)
  refine zr_icmp_ge C5 (tgt := 78) h0 dX6_made_13 (by decide) (n := 16) rfl ?_ ?_
  · refine zr_ex hX5 ?_
    refine zv_sub (lv' := [(0, .ref a0), (3, .int t5.1)]) ?_ (zsub_of [0, 3] rfl)
    refine zr_iload_n h0 dX6_made_78 rfl (n := 79) rfl ?_
    refine zr_aload_n h0 dX6_made_79 rfl (n := 80) rfl ?_
    refine zr_getI C hC h0 zcX6 (k := 1) (by decide) zw_820 dX6_made_80 (n := 83) rfl (fun v16 => ?_)
    refine zr_irem C hC h0 dX6_made_83 (n := 84) rfl (fun v17 => ?_)
    exact zr_iret h0 rfl dX6_made_84 (hE _) (by decide) (by decide)
  · refine zr_iload_n h0 dX6_made_16 rfl (n := 17) rfl ?_
    refine zr_aload_n h0 dX6_made_17 rfl (n := 18) rfl ?_
    refine zr_getR C5 hC5 h0 zcX6 (k := 11) (by decide) zw_830 dX6_made_18 (n := 21) rfl (fun v18 => ?_)
    refine zr_iload_n h0 dX6_made_21 rfl (n := 22) rfl ?_
    refine zr_iload h0 dX6_made_22 rfl (n := 24) rfl ?_
    refine zr_iconst (0 : Int32) h0 (by decide) dX6_made_24 (n := 25) rfl ?_
    refine zr_cRI C5 hC5 0 0 (fun x hx => zk_S h0 (fun l D z0 => kX6_from l D z0 a1 t5.2 (0 : Int32) S x hx) zw_974 zw_975 zw_5 zw_976 zyX6_from (As := [.int a1, .int t5.2, .int (0 : Int32)]) (st := [.ref v18, .int t5.1]) rfl (by decide) rfl (Nat.le_of_ble_eq_true rfl) (by decide) dX6_made_25) rfl rfl (n := 28) rfl (fun x19 => ?_)
    refine zr_iload_n h0 dX6_made_28 rfl (n := 29) rfl ?_
    refine zr_bipush (16 : Int32) h0 (by decide) dX6_made_29 (n := 31) rfl ?_
    refine zr_idivK h0 (by decide) dX6_made_31 (n := 32) rfl ?_
    refine zr_iadd h0 dX6_made_32 (n := 33) rfl ?_
    refine zr_iaload C5 hC5 h0 dX6_made_33 (n := 34) rfl (fun v20 => ?_)
    refine zr_aload_n h0 dX6_made_34 rfl (n := 35) rfl ?_
    refine zr_getR C5 hC5 h0 zcX6 (k := 11) (by decide) zw_830 dX6_made_35 (n := 38) rfl (fun v21 => ?_)
    refine zr_iload_n h0 dX6_made_38 rfl (n := 39) rfl ?_
    refine zr_iload h0 dX6_made_39 rfl (n := 41) rfl ?_
    refine zr_iconst (1 : Int32) h0 (by decide) dX6_made_41 (n := 42) rfl ?_
    refine zr_cRI C5 hC5 0 0 (fun x hx => zk_S h0 (fun l D z0 => kX6_from l D z0 a1 t5.2 (1 : Int32) S x hx) zw_974 zw_975 zw_5 zw_976 zyX6_from (As := [.int a1, .int t5.2, .int (1 : Int32)]) (st := [.ref v21, .int v20, .int t5.1]) rfl (by decide) rfl (Nat.le_of_ble_eq_true rfl) (by decide) dX6_made_42) rfl rfl (n := 45) rfl (fun x22 => ?_)
    refine zr_iload_n h0 dX6_made_45 rfl (n := 46) rfl ?_
    refine zr_iconst (4 : Int32) h0 (by decide) dX6_made_46 (n := 47) rfl ?_
    refine zr_idivK h0 (by decide) dX6_made_47 (n := 48) rfl ?_
    refine zr_iconst (4 : Int32) h0 (by decide) dX6_made_48 (n := 49) rfl ?_
    refine zr_iremK h0 (by decide) dX6_made_49 (n := 50) rfl ?_
    refine zr_iadd h0 dX6_made_50 (n := 51) rfl ?_
    refine zr_iaload C5 hC5 h0 dX6_made_51 (n := 52) rfl (fun v23 => ?_)
    refine zr_imul h0 dX6_made_52 (n := 53) rfl ?_
    refine zr_aload_n h0 dX6_made_53 rfl (n := 54) rfl ?_
    refine zr_getR C5 hC5 h0 zcX6 (k := 11) (by decide) zw_830 dX6_made_54 (n := 57) rfl (fun v24 => ?_)
    refine zr_iload_n h0 dX6_made_57 rfl (n := 58) rfl ?_
    refine zr_iload h0 dX6_made_58 rfl (n := 60) rfl ?_
    refine zr_iconst (2 : Int32) h0 (by decide) dX6_made_60 (n := 61) rfl ?_
    refine zr_cRI C5 hC5 0 0 (fun x hx => zk_S h0 (fun l D z0 => kX6_from l D z0 a1 t5.2 (2 : Int32) S x hx) zw_974 zw_975 zw_5 zw_976 zyX6_from (As := [.int a1, .int t5.2, .int (2 : Int32)]) (st := [.ref v24, .int (v20 * v23), .int t5.1]) rfl (by decide) rfl (Nat.le_of_ble_eq_true rfl) (by decide) dX6_made_61) rfl rfl (n := 64) rfl (fun x25 => ?_)
    refine zr_iload_n h0 dX6_made_64 rfl (n := 65) rfl ?_
    refine zr_iconst (4 : Int32) h0 (by decide) dX6_made_65 (n := 66) rfl ?_
    refine zr_iremK h0 (by decide) dX6_made_66 (n := 67) rfl ?_
    refine zr_iadd h0 dX6_made_67 (n := 68) rfl ?_
    refine zr_iaload C5 hC5 h0 dX6_made_68 (n := 69) rfl (fun v26 => ?_)
    refine zr_imul h0 dX6_made_69 (n := 70) rfl ?_
    refine zr_iadd h0 dX6_made_70 (n := 71) rfl ?_
    refine zr_istore_n [(0, .ref a0), (1, .int a1), (2, .int a2), (3, .int (t5.1 + ((v20 * v23) * v26))), (4, .int t5.2)] h0 dX6_made_71 (by decide) rfl (n := 72) rfl ?_
    refine zr_iinc (1 : Int32) [(0, .ref a0), (1, .int a1), (2, .int a2), (3, .int (t5.1 + ((v20 * v23) * v26))), (4, .int (t5.2 + (1 : Int32)))] h0 dX6_made_72 rfl (by decide) rfl rfl (n := 75) rfl ?_
    refine zr_goto (tgt := 5) h0 dX6_made_75 (by decide) ?_
    exact hL5 (t5.1 + ((v20 * v23) * v26), t5.2 + (1 : Int32))
theorem kX6_made (l : Launch) (D : ZD) (z0 : Nat) (a0 : Nat) (a1 : Int32) (a2 : Int32) (S : ZS) (x : Int32) (hf : fX6_made a0 a1 a2 S = some x) : zMet l D z0 yX6_made cX6_made 5 (some .int) rmX6_made [.ref a0, .int a1, .int a2] S (some (.int x)) S :=
  zMet_of (by decide) (Nat.le_of_ble_eq_true rfl) (fun G h0 hini hE => wX6_made a0 a1 a2 S h0 (fun o => o = some x) (fun h => nomatch h) (fun v h => by cases h; exact hE)) hf
theorem dX6_wrong_0 : decode cX6_wrong 0 = .ok (.iconst 0, 1) := by decide +kernel
theorem dX6_wrong_1 : decode cX6_wrong 1 = .ok (.istore_n 2, 1) := by decide +kernel
theorem dX6_wrong_2 : decode cX6_wrong 2 = .ok (.iconst 0, 1) := by decide +kernel
theorem dX6_wrong_3 : decode cX6_wrong 3 = .ok (.istore_n 3, 1) := by decide +kernel
theorem dX6_wrong_4 : decode cX6_wrong 4 = .ok (.iload_n 3, 1) := by decide +kernel
theorem dX6_wrong_5 : decode cX6_wrong 5 = .ok (.bipush 64, 2) := by decide +kernel
theorem dX6_wrong_7 : decode cX6_wrong 7 = .ok (.if_icmp .ge 98, 3) := by decide +kernel
theorem dX6_wrong_10 : decode cX6_wrong 10 = .ok (.iload_n 3, 1) := by decide +kernel
theorem dX6_wrong_11 : decode cX6_wrong 11 = .ok (.bipush 16, 2) := by decide +kernel
theorem dX6_wrong_13 : decode cX6_wrong 13 = .ok (.idiv, 1) := by decide +kernel
theorem dX6_wrong_14 : decode cX6_wrong 14 = .ok (.aload_n 0, 1) := by decide +kernel
theorem dX6_wrong_15 : decode cX6_wrong 15 = .ok (.getfield 23, 3) := by decide +kernel
theorem dX6_wrong_18 : decode cX6_wrong 18 = .ok (.iconst 3, 1) := by decide +kernel
theorem dX6_wrong_19 : decode cX6_wrong 19 = .ok (.iload_n 1, 1) := by decide +kernel
theorem dX6_wrong_20 : decode cX6_wrong 20 = .ok (.imul, 1) := by decide +kernel
theorem dX6_wrong_21 : decode cX6_wrong 21 = .ok (.iaload, 1) := by decide +kernel
theorem dX6_wrong_22 : decode cX6_wrong 22 = .ok (.if_icmp .ge 41, 3) := by decide +kernel
theorem dX6_wrong_25 : decode cX6_wrong 25 = .ok (.iload_n 3, 1) := by decide +kernel
theorem dX6_wrong_26 : decode cX6_wrong 26 = .ok (.iconst 4, 1) := by decide +kernel
theorem dX6_wrong_27 : decode cX6_wrong 27 = .ok (.idiv, 1) := by decide +kernel
theorem dX6_wrong_28 : decode cX6_wrong 28 = .ok (.iconst 4, 1) := by decide +kernel
theorem dX6_wrong_29 : decode cX6_wrong 29 = .ok (.irem, 1) := by decide +kernel
theorem dX6_wrong_30 : decode cX6_wrong 30 = .ok (.aload_n 0, 1) := by decide +kernel
theorem dX6_wrong_31 : decode cX6_wrong 31 = .ok (.getfield 23, 3) := by decide +kernel
theorem dX6_wrong_34 : decode cX6_wrong 34 = .ok (.iconst 3, 1) := by decide +kernel
theorem dX6_wrong_35 : decode cX6_wrong 35 = .ok (.iload_n 1, 1) := by decide +kernel
theorem dX6_wrong_36 : decode cX6_wrong 36 = .ok (.imul, 1) := by decide +kernel
theorem dX6_wrong_37 : decode cX6_wrong 37 = .ok (.iconst 1, 1) := by decide +kernel
theorem dX6_wrong_38 : decode cX6_wrong 38 = .ok (.iadd, 1) := by decide +kernel
theorem dX6_wrong_39 : decode cX6_wrong 39 = .ok (.iaload, 1) := by decide +kernel
theorem dX6_wrong_40 : decode cX6_wrong 40 = .ok (.if_icmp .ge 23, 3) := by decide +kernel
theorem dX6_wrong_43 : decode cX6_wrong 43 = .ok (.iload_n 3, 1) := by decide +kernel
theorem dX6_wrong_44 : decode cX6_wrong 44 = .ok (.iconst 4, 1) := by decide +kernel
theorem dX6_wrong_45 : decode cX6_wrong 45 = .ok (.irem, 1) := by decide +kernel
theorem dX6_wrong_46 : decode cX6_wrong 46 = .ok (.aload_n 0, 1) := by decide +kernel
theorem dX6_wrong_47 : decode cX6_wrong 47 = .ok (.getfield 23, 3) := by decide +kernel
theorem dX6_wrong_50 : decode cX6_wrong 50 = .ok (.iconst 3, 1) := by decide +kernel
theorem dX6_wrong_51 : decode cX6_wrong 51 = .ok (.iload_n 1, 1) := by decide +kernel
theorem dX6_wrong_52 : decode cX6_wrong 52 = .ok (.imul, 1) := by decide +kernel
theorem dX6_wrong_53 : decode cX6_wrong 53 = .ok (.iconst 2, 1) := by decide +kernel
theorem dX6_wrong_54 : decode cX6_wrong 54 = .ok (.iadd, 1) := by decide +kernel
theorem dX6_wrong_55 : decode cX6_wrong 55 = .ok (.iaload, 1) := by decide +kernel
theorem dX6_wrong_56 : decode cX6_wrong 56 = .ok (.if_icmp .ge 7, 3) := by decide +kernel
theorem dX6_wrong_59 : decode cX6_wrong 59 = .ok (.iconst 1, 1) := by decide +kernel
theorem dX6_wrong_60 : decode cX6_wrong 60 = .ok (.goto 4, 3) := by decide +kernel
theorem dX6_wrong_63 : decode cX6_wrong 63 = .ok (.iconst 0, 1) := by decide +kernel
theorem dX6_wrong_64 : decode cX6_wrong 64 = .ok (.istore 4, 2) := by decide +kernel
theorem dX6_wrong_66 : decode cX6_wrong 66 = .ok (.iload_n 2, 1) := by decide +kernel
theorem dX6_wrong_67 : decode cX6_wrong 67 = .ok (.iload 4, 2) := by decide +kernel
theorem dX6_wrong_69 : decode cX6_wrong 69 = .ok (.ifCond .eq 27, 3) := by decide +kernel
theorem dX6_wrong_72 : decode cX6_wrong 72 = .ok (.aload_n 0, 1) := by decide +kernel
theorem dX6_wrong_73 : decode cX6_wrong 73 = .ok (.iload_n 1, 1) := by decide +kernel
theorem dX6_wrong_74 : decode cX6_wrong 74 = .ok (.iload_n 3, 1) := by decide +kernel
theorem dX6_wrong_75 : decode cX6_wrong 75 = .ok (.invokevirtual 169, 3) := by decide +kernel
theorem dX6_wrong_78 : decode cX6_wrong 78 = .ok (.aload_n 0, 1) := by decide +kernel
theorem dX6_wrong_79 : decode cX6_wrong 79 = .ok (.getfield 26, 3) := by decide +kernel
theorem dX6_wrong_82 : decode cX6_wrong 82 = .ok (.bipush 64, 2) := by decide +kernel
theorem dX6_wrong_84 : decode cX6_wrong 84 = .ok (.iload_n 1, 1) := by decide +kernel
theorem dX6_wrong_85 : decode cX6_wrong 85 = .ok (.imul, 1) := by decide +kernel
theorem dX6_wrong_86 : decode cX6_wrong 86 = .ok (.iload_n 3, 1) := by decide +kernel
theorem dX6_wrong_87 : decode cX6_wrong 87 = .ok (.iadd, 1) := by decide +kernel
theorem dX6_wrong_88 : decode cX6_wrong 88 = .ok (.iaload, 1) := by decide +kernel
theorem dX6_wrong_89 : decode cX6_wrong 89 = .ok (.if_icmp .eq 7, 3) := by decide +kernel
theorem dX6_wrong_92 : decode cX6_wrong 92 = .ok (.iconst 1, 1) := by decide +kernel
theorem dX6_wrong_93 : decode cX6_wrong 93 = .ok (.goto 4, 3) := by decide +kernel
theorem dX6_wrong_96 : decode cX6_wrong 96 = .ok (.iconst 0, 1) := by decide +kernel
theorem dX6_wrong_97 : decode cX6_wrong 97 = .ok (.iadd, 1) := by decide +kernel
theorem dX6_wrong_98 : decode cX6_wrong 98 = .ok (.istore_n 2, 1) := by decide +kernel
theorem dX6_wrong_99 : decode cX6_wrong 99 = .ok (.iinc 3 1, 3) := by decide +kernel
theorem dX6_wrong_102 : decode cX6_wrong 102 = .ok (.goto (-98), 3) := by decide +kernel
theorem dX6_wrong_105 : decode cX6_wrong 105 = .ok (.iload_n 2, 1) := by decide +kernel
theorem dX6_wrong_106 : decode cX6_wrong 106 = .ok (.ireturn, 1) := by decide +kernel
abbrev rmX6_wrong : Room := { frames := 3, cells := 0, slots := 0, locals := 66 }
theorem zyX6_wrong : zyOK yX6_wrong 1 := ⟨by decide +kernel, by decide +kernel, by decide +kernel⟩
set_option maxHeartbeats 4000000 in
set_option maxRecDepth 100000 in
theorem wX6_wrong {G : ZG} (a0 : Nat) (a1 : Int32) (S : ZS) (h0 : zFix G cX6_wrong RX6 5 (some .int) rmX6_wrong) (C : Option Int32 → Prop) (hC : ¬ C none) (hE : ∀ v : Int32, C (some v) → zEnd G (some (.int v)) S rmX6_wrong) : zV G 5 S 0 0 0 [(0, .ref a0), (1, .int a1)] [] (C (fX6_wrong a0 a1 S)) := by
  unfold fX6_wrong
  refine zr_iconst (0 : Int32) h0 (by decide) dX6_wrong_0 (n := 1) rfl ?_
  refine zr_istore_n [(0, .ref a0), (1, .int a1), (2, .int (0 : Int32))] h0 dX6_wrong_1 (by decide) rfl (n := 2) rfl ?_
  refine zr_iconst (0 : Int32) h0 (by decide) dX6_wrong_2 (n := 3) rfl ?_
  refine zr_istore_n [(0, .ref a0), (1, .int a1), (2, .int (0 : Int32)), (3, .int (0 : Int32))] h0 dX6_wrong_3 (by decide) rfl (n := 4) rfl ?_
  refine zr_loop hC (fX6_wrong_B4 a0 a1 S) (fun y => [(0, .ref a0), (1, .int a1), (2, .int y.1), (3, .int y.2)]) (fun y => S) zF ((0 : Int32), (0 : Int32)) (fun C4 hC4 hX4 hL4 t4 => ?_)
  have J97 : ∀ (l3_97 : Int32) (s0_97 : Int32) (s1_97 : Int32), zV G 5 S 0 0 97 [(0, .ref a0), (1, .int a1), (3, .int l3_97)] [.int s1_97, .int s0_97] (C4 (fX6_wrong_J97 a0 a1 l3_97 s0_97 s1_97 S)) := by
    intro l3_97 s0_97 s1_97
    unfold fX6_wrong_J97
    refine zr_iadd h0 dX6_wrong_97 (n := 98) rfl ?_
    refine zr_istore_n [(0, .ref a0), (1, .int a1), (2, .int (s0_97 + s1_97)), (3, .int l3_97)] h0 dX6_wrong_98 (by decide) rfl (n := 99) rfl ?_
    refine zr_iinc (1 : Int32) [(0, .ref a0), (1, .int a1), (2, .int (s0_97 + s1_97)), (3, .int (l3_97 + (1 : Int32)))] h0 dX6_wrong_99 rfl (by decide) rfl rfl (n := 102) rfl ?_
    refine zr_goto (tgt := 4) h0 dX6_wrong_102 (by decide) ?_
    exact hL4 (s0_97 + s1_97, l3_97 + (1 : Int32))
  have J96 : ∀ (l3_96 : Int32) (s0_96 : Int32), zV G 5 S 0 0 96 [(0, .ref a0), (1, .int a1), (3, .int l3_96)] [.int s0_96] (C4 (fX6_wrong_J96 a0 a1 l3_96 s0_96 S)) := by
    intro l3_96 s0_96
    unfold fX6_wrong_J96
    refine zr_iconst (0 : Int32) h0 (by decide) dX6_wrong_96 (n := 97) rfl ?_
    exact J97 l3_96 s0_96 (0 : Int32)
  have J64 : ∀ (l2_64 : Int32) (l3_64 : Int32) (s0_64 : Int32), zV G 5 S 0 0 64 [(0, .ref a0), (1, .int a1), (2, .int l2_64), (3, .int l3_64)] [.int s0_64] (C4 (fX6_wrong_J64 a0 a1 l2_64 l3_64 s0_64 S)) := by
    intro l2_64 l3_64 s0_64
    unfold fX6_wrong_J64
    refine zr_istore [(0, .ref a0), (1, .int a1), (2, .int l2_64), (3, .int l3_64), (4, .int s0_64)] h0 dX6_wrong_64 (by decide) rfl (n := 66) rfl ?_
    refine zr_iload_n h0 dX6_wrong_66 rfl (n := 67) rfl ?_
    refine zr_iload h0 dX6_wrong_67 rfl (n := 69) rfl ?_
    refine zr_if_eq C4 (tgt := 96) h0 dX6_wrong_69 (by decide) (n := 72) rfl ?_ ?_
    · refine zv_sub (lv' := [(0, .ref a0), (1, .int a1), (3, .int l3_64)]) ?_ (zsub_of [0, 1, 3] rfl)
      exact J96 l3_64 l2_64
    · refine zv_sub (lv' := [(0, .ref a0), (1, .int a1), (3, .int l3_64)]) ?_ (zsub_of [0, 1, 3] rfl)
      refine zr_aload_n h0 dX6_wrong_72 rfl (n := 73) rfl ?_
      refine zr_iload_n h0 dX6_wrong_73 rfl (n := 74) rfl ?_
      refine zr_iload_n h0 dX6_wrong_74 rfl (n := 75) rfl ?_
      refine zr_cRI C4 hC4 0 0 (fun x hx => zk_V h0 zcX6 (zcl_ex hx) (fun l D z0 => kX6_made l D z0 a0 a1 l3_64 S x (zcl_of hx)) zw_1090 zw_1092 zs_60 zw_5 zw_1093 rfl zyX6_made (As := [.int a1, .int l3_64]) (st := [.int l2_64]) rfl (by decide) rfl (Nat.le_of_ble_eq_true rfl) (by decide) dX6_wrong_75) rfl rfl (n := 78) rfl (fun x10 => ?_)
      refine zr_aload_n h0 dX6_wrong_78 rfl (n := 79) rfl ?_
      refine zr_getR C4 hC4 h0 zcX6 (k := 8) (by decide) zw_827 dX6_wrong_79 (n := 82) rfl (fun v11 => ?_)
      refine zr_bipush (64 : Int32) h0 (by decide) dX6_wrong_82 (n := 84) rfl ?_
      refine zr_iload_n h0 dX6_wrong_84 rfl (n := 85) rfl ?_
      refine zr_imul h0 dX6_wrong_85 (n := 86) rfl ?_
      refine zr_iload_n h0 dX6_wrong_86 rfl (n := 87) rfl ?_
      refine zr_iadd h0 dX6_wrong_87 (n := 88) rfl ?_
      refine zr_iaload C4 hC4 h0 dX6_wrong_88 (n := 89) rfl (fun v12 => ?_)
      refine zr_icmp_eq C4 (tgt := 96) h0 dX6_wrong_89 (by decide) (n := 92) rfl ?_ ?_
      · exact J96 l3_64 l2_64
      · refine zr_iconst (1 : Int32) h0 (by decide) dX6_wrong_92 (n := 93) rfl ?_
        refine zr_goto (tgt := 97) h0 dX6_wrong_93 (by decide) ?_
        exact J97 l3_64 l2_64 (1 : Int32)
  have J63 : ∀ (l2_63 : Int32) (l3_63 : Int32), zV G 5 S 0 0 63 [(0, .ref a0), (1, .int a1), (2, .int l2_63), (3, .int l3_63)] [] (C4 (fX6_wrong_J63 a0 a1 l2_63 l3_63 S)) := by
    intro l2_63 l3_63
    unfold fX6_wrong_J63
    refine zr_iconst (0 : Int32) h0 (by decide) dX6_wrong_63 (n := 64) rfl ?_
    exact J64 l2_63 l3_63 (0 : Int32)
  unfold fX6_wrong_B4
  refine zr_iload_n h0 dX6_wrong_4 rfl (n := 5) rfl ?_
  refine zr_bipush (64 : Int32) h0 (by decide) dX6_wrong_5 (n := 7) rfl ?_
  refine zr_icmp_ge C4 (tgt := 105) h0 dX6_wrong_7 (by decide) (n := 10) rfl ?_ ?_
  · refine zr_ex hX4 ?_
    refine zv_sub (lv' := [(2, .int t4.1)]) ?_ (zsub_of [2] rfl)
    refine zr_iload_n h0 dX6_wrong_105 rfl (n := 106) rfl ?_
    exact zr_iret h0 rfl dX6_wrong_106 (hE _) (by decide) (by decide)
  · refine zr_iload_n h0 dX6_wrong_10 rfl (n := 11) rfl ?_
    refine zr_bipush (16 : Int32) h0 (by decide) dX6_wrong_11 (n := 13) rfl ?_
    refine zr_idivK h0 (by decide) dX6_wrong_13 (n := 14) rfl ?_
    refine zr_aload_n h0 dX6_wrong_14 rfl (n := 15) rfl ?_
    refine zr_getR C4 hC4 h0 zcX6 (k := 7) (by decide) zw_826 dX6_wrong_15 (n := 18) rfl (fun v13 => ?_)
    refine zr_iconst (3 : Int32) h0 (by decide) dX6_wrong_18 (n := 19) rfl ?_
    refine zr_iload_n h0 dX6_wrong_19 rfl (n := 20) rfl ?_
    refine zr_imul h0 dX6_wrong_20 (n := 21) rfl ?_
    refine zr_iaload C4 hC4 h0 dX6_wrong_21 (n := 22) rfl (fun v14 => ?_)
    refine zr_icmp_ge C4 (tgt := 63) h0 dX6_wrong_22 (by decide) (n := 25) rfl ?_ ?_
    · exact J63 t4.1 t4.2
    · refine zr_iload_n h0 dX6_wrong_25 rfl (n := 26) rfl ?_
      refine zr_iconst (4 : Int32) h0 (by decide) dX6_wrong_26 (n := 27) rfl ?_
      refine zr_idivK h0 (by decide) dX6_wrong_27 (n := 28) rfl ?_
      refine zr_iconst (4 : Int32) h0 (by decide) dX6_wrong_28 (n := 29) rfl ?_
      refine zr_iremK h0 (by decide) dX6_wrong_29 (n := 30) rfl ?_
      refine zr_aload_n h0 dX6_wrong_30 rfl (n := 31) rfl ?_
      refine zr_getR C4 hC4 h0 zcX6 (k := 7) (by decide) zw_826 dX6_wrong_31 (n := 34) rfl (fun v15 => ?_)
      refine zr_iconst (3 : Int32) h0 (by decide) dX6_wrong_34 (n := 35) rfl ?_
      refine zr_iload_n h0 dX6_wrong_35 rfl (n := 36) rfl ?_
      refine zr_imul h0 dX6_wrong_36 (n := 37) rfl ?_
      refine zr_iconst (1 : Int32) h0 (by decide) dX6_wrong_37 (n := 38) rfl ?_
      refine zr_iadd h0 dX6_wrong_38 (n := 39) rfl ?_
      refine zr_iaload C4 hC4 h0 dX6_wrong_39 (n := 40) rfl (fun v16 => ?_)
      refine zr_icmp_ge C4 (tgt := 63) h0 dX6_wrong_40 (by decide) (n := 43) rfl ?_ ?_
      · exact J63 t4.1 t4.2
      · refine zr_iload_n h0 dX6_wrong_43 rfl (n := 44) rfl ?_
        refine zr_iconst (4 : Int32) h0 (by decide) dX6_wrong_44 (n := 45) rfl ?_
        refine zr_iremK h0 (by decide) dX6_wrong_45 (n := 46) rfl ?_
        refine zr_aload_n h0 dX6_wrong_46 rfl (n := 47) rfl ?_
        refine zr_getR C4 hC4 h0 zcX6 (k := 7) (by decide) zw_826 dX6_wrong_47 (n := 50) rfl (fun v17 => ?_)
        refine zr_iconst (3 : Int32) h0 (by decide) dX6_wrong_50 (n := 51) rfl ?_
        refine zr_iload_n h0 dX6_wrong_51 rfl (n := 52) rfl ?_
        refine zr_imul h0 dX6_wrong_52 (n := 53) rfl ?_
        refine zr_iconst (2 : Int32) h0 (by decide) dX6_wrong_53 (n := 54) rfl ?_
        refine zr_iadd h0 dX6_wrong_54 (n := 55) rfl ?_
        refine zr_iaload C4 hC4 h0 dX6_wrong_55 (n := 56) rfl (fun v18 => ?_)
        refine zr_icmp_ge C4 (tgt := 63) h0 dX6_wrong_56 (by decide) (n := 59) rfl ?_ ?_
        · exact J63 t4.1 t4.2
        · refine zr_iconst (1 : Int32) h0 (by decide) dX6_wrong_59 (n := 60) rfl ?_
          refine zr_goto (tgt := 64) h0 dX6_wrong_60 (by decide) ?_
          exact J64 t4.1 t4.2 (1 : Int32)
theorem kX6_wrong (l : Launch) (D : ZD) (z0 : Nat) (a0 : Nat) (a1 : Int32) (S : ZS) (x : Int32) (hf : fX6_wrong a0 a1 S = some x) : zMet l D z0 yX6_wrong cX6_wrong 5 (some .int) rmX6_wrong [.ref a0, .int a1] S (some (.int x)) S :=
  zMet_of (by decide) (Nat.le_of_ble_eq_true rfl) (fun G h0 hini hE => wX6_wrong a0 a1 S h0 (fun o => o = some x) (fun h => nomatch h) (fun v h => by cases h; exact hE)) hf
theorem dX6_laySets_0 : decode cX6_laySets 0 = .ok (.aload_n 0, 1) := by decide +kernel
theorem dX6_laySets_1 : decode cX6_laySets 1 = .ok (.iload_n 2, 1) := by decide +kernel
theorem dX6_laySets_2 : decode cX6_laySets 2 = .ok (.iconst 2, 1) := by decide +kernel
theorem dX6_laySets_3 : decode cX6_laySets 3 = .ok (.if_icmp .ge 12, 3) := by decide +kernel
theorem dX6_laySets_6 : decode cX6_laySets 6 = .ok (.aload_n 0, 1) := by decide +kernel
theorem dX6_laySets_7 : decode cX6_laySets 7 = .ok (.getfield 32, 3) := by decide +kernel
theorem dX6_laySets_10 : decode cX6_laySets 10 = .ok (.iload_n 1, 1) := by decide +kernel
theorem dX6_laySets_11 : decode cX6_laySets 11 = .ok (.iaload, 1) := by decide +kernel
theorem dX6_laySets_12 : decode cX6_laySets 12 = .ok (.goto 13, 3) := by decide +kernel
theorem dX6_laySets_15 : decode cX6_laySets 15 = .ok (.aload_n 0, 1) := by decide +kernel
theorem dX6_laySets_16 : decode cX6_laySets 16 = .ok (.getfield 23, 3) := by decide +kernel
theorem dX6_laySets_19 : decode cX6_laySets 19 = .ok (.iconst 3, 1) := by decide +kernel
theorem dX6_laySets_20 : decode cX6_laySets 20 = .ok (.iload_n 1, 1) := by decide +kernel
theorem dX6_laySets_21 : decode cX6_laySets 21 = .ok (.imul, 1) := by decide +kernel
theorem dX6_laySets_22 : decode cX6_laySets 22 = .ok (.iconst 2, 1) := by decide +kernel
theorem dX6_laySets_23 : decode cX6_laySets 23 = .ok (.iadd, 1) := by decide +kernel
theorem dX6_laySets_24 : decode cX6_laySets 24 = .ok (.iaload, 1) := by decide +kernel
theorem dX6_laySets_25 : decode cX6_laySets 25 = .ok (.putfield 172, 3) := by decide +kernel
theorem dX6_laySets_28 : decode cX6_laySets 28 = .ok (.aload_n 0, 1) := by decide +kernel
theorem dX6_laySets_29 : decode cX6_laySets 29 = .ok (.iload_n 2, 1) := by decide +kernel
theorem dX6_laySets_30 : decode cX6_laySets 30 = .ok (.iconst 2, 1) := by decide +kernel
theorem dX6_laySets_31 : decode cX6_laySets 31 = .ok (.if_icmp .ge 16, 3) := by decide +kernel
theorem dX6_laySets_34 : decode cX6_laySets 34 = .ok (.aload_n 0, 1) := by decide +kernel
theorem dX6_laySets_35 : decode cX6_laySets 35 = .ok (.getfield 23, 3) := by decide +kernel
theorem dX6_laySets_38 : decode cX6_laySets 38 = .ok (.iconst 3, 1) := by decide +kernel
theorem dX6_laySets_39 : decode cX6_laySets 39 = .ok (.iload_n 1, 1) := by decide +kernel
theorem dX6_laySets_40 : decode cX6_laySets 40 = .ok (.imul, 1) := by decide +kernel
theorem dX6_laySets_41 : decode cX6_laySets 41 = .ok (.iload_n 2, 1) := by decide +kernel
theorem dX6_laySets_42 : decode cX6_laySets 42 = .ok (.iadd, 1) := by decide +kernel
theorem dX6_laySets_43 : decode cX6_laySets 43 = .ok (.iaload, 1) := by decide +kernel
theorem dX6_laySets_44 : decode cX6_laySets 44 = .ok (.goto 9, 3) := by decide +kernel
theorem dX6_laySets_47 : decode cX6_laySets 47 = .ok (.aload_n 0, 1) := by decide +kernel
theorem dX6_laySets_48 : decode cX6_laySets 48 = .ok (.getfield 32, 3) := by decide +kernel
theorem dX6_laySets_51 : decode cX6_laySets 51 = .ok (.iload_n 1, 1) := by decide +kernel
theorem dX6_laySets_52 : decode cX6_laySets 52 = .ok (.iaload, 1) := by decide +kernel
theorem dX6_laySets_53 : decode cX6_laySets 53 = .ok (.putfield 175, 3) := by decide +kernel
theorem dX6_laySets_56 : decode cX6_laySets 56 = .ok (.iconst 0, 1) := by decide +kernel
theorem dX6_laySets_57 : decode cX6_laySets 57 = .ok (.istore_n 3, 1) := by decide +kernel
theorem dX6_laySets_58 : decode cX6_laySets 58 = .ok (.iload_n 3, 1) := by decide +kernel
theorem dX6_laySets_59 : decode cX6_laySets 59 = .ok (.aload_n 0, 1) := by decide +kernel
theorem dX6_laySets_60 : decode cX6_laySets 60 = .ok (.getfield 172, 3) := by decide +kernel
theorem dX6_laySets_63 : decode cX6_laySets 63 = .ok (.if_icmp .ge 99, 3) := by decide +kernel
theorem dX6_laySets_66 : decode cX6_laySets 66 = .ok (.iconst 0, 1) := by decide +kernel
theorem dX6_laySets_67 : decode cX6_laySets 67 = .ok (.istore 4, 2) := by decide +kernel
theorem dX6_laySets_69 : decode cX6_laySets 69 = .ok (.iload 4, 2) := by decide +kernel
theorem dX6_laySets_71 : decode cX6_laySets 71 = .ok (.sipush 128, 3) := by decide +kernel
theorem dX6_laySets_74 : decode cX6_laySets 74 = .ok (.if_icmp .ge 82, 3) := by decide +kernel
theorem dX6_laySets_77 : decode cX6_laySets 77 = .ok (.iload 4, 2) := by decide +kernel
theorem dX6_laySets_79 : decode cX6_laySets 79 = .ok (.aload_n 0, 1) := by decide +kernel
theorem dX6_laySets_80 : decode cX6_laySets 80 = .ok (.getfield 175, 3) := by decide +kernel
theorem dX6_laySets_83 : decode cX6_laySets 83 = .ok (.if_icmp .ge 7, 3) := by decide +kernel
theorem dX6_laySets_86 : decode cX6_laySets 86 = .ok (.iconst 1, 1) := by decide +kernel
theorem dX6_laySets_87 : decode cX6_laySets 87 = .ok (.goto 4, 3) := by decide +kernel
theorem dX6_laySets_90 : decode cX6_laySets 90 = .ok (.iconst 0, 1) := by decide +kernel
theorem dX6_laySets_91 : decode cX6_laySets 91 = .ok (.istore 5, 2) := by decide +kernel
theorem dX6_laySets_93 : decode cX6_laySets 93 = .ok (.aload_n 0, 1) := by decide +kernel
theorem dX6_laySets_94 : decode cX6_laySets 94 = .ok (.getfield 47, 3) := by decide +kernel
theorem dX6_laySets_97 : decode cX6_laySets 97 = .ok (.sipush 128, 3) := by decide +kernel
theorem dX6_laySets_100 : decode cX6_laySets 100 = .ok (.iload_n 3, 1) := by decide +kernel
theorem dX6_laySets_101 : decode cX6_laySets 101 = .ok (.imul, 1) := by decide +kernel
theorem dX6_laySets_102 : decode cX6_laySets 102 = .ok (.iload 4, 2) := by decide +kernel
theorem dX6_laySets_104 : decode cX6_laySets 104 = .ok (.iadd, 1) := by decide +kernel
theorem dX6_laySets_105 : decode cX6_laySets 105 = .ok (.iload 5, 2) := by decide +kernel
theorem dX6_laySets_107 : decode cX6_laySets 107 = .ok (.ifCond .eq 41, 3) := by decide +kernel
theorem dX6_laySets_110 : decode cX6_laySets 110 = .ok (.aload_n 0, 1) := by decide +kernel
theorem dX6_laySets_111 : decode cX6_laySets 111 = .ok (.getfield 35, 3) := by decide +kernel
theorem dX6_laySets_114 : decode cX6_laySets 114 = .ok (.iload_n 2, 1) := by decide +kernel
theorem dX6_laySets_115 : decode cX6_laySets 115 = .ok (.iconst 2, 1) := by decide +kernel
theorem dX6_laySets_116 : decode cX6_laySets 116 = .ok (.if_icmp .ge 15, 3) := by decide +kernel
theorem dX6_laySets_119 : decode cX6_laySets 119 = .ok (.iload_n 1, 1) := by decide +kernel
theorem dX6_laySets_120 : decode cX6_laySets 120 = .ok (.iload_n 3, 1) := by decide +kernel
theorem dX6_laySets_121 : decode cX6_laySets 121 = .ok (.iload_n 2, 1) := by decide +kernel
theorem dX6_laySets_122 : decode cX6_laySets 122 = .ok (.invokestatic 96, 3) := by decide +kernel
theorem dX6_laySets_125 : decode cX6_laySets 125 = .ok (.iload 4, 2) := by decide +kernel
theorem dX6_laySets_127 : decode cX6_laySets 127 = .ok (.iadd, 1) := by decide +kernel
theorem dX6_laySets_128 : decode cX6_laySets 128 = .ok (.goto 12, 3) := by decide +kernel
theorem dX6_laySets_131 : decode cX6_laySets 131 = .ok (.iload_n 1, 1) := by decide +kernel
theorem dX6_laySets_132 : decode cX6_laySets 132 = .ok (.iload 4, 2) := by decide +kernel
theorem dX6_laySets_134 : decode cX6_laySets 134 = .ok (.iload_n 2, 1) := by decide +kernel
theorem dX6_laySets_135 : decode cX6_laySets 135 = .ok (.invokestatic 96, 3) := by decide +kernel
theorem dX6_laySets_138 : decode cX6_laySets 138 = .ok (.iload_n 3, 1) := by decide +kernel
theorem dX6_laySets_139 : decode cX6_laySets 139 = .ok (.iadd, 1) := by decide +kernel
theorem dX6_laySets_140 : decode cX6_laySets 140 = .ok (.iaload, 1) := by decide +kernel
theorem dX6_laySets_141 : decode cX6_laySets 141 = .ok (.ifCond .eq 7, 3) := by decide +kernel
theorem dX6_laySets_144 : decode cX6_laySets 144 = .ok (.iconst 1, 1) := by decide +kernel
theorem dX6_laySets_145 : decode cX6_laySets 145 = .ok (.goto 4, 3) := by decide +kernel
theorem dX6_laySets_148 : decode cX6_laySets 148 = .ok (.iconst 0, 1) := by decide +kernel
theorem dX6_laySets_149 : decode cX6_laySets 149 = .ok (.bastore, 1) := by decide +kernel
theorem dX6_laySets_150 : decode cX6_laySets 150 = .ok (.iinc 4 1, 3) := by decide +kernel
theorem dX6_laySets_153 : decode cX6_laySets 153 = .ok (.goto (-84), 3) := by decide +kernel
theorem dX6_laySets_156 : decode cX6_laySets 156 = .ok (.iinc 3 1, 3) := by decide +kernel
theorem dX6_laySets_159 : decode cX6_laySets 159 = .ok (.goto (-101), 3) := by decide +kernel
theorem dX6_laySets_162 : decode cX6_laySets 162 = .ok (.return_, 1) := by decide +kernel
abbrev rmX6_laySets : Room := { frames := 2, cells := 0, slots := 0, locals := 42 }
theorem zyX6_laySets : zyOK yX6_laySets 2 := ⟨by decide +kernel, by decide +kernel, by decide +kernel⟩
set_option maxHeartbeats 4000000 in
set_option maxRecDepth 100000 in
theorem wX6_laySets {G : ZG} (a0 : Nat) (a1 : Int32) (a2 : Int32) (S : ZS) (h0 : zFix G cX6_laySets RX6 6 none rmX6_laySets) (C : Option ZS → Prop) (hC : ¬ C none) (hE : ∀ S1 : ZS, C (some S1) → zEnd G none S1 rmX6_laySets) : zV G 6 S 0 0 0 [(0, .ref a0), (1, .int a1), (2, .int a2)] [] (C (fX6_laySets a0 a1 a2 S)) := by
  have J53 : ∀ (l0_53 : Nat) (l1_53 : Int32) (l2_53 : Int32) (s0_53 : Nat) (s1_53 : Int32) (S_53 : ZS), zV G 6 S_53 0 0 53 [(0, .ref l0_53), (1, .int l1_53), (2, .int l2_53)] [.int s1_53, .ref s0_53] (C (fX6_laySets_J53 l0_53 l1_53 l2_53 s0_53 s1_53 S_53)) := by
    intro l0_53 l1_53 l2_53 s0_53 s1_53 S_53
    unfold fX6_laySets_J53
    refine zr_putF C hC h0 zcX6 (k := 18) (by decide) zw_837 rfl rfl rfl dX6_laySets_53 (n := 56) rfl (fun S34 => ?_)
    refine zr_iconst (0 : Int32) h0 (by decide) dX6_laySets_56 (n := 57) rfl ?_
    refine zr_istore_n [(0, .ref l0_53), (1, .int l1_53), (2, .int l2_53), (3, .int (0 : Int32))] h0 dX6_laySets_57 (by decide) rfl (n := 58) rfl ?_
    refine zr_loop hC (fX6_laySets_B58 l0_53 l1_53 l2_53) (fun y => [(0, .ref l0_53), (1, .int l1_53), (2, .int l2_53), (3, .int y.1)]) (fun y => y.2) zF ((0 : Int32), S34) (fun C58 hC58 hX58 hL58 t58 => ?_)
    unfold fX6_laySets_B58
    refine zr_iload_n h0 dX6_laySets_58 rfl (n := 59) rfl ?_
    refine zr_aload_n h0 dX6_laySets_59 rfl (n := 60) rfl ?_
    refine zr_getI C58 hC58 h0 zcX6 (k := 17) (by decide) zw_836 dX6_laySets_60 (n := 63) rfl (fun v35 => ?_)
    refine zr_icmp_ge C58 (tgt := 162) h0 dX6_laySets_63 (by decide) (n := 66) rfl ?_ ?_
    · refine zr_ex hX58 ?_
      refine zv_sub (lv' := []) ?_ (zsub_of [] rfl)
      exact zr_vret h0 rfl dX6_laySets_162 (fun h => hE _ h) (by decide) (by decide)
    · refine zr_iconst (0 : Int32) h0 (by decide) dX6_laySets_66 (n := 67) rfl ?_
      refine zr_istore [(0, .ref l0_53), (1, .int l1_53), (2, .int l2_53), (3, .int t58.1), (4, .int (0 : Int32))] h0 dX6_laySets_67 (by decide) rfl (n := 69) rfl ?_
      refine zr_loop hC58 (fX6_laySets_B69 l0_53 l1_53 l2_53 t58.1) (fun y => [(0, .ref l0_53), (1, .int l1_53), (2, .int l2_53), (3, .int t58.1), (4, .int y.1)]) (fun y => y.2) zF ((0 : Int32), t58.2) (fun C69 hC69 hX69 hL69 t69 => ?_)
      have J149 : ∀ (l4_149 : Int32) (s0_149 : Nat) (s1_149 : Int32) (s2_149 : Int32) (S_149 : ZS), zV G 6 S_149 0 0 149 [(0, .ref l0_53), (1, .int l1_53), (2, .int l2_53), (3, .int t58.1), (4, .int l4_149)] [.int s2_149, .int s1_149, .ref s0_149] (C69 (fX6_laySets_J149 l0_53 l1_53 l2_53 t58.1 l4_149 s0_149 s1_149 s2_149 S_149)) := by
        intro l4_149 s0_149 s1_149 s2_149 S_149
        unfold fX6_laySets_J149
        refine zr_bastore C69 hC69 h0 dX6_laySets_149 (n := 150) rfl (fun S36 => ?_)
        refine zr_iinc (1 : Int32) [(0, .ref l0_53), (1, .int l1_53), (2, .int l2_53), (3, .int t58.1), (4, .int (l4_149 + (1 : Int32)))] h0 dX6_laySets_150 rfl (by decide) rfl rfl (n := 153) rfl ?_
        refine zr_goto (tgt := 69) h0 dX6_laySets_153 (by decide) ?_
        exact hL69 (l4_149 + (1 : Int32), S36)
      have J148 : ∀ (l4_148 : Int32) (s0_148 : Nat) (s1_148 : Int32) (S_148 : ZS), zV G 6 S_148 0 0 148 [(0, .ref l0_53), (1, .int l1_53), (2, .int l2_53), (3, .int t58.1), (4, .int l4_148)] [.int s1_148, .ref s0_148] (C69 (fX6_laySets_J148 l0_53 l1_53 l2_53 t58.1 l4_148 s0_148 s1_148 S_148)) := by
        intro l4_148 s0_148 s1_148 S_148
        unfold fX6_laySets_J148
        refine zr_iconst (0 : Int32) h0 (by decide) dX6_laySets_148 (n := 149) rfl ?_
        exact J149 l4_148 s0_148 s1_148 (0 : Int32) S_148
      have J140 : ∀ (l4_140 : Int32) (s0_140 : Nat) (s1_140 : Int32) (s2_140 : Nat) (s3_140 : Int32) (S_140 : ZS), zV G 6 S_140 0 0 140 [(0, .ref l0_53), (1, .int l1_53), (2, .int l2_53), (3, .int t58.1), (4, .int l4_140)] [.int s3_140, .ref s2_140, .int s1_140, .ref s0_140] (C69 (fX6_laySets_J140 l0_53 l1_53 l2_53 t58.1 l4_140 s0_140 s1_140 s2_140 s3_140 S_140)) := by
        intro l4_140 s0_140 s1_140 s2_140 s3_140 S_140
        unfold fX6_laySets_J140
        refine zr_iaload C69 hC69 h0 dX6_laySets_140 (n := 141) rfl (fun v37 => ?_)
        refine zr_if_eq C69 (tgt := 148) h0 dX6_laySets_141 (by decide) (n := 144) rfl ?_ ?_
        · exact J148 l4_140 s0_140 s1_140 S_140
        · refine zr_iconst (1 : Int32) h0 (by decide) dX6_laySets_144 (n := 145) rfl ?_
          refine zr_goto (tgt := 149) h0 dX6_laySets_145 (by decide) ?_
          exact J149 l4_140 s0_140 s1_140 (1 : Int32) S_140
      have J91 : ∀ (l4_91 : Int32) (s0_91 : Int32) (S_91 : ZS), zV G 6 S_91 0 0 91 [(0, .ref l0_53), (1, .int l1_53), (2, .int l2_53), (3, .int t58.1), (4, .int l4_91)] [.int s0_91] (C69 (fX6_laySets_J91 l0_53 l1_53 l2_53 t58.1 l4_91 s0_91 S_91)) := by
        intro l4_91 s0_91 S_91
        unfold fX6_laySets_J91
        refine zr_istore [(0, .ref l0_53), (1, .int l1_53), (2, .int l2_53), (3, .int t58.1), (4, .int l4_91), (5, .int s0_91)] h0 dX6_laySets_91 (by decide) rfl (n := 93) rfl ?_
        refine zr_aload_n h0 dX6_laySets_93 rfl (n := 94) rfl ?_
        refine zr_getR C69 hC69 h0 zcX6 (k := 16) (by decide) zw_835 dX6_laySets_94 (n := 97) rfl (fun v38 => ?_)
        refine zr_sipush (128 : Int32) h0 (by decide) dX6_laySets_97 (n := 100) rfl ?_
        refine zr_iload_n h0 dX6_laySets_100 rfl (n := 101) rfl ?_
        refine zr_imul h0 dX6_laySets_101 (n := 102) rfl ?_
        refine zr_iload h0 dX6_laySets_102 rfl (n := 104) rfl ?_
        refine zr_iadd h0 dX6_laySets_104 (n := 105) rfl ?_
        refine zr_iload h0 dX6_laySets_105 rfl (n := 107) rfl ?_
        refine zr_if_eq C69 (tgt := 148) h0 dX6_laySets_107 (by decide) (n := 110) rfl ?_ ?_
        · refine zv_sub (lv' := [(0, .ref l0_53), (1, .int l1_53), (2, .int l2_53), (3, .int t58.1), (4, .int l4_91)]) ?_ (zsub_of [0, 1, 2, 3, 4] rfl)
          exact J148 l4_91 v38 (((128 : Int32) * t58.1) + l4_91) S_91
        · refine zv_sub (lv' := [(0, .ref l0_53), (1, .int l1_53), (2, .int l2_53), (3, .int t58.1), (4, .int l4_91)]) ?_ (zsub_of [0, 1, 2, 3, 4] rfl)
          refine zr_aload_n h0 dX6_laySets_110 rfl (n := 111) rfl ?_
          refine zr_getR C69 hC69 h0 zcX6 (k := 11) (by decide) zw_830 dX6_laySets_111 (n := 114) rfl (fun v39 => ?_)
          refine zr_iload_n h0 dX6_laySets_114 rfl (n := 115) rfl ?_
          refine zr_iconst (2 : Int32) h0 (by decide) dX6_laySets_115 (n := 116) rfl ?_
          refine zr_icmp_ge C69 (tgt := 131) h0 dX6_laySets_116 (by decide) (n := 119) rfl ?_ ?_
          · refine zr_iload_n h0 dX6_laySets_131 rfl (n := 132) rfl ?_
            refine zr_iload h0 dX6_laySets_132 rfl (n := 134) rfl ?_
            refine zr_iload_n h0 dX6_laySets_134 rfl (n := 135) rfl ?_
            refine zr_cRI C69 hC69 0 0 (fun x hx => zk_S h0 (fun l D z0 => kX6_from l D z0 l1_53 l4_91 l2_53 S_91 x hx) zw_974 zw_975 zw_5 zw_976 zyX6_from (As := [.int l1_53, .int l4_91, .int l2_53]) (st := [.ref v39, .int (((128 : Int32) * t58.1) + l4_91), .ref v38]) rfl (by decide) rfl (Nat.le_of_ble_eq_true rfl) (by decide) dX6_laySets_135) rfl rfl (n := 138) rfl (fun x40 => ?_)
            refine zr_iload_n h0 dX6_laySets_138 rfl (n := 139) rfl ?_
            refine zr_iadd h0 dX6_laySets_139 (n := 140) rfl ?_
            exact J140 l4_91 v38 (((128 : Int32) * t58.1) + l4_91) v39 (x40 + t58.1) S_91
          · refine zr_iload_n h0 dX6_laySets_119 rfl (n := 120) rfl ?_
            refine zr_iload_n h0 dX6_laySets_120 rfl (n := 121) rfl ?_
            refine zr_iload_n h0 dX6_laySets_121 rfl (n := 122) rfl ?_
            refine zr_cRI C69 hC69 0 0 (fun x hx => zk_S h0 (fun l D z0 => kX6_from l D z0 l1_53 t58.1 l2_53 S_91 x hx) zw_974 zw_975 zw_5 zw_976 zyX6_from (As := [.int l1_53, .int t58.1, .int l2_53]) (st := [.ref v39, .int (((128 : Int32) * t58.1) + l4_91), .ref v38]) rfl (by decide) rfl (Nat.le_of_ble_eq_true rfl) (by decide) dX6_laySets_122) rfl rfl (n := 125) rfl (fun x41 => ?_)
            refine zr_iload h0 dX6_laySets_125 rfl (n := 127) rfl ?_
            refine zr_iadd h0 dX6_laySets_127 (n := 128) rfl ?_
            refine zr_goto (tgt := 140) h0 dX6_laySets_128 (by decide) ?_
            exact J140 l4_91 v38 (((128 : Int32) * t58.1) + l4_91) v39 (x41 + l4_91) S_91
      unfold fX6_laySets_B69
      refine zr_iload h0 dX6_laySets_69 rfl (n := 71) rfl ?_
      refine zr_sipush (128 : Int32) h0 (by decide) dX6_laySets_71 (n := 74) rfl ?_
      refine zr_icmp_ge C69 (tgt := 156) h0 dX6_laySets_74 (by decide) (n := 77) rfl ?_ ?_
      · refine zr_ex hX69 ?_
        refine zv_sub (lv' := [(0, .ref l0_53), (1, .int l1_53), (2, .int l2_53), (3, .int t58.1)]) ?_ (zsub_of [0, 1, 2, 3] rfl)
        refine zr_iinc (1 : Int32) [(0, .ref l0_53), (1, .int l1_53), (2, .int l2_53), (3, .int (t58.1 + (1 : Int32)))] h0 dX6_laySets_156 rfl (by decide) rfl rfl (n := 159) rfl ?_
        refine zr_goto (tgt := 58) h0 dX6_laySets_159 (by decide) ?_
        exact hL58 (t58.1 + (1 : Int32), t69.2)
      · refine zr_iload h0 dX6_laySets_77 rfl (n := 79) rfl ?_
        refine zr_aload_n h0 dX6_laySets_79 rfl (n := 80) rfl ?_
        refine zr_getI C69 hC69 h0 zcX6 (k := 18) (by decide) zw_837 dX6_laySets_80 (n := 83) rfl (fun v42 => ?_)
        refine zr_icmp_ge C69 (tgt := 90) h0 dX6_laySets_83 (by decide) (n := 86) rfl ?_ ?_
        · refine zr_iconst (0 : Int32) h0 (by decide) dX6_laySets_90 (n := 91) rfl ?_
          exact J91 t69.1 (0 : Int32) t69.2
        · refine zr_iconst (1 : Int32) h0 (by decide) dX6_laySets_86 (n := 87) rfl ?_
          refine zr_goto (tgt := 91) h0 dX6_laySets_87 (by decide) ?_
          exact J91 t69.1 (1 : Int32) t69.2
  have J25 : ∀ (l0_25 : Nat) (l1_25 : Int32) (l2_25 : Int32) (s0_25 : Nat) (s1_25 : Int32) (S_25 : ZS), zV G 6 S_25 0 0 25 [(0, .ref l0_25), (1, .int l1_25), (2, .int l2_25)] [.int s1_25, .ref s0_25] (C (fX6_laySets_J25 l0_25 l1_25 l2_25 s0_25 s1_25 S_25)) := by
    intro l0_25 l1_25 l2_25 s0_25 s1_25 S_25
    unfold fX6_laySets_J25
    refine zr_putF C hC h0 zcX6 (k := 17) (by decide) zw_836 rfl rfl rfl dX6_laySets_25 (n := 28) rfl (fun S43 => ?_)
    refine zr_aload_n h0 dX6_laySets_28 rfl (n := 29) rfl ?_
    refine zr_iload_n h0 dX6_laySets_29 rfl (n := 30) rfl ?_
    refine zr_iconst (2 : Int32) h0 (by decide) dX6_laySets_30 (n := 31) rfl ?_
    refine zr_icmp_ge C (tgt := 47) h0 dX6_laySets_31 (by decide) (n := 34) rfl ?_ ?_
    · refine zr_aload_n h0 dX6_laySets_47 rfl (n := 48) rfl ?_
      refine zr_getR C hC h0 zcX6 (k := 10) (by decide) zw_829 dX6_laySets_48 (n := 51) rfl (fun v44 => ?_)
      refine zr_iload_n h0 dX6_laySets_51 rfl (n := 52) rfl ?_
      refine zr_iaload C hC h0 dX6_laySets_52 (n := 53) rfl (fun v45 => ?_)
      exact J53 l0_25 l1_25 l2_25 l0_25 v45 S43
    · refine zr_aload_n h0 dX6_laySets_34 rfl (n := 35) rfl ?_
      refine zr_getR C hC h0 zcX6 (k := 7) (by decide) zw_826 dX6_laySets_35 (n := 38) rfl (fun v46 => ?_)
      refine zr_iconst (3 : Int32) h0 (by decide) dX6_laySets_38 (n := 39) rfl ?_
      refine zr_iload_n h0 dX6_laySets_39 rfl (n := 40) rfl ?_
      refine zr_imul h0 dX6_laySets_40 (n := 41) rfl ?_
      refine zr_iload_n h0 dX6_laySets_41 rfl (n := 42) rfl ?_
      refine zr_iadd h0 dX6_laySets_42 (n := 43) rfl ?_
      refine zr_iaload C hC h0 dX6_laySets_43 (n := 44) rfl (fun v47 => ?_)
      refine zr_goto (tgt := 53) h0 dX6_laySets_44 (by decide) ?_
      exact J53 l0_25 l1_25 l2_25 l0_25 v47 S43
  unfold fX6_laySets
  refine zr_aload_n h0 dX6_laySets_0 rfl (n := 1) rfl ?_
  refine zr_iload_n h0 dX6_laySets_1 rfl (n := 2) rfl ?_
  refine zr_iconst (2 : Int32) h0 (by decide) dX6_laySets_2 (n := 3) rfl ?_
  refine zr_icmp_ge C (tgt := 15) h0 dX6_laySets_3 (by decide) (n := 6) rfl ?_ ?_
  · refine zr_aload_n h0 dX6_laySets_15 rfl (n := 16) rfl ?_
    refine zr_getR C hC h0 zcX6 (k := 7) (by decide) zw_826 dX6_laySets_16 (n := 19) rfl (fun v1 => ?_)
    refine zr_iconst (3 : Int32) h0 (by decide) dX6_laySets_19 (n := 20) rfl ?_
    refine zr_iload_n h0 dX6_laySets_20 rfl (n := 21) rfl ?_
    refine zr_imul h0 dX6_laySets_21 (n := 22) rfl ?_
    refine zr_iconst (2 : Int32) h0 (by decide) dX6_laySets_22 (n := 23) rfl ?_
    refine zr_iadd h0 dX6_laySets_23 (n := 24) rfl ?_
    refine zr_iaload C hC h0 dX6_laySets_24 (n := 25) rfl (fun v2 => ?_)
    exact J25 a0 a1 a2 a0 v2 S
  · refine zr_aload_n h0 dX6_laySets_6 rfl (n := 7) rfl ?_
    refine zr_getR C hC h0 zcX6 (k := 10) (by decide) zw_829 dX6_laySets_7 (n := 10) rfl (fun v32 => ?_)
    refine zr_iload_n h0 dX6_laySets_10 rfl (n := 11) rfl ?_
    refine zr_iaload C hC h0 dX6_laySets_11 (n := 12) rfl (fun v33 => ?_)
    refine zr_goto (tgt := 25) h0 dX6_laySets_12 (by decide) ?_
    exact J25 a0 a1 a2 a0 v33 S
theorem kX6_laySets (l : Launch) (D : ZD) (z0 : Nat) (a0 : Nat) (a1 : Int32) (a2 : Int32) (S : ZS) (x : ZS) (hf : fX6_laySets a0 a1 a2 S = some x) : zMet l D z0 yX6_laySets cX6_laySets 6 none rmX6_laySets [.ref a0, .int a1, .int a2] S none x :=
  zMet_of (by decide) (Nat.le_of_ble_eq_true rfl) (fun G h0 hini hE => wX6_laySets a0 a1 a2 S h0 (fun o => o = some x) (fun h => nomatch h) (fun S1 h => by cases h; exact hE)) hf
theorem dX6_additionsOf_0 : decode cX6_additionsOf 0 = .ok (.iconst 0, 1) := by decide +kernel
theorem dX6_additionsOf_1 : decode cX6_additionsOf 1 = .ok (.istore_n 1, 1) := by decide +kernel
theorem dX6_additionsOf_2 : decode cX6_additionsOf 2 = .ok (.iconst 0, 1) := by decide +kernel
theorem dX6_additionsOf_3 : decode cX6_additionsOf 3 = .ok (.istore_n 2, 1) := by decide +kernel
theorem dX6_additionsOf_4 : decode cX6_additionsOf 4 = .ok (.iload_n 2, 1) := by decide +kernel
theorem dX6_additionsOf_5 : decode cX6_additionsOf 5 = .ok (.aload_n 0, 1) := by decide +kernel
theorem dX6_additionsOf_6 : decode cX6_additionsOf 6 = .ok (.getfield 172, 3) := by decide +kernel
theorem dX6_additionsOf_9 : decode cX6_additionsOf 9 = .ok (.if_icmp .ge 68, 3) := by decide +kernel
theorem dX6_additionsOf_12 : decode cX6_additionsOf 12 = .ok (.iconst 0, 1) := by decide +kernel
theorem dX6_additionsOf_13 : decode cX6_additionsOf 13 = .ok (.istore_n 3, 1) := by decide +kernel
theorem dX6_additionsOf_14 : decode cX6_additionsOf 14 = .ok (.iconst 0, 1) := by decide +kernel
theorem dX6_additionsOf_15 : decode cX6_additionsOf 15 = .ok (.istore 4, 2) := by decide +kernel
theorem dX6_additionsOf_17 : decode cX6_additionsOf 17 = .ok (.iload 4, 2) := by decide +kernel
theorem dX6_additionsOf_19 : decode cX6_additionsOf 19 = .ok (.aload_n 0, 1) := by decide +kernel
theorem dX6_additionsOf_20 : decode cX6_additionsOf 20 = .ok (.getfield 175, 3) := by decide +kernel
theorem dX6_additionsOf_23 : decode cX6_additionsOf 23 = .ok (.if_icmp .ge 33, 3) := by decide +kernel
theorem dX6_additionsOf_26 : decode cX6_additionsOf 26 = .ok (.iload_n 3, 1) := by decide +kernel
theorem dX6_additionsOf_27 : decode cX6_additionsOf 27 = .ok (.aload_n 0, 1) := by decide +kernel
theorem dX6_additionsOf_28 : decode cX6_additionsOf 28 = .ok (.getfield 47, 3) := by decide +kernel
theorem dX6_additionsOf_31 : decode cX6_additionsOf 31 = .ok (.sipush 128, 3) := by decide +kernel
theorem dX6_additionsOf_34 : decode cX6_additionsOf 34 = .ok (.iload_n 2, 1) := by decide +kernel
theorem dX6_additionsOf_35 : decode cX6_additionsOf 35 = .ok (.imul, 1) := by decide +kernel
theorem dX6_additionsOf_36 : decode cX6_additionsOf 36 = .ok (.iload 4, 2) := by decide +kernel
theorem dX6_additionsOf_38 : decode cX6_additionsOf 38 = .ok (.iadd, 1) := by decide +kernel
theorem dX6_additionsOf_39 : decode cX6_additionsOf 39 = .ok (.baload, 1) := by decide +kernel
theorem dX6_additionsOf_40 : decode cX6_additionsOf 40 = .ok (.ifCond .eq 7, 3) := by decide +kernel
theorem dX6_additionsOf_43 : decode cX6_additionsOf 43 = .ok (.iconst 1, 1) := by decide +kernel
theorem dX6_additionsOf_44 : decode cX6_additionsOf 44 = .ok (.goto 4, 3) := by decide +kernel
theorem dX6_additionsOf_47 : decode cX6_additionsOf 47 = .ok (.iconst 0, 1) := by decide +kernel
theorem dX6_additionsOf_48 : decode cX6_additionsOf 48 = .ok (.iadd, 1) := by decide +kernel
theorem dX6_additionsOf_49 : decode cX6_additionsOf 49 = .ok (.istore_n 3, 1) := by decide +kernel
theorem dX6_additionsOf_50 : decode cX6_additionsOf 50 = .ok (.iinc 4 1, 3) := by decide +kernel
theorem dX6_additionsOf_53 : decode cX6_additionsOf 53 = .ok (.goto (-36), 3) := by decide +kernel
theorem dX6_additionsOf_56 : decode cX6_additionsOf 56 = .ok (.iload_n 1, 1) := by decide +kernel
theorem dX6_additionsOf_57 : decode cX6_additionsOf 57 = .ok (.iload_n 3, 1) := by decide +kernel
theorem dX6_additionsOf_58 : decode cX6_additionsOf 58 = .ok (.iconst 1, 1) := by decide +kernel
theorem dX6_additionsOf_59 : decode cX6_additionsOf 59 = .ok (.if_icmp .le 9, 3) := by decide +kernel
theorem dX6_additionsOf_62 : decode cX6_additionsOf 62 = .ok (.iload_n 3, 1) := by decide +kernel
theorem dX6_additionsOf_63 : decode cX6_additionsOf 63 = .ok (.iconst 1, 1) := by decide +kernel
theorem dX6_additionsOf_64 : decode cX6_additionsOf 64 = .ok (.isub, 1) := by decide +kernel
theorem dX6_additionsOf_65 : decode cX6_additionsOf 65 = .ok (.goto 4, 3) := by decide +kernel
theorem dX6_additionsOf_68 : decode cX6_additionsOf 68 = .ok (.iconst 0, 1) := by decide +kernel
theorem dX6_additionsOf_69 : decode cX6_additionsOf 69 = .ok (.iadd, 1) := by decide +kernel
theorem dX6_additionsOf_70 : decode cX6_additionsOf 70 = .ok (.istore_n 1, 1) := by decide +kernel
theorem dX6_additionsOf_71 : decode cX6_additionsOf 71 = .ok (.iinc 2 1, 3) := by decide +kernel
theorem dX6_additionsOf_74 : decode cX6_additionsOf 74 = .ok (.goto (-70), 3) := by decide +kernel
theorem dX6_additionsOf_77 : decode cX6_additionsOf 77 = .ok (.iload_n 1, 1) := by decide +kernel
theorem dX6_additionsOf_78 : decode cX6_additionsOf 78 = .ok (.ireturn, 1) := by decide +kernel
abbrev rmX6_additionsOf : Room := { frames := 1, cells := 0, slots := 0, locals := 20 }
theorem zyX6_additionsOf : zyOK yX6_additionsOf 0 := ⟨by decide +kernel, by decide +kernel, by decide +kernel⟩
set_option maxHeartbeats 4000000 in
set_option maxRecDepth 100000 in
theorem wX6_additionsOf {G : ZG} (a0 : Nat) (S : ZS) (h0 : zFix G cX6_additionsOf RX6 5 (some .int) rmX6_additionsOf) (C : Option Int32 → Prop) (hC : ¬ C none) (hE : ∀ v : Int32, C (some v) → zEnd G (some (.int v)) S rmX6_additionsOf) : zV G 5 S 0 0 0 [(0, .ref a0)] [] (C (fX6_additionsOf a0 S)) := by
  unfold fX6_additionsOf
  refine zr_iconst (0 : Int32) h0 (by decide) dX6_additionsOf_0 (n := 1) rfl ?_
  refine zr_istore_n [(0, .ref a0), (1, .int (0 : Int32))] h0 dX6_additionsOf_1 (by decide) rfl (n := 2) rfl ?_
  refine zr_iconst (0 : Int32) h0 (by decide) dX6_additionsOf_2 (n := 3) rfl ?_
  refine zr_istore_n [(0, .ref a0), (1, .int (0 : Int32)), (2, .int (0 : Int32))] h0 dX6_additionsOf_3 (by decide) rfl (n := 4) rfl ?_
  refine zr_loop hC (fX6_additionsOf_B4 a0 S) (fun y => [(0, .ref a0), (1, .int y.1), (2, .int y.2)]) (fun y => S) zF ((0 : Int32), (0 : Int32)) (fun C4 hC4 hX4 hL4 t4 => ?_)
  have J69 : ∀ (l2_69 : Int32) (s0_69 : Int32) (s1_69 : Int32), zV G 5 S 0 0 69 [(0, .ref a0), (2, .int l2_69)] [.int s1_69, .int s0_69] (C4 (fX6_additionsOf_J69 a0 l2_69 s0_69 s1_69 S)) := by
    intro l2_69 s0_69 s1_69
    unfold fX6_additionsOf_J69
    refine zr_iadd h0 dX6_additionsOf_69 (n := 70) rfl ?_
    refine zr_istore_n [(0, .ref a0), (1, .int (s0_69 + s1_69)), (2, .int l2_69)] h0 dX6_additionsOf_70 (by decide) rfl (n := 71) rfl ?_
    refine zr_iinc (1 : Int32) [(0, .ref a0), (1, .int (s0_69 + s1_69)), (2, .int (l2_69 + (1 : Int32)))] h0 dX6_additionsOf_71 rfl (by decide) rfl rfl (n := 74) rfl ?_
    refine zr_goto (tgt := 4) h0 dX6_additionsOf_74 (by decide) ?_
    exact hL4 (s0_69 + s1_69, l2_69 + (1 : Int32))
  unfold fX6_additionsOf_B4
  refine zr_iload_n h0 dX6_additionsOf_4 rfl (n := 5) rfl ?_
  refine zr_aload_n h0 dX6_additionsOf_5 rfl (n := 6) rfl ?_
  refine zr_getI C4 hC4 h0 zcX6 (k := 17) (by decide) zw_836 dX6_additionsOf_6 (n := 9) rfl (fun v8 => ?_)
  refine zr_icmp_ge C4 (tgt := 77) h0 dX6_additionsOf_9 (by decide) (n := 12) rfl ?_ ?_
  · refine zr_ex hX4 ?_
    refine zv_sub (lv' := [(1, .int t4.1)]) ?_ (zsub_of [1] rfl)
    refine zr_iload_n h0 dX6_additionsOf_77 rfl (n := 78) rfl ?_
    exact zr_iret h0 rfl dX6_additionsOf_78 (hE _) (by decide) (by decide)
  · refine zr_iconst (0 : Int32) h0 (by decide) dX6_additionsOf_12 (n := 13) rfl ?_
    refine zr_istore_n [(0, .ref a0), (1, .int t4.1), (2, .int t4.2), (3, .int (0 : Int32))] h0 dX6_additionsOf_13 (by decide) rfl (n := 14) rfl ?_
    refine zr_iconst (0 : Int32) h0 (by decide) dX6_additionsOf_14 (n := 15) rfl ?_
    refine zr_istore [(0, .ref a0), (1, .int t4.1), (2, .int t4.2), (3, .int (0 : Int32)), (4, .int (0 : Int32))] h0 dX6_additionsOf_15 (by decide) rfl (n := 17) rfl ?_
    refine zr_loop hC4 (fX6_additionsOf_B17 a0 t4.1 t4.2 S) (fun y => [(0, .ref a0), (1, .int t4.1), (2, .int t4.2), (3, .int y.1), (4, .int y.2)]) (fun y => S) zF ((0 : Int32), (0 : Int32)) (fun C17 hC17 hX17 hL17 t17 => ?_)
    have J48 : ∀ (l4_48 : Int32) (s0_48 : Int32) (s1_48 : Int32), zV G 5 S 0 0 48 [(0, .ref a0), (1, .int t4.1), (2, .int t4.2), (4, .int l4_48)] [.int s1_48, .int s0_48] (C17 (fX6_additionsOf_J48 a0 t4.1 t4.2 l4_48 s0_48 s1_48 S)) := by
      intro l4_48 s0_48 s1_48
      unfold fX6_additionsOf_J48
      refine zr_iadd h0 dX6_additionsOf_48 (n := 49) rfl ?_
      refine zr_istore_n [(0, .ref a0), (1, .int t4.1), (2, .int t4.2), (3, .int (s0_48 + s1_48)), (4, .int l4_48)] h0 dX6_additionsOf_49 (by decide) rfl (n := 50) rfl ?_
      refine zr_iinc (1 : Int32) [(0, .ref a0), (1, .int t4.1), (2, .int t4.2), (3, .int (s0_48 + s1_48)), (4, .int (l4_48 + (1 : Int32)))] h0 dX6_additionsOf_50 rfl (by decide) rfl rfl (n := 53) rfl ?_
      refine zr_goto (tgt := 17) h0 dX6_additionsOf_53 (by decide) ?_
      exact hL17 (s0_48 + s1_48, l4_48 + (1 : Int32))
    unfold fX6_additionsOf_B17
    refine zr_iload h0 dX6_additionsOf_17 rfl (n := 19) rfl ?_
    refine zr_aload_n h0 dX6_additionsOf_19 rfl (n := 20) rfl ?_
    refine zr_getI C17 hC17 h0 zcX6 (k := 18) (by decide) zw_837 dX6_additionsOf_20 (n := 23) rfl (fun v9 => ?_)
    refine zr_icmp_ge C17 (tgt := 56) h0 dX6_additionsOf_23 (by decide) (n := 26) rfl ?_ ?_
    · refine zr_ex hX17 ?_
      refine zv_sub (lv' := [(0, .ref a0), (1, .int t4.1), (2, .int t4.2), (3, .int t17.1)]) ?_ (zsub_of [0, 1, 2, 3] rfl)
      refine zr_iload_n h0 dX6_additionsOf_56 rfl (n := 57) rfl ?_
      refine zr_iload_n h0 dX6_additionsOf_57 rfl (n := 58) rfl ?_
      refine zr_iconst (1 : Int32) h0 (by decide) dX6_additionsOf_58 (n := 59) rfl ?_
      refine zr_icmp_le C4 (tgt := 68) h0 dX6_additionsOf_59 (by decide) (n := 62) rfl ?_ ?_
      · refine zv_sub (lv' := [(0, .ref a0), (2, .int t4.2)]) ?_ (zsub_of [0, 2] rfl)
        refine zr_iconst (0 : Int32) h0 (by decide) dX6_additionsOf_68 (n := 69) rfl ?_
        exact J69 t4.2 t4.1 (0 : Int32)
      · refine zv_sub (lv' := [(0, .ref a0), (2, .int t4.2), (3, .int t17.1)]) ?_ (zsub_of [0, 2, 3] rfl)
        refine zr_iload_n h0 dX6_additionsOf_62 rfl (n := 63) rfl ?_
        refine zr_iconst (1 : Int32) h0 (by decide) dX6_additionsOf_63 (n := 64) rfl ?_
        refine zr_isub h0 dX6_additionsOf_64 (n := 65) rfl ?_
        refine zr_goto (tgt := 69) h0 dX6_additionsOf_65 (by decide) ?_
        refine zv_sub (lv' := [(0, .ref a0), (2, .int t4.2)]) ?_ (zsub_of [0, 1] rfl)
        exact J69 t4.2 t4.1 (t17.1 - (1 : Int32))
    · refine zr_iload_n h0 dX6_additionsOf_26 rfl (n := 27) rfl ?_
      refine zr_aload_n h0 dX6_additionsOf_27 rfl (n := 28) rfl ?_
      refine zr_getR C17 hC17 h0 zcX6 (k := 16) (by decide) zw_835 dX6_additionsOf_28 (n := 31) rfl (fun v10 => ?_)
      refine zr_sipush (128 : Int32) h0 (by decide) dX6_additionsOf_31 (n := 34) rfl ?_
      refine zr_iload_n h0 dX6_additionsOf_34 rfl (n := 35) rfl ?_
      refine zr_imul h0 dX6_additionsOf_35 (n := 36) rfl ?_
      refine zr_iload h0 dX6_additionsOf_36 rfl (n := 38) rfl ?_
      refine zr_iadd h0 dX6_additionsOf_38 (n := 39) rfl ?_
      refine zr_baload C17 hC17 h0 dX6_additionsOf_39 (n := 40) rfl (fun v11 => ?_)
      refine zr_if_eq C17 (tgt := 47) h0 dX6_additionsOf_40 (by decide) (n := 43) rfl ?_ ?_
      · refine zv_sub (lv' := [(0, .ref a0), (1, .int t4.1), (2, .int t4.2), (4, .int t17.2)]) ?_ (zsub_of [0, 1, 2, 4] rfl)
        refine zr_iconst (0 : Int32) h0 (by decide) dX6_additionsOf_47 (n := 48) rfl ?_
        exact J48 t17.2 t17.1 (0 : Int32)
      · refine zv_sub (lv' := [(0, .ref a0), (1, .int t4.1), (2, .int t4.2), (4, .int t17.2)]) ?_ (zsub_of [0, 1, 2, 4] rfl)
        refine zr_iconst (1 : Int32) h0 (by decide) dX6_additionsOf_43 (n := 44) rfl ?_
        refine zr_goto (tgt := 48) h0 dX6_additionsOf_44 (by decide) ?_
        exact J48 t17.2 t17.1 (1 : Int32)
theorem kX6_additionsOf (l : Launch) (D : ZD) (z0 : Nat) (a0 : Nat) (S : ZS) (x : Int32) (hf : fX6_additionsOf a0 S = some x) : zMet l D z0 yX6_additionsOf cX6_additionsOf 5 (some .int) rmX6_additionsOf [.ref a0] S (some (.int x)) S :=
  zMet_of (by decide) (Nat.le_of_ble_eq_true rfl) (fun G h0 hini hE => wX6_additionsOf a0 S h0 (fun o => o = some x) (fun h => nomatch h) (fun v h => by cases h; exact hE)) hf
theorem dX6_common_0 : decode cX6_common 0 = .ok (.iconst 0, 1) := by decide +kernel
theorem dX6_common_1 : decode cX6_common 1 = .ok (.istore_n 3, 1) := by decide +kernel
theorem dX6_common_2 : decode cX6_common 2 = .ok (.iconst 0, 1) := by decide +kernel
theorem dX6_common_3 : decode cX6_common 3 = .ok (.istore 4, 2) := by decide +kernel
theorem dX6_common_5 : decode cX6_common 5 = .ok (.iload 4, 2) := by decide +kernel
theorem dX6_common_7 : decode cX6_common 7 = .ok (.aload_n 0, 1) := by decide +kernel
theorem dX6_common_8 : decode cX6_common 8 = .ok (.getfield 172, 3) := by decide +kernel
theorem dX6_common_11 : decode cX6_common 11 = .ok (.if_icmp .ge 49, 3) := by decide +kernel
theorem dX6_common_14 : decode cX6_common 14 = .ok (.iload_n 3, 1) := by decide +kernel
theorem dX6_common_15 : decode cX6_common 15 = .ok (.aload_n 0, 1) := by decide +kernel
theorem dX6_common_16 : decode cX6_common 16 = .ok (.getfield 47, 3) := by decide +kernel
theorem dX6_common_19 : decode cX6_common 19 = .ok (.sipush 128, 3) := by decide +kernel
theorem dX6_common_22 : decode cX6_common 22 = .ok (.iload 4, 2) := by decide +kernel
theorem dX6_common_24 : decode cX6_common 24 = .ok (.imul, 1) := by decide +kernel
theorem dX6_common_25 : decode cX6_common 25 = .ok (.iload_n 1, 1) := by decide +kernel
theorem dX6_common_26 : decode cX6_common 26 = .ok (.iadd, 1) := by decide +kernel
theorem dX6_common_27 : decode cX6_common 27 = .ok (.baload, 1) := by decide +kernel
theorem dX6_common_28 : decode cX6_common 28 = .ok (.ifCond .eq 23, 3) := by decide +kernel
theorem dX6_common_31 : decode cX6_common 31 = .ok (.aload_n 0, 1) := by decide +kernel
theorem dX6_common_32 : decode cX6_common 32 = .ok (.getfield 47, 3) := by decide +kernel
theorem dX6_common_35 : decode cX6_common 35 = .ok (.sipush 128, 3) := by decide +kernel
theorem dX6_common_38 : decode cX6_common 38 = .ok (.iload 4, 2) := by decide +kernel
theorem dX6_common_40 : decode cX6_common 40 = .ok (.imul, 1) := by decide +kernel
theorem dX6_common_41 : decode cX6_common 41 = .ok (.iload_n 2, 1) := by decide +kernel
theorem dX6_common_42 : decode cX6_common 42 = .ok (.iadd, 1) := by decide +kernel
theorem dX6_common_43 : decode cX6_common 43 = .ok (.baload, 1) := by decide +kernel
theorem dX6_common_44 : decode cX6_common 44 = .ok (.ifCond .eq 7, 3) := by decide +kernel
theorem dX6_common_47 : decode cX6_common 47 = .ok (.iconst 1, 1) := by decide +kernel
theorem dX6_common_48 : decode cX6_common 48 = .ok (.goto 4, 3) := by decide +kernel
theorem dX6_common_51 : decode cX6_common 51 = .ok (.iconst 0, 1) := by decide +kernel
theorem dX6_common_52 : decode cX6_common 52 = .ok (.iadd, 1) := by decide +kernel
theorem dX6_common_53 : decode cX6_common 53 = .ok (.istore_n 3, 1) := by decide +kernel
theorem dX6_common_54 : decode cX6_common 54 = .ok (.iinc 4 1, 3) := by decide +kernel
theorem dX6_common_57 : decode cX6_common 57 = .ok (.goto (-52), 3) := by decide +kernel
theorem dX6_common_60 : decode cX6_common 60 = .ok (.iload_n 3, 1) := by decide +kernel
theorem dX6_common_61 : decode cX6_common 61 = .ok (.ireturn, 1) := by decide +kernel
abbrev rmX6_common : Room := { frames := 1, cells := 0, slots := 0, locals := 20 }
theorem zyX6_common : zyOK yX6_common 2 := ⟨by decide +kernel, by decide +kernel, by decide +kernel⟩
set_option maxHeartbeats 4000000 in
set_option maxRecDepth 100000 in
theorem wX6_common {G : ZG} (a0 : Nat) (a1 : Int32) (a2 : Int32) (S : ZS) (h0 : zFix G cX6_common RX6 5 (some .int) rmX6_common) (C : Option Int32 → Prop) (hC : ¬ C none) (hE : ∀ v : Int32, C (some v) → zEnd G (some (.int v)) S rmX6_common) : zV G 5 S 0 0 0 [(0, .ref a0), (1, .int a1), (2, .int a2)] [] (C (fX6_common a0 a1 a2 S)) := by
  unfold fX6_common
  refine zr_iconst (0 : Int32) h0 (by decide) dX6_common_0 (n := 1) rfl ?_
  refine zr_istore_n [(0, .ref a0), (1, .int a1), (2, .int a2), (3, .int (0 : Int32))] h0 dX6_common_1 (by decide) rfl (n := 2) rfl ?_
  refine zr_iconst (0 : Int32) h0 (by decide) dX6_common_2 (n := 3) rfl ?_
  refine zr_istore [(0, .ref a0), (1, .int a1), (2, .int a2), (3, .int (0 : Int32)), (4, .int (0 : Int32))] h0 dX6_common_3 (by decide) rfl (n := 5) rfl ?_
  refine zr_loop hC (fX6_common_B5 a0 a1 a2 S) (fun y => [(0, .ref a0), (1, .int a1), (2, .int a2), (3, .int y.1), (4, .int y.2)]) (fun y => S) zF ((0 : Int32), (0 : Int32)) (fun C5 hC5 hX5 hL5 t5 => ?_)
  have J52 : ∀ (l4_52 : Int32) (s0_52 : Int32) (s1_52 : Int32), zV G 5 S 0 0 52 [(0, .ref a0), (1, .int a1), (2, .int a2), (4, .int l4_52)] [.int s1_52, .int s0_52] (C5 (fX6_common_J52 a0 a1 a2 l4_52 s0_52 s1_52 S)) := by
    intro l4_52 s0_52 s1_52
    unfold fX6_common_J52
    refine zr_iadd h0 dX6_common_52 (n := 53) rfl ?_
    refine zr_istore_n [(0, .ref a0), (1, .int a1), (2, .int a2), (3, .int (s0_52 + s1_52)), (4, .int l4_52)] h0 dX6_common_53 (by decide) rfl (n := 54) rfl ?_
    refine zr_iinc (1 : Int32) [(0, .ref a0), (1, .int a1), (2, .int a2), (3, .int (s0_52 + s1_52)), (4, .int (l4_52 + (1 : Int32)))] h0 dX6_common_54 rfl (by decide) rfl rfl (n := 57) rfl ?_
    refine zr_goto (tgt := 5) h0 dX6_common_57 (by decide) ?_
    exact hL5 (s0_52 + s1_52, l4_52 + (1 : Int32))
  have J51 : ∀ (l4_51 : Int32) (s0_51 : Int32), zV G 5 S 0 0 51 [(0, .ref a0), (1, .int a1), (2, .int a2), (4, .int l4_51)] [.int s0_51] (C5 (fX6_common_J51 a0 a1 a2 l4_51 s0_51 S)) := by
    intro l4_51 s0_51
    unfold fX6_common_J51
    refine zr_iconst (0 : Int32) h0 (by decide) dX6_common_51 (n := 52) rfl ?_
    exact J52 l4_51 s0_51 (0 : Int32)
  unfold fX6_common_B5
  refine zr_iload h0 dX6_common_5 rfl (n := 7) rfl ?_
  refine zr_aload_n h0 dX6_common_7 rfl (n := 8) rfl ?_
  refine zr_getI C5 hC5 h0 zcX6 (k := 17) (by decide) zw_836 dX6_common_8 (n := 11) rfl (fun v6 => ?_)
  refine zr_icmp_ge C5 (tgt := 60) h0 dX6_common_11 (by decide) (n := 14) rfl ?_ ?_
  · refine zr_ex hX5 ?_
    refine zv_sub (lv' := [(3, .int t5.1)]) ?_ (zsub_of [3] rfl)
    refine zr_iload_n h0 dX6_common_60 rfl (n := 61) rfl ?_
    exact zr_iret h0 rfl dX6_common_61 (hE _) (by decide) (by decide)
  · refine zr_iload_n h0 dX6_common_14 rfl (n := 15) rfl ?_
    refine zr_aload_n h0 dX6_common_15 rfl (n := 16) rfl ?_
    refine zr_getR C5 hC5 h0 zcX6 (k := 16) (by decide) zw_835 dX6_common_16 (n := 19) rfl (fun v7 => ?_)
    refine zr_sipush (128 : Int32) h0 (by decide) dX6_common_19 (n := 22) rfl ?_
    refine zr_iload h0 dX6_common_22 rfl (n := 24) rfl ?_
    refine zr_imul h0 dX6_common_24 (n := 25) rfl ?_
    refine zr_iload_n h0 dX6_common_25 rfl (n := 26) rfl ?_
    refine zr_iadd h0 dX6_common_26 (n := 27) rfl ?_
    refine zr_baload C5 hC5 h0 dX6_common_27 (n := 28) rfl (fun v8 => ?_)
    refine zr_if_eq C5 (tgt := 51) h0 dX6_common_28 (by decide) (n := 31) rfl ?_ ?_
    · refine zv_sub (lv' := [(0, .ref a0), (1, .int a1), (2, .int a2), (4, .int t5.2)]) ?_ (zsub_of [0, 1, 2, 4] rfl)
      exact J51 t5.2 t5.1
    · refine zv_sub (lv' := [(0, .ref a0), (1, .int a1), (2, .int a2), (4, .int t5.2)]) ?_ (zsub_of [0, 1, 2, 4] rfl)
      refine zr_aload_n h0 dX6_common_31 rfl (n := 32) rfl ?_
      refine zr_getR C5 hC5 h0 zcX6 (k := 16) (by decide) zw_835 dX6_common_32 (n := 35) rfl (fun v9 => ?_)
      refine zr_sipush (128 : Int32) h0 (by decide) dX6_common_35 (n := 38) rfl ?_
      refine zr_iload h0 dX6_common_38 rfl (n := 40) rfl ?_
      refine zr_imul h0 dX6_common_40 (n := 41) rfl ?_
      refine zr_iload_n h0 dX6_common_41 rfl (n := 42) rfl ?_
      refine zr_iadd h0 dX6_common_42 (n := 43) rfl ?_
      refine zr_baload C5 hC5 h0 dX6_common_43 (n := 44) rfl (fun v10 => ?_)
      refine zr_if_eq C5 (tgt := 51) h0 dX6_common_44 (by decide) (n := 47) rfl ?_ ?_
      · exact J51 t5.2 t5.1
      · refine zr_iconst (1 : Int32) h0 (by decide) dX6_common_47 (n := 48) rfl ?_
        refine zr_goto (tgt := 52) h0 dX6_common_48 (by decide) ?_
        exact J52 t5.2 t5.1 (1 : Int32)
theorem kX6_common (l : Launch) (D : ZD) (z0 : Nat) (a0 : Nat) (a1 : Int32) (a2 : Int32) (S : ZS) (x : Int32) (hf : fX6_common a0 a1 a2 S = some x) : zMet l D z0 yX6_common cX6_common 5 (some .int) rmX6_common [.ref a0, .int a1, .int a2] S (some (.int x)) S :=
  zMet_of (by decide) (Nat.le_of_ble_eq_true rfl) (fun G h0 hini hE => wX6_common a0 a1 a2 S h0 (fun o => o = some x) (fun h => nomatch h) (fun v h => by cases h; exact hE)) hf
theorem dX6_shares_0 : decode cX6_shares 0 = .ok (.iconst 1, 1) := by decide +kernel
theorem dX6_shares_1 : decode cX6_shares 1 = .ok (.istore_n 1, 1) := by decide +kernel
theorem dX6_shares_2 : decode cX6_shares 2 = .ok (.iconst (-1), 1) := by decide +kernel
theorem dX6_shares_3 : decode cX6_shares 3 = .ok (.istore_n 2, 1) := by decide +kernel
theorem dX6_shares_4 : decode cX6_shares 4 = .ok (.iconst (-1), 1) := by decide +kernel
theorem dX6_shares_5 : decode cX6_shares 5 = .ok (.istore_n 3, 1) := by decide +kernel
theorem dX6_shares_6 : decode cX6_shares 6 = .ok (.iconst 0, 1) := by decide +kernel
theorem dX6_shares_7 : decode cX6_shares 7 = .ok (.istore 4, 2) := by decide +kernel
theorem dX6_shares_9 : decode cX6_shares 9 = .ok (.iload 4, 2) := by decide +kernel
theorem dX6_shares_11 : decode cX6_shares 11 = .ok (.aload_n 0, 1) := by decide +kernel
theorem dX6_shares_12 : decode cX6_shares 12 = .ok (.getfield 175, 3) := by decide +kernel
theorem dX6_shares_15 : decode cX6_shares 15 = .ok (.if_icmp .ge 55, 3) := by decide +kernel
theorem dX6_shares_18 : decode cX6_shares 18 = .ok (.iload 4, 2) := by decide +kernel
theorem dX6_shares_20 : decode cX6_shares 20 = .ok (.iconst 1, 1) := by decide +kernel
theorem dX6_shares_21 : decode cX6_shares 21 = .ok (.iadd, 1) := by decide +kernel
theorem dX6_shares_22 : decode cX6_shares 22 = .ok (.istore 5, 2) := by decide +kernel
theorem dX6_shares_24 : decode cX6_shares 24 = .ok (.iload 5, 2) := by decide +kernel
theorem dX6_shares_26 : decode cX6_shares 26 = .ok (.aload_n 0, 1) := by decide +kernel
theorem dX6_shares_27 : decode cX6_shares 27 = .ok (.getfield 175, 3) := by decide +kernel
theorem dX6_shares_30 : decode cX6_shares 30 = .ok (.if_icmp .ge 34, 3) := by decide +kernel
theorem dX6_shares_33 : decode cX6_shares 33 = .ok (.aload_n 0, 1) := by decide +kernel
theorem dX6_shares_34 : decode cX6_shares 34 = .ok (.iload 4, 2) := by decide +kernel
theorem dX6_shares_36 : decode cX6_shares 36 = .ok (.iload 5, 2) := by decide +kernel
theorem dX6_shares_38 : decode cX6_shares 38 = .ok (.invokevirtual 178, 3) := by decide +kernel
theorem dX6_shares_41 : decode cX6_shares 41 = .ok (.istore 6, 2) := by decide +kernel
theorem dX6_shares_43 : decode cX6_shares 43 = .ok (.iload 6, 2) := by decide +kernel
theorem dX6_shares_45 : decode cX6_shares 45 = .ok (.iload_n 1, 1) := by decide +kernel
theorem dX6_shares_46 : decode cX6_shares 46 = .ok (.if_icmp .le 12, 3) := by decide +kernel
theorem dX6_shares_49 : decode cX6_shares 49 = .ok (.iload 6, 2) := by decide +kernel
theorem dX6_shares_51 : decode cX6_shares 51 = .ok (.istore_n 1, 1) := by decide +kernel
theorem dX6_shares_52 : decode cX6_shares 52 = .ok (.iload 4, 2) := by decide +kernel
theorem dX6_shares_54 : decode cX6_shares 54 = .ok (.istore_n 2, 1) := by decide +kernel
theorem dX6_shares_55 : decode cX6_shares 55 = .ok (.iload 5, 2) := by decide +kernel
theorem dX6_shares_57 : decode cX6_shares 57 = .ok (.istore_n 3, 1) := by decide +kernel
theorem dX6_shares_58 : decode cX6_shares 58 = .ok (.iinc 5 1, 3) := by decide +kernel
theorem dX6_shares_61 : decode cX6_shares 61 = .ok (.goto (-37), 3) := by decide +kernel
theorem dX6_shares_64 : decode cX6_shares 64 = .ok (.iinc 4 1, 3) := by decide +kernel
theorem dX6_shares_67 : decode cX6_shares 67 = .ok (.goto (-58), 3) := by decide +kernel
theorem dX6_shares_70 : decode cX6_shares 70 = .ok (.iconst 0, 1) := by decide +kernel
theorem dX6_shares_71 : decode cX6_shares 71 = .ok (.istore 4, 2) := by decide +kernel
theorem dX6_shares_73 : decode cX6_shares 73 = .ok (.iload 4, 2) := by decide +kernel
theorem dX6_shares_75 : decode cX6_shares 75 = .ok (.aload_n 0, 1) := by decide +kernel
theorem dX6_shares_76 : decode cX6_shares 76 = .ok (.getfield 172, 3) := by decide +kernel
theorem dX6_shares_79 : decode cX6_shares 79 = .ok (.if_icmp .ge 91, 3) := by decide +kernel
theorem dX6_shares_82 : decode cX6_shares 82 = .ok (.iload_n 2, 1) := by decide +kernel
theorem dX6_shares_83 : decode cX6_shares 83 = .ok (.iconst (-1), 1) := by decide +kernel
theorem dX6_shares_84 : decode cX6_shares 84 = .ok (.if_icmp .eq 86, 3) := by decide +kernel
theorem dX6_shares_87 : decode cX6_shares 87 = .ok (.aload_n 0, 1) := by decide +kernel
theorem dX6_shares_88 : decode cX6_shares 88 = .ok (.getfield 47, 3) := by decide +kernel
theorem dX6_shares_91 : decode cX6_shares 91 = .ok (.sipush 128, 3) := by decide +kernel
theorem dX6_shares_94 : decode cX6_shares 94 = .ok (.iload 4, 2) := by decide +kernel
theorem dX6_shares_96 : decode cX6_shares 96 = .ok (.imul, 1) := by decide +kernel
theorem dX6_shares_97 : decode cX6_shares 97 = .ok (.iload_n 2, 1) := by decide +kernel
theorem dX6_shares_98 : decode cX6_shares 98 = .ok (.iadd, 1) := by decide +kernel
theorem dX6_shares_99 : decode cX6_shares 99 = .ok (.baload, 1) := by decide +kernel
theorem dX6_shares_100 : decode cX6_shares 100 = .ok (.ifCond .eq 64, 3) := by decide +kernel
theorem dX6_shares_103 : decode cX6_shares 103 = .ok (.aload_n 0, 1) := by decide +kernel
theorem dX6_shares_104 : decode cX6_shares 104 = .ok (.getfield 47, 3) := by decide +kernel
theorem dX6_shares_107 : decode cX6_shares 107 = .ok (.sipush 128, 3) := by decide +kernel
theorem dX6_shares_110 : decode cX6_shares 110 = .ok (.iload 4, 2) := by decide +kernel
theorem dX6_shares_112 : decode cX6_shares 112 = .ok (.imul, 1) := by decide +kernel
theorem dX6_shares_113 : decode cX6_shares 113 = .ok (.iload_n 3, 1) := by decide +kernel
theorem dX6_shares_114 : decode cX6_shares 114 = .ok (.iadd, 1) := by decide +kernel
theorem dX6_shares_115 : decode cX6_shares 115 = .ok (.baload, 1) := by decide +kernel
theorem dX6_shares_116 : decode cX6_shares 116 = .ok (.ifCond .eq 48, 3) := by decide +kernel
theorem dX6_shares_119 : decode cX6_shares 119 = .ok (.aload_n 0, 1) := by decide +kernel
theorem dX6_shares_120 : decode cX6_shares 120 = .ok (.getfield 47, 3) := by decide +kernel
theorem dX6_shares_123 : decode cX6_shares 123 = .ok (.sipush 128, 3) := by decide +kernel
theorem dX6_shares_126 : decode cX6_shares 126 = .ok (.iload 4, 2) := by decide +kernel
theorem dX6_shares_128 : decode cX6_shares 128 = .ok (.imul, 1) := by decide +kernel
theorem dX6_shares_129 : decode cX6_shares 129 = .ok (.iload_n 2, 1) := by decide +kernel
theorem dX6_shares_130 : decode cX6_shares 130 = .ok (.iadd, 1) := by decide +kernel
theorem dX6_shares_131 : decode cX6_shares 131 = .ok (.iconst 0, 1) := by decide +kernel
theorem dX6_shares_132 : decode cX6_shares 132 = .ok (.bastore, 1) := by decide +kernel
theorem dX6_shares_133 : decode cX6_shares 133 = .ok (.aload_n 0, 1) := by decide +kernel
theorem dX6_shares_134 : decode cX6_shares 134 = .ok (.getfield 47, 3) := by decide +kernel
theorem dX6_shares_137 : decode cX6_shares 137 = .ok (.sipush 128, 3) := by decide +kernel
theorem dX6_shares_140 : decode cX6_shares 140 = .ok (.iload 4, 2) := by decide +kernel
theorem dX6_shares_142 : decode cX6_shares 142 = .ok (.imul, 1) := by decide +kernel
theorem dX6_shares_143 : decode cX6_shares 143 = .ok (.iload_n 3, 1) := by decide +kernel
theorem dX6_shares_144 : decode cX6_shares 144 = .ok (.iadd, 1) := by decide +kernel
theorem dX6_shares_145 : decode cX6_shares 145 = .ok (.iconst 0, 1) := by decide +kernel
theorem dX6_shares_146 : decode cX6_shares 146 = .ok (.bastore, 1) := by decide +kernel
theorem dX6_shares_147 : decode cX6_shares 147 = .ok (.aload_n 0, 1) := by decide +kernel
theorem dX6_shares_148 : decode cX6_shares 148 = .ok (.getfield 47, 3) := by decide +kernel
theorem dX6_shares_151 : decode cX6_shares 151 = .ok (.sipush 128, 3) := by decide +kernel
theorem dX6_shares_154 : decode cX6_shares 154 = .ok (.iload 4, 2) := by decide +kernel
theorem dX6_shares_156 : decode cX6_shares 156 = .ok (.imul, 1) := by decide +kernel
theorem dX6_shares_157 : decode cX6_shares 157 = .ok (.aload_n 0, 1) := by decide +kernel
theorem dX6_shares_158 : decode cX6_shares 158 = .ok (.getfield 175, 3) := by decide +kernel
theorem dX6_shares_161 : decode cX6_shares 161 = .ok (.iadd, 1) := by decide +kernel
theorem dX6_shares_162 : decode cX6_shares 162 = .ok (.iconst 1, 1) := by decide +kernel
theorem dX6_shares_163 : decode cX6_shares 163 = .ok (.bastore, 1) := by decide +kernel
theorem dX6_shares_164 : decode cX6_shares 164 = .ok (.iinc 4 1, 3) := by decide +kernel
theorem dX6_shares_167 : decode cX6_shares 167 = .ok (.goto (-94), 3) := by decide +kernel
theorem dX6_shares_170 : decode cX6_shares 170 = .ok (.aload_n 0, 1) := by decide +kernel
theorem dX6_shares_171 : decode cX6_shares 171 = .ok (.dup, 1) := by decide +kernel
theorem dX6_shares_172 : decode cX6_shares 172 = .ok (.getfield 175, 3) := by decide +kernel
theorem dX6_shares_175 : decode cX6_shares 175 = .ok (.iload_n 2, 1) := by decide +kernel
theorem dX6_shares_176 : decode cX6_shares 176 = .ok (.iconst (-1), 1) := by decide +kernel
theorem dX6_shares_177 : decode cX6_shares 177 = .ok (.if_icmp .ne 7, 3) := by decide +kernel
theorem dX6_shares_180 : decode cX6_shares 180 = .ok (.iconst 0, 1) := by decide +kernel
theorem dX6_shares_181 : decode cX6_shares 181 = .ok (.goto 4, 3) := by decide +kernel
theorem dX6_shares_184 : decode cX6_shares 184 = .ok (.iconst 1, 1) := by decide +kernel
theorem dX6_shares_185 : decode cX6_shares 185 = .ok (.iadd, 1) := by decide +kernel
theorem dX6_shares_186 : decode cX6_shares 186 = .ok (.putfield 175, 3) := by decide +kernel
theorem dX6_shares_189 : decode cX6_shares 189 = .ok (.iload_n 2, 1) := by decide +kernel
theorem dX6_shares_190 : decode cX6_shares 190 = .ok (.iconst (-1), 1) := by decide +kernel
theorem dX6_shares_191 : decode cX6_shares 191 = .ok (.if_icmp .eq 7, 3) := by decide +kernel
theorem dX6_shares_194 : decode cX6_shares 194 = .ok (.iconst 1, 1) := by decide +kernel
theorem dX6_shares_195 : decode cX6_shares 195 = .ok (.goto 4, 3) := by decide +kernel
theorem dX6_shares_198 : decode cX6_shares 198 = .ok (.iconst 0, 1) := by decide +kernel
theorem dX6_shares_199 : decode cX6_shares 199 = .ok (.ireturn, 1) := by decide +kernel
abbrev rmX6_shares : Room := { frames := 2, cells := 0, slots := 0, locals := 44 }
theorem zyX6_shares : zyOK yX6_shares 0 := ⟨by decide +kernel, by decide +kernel, by decide +kernel⟩
set_option maxHeartbeats 4000000 in
set_option maxRecDepth 100000 in
theorem wX6_shares {G : ZG} (a0 : Nat) (S : ZS) (h0 : zFix G cX6_shares RX6 7 (some .boolean) rmX6_shares) (C : Option (Int32 × ZS) → Prop) (hC : ¬ C none) (hE : ∀ (v : Int32) (S1 : ZS), C (some (v, S1)) → zEnd G (some (.int v)) S1 rmX6_shares) : zV G 7 S 0 0 0 [(0, .ref a0)] [] (C (fX6_shares a0 S)) := by
  have J199 : ∀ (s0_199 : Int32) (S_199 : ZS), zV G 7 S_199 0 0 199 [] [.int s0_199] (C (fX6_shares_J199 s0_199 S_199)) := by
    intro s0_199 S_199
    unfold fX6_shares_J199
    exact zr_zret C hC h0 rfl dX6_shares_199 (fun w h => hE _ _ h) (by decide) (by decide)
  have J185 : ∀ (l2_185 : Int32) (s0_185 : Nat) (s1_185 : Int32) (s2_185 : Int32) (S_185 : ZS), zV G 7 S_185 0 0 185 [(2, .int l2_185)] [.int s2_185, .int s1_185, .ref s0_185] (C (fX6_shares_J185 l2_185 s0_185 s1_185 s2_185 S_185)) := by
    intro l2_185 s0_185 s1_185 s2_185 S_185
    unfold fX6_shares_J185
    refine zr_iadd h0 dX6_shares_185 (n := 186) rfl ?_
    refine zr_putF C hC h0 zcX6 (k := 18) (by decide) zw_837 rfl rfl rfl dX6_shares_186 (n := 189) rfl (fun S47 => ?_)
    refine zr_iload_n h0 dX6_shares_189 rfl (n := 190) rfl ?_
    refine zr_iconst (-1 : Int32) h0 (by decide) dX6_shares_190 (n := 191) rfl ?_
    refine zr_icmp_eq C (tgt := 198) h0 dX6_shares_191 (by decide) (n := 194) rfl ?_ ?_
    · refine zv_sub (lv' := []) ?_ (zsub_of [] rfl)
      refine zr_iconst (0 : Int32) h0 (by decide) dX6_shares_198 (n := 199) rfl ?_
      exact J199 (0 : Int32) S47
    · refine zv_sub (lv' := []) ?_ (zsub_of [] rfl)
      refine zr_iconst (1 : Int32) h0 (by decide) dX6_shares_194 (n := 195) rfl ?_
      refine zr_goto (tgt := 199) h0 dX6_shares_195 (by decide) ?_
      exact J199 (1 : Int32) S47
  have J170 : ∀ (l0_170 : Nat) (l2_170 : Int32) (S_170 : ZS), zV G 7 S_170 0 0 170 [(0, .ref l0_170), (2, .int l2_170)] [] (C (fX6_shares_J170 l0_170 l2_170 S_170)) := by
    intro l0_170 l2_170 S_170
    unfold fX6_shares_J170
    refine zr_aload_n h0 dX6_shares_170 rfl (n := 171) rfl ?_
    refine zr_dup h0 rfl dX6_shares_171 (n := 172) rfl ?_
    refine zr_getI C hC h0 zcX6 (k := 18) (by decide) zw_837 dX6_shares_172 (n := 175) rfl (fun v48 => ?_)
    refine zr_iload_n h0 dX6_shares_175 rfl (n := 176) rfl ?_
    refine zr_iconst (-1 : Int32) h0 (by decide) dX6_shares_176 (n := 177) rfl ?_
    refine zr_icmp_ne C (tgt := 184) h0 dX6_shares_177 (by decide) (n := 180) rfl ?_ ?_
    · refine zv_sub (lv' := [(2, .int l2_170)]) ?_ (zsub_of [1] rfl)
      refine zr_iconst (0 : Int32) h0 (by decide) dX6_shares_180 (n := 181) rfl ?_
      refine zr_goto (tgt := 185) h0 dX6_shares_181 (by decide) ?_
      exact J185 l2_170 l0_170 v48 (0 : Int32) S_170
    · refine zv_sub (lv' := [(2, .int l2_170)]) ?_ (zsub_of [1] rfl)
      refine zr_iconst (1 : Int32) h0 (by decide) dX6_shares_184 (n := 185) rfl ?_
      exact J185 l2_170 l0_170 v48 (1 : Int32) S_170
  unfold fX6_shares
  refine zr_iconst (1 : Int32) h0 (by decide) dX6_shares_0 (n := 1) rfl ?_
  refine zr_istore_n [(0, .ref a0), (1, .int (1 : Int32))] h0 dX6_shares_1 (by decide) rfl (n := 2) rfl ?_
  refine zr_iconst (-1 : Int32) h0 (by decide) dX6_shares_2 (n := 3) rfl ?_
  refine zr_istore_n [(0, .ref a0), (1, .int (1 : Int32)), (2, .int (-1 : Int32))] h0 dX6_shares_3 (by decide) rfl (n := 4) rfl ?_
  refine zr_iconst (-1 : Int32) h0 (by decide) dX6_shares_4 (n := 5) rfl ?_
  refine zr_istore_n [(0, .ref a0), (1, .int (1 : Int32)), (2, .int (-1 : Int32)), (3, .int (-1 : Int32))] h0 dX6_shares_5 (by decide) rfl (n := 6) rfl ?_
  refine zr_iconst (0 : Int32) h0 (by decide) dX6_shares_6 (n := 7) rfl ?_
  refine zr_istore [(0, .ref a0), (1, .int (1 : Int32)), (2, .int (-1 : Int32)), (3, .int (-1 : Int32)), (4, .int (0 : Int32))] h0 dX6_shares_7 (by decide) rfl (n := 9) rfl ?_
  refine zr_loop hC (fX6_shares_B9 a0 S) (fun y => [(0, .ref a0), (1, .int y.1), (2, .int y.2.1), (3, .int y.2.2.1), (4, .int y.2.2.2)]) (fun y => S) zF ((1 : Int32), (-1 : Int32), (-1 : Int32), (0 : Int32)) (fun C9 hC9 hX9 hL9 t9 => ?_)
  unfold fX6_shares_B9
  refine zr_iload h0 dX6_shares_9 rfl (n := 11) rfl ?_
  refine zr_aload_n h0 dX6_shares_11 rfl (n := 12) rfl ?_
  refine zr_getI C9 hC9 h0 zcX6 (k := 18) (by decide) zw_837 dX6_shares_12 (n := 15) rfl (fun v32 => ?_)
  refine zr_icmp_ge C9 (tgt := 70) h0 dX6_shares_15 (by decide) (n := 18) rfl ?_ ?_
  · refine zr_ex hX9 ?_
    refine zv_sub (lv' := [(0, .ref a0), (2, .int t9.2.1), (3, .int t9.2.2.1)]) ?_ (zsub_of [0, 2, 3] rfl)
    refine zr_iconst (0 : Int32) h0 (by decide) dX6_shares_70 (n := 71) rfl ?_
    refine zr_istore [(0, .ref a0), (2, .int t9.2.1), (3, .int t9.2.2.1), (4, .int (0 : Int32))] h0 dX6_shares_71 (by decide) rfl (n := 73) rfl ?_
    refine zr_loop hC (fX6_shares_B73 a0 t9.2.1 t9.2.2.1) (fun y => [(0, .ref a0), (2, .int t9.2.1), (3, .int t9.2.2.1), (4, .int y.1)]) (fun y => y.2) zF ((0 : Int32), S) (fun C73 hC73 hX73 hL73 t73 => ?_)
    have J164 : ∀ (l4_164 : Int32) (S_164 : ZS), zV G 7 S_164 0 0 164 [(0, .ref a0), (2, .int t9.2.1), (3, .int t9.2.2.1), (4, .int l4_164)] [] (C73 (fX6_shares_J164 a0 t9.2.1 t9.2.2.1 l4_164 S_164)) := by
      intro l4_164 S_164
      unfold fX6_shares_J164
      refine zr_iinc (1 : Int32) [(0, .ref a0), (2, .int t9.2.1), (3, .int t9.2.2.1), (4, .int (l4_164 + (1 : Int32)))] h0 dX6_shares_164 rfl (by decide) rfl rfl (n := 167) rfl ?_
      refine zr_goto (tgt := 73) h0 dX6_shares_167 (by decide) ?_
      exact hL73 (l4_164 + (1 : Int32), S_164)
    unfold fX6_shares_B73
    refine zr_iload h0 dX6_shares_73 rfl (n := 75) rfl ?_
    refine zr_aload_n h0 dX6_shares_75 rfl (n := 76) rfl ?_
    refine zr_getI C73 hC73 h0 zcX6 (k := 17) (by decide) zw_836 dX6_shares_76 (n := 79) rfl (fun v33 => ?_)
    refine zr_icmp_ge C73 (tgt := 170) h0 dX6_shares_79 (by decide) (n := 82) rfl ?_ ?_
    · refine zr_ex hX73 ?_
      refine zv_sub (lv' := [(0, .ref a0), (2, .int t9.2.1)]) ?_ (zsub_of [0, 1] rfl)
      exact J170 a0 t9.2.1 t73.2
    · refine zr_iload_n h0 dX6_shares_82 rfl (n := 83) rfl ?_
      refine zr_iconst (-1 : Int32) h0 (by decide) dX6_shares_83 (n := 84) rfl ?_
      refine zr_icmp_eq C73 (tgt := 170) h0 dX6_shares_84 (by decide) (n := 87) rfl ?_ ?_
      · refine zr_ex hX73 ?_
        refine zv_sub (lv' := [(0, .ref a0), (2, .int t9.2.1)]) ?_ (zsub_of [0, 1] rfl)
        exact J170 a0 t9.2.1 t73.2
      · refine zr_aload_n h0 dX6_shares_87 rfl (n := 88) rfl ?_
        refine zr_getR C73 hC73 h0 zcX6 (k := 16) (by decide) zw_835 dX6_shares_88 (n := 91) rfl (fun v34 => ?_)
        refine zr_sipush (128 : Int32) h0 (by decide) dX6_shares_91 (n := 94) rfl ?_
        refine zr_iload h0 dX6_shares_94 rfl (n := 96) rfl ?_
        refine zr_imul h0 dX6_shares_96 (n := 97) rfl ?_
        refine zr_iload_n h0 dX6_shares_97 rfl (n := 98) rfl ?_
        refine zr_iadd h0 dX6_shares_98 (n := 99) rfl ?_
        refine zr_baload C73 hC73 h0 dX6_shares_99 (n := 100) rfl (fun v35 => ?_)
        refine zr_if_eq C73 (tgt := 164) h0 dX6_shares_100 (by decide) (n := 103) rfl ?_ ?_
        · exact J164 t73.1 t73.2
        · refine zr_aload_n h0 dX6_shares_103 rfl (n := 104) rfl ?_
          refine zr_getR C73 hC73 h0 zcX6 (k := 16) (by decide) zw_835 dX6_shares_104 (n := 107) rfl (fun v36 => ?_)
          refine zr_sipush (128 : Int32) h0 (by decide) dX6_shares_107 (n := 110) rfl ?_
          refine zr_iload h0 dX6_shares_110 rfl (n := 112) rfl ?_
          refine zr_imul h0 dX6_shares_112 (n := 113) rfl ?_
          refine zr_iload_n h0 dX6_shares_113 rfl (n := 114) rfl ?_
          refine zr_iadd h0 dX6_shares_114 (n := 115) rfl ?_
          refine zr_baload C73 hC73 h0 dX6_shares_115 (n := 116) rfl (fun v37 => ?_)
          refine zr_if_eq C73 (tgt := 164) h0 dX6_shares_116 (by decide) (n := 119) rfl ?_ ?_
          · exact J164 t73.1 t73.2
          · refine zr_aload_n h0 dX6_shares_119 rfl (n := 120) rfl ?_
            refine zr_getR C73 hC73 h0 zcX6 (k := 16) (by decide) zw_835 dX6_shares_120 (n := 123) rfl (fun v38 => ?_)
            refine zr_sipush (128 : Int32) h0 (by decide) dX6_shares_123 (n := 126) rfl ?_
            refine zr_iload h0 dX6_shares_126 rfl (n := 128) rfl ?_
            refine zr_imul h0 dX6_shares_128 (n := 129) rfl ?_
            refine zr_iload_n h0 dX6_shares_129 rfl (n := 130) rfl ?_
            refine zr_iadd h0 dX6_shares_130 (n := 131) rfl ?_
            refine zr_iconst (0 : Int32) h0 (by decide) dX6_shares_131 (n := 132) rfl ?_
            refine zr_bastore C73 hC73 h0 dX6_shares_132 (n := 133) rfl (fun S39 => ?_)
            refine zr_aload_n h0 dX6_shares_133 rfl (n := 134) rfl ?_
            refine zr_getR C73 hC73 h0 zcX6 (k := 16) (by decide) zw_835 dX6_shares_134 (n := 137) rfl (fun v40 => ?_)
            refine zr_sipush (128 : Int32) h0 (by decide) dX6_shares_137 (n := 140) rfl ?_
            refine zr_iload h0 dX6_shares_140 rfl (n := 142) rfl ?_
            refine zr_imul h0 dX6_shares_142 (n := 143) rfl ?_
            refine zr_iload_n h0 dX6_shares_143 rfl (n := 144) rfl ?_
            refine zr_iadd h0 dX6_shares_144 (n := 145) rfl ?_
            refine zr_iconst (0 : Int32) h0 (by decide) dX6_shares_145 (n := 146) rfl ?_
            refine zr_bastore C73 hC73 h0 dX6_shares_146 (n := 147) rfl (fun S41 => ?_)
            refine zr_aload_n h0 dX6_shares_147 rfl (n := 148) rfl ?_
            refine zr_getR C73 hC73 h0 zcX6 (k := 16) (by decide) zw_835 dX6_shares_148 (n := 151) rfl (fun v42 => ?_)
            refine zr_sipush (128 : Int32) h0 (by decide) dX6_shares_151 (n := 154) rfl ?_
            refine zr_iload h0 dX6_shares_154 rfl (n := 156) rfl ?_
            refine zr_imul h0 dX6_shares_156 (n := 157) rfl ?_
            refine zr_aload_n h0 dX6_shares_157 rfl (n := 158) rfl ?_
            refine zr_getI C73 hC73 h0 zcX6 (k := 18) (by decide) zw_837 dX6_shares_158 (n := 161) rfl (fun v43 => ?_)
            refine zr_iadd h0 dX6_shares_161 (n := 162) rfl ?_
            refine zr_iconst (1 : Int32) h0 (by decide) dX6_shares_162 (n := 163) rfl ?_
            refine zr_bastore C73 hC73 h0 dX6_shares_163 (n := 164) rfl (fun S44 => ?_)
            exact J164 t73.1 S44
  · refine zr_iload h0 dX6_shares_18 rfl (n := 20) rfl ?_
    refine zr_iconst (1 : Int32) h0 (by decide) dX6_shares_20 (n := 21) rfl ?_
    refine zr_iadd h0 dX6_shares_21 (n := 22) rfl ?_
    refine zr_istore [(0, .ref a0), (1, .int t9.1), (2, .int t9.2.1), (3, .int t9.2.2.1), (4, .int t9.2.2.2), (5, .int (t9.2.2.2 + (1 : Int32)))] h0 dX6_shares_22 (by decide) rfl (n := 24) rfl ?_
    refine zr_loop hC9 (fX6_shares_B24 a0 t9.2.2.2 S) (fun y => [(0, .ref a0), (1, .int y.1), (2, .int y.2.1), (3, .int y.2.2.1), (4, .int t9.2.2.2), (5, .int y.2.2.2)]) (fun y => S) zF (t9.1, t9.2.1, t9.2.2.1, t9.2.2.2 + (1 : Int32)) (fun C24 hC24 hX24 hL24 t24 => ?_)
    have J58 : ∀ (l1_58 : Int32) (l2_58 : Int32) (l3_58 : Int32) (l5_58 : Int32), zV G 7 S 0 0 58 [(0, .ref a0), (1, .int l1_58), (2, .int l2_58), (3, .int l3_58), (4, .int t9.2.2.2), (5, .int l5_58)] [] (C24 (fX6_shares_J58 a0 l1_58 l2_58 l3_58 t9.2.2.2 l5_58 S)) := by
      intro l1_58 l2_58 l3_58 l5_58
      unfold fX6_shares_J58
      refine zr_iinc (1 : Int32) [(0, .ref a0), (1, .int l1_58), (2, .int l2_58), (3, .int l3_58), (4, .int t9.2.2.2), (5, .int (l5_58 + (1 : Int32)))] h0 dX6_shares_58 rfl (by decide) rfl rfl (n := 61) rfl ?_
      refine zr_goto (tgt := 24) h0 dX6_shares_61 (by decide) ?_
      exact hL24 (l1_58, l2_58, l3_58, l5_58 + (1 : Int32))
    unfold fX6_shares_B24
    refine zr_iload h0 dX6_shares_24 rfl (n := 26) rfl ?_
    refine zr_aload_n h0 dX6_shares_26 rfl (n := 27) rfl ?_
    refine zr_getI C24 hC24 h0 zcX6 (k := 18) (by decide) zw_837 dX6_shares_27 (n := 30) rfl (fun v45 => ?_)
    refine zr_icmp_ge C24 (tgt := 64) h0 dX6_shares_30 (by decide) (n := 33) rfl ?_ ?_
    · refine zr_ex hX24 ?_
      refine zv_sub (lv' := [(0, .ref a0), (1, .int t24.1), (2, .int t24.2.1), (3, .int t24.2.2.1), (4, .int t9.2.2.2)]) ?_ (zsub_of [0, 1, 2, 3, 4] rfl)
      refine zr_iinc (1 : Int32) [(0, .ref a0), (1, .int t24.1), (2, .int t24.2.1), (3, .int t24.2.2.1), (4, .int (t9.2.2.2 + (1 : Int32)))] h0 dX6_shares_64 rfl (by decide) rfl rfl (n := 67) rfl ?_
      refine zr_goto (tgt := 9) h0 dX6_shares_67 (by decide) ?_
      exact hL9 (t24.1, t24.2.1, t24.2.2.1, t9.2.2.2 + (1 : Int32))
    · refine zr_aload_n h0 dX6_shares_33 rfl (n := 34) rfl ?_
      refine zr_iload h0 dX6_shares_34 rfl (n := 36) rfl ?_
      refine zr_iload h0 dX6_shares_36 rfl (n := 38) rfl ?_
      refine zr_cRI C24 hC24 0 0 (fun x hx => zk_V h0 zcX6 (zcl_ex hx) (fun l D z0 => kX6_common l D z0 a0 t9.2.2.2 t24.2.2.2 S x (zcl_of hx)) zw_1114 zw_1116 zs_66 zw_5 zw_1117 rfl zyX6_common (As := [.int t9.2.2.2, .int t24.2.2.2]) (st := []) rfl (by decide) rfl (Nat.le_of_ble_eq_true rfl) (by decide) dX6_shares_38) rfl rfl (n := 41) rfl (fun x46 => ?_)
      refine zr_istore [(0, .ref a0), (1, .int t24.1), (2, .int t24.2.1), (3, .int t24.2.2.1), (4, .int t9.2.2.2), (5, .int t24.2.2.2), (6, .int x46)] h0 dX6_shares_41 (by decide) rfl (n := 43) rfl ?_
      refine zr_iload h0 dX6_shares_43 rfl (n := 45) rfl ?_
      refine zr_iload_n h0 dX6_shares_45 rfl (n := 46) rfl ?_
      refine zr_icmp_le C24 (tgt := 58) h0 dX6_shares_46 (by decide) (n := 49) rfl ?_ ?_
      · refine zv_sub (lv' := [(0, .ref a0), (1, .int t24.1), (2, .int t24.2.1), (3, .int t24.2.2.1), (4, .int t9.2.2.2), (5, .int t24.2.2.2)]) ?_ (zsub_of [0, 1, 2, 3, 4, 5] rfl)
        exact J58 t24.1 t24.2.1 t24.2.2.1 t24.2.2.2
      · refine zv_sub (lv' := [(0, .ref a0), (4, .int t9.2.2.2), (5, .int t24.2.2.2), (6, .int x46)]) ?_ (zsub_of [0, 4, 5, 6] rfl)
        refine zr_iload h0 dX6_shares_49 rfl (n := 51) rfl ?_
        refine zr_istore_n [(0, .ref a0), (1, .int x46), (4, .int t9.2.2.2), (5, .int t24.2.2.2), (6, .int x46)] h0 dX6_shares_51 (by decide) rfl (n := 52) rfl ?_
        refine zr_iload h0 dX6_shares_52 rfl (n := 54) rfl ?_
        refine zr_istore_n [(0, .ref a0), (1, .int x46), (2, .int t9.2.2.2), (4, .int t9.2.2.2), (5, .int t24.2.2.2), (6, .int x46)] h0 dX6_shares_54 (by decide) rfl (n := 55) rfl ?_
        refine zr_iload h0 dX6_shares_55 rfl (n := 57) rfl ?_
        refine zr_istore_n [(0, .ref a0), (1, .int x46), (2, .int t9.2.2.2), (3, .int t24.2.2.2), (4, .int t9.2.2.2), (5, .int t24.2.2.2), (6, .int x46)] h0 dX6_shares_57 (by decide) rfl (n := 58) rfl ?_
        refine zv_sub (lv' := [(0, .ref a0), (1, .int x46), (2, .int t9.2.2.2), (3, .int t24.2.2.2), (4, .int t9.2.2.2), (5, .int t24.2.2.2)]) ?_ (zsub_of [0, 1, 2, 3, 4, 5] rfl)
        exact J58 x46 t9.2.2.2 t24.2.2.2 t24.2.2.2
theorem kX6_shares (l : Launch) (D : ZD) (z0 : Nat) (a0 : Nat) (S : ZS) (x : Int32 × ZS) (hf : fX6_shares a0 S = some x) : zMet l D z0 yX6_shares cX6_shares 7 (some .boolean) rmX6_shares [.ref a0] S (some (.int x.1)) x.2 :=
  zMet_of (by decide) (Nat.le_of_ble_eq_true rfl) (fun G h0 hini hE => wX6_shares a0 S h0 (fun o => o = some x) (fun h => nomatch h) (fun v S1 h => by cases h; exact hE)) hf
theorem dX6_additions_0 : decode cX6_additions 0 = .ok (.iconst 0, 1) := by decide +kernel
theorem dX6_additions_1 : decode cX6_additions 1 = .ok (.istore_n 3, 1) := by decide +kernel
theorem dX6_additions_2 : decode cX6_additions 2 = .ok (.iconst 0, 1) := by decide +kernel
theorem dX6_additions_3 : decode cX6_additions 3 = .ok (.istore 4, 2) := by decide +kernel
theorem dX6_additions_5 : decode cX6_additions 5 = .ok (.iload 4, 2) := by decide +kernel
theorem dX6_additions_7 : decode cX6_additions 7 = .ok (.iconst 3, 1) := by decide +kernel
theorem dX6_additions_8 : decode cX6_additions 8 = .ok (.if_icmp .ge 40, 3) := by decide +kernel
theorem dX6_additions_11 : decode cX6_additions 11 = .ok (.aload_n 0, 1) := by decide +kernel
theorem dX6_additions_12 : decode cX6_additions 12 = .ok (.iload_n 1, 1) := by decide +kernel
theorem dX6_additions_13 : decode cX6_additions 13 = .ok (.iload 4, 2) := by decide +kernel
theorem dX6_additions_15 : decode cX6_additions 15 = .ok (.invokevirtual 181, 3) := by decide +kernel
theorem dX6_additions_18 : decode cX6_additions 18 = .ok (.iload_n 2, 1) := by decide +kernel
theorem dX6_additions_19 : decode cX6_additions 19 = .ok (.ifCond .eq 16, 3) := by decide +kernel
theorem dX6_additions_22 : decode cX6_additions 22 = .ok (.aload_n 0, 1) := by decide +kernel
theorem dX6_additions_23 : decode cX6_additions 23 = .ok (.invokevirtual 184, 3) := by decide +kernel
theorem dX6_additions_26 : decode cX6_additions 26 = .ok (.ifCond .eq 9, 3) := by decide +kernel
theorem dX6_additions_29 : decode cX6_additions 29 = .ok (.iinc 3 1, 3) := by decide +kernel
theorem dX6_additions_32 : decode cX6_additions 32 = .ok (.goto (-14), 3) := by decide +kernel
theorem dX6_additions_35 : decode cX6_additions 35 = .ok (.iload_n 3, 1) := by decide +kernel
theorem dX6_additions_36 : decode cX6_additions 36 = .ok (.aload_n 0, 1) := by decide +kernel
theorem dX6_additions_37 : decode cX6_additions 37 = .ok (.invokevirtual 188, 3) := by decide +kernel
theorem dX6_additions_40 : decode cX6_additions 40 = .ok (.iadd, 1) := by decide +kernel
theorem dX6_additions_41 : decode cX6_additions 41 = .ok (.istore_n 3, 1) := by decide +kernel
theorem dX6_additions_42 : decode cX6_additions 42 = .ok (.iinc 4 1, 3) := by decide +kernel
theorem dX6_additions_45 : decode cX6_additions 45 = .ok (.goto (-40), 3) := by decide +kernel
theorem dX6_additions_48 : decode cX6_additions 48 = .ok (.iload_n 3, 1) := by decide +kernel
theorem dX6_additions_49 : decode cX6_additions 49 = .ok (.ireturn, 1) := by decide +kernel
abbrev rmX6_additions : Room := { frames := 3, cells := 0, slots := 0, locals := 70 }
theorem zyX6_additions : zyOK yX6_additions 2 := ⟨by decide +kernel, by decide +kernel, by decide +kernel⟩
set_option maxHeartbeats 4000000 in
set_option maxRecDepth 100000 in
theorem wX6_additions {G : ZG} (a0 : Nat) (a1 : Int32) (a2 : Int32) (S : ZS) (h0 : zFix G cX6_additions RX6 5 (some .int) rmX6_additions) (C : Option (Int32 × ZS) → Prop) (hC : ¬ C none) (hE : ∀ (v : Int32) (S1 : ZS), C (some (v, S1)) → zEnd G (some (.int v)) S1 rmX6_additions) : zV G 5 S 0 0 0 [(0, .ref a0), (1, .int a1), (2, .int a2)] [] (C (fX6_additions a0 a1 a2 S)) := by
  unfold fX6_additions
  refine zr_iconst (0 : Int32) h0 (by decide) dX6_additions_0 (n := 1) rfl ?_
  refine zr_istore_n [(0, .ref a0), (1, .int a1), (2, .int a2), (3, .int (0 : Int32))] h0 dX6_additions_1 (by decide) rfl (n := 2) rfl ?_
  refine zr_iconst (0 : Int32) h0 (by decide) dX6_additions_2 (n := 3) rfl ?_
  refine zr_istore [(0, .ref a0), (1, .int a1), (2, .int a2), (3, .int (0 : Int32)), (4, .int (0 : Int32))] h0 dX6_additions_3 (by decide) rfl (n := 5) rfl ?_
  refine zr_loop hC (fX6_additions_B5 a0 a1 a2) (fun y => [(0, .ref a0), (1, .int a1), (2, .int a2), (3, .int y.1), (4, .int y.2.1)]) (fun y => y.2.2) zF ((0 : Int32), (0 : Int32), S) (fun C5 hC5 hX5 hL5 t5 => ?_)
  have J35 : ∀ (l3_35 : Int32) (l4_35 : Int32) (S_35 : ZS), zV G 5 S_35 0 0 35 [(0, .ref a0), (1, .int a1), (2, .int a2), (3, .int l3_35), (4, .int l4_35)] [] (C5 (fX6_additions_J35 a0 a1 a2 l3_35 l4_35 S_35)) := by
    intro l3_35 l4_35 S_35
    unfold fX6_additions_J35
    refine zr_iload_n h0 dX6_additions_35 rfl (n := 36) rfl ?_
    refine zr_aload_n h0 dX6_additions_36 rfl (n := 37) rfl ?_
    refine zr_cRI C5 hC5 0 0 (fun x hx => zk_V h0 zcX6 (zcl_ex hx) (fun l D z0 => kX6_additionsOf l D z0 a0 S_35 x (zcl_of hx)) zw_1118 zw_1120 zs_67 zw_5 zw_1121 rfl zyX6_additionsOf (As := []) (st := [.int l3_35]) rfl (by decide) rfl (Nat.le_of_ble_eq_true rfl) (by decide) dX6_additions_37) rfl rfl (n := 40) rfl (fun x5 => ?_)
    refine zr_iadd h0 dX6_additions_40 (n := 41) rfl ?_
    refine zr_istore_n [(0, .ref a0), (1, .int a1), (2, .int a2), (3, .int (l3_35 + x5)), (4, .int l4_35)] h0 dX6_additions_41 (by decide) rfl (n := 42) rfl ?_
    refine zr_iinc (1 : Int32) [(0, .ref a0), (1, .int a1), (2, .int a2), (3, .int (l3_35 + x5)), (4, .int (l4_35 + (1 : Int32)))] h0 dX6_additions_42 rfl (by decide) rfl rfl (n := 45) rfl ?_
    refine zr_goto (tgt := 5) h0 dX6_additions_45 (by decide) ?_
    exact hL5 (l3_35 + x5, l4_35 + (1 : Int32), S_35)
  unfold fX6_additions_B5
  refine zr_iload h0 dX6_additions_5 rfl (n := 7) rfl ?_
  refine zr_iconst (3 : Int32) h0 (by decide) dX6_additions_7 (n := 8) rfl ?_
  refine zr_icmp_ge C5 (tgt := 48) h0 dX6_additions_8 (by decide) (n := 11) rfl ?_ ?_
  · refine zr_ex hX5 ?_
    refine zv_sub (lv' := [(3, .int t5.1)]) ?_ (zsub_of [3] rfl)
    refine zr_iload_n h0 dX6_additions_48 rfl (n := 49) rfl ?_
    exact zr_iret h0 rfl dX6_additions_49 (hE _ _) (by decide) (by decide)
  · refine zr_aload_n h0 dX6_additions_11 rfl (n := 12) rfl ?_
    refine zr_iload_n h0 dX6_additions_12 rfl (n := 13) rfl ?_
    refine zr_iload h0 dX6_additions_13 rfl (n := 15) rfl ?_
    refine zr_cMV C5 hC5 0 0 (fun x hx => zk_V h0 zcX6 (zcl_ex hx) (fun l D z0 => kX6_laySets l D z0 a0 a1 t5.2.1 t5.2.2 x (zcl_of hx)) zw_1106 zw_1108 zs_64 zw_5 zw_1109 rfl zyX6_laySets (As := [.int a1, .int t5.2.1]) (st := []) rfl (by decide) rfl (Nat.le_of_ble_eq_true rfl) (by decide) dX6_additions_15) rfl rfl (n := 18) rfl (fun x6 => ?_)
    refine zr_loop hC5 (fX6_additions_B18 a0 a1 a2 t5.2.1) (fun y => [(0, .ref a0), (1, .int a1), (2, .int a2), (3, .int y.1), (4, .int t5.2.1)]) (fun y => y.2) zF (t5.1, x6) (fun C18 hC18 hX18 hL18 t18 => ?_)
    unfold fX6_additions_B18
    refine zr_iload_n h0 dX6_additions_18 rfl (n := 19) rfl ?_
    refine zr_if_eq C18 (tgt := 35) h0 dX6_additions_19 (by decide) (n := 22) rfl ?_ ?_
    · refine zr_ex hX18 ?_
      exact J35 t18.1 t5.2.1 t18.2
    · refine zr_aload_n h0 dX6_additions_22 rfl (n := 23) rfl ?_
      refine zr_cMI C18 hC18 0 0 (fun x hx => zk_V h0 zcX6 (zcl_ex hx) (fun l D z0 => kX6_shares l D z0 a0 t18.2 x (zcl_of hx)) zw_1110 zw_1112 zs_65 zw_5 zw_1113 rfl zyX6_shares (As := []) (st := []) rfl (by decide) rfl (Nat.le_of_ble_eq_true rfl) (by decide) dX6_additions_23) rfl rfl (n := 26) rfl (fun x7 => ?_)
      refine zr_if_eq C18 (tgt := 35) h0 dX6_additions_26 (by decide) (n := 29) rfl ?_ ?_
      · refine zr_ex hX18 ?_
        exact J35 t18.1 t5.2.1 x7.2
      · refine zr_iinc (1 : Int32) [(0, .ref a0), (1, .int a1), (2, .int a2), (3, .int (t18.1 + (1 : Int32))), (4, .int t5.2.1)] h0 dX6_additions_29 rfl (by decide) rfl rfl (n := 32) rfl ?_
        refine zr_goto (tgt := 18) h0 dX6_additions_32 (by decide) ?_
        exact hL18 (t18.1 + (1 : Int32), x7.2)
theorem kX6_additions (l : Launch) (D : ZD) (z0 : Nat) (a0 : Nat) (a1 : Int32) (a2 : Int32) (S : ZS) (x : Int32 × ZS) (hf : fX6_additions a0 a1 a2 S = some x) : zMet l D z0 yX6_additions cX6_additions 5 (some .int) rmX6_additions [.ref a0, .int a1, .int a2] S (some (.int x.1)) x.2 :=
  zMet_of (by decide) (Nat.le_of_ble_eq_true rfl) (fun G h0 hini hE => wX6_additions a0 a1 a2 S h0 (fun o => o = some x) (fun h => nomatch h) (fun v S1 h => by cases h; exact hE)) hf
theorem dX6_numbers_0 : decode cX6_numbers 0 = .ok (.iconst 0, 1) := by decide +kernel
theorem dX6_numbers_1 : decode cX6_numbers 1 = .ok (.istore 4, 2) := by decide +kernel
theorem dX6_numbers_3 : decode cX6_numbers 3 = .ok (.iconst 0, 1) := by decide +kernel
theorem dX6_numbers_4 : decode cX6_numbers 4 = .ok (.istore 5, 2) := by decide +kernel
theorem dX6_numbers_6 : decode cX6_numbers 6 = .ok (.iload 5, 2) := by decide +kernel
theorem dX6_numbers_8 : decode cX6_numbers 8 = .ok (.aload_n 0, 1) := by decide +kernel
theorem dX6_numbers_9 : decode cX6_numbers 9 = .ok (.getfield 23, 3) := by decide +kernel
theorem dX6_numbers_12 : decode cX6_numbers 12 = .ok (.iconst 3, 1) := by decide +kernel
theorem dX6_numbers_13 : decode cX6_numbers 13 = .ok (.iload_n 1, 1) := by decide +kernel
theorem dX6_numbers_14 : decode cX6_numbers 14 = .ok (.imul, 1) := by decide +kernel
theorem dX6_numbers_15 : decode cX6_numbers 15 = .ok (.iload_n 3, 1) := by decide +kernel
theorem dX6_numbers_16 : decode cX6_numbers 16 = .ok (.iadd, 1) := by decide +kernel
theorem dX6_numbers_17 : decode cX6_numbers 17 = .ok (.iaload, 1) := by decide +kernel
theorem dX6_numbers_18 : decode cX6_numbers 18 = .ok (.if_icmp .ge 36, 3) := by decide +kernel
theorem dX6_numbers_21 : decode cX6_numbers 21 = .ok (.iload 4, 2) := by decide +kernel
theorem dX6_numbers_23 : decode cX6_numbers 23 = .ok (.aload_n 0, 1) := by decide +kernel
theorem dX6_numbers_24 : decode cX6_numbers 24 = .ok (.getfield 35, 3) := by decide +kernel
theorem dX6_numbers_27 : decode cX6_numbers 27 = .ok (.iload_n 1, 1) := by decide +kernel
theorem dX6_numbers_28 : decode cX6_numbers 28 = .ok (.iload_n 2, 1) := by decide +kernel
theorem dX6_numbers_29 : decode cX6_numbers 29 = .ok (.iload_n 3, 1) := by decide +kernel
theorem dX6_numbers_30 : decode cX6_numbers 30 = .ok (.invokestatic 96, 3) := by decide +kernel
theorem dX6_numbers_33 : decode cX6_numbers 33 = .ok (.iload 5, 2) := by decide +kernel
theorem dX6_numbers_35 : decode cX6_numbers 35 = .ok (.iadd, 1) := by decide +kernel
theorem dX6_numbers_36 : decode cX6_numbers 36 = .ok (.iaload, 1) := by decide +kernel
theorem dX6_numbers_37 : decode cX6_numbers 37 = .ok (.ifCond .eq 7, 3) := by decide +kernel
theorem dX6_numbers_40 : decode cX6_numbers 40 = .ok (.iconst 1, 1) := by decide +kernel
theorem dX6_numbers_41 : decode cX6_numbers 41 = .ok (.goto 4, 3) := by decide +kernel
theorem dX6_numbers_44 : decode cX6_numbers 44 = .ok (.iconst 0, 1) := by decide +kernel
theorem dX6_numbers_45 : decode cX6_numbers 45 = .ok (.iadd, 1) := by decide +kernel
theorem dX6_numbers_46 : decode cX6_numbers 46 = .ok (.istore 4, 2) := by decide +kernel
theorem dX6_numbers_48 : decode cX6_numbers 48 = .ok (.iinc 5 1, 3) := by decide +kernel
theorem dX6_numbers_51 : decode cX6_numbers 51 = .ok (.goto (-45), 3) := by decide +kernel
theorem dX6_numbers_54 : decode cX6_numbers 54 = .ok (.iload 4, 2) := by decide +kernel
theorem dX6_numbers_56 : decode cX6_numbers 56 = .ok (.ireturn, 1) := by decide +kernel
abbrev rmX6_numbers : Room := { frames := 2, cells := 0, slots := 0, locals := 42 }
theorem zyX6_numbers : zyOK yX6_numbers 3 := ⟨by decide +kernel, by decide +kernel, by decide +kernel⟩
set_option maxHeartbeats 4000000 in
set_option maxRecDepth 100000 in
theorem wX6_numbers {G : ZG} (a0 : Nat) (a1 : Int32) (a2 : Int32) (a3 : Int32) (S : ZS) (h0 : zFix G cX6_numbers RX6 6 (some .int) rmX6_numbers) (C : Option Int32 → Prop) (hC : ¬ C none) (hE : ∀ v : Int32, C (some v) → zEnd G (some (.int v)) S rmX6_numbers) : zV G 6 S 0 0 0 [(0, .ref a0), (1, .int a1), (2, .int a2), (3, .int a3)] [] (C (fX6_numbers a0 a1 a2 a3 S)) := by
  unfold fX6_numbers
  refine zr_iconst (0 : Int32) h0 (by decide) dX6_numbers_0 (n := 1) rfl ?_
  refine zr_istore [(0, .ref a0), (1, .int a1), (2, .int a2), (3, .int a3), (4, .int (0 : Int32))] h0 dX6_numbers_1 (by decide) rfl (n := 3) rfl ?_
  refine zr_iconst (0 : Int32) h0 (by decide) dX6_numbers_3 (n := 4) rfl ?_
  refine zr_istore [(0, .ref a0), (1, .int a1), (2, .int a2), (3, .int a3), (4, .int (0 : Int32)), (5, .int (0 : Int32))] h0 dX6_numbers_4 (by decide) rfl (n := 6) rfl ?_
  refine zr_loop hC (fX6_numbers_B6 a0 a1 a2 a3 S) (fun y => [(0, .ref a0), (1, .int a1), (2, .int a2), (3, .int a3), (4, .int y.1), (5, .int y.2)]) (fun y => S) zF ((0 : Int32), (0 : Int32)) (fun C6 hC6 hX6 hL6 t6 => ?_)
  have J45 : ∀ (l5_45 : Int32) (s0_45 : Int32) (s1_45 : Int32), zV G 6 S 0 0 45 [(0, .ref a0), (1, .int a1), (2, .int a2), (3, .int a3), (5, .int l5_45)] [.int s1_45, .int s0_45] (C6 (fX6_numbers_J45 a0 a1 a2 a3 l5_45 s0_45 s1_45 S)) := by
    intro l5_45 s0_45 s1_45
    unfold fX6_numbers_J45
    refine zr_iadd h0 dX6_numbers_45 (n := 46) rfl ?_
    refine zr_istore [(0, .ref a0), (1, .int a1), (2, .int a2), (3, .int a3), (4, .int (s0_45 + s1_45)), (5, .int l5_45)] h0 dX6_numbers_46 (by decide) rfl (n := 48) rfl ?_
    refine zr_iinc (1 : Int32) [(0, .ref a0), (1, .int a1), (2, .int a2), (3, .int a3), (4, .int (s0_45 + s1_45)), (5, .int (l5_45 + (1 : Int32)))] h0 dX6_numbers_48 rfl (by decide) rfl rfl (n := 51) rfl ?_
    refine zr_goto (tgt := 6) h0 dX6_numbers_51 (by decide) ?_
    exact hL6 (s0_45 + s1_45, l5_45 + (1 : Int32))
  unfold fX6_numbers_B6
  refine zr_iload h0 dX6_numbers_6 rfl (n := 8) rfl ?_
  refine zr_aload_n h0 dX6_numbers_8 rfl (n := 9) rfl ?_
  refine zr_getR C6 hC6 h0 zcX6 (k := 7) (by decide) zw_826 dX6_numbers_9 (n := 12) rfl (fun v6 => ?_)
  refine zr_iconst (3 : Int32) h0 (by decide) dX6_numbers_12 (n := 13) rfl ?_
  refine zr_iload_n h0 dX6_numbers_13 rfl (n := 14) rfl ?_
  refine zr_imul h0 dX6_numbers_14 (n := 15) rfl ?_
  refine zr_iload_n h0 dX6_numbers_15 rfl (n := 16) rfl ?_
  refine zr_iadd h0 dX6_numbers_16 (n := 17) rfl ?_
  refine zr_iaload C6 hC6 h0 dX6_numbers_17 (n := 18) rfl (fun v7 => ?_)
  refine zr_icmp_ge C6 (tgt := 54) h0 dX6_numbers_18 (by decide) (n := 21) rfl ?_ ?_
  · refine zr_ex hX6 ?_
    refine zv_sub (lv' := [(4, .int t6.1)]) ?_ (zsub_of [4] rfl)
    refine zr_iload h0 dX6_numbers_54 rfl (n := 56) rfl ?_
    exact zr_iret h0 rfl dX6_numbers_56 (hE _) (by decide) (by decide)
  · refine zr_iload h0 dX6_numbers_21 rfl (n := 23) rfl ?_
    refine zr_aload_n h0 dX6_numbers_23 rfl (n := 24) rfl ?_
    refine zr_getR C6 hC6 h0 zcX6 (k := 11) (by decide) zw_830 dX6_numbers_24 (n := 27) rfl (fun v8 => ?_)
    refine zr_iload_n h0 dX6_numbers_27 rfl (n := 28) rfl ?_
    refine zr_iload_n h0 dX6_numbers_28 rfl (n := 29) rfl ?_
    refine zr_iload_n h0 dX6_numbers_29 rfl (n := 30) rfl ?_
    refine zr_cRI C6 hC6 0 0 (fun x hx => zk_S h0 (fun l D z0 => kX6_from l D z0 a1 a2 a3 S x hx) zw_974 zw_975 zw_5 zw_976 zyX6_from (As := [.int a1, .int a2, .int a3]) (st := [.ref v8, .int t6.1]) rfl (by decide) rfl (Nat.le_of_ble_eq_true rfl) (by decide) dX6_numbers_30) rfl rfl (n := 33) rfl (fun x9 => ?_)
    refine zr_iload h0 dX6_numbers_33 rfl (n := 35) rfl ?_
    refine zr_iadd h0 dX6_numbers_35 (n := 36) rfl ?_
    refine zr_iaload C6 hC6 h0 dX6_numbers_36 (n := 37) rfl (fun v10 => ?_)
    refine zr_if_eq C6 (tgt := 44) h0 dX6_numbers_37 (by decide) (n := 40) rfl ?_ ?_
    · refine zv_sub (lv' := [(0, .ref a0), (1, .int a1), (2, .int a2), (3, .int a3), (5, .int t6.2)]) ?_ (zsub_of [0, 1, 2, 3, 5] rfl)
      refine zr_iconst (0 : Int32) h0 (by decide) dX6_numbers_44 (n := 45) rfl ?_
      exact J45 t6.2 t6.1 (0 : Int32)
    · refine zv_sub (lv' := [(0, .ref a0), (1, .int a1), (2, .int a2), (3, .int a3), (5, .int t6.2)]) ?_ (zsub_of [0, 1, 2, 3, 5] rfl)
      refine zr_iconst (1 : Int32) h0 (by decide) dX6_numbers_40 (n := 41) rfl ?_
      refine zr_goto (tgt := 45) h0 dX6_numbers_41 (by decide) ?_
      exact J45 t6.2 t6.1 (1 : Int32)
theorem kX6_numbers (l : Launch) (D : ZD) (z0 : Nat) (a0 : Nat) (a1 : Int32) (a2 : Int32) (a3 : Int32) (S : ZS) (x : Int32) (hf : fX6_numbers a0 a1 a2 a3 S = some x) : zMet l D z0 yX6_numbers cX6_numbers 6 (some .int) rmX6_numbers [.ref a0, .int a1, .int a2, .int a3] S (some (.int x)) S :=
  zMet_of (by decide) (Nat.le_of_ble_eq_true rfl) (fun G h0 hini hE => wX6_numbers a0 a1 a2 a3 S h0 (fun o => o = some x) (fun h => nomatch h) (fun v h => by cases h; exact hE)) hf
theorem dX6_growth_0 : decode cX6_growth 0 = .ok (.iconst 0, 1) := by decide +kernel
theorem dX6_growth_1 : decode cX6_growth 1 = .ok (.istore_n 2, 1) := by decide +kernel
theorem dX6_growth_2 : decode cX6_growth 2 = .ok (.iconst 0, 1) := by decide +kernel
theorem dX6_growth_3 : decode cX6_growth 3 = .ok (.istore_n 3, 1) := by decide +kernel
theorem dX6_growth_4 : decode cX6_growth 4 = .ok (.iload_n 3, 1) := by decide +kernel
theorem dX6_growth_5 : decode cX6_growth 5 = .ok (.aload_n 0, 1) := by decide +kernel
theorem dX6_growth_6 : decode cX6_growth 6 = .ok (.getfield 23, 3) := by decide +kernel
theorem dX6_growth_9 : decode cX6_growth 9 = .ok (.iconst 3, 1) := by decide +kernel
theorem dX6_growth_10 : decode cX6_growth 10 = .ok (.iload_n 1, 1) := by decide +kernel
theorem dX6_growth_11 : decode cX6_growth 11 = .ok (.imul, 1) := by decide +kernel
theorem dX6_growth_12 : decode cX6_growth 12 = .ok (.iconst 2, 1) := by decide +kernel
theorem dX6_growth_13 : decode cX6_growth 13 = .ok (.iadd, 1) := by decide +kernel
theorem dX6_growth_14 : decode cX6_growth 14 = .ok (.iaload, 1) := by decide +kernel
theorem dX6_growth_15 : decode cX6_growth 15 = .ok (.if_icmp .ge 88, 3) := by decide +kernel
theorem dX6_growth_18 : decode cX6_growth 18 = .ok (.iconst 0, 1) := by decide +kernel
theorem dX6_growth_19 : decode cX6_growth 19 = .ok (.istore 4, 2) := by decide +kernel
theorem dX6_growth_21 : decode cX6_growth 21 = .ok (.iconst 0, 1) := by decide +kernel
theorem dX6_growth_22 : decode cX6_growth 22 = .ok (.istore 5, 2) := by decide +kernel
theorem dX6_growth_24 : decode cX6_growth 24 = .ok (.iload 5, 2) := by decide +kernel
theorem dX6_growth_26 : decode cX6_growth 26 = .ok (.aload_n 0, 1) := by decide +kernel
theorem dX6_growth_27 : decode cX6_growth 27 = .ok (.getfield 32, 3) := by decide +kernel
theorem dX6_growth_30 : decode cX6_growth 30 = .ok (.iload_n 1, 1) := by decide +kernel
theorem dX6_growth_31 : decode cX6_growth 31 = .ok (.iaload, 1) := by decide +kernel
theorem dX6_growth_32 : decode cX6_growth 32 = .ok (.if_icmp .ge 52, 3) := by decide +kernel
theorem dX6_growth_35 : decode cX6_growth 35 = .ok (.iload 4, 2) := by decide +kernel
theorem dX6_growth_37 : decode cX6_growth 37 = .ok (.aload_n 0, 1) := by decide +kernel
theorem dX6_growth_38 : decode cX6_growth 38 = .ok (.getfield 35, 3) := by decide +kernel
theorem dX6_growth_41 : decode cX6_growth 41 = .ok (.iload_n 1, 1) := by decide +kernel
theorem dX6_growth_42 : decode cX6_growth 42 = .ok (.iload 5, 2) := by decide +kernel
theorem dX6_growth_44 : decode cX6_growth 44 = .ok (.iconst 2, 1) := by decide +kernel
theorem dX6_growth_45 : decode cX6_growth 45 = .ok (.invokestatic 96, 3) := by decide +kernel
theorem dX6_growth_48 : decode cX6_growth 48 = .ok (.iload_n 3, 1) := by decide +kernel
theorem dX6_growth_49 : decode cX6_growth 49 = .ok (.iadd, 1) := by decide +kernel
theorem dX6_growth_50 : decode cX6_growth 50 = .ok (.iaload, 1) := by decide +kernel
theorem dX6_growth_51 : decode cX6_growth 51 = .ok (.ifCond .eq 23, 3) := by decide +kernel
theorem dX6_growth_54 : decode cX6_growth 54 = .ok (.aload_n 0, 1) := by decide +kernel
theorem dX6_growth_55 : decode cX6_growth 55 = .ok (.iload_n 1, 1) := by decide +kernel
theorem dX6_growth_56 : decode cX6_growth 56 = .ok (.iload 5, 2) := by decide +kernel
theorem dX6_growth_58 : decode cX6_growth 58 = .ok (.iconst 0, 1) := by decide +kernel
theorem dX6_growth_59 : decode cX6_growth 59 = .ok (.invokevirtual 192, 3) := by decide +kernel
theorem dX6_growth_62 : decode cX6_growth 62 = .ok (.aload_n 0, 1) := by decide +kernel
theorem dX6_growth_63 : decode cX6_growth 63 = .ok (.iload_n 1, 1) := by decide +kernel
theorem dX6_growth_64 : decode cX6_growth 64 = .ok (.iload 5, 2) := by decide +kernel
theorem dX6_growth_66 : decode cX6_growth 66 = .ok (.iconst 1, 1) := by decide +kernel
theorem dX6_growth_67 : decode cX6_growth 67 = .ok (.invokevirtual 192, 3) := by decide +kernel
theorem dX6_growth_70 : decode cX6_growth 70 = .ok (.imul, 1) := by decide +kernel
theorem dX6_growth_71 : decode cX6_growth 71 = .ok (.goto 4, 3) := by decide +kernel
theorem dX6_growth_74 : decode cX6_growth 74 = .ok (.iconst 0, 1) := by decide +kernel
theorem dX6_growth_75 : decode cX6_growth 75 = .ok (.iadd, 1) := by decide +kernel
theorem dX6_growth_76 : decode cX6_growth 76 = .ok (.istore 4, 2) := by decide +kernel
theorem dX6_growth_78 : decode cX6_growth 78 = .ok (.iinc 5 1, 3) := by decide +kernel
theorem dX6_growth_81 : decode cX6_growth 81 = .ok (.goto (-57), 3) := by decide +kernel
theorem dX6_growth_84 : decode cX6_growth 84 = .ok (.iload 4, 2) := by decide +kernel
theorem dX6_growth_86 : decode cX6_growth 86 = .ok (.iload_n 2, 1) := by decide +kernel
theorem dX6_growth_87 : decode cX6_growth 87 = .ok (.if_icmp .le 8, 3) := by decide +kernel
theorem dX6_growth_90 : decode cX6_growth 90 = .ok (.iload 4, 2) := by decide +kernel
theorem dX6_growth_92 : decode cX6_growth 92 = .ok (.goto 4, 3) := by decide +kernel
theorem dX6_growth_95 : decode cX6_growth 95 = .ok (.iload_n 2, 1) := by decide +kernel
theorem dX6_growth_96 : decode cX6_growth 96 = .ok (.istore_n 2, 1) := by decide +kernel
theorem dX6_growth_97 : decode cX6_growth 97 = .ok (.iinc 3 1, 3) := by decide +kernel
theorem dX6_growth_100 : decode cX6_growth 100 = .ok (.goto (-96), 3) := by decide +kernel
theorem dX6_growth_103 : decode cX6_growth 103 = .ok (.iload_n 2, 1) := by decide +kernel
theorem dX6_growth_104 : decode cX6_growth 104 = .ok (.ireturn, 1) := by decide +kernel
abbrev rmX6_growth : Room := { frames := 3, cells := 0, slots := 0, locals := 67 }
theorem zyX6_growth : zyOK yX6_growth 1 := ⟨by decide +kernel, by decide +kernel, by decide +kernel⟩
set_option maxHeartbeats 4000000 in
set_option maxRecDepth 100000 in
theorem wX6_growth {G : ZG} (a0 : Nat) (a1 : Int32) (S : ZS) (h0 : zFix G cX6_growth RX6 6 (some .int) rmX6_growth) (C : Option Int32 → Prop) (hC : ¬ C none) (hE : ∀ v : Int32, C (some v) → zEnd G (some (.int v)) S rmX6_growth) : zV G 6 S 0 0 0 [(0, .ref a0), (1, .int a1)] [] (C (fX6_growth a0 a1 S)) := by
  unfold fX6_growth
  refine zr_iconst (0 : Int32) h0 (by decide) dX6_growth_0 (n := 1) rfl ?_
  refine zr_istore_n [(0, .ref a0), (1, .int a1), (2, .int (0 : Int32))] h0 dX6_growth_1 (by decide) rfl (n := 2) rfl ?_
  refine zr_iconst (0 : Int32) h0 (by decide) dX6_growth_2 (n := 3) rfl ?_
  refine zr_istore_n [(0, .ref a0), (1, .int a1), (2, .int (0 : Int32)), (3, .int (0 : Int32))] h0 dX6_growth_3 (by decide) rfl (n := 4) rfl ?_
  refine zr_loop hC (fX6_growth_B4 a0 a1 S) (fun y => [(0, .ref a0), (1, .int a1), (2, .int y.1), (3, .int y.2)]) (fun y => S) zF ((0 : Int32), (0 : Int32)) (fun C4 hC4 hX4 hL4 t4 => ?_)
  have J96 : ∀ (l3_96 : Int32) (s0_96 : Int32), zV G 6 S 0 0 96 [(0, .ref a0), (1, .int a1), (3, .int l3_96)] [.int s0_96] (C4 (fX6_growth_J96 a0 a1 l3_96 s0_96 S)) := by
    intro l3_96 s0_96
    unfold fX6_growth_J96
    refine zr_istore_n [(0, .ref a0), (1, .int a1), (2, .int s0_96), (3, .int l3_96)] h0 dX6_growth_96 (by decide) rfl (n := 97) rfl ?_
    refine zr_iinc (1 : Int32) [(0, .ref a0), (1, .int a1), (2, .int s0_96), (3, .int (l3_96 + (1 : Int32)))] h0 dX6_growth_97 rfl (by decide) rfl rfl (n := 100) rfl ?_
    refine zr_goto (tgt := 4) h0 dX6_growth_100 (by decide) ?_
    exact hL4 (s0_96, l3_96 + (1 : Int32))
  unfold fX6_growth_B4
  refine zr_iload_n h0 dX6_growth_4 rfl (n := 5) rfl ?_
  refine zr_aload_n h0 dX6_growth_5 rfl (n := 6) rfl ?_
  refine zr_getR C4 hC4 h0 zcX6 (k := 7) (by decide) zw_826 dX6_growth_6 (n := 9) rfl (fun v17 => ?_)
  refine zr_iconst (3 : Int32) h0 (by decide) dX6_growth_9 (n := 10) rfl ?_
  refine zr_iload_n h0 dX6_growth_10 rfl (n := 11) rfl ?_
  refine zr_imul h0 dX6_growth_11 (n := 12) rfl ?_
  refine zr_iconst (2 : Int32) h0 (by decide) dX6_growth_12 (n := 13) rfl ?_
  refine zr_iadd h0 dX6_growth_13 (n := 14) rfl ?_
  refine zr_iaload C4 hC4 h0 dX6_growth_14 (n := 15) rfl (fun v18 => ?_)
  refine zr_icmp_ge C4 (tgt := 103) h0 dX6_growth_15 (by decide) (n := 18) rfl ?_ ?_
  · refine zr_ex hX4 ?_
    refine zv_sub (lv' := [(2, .int t4.1)]) ?_ (zsub_of [2] rfl)
    refine zr_iload_n h0 dX6_growth_103 rfl (n := 104) rfl ?_
    exact zr_iret h0 rfl dX6_growth_104 (hE _) (by decide) (by decide)
  · refine zr_iconst (0 : Int32) h0 (by decide) dX6_growth_18 (n := 19) rfl ?_
    refine zr_istore [(0, .ref a0), (1, .int a1), (2, .int t4.1), (3, .int t4.2), (4, .int (0 : Int32))] h0 dX6_growth_19 (by decide) rfl (n := 21) rfl ?_
    refine zr_iconst (0 : Int32) h0 (by decide) dX6_growth_21 (n := 22) rfl ?_
    refine zr_istore [(0, .ref a0), (1, .int a1), (2, .int t4.1), (3, .int t4.2), (4, .int (0 : Int32)), (5, .int (0 : Int32))] h0 dX6_growth_22 (by decide) rfl (n := 24) rfl ?_
    refine zr_loop hC4 (fX6_growth_B24 a0 a1 t4.1 t4.2 S) (fun y => [(0, .ref a0), (1, .int a1), (2, .int t4.1), (3, .int t4.2), (4, .int y.1), (5, .int y.2)]) (fun y => S) zF ((0 : Int32), (0 : Int32)) (fun C24 hC24 hX24 hL24 t24 => ?_)
    have J75 : ∀ (l5_75 : Int32) (s0_75 : Int32) (s1_75 : Int32), zV G 6 S 0 0 75 [(0, .ref a0), (1, .int a1), (2, .int t4.1), (3, .int t4.2), (5, .int l5_75)] [.int s1_75, .int s0_75] (C24 (fX6_growth_J75 a0 a1 t4.1 t4.2 l5_75 s0_75 s1_75 S)) := by
      intro l5_75 s0_75 s1_75
      unfold fX6_growth_J75
      refine zr_iadd h0 dX6_growth_75 (n := 76) rfl ?_
      refine zr_istore [(0, .ref a0), (1, .int a1), (2, .int t4.1), (3, .int t4.2), (4, .int (s0_75 + s1_75)), (5, .int l5_75)] h0 dX6_growth_76 (by decide) rfl (n := 78) rfl ?_
      refine zr_iinc (1 : Int32) [(0, .ref a0), (1, .int a1), (2, .int t4.1), (3, .int t4.2), (4, .int (s0_75 + s1_75)), (5, .int (l5_75 + (1 : Int32)))] h0 dX6_growth_78 rfl (by decide) rfl rfl (n := 81) rfl ?_
      refine zr_goto (tgt := 24) h0 dX6_growth_81 (by decide) ?_
      exact hL24 (s0_75 + s1_75, l5_75 + (1 : Int32))
    unfold fX6_growth_B24
    refine zr_iload h0 dX6_growth_24 rfl (n := 26) rfl ?_
    refine zr_aload_n h0 dX6_growth_26 rfl (n := 27) rfl ?_
    refine zr_getR C24 hC24 h0 zcX6 (k := 10) (by decide) zw_829 dX6_growth_27 (n := 30) rfl (fun v19 => ?_)
    refine zr_iload_n h0 dX6_growth_30 rfl (n := 31) rfl ?_
    refine zr_iaload C24 hC24 h0 dX6_growth_31 (n := 32) rfl (fun v20 => ?_)
    refine zr_icmp_ge C24 (tgt := 84) h0 dX6_growth_32 (by decide) (n := 35) rfl ?_ ?_
    · refine zr_ex hX24 ?_
      refine zv_sub (lv' := [(0, .ref a0), (1, .int a1), (2, .int t4.1), (3, .int t4.2), (4, .int t24.1)]) ?_ (zsub_of [0, 1, 2, 3, 4] rfl)
      refine zr_iload h0 dX6_growth_84 rfl (n := 86) rfl ?_
      refine zr_iload_n h0 dX6_growth_86 rfl (n := 87) rfl ?_
      refine zr_icmp_le C4 (tgt := 95) h0 dX6_growth_87 (by decide) (n := 90) rfl ?_ ?_
      · refine zv_sub (lv' := [(0, .ref a0), (1, .int a1), (2, .int t4.1), (3, .int t4.2)]) ?_ (zsub_of [0, 1, 2, 3] rfl)
        refine zr_iload_n h0 dX6_growth_95 rfl (n := 96) rfl ?_
        refine zv_sub (lv' := [(0, .ref a0), (1, .int a1), (3, .int t4.2)]) ?_ (zsub_of [0, 1, 3] rfl)
        exact J96 t4.2 t4.1
      · refine zv_sub (lv' := [(0, .ref a0), (1, .int a1), (3, .int t4.2), (4, .int t24.1)]) ?_ (zsub_of [0, 1, 3, 4] rfl)
        refine zr_iload h0 dX6_growth_90 rfl (n := 92) rfl ?_
        refine zr_goto (tgt := 96) h0 dX6_growth_92 (by decide) ?_
        refine zv_sub (lv' := [(0, .ref a0), (1, .int a1), (3, .int t4.2)]) ?_ (zsub_of [0, 1, 2] rfl)
        exact J96 t4.2 t24.1
    · refine zr_iload h0 dX6_growth_35 rfl (n := 37) rfl ?_
      refine zr_aload_n h0 dX6_growth_37 rfl (n := 38) rfl ?_
      refine zr_getR C24 hC24 h0 zcX6 (k := 11) (by decide) zw_830 dX6_growth_38 (n := 41) rfl (fun v21 => ?_)
      refine zr_iload_n h0 dX6_growth_41 rfl (n := 42) rfl ?_
      refine zr_iload h0 dX6_growth_42 rfl (n := 44) rfl ?_
      refine zr_iconst (2 : Int32) h0 (by decide) dX6_growth_44 (n := 45) rfl ?_
      refine zr_cRI C24 hC24 0 0 (fun x hx => zk_S h0 (fun l D z0 => kX6_from l D z0 a1 t24.2 (2 : Int32) S x hx) zw_974 zw_975 zw_5 zw_976 zyX6_from (As := [.int a1, .int t24.2, .int (2 : Int32)]) (st := [.ref v21, .int t24.1]) rfl (by decide) rfl (Nat.le_of_ble_eq_true rfl) (by decide) dX6_growth_45) rfl rfl (n := 48) rfl (fun x22 => ?_)
      refine zr_iload_n h0 dX6_growth_48 rfl (n := 49) rfl ?_
      refine zr_iadd h0 dX6_growth_49 (n := 50) rfl ?_
      refine zr_iaload C24 hC24 h0 dX6_growth_50 (n := 51) rfl (fun v23 => ?_)
      refine zr_if_eq C24 (tgt := 74) h0 dX6_growth_51 (by decide) (n := 54) rfl ?_ ?_
      · refine zv_sub (lv' := [(0, .ref a0), (1, .int a1), (2, .int t4.1), (3, .int t4.2), (5, .int t24.2)]) ?_ (zsub_of [0, 1, 2, 3, 5] rfl)
        refine zr_iconst (0 : Int32) h0 (by decide) dX6_growth_74 (n := 75) rfl ?_
        exact J75 t24.2 t24.1 (0 : Int32)
      · refine zv_sub (lv' := [(0, .ref a0), (1, .int a1), (2, .int t4.1), (3, .int t4.2), (5, .int t24.2)]) ?_ (zsub_of [0, 1, 2, 3, 5] rfl)
        refine zr_aload_n h0 dX6_growth_54 rfl (n := 55) rfl ?_
        refine zr_iload_n h0 dX6_growth_55 rfl (n := 56) rfl ?_
        refine zr_iload h0 dX6_growth_56 rfl (n := 58) rfl ?_
        refine zr_iconst (0 : Int32) h0 (by decide) dX6_growth_58 (n := 59) rfl ?_
        refine zr_cRI C24 hC24 0 0 (fun x hx => zk_V h0 zcX6 (zcl_ex hx) (fun l D z0 => kX6_numbers l D z0 a0 a1 t24.2 (0 : Int32) S x (zcl_of hx)) zw_1098 zw_1100 zs_62 zw_5 zw_1101 rfl zyX6_numbers (As := [.int a1, .int t24.2, .int (0 : Int32)]) (st := [.int t24.1]) rfl (by decide) rfl (Nat.le_of_ble_eq_true rfl) (by decide) dX6_growth_59) rfl rfl (n := 62) rfl (fun x24 => ?_)
        refine zr_aload_n h0 dX6_growth_62 rfl (n := 63) rfl ?_
        refine zr_iload_n h0 dX6_growth_63 rfl (n := 64) rfl ?_
        refine zr_iload h0 dX6_growth_64 rfl (n := 66) rfl ?_
        refine zr_iconst (1 : Int32) h0 (by decide) dX6_growth_66 (n := 67) rfl ?_
        refine zr_cRI C24 hC24 0 0 (fun x hx => zk_V h0 zcX6 (zcl_ex hx) (fun l D z0 => kX6_numbers l D z0 a0 a1 t24.2 (1 : Int32) S x (zcl_of hx)) zw_1098 zw_1100 zs_62 zw_5 zw_1101 rfl zyX6_numbers (As := [.int a1, .int t24.2, .int (1 : Int32)]) (st := [.int x24, .int t24.1]) rfl (by decide) rfl (Nat.le_of_ble_eq_true rfl) (by decide) dX6_growth_67) rfl rfl (n := 70) rfl (fun x25 => ?_)
        refine zr_imul h0 dX6_growth_70 (n := 71) rfl ?_
        refine zr_goto (tgt := 75) h0 dX6_growth_71 (by decide) ?_
        exact J75 t24.2 t24.1 (x24 * x25)
theorem kX6_growth (l : Launch) (D : ZD) (z0 : Nat) (a0 : Nat) (a1 : Int32) (S : ZS) (x : Int32) (hf : fX6_growth a0 a1 S = some x) : zMet l D z0 yX6_growth cX6_growth 6 (some .int) rmX6_growth [.ref a0, .int a1] S (some (.int x)) S :=
  zMet_of (by decide) (Nat.le_of_ble_eq_true rfl) (fun G h0 hini hE => wX6_growth a0 a1 S h0 (fun o => o = some x) (fun h => nomatch h) (fun v h => by cases h; exact hE)) hf
theorem dX6_ofWay_0 : decode cX6_ofWay 0 = .ok (.aload_n 0, 1) := by decide +kernel
theorem dX6_ofWay_1 : decode cX6_ofWay 1 = .ok (.iload_n 1, 1) := by decide +kernel
theorem dX6_ofWay_2 : decode cX6_ofWay 2 = .ok (.invokevirtual 99, 3) := by decide +kernel
theorem dX6_ofWay_5 : decode cX6_ofWay 5 = .ok (.istore_n 3, 1) := by decide +kernel
theorem dX6_ofWay_6 : decode cX6_ofWay 6 = .ok (.aload_n 0, 1) := by decide +kernel
theorem dX6_ofWay_7 : decode cX6_ofWay 7 = .ok (.iload_n 3, 1) := by decide +kernel
theorem dX6_ofWay_8 : decode cX6_ofWay 8 = .ok (.ifCond .ne 7, 3) := by decide +kernel
theorem dX6_ofWay_11 : decode cX6_ofWay 11 = .ok (.iconst 1, 1) := by decide +kernel
theorem dX6_ofWay_12 : decode cX6_ofWay 12 = .ok (.goto 17, 3) := by decide +kernel
theorem dX6_ofWay_15 : decode cX6_ofWay 15 = .ok (.iload_n 2, 1) := by decide +kernel
theorem dX6_ofWay_16 : decode cX6_ofWay 16 = .ok (.iconst 0, 1) := by decide +kernel
theorem dX6_ofWay_17 : decode cX6_ofWay 17 = .ok (.iconst 4, 1) := by decide +kernel
theorem dX6_ofWay_18 : decode cX6_ofWay 18 = .ok (.invokestatic 57, 3) := by decide +kernel
theorem dX6_ofWay_21 : decode cX6_ofWay 21 = .ok (.ifCond .eq 7, 3) := by decide +kernel
theorem dX6_ofWay_24 : decode cX6_ofWay 24 = .ok (.iconst 0, 1) := by decide +kernel
theorem dX6_ofWay_25 : decode cX6_ofWay 25 = .ok (.goto 4, 3) := by decide +kernel
theorem dX6_ofWay_28 : decode cX6_ofWay 28 = .ok (.iconst 2, 1) := by decide +kernel
theorem dX6_ofWay_29 : decode cX6_ofWay 29 = .ok (.invokevirtual 64, 3) := by decide +kernel
theorem dX6_ofWay_32 : decode cX6_ofWay 32 = .ok (.ifCond .ne 5, 3) := by decide +kernel
theorem dX6_ofWay_35 : decode cX6_ofWay 35 = .ok (.iconst 0, 1) := by decide +kernel
theorem dX6_ofWay_36 : decode cX6_ofWay 36 = .ok (.ireturn, 1) := by decide +kernel
theorem dX6_ofWay_37 : decode cX6_ofWay 37 = .ok (.iload_n 2, 1) := by decide +kernel
theorem dX6_ofWay_38 : decode cX6_ofWay 38 = .ok (.ifCond .ne 12, 3) := by decide +kernel
theorem dX6_ofWay_41 : decode cX6_ofWay 41 = .ok (.aload_n 0, 1) := by decide +kernel
theorem dX6_ofWay_42 : decode cX6_ofWay 42 = .ok (.getfield 32, 3) := by decide +kernel
theorem dX6_ofWay_45 : decode cX6_ofWay 45 = .ok (.iload_n 1, 1) := by decide +kernel
theorem dX6_ofWay_46 : decode cX6_ofWay 46 = .ok (.iaload, 1) := by decide +kernel
theorem dX6_ofWay_47 : decode cX6_ofWay 47 = .ok (.goto 44, 3) := by decide +kernel
theorem dX6_ofWay_50 : decode cX6_ofWay 50 = .ok (.iload_n 2, 1) := by decide +kernel
theorem dX6_ofWay_51 : decode cX6_ofWay 51 = .ok (.iconst 1, 1) := by decide +kernel
theorem dX6_ofWay_52 : decode cX6_ofWay 52 = .ok (.if_icmp .ne 11, 3) := by decide +kernel
theorem dX6_ofWay_55 : decode cX6_ofWay 55 = .ok (.aload_n 0, 1) := by decide +kernel
theorem dX6_ofWay_56 : decode cX6_ofWay 56 = .ok (.iload_n 1, 1) := by decide +kernel
theorem dX6_ofWay_57 : decode cX6_ofWay 57 = .ok (.invokevirtual 195, 3) := by decide +kernel
theorem dX6_ofWay_60 : decode cX6_ofWay 60 = .ok (.goto 31, 3) := by decide +kernel
theorem dX6_ofWay_63 : decode cX6_ofWay 63 = .ok (.iload_n 2, 1) := by decide +kernel
theorem dX6_ofWay_64 : decode cX6_ofWay 64 = .ok (.iconst 4, 1) := by decide +kernel
theorem dX6_ofWay_65 : decode cX6_ofWay 65 = .ok (.if_icmp .ne 11, 3) := by decide +kernel
theorem dX6_ofWay_68 : decode cX6_ofWay 68 = .ok (.aload_n 0, 1) := by decide +kernel
theorem dX6_ofWay_69 : decode cX6_ofWay 69 = .ok (.iload_n 1, 1) := by decide +kernel
theorem dX6_ofWay_70 : decode cX6_ofWay 70 = .ok (.invokevirtual 198, 3) := by decide +kernel
theorem dX6_ofWay_73 : decode cX6_ofWay 73 = .ok (.goto 18, 3) := by decide +kernel
theorem dX6_ofWay_76 : decode cX6_ofWay 76 = .ok (.aload_n 0, 1) := by decide +kernel
theorem dX6_ofWay_77 : decode cX6_ofWay 77 = .ok (.iload_n 1, 1) := by decide +kernel
theorem dX6_ofWay_78 : decode cX6_ofWay 78 = .ok (.iload_n 2, 1) := by decide +kernel
theorem dX6_ofWay_79 : decode cX6_ofWay 79 = .ok (.iconst 3, 1) := by decide +kernel
theorem dX6_ofWay_80 : decode cX6_ofWay 80 = .ok (.if_icmp .ne 7, 3) := by decide +kernel
theorem dX6_ofWay_83 : decode cX6_ofWay 83 = .ok (.iconst 1, 1) := by decide +kernel
theorem dX6_ofWay_84 : decode cX6_ofWay 84 = .ok (.goto 4, 3) := by decide +kernel
theorem dX6_ofWay_87 : decode cX6_ofWay 87 = .ok (.iconst 0, 1) := by decide +kernel
theorem dX6_ofWay_88 : decode cX6_ofWay 88 = .ok (.invokevirtual 201, 3) := by decide +kernel
theorem dX6_ofWay_91 : decode cX6_ofWay 91 = .ok (.ireturn, 1) := by decide +kernel
abbrev rmX6_ofWay : Room := { frames := 4, cells := 0, slots := 0, locals := 94 }
theorem zyX6_ofWay : zyOK yX6_ofWay 2 := ⟨by decide +kernel, by decide +kernel, by decide +kernel⟩
set_option maxHeartbeats 4000000 in
set_option maxRecDepth 100000 in
theorem wX6_ofWay {G : ZG} (a0 : Nat) (a1 : Int32) (a2 : Int32) (S : ZS) (h0 : zFix G cX6_ofWay RX6 4 (some .int) rmX6_ofWay) (C : Option (Int32 × ZS) → Prop) (hC : ¬ C none) (hE : ∀ (v : Int32) (S1 : ZS), C (some (v, S1)) → zEnd G (some (.int v)) S1 rmX6_ofWay) : zV G 4 S 0 0 0 [(0, .ref a0), (1, .int a1), (2, .int a2)] [] (C (fX6_ofWay a0 a1 a2 S)) := by
  have J91 : ∀ (s0_91 : Int32) (S_91 : ZS), zV G 4 S_91 0 0 91 [] [.int s0_91] (C (fX6_ofWay_J91 s0_91 S_91)) := by
    intro s0_91 S_91
    unfold fX6_ofWay_J91
    exact zr_iret h0 rfl dX6_ofWay_91 (hE _ _) (by decide) (by decide)
  have J88 : ∀ (s0_88 : Nat) (s1_88 : Int32) (s2_88 : Int32) (S_88 : ZS), zV G 4 S_88 0 0 88 [] [.int s2_88, .int s1_88, .ref s0_88] (C (fX6_ofWay_J88 s0_88 s1_88 s2_88 S_88)) := by
    intro s0_88 s1_88 s2_88 S_88
    unfold fX6_ofWay_J88
    refine zr_cMI C hC 0 0 (fun x hx => zk_V h0 zcX6 (zcl_ex hx) (fun l D z0 => kX6_additions l D z0 s0_88 s1_88 s2_88 S_88 x (zcl_of hx)) zw_1102 zw_1104 zs_63 zw_5 zw_1105 rfl zyX6_additions (As := [.int s1_88, .int s2_88]) (st := []) rfl (by decide) rfl (Nat.le_of_ble_eq_true rfl) (by decide) dX6_ofWay_88) rfl rfl (n := 91) rfl (fun x9 => ?_)
    exact J91 x9.1 x9.2
  have J29 : ∀ (l0_29 : Nat) (l1_29 : Int32) (l2_29 : Int32) (s0_29 : Nat) (s1_29 : Int32) (S_29 : ZS), zV G 4 S_29 0 0 29 [(0, .ref l0_29), (1, .int l1_29), (2, .int l2_29)] [.int s1_29, .ref s0_29] (C (fX6_ofWay_J29 l0_29 l1_29 l2_29 s0_29 s1_29 S_29)) := by
    intro l0_29 l1_29 l2_29 s0_29 s1_29 S_29
    unfold fX6_ofWay_J29
    refine zr_cMI C hC 0 0 (fun x hx => zk_V h0 zcX6 (zcl_ex hx) (fun l D z0 => kX6_goesWell l D z0 s0_29 s1_29 S_29 x (zcl_of hx)) zw_886 zw_888 zs_34 zw_5 zw_889 rfl zyX6_goesWell (As := [.int s1_29]) (st := []) rfl (by decide) rfl (Nat.le_of_ble_eq_true rfl) (by decide) dX6_ofWay_29) rfl rfl (n := 32) rfl (fun x10 => ?_)
    refine zr_if_ne C (tgt := 37) h0 dX6_ofWay_32 (by decide) (n := 35) rfl ?_ ?_
    · refine zv_sub (lv' := []) ?_ (zsub_of [] rfl)
      refine zr_iconst (0 : Int32) h0 (by decide) dX6_ofWay_35 (n := 36) rfl ?_
      exact zr_iret h0 rfl dX6_ofWay_36 (hE _ _) (by decide) (by decide)
    · refine zr_iload_n h0 dX6_ofWay_37 rfl (n := 38) rfl ?_
      refine zr_if_ne C (tgt := 50) h0 dX6_ofWay_38 (by decide) (n := 41) rfl ?_ ?_
      · refine zv_sub (lv' := [(0, .ref l0_29), (1, .int l1_29)]) ?_ (zsub_of [0, 1] rfl)
        refine zr_aload_n h0 dX6_ofWay_41 rfl (n := 42) rfl ?_
        refine zr_getR C hC h0 zcX6 (k := 10) (by decide) zw_829 dX6_ofWay_42 (n := 45) rfl (fun v11 => ?_)
        refine zr_iload_n h0 dX6_ofWay_45 rfl (n := 46) rfl ?_
        refine zr_iaload C hC h0 dX6_ofWay_46 (n := 47) rfl (fun v12 => ?_)
        refine zr_goto (tgt := 91) h0 dX6_ofWay_47 (by decide) ?_
        refine zv_sub (lv' := []) ?_ (zsub_of [] rfl)
        exact J91 v12 x10.2
      · refine zr_iload_n h0 dX6_ofWay_50 rfl (n := 51) rfl ?_
        refine zr_iconst (1 : Int32) h0 (by decide) dX6_ofWay_51 (n := 52) rfl ?_
        refine zr_icmp_ne C (tgt := 63) h0 dX6_ofWay_52 (by decide) (n := 55) rfl ?_ ?_
        · refine zv_sub (lv' := [(0, .ref l0_29), (1, .int l1_29)]) ?_ (zsub_of [0, 1] rfl)
          refine zr_aload_n h0 dX6_ofWay_55 rfl (n := 56) rfl ?_
          refine zr_iload_n h0 dX6_ofWay_56 rfl (n := 57) rfl ?_
          refine zr_cRI C hC 0 0 (fun x hx => zk_V h0 zcX6 (zcl_ex hx) (fun l D z0 => kX6_wrong l D z0 l0_29 l1_29 x10.2 x (zcl_of hx)) zw_1086 zw_1088 zs_59 zw_5 zw_1089 rfl zyX6_wrong (As := [.int l1_29]) (st := []) rfl (by decide) rfl (Nat.le_of_ble_eq_true rfl) (by decide) dX6_ofWay_57) rfl rfl (n := 60) rfl (fun x13 => ?_)
          refine zr_goto (tgt := 91) h0 dX6_ofWay_60 (by decide) ?_
          refine zv_sub (lv' := []) ?_ (zsub_of [] rfl)
          exact J91 x13 x10.2
        · refine zr_iload_n h0 dX6_ofWay_63 rfl (n := 64) rfl ?_
          refine zr_iconst (4 : Int32) h0 (by decide) dX6_ofWay_64 (n := 65) rfl ?_
          refine zr_icmp_ne C (tgt := 76) h0 dX6_ofWay_65 (by decide) (n := 68) rfl ?_ ?_
          · refine zv_sub (lv' := [(0, .ref l0_29), (1, .int l1_29)]) ?_ (zsub_of [0, 1] rfl)
            refine zr_aload_n h0 dX6_ofWay_68 rfl (n := 69) rfl ?_
            refine zr_iload_n h0 dX6_ofWay_69 rfl (n := 70) rfl ?_
            refine zr_cRI C hC 0 0 (fun x hx => zk_V h0 zcX6 (zcl_ex hx) (fun l D z0 => kX6_growth l D z0 l0_29 l1_29 x10.2 x (zcl_of hx)) zw_1094 zw_1096 zs_61 zw_5 zw_1097 rfl zyX6_growth (As := [.int l1_29]) (st := []) rfl (by decide) rfl (Nat.le_of_ble_eq_true rfl) (by decide) dX6_ofWay_70) rfl rfl (n := 73) rfl (fun x14 => ?_)
            refine zr_goto (tgt := 91) h0 dX6_ofWay_73 (by decide) ?_
            refine zv_sub (lv' := []) ?_ (zsub_of [] rfl)
            exact J91 x14 x10.2
          · refine zr_aload_n h0 dX6_ofWay_76 rfl (n := 77) rfl ?_
            refine zr_iload_n h0 dX6_ofWay_77 rfl (n := 78) rfl ?_
            refine zr_iload_n h0 dX6_ofWay_78 rfl (n := 79) rfl ?_
            refine zr_iconst (3 : Int32) h0 (by decide) dX6_ofWay_79 (n := 80) rfl ?_
            refine zr_icmp_ne C (tgt := 87) h0 dX6_ofWay_80 (by decide) (n := 83) rfl ?_ ?_
            · refine zv_sub (lv' := []) ?_ (zsub_of [] rfl)
              refine zr_iconst (1 : Int32) h0 (by decide) dX6_ofWay_83 (n := 84) rfl ?_
              refine zr_goto (tgt := 88) h0 dX6_ofWay_84 (by decide) ?_
              exact J88 l0_29 l1_29 (1 : Int32) x10.2
            · refine zv_sub (lv' := []) ?_ (zsub_of [] rfl)
              refine zr_iconst (0 : Int32) h0 (by decide) dX6_ofWay_87 (n := 88) rfl ?_
              exact J88 l0_29 l1_29 (0 : Int32) x10.2
  unfold fX6_ofWay
  refine zr_aload_n h0 dX6_ofWay_0 rfl (n := 1) rfl ?_
  refine zr_iload_n h0 dX6_ofWay_1 rfl (n := 2) rfl ?_
  refine zr_cRI C hC 0 0 (fun x hx => zk_V h0 zcX6 (zcl_ex hx) (fun l D z0 => kX6_isWay l D z0 a0 a1 S x (zcl_of hx)) zw_958 zw_960 zs_39 zw_5 zw_961 rfl zyX6_isWay (As := [.int a1]) (st := []) rfl (by decide) rfl (Nat.le_of_ble_eq_true rfl) (by decide) dX6_ofWay_2) rfl rfl (n := 5) rfl (fun x1 => ?_)
  refine zr_istore_n [(0, .ref a0), (1, .int a1), (2, .int a2), (3, .int x1)] h0 dX6_ofWay_5 (by decide) rfl (n := 6) rfl ?_
  refine zr_aload_n h0 dX6_ofWay_6 rfl (n := 7) rfl ?_
  refine zr_iload_n h0 dX6_ofWay_7 rfl (n := 8) rfl ?_
  refine zr_if_ne C (tgt := 15) h0 dX6_ofWay_8 (by decide) (n := 11) rfl ?_ ?_
  · refine zv_sub (lv' := [(0, .ref a0), (1, .int a1), (2, .int a2)]) ?_ (zsub_of [0, 1, 2] rfl)
    refine zr_iconst (1 : Int32) h0 (by decide) dX6_ofWay_11 (n := 12) rfl ?_
    refine zr_goto (tgt := 29) h0 dX6_ofWay_12 (by decide) ?_
    exact J29 a0 a1 a2 a0 (1 : Int32) S
  · refine zv_sub (lv' := [(0, .ref a0), (1, .int a1), (2, .int a2)]) ?_ (zsub_of [0, 1, 2] rfl)
    refine zr_iload_n h0 dX6_ofWay_15 rfl (n := 16) rfl ?_
    refine zr_iconst (0 : Int32) h0 (by decide) dX6_ofWay_16 (n := 17) rfl ?_
    refine zr_iconst (4 : Int32) h0 (by decide) dX6_ofWay_17 (n := 18) rfl ?_
    refine zr_cRI C hC 0 0 (fun x hx => zk_S h0 (fun l D z0 => kX6_in l D z0 a2 (0 : Int32) (4 : Int32) S x hx) zw_898 zw_899 zw_5 zw_900 zyX6_in (As := [.int a2, .int (0 : Int32), .int (4 : Int32)]) (st := [.ref a0]) rfl (by decide) rfl (Nat.le_of_ble_eq_true rfl) (by decide) dX6_ofWay_18) rfl rfl (n := 21) rfl (fun x8 => ?_)
    refine zr_if_eq C (tgt := 28) h0 dX6_ofWay_21 (by decide) (n := 24) rfl ?_ ?_
    · refine zr_iconst (2 : Int32) h0 (by decide) dX6_ofWay_28 (n := 29) rfl ?_
      exact J29 a0 a1 a2 a0 (2 : Int32) S
    · refine zr_iconst (0 : Int32) h0 (by decide) dX6_ofWay_24 (n := 25) rfl ?_
      refine zr_goto (tgt := 29) h0 dX6_ofWay_25 (by decide) ?_
      exact J29 a0 a1 a2 a0 (0 : Int32) S
theorem kX6_ofWay (l : Launch) (D : ZD) (z0 : Nat) (a0 : Nat) (a1 : Int32) (a2 : Int32) (S : ZS) (x : Int32 × ZS) (hf : fX6_ofWay a0 a1 a2 S = some x) : zMet l D z0 yX6_ofWay cX6_ofWay 4 (some .int) rmX6_ofWay [.ref a0, .int a1, .int a2] S (some (.int x.1)) x.2 :=
  zMet_of (by decide) (Nat.le_of_ble_eq_true rfl) (fun G h0 hini hE => wX6_ofWay a0 a1 a2 S h0 (fun o => o = some x) (fun h => nomatch h) (fun v S1 h => by cases h; exact hE)) hf
theorem dX6_vector_0 : decode cX6_vector 0 = .ok (.aload_n 0, 1) := by decide +kernel
theorem dX6_vector_1 : decode cX6_vector 1 = .ok (.aload_n 0, 1) := by decide +kernel
theorem dX6_vector_2 : decode cX6_vector 2 = .ok (.iload_n 1, 1) := by decide +kernel
theorem dX6_vector_3 : decode cX6_vector 3 = .ok (.iload_n 2, 1) := by decide +kernel
theorem dX6_vector_4 : decode cX6_vector 4 = .ok (.invokevirtual 113, 3) := by decide +kernel
theorem dX6_vector_7 : decode cX6_vector 7 = .ok (.ifCond .eq 14, 3) := by decide +kernel
theorem dX6_vector_10 : decode cX6_vector 10 = .ok (.iload_n 3, 1) := by decide +kernel
theorem dX6_vector_11 : decode cX6_vector 11 = .ok (.invokestatic 85, 3) := by decide +kernel
theorem dX6_vector_14 : decode cX6_vector 14 = .ok (.ifCond .eq 7, 3) := by decide +kernel
theorem dX6_vector_17 : decode cX6_vector 17 = .ok (.iconst 0, 1) := by decide +kernel
theorem dX6_vector_18 : decode cX6_vector 18 = .ok (.goto 4, 3) := by decide +kernel
theorem dX6_vector_21 : decode cX6_vector 21 = .ok (.iconst 1, 1) := by decide +kernel
theorem dX6_vector_22 : decode cX6_vector 22 = .ok (.invokevirtual 64, 3) := by decide +kernel
theorem dX6_vector_25 : decode cX6_vector 25 = .ok (.ifCond .ne 5, 3) := by decide +kernel
theorem dX6_vector_28 : decode cX6_vector 28 = .ok (.iconst 0, 1) := by decide +kernel
theorem dX6_vector_29 : decode cX6_vector 29 = .ok (.ireturn, 1) := by decide +kernel
theorem dX6_vector_30 : decode cX6_vector 30 = .ok (.iconst 0, 1) := by decide +kernel
theorem dX6_vector_31 : decode cX6_vector 31 = .ok (.istore 4, 2) := by decide +kernel
theorem dX6_vector_33 : decode cX6_vector 33 = .ok (.iconst 0, 1) := by decide +kernel
theorem dX6_vector_34 : decode cX6_vector 34 = .ok (.istore 5, 2) := by decide +kernel
theorem dX6_vector_36 : decode cX6_vector 36 = .ok (.iload 5, 2) := by decide +kernel
theorem dX6_vector_38 : decode cX6_vector 38 = .ok (.aload_n 0, 1) := by decide +kernel
theorem dX6_vector_39 : decode cX6_vector 39 = .ok (.getfield 23, 3) := by decide +kernel
theorem dX6_vector_42 : decode cX6_vector 42 = .ok (.iconst 3, 1) := by decide +kernel
theorem dX6_vector_43 : decode cX6_vector 43 = .ok (.iload_n 1, 1) := by decide +kernel
theorem dX6_vector_44 : decode cX6_vector 44 = .ok (.imul, 1) := by decide +kernel
theorem dX6_vector_45 : decode cX6_vector 45 = .ok (.iload_n 3, 1) := by decide +kernel
theorem dX6_vector_46 : decode cX6_vector 46 = .ok (.iadd, 1) := by decide +kernel
theorem dX6_vector_47 : decode cX6_vector 47 = .ok (.iaload, 1) := by decide +kernel
theorem dX6_vector_48 : decode cX6_vector 48 = .ok (.if_icmp .ge 33, 3) := by decide +kernel
theorem dX6_vector_51 : decode cX6_vector 51 = .ok (.aload_n 0, 1) := by decide +kernel
theorem dX6_vector_52 : decode cX6_vector 52 = .ok (.getfield 7, 3) := by decide +kernel
theorem dX6_vector_55 : decode cX6_vector 55 = .ok (.iload 4, 2) := by decide +kernel
theorem dX6_vector_57 : decode cX6_vector 57 = .ok (.imul, 1) := by decide +kernel
theorem dX6_vector_58 : decode cX6_vector 58 = .ok (.aload_n 0, 1) := by decide +kernel
theorem dX6_vector_59 : decode cX6_vector 59 = .ok (.getfield 35, 3) := by decide +kernel
theorem dX6_vector_62 : decode cX6_vector 62 = .ok (.iload_n 1, 1) := by decide +kernel
theorem dX6_vector_63 : decode cX6_vector 63 = .ok (.iload_n 2, 1) := by decide +kernel
theorem dX6_vector_64 : decode cX6_vector 64 = .ok (.iload_n 3, 1) := by decide +kernel
theorem dX6_vector_65 : decode cX6_vector 65 = .ok (.invokestatic 96, 3) := by decide +kernel
theorem dX6_vector_68 : decode cX6_vector 68 = .ok (.iload 5, 2) := by decide +kernel
theorem dX6_vector_70 : decode cX6_vector 70 = .ok (.iadd, 1) := by decide +kernel
theorem dX6_vector_71 : decode cX6_vector 71 = .ok (.iaload, 1) := by decide +kernel
theorem dX6_vector_72 : decode cX6_vector 72 = .ok (.iadd, 1) := by decide +kernel
theorem dX6_vector_73 : decode cX6_vector 73 = .ok (.istore 4, 2) := by decide +kernel
theorem dX6_vector_75 : decode cX6_vector 75 = .ok (.iinc 5 1, 3) := by decide +kernel
theorem dX6_vector_78 : decode cX6_vector 78 = .ok (.goto (-42), 3) := by decide +kernel
theorem dX6_vector_81 : decode cX6_vector 81 = .ok (.iload 4, 2) := by decide +kernel
theorem dX6_vector_83 : decode cX6_vector 83 = .ok (.ireturn, 1) := by decide +kernel
abbrev rmX6_vector : Room := { frames := 4, cells := 0, slots := 0, locals := 85 }
theorem zyX6_vector : zyOK yX6_vector 3 := ⟨by decide +kernel, by decide +kernel, by decide +kernel⟩
set_option maxHeartbeats 4000000 in
set_option maxRecDepth 100000 in
theorem wX6_vector {G : ZG} (a0 : Nat) (a1 : Int32) (a2 : Int32) (a3 : Int32) (S : ZS) (h0 : zFix G cX6_vector RX6 6 (some .int) rmX6_vector) (C : Option (Int32 × ZS) → Prop) (hC : ¬ C none) (hE : ∀ (v : Int32) (S1 : ZS), C (some (v, S1)) → zEnd G (some (.int v)) S1 rmX6_vector) : zV G 6 S 0 0 0 [(0, .ref a0), (1, .int a1), (2, .int a2), (3, .int a3)] [] (C (fX6_vector a0 a1 a2 a3 S)) := by
  have J22 : ∀ (l0_22 : Nat) (l1_22 : Int32) (l2_22 : Int32) (l3_22 : Int32) (s0_22 : Nat) (s1_22 : Int32) (S_22 : ZS), zV G 6 S_22 0 0 22 [(0, .ref l0_22), (1, .int l1_22), (2, .int l2_22), (3, .int l3_22)] [.int s1_22, .ref s0_22] (C (fX6_vector_J22 l0_22 l1_22 l2_22 l3_22 s0_22 s1_22 S_22)) := by
    intro l0_22 l1_22 l2_22 l3_22 s0_22 s1_22 S_22
    unfold fX6_vector_J22
    refine zr_cMI C hC 0 0 (fun x hx => zk_V h0 zcX6 (zcl_ex hx) (fun l D z0 => kX6_goesWell l D z0 s0_22 s1_22 S_22 x (zcl_of hx)) zw_886 zw_888 zs_34 zw_5 zw_889 rfl zyX6_goesWell (As := [.int s1_22]) (st := []) rfl (by decide) rfl (Nat.le_of_ble_eq_true rfl) (by decide) dX6_vector_22) rfl rfl (n := 25) rfl (fun x16 => ?_)
    refine zr_if_ne C (tgt := 30) h0 dX6_vector_25 (by decide) (n := 28) rfl ?_ ?_
    · refine zv_sub (lv' := []) ?_ (zsub_of [] rfl)
      refine zr_iconst (0 : Int32) h0 (by decide) dX6_vector_28 (n := 29) rfl ?_
      exact zr_iret h0 rfl dX6_vector_29 (hE _ _) (by decide) (by decide)
    · refine zr_iconst (0 : Int32) h0 (by decide) dX6_vector_30 (n := 31) rfl ?_
      refine zr_istore [(0, .ref l0_22), (1, .int l1_22), (2, .int l2_22), (3, .int l3_22), (4, .int (0 : Int32))] h0 dX6_vector_31 (by decide) rfl (n := 33) rfl ?_
      refine zr_iconst (0 : Int32) h0 (by decide) dX6_vector_33 (n := 34) rfl ?_
      refine zr_istore [(0, .ref l0_22), (1, .int l1_22), (2, .int l2_22), (3, .int l3_22), (4, .int (0 : Int32)), (5, .int (0 : Int32))] h0 dX6_vector_34 (by decide) rfl (n := 36) rfl ?_
      refine zr_loop hC (fX6_vector_B36 l0_22 l1_22 l2_22 l3_22 x16.2) (fun y => [(0, .ref l0_22), (1, .int l1_22), (2, .int l2_22), (3, .int l3_22), (4, .int y.1), (5, .int y.2)]) (fun y => x16.2) zF ((0 : Int32), (0 : Int32)) (fun C36 hC36 hX36 hL36 t36 => ?_)
      unfold fX6_vector_B36
      refine zr_iload h0 dX6_vector_36 rfl (n := 38) rfl ?_
      refine zr_aload_n h0 dX6_vector_38 rfl (n := 39) rfl ?_
      refine zr_getR C36 hC36 h0 zcX6 (k := 7) (by decide) zw_826 dX6_vector_39 (n := 42) rfl (fun v17 => ?_)
      refine zr_iconst (3 : Int32) h0 (by decide) dX6_vector_42 (n := 43) rfl ?_
      refine zr_iload_n h0 dX6_vector_43 rfl (n := 44) rfl ?_
      refine zr_imul h0 dX6_vector_44 (n := 45) rfl ?_
      refine zr_iload_n h0 dX6_vector_45 rfl (n := 46) rfl ?_
      refine zr_iadd h0 dX6_vector_46 (n := 47) rfl ?_
      refine zr_iaload C36 hC36 h0 dX6_vector_47 (n := 48) rfl (fun v18 => ?_)
      refine zr_icmp_ge C36 (tgt := 81) h0 dX6_vector_48 (by decide) (n := 51) rfl ?_ ?_
      · refine zr_ex hX36 ?_
        refine zv_sub (lv' := [(4, .int t36.1)]) ?_ (zsub_of [4] rfl)
        refine zr_iload h0 dX6_vector_81 rfl (n := 83) rfl ?_
        exact zr_iret h0 rfl dX6_vector_83 (hE _ _) (by decide) (by decide)
      · refine zr_aload_n h0 dX6_vector_51 rfl (n := 52) rfl ?_
        refine zr_getI C36 hC36 h0 zcX6 (k := 1) (by decide) zw_820 dX6_vector_52 (n := 55) rfl (fun v19 => ?_)
        refine zr_iload h0 dX6_vector_55 rfl (n := 57) rfl ?_
        refine zr_imul h0 dX6_vector_57 (n := 58) rfl ?_
        refine zr_aload_n h0 dX6_vector_58 rfl (n := 59) rfl ?_
        refine zr_getR C36 hC36 h0 zcX6 (k := 11) (by decide) zw_830 dX6_vector_59 (n := 62) rfl (fun v20 => ?_)
        refine zr_iload_n h0 dX6_vector_62 rfl (n := 63) rfl ?_
        refine zr_iload_n h0 dX6_vector_63 rfl (n := 64) rfl ?_
        refine zr_iload_n h0 dX6_vector_64 rfl (n := 65) rfl ?_
        refine zr_cRI C36 hC36 0 0 (fun x hx => zk_S h0 (fun l D z0 => kX6_from l D z0 l1_22 l2_22 l3_22 x16.2 x hx) zw_974 zw_975 zw_5 zw_976 zyX6_from (As := [.int l1_22, .int l2_22, .int l3_22]) (st := [.ref v20, .int (v19 * t36.1)]) rfl (by decide) rfl (Nat.le_of_ble_eq_true rfl) (by decide) dX6_vector_65) rfl rfl (n := 68) rfl (fun x21 => ?_)
        refine zr_iload h0 dX6_vector_68 rfl (n := 70) rfl ?_
        refine zr_iadd h0 dX6_vector_70 (n := 71) rfl ?_
        refine zr_iaload C36 hC36 h0 dX6_vector_71 (n := 72) rfl (fun v22 => ?_)
        refine zr_iadd h0 dX6_vector_72 (n := 73) rfl ?_
        refine zr_istore [(0, .ref l0_22), (1, .int l1_22), (2, .int l2_22), (3, .int l3_22), (4, .int ((v19 * t36.1) + v22)), (5, .int t36.2)] h0 dX6_vector_73 (by decide) rfl (n := 75) rfl ?_
        refine zr_iinc (1 : Int32) [(0, .ref l0_22), (1, .int l1_22), (2, .int l2_22), (3, .int l3_22), (4, .int ((v19 * t36.1) + v22)), (5, .int (t36.2 + (1 : Int32)))] h0 dX6_vector_75 rfl (by decide) rfl rfl (n := 78) rfl ?_
        refine zr_goto (tgt := 36) h0 dX6_vector_78 (by decide) ?_
        exact hL36 ((v19 * t36.1) + v22, t36.2 + (1 : Int32))
  have J21 : ∀ (l0_21 : Nat) (l1_21 : Int32) (l2_21 : Int32) (l3_21 : Int32) (s0_21 : Nat) (S_21 : ZS), zV G 6 S_21 0 0 21 [(0, .ref l0_21), (1, .int l1_21), (2, .int l2_21), (3, .int l3_21)] [.ref s0_21] (C (fX6_vector_J21 l0_21 l1_21 l2_21 l3_21 s0_21 S_21)) := by
    intro l0_21 l1_21 l2_21 l3_21 s0_21 S_21
    unfold fX6_vector_J21
    refine zr_iconst (1 : Int32) h0 (by decide) dX6_vector_21 (n := 22) rfl ?_
    exact J22 l0_21 l1_21 l2_21 l3_21 s0_21 (1 : Int32) S_21
  unfold fX6_vector
  refine zr_aload_n h0 dX6_vector_0 rfl (n := 1) rfl ?_
  refine zr_aload_n h0 dX6_vector_1 rfl (n := 2) rfl ?_
  refine zr_iload_n h0 dX6_vector_2 rfl (n := 3) rfl ?_
  refine zr_iload_n h0 dX6_vector_3 rfl (n := 4) rfl ?_
  refine zr_cRI C hC 0 0 (fun x hx => zk_V h0 zcX6 (zcl_ex hx) (fun l D z0 => kX6_isProduct l D z0 a0 a1 a2 S x (zcl_of hx)) zw_985 zw_987 zs_43 zw_5 zw_988 rfl zyX6_isProduct (As := [.int a1, .int a2]) (st := [.ref a0]) rfl (by decide) rfl (Nat.le_of_ble_eq_true rfl) (by decide) dX6_vector_4) rfl rfl (n := 7) rfl (fun x1 => ?_)
  refine zr_if_eq C (tgt := 21) h0 dX6_vector_7 (by decide) (n := 10) rfl ?_ ?_
  · exact J21 a0 a1 a2 a3 a0 S
  · refine zr_iload_n h0 dX6_vector_10 rfl (n := 11) rfl ?_
    refine zr_cRI C hC 0 0 (fun x hx => zk_S h0 (fun l D z0 => kX6_isSide l D z0 a3 S x hx) zw_936 zw_937 zw_5 zw_938 zyX6_isSide (As := [.int a3]) (st := [.ref a0]) rfl (by decide) rfl (Nat.le_of_ble_eq_true rfl) (by decide) dX6_vector_11) rfl rfl (n := 14) rfl (fun x15 => ?_)
    refine zr_if_eq C (tgt := 21) h0 dX6_vector_14 (by decide) (n := 17) rfl ?_ ?_
    · exact J21 a0 a1 a2 a3 a0 S
    · refine zr_iconst (0 : Int32) h0 (by decide) dX6_vector_17 (n := 18) rfl ?_
      refine zr_goto (tgt := 22) h0 dX6_vector_18 (by decide) ?_
      exact J22 a0 a1 a2 a3 a0 (0 : Int32) S
theorem kX6_vector (l : Launch) (D : ZD) (z0 : Nat) (a0 : Nat) (a1 : Int32) (a2 : Int32) (a3 : Int32) (S : ZS) (x : Int32 × ZS) (hf : fX6_vector a0 a1 a2 a3 S = some x) : zMet l D z0 yX6_vector cX6_vector 6 (some .int) rmX6_vector [.ref a0, .int a1, .int a2, .int a3] S (some (.int x.1)) x.2 :=
  zMet_of (by decide) (Nat.le_of_ble_eq_true rfl) (fun G h0 hini hE => wX6_vector a0 a1 a2 a3 S h0 (fun o => o = some x) (fun h => nomatch h) (fun v S1 h => by cases h; exact hE)) hf
