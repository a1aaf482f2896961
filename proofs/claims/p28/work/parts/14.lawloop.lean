theorem dL_cell_0 : decode cL_cell 0 = .ok (.iload_n 1, 1) := by decide +kernel
theorem dL_cell_1 : decode cL_cell 1 = .ok (.aload_n 0, 1) := by decide +kernel
theorem dL_cell_12 : decode cL_cell 12 = .ok (.sipush 7919, 3) := by decide +kernel
theorem dL_cell_15 : decode cL_cell 15 = .ok (.iload_n 1, 1) := by decide +kernel
theorem dL_cell_16 : decode cL_cell 16 = .ok (.sipush 2711, 3) := by decide +kernel
theorem dL_cell_19 : decode cL_cell 19 = .ok (.iadd, 1) := by decide +kernel
theorem dL_cell_2 : decode cL_cell 2 = .ok (.arraylength, 1) := by decide +kernel
theorem dL_cell_20 : decode cL_cell 20 = .ok (.imul, 1) := by decide +kernel
theorem dL_cell_21 : decode cL_cell 21 = .ok (.iload_n 1, 1) := by decide +kernel
theorem dL_cell_22 : decode cL_cell 22 = .ok (.sipush 443, 3) := by decide +kernel
theorem dL_cell_25 : decode cL_cell 25 = .ok (.iadd, 1) := by decide +kernel
theorem dL_cell_26 : decode cL_cell 26 = .ok (.imul, 1) := by decide +kernel
theorem dL_cell_27 : decode cL_cell 27 = .ok (.ireturn, 1) := by decide +kernel
theorem dL_cell_3 : decode cL_cell 3 = .ok (.if_icmp .ge 9, 3) := by decide +kernel
theorem dL_cell_6 : decode cL_cell 6 = .ok (.aload_n 0, 1) := by decide +kernel
theorem dL_cell_7 : decode cL_cell 7 = .ok (.iload_n 1, 1) := by decide +kernel
theorem dL_cell_8 : decode cL_cell 8 = .ok (.iaload, 1) := by decide +kernel
theorem dL_cell_9 : decode cL_cell 9 = .ok (.goto 18, 3) := by decide +kernel
theorem dL_law_100 : decode cL_law 100 = .ok (.invokestatic 172, 3) := by decide +kernel
theorem dL_law_103 : decode cL_law 103 = .ok (.istore 6, 2) := by decide +kernel
theorem dL_law_105 : decode cL_law 105 = .ok (.iload 6, 2) := by decide +kernel
theorem dL_law_107 : decode cL_law 107 = .ok (.ldc 16, 2) := by decide +kernel
theorem dL_law_109 : decode cL_law 109 = .ok (.if_icmp .eq 22, 3) := by decide +kernel
theorem dL_law_112 : decode cL_law 112 = .ok (.iload 5, 2) := by decide +kernel
theorem dL_law_114 : decode cL_law 114 = .ok (.bipush 36, 2) := by decide +kernel
theorem dL_law_116 : decode cL_law 116 = .ok (.invokestatic 101, 3) := by decide +kernel
theorem dL_law_119 : decode cL_law 119 = .ok (.bipush 33, 2) := by decide +kernel
theorem dL_law_121 : decode cL_law 121 = .ok (.if_icmp .ne 14, 3) := by decide +kernel
theorem dL_law_124 : decode cL_law 124 = .ok (.iload 6, 2) := by decide +kernel
theorem dL_law_126 : decode cL_law 126 = .ok (.ldc 175, 2) := by decide +kernel
theorem dL_law_128 : decode cL_law 128 = .ok (.if_icmp .ne 7, 3) := by decide +kernel
theorem dL_law_131 : decode cL_law 131 = .ok (.iconst 1, 1) := by decide +kernel
theorem dL_law_132 : decode cL_law 132 = .ok (.goto 4, 3) := by decide +kernel
theorem dL_law_135 : decode cL_law 135 = .ok (.iconst 0, 1) := by decide +kernel
theorem dL_law_136 : decode cL_law 136 = .ok (.istore 7, 2) := by decide +kernel
theorem dL_law_138 : decode cL_law 138 = .ok (.iload 7, 2) := by decide +kernel
theorem dL_law_140 : decode cL_law 140 = .ok (.ifCond .ne 15, 3) := by decide +kernel
theorem dL_law_143 : decode cL_law 143 = .ok (.aload_n 3, 1) := by decide +kernel
theorem dL_law_144 : decode cL_law 144 = .ok (.iload 5, 2) := by decide +kernel
theorem dL_law_146 : decode cL_law 146 = .ok (.iload_n 1, 1) := by decide +kernel
theorem dL_law_147 : decode cL_law 147 = .ok (.invokestatic 172, 3) := by decide +kernel
theorem dL_law_150 : decode cL_law 150 = .ok (.iload 6, 2) := by decide +kernel
theorem dL_law_152 : decode cL_law 152 = .ok (.if_icmp .ne 25, 3) := by decide +kernel
theorem dL_law_155 : decode cL_law 155 = .ok (.iload 4, 2) := by decide +kernel
theorem dL_law_157 : decode cL_law 157 = .ok (.bipush 33, 2) := by decide +kernel
theorem dL_law_159 : decode cL_law 159 = .ok (.irem, 1) := by decide +kernel
theorem dL_law_160 : decode cL_law 160 = .ok (.bipush 32, 2) := by decide +kernel
theorem dL_law_162 : decode cL_law 162 = .ok (.if_icmp .ne 17, 3) := by decide +kernel
theorem dL_law_165 : decode cL_law 165 = .ok (.aload_n 2, 1) := by decide +kernel
theorem dL_law_166 : decode cL_law 166 = .ok (.aload_n 3, 1) := by decide +kernel
theorem dL_law_167 : decode cL_law 167 = .ok (.iload 5, 2) := by decide +kernel
theorem dL_law_169 : decode cL_law 169 = .ok (.iconst 3, 1) := by decide +kernel
theorem dL_law_170 : decode cL_law 170 = .ok (.ishr, 1) := by decide +kernel
theorem dL_law_171 : decode cL_law 171 = .ok (.invokestatic 176, 3) := by decide +kernel
theorem dL_law_174 : decode cL_law 174 = .ok (.ifCond .ne 5, 3) := by decide +kernel
theorem dL_law_179 : decode cL_law 179 = .ok (.iinc 4 1, 3) := by decide +kernel
theorem dL_law_182 : decode cL_law 182 = .ok (.goto (-101), 3) := by decide +kernel
theorem dL_law_185 : decode cL_law 185 = .ok (.aload_n 2, 1) := by decide +kernel
theorem dL_law_186 : decode cL_law 186 = .ok (.aload_n 0, 1) := by decide +kernel
theorem dL_law_187 : decode cL_law 187 = .ok (.bipush 100, 2) := by decide +kernel
theorem dL_law_189 : decode cL_law 189 = .ok (.invokestatic 165, 3) := by decide +kernel
theorem dL_law_192 : decode cL_law 192 = .ok (.iload_n 1, 1) := by decide +kernel
theorem dL_law_193 : decode cL_law 193 = .ok (.invokestatic 180, 3) := by decide +kernel
theorem dL_law_81 : decode cL_law 81 = .ok (.iload 4, 2) := by decide +kernel
theorem dL_law_83 : decode cL_law 83 = .ok (.bipush 100, 2) := by decide +kernel
theorem dL_law_85 : decode cL_law 85 = .ok (.if_icmp .ge 100, 3) := by decide +kernel
theorem dL_law_88 : decode cL_law 88 = .ok (.aload_n 0, 1) := by decide +kernel
theorem dL_law_89 : decode cL_law 89 = .ok (.iload 4, 2) := by decide +kernel
theorem dL_law_91 : decode cL_law 91 = .ok (.invokestatic 165, 3) := by decide +kernel
theorem dL_law_94 : decode cL_law 94 = .ok (.istore 5, 2) := by decide +kernel
theorem dL_law_96 : decode cL_law 96 = .ok (.aload_n 2, 1) := by decide +kernel
theorem dL_law_97 : decode cL_law 97 = .ok (.iload 5, 2) := by decide +kernel
theorem dL_law_99 : decode cL_law 99 = .ok (.iload_n 1, 1) := by decide +kernel
theorem zw_102 : Cond.methodLink RL 165 yL_cell ∈ zTbl := zin_t 102 (by decide +kernel) rfl
theorem zw_103 : Cond.static yL_cell ∈ zTbl := zin_t 103 (by decide +kernel) rfl
theorem zw_104 : Cond.code yL_cell cL_cell 2 (some .int) ∈ zTbl := zin_t 104 (by decide +kernel) rfl
theorem zw_203 : Cond.methodLink RL 172 yL_act ∈ zTbl := zin_t 203 (by decide +kernel) rfl
theorem zw_204 : Cond.static yL_act ∈ zTbl := zin_t 204 (by decide +kernel) rfl
set_option maxRecDepth 1000000 in
set_option maxHeartbeats 4000000 in
theorem zw_205 : Cond.code yL_act cL_act 13 (some .int) ∈ zTbl := zin_t 205 (Eq.refl _) rfl
theorem zw_818 : Cond.methodLink RL 176 yL_areAlike ∈ zTbl := zin_t 818 (by decide +kernel) rfl
theorem zw_819 : Cond.static yL_areAlike ∈ zTbl := zin_t 819 (by decide +kernel) rfl
theorem zw_820 : Cond.code yL_areAlike cL_areAlike 5 (some .boolean) ∈ zTbl := zin_t 820 (by decide +kernel) rfl
theorem zw_821 : Cond.methodLink RL 180 yL_isSo ∈ zTbl := zin_t 821 (by decide +kernel) rfl
theorem zw_822 : Cond.static yL_isSo ∈ zTbl := zin_t 822 (by decide +kernel) rfl
theorem zw_823 : Cond.code yL_isSo cL_isSo 8 (some .boolean) ∈ zTbl := zin_t 823 (by decide +kernel) rfl
theorem zw_834 : Cond.constant RL 175 (889552896 : Int32) ∈ zTbl := zin_t 834 (by decide +kernel) rfl
def cellv (L : Nat) (xs : Nat → Int32) (k : Int32) : Int32 := if Int32.ofNat L ≤ k then (7919 : Int32) * (k + 2711) * (k + 443) else xs k.toNatClampNeg
abbrev rmL_cell : Room := { frames := 1, cells := 0, slots := 0, locals := 20 }
theorem zyL_cell : zyOK yL_cell 2 := ⟨by decide +kernel, by decide +kernel, by decide +kernel⟩
set_option maxHeartbeats 4000000 in
theorem kL_cell (l : Launch) (D : ZD) (z0 : Nat) (b L : Nat) (xs : Nat → Int32) (k : Int32) (hk : ¬ k < 0) (hL : L ≤ 260) (S : ZS) : zMetC l D z0 yL_cell cL_cell 2 (some .int) rmL_cell [.ref b, .int k] S b L xs (.int (cellv L xs k)) := by
  refine zMetC_of (P := True) (by decide) (Nat.le_of_ble_eq_true rfl) (fun G h0 hS hE => ?_) trivial
  refine zr_iload_n h0 dL_cell_0 rfl (n := 1) rfl ?_
  refine zr_aload_n h0 dL_cell_1 rfl (n := 2) rfl ?_
  refine zr_slen h0 hS dL_cell_2 (n := 3) rfl ?_
  unfold cellv at hE
  by_cases hc : Int32.ofNat L ≤ k
  · rw [if_pos hc] at hE
    refine zr_icmp_geY (tgt := 12) h0 hc dL_cell_3 (by decide) ?_
    refine zr_sipush (7919 : Int32) h0 (by decide) dL_cell_12 (n := 15) rfl ?_
    refine zr_iload_n h0 dL_cell_15 rfl (n := 16) rfl ?_
    refine zr_sipush (2711 : Int32) h0 (by decide) dL_cell_16 (n := 19) rfl ?_
    refine zr_iadd h0 dL_cell_19 (n := 20) rfl ?_
    refine zr_imul h0 dL_cell_20 (n := 21) rfl ?_
    refine zr_iload_n h0 dL_cell_21 rfl (n := 22) rfl ?_
    refine zr_sipush (443 : Int32) h0 (by decide) dL_cell_22 (n := 25) rfl ?_
    refine zr_iadd h0 dL_cell_25 (n := 26) rfl ?_
    refine zr_imul h0 dL_cell_26 (n := 27) rfl ?_
    exact zr_iretT h0 rfl dL_cell_27 (fun _ => hE) (by decide) (by decide)
  · rw [if_neg hc] at hE
    refine zr_icmp_geN (tgt := 12) h0 hc dL_cell_3 (by decide) ?_
    have hin : vp_in k L := by
      intro h
      rcases h with h | h
      · exact hk h
      · apply hc
        have e1 : (Int32.ofNat L).toInt = (L : Int) := Int32.toInt_ofNat_of_lt (by omega)
        have e2 : 0 ≤ k.toInt := by
          have := Int32.not_lt.mp hk
          rw [Int32.le_iff_toInt_le] at this
          exact this
        rw [Int32.le_iff_toInt_le, e1]
        unfold Int32.toNatClampNeg at h
        omega
    refine zr_aload_n h0 dL_cell_6 rfl (n := 7) rfl ?_
    refine zr_iload_n h0 dL_cell_7 rfl (n := 8) rfl ?_
    refine zr_sld h0 hS hin dL_cell_8 (n := 9) rfl ?_
    refine zr_goto (tgt := 27) h0 dL_cell_9 (by decide) ?_
    exact zr_iretT h0 rfl dL_cell_27 (fun _ => hE) (by decide) (by decide)
/-- what the pure part owes -/
def zOwed {TZ : Type} (I : Nat → TZ → Nat → TZ → ZS → Prop) (O : Nat → TZ → List Int32 → Option (Int32 × TZ)) (OL : TZ → List Int32 → Option (Int64 × TZ)) (Kp : Int32 → TZ → Prop) (T0 : TZ) : Prop :=
  zOps I O OL ∧
  (∀ n0 : Nat, ∃ S1 S2 : ZS, fX5_init n0 (zno ((fun _ => none), n0) 5 [.null, .null, .null, .null, .null, .null, .int 0, .int 0, .int 0]) = some S1 ∧ fX5_init S1.2 (zno S1 5 [.null, .null, .null, .null, .null, .null, .int 0, .int 0, .int 0]) = some S2 ∧ I n0 T0 S1.2 T0 S2) ∧
  (∀ p : Int32, p = 2 ∨ p = 3 ∨ p = 5 → ∃ T1 T, O 24 T0 [5] = some (2, T1) ∧ O 24 T1 [p] = some (5, T) ∧ O 24 T0 [p] = some (2, T) ∧ O 24 T [4] = none ∧ Kp p T) ∧
  (∀ (x y : Nat) (S : ZS) (p : Int32) (T : TZ) (v : Int32), I x T y T S → Kp p T → ∃ r, fL_act O OL v p T = some r ∧ Kp p r.2 ∧ (r.1 = -99999999 → r.2 = T) ∧ (fL_low v 36 = some 33 → r.1 = 889552896 → r.2 = T)) ∧
  (∀ (x y : Nat) (S : ZS) (p : Int32) (T : TZ) (v : Int32), I x T y T S → Kp p T → fL_areAlike O OL v (T, T) = some (1, (T, T))) ∧
  (∀ (x y : Nat) (S : ZS) (p : Int32) (T : TZ) (v : Int32), I x T y T S → Kp p T → ∃ T', fL_isSo O OL v p T = some (1, T'))
theorem zlow_ex (v : Int32) {n : Int32} (hn : ¬ n = 0) : ∃ r, fL_low v n = some r := by
  unfold fL_low zrem
  rw [if_neg hn]
  exact ⟨_, rfl⟩
theorem zlow3 (v : Int32) : fL_low v 3 = some 0 ∨ fL_low v 3 = some 1 ∨ fL_low v 3 = some 2 := by
  unfold fL_low zrem
  rw [if_neg (by decide)]
  simp only [Option.bind_some, Option.some.injEq]
  have e : (v &&& 2147483647).toInt = ((v &&& 2147483647).toBitVec.toNat : Int) := by
    have h : (v &&& 2147483647).toBitVec.toNat ≤ 2147483647 := by
      rw [Int32.toBitVec_and, BitVec.toNat_and]
      exact Nat.and_le_right
    show (v &&& 2147483647).toBitVec.toInt = _
    exact BitVec.toInt_eq_toNat_of_lt (by omega)
  have e2 : ((v &&& 2147483647) % 3).toInt = ((v &&& 2147483647).toBitVec.toNat : Int).tmod 3 := by
    rw [Int32.toInt_mod, e]; rfl
  have e3 : ((v &&& 2147483647).toBitVec.toNat : Int).tmod 3 = (((v &&& 2147483647).toBitVec.toNat % 3 : Nat) : Int) := by
    rw [Int.tmod_eq_emod_of_nonneg (by omega)]; omega
  rw [e3] at e2
  have hlt : (v &&& 2147483647).toBitVec.toNat % 3 < 3 := Nat.mod_lt _ (by decide)
  generalize (v &&& 2147483647).toBitVec.toNat % 3 = j at e2 hlt
  match j, hlt with
  | 0, _ => exact Or.inl (Int32.toInt_inj.mp e2)
  | 1, _ => exact Or.inr (Or.inl (Int32.toInt_inj.mp e2))
  | 2, _ => exact Or.inr (Or.inr (Int32.toInt_inj.mp e2))
set_option maxHeartbeats 4000000 in
set_option maxRecDepth 100000 in
theorem zlaw_loop {G : ZG} {b L x y : Nat} {xs : Nat → Int32} {TZ : Type} {I : Nat → TZ → Nat → TZ → ZS → Prop} {O : Nat → TZ → List Int32 → Option (Int32 × TZ)} {OL : TZ → List Int32 → Option (Int64 × TZ)} {Kp : Int32 → TZ → Prop} {T0 : TZ} (h0 : zFix G code RL 8 (some .boolean) room_1) (hfl : zFlag G) (hS : zScr G b L xs) (hL : L ≤ 260) (hW : zOwed I O OL Kp T0) (hend : ∀ (S : ZS) (ce sl : Nat) (lv : List (Nat × Value)), ce ≤ 600086 → sl ≤ 7301442 → zV G 8 S ce sl 196 lv [.int 1] True) (p : Int32) :
    ∀ (n : Nat) (e : Int32) (T : TZ) (S : ZS) (ce sl : Nat), e.toInt + n = 100 → 1 ≤ e.toInt → ce + n * 116 + 8503 ≤ 600086 → sl + n * 838 + 51018 ≤ 7301442 → Kp p T → I x T y T S → zV G 8 S ce sl 81 [(0, .ref b), (1, .int p), (2, .ref x), (3, .ref y), (4, .int e)] [] True := by
  obtain ⟨hO, -, -, hact, hal, his⟩ := hW
  intro n
  induction n with
  | zero =>
    intro e T S ce sl he he1 hce hsl hK hI
    refine zr_iload h0 dL_law_81 rfl (n := 83) rfl ?_
    refine zr_bipush (100 : Int32) h0 (by decide) dL_law_83 (n := 85) rfl ?_
    refine zr_icmp_geY (tgt := 185) h0 (by rw [Int32.le_iff_toInt_le]; have : (100 : Int32).toInt = 100 := rfl; omega) dL_law_85 (by decide) ?_
    refine zr_aload_n h0 dL_law_185 rfl (n := 186) rfl ?_
    refine zr_aload_n h0 dL_law_186 rfl (n := 187) rfl ?_
    refine zr_bipush (100 : Int32) h0 (by decide) dL_law_187 (n := 189) rfl ?_
    refine zr_callC ce sl h0 hS (fun l D z0 => kL_cell l D z0 b L xs (100 : Int32) (by decide) hL _) zw_102 zw_103 zw_0 zw_104 zyL_cell (As := [.ref b, .int (100 : Int32)]) (st := [.ref x]) rfl (by decide) rfl (Nat.le_of_ble_eq_true rfl) ⟨by show ce + 0 ≤ 600086; omega, by show sl + 0 ≤ 7301442; omega⟩ dL_law_189 rfl rfl (n := 192) rfl ?_
    refine zr_iload_n h0 dL_law_192 rfl (n := 193) rfl ?_
    obtain ⟨T', hT'⟩ := his x y S p T (cellv L xs 100) hI hK
    refine zr_callA (ce + 8503) (sl + 51018) h0 hfl (fun l D z0 hlt => kL_isSo hO l D z0 hlt x (cellv L xs 100) p y T T S hI (1, T') hT') zw_821 zw_822 zw_0 zw_823 zyL_isSo (As := [.ref x, .int (cellv L xs 100), .int p]) (st := []) rfl (by decide) rfl (Nat.le_of_ble_eq_true rfl) ⟨by show ce + 8503 ≤ 600086; omega, by show sl + 51018 ≤ 7301442; omega⟩ dL_law_193 rfl rfl (n := 196) rfl (fun v9 S9 hv9 => ?_)
    obtain ⟨rfl, -⟩ := hv9
    exact hend S9 _ _ _ (by omega) (by omega)
  | succ n ih =>
    intro e T S ce sl he he1 hce hsl hK hI
    have hce' : ce + n * 116 + 116 + 8503 ≤ 600086 := by omega
    have hsl' : sl + n * 838 + 838 + 51018 ≤ 7301442 := by omega
    have J179 : ∀ (T' : TZ) (S' : ZS), Kp p T' → I x T' y T' S' → zV G 8 S' (ce + 116) (sl + 838) 179 [(0, .ref b), (1, .int p), (2, .ref x), (3, .ref y), (4, .int e)] [] True := by
      intro T' S' hK' hI'
      refine zr_iinc (1 : Int32) [(0, .ref b), (1, .int p), (2, .ref x), (3, .ref y), (4, .int (e + 1))] h0 dL_law_179 rfl (by decide) rfl rfl (n := 182) rfl ?_
      refine zr_goto (tgt := 81) h0 dL_law_182 (by decide) ?_
      have e1 : (e + 1).toInt = e.toInt + 1 := by
        rw [Int32.toInt_add, show (1 : Int32).toInt = 1 from rfl]
        exact Int.bmod_eq_of_le (by omega) (by omega)
      exact ih (e + 1) T' S' _ _ (by omega) (by omega) (by omega) (by omega) hK' hI'
    refine zr_iload h0 dL_law_81 rfl (n := 83) rfl ?_
    refine zr_bipush (100 : Int32) h0 (by decide) dL_law_83 (n := 85) rfl ?_
    refine zr_icmp_geN (tgt := 185) h0 (by rw [Int32.le_iff_toInt_le]; have : (100 : Int32).toInt = 100 := rfl; omega) dL_law_85 (by decide) ?_
    refine zr_aload_n h0 dL_law_88 rfl (n := 89) rfl ?_
    refine zr_iload h0 dL_law_89 rfl (n := 91) rfl ?_
    refine zr_callC ce sl h0 hS (fun l D z0 => kL_cell l D z0 b L xs e (by rw [Int32.lt_iff_toInt_lt]; have : (0 : Int32).toInt = 0 := rfl; omega) hL _) zw_102 zw_103 zw_0 zw_104 zyL_cell (As := [.ref b, .int e]) (st := []) rfl (by decide) rfl (Nat.le_of_ble_eq_true rfl) ⟨by show ce + 0 ≤ 600086; omega, by show sl + 0 ≤ 7301442; omega⟩ dL_law_91 rfl rfl (n := 94) rfl ?_
    generalize cellv L xs e = v
    refine zr_istore [(0, .ref b), (1, .int p), (2, .ref x), (3, .ref y), (4, .int e), (5, .int v)] h0 dL_law_94 (by decide) rfl (n := 96) rfl ?_
    refine zr_aload_n h0 dL_law_96 rfl (n := 97) rfl ?_
    refine zr_iload h0 dL_law_97 rfl (n := 99) rfl ?_
    refine zr_iload_n h0 dL_law_99 rfl (n := 100) rfl ?_
    obtain ⟨r, hr, hKr, hb1, hb2⟩ := hact x y S p T v hI hK
    have J155 : ∀ (T' : TZ) (S' : ZS), Kp p T' → I x T' y T' S' → zV G 8 S' (ce + 16) (sl + 238) 155 [(0, .ref b), (1, .int p), (2, .ref x), (3, .ref y), (4, .int e), (5, .int v)] [] True := by
      intro T' S' hK' hI'
      refine zr_iload h0 dL_law_155 rfl (n := 157) rfl ?_
      refine zr_bipush (33 : Int32) h0 (by decide) dL_law_157 (n := 159) rfl ?_
      refine zr_iremK h0 (by decide) dL_law_159 (n := 160) rfl ?_
      refine zr_bipush (32 : Int32) h0 (by decide) dL_law_160 (n := 162) rfl ?_
      by_cases hm : e % (33 : Int32) = 32
      · refine zr_icmp_neN (tgt := 179) h0 hm dL_law_162 (by decide) ?_
        refine zr_aload_n h0 dL_law_165 rfl (n := 166) rfl ?_
        refine zr_aload_n h0 dL_law_166 rfl (n := 167) rfl ?_
        refine zr_iload h0 dL_law_167 rfl (n := 169) rfl ?_
        refine zr_iconst (3 : Int32) h0 (by decide) dL_law_169 (n := 170) rfl ?_
        refine zr_ishr h0 dL_law_170 (n := 171) rfl ?_
        have hh := hal x y S' p T' (v >>> ((3 : Int32) &&& 31)) hI' hK'
        refine zr_callA ((ce + 16) + 100) ((sl + 238) + 600) h0 hfl (fun l D z0 hlt => kL_areAlike hO l D z0 hlt x y (v >>> ((3 : Int32) &&& 31)) (T', T') S' hI' _ hh) zw_818 zw_819 zw_0 zw_820 zyL_areAlike (As := [.ref x, .ref y, .int (v >>> ((3 : Int32) &&& 31))]) (st := []) rfl (by decide) rfl (Nat.le_of_ble_eq_true rfl) ⟨by show (ce + 16) + 100 ≤ 600086; omega, by show (sl + 238) + 600 ≤ 7301442; omega⟩ dL_law_171 rfl rfl (n := 174) rfl (fun v9 S9 hv9 => ?_)
        obtain ⟨rfl, hI9⟩ := hv9
        refine zr_if_neY (tgt := 179) h0 (show ¬ (1 : Int32) = 0 by decide) dL_law_174 (by decide) ?_
        exact zv_wide (zv_sub (lv' := [(0, .ref b), (1, .int p), (2, .ref x), (3, .ref y), (4, .int e)]) (J179 T' S9 hK' hI9) (zsub_of [0, 1, 2, 3, 4] rfl)) (by show _ ≤ ce + 116; omega) (by show _ ≤ sl + 838; omega)
      · refine zr_icmp_neY (tgt := 179) h0 hm dL_law_162 (by decide) ?_
        exact zv_wide (zv_sub (lv' := [(0, .ref b), (1, .int p), (2, .ref x), (3, .ref y), (4, .int e)]) (J179 T' S' hK' hI') (zsub_of [0, 1, 2, 3, 4] rfl)) (by show _ ≤ ce + 116; omega) (by show _ ≤ sl + 838; omega)
    refine zr_callA (ce + 8) (sl + 119) h0 hfl (fun l D z0 hlt => kL_act hO l D z0 hlt x v p y T T S hI r hr) zw_203 zw_204 zw_0 zw_205 zyL_act (As := [.ref x, .int v, .int p]) (st := []) rfl (by decide) rfl (Nat.le_of_ble_eq_true rfl) ⟨by show ce + 8 ≤ 600086; omega, by show sl + 119 ≤ 7301442; omega⟩ dL_law_100 rfl rfl (n := 103) rfl (fun v9 S9 hv9 => ?_)
    obtain ⟨rfl, hI9⟩ := hv9
    refine zr_istore [(0, .ref b), (1, .int p), (2, .ref x), (3, .ref y), (4, .int e), (5, .int v), (6, .int r.1)] h0 dL_law_103 (by decide) rfl (n := 105) rfl ?_
    have J131 : (r.2 = T) → zV G 8 S9 (ce + 8) (sl + 119) 131 [(0, .ref b), (1, .int p), (2, .ref x), (3, .ref y), (4, .int e), (5, .int v), (6, .int r.1)] [] True := by
      intro hT
      refine zr_iconst (1 : Int32) h0 (by decide) dL_law_131 (n := 132) rfl ?_
      refine zr_goto (tgt := 136) h0 dL_law_132 (by decide) ?_
      refine zr_istore [(0, .ref b), (1, .int p), (2, .ref x), (3, .ref y), (4, .int e), (5, .int v), (6, .int r.1), (7, .int (1 : Int32))] h0 dL_law_136 (by decide) rfl (n := 138) rfl ?_
      refine zr_iload h0 dL_law_138 rfl (n := 140) rfl ?_
      refine zr_if_neY (tgt := 155) h0 (by decide) dL_law_140 (by decide) ?_
      rw [hT] at hI9
      exact zv_wide (zv_sub (lv' := [(0, .ref b), (1, .int p), (2, .ref x), (3, .ref y), (4, .int e), (5, .int v)]) (J155 T S9 hK hI9) (zsub_of [0, 1, 2, 3, 4, 5] rfl)) (by show _ ≤ ce + 16; omega) (by show _ ≤ sl + 238; omega)
    have J135 : zV G 8 S9 (ce + 8) (sl + 119) 135 [(0, .ref b), (1, .int p), (2, .ref x), (3, .ref y), (4, .int e), (5, .int v), (6, .int r.1)] [] True := by
      refine zr_iconst (0 : Int32) h0 (by decide) dL_law_135 (n := 136) rfl ?_
      refine zr_istore [(0, .ref b), (1, .int p), (2, .ref x), (3, .ref y), (4, .int e), (5, .int v), (6, .int r.1), (7, .int (0 : Int32))] h0 dL_law_136 (by decide) rfl (n := 138) rfl ?_
      refine zr_iload h0 dL_law_138 rfl (n := 140) rfl ?_
      refine zr_if_neN (tgt := 155) h0 rfl dL_law_140 (by decide) ?_
      refine zr_aload_n h0 dL_law_143 rfl (n := 144) rfl ?_
      refine zr_iload h0 dL_law_144 rfl (n := 146) rfl ?_
      refine zr_iload_n h0 dL_law_146 rfl (n := 147) rfl ?_
      refine zr_callA ((ce + 8) + 8) ((sl + 119) + 119) h0 hfl (fun l D z0 hlt => kL_act hO l D z0 hlt y v p x r.2 T S9 (hO.1 _ _ _ _ _ hI9) r hr) zw_203 zw_204 zw_0 zw_205 zyL_act (As := [.ref y, .int v, .int p]) (st := []) rfl (by decide) rfl (Nat.le_of_ble_eq_true rfl) ⟨by show (ce + 8) + 8 ≤ 600086; omega, by show (sl + 119) + 119 ≤ 7301442; omega⟩ dL_law_147 rfl rfl (n := 150) rfl (fun v8 S8 hv8 => ?_)
      obtain ⟨rfl, hI8⟩ := hv8
      refine zr_iload h0 dL_law_150 rfl (n := 152) rfl ?_
      refine zr_icmp_neN (tgt := 177) h0 rfl dL_law_152 (by decide) ?_
      exact zv_wide (zv_sub (lv' := [(0, .ref b), (1, .int p), (2, .ref x), (3, .ref y), (4, .int e), (5, .int v)]) (J155 r.2 S8 hKr (hO.1 _ _ _ _ _ hI8)) (zsub_of [0, 1, 2, 3, 4, 5] rfl)) (by show _ ≤ ce + 16; omega) (by show _ ≤ sl + 238; omega)
    refine zr_iload h0 dL_law_105 rfl (n := 107) rfl ?_
    refine zr_ldc h0 zw_202 dL_law_107 (n := 109) rfl ?_
    by_cases hq : r.1 = -99999999
    · exact zr_icmp_eqY (tgt := 131) h0 hq dL_law_109 (by decide) (J131 (hb1 hq))
    refine zr_icmp_eqN (tgt := 131) h0 hq dL_law_109 (by decide) ?_
    refine zr_iload h0 dL_law_112 rfl (n := 114) rfl ?_
    refine zr_bipush (36 : Int32) h0 (by decide) dL_law_114 (n := 116) rfl ?_
    obtain ⟨r9, hr9⟩ := zlow_ex v (n := 36) (by decide)
    refine zr_call0 (res := some (.int r9)) (P' := True) (zk_S h0 (fun l D z0 => kL_low l D z0 v (36 : Int32) _ r9 hr9) zw_105 zw_106 zw_0 zw_107 zyL_low (As := [.int v, .int (36 : Int32)]) (st := []) rfl (by decide) rfl (Nat.le_of_ble_eq_true rfl) ⟨by show (ce + 8) + 0 ≤ 600086; omega, by show (sl + 119) + 0 ≤ 7301442; omega⟩ dL_law_116) rfl rfl rfl (n := 119) rfl (fun h => h) ?_
    refine zr_bipush (33 : Int32) h0 (by decide) dL_law_119 (n := 121) rfl ?_
    by_cases hq9 : r9 = 33
    · refine zr_icmp_neN (tgt := 135) h0 hq9 dL_law_121 (by decide) ?_
      refine zr_iload h0 dL_law_124 rfl (n := 126) rfl ?_
      refine zr_ldc h0 zw_834 dL_law_126 (n := 128) rfl ?_
      by_cases hq8 : r.1 = 889552896
      · exact zr_icmp_neN (tgt := 135) h0 hq8 dL_law_128 (by decide) (J131 (hb2 (by rw [hr9, hq9]) hq8))
      · exact zr_icmp_neY (tgt := 135) h0 hq8 dL_law_128 (by decide) J135
    · exact zr_icmp_neY (tgt := 135) h0 hq9 dL_law_121 (by decide) J135
