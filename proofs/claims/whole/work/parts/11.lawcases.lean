def zFr (h : ZH) (n : Nat) : Prop := ∀ a : Nat, n ≤ a → h a = none
theorem zv_fr {G : ZG} {nL : Nat} {S : ZS} {ce sl pc : Nat} {lv : List (Nat × Value)} {st : List Value} {P : Prop} (k : zFr S.1 S.2 → zV G nL S ce sl pc lv st P) : zV G nL S ce sl pc lv st P := by
  obtain ⟨p, l, e, R, s, m, args, below, meth, c, Q, D, z0⟩ := G
  intro hP H locs ls h1 h2 h3
  exact k (fun a ha => h1.none_size ha) hP H locs ls h1 h2 h3
theorem lg_cmp_self (v : Int64) : lg_cmp v v = 0 := by
  unfold lg_cmp
  simp
def ok_0 (x m out : Nat) (a1 : Int32) (S : ZS) (I : ZS → Prop) : Prop := ∃ (k : Int32) (h : ZH), fL_prime x a1 out S = some (k, h) ∧ ∀ n : Nat, zFr h n → ∃ r, zcl ((h, n) : ZS) m 6 (fX6_prime m a1 (h, n)) = some r ∧ zcl r.2 m 6 (fX6_thrown m r.2) = some k ∧ (k = 0 → zaJ r.2 out 0 = some (Int32.toInt64 r.1)) ∧ I r.2
set_option maxHeartbeats 4000000 in
set_option maxRecDepth 100000 in
theorem lc_0 {G : ZG} {b L x m out : Nat} {xs : Nat → Int32} {S : ZS} {ce sl : Nat} {i : Int32} {I : ZS → Prop} (h0 : zFix G code RL 8 (some .boolean) room_1) (hfl : zFlag G) (hS : zScr G b L xs) (hin : ∀ j : Int32, (0 ≤ j.toInt ∧ j.toInt ≤ 5) → vp_in (i + j) L) (hok : ok_0 x m out (xs (i + (1 : Int32)).toNatClampNeg) S I) (hce : ce + 8 ≤ 601024) (hsl : sl + 119 ≤ 7293034) (kk : ∀ S1 : ZS, I S1 → zV G 8 S1 (ce + 8) (sl + 119) 2007 [(0, .ref b), (1, .ref x), (2, .ref m), (3, .ref out), (4, .int i)] [] True) : zV G 8 S ce sl 156 [(0, .ref b), (1, .ref x), (2, .ref m), (3, .ref out), (4, .int i)] [] True := by
  obtain ⟨k, h, hw, hok⟩ := hok
  refine zr_aload_n h0 dL_law_156 rfl (n := 157) rfl ?_
  refine zr_aload_n h0 dL_law_157 rfl (n := 158) rfl ?_
  refine zr_iload h0 dL_law_158 rfl (n := 160) rfl ?_
  refine zr_iconst (1 : Int32) h0 (by decide) dL_law_160 (n := 161) rfl ?_
  refine zr_iadd h0 dL_law_161 (n := 162) rfl ?_
  refine zr_sld h0 hS (hin (1 : Int32) (by decide)) dL_law_162 (n := 163) rfl ?_
  refine zr_aload_n h0 dL_law_163 rfl (n := 164) rfl ?_
  refine zr_callW (ce + 1) (sl + 6) h0 hfl (fun l D z0 hlt => kL_prime l D z0 hlt x (xs (i + (1 : Int32)).toNatClampNeg) out S (k, h) hw) zw_103 zw_104 zw_0 zw_105 zyL_prime (As := [.ref x, .int (xs (i + (1 : Int32)).toNatClampNeg), .ref out]) (st := []) rfl (by decide) rfl (Nat.le_of_ble_eq_true rfl) ⟨Nat.le_trans (Nat.add_le_add_left (Nat.le_of_ble_eq_true rfl) ce) hce, Nat.le_trans (Nat.add_le_add_left (Nat.le_of_ble_eq_true rfl) sl) hsl⟩ dL_law_164 rfl rfl (n := 167) rfl (fun n9 => ?_)
  refine zv_fr (fun hfr => ?_)
  obtain ⟨r, hr, ht, hv, hI⟩ := hok n9 hfr
  refine zr_istore [(0, .ref b), (1, .ref x), (2, .ref m), (3, .ref out), (4, .int i), (5, .int k)] h0 dL_law_167 (by decide) rfl (n := 169) rfl ?_
  refine zr_aload_n h0 dL_law_169 rfl (n := 170) rfl ?_
  refine zr_aload_n h0 dL_law_170 rfl (n := 171) rfl ?_
  refine zr_iload h0 dL_law_171 rfl (n := 173) rfl ?_
  refine zr_iconst (1 : Int32) h0 (by decide) dL_law_173 (n := 174) rfl ?_
  refine zr_iadd h0 dL_law_174 (n := 175) rfl ?_
  refine zr_sld h0 hS (hin (1 : Int32) (by decide)) dL_law_175 (n := 176) rfl ?_
  refine zr_call0 (res := (some (.int r.1))) (S' := r.2) (st := []) (st' := [.int r.1]) (ce' := (ce + 1)) (sl' := (sl + 6)) (P' := True) (zk_V h0 zcX6 (zcl_ex hr) (fun l D z0 => kX6_prime l D z0 m (xs (i + (1 : Int32)).toNatClampNeg) ((h, n9) : ZS) r (zcl_of hr)) zw_882 zw_883 zw_884 zw_5 zw_885 rfl zyX6_prime (As := [.int (xs (i + (1 : Int32)).toNatClampNeg)]) (st := []) rfl (by decide) rfl (Nat.le_of_ble_eq_true rfl) ⟨Nat.le_trans (Nat.add_le_add_left (Nat.le_of_ble_eq_true rfl) ce) hce, Nat.le_trans (Nat.add_le_add_left (Nat.le_of_ble_eq_true rfl) sl) hsl⟩ dL_law_176) rfl rfl rfl (n := 179) rfl (fun h => h) ?_
  refine zr_istore [(0, .ref b), (1, .ref x), (2, .ref m), (3, .ref out), (4, .int i), (5, .int k), (6, .int r.1)] h0 dL_law_179 (by decide) rfl (n := 181) rfl ?_
  refine zr_aload_n h0 dL_law_181 rfl (n := 182) rfl ?_
  refine zr_call0 (res := some (.int k)) (S' := r.2) (st := []) (st' := [.int k]) (ce' := (ce + 1)) (sl' := (sl + 6)) (P' := True) (zk_V h0 zcX6 (zcl_ex ht) (fun l D z0 => kX6_thrown l D z0 m r.2 k (zcl_of ht)) zw_878 zw_879 zw_880 zw_5 zw_881 rfl zyX6_thrown (As := []) (st := []) rfl (by decide) rfl (Nat.le_of_ble_eq_true rfl) ⟨Nat.le_trans (Nat.add_le_add_left (Nat.le_of_ble_eq_true rfl) ce) hce, Nat.le_trans (Nat.add_le_add_left (Nat.le_of_ble_eq_true rfl) sl) hsl⟩ dL_law_182) rfl rfl rfl (n := 185) rfl (fun h => h) ?_
  refine zr_iload h0 dL_law_185 rfl (n := 187) rfl ?_
  refine zr_icmp_eqY (tgt := 192) h0 rfl dL_law_187 (by decide) ?_
  refine zr_iload h0 dL_law_192 rfl (n := 194) rfl ?_
  by_cases hk : k = 0
  · refine zr_if_neN (tgt := 209) h0 hk dL_law_194 (by decide) ?_
    refine zr_aload_n h0 dL_law_197 rfl (n := 198) rfl ?_
    refine zr_iconst (0 : Int32) h0 (by decide) dL_law_198 (n := 199) rfl ?_
    refine zr_laloadK h0 (hv hk) dL_law_199 (n := 200) rfl ?_
    refine zr_iload h0 dL_law_200 rfl (n := 202) rfl ?_
    refine zr_i2l h0 dL_law_202 (n := 203) rfl ?_
    refine zr_lcmp h0 dL_law_203 (n := 204) rfl ?_
    refine zr_if_eqY (tgt := 209) h0 (lg_cmp_self _) dL_law_204 (by decide) ?_
    refine zr_goto (tgt := 2007) h0 dL_law_209 (by decide) ?_
    exact zv_wide (ce' := ce + 8) (sl' := sl + 119) (zv_sub (lv' := [(0, .ref b), (1, .ref x), (2, .ref m), (3, .ref out), (4, .int i)]) (kk _ hI) (zsub_of [0, 1, 2, 3, 4] rfl)) (Nat.add_le_add_left (Nat.le_of_ble_eq_true rfl) _) (Nat.add_le_add_left (Nat.le_of_ble_eq_true rfl) _)
  · refine zr_if_neY (tgt := 209) h0 hk dL_law_194 (by decide) ?_
    refine zr_goto (tgt := 2007) h0 dL_law_209 (by decide) ?_
    exact zv_wide (ce' := ce + 8) (sl' := sl + 119) (zv_sub (lv' := [(0, .ref b), (1, .ref x), (2, .ref m), (3, .ref out), (4, .int i)]) (kk _ hI) (zsub_of [0, 1, 2, 3, 4] rfl)) (Nat.add_le_add_left (Nat.le_of_ble_eq_true rfl) _) (Nat.add_le_add_left (Nat.le_of_ble_eq_true rfl) _)
def ok_1 (x m out : Nat) (a1 a2 a3 : Int32) (S : ZS) (I : ZS → Prop) : Prop := ∃ (k : Int32) (h : ZH), fL_cube x a1 a2 a3 out S = some (k, h) ∧ ∀ n : Nat, zFr h n → ∃ r, zcl ((h, n) : ZS) m 6 (fX6_cube m a1 a2 a3 (h, n)) = some r ∧ zcl r.2 m 6 (fX6_thrown m r.2) = some k ∧ (k = 0 → zaJ r.2 out 0 = some (Int32.toInt64 r.1)) ∧ I r.2
set_option maxHeartbeats 4000000 in
set_option maxRecDepth 100000 in
theorem lc_1 {G : ZG} {b L x m out : Nat} {xs : Nat → Int32} {S : ZS} {ce sl : Nat} {i : Int32} {I : ZS → Prop} (h0 : zFix G code RL 8 (some .boolean) room_1) (hfl : zFlag G) (hS : zScr G b L xs) (hin : ∀ j : Int32, (0 ≤ j.toInt ∧ j.toInt ≤ 5) → vp_in (i + j) L) (hok : ok_1 x m out (xs (i + (1 : Int32)).toNatClampNeg) (xs (i + (2 : Int32)).toNatClampNeg) (xs (i + (3 : Int32)).toNatClampNeg) S I) (hce : ce + 8 ≤ 601024) (hsl : sl + 119 ≤ 7293034) (kk : ∀ S1 : ZS, I S1 → zV G 8 S1 (ce + 8) (sl + 119) 2007 [(0, .ref b), (1, .ref x), (2, .ref m), (3, .ref out), (4, .int i)] [] True) : zV G 8 S ce sl 212 [(0, .ref b), (1, .ref x), (2, .ref m), (3, .ref out), (4, .int i)] [] True := by
  obtain ⟨k, h, hw, hok⟩ := hok
  refine zr_aload_n h0 dL_law_212 rfl (n := 213) rfl ?_
  refine zr_aload_n h0 dL_law_213 rfl (n := 214) rfl ?_
  refine zr_iload h0 dL_law_214 rfl (n := 216) rfl ?_
  refine zr_iconst (1 : Int32) h0 (by decide) dL_law_216 (n := 217) rfl ?_
  refine zr_iadd h0 dL_law_217 (n := 218) rfl ?_
  refine zr_sld h0 hS (hin (1 : Int32) (by decide)) dL_law_218 (n := 219) rfl ?_
  refine zr_aload_n h0 dL_law_219 rfl (n := 220) rfl ?_
  refine zr_iload h0 dL_law_220 rfl (n := 222) rfl ?_
  refine zr_iconst (2 : Int32) h0 (by decide) dL_law_222 (n := 223) rfl ?_
  refine zr_iadd h0 dL_law_223 (n := 224) rfl ?_
  refine zr_sld h0 hS (hin (2 : Int32) (by decide)) dL_law_224 (n := 225) rfl ?_
  refine zr_aload_n h0 dL_law_225 rfl (n := 226) rfl ?_
  refine zr_iload h0 dL_law_226 rfl (n := 228) rfl ?_
  refine zr_iconst (3 : Int32) h0 (by decide) dL_law_228 (n := 229) rfl ?_
  refine zr_iadd h0 dL_law_229 (n := 230) rfl ?_
  refine zr_sld h0 hS (hin (3 : Int32) (by decide)) dL_law_230 (n := 231) rfl ?_
  refine zr_aload_n h0 dL_law_231 rfl (n := 232) rfl ?_
  refine zr_callW (ce + 5) (sl + 87) h0 hfl (fun l D z0 hlt => kL_cube l D z0 hlt x (xs (i + (1 : Int32)).toNatClampNeg) (xs (i + (2 : Int32)).toNatClampNeg) (xs (i + (3 : Int32)).toNatClampNeg) out S (k, h) hw) zw_196 zw_197 zw_0 zw_198 zyL_cube (As := [.ref x, .int (xs (i + (1 : Int32)).toNatClampNeg), .int (xs (i + (2 : Int32)).toNatClampNeg), .int (xs (i + (3 : Int32)).toNatClampNeg), .ref out]) (st := []) rfl (by decide) rfl (Nat.le_of_ble_eq_true rfl) ⟨Nat.le_trans (Nat.add_le_add_left (Nat.le_of_ble_eq_true rfl) ce) hce, Nat.le_trans (Nat.add_le_add_left (Nat.le_of_ble_eq_true rfl) sl) hsl⟩ dL_law_232 rfl rfl (n := 235) rfl (fun n9 => ?_)
  refine zv_fr (fun hfr => ?_)
  obtain ⟨r, hr, ht, hv, hI⟩ := hok n9 hfr
  refine zr_istore [(0, .ref b), (1, .ref x), (2, .ref m), (3, .ref out), (4, .int i), (5, .int k)] h0 dL_law_235 (by decide) rfl (n := 237) rfl ?_
  refine zr_aload_n h0 dL_law_237 rfl (n := 238) rfl ?_
  refine zr_aload_n h0 dL_law_238 rfl (n := 239) rfl ?_
  refine zr_iload h0 dL_law_239 rfl (n := 241) rfl ?_
  refine zr_iconst (1 : Int32) h0 (by decide) dL_law_241 (n := 242) rfl ?_
  refine zr_iadd h0 dL_law_242 (n := 243) rfl ?_
  refine zr_sld h0 hS (hin (1 : Int32) (by decide)) dL_law_243 (n := 244) rfl ?_
  refine zr_aload_n h0 dL_law_244 rfl (n := 245) rfl ?_
  refine zr_iload h0 dL_law_245 rfl (n := 247) rfl ?_
  refine zr_iconst (2 : Int32) h0 (by decide) dL_law_247 (n := 248) rfl ?_
  refine zr_iadd h0 dL_law_248 (n := 249) rfl ?_
  refine zr_sld h0 hS (hin (2 : Int32) (by decide)) dL_law_249 (n := 250) rfl ?_
  refine zr_aload_n h0 dL_law_250 rfl (n := 251) rfl ?_
  refine zr_iload h0 dL_law_251 rfl (n := 253) rfl ?_
  refine zr_iconst (3 : Int32) h0 (by decide) dL_law_253 (n := 254) rfl ?_
  refine zr_iadd h0 dL_law_254 (n := 255) rfl ?_
  refine zr_sld h0 hS (hin (3 : Int32) (by decide)) dL_law_255 (n := 256) rfl ?_
  refine zr_call0 (res := (some (.int r.1))) (S' := r.2) (st := []) (st' := [.int r.1]) (ce' := (ce + 5)) (sl' := (sl + 87)) (P' := True) (zk_V h0 zcX6 (zcl_ex hr) (fun l D z0 => kX6_cube l D z0 m (xs (i + (1 : Int32)).toNatClampNeg) (xs (i + (2 : Int32)).toNatClampNeg) (xs (i + (3 : Int32)).toNatClampNeg) ((h, n9) : ZS) r (zcl_of hr)) zw_890 zw_891 zw_892 zw_5 zw_893 rfl zyX6_cube (As := [.int (xs (i + (1 : Int32)).toNatClampNeg), .int (xs (i + (2 : Int32)).toNatClampNeg), .int (xs (i + (3 : Int32)).toNatClampNeg)]) (st := []) rfl (by decide) rfl (Nat.le_of_ble_eq_true rfl) ⟨Nat.le_trans (Nat.add_le_add_left (Nat.le_of_ble_eq_true rfl) ce) hce, Nat.le_trans (Nat.add_le_add_left (Nat.le_of_ble_eq_true rfl) sl) hsl⟩ dL_law_256) rfl rfl rfl (n := 259) rfl (fun h => h) ?_
  refine zr_istore [(0, .ref b), (1, .ref x), (2, .ref m), (3, .ref out), (4, .int i), (5, .int k), (6, .int r.1)] h0 dL_law_259 (by decide) rfl (n := 261) rfl ?_
  refine zr_aload_n h0 dL_law_261 rfl (n := 262) rfl ?_
  refine zr_call0 (res := some (.int k)) (S' := r.2) (st := []) (st' := [.int k]) (ce' := (ce + 5)) (sl' := (sl + 87)) (P' := True) (zk_V h0 zcX6 (zcl_ex ht) (fun l D z0 => kX6_thrown l D z0 m r.2 k (zcl_of ht)) zw_878 zw_879 zw_880 zw_5 zw_881 rfl zyX6_thrown (As := []) (st := []) rfl (by decide) rfl (Nat.le_of_ble_eq_true rfl) ⟨Nat.le_trans (Nat.add_le_add_left (Nat.le_of_ble_eq_true rfl) ce) hce, Nat.le_trans (Nat.add_le_add_left (Nat.le_of_ble_eq_true rfl) sl) hsl⟩ dL_law_262) rfl rfl rfl (n := 265) rfl (fun h => h) ?_
  refine zr_iload h0 dL_law_265 rfl (n := 267) rfl ?_
  refine zr_icmp_eqY (tgt := 272) h0 rfl dL_law_267 (by decide) ?_
  refine zr_iload h0 dL_law_272 rfl (n := 274) rfl ?_
  by_cases hk : k = 0
  · refine zr_if_neN (tgt := 289) h0 hk dL_law_274 (by decide) ?_
    refine zr_aload_n h0 dL_law_277 rfl (n := 278) rfl ?_
    refine zr_iconst (0 : Int32) h0 (by decide) dL_law_278 (n := 279) rfl ?_
    refine zr_laloadK h0 (hv hk) dL_law_279 (n := 280) rfl ?_
    refine zr_iload h0 dL_law_280 rfl (n := 282) rfl ?_
    refine zr_i2l h0 dL_law_282 (n := 283) rfl ?_
    refine zr_lcmp h0 dL_law_283 (n := 284) rfl ?_
    refine zr_if_eqY (tgt := 289) h0 (lg_cmp_self _) dL_law_284 (by decide) ?_
    refine zr_goto (tgt := 2007) h0 dL_law_289 (by decide) ?_
    exact zv_wide (ce' := ce + 8) (sl' := sl + 119) (zv_sub (lv' := [(0, .ref b), (1, .ref x), (2, .ref m), (3, .ref out), (4, .int i)]) (kk _ hI) (zsub_of [0, 1, 2, 3, 4] rfl)) (Nat.add_le_add_left (Nat.le_of_ble_eq_true rfl) _) (Nat.add_le_add_left (Nat.le_of_ble_eq_true rfl) _)
  · refine zr_if_neY (tgt := 289) h0 hk dL_law_274 (by decide) ?_
    refine zr_goto (tgt := 2007) h0 dL_law_289 (by decide) ?_
    exact zv_wide (ce' := ce + 8) (sl' := sl + 119) (zv_sub (lv' := [(0, .ref b), (1, .ref x), (2, .ref m), (3, .ref out), (4, .int i)]) (kk _ hI) (zsub_of [0, 1, 2, 3, 4] rfl)) (Nat.add_le_add_left (Nat.le_of_ble_eq_true rfl) _) (Nat.add_le_add_left (Nat.le_of_ble_eq_true rfl) _)
def ok_2 (x m out : Nat) (a1 a2 a3 : Int32) (S : ZS) (I : ZS → Prop) : Prop := ∃ (k : Int32) (h : ZH), fL_matrices x a1 a2 a3 out S = some (k, h) ∧ ∀ n : Nat, zFr h n → ∃ r, zcl ((h, n) : ZS) m 6 (fX6_matrices m a1 a2 a3 (h, n)) = some r ∧ zcl r.2 m 6 (fX6_thrown m r.2) = some k ∧ (k = 0 → zaJ r.2 out 0 = some (Int32.toInt64 r.1)) ∧ I r.2
set_option maxHeartbeats 4000000 in
set_option maxRecDepth 100000 in
theorem lc_2 {G : ZG} {b L x m out : Nat} {xs : Nat → Int32} {S : ZS} {ce sl : Nat} {i : Int32} {I : ZS → Prop} (h0 : zFix G code RL 8 (some .boolean) room_1) (hfl : zFlag G) (hS : zScr G b L xs) (hin : ∀ j : Int32, (0 ≤ j.toInt ∧ j.toInt ≤ 5) → vp_in (i + j) L) (hok : ok_2 x m out (xs (i + (1 : Int32)).toNatClampNeg) (xs (i + (2 : Int32)).toNatClampNeg) (xs (i + (3 : Int32)).toNatClampNeg) S I) (hce : ce + 8 ≤ 601024) (hsl : sl + 119 ≤ 7293034) (kk : ∀ S1 : ZS, I S1 → zV G 8 S1 (ce + 8) (sl + 119) 2007 [(0, .ref b), (1, .ref x), (2, .ref m), (3, .ref out), (4, .int i)] [] True) : zV G 8 S ce sl 292 [(0, .ref b), (1, .ref x), (2, .ref m), (3, .ref out), (4, .int i)] [] True := by
  obtain ⟨k, h, hw, hok⟩ := hok
  refine zr_aload_n h0 dL_law_292 rfl (n := 293) rfl ?_
  refine zr_aload_n h0 dL_law_293 rfl (n := 294) rfl ?_
  refine zr_iload h0 dL_law_294 rfl (n := 296) rfl ?_
  refine zr_iconst (1 : Int32) h0 (by decide) dL_law_296 (n := 297) rfl ?_
  refine zr_iadd h0 dL_law_297 (n := 298) rfl ?_
  refine zr_sld h0 hS (hin (1 : Int32) (by decide)) dL_law_298 (n := 299) rfl ?_
  refine zr_aload_n h0 dL_law_299 rfl (n := 300) rfl ?_
  refine zr_iload h0 dL_law_300 rfl (n := 302) rfl ?_
  refine zr_iconst (2 : Int32) h0 (by decide) dL_law_302 (n := 303) rfl ?_
  refine zr_iadd h0 dL_law_303 (n := 304) rfl ?_
  refine zr_sld h0 hS (hin (2 : Int32) (by decide)) dL_law_304 (n := 305) rfl ?_
  refine zr_aload_n h0 dL_law_305 rfl (n := 306) rfl ?_
  refine zr_iload h0 dL_law_306 rfl (n := 308) rfl ?_
  refine zr_iconst (3 : Int32) h0 (by decide) dL_law_308 (n := 309) rfl ?_
  refine zr_iadd h0 dL_law_309 (n := 310) rfl ?_
  refine zr_sld h0 hS (hin (3 : Int32) (by decide)) dL_law_310 (n := 311) rfl ?_
  refine zr_aload_n h0 dL_law_311 rfl (n := 312) rfl ?_
  refine zr_callW (ce + 8) (sl + 105) h0 hfl (fun l D z0 hlt => kL_matrices l D z0 hlt x (xs (i + (1 : Int32)).toNatClampNeg) (xs (i + (2 : Int32)).toNatClampNeg) (xs (i + (3 : Int32)).toNatClampNeg) out S (k, h) hw) zw_244 zw_245 zw_0 zw_246 zyL_matrices (As := [.ref x, .int (xs (i + (1 : Int32)).toNatClampNeg), .int (xs (i + (2 : Int32)).toNatClampNeg), .int (xs (i + (3 : Int32)).toNatClampNeg), .ref out]) (st := []) rfl (by decide) rfl (Nat.le_of_ble_eq_true rfl) ⟨Nat.le_trans (Nat.add_le_add_left (Nat.le_of_ble_eq_true rfl) ce) hce, Nat.le_trans (Nat.add_le_add_left (Nat.le_of_ble_eq_true rfl) sl) hsl⟩ dL_law_312 rfl rfl (n := 315) rfl (fun n9 => ?_)
  refine zv_fr (fun hfr => ?_)
  obtain ⟨r, hr, ht, hv, hI⟩ := hok n9 hfr
  refine zr_istore [(0, .ref b), (1, .ref x), (2, .ref m), (3, .ref out), (4, .int i), (5, .int k)] h0 dL_law_315 (by decide) rfl (n := 317) rfl ?_
  refine zr_aload_n h0 dL_law_317 rfl (n := 318) rfl ?_
  refine zr_aload_n h0 dL_law_318 rfl (n := 319) rfl ?_
  refine zr_iload h0 dL_law_319 rfl (n := 321) rfl ?_
  refine zr_iconst (1 : Int32) h0 (by decide) dL_law_321 (n := 322) rfl ?_
  refine zr_iadd h0 dL_law_322 (n := 323) rfl ?_
  refine zr_sld h0 hS (hin (1 : Int32) (by decide)) dL_law_323 (n := 324) rfl ?_
  refine zr_aload_n h0 dL_law_324 rfl (n := 325) rfl ?_
  refine zr_iload h0 dL_law_325 rfl (n := 327) rfl ?_
  refine zr_iconst (2 : Int32) h0 (by decide) dL_law_327 (n := 328) rfl ?_
  refine zr_iadd h0 dL_law_328 (n := 329) rfl ?_
  refine zr_sld h0 hS (hin (2 : Int32) (by decide)) dL_law_329 (n := 330) rfl ?_
  refine zr_aload_n h0 dL_law_330 rfl (n := 331) rfl ?_
  refine zr_iload h0 dL_law_331 rfl (n := 333) rfl ?_
  refine zr_iconst (3 : Int32) h0 (by decide) dL_law_333 (n := 334) rfl ?_
  refine zr_iadd h0 dL_law_334 (n := 335) rfl ?_
  refine zr_sld h0 hS (hin (3 : Int32) (by decide)) dL_law_335 (n := 336) rfl ?_
  refine zr_call0 (res := (some (.int r.1))) (S' := r.2) (st := []) (st' := [.int r.1]) (ce' := (ce + 8)) (sl' := (sl + 105)) (P' := True) (zk_V h0 zcX6 (zcl_ex hr) (fun l D z0 => kX6_matrices l D z0 m (xs (i + (1 : Int32)).toNatClampNeg) (xs (i + (2 : Int32)).toNatClampNeg) (xs (i + (3 : Int32)).toNatClampNeg) ((h, n9) : ZS) r (zcl_of hr)) zw_905 zw_906 zw_907 zw_5 zw_908 rfl zyX6_matrices (As := [.int (xs (i + (1 : Int32)).toNatClampNeg), .int (xs (i + (2 : Int32)).toNatClampNeg), .int (xs (i + (3 : Int32)).toNatClampNeg)]) (st := []) rfl (by decide) rfl (Nat.le_of_ble_eq_true rfl) ⟨Nat.le_trans (Nat.add_le_add_left (Nat.le_of_ble_eq_true rfl) ce) hce, Nat.le_trans (Nat.add_le_add_left (Nat.le_of_ble_eq_true rfl) sl) hsl⟩ dL_law_336) rfl rfl rfl (n := 339) rfl (fun h => h) ?_
  refine zr_istore [(0, .ref b), (1, .ref x), (2, .ref m), (3, .ref out), (4, .int i), (5, .int k), (6, .int r.1)] h0 dL_law_339 (by decide) rfl (n := 341) rfl ?_
  refine zr_aload_n h0 dL_law_341 rfl (n := 342) rfl ?_
  refine zr_call0 (res := some (.int k)) (S' := r.2) (st := []) (st' := [.int k]) (ce' := (ce + 8)) (sl' := (sl + 105)) (P' := True) (zk_V h0 zcX6 (zcl_ex ht) (fun l D z0 => kX6_thrown l D z0 m r.2 k (zcl_of ht)) zw_878 zw_879 zw_880 zw_5 zw_881 rfl zyX6_thrown (As := []) (st := []) rfl (by decide) rfl (Nat.le_of_ble_eq_true rfl) ⟨Nat.le_trans (Nat.add_le_add_left (Nat.le_of_ble_eq_true rfl) ce) hce, Nat.le_trans (Nat.add_le_add_left (Nat.le_of_ble_eq_true rfl) sl) hsl⟩ dL_law_342) rfl rfl rfl (n := 345) rfl (fun h => h) ?_
  refine zr_iload h0 dL_law_345 rfl (n := 347) rfl ?_
  refine zr_icmp_eqY (tgt := 352) h0 rfl dL_law_347 (by decide) ?_
  refine zr_iload h0 dL_law_352 rfl (n := 354) rfl ?_
  by_cases hk : k = 0
  · refine zr_if_neN (tgt := 369) h0 hk dL_law_354 (by decide) ?_
    refine zr_aload_n h0 dL_law_357 rfl (n := 358) rfl ?_
    refine zr_iconst (0 : Int32) h0 (by decide) dL_law_358 (n := 359) rfl ?_
    refine zr_laloadK h0 (hv hk) dL_law_359 (n := 360) rfl ?_
    refine zr_iload h0 dL_law_360 rfl (n := 362) rfl ?_
    refine zr_i2l h0 dL_law_362 (n := 363) rfl ?_
    refine zr_lcmp h0 dL_law_363 (n := 364) rfl ?_
    refine zr_if_eqY (tgt := 369) h0 (lg_cmp_self _) dL_law_364 (by decide) ?_
    refine zr_goto (tgt := 2007) h0 dL_law_369 (by decide) ?_
    exact zv_wide (ce' := ce + 8) (sl' := sl + 119) (zv_sub (lv' := [(0, .ref b), (1, .ref x), (2, .ref m), (3, .ref out), (4, .int i)]) (kk _ hI) (zsub_of [0, 1, 2, 3, 4] rfl)) (Nat.add_le_add_left (Nat.le_of_ble_eq_true rfl) _) (Nat.add_le_add_left (Nat.le_of_ble_eq_true rfl) _)
  · refine zr_if_neY (tgt := 369) h0 hk dL_law_354 (by decide) ?_
    refine zr_goto (tgt := 2007) h0 dL_law_369 (by decide) ?_
    exact zv_wide (ce' := ce + 8) (sl' := sl + 119) (zv_sub (lv' := [(0, .ref b), (1, .ref x), (2, .ref m), (3, .ref out), (4, .int i)]) (kk _ hI) (zsub_of [0, 1, 2, 3, 4] rfl)) (Nat.add_le_add_left (Nat.le_of_ble_eq_true rfl) _) (Nat.add_le_add_left (Nat.le_of_ble_eq_true rfl) _)
def ok_3 (x m out : Nat) (a1 a2 : Int32) (S : ZS) (I : ZS → Prop) : Prop := ∃ (k : Int32) (h : ZH), fL_polynomials x a1 a2 out S = some (k, h) ∧ ∀ n : Nat, zFr h n → ∃ r, zcl ((h, n) : ZS) m 6 (fX6_polynomials m a1 a2 (h, n)) = some r ∧ zcl r.2 m 6 (fX6_thrown m r.2) = some k ∧ (k = 0 → zaJ r.2 out 0 = some (Int32.toInt64 r.1)) ∧ I r.2
set_option maxHeartbeats 4000000 in
set_option maxRecDepth 100000 in
theorem lc_3 {G : ZG} {b L x m out : Nat} {xs : Nat → Int32} {S : ZS} {ce sl : Nat} {i : Int32} {I : ZS → Prop} (h0 : zFix G code RL 8 (some .boolean) room_1) (hfl : zFlag G) (hS : zScr G b L xs) (hin : ∀ j : Int32, (0 ≤ j.toInt ∧ j.toInt ≤ 5) → vp_in (i + j) L) (hok : ok_3 x m out (xs (i + (1 : Int32)).toNatClampNeg) (xs (i + (2 : Int32)).toNatClampNeg) S I) (hce : ce + 8 ≤ 601024) (hsl : sl + 119 ≤ 7293034) (kk : ∀ S1 : ZS, I S1 → zV G 8 S1 (ce + 8) (sl + 119) 2007 [(0, .ref b), (1, .ref x), (2, .ref m), (3, .ref out), (4, .int i)] [] True) : zV G 8 S ce sl 372 [(0, .ref b), (1, .ref x), (2, .ref m), (3, .ref out), (4, .int i)] [] True := by
  obtain ⟨k, h, hw, hok⟩ := hok
  refine zr_aload_n h0 dL_law_372 rfl (n := 373) rfl ?_
  refine zr_aload_n h0 dL_law_373 rfl (n := 374) rfl ?_
  refine zr_iload h0 dL_law_374 rfl (n := 376) rfl ?_
  refine zr_iconst (1 : Int32) h0 (by decide) dL_law_376 (n := 377) rfl ?_
  refine zr_iadd h0 dL_law_377 (n := 378) rfl ?_
  refine zr_sld h0 hS (hin (1 : Int32) (by decide)) dL_law_378 (n := 379) rfl ?_
  refine zr_aload_n h0 dL_law_379 rfl (n := 380) rfl ?_
  refine zr_iload h0 dL_law_380 rfl (n := 382) rfl ?_
  refine zr_iconst (2 : Int32) h0 (by decide) dL_law_382 (n := 383) rfl ?_
  refine zr_iadd h0 dL_law_383 (n := 384) rfl ?_
  refine zr_sld h0 hS (hin (2 : Int32) (by decide)) dL_law_384 (n := 385) rfl ?_
  refine zr_aload_n h0 dL_law_385 rfl (n := 386) rfl ?_
  refine zr_callW (ce + 7) (sl + 99) h0 hfl (fun l D z0 hlt => kL_polynomials l D z0 hlt x (xs (i + (1 : Int32)).toNatClampNeg) (xs (i + (2 : Int32)).toNatClampNeg) out S (k, h) hw) zw_261 zw_262 zw_0 zw_263 zyL_polynomials (As := [.ref x, .int (xs (i + (1 : Int32)).toNatClampNeg), .int (xs (i + (2 : Int32)).toNatClampNeg), .ref out]) (st := []) rfl (by decide) rfl (Nat.le_of_ble_eq_true rfl) ⟨Nat.le_trans (Nat.add_le_add_left (Nat.le_of_ble_eq_true rfl) ce) hce, Nat.le_trans (Nat.add_le_add_left (Nat.le_of_ble_eq_true rfl) sl) hsl⟩ dL_law_386 rfl rfl (n := 389) rfl (fun n9 => ?_)
  refine zv_fr (fun hfr => ?_)
  obtain ⟨r, hr, ht, hv, hI⟩ := hok n9 hfr
  refine zr_istore [(0, .ref b), (1, .ref x), (2, .ref m), (3, .ref out), (4, .int i), (5, .int k)] h0 dL_law_389 (by decide) rfl (n := 391) rfl ?_
  refine zr_aload_n h0 dL_law_391 rfl (n := 392) rfl ?_
  refine zr_aload_n h0 dL_law_392 rfl (n := 393) rfl ?_
  refine zr_iload h0 dL_law_393 rfl (n := 395) rfl ?_
  refine zr_iconst (1 : Int32) h0 (by decide) dL_law_395 (n := 396) rfl ?_
  refine zr_iadd h0 dL_law_396 (n := 397) rfl ?_
  refine zr_sld h0 hS (hin (1 : Int32) (by decide)) dL_law_397 (n := 398) rfl ?_
  refine zr_aload_n h0 dL_law_398 rfl (n := 399) rfl ?_
  refine zr_iload h0 dL_law_399 rfl (n := 401) rfl ?_
  refine zr_iconst (2 : Int32) h0 (by decide) dL_law_401 (n := 402) rfl ?_
  refine zr_iadd h0 dL_law_402 (n := 403) rfl ?_
  refine zr_sld h0 hS (hin (2 : Int32) (by decide)) dL_law_403 (n := 404) rfl ?_
  refine zr_call0 (res := (some (.int r.1))) (S' := r.2) (st := []) (st' := [.int r.1]) (ce' := (ce + 7)) (sl' := (sl + 99)) (P' := True) (zk_V h0 zcX6 (zcl_ex hr) (fun l D z0 => kX6_polynomials l D z0 m (xs (i + (1 : Int32)).toNatClampNeg) (xs (i + (2 : Int32)).toNatClampNeg) ((h, n9) : ZS) r (zcl_of hr)) zw_912 zw_913 zw_914 zw_5 zw_915 rfl zyX6_polynomials (As := [.int (xs (i + (1 : Int32)).toNatClampNeg), .int (xs (i + (2 : Int32)).toNatClampNeg)]) (st := []) rfl (by decide) rfl (Nat.le_of_ble_eq_true rfl) ⟨Nat.le_trans (Nat.add_le_add_left (Nat.le_of_ble_eq_true rfl) ce) hce, Nat.le_trans (Nat.add_le_add_left (Nat.le_of_ble_eq_true rfl) sl) hsl⟩ dL_law_404) rfl rfl rfl (n := 407) rfl (fun h => h) ?_
  refine zr_istore [(0, .ref b), (1, .ref x), (2, .ref m), (3, .ref out), (4, .int i), (5, .int k), (6, .int r.1)] h0 dL_law_407 (by decide) rfl (n := 409) rfl ?_
  refine zr_aload_n h0 dL_law_409 rfl (n := 410) rfl ?_
  refine zr_call0 (res := some (.int k)) (S' := r.2) (st := []) (st' := [.int k]) (ce' := (ce + 7)) (sl' := (sl + 99)) (P' := True) (zk_V h0 zcX6 (zcl_ex ht) (fun l D z0 => kX6_thrown l D z0 m r.2 k (zcl_of ht)) zw_878 zw_879 zw_880 zw_5 zw_881 rfl zyX6_thrown (As := []) (st := []) rfl (by decide) rfl (Nat.le_of_ble_eq_true rfl) ⟨Nat.le_trans (Nat.add_le_add_left (Nat.le_of_ble_eq_true rfl) ce) hce, Nat.le_trans (Nat.add_le_add_left (Nat.le_of_ble_eq_true rfl) sl) hsl⟩ dL_law_410) rfl rfl rfl (n := 413) rfl (fun h => h) ?_
  refine zr_iload h0 dL_law_413 rfl (n := 415) rfl ?_
  refine zr_icmp_eqY (tgt := 420) h0 rfl dL_law_415 (by decide) ?_
  refine zr_iload h0 dL_law_420 rfl (n := 422) rfl ?_
  by_cases hk : k = 0
  · refine zr_if_neN (tgt := 437) h0 hk dL_law_422 (by decide) ?_
    refine zr_aload_n h0 dL_law_425 rfl (n := 426) rfl ?_
    refine zr_iconst (0 : Int32) h0 (by decide) dL_law_426 (n := 427) rfl ?_
    refine zr_laloadK h0 (hv hk) dL_law_427 (n := 428) rfl ?_
    refine zr_iload h0 dL_law_428 rfl (n := 430) rfl ?_
    refine zr_i2l h0 dL_law_430 (n := 431) rfl ?_
    refine zr_lcmp h0 dL_law_431 (n := 432) rfl ?_
    refine zr_if_eqY (tgt := 437) h0 (lg_cmp_self _) dL_law_432 (by decide) ?_
    refine zr_goto (tgt := 2007) h0 dL_law_437 (by decide) ?_
    exact zv_wide (ce' := ce + 8) (sl' := sl + 119) (zv_sub (lv' := [(0, .ref b), (1, .ref x), (2, .ref m), (3, .ref out), (4, .int i)]) (kk _ hI) (zsub_of [0, 1, 2, 3, 4] rfl)) (Nat.add_le_add_left (Nat.le_of_ble_eq_true rfl) _) (Nat.add_le_add_left (Nat.le_of_ble_eq_true rfl) _)
  · refine zr_if_neY (tgt := 437) h0 hk dL_law_422 (by decide) ?_
    refine zr_goto (tgt := 2007) h0 dL_law_437 (by decide) ?_
    exact zv_wide (ce' := ce + 8) (sl' := sl + 119) (zv_sub (lv' := [(0, .ref b), (1, .ref x), (2, .ref m), (3, .ref out), (4, .int i)]) (kk _ hI) (zsub_of [0, 1, 2, 3, 4] rfl)) (Nat.add_le_add_left (Nat.le_of_ble_eq_true rfl) _) (Nat.add_le_add_left (Nat.le_of_ble_eq_true rfl) _)
def ok_4 (x m out : Nat) (a1 : Int32) (S : ZS) (I : ZS → Prop) : Prop := ∃ (k : Int32) (h : ZH), fL_group x a1 out S = some (k, h) ∧ ∀ n : Nat, zFr h n → ∃ r, zcl ((h, n) : ZS) m 6 (fX6_group m a1 (h, n)) = some r ∧ zcl r.2 m 6 (fX6_thrown m r.2) = some k ∧ (k = 0 → zaJ r.2 out 0 = some (Int32.toInt64 r.1)) ∧ I r.2
set_option maxHeartbeats 4000000 in
set_option maxRecDepth 100000 in
theorem lc_4 {G : ZG} {b L x m out : Nat} {xs : Nat → Int32} {S : ZS} {ce sl : Nat} {i : Int32} {I : ZS → Prop} (h0 : zFix G code RL 8 (some .boolean) room_1) (hfl : zFlag G) (hS : zScr G b L xs) (hin : ∀ j : Int32, (0 ≤ j.toInt ∧ j.toInt ≤ 5) → vp_in (i + j) L) (hok : ok_4 x m out (xs (i + (1 : Int32)).toNatClampNeg) S I) (hce : ce + 8 ≤ 601024) (hsl : sl + 119 ≤ 7293034) (kk : ∀ S1 : ZS, I S1 → zV G 8 S1 (ce + 8) (sl + 119) 2007 [(0, .ref b), (1, .ref x), (2, .ref m), (3, .ref out), (4, .int i)] [] True) : zV G 8 S ce sl 440 [(0, .ref b), (1, .ref x), (2, .ref m), (3, .ref out), (4, .int i)] [] True := by
  obtain ⟨k, h, hw, hok⟩ := hok
  refine zr_aload_n h0 dL_law_440 rfl (n := 441) rfl ?_
  refine zr_aload_n h0 dL_law_441 rfl (n := 442) rfl ?_
  refine zr_iload h0 dL_law_442 rfl (n := 444) rfl ?_
  refine zr_iconst (1 : Int32) h0 (by decide) dL_law_444 (n := 445) rfl ?_
  refine zr_iadd h0 dL_law_445 (n := 446) rfl ?_
  refine zr_sld h0 hS (hin (1 : Int32) (by decide)) dL_law_446 (n := 447) rfl ?_
  refine zr_aload_n h0 dL_law_447 rfl (n := 448) rfl ?_
  refine zr_callW (ce + 5) (sl + 87) h0 hfl (fun l D z0 hlt => kL_group l D z0 hlt x (xs (i + (1 : Int32)).toNatClampNeg) out S (k, h) hw) zw_268 zw_269 zw_0 zw_270 zyL_group (As := [.ref x, .int (xs (i + (1 : Int32)).toNatClampNeg), .ref out]) (st := []) rfl (by decide) rfl (Nat.le_of_ble_eq_true rfl) ⟨Nat.le_trans (Nat.add_le_add_left (Nat.le_of_ble_eq_true rfl) ce) hce, Nat.le_trans (Nat.add_le_add_left (Nat.le_of_ble_eq_true rfl) sl) hsl⟩ dL_law_448 rfl rfl (n := 451) rfl (fun n9 => ?_)
  refine zv_fr (fun hfr => ?_)
  obtain ⟨r, hr, ht, hv, hI⟩ := hok n9 hfr
  refine zr_istore [(0, .ref b), (1, .ref x), (2, .ref m), (3, .ref out), (4, .int i), (5, .int k)] h0 dL_law_451 (by decide) rfl (n := 453) rfl ?_
  refine zr_aload_n h0 dL_law_453 rfl (n := 454) rfl ?_
  refine zr_aload_n h0 dL_law_454 rfl (n := 455) rfl ?_
  refine zr_iload h0 dL_law_455 rfl (n := 457) rfl ?_
  refine zr_iconst (1 : Int32) h0 (by decide) dL_law_457 (n := 458) rfl ?_
  refine zr_iadd h0 dL_law_458 (n := 459) rfl ?_
  refine zr_sld h0 hS (hin (1 : Int32) (by decide)) dL_law_459 (n := 460) rfl ?_
  refine zr_call0 (res := (some (.int r.1))) (S' := r.2) (st := []) (st' := [.int r.1]) (ce' := (ce + 5)) (sl' := (sl + 87)) (P' := True) (zk_V h0 zcX6 (zcl_ex hr) (fun l D z0 => kX6_group l D z0 m (xs (i + (1 : Int32)).toNatClampNeg) ((h, n9) : ZS) r (zcl_of hr)) zw_916 zw_917 zw_918 zw_5 zw_919 rfl zyX6_group (As := [.int (xs (i + (1 : Int32)).toNatClampNeg)]) (st := []) rfl (by decide) rfl (Nat.le_of_ble_eq_true rfl) ⟨Nat.le_trans (Nat.add_le_add_left (Nat.le_of_ble_eq_true rfl) ce) hce, Nat.le_trans (Nat.add_le_add_left (Nat.le_of_ble_eq_true rfl) sl) hsl⟩ dL_law_460) rfl rfl rfl (n := 463) rfl (fun h => h) ?_
  refine zr_istore [(0, .ref b), (1, .ref x), (2, .ref m), (3, .ref out), (4, .int i), (5, .int k), (6, .int r.1)] h0 dL_law_463 (by decide) rfl (n := 465) rfl ?_
  refine zr_aload_n h0 dL_law_465 rfl (n := 466) rfl ?_
  refine zr_call0 (res := some (.int k)) (S' := r.2) (st := []) (st' := [.int k]) (ce' := (ce + 5)) (sl' := (sl + 87)) (P' := True) (zk_V h0 zcX6 (zcl_ex ht) (fun l D z0 => kX6_thrown l D z0 m r.2 k (zcl_of ht)) zw_878 zw_879 zw_880 zw_5 zw_881 rfl zyX6_thrown (As := []) (st := []) rfl (by decide) rfl (Nat.le_of_ble_eq_true rfl) ⟨Nat.le_trans (Nat.add_le_add_left (Nat.le_of_ble_eq_true rfl) ce) hce, Nat.le_trans (Nat.add_le_add_left (Nat.le_of_ble_eq_true rfl) sl) hsl⟩ dL_law_466) rfl rfl rfl (n := 469) rfl (fun h => h) ?_
  refine zr_iload h0 dL_law_469 rfl (n := 471) rfl ?_
  refine zr_icmp_eqY (tgt := 476) h0 rfl dL_law_471 (by decide) ?_
  refine zr_iload h0 dL_law_476 rfl (n := 478) rfl ?_
  by_cases hk : k = 0
  · refine zr_if_neN (tgt := 493) h0 hk dL_law_478 (by decide) ?_
    refine zr_aload_n h0 dL_law_481 rfl (n := 482) rfl ?_
    refine zr_iconst (0 : Int32) h0 (by decide) dL_law_482 (n := 483) rfl ?_
    refine zr_laloadK h0 (hv hk) dL_law_483 (n := 484) rfl ?_
    refine zr_iload h0 dL_law_484 rfl (n := 486) rfl ?_
    refine zr_i2l h0 dL_law_486 (n := 487) rfl ?_
    refine zr_lcmp h0 dL_law_487 (n := 488) rfl ?_
    refine zr_if_eqY (tgt := 493) h0 (lg_cmp_self _) dL_law_488 (by decide) ?_
    refine zr_goto (tgt := 2007) h0 dL_law_493 (by decide) ?_
    exact zv_wide (ce' := ce + 8) (sl' := sl + 119) (zv_sub (lv' := [(0, .ref b), (1, .ref x), (2, .ref m), (3, .ref out), (4, .int i)]) (kk _ hI) (zsub_of [0, 1, 2, 3, 4] rfl)) (Nat.add_le_add_left (Nat.le_of_ble_eq_true rfl) _) (Nat.add_le_add_left (Nat.le_of_ble_eq_true rfl) _)
  · refine zr_if_neY (tgt := 493) h0 hk dL_law_478 (by decide) ?_
    refine zr_goto (tgt := 2007) h0 dL_law_493 (by decide) ?_
    exact zv_wide (ce' := ce + 8) (sl' := sl + 119) (zv_sub (lv' := [(0, .ref b), (1, .ref x), (2, .ref m), (3, .ref out), (4, .int i)]) (kk _ hI) (zsub_of [0, 1, 2, 3, 4] rfl)) (Nat.add_le_add_left (Nat.le_of_ble_eq_true rfl) _) (Nat.add_le_add_left (Nat.le_of_ble_eq_true rfl) _)
def ok_5 (x m out : Nat) (a1 a2 a3 a4 a5 : Int32) (S : ZS) (I : ZS → Prop) : Prop := ∃ (k : Int32) (h : ZH), fL_set x a1 a2 a3 a4 a5 out S = some (k, h) ∧ ∀ n : Nat, zFr h n → ∃ r, zcl ((h, n) : ZS) m 6 (fX6_set m a1 a2 a3 a4 a5 (h, n)) = some r ∧ zcl r.2 m 6 (fX6_thrown m r.2) = some k ∧ (k = 0 → zaJ r.2 out 0 = some (Int32.toInt64 r.1)) ∧ I r.2
set_option maxHeartbeats 4000000 in
set_option maxRecDepth 100000 in
theorem lc_5 {G : ZG} {b L x m out : Nat} {xs : Nat → Int32} {S : ZS} {ce sl : Nat} {i : Int32} {I : ZS → Prop} (h0 : zFix G code RL 8 (some .boolean) room_1) (hfl : zFlag G) (hS : zScr G b L xs) (hin : ∀ j : Int32, (0 ≤ j.toInt ∧ j.toInt ≤ 5) → vp_in (i + j) L) (hok : ok_5 x m out (xs (i + (1 : Int32)).toNatClampNeg) (xs (i + (2 : Int32)).toNatClampNeg) (xs (i + (3 : Int32)).toNatClampNeg) (xs (i + (4 : Int32)).toNatClampNeg) (xs (i + (5 : Int32)).toNatClampNeg) S I) (hce : ce + 8 ≤ 601024) (hsl : sl + 119 ≤ 7293034) (kk : ∀ S1 : ZS, I S1 → zV G 8 S1 (ce + 8) (sl + 119) 2007 [(0, .ref b), (1, .ref x), (2, .ref m), (3, .ref out), (4, .int i)] [] True) : zV G 8 S ce sl 496 [(0, .ref b), (1, .ref x), (2, .ref m), (3, .ref out), (4, .int i)] [] True := by
  obtain ⟨k, h, hw, hok⟩ := hok
  refine zr_aload_n h0 dL_law_496 rfl (n := 497) rfl ?_
  refine zr_aload_n h0 dL_law_497 rfl (n := 498) rfl ?_
  refine zr_iload h0 dL_law_498 rfl (n := 500) rfl ?_
  refine zr_iconst (1 : Int32) h0 (by decide) dL_law_500 (n := 501) rfl ?_
  refine zr_iadd h0 dL_law_501 (n := 502) rfl ?_
  refine zr_sld h0 hS (hin (1 : Int32) (by decide)) dL_law_502 (n := 503) rfl ?_
  refine zr_aload_n h0 dL_law_503 rfl (n := 504) rfl ?_
  refine zr_iload h0 dL_law_504 rfl (n := 506) rfl ?_
  refine zr_iconst (2 : Int32) h0 (by decide) dL_law_506 (n := 507) rfl ?_
  refine zr_iadd h0 dL_law_507 (n := 508) rfl ?_
  refine zr_sld h0 hS (hin (2 : Int32) (by decide)) dL_law_508 (n := 509) rfl ?_
  refine zr_aload_n h0 dL_law_509 rfl (n := 510) rfl ?_
  refine zr_iload h0 dL_law_510 rfl (n := 512) rfl ?_
  refine zr_iconst (3 : Int32) h0 (by decide) dL_law_512 (n := 513) rfl ?_
  refine zr_iadd h0 dL_law_513 (n := 514) rfl ?_
  refine zr_sld h0 hS (hin (3 : Int32) (by decide)) dL_law_514 (n := 515) rfl ?_
  refine zr_aload_n h0 dL_law_515 rfl (n := 516) rfl ?_
  refine zr_iload h0 dL_law_516 rfl (n := 518) rfl ?_
  refine zr_iconst (4 : Int32) h0 (by decide) dL_law_518 (n := 519) rfl ?_
  refine zr_iadd h0 dL_law_519 (n := 520) rfl ?_
  refine zr_sld h0 hS (hin (4 : Int32) (by decide)) dL_law_520 (n := 521) rfl ?_
  refine zr_aload_n h0 dL_law_521 rfl (n := 522) rfl ?_
  refine zr_iload h0 dL_law_522 rfl (n := 524) rfl ?_
  refine zr_iconst (5 : Int32) h0 (by decide) dL_law_524 (n := 525) rfl ?_
  refine zr_iadd h0 dL_law_525 (n := 526) rfl ?_
  refine zr_sld h0 hS (hin (5 : Int32) (by decide)) dL_law_526 (n := 527) rfl ?_
  refine zr_aload_n h0 dL_law_527 rfl (n := 528) rfl ?_
  refine zr_callW (ce + 3) (sl + 18) h0 hfl (fun l D z0 hlt => kL_set l D z0 hlt x (xs (i + (1 : Int32)).toNatClampNeg) (xs (i + (2 : Int32)).toNatClampNeg) (xs (i + (3 : Int32)).toNatClampNeg) (xs (i + (4 : Int32)).toNatClampNeg) (xs (i + (5 : Int32)).toNatClampNeg) out S (k, h) hw) zw_278 zw_279 zw_0 zw_280 zyL_set (As := [.ref x, .int (xs (i + (1 : Int32)).toNatClampNeg), .int (xs (i + (2 : Int32)).toNatClampNeg), .int (xs (i + (3 : Int32)).toNatClampNeg), .int (xs (i + (4 : Int32)).toNatClampNeg), .int (xs (i + (5 : Int32)).toNatClampNeg), .ref out]) (st := []) rfl (by decide) rfl (Nat.le_of_ble_eq_true rfl) ⟨Nat.le_trans (Nat.add_le_add_left (Nat.le_of_ble_eq_true rfl) ce) hce, Nat.le_trans (Nat.add_le_add_left (Nat.le_of_ble_eq_true rfl) sl) hsl⟩ dL_law_528 rfl rfl (n := 531) rfl (fun n9 => ?_)
  refine zv_fr (fun hfr => ?_)
  obtain ⟨r, hr, ht, hv, hI⟩ := hok n9 hfr
  refine zr_istore [(0, .ref b), (1, .ref x), (2, .ref m), (3, .ref out), (4, .int i), (5, .int k)] h0 dL_law_531 (by decide) rfl (n := 533) rfl ?_
  refine zr_aload_n h0 dL_law_533 rfl (n := 534) rfl ?_
  refine zr_aload_n h0 dL_law_534 rfl (n := 535) rfl ?_
  refine zr_iload h0 dL_law_535 rfl (n := 537) rfl ?_
  refine zr_iconst (1 : Int32) h0 (by decide) dL_law_537 (n := 538) rfl ?_
  refine zr_iadd h0 dL_law_538 (n := 539) rfl ?_
  refine zr_sld h0 hS (hin (1 : Int32) (by decide)) dL_law_539 (n := 540) rfl ?_
  refine zr_aload_n h0 dL_law_540 rfl (n := 541) rfl ?_
  refine zr_iload h0 dL_law_541 rfl (n := 543) rfl ?_
  refine zr_iconst (2 : Int32) h0 (by decide) dL_law_543 (n := 544) rfl ?_
  refine zr_iadd h0 dL_law_544 (n := 545) rfl ?_
  refine zr_sld h0 hS (hin (2 : Int32) (by decide)) dL_law_545 (n := 546) rfl ?_
  refine zr_aload_n h0 dL_law_546 rfl (n := 547) rfl ?_
  refine zr_iload h0 dL_law_547 rfl (n := 549) rfl ?_
  refine zr_iconst (3 : Int32) h0 (by decide) dL_law_549 (n := 550) rfl ?_
  refine zr_iadd h0 dL_law_550 (n := 551) rfl ?_
  refine zr_sld h0 hS (hin (3 : Int32) (by decide)) dL_law_551 (n := 552) rfl ?_
  refine zr_aload_n h0 dL_law_552 rfl (n := 553) rfl ?_
  refine zr_iload h0 dL_law_553 rfl (n := 555) rfl ?_
  refine zr_iconst (4 : Int32) h0 (by decide) dL_law_555 (n := 556) rfl ?_
  refine zr_iadd h0 dL_law_556 (n := 557) rfl ?_
  refine zr_sld h0 hS (hin (4 : Int32) (by decide)) dL_law_557 (n := 558) rfl ?_
  refine zr_aload_n h0 dL_law_558 rfl (n := 559) rfl ?_
  refine zr_iload h0 dL_law_559 rfl (n := 561) rfl ?_
  refine zr_iconst (5 : Int32) h0 (by decide) dL_law_561 (n := 562) rfl ?_
  refine zr_iadd h0 dL_law_562 (n := 563) rfl ?_
  refine zr_sld h0 hS (hin (5 : Int32) (by decide)) dL_law_563 (n := 564) rfl ?_
  refine zr_call0 (res := (some (.int r.1))) (S' := r.2) (st := []) (st' := [.int r.1]) (ce' := (ce + 3)) (sl' := (sl + 18)) (P' := True) (zk_V h0 zcX6 (zcl_ex hr) (fun l D z0 => kX6_set l D z0 m (xs (i + (1 : Int32)).toNatClampNeg) (xs (i + (2 : Int32)).toNatClampNeg) (xs (i + (3 : Int32)).toNatClampNeg) (xs (i + (4 : Int32)).toNatClampNeg) (xs (i + (5 : Int32)).toNatClampNeg) ((h, n9) : ZS) r (zcl_of hr)) zw_920 zw_921 zw_922 zw_5 zw_923 rfl zyX6_set (As := [.int (xs (i + (1 : Int32)).toNatClampNeg), .int (xs (i + (2 : Int32)).toNatClampNeg), .int (xs (i + (3 : Int32)).toNatClampNeg), .int (xs (i + (4 : Int32)).toNatClampNeg), .int (xs (i + (5 : Int32)).toNatClampNeg)]) (st := []) rfl (by decide) rfl (Nat.le_of_ble_eq_true rfl) ⟨Nat.le_trans (Nat.add_le_add_left (Nat.le_of_ble_eq_true rfl) ce) hce, Nat.le_trans (Nat.add_le_add_left (Nat.le_of_ble_eq_true rfl) sl) hsl⟩ dL_law_564) rfl rfl rfl (n := 567) rfl (fun h => h) ?_
  refine zr_istore [(0, .ref b), (1, .ref x), (2, .ref m), (3, .ref out), (4, .int i), (5, .int k), (6, .int r.1)] h0 dL_law_567 (by decide) rfl (n := 569) rfl ?_
  refine zr_aload_n h0 dL_law_569 rfl (n := 570) rfl ?_
  refine zr_call0 (res := some (.int k)) (S' := r.2) (st := []) (st' := [.int k]) (ce' := (ce + 3)) (sl' := (sl + 18)) (P' := True) (zk_V h0 zcX6 (zcl_ex ht) (fun l D z0 => kX6_thrown l D z0 m r.2 k (zcl_of ht)) zw_878 zw_879 zw_880 zw_5 zw_881 rfl zyX6_thrown (As := []) (st := []) rfl (by decide) rfl (Nat.le_of_ble_eq_true rfl) ⟨Nat.le_trans (Nat.add_le_add_left (Nat.le_of_ble_eq_true rfl) ce) hce, Nat.le_trans (Nat.add_le_add_left (Nat.le_of_ble_eq_true rfl) sl) hsl⟩ dL_law_570) rfl rfl rfl (n := 573) rfl (fun h => h) ?_
  refine zr_iload h0 dL_law_573 rfl (n := 575) rfl ?_
  refine zr_icmp_eqY (tgt := 580) h0 rfl dL_law_575 (by decide) ?_
  refine zr_iload h0 dL_law_580 rfl (n := 582) rfl ?_
  by_cases hk : k = 0
  · refine zr_if_neN (tgt := 597) h0 hk dL_law_582 (by decide) ?_
    refine zr_aload_n h0 dL_law_585 rfl (n := 586) rfl ?_
    refine zr_iconst (0 : Int32) h0 (by decide) dL_law_586 (n := 587) rfl ?_
    refine zr_laloadK h0 (hv hk) dL_law_587 (n := 588) rfl ?_
    refine zr_iload h0 dL_law_588 rfl (n := 590) rfl ?_
    refine zr_i2l h0 dL_law_590 (n := 591) rfl ?_
    refine zr_lcmp h0 dL_law_591 (n := 592) rfl ?_
    refine zr_if_eqY (tgt := 597) h0 (lg_cmp_self _) dL_law_592 (by decide) ?_
    refine zr_goto (tgt := 2007) h0 dL_law_597 (by decide) ?_
    exact zv_wide (ce' := ce + 8) (sl' := sl + 119) (zv_sub (lv' := [(0, .ref b), (1, .ref x), (2, .ref m), (3, .ref out), (4, .int i)]) (kk _ hI) (zsub_of [0, 1, 2, 3, 4] rfl)) (Nat.add_le_add_left (Nat.le_of_ble_eq_true rfl) _) (Nat.add_le_add_left (Nat.le_of_ble_eq_true rfl) _)
  · refine zr_if_neY (tgt := 597) h0 hk dL_law_582 (by decide) ?_
    refine zr_goto (tgt := 2007) h0 dL_law_597 (by decide) ?_
    exact zv_wide (ce' := ce + 8) (sl' := sl + 119) (zv_sub (lv' := [(0, .ref b), (1, .ref x), (2, .ref m), (3, .ref out), (4, .int i)]) (kk _ hI) (zsub_of [0, 1, 2, 3, 4] rfl)) (Nat.add_le_add_left (Nat.le_of_ble_eq_true rfl) _) (Nat.add_le_add_left (Nat.le_of_ble_eq_true rfl) _)
def ok_6 (x m out : Nat) (a1 a2 a3 a4 a5 : Int32) (S : ZS) (I : ZS → Prop) : Prop := ∃ (k : Int32) (h : ZH), fL_move x a1 a2 a3 a4 a5 out S = some (k, h) ∧ ∀ n : Nat, zFr h n → ∃ r, zcl ((h, n) : ZS) m 6 (fX6_move m a1 a2 a3 a4 a5 (h, n)) = some r ∧ zcl r.2 m 6 (fX6_thrown m r.2) = some k ∧ (k = 0 → zaJ r.2 out 0 = some (Int32.toInt64 r.1)) ∧ I r.2
set_option maxHeartbeats 4000000 in
set_option maxRecDepth 100000 in
theorem lc_6 {G : ZG} {b L x m out : Nat} {xs : Nat → Int32} {S : ZS} {ce sl : Nat} {i : Int32} {I : ZS → Prop} (h0 : zFix G code RL 8 (some .boolean) room_1) (hfl : zFlag G) (hS : zScr G b L xs) (hin : ∀ j : Int32, (0 ≤ j.toInt ∧ j.toInt ≤ 5) → vp_in (i + j) L) (hok : ok_6 x m out (xs (i + (1 : Int32)).toNatClampNeg) (xs (i + (2 : Int32)).toNatClampNeg) (xs (i + (3 : Int32)).toNatClampNeg) (xs (i + (4 : Int32)).toNatClampNeg) (xs (i + (5 : Int32)).toNatClampNeg) S I) (hce : ce + 8 ≤ 601024) (hsl : sl + 119 ≤ 7293034) (kk : ∀ S1 : ZS, I S1 → zV G 8 S1 (ce + 8) (sl + 119) 2007 [(0, .ref b), (1, .ref x), (2, .ref m), (3, .ref out), (4, .int i)] [] True) : zV G 8 S ce sl 600 [(0, .ref b), (1, .ref x), (2, .ref m), (3, .ref out), (4, .int i)] [] True := by
  obtain ⟨k, h, hw, hok⟩ := hok
  refine zr_aload_n h0 dL_law_600 rfl (n := 601) rfl ?_
  refine zr_aload_n h0 dL_law_601 rfl (n := 602) rfl ?_
  refine zr_iload h0 dL_law_602 rfl (n := 604) rfl ?_
  refine zr_iconst (1 : Int32) h0 (by decide) dL_law_604 (n := 605) rfl ?_
  refine zr_iadd h0 dL_law_605 (n := 606) rfl ?_
  refine zr_sld h0 hS (hin (1 : Int32) (by decide)) dL_law_606 (n := 607) rfl ?_
  refine zr_aload_n h0 dL_law_607 rfl (n := 608) rfl ?_
  refine zr_iload h0 dL_law_608 rfl (n := 610) rfl ?_
  refine zr_iconst (2 : Int32) h0 (by decide) dL_law_610 (n := 611) rfl ?_
  refine zr_iadd h0 dL_law_611 (n := 612) rfl ?_
  refine zr_sld h0 hS (hin (2 : Int32) (by decide)) dL_law_612 (n := 613) rfl ?_
  refine zr_aload_n h0 dL_law_613 rfl (n := 614) rfl ?_
  refine zr_iload h0 dL_law_614 rfl (n := 616) rfl ?_
  refine zr_iconst (3 : Int32) h0 (by decide) dL_law_616 (n := 617) rfl ?_
  refine zr_iadd h0 dL_law_617 (n := 618) rfl ?_
  refine zr_sld h0 hS (hin (3 : Int32) (by decide)) dL_law_618 (n := 619) rfl ?_
  refine zr_aload_n h0 dL_law_619 rfl (n := 620) rfl ?_
  refine zr_iload h0 dL_law_620 rfl (n := 622) rfl ?_
  refine zr_iconst (4 : Int32) h0 (by decide) dL_law_622 (n := 623) rfl ?_
  refine zr_iadd h0 dL_law_623 (n := 624) rfl ?_
  refine zr_sld h0 hS (hin (4 : Int32) (by decide)) dL_law_624 (n := 625) rfl ?_
  refine zr_aload_n h0 dL_law_625 rfl (n := 626) rfl ?_
  refine zr_iload h0 dL_law_626 rfl (n := 628) rfl ?_
  refine zr_iconst (5 : Int32) h0 (by decide) dL_law_628 (n := 629) rfl ?_
  refine zr_iadd h0 dL_law_629 (n := 630) rfl ?_
  refine zr_sld h0 hS (hin (5 : Int32) (by decide)) dL_law_630 (n := 631) rfl ?_
  refine zr_aload_n h0 dL_law_631 rfl (n := 632) rfl ?_
  refine zr_callW (ce + 5) (sl + 30) h0 hfl (fun l D z0 hlt => kL_move l D z0 hlt x (xs (i + (1 : Int32)).toNatClampNeg) (xs (i + (2 : Int32)).toNatClampNeg) (xs (i + (3 : Int32)).toNatClampNeg) (xs (i + (4 : Int32)).toNatClampNeg) (xs (i + (5 : Int32)).toNatClampNeg) out S (k, h) hw) zw_321 zw_322 zw_0 zw_323 zyL_move (As := [.ref x, .int (xs (i + (1 : Int32)).toNatClampNeg), .int (xs (i + (2 : Int32)).toNatClampNeg), .int (xs (i + (3 : Int32)).toNatClampNeg), .int (xs (i + (4 : Int32)).toNatClampNeg), .int (xs (i + (5 : Int32)).toNatClampNeg), .ref out]) (st := []) rfl (by decide) rfl (Nat.le_of_ble_eq_true rfl) ⟨Nat.le_trans (Nat.add_le_add_left (Nat.le_of_ble_eq_true rfl) ce) hce, Nat.le_trans (Nat.add_le_add_left (Nat.le_of_ble_eq_true rfl) sl) hsl⟩ dL_law_632 rfl rfl (n := 635) rfl (fun n9 => ?_)
  refine zv_fr (fun hfr => ?_)
  obtain ⟨r, hr, ht, hv, hI⟩ := hok n9 hfr
  refine zr_istore [(0, .ref b), (1, .ref x), (2, .ref m), (3, .ref out), (4, .int i), (5, .int k)] h0 dL_law_635 (by decide) rfl (n := 637) rfl ?_
  refine zr_aload_n h0 dL_law_637 rfl (n := 638) rfl ?_
  refine zr_aload_n h0 dL_law_638 rfl (n := 639) rfl ?_
  refine zr_iload h0 dL_law_639 rfl (n := 641) rfl ?_
  refine zr_iconst (1 : Int32) h0 (by decide) dL_law_641 (n := 642) rfl ?_
  refine zr_iadd h0 dL_law_642 (n := 643) rfl ?_
  refine zr_sld h0 hS (hin (1 : Int32) (by decide)) dL_law_643 (n := 644) rfl ?_
  refine zr_aload_n h0 dL_law_644 rfl (n := 645) rfl ?_
  refine zr_iload h0 dL_law_645 rfl (n := 647) rfl ?_
  refine zr_iconst (2 : Int32) h0 (by decide) dL_law_647 (n := 648) rfl ?_
  refine zr_iadd h0 dL_law_648 (n := 649) rfl ?_
  refine zr_sld h0 hS (hin (2 : Int32) (by decide)) dL_law_649 (n := 650) rfl ?_
  refine zr_aload_n h0 dL_law_650 rfl (n := 651) rfl ?_
  refine zr_iload h0 dL_law_651 rfl (n := 653) rfl ?_
  refine zr_iconst (3 : Int32) h0 (by decide) dL_law_653 (n := 654) rfl ?_
  refine zr_iadd h0 dL_law_654 (n := 655) rfl ?_
  refine zr_sld h0 hS (hin (3 : Int32) (by decide)) dL_law_655 (n := 656) rfl ?_
  refine zr_aload_n h0 dL_law_656 rfl (n := 657) rfl ?_
  refine zr_iload h0 dL_law_657 rfl (n := 659) rfl ?_
  refine zr_iconst (4 : Int32) h0 (by decide) dL_law_659 (n := 660) rfl ?_
  refine zr_iadd h0 dL_law_660 (n := 661) rfl ?_
  refine zr_sld h0 hS (hin (4 : Int32) (by decide)) dL_law_661 (n := 662) rfl ?_
  refine zr_aload_n h0 dL_law_662 rfl (n := 663) rfl ?_
  refine zr_iload h0 dL_law_663 rfl (n := 665) rfl ?_
  refine zr_iconst (5 : Int32) h0 (by decide) dL_law_665 (n := 666) rfl ?_
  refine zr_iadd h0 dL_law_666 (n := 667) rfl ?_
  refine zr_sld h0 hS (hin (5 : Int32) (by decide)) dL_law_667 (n := 668) rfl ?_
  refine zr_call0 (res := (some (.int r.1))) (S' := r.2) (st := []) (st' := [.int r.1]) (ce' := (ce + 5)) (sl' := (sl + 30)) (P' := True) (zk_V h0 zcX6 (zcl_ex hr) (fun l D z0 => kX6_move l D z0 m (xs (i + (1 : Int32)).toNatClampNeg) (xs (i + (2 : Int32)).toNatClampNeg) (xs (i + (3 : Int32)).toNatClampNeg) (xs (i + (4 : Int32)).toNatClampNeg) (xs (i + (5 : Int32)).toNatClampNeg) ((h, n9) : ZS) r (zcl_of hr)) zw_932 zw_933 zw_934 zw_5 zw_935 rfl zyX6_move (As := [.int (xs (i + (1 : Int32)).toNatClampNeg), .int (xs (i + (2 : Int32)).toNatClampNeg), .int (xs (i + (3 : Int32)).toNatClampNeg), .int (xs (i + (4 : Int32)).toNatClampNeg), .int (xs (i + (5 : Int32)).toNatClampNeg)]) (st := []) rfl (by decide) rfl (Nat.le_of_ble_eq_true rfl) ⟨Nat.le_trans (Nat.add_le_add_left (Nat.le_of_ble_eq_true rfl) ce) hce, Nat.le_trans (Nat.add_le_add_left (Nat.le_of_ble_eq_true rfl) sl) hsl⟩ dL_law_668) rfl rfl rfl (n := 671) rfl (fun h => h) ?_
  refine zr_istore [(0, .ref b), (1, .ref x), (2, .ref m), (3, .ref out), (4, .int i), (5, .int k), (6, .int r.1)] h0 dL_law_671 (by decide) rfl (n := 673) rfl ?_
  refine zr_aload_n h0 dL_law_673 rfl (n := 674) rfl ?_
  refine zr_call0 (res := some (.int k)) (S' := r.2) (st := []) (st' := [.int k]) (ce' := (ce + 5)) (sl' := (sl + 30)) (P' := True) (zk_V h0 zcX6 (zcl_ex ht) (fun l D z0 => kX6_thrown l D z0 m r.2 k (zcl_of ht)) zw_878 zw_879 zw_880 zw_5 zw_881 rfl zyX6_thrown (As := []) (st := []) rfl (by decide) rfl (Nat.le_of_ble_eq_true rfl) ⟨Nat.le_trans (Nat.add_le_add_left (Nat.le_of_ble_eq_true rfl) ce) hce, Nat.le_trans (Nat.add_le_add_left (Nat.le_of_ble_eq_true rfl) sl) hsl⟩ dL_law_674) rfl rfl rfl (n := 677) rfl (fun h => h) ?_
  refine zr_iload h0 dL_law_677 rfl (n := 679) rfl ?_
  refine zr_icmp_eqY (tgt := 684) h0 rfl dL_law_679 (by decide) ?_
  refine zr_iload h0 dL_law_684 rfl (n := 686) rfl ?_
  by_cases hk : k = 0
  · refine zr_if_neN (tgt := 701) h0 hk dL_law_686 (by decide) ?_
    refine zr_aload_n h0 dL_law_689 rfl (n := 690) rfl ?_
    refine zr_iconst (0 : Int32) h0 (by decide) dL_law_690 (n := 691) rfl ?_
    refine zr_laloadK h0 (hv hk) dL_law_691 (n := 692) rfl ?_
    refine zr_iload h0 dL_law_692 rfl (n := 694) rfl ?_
    refine zr_i2l h0 dL_law_694 (n := 695) rfl ?_
    refine zr_lcmp h0 dL_law_695 (n := 696) rfl ?_
    refine zr_if_eqY (tgt := 701) h0 (lg_cmp_self _) dL_law_696 (by decide) ?_
    refine zr_goto (tgt := 2007) h0 dL_law_701 (by decide) ?_
    exact zv_wide (ce' := ce + 8) (sl' := sl + 119) (zv_sub (lv' := [(0, .ref b), (1, .ref x), (2, .ref m), (3, .ref out), (4, .int i)]) (kk _ hI) (zsub_of [0, 1, 2, 3, 4] rfl)) (Nat.add_le_add_left (Nat.le_of_ble_eq_true rfl) _) (Nat.add_le_add_left (Nat.le_of_ble_eq_true rfl) _)
  · refine zr_if_neY (tgt := 701) h0 hk dL_law_686 (by decide) ?_
    refine zr_goto (tgt := 2007) h0 dL_law_701 (by decide) ?_
    exact zv_wide (ce' := ce + 8) (sl' := sl + 119) (zv_sub (lv' := [(0, .ref b), (1, .ref x), (2, .ref m), (3, .ref out), (4, .int i)]) (kk _ hI) (zsub_of [0, 1, 2, 3, 4] rfl)) (Nat.add_le_add_left (Nat.le_of_ble_eq_true rfl) _) (Nat.add_le_add_left (Nat.le_of_ble_eq_true rfl) _)
def ok_7 (x m out : Nat) (a1 a2 : Int32) (S : ZS) (I : ZS → Prop) : Prop := ∃ (k : Int32) (h : ZH), fL_sum x a1 a2 out S = some (k, h) ∧ ∀ n : Nat, zFr h n → ∃ r, zcl ((h, n) : ZS) m 6 (fX6_sum m a1 a2 (h, n)) = some r ∧ zcl r.2 m 6 (fX6_thrown m r.2) = some k ∧ (k = 0 → zaJ r.2 out 0 = some (Int32.toInt64 r.1)) ∧ I r.2
set_option maxHeartbeats 4000000 in
set_option maxRecDepth 100000 in
theorem lc_7 {G : ZG} {b L x m out : Nat} {xs : Nat → Int32} {S : ZS} {ce sl : Nat} {i : Int32} {I : ZS → Prop} (h0 : zFix G code RL 8 (some .boolean) room_1) (hfl : zFlag G) (hS : zScr G b L xs) (hin : ∀ j : Int32, (0 ≤ j.toInt ∧ j.toInt ≤ 5) → vp_in (i + j) L) (hok : ok_7 x m out (xs (i + (1 : Int32)).toNatClampNeg) (xs (i + (2 : Int32)).toNatClampNeg) S I) (hce : ce + 8 ≤ 601024) (hsl : sl + 119 ≤ 7293034) (kk : ∀ S1 : ZS, I S1 → zV G 8 S1 (ce + 8) (sl + 119) 2007 [(0, .ref b), (1, .ref x), (2, .ref m), (3, .ref out), (4, .int i)] [] True) : zV G 8 S ce sl 704 [(0, .ref b), (1, .ref x), (2, .ref m), (3, .ref out), (4, .int i)] [] True := by
  obtain ⟨k, h, hw, hok⟩ := hok
  refine zr_aload_n h0 dL_law_704 rfl (n := 705) rfl ?_
  refine zr_aload_n h0 dL_law_705 rfl (n := 706) rfl ?_
  refine zr_iload h0 dL_law_706 rfl (n := 708) rfl ?_
  refine zr_iconst (1 : Int32) h0 (by decide) dL_law_708 (n := 709) rfl ?_
  refine zr_iadd h0 dL_law_709 (n := 710) rfl ?_
  refine zr_sld h0 hS (hin (1 : Int32) (by decide)) dL_law_710 (n := 711) rfl ?_
  refine zr_aload_n h0 dL_law_711 rfl (n := 712) rfl ?_
  refine zr_iload h0 dL_law_712 rfl (n := 714) rfl ?_
  refine zr_iconst (2 : Int32) h0 (by decide) dL_law_714 (n := 715) rfl ?_
  refine zr_iadd h0 dL_law_715 (n := 716) rfl ?_
  refine zr_sld h0 hS (hin (2 : Int32) (by decide)) dL_law_716 (n := 717) rfl ?_
  refine zr_aload_n h0 dL_law_717 rfl (n := 718) rfl ?_
  refine zr_callW (ce + 7) (sl + 99) h0 hfl (fun l D z0 hlt => kL_sum l D z0 hlt x (xs (i + (1 : Int32)).toNatClampNeg) (xs (i + (2 : Int32)).toNatClampNeg) out S (k, h) hw) zw_354 zw_355 zw_0 zw_356 zyL_sum (As := [.ref x, .int (xs (i + (1 : Int32)).toNatClampNeg), .int (xs (i + (2 : Int32)).toNatClampNeg), .ref out]) (st := []) rfl (by decide) rfl (Nat.le_of_ble_eq_true rfl) ⟨Nat.le_trans (Nat.add_le_add_left (Nat.le_of_ble_eq_true rfl) ce) hce, Nat.le_trans (Nat.add_le_add_left (Nat.le_of_ble_eq_true rfl) sl) hsl⟩ dL_law_718 rfl rfl (n := 721) rfl (fun n9 => ?_)
  refine zv_fr (fun hfr => ?_)
  obtain ⟨r, hr, ht, hv, hI⟩ := hok n9 hfr
  refine zr_istore [(0, .ref b), (1, .ref x), (2, .ref m), (3, .ref out), (4, .int i), (5, .int k)] h0 dL_law_721 (by decide) rfl (n := 723) rfl ?_
  refine zr_aload_n h0 dL_law_723 rfl (n := 724) rfl ?_
  refine zr_aload_n h0 dL_law_724 rfl (n := 725) rfl ?_
  refine zr_iload h0 dL_law_725 rfl (n := 727) rfl ?_
  refine zr_iconst (1 : Int32) h0 (by decide) dL_law_727 (n := 728) rfl ?_
  refine zr_iadd h0 dL_law_728 (n := 729) rfl ?_
  refine zr_sld h0 hS (hin (1 : Int32) (by decide)) dL_law_729 (n := 730) rfl ?_
  refine zr_aload_n h0 dL_law_730 rfl (n := 731) rfl ?_
  refine zr_iload h0 dL_law_731 rfl (n := 733) rfl ?_
  refine zr_iconst (2 : Int32) h0 (by decide) dL_law_733 (n := 734) rfl ?_
  refine zr_iadd h0 dL_law_734 (n := 735) rfl ?_
  refine zr_sld h0 hS (hin (2 : Int32) (by decide)) dL_law_735 (n := 736) rfl ?_
  refine zr_call0 (res := (some (.int r.1))) (S' := r.2) (st := []) (st' := [.int r.1]) (ce' := (ce + 7)) (sl' := (sl + 99)) (P' := True) (zk_V h0 zcX6 (zcl_ex hr) (fun l D z0 => kX6_sum l D z0 m (xs (i + (1 : Int32)).toNatClampNeg) (xs (i + (2 : Int32)).toNatClampNeg) ((h, n9) : ZS) r (zcl_of hr)) zw_942 zw_943 zw_944 zw_5 zw_945 rfl zyX6_sum (As := [.int (xs (i + (1 : Int32)).toNatClampNeg), .int (xs (i + (2 : Int32)).toNatClampNeg)]) (st := []) rfl (by decide) rfl (Nat.le_of_ble_eq_true rfl) ⟨Nat.le_trans (Nat.add_le_add_left (Nat.le_of_ble_eq_true rfl) ce) hce, Nat.le_trans (Nat.add_le_add_left (Nat.le_of_ble_eq_true rfl) sl) hsl⟩ dL_law_736) rfl rfl rfl (n := 739) rfl (fun h => h) ?_
  refine zr_istore [(0, .ref b), (1, .ref x), (2, .ref m), (3, .ref out), (4, .int i), (5, .int k), (6, .int r.1)] h0 dL_law_739 (by decide) rfl (n := 741) rfl ?_
  refine zr_aload_n h0 dL_law_741 rfl (n := 742) rfl ?_
  refine zr_call0 (res := some (.int k)) (S' := r.2) (st := []) (st' := [.int k]) (ce' := (ce + 7)) (sl' := (sl + 99)) (P' := True) (zk_V h0 zcX6 (zcl_ex ht) (fun l D z0 => kX6_thrown l D z0 m r.2 k (zcl_of ht)) zw_878 zw_879 zw_880 zw_5 zw_881 rfl zyX6_thrown (As := []) (st := []) rfl (by decide) rfl (Nat.le_of_ble_eq_true rfl) ⟨Nat.le_trans (Nat.add_le_add_left (Nat.le_of_ble_eq_true rfl) ce) hce, Nat.le_trans (Nat.add_le_add_left (Nat.le_of_ble_eq_true rfl) sl) hsl⟩ dL_law_742) rfl rfl rfl (n := 745) rfl (fun h => h) ?_
  refine zr_iload h0 dL_law_745 rfl (n := 747) rfl ?_
  refine zr_icmp_eqY (tgt := 752) h0 rfl dL_law_747 (by decide) ?_
  refine zr_iload h0 dL_law_752 rfl (n := 754) rfl ?_
  by_cases hk : k = 0
  · refine zr_if_neN (tgt := 769) h0 hk dL_law_754 (by decide) ?_
    refine zr_aload_n h0 dL_law_757 rfl (n := 758) rfl ?_
    refine zr_iconst (0 : Int32) h0 (by decide) dL_law_758 (n := 759) rfl ?_
    refine zr_laloadK h0 (hv hk) dL_law_759 (n := 760) rfl ?_
    refine zr_iload h0 dL_law_760 rfl (n := 762) rfl ?_
    refine zr_i2l h0 dL_law_762 (n := 763) rfl ?_
    refine zr_lcmp h0 dL_law_763 (n := 764) rfl ?_
    refine zr_if_eqY (tgt := 769) h0 (lg_cmp_self _) dL_law_764 (by decide) ?_
    refine zr_goto (tgt := 2007) h0 dL_law_769 (by decide) ?_
    exact zv_wide (ce' := ce + 8) (sl' := sl + 119) (zv_sub (lv' := [(0, .ref b), (1, .ref x), (2, .ref m), (3, .ref out), (4, .int i)]) (kk _ hI) (zsub_of [0, 1, 2, 3, 4] rfl)) (Nat.add_le_add_left (Nat.le_of_ble_eq_true rfl) _) (Nat.add_le_add_left (Nat.le_of_ble_eq_true rfl) _)
  · refine zr_if_neY (tgt := 769) h0 hk dL_law_754 (by decide) ?_
    refine zr_goto (tgt := 2007) h0 dL_law_769 (by decide) ?_
    exact zv_wide (ce' := ce + 8) (sl' := sl + 119) (zv_sub (lv' := [(0, .ref b), (1, .ref x), (2, .ref m), (3, .ref out), (4, .int i)]) (kk _ hI) (zsub_of [0, 1, 2, 3, 4] rfl)) (Nat.add_le_add_left (Nat.le_of_ble_eq_true rfl) _) (Nat.add_le_add_left (Nat.le_of_ble_eq_true rfl) _)
def ok_8 (x m out : Nat) (a1 a2 : Int32) (S : ZS) (I : ZS → Prop) : Prop := ∃ (k : Int32) (h : ZH), fL_product x a1 a2 out S = some (k, h) ∧ ∀ n : Nat, zFr h n → ∃ r, zcl ((h, n) : ZS) m 6 (fX6_product m a1 a2 (h, n)) = some r ∧ zcl r.2 m 6 (fX6_thrown m r.2) = some k ∧ (k = 0 → zaJ r.2 out 0 = some (Int32.toInt64 r.1)) ∧ I r.2
set_option maxHeartbeats 4000000 in
set_option maxRecDepth 100000 in
theorem lc_8 {G : ZG} {b L x m out : Nat} {xs : Nat → Int32} {S : ZS} {ce sl : Nat} {i : Int32} {I : ZS → Prop} (h0 : zFix G code RL 8 (some .boolean) room_1) (hfl : zFlag G) (hS : zScr G b L xs) (hin : ∀ j : Int32, (0 ≤ j.toInt ∧ j.toInt ≤ 5) → vp_in (i + j) L) (hok : ok_8 x m out (xs (i + (1 : Int32)).toNatClampNeg) (xs (i + (2 : Int32)).toNatClampNeg) S I) (hce : ce + 8 ≤ 601024) (hsl : sl + 119 ≤ 7293034) (kk : ∀ S1 : ZS, I S1 → zV G 8 S1 (ce + 8) (sl + 119) 2007 [(0, .ref b), (1, .ref x), (2, .ref m), (3, .ref out), (4, .int i)] [] True) : zV G 8 S ce sl 772 [(0, .ref b), (1, .ref x), (2, .ref m), (3, .ref out), (4, .int i)] [] True := by
  obtain ⟨k, h, hw, hok⟩ := hok
  refine zr_aload_n h0 dL_law_772 rfl (n := 773) rfl ?_
  refine zr_aload_n h0 dL_law_773 rfl (n := 774) rfl ?_
  refine zr_iload h0 dL_law_774 rfl (n := 776) rfl ?_
  refine zr_iconst (1 : Int32) h0 (by decide) dL_law_776 (n := 777) rfl ?_
  refine zr_iadd h0 dL_law_777 (n := 778) rfl ?_
  refine zr_sld h0 hS (hin (1 : Int32) (by decide)) dL_law_778 (n := 779) rfl ?_
  refine zr_aload_n h0 dL_law_779 rfl (n := 780) rfl ?_
  refine zr_iload h0 dL_law_780 rfl (n := 782) rfl ?_
  refine zr_iconst (2 : Int32) h0 (by decide) dL_law_782 (n := 783) rfl ?_
  refine zr_iadd h0 dL_law_783 (n := 784) rfl ?_
  refine zr_sld h0 hS (hin (2 : Int32) (by decide)) dL_law_784 (n := 785) rfl ?_
  refine zr_aload_n h0 dL_law_785 rfl (n := 786) rfl ?_
  refine zr_callW (ce + 7) (sl + 99) h0 hfl (fun l D z0 hlt => kL_product l D z0 hlt x (xs (i + (1 : Int32)).toNatClampNeg) (xs (i + (2 : Int32)).toNatClampNeg) out S (k, h) hw) zw_366 zw_367 zw_0 zw_368 zyL_product (As := [.ref x, .int (xs (i + (1 : Int32)).toNatClampNeg), .int (xs (i + (2 : Int32)).toNatClampNeg), .ref out]) (st := []) rfl (by decide) rfl (Nat.le_of_ble_eq_true rfl) ⟨Nat.le_trans (Nat.add_le_add_left (Nat.le_of_ble_eq_true rfl) ce) hce, Nat.le_trans (Nat.add_le_add_left (Nat.le_of_ble_eq_true rfl) sl) hsl⟩ dL_law_786 rfl rfl (n := 789) rfl (fun n9 => ?_)
  refine zv_fr (fun hfr => ?_)
  obtain ⟨r, hr, ht, hv, hI⟩ := hok n9 hfr
  refine zr_istore [(0, .ref b), (1, .ref x), (2, .ref m), (3, .ref out), (4, .int i), (5, .int k)] h0 dL_law_789 (by decide) rfl (n := 791) rfl ?_
  refine zr_aload_n h0 dL_law_791 rfl (n := 792) rfl ?_
  refine zr_aload_n h0 dL_law_792 rfl (n := 793) rfl ?_
  refine zr_iload h0 dL_law_793 rfl (n := 795) rfl ?_
  refine zr_iconst (1 : Int32) h0 (by decide) dL_law_795 (n := 796) rfl ?_
  refine zr_iadd h0 dL_law_796 (n := 797) rfl ?_
  refine zr_sld h0 hS (hin (1 : Int32) (by decide)) dL_law_797 (n := 798) rfl ?_
  refine zr_aload_n h0 dL_law_798 rfl (n := 799) rfl ?_
  refine zr_iload h0 dL_law_799 rfl (n := 801) rfl ?_
  refine zr_iconst (2 : Int32) h0 (by decide) dL_law_801 (n := 802) rfl ?_
  refine zr_iadd h0 dL_law_802 (n := 803) rfl ?_
  refine zr_sld h0 hS (hin (2 : Int32) (by decide)) dL_law_803 (n := 804) rfl ?_
  refine zr_call0 (res := (some (.int r.1))) (S' := r.2) (st := []) (st' := [.int r.1]) (ce' := (ce + 7)) (sl' := (sl + 99)) (P' := True) (zk_V h0 zcX6 (zcl_ex hr) (fun l D z0 => kX6_product l D z0 m (xs (i + (1 : Int32)).toNatClampNeg) (xs (i + (2 : Int32)).toNatClampNeg) ((h, n9) : ZS) r (zcl_of hr)) zw_946 zw_947 zw_948 zw_5 zw_949 rfl zyX6_product (As := [.int (xs (i + (1 : Int32)).toNatClampNeg), .int (xs (i + (2 : Int32)).toNatClampNeg)]) (st := []) rfl (by decide) rfl (Nat.le_of_ble_eq_true rfl) ⟨Nat.le_trans (Nat.add_le_add_left (Nat.le_of_ble_eq_true rfl) ce) hce, Nat.le_trans (Nat.add_le_add_left (Nat.le_of_ble_eq_true rfl) sl) hsl⟩ dL_law_804) rfl rfl rfl (n := 807) rfl (fun h => h) ?_
  refine zr_istore [(0, .ref b), (1, .ref x), (2, .ref m), (3, .ref out), (4, .int i), (5, .int k), (6, .int r.1)] h0 dL_law_807 (by decide) rfl (n := 809) rfl ?_
  refine zr_aload_n h0 dL_law_809 rfl (n := 810) rfl ?_
  refine zr_call0 (res := some (.int k)) (S' := r.2) (st := []) (st' := [.int k]) (ce' := (ce + 7)) (sl' := (sl + 99)) (P' := True) (zk_V h0 zcX6 (zcl_ex ht) (fun l D z0 => kX6_thrown l D z0 m r.2 k (zcl_of ht)) zw_878 zw_879 zw_880 zw_5 zw_881 rfl zyX6_thrown (As := []) (st := []) rfl (by decide) rfl (Nat.le_of_ble_eq_true rfl) ⟨Nat.le_trans (Nat.add_le_add_left (Nat.le_of_ble_eq_true rfl) ce) hce, Nat.le_trans (Nat.add_le_add_left (Nat.le_of_ble_eq_true rfl) sl) hsl⟩ dL_law_810) rfl rfl rfl (n := 813) rfl (fun h => h) ?_
  refine zr_iload h0 dL_law_813 rfl (n := 815) rfl ?_
  refine zr_icmp_eqY (tgt := 820) h0 rfl dL_law_815 (by decide) ?_
  refine zr_iload h0 dL_law_820 rfl (n := 822) rfl ?_
  by_cases hk : k = 0
  · refine zr_if_neN (tgt := 837) h0 hk dL_law_822 (by decide) ?_
    refine zr_aload_n h0 dL_law_825 rfl (n := 826) rfl ?_
    refine zr_iconst (0 : Int32) h0 (by decide) dL_law_826 (n := 827) rfl ?_
    refine zr_laloadK h0 (hv hk) dL_law_827 (n := 828) rfl ?_
    refine zr_iload h0 dL_law_828 rfl (n := 830) rfl ?_
    refine zr_i2l h0 dL_law_830 (n := 831) rfl ?_
    refine zr_lcmp h0 dL_law_831 (n := 832) rfl ?_
    refine zr_if_eqY (tgt := 837) h0 (lg_cmp_self _) dL_law_832 (by decide) ?_
    refine zr_goto (tgt := 2007) h0 dL_law_837 (by decide) ?_
    exact zv_wide (ce' := ce + 8) (sl' := sl + 119) (zv_sub (lv' := [(0, .ref b), (1, .ref x), (2, .ref m), (3, .ref out), (4, .int i)]) (kk _ hI) (zsub_of [0, 1, 2, 3, 4] rfl)) (Nat.add_le_add_left (Nat.le_of_ble_eq_true rfl) _) (Nat.add_le_add_left (Nat.le_of_ble_eq_true rfl) _)
  · refine zr_if_neY (tgt := 837) h0 hk dL_law_822 (by decide) ?_
    refine zr_goto (tgt := 2007) h0 dL_law_837 (by decide) ?_
    exact zv_wide (ce' := ce + 8) (sl' := sl + 119) (zv_sub (lv' := [(0, .ref b), (1, .ref x), (2, .ref m), (3, .ref out), (4, .int i)]) (kk _ hI) (zsub_of [0, 1, 2, 3, 4] rfl)) (Nat.add_le_add_left (Nat.le_of_ble_eq_true rfl) _) (Nat.add_le_add_left (Nat.le_of_ble_eq_true rfl) _)
def ok_9 (x m out : Nat) (a1 : Int32) (S : ZS) (I : ZS → Prop) : Prop := ∃ (k : Int32) (h : ZH), fL_way x a1 out S = some (k, h) ∧ ∀ n : Nat, zFr h n → ∃ r, zcl ((h, n) : ZS) m 6 (fX6_way m a1 (h, n)) = some r ∧ zcl r.2 m 6 (fX6_thrown m r.2) = some k ∧ (k = 0 → zaJ r.2 out 0 = some (Int32.toInt64 r.1)) ∧ I r.2
set_option maxHeartbeats 4000000 in
set_option maxRecDepth 100000 in
theorem lc_9 {G : ZG} {b L x m out : Nat} {xs : Nat → Int32} {S : ZS} {ce sl : Nat} {i : Int32} {I : ZS → Prop} (h0 : zFix G code RL 8 (some .boolean) room_1) (hfl : zFlag G) (hS : zScr G b L xs) (hin : ∀ j : Int32, (0 ≤ j.toInt ∧ j.toInt ≤ 5) → vp_in (i + j) L) (hok : ok_9 x m out (xs (i + (1 : Int32)).toNatClampNeg) S I) (hce : ce + 8 ≤ 601024) (hsl : sl + 119 ≤ 7293034) (kk : ∀ S1 : ZS, I S1 → zV G 8 S1 (ce + 8) (sl + 119) 2007 [(0, .ref b), (1, .ref x), (2, .ref m), (3, .ref out), (4, .int i)] [] True) : zV G 8 S ce sl 840 [(0, .ref b), (1, .ref x), (2, .ref m), (3, .ref out), (4, .int i)] [] True := by
  obtain ⟨k, h, hw, hok⟩ := hok
  refine zr_aload_n h0 dL_law_840 rfl (n := 841) rfl ?_
  refine zr_aload_n h0 dL_law_841 rfl (n := 842) rfl ?_
  refine zr_iload h0 dL_law_842 rfl (n := 844) rfl ?_
  refine zr_iconst (1 : Int32) h0 (by decide) dL_law_844 (n := 845) rfl ?_
  refine zr_iadd h0 dL_law_845 (n := 846) rfl ?_
  refine zr_sld h0 hS (hin (1 : Int32) (by decide)) dL_law_846 (n := 847) rfl ?_
  refine zr_aload_n h0 dL_law_847 rfl (n := 848) rfl ?_
  refine zr_callW (ce + 5) (sl + 119) h0 hfl (fun l D z0 hlt => kL_way l D z0 hlt x (xs (i + (1 : Int32)).toNatClampNeg) out S (k, h) hw) zw_379 zw_380 zw_0 zw_381 zyL_way (As := [.ref x, .int (xs (i + (1 : Int32)).toNatClampNeg), .ref out]) (st := []) rfl (by decide) rfl (Nat.le_of_ble_eq_true rfl) ⟨Nat.le_trans (Nat.add_le_add_left (Nat.le_of_ble_eq_true rfl) ce) hce, Nat.le_trans (Nat.add_le_add_left (Nat.le_of_ble_eq_true rfl) sl) hsl⟩ dL_law_848 rfl rfl (n := 851) rfl (fun n9 => ?_)
  refine zv_fr (fun hfr => ?_)
  obtain ⟨r, hr, ht, hv, hI⟩ := hok n9 hfr
  refine zr_istore [(0, .ref b), (1, .ref x), (2, .ref m), (3, .ref out), (4, .int i), (5, .int k)] h0 dL_law_851 (by decide) rfl (n := 853) rfl ?_
  refine zr_aload_n h0 dL_law_853 rfl (n := 854) rfl ?_
  refine zr_aload_n h0 dL_law_854 rfl (n := 855) rfl ?_
  refine zr_iload h0 dL_law_855 rfl (n := 857) rfl ?_
  refine zr_iconst (1 : Int32) h0 (by decide) dL_law_857 (n := 858) rfl ?_
  refine zr_iadd h0 dL_law_858 (n := 859) rfl ?_
  refine zr_sld h0 hS (hin (1 : Int32) (by decide)) dL_law_859 (n := 860) rfl ?_
  refine zr_call0 (res := (some (.int r.1))) (S' := r.2) (st := []) (st' := [.int r.1]) (ce' := (ce + 5)) (sl' := (sl + 119)) (P' := True) (zk_V h0 zcX6 (zcl_ex hr) (fun l D z0 => kX6_way l D z0 m (xs (i + (1 : Int32)).toNatClampNeg) ((h, n9) : ZS) r (zcl_of hr)) zw_950 zw_951 zw_952 zw_5 zw_953 rfl zyX6_way (As := [.int (xs (i + (1 : Int32)).toNatClampNeg)]) (st := []) rfl (by decide) rfl (Nat.le_of_ble_eq_true rfl) ⟨Nat.le_trans (Nat.add_le_add_left (Nat.le_of_ble_eq_true rfl) ce) hce, Nat.le_trans (Nat.add_le_add_left (Nat.le_of_ble_eq_true rfl) sl) hsl⟩ dL_law_860) rfl rfl rfl (n := 863) rfl (fun h => h) ?_
  refine zr_istore [(0, .ref b), (1, .ref x), (2, .ref m), (3, .ref out), (4, .int i), (5, .int k), (6, .int r.1)] h0 dL_law_863 (by decide) rfl (n := 865) rfl ?_
  refine zr_aload_n h0 dL_law_865 rfl (n := 866) rfl ?_
  refine zr_call0 (res := some (.int k)) (S' := r.2) (st := []) (st' := [.int k]) (ce' := (ce + 5)) (sl' := (sl + 119)) (P' := True) (zk_V h0 zcX6 (zcl_ex ht) (fun l D z0 => kX6_thrown l D z0 m r.2 k (zcl_of ht)) zw_878 zw_879 zw_880 zw_5 zw_881 rfl zyX6_thrown (As := []) (st := []) rfl (by decide) rfl (Nat.le_of_ble_eq_true rfl) ⟨Nat.le_trans (Nat.add_le_add_left (Nat.le_of_ble_eq_true rfl) ce) hce, Nat.le_trans (Nat.add_le_add_left (Nat.le_of_ble_eq_true rfl) sl) hsl⟩ dL_law_866) rfl rfl rfl (n := 869) rfl (fun h => h) ?_
  refine zr_iload h0 dL_law_869 rfl (n := 871) rfl ?_
  refine zr_icmp_eqY (tgt := 876) h0 rfl dL_law_871 (by decide) ?_
  refine zr_iload h0 dL_law_876 rfl (n := 878) rfl ?_
  by_cases hk : k = 0
  · refine zr_if_neN (tgt := 893) h0 hk dL_law_878 (by decide) ?_
    refine zr_aload_n h0 dL_law_881 rfl (n := 882) rfl ?_
    refine zr_iconst (0 : Int32) h0 (by decide) dL_law_882 (n := 883) rfl ?_
    refine zr_laloadK h0 (hv hk) dL_law_883 (n := 884) rfl ?_
    refine zr_iload h0 dL_law_884 rfl (n := 886) rfl ?_
    refine zr_i2l h0 dL_law_886 (n := 887) rfl ?_
    refine zr_lcmp h0 dL_law_887 (n := 888) rfl ?_
    refine zr_if_eqY (tgt := 893) h0 (lg_cmp_self _) dL_law_888 (by decide) ?_
    refine zr_goto (tgt := 2007) h0 dL_law_893 (by decide) ?_
    exact zv_wide (ce' := ce + 8) (sl' := sl + 119) (zv_sub (lv' := [(0, .ref b), (1, .ref x), (2, .ref m), (3, .ref out), (4, .int i)]) (kk _ hI) (zsub_of [0, 1, 2, 3, 4] rfl)) (Nat.add_le_add_left (Nat.le_of_ble_eq_true rfl) _) (Nat.add_le_add_left (Nat.le_of_ble_eq_true rfl) _)
  · refine zr_if_neY (tgt := 893) h0 hk dL_law_878 (by decide) ?_
    refine zr_goto (tgt := 2007) h0 dL_law_893 (by decide) ?_
    exact zv_wide (ce' := ce + 8) (sl' := sl + 119) (zv_sub (lv' := [(0, .ref b), (1, .ref x), (2, .ref m), (3, .ref out), (4, .int i)]) (kk _ hI) (zsub_of [0, 1, 2, 3, 4] rfl)) (Nat.add_le_add_left (Nat.le_of_ble_eq_true rfl) _) (Nat.add_le_add_left (Nat.le_of_ble_eq_true rfl) _)
def ok_10 (x m out : Nat) (a1 a2 a3 a4 : Int32) (S : ZS) (I : ZS → Prop) : Prop := ∃ (k : Int32) (h : ZH), fL_multiply x a1 a2 a3 a4 out S = some (k, h) ∧ ∀ n : Nat, zFr h n → ∃ r, zcl ((h, n) : ZS) m 6 (fX6_multiply m a1 a2 a3 a4 (h, n)) = some r ∧ zcl r.2 m 6 (fX6_thrown m r.2) = some k ∧ (k = 0 → zaJ r.2 out 0 = some (Int32.toInt64 r.1)) ∧ I r.2
set_option maxHeartbeats 4000000 in
set_option maxRecDepth 100000 in
theorem lc_10 {G : ZG} {b L x m out : Nat} {xs : Nat → Int32} {S : ZS} {ce sl : Nat} {i : Int32} {I : ZS → Prop} (h0 : zFix G code RL 8 (some .boolean) room_1) (hfl : zFlag G) (hS : zScr G b L xs) (hin : ∀ j : Int32, (0 ≤ j.toInt ∧ j.toInt ≤ 5) → vp_in (i + j) L) (hok : ok_10 x m out (xs (i + (1 : Int32)).toNatClampNeg) (xs (i + (2 : Int32)).toNatClampNeg) (xs (i + (3 : Int32)).toNatClampNeg) (xs (i + (4 : Int32)).toNatClampNeg) S I) (hce : ce + 8 ≤ 601024) (hsl : sl + 119 ≤ 7293034) (kk : ∀ S1 : ZS, I S1 → zV G 8 S1 (ce + 8) (sl + 119) 2007 [(0, .ref b), (1, .ref x), (2, .ref m), (3, .ref out), (4, .int i)] [] True) : zV G 8 S ce sl 896 [(0, .ref b), (1, .ref x), (2, .ref m), (3, .ref out), (4, .int i)] [] True := by
  obtain ⟨k, h, hw, hok⟩ := hok
  refine zr_aload_n h0 dL_law_896 rfl (n := 897) rfl ?_
  refine zr_aload_n h0 dL_law_897 rfl (n := 898) rfl ?_
  refine zr_iload h0 dL_law_898 rfl (n := 900) rfl ?_
  refine zr_iconst (1 : Int32) h0 (by decide) dL_law_900 (n := 901) rfl ?_
  refine zr_iadd h0 dL_law_901 (n := 902) rfl ?_
  refine zr_sld h0 hS (hin (1 : Int32) (by decide)) dL_law_902 (n := 903) rfl ?_
  refine zr_aload_n h0 dL_law_903 rfl (n := 904) rfl ?_
  refine zr_iload h0 dL_law_904 rfl (n := 906) rfl ?_
  refine zr_iconst (2 : Int32) h0 (by decide) dL_law_906 (n := 907) rfl ?_
  refine zr_iadd h0 dL_law_907 (n := 908) rfl ?_
  refine zr_sld h0 hS (hin (2 : Int32) (by decide)) dL_law_908 (n := 909) rfl ?_
  refine zr_aload_n h0 dL_law_909 rfl (n := 910) rfl ?_
  refine zr_iload h0 dL_law_910 rfl (n := 912) rfl ?_
  refine zr_iconst (3 : Int32) h0 (by decide) dL_law_912 (n := 913) rfl ?_
  refine zr_iadd h0 dL_law_913 (n := 914) rfl ?_
  refine zr_sld h0 hS (hin (3 : Int32) (by decide)) dL_law_914 (n := 915) rfl ?_
  refine zr_aload_n h0 dL_law_915 rfl (n := 916) rfl ?_
  refine zr_iload h0 dL_law_916 rfl (n := 918) rfl ?_
  refine zr_iconst (4 : Int32) h0 (by decide) dL_law_918 (n := 919) rfl ?_
  refine zr_iadd h0 dL_law_919 (n := 920) rfl ?_
  refine zr_sld h0 hS (hin (4 : Int32) (by decide)) dL_law_920 (n := 921) rfl ?_
  refine zr_aload_n h0 dL_law_921 rfl (n := 922) rfl ?_
  refine zr_callW (ce + 5) (sl + 30) h0 hfl (fun l D z0 hlt => kL_multiply l D z0 hlt x (xs (i + (1 : Int32)).toNatClampNeg) (xs (i + (2 : Int32)).toNatClampNeg) (xs (i + (3 : Int32)).toNatClampNeg) (xs (i + (4 : Int32)).toNatClampNeg) out S (k, h) hw) zw_413 zw_414 zw_0 zw_415 zyL_multiply (As := [.ref x, .int (xs (i + (1 : Int32)).toNatClampNeg), .int (xs (i + (2 : Int32)).toNatClampNeg), .int (xs (i + (3 : Int32)).toNatClampNeg), .int (xs (i + (4 : Int32)).toNatClampNeg), .ref out]) (st := []) rfl (by decide) rfl (Nat.le_of_ble_eq_true rfl) ⟨Nat.le_trans (Nat.add_le_add_left (Nat.le_of_ble_eq_true rfl) ce) hce, Nat.le_trans (Nat.add_le_add_left (Nat.le_of_ble_eq_true rfl) sl) hsl⟩ dL_law_922 rfl rfl (n := 925) rfl (fun n9 => ?_)
  refine zv_fr (fun hfr => ?_)
  obtain ⟨r, hr, ht, hv, hI⟩ := hok n9 hfr
  refine zr_istore [(0, .ref b), (1, .ref x), (2, .ref m), (3, .ref out), (4, .int i), (5, .int k)] h0 dL_law_925 (by decide) rfl (n := 927) rfl ?_
  refine zr_aload_n h0 dL_law_927 rfl (n := 928) rfl ?_
  refine zr_aload_n h0 dL_law_928 rfl (n := 929) rfl ?_
  refine zr_iload h0 dL_law_929 rfl (n := 931) rfl ?_
  refine zr_iconst (1 : Int32) h0 (by decide) dL_law_931 (n := 932) rfl ?_
  refine zr_iadd h0 dL_law_932 (n := 933) rfl ?_
  refine zr_sld h0 hS (hin (1 : Int32) (by decide)) dL_law_933 (n := 934) rfl ?_
  refine zr_aload_n h0 dL_law_934 rfl (n := 935) rfl ?_
  refine zr_iload h0 dL_law_935 rfl (n := 937) rfl ?_
  refine zr_iconst (2 : Int32) h0 (by decide) dL_law_937 (n := 938) rfl ?_
  refine zr_iadd h0 dL_law_938 (n := 939) rfl ?_
  refine zr_sld h0 hS (hin (2 : Int32) (by decide)) dL_law_939 (n := 940) rfl ?_
  refine zr_aload_n h0 dL_law_940 rfl (n := 941) rfl ?_
  refine zr_iload h0 dL_law_941 rfl (n := 943) rfl ?_
  refine zr_iconst (3 : Int32) h0 (by decide) dL_law_943 (n := 944) rfl ?_
  refine zr_iadd h0 dL_law_944 (n := 945) rfl ?_
  refine zr_sld h0 hS (hin (3 : Int32) (by decide)) dL_law_945 (n := 946) rfl ?_
  refine zr_aload_n h0 dL_law_946 rfl (n := 947) rfl ?_
  refine zr_iload h0 dL_law_947 rfl (n := 949) rfl ?_
  refine zr_iconst (4 : Int32) h0 (by decide) dL_law_949 (n := 950) rfl ?_
  refine zr_iadd h0 dL_law_950 (n := 951) rfl ?_
  refine zr_sld h0 hS (hin (4 : Int32) (by decide)) dL_law_951 (n := 952) rfl ?_
  refine zr_call0 (res := (some (.int r.1))) (S' := r.2) (st := []) (st' := [.int r.1]) (ce' := (ce + 5)) (sl' := (sl + 30)) (P' := True) (zk_V h0 zcX6 (zcl_ex hr) (fun l D z0 => kX6_multiply l D z0 m (xs (i + (1 : Int32)).toNatClampNeg) (xs (i + (2 : Int32)).toNatClampNeg) (xs (i + (3 : Int32)).toNatClampNeg) (xs (i + (4 : Int32)).toNatClampNeg) ((h, n9) : ZS) r (zcl_of hr)) zw_954 zw_955 zw_956 zw_5 zw_957 rfl zyX6_multiply (As := [.int (xs (i + (1 : Int32)).toNatClampNeg), .int (xs (i + (2 : Int32)).toNatClampNeg), .int (xs (i + (3 : Int32)).toNatClampNeg), .int (xs (i + (4 : Int32)).toNatClampNeg)]) (st := []) rfl (by decide) rfl (Nat.le_of_ble_eq_true rfl) ⟨Nat.le_trans (Nat.add_le_add_left (Nat.le_of_ble_eq_true rfl) ce) hce, Nat.le_trans (Nat.add_le_add_left (Nat.le_of_ble_eq_true rfl) sl) hsl⟩ dL_law_952) rfl rfl rfl (n := 955) rfl (fun h => h) ?_
  refine zr_istore [(0, .ref b), (1, .ref x), (2, .ref m), (3, .ref out), (4, .int i), (5, .int k), (6, .int r.1)] h0 dL_law_955 (by decide) rfl (n := 957) rfl ?_
  refine zr_aload_n h0 dL_law_957 rfl (n := 958) rfl ?_
  refine zr_call0 (res := some (.int k)) (S' := r.2) (st := []) (st' := [.int k]) (ce' := (ce + 5)) (sl' := (sl + 30)) (P' := True) (zk_V h0 zcX6 (zcl_ex ht) (fun l D z0 => kX6_thrown l D z0 m r.2 k (zcl_of ht)) zw_878 zw_879 zw_880 zw_5 zw_881 rfl zyX6_thrown (As := []) (st := []) rfl (by decide) rfl (Nat.le_of_ble_eq_true rfl) ⟨Nat.le_trans (Nat.add_le_add_left (Nat.le_of_ble_eq_true rfl) ce) hce, Nat.le_trans (Nat.add_le_add_left (Nat.le_of_ble_eq_true rfl) sl) hsl⟩ dL_law_958) rfl rfl rfl (n := 961) rfl (fun h => h) ?_
  refine zr_iload h0 dL_law_961 rfl (n := 963) rfl ?_
  refine zr_icmp_eqY (tgt := 968) h0 rfl dL_law_963 (by decide) ?_
  refine zr_iload h0 dL_law_968 rfl (n := 970) rfl ?_
  by_cases hk : k = 0
  · refine zr_if_neN (tgt := 985) h0 hk dL_law_970 (by decide) ?_
    refine zr_aload_n h0 dL_law_973 rfl (n := 974) rfl ?_
    refine zr_iconst (0 : Int32) h0 (by decide) dL_law_974 (n := 975) rfl ?_
    refine zr_laloadK h0 (hv hk) dL_law_975 (n := 976) rfl ?_
    refine zr_iload h0 dL_law_976 rfl (n := 978) rfl ?_
    refine zr_i2l h0 dL_law_978 (n := 979) rfl ?_
    refine zr_lcmp h0 dL_law_979 (n := 980) rfl ?_
    refine zr_if_eqY (tgt := 985) h0 (lg_cmp_self _) dL_law_980 (by decide) ?_
    refine zr_goto (tgt := 2007) h0 dL_law_985 (by decide) ?_
    exact zv_wide (ce' := ce + 8) (sl' := sl + 119) (zv_sub (lv' := [(0, .ref b), (1, .ref x), (2, .ref m), (3, .ref out), (4, .int i)]) (kk _ hI) (zsub_of [0, 1, 2, 3, 4] rfl)) (Nat.add_le_add_left (Nat.le_of_ble_eq_true rfl) _) (Nat.add_le_add_left (Nat.le_of_ble_eq_true rfl) _)
  · refine zr_if_neY (tgt := 985) h0 hk dL_law_970 (by decide) ?_
    refine zr_goto (tgt := 2007) h0 dL_law_985 (by decide) ?_
    exact zv_wide (ce' := ce + 8) (sl' := sl + 119) (zv_sub (lv' := [(0, .ref b), (1, .ref x), (2, .ref m), (3, .ref out), (4, .int i)]) (kk _ hI) (zsub_of [0, 1, 2, 3, 4] rfl)) (Nat.add_le_add_left (Nat.le_of_ble_eq_true rfl) _) (Nat.add_le_add_left (Nat.le_of_ble_eq_true rfl) _)
def ok_11 (x m out : Nat) (a1 : Int32) (S : ZS) (I : ZS → Prop) : Prop := ∃ (k : Int32) (h : ZH), fL_plain x a1 out S = some (k, h) ∧ ∀ n : Nat, zFr h n → ∃ r, zcl ((h, n) : ZS) m 6 (fX6_plain m a1 (h, n)) = some r ∧ zcl r.2 m 6 (fX6_thrown m r.2) = some k ∧ (k = 0 → zaJ r.2 out 0 = some (Int32.toInt64 r.1)) ∧ I r.2
set_option maxHeartbeats 4000000 in
set_option maxRecDepth 100000 in
theorem lc_11 {G : ZG} {b L x m out : Nat} {xs : Nat → Int32} {S : ZS} {ce sl : Nat} {i : Int32} {I : ZS → Prop} (h0 : zFix G code RL 8 (some .boolean) room_1) (hfl : zFlag G) (hS : zScr G b L xs) (hin : ∀ j : Int32, (0 ≤ j.toInt ∧ j.toInt ≤ 5) → vp_in (i + j) L) (hok : ok_11 x m out (xs (i + (1 : Int32)).toNatClampNeg) S I) (hce : ce + 8 ≤ 601024) (hsl : sl + 119 ≤ 7293034) (kk : ∀ S1 : ZS, I S1 → zV G 8 S1 (ce + 8) (sl + 119) 2007 [(0, .ref b), (1, .ref x), (2, .ref m), (3, .ref out), (4, .int i)] [] True) : zV G 8 S ce sl 988 [(0, .ref b), (1, .ref x), (2, .ref m), (3, .ref out), (4, .int i)] [] True := by
  obtain ⟨k, h, hw, hok⟩ := hok
  refine zr_aload_n h0 dL_law_988 rfl (n := 989) rfl ?_
  refine zr_aload_n h0 dL_law_989 rfl (n := 990) rfl ?_
  refine zr_iload h0 dL_law_990 rfl (n := 992) rfl ?_
  refine zr_iconst (1 : Int32) h0 (by decide) dL_law_992 (n := 993) rfl ?_
  refine zr_iadd h0 dL_law_993 (n := 994) rfl ?_
  refine zr_sld h0 hS (hin (1 : Int32) (by decide)) dL_law_994 (n := 995) rfl ?_
  refine zr_aload_n h0 dL_law_995 rfl (n := 996) rfl ?_
  refine zr_callW (ce + 2) (sl + 12) h0 hfl (fun l D z0 hlt => kL_plain l D z0 hlt x (xs (i + (1 : Int32)).toNatClampNeg) out S (k, h) hw) zw_445 zw_446 zw_0 zw_447 zyL_plain (As := [.ref x, .int (xs (i + (1 : Int32)).toNatClampNeg), .ref out]) (st := []) rfl (by decide) rfl (Nat.le_of_ble_eq_true rfl) ⟨Nat.le_trans (Nat.add_le_add_left (Nat.le_of_ble_eq_true rfl) ce) hce, Nat.le_trans (Nat.add_le_add_left (Nat.le_of_ble_eq_true rfl) sl) hsl⟩ dL_law_996 rfl rfl (n := 999) rfl (fun n9 => ?_)
  refine zv_fr (fun hfr => ?_)
  obtain ⟨r, hr, ht, hv, hI⟩ := hok n9 hfr
  refine zr_istore [(0, .ref b), (1, .ref x), (2, .ref m), (3, .ref out), (4, .int i), (5, .int k)] h0 dL_law_999 (by decide) rfl (n := 1001) rfl ?_
  refine zr_aload_n h0 dL_law_1001 rfl (n := 1002) rfl ?_
  refine zr_aload_n h0 dL_law_1002 rfl (n := 1003) rfl ?_
  refine zr_iload h0 dL_law_1003 rfl (n := 1005) rfl ?_
  refine zr_iconst (1 : Int32) h0 (by decide) dL_law_1005 (n := 1006) rfl ?_
  refine zr_iadd h0 dL_law_1006 (n := 1007) rfl ?_
  refine zr_sld h0 hS (hin (1 : Int32) (by decide)) dL_law_1007 (n := 1008) rfl ?_
  refine zr_call0 (res := (some (.int r.1))) (S' := r.2) (st := []) (st' := [.int r.1]) (ce' := (ce + 2)) (sl' := (sl + 12)) (P' := True) (zk_V h0 zcX6 (zcl_ex hr) (fun l D z0 => kX6_plain l D z0 m (xs (i + (1 : Int32)).toNatClampNeg) ((h, n9) : ZS) r (zcl_of hr)) zw_977 zw_978 zw_979 zw_5 zw_980 rfl zyX6_plain (As := [.int (xs (i + (1 : Int32)).toNatClampNeg)]) (st := []) rfl (by decide) rfl (Nat.le_of_ble_eq_true rfl) ⟨Nat.le_trans (Nat.add_le_add_left (Nat.le_of_ble_eq_true rfl) ce) hce, Nat.le_trans (Nat.add_le_add_left (Nat.le_of_ble_eq_true rfl) sl) hsl⟩ dL_law_1008) rfl rfl rfl (n := 1011) rfl (fun h => h) ?_
  refine zr_istore [(0, .ref b), (1, .ref x), (2, .ref m), (3, .ref out), (4, .int i), (5, .int k), (6, .int r.1)] h0 dL_law_1011 (by decide) rfl (n := 1013) rfl ?_
  refine zr_aload_n h0 dL_law_1013 rfl (n := 1014) rfl ?_
  refine zr_call0 (res := some (.int k)) (S' := r.2) (st := []) (st' := [.int k]) (ce' := (ce + 2)) (sl' := (sl + 12)) (P' := True) (zk_V h0 zcX6 (zcl_ex ht) (fun l D z0 => kX6_thrown l D z0 m r.2 k (zcl_of ht)) zw_878 zw_879 zw_880 zw_5 zw_881 rfl zyX6_thrown (As := []) (st := []) rfl (by decide) rfl (Nat.le_of_ble_eq_true rfl) ⟨Nat.le_trans (Nat.add_le_add_left (Nat.le_of_ble_eq_true rfl) ce) hce, Nat.le_trans (Nat.add_le_add_left (Nat.le_of_ble_eq_true rfl) sl) hsl⟩ dL_law_1014) rfl rfl rfl (n := 1017) rfl (fun h => h) ?_
  refine zr_iload h0 dL_law_1017 rfl (n := 1019) rfl ?_
  refine zr_icmp_eqY (tgt := 1024) h0 rfl dL_law_1019 (by decide) ?_
  refine zr_iload h0 dL_law_1024 rfl (n := 1026) rfl ?_
  by_cases hk : k = 0
  · refine zr_if_neN (tgt := 1041) h0 hk dL_law_1026 (by decide) ?_
    refine zr_aload_n h0 dL_law_1029 rfl (n := 1030) rfl ?_
    refine zr_iconst (0 : Int32) h0 (by decide) dL_law_1030 (n := 1031) rfl ?_
    refine zr_laloadK h0 (hv hk) dL_law_1031 (n := 1032) rfl ?_
    refine zr_iload h0 dL_law_1032 rfl (n := 1034) rfl ?_
    refine zr_i2l h0 dL_law_1034 (n := 1035) rfl ?_
    refine zr_lcmp h0 dL_law_1035 (n := 1036) rfl ?_
    refine zr_if_eqY (tgt := 1041) h0 (lg_cmp_self _) dL_law_1036 (by decide) ?_
    refine zr_goto (tgt := 2007) h0 dL_law_1041 (by decide) ?_
    exact zv_wide (ce' := ce + 8) (sl' := sl + 119) (zv_sub (lv' := [(0, .ref b), (1, .ref x), (2, .ref m), (3, .ref out), (4, .int i)]) (kk _ hI) (zsub_of [0, 1, 2, 3, 4] rfl)) (Nat.add_le_add_left (Nat.le_of_ble_eq_true rfl) _) (Nat.add_le_add_left (Nat.le_of_ble_eq_true rfl) _)
  · refine zr_if_neY (tgt := 1041) h0 hk dL_law_1026 (by decide) ?_
    refine zr_goto (tgt := 2007) h0 dL_law_1041 (by decide) ?_
    exact zv_wide (ce' := ce + 8) (sl' := sl + 119) (zv_sub (lv' := [(0, .ref b), (1, .ref x), (2, .ref m), (3, .ref out), (4, .int i)]) (kk _ hI) (zsub_of [0, 1, 2, 3, 4] rfl)) (Nat.add_le_add_left (Nat.le_of_ble_eq_true rfl) _) (Nat.add_le_add_left (Nat.le_of_ble_eq_true rfl) _)
def ok_12 (x m out : Nat) (a1 a2 a3 a4 : Int32) (S : ZS) (I : ZS → Prop) : Prop := ∃ (k : Int32) (h : ZH), fL_flip x a1 a2 a3 a4 S = some (k, h) ∧ ∀ n : Nat, zFr h n → ∃ r, zcl ((h, n) : ZS) m 6 (fX6_flip m a1 a2 a3 a4 (h, n)) = some r ∧ zcl r m 6 (fX6_thrown m r) = some k ∧ I r
set_option maxHeartbeats 4000000 in
set_option maxRecDepth 100000 in
theorem lc_12 {G : ZG} {b L x m out : Nat} {xs : Nat → Int32} {S : ZS} {ce sl : Nat} {i : Int32} {I : ZS → Prop} (h0 : zFix G code RL 8 (some .boolean) room_1) (hfl : zFlag G) (hS : zScr G b L xs) (hin : ∀ j : Int32, (0 ≤ j.toInt ∧ j.toInt ≤ 5) → vp_in (i + j) L) (hok : ok_12 x m out (xs (i + (1 : Int32)).toNatClampNeg) (xs (i + (2 : Int32)).toNatClampNeg) (xs (i + (3 : Int32)).toNatClampNeg) (xs (i + (4 : Int32)).toNatClampNeg) S I) (hce : ce + 8 ≤ 601024) (hsl : sl + 119 ≤ 7293034) (kk : ∀ S1 : ZS, I S1 → zV G 8 S1 (ce + 8) (sl + 119) 2007 [(0, .ref b), (1, .ref x), (2, .ref m), (3, .ref out), (4, .int i)] [] True) : zV G 8 S ce sl 1044 [(0, .ref b), (1, .ref x), (2, .ref m), (3, .ref out), (4, .int i)] [] True := by
  obtain ⟨k, h, hw, hok⟩ := hok
  refine zr_aload_n h0 dL_law_1044 rfl (n := 1045) rfl ?_
  refine zr_aload_n h0 dL_law_1045 rfl (n := 1046) rfl ?_
  refine zr_iload h0 dL_law_1046 rfl (n := 1048) rfl ?_
  refine zr_iconst (1 : Int32) h0 (by decide) dL_law_1048 (n := 1049) rfl ?_
  refine zr_iadd h0 dL_law_1049 (n := 1050) rfl ?_
  refine zr_sld h0 hS (hin (1 : Int32) (by decide)) dL_law_1050 (n := 1051) rfl ?_
  refine zr_aload_n h0 dL_law_1051 rfl (n := 1052) rfl ?_
  refine zr_iload h0 dL_law_1052 rfl (n := 1054) rfl ?_
  refine zr_iconst (2 : Int32) h0 (by decide) dL_law_1054 (n := 1055) rfl ?_
  refine zr_iadd h0 dL_law_1055 (n := 1056) rfl ?_
  refine zr_sld h0 hS (hin (2 : Int32) (by decide)) dL_law_1056 (n := 1057) rfl ?_
  refine zr_aload_n h0 dL_law_1057 rfl (n := 1058) rfl ?_
  refine zr_iload h0 dL_law_1058 rfl (n := 1060) rfl ?_
  refine zr_iconst (3 : Int32) h0 (by decide) dL_law_1060 (n := 1061) rfl ?_
  refine zr_iadd h0 dL_law_1061 (n := 1062) rfl ?_
  refine zr_sld h0 hS (hin (3 : Int32) (by decide)) dL_law_1062 (n := 1063) rfl ?_
  refine zr_aload_n h0 dL_law_1063 rfl (n := 1064) rfl ?_
  refine zr_iload h0 dL_law_1064 rfl (n := 1066) rfl ?_
  refine zr_iconst (4 : Int32) h0 (by decide) dL_law_1066 (n := 1067) rfl ?_
  refine zr_iadd h0 dL_law_1067 (n := 1068) rfl ?_
  refine zr_sld h0 hS (hin (4 : Int32) (by decide)) dL_law_1068 (n := 1069) rfl ?_
  refine zr_callW (ce + 5) (sl + 30) h0 hfl (fun l D z0 hlt => kL_flip l D z0 hlt x (xs (i + (1 : Int32)).toNatClampNeg) (xs (i + (2 : Int32)).toNatClampNeg) (xs (i + (3 : Int32)).toNatClampNeg) (xs (i + (4 : Int32)).toNatClampNeg) S (k, h) hw) zw_461 zw_462 zw_0 zw_463 zyL_flip (As := [.ref x, .int (xs (i + (1 : Int32)).toNatClampNeg), .int (xs (i + (2 : Int32)).toNatClampNeg), .int (xs (i + (3 : Int32)).toNatClampNeg), .int (xs (i + (4 : Int32)).toNatClampNeg)]) (st := []) rfl (by decide) rfl (Nat.le_of_ble_eq_true rfl) ⟨Nat.le_trans (Nat.add_le_add_left (Nat.le_of_ble_eq_true rfl) ce) hce, Nat.le_trans (Nat.add_le_add_left (Nat.le_of_ble_eq_true rfl) sl) hsl⟩ dL_law_1069 rfl rfl (n := 1072) rfl (fun n9 => ?_)
  refine zv_fr (fun hfr => ?_)
  obtain ⟨r, hr, ht, hI⟩ := hok n9 hfr
  refine zr_istore [(0, .ref b), (1, .ref x), (2, .ref m), (3, .ref out), (4, .int i), (5, .int k)] h0 dL_law_1072 (by decide) rfl (n := 1074) rfl ?_
  refine zr_aload_n h0 dL_law_1074 rfl (n := 1075) rfl ?_
  refine zr_aload_n h0 dL_law_1075 rfl (n := 1076) rfl ?_
  refine zr_iload h0 dL_law_1076 rfl (n := 1078) rfl ?_
  refine zr_iconst (1 : Int32) h0 (by decide) dL_law_1078 (n := 1079) rfl ?_
  refine zr_iadd h0 dL_law_1079 (n := 1080) rfl ?_
  refine zr_sld h0 hS (hin (1 : Int32) (by decide)) dL_law_1080 (n := 1081) rfl ?_
  refine zr_aload_n h0 dL_law_1081 rfl (n := 1082) rfl ?_
  refine zr_iload h0 dL_law_1082 rfl (n := 1084) rfl ?_
  refine zr_iconst (2 : Int32) h0 (by decide) dL_law_1084 (n := 1085) rfl ?_
  refine zr_iadd h0 dL_law_1085 (n := 1086) rfl ?_
  refine zr_sld h0 hS (hin (2 : Int32) (by decide)) dL_law_1086 (n := 1087) rfl ?_
  refine zr_aload_n h0 dL_law_1087 rfl (n := 1088) rfl ?_
  refine zr_iload h0 dL_law_1088 rfl (n := 1090) rfl ?_
  refine zr_iconst (3 : Int32) h0 (by decide) dL_law_1090 (n := 1091) rfl ?_
  refine zr_iadd h0 dL_law_1091 (n := 1092) rfl ?_
  refine zr_sld h0 hS (hin (3 : Int32) (by decide)) dL_law_1092 (n := 1093) rfl ?_
  refine zr_aload_n h0 dL_law_1093 rfl (n := 1094) rfl ?_
  refine zr_iload h0 dL_law_1094 rfl (n := 1096) rfl ?_
  refine zr_iconst (4 : Int32) h0 (by decide) dL_law_1096 (n := 1097) rfl ?_
  refine zr_iadd h0 dL_law_1097 (n := 1098) rfl ?_
  refine zr_sld h0 hS (hin (4 : Int32) (by decide)) dL_law_1098 (n := 1099) rfl ?_
  refine zr_call0 (res := none) (S' := r) (st := []) (st' := []) (ce' := (ce + 5)) (sl' := (sl + 30)) (P' := True) (zk_V h0 zcX6 (zcl_ex hr) (fun l D z0 => kX6_flip l D z0 m (xs (i + (1 : Int32)).toNatClampNeg) (xs (i + (2 : Int32)).toNatClampNeg) (xs (i + (3 : Int32)).toNatClampNeg) (xs (i + (4 : Int32)).toNatClampNeg) ((h, n9) : ZS) r (zcl_of hr)) zw_981 zw_982 zw_983 zw_5 zw_984 rfl zyX6_flip (As := [.int (xs (i + (1 : Int32)).toNatClampNeg), .int (xs (i + (2 : Int32)).toNatClampNeg), .int (xs (i + (3 : Int32)).toNatClampNeg), .int (xs (i + (4 : Int32)).toNatClampNeg)]) (st := []) rfl (by decide) rfl (Nat.le_of_ble_eq_true rfl) ⟨Nat.le_trans (Nat.add_le_add_left (Nat.le_of_ble_eq_true rfl) ce) hce, Nat.le_trans (Nat.add_le_add_left (Nat.le_of_ble_eq_true rfl) sl) hsl⟩ dL_law_1099) rfl rfl rfl (n := 1102) rfl (fun h => h) ?_
  refine zr_aload_n h0 dL_law_1102 rfl (n := 1103) rfl ?_
  refine zr_call0 (res := some (.int k)) (S' := r) (st := []) (st' := [.int k]) (ce' := (ce + 5)) (sl' := (sl + 30)) (P' := True) (zk_V h0 zcX6 (zcl_ex ht) (fun l D z0 => kX6_thrown l D z0 m r k (zcl_of ht)) zw_878 zw_879 zw_880 zw_5 zw_881 rfl zyX6_thrown (As := []) (st := []) rfl (by decide) rfl (Nat.le_of_ble_eq_true rfl) ⟨Nat.le_trans (Nat.add_le_add_left (Nat.le_of_ble_eq_true rfl) ce) hce, Nat.le_trans (Nat.add_le_add_left (Nat.le_of_ble_eq_true rfl) sl) hsl⟩ dL_law_1103) rfl rfl rfl (n := 1106) rfl (fun h => h) ?_
  refine zr_iload h0 dL_law_1106 rfl (n := 1108) rfl ?_
  refine zr_icmp_eqY (tgt := 1113) h0 rfl dL_law_1108 (by decide) ?_
  refine zr_goto (tgt := 2007) h0 dL_law_1113 (by decide) ?_
  exact zv_wide (ce' := ce + 8) (sl' := sl + 119) (zv_sub (lv' := [(0, .ref b), (1, .ref x), (2, .ref m), (3, .ref out), (4, .int i)]) (kk _ hI) (zsub_of [0, 1, 2, 3, 4] rfl)) (Nat.add_le_add_left (Nat.le_of_ble_eq_true rfl) _) (Nat.add_le_add_left (Nat.le_of_ble_eq_true rfl) _)
def ok_13 (x m out : Nat) (a1 : Int32) (S : ZS) (I : ZS → Prop) : Prop := ∃ (k : Int32) (h : ZH), fL_reduce x a1 out S = some (k, h) ∧ ∀ n : Nat, zFr h n → ∃ r, zcl ((h, n) : ZS) m 6 (fX6_reduce m a1 (h, n)) = some r ∧ zcl r.2 m 6 (fX6_thrown m r.2) = some k ∧ (k = 0 → zaJ r.2 out 0 = some (Int32.toInt64 r.1)) ∧ I r.2
set_option maxHeartbeats 4000000 in
set_option maxRecDepth 100000 in
theorem lc_13 {G : ZG} {b L x m out : Nat} {xs : Nat → Int32} {S : ZS} {ce sl : Nat} {i : Int32} {I : ZS → Prop} (h0 : zFix G code RL 8 (some .boolean) room_1) (hfl : zFlag G) (hS : zScr G b L xs) (hin : ∀ j : Int32, (0 ≤ j.toInt ∧ j.toInt ≤ 5) → vp_in (i + j) L) (hok : ok_13 x m out (xs (i + (1 : Int32)).toNatClampNeg) S I) (hce : ce + 8 ≤ 601024) (hsl : sl + 119 ≤ 7293034) (kk : ∀ S1 : ZS, I S1 → zV G 8 S1 (ce + 8) (sl + 119) 2007 [(0, .ref b), (1, .ref x), (2, .ref m), (3, .ref out), (4, .int i)] [] True) : zV G 8 S ce sl 1116 [(0, .ref b), (1, .ref x), (2, .ref m), (3, .ref out), (4, .int i)] [] True := by
  obtain ⟨k, h, hw, hok⟩ := hok
  refine zr_aload_n h0 dL_law_1116 rfl (n := 1117) rfl ?_
  refine zr_aload_n h0 dL_law_1117 rfl (n := 1118) rfl ?_
  refine zr_iload h0 dL_law_1118 rfl (n := 1120) rfl ?_
  refine zr_iconst (1 : Int32) h0 (by decide) dL_law_1120 (n := 1121) rfl ?_
  refine zr_iadd h0 dL_law_1121 (n := 1122) rfl ?_
  refine zr_sld h0 hS (hin (1 : Int32) (by decide)) dL_law_1122 (n := 1123) rfl ?_
  refine zr_aload_n h0 dL_law_1123 rfl (n := 1124) rfl ?_
  refine zr_callW (ce + 1) (sl + 6) h0 hfl (fun l D z0 hlt => kL_reduce l D z0 hlt x (xs (i + (1 : Int32)).toNatClampNeg) out S (k, h) hw) zw_502 zw_503 zw_0 zw_504 zyL_reduce (As := [.ref x, .int (xs (i + (1 : Int32)).toNatClampNeg), .ref out]) (st := []) rfl (by decide) rfl (Nat.le_of_ble_eq_true rfl) ⟨Nat.le_trans (Nat.add_le_add_left (Nat.le_of_ble_eq_true rfl) ce) hce, Nat.le_trans (Nat.add_le_add_left (Nat.le_of_ble_eq_true rfl) sl) hsl⟩ dL_law_1124 rfl rfl (n := 1127) rfl (fun n9 => ?_)
  refine zv_fr (fun hfr => ?_)
  obtain ⟨r, hr, ht, hv, hI⟩ := hok n9 hfr
  refine zr_istore [(0, .ref b), (1, .ref x), (2, .ref m), (3, .ref out), (4, .int i), (5, .int k)] h0 dL_law_1127 (by decide) rfl (n := 1129) rfl ?_
  refine zr_aload_n h0 dL_law_1129 rfl (n := 1130) rfl ?_
  refine zr_aload_n h0 dL_law_1130 rfl (n := 1131) rfl ?_
  refine zr_iload h0 dL_law_1131 rfl (n := 1133) rfl ?_
  refine zr_iconst (1 : Int32) h0 (by decide) dL_law_1133 (n := 1134) rfl ?_
  refine zr_iadd h0 dL_law_1134 (n := 1135) rfl ?_
  refine zr_sld h0 hS (hin (1 : Int32) (by decide)) dL_law_1135 (n := 1136) rfl ?_
  refine zr_call0 (res := (some (.int r.1))) (S' := r.2) (st := []) (st' := [.int r.1]) (ce' := (ce + 1)) (sl' := (sl + 6)) (P' := True) (zk_V h0 zcX6 (zcl_ex hr) (fun l D z0 => kX6_reduce l D z0 m (xs (i + (1 : Int32)).toNatClampNeg) ((h, n9) : ZS) r (zcl_of hr)) zw_1001 zw_1002 zw_1003 zw_5 zw_1004 rfl zyX6_reduce (As := [.int (xs (i + (1 : Int32)).toNatClampNeg)]) (st := []) rfl (by decide) rfl (Nat.le_of_ble_eq_true rfl) ⟨Nat.le_trans (Nat.add_le_add_left (Nat.le_of_ble_eq_true rfl) ce) hce, Nat.le_trans (Nat.add_le_add_left (Nat.le_of_ble_eq_true rfl) sl) hsl⟩ dL_law_1136) rfl rfl rfl (n := 1139) rfl (fun h => h) ?_
  refine zr_istore [(0, .ref b), (1, .ref x), (2, .ref m), (3, .ref out), (4, .int i), (5, .int k), (6, .int r.1)] h0 dL_law_1139 (by decide) rfl (n := 1141) rfl ?_
  refine zr_aload_n h0 dL_law_1141 rfl (n := 1142) rfl ?_
  refine zr_call0 (res := some (.int k)) (S' := r.2) (st := []) (st' := [.int k]) (ce' := (ce + 1)) (sl' := (sl + 6)) (P' := True) (zk_V h0 zcX6 (zcl_ex ht) (fun l D z0 => kX6_thrown l D z0 m r.2 k (zcl_of ht)) zw_878 zw_879 zw_880 zw_5 zw_881 rfl zyX6_thrown (As := []) (st := []) rfl (by decide) rfl (Nat.le_of_ble_eq_true rfl) ⟨Nat.le_trans (Nat.add_le_add_left (Nat.le_of_ble_eq_true rfl) ce) hce, Nat.le_trans (Nat.add_le_add_left (Nat.le_of_ble_eq_true rfl) sl) hsl⟩ dL_law_1142) rfl rfl rfl (n := 1145) rfl (fun h => h) ?_
  refine zr_iload h0 dL_law_1145 rfl (n := 1147) rfl ?_
  refine zr_icmp_eqY (tgt := 1152) h0 rfl dL_law_1147 (by decide) ?_
  refine zr_iload h0 dL_law_1152 rfl (n := 1154) rfl ?_
  by_cases hk : k = 0
  · refine zr_if_neN (tgt := 1169) h0 hk dL_law_1154 (by decide) ?_
    refine zr_aload_n h0 dL_law_1157 rfl (n := 1158) rfl ?_
    refine zr_iconst (0 : Int32) h0 (by decide) dL_law_1158 (n := 1159) rfl ?_
    refine zr_laloadK h0 (hv hk) dL_law_1159 (n := 1160) rfl ?_
    refine zr_iload h0 dL_law_1160 rfl (n := 1162) rfl ?_
    refine zr_i2l h0 dL_law_1162 (n := 1163) rfl ?_
    refine zr_lcmp h0 dL_law_1163 (n := 1164) rfl ?_
    refine zr_if_eqY (tgt := 1169) h0 (lg_cmp_self _) dL_law_1164 (by decide) ?_
    refine zr_goto (tgt := 2007) h0 dL_law_1169 (by decide) ?_
    exact zv_wide (ce' := ce + 8) (sl' := sl + 119) (zv_sub (lv' := [(0, .ref b), (1, .ref x), (2, .ref m), (3, .ref out), (4, .int i)]) (kk _ hI) (zsub_of [0, 1, 2, 3, 4] rfl)) (Nat.add_le_add_left (Nat.le_of_ble_eq_true rfl) _) (Nat.add_le_add_left (Nat.le_of_ble_eq_true rfl) _)
  · refine zr_if_neY (tgt := 1169) h0 hk dL_law_1154 (by decide) ?_
    refine zr_goto (tgt := 2007) h0 dL_law_1169 (by decide) ?_
    exact zv_wide (ce' := ce + 8) (sl' := sl + 119) (zv_sub (lv' := [(0, .ref b), (1, .ref x), (2, .ref m), (3, .ref out), (4, .int i)]) (kk _ hI) (zsub_of [0, 1, 2, 3, 4] rfl)) (Nat.add_le_add_left (Nat.le_of_ble_eq_true rfl) _) (Nat.add_le_add_left (Nat.le_of_ble_eq_true rfl) _)
def ok_14 (x m out : Nat) (a1 a2 a3 : Int32) (S : ZS) (I : ZS → Prop) : Prop := ∃ (k : Int32) (h : ZH), fL_walk x a1 a2 a3 out S = some (k, h) ∧ ∀ n : Nat, zFr h n → ∃ r, zcl ((h, n) : ZS) m 6 (fX6_walk m a1 a2 a3 (h, n)) = some r ∧ zcl r.2 m 6 (fX6_thrown m r.2) = some k ∧ (k = 0 → zaJ r.2 out 0 = some (Int32.toInt64 r.1)) ∧ I r.2
set_option maxHeartbeats 4000000 in
set_option maxRecDepth 100000 in
theorem lc_14 {G : ZG} {b L x m out : Nat} {xs : Nat → Int32} {S : ZS} {ce sl : Nat} {i : Int32} {I : ZS → Prop} (h0 : zFix G code RL 8 (some .boolean) room_1) (hfl : zFlag G) (hS : zScr G b L xs) (hin : ∀ j : Int32, (0 ≤ j.toInt ∧ j.toInt ≤ 5) → vp_in (i + j) L) (hok : ok_14 x m out (xs (i + (1 : Int32)).toNatClampNeg) (xs (i + (2 : Int32)).toNatClampNeg) (xs (i + (3 : Int32)).toNatClampNeg) S I) (hce : ce + 8 ≤ 601024) (hsl : sl + 119 ≤ 7293034) (kk : ∀ S1 : ZS, I S1 → zV G 8 S1 (ce + 8) (sl + 119) 2007 [(0, .ref b), (1, .ref x), (2, .ref m), (3, .ref out), (4, .int i)] [] True) : zV G 8 S ce sl 1172 [(0, .ref b), (1, .ref x), (2, .ref m), (3, .ref out), (4, .int i)] [] True := by
  obtain ⟨k, h, hw, hok⟩ := hok
  refine zr_aload_n h0 dL_law_1172 rfl (n := 1173) rfl ?_
  refine zr_aload_n h0 dL_law_1173 rfl (n := 1174) rfl ?_
  refine zr_iload h0 dL_law_1174 rfl (n := 1176) rfl ?_
  refine zr_iconst (1 : Int32) h0 (by decide) dL_law_1176 (n := 1177) rfl ?_
  refine zr_iadd h0 dL_law_1177 (n := 1178) rfl ?_
  refine zr_sld h0 hS (hin (1 : Int32) (by decide)) dL_law_1178 (n := 1179) rfl ?_
  refine zr_aload_n h0 dL_law_1179 rfl (n := 1180) rfl ?_
  refine zr_iload h0 dL_law_1180 rfl (n := 1182) rfl ?_
  refine zr_iconst (2 : Int32) h0 (by decide) dL_law_1182 (n := 1183) rfl ?_
  refine zr_iadd h0 dL_law_1183 (n := 1184) rfl ?_
  refine zr_sld h0 hS (hin (2 : Int32) (by decide)) dL_law_1184 (n := 1185) rfl ?_
  refine zr_aload_n h0 dL_law_1185 rfl (n := 1186) rfl ?_
  refine zr_iload h0 dL_law_1186 rfl (n := 1188) rfl ?_
  refine zr_iconst (3 : Int32) h0 (by decide) dL_law_1188 (n := 1189) rfl ?_
  refine zr_iadd h0 dL_law_1189 (n := 1190) rfl ?_
  refine zr_sld h0 hS (hin (3 : Int32) (by decide)) dL_law_1190 (n := 1191) rfl ?_
  refine zr_aload_n h0 dL_law_1191 rfl (n := 1192) rfl ?_
  refine zr_callW (ce + 2) (sl + 12) h0 hfl (fun l D z0 hlt => kL_walk l D z0 hlt x (xs (i + (1 : Int32)).toNatClampNeg) (xs (i + (2 : Int32)).toNatClampNeg) (xs (i + (3 : Int32)).toNatClampNeg) out S (k, h) hw) zw_533 zw_534 zw_0 zw_535 zyL_walk (As := [.ref x, .int (xs (i + (1 : Int32)).toNatClampNeg), .int (xs (i + (2 : Int32)).toNatClampNeg), .int (xs (i + (3 : Int32)).toNatClampNeg), .ref out]) (st := []) rfl (by decide) rfl (Nat.le_of_ble_eq_true rfl) ⟨Nat.le_trans (Nat.add_le_add_left (Nat.le_of_ble_eq_true rfl) ce) hce, Nat.le_trans (Nat.add_le_add_left (Nat.le_of_ble_eq_true rfl) sl) hsl⟩ dL_law_1192 rfl rfl (n := 1195) rfl (fun n9 => ?_)
  refine zv_fr (fun hfr => ?_)
  obtain ⟨r, hr, ht, hv, hI⟩ := hok n9 hfr
  refine zr_istore [(0, .ref b), (1, .ref x), (2, .ref m), (3, .ref out), (4, .int i), (5, .int k)] h0 dL_law_1195 (by decide) rfl (n := 1197) rfl ?_
  refine zr_aload_n h0 dL_law_1197 rfl (n := 1198) rfl ?_
  refine zr_aload_n h0 dL_law_1198 rfl (n := 1199) rfl ?_
  refine zr_iload h0 dL_law_1199 rfl (n := 1201) rfl ?_
  refine zr_iconst (1 : Int32) h0 (by decide) dL_law_1201 (n := 1202) rfl ?_
  refine zr_iadd h0 dL_law_1202 (n := 1203) rfl ?_
  refine zr_sld h0 hS (hin (1 : Int32) (by decide)) dL_law_1203 (n := 1204) rfl ?_
  refine zr_aload_n h0 dL_law_1204 rfl (n := 1205) rfl ?_
  refine zr_iload h0 dL_law_1205 rfl (n := 1207) rfl ?_
  refine zr_iconst (2 : Int32) h0 (by decide) dL_law_1207 (n := 1208) rfl ?_
  refine zr_iadd h0 dL_law_1208 (n := 1209) rfl ?_
  refine zr_sld h0 hS (hin (2 : Int32) (by decide)) dL_law_1209 (n := 1210) rfl ?_
  refine zr_aload_n h0 dL_law_1210 rfl (n := 1211) rfl ?_
  refine zr_iload h0 dL_law_1211 rfl (n := 1213) rfl ?_
  refine zr_iconst (3 : Int32) h0 (by decide) dL_law_1213 (n := 1214) rfl ?_
  refine zr_iadd h0 dL_law_1214 (n := 1215) rfl ?_
  refine zr_sld h0 hS (hin (3 : Int32) (by decide)) dL_law_1215 (n := 1216) rfl ?_
  refine zr_call0 (res := (some (.int r.1))) (S' := r.2) (st := []) (st' := [.int r.1]) (ce' := (ce + 2)) (sl' := (sl + 12)) (P' := True) (zk_V h0 zcX6 (zcl_ex hr) (fun l D z0 => kX6_walk l D z0 m (xs (i + (1 : Int32)).toNatClampNeg) (xs (i + (2 : Int32)).toNatClampNeg) (xs (i + (3 : Int32)).toNatClampNeg) ((h, n9) : ZS) r (zcl_of hr)) zw_1025 zw_1026 zw_1027 zw_5 zw_1028 rfl zyX6_walk (As := [.int (xs (i + (1 : Int32)).toNatClampNeg), .int (xs (i + (2 : Int32)).toNatClampNeg), .int (xs (i + (3 : Int32)).toNatClampNeg)]) (st := []) rfl (by decide) rfl (Nat.le_of_ble_eq_true rfl) ⟨Nat.le_trans (Nat.add_le_add_left (Nat.le_of_ble_eq_true rfl) ce) hce, Nat.le_trans (Nat.add_le_add_left (Nat.le_of_ble_eq_true rfl) sl) hsl⟩ dL_law_1216) rfl rfl rfl (n := 1219) rfl (fun h => h) ?_
  refine zr_istore [(0, .ref b), (1, .ref x), (2, .ref m), (3, .ref out), (4, .int i), (5, .int k), (6, .int r.1)] h0 dL_law_1219 (by decide) rfl (n := 1221) rfl ?_
  refine zr_aload_n h0 dL_law_1221 rfl (n := 1222) rfl ?_
  refine zr_call0 (res := some (.int k)) (S' := r.2) (st := []) (st' := [.int k]) (ce' := (ce + 2)) (sl' := (sl + 12)) (P' := True) (zk_V h0 zcX6 (zcl_ex ht) (fun l D z0 => kX6_thrown l D z0 m r.2 k (zcl_of ht)) zw_878 zw_879 zw_880 zw_5 zw_881 rfl zyX6_thrown (As := []) (st := []) rfl (by decide) rfl (Nat.le_of_ble_eq_true rfl) ⟨Nat.le_trans (Nat.add_le_add_left (Nat.le_of_ble_eq_true rfl) ce) hce, Nat.le_trans (Nat.add_le_add_left (Nat.le_of_ble_eq_true rfl) sl) hsl⟩ dL_law_1222) rfl rfl rfl (n := 1225) rfl (fun h => h) ?_
  refine zr_iload h0 dL_law_1225 rfl (n := 1227) rfl ?_
  refine zr_icmp_eqY (tgt := 1232) h0 rfl dL_law_1227 (by decide) ?_
  refine zr_iload h0 dL_law_1232 rfl (n := 1234) rfl ?_
  by_cases hk : k = 0
  · refine zr_if_neN (tgt := 1249) h0 hk dL_law_1234 (by decide) ?_
    refine zr_aload_n h0 dL_law_1237 rfl (n := 1238) rfl ?_
    refine zr_iconst (0 : Int32) h0 (by decide) dL_law_1238 (n := 1239) rfl ?_
    refine zr_laloadK h0 (hv hk) dL_law_1239 (n := 1240) rfl ?_
    refine zr_iload h0 dL_law_1240 rfl (n := 1242) rfl ?_
    refine zr_i2l h0 dL_law_1242 (n := 1243) rfl ?_
    refine zr_lcmp h0 dL_law_1243 (n := 1244) rfl ?_
    refine zr_if_eqY (tgt := 1249) h0 (lg_cmp_self _) dL_law_1244 (by decide) ?_
    refine zr_goto (tgt := 2007) h0 dL_law_1249 (by decide) ?_
    exact zv_wide (ce' := ce + 8) (sl' := sl + 119) (zv_sub (lv' := [(0, .ref b), (1, .ref x), (2, .ref m), (3, .ref out), (4, .int i)]) (kk _ hI) (zsub_of [0, 1, 2, 3, 4] rfl)) (Nat.add_le_add_left (Nat.le_of_ble_eq_true rfl) _) (Nat.add_le_add_left (Nat.le_of_ble_eq_true rfl) _)
  · refine zr_if_neY (tgt := 1249) h0 hk dL_law_1234 (by decide) ?_
    refine zr_goto (tgt := 2007) h0 dL_law_1249 (by decide) ?_
    exact zv_wide (ce' := ce + 8) (sl' := sl + 119) (zv_sub (lv' := [(0, .ref b), (1, .ref x), (2, .ref m), (3, .ref out), (4, .int i)]) (kk _ hI) (zsub_of [0, 1, 2, 3, 4] rfl)) (Nat.add_le_add_left (Nat.le_of_ble_eq_true rfl) _) (Nat.add_le_add_left (Nat.le_of_ble_eq_true rfl) _)
def ok_15 (x m out : Nat) (a1 a2 a3 a4 : Int32) (S : ZS) (I : ZS → Prop) : Prop := ∃ (k : Int32) (h : ZH), fL_at x a1 a2 a3 a4 out S = some (k, h) ∧ ∀ n : Nat, zFr h n → ∃ r, zcl ((h, n) : ZS) m 6 (fX6_at m a1 a2 a3 a4 (h, n)) = some r ∧ zcl r.2 m 6 (fX6_thrown m r.2) = some k ∧ (k = 0 → zaJ r.2 out 0 = some (Int32.toInt64 r.1)) ∧ I r.2
set_option maxHeartbeats 4000000 in
set_option maxRecDepth 100000 in
theorem lc_15 {G : ZG} {b L x m out : Nat} {xs : Nat → Int32} {S : ZS} {ce sl : Nat} {i : Int32} {I : ZS → Prop} (h0 : zFix G code RL 8 (some .boolean) room_1) (hfl : zFlag G) (hS : zScr G b L xs) (hin : ∀ j : Int32, (0 ≤ j.toInt ∧ j.toInt ≤ 5) → vp_in (i + j) L) (hok : ok_15 x m out (xs (i + (1 : Int32)).toNatClampNeg) (xs (i + (2 : Int32)).toNatClampNeg) (xs (i + (3 : Int32)).toNatClampNeg) (xs (i + (4 : Int32)).toNatClampNeg) S I) (hce : ce + 8 ≤ 601024) (hsl : sl + 119 ≤ 7293034) (kk : ∀ S1 : ZS, I S1 → zV G 8 S1 (ce + 8) (sl + 119) 2007 [(0, .ref b), (1, .ref x), (2, .ref m), (3, .ref out), (4, .int i)] [] True) : zV G 8 S ce sl 1252 [(0, .ref b), (1, .ref x), (2, .ref m), (3, .ref out), (4, .int i)] [] True := by
  obtain ⟨k, h, hw, hok⟩ := hok
  refine zr_aload_n h0 dL_law_1252 rfl (n := 1253) rfl ?_
  refine zr_aload_n h0 dL_law_1253 rfl (n := 1254) rfl ?_
  refine zr_iload h0 dL_law_1254 rfl (n := 1256) rfl ?_
  refine zr_iconst (1 : Int32) h0 (by decide) dL_law_1256 (n := 1257) rfl ?_
  refine zr_iadd h0 dL_law_1257 (n := 1258) rfl ?_
  refine zr_sld h0 hS (hin (1 : Int32) (by decide)) dL_law_1258 (n := 1259) rfl ?_
  refine zr_aload_n h0 dL_law_1259 rfl (n := 1260) rfl ?_
  refine zr_iload h0 dL_law_1260 rfl (n := 1262) rfl ?_
  refine zr_iconst (2 : Int32) h0 (by decide) dL_law_1262 (n := 1263) rfl ?_
  refine zr_iadd h0 dL_law_1263 (n := 1264) rfl ?_
  refine zr_sld h0 hS (hin (2 : Int32) (by decide)) dL_law_1264 (n := 1265) rfl ?_
  refine zr_aload_n h0 dL_law_1265 rfl (n := 1266) rfl ?_
  refine zr_iload h0 dL_law_1266 rfl (n := 1268) rfl ?_
  refine zr_iconst (3 : Int32) h0 (by decide) dL_law_1268 (n := 1269) rfl ?_
  refine zr_iadd h0 dL_law_1269 (n := 1270) rfl ?_
  refine zr_sld h0 hS (hin (3 : Int32) (by decide)) dL_law_1270 (n := 1271) rfl ?_
  refine zr_aload_n h0 dL_law_1271 rfl (n := 1272) rfl ?_
  refine zr_iload h0 dL_law_1272 rfl (n := 1274) rfl ?_
  refine zr_iconst (4 : Int32) h0 (by decide) dL_law_1274 (n := 1275) rfl ?_
  refine zr_iadd h0 dL_law_1275 (n := 1276) rfl ?_
  refine zr_sld h0 hS (hin (4 : Int32) (by decide)) dL_law_1276 (n := 1277) rfl ?_
  refine zr_aload_n h0 dL_law_1277 rfl (n := 1278) rfl ?_
  refine zr_callW (ce + 2) (sl + 12) h0 hfl (fun l D z0 hlt => kL_at l D z0 hlt x (xs (i + (1 : Int32)).toNatClampNeg) (xs (i + (2 : Int32)).toNatClampNeg) (xs (i + (3 : Int32)).toNatClampNeg) (xs (i + (4 : Int32)).toNatClampNeg) out S (k, h) hw) zw_559 zw_560 zw_0 zw_561 zyL_at (As := [.ref x, .int (xs (i + (1 : Int32)).toNatClampNeg), .int (xs (i + (2 : Int32)).toNatClampNeg), .int (xs (i + (3 : Int32)).toNatClampNeg), .int (xs (i + (4 : Int32)).toNatClampNeg), .ref out]) (st := []) rfl (by decide) rfl (Nat.le_of_ble_eq_true rfl) ⟨Nat.le_trans (Nat.add_le_add_left (Nat.le_of_ble_eq_true rfl) ce) hce, Nat.le_trans (Nat.add_le_add_left (Nat.le_of_ble_eq_true rfl) sl) hsl⟩ dL_law_1278 rfl rfl (n := 1281) rfl (fun n9 => ?_)
  refine zv_fr (fun hfr => ?_)
  obtain ⟨r, hr, ht, hv, hI⟩ := hok n9 hfr
  refine zr_istore [(0, .ref b), (1, .ref x), (2, .ref m), (3, .ref out), (4, .int i), (5, .int k)] h0 dL_law_1281 (by decide) rfl (n := 1283) rfl ?_
  refine zr_aload_n h0 dL_law_1283 rfl (n := 1284) rfl ?_
  refine zr_aload_n h0 dL_law_1284 rfl (n := 1285) rfl ?_
  refine zr_iload h0 dL_law_1285 rfl (n := 1287) rfl ?_
  refine zr_iconst (1 : Int32) h0 (by decide) dL_law_1287 (n := 1288) rfl ?_
  refine zr_iadd h0 dL_law_1288 (n := 1289) rfl ?_
  refine zr_sld h0 hS (hin (1 : Int32) (by decide)) dL_law_1289 (n := 1290) rfl ?_
  refine zr_aload_n h0 dL_law_1290 rfl (n := 1291) rfl ?_
  refine zr_iload h0 dL_law_1291 rfl (n := 1293) rfl ?_
  refine zr_iconst (2 : Int32) h0 (by decide) dL_law_1293 (n := 1294) rfl ?_
  refine zr_iadd h0 dL_law_1294 (n := 1295) rfl ?_
  refine zr_sld h0 hS (hin (2 : Int32) (by decide)) dL_law_1295 (n := 1296) rfl ?_
  refine zr_aload_n h0 dL_law_1296 rfl (n := 1297) rfl ?_
  refine zr_iload h0 dL_law_1297 rfl (n := 1299) rfl ?_
  refine zr_iconst (3 : Int32) h0 (by decide) dL_law_1299 (n := 1300) rfl ?_
  refine zr_iadd h0 dL_law_1300 (n := 1301) rfl ?_
  refine zr_sld h0 hS (hin (3 : Int32) (by decide)) dL_law_1301 (n := 1302) rfl ?_
  refine zr_aload_n h0 dL_law_1302 rfl (n := 1303) rfl ?_
  refine zr_iload h0 dL_law_1303 rfl (n := 1305) rfl ?_
  refine zr_iconst (4 : Int32) h0 (by decide) dL_law_1305 (n := 1306) rfl ?_
  refine zr_iadd h0 dL_law_1306 (n := 1307) rfl ?_
  refine zr_sld h0 hS (hin (4 : Int32) (by decide)) dL_law_1307 (n := 1308) rfl ?_
  refine zr_call0 (res := (some (.int r.1))) (S' := r.2) (st := []) (st' := [.int r.1]) (ce' := (ce + 2)) (sl' := (sl + 12)) (P' := True) (zk_V h0 zcX6 (zcl_ex hr) (fun l D z0 => kX6_at l D z0 m (xs (i + (1 : Int32)).toNatClampNeg) (xs (i + (2 : Int32)).toNatClampNeg) (xs (i + (3 : Int32)).toNatClampNeg) (xs (i + (4 : Int32)).toNatClampNeg) ((h, n9) : ZS) r (zcl_of hr)) zw_1034 zw_1035 zw_1036 zw_5 zw_1037 rfl zyX6_at (As := [.int (xs (i + (1 : Int32)).toNatClampNeg), .int (xs (i + (2 : Int32)).toNatClampNeg), .int (xs (i + (3 : Int32)).toNatClampNeg), .int (xs (i + (4 : Int32)).toNatClampNeg)]) (st := []) rfl (by decide) rfl (Nat.le_of_ble_eq_true rfl) ⟨Nat.le_trans (Nat.add_le_add_left (Nat.le_of_ble_eq_true rfl) ce) hce, Nat.le_trans (Nat.add_le_add_left (Nat.le_of_ble_eq_true rfl) sl) hsl⟩ dL_law_1308) rfl rfl rfl (n := 1311) rfl (fun h => h) ?_
  refine zr_istore [(0, .ref b), (1, .ref x), (2, .ref m), (3, .ref out), (4, .int i), (5, .int k), (6, .int r.1)] h0 dL_law_1311 (by decide) rfl (n := 1313) rfl ?_
  refine zr_aload_n h0 dL_law_1313 rfl (n := 1314) rfl ?_
  refine zr_call0 (res := some (.int k)) (S' := r.2) (st := []) (st' := [.int k]) (ce' := (ce + 2)) (sl' := (sl + 12)) (P' := True) (zk_V h0 zcX6 (zcl_ex ht) (fun l D z0 => kX6_thrown l D z0 m r.2 k (zcl_of ht)) zw_878 zw_879 zw_880 zw_5 zw_881 rfl zyX6_thrown (As := []) (st := []) rfl (by decide) rfl (Nat.le_of_ble_eq_true rfl) ⟨Nat.le_trans (Nat.add_le_add_left (Nat.le_of_ble_eq_true rfl) ce) hce, Nat.le_trans (Nat.add_le_add_left (Nat.le_of_ble_eq_true rfl) sl) hsl⟩ dL_law_1314) rfl rfl rfl (n := 1317) rfl (fun h => h) ?_
  refine zr_iload h0 dL_law_1317 rfl (n := 1319) rfl ?_
  refine zr_icmp_eqY (tgt := 1324) h0 rfl dL_law_1319 (by decide) ?_
  refine zr_iload h0 dL_law_1324 rfl (n := 1326) rfl ?_
  by_cases hk : k = 0
  · refine zr_if_neN (tgt := 1341) h0 hk dL_law_1326 (by decide) ?_
    refine zr_aload_n h0 dL_law_1329 rfl (n := 1330) rfl ?_
    refine zr_iconst (0 : Int32) h0 (by decide) dL_law_1330 (n := 1331) rfl ?_
    refine zr_laloadK h0 (hv hk) dL_law_1331 (n := 1332) rfl ?_
    refine zr_iload h0 dL_law_1332 rfl (n := 1334) rfl ?_
    refine zr_i2l h0 dL_law_1334 (n := 1335) rfl ?_
    refine zr_lcmp h0 dL_law_1335 (n := 1336) rfl ?_
    refine zr_if_eqY (tgt := 1341) h0 (lg_cmp_self _) dL_law_1336 (by decide) ?_
    refine zr_goto (tgt := 2007) h0 dL_law_1341 (by decide) ?_
    exact zv_wide (ce' := ce + 8) (sl' := sl + 119) (zv_sub (lv' := [(0, .ref b), (1, .ref x), (2, .ref m), (3, .ref out), (4, .int i)]) (kk _ hI) (zsub_of [0, 1, 2, 3, 4] rfl)) (Nat.add_le_add_left (Nat.le_of_ble_eq_true rfl) _) (Nat.add_le_add_left (Nat.le_of_ble_eq_true rfl) _)
  · refine zr_if_neY (tgt := 1341) h0 hk dL_law_1326 (by decide) ?_
    refine zr_goto (tgt := 2007) h0 dL_law_1341 (by decide) ?_
    exact zv_wide (ce' := ce + 8) (sl' := sl + 119) (zv_sub (lv' := [(0, .ref b), (1, .ref x), (2, .ref m), (3, .ref out), (4, .int i)]) (kk _ hI) (zsub_of [0, 1, 2, 3, 4] rfl)) (Nat.add_le_add_left (Nat.le_of_ble_eq_true rfl) _) (Nat.add_le_add_left (Nat.le_of_ble_eq_true rfl) _)
def ok_16 (x m out : Nat) (a1 a2 : Int32) (S : ZS) (I : ZS → Prop) : Prop := ∃ (k : Int32) (h : ZH), fL_flattening x a1 a2 out S = some (k, h) ∧ ∀ n : Nat, zFr h n → ∃ r, zcl ((h, n) : ZS) m 6 (fX6_flattening m a1 a2 (h, n)) = some r ∧ zcl r.2 m 6 (fX6_thrown m r.2) = some k ∧ (k = 0 → zaJ r.2 out 0 = some (Int32.toInt64 r.1)) ∧ I r.2
set_option maxHeartbeats 4000000 in
set_option maxRecDepth 100000 in
theorem lc_16 {G : ZG} {b L x m out : Nat} {xs : Nat → Int32} {S : ZS} {ce sl : Nat} {i : Int32} {I : ZS → Prop} (h0 : zFix G code RL 8 (some .boolean) room_1) (hfl : zFlag G) (hS : zScr G b L xs) (hin : ∀ j : Int32, (0 ≤ j.toInt ∧ j.toInt ≤ 5) → vp_in (i + j) L) (hok : ok_16 x m out (xs (i + (1 : Int32)).toNatClampNeg) (xs (i + (2 : Int32)).toNatClampNeg) S I) (hce : ce + 8 ≤ 601024) (hsl : sl + 119 ≤ 7293034) (kk : ∀ S1 : ZS, I S1 → zV G 8 S1 (ce + 8) (sl + 119) 2007 [(0, .ref b), (1, .ref x), (2, .ref m), (3, .ref out), (4, .int i)] [] True) : zV G 8 S ce sl 1344 [(0, .ref b), (1, .ref x), (2, .ref m), (3, .ref out), (4, .int i)] [] True := by
  obtain ⟨k, h, hw, hok⟩ := hok
  refine zr_aload_n h0 dL_law_1344 rfl (n := 1345) rfl ?_
  refine zr_aload_n h0 dL_law_1345 rfl (n := 1346) rfl ?_
  refine zr_iload h0 dL_law_1346 rfl (n := 1348) rfl ?_
  refine zr_iconst (1 : Int32) h0 (by decide) dL_law_1348 (n := 1349) rfl ?_
  refine zr_iadd h0 dL_law_1349 (n := 1350) rfl ?_
  refine zr_sld h0 hS (hin (1 : Int32) (by decide)) dL_law_1350 (n := 1351) rfl ?_
  refine zr_aload_n h0 dL_law_1351 rfl (n := 1352) rfl ?_
  refine zr_iload h0 dL_law_1352 rfl (n := 1354) rfl ?_
  refine zr_iconst (2 : Int32) h0 (by decide) dL_law_1354 (n := 1355) rfl ?_
  refine zr_iadd h0 dL_law_1355 (n := 1356) rfl ?_
  refine zr_sld h0 hS (hin (2 : Int32) (by decide)) dL_law_1356 (n := 1357) rfl ?_
  refine zr_aload_n h0 dL_law_1357 rfl (n := 1358) rfl ?_
  refine zr_callW (ce + 2) (sl + 12) h0 hfl (fun l D z0 hlt => kL_flattening l D z0 hlt x (xs (i + (1 : Int32)).toNatClampNeg) (xs (i + (2 : Int32)).toNatClampNeg) out S (k, h) hw) zw_566 zw_567 zw_0 zw_568 zyL_flattening (As := [.ref x, .int (xs (i + (1 : Int32)).toNatClampNeg), .int (xs (i + (2 : Int32)).toNatClampNeg), .ref out]) (st := []) rfl (by decide) rfl (Nat.le_of_ble_eq_true rfl) ⟨Nat.le_trans (Nat.add_le_add_left (Nat.le_of_ble_eq_true rfl) ce) hce, Nat.le_trans (Nat.add_le_add_left (Nat.le_of_ble_eq_true rfl) sl) hsl⟩ dL_law_1358 rfl rfl (n := 1361) rfl (fun n9 => ?_)
  refine zv_fr (fun hfr => ?_)
  obtain ⟨r, hr, ht, hv, hI⟩ := hok n9 hfr
  refine zr_istore [(0, .ref b), (1, .ref x), (2, .ref m), (3, .ref out), (4, .int i), (5, .int k)] h0 dL_law_1361 (by decide) rfl (n := 1363) rfl ?_
  refine zr_aload_n h0 dL_law_1363 rfl (n := 1364) rfl ?_
  refine zr_aload_n h0 dL_law_1364 rfl (n := 1365) rfl ?_
  refine zr_iload h0 dL_law_1365 rfl (n := 1367) rfl ?_
  refine zr_iconst (1 : Int32) h0 (by decide) dL_law_1367 (n := 1368) rfl ?_
  refine zr_iadd h0 dL_law_1368 (n := 1369) rfl ?_
  refine zr_sld h0 hS (hin (1 : Int32) (by decide)) dL_law_1369 (n := 1370) rfl ?_
  refine zr_aload_n h0 dL_law_1370 rfl (n := 1371) rfl ?_
  refine zr_iload h0 dL_law_1371 rfl (n := 1373) rfl ?_
  refine zr_iconst (2 : Int32) h0 (by decide) dL_law_1373 (n := 1374) rfl ?_
  refine zr_iadd h0 dL_law_1374 (n := 1375) rfl ?_
  refine zr_sld h0 hS (hin (2 : Int32) (by decide)) dL_law_1375 (n := 1376) rfl ?_
  refine zr_call0 (res := (some (.int r.1))) (S' := r.2) (st := []) (st' := [.int r.1]) (ce' := (ce + 2)) (sl' := (sl + 12)) (P' := True) (zk_V h0 zcX6 (zcl_ex hr) (fun l D z0 => kX6_flattening l D z0 m (xs (i + (1 : Int32)).toNatClampNeg) (xs (i + (2 : Int32)).toNatClampNeg) ((h, n9) : ZS) r (zcl_of hr)) zw_1038 zw_1039 zw_1040 zw_5 zw_1041 rfl zyX6_flattening (As := [.int (xs (i + (1 : Int32)).toNatClampNeg), .int (xs (i + (2 : Int32)).toNatClampNeg)]) (st := []) rfl (by decide) rfl (Nat.le_of_ble_eq_true rfl) ⟨Nat.le_trans (Nat.add_le_add_left (Nat.le_of_ble_eq_true rfl) ce) hce, Nat.le_trans (Nat.add_le_add_left (Nat.le_of_ble_eq_true rfl) sl) hsl⟩ dL_law_1376) rfl rfl rfl (n := 1379) rfl (fun h => h) ?_
  refine zr_istore [(0, .ref b), (1, .ref x), (2, .ref m), (3, .ref out), (4, .int i), (5, .int k), (6, .int r.1)] h0 dL_law_1379 (by decide) rfl (n := 1381) rfl ?_
  refine zr_aload_n h0 dL_law_1381 rfl (n := 1382) rfl ?_
  refine zr_call0 (res := some (.int k)) (S' := r.2) (st := []) (st' := [.int k]) (ce' := (ce + 2)) (sl' := (sl + 12)) (P' := True) (zk_V h0 zcX6 (zcl_ex ht) (fun l D z0 => kX6_thrown l D z0 m r.2 k (zcl_of ht)) zw_878 zw_879 zw_880 zw_5 zw_881 rfl zyX6_thrown (As := []) (st := []) rfl (by decide) rfl (Nat.le_of_ble_eq_true rfl) ⟨Nat.le_trans (Nat.add_le_add_left (Nat.le_of_ble_eq_true rfl) ce) hce, Nat.le_trans (Nat.add_le_add_left (Nat.le_of_ble_eq_true rfl) sl) hsl⟩ dL_law_1382) rfl rfl rfl (n := 1385) rfl (fun h => h) ?_
  refine zr_iload h0 dL_law_1385 rfl (n := 1387) rfl ?_
  refine zr_icmp_eqY (tgt := 1392) h0 rfl dL_law_1387 (by decide) ?_
  refine zr_iload h0 dL_law_1392 rfl (n := 1394) rfl ?_
  by_cases hk : k = 0
  · refine zr_if_neN (tgt := 1409) h0 hk dL_law_1394 (by decide) ?_
    refine zr_aload_n h0 dL_law_1397 rfl (n := 1398) rfl ?_
    refine zr_iconst (0 : Int32) h0 (by decide) dL_law_1398 (n := 1399) rfl ?_
    refine zr_laloadK h0 (hv hk) dL_law_1399 (n := 1400) rfl ?_
    refine zr_iload h0 dL_law_1400 rfl (n := 1402) rfl ?_
    refine zr_i2l h0 dL_law_1402 (n := 1403) rfl ?_
    refine zr_lcmp h0 dL_law_1403 (n := 1404) rfl ?_
    refine zr_if_eqY (tgt := 1409) h0 (lg_cmp_self _) dL_law_1404 (by decide) ?_
    refine zr_goto (tgt := 2007) h0 dL_law_1409 (by decide) ?_
    exact zv_wide (ce' := ce + 8) (sl' := sl + 119) (zv_sub (lv' := [(0, .ref b), (1, .ref x), (2, .ref m), (3, .ref out), (4, .int i)]) (kk _ hI) (zsub_of [0, 1, 2, 3, 4] rfl)) (Nat.add_le_add_left (Nat.le_of_ble_eq_true rfl) _) (Nat.add_le_add_left (Nat.le_of_ble_eq_true rfl) _)
  · refine zr_if_neY (tgt := 1409) h0 hk dL_law_1394 (by decide) ?_
    refine zr_goto (tgt := 2007) h0 dL_law_1409 (by decide) ?_
    exact zv_wide (ce' := ce + 8) (sl' := sl + 119) (zv_sub (lv' := [(0, .ref b), (1, .ref x), (2, .ref m), (3, .ref out), (4, .int i)]) (kk _ hI) (zsub_of [0, 1, 2, 3, 4] rfl)) (Nat.add_le_add_left (Nat.le_of_ble_eq_true rfl) _) (Nat.add_le_add_left (Nat.le_of_ble_eq_true rfl) _)
def ok_17 (x m out : Nat) (a1 : Int32) (S : ZS) (I : ZS → Prop) : Prop := ∃ (k : Int32) (h : ZH), fL_bound x a1 out S = some (k, h) ∧ ∀ n : Nat, zFr h n → ∃ r, zcl ((h, n) : ZS) m 6 (fX6_bound m a1 (h, n)) = some r ∧ zcl r.2 m 6 (fX6_thrown m r.2) = some k ∧ (k = 0 → zaJ r.2 out 0 = some (Int32.toInt64 r.1)) ∧ I r.2
set_option maxHeartbeats 4000000 in
set_option maxRecDepth 100000 in
theorem lc_17 {G : ZG} {b L x m out : Nat} {xs : Nat → Int32} {S : ZS} {ce sl : Nat} {i : Int32} {I : ZS → Prop} (h0 : zFix G code RL 8 (some .boolean) room_1) (hfl : zFlag G) (hS : zScr G b L xs) (hin : ∀ j : Int32, (0 ≤ j.toInt ∧ j.toInt ≤ 5) → vp_in (i + j) L) (hok : ok_17 x m out (xs (i + (1 : Int32)).toNatClampNeg) S I) (hce : ce + 8 ≤ 601024) (hsl : sl + 119 ≤ 7293034) (kk : ∀ S1 : ZS, I S1 → zV G 8 S1 (ce + 8) (sl + 119) 2007 [(0, .ref b), (1, .ref x), (2, .ref m), (3, .ref out), (4, .int i)] [] True) : zV G 8 S ce sl 1412 [(0, .ref b), (1, .ref x), (2, .ref m), (3, .ref out), (4, .int i)] [] True := by
  obtain ⟨k, h, hw, hok⟩ := hok
  refine zr_aload_n h0 dL_law_1412 rfl (n := 1413) rfl ?_
  refine zr_aload_n h0 dL_law_1413 rfl (n := 1414) rfl ?_
  refine zr_iload h0 dL_law_1414 rfl (n := 1416) rfl ?_
  refine zr_iconst (1 : Int32) h0 (by decide) dL_law_1416 (n := 1417) rfl ?_
  refine zr_iadd h0 dL_law_1417 (n := 1418) rfl ?_
  refine zr_sld h0 hS (hin (1 : Int32) (by decide)) dL_law_1418 (n := 1419) rfl ?_
  refine zr_aload_n h0 dL_law_1419 rfl (n := 1420) rfl ?_
  refine zr_callW (ce + 1) (sl + 6) h0 hfl (fun l D z0 hlt => kL_bound l D z0 hlt x (xs (i + (1 : Int32)).toNatClampNeg) out S (k, h) hw) zw_609 zw_610 zw_0 zw_611 zyL_bound (As := [.ref x, .int (xs (i + (1 : Int32)).toNatClampNeg), .ref out]) (st := []) rfl (by decide) rfl (Nat.le_of_ble_eq_true rfl) ⟨Nat.le_trans (Nat.add_le_add_left (Nat.le_of_ble_eq_true rfl) ce) hce, Nat.le_trans (Nat.add_le_add_left (Nat.le_of_ble_eq_true rfl) sl) hsl⟩ dL_law_1420 rfl rfl (n := 1423) rfl (fun n9 => ?_)
  refine zv_fr (fun hfr => ?_)
  obtain ⟨r, hr, ht, hv, hI⟩ := hok n9 hfr
  refine zr_istore [(0, .ref b), (1, .ref x), (2, .ref m), (3, .ref out), (4, .int i), (5, .int k)] h0 dL_law_1423 (by decide) rfl (n := 1425) rfl ?_
  refine zr_aload_n h0 dL_law_1425 rfl (n := 1426) rfl ?_
  refine zr_aload_n h0 dL_law_1426 rfl (n := 1427) rfl ?_
  refine zr_iload h0 dL_law_1427 rfl (n := 1429) rfl ?_
  refine zr_iconst (1 : Int32) h0 (by decide) dL_law_1429 (n := 1430) rfl ?_
  refine zr_iadd h0 dL_law_1430 (n := 1431) rfl ?_
  refine zr_sld h0 hS (hin (1 : Int32) (by decide)) dL_law_1431 (n := 1432) rfl ?_
  refine zr_call0 (res := (some (.int r.1))) (S' := r.2) (st := []) (st' := [.int r.1]) (ce' := (ce + 1)) (sl' := (sl + 6)) (P' := True) (zk_V h0 zcX6 (zcl_ex hr) (fun l D z0 => kX6_bound l D z0 m (xs (i + (1 : Int32)).toNatClampNeg) ((h, n9) : ZS) r (zcl_of hr)) zw_1054 zw_1055 zw_1056 zw_5 zw_1057 rfl zyX6_bound (As := [.int (xs (i + (1 : Int32)).toNatClampNeg)]) (st := []) rfl (by decide) rfl (Nat.le_of_ble_eq_true rfl) ⟨Nat.le_trans (Nat.add_le_add_left (Nat.le_of_ble_eq_true rfl) ce) hce, Nat.le_trans (Nat.add_le_add_left (Nat.le_of_ble_eq_true rfl) sl) hsl⟩ dL_law_1432) rfl rfl rfl (n := 1435) rfl (fun h => h) ?_
  refine zr_istore [(0, .ref b), (1, .ref x), (2, .ref m), (3, .ref out), (4, .int i), (5, .int k), (6, .int r.1)] h0 dL_law_1435 (by decide) rfl (n := 1437) rfl ?_
  refine zr_aload_n h0 dL_law_1437 rfl (n := 1438) rfl ?_
  refine zr_call0 (res := some (.int k)) (S' := r.2) (st := []) (st' := [.int k]) (ce' := (ce + 1)) (sl' := (sl + 6)) (P' := True) (zk_V h0 zcX6 (zcl_ex ht) (fun l D z0 => kX6_thrown l D z0 m r.2 k (zcl_of ht)) zw_878 zw_879 zw_880 zw_5 zw_881 rfl zyX6_thrown (As := []) (st := []) rfl (by decide) rfl (Nat.le_of_ble_eq_true rfl) ⟨Nat.le_trans (Nat.add_le_add_left (Nat.le_of_ble_eq_true rfl) ce) hce, Nat.le_trans (Nat.add_le_add_left (Nat.le_of_ble_eq_true rfl) sl) hsl⟩ dL_law_1438) rfl rfl rfl (n := 1441) rfl (fun h => h) ?_
  refine zr_iload h0 dL_law_1441 rfl (n := 1443) rfl ?_
  refine zr_icmp_eqY (tgt := 1448) h0 rfl dL_law_1443 (by decide) ?_
  refine zr_iload h0 dL_law_1448 rfl (n := 1450) rfl ?_
  by_cases hk : k = 0
  · refine zr_if_neN (tgt := 1465) h0 hk dL_law_1450 (by decide) ?_
    refine zr_aload_n h0 dL_law_1453 rfl (n := 1454) rfl ?_
    refine zr_iconst (0 : Int32) h0 (by decide) dL_law_1454 (n := 1455) rfl ?_
    refine zr_laloadK h0 (hv hk) dL_law_1455 (n := 1456) rfl ?_
    refine zr_iload h0 dL_law_1456 rfl (n := 1458) rfl ?_
    refine zr_i2l h0 dL_law_1458 (n := 1459) rfl ?_
    refine zr_lcmp h0 dL_law_1459 (n := 1460) rfl ?_
    refine zr_if_eqY (tgt := 1465) h0 (lg_cmp_self _) dL_law_1460 (by decide) ?_
    refine zr_goto (tgt := 2007) h0 dL_law_1465 (by decide) ?_
    exact zv_wide (ce' := ce + 8) (sl' := sl + 119) (zv_sub (lv' := [(0, .ref b), (1, .ref x), (2, .ref m), (3, .ref out), (4, .int i)]) (kk _ hI) (zsub_of [0, 1, 2, 3, 4] rfl)) (Nat.add_le_add_left (Nat.le_of_ble_eq_true rfl) _) (Nat.add_le_add_left (Nat.le_of_ble_eq_true rfl) _)
  · refine zr_if_neY (tgt := 1465) h0 hk dL_law_1450 (by decide) ?_
    refine zr_goto (tgt := 2007) h0 dL_law_1465 (by decide) ?_
    exact zv_wide (ce' := ce + 8) (sl' := sl + 119) (zv_sub (lv' := [(0, .ref b), (1, .ref x), (2, .ref m), (3, .ref out), (4, .int i)]) (kk _ hI) (zsub_of [0, 1, 2, 3, 4] rfl)) (Nat.add_le_add_left (Nat.le_of_ble_eq_true rfl) _) (Nat.add_le_add_left (Nat.le_of_ble_eq_true rfl) _)
def ok_18 (x m out : Nat) (a1 : Int32) (S : ZS) (I : ZS → Prop) : Prop := ∃ (k : Int32) (h : ZH), fL_least x a1 out S = some (k, h) ∧ ∀ n : Nat, zFr h n → ∃ r, zcl ((h, n) : ZS) m 6 (fX6_least m a1 (h, n)) = some r ∧ zcl r.2 m 6 (fX6_thrown m r.2) = some k ∧ (k = 0 → zaJ r.2 out 0 = some (Int32.toInt64 r.1)) ∧ I r.2
set_option maxHeartbeats 4000000 in
set_option maxRecDepth 100000 in
theorem lc_18 {G : ZG} {b L x m out : Nat} {xs : Nat → Int32} {S : ZS} {ce sl : Nat} {i : Int32} {I : ZS → Prop} (h0 : zFix G code RL 8 (some .boolean) room_1) (hfl : zFlag G) (hS : zScr G b L xs) (hin : ∀ j : Int32, (0 ≤ j.toInt ∧ j.toInt ≤ 5) → vp_in (i + j) L) (hok : ok_18 x m out (xs (i + (1 : Int32)).toNatClampNeg) S I) (hce : ce + 8 ≤ 601024) (hsl : sl + 119 ≤ 7293034) (kk : ∀ S1 : ZS, I S1 → zV G 8 S1 (ce + 8) (sl + 119) 2007 [(0, .ref b), (1, .ref x), (2, .ref m), (3, .ref out), (4, .int i)] [] True) : zV G 8 S ce sl 1468 [(0, .ref b), (1, .ref x), (2, .ref m), (3, .ref out), (4, .int i)] [] True := by
  obtain ⟨k, h, hw, hok⟩ := hok
  refine zr_aload_n h0 dL_law_1468 rfl (n := 1469) rfl ?_
  refine zr_aload_n h0 dL_law_1469 rfl (n := 1470) rfl ?_
  refine zr_iload h0 dL_law_1470 rfl (n := 1472) rfl ?_
  refine zr_iconst (1 : Int32) h0 (by decide) dL_law_1472 (n := 1473) rfl ?_
  refine zr_iadd h0 dL_law_1473 (n := 1474) rfl ?_
  refine zr_sld h0 hS (hin (1 : Int32) (by decide)) dL_law_1474 (n := 1475) rfl ?_
  refine zr_aload_n h0 dL_law_1475 rfl (n := 1476) rfl ?_
  refine zr_callW (ce + 2) (sl + 12) h0 hfl (fun l D z0 hlt => kL_least l D z0 hlt x (xs (i + (1 : Int32)).toNatClampNeg) out S (k, h) hw) zw_623 zw_624 zw_0 zw_625 zyL_least (As := [.ref x, .int (xs (i + (1 : Int32)).toNatClampNeg), .ref out]) (st := []) rfl (by decide) rfl (Nat.le_of_ble_eq_true rfl) ⟨Nat.le_trans (Nat.add_le_add_left (Nat.le_of_ble_eq_true rfl) ce) hce, Nat.le_trans (Nat.add_le_add_left (Nat.le_of_ble_eq_true rfl) sl) hsl⟩ dL_law_1476 rfl rfl (n := 1479) rfl (fun n9 => ?_)
  refine zv_fr (fun hfr => ?_)
  obtain ⟨r, hr, ht, hv, hI⟩ := hok n9 hfr
  refine zr_istore [(0, .ref b), (1, .ref x), (2, .ref m), (3, .ref out), (4, .int i), (5, .int k)] h0 dL_law_1479 (by decide) rfl (n := 1481) rfl ?_
  refine zr_aload_n h0 dL_law_1481 rfl (n := 1482) rfl ?_
  refine zr_aload_n h0 dL_law_1482 rfl (n := 1483) rfl ?_
  refine zr_iload h0 dL_law_1483 rfl (n := 1485) rfl ?_
  refine zr_iconst (1 : Int32) h0 (by decide) dL_law_1485 (n := 1486) rfl ?_
  refine zr_iadd h0 dL_law_1486 (n := 1487) rfl ?_
  refine zr_sld h0 hS (hin (1 : Int32) (by decide)) dL_law_1487 (n := 1488) rfl ?_
  refine zr_call0 (res := (some (.int r.1))) (S' := r.2) (st := []) (st' := [.int r.1]) (ce' := (ce + 2)) (sl' := (sl + 12)) (P' := True) (zk_V h0 zcX6 (zcl_ex hr) (fun l D z0 => kX6_least l D z0 m (xs (i + (1 : Int32)).toNatClampNeg) ((h, n9) : ZS) r (zcl_of hr)) zw_1058 zw_1059 zw_1060 zw_5 zw_1061 rfl zyX6_least (As := [.int (xs (i + (1 : Int32)).toNatClampNeg)]) (st := []) rfl (by decide) rfl (Nat.le_of_ble_eq_true rfl) ⟨Nat.le_trans (Nat.add_le_add_left (Nat.le_of_ble_eq_true rfl) ce) hce, Nat.le_trans (Nat.add_le_add_left (Nat.le_of_ble_eq_true rfl) sl) hsl⟩ dL_law_1488) rfl rfl rfl (n := 1491) rfl (fun h => h) ?_
  refine zr_istore [(0, .ref b), (1, .ref x), (2, .ref m), (3, .ref out), (4, .int i), (5, .int k), (6, .int r.1)] h0 dL_law_1491 (by decide) rfl (n := 1493) rfl ?_
  refine zr_aload_n h0 dL_law_1493 rfl (n := 1494) rfl ?_
  refine zr_call0 (res := some (.int k)) (S' := r.2) (st := []) (st' := [.int k]) (ce' := (ce + 2)) (sl' := (sl + 12)) (P' := True) (zk_V h0 zcX6 (zcl_ex ht) (fun l D z0 => kX6_thrown l D z0 m r.2 k (zcl_of ht)) zw_878 zw_879 zw_880 zw_5 zw_881 rfl zyX6_thrown (As := []) (st := []) rfl (by decide) rfl (Nat.le_of_ble_eq_true rfl) ⟨Nat.le_trans (Nat.add_le_add_left (Nat.le_of_ble_eq_true rfl) ce) hce, Nat.le_trans (Nat.add_le_add_left (Nat.le_of_ble_eq_true rfl) sl) hsl⟩ dL_law_1494) rfl rfl rfl (n := 1497) rfl (fun h => h) ?_
  refine zr_iload h0 dL_law_1497 rfl (n := 1499) rfl ?_
  refine zr_icmp_eqY (tgt := 1504) h0 rfl dL_law_1499 (by decide) ?_
  refine zr_iload h0 dL_law_1504 rfl (n := 1506) rfl ?_
  by_cases hk : k = 0
  · refine zr_if_neN (tgt := 1521) h0 hk dL_law_1506 (by decide) ?_
    refine zr_aload_n h0 dL_law_1509 rfl (n := 1510) rfl ?_
    refine zr_iconst (0 : Int32) h0 (by decide) dL_law_1510 (n := 1511) rfl ?_
    refine zr_laloadK h0 (hv hk) dL_law_1511 (n := 1512) rfl ?_
    refine zr_iload h0 dL_law_1512 rfl (n := 1514) rfl ?_
    refine zr_i2l h0 dL_law_1514 (n := 1515) rfl ?_
    refine zr_lcmp h0 dL_law_1515 (n := 1516) rfl ?_
    refine zr_if_eqY (tgt := 1521) h0 (lg_cmp_self _) dL_law_1516 (by decide) ?_
    refine zr_goto (tgt := 2007) h0 dL_law_1521 (by decide) ?_
    exact zv_wide (ce' := ce + 8) (sl' := sl + 119) (zv_sub (lv' := [(0, .ref b), (1, .ref x), (2, .ref m), (3, .ref out), (4, .int i)]) (kk _ hI) (zsub_of [0, 1, 2, 3, 4] rfl)) (Nat.add_le_add_left (Nat.le_of_ble_eq_true rfl) _) (Nat.add_le_add_left (Nat.le_of_ble_eq_true rfl) _)
  · refine zr_if_neY (tgt := 1521) h0 hk dL_law_1506 (by decide) ?_
    refine zr_goto (tgt := 2007) h0 dL_law_1521 (by decide) ?_
    exact zv_wide (ce' := ce + 8) (sl' := sl + 119) (zv_sub (lv' := [(0, .ref b), (1, .ref x), (2, .ref m), (3, .ref out), (4, .int i)]) (kk _ hI) (zsub_of [0, 1, 2, 3, 4] rfl)) (Nat.add_le_add_left (Nat.le_of_ble_eq_true rfl) _) (Nat.add_le_add_left (Nat.le_of_ble_eq_true rfl) _)
def ok_19 (x m out : Nat) (a1 : Int32) (S : ZS) (I : ZS → Prop) : Prop := ∃ (k : Int32) (h : ZH), fL_leastAnew x a1 out S = some (k, h) ∧ ∀ n : Nat, zFr h n → ∃ r, zcl ((h, n) : ZS) m 6 (fX6_leastAnew m a1 (h, n)) = some r ∧ zcl r.2 m 6 (fX6_thrown m r.2) = some k ∧ (k = 0 → zaJ r.2 out 0 = some (Int32.toInt64 r.1)) ∧ I r.2
set_option maxHeartbeats 4000000 in
set_option maxRecDepth 100000 in
theorem lc_19 {G : ZG} {b L x m out : Nat} {xs : Nat → Int32} {S : ZS} {ce sl : Nat} {i : Int32} {I : ZS → Prop} (h0 : zFix G code RL 8 (some .boolean) room_1) (hfl : zFlag G) (hS : zScr G b L xs) (hin : ∀ j : Int32, (0 ≤ j.toInt ∧ j.toInt ≤ 5) → vp_in (i + j) L) (hok : ok_19 x m out (xs (i + (1 : Int32)).toNatClampNeg) S I) (hce : ce + 8 ≤ 601024) (hsl : sl + 119 ≤ 7293034) (kk : ∀ S1 : ZS, I S1 → zV G 8 S1 (ce + 8) (sl + 119) 2007 [(0, .ref b), (1, .ref x), (2, .ref m), (3, .ref out), (4, .int i)] [] True) : zV G 8 S ce sl 1524 [(0, .ref b), (1, .ref x), (2, .ref m), (3, .ref out), (4, .int i)] [] True := by
  obtain ⟨k, h, hw, hok⟩ := hok
  refine zr_aload_n h0 dL_law_1524 rfl (n := 1525) rfl ?_
  refine zr_aload_n h0 dL_law_1525 rfl (n := 1526) rfl ?_
  refine zr_iload h0 dL_law_1526 rfl (n := 1528) rfl ?_
  refine zr_iconst (1 : Int32) h0 (by decide) dL_law_1528 (n := 1529) rfl ?_
  refine zr_iadd h0 dL_law_1529 (n := 1530) rfl ?_
  refine zr_sld h0 hS (hin (1 : Int32) (by decide)) dL_law_1530 (n := 1531) rfl ?_
  refine zr_aload_n h0 dL_law_1531 rfl (n := 1532) rfl ?_
  refine zr_callW (ce + 2) (sl + 12) h0 hfl (fun l D z0 hlt => kL_leastAnew l D z0 hlt x (xs (i + (1 : Int32)).toNatClampNeg) out S (k, h) hw) zw_672 zw_673 zw_0 zw_674 zyL_leastAnew (As := [.ref x, .int (xs (i + (1 : Int32)).toNatClampNeg), .ref out]) (st := []) rfl (by decide) rfl (Nat.le_of_ble_eq_true rfl) ⟨Nat.le_trans (Nat.add_le_add_left (Nat.le_of_ble_eq_true rfl) ce) hce, Nat.le_trans (Nat.add_le_add_left (Nat.le_of_ble_eq_true rfl) sl) hsl⟩ dL_law_1532 rfl rfl (n := 1535) rfl (fun n9 => ?_)
  refine zv_fr (fun hfr => ?_)
  obtain ⟨r, hr, ht, hv, hI⟩ := hok n9 hfr
  refine zr_istore [(0, .ref b), (1, .ref x), (2, .ref m), (3, .ref out), (4, .int i), (5, .int k)] h0 dL_law_1535 (by decide) rfl (n := 1537) rfl ?_
  refine zr_aload_n h0 dL_law_1537 rfl (n := 1538) rfl ?_
  refine zr_aload_n h0 dL_law_1538 rfl (n := 1539) rfl ?_
  refine zr_iload h0 dL_law_1539 rfl (n := 1541) rfl ?_
  refine zr_iconst (1 : Int32) h0 (by decide) dL_law_1541 (n := 1542) rfl ?_
  refine zr_iadd h0 dL_law_1542 (n := 1543) rfl ?_
  refine zr_sld h0 hS (hin (1 : Int32) (by decide)) dL_law_1543 (n := 1544) rfl ?_
  refine zr_call0 (res := (some (.int r.1))) (S' := r.2) (st := []) (st' := [.int r.1]) (ce' := (ce + 2)) (sl' := (sl + 12)) (P' := True) (zk_V h0 zcX6 (zcl_ex hr) (fun l D z0 => kX6_leastAnew l D z0 m (xs (i + (1 : Int32)).toNatClampNeg) ((h, n9) : ZS) r (zcl_of hr)) zw_1078 zw_1079 zw_1080 zw_5 zw_1081 rfl zyX6_leastAnew (As := [.int (xs (i + (1 : Int32)).toNatClampNeg)]) (st := []) rfl (by decide) rfl (Nat.le_of_ble_eq_true rfl) ⟨Nat.le_trans (Nat.add_le_add_left (Nat.le_of_ble_eq_true rfl) ce) hce, Nat.le_trans (Nat.add_le_add_left (Nat.le_of_ble_eq_true rfl) sl) hsl⟩ dL_law_1544) rfl rfl rfl (n := 1547) rfl (fun h => h) ?_
  refine zr_istore [(0, .ref b), (1, .ref x), (2, .ref m), (3, .ref out), (4, .int i), (5, .int k), (6, .int r.1)] h0 dL_law_1547 (by decide) rfl (n := 1549) rfl ?_
  refine zr_aload_n h0 dL_law_1549 rfl (n := 1550) rfl ?_
  refine zr_call0 (res := some (.int k)) (S' := r.2) (st := []) (st' := [.int k]) (ce' := (ce + 2)) (sl' := (sl + 12)) (P' := True) (zk_V h0 zcX6 (zcl_ex ht) (fun l D z0 => kX6_thrown l D z0 m r.2 k (zcl_of ht)) zw_878 zw_879 zw_880 zw_5 zw_881 rfl zyX6_thrown (As := []) (st := []) rfl (by decide) rfl (Nat.le_of_ble_eq_true rfl) ⟨Nat.le_trans (Nat.add_le_add_left (Nat.le_of_ble_eq_true rfl) ce) hce, Nat.le_trans (Nat.add_le_add_left (Nat.le_of_ble_eq_true rfl) sl) hsl⟩ dL_law_1550) rfl rfl rfl (n := 1553) rfl (fun h => h) ?_
  refine zr_iload h0 dL_law_1553 rfl (n := 1555) rfl ?_
  refine zr_icmp_eqY (tgt := 1560) h0 rfl dL_law_1555 (by decide) ?_
  refine zr_iload h0 dL_law_1560 rfl (n := 1562) rfl ?_
  by_cases hk : k = 0
  · refine zr_if_neN (tgt := 1577) h0 hk dL_law_1562 (by decide) ?_
    refine zr_aload_n h0 dL_law_1565 rfl (n := 1566) rfl ?_
    refine zr_iconst (0 : Int32) h0 (by decide) dL_law_1566 (n := 1567) rfl ?_
    refine zr_laloadK h0 (hv hk) dL_law_1567 (n := 1568) rfl ?_
    refine zr_iload h0 dL_law_1568 rfl (n := 1570) rfl ?_
    refine zr_i2l h0 dL_law_1570 (n := 1571) rfl ?_
    refine zr_lcmp h0 dL_law_1571 (n := 1572) rfl ?_
    refine zr_if_eqY (tgt := 1577) h0 (lg_cmp_self _) dL_law_1572 (by decide) ?_
    refine zr_goto (tgt := 2007) h0 dL_law_1577 (by decide) ?_
    exact zv_wide (ce' := ce + 8) (sl' := sl + 119) (zv_sub (lv' := [(0, .ref b), (1, .ref x), (2, .ref m), (3, .ref out), (4, .int i)]) (kk _ hI) (zsub_of [0, 1, 2, 3, 4] rfl)) (Nat.add_le_add_left (Nat.le_of_ble_eq_true rfl) _) (Nat.add_le_add_left (Nat.le_of_ble_eq_true rfl) _)
  · refine zr_if_neY (tgt := 1577) h0 hk dL_law_1562 (by decide) ?_
    refine zr_goto (tgt := 2007) h0 dL_law_1577 (by decide) ?_
    exact zv_wide (ce' := ce + 8) (sl' := sl + 119) (zv_sub (lv' := [(0, .ref b), (1, .ref x), (2, .ref m), (3, .ref out), (4, .int i)]) (kk _ hI) (zsub_of [0, 1, 2, 3, 4] rfl)) (Nat.add_le_add_left (Nat.le_of_ble_eq_true rfl) _) (Nat.add_le_add_left (Nat.le_of_ble_eq_true rfl) _)
def ok_20 (x m out : Nat) (a1 a2 : Int32) (S : ZS) (I : ZS → Prop) : Prop := ∃ (k : Int32) (h : ZH), fL_ofWay x a1 a2 out S = some (k, h) ∧ ∀ n : Nat, zFr h n → ∃ r, zcl ((h, n) : ZS) m 6 (fX6_ofWay m a1 a2 (h, n)) = some r ∧ zcl r.2 m 6 (fX6_thrown m r.2) = some k ∧ (k = 0 → zaJ r.2 out 0 = some (Int32.toInt64 r.1)) ∧ I r.2
set_option maxHeartbeats 4000000 in
set_option maxRecDepth 100000 in
theorem lc_20 {G : ZG} {b L x m out : Nat} {xs : Nat → Int32} {S : ZS} {ce sl : Nat} {i : Int32} {I : ZS → Prop} (h0 : zFix G code RL 8 (some .boolean) room_1) (hfl : zFlag G) (hS : zScr G b L xs) (hin : ∀ j : Int32, (0 ≤ j.toInt ∧ j.toInt ≤ 5) → vp_in (i + j) L) (hok : ok_20 x m out (xs (i + (1 : Int32)).toNatClampNeg) (xs (i + (2 : Int32)).toNatClampNeg) S I) (hce : ce + 8 ≤ 601024) (hsl : sl + 119 ≤ 7293034) (kk : ∀ S1 : ZS, I S1 → zV G 8 S1 (ce + 8) (sl + 119) 2007 [(0, .ref b), (1, .ref x), (2, .ref m), (3, .ref out), (4, .int i)] [] True) : zV G 8 S ce sl 1580 [(0, .ref b), (1, .ref x), (2, .ref m), (3, .ref out), (4, .int i)] [] True := by
  obtain ⟨k, h, hw, hok⟩ := hok
  refine zr_aload_n h0 dL_law_1580 rfl (n := 1581) rfl ?_
  refine zr_aload_n h0 dL_law_1581 rfl (n := 1582) rfl ?_
  refine zr_iload h0 dL_law_1582 rfl (n := 1584) rfl ?_
  refine zr_iconst (1 : Int32) h0 (by decide) dL_law_1584 (n := 1585) rfl ?_
  refine zr_iadd h0 dL_law_1585 (n := 1586) rfl ?_
  refine zr_sld h0 hS (hin (1 : Int32) (by decide)) dL_law_1586 (n := 1587) rfl ?_
  refine zr_aload_n h0 dL_law_1587 rfl (n := 1588) rfl ?_
  refine zr_iload h0 dL_law_1588 rfl (n := 1590) rfl ?_
  refine zr_iconst (2 : Int32) h0 (by decide) dL_law_1590 (n := 1591) rfl ?_
  refine zr_iadd h0 dL_law_1591 (n := 1592) rfl ?_
  refine zr_sld h0 hS (hin (2 : Int32) (by decide)) dL_law_1592 (n := 1593) rfl ?_
  refine zr_aload_n h0 dL_law_1593 rfl (n := 1594) rfl ?_
  refine zr_callW (ce + 2) (sl + 12) h0 hfl (fun l D z0 hlt => kL_ofWay l D z0 hlt x (xs (i + (1 : Int32)).toNatClampNeg) (xs (i + (2 : Int32)).toNatClampNeg) out S (k, h) hw) zw_679 zw_680 zw_0 zw_681 zyL_ofWay (As := [.ref x, .int (xs (i + (1 : Int32)).toNatClampNeg), .int (xs (i + (2 : Int32)).toNatClampNeg), .ref out]) (st := []) rfl (by decide) rfl (Nat.le_of_ble_eq_true rfl) ⟨Nat.le_trans (Nat.add_le_add_left (Nat.le_of_ble_eq_true rfl) ce) hce, Nat.le_trans (Nat.add_le_add_left (Nat.le_of_ble_eq_true rfl) sl) hsl⟩ dL_law_1594 rfl rfl (n := 1597) rfl (fun n9 => ?_)
  refine zv_fr (fun hfr => ?_)
  obtain ⟨r, hr, ht, hv, hI⟩ := hok n9 hfr
  refine zr_istore [(0, .ref b), (1, .ref x), (2, .ref m), (3, .ref out), (4, .int i), (5, .int k)] h0 dL_law_1597 (by decide) rfl (n := 1599) rfl ?_
  refine zr_aload_n h0 dL_law_1599 rfl (n := 1600) rfl ?_
  refine zr_aload_n h0 dL_law_1600 rfl (n := 1601) rfl ?_
  refine zr_iload h0 dL_law_1601 rfl (n := 1603) rfl ?_
  refine zr_iconst (1 : Int32) h0 (by decide) dL_law_1603 (n := 1604) rfl ?_
  refine zr_iadd h0 dL_law_1604 (n := 1605) rfl ?_
  refine zr_sld h0 hS (hin (1 : Int32) (by decide)) dL_law_1605 (n := 1606) rfl ?_
  refine zr_aload_n h0 dL_law_1606 rfl (n := 1607) rfl ?_
  refine zr_iload h0 dL_law_1607 rfl (n := 1609) rfl ?_
  refine zr_iconst (2 : Int32) h0 (by decide) dL_law_1609 (n := 1610) rfl ?_
  refine zr_iadd h0 dL_law_1610 (n := 1611) rfl ?_
  refine zr_sld h0 hS (hin (2 : Int32) (by decide)) dL_law_1611 (n := 1612) rfl ?_
  refine zr_call0 (res := (some (.int r.1))) (S' := r.2) (st := []) (st' := [.int r.1]) (ce' := (ce + 2)) (sl' := (sl + 12)) (P' := True) (zk_V h0 zcX6 (zcl_ex hr) (fun l D z0 => kX6_ofWay l D z0 m (xs (i + (1 : Int32)).toNatClampNeg) (xs (i + (2 : Int32)).toNatClampNeg) ((h, n9) : ZS) r (zcl_of hr)) zw_1082 zw_1083 zw_1084 zw_5 zw_1085 rfl zyX6_ofWay (As := [.int (xs (i + (1 : Int32)).toNatClampNeg), .int (xs (i + (2 : Int32)).toNatClampNeg)]) (st := []) rfl (by decide) rfl (Nat.le_of_ble_eq_true rfl) ⟨Nat.le_trans (Nat.add_le_add_left (Nat.le_of_ble_eq_true rfl) ce) hce, Nat.le_trans (Nat.add_le_add_left (Nat.le_of_ble_eq_true rfl) sl) hsl⟩ dL_law_1612) rfl rfl rfl (n := 1615) rfl (fun h => h) ?_
  refine zr_istore [(0, .ref b), (1, .ref x), (2, .ref m), (3, .ref out), (4, .int i), (5, .int k), (6, .int r.1)] h0 dL_law_1615 (by decide) rfl (n := 1617) rfl ?_
  refine zr_aload_n h0 dL_law_1617 rfl (n := 1618) rfl ?_
  refine zr_call0 (res := some (.int k)) (S' := r.2) (st := []) (st' := [.int k]) (ce' := (ce + 2)) (sl' := (sl + 12)) (P' := True) (zk_V h0 zcX6 (zcl_ex ht) (fun l D z0 => kX6_thrown l D z0 m r.2 k (zcl_of ht)) zw_878 zw_879 zw_880 zw_5 zw_881 rfl zyX6_thrown (As := []) (st := []) rfl (by decide) rfl (Nat.le_of_ble_eq_true rfl) ⟨Nat.le_trans (Nat.add_le_add_left (Nat.le_of_ble_eq_true rfl) ce) hce, Nat.le_trans (Nat.add_le_add_left (Nat.le_of_ble_eq_true rfl) sl) hsl⟩ dL_law_1618) rfl rfl rfl (n := 1621) rfl (fun h => h) ?_
  refine zr_iload h0 dL_law_1621 rfl (n := 1623) rfl ?_
  refine zr_icmp_eqY (tgt := 1628) h0 rfl dL_law_1623 (by decide) ?_
  refine zr_iload h0 dL_law_1628 rfl (n := 1630) rfl ?_
  by_cases hk : k = 0
  · refine zr_if_neN (tgt := 1645) h0 hk dL_law_1630 (by decide) ?_
    refine zr_aload_n h0 dL_law_1633 rfl (n := 1634) rfl ?_
    refine zr_iconst (0 : Int32) h0 (by decide) dL_law_1634 (n := 1635) rfl ?_
    refine zr_laloadK h0 (hv hk) dL_law_1635 (n := 1636) rfl ?_
    refine zr_iload h0 dL_law_1636 rfl (n := 1638) rfl ?_
    refine zr_i2l h0 dL_law_1638 (n := 1639) rfl ?_
    refine zr_lcmp h0 dL_law_1639 (n := 1640) rfl ?_
    refine zr_if_eqY (tgt := 1645) h0 (lg_cmp_self _) dL_law_1640 (by decide) ?_
    refine zr_goto (tgt := 2007) h0 dL_law_1645 (by decide) ?_
    exact zv_wide (ce' := ce + 8) (sl' := sl + 119) (zv_sub (lv' := [(0, .ref b), (1, .ref x), (2, .ref m), (3, .ref out), (4, .int i)]) (kk _ hI) (zsub_of [0, 1, 2, 3, 4] rfl)) (Nat.add_le_add_left (Nat.le_of_ble_eq_true rfl) _) (Nat.add_le_add_left (Nat.le_of_ble_eq_true rfl) _)
  · refine zr_if_neY (tgt := 1645) h0 hk dL_law_1630 (by decide) ?_
    refine zr_goto (tgt := 2007) h0 dL_law_1645 (by decide) ?_
    exact zv_wide (ce' := ce + 8) (sl' := sl + 119) (zv_sub (lv' := [(0, .ref b), (1, .ref x), (2, .ref m), (3, .ref out), (4, .int i)]) (kk _ hI) (zsub_of [0, 1, 2, 3, 4] rfl)) (Nat.add_le_add_left (Nat.le_of_ble_eq_true rfl) _) (Nat.add_le_add_left (Nat.le_of_ble_eq_true rfl) _)
def ok_21 (x m out : Nat) (a1 a2 a3 : Int32) (S : ZS) (I : ZS → Prop) : Prop := ∃ (k : Int32) (h : ZH), fL_vector x a1 a2 a3 out S = some (k, h) ∧ ∀ n : Nat, zFr h n → ∃ r, zcl ((h, n) : ZS) m 6 (fX6_vector m a1 a2 a3 (h, n)) = some r ∧ zcl r.2 m 6 (fX6_thrown m r.2) = some k ∧ (k = 0 → zaJ r.2 out 0 = some (Int32.toInt64 r.1)) ∧ I r.2
set_option maxHeartbeats 4000000 in
set_option maxRecDepth 100000 in
theorem lc_21 {G : ZG} {b L x m out : Nat} {xs : Nat → Int32} {S : ZS} {ce sl : Nat} {i : Int32} {I : ZS → Prop} (h0 : zFix G code RL 8 (some .boolean) room_1) (hfl : zFlag G) (hS : zScr G b L xs) (hin : ∀ j : Int32, (0 ≤ j.toInt ∧ j.toInt ≤ 5) → vp_in (i + j) L) (hok : ok_21 x m out (xs (i + (1 : Int32)).toNatClampNeg) (xs (i + (2 : Int32)).toNatClampNeg) (xs (i + (3 : Int32)).toNatClampNeg) S I) (hce : ce + 8 ≤ 601024) (hsl : sl + 119 ≤ 7293034) (kk : ∀ S1 : ZS, I S1 → zV G 8 S1 (ce + 8) (sl + 119) 2007 [(0, .ref b), (1, .ref x), (2, .ref m), (3, .ref out), (4, .int i)] [] True) : zV G 8 S ce sl 1648 [(0, .ref b), (1, .ref x), (2, .ref m), (3, .ref out), (4, .int i)] [] True := by
  obtain ⟨k, h, hw, hok⟩ := hok
  refine zr_aload_n h0 dL_law_1648 rfl (n := 1649) rfl ?_
  refine zr_aload_n h0 dL_law_1649 rfl (n := 1650) rfl ?_
  refine zr_iload h0 dL_law_1650 rfl (n := 1652) rfl ?_
  refine zr_iconst (1 : Int32) h0 (by decide) dL_law_1652 (n := 1653) rfl ?_
  refine zr_iadd h0 dL_law_1653 (n := 1654) rfl ?_
  refine zr_sld h0 hS (hin (1 : Int32) (by decide)) dL_law_1654 (n := 1655) rfl ?_
  refine zr_aload_n h0 dL_law_1655 rfl (n := 1656) rfl ?_
  refine zr_iload h0 dL_law_1656 rfl (n := 1658) rfl ?_
  refine zr_iconst (2 : Int32) h0 (by decide) dL_law_1658 (n := 1659) rfl ?_
  refine zr_iadd h0 dL_law_1659 (n := 1660) rfl ?_
  refine zr_sld h0 hS (hin (2 : Int32) (by decide)) dL_law_1660 (n := 1661) rfl ?_
  refine zr_aload_n h0 dL_law_1661 rfl (n := 1662) rfl ?_
  refine zr_iload h0 dL_law_1662 rfl (n := 1664) rfl ?_
  refine zr_iconst (3 : Int32) h0 (by decide) dL_law_1664 (n := 1665) rfl ?_
  refine zr_iadd h0 dL_law_1665 (n := 1666) rfl ?_
  refine zr_sld h0 hS (hin (3 : Int32) (by decide)) dL_law_1666 (n := 1667) rfl ?_
  refine zr_aload_n h0 dL_law_1667 rfl (n := 1668) rfl ?_
  refine zr_callW (ce + 3) (sl + 18) h0 hfl (fun l D z0 hlt => kL_vector l D z0 hlt x (xs (i + (1 : Int32)).toNatClampNeg) (xs (i + (2 : Int32)).toNatClampNeg) (xs (i + (3 : Int32)).toNatClampNeg) out S (k, h) hw) zw_761 zw_762 zw_0 zw_763 zyL_vector (As := [.ref x, .int (xs (i + (1 : Int32)).toNatClampNeg), .int (xs (i + (2 : Int32)).toNatClampNeg), .int (xs (i + (3 : Int32)).toNatClampNeg), .ref out]) (st := []) rfl (by decide) rfl (Nat.le_of_ble_eq_true rfl) ⟨Nat.le_trans (Nat.add_le_add_left (Nat.le_of_ble_eq_true rfl) ce) hce, Nat.le_trans (Nat.add_le_add_left (Nat.le_of_ble_eq_true rfl) sl) hsl⟩ dL_law_1668 rfl rfl (n := 1671) rfl (fun n9 => ?_)
  refine zv_fr (fun hfr => ?_)
  obtain ⟨r, hr, ht, hv, hI⟩ := hok n9 hfr
  refine zr_istore [(0, .ref b), (1, .ref x), (2, .ref m), (3, .ref out), (4, .int i), (5, .int k)] h0 dL_law_1671 (by decide) rfl (n := 1673) rfl ?_
  refine zr_aload_n h0 dL_law_1673 rfl (n := 1674) rfl ?_
  refine zr_aload_n h0 dL_law_1674 rfl (n := 1675) rfl ?_
  refine zr_iload h0 dL_law_1675 rfl (n := 1677) rfl ?_
  refine zr_iconst (1 : Int32) h0 (by decide) dL_law_1677 (n := 1678) rfl ?_
  refine zr_iadd h0 dL_law_1678 (n := 1679) rfl ?_
  refine zr_sld h0 hS (hin (1 : Int32) (by decide)) dL_law_1679 (n := 1680) rfl ?_
  refine zr_aload_n h0 dL_law_1680 rfl (n := 1681) rfl ?_
  refine zr_iload h0 dL_law_1681 rfl (n := 1683) rfl ?_
  refine zr_iconst (2 : Int32) h0 (by decide) dL_law_1683 (n := 1684) rfl ?_
  refine zr_iadd h0 dL_law_1684 (n := 1685) rfl ?_
  refine zr_sld h0 hS (hin (2 : Int32) (by decide)) dL_law_1685 (n := 1686) rfl ?_
  refine zr_aload_n h0 dL_law_1686 rfl (n := 1687) rfl ?_
  refine zr_iload h0 dL_law_1687 rfl (n := 1689) rfl ?_
  refine zr_iconst (3 : Int32) h0 (by decide) dL_law_1689 (n := 1690) rfl ?_
  refine zr_iadd h0 dL_law_1690 (n := 1691) rfl ?_
  refine zr_sld h0 hS (hin (3 : Int32) (by decide)) dL_law_1691 (n := 1692) rfl ?_
  refine zr_call0 (res := (some (.int r.1))) (S' := r.2) (st := []) (st' := [.int r.1]) (ce' := (ce + 3)) (sl' := (sl + 18)) (P' := True) (zk_V h0 zcX6 (zcl_ex hr) (fun l D z0 => kX6_vector l D z0 m (xs (i + (1 : Int32)).toNatClampNeg) (xs (i + (2 : Int32)).toNatClampNeg) (xs (i + (3 : Int32)).toNatClampNeg) ((h, n9) : ZS) r (zcl_of hr)) zw_1122 zw_1123 zw_1124 zw_5 zw_1125 rfl zyX6_vector (As := [.int (xs (i + (1 : Int32)).toNatClampNeg), .int (xs (i + (2 : Int32)).toNatClampNeg), .int (xs (i + (3 : Int32)).toNatClampNeg)]) (st := []) rfl (by decide) rfl (Nat.le_of_ble_eq_true rfl) ⟨Nat.le_trans (Nat.add_le_add_left (Nat.le_of_ble_eq_true rfl) ce) hce, Nat.le_trans (Nat.add_le_add_left (Nat.le_of_ble_eq_true rfl) sl) hsl⟩ dL_law_1692) rfl rfl rfl (n := 1695) rfl (fun h => h) ?_
  refine zr_istore [(0, .ref b), (1, .ref x), (2, .ref m), (3, .ref out), (4, .int i), (5, .int k), (6, .int r.1)] h0 dL_law_1695 (by decide) rfl (n := 1697) rfl ?_
  refine zr_aload_n h0 dL_law_1697 rfl (n := 1698) rfl ?_
  refine zr_call0 (res := some (.int k)) (S' := r.2) (st := []) (st' := [.int k]) (ce' := (ce + 3)) (sl' := (sl + 18)) (P' := True) (zk_V h0 zcX6 (zcl_ex ht) (fun l D z0 => kX6_thrown l D z0 m r.2 k (zcl_of ht)) zw_878 zw_879 zw_880 zw_5 zw_881 rfl zyX6_thrown (As := []) (st := []) rfl (by decide) rfl (Nat.le_of_ble_eq_true rfl) ⟨Nat.le_trans (Nat.add_le_add_left (Nat.le_of_ble_eq_true rfl) ce) hce, Nat.le_trans (Nat.add_le_add_left (Nat.le_of_ble_eq_true rfl) sl) hsl⟩ dL_law_1698) rfl rfl rfl (n := 1701) rfl (fun h => h) ?_
  refine zr_iload h0 dL_law_1701 rfl (n := 1703) rfl ?_
  refine zr_icmp_eqY (tgt := 1708) h0 rfl dL_law_1703 (by decide) ?_
  refine zr_iload h0 dL_law_1708 rfl (n := 1710) rfl ?_
  by_cases hk : k = 0
  · refine zr_if_neN (tgt := 1725) h0 hk dL_law_1710 (by decide) ?_
    refine zr_aload_n h0 dL_law_1713 rfl (n := 1714) rfl ?_
    refine zr_iconst (0 : Int32) h0 (by decide) dL_law_1714 (n := 1715) rfl ?_
    refine zr_laloadK h0 (hv hk) dL_law_1715 (n := 1716) rfl ?_
    refine zr_iload h0 dL_law_1716 rfl (n := 1718) rfl ?_
    refine zr_i2l h0 dL_law_1718 (n := 1719) rfl ?_
    refine zr_lcmp h0 dL_law_1719 (n := 1720) rfl ?_
    refine zr_if_eqY (tgt := 1725) h0 (lg_cmp_self _) dL_law_1720 (by decide) ?_
    refine zr_goto (tgt := 2007) h0 dL_law_1725 (by decide) ?_
    exact zv_wide (ce' := ce + 8) (sl' := sl + 119) (zv_sub (lv' := [(0, .ref b), (1, .ref x), (2, .ref m), (3, .ref out), (4, .int i)]) (kk _ hI) (zsub_of [0, 1, 2, 3, 4] rfl)) (Nat.add_le_add_left (Nat.le_of_ble_eq_true rfl) _) (Nat.add_le_add_left (Nat.le_of_ble_eq_true rfl) _)
  · refine zr_if_neY (tgt := 1725) h0 hk dL_law_1710 (by decide) ?_
    refine zr_goto (tgt := 2007) h0 dL_law_1725 (by decide) ?_
    exact zv_wide (ce' := ce + 8) (sl' := sl + 119) (zv_sub (lv' := [(0, .ref b), (1, .ref x), (2, .ref m), (3, .ref out), (4, .int i)]) (kk _ hI) (zsub_of [0, 1, 2, 3, 4] rfl)) (Nat.add_le_add_left (Nat.le_of_ble_eq_true rfl) _) (Nat.add_le_add_left (Nat.le_of_ble_eq_true rfl) _)
def ok_22 (x m out : Nat) (a1 a2 a3 a4 : Int32) (S : ZS) (I : ZS → Prop) : Prop := ∃ (k : Int32) (h : ZH), fL_result x a1 a2 a3 a4 out S = some (k, h) ∧ ∀ n : Nat, zFr h n → ∃ r, zcl ((h, n) : ZS) m 6 (fX6_result m a1 a2 a3 a4 (h, n)) = some r ∧ zcl r.2 m 6 (fX6_thrown m r.2) = some k ∧ (k = 0 → zaJ r.2 out 0 = some (Int32.toInt64 r.1)) ∧ I r.2
set_option maxHeartbeats 4000000 in
set_option maxRecDepth 100000 in
theorem lc_22 {G : ZG} {b L x m out : Nat} {xs : Nat → Int32} {S : ZS} {ce sl : Nat} {i : Int32} {I : ZS → Prop} (h0 : zFix G code RL 8 (some .boolean) room_1) (hfl : zFlag G) (hS : zScr G b L xs) (hin : ∀ j : Int32, (0 ≤ j.toInt ∧ j.toInt ≤ 5) → vp_in (i + j) L) (hok : ok_22 x m out (xs (i + (1 : Int32)).toNatClampNeg) (xs (i + (2 : Int32)).toNatClampNeg) (xs (i + (3 : Int32)).toNatClampNeg) (xs (i + (4 : Int32)).toNatClampNeg) S I) (hce : ce + 8 ≤ 601024) (hsl : sl + 119 ≤ 7293034) (kk : ∀ S1 : ZS, I S1 → zV G 8 S1 (ce + 8) (sl + 119) 2007 [(0, .ref b), (1, .ref x), (2, .ref m), (3, .ref out), (4, .int i)] [] True) : zV G 8 S ce sl 1728 [(0, .ref b), (1, .ref x), (2, .ref m), (3, .ref out), (4, .int i)] [] True := by
  obtain ⟨k, h, hw, hok⟩ := hok
  refine zr_aload_n h0 dL_law_1728 rfl (n := 1729) rfl ?_
  refine zr_aload_n h0 dL_law_1729 rfl (n := 1730) rfl ?_
  refine zr_iload h0 dL_law_1730 rfl (n := 1732) rfl ?_
  refine zr_iconst (1 : Int32) h0 (by decide) dL_law_1732 (n := 1733) rfl ?_
  refine zr_iadd h0 dL_law_1733 (n := 1734) rfl ?_
  refine zr_sld h0 hS (hin (1 : Int32) (by decide)) dL_law_1734 (n := 1735) rfl ?_
  refine zr_aload_n h0 dL_law_1735 rfl (n := 1736) rfl ?_
  refine zr_iload h0 dL_law_1736 rfl (n := 1738) rfl ?_
  refine zr_iconst (2 : Int32) h0 (by decide) dL_law_1738 (n := 1739) rfl ?_
  refine zr_iadd h0 dL_law_1739 (n := 1740) rfl ?_
  refine zr_sld h0 hS (hin (2 : Int32) (by decide)) dL_law_1740 (n := 1741) rfl ?_
  refine zr_aload_n h0 dL_law_1741 rfl (n := 1742) rfl ?_
  refine zr_iload h0 dL_law_1742 rfl (n := 1744) rfl ?_
  refine zr_iconst (3 : Int32) h0 (by decide) dL_law_1744 (n := 1745) rfl ?_
  refine zr_iadd h0 dL_law_1745 (n := 1746) rfl ?_
  refine zr_sld h0 hS (hin (3 : Int32) (by decide)) dL_law_1746 (n := 1747) rfl ?_
  refine zr_aload_n h0 dL_law_1747 rfl (n := 1748) rfl ?_
  refine zr_iload h0 dL_law_1748 rfl (n := 1750) rfl ?_
  refine zr_iconst (4 : Int32) h0 (by decide) dL_law_1750 (n := 1751) rfl ?_
  refine zr_iadd h0 dL_law_1751 (n := 1752) rfl ?_
  refine zr_sld h0 hS (hin (4 : Int32) (by decide)) dL_law_1752 (n := 1753) rfl ?_
  refine zr_aload_n h0 dL_law_1753 rfl (n := 1754) rfl ?_
  refine zr_callW (ce + 3) (sl + 18) h0 hfl (fun l D z0 hlt => kL_result l D z0 hlt x (xs (i + (1 : Int32)).toNatClampNeg) (xs (i + (2 : Int32)).toNatClampNeg) (xs (i + (3 : Int32)).toNatClampNeg) (xs (i + (4 : Int32)).toNatClampNeg) out S (k, h) hw) zw_769 zw_770 zw_0 zw_771 zyL_result (As := [.ref x, .int (xs (i + (1 : Int32)).toNatClampNeg), .int (xs (i + (2 : Int32)).toNatClampNeg), .int (xs (i + (3 : Int32)).toNatClampNeg), .int (xs (i + (4 : Int32)).toNatClampNeg), .ref out]) (st := []) rfl (by decide) rfl (Nat.le_of_ble_eq_true rfl) ⟨Nat.le_trans (Nat.add_le_add_left (Nat.le_of_ble_eq_true rfl) ce) hce, Nat.le_trans (Nat.add_le_add_left (Nat.le_of_ble_eq_true rfl) sl) hsl⟩ dL_law_1754 rfl rfl (n := 1757) rfl (fun n9 => ?_)
  refine zv_fr (fun hfr => ?_)
  obtain ⟨r, hr, ht, hv, hI⟩ := hok n9 hfr
  refine zr_istore [(0, .ref b), (1, .ref x), (2, .ref m), (3, .ref out), (4, .int i), (5, .int k)] h0 dL_law_1757 (by decide) rfl (n := 1759) rfl ?_
  refine zr_aload_n h0 dL_law_1759 rfl (n := 1760) rfl ?_
  refine zr_aload_n h0 dL_law_1760 rfl (n := 1761) rfl ?_
  refine zr_iload h0 dL_law_1761 rfl (n := 1763) rfl ?_
  refine zr_iconst (1 : Int32) h0 (by decide) dL_law_1763 (n := 1764) rfl ?_
  refine zr_iadd h0 dL_law_1764 (n := 1765) rfl ?_
  refine zr_sld h0 hS (hin (1 : Int32) (by decide)) dL_law_1765 (n := 1766) rfl ?_
  refine zr_aload_n h0 dL_law_1766 rfl (n := 1767) rfl ?_
  refine zr_iload h0 dL_law_1767 rfl (n := 1769) rfl ?_
  refine zr_iconst (2 : Int32) h0 (by decide) dL_law_1769 (n := 1770) rfl ?_
  refine zr_iadd h0 dL_law_1770 (n := 1771) rfl ?_
  refine zr_sld h0 hS (hin (2 : Int32) (by decide)) dL_law_1771 (n := 1772) rfl ?_
  refine zr_aload_n h0 dL_law_1772 rfl (n := 1773) rfl ?_
  refine zr_iload h0 dL_law_1773 rfl (n := 1775) rfl ?_
  refine zr_iconst (3 : Int32) h0 (by decide) dL_law_1775 (n := 1776) rfl ?_
  refine zr_iadd h0 dL_law_1776 (n := 1777) rfl ?_
  refine zr_sld h0 hS (hin (3 : Int32) (by decide)) dL_law_1777 (n := 1778) rfl ?_
  refine zr_aload_n h0 dL_law_1778 rfl (n := 1779) rfl ?_
  refine zr_iload h0 dL_law_1779 rfl (n := 1781) rfl ?_
  refine zr_iconst (4 : Int32) h0 (by decide) dL_law_1781 (n := 1782) rfl ?_
  refine zr_iadd h0 dL_law_1782 (n := 1783) rfl ?_
  refine zr_sld h0 hS (hin (4 : Int32) (by decide)) dL_law_1783 (n := 1784) rfl ?_
  refine zr_call0 (res := (some (.int r.1))) (S' := r.2) (st := []) (st' := [.int r.1]) (ce' := (ce + 3)) (sl' := (sl + 18)) (P' := True) (zk_V h0 zcX6 (zcl_ex hr) (fun l D z0 => kX6_result l D z0 m (xs (i + (1 : Int32)).toNatClampNeg) (xs (i + (2 : Int32)).toNatClampNeg) (xs (i + (3 : Int32)).toNatClampNeg) (xs (i + (4 : Int32)).toNatClampNeg) ((h, n9) : ZS) r (zcl_of hr)) zw_1126 zw_1127 zw_1128 zw_5 zw_1129 rfl zyX6_result (As := [.int (xs (i + (1 : Int32)).toNatClampNeg), .int (xs (i + (2 : Int32)).toNatClampNeg), .int (xs (i + (3 : Int32)).toNatClampNeg), .int (xs (i + (4 : Int32)).toNatClampNeg)]) (st := []) rfl (by decide) rfl (Nat.le_of_ble_eq_true rfl) ⟨Nat.le_trans (Nat.add_le_add_left (Nat.le_of_ble_eq_true rfl) ce) hce, Nat.le_trans (Nat.add_le_add_left (Nat.le_of_ble_eq_true rfl) sl) hsl⟩ dL_law_1784) rfl rfl rfl (n := 1787) rfl (fun h => h) ?_
  refine zr_istore [(0, .ref b), (1, .ref x), (2, .ref m), (3, .ref out), (4, .int i), (5, .int k), (6, .int r.1)] h0 dL_law_1787 (by decide) rfl (n := 1789) rfl ?_
  refine zr_aload_n h0 dL_law_1789 rfl (n := 1790) rfl ?_
  refine zr_call0 (res := some (.int k)) (S' := r.2) (st := []) (st' := [.int k]) (ce' := (ce + 3)) (sl' := (sl + 18)) (P' := True) (zk_V h0 zcX6 (zcl_ex ht) (fun l D z0 => kX6_thrown l D z0 m r.2 k (zcl_of ht)) zw_878 zw_879 zw_880 zw_5 zw_881 rfl zyX6_thrown (As := []) (st := []) rfl (by decide) rfl (Nat.le_of_ble_eq_true rfl) ⟨Nat.le_trans (Nat.add_le_add_left (Nat.le_of_ble_eq_true rfl) ce) hce, Nat.le_trans (Nat.add_le_add_left (Nat.le_of_ble_eq_true rfl) sl) hsl⟩ dL_law_1790) rfl rfl rfl (n := 1793) rfl (fun h => h) ?_
  refine zr_iload h0 dL_law_1793 rfl (n := 1795) rfl ?_
  refine zr_icmp_eqY (tgt := 1800) h0 rfl dL_law_1795 (by decide) ?_
  refine zr_iload h0 dL_law_1800 rfl (n := 1802) rfl ?_
  by_cases hk : k = 0
  · refine zr_if_neN (tgt := 1817) h0 hk dL_law_1802 (by decide) ?_
    refine zr_aload_n h0 dL_law_1805 rfl (n := 1806) rfl ?_
    refine zr_iconst (0 : Int32) h0 (by decide) dL_law_1806 (n := 1807) rfl ?_
    refine zr_laloadK h0 (hv hk) dL_law_1807 (n := 1808) rfl ?_
    refine zr_iload h0 dL_law_1808 rfl (n := 1810) rfl ?_
    refine zr_i2l h0 dL_law_1810 (n := 1811) rfl ?_
    refine zr_lcmp h0 dL_law_1811 (n := 1812) rfl ?_
    refine zr_if_eqY (tgt := 1817) h0 (lg_cmp_self _) dL_law_1812 (by decide) ?_
    refine zr_goto (tgt := 2007) h0 dL_law_1817 (by decide) ?_
    exact zv_wide (ce' := ce + 8) (sl' := sl + 119) (zv_sub (lv' := [(0, .ref b), (1, .ref x), (2, .ref m), (3, .ref out), (4, .int i)]) (kk _ hI) (zsub_of [0, 1, 2, 3, 4] rfl)) (Nat.add_le_add_left (Nat.le_of_ble_eq_true rfl) _) (Nat.add_le_add_left (Nat.le_of_ble_eq_true rfl) _)
  · refine zr_if_neY (tgt := 1817) h0 hk dL_law_1802 (by decide) ?_
    refine zr_goto (tgt := 2007) h0 dL_law_1817 (by decide) ?_
    exact zv_wide (ce' := ce + 8) (sl' := sl + 119) (zv_sub (lv' := [(0, .ref b), (1, .ref x), (2, .ref m), (3, .ref out), (4, .int i)]) (kk _ hI) (zsub_of [0, 1, 2, 3, 4] rfl)) (Nat.add_le_add_left (Nat.le_of_ble_eq_true rfl) _) (Nat.add_le_add_left (Nat.le_of_ble_eq_true rfl) _)
def ok_23 (x m out : Nat) (a1 a2 a3 a4 : Int32) (S : ZS) (I : ZS → Prop) : Prop := ∃ (k : Int32) (h : ZH), fL_resultByCube x a1 a2 a3 a4 out S = some (k, h) ∧ ∀ n : Nat, zFr h n → ∃ r, zcl ((h, n) : ZS) m 6 (fX6_resultByCube m a1 a2 a3 a4 (h, n)) = some r ∧ zcl r.2 m 6 (fX6_thrown m r.2) = some k ∧ (k = 0 → zaJ r.2 out 0 = some (Int32.toInt64 r.1)) ∧ I r.2
set_option maxHeartbeats 4000000 in
set_option maxRecDepth 100000 in
theorem lc_23 {G : ZG} {b L x m out : Nat} {xs : Nat → Int32} {S : ZS} {ce sl : Nat} {i : Int32} {I : ZS → Prop} (h0 : zFix G code RL 8 (some .boolean) room_1) (hfl : zFlag G) (hS : zScr G b L xs) (hin : ∀ j : Int32, (0 ≤ j.toInt ∧ j.toInt ≤ 5) → vp_in (i + j) L) (hok : ok_23 x m out (xs (i + (1 : Int32)).toNatClampNeg) (xs (i + (2 : Int32)).toNatClampNeg) (xs (i + (3 : Int32)).toNatClampNeg) (xs (i + (4 : Int32)).toNatClampNeg) S I) (hce : ce + 8 ≤ 601024) (hsl : sl + 119 ≤ 7293034) (kk : ∀ S1 : ZS, I S1 → zV G 8 S1 (ce + 8) (sl + 119) 2007 [(0, .ref b), (1, .ref x), (2, .ref m), (3, .ref out), (4, .int i)] [] True) : zV G 8 S ce sl 1820 [(0, .ref b), (1, .ref x), (2, .ref m), (3, .ref out), (4, .int i)] [] True := by
  obtain ⟨k, h, hw, hok⟩ := hok
  refine zr_aload_n h0 dL_law_1820 rfl (n := 1821) rfl ?_
  refine zr_aload_n h0 dL_law_1821 rfl (n := 1822) rfl ?_
  refine zr_iload h0 dL_law_1822 rfl (n := 1824) rfl ?_
  refine zr_iconst (1 : Int32) h0 (by decide) dL_law_1824 (n := 1825) rfl ?_
  refine zr_iadd h0 dL_law_1825 (n := 1826) rfl ?_
  refine zr_sld h0 hS (hin (1 : Int32) (by decide)) dL_law_1826 (n := 1827) rfl ?_
  refine zr_aload_n h0 dL_law_1827 rfl (n := 1828) rfl ?_
  refine zr_iload h0 dL_law_1828 rfl (n := 1830) rfl ?_
  refine zr_iconst (2 : Int32) h0 (by decide) dL_law_1830 (n := 1831) rfl ?_
  refine zr_iadd h0 dL_law_1831 (n := 1832) rfl ?_
  refine zr_sld h0 hS (hin (2 : Int32) (by decide)) dL_law_1832 (n := 1833) rfl ?_
  refine zr_aload_n h0 dL_law_1833 rfl (n := 1834) rfl ?_
  refine zr_iload h0 dL_law_1834 rfl (n := 1836) rfl ?_
  refine zr_iconst (3 : Int32) h0 (by decide) dL_law_1836 (n := 1837) rfl ?_
  refine zr_iadd h0 dL_law_1837 (n := 1838) rfl ?_
  refine zr_sld h0 hS (hin (3 : Int32) (by decide)) dL_law_1838 (n := 1839) rfl ?_
  refine zr_aload_n h0 dL_law_1839 rfl (n := 1840) rfl ?_
  refine zr_iload h0 dL_law_1840 rfl (n := 1842) rfl ?_
  refine zr_iconst (4 : Int32) h0 (by decide) dL_law_1842 (n := 1843) rfl ?_
  refine zr_iadd h0 dL_law_1843 (n := 1844) rfl ?_
  refine zr_sld h0 hS (hin (4 : Int32) (by decide)) dL_law_1844 (n := 1845) rfl ?_
  refine zr_aload_n h0 dL_law_1845 rfl (n := 1846) rfl ?_
  refine zr_callW (ce + 3) (sl + 18) h0 hfl (fun l D z0 hlt => kL_resultByCube l D z0 hlt x (xs (i + (1 : Int32)).toNatClampNeg) (xs (i + (2 : Int32)).toNatClampNeg) (xs (i + (3 : Int32)).toNatClampNeg) (xs (i + (4 : Int32)).toNatClampNeg) out S (k, h) hw) zw_787 zw_788 zw_0 zw_789 zyL_resultByCube (As := [.ref x, .int (xs (i + (1 : Int32)).toNatClampNeg), .int (xs (i + (2 : Int32)).toNatClampNeg), .int (xs (i + (3 : Int32)).toNatClampNeg), .int (xs (i + (4 : Int32)).toNatClampNeg), .ref out]) (st := []) rfl (by decide) rfl (Nat.le_of_ble_eq_true rfl) ⟨Nat.le_trans (Nat.add_le_add_left (Nat.le_of_ble_eq_true rfl) ce) hce, Nat.le_trans (Nat.add_le_add_left (Nat.le_of_ble_eq_true rfl) sl) hsl⟩ dL_law_1846 rfl rfl (n := 1849) rfl (fun n9 => ?_)
  refine zv_fr (fun hfr => ?_)
  obtain ⟨r, hr, ht, hv, hI⟩ := hok n9 hfr
  refine zr_istore [(0, .ref b), (1, .ref x), (2, .ref m), (3, .ref out), (4, .int i), (5, .int k)] h0 dL_law_1849 (by decide) rfl (n := 1851) rfl ?_
  refine zr_aload_n h0 dL_law_1851 rfl (n := 1852) rfl ?_
  refine zr_aload_n h0 dL_law_1852 rfl (n := 1853) rfl ?_
  refine zr_iload h0 dL_law_1853 rfl (n := 1855) rfl ?_
  refine zr_iconst (1 : Int32) h0 (by decide) dL_law_1855 (n := 1856) rfl ?_
  refine zr_iadd h0 dL_law_1856 (n := 1857) rfl ?_
  refine zr_sld h0 hS (hin (1 : Int32) (by decide)) dL_law_1857 (n := 1858) rfl ?_
  refine zr_aload_n h0 dL_law_1858 rfl (n := 1859) rfl ?_
  refine zr_iload h0 dL_law_1859 rfl (n := 1861) rfl ?_
  refine zr_iconst (2 : Int32) h0 (by decide) dL_law_1861 (n := 1862) rfl ?_
  refine zr_iadd h0 dL_law_1862 (n := 1863) rfl ?_
  refine zr_sld h0 hS (hin (2 : Int32) (by decide)) dL_law_1863 (n := 1864) rfl ?_
  refine zr_aload_n h0 dL_law_1864 rfl (n := 1865) rfl ?_
  refine zr_iload h0 dL_law_1865 rfl (n := 1867) rfl ?_
  refine zr_iconst (3 : Int32) h0 (by decide) dL_law_1867 (n := 1868) rfl ?_
  refine zr_iadd h0 dL_law_1868 (n := 1869) rfl ?_
  refine zr_sld h0 hS (hin (3 : Int32) (by decide)) dL_law_1869 (n := 1870) rfl ?_
  refine zr_aload_n h0 dL_law_1870 rfl (n := 1871) rfl ?_
  refine zr_iload h0 dL_law_1871 rfl (n := 1873) rfl ?_
  refine zr_iconst (4 : Int32) h0 (by decide) dL_law_1873 (n := 1874) rfl ?_
  refine zr_iadd h0 dL_law_1874 (n := 1875) rfl ?_
  refine zr_sld h0 hS (hin (4 : Int32) (by decide)) dL_law_1875 (n := 1876) rfl ?_
  refine zr_call0 (res := (some (.int r.1))) (S' := r.2) (st := []) (st' := [.int r.1]) (ce' := (ce + 3)) (sl' := (sl + 18)) (P' := True) (zk_V h0 zcX6 (zcl_ex hr) (fun l D z0 => kX6_resultByCube l D z0 m (xs (i + (1 : Int32)).toNatClampNeg) (xs (i + (2 : Int32)).toNatClampNeg) (xs (i + (3 : Int32)).toNatClampNeg) (xs (i + (4 : Int32)).toNatClampNeg) ((h, n9) : ZS) r (zcl_of hr)) zw_1142 zw_1143 zw_1144 zw_5 zw_1145 rfl zyX6_resultByCube (As := [.int (xs (i + (1 : Int32)).toNatClampNeg), .int (xs (i + (2 : Int32)).toNatClampNeg), .int (xs (i + (3 : Int32)).toNatClampNeg), .int (xs (i + (4 : Int32)).toNatClampNeg)]) (st := []) rfl (by decide) rfl (Nat.le_of_ble_eq_true rfl) ⟨Nat.le_trans (Nat.add_le_add_left (Nat.le_of_ble_eq_true rfl) ce) hce, Nat.le_trans (Nat.add_le_add_left (Nat.le_of_ble_eq_true rfl) sl) hsl⟩ dL_law_1876) rfl rfl rfl (n := 1879) rfl (fun h => h) ?_
  refine zr_istore [(0, .ref b), (1, .ref x), (2, .ref m), (3, .ref out), (4, .int i), (5, .int k), (6, .int r.1)] h0 dL_law_1879 (by decide) rfl (n := 1881) rfl ?_
  refine zr_aload_n h0 dL_law_1881 rfl (n := 1882) rfl ?_
  refine zr_call0 (res := some (.int k)) (S' := r.2) (st := []) (st' := [.int k]) (ce' := (ce + 3)) (sl' := (sl + 18)) (P' := True) (zk_V h0 zcX6 (zcl_ex ht) (fun l D z0 => kX6_thrown l D z0 m r.2 k (zcl_of ht)) zw_878 zw_879 zw_880 zw_5 zw_881 rfl zyX6_thrown (As := []) (st := []) rfl (by decide) rfl (Nat.le_of_ble_eq_true rfl) ⟨Nat.le_trans (Nat.add_le_add_left (Nat.le_of_ble_eq_true rfl) ce) hce, Nat.le_trans (Nat.add_le_add_left (Nat.le_of_ble_eq_true rfl) sl) hsl⟩ dL_law_1882) rfl rfl rfl (n := 1885) rfl (fun h => h) ?_
  refine zr_iload h0 dL_law_1885 rfl (n := 1887) rfl ?_
  refine zr_icmp_eqY (tgt := 1892) h0 rfl dL_law_1887 (by decide) ?_
  refine zr_iload h0 dL_law_1892 rfl (n := 1894) rfl ?_
  by_cases hk : k = 0
  · refine zr_if_neN (tgt := 1909) h0 hk dL_law_1894 (by decide) ?_
    refine zr_aload_n h0 dL_law_1897 rfl (n := 1898) rfl ?_
    refine zr_iconst (0 : Int32) h0 (by decide) dL_law_1898 (n := 1899) rfl ?_
    refine zr_laloadK h0 (hv hk) dL_law_1899 (n := 1900) rfl ?_
    refine zr_iload h0 dL_law_1900 rfl (n := 1902) rfl ?_
    refine zr_i2l h0 dL_law_1902 (n := 1903) rfl ?_
    refine zr_lcmp h0 dL_law_1903 (n := 1904) rfl ?_
    refine zr_if_eqY (tgt := 1909) h0 (lg_cmp_self _) dL_law_1904 (by decide) ?_
    refine zr_goto (tgt := 2007) h0 dL_law_1909 (by decide) ?_
    exact zv_wide (ce' := ce + 8) (sl' := sl + 119) (zv_sub (lv' := [(0, .ref b), (1, .ref x), (2, .ref m), (3, .ref out), (4, .int i)]) (kk _ hI) (zsub_of [0, 1, 2, 3, 4] rfl)) (Nat.add_le_add_left (Nat.le_of_ble_eq_true rfl) _) (Nat.add_le_add_left (Nat.le_of_ble_eq_true rfl) _)
  · refine zr_if_neY (tgt := 1909) h0 hk dL_law_1894 (by decide) ?_
    refine zr_goto (tgt := 2007) h0 dL_law_1909 (by decide) ?_
    exact zv_wide (ce' := ce + 8) (sl' := sl + 119) (zv_sub (lv' := [(0, .ref b), (1, .ref x), (2, .ref m), (3, .ref out), (4, .int i)]) (kk _ hI) (zsub_of [0, 1, 2, 3, 4] rfl)) (Nat.add_le_add_left (Nat.le_of_ble_eq_true rfl) _) (Nat.add_le_add_left (Nat.le_of_ble_eq_true rfl) _)
def ok_24 (x m out : Nat) (a1 a2 a3 : Int32) (S : ZS) (I : ZS → Prop) : Prop := ∃ (k : Int32) (h : ZH), fL_levels x a1 a2 a3 out S = some (k, h) ∧ ∀ n : Nat, zFr h n → ∃ r, zcl ((h, n) : ZS) m 6 (fX6_levels m a1 a2 a3 (h, n)) = some r ∧ zcl r.2 m 6 (fX6_thrown m r.2) = some k ∧ (k = 0 → zaJ r.2 out 0 = some (r.1)) ∧ I r.2
set_option maxHeartbeats 4000000 in
set_option maxRecDepth 100000 in
theorem lc_24 {G : ZG} {b L x m out : Nat} {xs : Nat → Int32} {S : ZS} {ce sl : Nat} {i : Int32} {I : ZS → Prop} (h0 : zFix G code RL 8 (some .boolean) room_1) (hfl : zFlag G) (hS : zScr G b L xs) (hin : ∀ j : Int32, (0 ≤ j.toInt ∧ j.toInt ≤ 5) → vp_in (i + j) L) (hok : ok_24 x m out (xs (i + (1 : Int32)).toNatClampNeg) (xs (i + (2 : Int32)).toNatClampNeg) (if (xs (i + (3 : Int32)).toNatClampNeg) = 0 then (0 : Int32) else 1) S I) (hce : ce + 8 ≤ 601024) (hsl : sl + 119 ≤ 7293034) (kk : ∀ S1 : ZS, I S1 → zV G 8 S1 (ce + 8) (sl + 119) 2007 [(0, .ref b), (1, .ref x), (2, .ref m), (3, .ref out), (4, .int i)] [] True) : zV G 8 S ce sl 1912 [(0, .ref b), (1, .ref x), (2, .ref m), (3, .ref out), (4, .int i)] [] True := by
  by_cases hb9 : (xs (i + (3 : Int32)).toNatClampNeg) = 0
  · rw [if_pos hb9] at hok
    obtain ⟨k, h, hw, hok⟩ := hok
    refine zr_aload_n h0 dL_law_1912 rfl (n := 1913) rfl ?_
    refine zr_aload_n h0 dL_law_1913 rfl (n := 1914) rfl ?_
    refine zr_iload h0 dL_law_1914 rfl (n := 1916) rfl ?_
    refine zr_iconst (1 : Int32) h0 (by decide) dL_law_1916 (n := 1917) rfl ?_
    refine zr_iadd h0 dL_law_1917 (n := 1918) rfl ?_
    refine zr_sld h0 hS (hin (1 : Int32) (by decide)) dL_law_1918 (n := 1919) rfl ?_
    refine zr_aload_n h0 dL_law_1919 rfl (n := 1920) rfl ?_
    refine zr_iload h0 dL_law_1920 rfl (n := 1922) rfl ?_
    refine zr_iconst (2 : Int32) h0 (by decide) dL_law_1922 (n := 1923) rfl ?_
    refine zr_iadd h0 dL_law_1923 (n := 1924) rfl ?_
    refine zr_sld h0 hS (hin (2 : Int32) (by decide)) dL_law_1924 (n := 1925) rfl ?_
    refine zr_aload_n h0 dL_law_1925 rfl (n := 1926) rfl ?_
    refine zr_iload h0 dL_law_1926 rfl (n := 1928) rfl ?_
    refine zr_iconst (3 : Int32) h0 (by decide) dL_law_1928 (n := 1929) rfl ?_
    refine zr_iadd h0 dL_law_1929 (n := 1930) rfl ?_
    refine zr_sld h0 hS (hin (3 : Int32) (by decide)) dL_law_1930 (n := 1931) rfl ?_
    refine zr_if_eqY (tgt := 1938) h0 hb9 dL_law_1931 (by decide) ?_
    refine zr_iconst (0 : Int32) h0 (by decide) dL_law_1938 (n := 1939) rfl ?_
    refine zr_aload_n h0 dL_law_1939 rfl (n := 1940) rfl ?_
    refine zr_callW (ce + 2) (sl + 12) h0 hfl (fun l D z0 hlt => kL_levels l D z0 hlt x (xs (i + (1 : Int32)).toNatClampNeg) (xs (i + (2 : Int32)).toNatClampNeg) (0 : Int32) out S (k, h) hw) zw_798 zw_799 zw_0 zw_800 zyL_levels (As := [.ref x, .int (xs (i + (1 : Int32)).toNatClampNeg), .int (xs (i + (2 : Int32)).toNatClampNeg), .int (0 : Int32), .ref out]) (st := []) rfl (by decide) rfl (Nat.le_of_ble_eq_true rfl) ⟨Nat.le_trans (Nat.add_le_add_left (Nat.le_of_ble_eq_true rfl) ce) hce, Nat.le_trans (Nat.add_le_add_left (Nat.le_of_ble_eq_true rfl) sl) hsl⟩ dL_law_1940 rfl rfl (n := 1943) rfl (fun n9 => ?_)
    refine zv_fr (fun hfr => ?_)
    obtain ⟨r, hr, ht, hv, hI⟩ := hok n9 hfr
    refine zr_istore [(0, .ref b), (1, .ref x), (2, .ref m), (3, .ref out), (4, .int i), (5, .int k)] h0 dL_law_1943 (by decide) rfl (n := 1945) rfl ?_
    refine zr_aload_n h0 dL_law_1945 rfl (n := 1946) rfl ?_
    refine zr_aload_n h0 dL_law_1946 rfl (n := 1947) rfl ?_
    refine zr_iload h0 dL_law_1947 rfl (n := 1949) rfl ?_
    refine zr_iconst (1 : Int32) h0 (by decide) dL_law_1949 (n := 1950) rfl ?_
    refine zr_iadd h0 dL_law_1950 (n := 1951) rfl ?_
    refine zr_sld h0 hS (hin (1 : Int32) (by decide)) dL_law_1951 (n := 1952) rfl ?_
    refine zr_aload_n h0 dL_law_1952 rfl (n := 1953) rfl ?_
    refine zr_iload h0 dL_law_1953 rfl (n := 1955) rfl ?_
    refine zr_iconst (2 : Int32) h0 (by decide) dL_law_1955 (n := 1956) rfl ?_
    refine zr_iadd h0 dL_law_1956 (n := 1957) rfl ?_
    refine zr_sld h0 hS (hin (2 : Int32) (by decide)) dL_law_1957 (n := 1958) rfl ?_
    refine zr_aload_n h0 dL_law_1958 rfl (n := 1959) rfl ?_
    refine zr_iload h0 dL_law_1959 rfl (n := 1961) rfl ?_
    refine zr_iconst (3 : Int32) h0 (by decide) dL_law_1961 (n := 1962) rfl ?_
    refine zr_iadd h0 dL_law_1962 (n := 1963) rfl ?_
    refine zr_sld h0 hS (hin (3 : Int32) (by decide)) dL_law_1963 (n := 1964) rfl ?_
    refine zr_if_eqY (tgt := 1971) h0 hb9 dL_law_1964 (by decide) ?_
    refine zr_iconst (0 : Int32) h0 (by decide) dL_law_1971 (n := 1972) rfl ?_
    refine zr_call0 (res := (some (.long r.1))) (S' := r.2) (st := []) (st' := [.long r.1]) (ce' := (ce + 2)) (sl' := (sl + 12)) (P' := True) (zk_V h0 zcX6 (zcl_ex hr) (fun l D z0 => kX6_levels l D z0 m (xs (i + (1 : Int32)).toNatClampNeg) (xs (i + (2 : Int32)).toNatClampNeg) (0 : Int32) ((h, n9) : ZS) r (zcl_of hr)) zw_1146 zw_1147 zw_1148 zw_5 zw_1149 rfl zyX6_levels (As := [.int (xs (i + (1 : Int32)).toNatClampNeg), .int (xs (i + (2 : Int32)).toNatClampNeg), .int (0 : Int32)]) (st := []) rfl (by decide) rfl (Nat.le_of_ble_eq_true rfl) ⟨Nat.le_trans (Nat.add_le_add_left (Nat.le_of_ble_eq_true rfl) ce) hce, Nat.le_trans (Nat.add_le_add_left (Nat.le_of_ble_eq_true rfl) sl) hsl⟩ dL_law_1972) rfl rfl rfl (n := 1975) rfl (fun h => h) ?_
    refine zr_lstore [(0, .ref b), (1, .ref x), (2, .ref m), (3, .ref out), (4, .int i), (5, .int k), (6, .long r.1)] h0 dL_law_1975 (by decide) rfl (n := 1977) rfl ?_
    refine zr_aload_n h0 dL_law_1977 rfl (n := 1978) rfl ?_
    refine zr_call0 (res := some (.int k)) (S' := r.2) (st := []) (st' := [.int k]) (ce' := (ce + 2)) (sl' := (sl + 12)) (P' := True) (zk_V h0 zcX6 (zcl_ex ht) (fun l D z0 => kX6_thrown l D z0 m r.2 k (zcl_of ht)) zw_878 zw_879 zw_880 zw_5 zw_881 rfl zyX6_thrown (As := []) (st := []) rfl (by decide) rfl (Nat.le_of_ble_eq_true rfl) ⟨Nat.le_trans (Nat.add_le_add_left (Nat.le_of_ble_eq_true rfl) ce) hce, Nat.le_trans (Nat.add_le_add_left (Nat.le_of_ble_eq_true rfl) sl) hsl⟩ dL_law_1978) rfl rfl rfl (n := 1981) rfl (fun h => h) ?_
    refine zr_iload h0 dL_law_1981 rfl (n := 1983) rfl ?_
    refine zr_icmp_eqY (tgt := 1988) h0 rfl dL_law_1983 (by decide) ?_
    refine zr_iload h0 dL_law_1988 rfl (n := 1990) rfl ?_
    by_cases hk : k = 0
    · refine zr_if_neN (tgt := 2004) h0 hk dL_law_1990 (by decide) ?_
      refine zr_aload_n h0 dL_law_1993 rfl (n := 1994) rfl ?_
      refine zr_iconst (0 : Int32) h0 (by decide) dL_law_1994 (n := 1995) rfl ?_
      refine zr_laloadK h0 (hv hk) dL_law_1995 (n := 1996) rfl ?_
      refine zr_lload h0 dL_law_1996 rfl (n := 1998) rfl ?_
      refine zr_lcmp h0 dL_law_1998 (n := 1999) rfl ?_
      refine zr_if_eqY (tgt := 2004) h0 (lg_cmp_self _) dL_law_1999 (by decide) ?_
      refine zr_goto (tgt := 2007) h0 dL_law_2004 (by decide) ?_
      exact zv_wide (ce' := ce + 8) (sl' := sl + 119) (zv_sub (lv' := [(0, .ref b), (1, .ref x), (2, .ref m), (3, .ref out), (4, .int i)]) (kk _ hI) (zsub_of [0, 1, 2, 3, 4] rfl)) (Nat.add_le_add_left (Nat.le_of_ble_eq_true rfl) _) (Nat.add_le_add_left (Nat.le_of_ble_eq_true rfl) _)
    · refine zr_if_neY (tgt := 2004) h0 hk dL_law_1990 (by decide) ?_
      refine zr_goto (tgt := 2007) h0 dL_law_2004 (by decide) ?_
      exact zv_wide (ce' := ce + 8) (sl' := sl + 119) (zv_sub (lv' := [(0, .ref b), (1, .ref x), (2, .ref m), (3, .ref out), (4, .int i)]) (kk _ hI) (zsub_of [0, 1, 2, 3, 4] rfl)) (Nat.add_le_add_left (Nat.le_of_ble_eq_true rfl) _) (Nat.add_le_add_left (Nat.le_of_ble_eq_true rfl) _)
  · rw [if_neg hb9] at hok
    obtain ⟨k, h, hw, hok⟩ := hok
    refine zr_aload_n h0 dL_law_1912 rfl (n := 1913) rfl ?_
    refine zr_aload_n h0 dL_law_1913 rfl (n := 1914) rfl ?_
    refine zr_iload h0 dL_law_1914 rfl (n := 1916) rfl ?_
    refine zr_iconst (1 : Int32) h0 (by decide) dL_law_1916 (n := 1917) rfl ?_
    refine zr_iadd h0 dL_law_1917 (n := 1918) rfl ?_
    refine zr_sld h0 hS (hin (1 : Int32) (by decide)) dL_law_1918 (n := 1919) rfl ?_
    refine zr_aload_n h0 dL_law_1919 rfl (n := 1920) rfl ?_
    refine zr_iload h0 dL_law_1920 rfl (n := 1922) rfl ?_
    refine zr_iconst (2 : Int32) h0 (by decide) dL_law_1922 (n := 1923) rfl ?_
    refine zr_iadd h0 dL_law_1923 (n := 1924) rfl ?_
    refine zr_sld h0 hS (hin (2 : Int32) (by decide)) dL_law_1924 (n := 1925) rfl ?_
    refine zr_aload_n h0 dL_law_1925 rfl (n := 1926) rfl ?_
    refine zr_iload h0 dL_law_1926 rfl (n := 1928) rfl ?_
    refine zr_iconst (3 : Int32) h0 (by decide) dL_law_1928 (n := 1929) rfl ?_
    refine zr_iadd h0 dL_law_1929 (n := 1930) rfl ?_
    refine zr_sld h0 hS (hin (3 : Int32) (by decide)) dL_law_1930 (n := 1931) rfl ?_
    refine zr_if_eqN (tgt := 1938) h0 hb9 dL_law_1931 (by decide) ?_
    refine zr_iconst (1 : Int32) h0 (by decide) dL_law_1934 (n := 1935) rfl ?_
    refine zr_goto (tgt := 1939) h0 dL_law_1935 (by decide) ?_
    refine zr_aload_n h0 dL_law_1939 rfl (n := 1940) rfl ?_
    refine zr_callW (ce + 2) (sl + 12) h0 hfl (fun l D z0 hlt => kL_levels l D z0 hlt x (xs (i + (1 : Int32)).toNatClampNeg) (xs (i + (2 : Int32)).toNatClampNeg) (1 : Int32) out S (k, h) hw) zw_798 zw_799 zw_0 zw_800 zyL_levels (As := [.ref x, .int (xs (i + (1 : Int32)).toNatClampNeg), .int (xs (i + (2 : Int32)).toNatClampNeg), .int (1 : Int32), .ref out]) (st := []) rfl (by decide) rfl (Nat.le_of_ble_eq_true rfl) ⟨Nat.le_trans (Nat.add_le_add_left (Nat.le_of_ble_eq_true rfl) ce) hce, Nat.le_trans (Nat.add_le_add_left (Nat.le_of_ble_eq_true rfl) sl) hsl⟩ dL_law_1940 rfl rfl (n := 1943) rfl (fun n9 => ?_)
    refine zv_fr (fun hfr => ?_)
    obtain ⟨r, hr, ht, hv, hI⟩ := hok n9 hfr
    refine zr_istore [(0, .ref b), (1, .ref x), (2, .ref m), (3, .ref out), (4, .int i), (5, .int k)] h0 dL_law_1943 (by decide) rfl (n := 1945) rfl ?_
    refine zr_aload_n h0 dL_law_1945 rfl (n := 1946) rfl ?_
    refine zr_aload_n h0 dL_law_1946 rfl (n := 1947) rfl ?_
    refine zr_iload h0 dL_law_1947 rfl (n := 1949) rfl ?_
    refine zr_iconst (1 : Int32) h0 (by decide) dL_law_1949 (n := 1950) rfl ?_
    refine zr_iadd h0 dL_law_1950 (n := 1951) rfl ?_
    refine zr_sld h0 hS (hin (1 : Int32) (by decide)) dL_law_1951 (n := 1952) rfl ?_
    refine zr_aload_n h0 dL_law_1952 rfl (n := 1953) rfl ?_
    refine zr_iload h0 dL_law_1953 rfl (n := 1955) rfl ?_
    refine zr_iconst (2 : Int32) h0 (by decide) dL_law_1955 (n := 1956) rfl ?_
    refine zr_iadd h0 dL_law_1956 (n := 1957) rfl ?_
    refine zr_sld h0 hS (hin (2 : Int32) (by decide)) dL_law_1957 (n := 1958) rfl ?_
    refine zr_aload_n h0 dL_law_1958 rfl (n := 1959) rfl ?_
    refine zr_iload h0 dL_law_1959 rfl (n := 1961) rfl ?_
    refine zr_iconst (3 : Int32) h0 (by decide) dL_law_1961 (n := 1962) rfl ?_
    refine zr_iadd h0 dL_law_1962 (n := 1963) rfl ?_
    refine zr_sld h0 hS (hin (3 : Int32) (by decide)) dL_law_1963 (n := 1964) rfl ?_
    refine zr_if_eqN (tgt := 1971) h0 hb9 dL_law_1964 (by decide) ?_
    refine zr_iconst (1 : Int32) h0 (by decide) dL_law_1967 (n := 1968) rfl ?_
    refine zr_goto (tgt := 1972) h0 dL_law_1968 (by decide) ?_
    refine zr_call0 (res := (some (.long r.1))) (S' := r.2) (st := []) (st' := [.long r.1]) (ce' := (ce + 2)) (sl' := (sl + 12)) (P' := True) (zk_V h0 zcX6 (zcl_ex hr) (fun l D z0 => kX6_levels l D z0 m (xs (i + (1 : Int32)).toNatClampNeg) (xs (i + (2 : Int32)).toNatClampNeg) (1 : Int32) ((h, n9) : ZS) r (zcl_of hr)) zw_1146 zw_1147 zw_1148 zw_5 zw_1149 rfl zyX6_levels (As := [.int (xs (i + (1 : Int32)).toNatClampNeg), .int (xs (i + (2 : Int32)).toNatClampNeg), .int (1 : Int32)]) (st := []) rfl (by decide) rfl (Nat.le_of_ble_eq_true rfl) ⟨Nat.le_trans (Nat.add_le_add_left (Nat.le_of_ble_eq_true rfl) ce) hce, Nat.le_trans (Nat.add_le_add_left (Nat.le_of_ble_eq_true rfl) sl) hsl⟩ dL_law_1972) rfl rfl rfl (n := 1975) rfl (fun h => h) ?_
    refine zr_lstore [(0, .ref b), (1, .ref x), (2, .ref m), (3, .ref out), (4, .int i), (5, .int k), (6, .long r.1)] h0 dL_law_1975 (by decide) rfl (n := 1977) rfl ?_
    refine zr_aload_n h0 dL_law_1977 rfl (n := 1978) rfl ?_
    refine zr_call0 (res := some (.int k)) (S' := r.2) (st := []) (st' := [.int k]) (ce' := (ce + 2)) (sl' := (sl + 12)) (P' := True) (zk_V h0 zcX6 (zcl_ex ht) (fun l D z0 => kX6_thrown l D z0 m r.2 k (zcl_of ht)) zw_878 zw_879 zw_880 zw_5 zw_881 rfl zyX6_thrown (As := []) (st := []) rfl (by decide) rfl (Nat.le_of_ble_eq_true rfl) ⟨Nat.le_trans (Nat.add_le_add_left (Nat.le_of_ble_eq_true rfl) ce) hce, Nat.le_trans (Nat.add_le_add_left (Nat.le_of_ble_eq_true rfl) sl) hsl⟩ dL_law_1978) rfl rfl rfl (n := 1981) rfl (fun h => h) ?_
    refine zr_iload h0 dL_law_1981 rfl (n := 1983) rfl ?_
    refine zr_icmp_eqY (tgt := 1988) h0 rfl dL_law_1983 (by decide) ?_
    refine zr_iload h0 dL_law_1988 rfl (n := 1990) rfl ?_
    by_cases hk : k = 0
    · refine zr_if_neN (tgt := 2004) h0 hk dL_law_1990 (by decide) ?_
      refine zr_aload_n h0 dL_law_1993 rfl (n := 1994) rfl ?_
      refine zr_iconst (0 : Int32) h0 (by decide) dL_law_1994 (n := 1995) rfl ?_
      refine zr_laloadK h0 (hv hk) dL_law_1995 (n := 1996) rfl ?_
      refine zr_lload h0 dL_law_1996 rfl (n := 1998) rfl ?_
      refine zr_lcmp h0 dL_law_1998 (n := 1999) rfl ?_
      refine zr_if_eqY (tgt := 2004) h0 (lg_cmp_self _) dL_law_1999 (by decide) ?_
      refine zr_goto (tgt := 2007) h0 dL_law_2004 (by decide) ?_
      exact zv_wide (ce' := ce + 8) (sl' := sl + 119) (zv_sub (lv' := [(0, .ref b), (1, .ref x), (2, .ref m), (3, .ref out), (4, .int i)]) (kk _ hI) (zsub_of [0, 1, 2, 3, 4] rfl)) (Nat.add_le_add_left (Nat.le_of_ble_eq_true rfl) _) (Nat.add_le_add_left (Nat.le_of_ble_eq_true rfl) _)
    · refine zr_if_neY (tgt := 2004) h0 hk dL_law_1990 (by decide) ?_
      refine zr_goto (tgt := 2007) h0 dL_law_2004 (by decide) ?_
      exact zv_wide (ce' := ce + 8) (sl' := sl + 119) (zv_sub (lv' := [(0, .ref b), (1, .ref x), (2, .ref m), (3, .ref out), (4, .int i)]) (kk _ hI) (zsub_of [0, 1, 2, 3, 4] rfl)) (Nat.add_le_add_left (Nat.le_of_ble_eq_true rfl) _) (Nat.add_le_add_left (Nat.le_of_ble_eq_true rfl) _)
