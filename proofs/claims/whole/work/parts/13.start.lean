/-! THE CLAIM OUT OF ONE WALK OF THE LAW'S BODY. Your part is whole_start (and what it stands on); all else here is the same for every law, but numbers. -/
def R_law : String := "BilineariumLaw"
def lw_P (b : Addr) (xs : List Int32) (args : Array Value) (s : State) : Prop := args = #[.ref b] ∧ s.IntsAt b xs ∧ xs.length ≤ 3072 ∧ (Jvm.Cond.and given_1 narrow_1).before args s = true
def lw_Q (_ : Array Value) (s : State) (o : Outcome) (t : State) : Prop := o = .returned (some (.int 1)) ∧ Framed s o t [] 601024 7293034
def lw_Z (below : List Frame) (a : Array Value) (s : State) : State → Prop := fun t => ∃ o, t.status = .running ∧ Ended t below o ∧ lw_Q a s o t
/-- the law's own end, with 1 on the stack, nothing written that was there before, its room as the claim has it -/
theorem lw_ret {p : Program} {l : Launch} {e : Env} {s : State} {m : MethodId} {below : List Frame} {meth : Method} {c : Code} {b : Nat} (hx : p.tables.exec = Jvm.exec) (hb : c.code = code) (hr : meth.sig.returnType = ret) (hlocks : meth.locks = false) {pc : Nat} {H : Heap} {ls : Array Slot} (hdg : decode code pc = .ok (.ireturn, 1)) : W p l e room_1 s m #[Value.ref b] below meth c H [] 601024 7293034 (lw_Z below #[Value.ref b] s) (F0 m pc ls [.int 1]) := by
  intro T hT X
  obtain ⟨fs, hret, hrun, hended, hW, hframe⟩ := X.leave (v := some (.int 1)) (hlocks := hlocks) (fun h => by rw [hr] at h; cases h)
  have hmeth' : T.vm.method? m = some meth := X.method'
  refine ⟨T.setFrames fs, ?_, .returned (some (.int 1)), hrun, hended, rfl, ⟨_, rfl⟩, hW, hframe⟩
  jvm_step X.here [X.here.top, hx, hb, hdg, hmeth', hr, ret, narrow_b1]
  (try refine ⟨rfl, ?_⟩); (try refine ⟨rfl, ?_⟩)
  first | (intro acts; rw [hret _ acts rfl rfl rfl]) | rw [hret _ _ rfl rfl rfl]
  exact Steps.refl _
/-- what holds at the law's entry: the machine, the code, the tables' words (any of lw_tbl by 'hts w (by decide +kernel)'), the script of L ints xs at the cell b, what the Statement gives of the start (any of its parts by flat_of_before) -/
def lw_At (p : Program) (s : State) (m : MethodId) (meth : Method) (c : Code) (b L : Nat) (xs : Nat → Int32) : Prop :=
  p.tables.exec = Jvm.exec ∧ c.code = code ∧ meth.sig.returnType = ret ∧ c.maxLocals = 8 ∧ s.vm.findClass R_law = some m.cls ∧ (∀ w ∈ lw_tbl, w.before #[Value.ref b] s = true) ∧ va_X b L xs s s.heap ∧ b < s.heap.size ∧ meth.locks = false ∧ (Jvm.Cond.and given_1 narrow_1).before #[Value.ref b] s = true
theorem dL_law_0 : decode cL_law 0 = .ok (.new 8, 3) := by decide +kernel
theorem dL_law_11 : decode cL_law 11 = .ok (.dup, 1) := by decide +kernel
theorem dL_law_12 : decode cL_law 12 = .ok (.invokespecial 100, 3) := by decide +kernel
theorem dL_law_15 : decode cL_law 15 = .ok (.astore_n 2, 1) := by decide +kernel
theorem dL_law_16 : decode cL_law 16 = .ok (.iconst 1, 1) := by decide +kernel
theorem dL_law_17 : decode cL_law 17 = .ok (.newarray .long, 2) := by decide +kernel
theorem dL_law_19 : decode cL_law 19 = .ok (.astore_n 3, 1) := by decide +kernel
theorem dL_law_20 : decode cL_law 20 = .ok (.iconst 0, 1) := by decide +kernel
theorem dL_law_2014 : decode cL_law 2014 = .ok (.ireturn, 1) := by decide +kernel
theorem dL_law_21 : decode cL_law 21 = .ok (.istore 4, 2) := by decide +kernel
theorem dL_law_3 : decode cL_law 3 = .ok (.dup, 1) := by decide +kernel
theorem dL_law_4 : decode cL_law 4 = .ok (.invokespecial 97, 3) := by decide +kernel
theorem dL_law_7 : decode cL_law 7 = .ok (.astore_n 1, 1) := by decide +kernel
theorem dL_law_8 : decode cL_law 8 = .ok (.new 98, 3) := by decide +kernel
theorem zw_16 : Cond.classLink RL 8 RX5 ∈ zTbl := zin_t 16 (by decide +kernel) rfl
theorem zw_17 : Cond.instantiable RX5 9 ∈ zTbl := zin_t 17 (by decide +kernel) rfl
theorem zw_18 : Cond.methodLink RL 97 yX5_init ∈ zTbl := zin_t 18 (by decide +kernel) rfl
theorem zw_19 : Cond.instanceMethod yX5_init ∈ zTbl := zin_t 19 (by decide +kernel) rfl
theorem zw_20 : Cond.code yX5_init cX5_init 1 none ∈ zTbl := zin_t 20 (by decide +kernel) rfl
theorem zw_813 : Cond.classLink RL 98 RX6 ∈ zTbl := zin_t 813 (by decide +kernel) rfl
theorem zw_814 : Cond.instantiable RX6 19 ∈ zTbl := zin_t 814 (by decide +kernel) rfl
theorem zw_815 : Cond.methodLink RL 100 yX6_init ∈ zTbl := zin_t 815 (by decide +kernel) rfl
theorem zw_816 : Cond.instanceMethod yX6_init ∈ zTbl := zin_t 816 (by decide +kernel) rfl
theorem zw_817 : Cond.code yX6_init cX6_init 1 none ∈ zTbl := zin_t 817 (by decide +kernel) rfl
def zFl : List Cond := flatC (Jvm.Cond.and given_1 narrow_1)
theorem zs_nest : ∀ q ∈ zNests, Cond.methodLinkNest q.1 q.2.1 q.2.2.1 q.2.2.2 ∈ lw_tbl := by decide +kernel
theorem zs_cast : ∀ E ∈ zExs, Cond.castable E E ∈ lw_tbl := by decide +kernel
theorem zs_decl : ∀ y ∈ zDecls, Cond.declares y ∈ lw_tbl := by decide +kernel
theorem zs_str : ∀ q ∈ zStrs, Cond.stringRef q.1 q.2.1 q.2.2 ∈ lw_tbl := by decide +kernel
theorem zs_ex : ∀ q ∈ zStrs, Cond.exactly (.string q.1 q.2.1) "java/lang/String" ∈ zFl := by decide +kernel
theorem zs_not : ∀ E ∈ zExs, ∀ E2 ∈ zExs, E ≠ E2 → Cond.not (.castable E E2) ∈ zFl := by decide +kernel
theorem zs_arr : Cond.arrayClass .int ∈ lw_tbl ∧ Cond.arrayClass .long ∈ lw_tbl ∧ Cond.arrayClass .boolean ∈ lw_tbl ∧ Cond.arrayOver (.object "Bilinearium$Cube") ∈ lw_tbl ∧ Cond.arrayOver (.object "Bilinearium$Way") ∈ lw_tbl := by decide +kernel
theorem zs_thr : Cond.laysStatic Bundle.tN "UNASSIGNED_STACK" Bundle.steD ∈ lw_tbl ∧ Cond.laysStatic Bundle.tN "SUPPRESSED_SENTINEL" Bundle.listD ∈ lw_tbl ∧ Cond.initialized Bundle.tN ∈ lw_tbl := by decide +kernel
theorem zs_isr : Cond.isRef (.static Bundle.tN "UNASSIGNED_STACK" Bundle.steD) ∈ zFl ∧ Cond.isRef (.static Bundle.tN "SUPPRESSED_SENTINEL" Bundle.listD) ∈ zFl := by decide +kernel
theorem zs_inst : Cond.instantiable RX0 5 ∈ lw_tbl ∧ Cond.instantiable RX1 3 ∈ lw_tbl ∧ Cond.instantiable RX2 3 ∈ lw_tbl ∧ Cond.instantiable RX3 2 ∈ lw_tbl ∧ Cond.instantiable RX4 4 ∈ lw_tbl ∧ Cond.instantiable RX5 9 ∈ lw_tbl ∧ Cond.instantiable RX6 19 ∈ lw_tbl := by decide +kernel
theorem zarrP {s : State} {args : Array Value} {ty : FieldType} (hn : ∀ X, ty ≠ .object X) (h : (Cond.arrayClass ty).before args s = true) : ∃ cA, ArrOfT s cA ty ∧ va_RA s cA ty := by
  obtain ⟨c, k, comp, h1, h2, h3⟩ := Cond.arrayClass_spec h
  refine ⟨c, fun n z => ⟨fun k h => (by cases h), k, h2, comp, h3⟩, ?_⟩
  unfold va_RA
  split
  · exact absurd rfl (hn _)
  · exact h1
theorem zarrO {s : State} {args : Array Value} {C : String} (h : (Cond.arrayOver (.object C)).before args s = true) : ∃ cA, ArrOfT s cA (.object C) ∧ va_RA s cA (.object C) := by
  obtain ⟨comp, c, k, h1, h2, h3, h4, h5⟩ := Cond.arrayOver_spec h
  exact ⟨c, fun n z => ⟨fun k h => (by cases h), k, h3, comp, h4⟩, k, comp, h3, h4, h1, h5⟩
set_option maxHeartbeats 4000000 in
set_option maxRecDepth 100000 in
theorem zVm_start {s : State} {args : Array Value} (hts : ∀ w ∈ lw_tbl, w.before args s = true) (hfl : ∀ w ∈ zFl, w.before args s = true) : ∃ D : ZD, zVm D s := by
  have hin := zs_inst
  obtain ⟨c0, i0, hk0⟩ := u_known (C := RX0) (T := TX0) (N := 5) (n := 5) hts (fun w hw => (List.mem_filter.mp (zcl0m w hw)).1) (hts _ hin.1)
  obtain ⟨c1, i1, hk1⟩ := u_known (C := RX1) (T := TX1) (N := 3) (n := 3) hts (fun w hw => (List.mem_filter.mp (zcl1m w hw)).1) (hts _ hin.2.1)
  obtain ⟨c2, i2, hk2⟩ := u_known (C := RX2) (T := TX2) (N := 3) (n := 3) hts (fun w hw => (List.mem_filter.mp (zcl2m w hw)).1) (hts _ hin.2.2.1)
  obtain ⟨c3, i3, hk3⟩ := u_known (C := RX3) (T := TX3) (N := 2) (n := 2) hts (fun w hw => (List.mem_filter.mp (zcl3m w hw)).1) (hts _ hin.2.2.2.1)
  obtain ⟨c4, i4, hk4⟩ := u_known (C := RX4) (T := TX4) (N := 4) (n := 4) hts (fun w hw => (List.mem_filter.mp (zcl4m w hw)).1) (hts _ hin.2.2.2.2.1)
  obtain ⟨c5, i5, hk5⟩ := u_known (C := RX5) (T := TX5) (N := 9) (n := 9) hts (fun w hw => (List.mem_filter.mp (zcl5m w hw)).1) (hts _ hin.2.2.2.2.2.1)
  obtain ⟨c6, i6, hk6⟩ := u_known (C := RX6) (T := TX6) (N := 19) (n := 19) hts (fun w hw => (List.mem_filter.mp (zcl6m w hw)).1) (hts _ hin.2.2.2.2.2.2)
  obtain ⟨a0, ha0, hb0⟩ := zarrP (ty := .int) (fun _ h => nomatch h) (hts _ zs_arr.1)
  obtain ⟨a1, ha1, hb1⟩ := zarrP (ty := .long) (fun _ h => nomatch h) (hts _ zs_arr.2.1)
  obtain ⟨a2, ha2, hb2⟩ := zarrP (ty := .boolean) (fun _ h => nomatch h) (hts _ zs_arr.2.2.1)
  obtain ⟨a3, ha3, hb3⟩ := zarrO (hts _ zs_arr.2.2.2.1)
  obtain ⟨a4, ha4, hb4⟩ := zarrO (hts _ zs_arr.2.2.2.2)
  refine ⟨(fun k => if k = 0 then c0 else if k = 1 then c1 else if k = 2 then c2 else if k = 3 then c3 else if k = 4 then c4 else if k = 5 then c5 else c6, fun k => if k = 0 then i0 else if k = 1 then i1 else if k = 2 then i2 else if k = 3 then i3 else if k = 4 then i4 else if k = 5 then i5 else i6, fun k => if k = 0 then a0 else if k = 1 then a1 else if k = 2 then a2 else if k = 3 then a3 else a4), ⟨?_, ?_⟩, fun q hq => va_Nw.of rfl (hts _ (zs_nest q hq)), ⟨va_AO.of (hts _ zs_arr.2.2.2.1), va_AO.of (hts _ zs_arr.2.2.2.2)⟩, fun q hq => ?_, fun E hE => va_Nw.of rfl (hts _ (zs_cast E hE)), fun E hE E2 hE2 hn => va_Nc.of (hfl _ (zs_not E hE E2 hE2 hn)), fun y hy => va_Nw.of rfl (hts _ (zs_decl y hy))⟩
  · intro k q hq
    match k, hq with
    | 0, hq => cases hq; exact hk0
    | 1, hq => cases hq; exact hk1
    | 2, hq => cases hq; exact hk2
    | 3, hq => cases hq; exact hk3
    | 4, hq => cases hq; exact hk4
    | 5, hq => cases hq; exact hk5
    | 6, hq => cases hq; exact hk6
    | k + 7, hq => simp [vwCl] at hq
  · intro k q hq
    match k, hq with
    | 0, hq => cases hq; exact ⟨ha0, hb0⟩
    | 1, hq => cases hq; exact ⟨ha1, hb1⟩
    | 2, hq => cases hq; exact ⟨ha2, hb2⟩
    | 3, hq => cases hq; exact ⟨ha3, hb3⟩
    | 4, hq => cases hq; exact ⟨ha4, hb4⟩
    | k + 5, hq => simp [zTys] at hq
  · obtain ⟨a, c, cell, k, h1, -⟩ := Cond.exactly_spec (hfl _ (zs_ex q hq))
    exact ⟨a, vk_R.of (hts _ (zs_str q hq)) h1⟩
set_option maxHeartbeats 4000000 in
set_option maxRecDepth 100000 in
theorem zwhole {I : Nat → Nat → Nat → ZS → Prop} (hO : zOwed I) {p : Program} {e : Env} {s : State} {m : MethodId} {below : List Frame} {meth : Method} {c : Code} (l : Launch) (hflags : l.flags = flags0) {b L : Nat} {xs : Nat → Int32} (hL : L ≤ 3072) (C0 : lw_At p s m meth c b L xs) : W p l e room_1 s m #[Value.ref b] below meth c s.heap [] 0 0 (lw_Z below #[Value.ref b] s) (entryFrame m ([Value.ref b] : List Value).toArray 8) := by
  obtain ⟨hx, hb, hr, hml, hown, hts, hX, hbl, hlocks, hgv⟩ := C0
  have hfl9 : ∀ w ∈ zFl, w.before #[Value.ref b] s = true := flat_of_before _ hgv
  obtain ⟨D, hvm⟩ := zVm_start hts hfl9
  have hA : ∀ a : Nat, a < s.heap.size → ¬ zA s.heap.size a := fun a h => Nat.not_le.mpr h
  have hst : zSt s.heap.size s s.heap := ⟨vx_Zqof (hts _ zs_thr.1) (hts _ zs_thr.2.2) (hfl9 _ zs_isr.1) hA, vx_Zqof (hts _ zs_thr.2.1) (hts _ zs_thr.2.2) (hfl9 _ zs_isr.2) hA⟩
  have hlt : l.stackTraces = false := by
    unfold Launch.stackTraces
    rw [hflags]
    decide +kernel
  obtain ⟨G, hG⟩ : ∃ G : ZG, G = (p, l, e, room_1, s, m, #[Value.ref b], below, meth, c, lw_Z below #[Value.ref b] s, D, s.heap.size) := ⟨_, rfl⟩
  have h0 : zFix G code RL 8 (some .boolean) room_1 := by
    rw [hG]
    exact ⟨hx, hb, hml, hown, fun w hw => hts w (List.mem_filter.mp hw).1, hvm, hst, hlocks, rfl, hr, Nat.le_refl _⟩
  have hfl : zFlag G := by
    rw [hG]
    exact hlt
  have hS : zScr G b L xs := by
    rw [hG]
    exact ⟨hX, hbl, hbl⟩
  have hend : ∀ (S : ZS) (ce sl : Nat) (lv : List (Nat × Value)), ce ≤ 601024 → sl ≤ 7293034 → zV G 8 S ce sl 2014 lv [.int 1] True := by
    intro S ce sl lv hce hsl
    rw [hG]
    intro _ H locs ls h1 h2 h3
    refine va_forget (fun q hq => h2.2.2 q hq) ?_
    exact W.widen hce hsl (lw_ret hx hb hr hlocks dL_law_2014)
  obtain ⟨hI, hst0⟩ := hO
  obtain ⟨S1, S2, e1, e2, hi⟩ := hst0 s.heap.size
  have main : zV G 8 ((fun _ => none), s.heap.size) 0 0 0 [(0, .ref b)] [] True := by
    refine zr_new (fs := [.null, .null, .null, .null, .null, .null, .int 0, .int 0, .int 0]) (ce' := 1) (sl' := 9) h0 zcX5 znwX5 zw_16 zw_17 zw_1 rfl rfl (by decide) (by decide) dL_law_0 (n := 3) rfl ?_
    refine zr_dup h0 rfl dL_law_3 (n := 4) rfl ?_
    refine zr_call0 (res := none) (S' := S1) (st := [.ref s.heap.size]) (st' := [.ref s.heap.size]) (ce' := 11) (sl' := 466) (P' := True) (zk_I h0 (fun l D z0 => kX5_init l D z0 s.heap.size _ S1 e1) zw_18 zw_19 zw_1 zw_20 rfl zyX5_init (As := []) (st := [.ref s.heap.size]) rfl (by decide) rfl (Nat.le_of_ble_eq_true rfl) (by decide) dL_law_4) rfl rfl rfl (n := 7) rfl (fun h => h) ?_
    refine zr_astore_n [(0, .ref b), (1, .ref s.heap.size)] h0 dL_law_7 (by decide) rfl (n := 8) rfl ?_
    refine zr_new (fs := [.int 0, .int 0, .int 0, .null, .null, .null, .int 0, .null, .null, .null, .null, .null, .null, .null, .null, .int 0, .null, .int 0, .int 0]) (ce' := 12) (sl' := 485) h0 zcX6 znwX6 zw_813 zw_814 zw_5 rfl rfl (by decide) (by decide) dL_law_8 (n := 11) rfl ?_
    refine zr_dup h0 rfl dL_law_11 (n := 12) rfl ?_
    refine zr_call0 (res := none) (S' := S2) (st := [.ref S1.2]) (st' := [.ref S1.2]) (ce' := 24) (sl' := 23733) (P' := True) (zk_I h0 (fun l D z0 => kX6_init l D z0 S1.2 _ S2 e2) zw_815 zw_816 zw_5 zw_817 rfl zyX6_init (As := []) (st := [.ref S1.2]) rfl (by decide) rfl (Nat.le_of_ble_eq_true rfl) (by decide) dL_law_12) rfl rfl rfl (n := 15) rfl (fun h => h) ?_
    refine zr_astore_n [(0, .ref b), (1, .ref s.heap.size), (2, .ref S1.2)] h0 dL_law_15 (by decide) rfl (n := 16) rfl ?_
    refine zr_iconst (1 : Int32) h0 (by decide) dL_law_16 (n := 17) rfl ?_
    refine zr_newarray (t := 1) (N := 1) (ce' := 25) (sl' := 23734) h0 rfl rfl (fun _ => rfl) rfl (fun _ h => nomatch h) zw_61 (by decide) rfl (by decide) rfl rfl (by decide) (by decide) dL_law_17 (n := 19) rfl ?_
    refine zr_astore_n [(0, .ref b), (1, .ref s.heap.size), (2, .ref S1.2), (3, .ref S2.2)] h0 dL_law_19 (by decide) rfl (n := 20) rfl ?_
    refine zr_iconst (0 : Int32) h0 (by decide) dL_law_20 (n := 21) rfl ?_
    refine zr_istore [(0, .ref b), (1, .ref s.heap.size), (2, .ref S1.2), (3, .ref S2.2), (4, .int 0)] h0 dL_law_21 (by decide) rfl (n := 23) rfl ?_
    exact zlaw_loop (c0 := 25) (s0 := 23734) (I := I) h0 hfl hS hL hI (by decide) (by decide) hend 513 0 _ (by omega) (by omega) (by omega) hi
  have hl := lv_entry ([.ref b]) (n := 8) (Nat.le_of_ble_eq_true rfl)
  rw [lg_entry_eq]
  rw [hG] at main
  have hhp : zHp D s.heap.size ((fun _ => none), s.heap.size) s.heap := ⟨⟨fun a e h => (by cases h), rfl⟩, fun a e h => (by cases h), Nat.le_refl _⟩
  exact main trivial s.heap [] _ hhp va_S.rf hl
