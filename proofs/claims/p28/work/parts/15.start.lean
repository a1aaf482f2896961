/-! THE CLAIM OUT OF ONE WALK OF THE LAW'S BODY. Your part is whole_start (and what it stands on); all else here is the same for every law, but numbers. -/
def R_law : String := "BilineariumLaw"
def lw_P (b : Addr) (xs : List Int32) (args : Array Value) (s : State) : Prop := args = #[.ref b] ∧ s.IntsAt b xs ∧ xs.length ≤ 260 ∧ (Jvm.Cond.and given_1 narrow_1).before args s = true
def lw_Q (_ : Array Value) (s : State) (o : Outcome) (t : State) : Prop := o = .returned (some (.int 1)) ∧ Framed s o t [] 600086 7301442
def lw_Z (below : List Frame) (a : Array Value) (s : State) : State → Prop := fun t => ∃ o, t.status = .running ∧ Ended t below o ∧ lw_Q a s o t
/-- the law's own end, with 1 on the stack, nothing written that was there before, its room as the claim has it -/
theorem lw_ret {p : Program} {l : Launch} {e : Env} {s : State} {m : MethodId} {below : List Frame} {meth : Method} {c : Code} {b : Nat} (hx : p.tables.exec = Jvm.exec) (hb : c.code = code) (hr : meth.sig.returnType = ret) (hlocks : meth.locks = false) {pc : Nat} {H : Heap} {ls : Array Slot} (hdg : decode code pc = .ok (.ireturn, 1)) : W p l e room_1 s m #[Value.ref b] below meth c H [] 600086 7301442 (lw_Z below #[Value.ref b] s) (F0 m pc ls [.int 1]) := by
  intro T hT X
  obtain ⟨fs, hret, hrun, hended, hW, hframe⟩ := X.leave (v := some (.int 1)) (hlocks := hlocks) (fun h => by rw [hr] at h; cases h)
  have hmeth' : T.vm.method? m = some meth := X.method'
  refine ⟨T.setFrames fs, ?_, .returned (some (.int 1)), hrun, hended, rfl, ⟨_, rfl⟩, hW, hframe⟩
  jvm_step X.here [X.here.top, hx, hb, hdg, hmeth', hr, ret, narrow_b1]
  (try refine ⟨rfl, ?_⟩); (try refine ⟨rfl, ?_⟩)
  first | (intro acts; rw [hret _ acts rfl rfl rfl]) | rw [hret _ _ rfl rfl rfl]
  exact Steps.refl _
/-- what holds at the law's entry: the machine, the code, the tables' words (any of lw_tbl by 'hts w (by decide +kernel)'), the script of L ints xs at the cell b, what the Statement gives of the start (any of its parts by flat_of_before) -/
def lw_At (p : Program) (s : State) (m : MethodId) (meth : Method) (c : Code) (b L : Nat) (xs : Nat → Int32) : Prop :=
  p.tables.exec = Jvm.exec ∧ c.code = code ∧ meth.sig.returnType = ret ∧ c.maxLocals = 8 ∧ s.vm.findClass R_law = some m.cls ∧ (∀ w ∈ lw_tbl, w.before #[Value.ref b] s = true) ∧ va_X b L xs s s.heap ∧ b < s.heap.size ∧ meth.locks = false ∧ (Jvm.Cond.and given_1 narrow_1).before #[Value.ref b] s = true
theorem dL_law_0 : decode cL_law 0 = .ok (.iconst 2, 1) := by decide +kernel
theorem dL_law_1 : decode cL_law 1 = .ok (.aload_n 0, 1) := by decide +kernel
theorem dL_law_10 : decode cL_law 10 = .ok (.iadd, 1) := by decide +kernel
theorem dL_law_11 : decode cL_law 11 = .ok (.istore_n 1, 1) := by decide +kernel
theorem dL_law_12 : decode cL_law 12 = .ok (.iload_n 1, 1) := by decide +kernel
theorem dL_law_13 : decode cL_law 13 = .ok (.iconst 4, 1) := by decide +kernel
theorem dL_law_14 : decode cL_law 14 = .ok (.if_icmp .ne 7, 3) := by decide +kernel
theorem dL_law_17 : decode cL_law 17 = .ok (.iconst 5, 1) := by decide +kernel
theorem dL_law_18 : decode cL_law 18 = .ok (.goto 4, 3) := by decide +kernel
theorem dL_law_196 : decode cL_law 196 = .ok (.ireturn, 1) := by decide +kernel
theorem dL_law_2 : decode cL_law 2 = .ok (.iconst 0, 1) := by decide +kernel
theorem dL_law_21 : decode cL_law 21 = .ok (.iload_n 1, 1) := by decide +kernel
theorem dL_law_22 : decode cL_law 22 = .ok (.istore_n 1, 1) := by decide +kernel
theorem dL_law_23 : decode cL_law 23 = .ok (.new 9, 3) := by decide +kernel
theorem dL_law_26 : decode cL_law 26 = .ok (.dup, 1) := by decide +kernel
theorem dL_law_27 : decode cL_law 27 = .ok (.invokespecial 169, 3) := by decide +kernel
theorem dL_law_3 : decode cL_law 3 = .ok (.invokestatic 165, 3) := by decide +kernel
theorem dL_law_30 : decode cL_law 30 = .ok (.astore_n 2, 1) := by decide +kernel
theorem dL_law_31 : decode cL_law 31 = .ok (.new 9, 3) := by decide +kernel
theorem dL_law_34 : decode cL_law 34 = .ok (.dup, 1) := by decide +kernel
theorem dL_law_35 : decode cL_law 35 = .ok (.invokespecial 169, 3) := by decide +kernel
theorem dL_law_38 : decode cL_law 38 = .ok (.astore_n 3, 1) := by decide +kernel
theorem dL_law_39 : decode cL_law 39 = .ok (.aload_n 2, 1) := by decide +kernel
theorem dL_law_40 : decode cL_law 40 = .ok (.iconst 5, 1) := by decide +kernel
theorem dL_law_41 : decode cL_law 41 = .ok (.invokestatic 170, 3) := by decide +kernel
theorem dL_law_44 : decode cL_law 44 = .ok (.iconst 2, 1) := by decide +kernel
theorem dL_law_45 : decode cL_law 45 = .ok (.if_icmp .ne 31, 3) := by decide +kernel
theorem dL_law_48 : decode cL_law 48 = .ok (.aload_n 2, 1) := by decide +kernel
theorem dL_law_49 : decode cL_law 49 = .ok (.iload_n 1, 1) := by decide +kernel
theorem dL_law_50 : decode cL_law 50 = .ok (.invokestatic 170, 3) := by decide +kernel
theorem dL_law_53 : decode cL_law 53 = .ok (.iconst 5, 1) := by decide +kernel
theorem dL_law_54 : decode cL_law 54 = .ok (.if_icmp .ne 22, 3) := by decide +kernel
theorem dL_law_57 : decode cL_law 57 = .ok (.aload_n 3, 1) := by decide +kernel
theorem dL_law_58 : decode cL_law 58 = .ok (.iload_n 1, 1) := by decide +kernel
theorem dL_law_59 : decode cL_law 59 = .ok (.invokestatic 170, 3) := by decide +kernel
theorem dL_law_6 : decode cL_law 6 = .ok (.iconst 3, 1) := by decide +kernel
theorem dL_law_62 : decode cL_law 62 = .ok (.iconst 2, 1) := by decide +kernel
theorem dL_law_63 : decode cL_law 63 = .ok (.if_icmp .ne 13, 3) := by decide +kernel
theorem dL_law_66 : decode cL_law 66 = .ok (.aload_n 3, 1) := by decide +kernel
theorem dL_law_67 : decode cL_law 67 = .ok (.iconst 4, 1) := by decide +kernel
theorem dL_law_68 : decode cL_law 68 = .ok (.invokestatic 170, 3) := by decide +kernel
theorem dL_law_7 : decode cL_law 7 = .ok (.invokestatic 101, 3) := by decide +kernel
theorem dL_law_71 : decode cL_law 71 = .ok (.ldc 16, 2) := by decide +kernel
theorem dL_law_73 : decode cL_law 73 = .ok (.if_icmp .eq 5, 3) := by decide +kernel
theorem dL_law_78 : decode cL_law 78 = .ok (.iconst 1, 1) := by decide +kernel
theorem dL_law_79 : decode cL_law 79 = .ok (.istore 4, 2) := by decide +kernel
theorem zw_109 : Cond.methodLink RL 170 yL_prime ∈ zTbl := zin_t 109 (by decide +kernel) rfl
theorem zw_110 : Cond.static yL_prime ∈ zTbl := zin_t 110 (by decide +kernel) rfl
theorem zw_111 : Cond.codeWith yL_prime cL_prime 3 (some .int) [(0, 5, 6, 14), (0, 5, 10, 17)] ∈ zTbl := zin_t 111 (by decide +kernel) rfl
theorem zw_15 : Cond.classLink RL 9 RX5 ∈ zTbl := zin_t 15 (by decide +kernel) rfl
theorem zw_16 : Cond.instantiable RX5 9 ∈ zTbl := zin_t 16 (by decide +kernel) rfl
theorem zw_17 : Cond.methodLink RL 169 yX5_init ∈ zTbl := zin_t 17 (by decide +kernel) rfl
theorem zw_18 : Cond.instanceMethod yX5_init ∈ zTbl := zin_t 18 (by decide +kernel) rfl
theorem zw_19 : Cond.code yX5_init cX5_init 1 none ∈ zTbl := zin_t 19 (by decide +kernel) rfl
def zFl : List Cond := flatC (Jvm.Cond.and given_1 narrow_1)
theorem zs_nest : ∀ q ∈ zNests, Cond.methodLinkNest q.1 q.2.1 q.2.2.1 q.2.2.2 ∈ lw_tbl := by decide +kernel
theorem zs_cast : ∀ E ∈ zExs, Cond.castable E E ∈ lw_tbl := by decide +kernel
theorem zs_decl : ∀ y ∈ zDecls, Cond.declares y ∈ lw_tbl := by decide +kernel
theorem zs_str : ∀ q ∈ zStrs, Cond.stringRef q.1 q.2.1 q.2.2 ∈ lw_tbl := by decide +kernel
theorem zs_ex : ∀ q ∈ zStrs, Cond.exactly (.string q.1 q.2.1) "java/lang/String" ∈ zFl := by decide +kernel
theorem zs_not : ∀ E ∈ zExs, ∀ E2 ∈ zExs, E ≠ E2 → Cond.not (.castable E E2) ∈ zFl := by decide +kernel
theorem zs_arr : Cond.arrayClass .int ∈ lw_tbl ∧ Cond.arrayClass .long ∈ lw_tbl ∧ Cond.arrayClass .int ∈ lw_tbl ∧ Cond.arrayOver (.object "Bilinearium$Cube") ∈ lw_tbl ∧ Cond.arrayOver (.object "Bilinearium$Way") ∈ lw_tbl := by decide +kernel
theorem zs_thr : Cond.laysStatic Bundle.tN "UNASSIGNED_STACK" Bundle.steD ∈ lw_tbl ∧ Cond.laysStatic Bundle.tN "SUPPRESSED_SENTINEL" Bundle.listD ∈ lw_tbl ∧ Cond.initialized Bundle.tN ∈ lw_tbl := by decide +kernel
theorem zs_isr : Cond.isRef (.static Bundle.tN "UNASSIGNED_STACK" Bundle.steD) ∈ zFl ∧ Cond.isRef (.static Bundle.tN "SUPPRESSED_SENTINEL" Bundle.listD) ∈ zFl := by decide +kernel
theorem zs_inst : Cond.instantiable RX0 5 ∈ lw_tbl ∧ Cond.instantiable RX1 3 ∈ lw_tbl ∧ Cond.instantiable RX2 3 ∈ lw_tbl ∧ Cond.instantiable RX3 2 ∈ lw_tbl ∧ Cond.instantiable RX4 4 ∈ lw_tbl ∧ Cond.instantiable RX5 9 ∈ lw_tbl := by decide +kernel
theorem zarrP {s : State} {args : Array Value} {ty : FieldType} (hn : ∀ X, ty ≠ .object X) (h : (Cond.arrayClass ty).before args s = true) : ∃ cA, ArrOfT s cA ty ∧ va_RA s cA ty := by
  obtain ⟨c, k, comp, h1, h2, h3⟩ := Cond.arrayClass_spec h
  refine ⟨c, fun n z => ⟨fun k h => (by cases h), k, h2, comp, h3⟩, ?_⟩
  unfold va_RA
  split
  · exact absurd rfl (hn _)
  · exact h1
theorem zarrO {s : State} {args : Array Value} {C : String} (h : (Cond.arrayOver (.object C)).before args s = true) : ∃ cA, ArrOfT s cA (.object C) ∧ va_RA s cA (.object C) := by
  obtain ⟨comp, c, k, h1, h2, h3, h4, h5⟩ := Cond.arrayOver_spec h
  exact ⟨c, fun n z => ⟨fun k h => (by cases h), k, h3, comp, h4⟩, k, comp, h3, h4, h1, h5⟩
set_option maxHeartbeats 4000000 in
set_option maxRecDepth 100000 in
theorem zVm_start {s : State} {args : Array Value} (hts : ∀ w ∈ lw_tbl, w.before args s = true) (hfl : ∀ w ∈ zFl, w.before args s = true) : ∃ D : ZD, zVm D s := by
  have hin := zs_inst
  obtain ⟨c0, i0, hk0⟩ := u_known (C := RX0) (T := TX0) (N := 5) (n := 5) hts (fun w hw => (List.mem_filter.mp (zcl0m w hw)).1) (hts _ hin.1)
  obtain ⟨c1, i1, hk1⟩ := u_known (C := RX1) (T := TX1) (N := 3) (n := 3) hts (fun w hw => (List.mem_filter.mp (zcl1m w hw)).1) (hts _ hin.2.1)
  obtain ⟨c2, i2, hk2⟩ := u_known (C := RX2) (T := TX2) (N := 3) (n := 3) hts (fun w hw => (List.mem_filter.mp (zcl2m w hw)).1) (hts _ hin.2.2.1)
  obtain ⟨c3, i3, hk3⟩ := u_known (C := RX3) (T := TX3) (N := 2) (n := 2) hts (fun w hw => (List.mem_filter.mp (zcl3m w hw)).1) (hts _ hin.2.2.2.1)
  obtain ⟨c4, i4, hk4⟩ := u_known (C := RX4) (T := TX4) (N := 4) (n := 4) hts (fun w hw => (List.mem_filter.mp (zcl4m w hw)).1) (hts _ hin.2.2.2.2.1)
  obtain ⟨c5, i5, hk5⟩ := u_known (C := RX5) (T := TX5) (N := 9) (n := 9) hts (fun w hw => (List.mem_filter.mp (zcl5m w hw)).1) (hts _ hin.2.2.2.2.2)
  obtain ⟨a0, ha0, hb0⟩ := zarrP (ty := .int) (fun _ h => nomatch h) (hts _ zs_arr.1)
  obtain ⟨a1, ha1, hb1⟩ := zarrP (ty := .long) (fun _ h => nomatch h) (hts _ zs_arr.2.1)
  obtain ⟨a2, ha2, hb2⟩ := zarrP (ty := .int) (fun _ h => nomatch h) (hts _ zs_arr.2.2.1)
  obtain ⟨a3, ha3, hb3⟩ := zarrO (hts _ zs_arr.2.2.2.1)
  obtain ⟨a4, ha4, hb4⟩ := zarrO (hts _ zs_arr.2.2.2.2)
  refine ⟨(fun k => if k = 0 then c0 else if k = 1 then c1 else if k = 2 then c2 else if k = 3 then c3 else if k = 4 then c4 else c5, fun k => if k = 0 then i0 else if k = 1 then i1 else if k = 2 then i2 else if k = 3 then i3 else if k = 4 then i4 else i5, fun k => if k = 0 then a0 else if k = 1 then a1 else if k = 2 then a2 else if k = 3 then a3 else a4), ⟨?_, ?_⟩, fun q hq => va_Nw.of rfl (hts _ (zs_nest q hq)), ⟨va_AO.of (hts _ zs_arr.2.2.2.1), va_AO.of (hts _ zs_arr.2.2.2.2)⟩, fun q hq => ?_, fun E hE => va_Nw.of rfl (hts _ (zs_cast E hE)), fun E hE E2 hE2 hn => va_Nc.of (hfl _ (zs_not E hE E2 hE2 hn)), fun y hy => va_Nw.of rfl (hts _ (zs_decl y hy))⟩
  · intro k q hq
    match k, hq with
    | 0, hq => cases hq; exact hk0
    | 1, hq => cases hq; exact hk1
    | 2, hq => cases hq; exact hk2
    | 3, hq => cases hq; exact hk3
    | 4, hq => cases hq; exact hk4
    | 5, hq => cases hq; exact hk5
    | k + 6, hq => simp [vwCl] at hq
  · intro k q hq
    match k, hq with
    | 0, hq => cases hq; exact ⟨ha0, hb0⟩
    | 1, hq => cases hq; exact ⟨ha1, hb1⟩
    | 2, hq => cases hq; exact ⟨ha2, hb2⟩
    | 3, hq => cases hq; exact ⟨ha3, hb3⟩
    | 4, hq => cases hq; exact ⟨ha4, hb4⟩
    | k + 5, hq => simp [zTys] at hq
  · obtain ⟨a, c, cell, k, h1, -⟩ := Cond.exactly_spec (hfl _ (zs_ex q hq))
    exact ⟨a, vk_R.of (hts _ (zs_str q hq)) h1⟩
set_option maxHeartbeats 4000000 in
set_option maxRecDepth 100000 in
theorem zwhole {TZ : Type} {I : Nat → TZ → Nat → TZ → ZS → Prop} {O : Nat → TZ → List Int32 → Option (Int32 × TZ)} {OL : TZ → List Int32 → Option (Int64 × TZ)} {Kp : Int32 → TZ → Prop} {T0 : TZ} (hW : zOwed I O OL Kp T0) {pp : Program} {e : Env} {s : State} {m : MethodId} {below : List Frame} {meth : Method} {c : Code} (l : Launch) (hflags : l.flags = flags0) {b L : Nat} {xs : Nat → Int32} (hL : L ≤ 260) (C0 : lw_At pp s m meth c b L xs) : W pp l e room_1 s m #[Value.ref b] below meth c s.heap [] 0 0 (lw_Z below #[Value.ref b] s) (entryFrame m ([Value.ref b] : List Value).toArray 8) := by
  obtain ⟨hx, hb, hr, hml, hown, hts, hX, hbl, hlocks, hgv⟩ := C0
  have hfl9 : ∀ w ∈ zFl, w.before #[Value.ref b] s = true := flat_of_before _ hgv
  obtain ⟨D, hvm⟩ := zVm_start hts hfl9
  have hA : ∀ a : Nat, a < s.heap.size → ¬ zA s.heap.size a := fun a h => Nat.not_le.mpr h
  have hst : zSt s.heap.size s s.heap := ⟨vx_Zqof (hts _ zs_thr.1) (hts _ zs_thr.2.2) (hfl9 _ zs_isr.1) hA, vx_Zqof (hts _ zs_thr.2.1) (hts _ zs_thr.2.2) (hfl9 _ zs_isr.2) hA⟩
  have hlt : l.stackTraces = false := by
    unfold Launch.stackTraces
    rw [hflags]
    decide +kernel
  obtain ⟨G, hG⟩ : ∃ G : ZG, G = (pp, l, e, room_1, s, m, #[Value.ref b], below, meth, c, lw_Z below #[Value.ref b] s, D, s.heap.size) := ⟨_, rfl⟩
  have h0 : zFix G code RL 8 (some .boolean) room_1 := by
    rw [hG]
    exact ⟨hx, hb, hml, hown, fun w hw => hts w (List.mem_filter.mp hw).1, hvm, hst, hlocks, rfl, hr, Nat.le_refl _⟩
  have hfl : zFlag G := by
    rw [hG]
    exact hlt
  have hS : zScr G b L xs := by
    rw [hG]
    exact ⟨hX, hbl, hbl⟩
  have hend : ∀ (S : ZS) (ce sl : Nat) (lv : List (Nat × Value)), ce ≤ 600086 → sl ≤ 7301442 → zV G 8 S ce sl 196 lv [.int 1] True := by
    intro S ce sl lv hce hsl
    rw [hG]
    intro _ H locs ls h1 h2 h3
    refine va_forget (fun q hq => h2.2.2 q hq) ?_
    exact W.widen hce hsl (lw_ret hx hb hr hlocks dL_law_196)
  have hWW := hW
  obtain ⟨hO, hst0, hpr, -⟩ := hWW
  obtain ⟨S1, S2, e1, e2, hi⟩ := hst0 s.heap.size
  have J22 : ∀ p : Int32, p = 2 ∨ p = 3 ∨ p = 5 → zV G 8 ((fun _ => none), s.heap.size) 0 0 22 [(0, .ref b)] [.int p] True := by
    intro p hp
    obtain ⟨T1, T, q1, q2, q3, q4, hK⟩ := hpr p hp
    refine zr_istore_n [(0, .ref b), (1, .int p)] h0 dL_law_22 (by decide) rfl (n := 23) rfl ?_
    refine zr_new (fs := [.null, .null, .null, .null, .null, .null, .int 0, .int 0, .int 0]) (ce' := 1) (sl' := 9) h0 zcX5 znwX5 zw_15 zw_16 zw_1 rfl rfl (by decide) (by decide) dL_law_23 (n := 26) rfl ?_
    refine zr_dup h0 rfl dL_law_26 (n := 27) rfl ?_
    refine zr_call0 (res := none) (S' := S1) (st := [.ref s.heap.size]) (st' := [.ref s.heap.size]) (ce' := 11) (sl' := 466) (P' := True) (zk_I h0 (fun l D z0 => kX5_init l D z0 s.heap.size _ S1 e1) zw_17 zw_18 zw_1 zw_19 rfl zyX5_init (As := []) (st := [.ref s.heap.size]) rfl (by decide) rfl (Nat.le_of_ble_eq_true rfl) (by decide) dL_law_27) rfl rfl rfl (n := 30) rfl (fun h => h) ?_
    refine zr_astore_n [(0, .ref b), (1, .int p), (2, .ref s.heap.size)] h0 dL_law_30 (by decide) rfl (n := 31) rfl ?_
    refine zr_new (fs := [.null, .null, .null, .null, .null, .null, .int 0, .int 0, .int 0]) (ce' := 12) (sl' := 475) h0 zcX5 znwX5 zw_15 zw_16 zw_1 rfl rfl (by decide) (by decide) dL_law_31 (n := 34) rfl ?_
    refine zr_dup h0 rfl dL_law_34 (n := 35) rfl ?_
    refine zr_call0 (res := none) (S' := S2) (st := [.ref S1.2]) (st' := [.ref S1.2]) (ce' := 22) (sl' := 932) (P' := True) (zk_I h0 (fun l D z0 => kX5_init l D z0 S1.2 _ S2 e2) zw_17 zw_18 zw_1 zw_19 rfl zyX5_init (As := []) (st := [.ref S1.2]) rfl (by decide) rfl (Nat.le_of_ble_eq_true rfl) (by decide) dL_law_35) rfl rfl rfl (n := 38) rfl (fun h => h) ?_
    refine zr_astore_n [(0, .ref b), (1, .int p), (2, .ref s.heap.size), (3, .ref S1.2)] h0 dL_law_38 (by decide) rfl (n := 39) rfl ?_
    refine zv_fr (fun hfr1 => ?_)
    refine zr_aload_n h0 dL_law_39 rfl (n := 40) rfl ?_
    refine zr_iconst (5 : Int32) h0 (by decide) dL_law_40 (n := 41) rfl ?_
    obtain ⟨g1, w1, i1⟩ : ∃ h, fL_prime s.heap.size (5 : Int32) S2 = some ((2 : Int32), h) ∧ ∀ n9, zFr h n9 → I s.heap.size T1 S1.2 T0 (h, n9) := zwf_prime hO (v := (2, T1)) hi hfr1 (by rw [q1]; rfl)
    refine zr_callW 23 938 h0 hfl (fun l D z0 hlt => kL_prime l D z0 hlt s.heap.size (5 : Int32) S2 _ w1) zw_109 zw_110 zw_0 zw_111 zyL_prime (As := [.ref s.heap.size, .int (5 : Int32)]) (st := []) rfl (by decide) rfl (Nat.le_of_ble_eq_true rfl) (by decide) dL_law_41 rfl rfl (n := 44) rfl (fun n1 => ?_)
    refine zv_fr (fun hfr2 => ?_)
    have j1 := i1 n1 hfr2
    refine zr_iconst (2 : Int32) h0 (by decide) dL_law_44 (n := 45) rfl ?_
    refine zr_icmp_neN (tgt := 76) h0 rfl dL_law_45 (by decide) ?_
    refine zr_aload_n h0 dL_law_48 rfl (n := 49) rfl ?_
    refine zr_iload_n h0 dL_law_49 rfl (n := 50) rfl ?_
    obtain ⟨g2, w2, i2⟩ : ∃ h, fL_prime s.heap.size p (g1, n1) = some ((5 : Int32), h) ∧ ∀ n9, zFr h n9 → I s.heap.size T S1.2 T0 (h, n9) := zwf_prime hO (v := (5, T)) j1 hfr2 (by rw [q2]; rfl)
    refine zr_callW 24 944 h0 hfl (fun l D z0 hlt => kL_prime l D z0 hlt s.heap.size p (g1, n1) _ w2) zw_109 zw_110 zw_0 zw_111 zyL_prime (As := [.ref s.heap.size, .int p]) (st := []) rfl (by decide) rfl (Nat.le_of_ble_eq_true rfl) (by decide) dL_law_50 rfl rfl (n := 53) rfl (fun n2 => ?_)
    refine zv_fr (fun hfr3 => ?_)
    have j2 := i2 n2 hfr3
    refine zr_iconst (5 : Int32) h0 (by decide) dL_law_53 (n := 54) rfl ?_
    refine zr_icmp_neN (tgt := 76) h0 rfl dL_law_54 (by decide) ?_
    refine zr_aload_n h0 dL_law_57 rfl (n := 58) rfl ?_
    refine zr_iload_n h0 dL_law_58 rfl (n := 59) rfl ?_
    obtain ⟨g3, w3, i3⟩ : ∃ h, fL_prime S1.2 p (g2, n2) = some ((2 : Int32), h) ∧ ∀ n9, zFr h n9 → I S1.2 T s.heap.size T (h, n9) := zwf_prime hO (v := (2, T)) (hO.1 _ _ _ _ _ j2) hfr3 (by rw [q3]; rfl)
    refine zr_callW 25 950 h0 hfl (fun l D z0 hlt => kL_prime l D z0 hlt S1.2 p (g2, n2) _ w3) zw_109 zw_110 zw_0 zw_111 zyL_prime (As := [.ref S1.2, .int p]) (st := []) rfl (by decide) rfl (Nat.le_of_ble_eq_true rfl) (by decide) dL_law_59 rfl rfl (n := 62) rfl (fun n3 => ?_)
    refine zv_fr (fun hfr4 => ?_)
    have j3 := hO.1 _ _ _ _ _ (i3 n3 hfr4)
    refine zr_iconst (2 : Int32) h0 (by decide) dL_law_62 (n := 63) rfl ?_
    refine zr_icmp_neN (tgt := 76) h0 rfl dL_law_63 (by decide) ?_
    refine zr_aload_n h0 dL_law_66 rfl (n := 67) rfl ?_
    refine zr_iconst (4 : Int32) h0 (by decide) dL_law_67 (n := 68) rfl ?_
    obtain ⟨g4, w4, i4⟩ : ∃ h, fL_prime S1.2 (4 : Int32) (g3, n3) = some ((-99999999 : Int32), h) ∧ ∀ n9, zFr h n9 → I S1.2 T s.heap.size T (h, n9) := zwf_prime hO (v := (-99999999, T)) (hO.1 _ _ _ _ _ j3) hfr4 (by rw [q4]; rfl)
    refine zr_callW 26 956 h0 hfl (fun l D z0 hlt => kL_prime l D z0 hlt S1.2 (4 : Int32) (g3, n3) _ w4) zw_109 zw_110 zw_0 zw_111 zyL_prime (As := [.ref S1.2, .int (4 : Int32)]) (st := []) rfl (by decide) rfl (Nat.le_of_ble_eq_true rfl) (by decide) dL_law_68 rfl rfl (n := 71) rfl (fun n4 => ?_)
    refine zv_fr (fun hfr5 => ?_)
    have j4 := hO.1 _ _ _ _ _ (i4 n4 hfr5)
    refine zr_ldc h0 zw_202 dL_law_71 (n := 73) rfl ?_
    refine zr_icmp_eqY (tgt := 78) h0 rfl dL_law_73 (by decide) ?_
    refine zr_iconst (1 : Int32) h0 (by decide) dL_law_78 (n := 79) rfl ?_
    refine zr_istore [(0, .ref b), (1, .int p), (2, .ref s.heap.size), (3, .ref S1.2), (4, .int (1 : Int32))] h0 dL_law_79 (by decide) rfl (n := 81) rfl ?_
    exact zlaw_loop (T0 := T0) h0 hfl hS hL hW hend p 99 1 T (g4, n4) 26 956 (by decide) (by decide) (by decide) (by decide) hK j4
  have main : zV G 8 ((fun _ => none), s.heap.size) 0 0 0 [(0, .ref b)] [] True := by
    refine zr_iconst (2 : Int32) h0 (by decide) dL_law_0 (n := 1) rfl ?_
    refine zr_aload_n h0 dL_law_1 rfl (n := 2) rfl ?_
    refine zr_iconst (0 : Int32) h0 (by decide) dL_law_2 (n := 3) rfl ?_
    refine zr_callC 0 0 h0 hS (fun l D z0 => kL_cell l D z0 b L xs (0 : Int32) (by decide) hL _) zw_102 zw_103 zw_0 zw_104 zyL_cell (As := [.ref b, .int (0 : Int32)]) (st := [.int (2 : Int32)]) rfl (by decide) rfl (Nat.le_of_ble_eq_true rfl) ⟨by show 0 + 0 ≤ 600086; omega, by show 0 + 0 ≤ 7301442; omega⟩ dL_law_3 rfl rfl (n := 6) rfl ?_
    refine zr_iconst (3 : Int32) h0 (by decide) dL_law_6 (n := 7) rfl ?_
    generalize cellv L xs 0 = v
    rcases zlow3 v with h3 | h3 | h3
    · refine zr_call0 (res := some (.int (0 : Int32))) (P' := True) (zk_S h0 (fun l D z0 => kL_low l D z0 v (3 : Int32) _ (0 : Int32) h3) zw_105 zw_106 zw_0 zw_107 zyL_low (As := [.int v, .int (3 : Int32)]) (st := [.int (2 : Int32)]) rfl (by decide) rfl (Nat.le_of_ble_eq_true rfl) ⟨by show 0 + 0 ≤ 600086; omega, by show 0 + 0 ≤ 7301442; omega⟩ dL_law_7) rfl rfl rfl (n := 10) rfl (fun h => h) ?_
      refine zr_iadd h0 dL_law_10 (n := 11) rfl ?_
      refine zr_istore_n [(0, .ref b), (1, .int ((2 : Int32) + 0))] h0 dL_law_11 (by decide) rfl (n := 12) rfl ?_
      refine zr_iload_n h0 dL_law_12 rfl (n := 13) rfl ?_
      refine zr_iconst (4 : Int32) h0 (by decide) dL_law_13 (n := 14) rfl ?_
      refine zr_icmp_neY (tgt := 21) h0 (by decide) dL_law_14 (by decide) ?_
      refine zr_iload_n h0 dL_law_21 rfl (n := 22) rfl ?_
      exact zv_sub (lv' := [(0, .ref b)]) (J22 2 (by decide)) (zsub_of [0] rfl)
    · refine zr_call0 (res := some (.int (1 : Int32))) (P' := True) (zk_S h0 (fun l D z0 => kL_low l D z0 v (3 : Int32) _ (1 : Int32) h3) zw_105 zw_106 zw_0 zw_107 zyL_low (As := [.int v, .int (3 : Int32)]) (st := [.int (2 : Int32)]) rfl (by decide) rfl (Nat.le_of_ble_eq_true rfl) ⟨by show 0 + 0 ≤ 600086; omega, by show 0 + 0 ≤ 7301442; omega⟩ dL_law_7) rfl rfl rfl (n := 10) rfl (fun h => h) ?_
      refine zr_iadd h0 dL_law_10 (n := 11) rfl ?_
      refine zr_istore_n [(0, .ref b), (1, .int ((2 : Int32) + 1))] h0 dL_law_11 (by decide) rfl (n := 12) rfl ?_
      refine zr_iload_n h0 dL_law_12 rfl (n := 13) rfl ?_
      refine zr_iconst (4 : Int32) h0 (by decide) dL_law_13 (n := 14) rfl ?_
      refine zr_icmp_neY (tgt := 21) h0 (by decide) dL_law_14 (by decide) ?_
      refine zr_iload_n h0 dL_law_21 rfl (n := 22) rfl ?_
      exact zv_sub (lv' := [(0, .ref b)]) (J22 3 (by decide)) (zsub_of [0] rfl)
    · refine zr_call0 (res := some (.int (2 : Int32))) (P' := True) (zk_S h0 (fun l D z0 => kL_low l D z0 v (3 : Int32) _ (2 : Int32) h3) zw_105 zw_106 zw_0 zw_107 zyL_low (As := [.int v, .int (3 : Int32)]) (st := [.int (2 : Int32)]) rfl (by decide) rfl (Nat.le_of_ble_eq_true rfl) ⟨by show 0 + 0 ≤ 600086; omega, by show 0 + 0 ≤ 7301442; omega⟩ dL_law_7) rfl rfl rfl (n := 10) rfl (fun h => h) ?_
      refine zr_iadd h0 dL_law_10 (n := 11) rfl ?_
      refine zr_istore_n [(0, .ref b), (1, .int ((2 : Int32) + 2))] h0 dL_law_11 (by decide) rfl (n := 12) rfl ?_
      refine zr_iload_n h0 dL_law_12 rfl (n := 13) rfl ?_
      refine zr_iconst (4 : Int32) h0 (by decide) dL_law_13 (n := 14) rfl ?_
      refine zr_icmp_neN (tgt := 21) h0 (by decide) dL_law_14 (by decide) ?_
      refine zr_iconst (5 : Int32) h0 (by decide) dL_law_17 (n := 18) rfl ?_
      refine zr_goto (tgt := 22) h0 dL_law_18 (by decide) ?_
      exact zv_sub (lv' := [(0, .ref b)]) (J22 5 (by decide)) (zsub_of [0] rfl)
  have hl := lv_entry ([.ref b]) (n := 8) (Nat.le_of_ble_eq_true rfl)
  rw [lg_entry_eq]
  rw [hG] at main
  have hhp : zHp D s.heap.size ((fun _ => none), s.heap.size) s.heap := ⟨⟨fun a e h => (by cases h), rfl⟩, fun a e h => (by cases h), Nat.le_refl _⟩
  exact main trivial s.heap [] _ hhp va_S.rf hl
