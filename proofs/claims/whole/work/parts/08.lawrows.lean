/-! THE LAW: wrappers that catch, and rows whose outcome is known -/
section
variable {G : ZG} {cc : ByteArray} {own : String} {nL : Nat} {ret : Option FieldType} {rm : Room} {S : ZS} {ce sl pc n : Nat} {lv lv' : List (Nat × Value)} {st : List Value} {P : Prop}
def zFlag (G : ZG) : Prop := match G with
  | (p, l, e, R, s, m, args, below, meth, c, Q, D, z0) => l.stackTraces = false
def zcatchN (E : String) (h : ZH) : Nat → List String → Option (Int32 × ZH)
  | _, [] => none
  | k, n :: r => if E = n then some (Int32.ofNat k, h) else zcatchN E h (k + 1) r
def zcatch {α : Type} (x : Option (α ⊕ ZX)) (names : List String) (o : α → Option (Int32 × ZH)) : Option (Int32 × ZH) := match x with
  | none => none
  | some (.inl y) => o y
  | some (.inr z) => zcatchN z.1 z.2 1 names
theorem zcatchN_spec (E : String) (h : ZH) : ∀ (names : List String) (k : Nat), zcatchN E h k names = none ∨ ∃ j, names[j]? = some E ∧ (∀ i nm, i < j → names[i]? = some nm → E ≠ nm) ∧ zcatchN E h k names = some (Int32.ofNat (k + j), h)
  | [], k => Or.inl rfl
  | nm :: r, k => by
    unfold zcatchN
    by_cases hE : E = nm
    · rw [if_pos hE]
      exact Or.inr ⟨0, by rw [hE]; rfl, fun i nm hi => absurd hi (Nat.not_lt_zero _), rfl⟩
    · rw [if_neg hE]
      rcases zcatchN_spec E h r (k + 1) with h1 | ⟨j, h1, h2, h3⟩
      · exact Or.inl h1
      · refine Or.inr ⟨j + 1, by simpa using h1, fun i nm2 hi hn => ?_, by rw [h3]; congr 3; omega⟩
        cases i with
        | zero =>
          have : nm = nm2 := by simpa using hn
          rw [← this]; exact hE
        | succ i => exact h2 i nm2 (by omega) (by simpa using hn)
def zTabIs (G : ZG) (hh : List (Nat × Nat × Nat × Nat)) : Prop := match G with
  | (p, l, e, R, s, m, args, below, meth, c, Q, D, z0) => c.exceptionTable.toList = tableOf hh ∧ l.stackTraces = false
theorem zTabIs.fl {hh : List (Nat × Nat × Nat × Nat)} (h : zTabIs G hh) : zFlag G := by
  obtain ⟨p, l, e, R, s, m, args, below, meth, c, Q, D, z0⟩ := G
  exact h.2
def zHok (own : String) (pc : Nat) : List (Nat × Nat × Nat × Nat) → List String → Prop
  | q :: r, nm :: t => (covers ⟨q.1, q.2.1, q.2.2.1, q.2.2.2⟩ pc = true ∧ q.2.2.2 ≠ 0 ∧ Cond.classLink own q.2.2.2 nm ∈ zTbl ∧ nm ∈ zExs) ∧ zHok own pc r t
  | [], [] => True
  | _, _ => False
theorem zHok_at {own : String} {pc : Nat} : ∀ {hh : List (Nat × Nat × Nat × Nat)} {names : List String}, zHok own pc hh names → hh.length = names.length ∧ ∀ (j : Nat) (q : Nat × Nat × Nat × Nat) (nm : String), hh[j]? = some q → names[j]? = some nm → covers ⟨q.1, q.2.1, q.2.2.1, q.2.2.2⟩ pc = true ∧ q.2.2.2 ≠ 0 ∧ Cond.classLink own q.2.2.2 nm ∈ zTbl ∧ nm ∈ zExs
  | [], [], _ => ⟨rfl, fun j q nm h => by simp at h⟩
  | q0 :: r, n0 :: t, h => by
    obtain ⟨h1, h2⟩ := zHok_at h.2
    refine ⟨by simp [h1], fun j q nm a b => ?_⟩
    cases j with
    | zero =>
      have e1 : q0 = q := by simpa using a
      have e2 : n0 = nm := by simpa using b
      subst e1; subst e2
      exact h.1
    | succ j => exact h2 j q nm (by simpa using a) (by simpa using b)
  | [], _ :: _, h => h.elim
  | _ :: _, [], h => h.elim
theorem zk_VT0 {y : MethodName} {bytes : ByteArray} {maxL idx k : Nat} {retY : Option FieldType} {rmY : Room} {As stk : List Value} {R9 : (Option Value × ZS) ⊕ ZX} {a ci : Nat} {R8 : String} {T : u_T} {N : Nat} {ty : Nat → FieldType} (h0 : zFix G cc own nL ret rm) (hcC : zCls ci R8 T N ty) (ha : ∃ fs, S.1 a = some (.inr (ci, fs))) (hM : ∀ l D z0, l.stackTraces = false → zMetT l D z0 y bytes maxL retY rmY (.ref a :: As) S R9) (hnt : zFlag G) (w1 : Cond.methodLink own idx y ∈ zTbl) (w2 : Cond.instanceMethod y ∈ zTbl) (w5 : Cond.selects y.cls y y ∈ zTbl) (w3 : Cond.initialized y.cls ∈ zTbl) (w4 : Cond.code y bytes maxL retY ∈ zTbl) (hyc : y.cls = R8) (hy : zyOK y k) (hk : As.length = k) (hR : rmY.frames + 1 ≤ rm.frames ∧ 8 + (maxL + 11) + rmY.locals ≤ rm.locals) (hstk : stk = As.reverse ++ .ref a :: st) (hcat : (st.map fun v => v.category).sum ≤ 8) (hc : ce + rmY.cells ≤ rm.cells ∧ sl + rmY.slots ≤ rm.slots) (d : decode cc pc = .ok (.invokevirtual idx, 3)) : zRunT G nL S ce sl pc lv stk st rmY.cells rmY.slots R9 := by
  obtain ⟨p, l, e, R, s, m, args, below, meth, c, Q, D, z0⟩ := G
  obtain ⟨hx, hb, hml, hown, hts, hvm, hst, -, rfl, -⟩ := h0
  subst hstk
  subst hyc
  obtain ⟨fs, hs⟩ := ha
  obtain ⟨hcl, -⟩ := hcC
  intro H locs ls h1 h2 h3
  obtain ⟨cell, g1, g2, g3, -⟩ := zobj h1 hs hcl
  exact ⟨_, vx_runV (As := As) (rest := st) (C := y.cls) ⟨hx, hb, hml, hown, hts⟩ (hM l D z0 hnt) (cwV k hts (zgoodL (pre := [.methodLink own idx y, .instanceMethod y, .selects y.cls y y, .initialized y.cls]) (fun w h => by simp only [List.mem_cons, List.not_mem_nil, or_false] at h; rcases h with rfl | rfl | rfl | rfl <;> assumption) w4) rfl rfl rfl ⟨rfl, hy⟩ hR) ⟨zW.blind, ⟨cell, g1, by rw [g3]; rfl, by rw [g2]; exact (hvm.1.1 ci _ hcl).2.1⟩, fun U hU hW => ⟨rfl, zW_in hvm hst h1 h2 hU hW⟩⟩ rfl hk h3.1 rfl (by simpa [JFrame.monitorRoom] using hcat) d hc⟩
theorem zr_cTC {C : Option (Int32 × ZH) → Prop} (hC : ¬ C none) {α : Type} {f : Option ((α × ZS) ⊕ ZX)} {o : α × ZS → Option (Int32 × ZH)} (conv : α → Option Value) (names : List String) {hh : List (Nat × Nat × Nat × Nat)} {mc ms : Nat} {stk : List Value} (ce' sl' : Nat) (h0 : zFix G cc own nL ret rm) (htab : zTabIs G hh) (hok : zHok own pc hh names) (he : ∀ x, f = some x → zRunT G nL S ce sl pc lv stk st mc ms (x.map (fun y => (conv y.1, y.2)) id)) (hce : ce + mc = ce') (hsl : sl + ms = sl') (hn : pc + 3 = n)
    (kx : ∀ (j : Nat) (q : Nat × Nat × Nat × Nat) (E : String) (h : ZH) (n9 : Nat) (a : Nat), hh[j]? = some q → names[j]? = some E → zV G nL (h, n9) ce' sl' q.2.2.1 lv [.ref a] (C (some (Int32.ofNat (1 + j), h))))
    (k : ∀ y, zV G nL y.2 ce' sl' n lv ((conv y.1).toList ++ st) (C (o y))) : zV G nL S ce sl pc lv stk (C (zcatch f names o)) := by
  cases f with
  | none => exact zv_imp (fun h => hC h) zv_false
  | some x =>
    have he := he x rfl
    obtain ⟨p, l, e, R, s, m, args, below, meth, c, Q, D, z0⟩ := G
    obtain ⟨hx, hb, hml, hown, hts, hvm, hst, hlk, rfl, hret, -⟩ := h0
    subst hce
    subst hsl
    subst hn
    intro hP H locs ls h1 h2 h3
    obtain ⟨av, hr⟩ := he H locs ls h1 h2 h3
    intro T hT X
    rcases hr T hT X with ⟨v, st₀, t, T', L, h0', X', hL, e1, e2, ⟨v9, S9, hR, hv, hw, hz, hk⟩, stp⟩ | ⟨q, st₀, t, T', L, E, ce9, h0', X', hL, e1, e2, ⟨E0, h, hR, hE, ⟨n9, hw⟩, hz, hk⟩, hce9, hcv, hcl, stp⟩
    · cases hv
      rw [h0'] at hz hk
      cases x with
      | inr z => cases hR
      | inl y =>
        have hR2 : (conv y.1, y.2) = (v, S9) := Sum.inl.inj hR
        cases hR2
        obtain ⟨t2, a1, b1⟩ := k y hP T'.heap (locs ++ L) ls (by rw [e1]; exact hw) ⟨Nat.le_trans h2.1 (by rw [e1]; exact hz), fun q g1 g2 => by rw [e1, hk q (Nat.lt_of_lt_of_le g1 h2.1) g2]; exact h2.2.1 q g1 g2, fun q hq => by
            rcases List.mem_append.mp hq with h | h
            · exact h2.2.2 q h
            · exact hL q h⟩ h3 T' rfl X'
        exact ⟨t2, stp t2 a1, b1⟩
    · rw [h0'] at hz hk
      cases x with
      | inl y => cases hR
      | inr z =>
        have hR2 : z = (E0, h) := Sum.inr.inj hR
        subst hR2
        subst hE
        have hP2 : C (zcatchN E h 1 names) := hP
        rcases zcatchN_spec E h names 1 with h9 | ⟨j, hj, hjp, h9⟩
        · rw [h9] at hP2; exact absurd hP2 hC
        rw [h9] at hP2
        obtain ⟨hlen, hat⟩ := zHok_at hok
        have hjl : j < hh.length := by rw [hlen]; exact (List.getElem?_eq_some_iff.mp hj).1
        have hqj : hh[j]? = some hh[j] := List.getElem?_eq_getElem hjl
        obtain ⟨c1, c2, c3, c4⟩ := hat j _ E hqj hj
        rw [← e1] at hce9
        have h2' : va_S (zA z0) s.heap T'.heap (locs ++ L) := ⟨Nat.le_trans h2.1 (by rw [e1]; exact hz), fun q g1 g2 => by rw [e1, hk q (Nat.lt_of_lt_of_le g1 h2.1) g2]; exact h2.2.1 q g1 g2, fun q hq => by
            rcases List.mem_append.mp hq with h | h
            · exact h2.2.2 q h
            · exact hL q h⟩
        have hsplit : c.exceptionTable.toList = (tableOf (hh.take j)) ++ (⟨hh[j].1, hh[j].2.1, hh[j].2.2.1, hh[j].2.2.2⟩ : ExceptionTableEntry) :: tableOf (hh.drop (j + 1)) := by
          have hd9 : hh.drop j = hh[j] :: hh.drop (j + 1) := List.drop_eq_getElem_cons hjl
          have e9 : tableOf hh = tableOf (hh.take j ++ hh.drop j) := by rw [List.take_append_drop]
          rw [htab.1, e9, hd9]
          unfold tableOf
          rw [List.map_append, List.map_cons]
        have K : vx_W p l e R s m args below meth c T'.heap (locs ++ L) (ce + mc) (sl + ms) Q (F0 m pc ls st) q := by
          refine vx_catch (own := own) (name := E) hown _ _ _ hsplit (fun z hz9 => ?_) c1 c2 (hts _ c3) (va_Nw.use rfl (hvm.2.2.2.2.1 E c4)) hce9 hcv hcl ?_
          · obtain ⟨q9, hq9, rfl⟩ := List.mem_map.mp hz9
            obtain ⟨i, hi⟩ := List.getElem?_of_mem hq9
            have hij : i < j := by
              have := (List.getElem?_eq_some_iff.mp hi).1
              rw [List.length_take] at this
              omega
            rw [List.getElem?_take_of_lt hij] at hi
            have hil : i < names.length := by rw [← hlen]; exact (List.getElem?_eq_some_iff.mp hi).1
            obtain ⟨d1, d2, d3, d4⟩ := hat i q9 names[i] hi (List.getElem?_eq_getElem hil)
            exact Or.inr ⟨d2, names[i], hts _ d3, hvm.2.2.2.2.2.1 E c4 _ d4 (hjp i _ hij (List.getElem?_eq_getElem hil))⟩
          · exact kx j _ E h n9 q hqj hj hP2 T'.heap _ ls (by rw [e1]; exact hw) h2' h3
        obtain ⟨t2, a1, b1⟩ := K T' rfl X'
        exact ⟨t2, Steps.trans stp a1, b1⟩
def zMetW (l : Launch) (D : ZD) (z0 : Nat) (y : MethodName) (cc : ByteArray) (nL : Nat) (hh : List (Nat × Nat × Nat × Nat)) (rm : Room) (av : List Value) (S : ZS) (k : Int32) (h : ZH) : Prop :=
  vx_Met l y (Cond.codeWith y cc nL (some .int) hh :: zTbl) rm (va_Pc av (zW D z0 S)) (fun _ st oc t => oc = .returned (some (.int k)) ∧ (∃ n, zHp D z0 (h, n) t.heap) ∧ va_F (zA z0) st t) (fun _ _ _ => False) rm.cells rm.slots (zA z0)
theorem zMetW_of {l : Launch} {D : ZD} {z0 : Nat} {y : MethodName} {cc : ByteArray} {nL : Nat} {hh : List (Nat × Nat × Nat × Nat)} {rm : Room} {av : List Value} {S : ZS} {k : Int32} {h : ZH} {P : Prop} (hlt : l.stackTraces = false) (hy : plainName y.cls = true) (hn : (lg_sl av).length ≤ nL) (w : ∀ G : ZG, zFix G cc y.cls nL (some .int) rm → zTabIs G hh → (∀ n, zEndT G (some (.int k)) (h, n) rm) → zV G nL S 0 0 0 (lv_args 0 av) [] P) (hP : P) : zMetW l D z0 y cc nL hh rm av S k h := by
  refine vx_ofWH (cc := cc) (maxL := nL) (ret := some .int) (hh := hh) hy rfl ?_
  intro p e s m args below meth c s₁ B hml hv
  obtain ⟨rfl, hvm, hhp, hst⟩ := hv
  have hts := atoms_spec (ws := Cond.codeWith y cc nL (some .int) hh :: zTbl) B.pre
  have hown : s.vm.findClass y.cls = some m.cls := findClass_of_methodNamed B.named
  have htab := vx_table (x := y) B (hts _ List.mem_cons_self)
  have hl := lv_entry av (n := nL) hn
  rw [lg_entry_eq]
  exact w (p, l, e, rm, s, m, av.toArray, below, meth, c, vx_MQ below (fun _ st oc t => oc = .returned (some (.int k)) ∧ (∃ n, zHp D z0 (h, n) t.heap) ∧ va_F (zA z0) st t) (fun _ _ _ => False) av.toArray s rm.cells rm.slots (zA z0), D, z0) ⟨B.exec, B.bytes, hml, hown, fun w hw => hts w (List.mem_cons_of_mem _ hw), hvm, hst, B.notSynchronized, rfl, B.returns, by rw [hhp.1.2]; exact hhp.2.2⟩ ⟨htab, hlt⟩ (fun n => ⟨_, _, rfl, fun t h1 h2 => ⟨rfl, ⟨n, h1⟩, h2⟩⟩) hP s.heap [] _ hhp va_S.rf hl
/-- the call of a wrapper -/
theorem zr_callW {y : MethodName} {bytes : ByteArray} {maxL idx k9 : Nat} {hh : List (Nat × Nat × Nat × Nat)} {rmY : Room} {As stk : List Value} {k : Int32} {h : ZH} (ce' sl' : Nat) (h0 : zFix G cc own nL ret rm) (hlt : zFlag G) (hM : ∀ l D z0, l.stackTraces = false → zMetW l D z0 y bytes maxL hh rmY As S k h) (w1 : Cond.methodLink own idx y ∈ zTbl) (w2 : Cond.static y ∈ zTbl) (w3 : Cond.initialized y.cls ∈ zTbl) (w4 : Cond.codeWith y bytes maxL (some .int) hh ∈ zTbl) (hy : zyOK y k9) (hk : As.length = k9) (hR : rmY.frames + 1 ≤ rm.frames ∧ 8 + (maxL + 11) + rmY.locals ≤ rm.locals) (hstk : stk = As.reverse ++ st) (hcat : (st.map fun v => v.category).sum ≤ 8) (hc : ce + rmY.cells ≤ rm.cells ∧ sl + rmY.slots ≤ rm.slots) (d : decode cc pc = .ok (.invokestatic idx, 3)) (hce : ce + rmY.cells = ce') (hsl : sl + rmY.slots = sl') (hn : pc + 3 = n) (kk : ∀ n9, zV G nL (h, n9) ce' sl' n lv (.int k :: st) P) : zV G nL S ce sl pc lv stk P := by
  obtain ⟨p, l, e, R, s, m, args, below, meth, c, Q, D, z0⟩ := G
  obtain ⟨hx, hb, hml, hown, hts, hvm, hst, -, rfl, -⟩ := h0
  subst hstk
  subst hce
  subst hsl
  subst hn
  intro hP H locs ls h1 h2 h3
  have hr := vx_runSX (p := p) (l := l) (e := e) (R := R) (s := s) (m := m) (args := args) (below := below) (meth := meth) (c := c) (H := H) (locs := locs) (cells := ce) (slots := sl) (As := As) (rest := st) (g := F0 m pc ls (As.reverse ++ st)) ⟨hx, hb, hml, hown, hts⟩ (hM l D z0 hlt) (vx_cwSW k9 hts (zgoodL (pre := [.methodLink own idx y, .static y, .initialized y.cls]) (fun w h => by simp only [List.mem_cons, List.not_mem_nil, or_false] at h; rcases h with rfl | rfl | rfl <;> assumption) w4) rfl rfl rfl hy hR) ⟨zW.blind, fun U hU hW => ⟨rfl, zW_in hvm hst h1 h2 hU hW⟩⟩ rfl hk h3.1 rfl (by simpa [JFrame.monitorRoom] using hcat) d hc
  intro T hT X
  rcases hr T hT X with ⟨v, st₀, t, T', L, h0', X', hL, e1, e2, ⟨hv, ⟨n9, hw⟩, hz, hk⟩, stp⟩ | ⟨q, st₀, t, T', L, E, ce9, h0', X', hL, e1, e2, hF, -⟩
  · cases hv
    rw [h0'] at hz hk
    obtain ⟨t2, a1, b1⟩ := kk n9 hP T'.heap (locs ++ L) ls (by rw [e1]; exact hw) ⟨Nat.le_trans h2.1 (by rw [e1]; exact hz), fun q g1 g2 => by rw [e1, hk q (Nat.lt_of_lt_of_le g1 h2.1) g2]; exact h2.2.1 q g1 g2, fun q hq => by
        rcases List.mem_append.mp hq with h | h
        · exact h2.2.2 q h
        · exact hL q h⟩ h3 T' rfl X'
    exact ⟨t2, stp t2 a1, b1⟩
  · exact hF.elim
-- rows whose outcome is known
theorem zr_laloadK {a : Nat} {i : Int32} {v : Int64} (h0 : zFix G cc own nL ret rm) (hz : zaJ S a i = some v) (d : decode cc pc = .ok (.laload, 1)) (hn : pc + 1 = n) (k : zV G nL S ce sl n lv (.long v :: st) P) : zV G nL S ce sl pc lv (.int i :: .ref a :: st) P := by
  by_cases hP : P
  · have h1 := zr_laload (a := a) (i := i) (G := G) (nL := nL) (S := S) (ce := ce) (sl := sl) (lv := lv) (st := st) (fun o : Option Unit => o = some ()) (fun h => nomatch h) (o := fun w => if w = v then some () else none) h0 d hn (fun w => by
      by_cases hw : w = v
      · subst hw
        exact zv_imp (fun _ => hP) k
      · exact zv_imp (fun h => by rw [if_neg hw] at h; cases h) zv_false)
    exact zv_imp (fun _ => by rw [hz]; simp) h1
  · exact zv_imp (fun h => hP h) zv_false
theorem zr_icmp_eqY {x y : Int32} {off : Int} {tgt : Nat} (h0 : zFix G cc own nL ret rm) (hc : x = y) (d : decode cc pc = .ok (.if_icmp .eq off, 3)) (ht : (pc : Int) + off = (tgt : Int)) (k : zV G nL S ce sl tgt lv st P) : zV G nL S ce sl pc lv (.int y :: .int x :: st) P := by
  obtain ⟨p, l, e, R, s, m, args, below, meth, c, Q, D, z0⟩ := G
  obtain ⟨hx, hb, -⟩ := h0
  intro hP H locs ls h1 h2 h3
  exact lv_icmp_eq hx hb d ht (fun h => k hP H locs ls h1 h2 h3) (fun h => absurd hc h)
theorem zr_icmp_gtY {x y : Int32} {off : Int} {tgt : Nat} (h0 : zFix G cc own nL ret rm) (hc : y < x) (d : decode cc pc = .ok (.if_icmp .gt off, 3)) (ht : (pc : Int) + off = (tgt : Int)) (k : zV G nL S ce sl tgt lv st P) : zV G nL S ce sl pc lv (.int y :: .int x :: st) P := by
  obtain ⟨p, l, e, R, s, m, args, below, meth, c, Q, D, z0⟩ := G
  obtain ⟨hx, hb, -⟩ := h0
  intro hP H locs ls h1 h2 h3
  exact lv_icmp_gt hx hb d ht (fun h => k hP H locs ls h1 h2 h3) (fun h => absurd hc h)
theorem zr_icmp_gtN {x y : Int32} {off : Int} {tgt : Nat} (h0 : zFix G cc own nL ret rm) (hc : ¬ y < x) (d : decode cc pc = .ok (.if_icmp .gt off, 3)) (ht : (pc : Int) + off = (tgt : Int)) (k : zV G nL S ce sl (pc + 3) lv st P) : zV G nL S ce sl pc lv (.int y :: .int x :: st) P := by
  obtain ⟨p, l, e, R, s, m, args, below, meth, c, Q, D, z0⟩ := G
  obtain ⟨hx, hb, -⟩ := h0
  intro hP H locs ls h1 h2 h3
  exact lv_icmp_gt hx hb d ht (fun h => absurd h hc) (fun h => k hP H locs ls h1 h2 h3)
theorem zr_if_neY {x : Int32} {off : Int} {tgt : Nat} (h0 : zFix G cc own nL ret rm) (hc : ¬ x = 0) (d : decode cc pc = .ok (.ifCond .ne off, 3)) (ht : (pc : Int) + off = (tgt : Int)) (k : zV G nL S ce sl tgt lv st P) : zV G nL S ce sl pc lv (.int x :: st) P := by
  obtain ⟨p, l, e, R, s, m, args, below, meth, c, Q, D, z0⟩ := G
  obtain ⟨hx, hb, -⟩ := h0
  intro hP H locs ls h1 h2 h3
  exact lv_if_ne hx hb d ht (fun h => k hP H locs ls h1 h2 h3) (fun h => absurd h hc)
theorem zr_if_neN {x : Int32} {off : Int} {tgt : Nat} (h0 : zFix G cc own nL ret rm) (hc : x = 0) (d : decode cc pc = .ok (.ifCond .ne off, 3)) (ht : (pc : Int) + off = (tgt : Int)) (k : zV G nL S ce sl (pc + 3) lv st P) : zV G nL S ce sl pc lv (.int x :: st) P := by
  obtain ⟨p, l, e, R, s, m, args, below, meth, c, Q, D, z0⟩ := G
  obtain ⟨hx, hb, -⟩ := h0
  intro hP H locs ls h1 h2 h3
  exact lv_if_ne hx hb d ht (fun h => absurd hc h) (fun h => k hP H locs ls h1 h2 h3)
theorem zr_if_eqY {x : Int32} {off : Int} {tgt : Nat} (h0 : zFix G cc own nL ret rm) (hc : x = 0) (d : decode cc pc = .ok (.ifCond .eq off, 3)) (ht : (pc : Int) + off = (tgt : Int)) (k : zV G nL S ce sl tgt lv st P) : zV G nL S ce sl pc lv (.int x :: st) P := by
  obtain ⟨p, l, e, R, s, m, args, below, meth, c, Q, D, z0⟩ := G
  obtain ⟨hx, hb, -⟩ := h0
  intro hP H locs ls h1 h2 h3
  exact lv_if_eq hx hb d ht (fun h => k hP H locs ls h1 h2 h3) (fun h => absurd hc h)
theorem zr_if_eqN {x : Int32} {off : Int} {tgt : Nat} (h0 : zFix G cc own nL ret rm) (hc : ¬ x = 0) (d : decode cc pc = .ok (.ifCond .eq off, 3)) (ht : (pc : Int) + off = (tgt : Int)) (k : zV G nL S ce sl (pc + 3) lv st P) : zV G nL S ce sl pc lv (.int x :: st) P := by
  obtain ⟨p, l, e, R, s, m, args, below, meth, c, Q, D, z0⟩ := G
  obtain ⟨hx, hb, -⟩ := h0
  intro hP H locs ls h1 h2 h3
  exact lv_if_eq hx hb d ht (fun h => absurd h hc) (fun h => k hP H locs ls h1 h2 h3)
/-- the script's cells -/
def zScr (G : ZG) (b L : Nat) (xs : Nat → Int32) : Prop := match G with
  | (p, l, e, R, s, m, args, below, meth, c, Q, D, z0) => va_X b L xs s s.heap ∧ b < s.heap.size ∧ b < z0
theorem zr_sld {b L : Nat} {xs : Nat → Int32} {i : Int32} (h0 : zFix G cc own nL ret rm) (hS : zScr G b L xs) (hin : vp_in i L) (d : decode cc pc = .ok (.iaload, 1)) (hn : pc + 1 = n) (k : zV G nL S ce sl n lv (.int (xs i.toNatClampNeg) :: st) P) : zV G nL S ce sl pc lv (.int i :: .ref b :: st) P := by
  obtain ⟨p, l, e, R, s, m, args, below, meth, c, Q, D, z0⟩ := G
  obtain ⟨hx, hb, -⟩ := h0
  subst hn
  intro hP H locs ls h1 h2 h3
  exact va_sld (A := zA z0) hx hb hS.1 hS.2.1 (Nat.not_le.mpr hS.2.2) h2 hin d (k hP H locs ls h1 h2 h3)
theorem zr_slen {b L : Nat} {xs : Nat → Int32} (h0 : zFix G cc own nL ret rm) (hS : zScr G b L xs) (d : decode cc pc = .ok (.arraylength, 1)) (hn : pc + 1 = n) (k : zV G nL S ce sl n lv (.int (Int32.ofNat L) :: st) P) : zV G nL S ce sl pc lv (.ref b :: st) P := by
  obtain ⟨p, l, e, R, s, m, args, below, meth, c, Q, D, z0⟩ := G
  obtain ⟨hx, hb, -⟩ := h0
  subst hn
  intro hP H locs ls h1 h2 h3
  exact va_slen (A := zA z0) hx hb hS.1 hS.2.1 (Nat.not_le.mpr hS.2.2) h2 d (k hP H locs ls h1 h2 h3)
theorem zr_switchK (tgt : Nat) {x : Int32} {dflt hi : Int} {offs : Array Int} {len : Nat} (j : Nat) (h0 : zFix G cc own nL ret rm) (hj : x.toInt = (j : Int)) (d : decode cc pc = .ok (.tableswitch dflt 0 hi offs, len)) (hhi : (j : Int) ≤ hi) (ho : (match offs[j]? with | some off => decide ((pc : Int) + off = (tgt : Int)) | none => false) = true) (k : zV G nL S ce sl tgt lv st P) : zV G nL S ce sl pc lv (.int x :: st) P := by
  obtain ⟨p, l, e, R, s, m, args, below, meth, c, Q, D, z0⟩ := G
  obtain ⟨hx, hb, -⟩ := h0
  intro hP H locs ls h1 h2 h3
  cases hof : offs[j]? with
  | none => rw [hof] at ho; cases ho
  | some off =>
    rw [hof] at ho
    have h10 : (pc : Int) + off = (tgt : Int) := of_decide_eq_true ho
    exact lv_tableIn hx hb d (by rw [hj]; omega) (by rw [hj]; omega) (by rw [hj]; simpa using hof) h10 (k hP H locs ls h1 h2 h3)
theorem zr_switchD (tgt : Nat) {x : Int32} {dflt hi : Int} {offs : Array Int} {len : Nat} (h0 : zFix G cc own nL ret rm) (hj : x.toInt < 0 ∨ hi < x.toInt) (d : decode cc pc = .ok (.tableswitch dflt 0 hi offs, len)) (ho : (pc : Int) + dflt = (tgt : Int)) (k : zV G nL S ce sl tgt lv st P) : zV G nL S ce sl pc lv (.int x :: st) P := by
  obtain ⟨p, l, e, R, s, m, args, below, meth, c, Q, D, z0⟩ := G
  obtain ⟨hx, hb, -⟩ := h0
  intro hP H locs ls h1 h2 h3
  exact lv_tableOut hx hb d hj ho (k hP H locs ls h1 h2 h3)
end
theorem zw_106 : Cond.classLink RL 13 "java/lang/IllegalArgumentException" ∈ zTbl := zin_t 106 (by decide +kernel) rfl
theorem zw_107 : Cond.classLink RL 15 "java/lang/IllegalStateException" ∈ zTbl := zin_t 107 (by decide +kernel) rfl
theorem zw_108 : Cond.methodLink RL 7 yX5_prime ∈ zTbl := zin_t 108 (by decide +kernel) rfl
theorem zw_109 : Cond.instanceMethod yX5_prime ∈ zTbl := zin_t 109 (by decide +kernel) rfl
theorem zw_110 : Cond.selects yX5_prime.cls yX5_prime yX5_prime ∈ zTbl := zin_t 110 (by decide +kernel) rfl
theorem zw_111 : Cond.code yX5_prime cX5_prime 3 (some .int) ∈ zTbl := zin_t 111 (by decide +kernel) rfl
theorem zw_199 : Cond.methodLink RL 17 yX5_cube ∈ zTbl := zin_t 199 (by decide +kernel) rfl
theorem zw_200 : Cond.instanceMethod yX5_cube ∈ zTbl := zin_t 200 (by decide +kernel) rfl
theorem zw_201 : Cond.selects yX5_cube.cls yX5_cube yX5_cube ∈ zTbl := zin_t 201 (by decide +kernel) rfl
theorem zw_202 : Cond.code yX5_cube cX5_cube 4 (some .int) ∈ zTbl := zin_t 202 (by decide +kernel) rfl
theorem zw_247 : Cond.methodLink RL 21 yX5_matrices ∈ zTbl := zin_t 247 (by decide +kernel) rfl
theorem zw_248 : Cond.instanceMethod yX5_matrices ∈ zTbl := zin_t 248 (by decide +kernel) rfl
theorem zw_249 : Cond.selects yX5_matrices.cls yX5_matrices yX5_matrices ∈ zTbl := zin_t 249 (by decide +kernel) rfl
theorem zw_250 : Cond.code yX5_matrices cX5_matrices 8 (some .int) ∈ zTbl := zin_t 250 (by decide +kernel) rfl
theorem zw_264 : Cond.methodLink RL 24 yX5_polynomials ∈ zTbl := zin_t 264 (by decide +kernel) rfl
theorem zw_265 : Cond.instanceMethod yX5_polynomials ∈ zTbl := zin_t 265 (by decide +kernel) rfl
theorem zw_266 : Cond.selects yX5_polynomials.cls yX5_polynomials yX5_polynomials ∈ zTbl := zin_t 266 (by decide +kernel) rfl
theorem zw_267 : Cond.code yX5_polynomials cX5_polynomials 6 (some .int) ∈ zTbl := zin_t 267 (by decide +kernel) rfl
theorem zw_271 : Cond.methodLink RL 28 yX5_group ∈ zTbl := zin_t 271 (by decide +kernel) rfl
theorem zw_272 : Cond.instanceMethod yX5_group ∈ zTbl := zin_t 272 (by decide +kernel) rfl
theorem zw_273 : Cond.selects yX5_group.cls yX5_group yX5_group ∈ zTbl := zin_t 273 (by decide +kernel) rfl
theorem zw_274 : Cond.code yX5_group cX5_group 5 (some .int) ∈ zTbl := zin_t 274 (by decide +kernel) rfl
theorem zw_281 : Cond.classLink RL 35 "java/lang/IndexOutOfBoundsException" ∈ zTbl := zin_t 281 (by decide +kernel) rfl
theorem zw_282 : Cond.methodLink RL 31 yX5_set ∈ zTbl := zin_t 282 (by decide +kernel) rfl
theorem zw_283 : Cond.instanceMethod yX5_set ∈ zTbl := zin_t 283 (by decide +kernel) rfl
theorem zw_284 : Cond.selects yX5_set.cls yX5_set yX5_set ∈ zTbl := zin_t 284 (by decide +kernel) rfl
theorem zw_285 : Cond.code yX5_set cX5_set 8 (some .int) ∈ zTbl := zin_t 285 (by decide +kernel) rfl
theorem zw_324 : Cond.methodLink RL 37 yX5_move ∈ zTbl := zin_t 324 (by decide +kernel) rfl
theorem zw_325 : Cond.instanceMethod yX5_move ∈ zTbl := zin_t 325 (by decide +kernel) rfl
theorem zw_326 : Cond.selects yX5_move.cls yX5_move yX5_move ∈ zTbl := zin_t 326 (by decide +kernel) rfl
theorem zw_327 : Cond.code yX5_move cX5_move 7 (some .int) ∈ zTbl := zin_t 327 (by decide +kernel) rfl
theorem zw_357 : Cond.methodLink RL 40 yX5_sum ∈ zTbl := zin_t 357 (by decide +kernel) rfl
theorem zw_358 : Cond.instanceMethod yX5_sum ∈ zTbl := zin_t 358 (by decide +kernel) rfl
theorem zw_359 : Cond.selects yX5_sum.cls yX5_sum yX5_sum ∈ zTbl := zin_t 359 (by decide +kernel) rfl
theorem zw_360 : Cond.code yX5_sum cX5_sum 9 (some .int) ∈ zTbl := zin_t 360 (by decide +kernel) rfl
theorem zw_369 : Cond.methodLink RL 43 yX5_product ∈ zTbl := zin_t 369 (by decide +kernel) rfl
theorem zw_370 : Cond.instanceMethod yX5_product ∈ zTbl := zin_t 370 (by decide +kernel) rfl
theorem zw_371 : Cond.selects yX5_product.cls yX5_product yX5_product ∈ zTbl := zin_t 371 (by decide +kernel) rfl
theorem zw_372 : Cond.code yX5_product cX5_product 9 (some .int) ∈ zTbl := zin_t 372 (by decide +kernel) rfl
theorem zw_382 : Cond.methodLink RL 46 yX5_way ∈ zTbl := zin_t 382 (by decide +kernel) rfl
theorem zw_383 : Cond.instanceMethod yX5_way ∈ zTbl := zin_t 383 (by decide +kernel) rfl
theorem zw_384 : Cond.selects yX5_way.cls yX5_way yX5_way ∈ zTbl := zin_t 384 (by decide +kernel) rfl
theorem zw_385 : Cond.code yX5_way cX5_way 3 (some .int) ∈ zTbl := zin_t 385 (by decide +kernel) rfl
theorem zw_416 : Cond.methodLink RL 49 yX5_multiply ∈ zTbl := zin_t 416 (by decide +kernel) rfl
theorem zw_417 : Cond.instanceMethod yX5_multiply ∈ zTbl := zin_t 417 (by decide +kernel) rfl
theorem zw_418 : Cond.selects yX5_multiply.cls yX5_multiply yX5_multiply ∈ zTbl := zin_t 418 (by decide +kernel) rfl
theorem zw_419 : Cond.code yX5_multiply cX5_multiply 6 (some .int) ∈ zTbl := zin_t 419 (by decide +kernel) rfl
theorem zw_448 : Cond.methodLink RL 53 yX5_plain ∈ zTbl := zin_t 448 (by decide +kernel) rfl
theorem zw_449 : Cond.instanceMethod yX5_plain ∈ zTbl := zin_t 449 (by decide +kernel) rfl
theorem zw_450 : Cond.selects yX5_plain.cls yX5_plain yX5_plain ∈ zTbl := zin_t 450 (by decide +kernel) rfl
theorem zw_451 : Cond.code yX5_plain cX5_plain 3 (some .int) ∈ zTbl := zin_t 451 (by decide +kernel) rfl
theorem zw_464 : Cond.methodLink RL 56 yX5_flip ∈ zTbl := zin_t 464 (by decide +kernel) rfl
theorem zw_465 : Cond.instanceMethod yX5_flip ∈ zTbl := zin_t 465 (by decide +kernel) rfl
theorem zw_466 : Cond.selects yX5_flip.cls yX5_flip yX5_flip ∈ zTbl := zin_t 466 (by decide +kernel) rfl
theorem zw_467 : Cond.code yX5_flip cX5_flip 6 none ∈ zTbl := zin_t 467 (by decide +kernel) rfl
theorem zw_505 : Cond.methodLink RL 60 yX5_reduce ∈ zTbl := zin_t 505 (by decide +kernel) rfl
theorem zw_506 : Cond.instanceMethod yX5_reduce ∈ zTbl := zin_t 506 (by decide +kernel) rfl
theorem zw_507 : Cond.selects yX5_reduce.cls yX5_reduce yX5_reduce ∈ zTbl := zin_t 507 (by decide +kernel) rfl
theorem zw_508 : Cond.code yX5_reduce cX5_reduce 2 (some .int) ∈ zTbl := zin_t 508 (by decide +kernel) rfl
theorem zw_536 : Cond.methodLink RL 63 yX5_walk ∈ zTbl := zin_t 536 (by decide +kernel) rfl
theorem zw_537 : Cond.instanceMethod yX5_walk ∈ zTbl := zin_t 537 (by decide +kernel) rfl
theorem zw_538 : Cond.selects yX5_walk.cls yX5_walk yX5_walk ∈ zTbl := zin_t 538 (by decide +kernel) rfl
theorem zw_539 : Cond.code yX5_walk cX5_walk 5 (some .int) ∈ zTbl := zin_t 539 (by decide +kernel) rfl
theorem zw_562 : Cond.methodLink RL 66 yX5_at ∈ zTbl := zin_t 562 (by decide +kernel) rfl
theorem zw_563 : Cond.instanceMethod yX5_at ∈ zTbl := zin_t 563 (by decide +kernel) rfl
theorem zw_564 : Cond.selects yX5_at.cls yX5_at yX5_at ∈ zTbl := zin_t 564 (by decide +kernel) rfl
theorem zw_565 : Cond.code yX5_at cX5_at 6 (some .int) ∈ zTbl := zin_t 565 (by decide +kernel) rfl
theorem zw_569 : Cond.methodLink RL 69 yX5_flattening ∈ zTbl := zin_t 569 (by decide +kernel) rfl
theorem zw_570 : Cond.instanceMethod yX5_flattening ∈ zTbl := zin_t 570 (by decide +kernel) rfl
theorem zw_571 : Cond.selects yX5_flattening.cls yX5_flattening yX5_flattening ∈ zTbl := zin_t 571 (by decide +kernel) rfl
theorem zw_572 : Cond.code yX5_flattening cX5_flattening 4 (some .int) ∈ zTbl := zin_t 572 (by decide +kernel) rfl
theorem zw_612 : Cond.methodLink RL 72 yX5_bound ∈ zTbl := zin_t 612 (by decide +kernel) rfl
theorem zw_613 : Cond.instanceMethod yX5_bound ∈ zTbl := zin_t 613 (by decide +kernel) rfl
theorem zw_614 : Cond.selects yX5_bound.cls yX5_bound yX5_bound ∈ zTbl := zin_t 614 (by decide +kernel) rfl
theorem zw_615 : Cond.code yX5_bound cX5_bound 2 (some .int) ∈ zTbl := zin_t 615 (by decide +kernel) rfl
theorem zw_626 : Cond.methodLink RL 75 yX5_least ∈ zTbl := zin_t 626 (by decide +kernel) rfl
theorem zw_627 : Cond.instanceMethod yX5_least ∈ zTbl := zin_t 627 (by decide +kernel) rfl
theorem zw_628 : Cond.selects yX5_least.cls yX5_least yX5_least ∈ zTbl := zin_t 628 (by decide +kernel) rfl
theorem zw_629 : Cond.code yX5_least cX5_least 3 (some .int) ∈ zTbl := zin_t 629 (by decide +kernel) rfl
theorem zw_675 : Cond.methodLink RL 78 yX5_leastAnew ∈ zTbl := zin_t 675 (by decide +kernel) rfl
theorem zw_676 : Cond.instanceMethod yX5_leastAnew ∈ zTbl := zin_t 676 (by decide +kernel) rfl
theorem zw_677 : Cond.selects yX5_leastAnew.cls yX5_leastAnew yX5_leastAnew ∈ zTbl := zin_t 677 (by decide +kernel) rfl
theorem zw_678 : Cond.code yX5_leastAnew cX5_leastAnew 3 (some .int) ∈ zTbl := zin_t 678 (by decide +kernel) rfl
theorem zw_682 : Cond.methodLink RL 81 yX5_ofWay ∈ zTbl := zin_t 682 (by decide +kernel) rfl
theorem zw_683 : Cond.instanceMethod yX5_ofWay ∈ zTbl := zin_t 683 (by decide +kernel) rfl
theorem zw_684 : Cond.selects yX5_ofWay.cls yX5_ofWay yX5_ofWay ∈ zTbl := zin_t 684 (by decide +kernel) rfl
theorem zw_685 : Cond.code yX5_ofWay cX5_ofWay 4 (some .int) ∈ zTbl := zin_t 685 (by decide +kernel) rfl
theorem zw_764 : Cond.methodLink RL 84 yX5_vector ∈ zTbl := zin_t 764 (by decide +kernel) rfl
theorem zw_765 : Cond.instanceMethod yX5_vector ∈ zTbl := zin_t 765 (by decide +kernel) rfl
theorem zw_766 : Cond.selects yX5_vector.cls yX5_vector yX5_vector ∈ zTbl := zin_t 766 (by decide +kernel) rfl
theorem zw_767 : Cond.code yX5_vector cX5_vector 5 (some .int) ∈ zTbl := zin_t 767 (by decide +kernel) rfl
theorem zw_772 : Cond.methodLink RL 87 yX5_result ∈ zTbl := zin_t 772 (by decide +kernel) rfl
theorem zw_773 : Cond.instanceMethod yX5_result ∈ zTbl := zin_t 773 (by decide +kernel) rfl
theorem zw_774 : Cond.selects yX5_result.cls yX5_result yX5_result ∈ zTbl := zin_t 774 (by decide +kernel) rfl
theorem zw_775 : Cond.code yX5_result cX5_result 6 (some .int) ∈ zTbl := zin_t 775 (by decide +kernel) rfl
theorem zw_790 : Cond.methodLink RL 90 yX5_resultByCube ∈ zTbl := zin_t 790 (by decide +kernel) rfl
theorem zw_791 : Cond.instanceMethod yX5_resultByCube ∈ zTbl := zin_t 791 (by decide +kernel) rfl
theorem zw_792 : Cond.selects yX5_resultByCube.cls yX5_resultByCube yX5_resultByCube ∈ zTbl := zin_t 792 (by decide +kernel) rfl
theorem zw_793 : Cond.code yX5_resultByCube cX5_resultByCube 6 (some .int) ∈ zTbl := zin_t 793 (by decide +kernel) rfl
theorem zw_801 : Cond.methodLink RL 93 yX5_levels ∈ zTbl := zin_t 801 (by decide +kernel) rfl
theorem zw_802 : Cond.instanceMethod yX5_levels ∈ zTbl := zin_t 802 (by decide +kernel) rfl
theorem zw_803 : Cond.selects yX5_levels.cls yX5_levels yX5_levels ∈ zTbl := zin_t 803 (by decide +kernel) rfl
theorem zw_804 : Cond.code yX5_levels cX5_levels 5 (some .long) ∈ zTbl := zin_t 804 (by decide +kernel) rfl
