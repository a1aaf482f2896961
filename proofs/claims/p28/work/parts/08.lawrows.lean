/-! THE LAW: wrappers that catch, and rows whose outcome is known -/
section
variable {G : ZG} {cc : ByteArray} {own : String} {nL : Nat} {ret : Option FieldType} {rm : Room} {S : ZS} {ce sl pc n : Nat} {lv lv' : List (Nat × Value)} {st : List Value} {P : Prop}
def zcatch {α β : Type} (x : Option (α ⊕ ZX)) (names : List String) (bad : β) (o : α → Option (β × ZH)) : Option (β × ZH) := match x with
  | none => none
  | some (.inl y) => o y
  | some (.inr z) => if z.1 ∈ names then some (bad, z.2) else none
theorem zfirst (E : String) : ∀ (names : List String), E ∈ names → ∃ j, names[j]? = some E ∧ ∀ (i : Nat) (nm : String), i < j → names[i]? = some nm → E ≠ nm
  | [], h => absurd h (List.not_mem_nil)
  | nm :: r, h => by
    by_cases hE : E = nm
    · exact ⟨0, by rw [hE]; rfl, fun i nm hi => absurd hi (Nat.not_lt_zero _)⟩
    · obtain ⟨j, h1, h2⟩ := zfirst E r (by
        rcases List.mem_cons.mp h with h | h
        · exact absurd h hE
        · exact h)
      refine ⟨j + 1, by simpa using h1, fun i nm2 hi hn => ?_⟩
      cases i with
      | zero =>
        have : nm = nm2 := by simpa using hn
        rw [← this]; exact hE
      | succ i => exact h2 i nm2 (by omega) (by simpa using hn)
def zFlag (G : ZG) : Prop := match G with
  | (p, l, e, R, s, m, args, below, meth, c, Q, D, z0) => l.stackTraces = false
theorem zNoTab.fl (h : zNoTab G) : zFlag G := by
  obtain ⟨p, l, e, R, s, m, args, below, meth, c, Q, D, z0⟩ := G
  exact h.2
def zTabIs (G : ZG) (hh : List (Nat × Nat × Nat × Nat)) : Prop := match G with
  | (p, l, e, R, s, m, args, below, meth, c, Q, D, z0) => c.exceptionTable.toList = tableOf hh ∧ l.stackTraces = false
theorem zTabIs.fl {hh : List (Nat × Nat × Nat × Nat)} (h : zTabIs G hh) : zFlag G := by
  obtain ⟨p, l, e, R, s, m, args, below, meth, c, Q, D, z0⟩ := G
  exact h.2
def zHok (own : String) (pc : Nat) : List (Nat × Nat × Nat × Nat) → List String → Prop
  | q :: r, nm :: t => (covers ⟨q.1, q.2.1, q.2.2.1, q.2.2.2⟩ pc = true ∧ q.2.2.2 ≠ 0 ∧ Cond.classLink own q.2.2.2 nm ∈ zTbl ∧ nm ∈ zExs) ∧ zHok own pc r t
  | [], [] => True
  | _, _ => False
theorem zHok_at {own : String} {pc : Nat} : ∀ {hh : List (Nat × Nat × Nat × Nat)} {names : List String}, zHok own pc hh names → hh.length = names.length ∧ ∀ (j : Nat) (q : Nat × Nat × Nat × Nat) (nm : String), hh[j]? = some q → names[j]? = some nm → covers ⟨q.1, q.2.1, q.2.2.1, q.2.2.2⟩ pc = true ∧ q.2.2.2 ≠ 0 ∧ Cond.classLink own q.2.2.2 nm ∈ zTbl ∧ nm ∈ zExs
  | [], [], _ => ⟨rfl, fun j q nm h => by simp at h⟩
  | q0 :: r, n0 :: t, h => by
    obtain ⟨h1, h2⟩ := zHok_at h.2
    refine ⟨by simp [h1], fun j q nm a b => ?_⟩
    cases j with
    | zero =>
      have e1 : q0 = q := by simpa using a
      have e2 : n0 = nm := by simpa using b
      subst e1; subst e2
      exact h.1
    | succ j => exact h2 j q nm (by simpa using a) (by simpa using b)
  | [], _ :: _, h => h.elim
  | _ :: _, [], h => h.elim
theorem zk_VT0 {y : MethodName} {bytes : ByteArray} {maxL idx k : Nat} {retY : Option FieldType} {rmY : Room} {As stk : List Value} {R9 : (Option Value × ZS) ⊕ ZX} {a ci : Nat} {R8 : String} {T : u_T} {N : Nat} {ty : Nat → FieldType} (h0 : zFix G cc own nL ret rm) (hcC : zCls ci R8 T N ty) (ha : ∃ fs, S.1 a = some (.inr (ci, fs))) (hM : ∀ l D z0, l.stackTraces = false → zMetT l D z0 y bytes maxL retY rmY (.ref a :: As) S R9) (hnt : zFlag G) (w1 : Cond.methodLink own idx y ∈ zTbl) (w2 : Cond.instanceMethod y ∈ zTbl) (w5 : Cond.selects y.cls y y ∈ zTbl) (w3 : Cond.initialized y.cls ∈ zTbl) (w4 : Cond.code y bytes maxL retY ∈ zTbl) (hyc : y.cls = R8) (hy : zyOK y k) (hk : As.length = k) (hR : rmY.frames + 1 ≤ rm.frames ∧ 8 + (maxL + 11) + rmY.locals ≤ rm.locals) (hstk : stk = As.reverse ++ .ref a :: st) (hcat : (st.map fun v => v.category).sum ≤ 8) (hc : ce + rmY.cells ≤ rm.cells ∧ sl + rmY.slots ≤ rm.slots) (d : decode cc pc = .ok (.invokevirtual idx, 3)) : zRunT G nL S ce sl pc lv stk st rmY.cells rmY.slots R9 := by
  obtain ⟨p, l, e, R, s, m, args, below, meth, c, Q, D, z0⟩ := G
  obtain ⟨hx, hb, hml, hown, hts, hvm, hst, -, rfl, -⟩ := h0
  subst hstk
  subst hyc
  obtain ⟨fs, hs⟩ := ha
  obtain ⟨hcl, -⟩ := hcC
  intro H locs ls h1 h2 h3
  obtain ⟨cell, g1, g2, g3, -⟩ := zobj h1 hs hcl
  exact ⟨_, vx_runV (As := As) (rest := st) (C := y.cls) ⟨hx, hb, hml, hown, hts⟩ (hM l D z0 hnt) (cwV k hts (zgoodL (pre := [.methodLink own idx y, .instanceMethod y, .selects y.cls y y, .initialized y.cls]) (fun w h => by simp only [List.mem_cons, List.not_mem_nil, or_false] at h; rcases h with rfl | rfl | rfl | rfl <;> assumption) w4) rfl rfl rfl ⟨rfl, hy⟩ hR) ⟨zW.blind, ⟨cell, g1, by rw [g3]; rfl, by rw [g2]; exact (hvm.1.1 ci _ hcl).2.1⟩, fun U hU hW => ⟨rfl, zW_in hvm hst h1 h2 hU hW⟩⟩ rfl hk h3.1 rfl (by simpa [JFrame.monitorRoom] using hcat) d hc⟩
theorem zr_cTC {β : Type} {C : Option (β × ZH) → Prop} (hC : ¬ C none) {α : Type} {f : Option ((α × ZS) ⊕ ZX)} (bad : β) {o : α × ZS → Option (β × ZH)} (conv : α → Option Value) (names : List String) {hh : List (Nat × Nat × Nat × Nat)} {mc ms : Nat} {stk : List Value} (ce' sl' : Nat) (h0 : zFix G cc own nL ret rm) (htab : zTabIs G hh) (hok : zHok own pc hh names) (he : ∀ x, f = some x → zRunT G nL S ce sl pc lv stk st mc ms (x.map (fun y => (conv y.1, y.2)) id)) (hce : ce + mc = ce') (hsl : sl + ms = sl') (hn : pc + 3 = n)
    (kx : ∀ (j : Nat) (q : Nat × Nat × Nat × Nat) (E : String) (h : ZH) (n9 : Nat) (a : Nat), hh[j]? = some q → names[j]? = some E → zV G nL (h, n9) ce' sl' q.2.2.1 lv [.ref a] (C (some (bad, h))))
    (k : ∀ y, zV G nL y.2 ce' sl' n lv ((conv y.1).toList ++ st) (C (o y))) : zV G nL S ce sl pc lv stk (C (zcatch f names bad o)) := by
  cases f with
  | none => exact zv_imp (fun h => hC h) zv_false
  | some x =>
    have he := he x rfl
    obtain ⟨p, l, e, R, s, m, args, below, meth, c, Q, D, z0⟩ := G
    obtain ⟨hx, hb, hml, hown, hts, hvm, hst, hlk, rfl, hret, -⟩ := h0
    subst hce
    subst hsl
    subst hn
    intro hP H locs ls h1 h2 h3
    obtain ⟨av, hr⟩ := he H locs ls h1 h2 h3
    intro T hT X
    rcases hr T hT X with ⟨v, st₀, t, T', L, h0', X', hL, e1, e2, ⟨v9, S9, hR, hv, hw, hz, hk⟩, stp⟩ | ⟨q, st₀, t, T', L, E, ce9, h0', X', hL, e1, e2, ⟨E0, h, hR, hE, ⟨n9, hw⟩, hz, hk⟩, hce9, hcv, hcl, stp⟩
    · cases hv
      rw [h0'] at hz hk
      cases x with
      | inr z => cases hR
      | inl y =>
        have hR2 : (conv y.1, y.2) = (v, S9) := Sum.inl.inj hR
        cases hR2
        obtain ⟨t2, a1, b1⟩ := k y hP T'.heap (locs ++ L) ls (by rw [e1]; exact hw) ⟨Nat.le_trans h2.1 (by rw [e1]; exact hz), fun q g1 g2 => by rw [e1, hk q (Nat.lt_of_lt_of_le g1 h2.1) g2]; exact h2.2.1 q g1 g2, fun q hq => by
            rcases List.mem_append.mp hq with h | h
            · exact h2.2.2 q h
            · exact hL q h⟩ h3 T' rfl X'
        exact ⟨t2, stp t2 a1, b1⟩
    · rw [h0'] at hz hk
      cases x with
      | inl y => cases hR
      | inr z =>
        have hR2 : z = (E0, h) := Sum.inr.inj hR
        subst hR2
        subst hE
        have hP2 : C (if E ∈ names then some (bad, h) else none) := hP
        have hm9 : E ∈ names := by
          refine Decidable.byContradiction (fun hn9 => ?_)
          rw [if_neg hn9] at hP2
          exact hC hP2
        rw [if_pos hm9] at hP2
        obtain ⟨j, hj, hjp⟩ := zfirst E names hm9
        obtain ⟨hlen, hat⟩ := zHok_at hok
        have hjl : j < hh.length := by rw [hlen]; exact (List.getElem?_eq_some_iff.mp hj).1
        have hqj : hh[j]? = some hh[j] := List.getElem?_eq_getElem hjl
        obtain ⟨c1, c2, c3, c4⟩ := hat j _ E hqj hj
        rw [← e1] at hce9
        have h2' : va_S (zA z0) s.heap T'.heap (locs ++ L) := ⟨Nat.le_trans h2.1 (by rw [e1]; exact hz), fun q g1 g2 => by rw [e1, hk q (Nat.lt_of_lt_of_le g1 h2.1) g2]; exact h2.2.1 q g1 g2, fun q hq => by
            rcases List.mem_append.mp hq with h | h
            · exact h2.2.2 q h
            · exact hL q h⟩
        have hsplit : c.exceptionTable.toList = (tableOf (hh.take j)) ++ (⟨hh[j].1, hh[j].2.1, hh[j].2.2.1, hh[j].2.2.2⟩ : ExceptionTableEntry) :: tableOf (hh.drop (j + 1)) := by
          have hd9 : hh.drop j = hh[j] :: hh.drop (j + 1) := List.drop_eq_getElem_cons hjl
          have e9 : tableOf hh = tableOf (hh.take j ++ hh.drop j) := by rw [List.take_append_drop]
          rw [htab.1, e9, hd9]
          unfold tableOf
          rw [List.map_append, List.map_cons]
        have K : vx_W p l e R s m args below meth c T'.heap (locs ++ L) (ce + mc) (sl + ms) Q (F0 m pc ls st) q := by
          refine vx_catch (own := own) (name := E) hown _ _ _ hsplit (fun z hz9 => ?_) c1 c2 (hts _ c3) (va_Nw.use rfl (hvm.2.2.2.2.1 E c4)) hce9 hcv hcl ?_
          · obtain ⟨q9, hq9, rfl⟩ := List.mem_map.mp hz9
            obtain ⟨i, hi⟩ := List.getElem?_of_mem hq9
            have hij : i < j := by
              have := (List.getElem?_eq_some_iff.mp hi).1
              rw [List.length_take] at this
              omega
            rw [List.getElem?_take_of_lt hij] at hi
            have hil : i < names.length := by rw [← hlen]; exact (List.getElem?_eq_some_iff.mp hi).1
            obtain ⟨d1, d2, d3, d4⟩ := hat i q9 names[i] hi (List.getElem?_eq_getElem hil)
            exact Or.inr ⟨d2, names[i], hts _ d3, hvm.2.2.2.2.2.1 E c4 _ d4 (hjp i _ hij (List.getElem?_eq_getElem hil))⟩
          · exact kx j _ E h n9 q hqj hj hP2 T'.heap _ ls (by rw [e1]; exact hw) h2' h3
        obtain ⟨t2, a1, b1⟩ := K T' rfl X'
        exact ⟨t2, Steps.trans stp a1, b1⟩
def zMetW (l : Launch) (D : ZD) (z0 : Nat) (y : MethodName) (cc : ByteArray) (nL : Nat) (ret : Option FieldType) (hh : List (Nat × Nat × Nat × Nat)) (rm : Room) (av : List Value) (S : ZS) (k : Value) (h : ZH) : Prop :=
  vx_Met l y (Cond.codeWith y cc nL ret hh :: zTbl) rm (va_Pc av (zW D z0 S)) (fun _ st oc t => oc = .returned (some k) ∧ (∃ n, zHp D z0 (h, n) t.heap) ∧ va_F (zA z0) st t) (fun _ _ _ => False) rm.cells rm.slots (zA z0)
theorem zMetW_of {l : Launch} {D : ZD} {z0 : Nat} {y : MethodName} {cc : ByteArray} {nL : Nat} {ret : Option FieldType} {hh : List (Nat × Nat × Nat × Nat)} {rm : Room} {av : List Value} {S : ZS} {k : Value} {h : ZH} {P : Prop} (hlt : l.stackTraces = false) (hy : plainName y.cls = true) (hn : (lg_sl av).length ≤ nL) (w : ∀ G : ZG, zFix G cc y.cls nL ret rm → zTabIs G hh → (∀ n, zEndT G (some k) (h, n) rm) → zV G nL S 0 0 0 (lv_args 0 av) [] P) (hP : P) : zMetW l D z0 y cc nL ret hh rm av S k h := by
  refine vx_ofWH (cc := cc) (maxL := nL) (ret := ret) (hh := hh) hy rfl ?_
  intro p e s m args below meth c s₁ B hml hv
  obtain ⟨rfl, hvm, hhp, hst⟩ := hv
  have hts := atoms_spec (ws := Cond.codeWith y cc nL ret hh :: zTbl) B.pre
  have hown : s.vm.findClass y.cls = some m.cls := findClass_of_methodNamed B.named
  have htab := vx_table (x := y) B (hts _ List.mem_cons_self)
  have hl := lv_entry av (n := nL) hn
  rw [lg_entry_eq]
  exact w (p, l, e, rm, s, m, av.toArray, below, meth, c, vx_MQ below (fun _ st oc t => oc = .returned (some k) ∧ (∃ n, zHp D z0 (h, n) t.heap) ∧ va_F (zA z0) st t) (fun _ _ _ => False) av.toArray s rm.cells rm.slots (zA z0), D, z0) ⟨B.exec, B.bytes, hml, hown, fun w hw => hts w (List.mem_cons_of_mem _ hw), hvm, hst, B.notSynchronized, rfl, B.returns, by rw [hhp.1.2]; exact hhp.2.2⟩ ⟨htab, hlt⟩ (fun n => ⟨_, _, rfl, fun t h1 h2 => ⟨rfl, ⟨n, h1⟩, h2⟩⟩) hP s.heap [] _ hhp va_S.rf hl
/-- the call of a wrapper -/
theorem zr_callW {y : MethodName} {bytes : ByteArray} {maxL idx k9 : Nat} {retY : Option FieldType} {hh : List (Nat × Nat × Nat × Nat)} {rmY : Room} {As stk : List Value} {k : Value} {h : ZH} (ce' sl' : Nat) (h0 : zFix G cc own nL ret rm) (hlt : zFlag G) (hM : ∀ l D z0, l.stackTraces = false → zMetW l D z0 y bytes maxL retY hh rmY As S k h) (w1 : Cond.methodLink own idx y ∈ zTbl) (w2 : Cond.static y ∈ zTbl) (w3 : Cond.initialized y.cls ∈ zTbl) (w4 : Cond.codeWith y bytes maxL retY hh ∈ zTbl) (hy : zyOK y k9) (hk : As.length = k9) (hR : rmY.frames + 1 ≤ rm.frames ∧ 8 + (maxL + 11) + rmY.locals ≤ rm.locals) (hstk : stk = As.reverse ++ st) (hcat : (st.map fun v => v.category).sum ≤ 8) (hc : ce + rmY.cells ≤ rm.cells ∧ sl + rmY.slots ≤ rm.slots) (d : decode cc pc = .ok (.invokestatic idx, 3)) (hce : ce + rmY.cells = ce') (hsl : sl + rmY.slots = sl') (hn : pc + 3 = n) (kk : ∀ n9, zV G nL (h, n9) ce' sl' n lv (k :: st) P) : zV G nL S ce sl pc lv stk P := by
  obtain ⟨p, l, e, R, s, m, args, below, meth, c, Q, D, z0⟩ := G
  obtain ⟨hx, hb, hml, hown, hts, hvm, hst, -, rfl, -⟩ := h0
  subst hstk
  subst hce
  subst hsl
  subst hn
  intro hP H locs ls h1 h2 h3
  have hr := vx_runSX (p := p) (l := l) (e := e) (R := R) (s := s) (m := m) (args := args) (below := below) (meth := meth) (c := c) (H := H) (locs := locs) (cells := ce) (slots := sl) (As := As) (rest := st) (g := F0 m pc ls (As.reverse ++ st)) ⟨hx, hb, hml, hown, hts⟩ (hM l D z0 hlt) (vx_cwSW k9 hts (zgoodL (pre := [.methodLink own idx y, .static y, .initialized y.cls]) (fun w h => by simp only [List.mem_cons, List.not_mem_nil, or_false] at h; rcases h with rfl | rfl | rfl <;> assumption) w4) rfl rfl rfl hy hR) ⟨zW.blind, fun U hU hW => ⟨rfl, zW_in hvm hst h1 h2 hU hW⟩⟩ rfl hk h3.1 rfl (by simpa [JFrame.monitorRoom] using hcat) d hc
  intro T hT X
  rcases hr T hT X with ⟨v, st₀, t, T', L, h0', X', hL, e1, e2, ⟨hv, ⟨n9, hw⟩, hz, hk⟩, stp⟩ | ⟨q, st₀, t, T', L, E, ce9, h0', X', hL, e1, e2, hF, -⟩
  · cases hv
    rw [h0'] at hz hk
    obtain ⟨t2, a1, b1⟩ := kk n9 hP T'.heap (locs ++ L) ls (by rw [e1]; exact hw) ⟨Nat.le_trans h2.1 (by rw [e1]; exact hz), fun q g1 g2 => by rw [e1, hk q (Nat.lt_of_lt_of_le g1 h2.1) g2]; exact h2.2.1 q g1 g2, fun q hq => by
        rcases List.mem_append.mp hq with h | h
        · exact h2.2.2 q h
        · exact hL q h⟩ h3 T' rfl X'
    exact ⟨t2, stp t2 a1, b1⟩
  · exact hF.elim
/-! THE LAW'S OWN METHODS: contracts over an abstract state -/
def zmk {α TZ : Type} (bad : α) (o : Option (α × TZ)) (T : TZ) : Option (α × TZ) := match o with
  | none => some (bad, T)
  | some y => some y
def zFr (h : ZH) (n : Nat) : Prop := ∀ a : Nat, n ≤ a → h a = none
theorem zv_fr (k : zFr S.1 S.2 → zV G nL S ce sl pc lv st P) : zV G nL S ce sl pc lv st P := by
  obtain ⟨p, l, e, R, s, m, args, below, meth, c, Q, D, z0⟩ := G
  intro hP H locs ls h1 h2 h3
  exact k (fun a ha => h1.none_size ha) hP H locs ls h1 h2 h3
def zMetA (l : Launch) (D : ZD) (z0 : Nat) (y : MethodName) (cc : ByteArray) (nL : Nat) (ret : Option FieldType) (rm : Room) (av : List Value) (S : ZS) (K : Value → ZS → Prop) : Prop :=
  vx_Met l y (zws y cc nL ret) rm (va_Pc av (zW D z0 S)) (fun _ st oc t => ∃ v S', oc = .returned (some v) ∧ K v S' ∧ zHp D z0 S' t.heap ∧ va_F (zA z0) st t) (fun _ _ _ => False) rm.cells rm.slots (zA z0)
theorem zMetA_of {l : Launch} {D : ZD} {z0 : Nat} {y : MethodName} {cc : ByteArray} {nL : Nat} {ret : Option FieldType} {rm : Room} {av : List Value} {S : ZS} {K : Value → ZS → Prop} {P : Prop} (hlt : l.stackTraces = false) (hy : plainName y.cls = true) (hn : (lg_sl av).length ≤ nL) (w : ∀ G : ZG, zFix G cc y.cls nL ret rm → zNoTab G → (∀ v S', K v S' → zEndT G (some v) S' rm) → zV G nL S 0 0 0 (lv_args 0 av) [] P) (hP : P) : zMetA l D z0 y cc nL ret rm av S K := by
  refine vx_ofW (cc := cc) (maxL := nL) (ret := ret) hy rfl ?_
  intro p e s m args below meth c s₁ B hml htab hv
  obtain ⟨rfl, hvm, hhp, hst⟩ := hv
  have hts := atoms_spec (ws := zws y cc nL ret) B.pre
  have hown : s.vm.findClass y.cls = some m.cls := findClass_of_methodNamed B.named
  have hl := lv_entry av (n := nL) hn
  rw [lg_entry_eq]
  exact w (p, l, e, rm, s, m, av.toArray, below, meth, c, vx_MQ below (fun _ st oc t => ∃ v S', oc = .returned (some v) ∧ K v S' ∧ zHp D z0 S' t.heap ∧ va_F (zA z0) st t) (fun _ _ _ => False) av.toArray s rm.cells rm.slots (zA z0), D, z0) ⟨B.exec, B.bytes, hml, hown, fun w hw => hts w (List.mem_cons_of_mem _ hw), hvm, hst, B.notSynchronized, rfl, B.returns, by rw [hhp.1.2]; exact hhp.2.2⟩ ⟨htab, hlt⟩ (fun v S' h => ⟨_, _, rfl, fun t h1 h2 => ⟨v, S', rfl, h, h1, h2⟩⟩) hP s.heap [] _ hhp va_S.rf hl
theorem zr_callA {y : MethodName} {bytes : ByteArray} {maxL idx k9 : Nat} {retY : Option FieldType} {rmY : Room} {As stk : List Value} {K : Value → ZS → Prop} (ce' sl' : Nat) (h0 : zFix G cc own nL ret rm) (hlt : zFlag G) (hM : ∀ l D z0, l.stackTraces = false → zMetA l D z0 y bytes maxL retY rmY As S K) (w1 : Cond.methodLink own idx y ∈ zTbl) (w2 : Cond.static y ∈ zTbl) (w3 : Cond.initialized y.cls ∈ zTbl) (w4 : Cond.code y bytes maxL retY ∈ zTbl) (hy : zyOK y k9) (hk : As.length = k9) (hR : rmY.frames + 1 ≤ rm.frames ∧ 8 + (maxL + 11) + rmY.locals ≤ rm.locals) (hstk : stk = As.reverse ++ st) (hcat : (st.map fun v => v.category).sum ≤ 8) (hc : ce + rmY.cells ≤ rm.cells ∧ sl + rmY.slots ≤ rm.slots) (d : decode cc pc = .ok (.invokestatic idx, 3)) (hce : ce + rmY.cells = ce') (hsl : sl + rmY.slots = sl') (hn : pc + 3 = n) (kk : ∀ v S', K v S' → zV G nL S' ce' sl' n lv (v :: st) P) : zV G nL S ce sl pc lv stk P := by
  obtain ⟨p, l, e, R, s, m, args, below, meth, c, Q, D, z0⟩ := G
  obtain ⟨hx, hb, hml, hown, hts, hvm, hst, -, rfl, -⟩ := h0
  subst hstk
  subst hce
  subst hsl
  subst hn
  intro hP H locs ls h1 h2 h3
  have hr := vx_runS (p := p) (l := l) (e := e) (R := R) (s := s) (m := m) (args := args) (below := below) (meth := meth) (c := c) (H := H) (locs := locs) (cells := ce) (slots := sl) (As := As) (rest := st) (g := F0 m pc ls (As.reverse ++ st)) ⟨hx, hb, hml, hown, hts⟩ (hM l D z0 hlt) (va_cwS k9 hts (zgoodL (pre := [.methodLink own idx y, .static y, .initialized y.cls]) (fun w h => by simp only [List.mem_cons, List.not_mem_nil, or_false] at h; rcases h with rfl | rfl | rfl <;> assumption) w4) rfl rfl rfl hy hR) ⟨zW.blind, fun U hU hW => ⟨rfl, zW_in hvm hst h1 h2 hU hW⟩⟩ rfl hk h3.1 rfl (by simpa [JFrame.monitorRoom] using hcat) d hc
  intro T hT X
  rcases hr T hT X with ⟨v, st₀, t, T', L, h0', X', hL, e1, e2, ⟨v9, S9, hv, hK, hw, hz, hk⟩, stp⟩ | ⟨q, st₀, t, T', L, E, ce9, h0', X', hL, e1, e2, hF, -⟩
  · cases hv
    rw [h0'] at hz hk
    obtain ⟨t2, a1, b1⟩ := kk v9 S9 hK hP T'.heap (locs ++ L) ls (by rw [e1]; exact hw) ⟨Nat.le_trans h2.1 (by rw [e1]; exact hz), fun q g1 g2 => by rw [e1, hk q (Nat.lt_of_lt_of_le g1 h2.1) g2]; exact h2.2.1 q g1 g2, fun q hq => by
        rcases List.mem_append.mp hq with h | h
        · exact h2.2.2 q h
        · exact hL q h⟩ h3 T' rfl X'
    exact ⟨t2, stp t2 a1, b1⟩
  · exact hF.elim
theorem zr_callD {mc ms ce' sl' : Nat} {stk : List Value} {R9 : (Option Value × ZS) ⊕ ZX} {v0 : Option Value} {S' : ZS} (he : zRunT G nL S ce sl pc lv stk st mc ms R9) (hR9 : R9 = .inl (v0, S')) (hce : ce + mc = ce') (hsl : sl + ms = sl') (hn : pc + 3 = n) (k : zV G nL S' ce' sl' n lv (v0.toList ++ st) P) : zV G nL S ce sl pc lv stk P := by
  obtain ⟨p, l, e, R, s, m, args, below, meth, c, Q, D, z0⟩ := G
  subst hR9
  subst hce
  subst hsl
  subst hn
  intro hP H locs ls h1 h2 h3
  obtain ⟨av, hr⟩ := he H locs ls h1 h2 h3
  intro T hT X
  rcases hr T hT X with ⟨v, st₀, t, T', L, h0, X', hL, e1, e2, ⟨v9, S9, hR, hv, hw, hz, hk⟩, stp⟩ | ⟨q, st₀, t, T', L, E, ce9, h0, X', hL, e1, e2, ⟨E0, h, hR, -⟩, -⟩
  · cases hv
    cases hR
    rw [h0] at hz hk
    obtain ⟨t2, a1, b1⟩ := k hP T'.heap (locs ++ L) ls (by rw [e1]; exact hw) ⟨Nat.le_trans h2.1 (by rw [e1]; exact hz), fun q g1 g2 => by rw [e1, hk q (Nat.lt_of_lt_of_le g1 h2.1) g2]; exact h2.2.1 q g1 g2, fun q hq => by
        rcases List.mem_append.mp hq with h | h
        · exact h2.2.2 q h
        · exact hL q h⟩ h3 T' rfl X'
    exact ⟨t2, stp t2 a1, b1⟩
  · cases hR
/-- a wrapper's call, over the abstract state -/
theorem zr_cW {α β TZ : Type} (C : Option β → Prop) (hC : ¬ C none) {f : Option (α × TZ)} {o : α × TZ → Option β} (conv : α → Value) (J : TZ → ZS → Prop) {r : Option (α × ZH)} {y : MethodName} {bytes : ByteArray} {maxL idx k9 : Nat} {retY : Option FieldType} {hh : List (Nat × Nat × Nat × Nat)} {rmY : Room} {As stk : List Value} (ce' sl' : Nat) (h0 : zFix G cc own nL ret rm) (hlt : zFlag G) (hf : ∀ v, f = some v → zFr S.1 S.2 → ∃ h, r = some (v.1, h) ∧ ∀ n9, zFr h n9 → J v.2 (h, n9)) (hM : ∀ x, r = some x → ∀ l D z0, l.stackTraces = false → zMetW l D z0 y bytes maxL retY hh rmY As S (conv x.1) x.2) (w1 : Cond.methodLink own idx y ∈ zTbl) (w2 : Cond.static y ∈ zTbl) (w3 : Cond.initialized y.cls ∈ zTbl) (w4 : Cond.codeWith y bytes maxL retY hh ∈ zTbl) (hy : zyOK y k9) (hk : As.length = k9) (hR : rmY.frames + 1 ≤ rm.frames ∧ 8 + (maxL + 11) + rmY.locals ≤ rm.locals) (hstk : stk = As.reverse ++ st) (hcat : (st.map fun v => v.category).sum ≤ 8) (hc : ce + rmY.cells ≤ rm.cells ∧ sl + rmY.slots ≤ rm.slots) (d : decode cc pc = .ok (.invokestatic idx, 3)) (hce : ce + rmY.cells = ce') (hsl : sl + rmY.slots = sl') (hn : pc + 3 = n) (kk : ∀ v S', J v.2 S' → zV G nL S' ce' sl' n lv (conv v.1 :: st) (C (o v))) : zV G nL S ce sl pc lv stk (C (Option.bind f o)) := by
  cases f with
  | none => exact zv_imp (fun h => hC h) zv_false
  | some v =>
    refine zv_fr (fun hfr => ?_)
    obtain ⟨h, hr, hJ⟩ := hf v rfl hfr
    refine zr_callW ce' sl' h0 hlt (fun l D z0 h9 => hM _ hr l D z0 h9) w1 w2 w3 w4 hy hk hR hstk hcat hc d hce hsl hn (fun n9 => ?_)
    exact zv_fr (fun hfr9 => kk v (h, n9) (hJ n9 hfr9))
/-- a call of the class itself -/
theorem zr_cD {β TZ : Type} (C : Option β → Prop) (hC : ¬ C none) {f : Option (Int32 × TZ)} {o : Int32 × TZ → Option β} (J : TZ → ZS → Prop) {r : Option ((Int32 × ZS) ⊕ ZX)} {mc ms : Nat} {stk : List Value} (ce' sl' : Nat) (hf : ∀ v, f = some v → zFr S.1 S.2 → ∃ S', r = some (.inl (v.1, S')) ∧ J v.2 S') (he : ∀ x, r = some x → zRunT G nL S ce sl pc lv stk st mc ms (x.map (fun y => (some (.int y.1), y.2)) id)) (hce : ce + mc = ce') (hsl : sl + ms = sl') (hn : pc + 3 = n) (kk : ∀ v S', J v.2 S' → zV G nL S' ce' sl' n lv (.int v.1 :: st) (C (o v))) : zV G nL S ce sl pc lv stk (C (Option.bind f o)) := by
  cases f with
  | none => exact zv_imp (fun h => hC h) zv_false
  | some v =>
    refine zv_fr (fun hfr => ?_)
    obtain ⟨S', hr, hJ⟩ := hf v rfl hfr
    exact zr_callD (he _ hr) rfl hce hsl hn (kk v S' hJ)
/-- a call of a method of the law -/
theorem zr_cA {β TZ : Type} (C : Option β → Prop) (hC : ¬ C none) {f : Option (Int32 × TZ)} {o : Int32 × TZ → Option β} (J : TZ → ZS → Prop) {y : MethodName} {bytes : ByteArray} {maxL idx k9 : Nat} {retY : Option FieldType} {rmY : Room} {As stk : List Value} (ce' sl' : Nat) (h0 : zFix G cc own nL ret rm) (hlt : zFlag G) (hM : ∀ x, f = some x → ∀ l D z0, l.stackTraces = false → zMetA l D z0 y bytes maxL retY rmY As S (fun v S' => v = .int x.1 ∧ J x.2 S')) (w1 : Cond.methodLink own idx y ∈ zTbl) (w2 : Cond.static y ∈ zTbl) (w3 : Cond.initialized y.cls ∈ zTbl) (w4 : Cond.code y bytes maxL retY ∈ zTbl) (hy : zyOK y k9) (hk : As.length = k9) (hR : rmY.frames + 1 ≤ rm.frames ∧ 8 + (maxL + 11) + rmY.locals ≤ rm.locals) (hstk : stk = As.reverse ++ st) (hcat : (st.map fun v => v.category).sum ≤ 8) (hc : ce + rmY.cells ≤ rm.cells ∧ sl + rmY.slots ≤ rm.slots) (d : decode cc pc = .ok (.invokestatic idx, 3)) (hce : ce + rmY.cells = ce') (hsl : sl + rmY.slots = sl') (hn : pc + 3 = n) (kk : ∀ v S', J v.2 S' → zV G nL S' ce' sl' n lv (.int v.1 :: st) (C (o v))) : zV G nL S ce sl pc lv stk (C (Option.bind f o)) := by
  cases f with
  | none => exact zv_imp (fun h => hC h) zv_false
  | some v =>
    refine zr_callA ce' sl' h0 hlt (fun l D z0 h9 => hM v rfl l D z0 h9) w1 w2 w3 w4 hy hk hR hstk hcat hc d hce hsl hn (fun v9 S' hK => ?_)
    obtain ⟨rfl, hJ⟩ := hK
    exact kk v S' hJ
theorem zr_loopA {σ ρ : Type} {C : Option ρ → Prop} (hC : ¬ C none) (body : σ → Option (σ ⊕ ρ)) (lvf : σ → List (Nat × Value)) (J : σ → ZS → Prop) (dc ds cE sE : Nat) (N : Nat) (hbody : ∀ ce sl, ce + dc ≤ cE → sl + ds ≤ sE → ∀ (C1 : Option (σ ⊕ ρ) → Prop), ¬ C1 none → (∀ o, C1 (zex o) → C o) → (∀ y S, J y S → zV G nL S (ce + dc) (sl + ds) pc (lvf y) [] (C1 (some (.inl y)))) → ∀ y S, J y S → zV G nL S ce sl pc (lvf y) [] (C1 (body y))) (x : σ) (S : ZS) (hx : J x S) (ce sl : Nat) (hce : ce + N * dc ≤ cE) (hsl : sl + N * ds ≤ sE) : zV G nL S ce sl pc (lvf x) [] (C (ziter body N x)) := by
  induction N generalizing x S ce sl with
  | zero => exact zv_imp (fun h => hC h) zv_false
  | succ N ih =>
    have e1 : ce + dc + N * dc ≤ cE := by rw [Nat.succ_mul] at hce; omega
    have e2 : sl + ds + N * ds ≤ sE := by rw [Nat.succ_mul] at hsl; omega
    have h1 := hbody ce sl (by omega) (by omega) (fun e => C (zcont body N e)) (fun h => hC h) (fun o h => by rw [zcont_ex] at h; exact h) (fun y S9 hy => ih y S9 hy (ce + dc) (sl + ds) e1 e2) x S hx
    exact zv_imp (fun h => h) h1
end
section
variable {G : ZG} {cc : ByteArray} {own : String} {nL : Nat} {ret : Option FieldType} {rm : Room} {S : ZS} {ce sl pc n : Nat} {lv lv' : List (Nat × Value)} {st : List Value} {P : Prop}
theorem zr_icmp_eqY {x y : Int32} {off : Int} {tgt : Nat} (h0 : zFix G cc own nL ret rm) (hc : x = y) (d : decode cc pc = .ok (.if_icmp .eq off, 3)) (ht : (pc : Int) + off = (tgt : Int)) (k : zV G nL S ce sl tgt lv st P) : zV G nL S ce sl pc lv (.int y :: .int x :: st) P := by
  obtain ⟨p, l, e, R, s, m, args, below, meth, c, Q, D, z0⟩ := G
  obtain ⟨hx, hb, -⟩ := h0
  intro hP H locs ls h1 h2 h3
  exact lv_icmp_eq hx hb d ht (fun h => k hP H locs ls h1 h2 h3) (fun h => absurd hc h)
theorem zr_icmp_eqN {x y : Int32} {off : Int} {tgt : Nat} (h0 : zFix G cc own nL ret rm) (hc : ¬ x = y) (d : decode cc pc = .ok (.if_icmp .eq off, 3)) (ht : (pc : Int) + off = (tgt : Int)) (k : zV G nL S ce sl (pc + 3) lv st P) : zV G nL S ce sl pc lv (.int y :: .int x :: st) P := by
  obtain ⟨p, l, e, R, s, m, args, below, meth, c, Q, D, z0⟩ := G
  obtain ⟨hx, hb, -⟩ := h0
  intro hP H locs ls h1 h2 h3
  exact lv_icmp_eq hx hb d ht (fun h => absurd h hc) (fun h => k hP H locs ls h1 h2 h3)
theorem zr_icmp_geY {x y : Int32} {off : Int} {tgt : Nat} (h0 : zFix G cc own nL ret rm) (hc : y ≤ x) (d : decode cc pc = .ok (.if_icmp .ge off, 3)) (ht : (pc : Int) + off = (tgt : Int)) (k : zV G nL S ce sl tgt lv st P) : zV G nL S ce sl pc lv (.int y :: .int x :: st) P := by
  obtain ⟨p, l, e, R, s, m, args, below, meth, c, Q, D, z0⟩ := G
  obtain ⟨hx, hb, -⟩ := h0
  intro hP H locs ls h1 h2 h3
  exact lv_icmp_ge hx hb d ht (fun h => k hP H locs ls h1 h2 h3) (fun h => absurd hc h)
theorem zr_icmp_geN {x y : Int32} {off : Int} {tgt : Nat} (h0 : zFix G cc own nL ret rm) (hc : ¬ y ≤ x) (d : decode cc pc = .ok (.if_icmp .ge off, 3)) (ht : (pc : Int) + off = (tgt : Int)) (k : zV G nL S ce sl (pc + 3) lv st P) : zV G nL S ce sl pc lv (.int y :: .int x :: st) P := by
  obtain ⟨p, l, e, R, s, m, args, below, meth, c, Q, D, z0⟩ := G
  obtain ⟨hx, hb, -⟩ := h0
  intro hP H locs ls h1 h2 h3
  exact lv_icmp_ge hx hb d ht (fun h => absurd h hc) (fun h => k hP H locs ls h1 h2 h3)
theorem zr_icmp_neN {x y : Int32} {off : Int} {tgt : Nat} (h0 : zFix G cc own nL ret rm) (hc : x = y) (d : decode cc pc = .ok (.if_icmp .ne off, 3)) (ht : (pc : Int) + off = (tgt : Int)) (k : zV G nL S ce sl (pc + 3) lv st P) : zV G nL S ce sl pc lv (.int y :: .int x :: st) P := by
  obtain ⟨p, l, e, R, s, m, args, below, meth, c, Q, D, z0⟩ := G
  obtain ⟨hx, hb, -⟩ := h0
  intro hP H locs ls h1 h2 h3
  exact lv_icmp_ne hx hb d ht (fun h => absurd hc h) (fun h => k hP H locs ls h1 h2 h3)
theorem zr_icmp_neY {x y : Int32} {off : Int} {tgt : Nat} (h0 : zFix G cc own nL ret rm) (hc : ¬ x = y) (d : decode cc pc = .ok (.if_icmp .ne off, 3)) (ht : (pc : Int) + off = (tgt : Int)) (k : zV G nL S ce sl tgt lv st P) : zV G nL S ce sl pc lv (.int y :: .int x :: st) P := by
  obtain ⟨p, l, e, R, s, m, args, below, meth, c, Q, D, z0⟩ := G
  obtain ⟨hx, hb, -⟩ := h0
  intro hP H locs ls h1 h2 h3
  exact lv_icmp_ne hx hb d ht (fun h => k hP H locs ls h1 h2 h3) (fun h => absurd h hc)
theorem zr_if_neY {x : Int32} {off : Int} {tgt : Nat} (h0 : zFix G cc own nL ret rm) (hc : ¬ x = 0) (d : decode cc pc = .ok (.ifCond .ne off, 3)) (ht : (pc : Int) + off = (tgt : Int)) (k : zV G nL S ce sl tgt lv st P) : zV G nL S ce sl pc lv (.int x :: st) P := by
  obtain ⟨p, l, e, R, s, m, args, below, meth, c, Q, D, z0⟩ := G
  obtain ⟨hx, hb, -⟩ := h0
  intro hP H locs ls h1 h2 h3
  exact lv_if_ne hx hb d ht (fun h => k hP H locs ls h1 h2 h3) (fun h => absurd h hc)
theorem zr_if_neN {x : Int32} {off : Int} {tgt : Nat} (h0 : zFix G cc own nL ret rm) (hc : x = 0) (d : decode cc pc = .ok (.ifCond .ne off, 3)) (ht : (pc : Int) + off = (tgt : Int)) (k : zV G nL S ce sl (pc + 3) lv st P) : zV G nL S ce sl pc lv (.int x :: st) P := by
  obtain ⟨p, l, e, R, s, m, args, below, meth, c, Q, D, z0⟩ := G
  obtain ⟨hx, hb, -⟩ := h0
  intro hP H locs ls h1 h2 h3
  exact lv_if_ne hx hb d ht (fun h => absurd hc h) (fun h => k hP H locs ls h1 h2 h3)
/-- the script's cells -/
def zScr (G : ZG) (b L : Nat) (xs : Nat → Int32) : Prop := match G with
  | (p, l, e, R, s, m, args, below, meth, c, Q, D, z0) => va_X b L xs s s.heap ∧ b < s.heap.size ∧ b < z0
theorem zr_sld {b L : Nat} {xs : Nat → Int32} {i : Int32} (h0 : zFix G cc own nL ret rm) (hS : zScr G b L xs) (hin : vp_in i L) (d : decode cc pc = .ok (.iaload, 1)) (hn : pc + 1 = n) (k : zV G nL S ce sl n lv (.int (xs i.toNatClampNeg) :: st) P) : zV G nL S ce sl pc lv (.int i :: .ref b :: st) P := by
  obtain ⟨p, l, e, R, s, m, args, below, meth, c, Q, D, z0⟩ := G
  obtain ⟨hx, hb, -⟩ := h0
  subst hn
  intro hP H locs ls h1 h2 h3
  exact va_sld (A := zA z0) hx hb hS.1 hS.2.1 (Nat.not_le.mpr hS.2.2) h2 hin d (k hP H locs ls h1 h2 h3)
theorem zr_slen {b L : Nat} {xs : Nat → Int32} (h0 : zFix G cc own nL ret rm) (hS : zScr G b L xs) (d : decode cc pc = .ok (.arraylength, 1)) (hn : pc + 1 = n) (k : zV G nL S ce sl n lv (.int (Int32.ofNat L) :: st) P) : zV G nL S ce sl pc lv (.ref b :: st) P := by
  obtain ⟨p, l, e, R, s, m, args, below, meth, c, Q, D, z0⟩ := G
  obtain ⟨hx, hb, -⟩ := h0
  subst hn
  intro hP H locs ls h1 h2 h3
  exact va_slen (A := zA z0) hx hb hS.1 hS.2.1 (Nat.not_le.mpr hS.2.2) h2 d (k hP H locs ls h1 h2 h3)
theorem zr_switchK (tgt : Nat) {x : Int32} {dflt hi : Int} {offs : Array Int} {len : Nat} (j : Nat) (h0 : zFix G cc own nL ret rm) (hj : x.toInt = (j : Int)) (d : decode cc pc = .ok (.tableswitch dflt 0 hi offs, len)) (hhi : (j : Int) ≤ hi) (ho : (match offs[j]? with | some off => decide ((pc : Int) + off = (tgt : Int)) | none => false) = true) (k : zV G nL S ce sl tgt lv st P) : zV G nL S ce sl pc lv (.int x :: st) P := by
  obtain ⟨p, l, e, R, s, m, args, below, meth, c, Q, D, z0⟩ := G
  obtain ⟨hx, hb, -⟩ := h0
  intro hP H locs ls h1 h2 h3
  cases hof : offs[j]? with
  | none => rw [hof] at ho; cases ho
  | some off =>
    rw [hof] at ho
    have h10 : (pc : Int) + off = (tgt : Int) := of_decide_eq_true ho
    exact lv_tableIn hx hb d (by rw [hj]; omega) (by rw [hj]; omega) (by rw [hj]; simpa using hof) h10 (k hP H locs ls h1 h2 h3)
theorem zr_switchD (tgt : Nat) {x : Int32} {dflt hi : Int} {offs : Array Int} {len : Nat} (h0 : zFix G cc own nL ret rm) (hj : x.toInt < 0 ∨ hi < x.toInt) (d : decode cc pc = .ok (.tableswitch dflt 0 hi offs, len)) (ho : (pc : Int) + dflt = (tgt : Int)) (k : zV G nL S ce sl tgt lv st P) : zV G nL S ce sl pc lv (.int x :: st) P := by
  obtain ⟨p, l, e, R, s, m, args, below, meth, c, Q, D, z0⟩ := G
  obtain ⟨hx, hb, -⟩ := h0
  intro hP H locs ls h1 h2 h3
  exact lv_tableOut hx hb d hj ho (k hP H locs ls h1 h2 h3)
end
section
variable {G : ZG} {cc : ByteArray} {own : String} {nL : Nat} {ret : Option FieldType} {rm : Room} {S : ZS} {ce sl pc n : Nat} {lv lv' : List (Nat × Value)} {st : List Value} {P : Prop}
/-- a method that reads the script -/
def zWX (D : ZD) (z0 : Nat) (S : ZS) (b L : Nat) (xs : Nat → Int32) (U : State) : Prop := zW D z0 S U ∧ va_X b L xs U U.heap ∧ b < U.heap.size ∧ b < z0
theorem zWX.blind {D : ZD} {z0 : Nat} {S : ZS} {b L : Nat} {xs : Nat → Int32} {av : List Value} : FrameBlind (va_Pc av (zWX D z0 S b L xs)) := by
  intro a U g mk h
  obtain ⟨h0, ⟨h1, h2, h3⟩, h4, h5, h6⟩ := h
  exact ⟨h0, ⟨h1.calling, h2, zSt.moved (s := U) (U := U.calling g mk a) (Vm.Alike.refl U.vm) h3⟩, va_X.moved (u := U) (U := U.calling g mk a) (Vm.Alike.refl U.vm) h4, h5, h6⟩
def zMetC (l : Launch) (D : ZD) (z0 : Nat) (y : MethodName) (cc : ByteArray) (nL : Nat) (ret : Option FieldType) (rm : Room) (av : List Value) (S : ZS) (b L : Nat) (xs : Nat → Int32) (k : Value) : Prop :=
  vx_Met l y (zws y cc nL ret) rm (va_Pc av (zWX D z0 S b L xs)) (fun _ st oc t => oc = .returned (some k) ∧ zHp D z0 S t.heap ∧ va_F (zA z0) st t) (fun _ _ _ => False) rm.cells rm.slots (zA z0)
theorem zMetC_of {l : Launch} {D : ZD} {z0 : Nat} {y : MethodName} {cc : ByteArray} {nL : Nat} {ret : Option FieldType} {rm : Room} {av : List Value} {S : ZS} {b L : Nat} {xs : Nat → Int32} {k : Value} {P : Prop} (hy : plainName y.cls = true) (hn : (lg_sl av).length ≤ nL) (w : ∀ G : ZG, zFix G cc y.cls nL ret rm → zScr G b L xs → zEndT G (some k) S rm → zV G nL S 0 0 0 (lv_args 0 av) [] P) (hP : P) : zMetC l D z0 y cc nL ret rm av S b L xs k := by
  refine vx_ofW (cc := cc) (maxL := nL) (ret := ret) hy rfl ?_
  intro p e s m args below meth c s₁ B hml htab hv
  obtain ⟨rfl, ⟨hvm, hhp, hst⟩, hX, hbl, hbz⟩ := hv
  have hts := atoms_spec (ws := zws y cc nL ret) B.pre
  have hown : s.vm.findClass y.cls = some m.cls := findClass_of_methodNamed B.named
  have hl := lv_entry av (n := nL) hn
  rw [lg_entry_eq]
  exact w (p, l, e, rm, s, m, av.toArray, below, meth, c, vx_MQ below (fun _ st oc t => oc = .returned (some k) ∧ zHp D z0 S t.heap ∧ va_F (zA z0) st t) (fun _ _ _ => False) av.toArray s rm.cells rm.slots (zA z0), D, z0) ⟨B.exec, B.bytes, hml, hown, fun w hw => hts w (List.mem_cons_of_mem _ hw), hvm, hst, B.notSynchronized, rfl, B.returns, by rw [hhp.1.2]; exact hhp.2.2⟩ ⟨hX, hbl, hbz⟩ ⟨_, _, rfl, fun t h1 h2 => ⟨rfl, h1, h2⟩⟩ hP s.heap [] _ hhp va_S.rf hl
theorem zr_callC {y : MethodName} {bytes : ByteArray} {maxL idx k9 : Nat} {retY : Option FieldType} {rmY : Room} {As stk : List Value} {b L : Nat} {xs : Nat → Int32} {k : Value} (ce' sl' : Nat) (h0 : zFix G cc own nL ret rm) (hS : zScr G b L xs) (hM : ∀ l D z0, zMetC l D z0 y bytes maxL retY rmY As S b L xs k) (w1 : Cond.methodLink own idx y ∈ zTbl) (w2 : Cond.static y ∈ zTbl) (w3 : Cond.initialized y.cls ∈ zTbl) (w4 : Cond.code y bytes maxL retY ∈ zTbl) (hy : zyOK y k9) (hk : As.length = k9) (hR : rmY.frames + 1 ≤ rm.frames ∧ 8 + (maxL + 11) + rmY.locals ≤ rm.locals) (hstk : stk = As.reverse ++ st) (hcat : (st.map fun v => v.category).sum ≤ 8) (hc : ce + rmY.cells ≤ rm.cells ∧ sl + rmY.slots ≤ rm.slots) (d : decode cc pc = .ok (.invokestatic idx, 3)) (hce : ce + rmY.cells = ce') (hsl : sl + rmY.slots = sl') (hn : pc + 3 = n) (kk : zV G nL S ce' sl' n lv (k :: st) P) : zV G nL S ce sl pc lv stk P := by
  obtain ⟨p, l, e, R, s, m, args, below, meth, c, Q, D, z0⟩ := G
  obtain ⟨hx, hb, hml, hown, hts, hvm, hst, -, rfl, -⟩ := h0
  obtain ⟨hX, hbl, hbz⟩ := hS
  subst hstk
  subst hce
  subst hsl
  subst hn
  intro hP H locs ls h1 h2 h3
  have hr := vx_runS (p := p) (l := l) (e := e) (R := R) (s := s) (m := m) (args := args) (below := below) (meth := meth) (c := c) (H := H) (locs := locs) (cells := ce) (slots := sl) (As := As) (rest := st) (g := F0 m pc ls (As.reverse ++ st)) ⟨hx, hb, hml, hown, hts⟩ (hM l D z0) (va_cwS k9 hts (zgoodL (pre := [.methodLink own idx y, .static y, .initialized y.cls]) (fun w h => by simp only [List.mem_cons, List.not_mem_nil, or_false] at h; rcases h with rfl | rfl | rfl <;> assumption) w4) rfl rfl rfl hy hR) ⟨zWX.blind, fun U hU hW => ⟨rfl, zW_in hvm hst h1 h2 hU hW, by rw [hU]; exact va_X.moved hW.alike (hX.kept (h2.2.1 b hbl (Nat.not_le.mpr hbz))), by rw [hU]; exact Nat.lt_of_lt_of_le hbl h2.1, hbz⟩⟩ rfl hk h3.1 rfl (by simpa [JFrame.monitorRoom] using hcat) d hc
  intro T hT X
  rcases hr T hT X with ⟨v, st₀, t, T', L, h0', X', hL, e1, e2, ⟨hv, hw, hz, hk⟩, stp⟩ | ⟨q, st₀, t, T', L, E, ce9, h0', X', hL, e1, e2, hF, -⟩
  · cases hv
    rw [h0'] at hz hk
    obtain ⟨t2, a1, b1⟩ := kk hP T'.heap (locs ++ L) ls (by rw [e1]; exact hw) ⟨Nat.le_trans h2.1 (by rw [e1]; exact hz), fun q g1 g2 => by rw [e1, hk q (Nat.lt_of_lt_of_le g1 h2.1) g2]; exact h2.2.1 q g1 g2, fun q hq => by
        rcases List.mem_append.mp hq with h | h
        · exact h2.2.2 q h
        · exact hL q h⟩ h3 T' rfl X'
    exact ⟨t2, stp t2 a1, b1⟩
  · exact hF.elim
end
theorem zw_112 : Cond.classLink RL 14 "java/lang/IllegalArgumentException" ∈ zTbl := zin_t 112 (by decide +kernel) rfl
theorem zw_113 : Cond.classLink RL 17 "java/lang/IllegalStateException" ∈ zTbl := zin_t 113 (by decide +kernel) rfl
theorem zw_114 : Cond.methodLink RL 98 yX5_prime ∈ zTbl := zin_t 114 (by decide +kernel) rfl
theorem zw_115 : Cond.instanceMethod yX5_prime ∈ zTbl := zin_t 115 (by decide +kernel) rfl
theorem zw_116 : Cond.selects yX5_prime.cls yX5_prime yX5_prime ∈ zTbl := zin_t 116 (by decide +kernel) rfl
theorem zw_117 : Cond.code yX5_prime cX5_prime 3 (some .int) ∈ zTbl := zin_t 117 (by decide +kernel) rfl
theorem zw_202 : Cond.constant RL 16 (-99999999 : Int32) ∈ zTbl := zin_t 202 (by decide +kernel) rfl
theorem zw_209 : Cond.methodLink RL 8 yX5_cube ∈ zTbl := zin_t 209 (by decide +kernel) rfl
theorem zw_210 : Cond.instanceMethod yX5_cube ∈ zTbl := zin_t 210 (by decide +kernel) rfl
theorem zw_211 : Cond.selects yX5_cube.cls yX5_cube yX5_cube ∈ zTbl := zin_t 211 (by decide +kernel) rfl
theorem zw_212 : Cond.code yX5_cube cX5_cube 4 (some .int) ∈ zTbl := zin_t 212 (by decide +kernel) rfl
theorem zw_257 : Cond.methodLink RL 19 yX5_matrices ∈ zTbl := zin_t 257 (by decide +kernel) rfl
theorem zw_258 : Cond.instanceMethod yX5_matrices ∈ zTbl := zin_t 258 (by decide +kernel) rfl
theorem zw_259 : Cond.selects yX5_matrices.cls yX5_matrices yX5_matrices ∈ zTbl := zin_t 259 (by decide +kernel) rfl
theorem zw_260 : Cond.code yX5_matrices cX5_matrices 8 (some .int) ∈ zTbl := zin_t 260 (by decide +kernel) rfl
theorem zw_274 : Cond.methodLink RL 22 yX5_polynomials ∈ zTbl := zin_t 274 (by decide +kernel) rfl
theorem zw_275 : Cond.instanceMethod yX5_polynomials ∈ zTbl := zin_t 275 (by decide +kernel) rfl
theorem zw_276 : Cond.selects yX5_polynomials.cls yX5_polynomials yX5_polynomials ∈ zTbl := zin_t 276 (by decide +kernel) rfl
theorem zw_277 : Cond.code yX5_polynomials cX5_polynomials 6 (some .int) ∈ zTbl := zin_t 277 (by decide +kernel) rfl
theorem zw_281 : Cond.methodLink RL 26 yX5_group ∈ zTbl := zin_t 281 (by decide +kernel) rfl
theorem zw_282 : Cond.instanceMethod yX5_group ∈ zTbl := zin_t 282 (by decide +kernel) rfl
theorem zw_283 : Cond.selects yX5_group.cls yX5_group yX5_group ∈ zTbl := zin_t 283 (by decide +kernel) rfl
theorem zw_284 : Cond.code yX5_group cX5_group 5 (some .int) ∈ zTbl := zin_t 284 (by decide +kernel) rfl
theorem zw_291 : Cond.classLink RL 34 "java/lang/IndexOutOfBoundsException" ∈ zTbl := zin_t 291 (by decide +kernel) rfl
theorem zw_292 : Cond.methodLink RL 30 yX5_set ∈ zTbl := zin_t 292 (by decide +kernel) rfl
theorem zw_293 : Cond.instanceMethod yX5_set ∈ zTbl := zin_t 293 (by decide +kernel) rfl
theorem zw_294 : Cond.selects yX5_set.cls yX5_set yX5_set ∈ zTbl := zin_t 294 (by decide +kernel) rfl
theorem zw_295 : Cond.code yX5_set cX5_set 8 (some .int) ∈ zTbl := zin_t 295 (by decide +kernel) rfl
theorem zw_334 : Cond.methodLink RL 36 yX5_move ∈ zTbl := zin_t 334 (by decide +kernel) rfl
theorem zw_335 : Cond.instanceMethod yX5_move ∈ zTbl := zin_t 335 (by decide +kernel) rfl
theorem zw_336 : Cond.selects yX5_move.cls yX5_move yX5_move ∈ zTbl := zin_t 336 (by decide +kernel) rfl
theorem zw_337 : Cond.code yX5_move cX5_move 7 (some .int) ∈ zTbl := zin_t 337 (by decide +kernel) rfl
theorem zw_367 : Cond.methodLink RL 39 yX5_sum ∈ zTbl := zin_t 367 (by decide +kernel) rfl
theorem zw_368 : Cond.instanceMethod yX5_sum ∈ zTbl := zin_t 368 (by decide +kernel) rfl
theorem zw_369 : Cond.selects yX5_sum.cls yX5_sum yX5_sum ∈ zTbl := zin_t 369 (by decide +kernel) rfl
theorem zw_370 : Cond.code yX5_sum cX5_sum 9 (some .int) ∈ zTbl := zin_t 370 (by decide +kernel) rfl
theorem zw_379 : Cond.methodLink RL 42 yX5_product ∈ zTbl := zin_t 379 (by decide +kernel) rfl
theorem zw_380 : Cond.instanceMethod yX5_product ∈ zTbl := zin_t 380 (by decide +kernel) rfl
theorem zw_381 : Cond.selects yX5_product.cls yX5_product yX5_product ∈ zTbl := zin_t 381 (by decide +kernel) rfl
theorem zw_382 : Cond.code yX5_product cX5_product 9 (some .int) ∈ zTbl := zin_t 382 (by decide +kernel) rfl
theorem zw_392 : Cond.methodLink RL 45 yX5_way ∈ zTbl := zin_t 392 (by decide +kernel) rfl
theorem zw_393 : Cond.instanceMethod yX5_way ∈ zTbl := zin_t 393 (by decide +kernel) rfl
theorem zw_394 : Cond.selects yX5_way.cls yX5_way yX5_way ∈ zTbl := zin_t 394 (by decide +kernel) rfl
theorem zw_395 : Cond.code yX5_way cX5_way 3 (some .int) ∈ zTbl := zin_t 395 (by decide +kernel) rfl
theorem zw_426 : Cond.methodLink RL 48 yX5_multiply ∈ zTbl := zin_t 426 (by decide +kernel) rfl
theorem zw_427 : Cond.instanceMethod yX5_multiply ∈ zTbl := zin_t 427 (by decide +kernel) rfl
theorem zw_428 : Cond.selects yX5_multiply.cls yX5_multiply yX5_multiply ∈ zTbl := zin_t 428 (by decide +kernel) rfl
theorem zw_429 : Cond.code yX5_multiply cX5_multiply 6 (some .int) ∈ zTbl := zin_t 429 (by decide +kernel) rfl
theorem zw_458 : Cond.methodLink RL 52 yX5_plain ∈ zTbl := zin_t 458 (by decide +kernel) rfl
theorem zw_459 : Cond.instanceMethod yX5_plain ∈ zTbl := zin_t 459 (by decide +kernel) rfl
theorem zw_460 : Cond.selects yX5_plain.cls yX5_plain yX5_plain ∈ zTbl := zin_t 460 (by decide +kernel) rfl
theorem zw_461 : Cond.code yX5_plain cX5_plain 3 (some .int) ∈ zTbl := zin_t 461 (by decide +kernel) rfl
theorem zw_474 : Cond.methodLink RL 55 yX5_flip ∈ zTbl := zin_t 474 (by decide +kernel) rfl
theorem zw_475 : Cond.instanceMethod yX5_flip ∈ zTbl := zin_t 475 (by decide +kernel) rfl
theorem zw_476 : Cond.selects yX5_flip.cls yX5_flip yX5_flip ∈ zTbl := zin_t 476 (by decide +kernel) rfl
theorem zw_477 : Cond.code yX5_flip cX5_flip 6 none ∈ zTbl := zin_t 477 (by decide +kernel) rfl
theorem zw_515 : Cond.methodLink RL 59 yX5_reduce ∈ zTbl := zin_t 515 (by decide +kernel) rfl
theorem zw_516 : Cond.instanceMethod yX5_reduce ∈ zTbl := zin_t 516 (by decide +kernel) rfl
theorem zw_517 : Cond.selects yX5_reduce.cls yX5_reduce yX5_reduce ∈ zTbl := zin_t 517 (by decide +kernel) rfl
theorem zw_518 : Cond.code yX5_reduce cX5_reduce 2 (some .int) ∈ zTbl := zin_t 518 (by decide +kernel) rfl
theorem zw_547 : Cond.methodLink RL 62 yX5_walk ∈ zTbl := zin_t 547 (by decide +kernel) rfl
theorem zw_548 : Cond.instanceMethod yX5_walk ∈ zTbl := zin_t 548 (by decide +kernel) rfl
theorem zw_549 : Cond.selects yX5_walk.cls yX5_walk yX5_walk ∈ zTbl := zin_t 549 (by decide +kernel) rfl
theorem zw_550 : Cond.code yX5_walk cX5_walk 5 (some .int) ∈ zTbl := zin_t 550 (by decide +kernel) rfl
theorem zw_573 : Cond.methodLink RL 65 yX5_at ∈ zTbl := zin_t 573 (by decide +kernel) rfl
theorem zw_574 : Cond.instanceMethod yX5_at ∈ zTbl := zin_t 574 (by decide +kernel) rfl
theorem zw_575 : Cond.selects yX5_at.cls yX5_at yX5_at ∈ zTbl := zin_t 575 (by decide +kernel) rfl
theorem zw_576 : Cond.code yX5_at cX5_at 6 (some .int) ∈ zTbl := zin_t 576 (by decide +kernel) rfl
theorem zw_580 : Cond.methodLink RL 68 yX5_flattening ∈ zTbl := zin_t 580 (by decide +kernel) rfl
theorem zw_581 : Cond.instanceMethod yX5_flattening ∈ zTbl := zin_t 581 (by decide +kernel) rfl
theorem zw_582 : Cond.selects yX5_flattening.cls yX5_flattening yX5_flattening ∈ zTbl := zin_t 582 (by decide +kernel) rfl
theorem zw_583 : Cond.code yX5_flattening cX5_flattening 4 (some .int) ∈ zTbl := zin_t 583 (by decide +kernel) rfl
theorem zw_623 : Cond.methodLink RL 71 yX5_bound ∈ zTbl := zin_t 623 (by decide +kernel) rfl
theorem zw_624 : Cond.instanceMethod yX5_bound ∈ zTbl := zin_t 624 (by decide +kernel) rfl
theorem zw_625 : Cond.selects yX5_bound.cls yX5_bound yX5_bound ∈ zTbl := zin_t 625 (by decide +kernel) rfl
theorem zw_626 : Cond.code yX5_bound cX5_bound 2 (some .int) ∈ zTbl := zin_t 626 (by decide +kernel) rfl
theorem zw_637 : Cond.methodLink RL 74 yX5_least ∈ zTbl := zin_t 637 (by decide +kernel) rfl
theorem zw_638 : Cond.instanceMethod yX5_least ∈ zTbl := zin_t 638 (by decide +kernel) rfl
theorem zw_639 : Cond.selects yX5_least.cls yX5_least yX5_least ∈ zTbl := zin_t 639 (by decide +kernel) rfl
theorem zw_640 : Cond.code yX5_least cX5_least 3 (some .int) ∈ zTbl := zin_t 640 (by decide +kernel) rfl
theorem zw_686 : Cond.methodLink RL 83 yX5_vector ∈ zTbl := zin_t 686 (by decide +kernel) rfl
theorem zw_687 : Cond.instanceMethod yX5_vector ∈ zTbl := zin_t 687 (by decide +kernel) rfl
theorem zw_688 : Cond.selects yX5_vector.cls yX5_vector yX5_vector ∈ zTbl := zin_t 688 (by decide +kernel) rfl
theorem zw_689 : Cond.code yX5_vector cX5_vector 5 (some .int) ∈ zTbl := zin_t 689 (by decide +kernel) rfl
theorem zw_694 : Cond.methodLink RL 86 yX5_result ∈ zTbl := zin_t 694 (by decide +kernel) rfl
theorem zw_695 : Cond.instanceMethod yX5_result ∈ zTbl := zin_t 695 (by decide +kernel) rfl
theorem zw_696 : Cond.selects yX5_result.cls yX5_result yX5_result ∈ zTbl := zin_t 696 (by decide +kernel) rfl
theorem zw_697 : Cond.code yX5_result cX5_result 6 (some .int) ∈ zTbl := zin_t 697 (by decide +kernel) rfl
theorem zw_717 : Cond.methodLink RL 89 yX5_resultByCube ∈ zTbl := zin_t 717 (by decide +kernel) rfl
theorem zw_718 : Cond.instanceMethod yX5_resultByCube ∈ zTbl := zin_t 718 (by decide +kernel) rfl
theorem zw_719 : Cond.selects yX5_resultByCube.cls yX5_resultByCube yX5_resultByCube ∈ zTbl := zin_t 719 (by decide +kernel) rfl
theorem zw_720 : Cond.code yX5_resultByCube cX5_resultByCube 6 (some .int) ∈ zTbl := zin_t 720 (by decide +kernel) rfl
theorem zw_728 : Cond.methodLink RL 92 yX5_levels ∈ zTbl := zin_t 728 (by decide +kernel) rfl
theorem zw_729 : Cond.instanceMethod yX5_levels ∈ zTbl := zin_t 729 (by decide +kernel) rfl
theorem zw_730 : Cond.selects yX5_levels.cls yX5_levels yX5_levels ∈ zTbl := zin_t 730 (by decide +kernel) rfl
theorem zw_731 : Cond.code yX5_levels cX5_levels 5 (some .long) ∈ zTbl := zin_t 731 (by decide +kernel) rfl
theorem zw_790 : Cond.constantLong RL 96 (-9000000000000000 : Int64) ∈ zTbl := zin_t 790 (by decide +kernel) rfl
theorem zw_794 : Cond.methodLink RL 80 yX5_ofWay ∈ zTbl := zin_t 794 (by decide +kernel) rfl
theorem zw_795 : Cond.instanceMethod yX5_ofWay ∈ zTbl := zin_t 795 (by decide +kernel) rfl
theorem zw_796 : Cond.selects yX5_ofWay.cls yX5_ofWay yX5_ofWay ∈ zTbl := zin_t 796 (by decide +kernel) rfl
theorem zw_797 : Cond.code yX5_ofWay cX5_ofWay 4 (some .int) ∈ zTbl := zin_t 797 (by decide +kernel) rfl
theorem zw_827 : Cond.methodLink RL 77 yX5_leastAnew ∈ zTbl := zin_t 827 (by decide +kernel) rfl
theorem zw_828 : Cond.instanceMethod yX5_leastAnew ∈ zTbl := zin_t 828 (by decide +kernel) rfl
theorem zw_829 : Cond.selects yX5_leastAnew.cls yX5_leastAnew yX5_leastAnew ∈ zTbl := zin_t 829 (by decide +kernel) rfl
theorem zw_830 : Cond.code yX5_leastAnew cX5_leastAnew 3 (some .int) ∈ zTbl := zin_t 830 (by decide +kernel) rfl
