/-! THE WORLD: a heap as a function of addresses; the judgement zV: one instruction a row, the state a value -/
theorem ztbl_dummy : True := trivial
def zTbl : List Cond := lw_tbl.filter goodWord
theorem zin {w : Cond} (h : w ∈ lw_tbl) (g : goodWord w = true) : w ∈ zTbl := List.mem_filter.mpr ⟨h, g⟩
theorem zin_t {w : Cond} (i : Nat) (h : tables_1[i]? = some w) (g : goodWord w = true) : w ∈ zTbl := zin (List.mem_append_right _ (List.mem_of_getElem? h)) g
theorem zin_s {w : Cond} (i : Nat) (h : (k2_sels lw_privs)[i]? = some w) (g : goodWord w = true) : w ∈ zTbl := zin (List.mem_append_left _ (List.mem_of_getElem? h)) g
theorem zgood {c c2 : Cond} (h : c2 ∈ zTbl) : GoodIn (c :: zTbl) (c2 :: zTbl) := by
  have key : ∀ w ∈ zTbl, w ∈ (c :: zTbl) ∧ ((w.onTables && w.keeps) = true ∨ ∃ ty, w = .arrayClass ty) := fun w hw => ⟨List.mem_cons_of_mem _ hw, good_of_word (List.mem_filter.mp hw).2⟩
  intro w hw
  rcases List.mem_cons.mp hw with rfl | hw
  · exact key _ h
  · exact key w hw
abbrev ZE : Type := (Nat × vp_A) ⊕ (Nat × List Value)
abbrev ZH : Type := Nat → Option ZE
abbrev ZS : Type := ZH × Nat
abbrev ZD : Type := (Nat → ClassId) × (Nat → Nat → Nat) × (Nat → ClassId)
def zE (D : ZD) (e : ZE) : va_E := match e with
  | .inl x => .inl (D.2.2 x.1, x.2)
  | .inr o => .inr o
def zG (D : ZD) : va_G := (D.1, D.2.1)
def zP (D : ZD) (S : ZS) (H : Heap) : Prop := (∀ (a : Nat) (e : ZE), S.1 a = some e → va_at (zG D) vwCl (a, zE D e) H) ∧ H.size = S.2
abbrev zTy : List FieldType := [.int, .long, .int, .object "Bilinearium$Cube", .object "Bilinearium$Way"]
def zTys (D : ZD) : List (ClassId × FieldType) := [(D.2.2 0, .int), (D.2.2 1, .long), (D.2.2 2, .int), (D.2.2 3, .object "Bilinearium$Cube"), (D.2.2 4, .object "Bilinearium$Way")]
theorem zTys_at (D : ZD) {t : Nat} {ty : FieldType} (h : zTy[t]? = some ty) : (zTys D)[t]? = some (D.2.2 t, ty) := by
  match t, h with
  | 0, h => cases h; rfl
  | 1, h => cases h; rfl
  | 2, h => cases h; rfl
  | 3, h => cases h; rfl
  | 4, h => cases h; rfl
  | k + 5, h => simp at h
def zA (z0 : Nat) : Nat → Prop := fun q => z0 ≤ q
def zHp (D : ZD) (z0 : Nat) (S : ZS) (H : Heap) : Prop := zP D S H ∧ (∀ (a : Nat) (e : ZE), S.1 a = some e → z0 ≤ a) ∧ z0 ≤ S.2
theorem zHp.set {D : ZD} {z0 : Nat} {S : ZS} {H H1 : Heap} {a : Nat} {e0 e : ZE} (h : zHp D z0 S H) (ha : S.1 a = some e0) (he : va_at (zG D) vwCl (a, zE D e) H1) (oq : ∀ q : Nat, q ≠ a → H1[q]? = H[q]?) (z : H1.size = H.size) : zHp D z0 (va_up S.1 a (some e), S.2) H1 := by
  obtain ⟨⟨h1, h2⟩, h3, h4⟩ := h
  refine ⟨⟨fun b x hx => ?_, by rw [z]; exact h2⟩, fun b x hx => ?_, h4⟩
  · by_cases hb : b = a
    · subst hb
      simp only [va_up_self] at hx
      cases hx
      exact he
    · simp only [va_up_ne _ _ hb] at hx
      exact (h1 b x hx).kept (oq b hb)
  · by_cases hb : b = a
    · subst hb
      exact h3 b e0 ha
    · simp only [va_up_ne _ _ hb] at hx
      exact h3 b x hx
theorem zHp.none_size {D : ZD} {z0 : Nat} {S : ZS} {H : Heap} (h : zHp D z0 S H) {a : Nat} (ha : S.2 ≤ a) : S.1 a = none := by
  cases hx : S.1 a with
  | none => rfl
  | some e =>
    have hq : a < H.size := (h.1.1 a e hx).lt
    have hz := h.1.2
    exact absurd hq (by omega)
theorem zHp.push {D : ZD} {z0 : Nat} {S : ZS} {H H1 : Heap} {e : ZE} (h : zHp D z0 S H) (he : va_at (zG D) vwCl (S.2, zE D e) H1) (oq : ∀ q : Nat, q < H.size → H1[q]? = H[q]?) (z : H1.size = H.size + 1) : zHp D z0 (va_up S.1 S.2 (some e), S.2 + 1) H1 := by
  have hn := h.none_size (Nat.le_refl _)
  obtain ⟨⟨h1, h2⟩, h3, h4⟩ := h
  refine ⟨⟨fun b x hx => ?_, by rw [z, h2]⟩, fun b x hx => ?_, Nat.le_succ_of_le h4⟩
  · by_cases hb : b = S.2
    · subst hb
      simp only [va_up_self] at hx
      cases hx
      exact he
    · simp only [va_up_ne _ _ hb] at hx
      exact (h1 b x hx).kept (oq b ((h1 b x hx).lt))
  · by_cases hb : b = S.2
    · subst hb
      exact h4
    · simp only [va_up_ne _ _ hb] at hx
      exact h3 b x hx
def zSt (z0 : Nat) (U : State) (H : Heap) : Prop := vx_Zq Bundle.tN "UNASSIGNED_STACK" Bundle.steD (zA z0) U H ∧ vx_Zq Bundle.tN "SUPPRESSED_SENTINEL" Bundle.listD (zA z0) U H
def zVm (D : ZD) (s : State) : Prop := va_K (zG D) vwCl (zTys D) s ∧ (∀ q ∈ zNests, va_Nw (.methodLinkNest q.1 q.2.1 q.2.2.1 q.2.2.2) s) ∧ (va_AO "Bilinearium$Cube" s ∧ va_AO "Bilinearium$Way" s) ∧ (∀ q ∈ zStrs, ∃ sa, vk_R q.1 q.2.1 q.2.2 sa s) ∧ (∀ E ∈ zExs, va_Nw (.castable E E) s) ∧ (∀ E ∈ zExs, ∀ E2 ∈ zExs, E ≠ E2 → va_Nc E E2 s) ∧ (∀ y ∈ zDecls, va_Nw (.declares y) s)
theorem zNw_decl {y : MethodName} {s U : State} (hW : s.WarmedH U.vm) (hZ : va_Nw (.declares y) s) : va_Nw (.declares y) U := va_tabs rfl (rfl : (s.setVm U.vm).vm = U.vm) (by rw [Cond.declares_setVm hW.alike]; exact hZ)
theorem zVm.warm {D : ZD} {s U : State} (hW : s.WarmedH U.vm) (h : zVm D s) : zVm D U := by
  obtain ⟨h1, h2, h3, h4, h5, h6, h7⟩ := h
  exact ⟨va_K.moved hW.alike h1, fun q hq => va_Nw.warmM hW (h2 q hq), ⟨va_AO.moved hW.alike h3.1, va_AO.moved hW.alike h3.2⟩, fun q hq => (h4 q hq).elim fun sa h => ⟨sa, vk_R.warm hW h⟩, fun E hE => va_Nw.warmC hW (h5 E hE), fun E hE E2 hE2 hn => va_Nc.moved hW.alike (h6 E hE E2 hE2 hn), fun y hy => zNw_decl hW (h7 y hy)⟩
theorem zVm.calling {D : ZD} {U : State} {g : JFrame} {mk : MethodId} {a : Array Value} (h : zVm D U) : zVm D (U.calling g mk a) := zVm.warm (s := U) (U := U.calling g mk a) (State.WarmedH.refl U) h
/-- the world of a call: vm, heap, the two statics of Throwable -/
def zW (D : ZD) (z0 : Nat) (S : ZS) (U : State) : Prop := zVm D U ∧ zHp D z0 S U.heap ∧ zSt z0 U U.heap
theorem zSt.kept {z0 : Nat} {s : State} {H : Heap} {locs : List Loc} (h : zSt z0 s s.heap) (hS : va_S (zA z0) s.heap H locs) : zSt z0 s H := ⟨h.1.kept hS.2.1, h.2.kept hS.2.1⟩
theorem zSt.moved {z0 : Nat} {s U : State} {H : Heap} (hvm : s.vm.Alike U.vm) (h : zSt z0 s H) : zSt z0 U H := ⟨vx_Zq.moved hvm h.1, vx_Zq.moved hvm h.2⟩
theorem zW.blind {D : ZD} {z0 : Nat} {S : ZS} {av : List Value} : FrameBlind (va_Pc av (zW D z0 S)) := by
  intro a U g mk h
  obtain ⟨h0, h1, h2, h3⟩ := h
  exact ⟨h0, h1.calling, h2, zSt.moved (s := U) (U := U.calling g mk a) (Vm.Alike.refl U.vm) h3⟩
/-- what a method owes at its end: the answer, the world -/
def zQc (D : ZD) (z0 : Nat) (res : Option Value) (S : ZS) : Array Value → State → Outcome → State → Prop := fun _ st oc t => oc = .returned res ∧ zHp D z0 S t.heap ∧ va_F (zA z0) st t
/-- .. at a throw: the heap, of some size -/
def zXc (D : ZD) (z0 : Nat) (E0 : String) (h : ZH) : String → State → State → Prop := fun E st t => E = E0 ∧ (∃ n : Nat, zHp D z0 (h, n) t.heap) ∧ va_F (zA z0) st t
abbrev zws (y : MethodName) (cc : ByteArray) (nL : Nat) (ret : Option FieldType) : List Cond := Cond.code y cc nL ret :: zTbl
def zMet (l : Launch) (D : ZD) (z0 : Nat) (y : MethodName) (cc : ByteArray) (nL : Nat) (ret : Option FieldType) (rm : Room) (av : List Value) (S : ZS) (res : Option Value) (S' : ZS) : Prop :=
  Met l y (zws y cc nL ret) rm (va_Pc av (zW D z0 S)) (zQc D z0 res S') rm.cells rm.slots (zA z0)
/-- a result that may be a throw: .inl (answer, state) or .inr (class, heap) -/
abbrev ZX : Type := String × ZH
def zMetT (l : Launch) (D : ZD) (z0 : Nat) (y : MethodName) (cc : ByteArray) (nL : Nat) (ret : Option FieldType) (rm : Room) (av : List Value) (S : ZS) (R : (Option Value × ZS) ⊕ ZX) : Prop :=
  vx_Met l y (zws y cc nL ret) rm (va_Pc av (zW D z0 S)) (fun a st oc t => ∃ v S', R = .inl (v, S') ∧ zQc D z0 v S' a st oc t) (fun E st t => ∃ E0 h, R = .inr (E0, h) ∧ zXc D z0 E0 h E st t) rm.cells rm.slots (zA z0)
-- the judgement
abbrev ZG : Type := Program × Launch × Env × Room × State × MethodId × Array Value × List Frame × Method × Code × (State → Prop) × ZD × Nat
def zV (G : ZG) (nL : Nat) (S : ZS) (ce sl pc : Nat) (lv : List (Nat × Value)) (st : List Value) (P : Prop) : Prop := match G with
  | (p, l, e, R, s, m, args, below, meth, c, Q, D, z0) => P → ∀ (H : Heap) (locs : List Loc) (ls : Array Slot), zHp D z0 S H → va_S (zA z0) s.heap H locs → lv_has ls nL lv → W p l e R s m args below meth c H locs ce sl Q (F0 m pc ls st)
def zFix (G : ZG) (cc : ByteArray) (own : String) (nL : Nat) (ret : Option FieldType) (rm : Room) : Prop := match G with
  | (p, l, e, R, s, m, args, below, meth, c, Q, D, z0) => p.tables.exec = Jvm.exec ∧ c.code = cc ∧ c.maxLocals = nL ∧ s.vm.findClass own = some m.cls ∧ (∀ w ∈ zTbl, w.before args s = true) ∧ zVm D s ∧ zSt z0 s s.heap ∧ meth.locks = false ∧ R = rm ∧ meth.sig.returnType = ret ∧ z0 ≤ s.heap.size
/-- what the end of a method needs -/
def zEnd (G : ZG) (res : Option Value) (S : ZS) (rm : Room) : Prop := match G with
  | (p, l, e, R, s, m, args, below, meth, c, Q, D, z0) => ∃ Qc, Q = MQ below Qc args s rm.cells rm.slots (zA z0) ∧ ∀ t, zHp D z0 S t.heap → va_F (zA z0) s t → Qc args s (.returned res) t
def zEndT (G : ZG) (res : Option Value) (S : ZS) (rm : Room) : Prop := match G with
  | (p, l, e, R, s, m, args, below, meth, c, Q, D, z0) => ∃ Qc XC, Q = vx_MQ below Qc XC args s rm.cells rm.slots (zA z0) ∧ ∀ t, zHp D z0 S t.heap → va_F (zA z0) s t → Qc args s (.returned res) t
def zEndX (G : ZG) (E : String) (h : ZH) (rm : Room) : Prop := match G with
  | (p, l, e, R, s, m, args, below, meth, c, Q, D, z0) => ∃ Qc XC, Q = vx_MQ below Qc XC args s rm.cells rm.slots (zA z0) ∧ ∀ t n, zHp D z0 (h, n) t.heap → va_F (zA z0) s t → XC E s t
/-- no table of handlers; the launch is one without stack traces -/
def zNoTab (G : ZG) : Prop := match G with
  | (p, l, e, R, s, m, args, below, meth, c, Q, D, z0) => (∀ x ∈ c.exceptionTable.toList, False) ∧ l.stackTraces = false
-- state readers and writers
def zgI (S : ZS) (a ci k : Nat) : Option Int32 := match S.1 a with
  | some (.inr (c, fs)) => if c = ci then (match fs[k]? with | some (.int v) => some v | _ => none) else none
  | _ => none
def zgR (S : ZS) (a ci k : Nat) : Option Nat := match S.1 a with
  | some (.inr (c, fs)) => if c = ci then (match fs[k]? with | some (.ref v) => some v | _ => none) else none
  | _ => none
def zpF (S : ZS) (a ci k : Nat) (v : Value) : Option ZS := match S.1 a with
  | some (.inr (c, fs)) => if c = ci then (if k < fs.length then some (va_up S.1 a (some (.inr (c, fs.set k v))), S.2) else none) else none
  | _ => none
def zcl {α : Type} (S : ZS) (a ci : Nat) (o : Option α) : Option α := match S.1 a with
  | some (.inr (c, _)) => if c = ci then o else none
  | _ => none
def zaI (S : ZS) (a t : Nat) (i : Int32) : Option Int32 := match S.1 a with
  | some (.inl (u, n, .inl f)) => if u = t ∧ ¬ (i < 0 ∨ n ≤ i.toNatClampNeg) then some (f i.toNatClampNeg) else none
  | _ => none
def zaJ (S : ZS) (a : Nat) (i : Int32) : Option Int64 := match S.1 a with
  | some (.inl (u, n, .inr (.inl f))) => if u = 1 ∧ ¬ (i < 0 ∨ n ≤ i.toNatClampNeg) then some (f i.toNatClampNeg) else none
  | _ => none
def zaQ (S : ZS) (a t : Nat) (i : Int32) : Option (Option Nat) := match S.1 a with
  | some (.inl (u, n, .inr (.inr (.inr (.inr f))))) => if u = t ∧ ¬ (i < 0 ∨ n ≤ i.toNatClampNeg) then some (f i.toNatClampNeg) else none
  | _ => none
def zsI (S : ZS) (a t : Nat) (i : Int32) (x : Int32) : Option ZS := match S.1 a with
  | some (.inl (u, n, .inl f)) => if u = t ∧ ¬ (i < 0 ∨ n ≤ i.toNatClampNeg) then some (va_up S.1 a (some (.inl (u, n, .inl (va_up f i.toNatClampNeg x)))), S.2) else none
  | _ => none
def zsJ (S : ZS) (a : Nat) (i : Int32) (x : Int64) : Option ZS := match S.1 a with
  | some (.inl (u, n, .inr (.inl f))) => if u = 1 ∧ ¬ (i < 0 ∨ n ≤ i.toNatClampNeg) then some (va_up S.1 a (some (.inl (u, n, .inr (.inl (va_up f i.toNatClampNeg x))))), S.2) else none
  | _ => none
def zsQ (S : ZS) (a t ci : Nat) (i : Int32) (x : Nat) : Option ZS := match S.1 a with
  | some (.inl (u, n, .inr (.inr (.inr (.inr f))))) => if u = t ∧ ¬ (i < 0 ∨ n ≤ i.toNatClampNeg) then zcl S x ci (some (va_up S.1 a (some (.inl (u, n, .inr (.inr (.inr (.inr (va_up f i.toNatClampNeg (some x)))))))), S.2)) else none
  | _ => none
def zal (S : ZS) (a : Nat) : Option Int32 := match S.1 a with
  | some (.inl (u, n, _)) => if u < 5 then some (Int32.ofNat n) else none
  | _ => none
abbrev zn0 (t N : Nat) : ZE := match t with
  | 0 => .inl (0, N, .inl (fun _ => 0))
  | 1 => .inl (1, N, .inr (.inl (fun _ => 0)))
  | 2 => .inl (2, N, .inl (fun _ => 0))
  | t => .inl (t, N, .inr (.inr (.inr (.inr (fun _ => none)))))
def zna (S : ZS) (t N : Nat) : ZS := (va_up S.1 S.2 (some (zn0 t N)), S.2 + 1)
def zno (S : ZS) (ci : Nat) (fs : List Value) : ZS := (va_up S.1 S.2 (some (.inr (ci, fs))), S.2 + 1)
def zdiv (a b : Int32) : Option Int32 := if b = 0 then none else some (a / b)
def zrem (a b : Int32) : Option Int32 := if b = 0 then none else some (a % b)
-- loops
def ziter {σ ρ : Type} (body : σ → Option (σ ⊕ ρ)) : Nat → σ → Option ρ
  | 0, _ => none
  | n + 1, x => match body x with
    | none => none
    | some (.inl y) => ziter body n y
    | some (.inr r) => some r
def zcont {σ ρ : Type} (body : σ → Option (σ ⊕ ρ)) (n : Nat) (e : Option (σ ⊕ ρ)) : Option ρ := match e with
    | none => none
    | some (.inl y) => ziter body n y
    | some (.inr r) => some r
def zex {σ ρ : Type} (o : Option ρ) : Option (σ ⊕ ρ) := match o with
  | none => none
  | some r => some (.inr r)
theorem zcont_ex {σ ρ : Type} (body : σ → Option (σ ⊕ ρ)) (n : Nat) (o : Option ρ) : zcont body n (zex o) = o := by cases o <;> rfl
def zF : Nat := 10000
def zbT {α β : Type} (o : Option (α ⊕ ZX)) (k : α → Option (β ⊕ ZX)) : Option (β ⊕ ZX) := match o with
  | none => none
  | some (.inl y) => k y
  | some (.inr z) => some (.inr z)
def zmq {τ : Type} (r : Option Nat) (o1 : Option τ) (o2 : Nat → Option τ) : Option τ := match r with
  | none => o1
  | some a => o2 a
def zIni (G : ZG) : Prop := match G with
  | (p, l, e, R, s, m, args, below, meth, c, Q, D, z0) => meth.name = "<init>"
def zLks (G : ZG) : Prop := match G with
  | (p, l, e, R, s, m, args, below, meth, c, Q, D, z0) => meth.locks = false
def zAOs (CN : String) : Prop := ∀ s : State, (va_AO "Bilinearium$Cube" s ∧ va_AO "Bilinearium$Way" s) → va_AO CN s
