/-! ROWS of zV -/
section
variable {G : ZG} {cc : ByteArray} {own : String} {nL : Nat} {ret : Option FieldType} {rm : Room} {S : ZS} {ce sl pc n : Nat} {lv lv' : List (Nat × Value)} {st : List Value} {P : Prop}
def zlk : List (Nat × Value) → Nat → Option Value
  | [], _ => none
  | q :: r, i => bif Nat.beq q.1 i then some q.2 else zlk r i
theorem zlk_mem : ∀ {l : List (Nat × Value)} {i : Nat} {v : Value}, zlk l i = some v → (i, v) ∈ l
  | q :: r, i, v, h => by
    unfold zlk at h
    cases hb : Nat.beq q.1 i with
    | true =>
      rw [hb] at h
      have h1 := Nat.eq_of_beq_eq_true hb
      have h2 : q.2 = v := Option.some.inj h
      rw [← h1, ← h2]
      exact List.mem_cons_self
    | false =>
      rw [hb] at h
      exact List.mem_cons_of_mem _ (zlk_mem h)
theorem zlk_at {ls : Array Slot} {i : Nat} {v : Value} (h : lv_has ls nL lv) (hk : zlk lv i = some v) : ls[i]? = some (.val v) := h.2.2 (i, v) (zlk_mem hk)
def zins (i : Nat) (v : Value) : List (Nat × Value) → List (Nat × Value)
  | [] => [(i, v)]
  | q :: r => bif Nat.blt i q.1 then (i, v) :: q :: r else q :: zins i v r
theorem zins_mem {i : Nat} {v : Value} : ∀ {l : List (Nat × Value)} {q : Nat × Value}, q ∈ zins i v l → q ∈ (i, v) :: l
  | [], q, h => h
  | x :: r, q, h => by
    unfold zins at h
    cases hb : Nat.blt i x.1 with
    | true => rw [hb] at h; exact h
    | false =>
      rw [hb] at h
      rcases List.mem_cons.mp h with rfl | h
      · exact List.mem_cons_of_mem _ List.mem_cons_self
      · rcases List.mem_cons.mp (zins_mem h) with rfl | h
        · exact List.mem_cons_self
        · exact List.mem_cons_of_mem _ (List.mem_cons_of_mem _ h)
def zset1 (l : List (Nat × Value)) (i : Nat) (v : Value) : List (Nat × Value) := zins i v (l.filter (fun q => !(q.1 == i) && !(q.1 + 1 == i && q.2.category == 2)))
def zset2 (l : List (Nat × Value)) (i : Nat) (v : Value) : List (Nat × Value) := zins i v (l.filter (fun q => !(q.1 == i) && (!(q.1 == i + 1) && !(q.1 + 1 == i && q.2.category == 2))))
theorem zlv_to {ls : Array Slot} {l l' : List (Nat × Value)} (h : lv_has ls nL l) (hm : ∀ q ∈ l', q ∈ l) : lv_has ls nL l' := ⟨h.1, h.2.1, fun q hq => h.2.2 q (hm q hq)⟩
theorem zv_sub (k : zV G nL S ce sl pc lv' st P) (hm : ∀ q ∈ lv', q ∈ lv) : zV G nL S ce sl pc lv st P := by
  obtain ⟨p, l, e, R, s, m, args, below, meth, c, Q, D, z0⟩ := G
  intro hP H locs ls h1 h2 h3
  exact k hP H locs ls h1 h2 (zlv_to h3 hm)
theorem zv_wide {ce' sl' : Nat} (k : zV G nL S ce' sl' pc lv st P) (h1 : ce ≤ ce') (h2 : sl ≤ sl') : zV G nL S ce sl pc lv st P := by
  obtain ⟨p, l, e, R, s, m, args, below, meth, c, Q, D, z0⟩ := G
  intro hP H locs ls a1 a2 a3
  exact W.widen h1 h2 (k hP H locs ls a1 a2 a3)
theorem zv_imp {P' : Prop} (h : P → P') (k : zV G nL S ce sl pc lv st P') : zV G nL S ce sl pc lv st P := by
  obtain ⟨p, l, e, R, s, m, args, below, meth, c, Q, D, z0⟩ := G
  intro hP
  exact k (h hP)
theorem zv_of (hP : P) (k : zV G nL S ce sl pc lv st P) : zV G nL S ce sl pc lv st True := by
  obtain ⟨p, l, e, R, s, m, args, below, meth, c, Q, D, z0⟩ := G
  intro _
  exact k hP
theorem zr_iadd {x y : Int32} (h0 : zFix G cc own nL ret rm)  (d : decode cc pc = .ok (.iadd, 1)) (hn : pc + 1 = n) (k : zV G nL S ce sl n lv (.int (x + y) :: st) P) : zV G nL S ce sl pc lv (.int y :: .int x :: st) P := by
  obtain ⟨p, l, e, R, s, m, args, below, meth, c, Q, D, z0⟩ := G
  obtain ⟨hx, hb, -⟩ := h0
  subst hn
  intro hP H locs ls h1 h2 h3
  exact lv_iadd hx hb d (k hP H locs ls h1 h2 h3)
theorem zr_isub {x y : Int32} (h0 : zFix G cc own nL ret rm)  (d : decode cc pc = .ok (.isub, 1)) (hn : pc + 1 = n) (k : zV G nL S ce sl n lv (.int (x - y) :: st) P) : zV G nL S ce sl pc lv (.int y :: .int x :: st) P := by
  obtain ⟨p, l, e, R, s, m, args, below, meth, c, Q, D, z0⟩ := G
  obtain ⟨hx, hb, -⟩ := h0
  subst hn
  intro hP H locs ls h1 h2 h3
  exact lv_isub hx hb d (k hP H locs ls h1 h2 h3)
theorem zr_imul {x y : Int32} (h0 : zFix G cc own nL ret rm)  (d : decode cc pc = .ok (.imul, 1)) (hn : pc + 1 = n) (k : zV G nL S ce sl n lv (.int (x * y) :: st) P) : zV G nL S ce sl pc lv (.int y :: .int x :: st) P := by
  obtain ⟨p, l, e, R, s, m, args, below, meth, c, Q, D, z0⟩ := G
  obtain ⟨hx, hb, -⟩ := h0
  subst hn
  intro hP H locs ls h1 h2 h3
  exact lv_imul hx hb d (k hP H locs ls h1 h2 h3)
theorem zr_iand {x y : Int32} (h0 : zFix G cc own nL ret rm)  (d : decode cc pc = .ok (.iand, 1)) (hn : pc + 1 = n) (k : zV G nL S ce sl n lv (.int (x &&& y) :: st) P) : zV G nL S ce sl pc lv (.int y :: .int x :: st) P := by
  obtain ⟨p, l, e, R, s, m, args, below, meth, c, Q, D, z0⟩ := G
  obtain ⟨hx, hb, -⟩ := h0
  subst hn
  intro hP H locs ls h1 h2 h3
  exact lv_iand hx hb d (k hP H locs ls h1 h2 h3)
theorem zr_ior {x y : Int32} (h0 : zFix G cc own nL ret rm)  (d : decode cc pc = .ok (.ior, 1)) (hn : pc + 1 = n) (k : zV G nL S ce sl n lv (.int (x ||| y) :: st) P) : zV G nL S ce sl pc lv (.int y :: .int x :: st) P := by
  obtain ⟨p, l, e, R, s, m, args, below, meth, c, Q, D, z0⟩ := G
  obtain ⟨hx, hb, -⟩ := h0
  subst hn
  intro hP H locs ls h1 h2 h3
  exact lv_ior hx hb d (k hP H locs ls h1 h2 h3)
theorem zr_ixor {x y : Int32} (h0 : zFix G cc own nL ret rm)  (d : decode cc pc = .ok (.ixor, 1)) (hn : pc + 1 = n) (k : zV G nL S ce sl n lv (.int (x ^^^ y) :: st) P) : zV G nL S ce sl pc lv (.int y :: .int x :: st) P := by
  obtain ⟨p, l, e, R, s, m, args, below, meth, c, Q, D, z0⟩ := G
  obtain ⟨hx, hb, -⟩ := h0
  subst hn
  intro hP H locs ls h1 h2 h3
  exact lv_ixor hx hb d (k hP H locs ls h1 h2 h3)
theorem zr_ishl {x y : Int32} (h0 : zFix G cc own nL ret rm)  (d : decode cc pc = .ok (.ishl, 1)) (hn : pc + 1 = n) (k : zV G nL S ce sl n lv (.int (x <<< (y &&& 31)) :: st) P) : zV G nL S ce sl pc lv (.int y :: .int x :: st) P := by
  obtain ⟨p, l, e, R, s, m, args, below, meth, c, Q, D, z0⟩ := G
  obtain ⟨hx, hb, -⟩ := h0
  subst hn
  intro hP H locs ls h1 h2 h3
  exact lv_ishl hx hb d (k hP H locs ls h1 h2 h3)
theorem zr_ishr {x y : Int32} (h0 : zFix G cc own nL ret rm)  (d : decode cc pc = .ok (.ishr, 1)) (hn : pc + 1 = n) (k : zV G nL S ce sl n lv (.int (x >>> (y &&& 31)) :: st) P) : zV G nL S ce sl pc lv (.int y :: .int x :: st) P := by
  obtain ⟨p, l, e, R, s, m, args, below, meth, c, Q, D, z0⟩ := G
  obtain ⟨hx, hb, -⟩ := h0
  subst hn
  intro hP H locs ls h1 h2 h3
  exact lv_ishr hx hb d (k hP H locs ls h1 h2 h3)
theorem zr_iushr {x y : Int32} (h0 : zFix G cc own nL ret rm)  (d : decode cc pc = .ok (.iushr, 1)) (hn : pc + 1 = n) (k : zV G nL S ce sl n lv (.int ((x.toUInt32 >>> (y.toUInt32 &&& Int32.toUInt32 31)).toInt32) :: st) P) : zV G nL S ce sl pc lv (.int y :: .int x :: st) P := by
  obtain ⟨p, l, e, R, s, m, args, below, meth, c, Q, D, z0⟩ := G
  obtain ⟨hx, hb, -⟩ := h0
  subst hn
  intro hP H locs ls h1 h2 h3
  exact lv_iushr hx hb d rfl (k hP H locs ls h1 h2 h3)
theorem zr_ladd {x y : Int64} (h0 : zFix G cc own nL ret rm)  (d : decode cc pc = .ok (.ladd, 1)) (hn : pc + 1 = n) (k : zV G nL S ce sl n lv (.long (x + y) :: st) P) : zV G nL S ce sl pc lv (.long y :: .long x :: st) P := by
  obtain ⟨p, l, e, R, s, m, args, below, meth, c, Q, D, z0⟩ := G
  obtain ⟨hx, hb, -⟩ := h0
  subst hn
  intro hP H locs ls h1 h2 h3
  exact lv_ladd hx hb d (k hP H locs ls h1 h2 h3)
theorem zr_lsub {x y : Int64} (h0 : zFix G cc own nL ret rm)  (d : decode cc pc = .ok (.lsub, 1)) (hn : pc + 1 = n) (k : zV G nL S ce sl n lv (.long (x - y) :: st) P) : zV G nL S ce sl pc lv (.long y :: .long x :: st) P := by
  obtain ⟨p, l, e, R, s, m, args, below, meth, c, Q, D, z0⟩ := G
  obtain ⟨hx, hb, -⟩ := h0
  subst hn
  intro hP H locs ls h1 h2 h3
  exact lv_lsub hx hb d (k hP H locs ls h1 h2 h3)
theorem zr_lmul {x y : Int64} (h0 : zFix G cc own nL ret rm)  (d : decode cc pc = .ok (.lmul, 1)) (hn : pc + 1 = n) (k : zV G nL S ce sl n lv (.long (x * y) :: st) P) : zV G nL S ce sl pc lv (.long y :: .long x :: st) P := by
  obtain ⟨p, l, e, R, s, m, args, below, meth, c, Q, D, z0⟩ := G
  obtain ⟨hx, hb, -⟩ := h0
  subst hn
  intro hP H locs ls h1 h2 h3
  exact lv_lmul hx hb d (k hP H locs ls h1 h2 h3)
theorem zr_land {x y : Int64} (h0 : zFix G cc own nL ret rm)  (d : decode cc pc = .ok (.land, 1)) (hn : pc + 1 = n) (k : zV G nL S ce sl n lv (.long (x &&& y) :: st) P) : zV G nL S ce sl pc lv (.long y :: .long x :: st) P := by
  obtain ⟨p, l, e, R, s, m, args, below, meth, c, Q, D, z0⟩ := G
  obtain ⟨hx, hb, -⟩ := h0
  subst hn
  intro hP H locs ls h1 h2 h3
  exact lv_land hx hb d (k hP H locs ls h1 h2 h3)
theorem zr_lor {x y : Int64} (h0 : zFix G cc own nL ret rm)  (d : decode cc pc = .ok (.lor, 1)) (hn : pc + 1 = n) (k : zV G nL S ce sl n lv (.long (x ||| y) :: st) P) : zV G nL S ce sl pc lv (.long y :: .long x :: st) P := by
  obtain ⟨p, l, e, R, s, m, args, below, meth, c, Q, D, z0⟩ := G
  obtain ⟨hx, hb, -⟩ := h0
  subst hn
  intro hP H locs ls h1 h2 h3
  exact lv_lor hx hb d (k hP H locs ls h1 h2 h3)
theorem zr_lxor {x y : Int64} (h0 : zFix G cc own nL ret rm)  (d : decode cc pc = .ok (.lxor, 1)) (hn : pc + 1 = n) (k : zV G nL S ce sl n lv (.long (x ^^^ y) :: st) P) : zV G nL S ce sl pc lv (.long y :: .long x :: st) P := by
  obtain ⟨p, l, e, R, s, m, args, below, meth, c, Q, D, z0⟩ := G
  obtain ⟨hx, hb, -⟩ := h0
  subst hn
  intro hP H locs ls h1 h2 h3
  exact lv_lxor hx hb d (k hP H locs ls h1 h2 h3)
theorem zr_lshl {x : Int64} {y : Int32} (h0 : zFix G cc own nL ret rm)  (d : decode cc pc = .ok (.lshl, 1)) (hn : pc + 1 = n) (k : zV G nL S ce sl n lv (.long (x <<< (y.toInt64 &&& 63)) :: st) P) : zV G nL S ce sl pc lv (.int y :: .long x :: st) P := by
  obtain ⟨p, l, e, R, s, m, args, below, meth, c, Q, D, z0⟩ := G
  obtain ⟨hx, hb, -⟩ := h0
  subst hn
  intro hP H locs ls h1 h2 h3
  exact lv_lshl hx hb d rfl (k hP H locs ls h1 h2 h3)
theorem zr_lushr {x : Int64} {y : Int32} (h0 : zFix G cc own nL ret rm)  (d : decode cc pc = .ok (.lushr, 1)) (hn : pc + 1 = n) (k : zV G nL S ce sl n lv (.long ((x.toUInt64 >>> (y.toInt64.toUInt64 &&& Int64.toUInt64 63)).toInt64) :: st) P) : zV G nL S ce sl pc lv (.int y :: .long x :: st) P := by
  obtain ⟨p, l, e, R, s, m, args, below, meth, c, Q, D, z0⟩ := G
  obtain ⟨hx, hb, -⟩ := h0
  subst hn
  intro hP H locs ls h1 h2 h3
  exact lv_lushr hx hb d rfl (k hP H locs ls h1 h2 h3)
theorem zr_i2l {x : Int32} (h0 : zFix G cc own nL ret rm)  (d : decode cc pc = .ok (.i2l, 1)) (hn : pc + 1 = n) (k : zV G nL S ce sl n lv (.long x.toInt64 :: st) P) : zV G nL S ce sl pc lv (.int x :: st) P := by
  obtain ⟨p, l, e, R, s, m, args, below, meth, c, Q, D, z0⟩ := G
  obtain ⟨hx, hb, -⟩ := h0
  subst hn
  intro hP H locs ls h1 h2 h3
  exact lv_i2l hx hb d rfl (k hP H locs ls h1 h2 h3)
theorem zr_l2i {x : Int64} (h0 : zFix G cc own nL ret rm)  (d : decode cc pc = .ok (.l2i, 1)) (hn : pc + 1 = n) (k : zV G nL S ce sl n lv (.int x.toInt32 :: st) P) : zV G nL S ce sl pc lv (.long x :: st) P := by
  obtain ⟨p, l, e, R, s, m, args, below, meth, c, Q, D, z0⟩ := G
  obtain ⟨hx, hb, -⟩ := h0
  subst hn
  intro hP H locs ls h1 h2 h3
  exact lv_l2i hx hb d rfl (k hP H locs ls h1 h2 h3)
theorem zr_lcmp {x y : Int64} (h0 : zFix G cc own nL ret rm)  (d : decode cc pc = .ok (.lcmp, 1)) (hn : pc + 1 = n) (k : zV G nL S ce sl n lv (.int (lg_cmp x y) :: st) P) : zV G nL S ce sl pc lv (.long y :: .long x :: st) P := by
  obtain ⟨p, l, e, R, s, m, args, below, meth, c, Q, D, z0⟩ := G
  obtain ⟨hx, hb, -⟩ := h0
  subst hn
  intro hP H locs ls h1 h2 h3
  exact W.lcmp hx hb d (k hP H locs ls h1 h2 h3)
theorem zr_iconst {i : Int} (v : Int32) (h0 : zFix G cc own nL ret rm) (hv : Int32.ofInt i = v) (d : decode cc pc = .ok (.iconst i, 1)) (hn : pc + 1 = n) (k : zV G nL S ce sl n lv (.int v :: st) P) : zV G nL S ce sl pc lv (st) P := by
  obtain ⟨p, l, e, R, s, m, args, below, meth, c, Q, D, z0⟩ := G
  obtain ⟨hx, hb, -⟩ := h0
  subst hn
  intro hP H locs ls h1 h2 h3
  exact lv_iconst hx hb d hv (k hP H locs ls h1 h2 h3)
theorem zr_bipush {i : Int} (v : Int32) (h0 : zFix G cc own nL ret rm) (hv : (Int8.ofInt i).toInt32 = v) (d : decode cc pc = .ok (.bipush i, 2)) (hn : pc + 2 = n) (k : zV G nL S ce sl n lv (.int v :: st) P) : zV G nL S ce sl pc lv (st) P := by
  obtain ⟨p, l, e, R, s, m, args, below, meth, c, Q, D, z0⟩ := G
  obtain ⟨hx, hb, -⟩ := h0
  subst hn
  intro hP H locs ls h1 h2 h3
  exact lv_bipush hx hb d hv (k hP H locs ls h1 h2 h3)
theorem zr_sipush {i : Int} (v : Int32) (h0 : zFix G cc own nL ret rm) (hv : (Int16.ofInt i).toInt32 = v) (d : decode cc pc = .ok (.sipush i, 3)) (hn : pc + 3 = n) (k : zV G nL S ce sl n lv (.int v :: st) P) : zV G nL S ce sl pc lv (st) P := by
  obtain ⟨p, l, e, R, s, m, args, below, meth, c, Q, D, z0⟩ := G
  obtain ⟨hx, hb, -⟩ := h0
  subst hn
  intro hP H locs ls h1 h2 h3
  exact lv_sipush hx hb d hv (k hP H locs ls h1 h2 h3)
theorem zr_lconst {i : Fin 2} (v : Int64) (h0 : zFix G cc own nL ret rm) (hv : Int64.ofNat (i : Nat) = v) (d : decode cc pc = .ok (.lconst i, 1)) (hn : pc + 1 = n) (k : zV G nL S ce sl n lv (.long v :: st) P) : zV G nL S ce sl pc lv (st) P := by
  obtain ⟨p, l, e, R, s, m, args, below, meth, c, Q, D, z0⟩ := G
  obtain ⟨hx, hb, -⟩ := h0
  subst hn
  intro hP H locs ls h1 h2 h3
  exact lv_lconst hx hb d hv (k hP H locs ls h1 h2 h3)
theorem zr_null  (h0 : zFix G cc own nL ret rm)  (d : decode cc pc = .ok (.aconst_null, 1)) (hn : pc + 1 = n) (k : zV G nL S ce sl n lv (va_rf none :: st) P) : zV G nL S ce sl pc lv (st) P := by
  obtain ⟨p, l, e, R, s, m, args, below, meth, c, Q, D, z0⟩ := G
  obtain ⟨hx, hb, -⟩ := h0
  subst hn
  intro hP H locs ls h1 h2 h3
  exact lv_null hx hb d (k hP H locs ls h1 h2 h3)
theorem zr_dup {v : Value} (h0 : zFix G cc own nL ret rm) (hc : v.category = 1) (d : decode cc pc = .ok (.dup, 1)) (hn : pc + 1 = n) (k : zV G nL S ce sl n lv (v :: v :: st) P) : zV G nL S ce sl pc lv (v :: st) P := by
  obtain ⟨p, l, e, R, s, m, args, below, meth, c, Q, D, z0⟩ := G
  obtain ⟨hx, hb, -⟩ := h0
  subst hn
  intro hP H locs ls h1 h2 h3
  exact lv_dup hx hb d hc (k hP H locs ls h1 h2 h3)
theorem zr_pop {v : Value} (h0 : zFix G cc own nL ret rm) (hc : v.category = 1) (d : decode cc pc = .ok (.pop, 1)) (hn : pc + 1 = n) (k : zV G nL S ce sl n lv (st) P) : zV G nL S ce sl pc lv (v :: st) P := by
  obtain ⟨p, l, e, R, s, m, args, below, meth, c, Q, D, z0⟩ := G
  obtain ⟨hx, hb, -⟩ := h0
  subst hn
  intro hP H locs ls h1 h2 h3
  exact lv_pop hx hb d hc (k hP H locs ls h1 h2 h3)
theorem zr_dup2 {v u : Value} (h0 : zFix G cc own nL ret rm) (hc : v.category = 1) (hc2 : u.category = 1) (d : decode cc pc = .ok (.dup2, 1)) (hn : pc + 1 = n) (k : zV G nL S ce sl n lv (v :: u :: v :: u :: st) P) : zV G nL S ce sl pc lv (v :: u :: st) P := by
  obtain ⟨p, l, e, R, s, m, args, below, meth, c, Q, D, z0⟩ := G
  obtain ⟨hx, hb, -⟩ := h0
  subst hn
  intro hP H locs ls h1 h2 h3
  exact lv_dup2_11 hx hb d hc hc2 (k hP H locs ls h1 h2 h3)
theorem zr_idivK {x y : Int32} (h0 : zFix G cc own nL ret rm) (hne : ¬ y = 0) (d : decode cc pc = .ok (.idiv, 1)) (hn : pc + 1 = n) (k : zV G nL S ce sl n lv (.int (x / y) :: st) P) : zV G nL S ce sl pc lv (.int y :: .int x :: st) P := by
  obtain ⟨p, l, e, R, s, m, args, below, meth, c, Q, D, z0⟩ := G
  obtain ⟨hx, hb, -⟩ := h0
  subst hn
  intro hP H locs ls h1 h2 h3
  exact lv_idiv hx hb d hne (k hP H locs ls h1 h2 h3)
theorem zr_iremK {x y : Int32} (h0 : zFix G cc own nL ret rm) (hne : ¬ y = 0) (d : decode cc pc = .ok (.irem, 1)) (hn : pc + 1 = n) (k : zV G nL S ce sl n lv (.int (x % y) :: st) P) : zV G nL S ce sl pc lv (.int y :: .int x :: st) P := by
  obtain ⟨p, l, e, R, s, m, args, below, meth, c, Q, D, z0⟩ := G
  obtain ⟨hx, hb, -⟩ := h0
  subst hn
  intro hP H locs ls h1 h2 h3
  refine lv_irem hx hb d hne ?_
  rw [irem_eq_mod]
  exact k hP H locs ls h1 h2 h3
theorem zr_ldc {idx : Nat} {v : Int32} (h0 : zFix G cc own nL ret rm) (hw : Cond.constant own idx v ∈ zTbl) (d : decode cc pc = .ok (.ldc idx, 2)) (hn : pc + 2 = n) (k : zV G nL S ce sl n lv (.int v :: st) P) : zV G nL S ce sl pc lv st P := by
  obtain ⟨p, l, e, R, s, m, args, below, meth, c, Q, D, z0⟩ := G
  obtain ⟨hx, hb, -, hown, hts, -⟩ := h0
  subst hn
  intro hP H locs ls h1 h2 h3
  exact lv_ldc hx hb hown (hts _ hw) d (k hP H locs ls h1 h2 h3)
theorem zr_ldcw {idx : Nat} {v : Int32} (h0 : zFix G cc own nL ret rm) (hw : Cond.constant own idx v ∈ zTbl) (d : decode cc pc = .ok (.ldc_w idx, 3)) (hn : pc + 3 = n) (k : zV G nL S ce sl n lv (.int v :: st) P) : zV G nL S ce sl pc lv st P := by
  obtain ⟨p, l, e, R, s, m, args, below, meth, c, Q, D, z0⟩ := G
  obtain ⟨hx, hb, -, hown, hts, -⟩ := h0
  subst hn
  intro hP H locs ls h1 h2 h3
  exact lv_ldcw hx hb hown (hts _ hw) d (k hP H locs ls h1 h2 h3)
theorem zr_ldc2 {idx : Nat} {v : Int64} (h0 : zFix G cc own nL ret rm) (hw : Cond.constantLong own idx v ∈ zTbl) (d : decode cc pc = .ok (.ldc2_w idx, 3)) (hn : pc + 3 = n) (k : zV G nL S ce sl n lv (.long v :: st) P) : zV G nL S ce sl pc lv st P := by
  obtain ⟨p, l, e, R, s, m, args, below, meth, c, Q, D, z0⟩ := G
  obtain ⟨hx, hb, -, hown, hts, -⟩ := h0
  subst hn
  intro hP H locs ls h1 h2 h3
  exact lv_ldc2 hx hb hown (hts _ hw) d (k hP H locs ls h1 h2 h3)
theorem zr_iload {i : Nat} {x : Int32} (h0 : zFix G cc own nL ret rm) (d : decode cc pc = .ok (.iload i, 2)) (hk : zlk lv i = some (.int x)) (hn : pc + 2 = n) (k : zV G nL S ce sl n lv (.int x :: st) P) : zV G nL S ce sl pc lv st P := by
  obtain ⟨p, l, e, R, s, m, args, below, meth, c, Q, D, z0⟩ := G
  obtain ⟨hx, hb, -⟩ := h0
  subst hn
  intro hP H locs ls h1 h2 h3
  exact lv_iload hx hb d (zlk_at h3 hk) (k hP H locs ls h1 h2 h3)
theorem zr_iload_n {j : Fin 4} {x : Int32} (h0 : zFix G cc own nL ret rm) (d : decode cc pc = .ok (.iload_n j, 1)) (hk : zlk lv j.val = some (.int x)) (hn : pc + 1 = n) (k : zV G nL S ce sl n lv (.int x :: st) P) : zV G nL S ce sl pc lv st P := by
  obtain ⟨p, l, e, R, s, m, args, below, meth, c, Q, D, z0⟩ := G
  obtain ⟨hx, hb, -⟩ := h0
  subst hn
  intro hP H locs ls h1 h2 h3
  exact lv_iload_n hx hb d rfl (zlk_at h3 hk) (k hP H locs ls h1 h2 h3)
theorem zr_lload {i : Nat} {x : Int64} (h0 : zFix G cc own nL ret rm) (d : decode cc pc = .ok (.lload i, 2)) (hk : zlk lv i = some (.long x)) (hn : pc + 2 = n) (k : zV G nL S ce sl n lv (.long x :: st) P) : zV G nL S ce sl pc lv st P := by
  obtain ⟨p, l, e, R, s, m, args, below, meth, c, Q, D, z0⟩ := G
  obtain ⟨hx, hb, -⟩ := h0
  subst hn
  intro hP H locs ls h1 h2 h3
  exact lv_lload hx hb d (zlk_at h3 hk) (k hP H locs ls h1 h2 h3)
theorem zr_lload_n {j : Fin 4} {x : Int64} (h0 : zFix G cc own nL ret rm) (d : decode cc pc = .ok (.lload_n j, 1)) (hk : zlk lv j.val = some (.long x)) (hn : pc + 1 = n) (k : zV G nL S ce sl n lv (.long x :: st) P) : zV G nL S ce sl pc lv st P := by
  obtain ⟨p, l, e, R, s, m, args, below, meth, c, Q, D, z0⟩ := G
  obtain ⟨hx, hb, -⟩ := h0
  subst hn
  intro hP H locs ls h1 h2 h3
  exact lv_lload_n hx hb d rfl (zlk_at h3 hk) (k hP H locs ls h1 h2 h3)
theorem zr_aload {i : Nat} {x : Nat} (h0 : zFix G cc own nL ret rm) (d : decode cc pc = .ok (.aload i, 2)) (hk : zlk lv i = some (.ref x)) (hn : pc + 2 = n) (k : zV G nL S ce sl n lv (.ref x :: st) P) : zV G nL S ce sl pc lv st P := by
  obtain ⟨p, l, e, R, s, m, args, below, meth, c, Q, D, z0⟩ := G
  obtain ⟨hx, hb, -⟩ := h0
  subst hn
  intro hP H locs ls h1 h2 h3
  exact lv_aload hx hb d (zlk_at h3 hk) (k hP H locs ls h1 h2 h3)
theorem zr_aload_n {j : Fin 4} {x : Nat} (h0 : zFix G cc own nL ret rm) (d : decode cc pc = .ok (.aload_n j, 1)) (hk : zlk lv j.val = some (.ref x)) (hn : pc + 1 = n) (k : zV G nL S ce sl n lv (.ref x :: st) P) : zV G nL S ce sl pc lv st P := by
  obtain ⟨p, l, e, R, s, m, args, below, meth, c, Q, D, z0⟩ := G
  obtain ⟨hx, hb, -⟩ := h0
  subst hn
  intro hP H locs ls h1 h2 h3
  exact lv_aload_n hx hb d rfl (zlk_at h3 hk) (k hP H locs ls h1 h2 h3)
theorem zr_aloadQ {i : Nat} {x : Option Nat} (h0 : zFix G cc own nL ret rm) (d : decode cc pc = .ok (.aload i, 2)) (hk : zlk lv i = some (va_rf x)) (hn : pc + 2 = n) (k : zV G nL S ce sl n lv (va_rf x :: st) P) : zV G nL S ce sl pc lv st P := by
  obtain ⟨p, l, e, R, s, m, args, below, meth, c, Q, D, z0⟩ := G
  obtain ⟨hx, hb, -⟩ := h0
  subst hn
  intro hP H locs ls h1 h2 h3
  cases x with
  | none => exact lv_aloadN hx hb d (zlk_at h3 hk) (k hP H locs ls h1 h2 h3)
  | some x => exact lv_aload hx hb d (zlk_at h3 hk) (k hP H locs ls h1 h2 h3)
theorem zr_istore {i : Nat} {x : Int32} (lv2 : List (Nat × Value)) (h0 : zFix G cc own nL ret rm) (d : decode cc pc = .ok (.istore i, 2)) (hi : i < nL) (hl : zset1 lv i (.int x) = lv2) (hn : pc + 2 = n) (k : zV G nL S ce sl n lv2 st P) : zV G nL S ce sl pc lv (.int x :: st) P := by
  obtain ⟨p, l, e, R, s, m, args, below, meth, c, Q, D, z0⟩ := G
  obtain ⟨hx, hb, -⟩ := h0
  subst hn
  subst hl
  intro hP H locs ls h1 h2 h3
  exact lv_istore hx hb d h3 hi rfl (fun ls h3 => k hP H locs ls h1 h2 (zlv_to h3 fun _ h => zins_mem h))
theorem zr_astore {i : Nat} {x : Nat} (lv2 : List (Nat × Value)) (h0 : zFix G cc own nL ret rm) (d : decode cc pc = .ok (.astore i, 2)) (hi : i < nL) (hl : zset1 lv i (.ref x) = lv2) (hn : pc + 2 = n) (k : zV G nL S ce sl n lv2 st P) : zV G nL S ce sl pc lv (.ref x :: st) P := by
  obtain ⟨p, l, e, R, s, m, args, below, meth, c, Q, D, z0⟩ := G
  obtain ⟨hx, hb, -⟩ := h0
  subst hn
  subst hl
  intro hP H locs ls h1 h2 h3
  exact lv_astore hx hb d h3 hi rfl (fun ls h3 => k hP H locs ls h1 h2 (zlv_to h3 fun _ h => zins_mem h))
theorem zr_lstore {i : Nat} {x : Int64} (lv2 : List (Nat × Value)) (h0 : zFix G cc own nL ret rm) (d : decode cc pc = .ok (.lstore i, 2)) (hi : i + 1 < nL) (hl : zset2 lv i (.long x) = lv2) (hn : pc + 2 = n) (k : zV G nL S ce sl n lv2 st P) : zV G nL S ce sl pc lv (.long x :: st) P := by
  obtain ⟨p, l, e, R, s, m, args, below, meth, c, Q, D, z0⟩ := G
  obtain ⟨hx, hb, -⟩ := h0
  subst hn
  subst hl
  intro hP H locs ls h1 h2 h3
  exact lv_lstore hx hb d h3 hi rfl (fun ls h3 => k hP H locs ls h1 h2 (zlv_to h3 fun _ h => zins_mem h))
theorem zr_astoreQ {i : Nat} {x : Option Nat} (lv2 : List (Nat × Value)) (h0 : zFix G cc own nL ret rm) (d : decode cc pc = .ok (.astore i, 2)) (hi : i < nL) (hl : zset1 lv i (va_rf x) = lv2) (hn : pc + 2 = n) (k : zV G nL S ce sl n lv2 st P) : zV G nL S ce sl pc lv (va_rf x :: st) P := by
  obtain ⟨p, l, e, R, s, m, args, below, meth, c, Q, D, z0⟩ := G
  obtain ⟨hx, hb, -⟩ := h0
  subst hn
  subst hl
  intro hP H locs ls h1 h2 h3
  cases x with
  | none => exact lv_astoreN hx hb d h3 hi rfl (fun ls h3 => k hP H locs ls h1 h2 (zlv_to h3 fun _ h => zins_mem h))
  | some x => exact lv_astore hx hb d h3 hi rfl (fun ls h3 => k hP H locs ls h1 h2 (zlv_to h3 fun _ h => zins_mem h))
theorem zr_aloadQ_n {j : Fin 4} {x : Option Nat} (h0 : zFix G cc own nL ret rm) (d : decode cc pc = .ok (.aload_n j, 1)) (hk : zlk lv j.val = some (va_rf x)) (hn : pc + 1 = n) (k : zV G nL S ce sl n lv (va_rf x :: st) P) : zV G nL S ce sl pc lv st P := by
  obtain ⟨p, l, e, R, s, m, args, below, meth, c, Q, D, z0⟩ := G
  obtain ⟨hx, hb, -⟩ := h0
  subst hn
  intro hP H locs ls h1 h2 h3
  cases x with
  | none => exact lv_aload_nN hx hb d rfl (zlk_at h3 hk) (k hP H locs ls h1 h2 h3)
  | some x => exact lv_aload_n hx hb d rfl (zlk_at h3 hk) (k hP H locs ls h1 h2 h3)
theorem zr_istore_n {j : Fin 4} {x : Int32} (lv2 : List (Nat × Value)) (h0 : zFix G cc own nL ret rm) (d : decode cc pc = .ok (.istore_n j, 1)) (hi : j.val < nL) (hl : zset1 lv j.val (.int x) = lv2) (hn : pc + 1 = n) (k : zV G nL S ce sl n lv2 st P) : zV G nL S ce sl pc lv (.int x :: st) P := by
  obtain ⟨p, l, e, R, s, m, args, below, meth, c, Q, D, z0⟩ := G
  obtain ⟨hx, hb, -⟩ := h0
  subst hn
  subst hl
  intro hP H locs ls h1 h2 h3
  exact lv_istore_n hx hb d rfl h3 hi rfl (fun ls h3 => k hP H locs ls h1 h2 (zlv_to h3 fun _ h => zins_mem h))
theorem zr_astore_n {j : Fin 4} {x : Nat} (lv2 : List (Nat × Value)) (h0 : zFix G cc own nL ret rm) (d : decode cc pc = .ok (.astore_n j, 1)) (hi : j.val < nL) (hl : zset1 lv j.val (.ref x) = lv2) (hn : pc + 1 = n) (k : zV G nL S ce sl n lv2 st P) : zV G nL S ce sl pc lv (.ref x :: st) P := by
  obtain ⟨p, l, e, R, s, m, args, below, meth, c, Q, D, z0⟩ := G
  obtain ⟨hx, hb, -⟩ := h0
  subst hn
  subst hl
  intro hP H locs ls h1 h2 h3
  exact lv_astore_n hx hb d rfl h3 hi rfl (fun ls h3 => k hP H locs ls h1 h2 (zlv_to h3 fun _ h => zins_mem h))
theorem zr_lstore_n {j : Fin 4} {x : Int64} (lv2 : List (Nat × Value)) (h0 : zFix G cc own nL ret rm) (d : decode cc pc = .ok (.lstore_n j, 1)) (hi : j.val + 1 < nL) (hl : zset2 lv j.val (.long x) = lv2) (hn : pc + 1 = n) (k : zV G nL S ce sl n lv2 st P) : zV G nL S ce sl pc lv (.long x :: st) P := by
  obtain ⟨p, l, e, R, s, m, args, below, meth, c, Q, D, z0⟩ := G
  obtain ⟨hx, hb, -⟩ := h0
  subst hn
  subst hl
  intro hP H locs ls h1 h2 h3
  exact lv_lstore_n hx hb d rfl h3 hi rfl (fun ls h3 => k hP H locs ls h1 h2 (zlv_to h3 fun _ h => zins_mem h))
theorem zr_astoreQ_n {j : Fin 4} {x : Option Nat} (lv2 : List (Nat × Value)) (h0 : zFix G cc own nL ret rm) (d : decode cc pc = .ok (.astore_n j, 1)) (hi : j.val < nL) (hl : zset1 lv j.val (va_rf x) = lv2) (hn : pc + 1 = n) (k : zV G nL S ce sl n lv2 st P) : zV G nL S ce sl pc lv (va_rf x :: st) P := by
  obtain ⟨p, l, e, R, s, m, args, below, meth, c, Q, D, z0⟩ := G
  obtain ⟨hx, hb, -⟩ := h0
  subst hn
  subst hl
  intro hP H locs ls h1 h2 h3
  cases x with
  | none => exact lv_astore_nN hx hb d rfl h3 hi rfl (fun ls h3 => k hP H locs ls h1 h2 (zlv_to h3 fun _ h => zins_mem h))
  | some x => exact lv_astore_n hx hb d rfl h3 hi rfl (fun ls h3 => k hP H locs ls h1 h2 (zlv_to h3 fun _ h => zins_mem h))
theorem zr_iinc {i : Nat} {z : Int} {x : Int32} (y : Int32) (lv2 : List (Nat × Value)) (h0 : zFix G cc own nL ret rm) (d : decode cc pc = .ok (.iinc i z, 3)) (hk : zlk lv i = some (.int x)) (hi : i < nL) (hy : Int32.ofInt z = y) (hl : zset1 lv i (.int (x + y)) = lv2) (hn : pc + 3 = n) (k : zV G nL S ce sl n lv2 st P) : zV G nL S ce sl pc lv st P := by
  obtain ⟨p, l, e, R, s, m, args, below, meth, c, Q, D, z0⟩ := G
  obtain ⟨hx, hb, -⟩ := h0
  subst hn
  subst hl
  subst hy
  intro hP H locs ls h1 h2 h3
  obtain ⟨kk, hkk⟩ := List.getElem?_of_mem (zlk_mem hk)
  exact lv_iinc hx hb d h3 hkk rfl hi rfl (fun ls h3 => k hP H locs ls h1 h2 (zlv_to h3 fun _ h => zins_mem h))
theorem zr_goto {off : Int} {tgt : Nat} (h0 : zFix G cc own nL ret rm) (d : decode cc pc = .ok (.goto off, 3)) (ht : (pc : Int) + off = (tgt : Int)) (k : zV G nL S ce sl tgt lv st P) : zV G nL S ce sl pc lv st P := by
  obtain ⟨p, l, e, R, s, m, args, below, meth, c, Q, D, z0⟩ := G
  obtain ⟨hx, hb, -⟩ := h0
  intro hP H locs ls h1 h2 h3
  exact lv_goto hx hb d ht (k hP H locs ls h1 h2 h3)
theorem zr_icmp_lt {τ : Type} (C : Option τ → Prop) {o1 o2 : Option τ} {x y : Int32} {off : Int} {tgt : Nat} (h0 : zFix G cc own nL ret rm) (d : decode cc pc = .ok (.if_icmp .lt off, 3)) (ht : (pc : Int) + off = (tgt : Int)) (hn : pc + 3 = n) (kt : zV G nL S ce sl tgt lv st (C o1)) (kf : zV G nL S ce sl n lv st (C o2)) : zV G nL S ce sl pc lv (.int y :: .int x :: st) (C (if x < y then o1 else o2)) := by
  obtain ⟨p, l, e, R, s, m, args, below, meth, c, Q, D, z0⟩ := G
  obtain ⟨hx, hb, -⟩ := h0
  subst hn
  intro hP H locs ls h1 h2 h3
  by_cases hc : x < y
  · rw [if_pos hc] at hP
    exact lv_icmp_lt hx hb d ht (fun _ => kt hP H locs ls h1 h2 h3) (fun h => absurd hc h)
  · rw [if_neg hc] at hP
    exact lv_icmp_lt hx hb d ht (fun h => absurd h hc) (fun _ => kf hP H locs ls h1 h2 h3)
theorem zr_icmp_ge {τ : Type} (C : Option τ → Prop) {o1 o2 : Option τ} {x y : Int32} {off : Int} {tgt : Nat} (h0 : zFix G cc own nL ret rm) (d : decode cc pc = .ok (.if_icmp .ge off, 3)) (ht : (pc : Int) + off = (tgt : Int)) (hn : pc + 3 = n) (kt : zV G nL S ce sl tgt lv st (C o1)) (kf : zV G nL S ce sl n lv st (C o2)) : zV G nL S ce sl pc lv (.int y :: .int x :: st) (C (if y ≤ x then o1 else o2)) := by
  obtain ⟨p, l, e, R, s, m, args, below, meth, c, Q, D, z0⟩ := G
  obtain ⟨hx, hb, -⟩ := h0
  subst hn
  intro hP H locs ls h1 h2 h3
  by_cases hc : y ≤ x
  · rw [if_pos hc] at hP
    exact lv_icmp_ge hx hb d ht (fun _ => kt hP H locs ls h1 h2 h3) (fun h => absurd hc h)
  · rw [if_neg hc] at hP
    exact lv_icmp_ge hx hb d ht (fun h => absurd h hc) (fun _ => kf hP H locs ls h1 h2 h3)
theorem zr_icmp_gt {τ : Type} (C : Option τ → Prop) {o1 o2 : Option τ} {x y : Int32} {off : Int} {tgt : Nat} (h0 : zFix G cc own nL ret rm) (d : decode cc pc = .ok (.if_icmp .gt off, 3)) (ht : (pc : Int) + off = (tgt : Int)) (hn : pc + 3 = n) (kt : zV G nL S ce sl tgt lv st (C o1)) (kf : zV G nL S ce sl n lv st (C o2)) : zV G nL S ce sl pc lv (.int y :: .int x :: st) (C (if y < x then o1 else o2)) := by
  obtain ⟨p, l, e, R, s, m, args, below, meth, c, Q, D, z0⟩ := G
  obtain ⟨hx, hb, -⟩ := h0
  subst hn
  intro hP H locs ls h1 h2 h3
  by_cases hc : y < x
  · rw [if_pos hc] at hP
    exact lv_icmp_gt hx hb d ht (fun _ => kt hP H locs ls h1 h2 h3) (fun h => absurd hc h)
  · rw [if_neg hc] at hP
    exact lv_icmp_gt hx hb d ht (fun h => absurd h hc) (fun _ => kf hP H locs ls h1 h2 h3)
theorem zr_icmp_le {τ : Type} (C : Option τ → Prop) {o1 o2 : Option τ} {x y : Int32} {off : Int} {tgt : Nat} (h0 : zFix G cc own nL ret rm) (d : decode cc pc = .ok (.if_icmp .le off, 3)) (ht : (pc : Int) + off = (tgt : Int)) (hn : pc + 3 = n) (kt : zV G nL S ce sl tgt lv st (C o1)) (kf : zV G nL S ce sl n lv st (C o2)) : zV G nL S ce sl pc lv (.int y :: .int x :: st) (C (if x ≤ y then o1 else o2)) := by
  obtain ⟨p, l, e, R, s, m, args, below, meth, c, Q, D, z0⟩ := G
  obtain ⟨hx, hb, -⟩ := h0
  subst hn
  intro hP H locs ls h1 h2 h3
  by_cases hc : x ≤ y
  · rw [if_pos hc] at hP
    exact lv_icmp_le hx hb d ht (fun _ => kt hP H locs ls h1 h2 h3) (fun h => absurd hc h)
  · rw [if_neg hc] at hP
    exact lv_icmp_le hx hb d ht (fun h => absurd h hc) (fun _ => kf hP H locs ls h1 h2 h3)
theorem zr_icmp_eq {τ : Type} (C : Option τ → Prop) {o1 o2 : Option τ} {x y : Int32} {off : Int} {tgt : Nat} (h0 : zFix G cc own nL ret rm) (d : decode cc pc = .ok (.if_icmp .eq off, 3)) (ht : (pc : Int) + off = (tgt : Int)) (hn : pc + 3 = n) (kt : zV G nL S ce sl tgt lv st (C o1)) (kf : zV G nL S ce sl n lv st (C o2)) : zV G nL S ce sl pc lv (.int y :: .int x :: st) (C (if x = y then o1 else o2)) := by
  obtain ⟨p, l, e, R, s, m, args, below, meth, c, Q, D, z0⟩ := G
  obtain ⟨hx, hb, -⟩ := h0
  subst hn
  intro hP H locs ls h1 h2 h3
  by_cases hc : x = y
  · rw [if_pos hc] at hP
    exact lv_icmp_eq hx hb d ht (fun _ => kt hP H locs ls h1 h2 h3) (fun h => absurd hc h)
  · rw [if_neg hc] at hP
    exact lv_icmp_eq hx hb d ht (fun h => absurd h hc) (fun _ => kf hP H locs ls h1 h2 h3)
theorem zr_icmp_ne {τ : Type} (C : Option τ → Prop) {o1 o2 : Option τ} {x y : Int32} {off : Int} {tgt : Nat} (h0 : zFix G cc own nL ret rm) (d : decode cc pc = .ok (.if_icmp .ne off, 3)) (ht : (pc : Int) + off = (tgt : Int)) (hn : pc + 3 = n) (kt : zV G nL S ce sl n lv st (C o1)) (kf : zV G nL S ce sl tgt lv st (C o2)) : zV G nL S ce sl pc lv (.int y :: .int x :: st) (C (if x = y then o1 else o2)) := by
  obtain ⟨p, l, e, R, s, m, args, below, meth, c, Q, D, z0⟩ := G
  obtain ⟨hx, hb, -⟩ := h0
  subst hn
  intro hP H locs ls h1 h2 h3
  by_cases hc : x = y
  · rw [if_pos hc] at hP
    exact lv_icmp_ne hx hb d ht (fun h => absurd hc h) (fun _ => kt hP H locs ls h1 h2 h3)
  · rw [if_neg hc] at hP
    exact lv_icmp_ne hx hb d ht (fun _ => kf hP H locs ls h1 h2 h3) (fun h => absurd h hc)
theorem zr_if_eq {τ : Type} (C : Option τ → Prop) {o1 o2 : Option τ} {x : Int32} {off : Int} {tgt : Nat} (h0 : zFix G cc own nL ret rm) (d : decode cc pc = .ok (.ifCond .eq off, 3)) (ht : (pc : Int) + off = (tgt : Int)) (hn : pc + 3 = n) (kt : zV G nL S ce sl tgt lv st (C o1)) (kf : zV G nL S ce sl n lv st (C o2)) : zV G nL S ce sl pc lv (.int x :: st) (C (if x = 0 then o1 else o2)) := by
  obtain ⟨p, l, e, R, s, m, args, below, meth, c, Q, D, z0⟩ := G
  obtain ⟨hx, hb, -⟩ := h0
  subst hn
  intro hP H locs ls h1 h2 h3
  by_cases hc : x = 0
  · rw [if_pos hc] at hP
    exact lv_if_eq hx hb d ht (fun _ => kt hP H locs ls h1 h2 h3) (fun h => absurd hc h)
  · rw [if_neg hc] at hP
    exact lv_if_eq hx hb d ht (fun h => absurd h hc) (fun _ => kf hP H locs ls h1 h2 h3)
theorem zr_if_ne {τ : Type} (C : Option τ → Prop) {o1 o2 : Option τ} {x : Int32} {off : Int} {tgt : Nat} (h0 : zFix G cc own nL ret rm) (d : decode cc pc = .ok (.ifCond .ne off, 3)) (ht : (pc : Int) + off = (tgt : Int)) (hn : pc + 3 = n) (kt : zV G nL S ce sl n lv st (C o1)) (kf : zV G nL S ce sl tgt lv st (C o2)) : zV G nL S ce sl pc lv (.int x :: st) (C (if x = 0 then o1 else o2)) := by
  obtain ⟨p, l, e, R, s, m, args, below, meth, c, Q, D, z0⟩ := G
  obtain ⟨hx, hb, -⟩ := h0
  subst hn
  intro hP H locs ls h1 h2 h3
  by_cases hc : x = 0
  · rw [if_pos hc] at hP
    exact lv_if_ne hx hb d ht (fun h => absurd hc h) (fun _ => kt hP H locs ls h1 h2 h3)
  · rw [if_neg hc] at hP
    exact lv_if_ne hx hb d ht (fun _ => kf hP H locs ls h1 h2 h3) (fun h => absurd h hc)
theorem zr_if_lt {τ : Type} (C : Option τ → Prop) {o1 o2 : Option τ} {x : Int32} {off : Int} {tgt : Nat} (h0 : zFix G cc own nL ret rm) (d : decode cc pc = .ok (.ifCond .lt off, 3)) (ht : (pc : Int) + off = (tgt : Int)) (hn : pc + 3 = n) (kt : zV G nL S ce sl tgt lv st (C o1)) (kf : zV G nL S ce sl n lv st (C o2)) : zV G nL S ce sl pc lv (.int x :: st) (C (if x < 0 then o1 else o2)) := by
  obtain ⟨p, l, e, R, s, m, args, below, meth, c, Q, D, z0⟩ := G
  obtain ⟨hx, hb, -⟩ := h0
  subst hn
  intro hP H locs ls h1 h2 h3
  by_cases hc : x < 0
  · rw [if_pos hc] at hP
    exact lv_if_lt hx hb d ht (fun _ => kt hP H locs ls h1 h2 h3) (fun h => absurd hc h)
  · rw [if_neg hc] at hP
    exact lv_if_lt hx hb d ht (fun h => absurd h hc) (fun _ => kf hP H locs ls h1 h2 h3)
theorem zr_if_ge {τ : Type} (C : Option τ → Prop) {o1 o2 : Option τ} {x : Int32} {off : Int} {tgt : Nat} (h0 : zFix G cc own nL ret rm) (d : decode cc pc = .ok (.ifCond .ge off, 3)) (ht : (pc : Int) + off = (tgt : Int)) (hn : pc + 3 = n) (kt : zV G nL S ce sl tgt lv st (C o1)) (kf : zV G nL S ce sl n lv st (C o2)) : zV G nL S ce sl pc lv (.int x :: st) (C (if 0 ≤ x then o1 else o2)) := by
  obtain ⟨p, l, e, R, s, m, args, below, meth, c, Q, D, z0⟩ := G
  obtain ⟨hx, hb, -⟩ := h0
  subst hn
  intro hP H locs ls h1 h2 h3
  by_cases hc : 0 ≤ x
  · rw [if_pos hc] at hP
    exact lv_if_ge hx hb d ht (fun _ => kt hP H locs ls h1 h2 h3) (fun h => absurd hc h)
  · rw [if_neg hc] at hP
    exact lv_if_ge hx hb d ht (fun h => absurd h hc) (fun _ => kf hP H locs ls h1 h2 h3)
theorem zr_if_gt {τ : Type} (C : Option τ → Prop) {o1 o2 : Option τ} {x : Int32} {off : Int} {tgt : Nat} (h0 : zFix G cc own nL ret rm) (d : decode cc pc = .ok (.ifCond .gt off, 3)) (ht : (pc : Int) + off = (tgt : Int)) (hn : pc + 3 = n) (kt : zV G nL S ce sl tgt lv st (C o1)) (kf : zV G nL S ce sl n lv st (C o2)) : zV G nL S ce sl pc lv (.int x :: st) (C (if 0 < x then o1 else o2)) := by
  obtain ⟨p, l, e, R, s, m, args, below, meth, c, Q, D, z0⟩ := G
  obtain ⟨hx, hb, -⟩ := h0
  subst hn
  intro hP H locs ls h1 h2 h3
  by_cases hc : 0 < x
  · rw [if_pos hc] at hP
    exact lv_if_gt hx hb d ht (fun _ => kt hP H locs ls h1 h2 h3) (fun h => absurd hc h)
  · rw [if_neg hc] at hP
    exact lv_if_gt hx hb d ht (fun h => absurd h hc) (fun _ => kf hP H locs ls h1 h2 h3)
theorem zr_if_le {τ : Type} (C : Option τ → Prop) {o1 o2 : Option τ} {x : Int32} {off : Int} {tgt : Nat} (h0 : zFix G cc own nL ret rm) (d : decode cc pc = .ok (.ifCond .le off, 3)) (ht : (pc : Int) + off = (tgt : Int)) (hn : pc + 3 = n) (kt : zV G nL S ce sl tgt lv st (C o1)) (kf : zV G nL S ce sl n lv st (C o2)) : zV G nL S ce sl pc lv (.int x :: st) (C (if x ≤ 0 then o1 else o2)) := by
  obtain ⟨p, l, e, R, s, m, args, below, meth, c, Q, D, z0⟩ := G
  obtain ⟨hx, hb, -⟩ := h0
  subst hn
  intro hP H locs ls h1 h2 h3
  by_cases hc : x ≤ 0
  · rw [if_pos hc] at hP
    exact lv_if_le hx hb d ht (fun _ => kt hP H locs ls h1 h2 h3) (fun h => absurd hc h)
  · rw [if_neg hc] at hP
    exact lv_if_le hx hb d ht (fun h => absurd h hc) (fun _ => kf hP H locs ls h1 h2 h3)
theorem zr_nullR {a : Nat} {off : Int} (h0 : zFix G cc own nL ret rm) (d : decode cc pc = .ok (.ifnull off, 3)) (hn : pc + 3 = n) (k : zV G nL S ce sl n lv st P) : zV G nL S ce sl pc lv (.ref a :: st) P := by
  obtain ⟨p, l, e, R, s, m, args, below, meth, c, Q, D, z0⟩ := G
  obtain ⟨hx, hb, -⟩ := h0
  subst hn
  intro hP H locs ls h1 h2 h3
  exact lv_ifnull hx hb d (k hP H locs ls h1 h2 h3)
theorem zr_nonnullQ {τ : Type} (C : Option τ → Prop) {r : Option Nat} {o1 : Option τ} {o2 : Nat → Option τ} {off : Int} {tgt : Nat} (h0 : zFix G cc own nL ret rm) (d : decode cc pc = .ok (.ifnonnull off, 3)) (ht : (pc : Int) + off = (tgt : Int)) (hn : pc + 3 = n) (k1 : r = none → zV G nL S ce sl n lv st (C o1)) (k2 : ∀ a, r = some a → zV G nL S ce sl tgt lv st (C (o2 a))) : zV G nL S ce sl pc lv (va_rf r :: st) (C (zmq r o1 o2)) := by
  obtain ⟨p, l, e, R, s, m, args, below, meth, c, Q, D, z0⟩ := G
  obtain ⟨hx, hb, -⟩ := h0
  subst hn
  intro hP H locs ls h1 h2 h3
  cases r with
  | none => exact lv_ifnonnullN hx hb d (k1 rfl hP H locs ls h1 h2 h3)
  | some a => exact lv_ifnonnull hx hb d ht (k2 a rfl hP H locs ls h1 h2 h3)
theorem zr_idiv {τ : Type} (C : Option τ → Prop) (hC : ¬ C none) {x y : Int32} {o : Int32 → Option τ} (h0 : zFix G cc own nL ret rm) (d : decode cc pc = .ok (.idiv, 1)) (hn : pc + 1 = n) (k : ∀ v : Int32, zV G nL S ce sl n lv (.int v :: st) (C (o v))) : zV G nL S ce sl pc lv (.int y :: .int x :: st) (C (Option.bind (zdiv x y) o)) := by
  by_cases hy : y = 0
  · have hz : zdiv x y = none := by unfold zdiv; rw [if_pos hy]
    rw [hz]
    exact zv_imp (P' := False) (fun h => hC h) (by obtain ⟨p, l, e, R, s, m, args, below, meth, c, Q, D, z0⟩ := G; exact fun h => h.elim)
  · have hz : zdiv x y = some (x / y) := by unfold zdiv; rw [if_neg hy]
    rw [hz]
    exact zr_idivK h0 hy d hn (k _)
theorem zr_irem {τ : Type} (C : Option τ → Prop) (hC : ¬ C none) {x y : Int32} {o : Int32 → Option τ} (h0 : zFix G cc own nL ret rm) (d : decode cc pc = .ok (.irem, 1)) (hn : pc + 1 = n) (k : ∀ v : Int32, zV G nL S ce sl n lv (.int v :: st) (C (o v))) : zV G nL S ce sl pc lv (.int y :: .int x :: st) (C (Option.bind (zrem x y) o)) := by
  by_cases hy : y = 0
  · have hz : zrem x y = none := by unfold zrem; rw [if_pos hy]
    rw [hz]
    exact zv_imp (P' := False) (fun h => hC h) (by obtain ⟨p, l, e, R, s, m, args, below, meth, c, Q, D, z0⟩ := G; exact fun h => h.elim)
  · have hz : zrem x y = some (x % y) := by unfold zrem; rw [if_neg hy]
    rw [hz]
    exact zr_iremK h0 hy d hn (k _)
/-- a class of ours: its number, name, fields; its words are in the list -/
def zCls (ci : Nat) (R : String) (T : u_T) (N : Nat) (ty : Nat → FieldType) : Prop := vwCl[ci]? = some (R, T, N) ∧ (∀ w ∈ u_ws R T N, w ∈ zTbl) ∧ (∀ k, k < N → parseFieldDescriptor (T k).2.2.1 = some (ty k)) ∧ (∀ a, a < N → ∀ b, b < N → a ≠ b → (T a).2.1 ≠ (T b).2.1)
theorem zobj {D : ZD} {z0 : Nat} {H : Heap} {a ci : Nat} {fs : List Value} {R : String} {T : u_T} {N : Nat} (h : zHp D z0 S H) (ha : S.1 a = some (.inr (ci, fs))) (hc : vwCl[ci]? = some (R, T, N)) : t_OB a (D.1 ci) N (D.2.1 ci) H (vp_V fs) := by
  obtain ⟨r, h1, h2⟩ := h.1.1 a _ ha
  have hr : r = (R, T, N) := Option.some.inj (h1.symm.trans hc)
  subst hr
  exact h2
theorem zarr {D : ZD} {z0 : Nat} {H : Heap} {a t : Nat} {x : vp_A} (h : zHp D z0 S H) (ha : S.1 a = some (.inl (t, x))) : H[a]? = some (vp_cell (D.2.2 t) x) := h.1.1 a _ ha
theorem zv_false : zV G nL S ce sl pc lv st False := by
  obtain ⟨p, l, e, R, s, m, args, below, meth, c, Q, D, z0⟩ := G
  exact fun h => h.elim
theorem zr_getI {τ : Type} (C : Option τ → Prop) (hC : ¬ C none) {o : Int32 → Option τ} {a ci k idx : Nat} {R : String} {T : u_T} {N : Nat} {ty : Nat → FieldType} (h0 : zFix G cc own nL ret rm) (hc : zCls ci R T N ty) (hk : k < N) (hw : Cond.fieldLink own idx (T k).1 (T k).2.1 (T k).2.2.1 ∈ zTbl) (d : decode cc pc = .ok (.getfield idx, 3)) (hn : pc + 3 = n) (kk : ∀ v : Int32, zV G nL S ce sl n lv (.int v :: st) (C (o v))) : zV G nL S ce sl pc lv (.ref a :: st) (C (Option.bind (zgI S a ci k) o)) := by
  cases hz : zgI S a ci k with
  | none => exact zv_imp (fun h => hC h) zv_false
  | some v =>
    have hfs : ∃ fs, S.1 a = some (.inr (ci, fs)) ∧ fs[k]? = some (.int v) := by
      unfold zgI at hz
      split at hz
      · next c0 fs hs =>
        split at hz
        · next hcc =>
          subst hcc
          refine ⟨fs, hs, ?_⟩
          split at hz
          · next v' hv => cases hz; exact hv
          · cases hz
        · cases hz
      · cases hz
    obtain ⟨fs, hs, hv⟩ := hfs
    have kv := kk v
    obtain ⟨p, l, e, R, s, m, args, below, meth, c, Q, D, z0⟩ := G
    obtain ⟨hx, hb, -, hown, hts, hvm, -⟩ := h0
    obtain ⟨hcl, hin, hty, hnm⟩ := hc
    subst hn
    intro hP H locs ls h1 h2 h3
    obtain ⟨cell, q2, q3, q4, q5⟩ := zobj h1 hs hcl
    obtain ⟨hS, hfc, kC, hkC, hkind⟩ := hvm.1.1 ci _ hcl
    obtain ⟨cf, kf, fi, f, hi, hsl⟩ := hS k hk
    refine W.getf hx hb hown (hts _ hw) hi (u_facts hfc hkC (u_lays hts hin hk) hi).1 q2 (by rw [q4]; exact fun h => by cases h) (v := .int v) ?_ rfl rfl d (kv hP H locs ls h1 h2 h3)
    rw [hsl]
    exact (q5 k hk).trans (by simp [vp_V, hv])
theorem zr_getR {τ : Type} (C : Option τ → Prop) (hC : ¬ C none) {o : Nat → Option τ} {a ci k idx : Nat} {R : String} {T : u_T} {N : Nat} {ty : Nat → FieldType} (h0 : zFix G cc own nL ret rm) (hc : zCls ci R T N ty) (hk : k < N) (hw : Cond.fieldLink own idx (T k).1 (T k).2.1 (T k).2.2.1 ∈ zTbl) (d : decode cc pc = .ok (.getfield idx, 3)) (hn : pc + 3 = n) (kk : ∀ v : Nat, zV G nL S ce sl n lv (.ref v :: st) (C (o v))) : zV G nL S ce sl pc lv (.ref a :: st) (C (Option.bind (zgR S a ci k) o)) := by
  cases hz : zgR S a ci k with
  | none => exact zv_imp (fun h => hC h) zv_false
  | some v =>
    have hfs : ∃ fs, S.1 a = some (.inr (ci, fs)) ∧ fs[k]? = some (.ref v) := by
      unfold zgR at hz
      split at hz
      · next c0 fs hs =>
        split at hz
        · next hcc =>
          subst hcc
          refine ⟨fs, hs, ?_⟩
          split at hz
          · next v' hv => cases hz; exact hv
          · cases hz
        · cases hz
      · cases hz
    obtain ⟨fs, hs, hv⟩ := hfs
    have kv := kk v
    obtain ⟨p, l, e, R, s, m, args, below, meth, c, Q, D, z0⟩ := G
    obtain ⟨hx, hb, -, hown, hts, hvm, -⟩ := h0
    obtain ⟨hcl, hin, hty, hnm⟩ := hc
    subst hn
    intro hP H locs ls h1 h2 h3
    obtain ⟨cell, q2, q3, q4, q5⟩ := zobj h1 hs hcl
    obtain ⟨hS, hfc, kC, hkC, hkind⟩ := hvm.1.1 ci _ hcl
    obtain ⟨cf, kf, fi, f, hi, hsl⟩ := hS k hk
    refine W.getf hx hb hown (hts _ hw) hi (u_facts hfc hkC (u_lays hts hin hk) hi).1 q2 (by rw [q4]; exact fun h => by cases h) (v := .ref v) ?_ rfl rfl d (kv hP H locs ls h1 h2 h3)
    rw [hsl]
    exact (q5 k hk).trans (by simp [vp_V, hv])
theorem zr_putF {τ : Type} (C : Option τ → Prop) (hC : ¬ C none) {o : ZS → Option τ} {a ci k idx : Nat} {v : Value} {R : String} {T : u_T} {N : Nat} {ty : Nat → FieldType} (h0 : zFix G cc own nL ret rm) (hc : zCls ci R T N ty) (hk : k < N) (hw : Cond.fieldLink own idx (T k).1 (T k).2.1 (T k).2.2.1 ∈ zTbl) (hfin : (T k).2.2.2 = false) (hnar : narrow (ty k) v = v) (hfit : fits (ty k) v = true) (d : decode cc pc = .ok (.putfield idx, 3)) (hn : pc + 3 = n) (kk : ∀ S1 : ZS, zV G nL S1 ce sl n lv st (C (o S1))) : zV G nL S ce sl pc lv (v :: .ref a :: st) (C (Option.bind (zpF S a ci k v) o)) := by
  cases hz : zpF S a ci k v with
  | none => exact zv_imp (fun h => hC h) zv_false
  | some S1 =>
    have hfs : ∃ fs, S.1 a = some (.inr (ci, fs)) ∧ k < fs.length ∧ S1 = (va_up S.1 a (some (.inr (ci, fs.set k v))), S.2) := by
      unfold zpF at hz
      split at hz
      · next c0 fs hs =>
        split at hz
        · next hcc =>
          subst hcc
          split at hz
          · next hl => cases hz; exact ⟨fs, hs, hl, rfl⟩
          · cases hz
        · cases hz
      · cases hz
    obtain ⟨fs, hs, hl, rfl⟩ := hfs
    have kv := kk (va_up S.1 a (some (.inr (ci, fs.set k v))), S.2)
    obtain ⟨p, l, e, R, s, m, args, below, meth, c, Q, D, z0⟩ := G
    obtain ⟨hx, hb, -, hown, hts, hvm, -⟩ := h0
    obtain ⟨hcl, hin, hty, hnm⟩ := hc
    subst hn
    intro hP H locs ls h1 h2 h3
    have hap := va_apart (own := own) (s := s) hts hin ty hty hnm hvm.1 hcl
    obtain ⟨cell, q1, q2, q3, q4⟩ := zobj h1 hs hcl
    obtain ⟨hS, hfc, kC, hkC, hkind⟩ := hvm.1.1 ci _ hcl
    obtain ⟨cf, kf, fi, f, hi, hsl⟩ := hS k hk
    have hlay := hts _ (hin _ (u_in_lay hk))
    unfold u_lay at hlay
    rw [if_neg (by rw [hfin]; decide)] at hlay
    have hst := (u_facts hfc hkC (u_lays hts hin hk) hi).1
    have h6 := u_store hfc hkC hkind hlay hi (hty k hk) hnar hfit
    refine W.putK hx hb (f := f) ⟨hown, hts _ hw, ⟨_, _, _, hi⟩, hst⟩ (by rw [q2]; exact h6) q1 q3 (by rw [hsl]; exact k2_hasslot (q4 k hk)) rfl rfl d fun H' e1 e2 e3 => ?_
    rw [hsl] at e1 ⊢
    refine kv hP H' _ ls (h1.set hs (e := .inr (ci, fs.set k v)) ⟨_, hcl, t_OB.to (V := updV (vp_V fs) k v) ⟨_, e1, q2, q3, t_set q4 hap hk v⟩ (fun j _ => vp_updV_set hl v j)⟩ e3 e2) (h2.put e2 e3 (h1.2.1 a _ hs)) h3
theorem zr_putK {τ : Type} (C : Option τ → Prop) (hC : ¬ C none) {o : ZS → Option τ} {a ci k idx : Nat} {v : Value} {R : String} {T : u_T} {N : Nat} {ty : Nat → FieldType} (h0 : zFix G cc own nL ret rm) (hc : zCls ci R T N ty) (hk : k < N) (hw : Cond.fieldLink own idx (T k).1 (T k).2.1 (T k).2.2.1 ∈ zTbl) (hfin : (T k).2.2.2 = true) (hini : zIni G) (hdecl : (T k).1 = own) (hnar : narrow (ty k) v = v) (hfit : fits (ty k) v = true) (d : decode cc pc = .ok (.putfield idx, 3)) (hn : pc + 3 = n) (kk : ∀ S1 : ZS, zV G nL S1 ce sl n lv st (C (o S1))) : zV G nL S ce sl pc lv (v :: .ref a :: st) (C (Option.bind (zpF S a ci k v) o)) := by
  cases hz : zpF S a ci k v with
  | none => exact zv_imp (fun h => hC h) zv_false
  | some S1 =>
    have hfs : ∃ fs, S.1 a = some (.inr (ci, fs)) ∧ k < fs.length ∧ S1 = (va_up S.1 a (some (.inr (ci, fs.set k v))), S.2) := by
      unfold zpF at hz
      split at hz
      · next c0 fs hs =>
        split at hz
        · next hcc =>
          subst hcc
          split at hz
          · next hl => cases hz; exact ⟨fs, hs, hl, rfl⟩
          · cases hz
        · cases hz
      · cases hz
    obtain ⟨fs, hs, hl, rfl⟩ := hfs
    have kv := kk (va_up S.1 a (some (.inr (ci, fs.set k v))), S.2)
    obtain ⟨p, l, e, R, s, m, args, below, meth, c, Q, D, z0⟩ := G
    obtain ⟨hx, hb, -, hown, hts, hvm, -⟩ := h0
    obtain ⟨hcl, hin, hty, hnm⟩ := hc
    subst hn
    intro hP H locs ls h1 h2 h3
    have hap := va_apart (own := own) (s := s) hts hin ty hty hnm hvm.1 hcl
    obtain ⟨cell, q1, q2, q3, q4⟩ := zobj h1 hs hcl
    obtain ⟨hS, hfc, kC, hkC, hkind⟩ := hvm.1.1 ci _ hcl
    obtain ⟨cf, kf, fi, f, hi, hsl⟩ := hS k hk
    have hlay := hts _ (hin _ (u_in_lay hk))
    unfold u_lay at hlay
    rw [if_pos hfin] at hlay
    have hst := (u_facts hfc hkC (u_lays hts hin hk) hi).1
    have hcf : m.cls = cf := by
      obtain ⟨_, _, c', _, _, _, -, -, hf', -, -, -, hown2, -⟩ := Cond.laysFinal_spec hlay
      have e1 : c' = cf := by have := hi.symm.trans hf'; simp at this; exact this.1.symm
      rw [hdecl] at hown2
      rw [← e1]; exact Option.some.inj (hown.symm.trans hown2)
    have h6 := u_fits hfc hkC hkind (Or.inr hlay) hi (hty k hk) hnar hfit
    refine W.putFinK hx hb hown (hts _ hw) hi hst hcf hini (by rw [q2]; exact h6) q1 q3 (by rw [hsl]; exact k2_hasslot (q4 k hk)) rfl rfl d fun H' e1 e2 e3 => ?_
    rw [hsl] at e1 ⊢
    refine kv hP H' _ ls (h1.set hs (e := .inr (ci, fs.set k v)) ⟨_, hcl, t_OB.to (V := updV (vp_V fs) k v) ⟨_, e1, q2, q3, t_set q4 hap hk v⟩ (fun j _ => vp_updV_set hl v j)⟩ e3 e2) (h2.put e2 e3 (h1.2.1 a _ hs)) h3
theorem zr_iaload {τ : Type} (C : Option τ → Prop) (hC : ¬ C none) {o : Int32 → Option τ} {a : Nat} {i : Int32} (h0 : zFix G cc own nL ret rm) (d : decode cc pc = .ok (.iaload, 1)) (hn : pc + 1 = n) (kk : ∀ v : Int32, zV G nL S ce sl n lv (.int v :: st) (C (o v))) : zV G nL S ce sl pc lv (.int i :: .ref a :: st) (C (Option.bind (zaI S a 0 i) o)) := by
  cases hz : zaI S a 0 i with
  | none => exact zv_imp (fun h => hC h) zv_false
  | some v =>
    have hfs : ∃ (m : Nat) (f : Nat → Int32), S.1 a = some (.inl (0, m, .inl f)) ∧ ¬ (i < 0 ∨ m ≤ i.toNatClampNeg) ∧ v = f i.toNatClampNeg := by
      unfold zaI at hz
      split at hz
      · next u m f hs =>
        split at hz
        · next hcc =>
          cases hz
          exact ⟨m, f, by rw [hs, hcc.1], hcc.2, rfl⟩
        · cases hz
      · cases hz
    obtain ⟨N, f, hs, hin, rfl⟩ := hfs
    have kv := kk (f i.toNatClampNeg)
    obtain ⟨p, l, e, R, s, m, args, below, meth, c, Q, D, z0⟩ := G
    obtain ⟨hx, hb, -, hown, hts, hvm, -⟩ := h0
    subst hn
    intro hP H locs ls h1 h2 h3
    have hlt : i.toNatClampNeg < N := Nat.not_le.mp fun q => hin (Or.inr q)
    exact W.iald (v := .int (f i.toNatClampNeg)) hx hb (zarr h1 hs) ((hvm.1.2 0 _ rfl).1 N (fun j => .int (f j))) (fun q => by cases q) (by show ¬ (i < 0 ∨ (arrV _ _ _).slots.size ≤ _); rw [arrV_size]; exact hin) (by show (arrV _ _ _).slots[_]? = _; rw [arrV_read _ _ hlt]) rfl rfl d (kv hP H locs ls h1 h2 h3)
theorem zr_laload {τ : Type} (C : Option τ → Prop) (hC : ¬ C none) {o : Int64 → Option τ} {a : Nat} {i : Int32} (h0 : zFix G cc own nL ret rm) (d : decode cc pc = .ok (.laload, 1)) (hn : pc + 1 = n) (kk : ∀ v : Int64, zV G nL S ce sl n lv (.long v :: st) (C (o v))) : zV G nL S ce sl pc lv (.int i :: .ref a :: st) (C (Option.bind (zaJ S a i) o)) := by
  cases hz : zaJ S a i with
  | none => exact zv_imp (fun h => hC h) zv_false
  | some v =>
    have hfs : ∃ (m : Nat) (f : Nat → Int64), S.1 a = some (.inl (1, m, .inr (.inl f))) ∧ ¬ (i < 0 ∨ m ≤ i.toNatClampNeg) ∧ v = f i.toNatClampNeg := by
      unfold zaJ at hz
      split at hz
      · next u m f hs =>
        split at hz
        · next hcc =>
          cases hz
          exact ⟨m, f, by rw [hs, hcc.1], hcc.2, rfl⟩
        · cases hz
      · cases hz
    obtain ⟨N, f, hs, hin, rfl⟩ := hfs
    have kv := kk (f i.toNatClampNeg)
    obtain ⟨p, l, e, R, s, m, args, below, meth, c, Q, D, z0⟩ := G
    obtain ⟨hx, hb, -, hown, hts, hvm, -⟩ := h0
    subst hn
    intro hP H locs ls h1 h2 h3
    have hlt : i.toNatClampNeg < N := Nat.not_le.mp fun q => hin (Or.inr q)
    exact W.lald (v := .long (f i.toNatClampNeg)) hx hb (zarr h1 hs) ((hvm.1.2 1 _ rfl).1 N (fun j => .long (f j))) (fun q => by cases q) (by show ¬ (i < 0 ∨ (arrV _ _ _).slots.size ≤ _); rw [arrV_size]; exact hin) (by show (arrV _ _ _).slots[_]? = _; rw [arrV_read _ _ hlt]) rfl rfl d (kv hP H locs ls h1 h2 h3)
theorem zr_aaload {τ : Type} (C : Option τ → Prop) (hC : ¬ C none) {o : Option Nat → Option τ} {a t : Nat} {CN : String} {i : Int32} (h0 : zFix G cc own nL ret rm) (ht : zTy[t]? = some (.object CN)) (d : decode cc pc = .ok (.aaload, 1)) (hn : pc + 1 = n) (kk : ∀ v : Option Nat, zV G nL S ce sl n lv (va_rf v :: st) (C (o v))) : zV G nL S ce sl pc lv (.int i :: .ref a :: st) (C (Option.bind (zaQ S a t i) o)) := by
  cases hz : zaQ S a t i with
  | none => exact zv_imp (fun h => hC h) zv_false
  | some v =>
    have hfs : ∃ (m : Nat) (f : Nat → Option Nat), S.1 a = some (.inl (t, m, .inr (.inr (.inr (.inr f))))) ∧ ¬ (i < 0 ∨ m ≤ i.toNatClampNeg) ∧ v = f i.toNatClampNeg := by
      unfold zaQ at hz
      split at hz
      · next u m f hs =>
        split at hz
        · next hcc =>
          cases hz
          exact ⟨m, f, by rw [hs, hcc.1], hcc.2, rfl⟩
        · cases hz
      · cases hz
    obtain ⟨N, f, hs, hin, rfl⟩ := hfs
    have kv := kk (f i.toNatClampNeg)
    obtain ⟨p, l, e, R, s, m, args, below, meth, c, Q, D, z0⟩ := G
    obtain ⟨hx, hb, -, hown, hts, hvm, -⟩ := h0
    subst hn
    intro hP H locs ls h1 h2 h3
    have hlt : i.toNatClampNeg < N := Nat.not_le.mp fun q => hin (Or.inr q)
    exact W.aald (v := va_rf (f i.toNatClampNeg)) (ty := .object CN) hx hb (zarr h1 hs) ((hvm.1.2 t _ (zTys_at D ht)).1 N (fun j => va_rf (f j))) rfl (fun q => by cases q) (by show ¬ (i < 0 ∨ (arrV _ _ _).slots.size ≤ _); rw [arrV_size]; exact hin) (by show (arrV _ _ _).slots[_]? = _; rw [arrV_read _ _ hlt]) rfl rfl d (kv hP H locs ls h1 h2 h3)
theorem zr_iastore {τ : Type} (C : Option τ → Prop) (hC : ¬ C none) {o : ZS → Option τ} {a : Nat} {i : Int32} {x : Int32} (h0 : zFix G cc own nL ret rm) (d : decode cc pc = .ok (.iastore, 1)) (hn : pc + 1 = n) (kk : ∀ S1 : ZS, zV G nL S1 ce sl n lv st (C (o S1))) : zV G nL S ce sl pc lv (.int x :: .int i :: .ref a :: st) (C (Option.bind (zsI S a 0 i x) o)) := by
  cases hz : zsI S a 0 i x with
  | none => exact zv_imp (fun h => hC h) zv_false
  | some S1 =>
    have hfs : ∃ (m : Nat) (f : Nat → Int32), S.1 a = some (.inl (0, m, .inl f)) ∧ ¬ (i < 0 ∨ m ≤ i.toNatClampNeg) ∧ S1 = (va_up S.1 a (some (.inl (0, m, .inl (va_up f i.toNatClampNeg x)))), S.2) := by
      unfold zsI at hz
      split at hz
      · next u m f hs =>
        split at hz
        · next hcc =>
          cases hz
          exact ⟨m, f, by rw [hs, hcc.1], hcc.2, by rw [hcc.1]⟩
        · cases hz
      · cases hz
    obtain ⟨N, f, hs, hin, rfl⟩ := hfs
    have kv := kk (va_up S.1 a (some (.inl (0, N, .inl (va_up f i.toNatClampNeg x)))), S.2)
    obtain ⟨p, l, e, R, s, m, args, below, meth, c, Q, D, z0⟩ := G
    obtain ⟨hx, hb, -, hown, hts, hvm, -⟩ := h0
    subst hn
    intro hP H locs ls h1 h2 h3
    refine W.iast hx hb (zarr h1 hs) ((hvm.1.2 0 _ rfl).1 N (fun j => .int (f j))) (fun q => by cases q) (by show ¬ (i < 0 ∨ (arrV _ _ _).slots.size ≤ _); rw [arrV_size]; exact hin) rfl rfl d fun H1 e z oq => ?_
    refine kv hP H1 _ ls (h1.set hs (e := .inl (0, N, .inl (va_up f i.toNatClampNeg x))) ?_ oq z) (h2.put z oq (h1.2.1 a _ hs)) h3
    show H1[a]? = some (vp_cell _ _)
    rw [e]
    rw [vp_cell_i, vp_cell_i, arrV_store]
    congr 2
    funext q
    by_cases hq : q = i.toNatClampNeg
    · subst hq
      simp [updV, va_up]
    · simp [updV, va_up, hq]
theorem zr_lastore {τ : Type} (C : Option τ → Prop) (hC : ¬ C none) {o : ZS → Option τ} {a : Nat} {i : Int32} {x : Int64} (h0 : zFix G cc own nL ret rm) (d : decode cc pc = .ok (.lastore, 1)) (hn : pc + 1 = n) (kk : ∀ S1 : ZS, zV G nL S1 ce sl n lv st (C (o S1))) : zV G nL S ce sl pc lv (.long x :: .int i :: .ref a :: st) (C (Option.bind (zsJ S a i x) o)) := by
  cases hz : zsJ S a i x with
  | none => exact zv_imp (fun h => hC h) zv_false
  | some S1 =>
    have hfs : ∃ (m : Nat) (f : Nat → Int64), S.1 a = some (.inl (1, m, .inr (.inl f))) ∧ ¬ (i < 0 ∨ m ≤ i.toNatClampNeg) ∧ S1 = (va_up S.1 a (some (.inl (1, m, .inr (.inl (va_up f i.toNatClampNeg x))))), S.2) := by
      unfold zsJ at hz
      split at hz
      · next u m f hs =>
        split at hz
        · next hcc =>
          cases hz
          exact ⟨m, f, by rw [hs, hcc.1], hcc.2, by rw [hcc.1]⟩
        · cases hz
      · cases hz
    obtain ⟨N, f, hs, hin, rfl⟩ := hfs
    have kv := kk (va_up S.1 a (some (.inl (1, N, .inr (.inl (va_up f i.toNatClampNeg x))))), S.2)
    obtain ⟨p, l, e, R, s, m, args, below, meth, c, Q, D, z0⟩ := G
    obtain ⟨hx, hb, -, hown, hts, hvm, -⟩ := h0
    subst hn
    intro hP H locs ls h1 h2 h3
    refine W.last hx hb (zarr h1 hs) ((hvm.1.2 1 _ rfl).1 N (fun j => .long (f j))) (fun q => by cases q) (by show ¬ (i < 0 ∨ (arrV _ _ _).slots.size ≤ _); rw [arrV_size]; exact hin) rfl rfl d fun H1 e z oq => ?_
    refine kv hP H1 _ ls (h1.set hs (e := .inl (1, N, .inr (.inl (va_up f i.toNatClampNeg x)))) ?_ oq z) (h2.put z oq (h1.2.1 a _ hs)) h3
    show H1[a]? = some (vp_cell _ _)
    rw [e]
    rw [vp_cell_l, vp_cell_l, arrV_store]
    congr 2
    funext q
    by_cases hq : q = i.toNatClampNeg
    · subst hq
      simp [updV, va_up]
    · simp [updV, va_up, hq]
def znar (x : Int32) : Int32 := vp_nar .boolean x
theorem zr_aastore {τ : Type} (C : Option τ → Prop) (hC : ¬ C none) {o : ZS → Option τ} {a t ci v : Nat} {i : Int32} {R : String} {T : u_T} {N : Nat} {ty : Nat → FieldType} (h0 : zFix G cc own nL ret rm) (hc : zCls ci R T N ty) (ht : zTy[t]? = some (.object R)) (d : decode cc pc = .ok (.aastore, 1)) (hn : pc + 1 = n) (kk : ∀ S1 : ZS, zV G nL S1 ce sl n lv st (C (o S1))) : zV G nL S ce sl pc lv (.ref v :: .int i :: .ref a :: st) (C (Option.bind (zsQ S a t ci i v) o)) := by
  cases hz : zsQ S a t ci i v with
  | none => exact zv_imp (fun h => hC h) zv_false
  | some S1 =>
    have hfs : ∃ (m : Nat) (f : Nat → Option Nat) (fs : List Value), S.1 a = some (.inl (t, m, .inr (.inr (.inr (.inr f))))) ∧ ¬ (i < 0 ∨ m ≤ i.toNatClampNeg) ∧ S.1 v = some (.inr (ci, fs)) ∧ S1 = (va_up S.1 a (some (.inl (t, m, .inr (.inr (.inr (.inr (va_up f i.toNatClampNeg (some v)))))))), S.2) := by
      unfold zsQ at hz
      split at hz
      · next u m f hs =>
        split at hz
        · next hcc =>
          unfold zcl at hz
          split at hz
          · next c0 fs hv =>
            split at hz
            · next hcv =>
              cases hz
              exact ⟨m, f, fs, by rw [hs, hcc.1], hcc.2, by rw [hv, hcv], by rw [hcc.1]⟩
            · cases hz
          · cases hz
        · cases hz
      · cases hz
    obtain ⟨N9, f, vs, hs, hin, hv, rfl⟩ := hfs
    have kv := kk (va_up S.1 a (some (.inl (t, N9, .inr (.inr (.inr (.inr (va_up f i.toNatClampNeg (some v)))))))), S.2)
    obtain ⟨p, l, e, R9, s, m, args, below, meth, c, Q, D, z0⟩ := G
    obtain ⟨hx, hb, -, hown, hts, hvm, -⟩ := h0
    obtain ⟨hcl, -⟩ := hc
    subst hn
    intro hP H locs ls h1 h2 h3
    have hlt : i.toNatClampNeg < N9 := Nat.not_le.mp fun q => hin (Or.inr q)
    have h00 : ¬ i < 0 := fun q => hin (Or.inl q)
    obtain ⟨cellV, g1, g2, g3, -⟩ := zobj h1 hv hcl
    have hcls := (hvm.1.1 ci _ hcl).2
    obtain ⟨kA, comp, k1, k2, k3, -⟩ := (hvm.1.2 t _ (zTys_at D ht)).2
    have hcomp : comp = D.1 ci := Option.some.inj (k3.symm.trans hcls.1)
    subst hcomp
    obtain ⟨kC, hkC, -⟩ := hcls.2
    refine W.aast hx hb (zarr h1 hs) (fun q h => by cases h) (fun h => by cases h) k1 k2 rfl hkC ⟨h00, by show _ < (arrV _ _ _).slots.size; rw [arrV_size]; exact hlt⟩ g1 (fun q h => by rw [g3] at h; cases h) (by rw [g2]; exact hkC) (by rw [g2]; exact va_assign hcls) rfl rfl d fun H1 e z oq => ?_
    refine kv hP H1 _ ls (h1.set hs (e := .inl (t, N9, .inr (.inr (.inr (.inr (va_up f i.toNatClampNeg (some v))))))) ?_ oq z) (h2.put z oq (h1.2.1 a _ hs)) h3
    show H1[a]? = some (vp_cell _ _)
    rw [e]
    rw [vp_cell_q, vp_cell_q, arrV_store]
    congr 2
    funext q
    by_cases hq : q = i.toNatClampNeg
    · subst hq
      simp [updV, va_up, va_rf]
    · simp [updV, va_up, hq]
theorem zr_alen {τ : Type} (C : Option τ → Prop) (hC : ¬ C none) {o : Int32 → Option τ} {a : Nat} (h0 : zFix G cc own nL ret rm) (d : decode cc pc = .ok (.arraylength, 1)) (hn : pc + 1 = n) (kk : ∀ v : Int32, zV G nL S ce sl n lv (.int v :: st) (C (o v))) : zV G nL S ce sl pc lv (.ref a :: st) (C (Option.bind (zal S a) o)) := by
  cases hz : zal S a with
  | none => exact zv_imp (fun h => hC h) zv_false
  | some v =>
    have hfs : ∃ (t : Nat) (x : vp_A), S.1 a = some (.inl (t, x)) ∧ t < 5 ∧ v = Int32.ofNat x.1 := by
      unfold zal at hz
      split at hz
      · next u m x hs =>
        split at hz
        · next hu =>
          cases hz
          exact ⟨u, (m, x), hs, hu, rfl⟩
        · cases hz
      · cases hz
    obtain ⟨t, x, hs, hu, rfl⟩ := hfs
    have kv := kk (Int32.ofNat x.1)
    obtain ⟨ty, hty⟩ : ∃ ty, zTy[t]? = some ty := ⟨zTy[t], List.getElem?_eq_getElem (by simpa using hu)⟩
    obtain ⟨p, l, e, R, s, m, args, below, meth, c, Q, D, z0⟩ := G
    obtain ⟨hx, hb, -, hown, hts, hvm, -⟩ := h0
    subst hn
    intro hP H locs ls h1 h2 h3
    have hcell : va_P (zG D) vwCl [(a, .inl (D.2.2 t, x))] H := by
      intro k q hk
      match k, hk with
      | 0, hk => cases hk; exact zarr h1 hs
      | k + 1, hk => simp at hk
    exact va_alen (tys := zTys D) (D := zG D) (cl := vwCl) hx hb hvm.1 hcell 0 t rfl (zTys_at D hty) rfl d (kv hP H locs ls h1 h2 h3)
theorem zr_newarray {t N : Nat} {atype : ArrayType} {ty : FieldType} {i : Int32} {ce' sl' : Nat} (h0 : zFix G cc own nL ret rm) (ht : zTy[t]? = some ty) (hty : newarray.typeOf atype = ty) (ha : ∀ cA : ClassId, vp_cell cA (match zn0 t N with | .inl x => x.2 | .inr _ => (0, .inl (fun _ => 0))) = arrV cA N (fun _ => defaultValue ty)) (hz : zn0 t N = .inl (t, (match zn0 t N with | .inl x => x.2 | .inr _ => (0, .inl (fun _ => 0))))) (hprim : ∀ X, ty ≠ .object X) (hw : Cond.arrayClass ty ∈ zTbl) (hi : ¬ i < 0) (hN : i.toNatClampNeg = N) (hby : N * componentBytes ty ≤ 536870912) (hce : ce + 1 = ce') (hsl : sl + N = sl') (h1c : ce' ≤ rm.cells) (h1s : sl' ≤ rm.slots) (d : decode cc pc = .ok (.newarray atype, 2)) (hn : pc + 2 = n) (k : zV G nL (zna S t N) ce' sl' n lv (.ref S.2 :: st) P) : zV G nL S ce sl pc lv (.int i :: st) P := by
  obtain ⟨p, l, e, R, s, m, args, below, meth, c, Q, D, z0⟩ := G
  obtain ⟨hx, hb, -, hown, hts, hvm, -, -, rfl, -⟩ := h0
  subst hn
  subst hty
  subst hce
  subst hsl
  intro hP H locs ls h1 h2 h3
  refine va_newaK hx hb (hts _ hw) rfl d rfl hi hN hby h1c h1s rfl fun H1 cA e1 z1 o1 hAr hNm => ?_
  have hc2 : cA = D.2.2 t := by
    have h9 := (hvm.1.2 t _ (zTys_at D ht)).2
    unfold va_RA at h9
    split at h9
    · next heq =>
      have heq9 : newarray.typeOf atype = FieldType.object _ := heq
      exact absurd heq9 (hprim _)
    · exact Option.some.inj (hNm.symm.trans h9)
  subst hc2
  have hS2 : H.size = S.2 := h1.1.2
  have hq : zHp D z0 (zna S t N) H1 := by
    refine h1.push (e := zn0 t N) ?_ o1 z1
    rw [hz]
    show H1[S.2]? = some (vp_cell _ _)
    rw [ha, ← hS2]
    exact e1
  rw [hS2]
  exact k hP H1 locs ls hq ⟨Nat.le_trans h2.1 (by omega), fun x g1 g2 => (o1 x (Nat.lt_of_lt_of_le g1 h2.1)).trans (h2.2.1 x g1 g2), h2.2.2⟩ h3
theorem zr_anewarray {t N idx : Nat} {CN : String} {i : Int32} {ce' sl' : Nat} (h0 : zFix G cc own nL ret rm) (ht : zTy[t]? = some (.object CN)) (hao : zAOs CN) (h3t : 3 ≤ t) (hw : Cond.classLink own idx CN ∈ zTbl) (hi : ¬ i < 0) (hN : i.toNatClampNeg = N) (hby : N * 4 ≤ 536870912) (hce : ce + 1 = ce') (hsl : sl + N = sl') (h1c : ce' ≤ rm.cells) (h1s : sl' ≤ rm.slots) (d : decode cc pc = .ok (.anewarray idx, 3)) (hn : pc + 3 = n) (k : zV G nL (zna S t N) ce' sl' n lv (.ref S.2 :: st) P) : zV G nL S ce sl pc lv (.int i :: st) P := by
  obtain ⟨p, l, e, R, s, m, args, below, meth, c, Q, D, z0⟩ := G
  obtain ⟨hx, hb, -, hown, hts, hvm, -, -, rfl, -⟩ := h0
  subst hn
  subst hN
  subst hce
  subst hsl
  intro hP H locs ls h1 h2 h3
  refine W.anew hx hb hown (hts _ hw) (va_AO.use (hao _ hvm.2.2.1)) rfl d rfl hi hby h1c h1s fun cA kA comp f1 f2 f3 f4 => ?_
  generalize hH1 : H.push ({ cls := cA, slots := Array.replicate i.toNatClampNeg .null, vm := .none } : Cell) = H1
  have z1 : H1.size = H.size + 1 := by rw [← hH1, Array.size_push]
  have e1 : H1[H.size]? = some (arrV cA i.toNatClampNeg (fun _ => .null)) := by rw [← hH1, Array.getElem?_push_size, ← arrV_new]
  have o1 : ∀ q : Nat, q < H.size → H1[q]? = H[q]? := fun q hq => by rw [← hH1, Array.getElem?_push, if_neg (Nat.ne_of_lt hq)]
  have hc2 : cA = D.2.2 t := by
    obtain ⟨kA9, comp9, -, -, -, h9⟩ := (hvm.1.2 t _ (zTys_at D ht)).2
    exact Option.some.inj (f1.symm.trans h9)
  subst hc2
  have hS2 : H.size = S.2 := h1.1.2
  have hz : zn0 t i.toNatClampNeg = .inl (t, i.toNatClampNeg, .inr (.inr (.inr (.inr (fun _ => none))))) := by
    match t, h3t with
    | k + 3, _ => rfl
  have hq : zHp D z0 (zna S t i.toNatClampNeg) H1 := by
    refine h1.push (e := zn0 t i.toNatClampNeg) ?_ o1 z1
    rw [hz]
    show H1[S.2]? = some (vp_cell _ _)
    rw [vp_cell_q, ← hS2]
    exact e1
  rw [hS2]
  exact k hP H1 locs ls hq ⟨Nat.le_trans h2.1 (by omega), fun x g1 g2 => (o1 x (Nat.lt_of_lt_of_le g1 h2.1)).trans (h2.2.1 x g1 g2), h2.2.2⟩ h3
theorem zr_new {ci idx : Nat} {fs : List Value} {R : String} {T : u_T} {N : Nat} {ty : Nat → FieldType} {ce' sl' : Nat} (h0 : zFix G cc own nL ret rm) (hc : zCls ci R T N ty) (hfs : ∀ j, j < N → defaultValue (ty j) = vp_V fs j) (w1 : Cond.classLink own idx R ∈ zTbl) (w2 : Cond.instantiable R N ∈ zTbl) (w3 : Cond.initialized R ∈ zTbl) (hce : ce + 1 = ce') (hsl : sl + N = sl') (h1c : ce' ≤ rm.cells) (h1s : sl' ≤ rm.slots) (d : decode cc pc = .ok (.new idx, 3)) (hn : pc + 3 = n) (k : zV G nL (zno S ci fs) ce' sl' n lv (.ref S.2 :: st) P) : zV G nL S ce sl pc lv st P := by
  obtain ⟨p, l, e, R9, s, m, args, below, meth, c, Q, D, z0⟩ := G
  obtain ⟨hx, hb, -, hown, hts, hvm, -, -, rfl, -⟩ := h0
  obtain ⟨hcl, hin, hty, hnm⟩ := hc
  subst hn
  subst hce
  subst hsl
  intro hP H locs ls h1 h2 h3
  have hKn := hvm.1.1 ci _ hcl
  refine W.newcK hx hb hown (hts _ w1) (hts _ w2) (hts _ w3) rfl d h1c h1s hKn.2.1 rfl fun H1 kC hkC e1 z1 o1 => ?_
  have hS2 : H.size = S.2 := h1.1.2
  have hq : zHp D z0 (zno S ci fs) H1 := by
    refine h1.push (e := .inr (ci, fs)) ?_ o1 z1
    exact ⟨_, hcl, (u_born ty hts hin hKn hkC (by rw [← hS2]; exact e1) hty).to hfs⟩
  rw [hS2]
  exact k hP H1 locs ls hq ⟨Nat.le_trans h2.1 (by omega), fun x g1 g2 => (o1 x (Nat.lt_of_lt_of_le g1 h2.1)).trans (h2.2.1 x g1 g2), h2.2.2⟩ h3
theorem zr_objInit {a idx : Nat} (h0 : zFix G cc own nL ret rm) (w1 : Cond.methodLink own idx Lib.objectInit ∈ zTbl) (w2 : Cond.instanceMethod Lib.objectInit ∈ zTbl) (w3 : Cond.code Lib.objectInit ⟨#[0xb1]⟩ 1 none ∈ zTbl) (hf : 1 ≤ rm.frames) (hl : (st.map fun v => v.category).sum + 12 ≤ rm.locals) (d : decode cc pc = .ok (.invokespecial idx, 3)) (hn : pc + 3 = n) (k : zV G nL S ce sl n lv st P) : zV G nL S ce sl pc lv (.ref a :: st) P := by
  obtain ⟨p, l, e, R, s, m, args, below, meth, c, Q, D, z0⟩ := G
  obtain ⟨hx, hb, hml, hown, hts, hvm, -, -, rfl, -⟩ := h0
  subst hn
  intro hP H locs ls h1 h2 h3
  refine W.objInit hx hb hown (hts _ w1) (hts _ w2) (hts _ w3) rfl (by rw [hml]; exact h3.1) rfl d hf (by simpa [JFrame.monitorRoom] using hl) ?_
  exact k hP H locs ls h1 h2 h3
theorem zr_mmax {x y : Int32} {idx : Nat} (h0 : zFix G cc own nL ret rm) (w1 : Cond.methodLink own idx Lib.Math.max.name ∈ zTbl) (w2 : Cond.static Lib.Math.max.name ∈ zTbl) (w3 : Cond.initialized "java/lang/Math" ∈ zTbl) (w4 : Cond.code Lib.Math.max.name Lib.Math.max.code 2 (some .int) ∈ zTbl) (hf : 1 ≤ rm.frames) (hl : (st.map fun v => v.category).sum + 13 ≤ rm.locals) (h1c : ce ≤ rm.cells) (h1s : sl ≤ rm.slots) (d : decode cc pc = .ok (.invokestatic idx, 3)) (hn : pc + 3 = n) (k : zV G nL S ce sl n lv (.int (if x < y then y else x) :: st) P) : zV G nL S ce sl pc lv (.int y :: .int x :: st) P := by
  obtain ⟨p, l, e, R, s, m, args, below, meth, c, Q, D, z0⟩ := G
  obtain ⟨hx, hb, hml, hown, hts, hvm, -, -, rfl, -⟩ := h0
  subst hn
  intro hP H locs ls h1 h2 h3
  exact va_mmax hx hb (by rw [hml]; exact h3.1.symm) hown (hts _ w1) (hts _ w2) (hts _ w3) (hts _ w4) hf hl h1c h1s d (k hP H locs ls h1 h2 h3)
theorem zgoodL {pre : List Cond} {c : Cond} (hp : ∀ w ∈ pre, w ∈ zTbl) (hc : c ∈ zTbl) : GoodIn zTbl (pre ++ (c :: zTbl)) := by
  intro w hw
  have h1 : w ∈ zTbl := by
    rcases List.mem_append.mp hw with h | h
    · exact hp w h
    · rcases List.mem_cons.mp h with rfl | h
      · exact hc
      · exact h
  exact ⟨h1, good_of_word (List.mem_filter.mp h1).2⟩
def zRun (G : ZG) (nL : Nat) (S : ZS) (ce sl pc : Nat) (lv : List (Nat × Value)) (stk st : List Value) (mc ms : Nat) (res : Option Value) (S' : ZS) : Prop := match G with
  | (p, l, e, R, s, m, args, below, meth, c, Q, D, z0) => ∀ (H : Heap) (locs : List Loc) (ls : Array Slot), zHp D z0 S H → va_S (zA z0) s.heap H locs → lv_has ls nL lv → ∃ av, va_Run p l e R s m args below meth c H locs ce sl mc ms (F0 m pc ls stk) st (zQc D z0 res S' av) (zA z0)
def zRunT (G : ZG) (nL : Nat) (S : ZS) (ce sl pc : Nat) (lv : List (Nat × Value)) (stk st : List Value) (mc ms : Nat) (R9 : (Option Value × ZS) ⊕ ZX) : Prop := match G with
  | (p, l, e, R, s, m, args, below, meth, c, Q, D, z0) => ∀ (H : Heap) (locs : List Loc) (ls : Array Slot), zHp D z0 S H → va_S (zA z0) s.heap H locs → lv_has ls nL lv → ∃ av, vx_Run p l e R s m args below meth c H locs ce sl mc ms (F0 m pc ls stk) st (fun st9 oc t => ∃ v S', R9 = .inl (v, S') ∧ zQc D z0 v S' av st9 oc t) (fun E st9 t => ∃ E0 h, R9 = .inr (E0, h) ∧ zXc D z0 E0 h E st9 t) (zA z0)
abbrev zyOK (y : MethodName) (k : Nat) : Prop := y.cls ≠ "java/lang/invoke/MethodHandle" ∧ y.cls ≠ "java/lang/invoke/VarHandle" ∧ (parseMethodDescriptor y.desc).map (fun d => d.parameters.length) = some k
theorem zW_in {D : ZD} {z0 : Nat} {s : State} {H : Heap} {locs : List Loc} (hvm : zVm D s) (hst : zSt z0 s s.heap) (h1 : zHp D z0 S H) (h2 : va_S (zA z0) s.heap H locs) {U : State} (hU : U.heap = H) (hW : s.WarmedH U.vm) : zW D z0 S U := ⟨hvm.warm hW, by rw [hU]; exact h1, by rw [hU]; exact zSt.moved hW.alike (hst.kept h2)⟩
theorem zk_S {y : MethodName} {bytes : ByteArray} {maxL idx k : Nat} {retY : Option FieldType} {rmY : Room} {As stk : List Value} {S' : ZS} {res : Option Value} (h0 : zFix G cc own nL ret rm) (hM : ∀ l D z0, zMet l D z0 y bytes maxL retY rmY As S res S') (w1 : Cond.methodLink own idx y ∈ zTbl) (w2 : Cond.static y ∈ zTbl) (w3 : Cond.initialized y.cls ∈ zTbl) (w4 : Cond.code y bytes maxL retY ∈ zTbl) (hy : zyOK y k) (hk : As.length = k) (hR : rmY.frames + 1 ≤ rm.frames ∧ 8 + (maxL + 11) + rmY.locals ≤ rm.locals) (hstk : stk = As.reverse ++ st) (hcat : (st.map fun v => v.category).sum ≤ 8) (hc : ce + rmY.cells ≤ rm.cells ∧ sl + rmY.slots ≤ rm.slots) (d : decode cc pc = .ok (.invokestatic idx, 3)) : zRun G nL S ce sl pc lv stk st rmY.cells rmY.slots res S' := by
  obtain ⟨p, l, e, R, s, m, args, below, meth, c, Q, D, z0⟩ := G
  obtain ⟨hx, hb, hml, hown, hts, hvm, hst, -, rfl, -⟩ := h0
  subst hstk
  intro H locs ls h1 h2 h3
  exact ⟨_, va_runS (As := As) (rest := st) ⟨hx, hb, hml, hown, hts⟩ (hM l D z0) (va_cwS k hts (zgoodL (pre := [.methodLink own idx y, .static y, .initialized y.cls]) (fun w h => by simp only [List.mem_cons, List.not_mem_nil, or_false] at h; rcases h with rfl | rfl | rfl <;> assumption) w4) rfl rfl rfl hy hR) ⟨zW.blind, fun U hU hW => ⟨rfl, zW_in hvm hst h1 h2 hU hW⟩⟩ rfl hk h3.1 rfl (by simpa [JFrame.monitorRoom] using hcat) d hc⟩
theorem zk_V {y : MethodName} {bytes : ByteArray} {maxL idx k : Nat} {retY : Option FieldType} {rmY : Room} {As stk : List Value} {S' : ZS} {res : Option Value} {a ci : Nat} {R8 : String} {T : u_T} {N : Nat} {ty : Nat → FieldType} (h0 : zFix G cc own nL ret rm) (hcC : zCls ci R8 T N ty) (ha : ∃ fs, S.1 a = some (.inr (ci, fs))) (hM : ∀ l D z0, zMet l D z0 y bytes maxL retY rmY (.ref a :: As) S res S') (w1 : Cond.methodLink own idx y ∈ zTbl) (w2 : Cond.instanceMethod y ∈ zTbl) (w5 : Cond.selects y.cls y y ∈ zTbl) (w3 : Cond.initialized y.cls ∈ zTbl) (w4 : Cond.code y bytes maxL retY ∈ zTbl) (hyc : y.cls = R8) (hy : zyOK y k) (hk : As.length = k) (hR : rmY.frames + 1 ≤ rm.frames ∧ 8 + (maxL + 11) + rmY.locals ≤ rm.locals) (hstk : stk = As.reverse ++ .ref a :: st) (hcat : (st.map fun v => v.category).sum ≤ 8) (hc : ce + rmY.cells ≤ rm.cells ∧ sl + rmY.slots ≤ rm.slots) (d : decode cc pc = .ok (.invokevirtual idx, 3)) : zRun G nL S ce sl pc lv stk st rmY.cells rmY.slots res S' := by
  obtain ⟨p, l, e, R, s, m, args, below, meth, c, Q, D, z0⟩ := G
  obtain ⟨hx, hb, hml, hown, hts, hvm, hst, -, rfl, -⟩ := h0
  subst hstk
  subst hyc
  obtain ⟨fs, hs⟩ := ha
  obtain ⟨hcl, -⟩ := hcC
  intro H locs ls h1 h2 h3
  obtain ⟨cell, g1, g2, g3, -⟩ := zobj h1 hs hcl
  exact ⟨_, va_runV (As := As) (rest := st) (C := y.cls) ⟨hx, hb, hml, hown, hts⟩ (hM l D z0) (cwV k hts (zgoodL (pre := [.methodLink own idx y, .instanceMethod y, .selects y.cls y y, .initialized y.cls]) (fun w h => by simp only [List.mem_cons, List.not_mem_nil, or_false] at h; rcases h with rfl | rfl | rfl | rfl <;> assumption) w4) rfl rfl rfl ⟨rfl, hy⟩ hR) ⟨zW.blind, ⟨cell, g1, by rw [g3]; rfl, by rw [g2]; exact (hvm.1.1 ci _ hcl).2.1⟩, fun U hU hW => ⟨rfl, zW_in hvm hst h1 h2 hU hW⟩⟩ rfl hk h3.1 rfl (by simpa [JFrame.monitorRoom] using hcat) d hc⟩
theorem zk_ST {y : MethodName} {bytes : ByteArray} {maxL idx k : Nat} {retY : Option FieldType} {rmY : Room} {As stk : List Value} {R9 : (Option Value × ZS) ⊕ ZX} (h0 : zFix G cc own nL ret rm) (hM : ∀ l D z0, l.stackTraces = false → zMetT l D z0 y bytes maxL retY rmY As S R9) (hnt : zNoTab G) (w1 : Cond.methodLink own idx y ∈ zTbl) (w2 : Cond.static y ∈ zTbl) (w3 : Cond.initialized y.cls ∈ zTbl) (w4 : Cond.code y bytes maxL retY ∈ zTbl) (hy : zyOK y k) (hk : As.length = k) (hR : rmY.frames + 1 ≤ rm.frames ∧ 8 + (maxL + 11) + rmY.locals ≤ rm.locals) (hstk : stk = As.reverse ++ st) (hcat : (st.map fun v => v.category).sum ≤ 8) (hc : ce + rmY.cells ≤ rm.cells ∧ sl + rmY.slots ≤ rm.slots) (d : decode cc pc = .ok (.invokestatic idx, 3)) : zRunT G nL S ce sl pc lv stk st rmY.cells rmY.slots R9 := by
  obtain ⟨p, l, e, R, s, m, args, below, meth, c, Q, D, z0⟩ := G
  obtain ⟨hx, hb, hml, hown, hts, hvm, hst, -, rfl, -⟩ := h0
  subst hstk
  intro H locs ls h1 h2 h3
  exact ⟨_, vx_runS (As := As) (rest := st) ⟨hx, hb, hml, hown, hts⟩ (hM l D z0 hnt.2) (va_cwS k hts (zgoodL (pre := [.methodLink own idx y, .static y, .initialized y.cls]) (fun w h => by simp only [List.mem_cons, List.not_mem_nil, or_false] at h; rcases h with rfl | rfl | rfl <;> assumption) w4) rfl rfl rfl hy hR) ⟨zW.blind, fun U hU hW => ⟨rfl, zW_in hvm hst h1 h2 hU hW⟩⟩ rfl hk h3.1 rfl (by simpa [JFrame.monitorRoom] using hcat) d hc⟩
theorem zk_VT {y : MethodName} {bytes : ByteArray} {maxL idx k : Nat} {retY : Option FieldType} {rmY : Room} {As stk : List Value} {R9 : (Option Value × ZS) ⊕ ZX} {a ci : Nat} {R8 : String} {T : u_T} {N : Nat} {ty : Nat → FieldType} (h0 : zFix G cc own nL ret rm) (hcC : zCls ci R8 T N ty) (ha : ∃ fs, S.1 a = some (.inr (ci, fs))) (hM : ∀ l D z0, l.stackTraces = false → zMetT l D z0 y bytes maxL retY rmY (.ref a :: As) S R9) (hnt : zNoTab G) (w1 : Cond.methodLink own idx y ∈ zTbl) (w2 : Cond.instanceMethod y ∈ zTbl) (w5 : Cond.selects y.cls y y ∈ zTbl) (w3 : Cond.initialized y.cls ∈ zTbl) (w4 : Cond.code y bytes maxL retY ∈ zTbl) (hyc : y.cls = R8) (hy : zyOK y k) (hk : As.length = k) (hR : rmY.frames + 1 ≤ rm.frames ∧ 8 + (maxL + 11) + rmY.locals ≤ rm.locals) (hstk : stk = As.reverse ++ .ref a :: st) (hcat : (st.map fun v => v.category).sum ≤ 8) (hc : ce + rmY.cells ≤ rm.cells ∧ sl + rmY.slots ≤ rm.slots) (d : decode cc pc = .ok (.invokevirtual idx, 3)) : zRunT G nL S ce sl pc lv stk st rmY.cells rmY.slots R9 := by
  obtain ⟨p, l, e, R, s, m, args, below, meth, c, Q, D, z0⟩ := G
  obtain ⟨hx, hb, hml, hown, hts, hvm, hst, -, rfl, -⟩ := h0
  subst hstk
  subst hyc
  obtain ⟨fs, hs⟩ := ha
  obtain ⟨hcl, -⟩ := hcC
  intro H locs ls h1 h2 h3
  obtain ⟨cell, g1, g2, g3, -⟩ := zobj h1 hs hcl
  exact ⟨_, vx_runV (As := As) (rest := st) (C := y.cls) ⟨hx, hb, hml, hown, hts⟩ (hM l D z0 hnt.2) (cwV k hts (zgoodL (pre := [.methodLink own idx y, .instanceMethod y, .selects y.cls y y, .initialized y.cls]) (fun w h => by simp only [List.mem_cons, List.not_mem_nil, or_false] at h; rcases h with rfl | rfl | rfl | rfl <;> assumption) w4) rfl rfl rfl ⟨rfl, hy⟩ hR) ⟨zW.blind, ⟨cell, g1, by rw [g3]; rfl, by rw [g2]; exact (hvm.1.1 ci _ hcl).2.1⟩, fun U hU hW => ⟨rfl, zW_in hvm hst h1 h2 hU hW⟩⟩ rfl hk h3.1 rfl (by simpa [JFrame.monitorRoom] using hcat) d hc⟩
theorem zk_I {y : MethodName} {bytes : ByteArray} {maxL idx k : Nat} {rmY : Room} {As stk : List Value} {S' : ZS} {res : Option Value} {a : Nat} (h0 : zFix G cc own nL ret rm) (hM : ∀ l D z0, zMet l D z0 y bytes maxL none rmY (.ref a :: As) S res S') (w1 : Cond.methodLink own idx y ∈ zTbl) (w2 : Cond.instanceMethod y ∈ zTbl) (w3 : Cond.initialized y.cls ∈ zTbl) (w4 : Cond.code y bytes maxL none ∈ zTbl) (hyi : y.name = "<init>") (hy : zyOK y k) (hk : As.length = k) (hR : rmY.frames + 1 ≤ rm.frames ∧ 8 + (maxL + 11) + rmY.locals ≤ rm.locals) (hstk : stk = As.reverse ++ .ref a :: st) (hcat : (st.map fun v => v.category).sum ≤ 8) (hc : ce + rmY.cells ≤ rm.cells ∧ sl + rmY.slots ≤ rm.slots) (d : decode cc pc = .ok (.invokespecial idx, 3)) : zRun G nL S ce sl pc lv stk st rmY.cells rmY.slots res S' := by
  obtain ⟨p, l, e, R, s, m, args, below, meth, c, Q, D, z0⟩ := G
  obtain ⟨hx, hb, hml, hown, hts, hvm, hst, -, rfl, -⟩ := h0
  subst hstk
  intro H locs ls h1 h2 h3
  exact ⟨_, va_runI (As := As) (rest := st) ⟨hx, hb, hml, hown, hts⟩ (hM l D z0) (cwI k hts (zgoodL (pre := []) (fun w h => by cases h) w4) rfl rfl rfl (hts _ w3) (hts _ w1) (hts _ w2) hyi hy hR) ⟨zW.blind, fun U hU hW => ⟨rfl, zW_in hvm hst h1 h2 hU hW⟩⟩ rfl hk h3.1 rfl (by simpa [JFrame.monitorRoom] using hcat) d hc⟩
theorem zk_SN {y : MethodName} {bytes : ByteArray} {maxL idx k : Nat} {retY : Option FieldType} {rmY : Room} {As stk : List Value} {S' : ZS} {res : Option Value} {host : String} (h0 : zFix G cc own nL ret rm) (hM : ∀ l D z0, zMet l D z0 y bytes maxL retY rmY As S res S') (w1 : (own, idx, y, host) ∈ zNests) (w2 : Cond.static y ∈ zTbl) (w3 : Cond.initialized y.cls ∈ zTbl) (w4 : Cond.code y bytes maxL retY ∈ zTbl) (hy : zyOK y k) (hk : As.length = k) (hR : rmY.frames + 1 ≤ rm.frames ∧ 8 + (maxL + 11) + rmY.locals ≤ rm.locals) (hstk : stk = As.reverse ++ st) (hcat : (st.map fun v => v.category).sum ≤ 8) (hc : ce + rmY.cells ≤ rm.cells ∧ sl + rmY.slots ≤ rm.slots) (d : decode cc pc = .ok (.invokestatic idx, 3)) : zRun G nL S ce sl pc lv stk st rmY.cells rmY.slots res S' := by
  obtain ⟨p, l, e, R, s, m, args, below, meth, c, Q, D, z0⟩ := G
  obtain ⟨hx, hb, hml, hown, hts, hvm, hst, -, rfl, -⟩ := h0
  subst hstk
  intro H locs ls h1 h2 h3
  exact ⟨_, va_runSN (As := As) (rest := st) ⟨hx, hb, hml, hown, hts⟩ (hM l D z0) ⟨va_cnB k hts (zgoodL (pre := []) (fun w h => by cases h) w4) rfl rfl rfl (hvm.2.1 _ w1) (hts _ w3) hy hR, hts _ w2, trivial⟩ ⟨zW.blind, fun U hU hW => ⟨rfl, zW_in hvm hst h1 h2 hU hW⟩⟩ rfl hk h3.1 rfl (by simpa [JFrame.monitorRoom] using hcat) d hc⟩
theorem zk_IN {y : MethodName} {bytes : ByteArray} {maxL idx k : Nat} {rmY : Room} {As stk : List Value} {S' : ZS} {res : Option Value} {host : String} {a : Nat} (h0 : zFix G cc own nL ret rm) (hM : ∀ l D z0, zMet l D z0 y bytes maxL none rmY (.ref a :: As) S res S') (w1 : (own, idx, y, host) ∈ zNests) (w2 : Cond.instanceMethod y ∈ zTbl) (w3 : Cond.initialized y.cls ∈ zTbl) (w4 : Cond.code y bytes maxL none ∈ zTbl) (hyi : y.name = "<init>") (hy : zyOK y k) (hk : As.length = k) (hR : rmY.frames + 1 ≤ rm.frames ∧ 8 + (maxL + 11) + rmY.locals ≤ rm.locals) (hstk : stk = As.reverse ++ .ref a :: st) (hcat : (st.map fun v => v.category).sum ≤ 8) (hc : ce + rmY.cells ≤ rm.cells ∧ sl + rmY.slots ≤ rm.slots) (d : decode cc pc = .ok (.invokespecial idx, 3)) : zRun G nL S ce sl pc lv stk st rmY.cells rmY.slots res S' := by
  obtain ⟨p, l, e, R, s, m, args, below, meth, c, Q, D, z0⟩ := G
  obtain ⟨hx, hb, hml, hown, hts, hvm, hst, -, rfl, -⟩ := h0
  subst hstk
  intro H locs ls h1 h2 h3
  exact ⟨_, va_runIN (As := As) (rest := st) ⟨hx, hb, hml, hown, hts⟩ (hM l D z0) ⟨va_cnB k hts (zgoodL (pre := []) (fun w h => by cases h) w4) rfl rfl rfl (hvm.2.1 _ w1) (hts _ w3) hy hR, hyi, hts _ w2⟩ ⟨zW.blind, fun U hU hW => ⟨rfl, zW_in hvm hst h1 h2 hU hW⟩⟩ rfl hk h3.1 rfl (by simpa [JFrame.monitorRoom] using hcat) d hc⟩
theorem zr_call0 {mc ms ce' sl' : Nat} {res : Option Value} {S' : ZS} {stk st' : List Value} {P' : Prop} (he : zRun G nL S ce sl pc lv stk st mc ms res S') (hst : res.toList ++ st = st') (hce : ce + mc = ce') (hsl : sl + ms = sl') (hn : pc + 3 = n) (hPP : P → P') (k : zV G nL S' ce' sl' n lv st' P') : zV G nL S ce sl pc lv stk P := by
  obtain ⟨p, l, e, R, s, m, args, below, meth, c, Q, D, z0⟩ := G
  subst hst
  subst hce
  subst hsl
  subst hn
  intro hP H locs ls h1 h2 h3
  obtain ⟨av, hr⟩ := he H locs ls h1 h2 h3
  intro T hT X
  obtain ⟨v, st₀, t, T', L, h0, X', hL, e1, e2, ⟨hv, hw, hz, hk⟩, stp⟩ := hr T hT X
  cases hv
  rw [h0] at hz hk
  obtain ⟨t2, a1, b1⟩ := k (hPP hP) T'.heap (locs ++ L) ls (by rw [e1]; exact hw) ⟨Nat.le_trans h2.1 (by rw [e1]; exact hz), fun q g1 g2 => by rw [e1, hk q (Nat.lt_of_lt_of_le g1 h2.1) g2]; exact h2.2.1 q g1 g2, fun q hq => by
      rcases List.mem_append.mp hq with h | h
      · exact h2.2.2 q h
      · exact hL q h⟩ h3 T' rfl X'
  exact ⟨t2, stp t2 a1, b1⟩
theorem zr_cMI {τ : Type} (C : Option τ → Prop) (hC : ¬ C none) {f : Option (Int32 × ZS)} {o : (Int32 × ZS) → Option τ} {mc ms : Nat} {stk : List Value} (ce' sl' : Nat) (he : ∀ x, f = some x → zRun G nL S ce sl pc lv stk st mc ms (some (.int x.1)) (x.2)) (hce : ce + mc = ce') (hsl : sl + ms = sl') (hn : pc + 3 = n) (k : ∀ x, zV G nL (x.2) ce' sl' n lv (.int x.1 :: st) (C (o x))) : zV G nL S ce sl pc lv stk (C (Option.bind f o)) := by
  cases f with
  | none => exact zv_imp (fun h => hC h) zv_false
  | some x => exact zr_call0 (he x rfl) rfl hce hsl hn (fun h => h) (k x)
theorem zr_cMJ {τ : Type} (C : Option τ → Prop) (hC : ¬ C none) {f : Option (Int64 × ZS)} {o : (Int64 × ZS) → Option τ} {mc ms : Nat} {stk : List Value} (ce' sl' : Nat) (he : ∀ x, f = some x → zRun G nL S ce sl pc lv stk st mc ms (some (.long x.1)) (x.2)) (hce : ce + mc = ce') (hsl : sl + ms = sl') (hn : pc + 3 = n) (k : ∀ x, zV G nL (x.2) ce' sl' n lv (.long x.1 :: st) (C (o x))) : zV G nL S ce sl pc lv stk (C (Option.bind f o)) := by
  cases f with
  | none => exact zv_imp (fun h => hC h) zv_false
  | some x => exact zr_call0 (he x rfl) rfl hce hsl hn (fun h => h) (k x)
theorem zr_cMR {τ : Type} (C : Option τ → Prop) (hC : ¬ C none) {f : Option (Nat × ZS)} {o : (Nat × ZS) → Option τ} {mc ms : Nat} {stk : List Value} (ce' sl' : Nat) (he : ∀ x, f = some x → zRun G nL S ce sl pc lv stk st mc ms (some (.ref x.1)) (x.2)) (hce : ce + mc = ce') (hsl : sl + ms = sl') (hn : pc + 3 = n) (k : ∀ x, zV G nL (x.2) ce' sl' n lv (.ref x.1 :: st) (C (o x))) : zV G nL S ce sl pc lv stk (C (Option.bind f o)) := by
  cases f with
  | none => exact zv_imp (fun h => hC h) zv_false
  | some x => exact zr_call0 (he x rfl) rfl hce hsl hn (fun h => h) (k x)
theorem zr_cMV {τ : Type} (C : Option τ → Prop) (hC : ¬ C none) {f : Option ZS} {o : ZS → Option τ} {mc ms : Nat} {stk : List Value} (ce' sl' : Nat) (he : ∀ x, f = some x → zRun G nL S ce sl pc lv stk st mc ms (none) (x)) (hce : ce + mc = ce') (hsl : sl + ms = sl') (hn : pc + 3 = n) (k : ∀ x, zV G nL (x) ce' sl' n lv (st) (C (o x))) : zV G nL S ce sl pc lv stk (C (Option.bind f o)) := by
  cases f with
  | none => exact zv_imp (fun h => hC h) zv_false
  | some x => exact zr_call0 (he x rfl) rfl hce hsl hn (fun h => h) (k x)
theorem zr_cRI {τ : Type} (C : Option τ → Prop) (hC : ¬ C none) {f : Option Int32} {o : Int32 → Option τ} {mc ms : Nat} {stk : List Value} (ce' sl' : Nat) (he : ∀ x, f = some x → zRun G nL S ce sl pc lv stk st mc ms (some (.int x)) (S)) (hce : ce + mc = ce') (hsl : sl + ms = sl') (hn : pc + 3 = n) (k : ∀ x, zV G nL (S) ce' sl' n lv (.int x :: st) (C (o x))) : zV G nL S ce sl pc lv stk (C (Option.bind f o)) := by
  cases f with
  | none => exact zv_imp (fun h => hC h) zv_false
  | some x => exact zr_call0 (he x rfl) rfl hce hsl hn (fun h => h) (k x)
theorem zr_cRJ {τ : Type} (C : Option τ → Prop) (hC : ¬ C none) {f : Option Int64} {o : Int64 → Option τ} {mc ms : Nat} {stk : List Value} (ce' sl' : Nat) (he : ∀ x, f = some x → zRun G nL S ce sl pc lv stk st mc ms (some (.long x)) (S)) (hce : ce + mc = ce') (hsl : sl + ms = sl') (hn : pc + 3 = n) (k : ∀ x, zV G nL (S) ce' sl' n lv (.long x :: st) (C (o x))) : zV G nL S ce sl pc lv stk (C (Option.bind f o)) := by
  cases f with
  | none => exact zv_imp (fun h => hC h) zv_false
  | some x => exact zr_call0 (he x rfl) rfl hce hsl hn (fun h => h) (k x)
theorem zr_cRR {τ : Type} (C : Option τ → Prop) (hC : ¬ C none) {f : Option Nat} {o : Nat → Option τ} {mc ms : Nat} {stk : List Value} (ce' sl' : Nat) (he : ∀ x, f = some x → zRun G nL S ce sl pc lv stk st mc ms (some (.ref x)) (S)) (hce : ce + mc = ce') (hsl : sl + ms = sl') (hn : pc + 3 = n) (k : ∀ x, zV G nL (S) ce' sl' n lv (.ref x :: st) (C (o x))) : zV G nL S ce sl pc lv stk (C (Option.bind f o)) := by
  cases f with
  | none => exact zv_imp (fun h => hC h) zv_false
  | some x => exact zr_call0 (he x rfl) rfl hce hsl hn (fun h => h) (k x)
theorem zr_callT0 {τ : Type} {C : Option τ → Prop} {α : Type} {conv : α × ZS → Option Value × ZS} {mc ms ce' sl' : Nat} {x : (α × ZS) ⊕ ZX} {stk : List Value} {o : Option τ} (he : zRunT G nL S ce sl pc lv stk st mc ms (x.map conv id)) (hnt : zNoTab G) (hlk : zLks G) (hce : ce + mc = ce') (hsl : sl + ms = sl') (hcc : ce' ≤ rm.cells) (hss : sl' ≤ rm.slots) (hn : pc + 3 = n) (kx : ∀ z, x = .inr z → C o → zEndX G z.1 z.2 rm) (k : ∀ y, x = .inl y → zV G nL (conv y).2 ce' sl' n lv ((conv y).1.toList ++ st) (C o)) : zV G nL S ce sl pc lv stk (C o) := by
  obtain ⟨p, l, e, R, s, m, args, below, meth, c, Q, D, z0⟩ := G
  subst hce
  subst hsl
  subst hn
  intro hP H locs ls h1 h2 h3
  obtain ⟨av, hr⟩ := he H locs ls h1 h2 h3
  intro T hT X
  rcases hr T hT X with ⟨v, st₀, t, T', L, h0, X', hL, e1, e2, ⟨v9, S9, hR, hv, hw, hz, hk⟩, stp⟩ | ⟨q, st₀, t, T', L, E, ce9, h0, X', hL, e1, e2, ⟨E0, h, hR, hE, ⟨n9, hw⟩, hz, hk⟩, hce9, hcv, hcl, stp⟩
  · cases hv
    rw [h0] at hz hk
    cases x with
    | inr z => cases hR
    | inl y =>
      have hR2 : conv y = (v, S9) := Sum.inl.inj hR
      have k9 := k y rfl
      rw [hR2] at k9
      obtain ⟨t2, a1, b1⟩ := k9 hP T'.heap (locs ++ L) ls (by rw [e1]; exact hw) ⟨Nat.le_trans h2.1 (by rw [e1]; exact hz), fun q g1 g2 => by rw [e1, hk q (Nat.lt_of_lt_of_le g1 h2.1) g2]; exact h2.2.1 q g1 g2, fun q hq => by
          rcases List.mem_append.mp hq with h | h
          · exact h2.2.2 q h
          · exact hL q h⟩ h3 T' rfl X'
      exact ⟨t2, stp t2 a1, b1⟩
  · rw [h0] at hz hk
    cases x with
    | inl y => cases hR
    | inr z =>
      have hR2 : z = (E0, h) := Sum.inr.inj hR
      subst hR2
      obtain ⟨Qc, XC, hQ, hX⟩ := kx _ rfl hP
      subst hE
      rw [← e1] at hce9
      have h2' : va_S (zA z0) s.heap T'.heap (locs ++ L) := ⟨Nat.le_trans h2.1 (by rw [e1]; exact hz), fun q g1 g2 => by rw [e1, hk q (Nat.lt_of_lt_of_le g1 h2.1) g2]; exact h2.2.1 q g1 g2, fun q hq => by
          rcases List.mem_append.mp hq with h | h
          · exact h2.2.2 q h
          · exact hL q h⟩
      have K : vx_W p l e R s m args below meth c T'.heap (locs ++ L) (ce + mc) (sl + ms) Q (F0 m pc ls st) q := by
        rw [hQ]
        exact vx_out (fun x hx => (hnt.1 x hx).elim) hlk hce9 hcv hcl (fun t9 ht9 hal => hX t9 n9 (by rw [ht9, e1]; exact hw) (h2'.F ht9)) h2'.2.2 hcc hss
      obtain ⟨t2, a1, b1⟩ := K T' rfl X'
      exact ⟨t2, Steps.trans stp a1, b1⟩
theorem zFix.lks (h : zFix G cc own nL ret rm) : zLks G := by
  obtain ⟨p, l, e, R, s, m, args, below, meth, c, Q, D, z0⟩ := G
  exact h.2.2.2.2.2.2.2.1
theorem zr_cTI {β : Type} (C : Option (β ⊕ ZX) → Prop) (hC : ¬ C none) {f : Option ((Int32 × ZS) ⊕ ZX)} {o : Int32 × ZS → Option (β ⊕ ZX)} {mc ms : Nat} {stk : List Value} (ce' sl' : Nat) (h0 : zFix G cc own nL ret rm) (he : ∀ x, f = some x → zRunT G nL S ce sl pc lv stk st mc ms (x.map (fun y => (some (.int y.1), y.2)) id)) (hnt : zNoTab G) (hce : ce + mc = ce') (hsl : sl + ms = sl') (hcc : ce' ≤ rm.cells) (hss : sl' ≤ rm.slots) (hn : pc + 3 = n) (kx : ∀ z, C (some (.inr z)) → zEndX G z.1 z.2 rm) (k : ∀ y, zV G nL y.2 ce' sl' n lv (.int y.1 :: st) (C (o y))) : zV G nL S ce sl pc lv stk (C (zbT f o)) := by
  have hlk := zFix.lks h0
  cases f with
  | none => exact zv_imp (fun h => hC h) zv_false
  | some x =>
    refine zr_callT0 (C := C) (o := zbT (some x) o) (conv := fun y => (some (.int y.1), y.2)) (x := x) (he x rfl) hnt hlk hce hsl hcc hss hn (fun z hx hP => ?_) (fun y hx => ?_)
    · subst hx
      exact kx z hP
    · subst hx
      exact k y
theorem zr_cTJ {β : Type} (C : Option (β ⊕ ZX) → Prop) (hC : ¬ C none) {f : Option ((Int64 × ZS) ⊕ ZX)} {o : Int64 × ZS → Option (β ⊕ ZX)} {mc ms : Nat} {stk : List Value} (ce' sl' : Nat) (h0 : zFix G cc own nL ret rm) (he : ∀ x, f = some x → zRunT G nL S ce sl pc lv stk st mc ms (x.map (fun y => (some (.long y.1), y.2)) id)) (hnt : zNoTab G) (hce : ce + mc = ce') (hsl : sl + ms = sl') (hcc : ce' ≤ rm.cells) (hss : sl' ≤ rm.slots) (hn : pc + 3 = n) (kx : ∀ z, C (some (.inr z)) → zEndX G z.1 z.2 rm) (k : ∀ y, zV G nL y.2 ce' sl' n lv (.long y.1 :: st) (C (o y))) : zV G nL S ce sl pc lv stk (C (zbT f o)) := by
  have hlk := zFix.lks h0
  cases f with
  | none => exact zv_imp (fun h => hC h) zv_false
  | some x =>
    refine zr_callT0 (C := C) (o := zbT (some x) o) (conv := fun y => (some (.long y.1), y.2)) (x := x) (he x rfl) hnt hlk hce hsl hcc hss hn (fun z hx hP => ?_) (fun y hx => ?_)
    · subst hx
      exact kx z hP
    · subst hx
      exact k y
theorem zr_cTR {β : Type} (C : Option (β ⊕ ZX) → Prop) (hC : ¬ C none) {f : Option ((Nat × ZS) ⊕ ZX)} {o : Nat × ZS → Option (β ⊕ ZX)} {mc ms : Nat} {stk : List Value} (ce' sl' : Nat) (h0 : zFix G cc own nL ret rm) (he : ∀ x, f = some x → zRunT G nL S ce sl pc lv stk st mc ms (x.map (fun y => (some (.ref y.1), y.2)) id)) (hnt : zNoTab G) (hce : ce + mc = ce') (hsl : sl + ms = sl') (hcc : ce' ≤ rm.cells) (hss : sl' ≤ rm.slots) (hn : pc + 3 = n) (kx : ∀ z, C (some (.inr z)) → zEndX G z.1 z.2 rm) (k : ∀ y, zV G nL y.2 ce' sl' n lv (.ref y.1 :: st) (C (o y))) : zV G nL S ce sl pc lv stk (C (zbT f o)) := by
  have hlk := zFix.lks h0
  cases f with
  | none => exact zv_imp (fun h => hC h) zv_false
  | some x =>
    refine zr_callT0 (C := C) (o := zbT (some x) o) (conv := fun y => (some (.ref y.1), y.2)) (x := x) (he x rfl) hnt hlk hce hsl hcc hss hn (fun z hx hP => ?_) (fun y hx => ?_)
    · subst hx
      exact kx z hP
    · subst hx
      exact k y
theorem zr_cTV {β : Type} (C : Option (β ⊕ ZX) → Prop) (hC : ¬ C none) {f : Option ((Unit × ZS) ⊕ ZX)} {o : Unit × ZS → Option (β ⊕ ZX)} {mc ms : Nat} {stk : List Value} (ce' sl' : Nat) (h0 : zFix G cc own nL ret rm) (he : ∀ x, f = some x → zRunT G nL S ce sl pc lv stk st mc ms (x.map (fun y => (none, y.2)) id)) (hnt : zNoTab G) (hce : ce + mc = ce') (hsl : sl + ms = sl') (hcc : ce' ≤ rm.cells) (hss : sl' ≤ rm.slots) (hn : pc + 3 = n) (kx : ∀ z, C (some (.inr z)) → zEndX G z.1 z.2 rm) (k : ∀ y, zV G nL y.2 ce' sl' n lv (st) (C (o y))) : zV G nL S ce sl pc lv stk (C (zbT f o)) := by
  have hlk := zFix.lks h0
  cases f with
  | none => exact zv_imp (fun h => hC h) zv_false
  | some x =>
    refine zr_callT0 (C := C) (o := zbT (some x) o) (conv := fun y => (none, y.2)) (x := x) (he x rfl) hnt hlk hce hsl hcc hss hn (fun z hx hP => ?_) (fun y hx => ?_)
    · subst hx
      exact kx z hP
    · subst hx
      exact k y
theorem zr_iret {v : Int32} (h0 : zFix G cc own nL ret rm) (hr : ret = some .int) (d : decode cc pc = .ok (.ireturn, 1)) (hE : P → zEnd G (some (.int v)) S rm) (h1c : ce ≤ rm.cells) (h1s : sl ≤ rm.slots) : zV G nL S ce sl pc lv ([.int v]) P := by
  obtain ⟨p, l, e, R, s, m, args, below, meth, c, Q, D, z0⟩ := G
  obtain ⟨hx, hb, -, hown, hts, hvm, -, hlk, -, hret, -⟩ := h0
  intro hP H locs ls h1 h2 h3
  obtain ⟨Qc, rfl, hQ⟩ := hE hP
  refine W.widen h1c h1s ?_
  skip
  exact W.iret hx hb (hret.trans hr) (fun t ht hW => hQ t (by rw [ht]; exact h1) (h2.F ht)) h2.2.2 d hlk
theorem zr_iretT {v : Int32} (h0 : zFix G cc own nL ret rm) (hr : ret = some .int) (d : decode cc pc = .ok (.ireturn, 1)) (hE : P → zEndT G (some (.int v)) S rm) (h1c : ce ≤ rm.cells) (h1s : sl ≤ rm.slots) : zV G nL S ce sl pc lv ([.int v]) P := by
  obtain ⟨p, l, e, R, s, m, args, below, meth, c, Q, D, z0⟩ := G
  obtain ⟨hx, hb, -, hown, hts, hvm, -, hlk, -, hret, -⟩ := h0
  intro hP H locs ls h1 h2 h3
  obtain ⟨Qc, XC, rfl, hQ⟩ := hE hP
  refine W.widen h1c h1s ?_
  refine vx_ret ?_
  exact W.iret hx hb (hret.trans hr) (fun t ht hW => hQ t (by rw [ht]; exact h1) (h2.F ht)) h2.2.2 d hlk
theorem zr_lret {v : Int64} (h0 : zFix G cc own nL ret rm) (hr : ret = some .long) (d : decode cc pc = .ok (.lreturn, 1)) (hE : P → zEnd G (some (.long v)) S rm) (h1c : ce ≤ rm.cells) (h1s : sl ≤ rm.slots) : zV G nL S ce sl pc lv ([.long v]) P := by
  obtain ⟨p, l, e, R, s, m, args, below, meth, c, Q, D, z0⟩ := G
  obtain ⟨hx, hb, -, hown, hts, hvm, -, hlk, -, hret, -⟩ := h0
  intro hP H locs ls h1 h2 h3
  obtain ⟨Qc, rfl, hQ⟩ := hE hP
  refine W.widen h1c h1s ?_
  skip
  exact W.lret hx hb (hret.trans hr) (fun t ht hW => hQ t (by rw [ht]; exact h1) (h2.F ht)) h2.2.2 d hlk
theorem zr_lretT {v : Int64} (h0 : zFix G cc own nL ret rm) (hr : ret = some .long) (d : decode cc pc = .ok (.lreturn, 1)) (hE : P → zEndT G (some (.long v)) S rm) (h1c : ce ≤ rm.cells) (h1s : sl ≤ rm.slots) : zV G nL S ce sl pc lv ([.long v]) P := by
  obtain ⟨p, l, e, R, s, m, args, below, meth, c, Q, D, z0⟩ := G
  obtain ⟨hx, hb, -, hown, hts, hvm, -, hlk, -, hret, -⟩ := h0
  intro hP H locs ls h1 h2 h3
  obtain ⟨Qc, XC, rfl, hQ⟩ := hE hP
  refine W.widen h1c h1s ?_
  refine vx_ret ?_
  exact W.lret hx hb (hret.trans hr) (fun t ht hW => hQ t (by rw [ht]; exact h1) (h2.F ht)) h2.2.2 d hlk
theorem zr_vret  (h0 : zFix G cc own nL ret rm) (hr : ret = none) (d : decode cc pc = .ok (.return_, 1)) (hE : P → zEnd G (none) S rm) (h1c : ce ≤ rm.cells) (h1s : sl ≤ rm.slots) : zV G nL S ce sl pc lv ([]) P := by
  obtain ⟨p, l, e, R, s, m, args, below, meth, c, Q, D, z0⟩ := G
  obtain ⟨hx, hb, -, hown, hts, hvm, -, hlk, -, hret, -⟩ := h0
  intro hP H locs ls h1 h2 h3
  obtain ⟨Qc, rfl, hQ⟩ := hE hP
  refine W.widen h1c h1s ?_
  skip
  exact W.vret hx hb (hret.trans hr) (fun t ht hW => hQ t (by rw [ht]; exact h1) (h2.F ht)) h2.2.2 d hlk
theorem zr_vretT  (h0 : zFix G cc own nL ret rm) (hr : ret = none) (d : decode cc pc = .ok (.return_, 1)) (hE : P → zEndT G (none) S rm) (h1c : ce ≤ rm.cells) (h1s : sl ≤ rm.slots) : zV G nL S ce sl pc lv ([]) P := by
  obtain ⟨p, l, e, R, s, m, args, below, meth, c, Q, D, z0⟩ := G
  obtain ⟨hx, hb, -, hown, hts, hvm, -, hlk, -, hret, -⟩ := h0
  intro hP H locs ls h1 h2 h3
  obtain ⟨Qc, XC, rfl, hQ⟩ := hE hP
  refine W.widen h1c h1s ?_
  refine vx_ret ?_
  exact W.vret hx hb (hret.trans hr) (fun t ht hW => hQ t (by rw [ht]; exact h1) (h2.F ht)) h2.2.2 d hlk
theorem zr_aret {v : Nat} (h0 : zFix G cc own nL ret rm) {rt : FieldType} (hr : ret = some rt) (hrt : (∃ n, rt = .object n) ∨ ∃ t, rt = .array t) (d : decode cc pc = .ok (.areturn, 1)) (hE : P → zEnd G (some (.ref v)) S rm) (h1c : ce ≤ rm.cells) (h1s : sl ≤ rm.slots) : zV G nL S ce sl pc lv ([.ref v]) P := by
  obtain ⟨p, l, e, R, s, m, args, below, meth, c, Q, D, z0⟩ := G
  obtain ⟨hx, hb, -, hown, hts, hvm, -, hlk, -, hret, -⟩ := h0
  intro hP H locs ls h1 h2 h3
  obtain ⟨Qc, rfl, hQ⟩ := hE hP
  refine W.widen h1c h1s ?_
  skip
  exact W.aret hx hb (hret.trans hr) hrt (Or.inr ⟨_, rfl⟩) (fun t ht hW => hQ t (by rw [ht]; exact h1) (h2.F ht)) h2.2.2 d hlk
theorem zr_aretT {v : Nat} (h0 : zFix G cc own nL ret rm) {rt : FieldType} (hr : ret = some rt) (hrt : (∃ n, rt = .object n) ∨ ∃ t, rt = .array t) (d : decode cc pc = .ok (.areturn, 1)) (hE : P → zEndT G (some (.ref v)) S rm) (h1c : ce ≤ rm.cells) (h1s : sl ≤ rm.slots) : zV G nL S ce sl pc lv ([.ref v]) P := by
  obtain ⟨p, l, e, R, s, m, args, below, meth, c, Q, D, z0⟩ := G
  obtain ⟨hx, hb, -, hown, hts, hvm, -, hlk, -, hret, -⟩ := h0
  intro hP H locs ls h1 h2 h3
  obtain ⟨Qc, XC, rfl, hQ⟩ := hE hP
  refine W.widen h1c h1s ?_
  refine vx_ret ?_
  exact W.aret hx hb (hret.trans hr) hrt (Or.inr ⟨_, rfl⟩) (fun t ht hW => hQ t (by rw [ht]; exact h1) (h2.F ht)) h2.2.2 d hlk
theorem zr_zret0 {v : Int32} (h0 : zFix G cc own nL ret rm) (hr : ret = some .boolean) (hv : narrow .boolean (.int v) = .int v) (d : decode cc pc = .ok (.ireturn, 1)) (hE : P → zEnd G (some (.int v)) S rm) (h1c : ce ≤ rm.cells) (h1s : sl ≤ rm.slots) : zV G nL S ce sl pc lv ([.int v]) P := by
  obtain ⟨p, l, e, R, s, m, args, below, meth, c, Q, D, z0⟩ := G
  obtain ⟨hx, hb, -, hown, hts, hvm, -, hlk, -, hret, -⟩ := h0
  intro hP H locs ls h1 h2 h3
  obtain ⟨Qc, rfl, hQ⟩ := hE hP
  refine W.widen h1c h1s ?_
  skip
  exact W.zret hx hb (hret.trans hr) hv (fun t ht hW => hQ t (by rw [ht]; exact h1) (h2.F ht)) h2.2.2 d hlk
theorem zr_zret0T {v : Int32} (h0 : zFix G cc own nL ret rm) (hr : ret = some .boolean) (hv : narrow .boolean (.int v) = .int v) (d : decode cc pc = .ok (.ireturn, 1)) (hE : P → zEndT G (some (.int v)) S rm) (h1c : ce ≤ rm.cells) (h1s : sl ≤ rm.slots) : zV G nL S ce sl pc lv ([.int v]) P := by
  obtain ⟨p, l, e, R, s, m, args, below, meth, c, Q, D, z0⟩ := G
  obtain ⟨hx, hb, -, hown, hts, hvm, -, hlk, -, hret, -⟩ := h0
  intro hP H locs ls h1 h2 h3
  obtain ⟨Qc, XC, rfl, hQ⟩ := hE hP
  refine W.widen h1c h1s ?_
  refine vx_ret ?_
  exact W.zret hx hb (hret.trans hr) hv (fun t ht hW => hQ t (by rw [ht]; exact h1) (h2.F ht)) h2.2.2 d hlk
/-- a boolean answer: 0 or 1 -/
def zbl (v : Int32) : Option Int32 := if v = 0 then some 0 else if v = 1 then some 1 else none
theorem zbl_some {v w : Int32} (h : zbl v = some w) : v = w ∧ narrow .boolean (.int w) = .int w := by
  unfold zbl at h
  split at h
  · next h0 => cases h; exact ⟨h0, rfl⟩
  · split at h
    · next h1 => cases h; exact ⟨h1, rfl⟩
    · cases h
theorem zr_zret {τ : Type} (C : Option τ → Prop) (hC : ¬ C none) {v : Int32} {o : Int32 → Option τ} (h0 : zFix G cc own nL ret rm) (hr : ret = some .boolean) (d : decode cc pc = .ok (.ireturn, 1)) (hE : ∀ w, C (o w) → zEnd G (some (.int w)) S rm) (h1c : ce ≤ rm.cells) (h1s : sl ≤ rm.slots) : zV G nL S ce sl pc lv [.int v] (C (Option.bind (zbl v) o)) := by
  cases hz : zbl v with
  | none => exact zv_imp (fun h => hC h) zv_false
  | some w =>
    obtain ⟨rfl, h2⟩ := zbl_some hz
    exact zr_zret0 h0 hr h2 d (hE _) h1c h1s
theorem zr_zretT {τ : Type} (C : Option τ → Prop) (hC : ¬ C none) {v : Int32} {o : Int32 → Option τ} (h0 : zFix G cc own nL ret rm) (hr : ret = some .boolean) (d : decode cc pc = .ok (.ireturn, 1)) (hE : ∀ w, C (o w) → zEndT G (some (.int w)) S rm) (h1c : ce ≤ rm.cells) (h1s : sl ≤ rm.slots) : zV G nL S ce sl pc lv [.int v] (C (Option.bind (zbl v) o)) := by
  cases hz : zbl v with
  | none => exact zv_imp (fun h => hC h) zv_false
  | some w =>
    obtain ⟨rfl, h2⟩ := zbl_some hz
    exact zr_zret0T h0 hr h2 d (hE _) h1c h1s
theorem zr_throw {cls text : String} {names : List String} {ik is ic : Nat} (h0 : zFix G cc own nL ret rm) (hnt : zNoTab G) (hcls : Bundle.fit cls = true) (hnames : ∀ n ∈ names, Bundle.fit n = true)
    (w1 : Cond.classLink own ik cls ∈ zTbl) (w2 : Cond.initialized cls ∈ zTbl) (hstr : (own, is, text) ∈ zStrs) (hexs : cls ∈ zExs) (hat : ∀ w ∈ (vx_atS own ic cls names).filter goodWord, w ∈ zTbl) (hbad : ∀ w ∈ (vx_atS own ic cls names).filter (fun w => !goodWord w), w = .castable cls cls ∨ ∃ y ∈ zDecls, w = .declares y) (hgood : ∀ w ∈ vx_atS own ic cls names, vx_ot w = true)
    (d0 : decode cc pc = .ok (.new ik, 3)) (d3 : decode cc (pc + 3) = .ok (.dup, 1)) (d4 : decode cc (pc + 4) = .ok (.ldc is, 2)) (d6 : decode cc (pc + 6) = .ok (.invokespecial ic, 3)) (d9 : decode cc (pc + 9) = .ok (.athrow, 1))
    (hRf : names.length + 3 < rm.frames) (hRl : (st.map fun v => v.category).sum + (13 * (names.length + 1) + 43) ≤ rm.locals) (hce : ce + 1 ≤ rm.cells) (hsl : sl + 6 ≤ rm.slots) (hX : P → zEndX G cls S.1 rm) : zV G nL S ce sl pc lv st P := by
  obtain ⟨p, l, e, R, s, m, args, below, meth, c, Q, D, z0⟩ := G
  obtain ⟨hx, hb, hml, hown, hts, hvm, hst, hlk, rfl, hret, -⟩ := h0
  intro hP H locs ls h1 h2 h3
  obtain ⟨Qc, XC, rfl, hQ⟩ := hX hP
  obtain ⟨sa, hsa⟩ := hvm.2.2.2.1 _ hstr
  have hatw : ∀ w ∈ vx_atS own ic cls names, w.before args s = true := by
    intro w hw
    cases hg : goodWord w with
    | true => exact hts _ (hat w (List.mem_filter.mpr ⟨hw, hg⟩))
    | false =>
      rcases hbad w (List.mem_filter.mpr ⟨hw, by rw [hg]; rfl⟩) with h9 | ⟨y, hy, h9⟩
      · subst h9
        exact va_Nw.use rfl (hvm.2.2.2.2.1 cls hexs)
      · subst h9
        exact va_Nw.use rfl (hvm.2.2.2.2.2.2 y hy)
  have hg2 : ∀ w ∈ Cond.classLink own ik cls :: Cond.initialized cls :: vx_atS own ic cls names, vx_ot w = true := by
    intro w hw
    rcases List.mem_cons.mp hw with rfl | hw
    · rfl
    · rcases List.mem_cons.mp hw with rfl | hw
      · rfl
      · exact hgood w hw
  refine vx_throwS hx hb hnt.2 hown hcls hnames (hts _ w1) (hts _ w2) hsa hatw hg2 hst.1 hst.2 h2 (by rw [hml]; exact h3.1) d0 d3 d4 d6 d9 (fun x hx => (hnt.1 x hx).elim) hRf hRl hce hsl hlk (fun t hal hz hq => ?_) h2.2.2 hce hsl
  have hq2 : ∀ q : Nat, q < H.size → t.heap[q]? = H[q]? := hq
  refine hQ t t.heap.size ⟨⟨fun a x hx => ((h1.1.1 a x hx).kept (hq2 a ((h1.1.1 a x hx).lt))), rfl⟩, h1.2.1, Nat.le_trans h1.2.2 (by rw [← h1.1.2]; exact hz)⟩ ⟨Nat.le_trans h2.1 hz, fun q g1 g2 => (hq2 q (Nat.lt_of_lt_of_le g1 h2.1)).trans (h2.2.1 q g1 g2)⟩
theorem zr_throwW {cls text : String} {names : List String} {ik is ic : Nat} (h0 : zFix G cc own nL ret rm) (hnt : zNoTab G) (hcls : Bundle.fit cls = true) (hnames : ∀ n ∈ names, Bundle.fit n = true)
    (w1 : Cond.classLink own ik cls ∈ zTbl) (w2 : Cond.initialized cls ∈ zTbl) (hstr : (own, is, text) ∈ zStrs) (hexs : cls ∈ zExs) (hat : ∀ w ∈ (vx_atS own ic cls names).filter goodWord, w ∈ zTbl) (hbad : ∀ w ∈ (vx_atS own ic cls names).filter (fun w => !goodWord w), w = .castable cls cls ∨ ∃ y ∈ zDecls, w = .declares y) (hgood : ∀ w ∈ vx_atS own ic cls names, vx_ot w = true)
    (d0 : decode cc pc = .ok (.new ik, 3)) (d3 : decode cc (pc + 3) = .ok (.dup, 1)) (d4 : decode cc (pc + 4) = .ok (.ldc_w is, 3)) (d6 : decode cc (pc + 7) = .ok (.invokespecial ic, 3)) (d9 : decode cc (pc + 10) = .ok (.athrow, 1))
    (hRf : names.length + 3 < rm.frames) (hRl : (st.map fun v => v.category).sum + (13 * (names.length + 1) + 43) ≤ rm.locals) (hce : ce + 1 ≤ rm.cells) (hsl : sl + 6 ≤ rm.slots) (hX : P → zEndX G cls S.1 rm) : zV G nL S ce sl pc lv st P := by
  obtain ⟨p, l, e, R, s, m, args, below, meth, c, Q, D, z0⟩ := G
  obtain ⟨hx, hb, hml, hown, hts, hvm, hst, hlk, rfl, hret, -⟩ := h0
  intro hP H locs ls h1 h2 h3
  obtain ⟨Qc, XC, rfl, hQ⟩ := hX hP
  obtain ⟨sa, hsa⟩ := hvm.2.2.2.1 _ hstr
  have hatw : ∀ w ∈ vx_atS own ic cls names, w.before args s = true := by
    intro w hw
    cases hg : goodWord w with
    | true => exact hts _ (hat w (List.mem_filter.mpr ⟨hw, hg⟩))
    | false =>
      rcases hbad w (List.mem_filter.mpr ⟨hw, by rw [hg]; rfl⟩) with h9 | ⟨y, hy, h9⟩
      · subst h9
        exact va_Nw.use rfl (hvm.2.2.2.2.1 cls hexs)
      · subst h9
        exact va_Nw.use rfl (hvm.2.2.2.2.2.2 y hy)
  have hg2 : ∀ w ∈ Cond.classLink own ik cls :: Cond.initialized cls :: vx_atS own ic cls names, vx_ot w = true := by
    intro w hw
    rcases List.mem_cons.mp hw with rfl | hw
    · rfl
    · rcases List.mem_cons.mp hw with rfl | hw
      · rfl
      · exact hgood w hw
  refine vx_throwSW hx hb hnt.2 hown hcls hnames (hts _ w1) (hts _ w2) hsa hatw hg2 hst.1 hst.2 h2 (by rw [hml]; exact h3.1) d0 d3 d4 d6 d9 (fun x hx => (hnt.1 x hx).elim) hRf hRl hce hsl hlk (fun t hal hz hq => ?_) h2.2.2 hce hsl
  have hq2 : ∀ q : Nat, q < H.size → t.heap[q]? = H[q]? := hq
  refine hQ t t.heap.size ⟨⟨fun a x hx => ((h1.1.1 a x hx).kept (hq2 a ((h1.1.1 a x hx).lt))), rfl⟩, h1.2.1, Nat.le_trans h1.2.2 (by rw [← h1.1.2]; exact hz)⟩ ⟨Nat.le_trans h2.1 hz, fun q g1 g2 => (hq2 q (Nat.lt_of_lt_of_le g1 h2.1)).trans (h2.2.1 q g1 g2)⟩
def zsw {τ : Type} (x : Int32) : Nat → List (Option τ) → Option τ → Option τ
  | _, [], d => d
  | k, o :: r, d => if x.toInt = (k : Int) then o else zsw x (k + 1) r d
theorem zsw_in {τ : Type} (x : Int32) (od : Option τ) : ∀ (os : List (Option τ)) (k : Nat), (∃ (i : Nat) (o : Option τ), os[i]? = some o ∧ x.toInt = ((k + i : Nat) : Int) ∧ zsw x k os od = o) ∨ ((x.toInt < (k : Int) ∨ ((k + os.length : Nat) : Int) ≤ x.toInt) ∧ zsw x k os od = od)
  | [], k => Or.inr ⟨by have := Int.lt_or_le x.toInt (k : Int); simpa using this, rfl⟩
  | o :: r, k => by
    unfold zsw
    by_cases h : x.toInt = (k : Int)
    · rw [if_pos h]
      exact Or.inl ⟨0, o, rfl, by simpa using h, rfl⟩
    · rw [if_neg h]
      rcases zsw_in x od r (k + 1) with ⟨i, o9, h1, h2, h3⟩ | ⟨h1, h2⟩
      · exact Or.inl ⟨i + 1, o9, by simpa using h1, by rw [h2]; congr 1; omega, h3⟩
      · refine Or.inr ⟨?_, h2⟩
        simp only [List.length_cons]
        rcases h1 with h1 | h1
        · left; omega
        · right; omega
def zswT (G : ZG) (nL : Nat) (S : ZS) (ce sl : Nat) (lv : List (Nat × Value)) (st : List Value) : List Nat → List Prop → Prop
  | t :: r, p :: q => zV G nL S ce sl t lv st p ∧ zswT G nL S ce sl lv st r q
  | _, _ => True
theorem zsw_all {τ : Type} {C : Option τ → Prop} : ∀ {tg : List Nat} {os : List (Option τ)}, zswT G nL S ce sl lv st tg (os.map C) → ∀ (i : Nat) (o : Option τ) (t : Nat), os[i]? = some o → tg[i]? = some t → zV G nL S ce sl t lv st (C o)
  | [], os, _, i, o, t, _, h2 => by simp at h2
  | _ :: _, [], _, i, o, t, h1, _ => by simp at h1
  | t0 :: r, o0 :: q, h, 0, o, t, h1, h2 => by
    simp at h1 h2
    subst h1
    subst h2
    exact h.1
  | t0 :: r, o0 :: q, h, i + 1, o, t, h1, h2 => zsw_all (tg := r) (os := q) h.2 i o t (by simpa using h1) (by simpa using h2)
theorem zr_switch {τ : Type} (C : Option τ → Prop) (tg : List Nat) (td : Nat) {x : Int32} {os : List (Option τ)} {od : Option τ} {dflt hi : Int} {offs : Array Int} {len : Nat} (h0 : zFix G cc own nL ret rm) (d : decode cc pc = .ok (.tableswitch dflt 0 hi offs, len)) (hln : os.length = tg.length) (hhi : hi + 1 = (tg.length : Int) ∧ (pc : Int) + dflt = (td : Int)) (ho : ((List.range tg.length).all fun i => match offs[i]?, tg[i]? with | some off, some t => decide ((pc : Int) + off = (t : Int)) | _, _ => false) = true) (k : ∀ (i : Nat) (o : Option τ) (t : Nat), os[i]? = some o → tg[i]? = some t → zV G nL S ce sl t lv st (C o)) (kd : zV G nL S ce sl td lv st (C od)) : zV G nL S ce sl pc lv (.int x :: st) (C (zsw x 0 os od)) := by
  obtain ⟨p, l, e, R, s, m, args, below, meth, c, Q, D, z0⟩ := G
  obtain ⟨hx, hb, -⟩ := h0
  intro hP H locs ls h1 h2 h3
  rcases zsw_in x od os 0 with ⟨i, o, a1, a2, a3⟩ | ⟨a1, a2⟩
  · rw [a3] at hP
    have hi2 : i < tg.length := by rw [← hln]; exact (List.getElem?_eq_some_iff.mp a1).1
    have hti : tg[i]? = some tg[i] := List.getElem?_eq_getElem hi2
    have h9 := List.all_eq_true.mp ho i (List.mem_range.mpr hi2)
    rw [hti] at h9
    cases hof : offs[i]? with
    | none => rw [hof] at h9; cases h9
    | some off =>
      rw [hof] at h9
      have h10 : (pc : Int) + off = (tg[i] : Int) := of_decide_eq_true h9
      have hx0 : x.toInt = (i : Int) := by rw [a2]; simp
      have hhi1 := hhi.1
      exact lv_tableIn hx hb d (by rw [hx0]; omega) (by rw [hx0]; omega) (by rw [hx0]; simpa using hof) h10 (k i o _ a1 hti hP H locs ls h1 h2 h3)
  · rw [a2] at hP
    have hhi1 := hhi.1
    exact lv_tableOut hx hb d (by rw [hln] at a1; omega) hhi.2 (kd hP H locs ls h1 h2 h3)
theorem zcl_of {α : Type} {a ci : Nat} {o : Option α} {x : α} (h : zcl S a ci o = some x) : o = some x := by
  unfold zcl at h
  split at h
  · split at h
    · exact h
    · cases h
  · cases h
theorem zcl_ex {α : Type} {a ci : Nat} {o : Option α} {x : α} (h : zcl S a ci o = some x) : ∃ fs, S.1 a = some (.inr (ci, fs)) := by
  unfold zcl at h
  split at h
  · next c fs hs =>
    split at h
    · next hc => subst hc; exact ⟨fs, hs⟩
    · cases h
  · cases h
theorem zsub_of {l l' : List (Nat × Value)} (ks : List Nat) (h : ks.filterMap (fun i => l[i]?) = l') : ∀ q ∈ l', q ∈ l := by
  intro q hq
  rw [← h] at hq
  obtain ⟨i, -, hi⟩ := List.mem_filterMap.mp hq
  exact List.mem_of_getElem? hi
theorem zr_ex {σ ρ : Type} {C1 : Option (σ ⊕ ρ) → Prop} {C : Option ρ → Prop} {o : Option ρ} (hX : ∀ o, C1 (zex o) → C o) (k : zV G nL S ce sl pc lv st (C o)) : zV G nL S ce sl pc lv st (C1 (zex o)) := zv_imp (hX o) k
theorem zr_loop {σ ρ : Type} {C : Option ρ → Prop} (hC : ¬ C none) (body : σ → Option (σ ⊕ ρ)) (lvf : σ → List (Nat × Value)) (Sf : σ → ZS) (N : Nat) (x : σ) (hbody : ∀ (C1 : Option (σ ⊕ ρ) → Prop), ¬ C1 none → (∀ o, C1 (zex o) → C o) → (∀ y, zV G nL (Sf y) ce sl pc (lvf y) [] (C1 (some (.inl y)))) → ∀ y, zV G nL (Sf y) ce sl pc (lvf y) [] (C1 (body y))) : zV G nL (Sf x) ce sl pc (lvf x) [] (C (ziter body N x)) := by
  induction N generalizing x with
  | zero => exact zv_imp (fun h => hC h) zv_false
  | succ N ih =>
    have h1 := hbody (fun e => C (zcont body N e)) (fun h => hC h) (fun o h => by rw [zcont_ex] at h; exact h) (fun y => ih y) x
    exact zv_imp (fun h => h) h1
end
-- contracts out of walks
theorem zMet_of {l : Launch} {D : ZD} {z0 : Nat} {y : MethodName} {cc : ByteArray} {nL : Nat} {ret : Option FieldType} {rm : Room} {av : List Value} {S S' : ZS} {res : Option Value} {P : Prop} (hy : plainName y.cls = true) (hn : (lg_sl av).length ≤ nL) (w : ∀ G : ZG, zFix G cc y.cls nL ret rm → (y.name = "<init>" → zIni G) → zEnd G res S' rm → zV G nL S 0 0 0 (lv_args 0 av) [] P) (hP : P) : zMet l D z0 y cc nL ret rm av S res S' := by
  refine Met.ofW (cc := cc) (maxL := nL) (ret := ret) hy rfl ?_
  intro p e s m args below meth c s₁ B hml hv
  obtain ⟨rfl, hvm, hhp, hst⟩ := hv
  have hts := atoms_spec (ws := zws y cc nL ret) B.pre
  have hown : s.vm.findClass y.cls = some m.cls := findClass_of_methodNamed B.named
  have hl := lv_entry av (n := nL) hn
  rw [lg_entry_eq]
  exact w (p, l, e, rm, s, m, av.toArray, below, meth, c, MQ below (zQc D z0 res S') av.toArray s rm.cells rm.slots (zA z0), D, z0) ⟨B.exec, B.bytes, hml, hown, fun w hw => hts w (List.mem_cons_of_mem _ hw), hvm, hst, B.notSynchronized, rfl, B.returns, by rw [hhp.1.2]; exact hhp.2.2⟩ (fun h => (name_of_methodNamed B.named B.method).1.trans h) ⟨_, rfl, fun t h1 h2 => ⟨rfl, h1, h2⟩⟩ hP s.heap [] _ hhp va_S.rf hl
theorem zMetT_of {l : Launch} {D : ZD} {z0 : Nat} {y : MethodName} {cc : ByteArray} {nL : Nat} {ret : Option FieldType} {rm : Room} {av : List Value} {S : ZS} {R9 : (Option Value × ZS) ⊕ ZX} {P : Prop} (hlt : l.stackTraces = false) (hy : plainName y.cls = true) (hn : (lg_sl av).length ≤ nL) (w : ∀ G : ZG, zFix G cc y.cls nL ret rm → zNoTab G → (∀ v S', R9 = .inl (v, S') → zEndT G v S' rm) → (∀ E h, R9 = .inr (E, h) → zEndX G E h rm) → zV G nL S 0 0 0 (lv_args 0 av) [] P) (hP : P) : zMetT l D z0 y cc nL ret rm av S R9 := by
  refine vx_ofW (cc := cc) (maxL := nL) (ret := ret) hy rfl ?_
  intro p e s m args below meth c s₁ B hml htab hv
  obtain ⟨rfl, hvm, hhp, hst⟩ := hv
  have hts := atoms_spec (ws := zws y cc nL ret) B.pre
  have hown : s.vm.findClass y.cls = some m.cls := findClass_of_methodNamed B.named
  have hl := lv_entry av (n := nL) hn
  rw [lg_entry_eq]
  exact w (p, l, e, rm, s, m, av.toArray, below, meth, c, vx_MQ below (fun a st oc t => ∃ v S', R9 = .inl (v, S') ∧ zQc D z0 v S' a st oc t) (fun E st t => ∃ E0 h, R9 = .inr (E0, h) ∧ zXc D z0 E0 h E st t) av.toArray s rm.cells rm.slots (zA z0), D, z0) ⟨B.exec, B.bytes, hml, hown, fun w hw => hts w (List.mem_cons_of_mem _ hw), hvm, hst, B.notSynchronized, rfl, B.returns, by rw [hhp.1.2]; exact hhp.2.2⟩ ⟨htab, hlt⟩ (fun v S' h => ⟨_, _, rfl, fun t h1 h2 => ⟨v, S', h, rfl, h1, h2⟩⟩) (fun E h hR => ⟨_, _, rfl, fun t n h1 h2 => ⟨E, h, hR, rfl, ⟨n, h1⟩, h2⟩⟩) hP s.heap [] _ hhp va_S.rf hl
