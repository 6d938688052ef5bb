/-! CORE: one world for each of the two systems. A world is a memory h (cell, place -> int), hl (cell, place -> long) behind fixed addresses; a method's contract takes h, hl to h', hl'. -/
def lw_big : List Cond := lw_tbl.filter goodWord
theorem lw_big_in {w : Cond} (h : w ∈ lw_big) : w ∈ lw_tbl := (List.mem_filter.mp h).1
theorem lw_big_good {w : Cond} (h : w ∈ lw_big) : goodWord w = true := (List.mem_filter.mp h).2
theorem mem_tab {w : Cond} (i : Nat) (h : tables_1[i]? = some w) (hg : goodWord w = true) : w ∈ lw_big := List.mem_filter.mpr ⟨List.mem_append_right _ (List.mem_of_getElem? h), hg⟩
theorem mem_sel {w : Cond} (i : Nat) (h : (k2_sels lw_privs)[i]? = some w) (hg : goodWord w = true) : w ∈ lw_big := List.mem_filter.mpr ⟨List.mem_append_left _ (List.mem_of_getElem? h), hg⟩
def wsU (y : MethodName) (cc : ByteArray) (n : Nat) (ret : Option FieldType) : List Cond := Cond.code y cc n ret :: lw_big
theorem goodU {y : MethodName} {cc : ByteArray} {n : Nat} {ret : Option FieldType} (hc : Cond.code y cc n ret ∈ lw_big) : GoodIn lw_big (wsU y cc n ret) := by
  intro w hw
  rcases List.mem_cons.mp hw with h | h
  · subst h
    exact ⟨hc, good_of_word (lw_big_good hc)⟩
  · exact ⟨h, good_of_word (lw_big_good h)⟩
abbrev clsAll : List vw_C := [(RX0, TX0, 14), (RX1, TX1, 6), (RX2, TX2, 10), (RX3, TX3, 3), (RX4, TX4, 3), (RX5, TX5, 3), (RX6, TX6, 3), (RX7, TX7, 9), (RX8, TX8, 3), (RX9, TX9, 14), (RX10, TX10, 25)]
abbrev Mem : Type := Nat → Nat → Int32
abbrev MemL : Type := Nat → Nat → Int64
/-- one place of one cell changes -/
def up2 (h : Mem) (k j : Nat) (v : Int32) : Mem := fun c => bif Nat.beq c k then upd (h k) j v else h c
def up2L (h : MemL) (k j : Nat) (v : Int64) : MemL := fun c => bif Nat.beq c k then vp_updL (h k) j v else h c
/-- one cell becomes another row -/
def upR (h : Mem) (k : Nat) (f : Nat → Int32) : Mem := fun c => bif Nat.beq c k then f else h c
/-- a world: classes' and slots' numbers, classes of arrays, cells, the addresses, which may change, static rows, static fields -/
abbrev Wd : Type := va_G × List (ClassId × FieldType) × (Mem → MemL → va_W) × (Nat → Nat) × (Nat → Prop) × List (Nat × Nat × (Nat → Int32)) × List (String × String × Nat)
def wD (w : Wd) : va_G := w.1
def wT (w : Wd) : List (ClassId × FieldType) := w.2.1
def wW (w : Wd) : Mem → MemL → va_W := w.2.2.1
def wad (w : Wd) : Nat → Nat := w.2.2.2.1
def wA (w : Wd) : Nat → Prop := w.2.2.2.2.1
def wTab (w : Wd) : List (Nat × Nat × (Nat → Int32)) := w.2.2.2.2.2.1
def wFld (w : Wd) : List (String × String × Nat) := w.2.2.2.2.2.2
def wStat (w : Wd) (U : State) (H : Heap) : Prop :=
  va_K (wD w) clsAll (wT w) U ∧ (∀ (h : Mem) (hl : MemL), va_D (wA w) (wW w h hl)) ∧
  (∀ (k : Nat) (q : Nat × Nat × (Nat → Int32)), (wTab w)[k]? = some q → va_T .int q.1 q.2.1 (fun j => .int (q.2.2 j)) (wA w) U H) ∧
  (∀ (k : Nat) (q : String × String × Nat), (wFld w)[k]? = some q → va_Z q.1 q.2.1 "[I" (.ref q.2.2) (wA w) U H)
theorem wStat.moved {w : Wd} {u U : State} {H : Heap} (hvm : u.vm.Alike U.vm) (h : wStat w u H) : wStat w U H :=
  ⟨va_K.moved hvm h.1, h.2.1, fun k q hq => va_T.moved hvm (h.2.2.1 k q hq), fun k q hq => va_Z.moved hvm (h.2.2.2 k q hq)⟩
theorem wStat.kept {w : Wd} {U : State} {H H1 : Heap} (h : wStat w U H) (hq : ∀ a : Nat, a < H.size → ¬ wA w a → H1[a]? = H[a]?) : wStat w U H1 :=
  ⟨h.1, h.2.1, fun k q hk => va_T.kept (h.2.2.1 k q hk) hq, fun k q hk => va_Z.kept (h.2.2.2 k q hk) hq⟩
def mPc (w : Wd) (av : List Value) (h : Mem) (hl : MemL) : Array Value → State → Prop := fun v U => v = av.toArray ∧ wStat w U U.heap ∧ va_P (wD w) clsAll (wW w h hl) U.heap
theorem mPc.blind {w : Wd} {av : List Value} {h : Mem} {hl : MemL} : FrameBlind (mPc w av h hl) := fun a U g mk q => ⟨q.1, wStat.moved (u := U) (U := U.calling g mk a) (Vm.Alike.refl U.vm) q.2.1, q.2.2⟩
abbrev PI : Type := Int32 → Mem → MemL → Prop
abbrev PL : Type := Int64 → Mem → MemL → Prop
abbrev PV : Type := Mem → MemL → Prop
abbrev PR : Type := Nat → Mem → MemL → Prop
def mQi (w : Wd) (Qp : PI) : Array Value → State → Outcome → State → Prop := fun _ st oc t => ∃ (r : Int32) (h : Mem) (hl : MemL), oc = .returned (some (.int r)) ∧ Qp r h hl ∧ va_P (wD w) clsAll (wW w h hl) t.heap ∧ va_F (wA w) st t
def mQz (w : Wd) (Qp : PI) : Array Value → State → Outcome → State → Prop := fun _ st oc t => ∃ (r : Int32) (h : Mem) (hl : MemL), oc = .returned (some (.int r)) ∧ ((r = 0 ∨ r = 1) ∧ Qp r h hl) ∧ va_P (wD w) clsAll (wW w h hl) t.heap ∧ va_F (wA w) st t
def mQl (w : Wd) (Qp : PL) : Array Value → State → Outcome → State → Prop := fun _ st oc t => ∃ (r : Int64) (h : Mem) (hl : MemL), oc = .returned (some (.long r)) ∧ Qp r h hl ∧ va_P (wD w) clsAll (wW w h hl) t.heap ∧ va_F (wA w) st t
def mQv (w : Wd) (Qp : PV) : Array Value → State → Outcome → State → Prop := fun _ st oc t => ∃ (h : Mem) (hl : MemL), oc = .returned none ∧ Qp h hl ∧ va_P (wD w) clsAll (wW w h hl) t.heap ∧ va_F (wA w) st t
def mQr (w : Wd) (Qp : PR) : Array Value → State → Outcome → State → Prop := fun _ st oc t => ∃ (r : Nat) (h : Mem) (hl : MemL), oc = .returned (some (.ref (wad w r))) ∧ Qp r h hl ∧ va_P (wD w) clsAll (wW w h hl) t.heap ∧ va_F (wA w) st t
def mC (w : Wd) (p : Program) (s : State) (m : MethodId) (meth : Method) (c : Code) (args : Array Value) (cc : ByteArray) (nL : Nat) (own : String) (ret : Option FieldType) : Prop :=
  p.tables.exec = Jvm.exec ∧ c.code = cc ∧ c.maxLocals = nL ∧ s.vm.findClass own = some m.cls ∧ (∀ x ∈ lw_big, x.before args s = true) ∧ wStat w s s.heap ∧ meth.locks = false ∧ meth.sig.returnType = ret
def mD (w : Wd) (h : Mem) (hl : MemL) (s : State) (H : Heap) (locs : List Loc) : Prop := va_P (wD w) clsAll (wW w h hl) H ∧ va_S (wA w) s.heap H locs
def isIA (w : Wd) (k n : Nat) : Prop := ∃ cA : ClassId, (wT w)[0]? = some (cA, .int) ∧ ∀ (h : Mem) (hl : MemL), (wW w h hl)[k]? = some (wad w k, .inl (cA, n, .inl (h k))) ∧ ∀ (f : Nat → Int32), (wW w h hl).set k (wad w k, .inl (cA, n, .inl f)) = wW w (upR h k f) hl
def isZA (w : Wd) (k n : Nat) : Prop := ∃ cA : ClassId, (wT w)[1]? = some (cA, .boolean) ∧ ∀ (h : Mem) (hl : MemL), (wW w h hl)[k]? = some (wad w k, .inl (cA, n, .inl (h k))) ∧ ∀ (f : Nat → Int32), (wW w h hl).set k (wad w k, .inl (cA, n, .inl f)) = wW w (upR h k f) hl
def isLA (w : Wd) (k n : Nat) : Prop := ∃ cA : ClassId, (wT w)[2]? = some (cA, .long) ∧ ∀ (h : Mem) (hl : MemL), (wW w h hl)[k]? = some (wad w k, .inl (cA, n, .inr (.inl (hl k)))) ∧ ∀ (j : Nat) (v : Int64), (wW w h hl).set k (wad w k, .inl (cA, n, .inr (.inl (vp_updL (hl k) j v)))) = wW w h (up2L hl k j v)
theorem upR_upd (h : Mem) (k j : Nat) (v : Int32) : upR h k (upd (h k) j v) = up2 h k j v := rfl
theorem z01_0 : (0 : Int32) = 0 ∨ (0 : Int32) = 1 := Or.inl rfl
theorem z01_1 : (1 : Int32) = 0 ∨ (1 : Int32) = 1 := Or.inr rfl
theorem z01_ite {q : Prop} {_ : Decidable q} {a b : Int32} (ha : a = 0 ∨ a = 1) (hb : b = 0 ∨ b = 1) : (if q then a else b) = 0 ∨ (if q then a else b) = 1 := by
  by_cases h : q
  · rw [if_pos h]; exact ha
  · rw [if_neg h]; exact hb
section XRows
variable {p : Program} {l : Launch} {e : Env} {R : Room} {s : State} {m : MethodId} {args : Array Value} {below : List Frame} {meth : Method} {c : Code} {H : Heap} {locs : List Loc} {cells slots : Nat} {Q : State → Prop}
variable {cc : ByteArray} {nL pc : Nat} {ls : Array Slot} {rest : List Value} {own : String} {ret : Option FieldType} {w : Wd} {h : Mem} {hl : MemL}
theorem mC.x (C : mC w p s m meth c args cc nL own ret) : p.tables.exec = Jvm.exec := C.1
theorem mC.b (C : mC w p s m meth c args cc nL own ret) : c.code = cc := C.2.1
theorem mC.ml (C : mC w p s m meth c args cc nL own ret) : c.maxLocals = nL := C.2.2.1
theorem mC.ow (C : mC w p s m meth c args cc nL own ret) : s.vm.findClass own = some m.cls := C.2.2.2.1
theorem mC.ts (C : mC w p s m meth c args cc nL own ret) : ∀ x ∈ lw_big, x.before args s = true := C.2.2.2.2.1
theorem mC.st (C : mC w p s m meth c args cc nL own ret) : wStat w s s.heap := C.2.2.2.2.2.1
theorem mC.lk (C : mC w p s m meth c args cc nL own ret) : meth.locks = false := C.2.2.2.2.2.2.1
theorem mC.rt (C : mC w p s m meth c args cc nL own ret) : meth.sig.returnType = ret := C.2.2.2.2.2.2.2
theorem x_get {k a ci j N index : Nat} {Cn : String} {T : u_T} {fs : List Value} {v : Value} (C : mC w p s m meth c args cc nL own ret) (Dy : mD w h hl s H locs) (hq : (wW w h hl)[k]? = some (a, .inr (ci, fs))) (hc : clsAll[ci]? = some (Cn, T, N)) (hin : ∀ x ∈ u_ws Cn T N, x ∈ lw_big) (hj : j < N) (hlk : Cond.fieldLink own index (T j).1 (T j).2.1 (T j).2.2.1 ∈ lw_big) (hv : fs[j]? = some v) (hdg : decode cc pc = .ok (.getfield index, 3))
    (kk : W p l e R s m args below meth c H locs cells slots Q (F0 m (pc + 3) ls (v :: rest))) : W p l e R s m args below meth c H locs cells slots Q (F0 m pc ls (.ref a :: rest)) :=
  va_get C.x C.b C.ts hin C.ow C.st.1 Dy.1 k hq hc j hj (C.ts _ hlk) (fun _ h9 => h9) hv hdg kk
theorem x_put {k a ci j N index : Nat} {Cn : String} {T : u_T} {fs : List Value} {v : Value} {h1 : Mem} {hl1 : MemL} {ty : FieldType} (C : mC w p s m meth c args cc nL own ret) (Dy : mD w h hl s H locs) (hq : (wW w h hl)[k]? = some (a, .inr (ci, fs))) (hc : clsAll[ci]? = some (Cn, T, N)) (hin : ∀ x ∈ u_ws Cn T N, x ∈ lw_big) (ty0 : Nat → FieldType) (hty : ∀ k, k < N → parseFieldDescriptor (T k).2.2.1 = some (ty0 k)) (hnm : ∀ a, a < N → ∀ b, b < N → a ≠ b → (T a).2.1 ≠ (T b).2.1) (hj : j < N) (hlk : Cond.fieldLink own index (T j).1 (T j).2.1 (T j).2.2.1 ∈ lw_big) (hfin : (T j).2.2.2 = false) (hd : ty0 j = ty) (hn : narrow ty v = v) (hfit : fits ty v = true) (hlen : j < fs.length) (hs : (wW w h hl).set k (a, .inr (ci, fs.set j v)) = wW w h1 hl1) (hdg : decode cc pc = .ok (.putfield index, 3))
    (kk : ∀ (H1 : Heap) (locs1 : List Loc), mD w h1 hl1 s H1 locs1 → W p l e R s m args below meth c H1 locs1 cells slots Q (F0 m (pc + 3) ls rest)) : W p l e R s m args below meth c H locs cells slots Q (F0 m pc ls (v :: .ref a :: rest)) :=
  va_put C.x C.b C.ts hin ty0 hty hnm C.ow C.st.1 Dy.1 (C.st.2.1 h hl) Dy.2 k hq hc j hj (C.ts _ hlk) (fun _ h9 => h9) hfin (by rw [← hd]; exact hty j hj) hn hfit hlen hdg (fun H1 locs1 hP _ hS => kk H1 locs1 ⟨by rw [← hs]; exact hP, hS⟩)
theorem x_iald {k n : Nat} {i : Int32} (C : mC w p s m meth c args cc nL own ret) (Dy : mD w h hl s H locs) (ia : isIA w k n) (hin : vp_in i n) (hdg : decode cc pc = .ok (.iaload, 1))
    (kk : W p l e R s m args below meth c H locs cells slots Q (F0 m (pc + 1) ls (.int (h k i.toNatClampNeg) :: rest))) : W p l e R s m args below meth c H locs cells slots Q (F0 m pc ls (.int i :: .ref (wad w k) :: rest)) := by
  obtain ⟨cA, h1, h2⟩ := ia
  exact va_iald C.x C.b C.st.1 Dy.1 k 0 (h2 h hl).1 h1 hin hdg kk
theorem x_iast {k n : Nat} {i x : Int32} (C : mC w p s m meth c args cc nL own ret) (Dy : mD w h hl s H locs) (ia : isIA w k n) (hin : vp_in i n) (hdg : decode cc pc = .ok (.iastore, 1))
    (kk : ∀ (H1 : Heap) (locs1 : List Loc), mD w (up2 h k i.toNatClampNeg x) hl s H1 locs1 → W p l e R s m args below meth c H1 locs1 cells slots Q (F0 m (pc + 1) ls rest)) : W p l e R s m args below meth c H locs cells slots Q (F0 m pc ls (.int x :: .int i :: .ref (wad w k) :: rest)) := by
  obtain ⟨cA, h1, h2⟩ := ia
  exact va_iast C.x C.b C.st.1 Dy.1 (C.st.2.1 h hl) Dy.2 k 0 (h2 h hl).1 h1 hin hdg (fun H1 locs1 hP _ hS => kk H1 locs1 ⟨by rw [← upR_upd, ← (h2 h hl).2]; exact hP, hS⟩)
theorem x_alen {k n : Nat} {v : Int32} (C : mC w p s m meth c args cc nL own ret) (Dy : mD w h hl s H locs) (ia : isIA w k n) (hv : Int32.ofNat n = v) (hdg : decode cc pc = .ok (.arraylength, 1))
    (kk : W p l e R s m args below meth c H locs cells slots Q (F0 m (pc + 1) ls (.int v :: rest))) : W p l e R s m args below meth c H locs cells slots Q (F0 m pc ls (.ref (wad w k) :: rest)) := by
  obtain ⟨cA, h1, h2⟩ := ia
  exact va_alen C.x C.b C.st.1 Dy.1 k 0 (h2 h hl).1 h1 hv hdg kk
theorem x_zald {k n : Nat} {i : Int32} (C : mC w p s m meth c args cc nL own ret) (Dy : mD w h hl s H locs) (ia : isZA w k n) (hin : vp_in i n) (hdg : decode cc pc = .ok (.baload, 1))
    (kk : W p l e R s m args below meth c H locs cells slots Q (F0 m (pc + 1) ls (.int (h k i.toNatClampNeg) :: rest))) : W p l e R s m args below meth c H locs cells slots Q (F0 m pc ls (.int i :: .ref (wad w k) :: rest)) := by
  obtain ⟨cA, h1, h2⟩ := ia
  exact va_zald C.x C.b C.st.1 Dy.1 k 1 (h2 h hl).1 h1 hin hdg kk
theorem x_lald {k n : Nat} {i : Int32} (C : mC w p s m meth c args cc nL own ret) (Dy : mD w h hl s H locs) (ia : isLA w k n) (hin : vp_in i n) (hdg : decode cc pc = .ok (.laload, 1))
    (kk : W p l e R s m args below meth c H locs cells slots Q (F0 m (pc + 1) ls (.long (hl k i.toNatClampNeg) :: rest))) : W p l e R s m args below meth c H locs cells slots Q (F0 m pc ls (.int i :: .ref (wad w k) :: rest)) := by
  obtain ⟨cA, h1, h2⟩ := ia
  exact va_lald C.x C.b C.st.1 Dy.1 k 2 (h2 h hl).1 h1 hin hdg kk
theorem x_last {k n : Nat} {i : Int32} {x : Int64} (C : mC w p s m meth c args cc nL own ret) (Dy : mD w h hl s H locs) (ia : isLA w k n) (hin : vp_in i n) (hdg : decode cc pc = .ok (.lastore, 1))
    (kk : ∀ (H1 : Heap) (locs1 : List Loc), mD w h (up2L hl k i.toNatClampNeg x) s H1 locs1 → W p l e R s m args below meth c H1 locs1 cells slots Q (F0 m (pc + 1) ls rest)) : W p l e R s m args below meth c H locs cells slots Q (F0 m pc ls (.long x :: .int i :: .ref (wad w k) :: rest)) := by
  obtain ⟨cA, h1, h2⟩ := ia
  exact va_last C.x C.b C.st.1 Dy.1 (C.st.2.1 h hl) Dy.2 k 2 (h2 h hl).1 h1 hin hdg (fun H1 locs1 hP _ hS => kk H1 locs1 ⟨by rw [← (h2 h hl).2]; exact hP, hS⟩)
theorem x_tald {k n : Nat} {f : Nat → Int32} {a : Nat} {i : Int32} (C : mC w p s m meth c args cc nL own ret) (Dy : mD w h hl s H locs) (ht : (wTab w)[k]? = some (a, n, f)) (hin : vp_in i n) (hdg : decode cc pc = .ok (.iaload, 1))
    (kk : W p l e R s m args below meth c H locs cells slots Q (F0 m (pc + 1) ls (.int (f i.toNatClampNeg) :: rest))) : W p l e R s m args below meth c H locs cells slots Q (F0 m pc ls (.int i :: .ref a :: rest)) :=
  va_ti C.x C.b (C.st.2.2.1 k _ ht) Dy.2 hin rfl hdg kk
theorem x_tlen {k n : Nat} {f : Nat → Int32} {a : Nat} {v : Int32} (C : mC w p s m meth c args cc nL own ret) (Dy : mD w h hl s H locs) (ht : (wTab w)[k]? = some (a, n, f)) (hv : Int32.ofNat n = v) (hdg : decode cc pc = .ok (.arraylength, 1))
    (kk : W p l e R s m args below meth c H locs cells slots Q (F0 m (pc + 1) ls (.int v :: rest))) : W p l e R s m args below meth c H locs cells slots Q (F0 m pc ls (.ref a :: rest)) :=
  va_tlen C.x C.b (C.st.2.2.1 k _ ht) Dy.2 hv hdg kk
theorem x_gets {k a index : Nat} {Cn n : String} (C : mC w p s m meth c args cc nL own ret) (Dy : mD w h hl s H locs) (ht : (wFld w)[k]? = some (Cn, n, a)) (hlk : Cond.fieldLink own index Cn n "[I" ∈ lw_big) (hdg : decode cc pc = .ok (.getstatic index, 3))
    (kk : W p l e R s m args below meth c H locs cells slots Q (F0 m (pc + 3) ls (.ref a :: rest))) : W p l e R s m args below meth c H locs cells slots Q (F0 m pc ls rest) :=
  va_gets C.x C.b (C.st.2.2.2 k _ ht) Dy.2 C.ow (C.ts _ hlk) (fun _ h9 => h9) hdg kk
theorem x_cw {y : MethodName} {bytes : ByteArray} {maxL index : Nat} {rt : Option FieldType} {rm : Room} {Cn : String} (n : Nat) (C : mC w p s m meth c args cc nL own ret) (hcode : Cond.code y bytes maxL rt ∈ lw_big) (hlk : Cond.methodLink own index y ∈ lw_big) (hini : Cond.initialized y.cls ∈ lw_big) (hins : Cond.instanceMethod y ∈ lw_big) (hsel : Cond.selects Cn y y ∈ lw_big) (hd : y.cls ≠ "java/lang/invoke/MethodHandle" ∧ y.cls ≠ "java/lang/invoke/VarHandle" ∧ (parseMethodDescriptor y.desc).map (fun d => d.parameters.length) = some n) (h0 : rm.cells = 0) (h1 : rm.slots = 0) (hR : rm.frames + 1 ≤ R.frames ∧ 8 + (maxL + 11) + rm.locals ≤ R.locals) : CallW R s args own Cn index y bytes maxL rt (wsU y bytes maxL rt) rm 0 0 n :=
  ⟨callB_of n C.ts (goodU hcode) rfl h0 h1 (C.ts _ hini) (C.ts _ hlk) hd hR, C.ts _ hins, C.ts _ hsel⟩
theorem x_cs {y : MethodName} {bytes : ByteArray} {maxL index : Nat} {rt : Option FieldType} {rm : Room} (n : Nat) (C : mC w p s m meth c args cc nL own ret) (hcode : Cond.code y bytes maxL rt ∈ lw_big) (hlk : Cond.methodLink own index y ∈ lw_big) (hini : Cond.initialized y.cls ∈ lw_big) (hst : Cond.static y ∈ lw_big) (hd : y.cls ≠ "java/lang/invoke/MethodHandle" ∧ y.cls ≠ "java/lang/invoke/VarHandle" ∧ (parseMethodDescriptor y.desc).map (fun d => d.parameters.length) = some n) (h0 : rm.cells = 0) (h1 : rm.slots = 0) (hR : rm.frames + 1 ≤ R.frames ∧ 8 + (maxL + 11) + rm.locals ≤ R.locals) : CallB R s args own index y bytes maxL rt (wsU y bytes maxL rt) rm 0 0 n ∧ (Cond.static y).before args s = true :=
  ⟨callB_of n C.ts (goodU hcode) rfl h0 h1 (C.ts _ hini) (C.ts _ hlk) hd hR, C.ts _ hst⟩
/-- what holds at a callee's entry -/
theorem x_pre {As : List Value} (C : mC w p s m meth c args cc nL own ret) (Dy : mD w h hl s H locs) : ∀ U : State, U.heap = H → s.WarmedH U.vm → mPc w As h hl As.toArray U := by
  intro U hU hW
  refine ⟨rfl, ?_, by rw [hU]; exact Dy.1⟩
  rw [hU]
  exact (C.st.kept (fun a h1 h2 => Dy.2.2.1 a h1 h2)).moved hW.alike
theorem x_back {H1 : Heap} {L : List Loc} {st₀ t : State} (Dy : mD w h hl s H locs) (h0 : st₀.heap = H) (e1 : H1 = t.heap) (hL : ∀ q ∈ L, wA w q.base) {h1 : Mem} {hl1 : MemL} (hP : va_P (wD w) clsAll (wW w h1 hl1) t.heap) (hF : va_F (wA w) st₀ t) : mD w h1 hl1 s H1 (locs ++ L) := by
  subst h0
  subst e1
  refine ⟨hP, Nat.le_trans Dy.2.1 hF.1, fun q h1 h2 => ?_, fun q hq => ?_⟩
  · rw [hF.2 q (Nat.lt_of_lt_of_le h1 Dy.2.1) h2]; exact Dy.2.2.1 q h1 h2
  · rcases List.mem_append.mp hq with h | h
    · exact Dy.2.2.2 q h
    · exact hL q h
theorem x_cont_i {st0 : List Value} {a : Array Value} {Qp : PI} (Dy : mD w h hl s H locs) (hr : va_Run p l e R s m args below meth c H locs cells slots 0 0 (F0 m pc ls st0) rest (mQi w Qp a) (wA w))
    (kk : ∀ (r : Int32) (h1 : Mem) (hl1 : MemL) (H1 : Heap) (locs1 : List Loc), Qp r h1 hl1 → mD w h1 hl1 s H1 locs1 → W p l e R s m args below meth c H1 locs1 cells slots Q (F0 m (pc + 3) ls (.int r :: rest))) : W p l e R s m args below meth c H locs cells slots Q (F0 m pc ls st0) := by
  intro T hT X
  obtain ⟨v, st₀, t, T', L, h0, X', hL, e1, e2, ⟨r, h1, hl1, hv, hp, hP, hF⟩, st⟩ := hr T hT X
  cases hv
  obtain ⟨t2, a1, b1⟩ := kk r h1 hl1 T'.heap (locs ++ L) hp (x_back Dy h0 e1 hL hP hF) T' rfl X'
  exact ⟨t2, st t2 a1, b1⟩
theorem x_cont_z {st0 : List Value} {a : Array Value} {Qp : PI} (Dy : mD w h hl s H locs) (hr : va_Run p l e R s m args below meth c H locs cells slots 0 0 (F0 m pc ls st0) rest (mQz w Qp a) (wA w))
    (kk : ∀ (r : Int32) (h1 : Mem) (hl1 : MemL) (H1 : Heap) (locs1 : List Loc), (r = 0 ∨ r = 1) → Qp r h1 hl1 → mD w h1 hl1 s H1 locs1 → W p l e R s m args below meth c H1 locs1 cells slots Q (F0 m (pc + 3) ls (.int r :: rest))) : W p l e R s m args below meth c H locs cells slots Q (F0 m pc ls st0) := by
  intro T hT X
  obtain ⟨v, st₀, t, T', L, h0, X', hL, e1, e2, ⟨r, h1, hl1, hv, hp, hP, hF⟩, st⟩ := hr T hT X
  cases hv
  obtain ⟨t2, a1, b1⟩ := kk r h1 hl1 T'.heap (locs ++ L) hp.1 hp.2 (x_back Dy h0 e1 hL hP hF) T' rfl X'
  exact ⟨t2, st t2 a1, b1⟩
theorem x_cont_l {st0 : List Value} {a : Array Value} {Qp : PL} (Dy : mD w h hl s H locs) (hr : va_Run p l e R s m args below meth c H locs cells slots 0 0 (F0 m pc ls st0) rest (mQl w Qp a) (wA w))
    (kk : ∀ (r : Int64) (h1 : Mem) (hl1 : MemL) (H1 : Heap) (locs1 : List Loc), Qp r h1 hl1 → mD w h1 hl1 s H1 locs1 → W p l e R s m args below meth c H1 locs1 cells slots Q (F0 m (pc + 3) ls (.long r :: rest))) : W p l e R s m args below meth c H locs cells slots Q (F0 m pc ls st0) := by
  intro T hT X
  obtain ⟨v, st₀, t, T', L, h0, X', hL, e1, e2, ⟨r, h1, hl1, hv, hp, hP, hF⟩, st⟩ := hr T hT X
  cases hv
  obtain ⟨t2, a1, b1⟩ := kk r h1 hl1 T'.heap (locs ++ L) hp (x_back Dy h0 e1 hL hP hF) T' rfl X'
  exact ⟨t2, st t2 a1, b1⟩
theorem x_cont_v {st0 : List Value} {a : Array Value} {Qp : PV} (Dy : mD w h hl s H locs) (hr : va_Run p l e R s m args below meth c H locs cells slots 0 0 (F0 m pc ls st0) rest (mQv w Qp a) (wA w))
    (kk : ∀ (h1 : Mem) (hl1 : MemL) (H1 : Heap) (locs1 : List Loc), Qp h1 hl1 → mD w h1 hl1 s H1 locs1 → W p l e R s m args below meth c H1 locs1 cells slots Q (F0 m (pc + 3) ls rest)) : W p l e R s m args below meth c H locs cells slots Q (F0 m pc ls st0) := by
  intro T hT X
  obtain ⟨v, st₀, t, T', L, h0, X', hL, e1, e2, ⟨h1, hl1, hv, hp, hP, hF⟩, st⟩ := hr T hT X
  cases hv
  obtain ⟨t2, a1, b1⟩ := kk h1 hl1 T'.heap (locs ++ L) hp (x_back Dy h0 e1 hL hP hF) T' rfl X'
  exact ⟨t2, st t2 a1, b1⟩
theorem x_cont_r {st0 : List Value} {a : Array Value} {Qp : PR} (Dy : mD w h hl s H locs) (hr : va_Run p l e R s m args below meth c H locs cells slots 0 0 (F0 m pc ls st0) rest (mQr w Qp a) (wA w))
    (kk : ∀ (r : Nat) (h1 : Mem) (hl1 : MemL) (H1 : Heap) (locs1 : List Loc), Qp r h1 hl1 → mD w h1 hl1 s H1 locs1 → W p l e R s m args below meth c H1 locs1 cells slots Q (F0 m (pc + 3) ls (.ref (wad w r) :: rest))) : W p l e R s m args below meth c H locs cells slots Q (F0 m pc ls st0) := by
  intro T hT X
  obtain ⟨v, st₀, t, T', L, h0, X', hL, e1, e2, ⟨r, h1, hl1, hv, hp, hP, hF⟩, st⟩ := hr T hT X
  cases hv
  obtain ⟨t2, a1, b1⟩ := kk r h1 hl1 T'.heap (locs ++ L) hp (x_back Dy h0 e1 hL hP hF) T' rfl X'
  exact ⟨t2, st t2 a1, b1⟩
/-- a call on an object of the world -/
theorem x_runV {y : MethodName} {bytes : ByteArray} {maxL index n kc ci N b : Nat} {rt : Option FieldType} {rm : Room} {Cn : String} {T : u_T} {As st0 : List Value} {fs : List Value} {Qc : Array Value → State → Outcome → State → Prop} (C : mC w p s m meth c args cc nL own ret) (Dy : mD w h hl s H locs)
    (hM : Met l y (wsU y bytes maxL rt) rm (mPc w (.ref b :: As) h hl) Qc 0 0 (wA w)) (cw : CallW R s args own Cn index y bytes maxL rt (wsU y bytes maxL rt) rm 0 0 n) (hq : (wW w h hl)[kc]? = some (b, .inr (ci, fs))) (hc : clsAll[ci]? = some (Cn, T, N)) (hn : As.length = n) (hsz : ls.size = nL) (hst : st0 = As.reverse ++ .ref b :: rest) (hW : (rest.map fun v => v.category).sum ≤ 8) (hdg : decode cc pc = .ok (.invokevirtual index, 3)) (hf : cells ≤ R.cells ∧ slots ≤ R.slots) :
    va_Run p l e R s m args below meth c H locs cells slots 0 0 (F0 m pc ls st0) rest (Qc (Value.ref b :: As).toArray) (wA w) :=
  va_runV (C := Cn) ⟨C.x, C.b, C.ml, C.ow, C.ts⟩ hM cw ⟨mPc.blind, va_recv C.st.1 Dy.1 hc hq, x_pre C Dy⟩ rfl hn hsz hst (lv_room hW) hdg hf
theorem x_runS {y : MethodName} {bytes : ByteArray} {maxL index n : Nat} {rt : Option FieldType} {rm : Room} {As st0 : List Value} {Qc : Array Value → State → Outcome → State → Prop} (C : mC w p s m meth c args cc nL own ret) (Dy : mD w h hl s H locs)
    (hM : Met l y (wsU y bytes maxL rt) rm (mPc w As h hl) Qc 0 0 (wA w)) (cw : CallB R s args own index y bytes maxL rt (wsU y bytes maxL rt) rm 0 0 n ∧ (Cond.static y).before args s = true) (hn : As.length = n) (hsz : ls.size = nL) (hst : st0 = As.reverse ++ rest) (hW : (rest.map fun v => v.category).sum ≤ 8) (hdg : decode cc pc = .ok (.invokestatic index, 3)) (hf : cells ≤ R.cells ∧ slots ≤ R.slots) :
    va_Run p l e R s m args below meth c H locs cells slots 0 0 (F0 m pc ls st0) rest (Qc As.toArray) (wA w) :=
  va_runS ⟨C.x, C.b, C.ml, C.ow, C.ts⟩ hM cw ⟨mPc.blind, x_pre C Dy⟩ rfl hn hsz hst (lv_room hW) hdg hf
theorem x_iret {Qp : PI} {v : Int32} (C : mC w p s m meth c args cc nL own (some .int)) (Dy : mD w h hl s H locs) (hwp : Qp v h hl) (hdg : decode cc pc = .ok (.ireturn, 1)) : W p l e R s m args below meth c H locs cells slots (MQ below (mQi w Qp) args s cells slots (wA w)) (F0 m pc ls [.int v]) :=
  W.iret C.x C.b C.rt (fun t ht _ => ⟨v, h, hl, rfl, hwp, by rw [ht]; exact Dy.1, Dy.2.F ht⟩) Dy.2.2.2 hdg C.lk
theorem x_zret {Qp : PI} {v : Int32} (C : mC w p s m meth c args cc nL own (some .boolean)) (Dy : mD w h hl s H locs) (hv : v = 0 ∨ v = 1) (hwp : Qp v h hl) (hdg : decode cc pc = .ok (.ireturn, 1)) : W p l e R s m args below meth c H locs cells slots (MQ below (mQz w Qp) args s cells slots (wA w)) (F0 m pc ls [.int v]) :=
  W.zret C.x C.b C.rt (by rcases hv with rfl | rfl <;> rfl) (fun t ht _ => ⟨v, h, hl, rfl, ⟨hv, hwp⟩, by rw [ht]; exact Dy.1, Dy.2.F ht⟩) Dy.2.2.2 hdg C.lk
theorem x_lret {Qp : PL} {v : Int64} (C : mC w p s m meth c args cc nL own (some .long)) (Dy : mD w h hl s H locs) (hwp : Qp v h hl) (hdg : decode cc pc = .ok (.lreturn, 1)) : W p l e R s m args below meth c H locs cells slots (MQ below (mQl w Qp) args s cells slots (wA w)) (F0 m pc ls [.long v]) :=
  W.lret C.x C.b C.rt (fun t ht _ => ⟨v, h, hl, rfl, hwp, by rw [ht]; exact Dy.1, Dy.2.F ht⟩) Dy.2.2.2 hdg C.lk
theorem x_vret {Qp : PV} (C : mC w p s m meth c args cc nL own none) (Dy : mD w h hl s H locs) (hwp : Qp h hl) (hdg : decode cc pc = .ok (.return_, 1)) : W p l e R s m args below meth c H locs cells slots (MQ below (mQv w Qp) args s cells slots (wA w)) (F0 m pc ls []) :=
  W.vret C.x C.b C.rt (fun t ht _ => ⟨h, hl, rfl, hwp, by rw [ht]; exact Dy.1, Dy.2.F ht⟩) Dy.2.2.2 hdg C.lk
theorem x_rret {Qp : PR} {k : Nat} {nm : String} (C : mC w p s m meth c args cc nL own (some (.object nm))) (Dy : mD w h hl s H locs) (hwp : Qp k h hl) (hdg : decode cc pc = .ok (.areturn, 1)) : W p l e R s m args below meth c H locs cells slots (MQ below (mQr w Qp) args s cells slots (wA w)) (F0 m pc ls [.ref (wad w k)]) :=
  W.aret C.x C.b C.rt (Or.inl ⟨_, rfl⟩) (Or.inr ⟨_, rfl⟩) (fun t ht _ => ⟨k, h, hl, rfl, hwp, by rw [ht]; exact Dy.1, Dy.2.F ht⟩) Dy.2.2.2 hdg C.lk
end XRows
/-- a method's contract out of the walk of its body -/
theorem x_met {w : Wd} {h : Mem} {hl : MemL} {l : Launch} {y : MethodName} {cc : ByteArray} {nL : Nat} {ret : Option FieldType} {rm : Room} {av : List Value} {Qc : Array Value → State → Outcome → State → Prop} (own : String) (lv : List (Nat × Value)) (hy : plainName y.cls = true) (ho : y.cls = own) (hsl : (lg_sl av).length ≤ nL) (hlv : lv_args 0 av = lv)
    (body : ∀ (p : Program) (e : Env) (s : State) (m : MethodId) (args : Array Value) (below : List Frame) (meth : Method) (c : Code) (ls : Array Slot), mC w p s m meth c args cc nL own ret → mD w h hl s s.heap [] → lv_has ls nL lv → W p l e rm s m args below meth c s.heap [] 0 0 (MQ below Qc args s 0 0 (wA w)) (F0 m 0 ls [])) : Met l y (wsU y cc nL ret) rm (mPc w av h hl) Qc 0 0 (wA w) := by
  refine Met.ofW (cc := cc) (maxL := nL) (ret := ret) hy rfl ?_
  intro p e s m args below meth c s₁ B hml hv
  obtain ⟨rfl, hst, hP⟩ := hv
  have hts := atoms_spec (ws := wsU y cc nL ret) B.pre
  have hown : s.vm.findClass own = some m.cls := by rw [← ho]; exact findClass_of_methodNamed B.named
  have hl0 := lv_entry av (n := nL) hsl
  rw [lg_entry_eq]
  generalize (lg_sl av ++ List.replicate (nL - (lg_sl av).length) Slot.unset).toArray = ls at hl0 ⊢
  rw [hlv] at hl0
  exact body p e s m _ below meth c ls ⟨B.exec, B.bytes, hml, hown, fun x hx => hts x (List.mem_cons_of_mem _ hx), hst, B.notSynchronized, B.returns⟩ ⟨hP, va_S.rf⟩ hl0
