/-! CONSTRUCTORS: a world that grows; the object that is made lies at a0, all else that changes is new -/
abbrev Kg : Type := va_G × List (ClassId × FieldType) × List (Nat × Nat × (Nat → Int32)) × List (String × String × Nat)
def cS (g : Kg) (A : Nat → Prop) (U : State) (H : Heap) : Prop :=
  va_K g.1 clsAll g.2.1 U ∧ (∀ (k : Nat) (q : Nat × Nat × (Nat → Int32)), g.2.2.1[k]? = some q → va_T .int q.1 q.2.1 (fun j => .int (q.2.2 j)) A U H) ∧ (∀ (k : Nat) (q : String × String × Nat), g.2.2.2[k]? = some q → va_Z q.1 q.2.1 "[I" (.ref q.2.2) A U H)
theorem cS.moved {g : Kg} {A : Nat → Prop} {u U : State} {H : Heap} (hvm : u.vm.Alike U.vm) (h : cS g A u H) : cS g A U H := ⟨va_K.moved hvm h.1, fun k q hq => va_T.moved hvm (h.2.1 k q hq), fun k q hq => va_Z.moved hvm (h.2.2 k q hq)⟩
theorem cS.kept {g : Kg} {A : Nat → Prop} {U : State} {H H1 : Heap} (h : cS g A U H) (hq : ∀ a : Nat, a < H.size → ¬ A a → H1[a]? = H[a]?) : cS g A U H1 := ⟨h.1, fun k q hk => va_T.kept (h.2.1 k q hk) hq, fun k q hk => va_Z.kept (h.2.2 k q hk) hq⟩
theorem cS.narrow {g : Kg} {A B : Nat → Prop} {U : State} {H : Heap} (h : cS g A U H) (hAB : ∀ q, B q → A q) : cS g B U H := ⟨h.1, fun k q hk => va_T.narrow (h.2.1 k q hk) hAB, fun k q hk => va_Z.narrow (h.2.2 k q hk) hAB⟩
def aA (a0 sz : Nat) : Nat → Prop := fun x => x = a0 ∨ sz ≤ x
def cN (nest : List (Nat × MethodName)) (over : List String) (U : State) : Prop := (∀ q ∈ nest, va_Nw (.methodLinkNest RX9 q.1 q.2 "KingsYear") U) ∧ ∀ C ∈ over, va_AO C U
def cPc (g : Kg) (nest : List (Nat × MethodName)) (over : List String) (av : List Value) (a0 sz : Nat) (e0 : va_E) : Array Value → State → Prop := fun v U => v = av.toArray ∧ U.heap.size = sz ∧ cS g (aA a0 sz) U U.heap ∧ va_P g.1 clsAll [(a0, e0)] U.heap ∧ cN nest over U
theorem cPc.blind {g : Kg} {nest : List (Nat × MethodName)} {over : List String} {av : List Value} {a0 sz : Nat} {e0 : va_E} : FrameBlind (cPc g nest over av a0 sz e0) := fun a U f mk q => ⟨q.1, q.2.1, cS.moved (u := U) (U := U.calling f mk a) (Vm.Alike.refl U.vm) q.2.2.1, q.2.2.2.1, fun x hx => va_Nw.same (u := U) (U := U.calling f mk a) rfl rfl (q.2.2.2.2.1 x hx), fun C hC => va_AO.moved (u := U) (U := U.calling f mk a) (Vm.Alike.refl U.vm) (q.2.2.2.2.2 C hC)⟩
def cQ (g : Kg) (cl : (Nat → Nat) → va_W) (a0 sz : Nat) : Array Value → State → Outcome → State → Prop := fun _ st oc t => ∃ q : Nat → Nat, oc = .returned none ∧ q 0 = a0 ∧ va_P g.1 clsAll (cl q) t.heap ∧ va_D (aA a0 sz) (cl q) ∧ va_F (aA a0 sz) st t
def gC (g : Kg) (a0 : Nat) (p : Program) (s : State) (m : MethodId) (meth : Method) (c : Code) (args : Array Value) (cc : ByteArray) (nL : Nat) (own : String) : Prop :=
  p.tables.exec = Jvm.exec ∧ c.code = cc ∧ c.maxLocals = nL ∧ s.vm.findClass own = some m.cls ∧ (∀ x ∈ lw_big, x.before args s = true) ∧ cS g (aA a0 s.heap.size) s s.heap ∧ meth.locks = false ∧ meth.sig.returnType = none ∧ meth.name = "<init>"
def gD (g : Kg) (a0 : Nat) (ws : va_W) (s : State) (H : Heap) (locs : List Loc) : Prop := va_P g.1 clsAll ws H ∧ va_D (aA a0 s.heap.size) ws ∧ va_S (aA a0 s.heap.size) s.heap H locs
section YRows
variable {p : Program} {l : Launch} {e : Env} {R : Room} {s : State} {m : MethodId} {args : Array Value} {below : List Frame} {meth : Method} {c : Code} {H : Heap} {locs : List Loc} {cells slots : Nat} {Q : State → Prop}
variable {cc : ByteArray} {nL pc : Nat} {ls : Array Slot} {rest : List Value} {own : String} {g : Kg} {a0 : Nat} {ws : va_W}
theorem gC.x (C : gC g a0 p s m meth c args cc nL own) : p.tables.exec = Jvm.exec := C.1
theorem gC.b (C : gC g a0 p s m meth c args cc nL own) : c.code = cc := C.2.1
theorem gC.ml (C : gC g a0 p s m meth c args cc nL own) : c.maxLocals = nL := C.2.2.1
theorem gC.ow (C : gC g a0 p s m meth c args cc nL own) : s.vm.findClass own = some m.cls := C.2.2.2.1
theorem gC.ts (C : gC g a0 p s m meth c args cc nL own) : ∀ x ∈ lw_big, x.before args s = true := C.2.2.2.2.1
theorem gC.st (C : gC g a0 p s m meth c args cc nL own) : cS g (aA a0 s.heap.size) s s.heap := C.2.2.2.2.2.1
theorem gC.lk (C : gC g a0 p s m meth c args cc nL own) : meth.locks = false := C.2.2.2.2.2.2.1
theorem gC.rt (C : gC g a0 p s m meth c args cc nL own) : meth.sig.returnType = none := C.2.2.2.2.2.2.2.1
theorem gC.nm (C : gC g a0 p s m meth c args cc nL own) : meth.name = "<init>" := C.2.2.2.2.2.2.2.2
theorem y_obj {index : Nat} (C : gC g a0 p s m meth c args cc nL own) (hlk : Cond.methodLink own index objectInit ∈ lw_big) (hin : Cond.instanceMethod objectInit ∈ lw_big) (hcode : Cond.code objectInit ⟨#[0xb1]⟩ 1 none ∈ lw_big) {a : Nat} (hsz : ls.size = nL) (hdg : decode cc pc = .ok (.invokespecial index, 3)) (hf : 1 ≤ R.frames) (hlo : (rest.map fun v => v.category).sum + 12 ≤ R.locals)
    (kk : W p l e R s m args below meth c H locs cells slots Q (F0 m (pc + 3) ls rest)) : W p l e R s m args below meth c H locs cells slots Q (F0 m pc ls (.ref a :: rest)) :=
  W.objInit C.x C.b C.ow (C.ts _ hlk) (C.ts _ hin) (C.ts _ hcode) rfl (by rw [C.ml]; exact hsz) rfl hdg hf (by show 2 * 0 + _ + 12 ≤ _; omega) kk
theorem y_get {k a ci j N index : Nat} {Cn : String} {T : u_T} {fs : List Value} {v : Value} (C : gC g a0 p s m meth c args cc nL own) (Dy : gD g a0 ws s H locs) (hq : ws[k]? = some (a, .inr (ci, fs))) (hc : clsAll[ci]? = some (Cn, T, N)) (hin : ∀ x ∈ u_ws Cn T N, x ∈ lw_big) (hj : j < N) (hlk : Cond.fieldLink own index (T j).1 (T j).2.1 (T j).2.2.1 ∈ lw_big) (hv : fs[j]? = some v) (hdg : decode cc pc = .ok (.getfield index, 3))
    (kk : W p l e R s m args below meth c H locs cells slots Q (F0 m (pc + 3) ls (v :: rest))) : W p l e R s m args below meth c H locs cells slots Q (F0 m pc ls (.ref a :: rest)) :=
  va_get C.x C.b C.ts hin C.ow C.st.1 Dy.1 k hq hc j hj (C.ts _ hlk) (fun _ h9 => h9) hv hdg kk
theorem y_put {k a ci j N index : Nat} {Cn : String} {T : u_T} {fs : List Value} {v : Value} {ty : FieldType} (C : gC g a0 p s m meth c args cc nL own) (Dy : gD g a0 ws s H locs) (hq : ws[k]? = some (a, .inr (ci, fs))) (hc : clsAll[ci]? = some (Cn, T, N)) (hin : ∀ x ∈ u_ws Cn T N, x ∈ lw_big) (ty0 : Nat → FieldType) (hty : ∀ k, k < N → parseFieldDescriptor (T k).2.2.1 = some (ty0 k)) (hnm : ∀ a, a < N → ∀ b, b < N → a ≠ b → (T a).2.1 ≠ (T b).2.1) (hj : j < N) (hlk : Cond.fieldLink own index (T j).1 (T j).2.1 (T j).2.2.1 ∈ lw_big) (hfin : (T j).2.2.2 = false) (hd : ty0 j = ty) (hn : narrow ty v = v) (hfit : fits ty v = true) (hlen : j < fs.length) (hdg : decode cc pc = .ok (.putfield index, 3))
    (kk : ∀ (H1 : Heap) (locs1 : List Loc), gD g a0 (ws.set k (a, .inr (ci, fs.set j v))) s H1 locs1 → W p l e R s m args below meth c H1 locs1 cells slots Q (F0 m (pc + 3) ls rest)) : W p l e R s m args below meth c H locs cells slots Q (F0 m pc ls (v :: .ref a :: rest)) :=
  va_put C.x C.b C.ts hin ty0 hty hnm C.ow C.st.1 Dy.1 Dy.2.1 Dy.2.2 k hq hc j hj (C.ts _ hlk) (fun _ h9 => h9) hfin (by rw [← hd]; exact hty j hj) hn hfit hlen hdg (fun H1 locs1 hP hD hS => kk H1 locs1 ⟨hP, hD, hS⟩)
theorem y_putF {k a ci j N index : Nat} {Cn : String} {T : u_T} {fs : List Value} {v : Value} {ty : FieldType} (C : gC g a0 p s m meth c args cc nL own) (Dy : gD g a0 ws s H locs) (hq : ws[k]? = some (a, .inr (ci, fs))) (hc : clsAll[ci]? = some (Cn, T, N)) (hin : ∀ x ∈ u_ws Cn T N, x ∈ lw_big) (ty0 : Nat → FieldType) (hty : ∀ k, k < N → parseFieldDescriptor (T k).2.2.1 = some (ty0 k)) (hnm : ∀ a, a < N → ∀ b, b < N → a ≠ b → (T a).2.1 ≠ (T b).2.1) (hj : j < N) (hlk : Cond.fieldLink own index (T j).1 (T j).2.1 (T j).2.2.1 ∈ lw_big) (hfin : (T j).2.2.2 = true) (hdecl : (T j).1 = own) (hd : ty0 j = ty) (hn : narrow ty v = v) (hfit : fits ty v = true) (hlen : j < fs.length) (hdg : decode cc pc = .ok (.putfield index, 3))
    (kk : ∀ (H1 : Heap) (locs1 : List Loc), gD g a0 (ws.set k (a, .inr (ci, fs.set j v))) s H1 locs1 → W p l e R s m args below meth c H1 locs1 cells slots Q (F0 m (pc + 3) ls rest)) : W p l e R s m args below meth c H locs cells slots Q (F0 m pc ls (v :: .ref a :: rest)) :=
  va_putF C.x C.b C.ts hin ty0 hty hnm C.ow C.st.1 Dy.1 Dy.2.1 Dy.2.2 k hq hc j hj (C.ts _ hlk) (fun _ h9 => h9) hfin C.nm hdecl (by rw [← hd]; exact hty j hj) hn hfit hlen hdg (fun H1 locs1 hP hD hS => kk H1 locs1 ⟨hP, hD, hS⟩)
/-- a new row of numbers: its class is the one that the tables name -/
theorem y_newa {atype : ArrayType} {ty : FieldType} {cA : ClassId} {n : Int32} {N' : Nat} {a1 : vp_A} (C : gC g a0 p s m meth c args cc nL own) (Dy : gD g a0 ws s H locs) (t0 : Nat) (ht : g.2.1[t0]? = some (cA, ty)) (hprim : va_RA s cA ty → s.vm.findClass ("[" ++ ty.toString) = some cA) (harr : Cond.arrayClass ty ∈ lw_big) (hty : newarray.typeOf atype = ty) (ha : ∀ cA : ClassId, vp_cell cA a1 = arrV cA N' (fun _ => defaultValue ty)) (hn : ¬ n < 0) (hN : n.toNatClampNeg = N') (hbytes : N' * componentBytes ty ≤ 536870912) (hcells : cells + 1 ≤ R.cells) (hslots : slots + N' ≤ R.slots) (hdg : decode cc pc = .ok (.newarray atype, 2))
    (kk : ∀ (q : Nat) (H1 : Heap), gD g a0 (ws ++ [(q, .inl (cA, a1))]) s H1 locs → W p l e R s m args below meth c H1 locs (cells + 1) (slots + N') Q (F0 m (pc + 2) ls (.ref q :: rest))) : W p l e R s m args below meth c H locs cells slots Q (F0 m pc ls (.int n :: rest)) := by
  subst hty
  refine va_newa C.x C.b (C.ts _ harr) rfl C.st.1 Dy.1 Dy.2.1 Dy.2.2 (fun q h => Or.inr h) ha hn hN hbytes hcells hslots hdg (fun q cB H1 hK hP hD hS => ?_)
  have e1 := hprim (C.st.1.2 t0 _ ht).2
  have e2 := (hK.2 g.2.1.length (cB, newarray.typeOf atype) (by simp)).2
  have e3 : s.vm.findClass ("[" ++ (newarray.typeOf atype).toString) = some cB := by
    cases atype <;> exact e2
  have e4 : cB = cA := Option.some.inj (e3.symm.trans e1)
  subst e4
  exact kk q H1 ⟨hP, hD, hS⟩
theorem y_newq {index : Nat} {Cn : String} {cA : ClassId} {n : Int32} {N' : Nat} (C : gC g a0 p s m meth c args cc nL own) (Dy : gD g a0 ws s H locs) (t0 : Nat) (ht : g.2.1[t0]? = some (cA, .object Cn)) (hcl : Cond.classLink own index Cn ∈ lw_big) (hover : va_AO Cn s) (hn : ¬ n < 0) (hN : n.toNatClampNeg = N') (hbytes : N' * 4 ≤ 536870912) (hcells : cells + 1 ≤ R.cells) (hslots : slots + N' ≤ R.slots) (hdg : decode cc pc = .ok (.anewarray index, 3))
    (kk : ∀ (q : Nat) (H1 : Heap), gD g a0 (ws ++ [(q, .inl (cA, N', .inr (.inr (.inr (.inr (fun _ => none))))))]) s H1 locs → W p l e R s m args below meth c H1 locs (cells + 1) (slots + N') Q (F0 m (pc + 3) ls (.ref q :: rest))) : W p l e R s m args below meth c H locs cells slots Q (F0 m pc ls (.int n :: rest)) := by
  refine va_newq C.x C.b C.ow (C.ts _ hcl) hover C.st.1 Dy.1 Dy.2.1 Dy.2.2 (fun q h => Or.inr h) hn hN hbytes hcells hslots hdg (fun q cB H1 hK hP hD hS => ?_)
  obtain ⟨_, _, -, -, -, e1⟩ := (C.st.1.2 t0 _ ht).2
  obtain ⟨_, _, -, -, -, e2⟩ := (hK.2 g.2.1.length (cB, .object Cn) (by simp)).2
  have e4 : cB = cA := Option.some.inj (e2.symm.trans e1)
  subst e4
  exact kk q H1 ⟨hP, hD, hS⟩
theorem y_new {index ci N : Nat} {Cn : String} {T : u_T} {fs : List Value} (C : gC g a0 p s m meth c args cc nL own) (Dy : gD g a0 ws s H locs) (hc : clsAll[ci]? = some (Cn, T, N)) (hin : ∀ x ∈ u_ws Cn T N, x ∈ lw_big) (ty0 : Nat → FieldType) (hty : ∀ k, k < N → parseFieldDescriptor (T k).2.2.1 = some (ty0 k)) (hcl : Cond.classLink own index Cn ∈ lw_big) (hinst : Cond.instantiable Cn N ∈ lw_big) (hini : Cond.initialized Cn ∈ lw_big) (hfs : ∀ j, j < N → defaultValue (ty0 j) = vp_V fs j) (hcells : cells + 1 ≤ R.cells) (hslots : slots + N ≤ R.slots) (hdg : decode cc pc = .ok (.new index, 3))
    (kk : ∀ (q : Nat) (H1 : Heap), gD g a0 (ws ++ [(q, .inr (ci, fs))]) s H1 locs → W p l e R s m args below meth c H1 locs (cells + 1) (slots + N) Q (F0 m (pc + 3) ls (.ref q :: rest))) : W p l e R s m args below meth c H locs cells slots Q (F0 m pc ls rest) :=
  va_new C.x C.b C.ts hin ty0 hty C.ow (C.ts _ hcl) (C.ts _ hinst) (C.ts _ hini) C.st.1 Dy.1 Dy.2.1 Dy.2.2 (fun q h => Or.inr h) hc hfs hcells hslots hdg (fun q H1 hP hD hS => kk q H1 ⟨hP, hD, hS⟩)
theorem y_gets {k a index : Nat} {Cn n : String} (C : gC g a0 p s m meth c args cc nL own) (Dy : gD g a0 ws s H locs) (ht : g.2.2.2[k]? = some (Cn, n, a)) (hlk : Cond.fieldLink own index Cn n "[I" ∈ lw_big) (hdg : decode cc pc = .ok (.getstatic index, 3))
    (kk : W p l e R s m args below meth c H locs cells slots Q (F0 m (pc + 3) ls (.ref a :: rest))) : W p l e R s m args below meth c H locs cells slots Q (F0 m pc ls rest) :=
  va_gets C.x C.b (C.st.2.2 k _ ht) Dy.2.2 C.ow (C.ts _ hlk) (fun _ h9 => h9) hdg kk
theorem y_tlen {k n : Nat} {f : Nat → Int32} {a : Nat} {v : Int32} (C : gC g a0 p s m meth c args cc nL own) (Dy : gD g a0 ws s H locs) (ht : g.2.2.1[k]? = some (a, n, f)) (hv : Int32.ofNat n = v) (hdg : decode cc pc = .ok (.arraylength, 1))
    (kk : W p l e R s m args below meth c H locs cells slots Q (F0 m (pc + 1) ls (.int v :: rest))) : W p l e R s m args below meth c H locs cells slots Q (F0 m pc ls (.ref a :: rest)) :=
  va_tlen C.x C.b (C.st.2.1 k _ ht) Dy.2.2 hv hdg kk
theorem y_iast {k n : Nat} {a t0 : Nat} {cA : ClassId} {f : Nat → Int32} {i x : Int32} (C : gC g a0 p s m meth c args cc nL own) (Dy : gD g a0 ws s H locs) (ht : g.2.1[t0]? = some (cA, .int)) (hq : ws[k]? = some (a, .inl (cA, n, .inl f))) (hin : vp_in i n) (hdg : decode cc pc = .ok (.iastore, 1))
    (kk : ∀ (H1 : Heap) (locs1 : List Loc), gD g a0 (ws.set k (a, .inl (cA, n, .inl (upd f i.toNatClampNeg x)))) s H1 locs1 → W p l e R s m args below meth c H1 locs1 cells slots Q (F0 m (pc + 1) ls rest)) : W p l e R s m args below meth c H locs cells slots Q (F0 m pc ls (.int x :: .int i :: .ref a :: rest)) :=
  va_iast C.x C.b C.st.1 Dy.1 Dy.2.1 Dy.2.2 k t0 hq ht hin hdg (fun H1 locs1 hP hD hS => kk H1 locs1 ⟨hP, hD, hS⟩)
theorem y_aast {k k1 n ci v : Nat} {a t0 : Nat} {cA : ClassId} {f : Nat → Option Nat} {i : Int32} {r : vw_C} {vs : List Value} (C : gC g a0 p s m meth c args cc nL own) (Dy : gD g a0 ws s H locs) (ht : g.2.1[t0]? = some (cA, .object r.1)) (hq : ws[k]? = some (a, .inl (cA, n, .inr (.inr (.inr (.inr f)))))) (hv : ws[k1]? = some (v, .inr (ci, vs))) (hc : clsAll[ci]? = some r) (hin : vp_in i n) (hdg : decode cc pc = .ok (.aastore, 1))
    (kk : ∀ (H1 : Heap) (locs1 : List Loc), gD g a0 (ws.set k (a, .inl (cA, n, .inr (.inr (.inr (.inr (va_up f i.toNatClampNeg (some v)))))))) s H1 locs1 → W p l e R s m args below meth c H1 locs1 cells slots Q (F0 m (pc + 1) ls rest)) : W p l e R s m args below meth c H locs cells slots Q (F0 m pc ls (.ref v :: .int i :: .ref a :: rest)) :=
  va_astq C.x C.b C.st.1 Dy.1 Dy.2.1 Dy.2.2 k t0 k1 ci hq ht hv hc hin hdg (fun H1 locs1 hP hD hS => kk H1 locs1 ⟨hP, hD, hS⟩)
/-- behind a constructor's call: the rest of the world is as it was, the new object stands with its cells -/
theorem y_cont {cl : (Nat → Nat) → va_W} {a1 mc ms : Nat} {e1 : va_E} {st0 : List Value} {av : Array Value} (Dy : gD g a0 (ws ++ [(a1, e1)]) s H locs) (hr : va_Run p l e R s m args below meth c H locs cells slots mc ms (F0 m pc ls st0) rest (cQ g cl a1 H.size av) (aA a1 H.size))
    (kk : ∀ (q : Nat → Nat) (H1 : Heap) (locs1 : List Loc), q 0 = a1 → gD g a0 (ws ++ cl q) s H1 locs1 → W p l e R s m args below meth c H1 locs1 (cells + mc) (slots + ms) Q (F0 m (pc + 3) ls rest)) : W p l e R s m args below meth c H locs cells slots Q (F0 m pc ls st0) := by
  intro T hT X
  obtain ⟨v, st₀, t, T', L, h0, X', hL, e1', e2, ⟨q, hv, hq0, hP1, hD1, hF⟩, st⟩ := hr T hT X
  cases hv
  obtain ⟨hP, hD, hS⟩ := Dy
  have hlast : (ws ++ [(a1, e1)])[ws.length]? = some (a1, e1) := by simp
  have hA1 : aA a0 s.heap.size a1 := hD.2 _ _ hlast
  have hsub : ∀ x, aA a1 H.size x → aA a0 s.heap.size x := by
    intro x hx
    rcases hx with rfl | hx
    · exact hA1
    · exact Or.inr (Nat.le_trans hS.1 hx)
  have hin : ∀ (k : Nat) (z : Nat × va_E), ws[k]? = some z → (ws ++ [(a1, e1)])[k]? = some z := by
    intro k z hk
    have hlt : k < ws.length := by
      rcases Nat.lt_or_ge k ws.length with h | h
      · exact h
      · rw [List.getElem?_eq_none h] at hk; cases hk
    rw [List.getElem?_append_left hlt]; exact hk
  have hoff : ∀ (k : Nat) (z : Nat × va_E), ws[k]? = some z → z.1 < H.size ∧ ¬ aA a1 H.size z.1 := by
    intro k z hk
    have hl := (hP k z (hin k z hk)).lt
    refine ⟨hl, fun h => ?_⟩
    rcases h with h | h
    · have hk2 := hD.1 k ws.length z (a1, e1) (hin k z hk) hlast h
      rw [hk2] at hk
      simp at hk
    · omega
  have hk1 : ∀ x : Nat, x < H.size → ¬ aA a1 H.size x → T'.heap[x]? = H[x]? := fun x h1 h2 => by rw [e1', ← h0]; exact hF.2 x (by rw [h0]; exact h1) h2
  have hPw : va_P g.1 clsAll ws T'.heap := fun k z hk => ((hP k z (hin k z hk)).kept (hk1 z.1 (hoff k z hk).1 (hoff k z hk).2))
  have hDw : va_D (aA a0 s.heap.size) ws := ⟨fun i j x y hx hy hxy => hD.1 i j x y (hin i x hx) (hin j y hy) hxy, fun k z hk => hD.2 k z (hin k z hk)⟩
  have hg : gD g a0 (ws ++ cl q) s T'.heap (locs ++ L) := by
    refine ⟨hPw.app (by rw [e1']; exact hP1), hDw.app (hD1.weaken (fun k z _ h => hsub z.1 h)) (fun i j x y hx hy hxy => (hoff i x hx).2 (by rw [hxy]; exact hD1.2 j y hy)), ?_, ?_, ?_⟩
    · refine Nat.le_trans hS.1 ?_
      have := hF.1
      rw [h0] at this
      rw [e1']; exact this
    · intro x h1 h2
      rw [hk1 x (Nat.lt_of_lt_of_le h1 hS.1) (fun z => h2 (hsub x z))]
      exact hS.2.1 x h1 h2
    · intro x hx
      rcases List.mem_append.mp hx with h | h
      · exact hS.2.2 x h
      · exact hsub _ (hL x h)
  obtain ⟨t2, a1', b1⟩ := kk q T'.heap (locs ++ L) hq0 hg T' rfl X'
  exact ⟨t2, st t2 a1', b1⟩
/-- what a constructor's start needs, out of its caller's -/
theorem y_pre {As : List Value} {a1 : Nat} {e1 : va_E} (C : gC g a0 p s m meth c args cc nL own) (Dy : gD g a0 (ws ++ [(a1, e1)]) s H locs) : ∀ U : State, U.heap = H → s.WarmedH U.vm → cPc g [] [] As a1 H.size e1 As.toArray U := by
  intro U hU hW
  have hlast : (ws ++ [(a1, e1)])[ws.length]? = some (a1, e1) := by simp
  have hA1 : aA a0 s.heap.size a1 := Dy.2.1.2 _ _ hlast
  have hst : cS g (aA a0 s.heap.size) U H := (C.st.kept (fun a h1 h2 => Dy.2.2.2.1 a h1 h2)).moved hW.alike
  refine ⟨rfl, by rw [hU], ?_, ?_, ?_, ?_⟩
  · rw [hU]
    refine hst.narrow (fun x hx => ?_)
    rcases hx with rfl | hx
    · exact hA1
    · exact Or.inr (Nat.le_trans Dy.2.2.1 hx)
  · rw [hU]
    intro k z hk
    cases k with
    | zero => cases hk; exact Dy.1 _ _ hlast
    | succ k => simp at hk
  · intro x hx; cases hx
  · intro x hx; cases hx
theorem y_runI {y : MethodName} {bytes : ByteArray} {maxL index n mc ms a1 : Nat} {rm : Room} {As st0 : List Value} {e1 : va_E} {Qc : Array Value → State → Outcome → State → Prop} {free : Addr → Prop} (C : gC g a0 p s m meth c args cc nL own) (Dy : gD g a0 (ws ++ [(a1, e1)]) s H locs)
    (hM : Met l y (wsU y bytes maxL none) rm (cPc g [] [] (.ref a1 :: As) a1 H.size e1) Qc mc ms free) (hcode : Cond.code y bytes maxL none ∈ lw_big) (hlk : Cond.methodLink own index y ∈ lw_big) (hini : Cond.initialized y.cls ∈ lw_big) (hins : Cond.instanceMethod y ∈ lw_big) (hd : y.cls ≠ "java/lang/invoke/MethodHandle" ∧ y.cls ≠ "java/lang/invoke/VarHandle" ∧ (parseMethodDescriptor y.desc).map (fun d => d.parameters.length) = some n) (hnm : y.name = "<init>") (h0 : rm.cells = mc) (h1 : rm.slots = ms) (hR : rm.frames + 1 ≤ R.frames ∧ 8 + (maxL + 11) + rm.locals ≤ R.locals) (hn : As.length = n) (hsz : ls.size = nL) (hst : st0 = As.reverse ++ .ref a1 :: rest) (hW : (rest.map fun v => v.category).sum ≤ 8) (hdg : decode cc pc = .ok (.invokespecial index, 3)) (hf : cells + mc ≤ R.cells ∧ slots + ms ≤ R.slots) :
    va_Run p l e R s m args below meth c H locs cells slots mc ms (F0 m pc ls st0) rest (Qc (Value.ref a1 :: As).toArray) free :=
  va_runI ⟨C.x, C.b, C.ml, C.ow, C.ts⟩ hM ⟨callB_of n C.ts (goodU hcode) rfl h0 h1 (C.ts _ hini) (C.ts _ hlk) hd hR, hnm, C.ts _ hins⟩ ⟨cPc.blind, y_pre C Dy⟩ rfl hn hsz hst (lv_room hW) hdg hf
theorem y_runIN {y : MethodName} {bytes : ByteArray} {maxL index n mc ms a1 : Nat} {rm : Room} {As st0 : List Value} {e1 : va_E} {Qc : Array Value → State → Outcome → State → Prop} {free : Addr → Prop} (C : gC g a0 p s m meth c args cc nL own) (Dy : gD g a0 (ws ++ [(a1, e1)]) s H locs)
    (hM : Met l y (wsU y bytes maxL none) rm (cPc g [] [] (.ref a1 :: As) a1 H.size e1) Qc mc ms free) (hcode : Cond.code y bytes maxL none ∈ lw_big) (hlk : va_Nw (.methodLinkNest own index y "KingsYear") s) (hini : Cond.initialized y.cls ∈ lw_big) (hins : Cond.instanceMethod y ∈ lw_big) (hd : y.cls ≠ "java/lang/invoke/MethodHandle" ∧ y.cls ≠ "java/lang/invoke/VarHandle" ∧ (parseMethodDescriptor y.desc).map (fun d => d.parameters.length) = some n) (hnm : y.name = "<init>") (h0 : rm.cells = mc) (h1 : rm.slots = ms) (hR : rm.frames + 1 ≤ R.frames ∧ 8 + (maxL + 11) + rm.locals ≤ R.locals) (hn : As.length = n) (hsz : ls.size = nL) (hst : st0 = As.reverse ++ .ref a1 :: rest) (hW : (rest.map fun v => v.category).sum ≤ 8) (hdg : decode cc pc = .ok (.invokespecial index, 3)) (hf : cells + mc ≤ R.cells ∧ slots + ms ≤ R.slots) :
    va_Run p l e R s m args below meth c H locs cells slots mc ms (F0 m pc ls st0) rest (Qc (Value.ref a1 :: As).toArray) free :=
  va_runIN (host := "KingsYear") ⟨C.x, C.b, C.ml, C.ow, C.ts⟩ hM ⟨va_cnB n C.ts (goodU hcode) rfl h0 h1 hlk (C.ts _ hini) hd hR, hnm, C.ts _ hins⟩ ⟨cPc.blind, y_pre C Dy⟩ rfl hn hsz hst (lv_room hW) hdg hf
theorem y_ret {cl : (Nat → Nat) → va_W} (q : Nat → Nat) (C : gC g a0 p s m meth c args cc nL own) (Dy : gD g a0 (cl q) s H locs) (h0 : q 0 = a0) {sz : Nat} (hsz : s.heap.size = sz) (hdg : decode cc pc = .ok (.return_, 1)) : W p l e R s m args below meth c H locs cells slots (MQ below (cQ g cl a0 sz) args s cells slots (aA a0 sz)) (F0 m pc ls []) := by
  subst hsz
  exact W.vret C.x C.b C.rt (fun t ht _ => ⟨q, rfl, h0, by rw [ht]; exact Dy.1, Dy.2.1, Dy.2.2.F ht⟩) Dy.2.2.2.2 hdg C.lk
end YRows
theorem y_met {g : Kg} {nest : List (Nat × MethodName)} {over : List String} {l : Launch} {y : MethodName} {cc : ByteArray} {nL a0 sz mc ms : Nat} {rm : Room} {av : List Value} {e0 : va_E} {Qc : Array Value → State → Outcome → State → Prop} (own : String) (lv : List (Nat × Value)) (hy : plainName y.cls = true) (ho : y.cls = own) (hnm : y.name = "<init>") (hsl : (lg_sl av).length ≤ nL) (hlv : lv_args 0 av = lv)
    (body : ∀ (p : Program) (e : Env) (s : State) (m : MethodId) (args : Array Value) (below : List Frame) (meth : Method) (c : Code) (ls : Array Slot), gC g a0 p s m meth c args cc nL own → s.heap.size = sz → cN nest over s → gD g a0 [(a0, e0)] s s.heap [] → lv_has ls nL lv → W p l e rm s m args below meth c s.heap [] 0 0 (MQ below Qc args s mc ms (aA a0 sz)) (F0 m 0 ls [])) : Met l y (wsU y cc nL none) rm (cPc g nest over av a0 sz e0) Qc mc ms (aA a0 sz) := by
  refine Met.ofW (cc := cc) (maxL := nL) (ret := none) hy rfl ?_
  intro p e s m args below meth c s₁ B hml hv
  obtain ⟨rfl, hsz, hst, hP, hN⟩ := hv
  subst hsz
  have hts := atoms_spec (ws := wsU y cc nL none) B.pre
  have hown : s.vm.findClass own = some m.cls := by rw [← ho]; exact findClass_of_methodNamed B.named
  have hin : meth.name = "<init>" := by rw [← hnm]; exact (name_of_methodNamed B.named B.method).1
  have hl0 := lv_entry av (n := nL) hsl
  rw [lg_entry_eq]
  generalize (lg_sl av ++ List.replicate (nL - (lg_sl av).length) Slot.unset).toArray = ls at hl0 ⊢
  rw [hlv] at hl0
  refine body p e s m _ below meth c ls ⟨B.exec, B.bytes, hml, hown, fun x hx => hts x (List.mem_cons_of_mem _ hx), hst, B.notSynchronized, B.returns, hin⟩ rfl hN ⟨hP, ⟨fun i j x z hx hz hxz => ?_, fun k z hk => ?_⟩, va_S.rf⟩ hl0
  · cases i with
    | zero => cases j with
      | zero => rfl
      | succ j => simp at hz
    | succ i => simp at hx
  · cases k with
    | zero => cases hk; exact Or.inl rfl
    | succ k => simp at hk
