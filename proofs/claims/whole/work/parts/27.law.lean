/-! THE CLAIM OUT OF ONE WALK OF THE LAW'S BODY. Your part is whole_start (and what it stands on); all else here is the same for every law, but numbers. -/
def R_law : String := "KingsYearLaw"
def lw_P (b : Addr) (xs : List Int32) (args : Array Value) (s : State) : Prop := args = #[.ref b] ∧ s.IntsAt b xs ∧ xs.length ≤ 384 ∧ (Jvm.Cond.and given_1 narrow_1).before args s = true
def lw_Q (_ : Array Value) (s : State) (o : Outcome) (t : State) : Prop := o = .returned (some (.int 1)) ∧ Framed s o t [] 600000 7302250
def lw_Z (below : List Frame) (a : Array Value) (s : State) : State → Prop := fun t => ∃ o, t.status = .running ∧ Ended t below o ∧ lw_Q a s o t
/-- the law's own end, with 1 on the stack, nothing written that was there before, its room as the claim has it -/
theorem lw_ret {p : Program} {l : Launch} {e : Env} {s : State} {m : MethodId} {below : List Frame} {meth : Method} {c : Code} {b : Nat} (hx : p.tables.exec = Jvm.exec) (hb : c.code = code) (hr : meth.sig.returnType = ret) (hlocks : meth.locks = false) {pc : Nat} {H : Heap} {ls : Array Slot} (hdg : decode code pc = .ok (.ireturn, 1)) : W p l e room_1 s m #[Value.ref b] below meth c H [] 600000 7302250 (lw_Z below #[Value.ref b] s) (F0 m pc ls [.int 1]) := by
  intro T hT X
  obtain ⟨fs, hret, hrun, hended, hW, hframe⟩ := X.leave (v := some (.int 1)) (hlocks := hlocks) (fun h => by rw [hr] at h; cases h)
  have hmeth' : T.vm.method? m = some meth := X.method'
  refine ⟨T.setFrames fs, ?_, .returned (some (.int 1)), hrun, hended, rfl, ⟨_, rfl⟩, hW, hframe⟩
  jvm_step X.here [X.here.top, hx, hb, hdg, hmeth', hr, ret, narrow_b1]
  (try refine ⟨rfl, ?_⟩); (try refine ⟨rfl, ?_⟩)
  first | (intro acts; rw [hret _ acts rfl rfl rfl]) | rw [hret _ _ rfl rfl rfl]
  exact Steps.refl _
/-- what holds at the law's entry: the machine, the code, the tables' words (any of lw_tbl by 'hts w (by decide +kernel)'), the script of L ints xs at the cell b, what the Statement gives of the start (any of its parts by flat_of_before) -/
def lw_At (p : Program) (s : State) (m : MethodId) (meth : Method) (c : Code) (b L : Nat) (xs : Nat → Int32) : Prop :=
  p.tables.exec = Jvm.exec ∧ c.code = code ∧ meth.sig.returnType = ret ∧ c.maxLocals = 4 ∧ s.vm.findClass R_law = some m.cls ∧ (∀ w ∈ lw_tbl, w.before #[Value.ref b] s = true) ∧ va_X b L xs s s.heap ∧ b < s.heap.size ∧ meth.locks = false ∧ (Jvm.Cond.and given_1 narrow_1).before #[Value.ref b] s = true
def s_type (Rel : Mem → MemL → Mem → Prop) : Prop := ∀ (x : Mem) (xl : MemL) (y : Mem), Rel x xl y → ∀ v1 v2 : Int32, p_X9_type x v1 v2 (fun r x1 => p_X10_type y v1 v2 (fun r2 y1 => r = r2 ∧ Rel x1 xl y1))
def s_wipe (Rel : Mem → MemL → Mem → Prop) : Prop := ∀ (x : Mem) (xl : MemL) (y : Mem), Rel x xl y → ∀ v1 : Int32, p_X9_wipe x v1 (fun r x1 => p_X10_wipe y v1 (fun r2 y1 => r = r2 ∧ Rel x1 xl y1))
def s_undo (Rel : Mem → MemL → Mem → Prop) : Prop := ∀ (x : Mem) (xl : MemL) (y : Mem), Rel x xl y → ∀ v1 : Int32, p_X9_undo x v1 (fun r x1 => p_X10_undo y v1 (fun r2 y1 => r = r2 ∧ Rel x1 xl y1))
def s_fault (Rel : Mem → MemL → Mem → Prop) : Prop := ∀ (x : Mem) (xl : MemL) (y : Mem), Rel x xl y → ∀ v1 : Int32, p_X9_fault x v1 (fun r x1 => p_X10_fault y v1 (fun r2 y1 => r = r2 ∧ Rel x1 xl y1))
def s_law (Rel : Mem → MemL → Mem → Prop) : Prop := ∀ (x : Mem) (xl : MemL) (y : Mem), Rel x xl y → ∀ v1 v2 : Int32, p_X9_law x v1 v2 (fun r x1 => p_X10_law y v1 v2 (fun r2 y1 => r = r2 ∧ Rel x1 xl y1))
def s_want (Rel : Mem → MemL → Mem → Prop) : Prop := ∀ (x : Mem) (xl : MemL) (y : Mem), Rel x xl y → ∀ v1 v2 : Int32, p_X9_want x v1 v2 (fun r x1 => p_X10_want y v1 v2 (fun r2 y1 => r = r2 ∧ Rel x1 xl y1))
def s_trial (Rel : Mem → MemL → Mem → Prop) : Prop := ∀ (x : Mem) (xl : MemL) (y : Mem), Rel x xl y → ∀ v1 v2 : Int32, p_X9_trial x v1 v2 (fun r x1 => p_X10_trial y v1 v2 (fun r2 y1 => r = r2 ∧ Rel x1 xl y1))
def s_breach (Rel : Mem → MemL → Mem → Prop) : Prop := ∀ (x : Mem) (xl : MemL) (y : Mem), Rel x xl y → ∀ v1 v2 : Int32, p_X9_breach x v1 v2 (fun r x1 => p_X10_breach y v1 v2 (fun r2 y1 => r = r2 ∧ Rel x1 xl y1))
def s_back (Rel : Mem → MemL → Mem → Prop) : Prop := ∀ (x : Mem) (xl : MemL) (y : Mem), Rel x xl y → ∀ v1 : Int32, p_X9_back x v1 (fun r x1 => p_X10_back y v1 (fun r2 y1 => r = r2 ∧ Rel x1 xl y1))
def s_binds (Rel : Mem → MemL → Mem → Prop) : Prop := ∀ (x : Mem) (xl : MemL) (y : Mem), Rel x xl y → ∀ v1 v2 : Int32, p_X9_binds x v1 v2 (fun r x1 => p_X10_binds y v1 v2 (fun r2 y1 => r = r2 ∧ Rel x1 xl y1))
def s_does (Rel : Mem → MemL → Mem → Prop) : Prop := ∀ (x : Mem) (xl : MemL) (y : Mem), Rel x xl y → ∀ v1 v2 : Int32, p_X9_does x v1 v2 (fun r x1 => p_X10_does y v1 v2 (fun r2 y1 => r = r2 ∧ Rel x1 xl y1))
def s_joy (Rel : Mem → MemL → Mem → Prop) : Prop := ∀ (x : Mem) (xl : MemL) (y : Mem), Rel x xl y → ∀ v1 v2 : Int32, p_X9_joy x v1 v2 (fun r x1 => p_X10_joy y v1 v2 (fun r2 y1 => r = r2 ∧ Rel x1 xl y1))
def s_quarrels (Rel : Mem → MemL → Mem → Prop) : Prop := ∀ (x : Mem) (xl : MemL) (y : Mem), Rel x xl y → ∀ v1 v2 : Int32, p_X9_quarrels x v1 v2 (fun r x1 => p_X10_quarrels y v1 v2 (fun r2 y1 => r = r2 ∧ Rel x1 xl y1))
def s_exempt (Rel : Mem → MemL → Mem → Prop) : Prop := ∀ (x : Mem) (xl : MemL) (y : Mem), Rel x xl y → ∀ v1 v2 v3 v4 : Int32, p_X9_exempt x v1 v2 v3 v4 (fun r x1 => p_X10_exempt y v1 v2 v3 v4 (fun r2 y1 => r = r2 ∧ Rel x1 xl y1))
def s_keep (Rel : Mem → MemL → Mem → Prop) : Prop := ∀ (x : Mem) (xl : MemL) (y : Mem), Rel x xl y → ∀ v1 v2 : Int32, p_X9_keep x v1 v2 (fun r x1 => p_X10_keep y v1 v2 (fun r2 y1 => r = r2 ∧ Rel x1 xl y1))
def s_order (Rel : Mem → MemL → Mem → Prop) : Prop := ∀ (x : Mem) (xl : MemL) (y : Mem), Rel x xl y → ∀ v1 v2 v3 : Int32, p_X9_order x v1 v2 v3 (fun r x1 => p_X10_order y v1 v2 v3 (fun r2 y1 => r = r2 ∧ Rel x1 xl y1))
def s_seen (Rel : Mem → MemL → Mem → Prop) : Prop := ∀ (x : Mem) (xl : MemL) (y : Mem), Rel x xl y → ∀ v1 v2 : Int32, p_X9_seen x v1 v2 (fun r x1 => p_X10_seen y v1 v2 (fun r2 y1 => r = r2 ∧ Rel x1 xl y1))
def s_forget (Rel : Mem → MemL → Mem → Prop) : Prop := ∀ (x : Mem) (xl : MemL) (y : Mem), Rel x xl y → p_X9_forget x  (fun r x1 => p_X10_forget y  (fun r2 y1 => r = r2 ∧ Rel x1 xl y1))
def s_read (Rel : Mem → MemL → Mem → Prop) : Prop := ∀ (x : Mem) (xl : MemL) (y : Mem), Rel x xl y → ∀ v1 : Int32, p_X9_read x v1 (fun r x1 => p_X10_read y v1 (fun r2 y1 => r = r2 ∧ Rel x1 xl y1))
def s_sets (Rel : Mem → MemL → Mem → Prop) : Prop := ∀ (x : Mem) (xl : MemL) (y : Mem), Rel x xl y → ∀ v1 : Int32, p_X9_sets x v1 (fun r x1 => p_X10_sets y v1 (fun r2 y1 => r = r2 ∧ Rel x1 xl y1))
def s_watch (Rel : Mem → MemL → Mem → Prop) : Prop := ∀ (x : Mem) (xl : MemL) (y : Mem), Rel x xl y → p_X9_watch x  (fun r x1 => p_X10_watch y  (fun r2 y1 => r = r2 ∧ Rel x1 xl y1))
def s_gout (Rel : Mem → MemL → Mem → Prop) : Prop := ∀ (x : Mem) (xl : MemL) (y : Mem), Rel x xl y → ∀ v1 v2 v3 v4 v5 : Int32, p_X9_gout x xl v1 v2 v3 v4 v5 (fun r x1 xl1 => p_X10_gout y v1 v2 v3 v4 v5 (fun r2 y1 => r = r2 ∧ Rel x1 xl1 y1))
def s_years (Rel : Mem → MemL → Mem → Prop) : Prop := ∀ (x : Mem) (xl : MemL) (y : Mem), Rel x xl y → ∀ v1 v2 v3 : Int32, p_X9_years x v1 v2 v3 (fun r x1 => p_X10_years y v1 v2 v3 (fun r2 y1 => r = r2 ∧ Rel x1 xl y1))
def s_sheet (Rel : Mem → MemL → Mem → Prop) : Prop := ∀ (x : Mem) (xl : MemL) (y : Mem), Rel x xl y → ∀ v1 v2 v3 : Int32, p_X9_sheet x v1 v2 v3 (fun r x1 => p_X10_sheet y v1 v2 v3 (fun r2 y1 => r = r2 ∧ Rel x1 xl y1))
def s_lose (Rel : Mem → MemL → Mem → Prop) : Prop := ∀ (x : Mem) (xl : MemL) (y : Mem), Rel x xl y → ∀ v1 : Int32, p_X9_lose x v1 (fun r x1 => p_X10_lose y v1 (fun r2 y1 => r = r2 ∧ Rel x1 xl y1))
def s_lay (Rel : Mem → MemL → Mem → Prop) : Prop := ∀ (x : Mem) (xl : MemL) (y : Mem), Rel x xl y → ∀ v1 v2 v3 v4 : Int32, p_X9_lay x v1 v2 v3 v4 (fun r x1 => p_X10_lay y v1 v2 v3 v4 (fun r2 y1 => r = r2 ∧ Rel x1 xl y1))
def s_get (Rel : Mem → MemL → Mem → Prop) : Prop := ∀ (x : Mem) (xl : MemL) (y : Mem), Rel x xl y → ∀ v1 v2 v3 : Int32, p_X9_get x v1 v2 v3 (fun r x1 => p_X10_get y v1 v2 v3 (fun r2 y1 => r = r2 ∧ Rel x1 xl y1))
def s_copy (Rel : Mem → MemL → Mem → Prop) : Prop := ∀ (x : Mem) (xl : MemL) (y : Mem), Rel x xl y → ∀ v1 v2 v3 v4 v5 : Int32, p_X9_copy x v1 v2 v3 v4 v5 (fun r x1 => p_X10_copy y v1 v2 v3 v4 v5 (fun r2 y1 => r = r2 ∧ Rel x1 xl y1))
def s_write (Rel : Mem → MemL → Mem → Prop) : Prop := ∀ (x : Mem) (xl : MemL) (y : Mem), Rel x xl y → ∀ v1 v2 : Int32, p_X9_write x v1 v2 (fun r x1 => p_X10_write y v1 v2 (fun r2 y1 => r = r2 ∧ Rel x1 xl y1))
def s_count (Rel : Mem → MemL → Mem → Prop) : Prop := ∀ (x : Mem) (xl : MemL) (y : Mem), Rel x xl y → ∀ v1 : Int32, p_X9_count x v1 (fun r x1 => p_X10_count y v1 (fun r2 y1 => r = r2 ∧ Rel x1 xl y1))
def s_digest (Rel : Mem → MemL → Mem → Prop) : Prop := ∀ (x : Mem) (xl : MemL) (y : Mem), Rel x xl y → p_X9_digest x xl  (fun r x1 xl1 => p_X10_digest y  (fun r2 y1 => r = r2 ∧ Rel x1 xl1 y1))
def nA (s : State) : Nat → Prop := fun q => s.heap.size ≤ q
def LB (EX EM : xE) (s : State) : Prop := (∀ q, wA (wdX EX) q → s.heap.size ≤ q) ∧ (∀ q, wA (wdM EM) q → s.heap.size ≤ q) ∧ (∀ q, wA (wdX EX) q → ¬ wA (wdM EM) q) ∧
  va_K (wD (wdX EX)) clsAll (wT (wdX EX)) s ∧ (∀ (h : Mem) (hl : MemL), va_D (wA (wdX EX)) (wW (wdX EX) h hl)) ∧ va_K (wD (wdM EM)) clsAll (wT (wdM EM)) s ∧ (∀ (h : Mem) (hl : MemL), va_D (wA (wdM EM)) (wW (wdM EM) h hl)) ∧
  (∀ (k : Nat) (q : Nat × Nat × (Nat → Int32)), (wTab (wdX EX))[k]? = some q → va_T .int q.1 q.2.1 (fun j => .int (q.2.2 j)) (nA s) s s.heap) ∧
  (∀ (k : Nat) (q : String × String × Nat), (wFld (wdX EX))[k]? = some q → va_Z q.1 q.2.1 "[I" (.ref q.2.2) (nA s) s s.heap)
def LI (EX EM : xE) (x : Mem) (xl : MemL) (y : Mem) (s : State) (H : Heap) (locs : List Loc) : Prop :=
  va_P (wD (wdX EX)) clsAll (wW (wdX EX) x xl) H ∧ va_P (wD (wdM EM)) clsAll (wW (wdM EM) y (fun _ _ => 0)) H ∧ va_S (nA s) s.heap H locs
theorem LB.sx {EX EM : xE} {s : State} {H : Heap} {locs : List Loc} (B : LB EX EM s) (hS : va_S (nA s) s.heap H locs) : wStat (wdX EX) s H :=
  ⟨B.2.2.2.1, B.2.2.2.2.1, fun k q hk => va_T.narrow (va_T.kept (B.2.2.2.2.2.2.2.1 k q hk) hS.2.1) B.1, fun k q hk => va_Z.narrow (va_Z.kept (B.2.2.2.2.2.2.2.2 k q hk) hS.2.1) B.1⟩
theorem LB.sm {EX EM : xE} {s : State} {H : Heap} (B : LB EX EM s) : wStat (wdM EM) s H :=
  ⟨B.2.2.2.2.2.1, B.2.2.2.2.2.2.1, fun k q hk => by simp [wdM, wTab] at hk, fun k q hk => by simp [wdM, wFld] at hk⟩
section ZRows
variable {p : Program} {l : Launch} {e : Env} {R : Room} {s : State} {m : MethodId} {args : Array Value} {below : List Frame} {meth : Method} {c : Code} {H : Heap} {locs : List Loc} {cells slots : Nat} {Q : State → Prop}
variable {cc : ByteArray} {nL pc : Nat} {ls : Array Slot} {rest : List Value} {w : Wd} {h : Mem} {hl : MemL} {EX EM : xE} {x y : Mem} {xl : MemL} {a : Array Value} {st0 : List Value}
theorem z_run {ym : MethodName} {bytes : ByteArray} {maxL index n kc ci N b : Nat} {rt : Option FieldType} {rm : Room} {Cn : String} {T : u_T} {As : List Value} {fs : List Value} {Qc : Array Value → State → Outcome → State → Prop} (S : CallFix p m c cc nL s args lw_big RL) (hst : wStat w s H) (hP : va_P (wD w) clsAll (wW w h hl) H)
    (hM : Met l ym (wsU ym bytes maxL rt) rm (mPc w (.ref b :: As) h hl) Qc 0 0 (wA w)) (hq : (wW w h hl)[kc]? = some (b, .inr (ci, fs))) (hc : clsAll[ci]? = some (Cn, T, N)) (hcode : Cond.code ym bytes maxL rt ∈ lw_big) (hlk : Cond.methodLink RL index ym ∈ lw_big) (hini : Cond.initialized ym.cls ∈ lw_big) (hins : Cond.instanceMethod ym ∈ lw_big) (hsel : Cond.selects Cn ym ym ∈ lw_big) (hd : ym.cls ≠ "java/lang/invoke/MethodHandle" ∧ ym.cls ≠ "java/lang/invoke/VarHandle" ∧ (parseMethodDescriptor ym.desc).map (fun d => d.parameters.length) = some n) (h0 : rm.cells = 0) (h1 : rm.slots = 0) (hR : rm.frames + 1 ≤ R.frames ∧ 8 + (maxL + 11) + rm.locals ≤ R.locals) (hn : As.length = n) (hsz : ls.size = nL) (hst0 : st0 = As.reverse ++ .ref b :: rest) (hW : (rest.map fun v => v.category).sum ≤ 8) (hdg : decode cc pc = .ok (.invokevirtual index, 3)) (hf : cells ≤ R.cells ∧ slots ≤ R.slots) :
    va_Run p l e R s m args below meth c H locs cells slots 0 0 (F0 m pc ls st0) rest (Qc (Value.ref b :: As).toArray) (wA w) :=
  va_runV (C := Cn) S hM ⟨callB_of n S.2.2.2.2 (goodU hcode) rfl h0 h1 (S.2.2.2.2 _ hini) (S.2.2.2.2 _ hlk) hd hR, S.2.2.2.2 _ hins, S.2.2.2.2 _ hsel⟩ ⟨mPc.blind, va_recv hst.1 hP hc hq, fun U hU hWm => ⟨rfl, by rw [hU]; exact hst.moved hWm.alike, by rw [hU]; exact hP⟩⟩ rfl hn hsz hst0 (lv_room hW) hdg hf
theorem z_kept {w2 : Wd} {H1 : Heap} (hP : va_P (wD w2) clsAll (wW w2 h hl) H) (hD : va_D (wA w2) (wW w2 h hl)) (hx : ∀ q, wA w2 q → ¬ wA w q) (hk : ∀ q : Nat, q < H.size → ¬ wA w q → H1[q]? = H[q]?) : va_P (wD w2) clsAll (wW w2 h hl) H1 :=
  hP.kept (fun k z hz => hk z.1 ((hP k z hz).lt) (hx z.1 (hD.2 k z hz)))
theorem z_S {H1 : Heap} {L : List Loc} (hS : va_S (nA s) s.heap H locs) (hw : ∀ q, wA w q → s.heap.size ≤ q) (hz : H.size ≤ H1.size) (hk : ∀ q : Nat, q < H.size → ¬ wA w q → H1[q]? = H[q]?) (hL : ∀ q ∈ L, wA w q.base) : va_S (nA s) s.heap H1 (locs ++ L) := by
  refine ⟨Nat.le_trans hS.1 hz, fun q h1 h2 => ?_, fun q hq => ?_⟩
  · rw [hk q (Nat.lt_of_lt_of_le h1 hS.1) (fun z => h2 (hw q z))]; exact hS.2.1 q h1 h2
  · rcases List.mem_append.mp hq with h | h
    · exact hS.2.2 q h
    · exact hw _ (hL q h)
theorem zX_i {Qp : PI} (B : LB EX EM s) (I : LI EX EM x xl y s H locs) (hr : va_Run p l e R s m args below meth c H locs cells slots 0 0 (F0 m pc ls st0) rest (mQi (wdX EX) Qp a) (wA (wdX EX)))
    (kk : ∀ (r : Int32) (x1 : Mem) (xl1 : MemL) (H1 : Heap) (locs1 : List Loc), Qp r x1 xl1 → LI EX EM x1 xl1 y s H1 locs1 → W p l e R s m args below meth c H1 locs1 cells slots Q (F0 m (pc + 3) ls (.int r :: rest))) : W p l e R s m args below meth c H locs cells slots Q (F0 m pc ls st0) := by
  intro T hT X
  obtain ⟨v, st₀, t, T', L, h0, X', hL, e1, e2, ⟨r, h1, hl1, hv, hp, hP, hF⟩, st⟩ := hr T hT X
  cases hv
  have hz : H.size ≤ T'.heap.size := by rw [e1, ← h0]; exact hF.1
  have hk : ∀ q : Nat, q < H.size → ¬ wA (wdX EX) q → T'.heap[q]? = H[q]? := fun q g1 g2 => by rw [e1, ← h0]; exact hF.2 q (by rw [h0]; exact g1) g2
  obtain ⟨t2, a1, b1⟩ := kk r h1 hl1 T'.heap (locs ++ L) hp ⟨by rw [e1]; exact hP, z_kept I.2.1 (B.2.2.2.2.2.2.1 _ _) (fun q g1 g2 => B.2.2.1 q g2 g1) hk, z_S I.2.2 B.1 hz hk hL⟩ T' rfl X'
  exact ⟨t2, st t2 a1, b1⟩
theorem zX_l {Qp : PL} (B : LB EX EM s) (I : LI EX EM x xl y s H locs) (hr : va_Run p l e R s m args below meth c H locs cells slots 0 0 (F0 m pc ls st0) rest (mQl (wdX EX) Qp a) (wA (wdX EX)))
    (kk : ∀ (r : Int64) (x1 : Mem) (xl1 : MemL) (H1 : Heap) (locs1 : List Loc), Qp r x1 xl1 → LI EX EM x1 xl1 y s H1 locs1 → W p l e R s m args below meth c H1 locs1 cells slots Q (F0 m (pc + 3) ls (.long r :: rest))) : W p l e R s m args below meth c H locs cells slots Q (F0 m pc ls st0) := by
  intro T hT X
  obtain ⟨v, st₀, t, T', L, h0, X', hL, e1, e2, ⟨r, h1, hl1, hv, hp, hP, hF⟩, st⟩ := hr T hT X
  cases hv
  have hz : H.size ≤ T'.heap.size := by rw [e1, ← h0]; exact hF.1
  have hk : ∀ q : Nat, q < H.size → ¬ wA (wdX EX) q → T'.heap[q]? = H[q]? := fun q g1 g2 => by rw [e1, ← h0]; exact hF.2 q (by rw [h0]; exact g1) g2
  obtain ⟨t2, a1, b1⟩ := kk r h1 hl1 T'.heap (locs ++ L) hp ⟨by rw [e1]; exact hP, z_kept I.2.1 (B.2.2.2.2.2.2.1 _ _) (fun q g1 g2 => B.2.2.1 q g2 g1) hk, z_S I.2.2 B.1 hz hk hL⟩ T' rfl X'
  exact ⟨t2, st t2 a1, b1⟩
theorem zM_i {Qp : PI} (B : LB EX EM s) (I : LI EX EM x xl y s H locs) (hr : va_Run p l e R s m args below meth c H locs cells slots 0 0 (F0 m pc ls st0) rest (mQi (wdM EM) Qp a) (wA (wdM EM)))
    (kk : ∀ (r : Int32) (y1 : Mem) (yl1 : MemL) (H1 : Heap) (locs1 : List Loc), Qp r y1 yl1 → LI EX EM x xl y1 s H1 locs1 → W p l e R s m args below meth c H1 locs1 cells slots Q (F0 m (pc + 3) ls (.int r :: rest))) : W p l e R s m args below meth c H locs cells slots Q (F0 m pc ls st0) := by
  intro T hT X
  obtain ⟨v, st₀, t, T', L, h0, X', hL, e1, e2, ⟨r, h1, hl1, hv, hp, hP, hF⟩, st⟩ := hr T hT X
  cases hv
  have hz : H.size ≤ T'.heap.size := by rw [e1, ← h0]; exact hF.1
  have hk : ∀ q : Nat, q < H.size → ¬ wA (wdM EM) q → T'.heap[q]? = H[q]? := fun q g1 g2 => by rw [e1, ← h0]; exact hF.2 q (by rw [h0]; exact g1) g2
  obtain ⟨t2, a1, b1⟩ := kk r h1 hl1 T'.heap (locs ++ L) hp ⟨z_kept I.1 (B.2.2.2.2.1 _ _) (fun q g1 g2 => B.2.2.1 q g1 g2) hk, by rw [e1]; exact hP, z_S I.2.2 B.2.1 hz hk hL⟩ T' rfl X'
  exact ⟨t2, st t2 a1, b1⟩
theorem zM_l {Qp : PL} (B : LB EX EM s) (I : LI EX EM x xl y s H locs) (hr : va_Run p l e R s m args below meth c H locs cells slots 0 0 (F0 m pc ls st0) rest (mQl (wdM EM) Qp a) (wA (wdM EM)))
    (kk : ∀ (r : Int64) (y1 : Mem) (yl1 : MemL) (H1 : Heap) (locs1 : List Loc), Qp r y1 yl1 → LI EX EM x xl y1 s H1 locs1 → W p l e R s m args below meth c H1 locs1 cells slots Q (F0 m (pc + 3) ls (.long r :: rest))) : W p l e R s m args below meth c H locs cells slots Q (F0 m pc ls st0) := by
  intro T hT X
  obtain ⟨v, st₀, t, T', L, h0, X', hL, e1, e2, ⟨r, h1, hl1, hv, hp, hP, hF⟩, st⟩ := hr T hT X
  cases hv
  have hz : H.size ≤ T'.heap.size := by rw [e1, ← h0]; exact hF.1
  have hk : ∀ q : Nat, q < H.size → ¬ wA (wdM EM) q → T'.heap[q]? = H[q]? := fun q g1 g2 => by rw [e1, ← h0]; exact hF.2 q (by rw [h0]; exact g1) g2
  obtain ⟨t2, a1, b1⟩ := kk r h1 hl1 T'.heap (locs ++ L) hp ⟨z_kept I.1 (B.2.2.2.2.1 _ _) (fun q g1 g2 => B.2.2.1 q g1 g2) hk, by rw [e1]; exact hP, z_S I.2.2 B.2.1 hz hk hL⟩ T' rfl X'
  exact ⟨t2, st t2 a1, b1⟩
end ZRows
theorem n_1 : Cond.initialized RX9 ∈ lw_big := mem_tab 1 (by decide +kernel) (by decide +kernel)
theorem n_12 : Cond.initialized RX10 ∈ lw_big := mem_tab 12 (by decide +kernel) (by decide +kernel)
theorem n_329 : Cond.methodLink RL 13 yX9_type ∈ lw_big := mem_tab 329 (by decide +kernel) (by decide +kernel)
theorem n_330 : Cond.instanceMethod yX9_type ∈ lw_big := mem_tab 330 (by decide +kernel) (by decide +kernel)
theorem n_331 : Cond.selects RX9 yX9_type yX9_type ∈ lw_big := mem_tab 331 (by decide +kernel) (by decide +kernel)
theorem n_332 : Cond.code yX9_type cX9_type 4 (some .int) ∈ lw_big := mem_tab 332 (by decide +kernel) (by decide +kernel)
theorem n_348 : Cond.methodLink RL 18 yX9_wipe ∈ lw_big := mem_tab 348 (by decide +kernel) (by decide +kernel)
theorem n_349 : Cond.instanceMethod yX9_wipe ∈ lw_big := mem_tab 349 (by decide +kernel) (by decide +kernel)
theorem n_350 : Cond.selects RX9 yX9_wipe yX9_wipe ∈ lw_big := mem_tab 350 (by decide +kernel) (by decide +kernel)
theorem n_351 : Cond.code yX9_wipe cX9_wipe 4 (some .int) ∈ lw_big := mem_tab 351 (by decide +kernel) (by decide +kernel)
theorem n_356 : Cond.methodLink RL 23 yX9_undo ∈ lw_big := mem_tab 356 (by decide +kernel) (by decide +kernel)
theorem n_357 : Cond.instanceMethod yX9_undo ∈ lw_big := mem_tab 357 (by decide +kernel) (by decide +kernel)
theorem n_358 : Cond.selects RX9 yX9_undo yX9_undo ∈ lw_big := mem_tab 358 (by decide +kernel) (by decide +kernel)
theorem n_359 : Cond.code yX9_undo cX9_undo 3 (some .int) ∈ lw_big := mem_tab 359 (by decide +kernel) (by decide +kernel)
theorem n_360 : Cond.methodLink RL 27 yX9_fault ∈ lw_big := mem_tab 360 (by decide +kernel) (by decide +kernel)
theorem n_361 : Cond.instanceMethod yX9_fault ∈ lw_big := mem_tab 361 (by decide +kernel) (by decide +kernel)
theorem n_362 : Cond.selects RX9 yX9_fault yX9_fault ∈ lw_big := mem_tab 362 (by decide +kernel) (by decide +kernel)
theorem n_363 : Cond.code yX9_fault cX9_fault 2 (some .int) ∈ lw_big := mem_tab 363 (by decide +kernel) (by decide +kernel)
theorem n_394 : Cond.methodLink RL 31 yX9_law ∈ lw_big := mem_tab 394 (by decide +kernel) (by decide +kernel)
theorem n_395 : Cond.instanceMethod yX9_law ∈ lw_big := mem_tab 395 (by decide +kernel) (by decide +kernel)
theorem n_396 : Cond.selects RX9 yX9_law yX9_law ∈ lw_big := mem_tab 396 (by decide +kernel) (by decide +kernel)
theorem n_397 : Cond.code yX9_law cX9_law 3 (some .int) ∈ lw_big := mem_tab 397 (by decide +kernel) (by decide +kernel)
theorem n_402 : Cond.methodLink RL 35 yX9_want ∈ lw_big := mem_tab 402 (by decide +kernel) (by decide +kernel)
theorem n_403 : Cond.instanceMethod yX9_want ∈ lw_big := mem_tab 403 (by decide +kernel) (by decide +kernel)
theorem n_404 : Cond.selects RX9 yX9_want yX9_want ∈ lw_big := mem_tab 404 (by decide +kernel) (by decide +kernel)
theorem n_405 : Cond.code yX9_want cX9_want 4 (some .int) ∈ lw_big := mem_tab 405 (by decide +kernel) (by decide +kernel)
theorem n_407 : Cond.methodLink RL 39 yX9_trial ∈ lw_big := mem_tab 407 (by decide +kernel) (by decide +kernel)
theorem n_408 : Cond.instanceMethod yX9_trial ∈ lw_big := mem_tab 408 (by decide +kernel) (by decide +kernel)
theorem n_409 : Cond.selects RX9 yX9_trial yX9_trial ∈ lw_big := mem_tab 409 (by decide +kernel) (by decide +kernel)
theorem n_410 : Cond.code yX9_trial cX9_trial 3 (some .int) ∈ lw_big := mem_tab 410 (by decide +kernel) (by decide +kernel)
theorem n_439 : Cond.methodLink RL 43 yX9_breach ∈ lw_big := mem_tab 439 (by decide +kernel) (by decide +kernel)
theorem n_440 : Cond.instanceMethod yX9_breach ∈ lw_big := mem_tab 440 (by decide +kernel) (by decide +kernel)
theorem n_441 : Cond.selects RX9 yX9_breach yX9_breach ∈ lw_big := mem_tab 441 (by decide +kernel) (by decide +kernel)
theorem n_442 : Cond.code yX9_breach cX9_breach 3 (some .int) ∈ lw_big := mem_tab 442 (by decide +kernel) (by decide +kernel)
theorem n_443 : Cond.methodLink RL 47 yX9_back ∈ lw_big := mem_tab 443 (by decide +kernel) (by decide +kernel)
theorem n_444 : Cond.instanceMethod yX9_back ∈ lw_big := mem_tab 444 (by decide +kernel) (by decide +kernel)
theorem n_445 : Cond.selects RX9 yX9_back yX9_back ∈ lw_big := mem_tab 445 (by decide +kernel) (by decide +kernel)
theorem n_446 : Cond.code yX9_back cX9_back 3 (some .int) ∈ lw_big := mem_tab 446 (by decide +kernel) (by decide +kernel)
theorem n_447 : Cond.methodLink RL 51 yX9_binds ∈ lw_big := mem_tab 447 (by decide +kernel) (by decide +kernel)
theorem n_448 : Cond.instanceMethod yX9_binds ∈ lw_big := mem_tab 448 (by decide +kernel) (by decide +kernel)
theorem n_449 : Cond.selects RX9 yX9_binds yX9_binds ∈ lw_big := mem_tab 449 (by decide +kernel) (by decide +kernel)
theorem n_450 : Cond.code yX9_binds cX9_binds 3 (some .int) ∈ lw_big := mem_tab 450 (by decide +kernel) (by decide +kernel)
theorem n_479 : Cond.methodLink RL 55 yX9_does ∈ lw_big := mem_tab 479 (by decide +kernel) (by decide +kernel)
theorem n_480 : Cond.instanceMethod yX9_does ∈ lw_big := mem_tab 480 (by decide +kernel) (by decide +kernel)
theorem n_481 : Cond.selects RX9 yX9_does yX9_does ∈ lw_big := mem_tab 481 (by decide +kernel) (by decide +kernel)
theorem n_482 : Cond.code yX9_does cX9_does 3 (some .int) ∈ lw_big := mem_tab 482 (by decide +kernel) (by decide +kernel)
theorem n_491 : Cond.methodLink RL 59 yX9_joy ∈ lw_big := mem_tab 491 (by decide +kernel) (by decide +kernel)
theorem n_492 : Cond.instanceMethod yX9_joy ∈ lw_big := mem_tab 492 (by decide +kernel) (by decide +kernel)
theorem n_493 : Cond.selects RX9 yX9_joy yX9_joy ∈ lw_big := mem_tab 493 (by decide +kernel) (by decide +kernel)
theorem n_494 : Cond.code yX9_joy cX9_joy 4 (some .int) ∈ lw_big := mem_tab 494 (by decide +kernel) (by decide +kernel)
theorem n_504 : Cond.methodLink RL 63 yX9_quarrels ∈ lw_big := mem_tab 504 (by decide +kernel) (by decide +kernel)
theorem n_505 : Cond.instanceMethod yX9_quarrels ∈ lw_big := mem_tab 505 (by decide +kernel) (by decide +kernel)
theorem n_506 : Cond.selects RX9 yX9_quarrels yX9_quarrels ∈ lw_big := mem_tab 506 (by decide +kernel) (by decide +kernel)
theorem n_507 : Cond.code yX9_quarrels cX9_quarrels 4 (some .int) ∈ lw_big := mem_tab 507 (by decide +kernel) (by decide +kernel)
theorem n_526 : Cond.methodLink RL 67 yX9_exempt ∈ lw_big := mem_tab 526 (by decide +kernel) (by decide +kernel)
theorem n_527 : Cond.instanceMethod yX9_exempt ∈ lw_big := mem_tab 527 (by decide +kernel) (by decide +kernel)
theorem n_528 : Cond.selects RX9 yX9_exempt yX9_exempt ∈ lw_big := mem_tab 528 (by decide +kernel) (by decide +kernel)
theorem n_529 : Cond.code yX9_exempt cX9_exempt 6 (some .int) ∈ lw_big := mem_tab 529 (by decide +kernel) (by decide +kernel)
theorem n_542 : Cond.methodLink RL 72 yX9_keep ∈ lw_big := mem_tab 542 (by decide +kernel) (by decide +kernel)
theorem n_543 : Cond.instanceMethod yX9_keep ∈ lw_big := mem_tab 543 (by decide +kernel) (by decide +kernel)
theorem n_544 : Cond.selects RX9 yX9_keep yX9_keep ∈ lw_big := mem_tab 544 (by decide +kernel) (by decide +kernel)
theorem n_545 : Cond.code yX9_keep cX9_keep 3 (some .int) ∈ lw_big := mem_tab 545 (by decide +kernel) (by decide +kernel)
theorem n_561 : Cond.methodLink RL 76 yX9_order ∈ lw_big := mem_tab 561 (by decide +kernel) (by decide +kernel)
theorem n_562 : Cond.instanceMethod yX9_order ∈ lw_big := mem_tab 562 (by decide +kernel) (by decide +kernel)
theorem n_563 : Cond.selects RX9 yX9_order yX9_order ∈ lw_big := mem_tab 563 (by decide +kernel) (by decide +kernel)
theorem n_564 : Cond.code yX9_order cX9_order 5 (some .int) ∈ lw_big := mem_tab 564 (by decide +kernel) (by decide +kernel)
theorem n_585 : Cond.methodLink RL 81 yX9_seen ∈ lw_big := mem_tab 585 (by decide +kernel) (by decide +kernel)
theorem n_586 : Cond.instanceMethod yX9_seen ∈ lw_big := mem_tab 586 (by decide +kernel) (by decide +kernel)
theorem n_587 : Cond.selects RX9 yX9_seen yX9_seen ∈ lw_big := mem_tab 587 (by decide +kernel) (by decide +kernel)
theorem n_588 : Cond.code yX9_seen cX9_seen 3 (some .int) ∈ lw_big := mem_tab 588 (by decide +kernel) (by decide +kernel)
theorem n_597 : Cond.methodLink RL 85 yX9_forget ∈ lw_big := mem_tab 597 (by decide +kernel) (by decide +kernel)
theorem n_598 : Cond.instanceMethod yX9_forget ∈ lw_big := mem_tab 598 (by decide +kernel) (by decide +kernel)
theorem n_599 : Cond.selects RX9 yX9_forget yX9_forget ∈ lw_big := mem_tab 599 (by decide +kernel) (by decide +kernel)
theorem n_600 : Cond.code yX9_forget cX9_forget 2 (some .int) ∈ lw_big := mem_tab 600 (by decide +kernel) (by decide +kernel)
theorem n_605 : Cond.methodLink RL 90 yX9_read ∈ lw_big := mem_tab 605 (by decide +kernel) (by decide +kernel)
theorem n_606 : Cond.instanceMethod yX9_read ∈ lw_big := mem_tab 606 (by decide +kernel) (by decide +kernel)
theorem n_607 : Cond.selects RX9 yX9_read yX9_read ∈ lw_big := mem_tab 607 (by decide +kernel) (by decide +kernel)
theorem n_608 : Cond.code yX9_read cX9_read 5 (some .int) ∈ lw_big := mem_tab 608 (by decide +kernel) (by decide +kernel)
theorem n_618 : Cond.methodLink RL 94 yX9_sets ∈ lw_big := mem_tab 618 (by decide +kernel) (by decide +kernel)
theorem n_619 : Cond.instanceMethod yX9_sets ∈ lw_big := mem_tab 619 (by decide +kernel) (by decide +kernel)
theorem n_620 : Cond.selects RX9 yX9_sets yX9_sets ∈ lw_big := mem_tab 620 (by decide +kernel) (by decide +kernel)
theorem n_621 : Cond.code yX9_sets cX9_sets 2 (some .int) ∈ lw_big := mem_tab 621 (by decide +kernel) (by decide +kernel)
theorem n_637 : Cond.methodLink RL 98 yX9_watch ∈ lw_big := mem_tab 637 (by decide +kernel) (by decide +kernel)
theorem n_638 : Cond.instanceMethod yX9_watch ∈ lw_big := mem_tab 638 (by decide +kernel) (by decide +kernel)
theorem n_639 : Cond.selects RX9 yX9_watch yX9_watch ∈ lw_big := mem_tab 639 (by decide +kernel) (by decide +kernel)
theorem n_640 : Cond.code yX9_watch cX9_watch 1 (some .int) ∈ lw_big := mem_tab 640 (by decide +kernel) (by decide +kernel)
theorem n_662 : Cond.methodLink RL 102 yX9_gout ∈ lw_big := mem_tab 662 (by decide +kernel) (by decide +kernel)
theorem n_663 : Cond.instanceMethod yX9_gout ∈ lw_big := mem_tab 663 (by decide +kernel) (by decide +kernel)
theorem n_664 : Cond.selects RX9 yX9_gout yX9_gout ∈ lw_big := mem_tab 664 (by decide +kernel) (by decide +kernel)
theorem n_665 : Cond.code yX9_gout cX9_gout 6 (some .long) ∈ lw_big := mem_tab 665 (by decide +kernel) (by decide +kernel)
theorem n_713 : Cond.methodLink RL 107 yX9_years ∈ lw_big := mem_tab 713 (by decide +kernel) (by decide +kernel)
theorem n_714 : Cond.instanceMethod yX9_years ∈ lw_big := mem_tab 714 (by decide +kernel) (by decide +kernel)
theorem n_715 : Cond.selects RX9 yX9_years yX9_years ∈ lw_big := mem_tab 715 (by decide +kernel) (by decide +kernel)
theorem n_716 : Cond.code yX9_years cX9_years 4 (some .int) ∈ lw_big := mem_tab 716 (by decide +kernel) (by decide +kernel)
theorem n_726 : Cond.methodLink RL 111 yX9_sheet ∈ lw_big := mem_tab 726 (by decide +kernel) (by decide +kernel)
theorem n_727 : Cond.instanceMethod yX9_sheet ∈ lw_big := mem_tab 727 (by decide +kernel) (by decide +kernel)
theorem n_728 : Cond.selects RX9 yX9_sheet yX9_sheet ∈ lw_big := mem_tab 728 (by decide +kernel) (by decide +kernel)
theorem n_729 : Cond.code yX9_sheet cX9_sheet 4 (some .int) ∈ lw_big := mem_tab 729 (by decide +kernel) (by decide +kernel)
theorem n_735 : Cond.methodLink RL 115 yX9_lose ∈ lw_big := mem_tab 735 (by decide +kernel) (by decide +kernel)
theorem n_736 : Cond.instanceMethod yX9_lose ∈ lw_big := mem_tab 736 (by decide +kernel) (by decide +kernel)
theorem n_737 : Cond.selects RX9 yX9_lose yX9_lose ∈ lw_big := mem_tab 737 (by decide +kernel) (by decide +kernel)
theorem n_738 : Cond.code yX9_lose cX9_lose 4 (some .int) ∈ lw_big := mem_tab 738 (by decide +kernel) (by decide +kernel)
theorem n_739 : Cond.methodLink RL 119 yX9_lay ∈ lw_big := mem_tab 739 (by decide +kernel) (by decide +kernel)
theorem n_740 : Cond.instanceMethod yX9_lay ∈ lw_big := mem_tab 740 (by decide +kernel) (by decide +kernel)
theorem n_741 : Cond.selects RX9 yX9_lay yX9_lay ∈ lw_big := mem_tab 741 (by decide +kernel) (by decide +kernel)
theorem n_742 : Cond.code yX9_lay cX9_lay 6 (some .int) ∈ lw_big := mem_tab 742 (by decide +kernel) (by decide +kernel)
theorem n_751 : Cond.methodLink RL 123 yX9_get ∈ lw_big := mem_tab 751 (by decide +kernel) (by decide +kernel)
theorem n_752 : Cond.instanceMethod yX9_get ∈ lw_big := mem_tab 752 (by decide +kernel) (by decide +kernel)
theorem n_753 : Cond.selects RX9 yX9_get yX9_get ∈ lw_big := mem_tab 753 (by decide +kernel) (by decide +kernel)
theorem n_754 : Cond.code yX9_get cX9_get 4 (some .int) ∈ lw_big := mem_tab 754 (by decide +kernel) (by decide +kernel)
theorem n_756 : Cond.methodLink RL 127 yX9_copy ∈ lw_big := mem_tab 756 (by decide +kernel) (by decide +kernel)
theorem n_757 : Cond.instanceMethod yX9_copy ∈ lw_big := mem_tab 757 (by decide +kernel) (by decide +kernel)
theorem n_758 : Cond.selects RX9 yX9_copy yX9_copy ∈ lw_big := mem_tab 758 (by decide +kernel) (by decide +kernel)
theorem n_759 : Cond.code yX9_copy cX9_copy 8 (some .int) ∈ lw_big := mem_tab 759 (by decide +kernel) (by decide +kernel)
theorem n_765 : Cond.methodLink RL 132 yX9_write ∈ lw_big := mem_tab 765 (by decide +kernel) (by decide +kernel)
theorem n_766 : Cond.instanceMethod yX9_write ∈ lw_big := mem_tab 766 (by decide +kernel) (by decide +kernel)
theorem n_767 : Cond.selects RX9 yX9_write yX9_write ∈ lw_big := mem_tab 767 (by decide +kernel) (by decide +kernel)
theorem n_768 : Cond.code yX9_write cX9_write 7 (some .int) ∈ lw_big := mem_tab 768 (by decide +kernel) (by decide +kernel)
theorem n_770 : Cond.methodLink RL 136 yX9_count ∈ lw_big := mem_tab 770 (by decide +kernel) (by decide +kernel)
theorem n_771 : Cond.instanceMethod yX9_count ∈ lw_big := mem_tab 771 (by decide +kernel) (by decide +kernel)
theorem n_772 : Cond.selects RX9 yX9_count yX9_count ∈ lw_big := mem_tab 772 (by decide +kernel) (by decide +kernel)
theorem n_773 : Cond.code yX9_count cX9_count 2 (some .int) ∈ lw_big := mem_tab 773 (by decide +kernel) (by decide +kernel)
theorem n_774 : Cond.methodLink RL 140 yX9_digest ∈ lw_big := mem_tab 774 (by decide +kernel) (by decide +kernel)
theorem n_775 : Cond.instanceMethod yX9_digest ∈ lw_big := mem_tab 775 (by decide +kernel) (by decide +kernel)
theorem n_776 : Cond.selects RX9 yX9_digest yX9_digest ∈ lw_big := mem_tab 776 (by decide +kernel) (by decide +kernel)
theorem n_777 : Cond.code yX9_digest cX9_digest 7 (some .long) ∈ lw_big := mem_tab 777 (by decide +kernel) (by decide +kernel)
theorem n_889 : Cond.methodLink RL 114 yX10_sheet ∈ lw_big := mem_tab 889 (by decide +kernel) (by decide +kernel)
theorem n_890 : Cond.instanceMethod yX10_sheet ∈ lw_big := mem_tab 890 (by decide +kernel) (by decide +kernel)
theorem n_891 : Cond.selects RX10 yX10_sheet yX10_sheet ∈ lw_big := mem_tab 891 (by decide +kernel) (by decide +kernel)
theorem n_892 : Cond.code yX10_sheet cX10_sheet 5 (some .int) ∈ lw_big := mem_tab 892 (by decide +kernel) (by decide +kernel)
theorem n_905 : Cond.methodLink RL 118 yX10_lose ∈ lw_big := mem_tab 905 (by decide +kernel) (by decide +kernel)
theorem n_906 : Cond.instanceMethod yX10_lose ∈ lw_big := mem_tab 906 (by decide +kernel) (by decide +kernel)
theorem n_907 : Cond.selects RX10 yX10_lose yX10_lose ∈ lw_big := mem_tab 907 (by decide +kernel) (by decide +kernel)
theorem n_908 : Cond.code yX10_lose cX10_lose 2 (some .int) ∈ lw_big := mem_tab 908 (by decide +kernel) (by decide +kernel)
theorem n_909 : Cond.methodLink RL 122 yX10_lay ∈ lw_big := mem_tab 909 (by decide +kernel) (by decide +kernel)
theorem n_910 : Cond.instanceMethod yX10_lay ∈ lw_big := mem_tab 910 (by decide +kernel) (by decide +kernel)
theorem n_911 : Cond.selects RX10 yX10_lay yX10_lay ∈ lw_big := mem_tab 911 (by decide +kernel) (by decide +kernel)
theorem n_912 : Cond.code yX10_lay cX10_lay 6 (some .int) ∈ lw_big := mem_tab 912 (by decide +kernel) (by decide +kernel)
theorem n_920 : Cond.methodLink RL 126 yX10_get ∈ lw_big := mem_tab 920 (by decide +kernel) (by decide +kernel)
theorem n_921 : Cond.instanceMethod yX10_get ∈ lw_big := mem_tab 921 (by decide +kernel) (by decide +kernel)
theorem n_922 : Cond.selects RX10 yX10_get yX10_get ∈ lw_big := mem_tab 922 (by decide +kernel) (by decide +kernel)
theorem n_923 : Cond.code yX10_get cX10_get 4 (some .int) ∈ lw_big := mem_tab 923 (by decide +kernel) (by decide +kernel)
theorem n_925 : Cond.methodLink RL 131 yX10_copy ∈ lw_big := mem_tab 925 (by decide +kernel) (by decide +kernel)
theorem n_926 : Cond.instanceMethod yX10_copy ∈ lw_big := mem_tab 926 (by decide +kernel) (by decide +kernel)
theorem n_927 : Cond.selects RX10 yX10_copy yX10_copy ∈ lw_big := mem_tab 927 (by decide +kernel) (by decide +kernel)
theorem n_928 : Cond.code yX10_copy cX10_copy 7 (some .int) ∈ lw_big := mem_tab 928 (by decide +kernel) (by decide +kernel)
theorem n_929 : Cond.methodLink RL 17 yX10_type ∈ lw_big := mem_tab 929 (by decide +kernel) (by decide +kernel)
theorem n_930 : Cond.instanceMethod yX10_type ∈ lw_big := mem_tab 930 (by decide +kernel) (by decide +kernel)
theorem n_931 : Cond.selects RX10 yX10_type yX10_type ∈ lw_big := mem_tab 931 (by decide +kernel) (by decide +kernel)
theorem n_932 : Cond.code yX10_type cX10_type 3 (some .int) ∈ lw_big := mem_tab 932 (by decide +kernel) (by decide +kernel)
theorem n_937 : Cond.methodLink RL 22 yX10_wipe ∈ lw_big := mem_tab 937 (by decide +kernel) (by decide +kernel)
theorem n_938 : Cond.instanceMethod yX10_wipe ∈ lw_big := mem_tab 938 (by decide +kernel) (by decide +kernel)
theorem n_939 : Cond.selects RX10 yX10_wipe yX10_wipe ∈ lw_big := mem_tab 939 (by decide +kernel) (by decide +kernel)
theorem n_940 : Cond.code yX10_wipe cX10_wipe 3 (some .int) ∈ lw_big := mem_tab 940 (by decide +kernel) (by decide +kernel)
theorem n_941 : Cond.methodLink RL 26 yX10_undo ∈ lw_big := mem_tab 941 (by decide +kernel) (by decide +kernel)
theorem n_942 : Cond.instanceMethod yX10_undo ∈ lw_big := mem_tab 942 (by decide +kernel) (by decide +kernel)
theorem n_943 : Cond.selects RX10 yX10_undo yX10_undo ∈ lw_big := mem_tab 943 (by decide +kernel) (by decide +kernel)
theorem n_944 : Cond.code yX10_undo cX10_undo 2 (some .int) ∈ lw_big := mem_tab 944 (by decide +kernel) (by decide +kernel)
theorem n_945 : Cond.methodLink RL 30 yX10_fault ∈ lw_big := mem_tab 945 (by decide +kernel) (by decide +kernel)
theorem n_946 : Cond.instanceMethod yX10_fault ∈ lw_big := mem_tab 946 (by decide +kernel) (by decide +kernel)
theorem n_947 : Cond.selects RX10 yX10_fault yX10_fault ∈ lw_big := mem_tab 947 (by decide +kernel) (by decide +kernel)
theorem n_948 : Cond.code yX10_fault cX10_fault 2 (some .int) ∈ lw_big := mem_tab 948 (by decide +kernel) (by decide +kernel)
theorem n_967 : Cond.methodLink RL 34 yX10_law ∈ lw_big := mem_tab 967 (by decide +kernel) (by decide +kernel)
theorem n_968 : Cond.instanceMethod yX10_law ∈ lw_big := mem_tab 968 (by decide +kernel) (by decide +kernel)
theorem n_969 : Cond.selects RX10 yX10_law yX10_law ∈ lw_big := mem_tab 969 (by decide +kernel) (by decide +kernel)
theorem n_970 : Cond.code yX10_law cX10_law 3 (some .int) ∈ lw_big := mem_tab 970 (by decide +kernel) (by decide +kernel)
theorem n_980 : Cond.methodLink RL 38 yX10_want ∈ lw_big := mem_tab 980 (by decide +kernel) (by decide +kernel)
theorem n_981 : Cond.instanceMethod yX10_want ∈ lw_big := mem_tab 981 (by decide +kernel) (by decide +kernel)
theorem n_982 : Cond.selects RX10 yX10_want yX10_want ∈ lw_big := mem_tab 982 (by decide +kernel) (by decide +kernel)
theorem n_983 : Cond.code yX10_want cX10_want 3 (some .int) ∈ lw_big := mem_tab 983 (by decide +kernel) (by decide +kernel)
theorem n_984 : Cond.methodLink RL 42 yX10_trial ∈ lw_big := mem_tab 984 (by decide +kernel) (by decide +kernel)
theorem n_985 : Cond.instanceMethod yX10_trial ∈ lw_big := mem_tab 985 (by decide +kernel) (by decide +kernel)
theorem n_986 : Cond.selects RX10 yX10_trial yX10_trial ∈ lw_big := mem_tab 986 (by decide +kernel) (by decide +kernel)
theorem n_987 : Cond.code yX10_trial cX10_trial 3 (some .int) ∈ lw_big := mem_tab 987 (by decide +kernel) (by decide +kernel)
theorem n_993 : Cond.methodLink RL 46 yX10_breach ∈ lw_big := mem_tab 993 (by decide +kernel) (by decide +kernel)
theorem n_994 : Cond.instanceMethod yX10_breach ∈ lw_big := mem_tab 994 (by decide +kernel) (by decide +kernel)
theorem n_995 : Cond.selects RX10 yX10_breach yX10_breach ∈ lw_big := mem_tab 995 (by decide +kernel) (by decide +kernel)
theorem n_996 : Cond.code yX10_breach cX10_breach 3 (some .int) ∈ lw_big := mem_tab 996 (by decide +kernel) (by decide +kernel)
theorem n_997 : Cond.methodLink RL 50 yX10_back ∈ lw_big := mem_tab 997 (by decide +kernel) (by decide +kernel)
theorem n_998 : Cond.instanceMethod yX10_back ∈ lw_big := mem_tab 998 (by decide +kernel) (by decide +kernel)
theorem n_999 : Cond.selects RX10 yX10_back yX10_back ∈ lw_big := mem_tab 999 (by decide +kernel) (by decide +kernel)
theorem n_1000 : Cond.code yX10_back cX10_back 3 (some .int) ∈ lw_big := mem_tab 1000 (by decide +kernel) (by decide +kernel)
theorem n_1001 : Cond.methodLink RL 54 yX10_binds ∈ lw_big := mem_tab 1001 (by decide +kernel) (by decide +kernel)
theorem n_1002 : Cond.instanceMethod yX10_binds ∈ lw_big := mem_tab 1002 (by decide +kernel) (by decide +kernel)
theorem n_1003 : Cond.selects RX10 yX10_binds yX10_binds ∈ lw_big := mem_tab 1003 (by decide +kernel) (by decide +kernel)
theorem n_1004 : Cond.code yX10_binds cX10_binds 3 (some .int) ∈ lw_big := mem_tab 1004 (by decide +kernel) (by decide +kernel)
theorem n_1025 : Cond.methodLink RL 58 yX10_does ∈ lw_big := mem_tab 1025 (by decide +kernel) (by decide +kernel)
theorem n_1026 : Cond.instanceMethod yX10_does ∈ lw_big := mem_tab 1026 (by decide +kernel) (by decide +kernel)
theorem n_1027 : Cond.selects RX10 yX10_does yX10_does ∈ lw_big := mem_tab 1027 (by decide +kernel) (by decide +kernel)
theorem n_1028 : Cond.code yX10_does cX10_does 3 (some .int) ∈ lw_big := mem_tab 1028 (by decide +kernel) (by decide +kernel)
theorem n_1051 : Cond.methodLink RL 62 yX10_joy ∈ lw_big := mem_tab 1051 (by decide +kernel) (by decide +kernel)
theorem n_1052 : Cond.instanceMethod yX10_joy ∈ lw_big := mem_tab 1052 (by decide +kernel) (by decide +kernel)
theorem n_1053 : Cond.selects RX10 yX10_joy yX10_joy ∈ lw_big := mem_tab 1053 (by decide +kernel) (by decide +kernel)
theorem n_1054 : Cond.code yX10_joy cX10_joy 3 (some .int) ∈ lw_big := mem_tab 1054 (by decide +kernel) (by decide +kernel)
theorem n_1068 : Cond.methodLink RL 66 yX10_quarrels ∈ lw_big := mem_tab 1068 (by decide +kernel) (by decide +kernel)
theorem n_1069 : Cond.instanceMethod yX10_quarrels ∈ lw_big := mem_tab 1069 (by decide +kernel) (by decide +kernel)
theorem n_1070 : Cond.selects RX10 yX10_quarrels yX10_quarrels ∈ lw_big := mem_tab 1070 (by decide +kernel) (by decide +kernel)
theorem n_1071 : Cond.code yX10_quarrels cX10_quarrels 3 (some .int) ∈ lw_big := mem_tab 1071 (by decide +kernel) (by decide +kernel)
theorem n_1076 : Cond.methodLink RL 71 yX10_exempt ∈ lw_big := mem_tab 1076 (by decide +kernel) (by decide +kernel)
theorem n_1077 : Cond.instanceMethod yX10_exempt ∈ lw_big := mem_tab 1077 (by decide +kernel) (by decide +kernel)
theorem n_1078 : Cond.selects RX10 yX10_exempt yX10_exempt ∈ lw_big := mem_tab 1078 (by decide +kernel) (by decide +kernel)
theorem n_1079 : Cond.code yX10_exempt cX10_exempt 5 (some .int) ∈ lw_big := mem_tab 1079 (by decide +kernel) (by decide +kernel)
theorem n_1088 : Cond.methodLink RL 75 yX10_keep ∈ lw_big := mem_tab 1088 (by decide +kernel) (by decide +kernel)
theorem n_1089 : Cond.instanceMethod yX10_keep ∈ lw_big := mem_tab 1089 (by decide +kernel) (by decide +kernel)
theorem n_1090 : Cond.selects RX10 yX10_keep yX10_keep ∈ lw_big := mem_tab 1090 (by decide +kernel) (by decide +kernel)
theorem n_1091 : Cond.code yX10_keep cX10_keep 4 (some .int) ∈ lw_big := mem_tab 1091 (by decide +kernel) (by decide +kernel)
theorem n_1096 : Cond.methodLink RL 80 yX10_order ∈ lw_big := mem_tab 1096 (by decide +kernel) (by decide +kernel)
theorem n_1097 : Cond.instanceMethod yX10_order ∈ lw_big := mem_tab 1097 (by decide +kernel) (by decide +kernel)
theorem n_1098 : Cond.selects RX10 yX10_order yX10_order ∈ lw_big := mem_tab 1098 (by decide +kernel) (by decide +kernel)
theorem n_1099 : Cond.code yX10_order cX10_order 5 (some .int) ∈ lw_big := mem_tab 1099 (by decide +kernel) (by decide +kernel)
theorem n_1108 : Cond.methodLink RL 84 yX10_seen ∈ lw_big := mem_tab 1108 (by decide +kernel) (by decide +kernel)
theorem n_1109 : Cond.instanceMethod yX10_seen ∈ lw_big := mem_tab 1109 (by decide +kernel) (by decide +kernel)
theorem n_1110 : Cond.selects RX10 yX10_seen yX10_seen ∈ lw_big := mem_tab 1110 (by decide +kernel) (by decide +kernel)
theorem n_1111 : Cond.code yX10_seen cX10_seen 3 (some .int) ∈ lw_big := mem_tab 1111 (by decide +kernel) (by decide +kernel)
theorem n_1112 : Cond.methodLink RL 89 yX10_forget ∈ lw_big := mem_tab 1112 (by decide +kernel) (by decide +kernel)
theorem n_1113 : Cond.instanceMethod yX10_forget ∈ lw_big := mem_tab 1113 (by decide +kernel) (by decide +kernel)
theorem n_1114 : Cond.selects RX10 yX10_forget yX10_forget ∈ lw_big := mem_tab 1114 (by decide +kernel) (by decide +kernel)
theorem n_1115 : Cond.code yX10_forget cX10_forget 2 (some .int) ∈ lw_big := mem_tab 1115 (by decide +kernel) (by decide +kernel)
theorem n_1116 : Cond.methodLink RL 93 yX10_read ∈ lw_big := mem_tab 1116 (by decide +kernel) (by decide +kernel)
theorem n_1117 : Cond.instanceMethod yX10_read ∈ lw_big := mem_tab 1117 (by decide +kernel) (by decide +kernel)
theorem n_1118 : Cond.selects RX10 yX10_read yX10_read ∈ lw_big := mem_tab 1118 (by decide +kernel) (by decide +kernel)
theorem n_1119 : Cond.code yX10_read cX10_read 4 (some .int) ∈ lw_big := mem_tab 1119 (by decide +kernel) (by decide +kernel)
theorem n_1121 : Cond.methodLink RL 97 yX10_sets ∈ lw_big := mem_tab 1121 (by decide +kernel) (by decide +kernel)
theorem n_1122 : Cond.instanceMethod yX10_sets ∈ lw_big := mem_tab 1122 (by decide +kernel) (by decide +kernel)
theorem n_1123 : Cond.selects RX10 yX10_sets yX10_sets ∈ lw_big := mem_tab 1123 (by decide +kernel) (by decide +kernel)
theorem n_1124 : Cond.code yX10_sets cX10_sets 2 (some .int) ∈ lw_big := mem_tab 1124 (by decide +kernel) (by decide +kernel)
theorem n_1133 : Cond.methodLink RL 101 yX10_watch ∈ lw_big := mem_tab 1133 (by decide +kernel) (by decide +kernel)
theorem n_1134 : Cond.instanceMethod yX10_watch ∈ lw_big := mem_tab 1134 (by decide +kernel) (by decide +kernel)
theorem n_1135 : Cond.selects RX10 yX10_watch yX10_watch ∈ lw_big := mem_tab 1135 (by decide +kernel) (by decide +kernel)
theorem n_1136 : Cond.code yX10_watch cX10_watch 1 (some .int) ∈ lw_big := mem_tab 1136 (by decide +kernel) (by decide +kernel)
theorem n_1141 : Cond.methodLink RL 106 yX10_gout ∈ lw_big := mem_tab 1141 (by decide +kernel) (by decide +kernel)
theorem n_1142 : Cond.instanceMethod yX10_gout ∈ lw_big := mem_tab 1142 (by decide +kernel) (by decide +kernel)
theorem n_1143 : Cond.selects RX10 yX10_gout yX10_gout ∈ lw_big := mem_tab 1143 (by decide +kernel) (by decide +kernel)
theorem n_1144 : Cond.code yX10_gout cX10_gout 7 (some .long) ∈ lw_big := mem_tab 1144 (by decide +kernel) (by decide +kernel)
theorem n_1158 : Cond.methodLink RL 110 yX10_years ∈ lw_big := mem_tab 1158 (by decide +kernel) (by decide +kernel)
theorem n_1159 : Cond.instanceMethod yX10_years ∈ lw_big := mem_tab 1159 (by decide +kernel) (by decide +kernel)
theorem n_1160 : Cond.selects RX10 yX10_years yX10_years ∈ lw_big := mem_tab 1160 (by decide +kernel) (by decide +kernel)
theorem n_1161 : Cond.code yX10_years cX10_years 4 (some .int) ∈ lw_big := mem_tab 1161 (by decide +kernel) (by decide +kernel)
theorem n_1172 : Cond.methodLink RL 135 yX10_write ∈ lw_big := mem_tab 1172 (by decide +kernel) (by decide +kernel)
theorem n_1173 : Cond.instanceMethod yX10_write ∈ lw_big := mem_tab 1173 (by decide +kernel) (by decide +kernel)
theorem n_1174 : Cond.selects RX10 yX10_write yX10_write ∈ lw_big := mem_tab 1174 (by decide +kernel) (by decide +kernel)
theorem n_1175 : Cond.code yX10_write cX10_write 6 (some .int) ∈ lw_big := mem_tab 1175 (by decide +kernel) (by decide +kernel)
theorem n_1179 : Cond.methodLink RL 139 yX10_count ∈ lw_big := mem_tab 1179 (by decide +kernel) (by decide +kernel)
theorem n_1180 : Cond.instanceMethod yX10_count ∈ lw_big := mem_tab 1180 (by decide +kernel) (by decide +kernel)
theorem n_1181 : Cond.selects RX10 yX10_count yX10_count ∈ lw_big := mem_tab 1181 (by decide +kernel) (by decide +kernel)
theorem n_1182 : Cond.code yX10_count cX10_count 2 (some .int) ∈ lw_big := mem_tab 1182 (by decide +kernel) (by decide +kernel)
theorem n_1183 : Cond.methodLink RL 144 yX10_digest ∈ lw_big := mem_tab 1183 (by decide +kernel) (by decide +kernel)
theorem n_1184 : Cond.instanceMethod yX10_digest ∈ lw_big := mem_tab 1184 (by decide +kernel) (by decide +kernel)
theorem n_1185 : Cond.selects RX10 yX10_digest yX10_digest ∈ lw_big := mem_tab 1185 (by decide +kernel) (by decide +kernel)
theorem n_1186 : Cond.code yX10_digest cX10_digest 5 (some .long) ∈ lw_big := mem_tab 1186 (by decide +kernel) (by decide +kernel)
set_option maxHeartbeats 4000000 in
set_option maxRecDepth 100000 in
theorem law_0 (Rel : Mem → MemL → Mem → Prop) {p : Program} {l : Launch} {e : Env} {s : State} {m : MethodId} {below : List Frame} {meth : Method} {c : Code} {EX EM : xE} {b L : Nat} {xs : Nat → Int32} {v3 : Int32} {Q : State → Prop} (hx : p.tables.exec = Jvm.exec) (hb : c.code = code) (S : CallFix p m c code 4 s #[Value.ref b] lw_big RL) (hX : va_X b L xs s s.heap) (hbl : b < s.heap.size) (hbA : ¬ nA s b) (B : LB EX EM s) (g1 : vp_in (v3 + (1 : Int32)) L) (g2 : vp_in (v3 + (2 : Int32)) L) (g3 : vp_in (v3 + (3 : Int32)) L) (g4 : vp_in (v3 + (4 : Int32)) L) (g5 : vp_in (v3 + (5 : Int32)) L) (hs : s_type Rel) (hend : ∀ (x : Mem) (xl : MemL) (y : Mem) (H : Heap) (locs : List Loc) (ls : Array Slot), LI EX EM x xl y s H locs → Rel x xl y → lv_has ls 4 [(0, .ref b), (1, .ref (wad (wdX EX) 0)), (2, .ref (wad (wdM EM) 0)), (3, .int v3)] → W p l e room_1 s m #[Value.ref b] below meth c H locs 600000 7302250 Q (F0 m 1197 ls [])) (x : Mem) (xl : MemL) (y : Mem) (H : Heap) (locs : List Loc) (ls : Array Slot) (I : LI EX EM x xl y s H locs) (hRel : Rel x xl y) (lv : lv_has ls 4 [(0, .ref b), (1, .ref (wad (wdX EX) 0)), (2, .ref (wad (wdM EM) 0)), (3, .int v3)]) : W p l e room_1 s m #[Value.ref b] below meth c H locs 600000 7302250 Q (F0 m 172 ls []) := by
  refine lv_aload_n hx hb dL_law_172 rfl (lv_at lv 1 rfl) ?_
  refine lv_aload_n hx hb dL_law_173 rfl (lv_at lv 0 rfl) ?_
  refine lv_iload_n hx hb dL_law_174 rfl (lv_at lv 3 rfl) ?_
  refine lv_iconst (v := (1 : Int32)) hx hb dL_law_175 (by decide) ?_
  refine lv_iadd hx hb dL_law_176 ?_
  refine va_sld hx hb hX hbl hbA I.2.2 g1 dL_law_177 ?_
  refine lv_aload_n hx hb dL_law_178 rfl (lv_at lv 0 rfl) ?_
  refine lv_iload_n hx hb dL_law_179 rfl (lv_at lv 3 rfl) ?_
  refine lv_iconst (v := (2 : Int32)) hx hb dL_law_180 (by decide) ?_
  refine lv_iadd hx hb dL_law_181 ?_
  refine va_sld hx hb hX hbl hbA I.2.2 g2 dL_law_182 ?_
  refine zX_i B I (z_run (n := 2) (As := [.int (xs (v3 + (1 : Int32)).toNatClampNeg), .int (xs (v3 + (2 : Int32)).toNatClampNeg)]) (rest := []) S (B.sx I.2.2) I.1 (m_X9_type EX l x xl (xs (v3 + (1 : Int32)).toNatClampNeg) (xs (v3 + (2 : Int32)).toNatClampNeg) _ (hs x xl y hRel (xs (v3 + (1 : Int32)).toNatClampNeg) (xs (v3 + (2 : Int32)).toNatClampNeg))) wx_0 rfl n_332 n_329 n_1 n_330 n_331 (by decide +kernel) rfl rfl ⟨Nat.le_of_ble_eq_true rfl, Nat.le_of_ble_eq_true rfl⟩ rfl lv.1 rfl (Nat.le_of_ble_eq_true rfl) dL_law_183 ⟨Nat.le_refl _, Nat.le_refl _⟩) (fun r x1 xl1 H locs hwp I => ?_)
  obtain ⟨rfl, hwp⟩ := hwp
  refine lv_aload_n hx hb dL_law_186 rfl (lv_at lv 2 rfl) ?_
  refine lv_aload_n hx hb dL_law_187 rfl (lv_at lv 0 rfl) ?_
  refine lv_iload_n hx hb dL_law_188 rfl (lv_at lv 3 rfl) ?_
  refine lv_iconst (v := (1 : Int32)) hx hb dL_law_189 (by decide) ?_
  refine lv_iadd hx hb dL_law_190 ?_
  refine va_sld hx hb hX hbl hbA I.2.2 g1 dL_law_191 ?_
  refine lv_aload_n hx hb dL_law_192 rfl (lv_at lv 0 rfl) ?_
  refine lv_iload_n hx hb dL_law_193 rfl (lv_at lv 3 rfl) ?_
  refine lv_iconst (v := (2 : Int32)) hx hb dL_law_194 (by decide) ?_
  refine lv_iadd hx hb dL_law_195 ?_
  refine va_sld hx hb hX hbl hbA I.2.2 g2 dL_law_196 ?_
  refine zM_i B I (z_run (n := 2) (As := [.int (xs (v3 + (1 : Int32)).toNatClampNeg), .int (xs (v3 + (2 : Int32)).toNatClampNeg)]) (rest := [.int r]) S B.sm I.2.1 (m_X10_type EM l y (fun _ _ => 0) (xs (v3 + (1 : Int32)).toNatClampNeg) (xs (v3 + (2 : Int32)).toNatClampNeg) _ hwp) wm_0 rfl n_932 n_929 n_12 n_930 n_931 (by decide +kernel) rfl rfl ⟨Nat.le_of_ble_eq_true rfl, Nat.le_of_ble_eq_true rfl⟩ rfl lv.1 rfl (Nat.le_of_ble_eq_true rfl) dL_law_197 ⟨Nat.le_refl _, Nat.le_refl _⟩) (fun r2 y1 yl1 H locs hwp I => ?_)
  obtain ⟨-, hwp, hRel2⟩ := hwp
  refine lv_icmp_eq (tgt := 1197) hx hb dL_law_200 (by decide) (fun _ => ?_) (fun c1 => absurd hwp c1)
  exact hend x1 xl y1 _ _ _ I hRel2 lv
set_option maxHeartbeats 4000000 in
set_option maxRecDepth 100000 in
theorem law_1 (Rel : Mem → MemL → Mem → Prop) {p : Program} {l : Launch} {e : Env} {s : State} {m : MethodId} {below : List Frame} {meth : Method} {c : Code} {EX EM : xE} {b L : Nat} {xs : Nat → Int32} {v3 : Int32} {Q : State → Prop} (hx : p.tables.exec = Jvm.exec) (hb : c.code = code) (S : CallFix p m c code 4 s #[Value.ref b] lw_big RL) (hX : va_X b L xs s s.heap) (hbl : b < s.heap.size) (hbA : ¬ nA s b) (B : LB EX EM s) (g1 : vp_in (v3 + (1 : Int32)) L) (g2 : vp_in (v3 + (2 : Int32)) L) (g3 : vp_in (v3 + (3 : Int32)) L) (g4 : vp_in (v3 + (4 : Int32)) L) (g5 : vp_in (v3 + (5 : Int32)) L) (hs : s_wipe Rel) (hend : ∀ (x : Mem) (xl : MemL) (y : Mem) (H : Heap) (locs : List Loc) (ls : Array Slot), LI EX EM x xl y s H locs → Rel x xl y → lv_has ls 4 [(0, .ref b), (1, .ref (wad (wdX EX) 0)), (2, .ref (wad (wdM EM) 0)), (3, .int v3)] → W p l e room_1 s m #[Value.ref b] below meth c H locs 600000 7302250 Q (F0 m 1197 ls [])) (x : Mem) (xl : MemL) (y : Mem) (H : Heap) (locs : List Loc) (ls : Array Slot) (I : LI EX EM x xl y s H locs) (hRel : Rel x xl y) (lv : lv_has ls 4 [(0, .ref b), (1, .ref (wad (wdX EX) 0)), (2, .ref (wad (wdM EM) 0)), (3, .int v3)]) : W p l e room_1 s m #[Value.ref b] below meth c H locs 600000 7302250 Q (F0 m 205 ls []) := by
  refine lv_aload_n hx hb dL_law_205 rfl (lv_at lv 1 rfl) ?_
  refine lv_aload_n hx hb dL_law_206 rfl (lv_at lv 0 rfl) ?_
  refine lv_iload_n hx hb dL_law_207 rfl (lv_at lv 3 rfl) ?_
  refine lv_iconst (v := (1 : Int32)) hx hb dL_law_208 (by decide) ?_
  refine lv_iadd hx hb dL_law_209 ?_
  refine va_sld hx hb hX hbl hbA I.2.2 g1 dL_law_210 ?_
  refine zX_i B I (z_run (n := 1) (As := [.int (xs (v3 + (1 : Int32)).toNatClampNeg)]) (rest := []) S (B.sx I.2.2) I.1 (m_X9_wipe EX l x xl (xs (v3 + (1 : Int32)).toNatClampNeg) _ (hs x xl y hRel (xs (v3 + (1 : Int32)).toNatClampNeg))) wx_0 rfl n_351 n_348 n_1 n_349 n_350 (by decide +kernel) rfl rfl ⟨Nat.le_of_ble_eq_true rfl, Nat.le_of_ble_eq_true rfl⟩ rfl lv.1 rfl (Nat.le_of_ble_eq_true rfl) dL_law_211 ⟨Nat.le_refl _, Nat.le_refl _⟩) (fun r x1 xl1 H locs hwp I => ?_)
  obtain ⟨rfl, hwp⟩ := hwp
  refine lv_aload_n hx hb dL_law_214 rfl (lv_at lv 2 rfl) ?_
  refine lv_aload_n hx hb dL_law_215 rfl (lv_at lv 0 rfl) ?_
  refine lv_iload_n hx hb dL_law_216 rfl (lv_at lv 3 rfl) ?_
  refine lv_iconst (v := (1 : Int32)) hx hb dL_law_217 (by decide) ?_
  refine lv_iadd hx hb dL_law_218 ?_
  refine va_sld hx hb hX hbl hbA I.2.2 g1 dL_law_219 ?_
  refine zM_i B I (z_run (n := 1) (As := [.int (xs (v3 + (1 : Int32)).toNatClampNeg)]) (rest := [.int r]) S B.sm I.2.1 (m_X10_wipe EM l y (fun _ _ => 0) (xs (v3 + (1 : Int32)).toNatClampNeg) _ hwp) wm_0 rfl n_940 n_937 n_12 n_938 n_939 (by decide +kernel) rfl rfl ⟨Nat.le_of_ble_eq_true rfl, Nat.le_of_ble_eq_true rfl⟩ rfl lv.1 rfl (Nat.le_of_ble_eq_true rfl) dL_law_220 ⟨Nat.le_refl _, Nat.le_refl _⟩) (fun r2 y1 yl1 H locs hwp I => ?_)
  obtain ⟨-, hwp, hRel2⟩ := hwp
  refine lv_icmp_eq (tgt := 1197) hx hb dL_law_223 (by decide) (fun _ => ?_) (fun c1 => absurd hwp c1)
  exact hend x1 xl y1 _ _ _ I hRel2 lv
set_option maxHeartbeats 4000000 in
set_option maxRecDepth 100000 in
theorem law_2 (Rel : Mem → MemL → Mem → Prop) {p : Program} {l : Launch} {e : Env} {s : State} {m : MethodId} {below : List Frame} {meth : Method} {c : Code} {EX EM : xE} {b L : Nat} {xs : Nat → Int32} {v3 : Int32} {Q : State → Prop} (hx : p.tables.exec = Jvm.exec) (hb : c.code = code) (S : CallFix p m c code 4 s #[Value.ref b] lw_big RL) (hX : va_X b L xs s s.heap) (hbl : b < s.heap.size) (hbA : ¬ nA s b) (B : LB EX EM s) (g1 : vp_in (v3 + (1 : Int32)) L) (g2 : vp_in (v3 + (2 : Int32)) L) (g3 : vp_in (v3 + (3 : Int32)) L) (g4 : vp_in (v3 + (4 : Int32)) L) (g5 : vp_in (v3 + (5 : Int32)) L) (hs : s_undo Rel) (hend : ∀ (x : Mem) (xl : MemL) (y : Mem) (H : Heap) (locs : List Loc) (ls : Array Slot), LI EX EM x xl y s H locs → Rel x xl y → lv_has ls 4 [(0, .ref b), (1, .ref (wad (wdX EX) 0)), (2, .ref (wad (wdM EM) 0)), (3, .int v3)] → W p l e room_1 s m #[Value.ref b] below meth c H locs 600000 7302250 Q (F0 m 1197 ls [])) (x : Mem) (xl : MemL) (y : Mem) (H : Heap) (locs : List Loc) (ls : Array Slot) (I : LI EX EM x xl y s H locs) (hRel : Rel x xl y) (lv : lv_has ls 4 [(0, .ref b), (1, .ref (wad (wdX EX) 0)), (2, .ref (wad (wdM EM) 0)), (3, .int v3)]) : W p l e room_1 s m #[Value.ref b] below meth c H locs 600000 7302250 Q (F0 m 228 ls []) := by
  refine lv_aload_n hx hb dL_law_228 rfl (lv_at lv 1 rfl) ?_
  refine lv_aload_n hx hb dL_law_229 rfl (lv_at lv 0 rfl) ?_
  refine lv_iload_n hx hb dL_law_230 rfl (lv_at lv 3 rfl) ?_
  refine lv_iconst (v := (1 : Int32)) hx hb dL_law_231 (by decide) ?_
  refine lv_iadd hx hb dL_law_232 ?_
  refine va_sld hx hb hX hbl hbA I.2.2 g1 dL_law_233 ?_
  refine zX_i B I (z_run (n := 1) (As := [.int (xs (v3 + (1 : Int32)).toNatClampNeg)]) (rest := []) S (B.sx I.2.2) I.1 (m_X9_undo EX l x xl (xs (v3 + (1 : Int32)).toNatClampNeg) _ (hs x xl y hRel (xs (v3 + (1 : Int32)).toNatClampNeg))) wx_0 rfl n_359 n_356 n_1 n_357 n_358 (by decide +kernel) rfl rfl ⟨Nat.le_of_ble_eq_true rfl, Nat.le_of_ble_eq_true rfl⟩ rfl lv.1 rfl (Nat.le_of_ble_eq_true rfl) dL_law_234 ⟨Nat.le_refl _, Nat.le_refl _⟩) (fun r x1 xl1 H locs hwp I => ?_)
  obtain ⟨rfl, hwp⟩ := hwp
  refine lv_aload_n hx hb dL_law_237 rfl (lv_at lv 2 rfl) ?_
  refine lv_aload_n hx hb dL_law_238 rfl (lv_at lv 0 rfl) ?_
  refine lv_iload_n hx hb dL_law_239 rfl (lv_at lv 3 rfl) ?_
  refine lv_iconst (v := (1 : Int32)) hx hb dL_law_240 (by decide) ?_
  refine lv_iadd hx hb dL_law_241 ?_
  refine va_sld hx hb hX hbl hbA I.2.2 g1 dL_law_242 ?_
  refine zM_i B I (z_run (n := 1) (As := [.int (xs (v3 + (1 : Int32)).toNatClampNeg)]) (rest := [.int r]) S B.sm I.2.1 (m_X10_undo EM l y (fun _ _ => 0) (xs (v3 + (1 : Int32)).toNatClampNeg) _ hwp) wm_0 rfl n_944 n_941 n_12 n_942 n_943 (by decide +kernel) rfl rfl ⟨Nat.le_of_ble_eq_true rfl, Nat.le_of_ble_eq_true rfl⟩ rfl lv.1 rfl (Nat.le_of_ble_eq_true rfl) dL_law_243 ⟨Nat.le_refl _, Nat.le_refl _⟩) (fun r2 y1 yl1 H locs hwp I => ?_)
  obtain ⟨-, hwp, hRel2⟩ := hwp
  refine lv_icmp_eq (tgt := 1197) hx hb dL_law_246 (by decide) (fun _ => ?_) (fun c1 => absurd hwp c1)
  exact hend x1 xl y1 _ _ _ I hRel2 lv
set_option maxHeartbeats 4000000 in
set_option maxRecDepth 100000 in
theorem law_3 (Rel : Mem → MemL → Mem → Prop) {p : Program} {l : Launch} {e : Env} {s : State} {m : MethodId} {below : List Frame} {meth : Method} {c : Code} {EX EM : xE} {b L : Nat} {xs : Nat → Int32} {v3 : Int32} {Q : State → Prop} (hx : p.tables.exec = Jvm.exec) (hb : c.code = code) (S : CallFix p m c code 4 s #[Value.ref b] lw_big RL) (hX : va_X b L xs s s.heap) (hbl : b < s.heap.size) (hbA : ¬ nA s b) (B : LB EX EM s) (g1 : vp_in (v3 + (1 : Int32)) L) (g2 : vp_in (v3 + (2 : Int32)) L) (g3 : vp_in (v3 + (3 : Int32)) L) (g4 : vp_in (v3 + (4 : Int32)) L) (g5 : vp_in (v3 + (5 : Int32)) L) (hs : s_fault Rel) (hend : ∀ (x : Mem) (xl : MemL) (y : Mem) (H : Heap) (locs : List Loc) (ls : Array Slot), LI EX EM x xl y s H locs → Rel x xl y → lv_has ls 4 [(0, .ref b), (1, .ref (wad (wdX EX) 0)), (2, .ref (wad (wdM EM) 0)), (3, .int v3)] → W p l e room_1 s m #[Value.ref b] below meth c H locs 600000 7302250 Q (F0 m 1197 ls [])) (x : Mem) (xl : MemL) (y : Mem) (H : Heap) (locs : List Loc) (ls : Array Slot) (I : LI EX EM x xl y s H locs) (hRel : Rel x xl y) (lv : lv_has ls 4 [(0, .ref b), (1, .ref (wad (wdX EX) 0)), (2, .ref (wad (wdM EM) 0)), (3, .int v3)]) : W p l e room_1 s m #[Value.ref b] below meth c H locs 600000 7302250 Q (F0 m 251 ls []) := by
  refine lv_aload_n hx hb dL_law_251 rfl (lv_at lv 1 rfl) ?_
  refine lv_aload_n hx hb dL_law_252 rfl (lv_at lv 0 rfl) ?_
  refine lv_iload_n hx hb dL_law_253 rfl (lv_at lv 3 rfl) ?_
  refine lv_iconst (v := (1 : Int32)) hx hb dL_law_254 (by decide) ?_
  refine lv_iadd hx hb dL_law_255 ?_
  refine va_sld hx hb hX hbl hbA I.2.2 g1 dL_law_256 ?_
  refine zX_i B I (z_run (n := 1) (As := [.int (xs (v3 + (1 : Int32)).toNatClampNeg)]) (rest := []) S (B.sx I.2.2) I.1 (m_X9_fault EX l x xl (xs (v3 + (1 : Int32)).toNatClampNeg) _ (hs x xl y hRel (xs (v3 + (1 : Int32)).toNatClampNeg))) wx_0 rfl n_363 n_360 n_1 n_361 n_362 (by decide +kernel) rfl rfl ⟨Nat.le_of_ble_eq_true rfl, Nat.le_of_ble_eq_true rfl⟩ rfl lv.1 rfl (Nat.le_of_ble_eq_true rfl) dL_law_257 ⟨Nat.le_refl _, Nat.le_refl _⟩) (fun r x1 xl1 H locs hwp I => ?_)
  obtain ⟨rfl, hwp⟩ := hwp
  refine lv_aload_n hx hb dL_law_260 rfl (lv_at lv 2 rfl) ?_
  refine lv_aload_n hx hb dL_law_261 rfl (lv_at lv 0 rfl) ?_
  refine lv_iload_n hx hb dL_law_262 rfl (lv_at lv 3 rfl) ?_
  refine lv_iconst (v := (1 : Int32)) hx hb dL_law_263 (by decide) ?_
  refine lv_iadd hx hb dL_law_264 ?_
  refine va_sld hx hb hX hbl hbA I.2.2 g1 dL_law_265 ?_
  refine zM_i B I (z_run (n := 1) (As := [.int (xs (v3 + (1 : Int32)).toNatClampNeg)]) (rest := [.int r]) S B.sm I.2.1 (m_X10_fault EM l y (fun _ _ => 0) (xs (v3 + (1 : Int32)).toNatClampNeg) _ hwp) wm_0 rfl n_948 n_945 n_12 n_946 n_947 (by decide +kernel) rfl rfl ⟨Nat.le_of_ble_eq_true rfl, Nat.le_of_ble_eq_true rfl⟩ rfl lv.1 rfl (Nat.le_of_ble_eq_true rfl) dL_law_266 ⟨Nat.le_refl _, Nat.le_refl _⟩) (fun r2 y1 yl1 H locs hwp I => ?_)
  obtain ⟨-, hwp, hRel2⟩ := hwp
  refine lv_icmp_eq (tgt := 1197) hx hb dL_law_269 (by decide) (fun _ => ?_) (fun c1 => absurd hwp c1)
  exact hend x1 xl y1 _ _ _ I hRel2 lv
set_option maxHeartbeats 4000000 in
set_option maxRecDepth 100000 in
theorem law_4 (Rel : Mem → MemL → Mem → Prop) {p : Program} {l : Launch} {e : Env} {s : State} {m : MethodId} {below : List Frame} {meth : Method} {c : Code} {EX EM : xE} {b L : Nat} {xs : Nat → Int32} {v3 : Int32} {Q : State → Prop} (hx : p.tables.exec = Jvm.exec) (hb : c.code = code) (S : CallFix p m c code 4 s #[Value.ref b] lw_big RL) (hX : va_X b L xs s s.heap) (hbl : b < s.heap.size) (hbA : ¬ nA s b) (B : LB EX EM s) (g1 : vp_in (v3 + (1 : Int32)) L) (g2 : vp_in (v3 + (2 : Int32)) L) (g3 : vp_in (v3 + (3 : Int32)) L) (g4 : vp_in (v3 + (4 : Int32)) L) (g5 : vp_in (v3 + (5 : Int32)) L) (hs : s_law Rel) (hend : ∀ (x : Mem) (xl : MemL) (y : Mem) (H : Heap) (locs : List Loc) (ls : Array Slot), LI EX EM x xl y s H locs → Rel x xl y → lv_has ls 4 [(0, .ref b), (1, .ref (wad (wdX EX) 0)), (2, .ref (wad (wdM EM) 0)), (3, .int v3)] → W p l e room_1 s m #[Value.ref b] below meth c H locs 600000 7302250 Q (F0 m 1197 ls [])) (x : Mem) (xl : MemL) (y : Mem) (H : Heap) (locs : List Loc) (ls : Array Slot) (I : LI EX EM x xl y s H locs) (hRel : Rel x xl y) (lv : lv_has ls 4 [(0, .ref b), (1, .ref (wad (wdX EX) 0)), (2, .ref (wad (wdM EM) 0)), (3, .int v3)]) : W p l e room_1 s m #[Value.ref b] below meth c H locs 600000 7302250 Q (F0 m 274 ls []) := by
  refine lv_aload_n hx hb dL_law_274 rfl (lv_at lv 1 rfl) ?_
  refine lv_aload_n hx hb dL_law_275 rfl (lv_at lv 0 rfl) ?_
  refine lv_iload_n hx hb dL_law_276 rfl (lv_at lv 3 rfl) ?_
  refine lv_iconst (v := (1 : Int32)) hx hb dL_law_277 (by decide) ?_
  refine lv_iadd hx hb dL_law_278 ?_
  refine va_sld hx hb hX hbl hbA I.2.2 g1 dL_law_279 ?_
  refine lv_aload_n hx hb dL_law_280 rfl (lv_at lv 0 rfl) ?_
  refine lv_iload_n hx hb dL_law_281 rfl (lv_at lv 3 rfl) ?_
  refine lv_iconst (v := (2 : Int32)) hx hb dL_law_282 (by decide) ?_
  refine lv_iadd hx hb dL_law_283 ?_
  refine va_sld hx hb hX hbl hbA I.2.2 g2 dL_law_284 ?_
  refine zX_i B I (z_run (n := 2) (As := [.int (xs (v3 + (1 : Int32)).toNatClampNeg), .int (xs (v3 + (2 : Int32)).toNatClampNeg)]) (rest := []) S (B.sx I.2.2) I.1 (m_X9_law EX l x xl (xs (v3 + (1 : Int32)).toNatClampNeg) (xs (v3 + (2 : Int32)).toNatClampNeg) _ (hs x xl y hRel (xs (v3 + (1 : Int32)).toNatClampNeg) (xs (v3 + (2 : Int32)).toNatClampNeg))) wx_0 rfl n_397 n_394 n_1 n_395 n_396 (by decide +kernel) rfl rfl ⟨Nat.le_of_ble_eq_true rfl, Nat.le_of_ble_eq_true rfl⟩ rfl lv.1 rfl (Nat.le_of_ble_eq_true rfl) dL_law_285 ⟨Nat.le_refl _, Nat.le_refl _⟩) (fun r x1 xl1 H locs hwp I => ?_)
  obtain ⟨rfl, hwp⟩ := hwp
  refine lv_aload_n hx hb dL_law_288 rfl (lv_at lv 2 rfl) ?_
  refine lv_aload_n hx hb dL_law_289 rfl (lv_at lv 0 rfl) ?_
  refine lv_iload_n hx hb dL_law_290 rfl (lv_at lv 3 rfl) ?_
  refine lv_iconst (v := (1 : Int32)) hx hb dL_law_291 (by decide) ?_
  refine lv_iadd hx hb dL_law_292 ?_
  refine va_sld hx hb hX hbl hbA I.2.2 g1 dL_law_293 ?_
  refine lv_aload_n hx hb dL_law_294 rfl (lv_at lv 0 rfl) ?_
  refine lv_iload_n hx hb dL_law_295 rfl (lv_at lv 3 rfl) ?_
  refine lv_iconst (v := (2 : Int32)) hx hb dL_law_296 (by decide) ?_
  refine lv_iadd hx hb dL_law_297 ?_
  refine va_sld hx hb hX hbl hbA I.2.2 g2 dL_law_298 ?_
  refine zM_i B I (z_run (n := 2) (As := [.int (xs (v3 + (1 : Int32)).toNatClampNeg), .int (xs (v3 + (2 : Int32)).toNatClampNeg)]) (rest := [.int r]) S B.sm I.2.1 (m_X10_law EM l y (fun _ _ => 0) (xs (v3 + (1 : Int32)).toNatClampNeg) (xs (v3 + (2 : Int32)).toNatClampNeg) _ hwp) wm_0 rfl n_970 n_967 n_12 n_968 n_969 (by decide +kernel) rfl rfl ⟨Nat.le_of_ble_eq_true rfl, Nat.le_of_ble_eq_true rfl⟩ rfl lv.1 rfl (Nat.le_of_ble_eq_true rfl) dL_law_299 ⟨Nat.le_refl _, Nat.le_refl _⟩) (fun r2 y1 yl1 H locs hwp I => ?_)
  obtain ⟨-, hwp, hRel2⟩ := hwp
  refine lv_icmp_eq (tgt := 1197) hx hb dL_law_302 (by decide) (fun _ => ?_) (fun c1 => absurd hwp c1)
  exact hend x1 xl y1 _ _ _ I hRel2 lv
set_option maxHeartbeats 4000000 in
set_option maxRecDepth 100000 in
theorem law_5 (Rel : Mem → MemL → Mem → Prop) {p : Program} {l : Launch} {e : Env} {s : State} {m : MethodId} {below : List Frame} {meth : Method} {c : Code} {EX EM : xE} {b L : Nat} {xs : Nat → Int32} {v3 : Int32} {Q : State → Prop} (hx : p.tables.exec = Jvm.exec) (hb : c.code = code) (S : CallFix p m c code 4 s #[Value.ref b] lw_big RL) (hX : va_X b L xs s s.heap) (hbl : b < s.heap.size) (hbA : ¬ nA s b) (B : LB EX EM s) (g1 : vp_in (v3 + (1 : Int32)) L) (g2 : vp_in (v3 + (2 : Int32)) L) (g3 : vp_in (v3 + (3 : Int32)) L) (g4 : vp_in (v3 + (4 : Int32)) L) (g5 : vp_in (v3 + (5 : Int32)) L) (hs : s_want Rel) (hend : ∀ (x : Mem) (xl : MemL) (y : Mem) (H : Heap) (locs : List Loc) (ls : Array Slot), LI EX EM x xl y s H locs → Rel x xl y → lv_has ls 4 [(0, .ref b), (1, .ref (wad (wdX EX) 0)), (2, .ref (wad (wdM EM) 0)), (3, .int v3)] → W p l e room_1 s m #[Value.ref b] below meth c H locs 600000 7302250 Q (F0 m 1197 ls [])) (x : Mem) (xl : MemL) (y : Mem) (H : Heap) (locs : List Loc) (ls : Array Slot) (I : LI EX EM x xl y s H locs) (hRel : Rel x xl y) (lv : lv_has ls 4 [(0, .ref b), (1, .ref (wad (wdX EX) 0)), (2, .ref (wad (wdM EM) 0)), (3, .int v3)]) : W p l e room_1 s m #[Value.ref b] below meth c H locs 600000 7302250 Q (F0 m 307 ls []) := by
  refine lv_aload_n hx hb dL_law_307 rfl (lv_at lv 1 rfl) ?_
  refine lv_aload_n hx hb dL_law_308 rfl (lv_at lv 0 rfl) ?_
  refine lv_iload_n hx hb dL_law_309 rfl (lv_at lv 3 rfl) ?_
  refine lv_iconst (v := (1 : Int32)) hx hb dL_law_310 (by decide) ?_
  refine lv_iadd hx hb dL_law_311 ?_
  refine va_sld hx hb hX hbl hbA I.2.2 g1 dL_law_312 ?_
  refine lv_aload_n hx hb dL_law_313 rfl (lv_at lv 0 rfl) ?_
  refine lv_iload_n hx hb dL_law_314 rfl (lv_at lv 3 rfl) ?_
  refine lv_iconst (v := (2 : Int32)) hx hb dL_law_315 (by decide) ?_
  refine lv_iadd hx hb dL_law_316 ?_
  refine va_sld hx hb hX hbl hbA I.2.2 g2 dL_law_317 ?_
  refine zX_i B I (z_run (n := 2) (As := [.int (xs (v3 + (1 : Int32)).toNatClampNeg), .int (xs (v3 + (2 : Int32)).toNatClampNeg)]) (rest := []) S (B.sx I.2.2) I.1 (m_X9_want EX l x xl (xs (v3 + (1 : Int32)).toNatClampNeg) (xs (v3 + (2 : Int32)).toNatClampNeg) _ (hs x xl y hRel (xs (v3 + (1 : Int32)).toNatClampNeg) (xs (v3 + (2 : Int32)).toNatClampNeg))) wx_0 rfl n_405 n_402 n_1 n_403 n_404 (by decide +kernel) rfl rfl ⟨Nat.le_of_ble_eq_true rfl, Nat.le_of_ble_eq_true rfl⟩ rfl lv.1 rfl (Nat.le_of_ble_eq_true rfl) dL_law_318 ⟨Nat.le_refl _, Nat.le_refl _⟩) (fun r x1 xl1 H locs hwp I => ?_)
  obtain ⟨rfl, hwp⟩ := hwp
  refine lv_aload_n hx hb dL_law_321 rfl (lv_at lv 2 rfl) ?_
  refine lv_aload_n hx hb dL_law_322 rfl (lv_at lv 0 rfl) ?_
  refine lv_iload_n hx hb dL_law_323 rfl (lv_at lv 3 rfl) ?_
  refine lv_iconst (v := (1 : Int32)) hx hb dL_law_324 (by decide) ?_
  refine lv_iadd hx hb dL_law_325 ?_
  refine va_sld hx hb hX hbl hbA I.2.2 g1 dL_law_326 ?_
  refine lv_aload_n hx hb dL_law_327 rfl (lv_at lv 0 rfl) ?_
  refine lv_iload_n hx hb dL_law_328 rfl (lv_at lv 3 rfl) ?_
  refine lv_iconst (v := (2 : Int32)) hx hb dL_law_329 (by decide) ?_
  refine lv_iadd hx hb dL_law_330 ?_
  refine va_sld hx hb hX hbl hbA I.2.2 g2 dL_law_331 ?_
  refine zM_i B I (z_run (n := 2) (As := [.int (xs (v3 + (1 : Int32)).toNatClampNeg), .int (xs (v3 + (2 : Int32)).toNatClampNeg)]) (rest := [.int r]) S B.sm I.2.1 (m_X10_want EM l y (fun _ _ => 0) (xs (v3 + (1 : Int32)).toNatClampNeg) (xs (v3 + (2 : Int32)).toNatClampNeg) _ hwp) wm_0 rfl n_983 n_980 n_12 n_981 n_982 (by decide +kernel) rfl rfl ⟨Nat.le_of_ble_eq_true rfl, Nat.le_of_ble_eq_true rfl⟩ rfl lv.1 rfl (Nat.le_of_ble_eq_true rfl) dL_law_332 ⟨Nat.le_refl _, Nat.le_refl _⟩) (fun r2 y1 yl1 H locs hwp I => ?_)
  obtain ⟨-, hwp, hRel2⟩ := hwp
  refine lv_icmp_eq (tgt := 1197) hx hb dL_law_335 (by decide) (fun _ => ?_) (fun c1 => absurd hwp c1)
  exact hend x1 xl y1 _ _ _ I hRel2 lv
set_option maxHeartbeats 4000000 in
set_option maxRecDepth 100000 in
theorem law_6 (Rel : Mem → MemL → Mem → Prop) {p : Program} {l : Launch} {e : Env} {s : State} {m : MethodId} {below : List Frame} {meth : Method} {c : Code} {EX EM : xE} {b L : Nat} {xs : Nat → Int32} {v3 : Int32} {Q : State → Prop} (hx : p.tables.exec = Jvm.exec) (hb : c.code = code) (S : CallFix p m c code 4 s #[Value.ref b] lw_big RL) (hX : va_X b L xs s s.heap) (hbl : b < s.heap.size) (hbA : ¬ nA s b) (B : LB EX EM s) (g1 : vp_in (v3 + (1 : Int32)) L) (g2 : vp_in (v3 + (2 : Int32)) L) (g3 : vp_in (v3 + (3 : Int32)) L) (g4 : vp_in (v3 + (4 : Int32)) L) (g5 : vp_in (v3 + (5 : Int32)) L) (hs : s_trial Rel) (hend : ∀ (x : Mem) (xl : MemL) (y : Mem) (H : Heap) (locs : List Loc) (ls : Array Slot), LI EX EM x xl y s H locs → Rel x xl y → lv_has ls 4 [(0, .ref b), (1, .ref (wad (wdX EX) 0)), (2, .ref (wad (wdM EM) 0)), (3, .int v3)] → W p l e room_1 s m #[Value.ref b] below meth c H locs 600000 7302250 Q (F0 m 1197 ls [])) (x : Mem) (xl : MemL) (y : Mem) (H : Heap) (locs : List Loc) (ls : Array Slot) (I : LI EX EM x xl y s H locs) (hRel : Rel x xl y) (lv : lv_has ls 4 [(0, .ref b), (1, .ref (wad (wdX EX) 0)), (2, .ref (wad (wdM EM) 0)), (3, .int v3)]) : W p l e room_1 s m #[Value.ref b] below meth c H locs 600000 7302250 Q (F0 m 340 ls []) := by
  refine lv_aload_n hx hb dL_law_340 rfl (lv_at lv 1 rfl) ?_
  refine lv_aload_n hx hb dL_law_341 rfl (lv_at lv 0 rfl) ?_
  refine lv_iload_n hx hb dL_law_342 rfl (lv_at lv 3 rfl) ?_
  refine lv_iconst (v := (1 : Int32)) hx hb dL_law_343 (by decide) ?_
  refine lv_iadd hx hb dL_law_344 ?_
  refine va_sld hx hb hX hbl hbA I.2.2 g1 dL_law_345 ?_
  refine lv_aload_n hx hb dL_law_346 rfl (lv_at lv 0 rfl) ?_
  refine lv_iload_n hx hb dL_law_347 rfl (lv_at lv 3 rfl) ?_
  refine lv_iconst (v := (2 : Int32)) hx hb dL_law_348 (by decide) ?_
  refine lv_iadd hx hb dL_law_349 ?_
  refine va_sld hx hb hX hbl hbA I.2.2 g2 dL_law_350 ?_
  refine zX_i B I (z_run (n := 2) (As := [.int (xs (v3 + (1 : Int32)).toNatClampNeg), .int (xs (v3 + (2 : Int32)).toNatClampNeg)]) (rest := []) S (B.sx I.2.2) I.1 (m_X9_trial EX l x xl (xs (v3 + (1 : Int32)).toNatClampNeg) (xs (v3 + (2 : Int32)).toNatClampNeg) _ (hs x xl y hRel (xs (v3 + (1 : Int32)).toNatClampNeg) (xs (v3 + (2 : Int32)).toNatClampNeg))) wx_0 rfl n_410 n_407 n_1 n_408 n_409 (by decide +kernel) rfl rfl ⟨Nat.le_of_ble_eq_true rfl, Nat.le_of_ble_eq_true rfl⟩ rfl lv.1 rfl (Nat.le_of_ble_eq_true rfl) dL_law_351 ⟨Nat.le_refl _, Nat.le_refl _⟩) (fun r x1 xl1 H locs hwp I => ?_)
  obtain ⟨rfl, hwp⟩ := hwp
  refine lv_aload_n hx hb dL_law_354 rfl (lv_at lv 2 rfl) ?_
  refine lv_aload_n hx hb dL_law_355 rfl (lv_at lv 0 rfl) ?_
  refine lv_iload_n hx hb dL_law_356 rfl (lv_at lv 3 rfl) ?_
  refine lv_iconst (v := (1 : Int32)) hx hb dL_law_357 (by decide) ?_
  refine lv_iadd hx hb dL_law_358 ?_
  refine va_sld hx hb hX hbl hbA I.2.2 g1 dL_law_359 ?_
  refine lv_aload_n hx hb dL_law_360 rfl (lv_at lv 0 rfl) ?_
  refine lv_iload_n hx hb dL_law_361 rfl (lv_at lv 3 rfl) ?_
  refine lv_iconst (v := (2 : Int32)) hx hb dL_law_362 (by decide) ?_
  refine lv_iadd hx hb dL_law_363 ?_
  refine va_sld hx hb hX hbl hbA I.2.2 g2 dL_law_364 ?_
  refine zM_i B I (z_run (n := 2) (As := [.int (xs (v3 + (1 : Int32)).toNatClampNeg), .int (xs (v3 + (2 : Int32)).toNatClampNeg)]) (rest := [.int r]) S B.sm I.2.1 (m_X10_trial EM l y (fun _ _ => 0) (xs (v3 + (1 : Int32)).toNatClampNeg) (xs (v3 + (2 : Int32)).toNatClampNeg) _ hwp) wm_0 rfl n_987 n_984 n_12 n_985 n_986 (by decide +kernel) rfl rfl ⟨Nat.le_of_ble_eq_true rfl, Nat.le_of_ble_eq_true rfl⟩ rfl lv.1 rfl (Nat.le_of_ble_eq_true rfl) dL_law_365 ⟨Nat.le_refl _, Nat.le_refl _⟩) (fun r2 y1 yl1 H locs hwp I => ?_)
  obtain ⟨-, hwp, hRel2⟩ := hwp
  refine lv_icmp_eq (tgt := 1197) hx hb dL_law_368 (by decide) (fun _ => ?_) (fun c1 => absurd hwp c1)
  exact hend x1 xl y1 _ _ _ I hRel2 lv
set_option maxHeartbeats 4000000 in
set_option maxRecDepth 100000 in
theorem law_7 (Rel : Mem → MemL → Mem → Prop) {p : Program} {l : Launch} {e : Env} {s : State} {m : MethodId} {below : List Frame} {meth : Method} {c : Code} {EX EM : xE} {b L : Nat} {xs : Nat → Int32} {v3 : Int32} {Q : State → Prop} (hx : p.tables.exec = Jvm.exec) (hb : c.code = code) (S : CallFix p m c code 4 s #[Value.ref b] lw_big RL) (hX : va_X b L xs s s.heap) (hbl : b < s.heap.size) (hbA : ¬ nA s b) (B : LB EX EM s) (g1 : vp_in (v3 + (1 : Int32)) L) (g2 : vp_in (v3 + (2 : Int32)) L) (g3 : vp_in (v3 + (3 : Int32)) L) (g4 : vp_in (v3 + (4 : Int32)) L) (g5 : vp_in (v3 + (5 : Int32)) L) (hs : s_breach Rel) (hend : ∀ (x : Mem) (xl : MemL) (y : Mem) (H : Heap) (locs : List Loc) (ls : Array Slot), LI EX EM x xl y s H locs → Rel x xl y → lv_has ls 4 [(0, .ref b), (1, .ref (wad (wdX EX) 0)), (2, .ref (wad (wdM EM) 0)), (3, .int v3)] → W p l e room_1 s m #[Value.ref b] below meth c H locs 600000 7302250 Q (F0 m 1197 ls [])) (x : Mem) (xl : MemL) (y : Mem) (H : Heap) (locs : List Loc) (ls : Array Slot) (I : LI EX EM x xl y s H locs) (hRel : Rel x xl y) (lv : lv_has ls 4 [(0, .ref b), (1, .ref (wad (wdX EX) 0)), (2, .ref (wad (wdM EM) 0)), (3, .int v3)]) : W p l e room_1 s m #[Value.ref b] below meth c H locs 600000 7302250 Q (F0 m 373 ls []) := by
  refine lv_aload_n hx hb dL_law_373 rfl (lv_at lv 1 rfl) ?_
  refine lv_aload_n hx hb dL_law_374 rfl (lv_at lv 0 rfl) ?_
  refine lv_iload_n hx hb dL_law_375 rfl (lv_at lv 3 rfl) ?_
  refine lv_iconst (v := (1 : Int32)) hx hb dL_law_376 (by decide) ?_
  refine lv_iadd hx hb dL_law_377 ?_
  refine va_sld hx hb hX hbl hbA I.2.2 g1 dL_law_378 ?_
  refine lv_aload_n hx hb dL_law_379 rfl (lv_at lv 0 rfl) ?_
  refine lv_iload_n hx hb dL_law_380 rfl (lv_at lv 3 rfl) ?_
  refine lv_iconst (v := (2 : Int32)) hx hb dL_law_381 (by decide) ?_
  refine lv_iadd hx hb dL_law_382 ?_
  refine va_sld hx hb hX hbl hbA I.2.2 g2 dL_law_383 ?_
  refine zX_i B I (z_run (n := 2) (As := [.int (xs (v3 + (1 : Int32)).toNatClampNeg), .int (xs (v3 + (2 : Int32)).toNatClampNeg)]) (rest := []) S (B.sx I.2.2) I.1 (m_X9_breach EX l x xl (xs (v3 + (1 : Int32)).toNatClampNeg) (xs (v3 + (2 : Int32)).toNatClampNeg) _ (hs x xl y hRel (xs (v3 + (1 : Int32)).toNatClampNeg) (xs (v3 + (2 : Int32)).toNatClampNeg))) wx_0 rfl n_442 n_439 n_1 n_440 n_441 (by decide +kernel) rfl rfl ⟨Nat.le_of_ble_eq_true rfl, Nat.le_of_ble_eq_true rfl⟩ rfl lv.1 rfl (Nat.le_of_ble_eq_true rfl) dL_law_384 ⟨Nat.le_refl _, Nat.le_refl _⟩) (fun r x1 xl1 H locs hwp I => ?_)
  obtain ⟨rfl, hwp⟩ := hwp
  refine lv_aload_n hx hb dL_law_387 rfl (lv_at lv 2 rfl) ?_
  refine lv_aload_n hx hb dL_law_388 rfl (lv_at lv 0 rfl) ?_
  refine lv_iload_n hx hb dL_law_389 rfl (lv_at lv 3 rfl) ?_
  refine lv_iconst (v := (1 : Int32)) hx hb dL_law_390 (by decide) ?_
  refine lv_iadd hx hb dL_law_391 ?_
  refine va_sld hx hb hX hbl hbA I.2.2 g1 dL_law_392 ?_
  refine lv_aload_n hx hb dL_law_393 rfl (lv_at lv 0 rfl) ?_
  refine lv_iload_n hx hb dL_law_394 rfl (lv_at lv 3 rfl) ?_
  refine lv_iconst (v := (2 : Int32)) hx hb dL_law_395 (by decide) ?_
  refine lv_iadd hx hb dL_law_396 ?_
  refine va_sld hx hb hX hbl hbA I.2.2 g2 dL_law_397 ?_
  refine zM_i B I (z_run (n := 2) (As := [.int (xs (v3 + (1 : Int32)).toNatClampNeg), .int (xs (v3 + (2 : Int32)).toNatClampNeg)]) (rest := [.int r]) S B.sm I.2.1 (m_X10_breach EM l y (fun _ _ => 0) (xs (v3 + (1 : Int32)).toNatClampNeg) (xs (v3 + (2 : Int32)).toNatClampNeg) _ hwp) wm_0 rfl n_996 n_993 n_12 n_994 n_995 (by decide +kernel) rfl rfl ⟨Nat.le_of_ble_eq_true rfl, Nat.le_of_ble_eq_true rfl⟩ rfl lv.1 rfl (Nat.le_of_ble_eq_true rfl) dL_law_398 ⟨Nat.le_refl _, Nat.le_refl _⟩) (fun r2 y1 yl1 H locs hwp I => ?_)
  obtain ⟨-, hwp, hRel2⟩ := hwp
  refine lv_icmp_eq (tgt := 1197) hx hb dL_law_401 (by decide) (fun _ => ?_) (fun c1 => absurd hwp c1)
  exact hend x1 xl y1 _ _ _ I hRel2 lv
set_option maxHeartbeats 4000000 in
set_option maxRecDepth 100000 in
theorem law_8 (Rel : Mem → MemL → Mem → Prop) {p : Program} {l : Launch} {e : Env} {s : State} {m : MethodId} {below : List Frame} {meth : Method} {c : Code} {EX EM : xE} {b L : Nat} {xs : Nat → Int32} {v3 : Int32} {Q : State → Prop} (hx : p.tables.exec = Jvm.exec) (hb : c.code = code) (S : CallFix p m c code 4 s #[Value.ref b] lw_big RL) (hX : va_X b L xs s s.heap) (hbl : b < s.heap.size) (hbA : ¬ nA s b) (B : LB EX EM s) (g1 : vp_in (v3 + (1 : Int32)) L) (g2 : vp_in (v3 + (2 : Int32)) L) (g3 : vp_in (v3 + (3 : Int32)) L) (g4 : vp_in (v3 + (4 : Int32)) L) (g5 : vp_in (v3 + (5 : Int32)) L) (hs : s_back Rel) (hend : ∀ (x : Mem) (xl : MemL) (y : Mem) (H : Heap) (locs : List Loc) (ls : Array Slot), LI EX EM x xl y s H locs → Rel x xl y → lv_has ls 4 [(0, .ref b), (1, .ref (wad (wdX EX) 0)), (2, .ref (wad (wdM EM) 0)), (3, .int v3)] → W p l e room_1 s m #[Value.ref b] below meth c H locs 600000 7302250 Q (F0 m 1197 ls [])) (x : Mem) (xl : MemL) (y : Mem) (H : Heap) (locs : List Loc) (ls : Array Slot) (I : LI EX EM x xl y s H locs) (hRel : Rel x xl y) (lv : lv_has ls 4 [(0, .ref b), (1, .ref (wad (wdX EX) 0)), (2, .ref (wad (wdM EM) 0)), (3, .int v3)]) : W p l e room_1 s m #[Value.ref b] below meth c H locs 600000 7302250 Q (F0 m 406 ls []) := by
  refine lv_aload_n hx hb dL_law_406 rfl (lv_at lv 1 rfl) ?_
  refine lv_aload_n hx hb dL_law_407 rfl (lv_at lv 0 rfl) ?_
  refine lv_iload_n hx hb dL_law_408 rfl (lv_at lv 3 rfl) ?_
  refine lv_iconst (v := (1 : Int32)) hx hb dL_law_409 (by decide) ?_
  refine lv_iadd hx hb dL_law_410 ?_
  refine va_sld hx hb hX hbl hbA I.2.2 g1 dL_law_411 ?_
  refine zX_i B I (z_run (n := 1) (As := [.int (xs (v3 + (1 : Int32)).toNatClampNeg)]) (rest := []) S (B.sx I.2.2) I.1 (m_X9_back EX l x xl (xs (v3 + (1 : Int32)).toNatClampNeg) _ (hs x xl y hRel (xs (v3 + (1 : Int32)).toNatClampNeg))) wx_0 rfl n_446 n_443 n_1 n_444 n_445 (by decide +kernel) rfl rfl ⟨Nat.le_of_ble_eq_true rfl, Nat.le_of_ble_eq_true rfl⟩ rfl lv.1 rfl (Nat.le_of_ble_eq_true rfl) dL_law_412 ⟨Nat.le_refl _, Nat.le_refl _⟩) (fun r x1 xl1 H locs hwp I => ?_)
  obtain ⟨rfl, hwp⟩ := hwp
  refine lv_aload_n hx hb dL_law_415 rfl (lv_at lv 2 rfl) ?_
  refine lv_aload_n hx hb dL_law_416 rfl (lv_at lv 0 rfl) ?_
  refine lv_iload_n hx hb dL_law_417 rfl (lv_at lv 3 rfl) ?_
  refine lv_iconst (v := (1 : Int32)) hx hb dL_law_418 (by decide) ?_
  refine lv_iadd hx hb dL_law_419 ?_
  refine va_sld hx hb hX hbl hbA I.2.2 g1 dL_law_420 ?_
  refine zM_i B I (z_run (n := 1) (As := [.int (xs (v3 + (1 : Int32)).toNatClampNeg)]) (rest := [.int r]) S B.sm I.2.1 (m_X10_back EM l y (fun _ _ => 0) (xs (v3 + (1 : Int32)).toNatClampNeg) _ hwp) wm_0 rfl n_1000 n_997 n_12 n_998 n_999 (by decide +kernel) rfl rfl ⟨Nat.le_of_ble_eq_true rfl, Nat.le_of_ble_eq_true rfl⟩ rfl lv.1 rfl (Nat.le_of_ble_eq_true rfl) dL_law_421 ⟨Nat.le_refl _, Nat.le_refl _⟩) (fun r2 y1 yl1 H locs hwp I => ?_)
  obtain ⟨-, hwp, hRel2⟩ := hwp
  refine lv_icmp_eq (tgt := 1197) hx hb dL_law_424 (by decide) (fun _ => ?_) (fun c1 => absurd hwp c1)
  exact hend x1 xl y1 _ _ _ I hRel2 lv
set_option maxHeartbeats 4000000 in
set_option maxRecDepth 100000 in
theorem law_9 (Rel : Mem → MemL → Mem → Prop) {p : Program} {l : Launch} {e : Env} {s : State} {m : MethodId} {below : List Frame} {meth : Method} {c : Code} {EX EM : xE} {b L : Nat} {xs : Nat → Int32} {v3 : Int32} {Q : State → Prop} (hx : p.tables.exec = Jvm.exec) (hb : c.code = code) (S : CallFix p m c code 4 s #[Value.ref b] lw_big RL) (hX : va_X b L xs s s.heap) (hbl : b < s.heap.size) (hbA : ¬ nA s b) (B : LB EX EM s) (g1 : vp_in (v3 + (1 : Int32)) L) (g2 : vp_in (v3 + (2 : Int32)) L) (g3 : vp_in (v3 + (3 : Int32)) L) (g4 : vp_in (v3 + (4 : Int32)) L) (g5 : vp_in (v3 + (5 : Int32)) L) (hs : s_binds Rel) (hend : ∀ (x : Mem) (xl : MemL) (y : Mem) (H : Heap) (locs : List Loc) (ls : Array Slot), LI EX EM x xl y s H locs → Rel x xl y → lv_has ls 4 [(0, .ref b), (1, .ref (wad (wdX EX) 0)), (2, .ref (wad (wdM EM) 0)), (3, .int v3)] → W p l e room_1 s m #[Value.ref b] below meth c H locs 600000 7302250 Q (F0 m 1197 ls [])) (x : Mem) (xl : MemL) (y : Mem) (H : Heap) (locs : List Loc) (ls : Array Slot) (I : LI EX EM x xl y s H locs) (hRel : Rel x xl y) (lv : lv_has ls 4 [(0, .ref b), (1, .ref (wad (wdX EX) 0)), (2, .ref (wad (wdM EM) 0)), (3, .int v3)]) : W p l e room_1 s m #[Value.ref b] below meth c H locs 600000 7302250 Q (F0 m 429 ls []) := by
  refine lv_aload_n hx hb dL_law_429 rfl (lv_at lv 1 rfl) ?_
  refine lv_aload_n hx hb dL_law_430 rfl (lv_at lv 0 rfl) ?_
  refine lv_iload_n hx hb dL_law_431 rfl (lv_at lv 3 rfl) ?_
  refine lv_iconst (v := (1 : Int32)) hx hb dL_law_432 (by decide) ?_
  refine lv_iadd hx hb dL_law_433 ?_
  refine va_sld hx hb hX hbl hbA I.2.2 g1 dL_law_434 ?_
  refine lv_aload_n hx hb dL_law_435 rfl (lv_at lv 0 rfl) ?_
  refine lv_iload_n hx hb dL_law_436 rfl (lv_at lv 3 rfl) ?_
  refine lv_iconst (v := (2 : Int32)) hx hb dL_law_437 (by decide) ?_
  refine lv_iadd hx hb dL_law_438 ?_
  refine va_sld hx hb hX hbl hbA I.2.2 g2 dL_law_439 ?_
  refine zX_i B I (z_run (n := 2) (As := [.int (xs (v3 + (1 : Int32)).toNatClampNeg), .int (xs (v3 + (2 : Int32)).toNatClampNeg)]) (rest := []) S (B.sx I.2.2) I.1 (m_X9_binds EX l x xl (xs (v3 + (1 : Int32)).toNatClampNeg) (xs (v3 + (2 : Int32)).toNatClampNeg) _ (hs x xl y hRel (xs (v3 + (1 : Int32)).toNatClampNeg) (xs (v3 + (2 : Int32)).toNatClampNeg))) wx_0 rfl n_450 n_447 n_1 n_448 n_449 (by decide +kernel) rfl rfl ⟨Nat.le_of_ble_eq_true rfl, Nat.le_of_ble_eq_true rfl⟩ rfl lv.1 rfl (Nat.le_of_ble_eq_true rfl) dL_law_440 ⟨Nat.le_refl _, Nat.le_refl _⟩) (fun r x1 xl1 H locs hwp I => ?_)
  obtain ⟨rfl, hwp⟩ := hwp
  refine lv_aload_n hx hb dL_law_443 rfl (lv_at lv 2 rfl) ?_
  refine lv_aload_n hx hb dL_law_444 rfl (lv_at lv 0 rfl) ?_
  refine lv_iload_n hx hb dL_law_445 rfl (lv_at lv 3 rfl) ?_
  refine lv_iconst (v := (1 : Int32)) hx hb dL_law_446 (by decide) ?_
  refine lv_iadd hx hb dL_law_447 ?_
  refine va_sld hx hb hX hbl hbA I.2.2 g1 dL_law_448 ?_
  refine lv_aload_n hx hb dL_law_449 rfl (lv_at lv 0 rfl) ?_
  refine lv_iload_n hx hb dL_law_450 rfl (lv_at lv 3 rfl) ?_
  refine lv_iconst (v := (2 : Int32)) hx hb dL_law_451 (by decide) ?_
  refine lv_iadd hx hb dL_law_452 ?_
  refine va_sld hx hb hX hbl hbA I.2.2 g2 dL_law_453 ?_
  refine zM_i B I (z_run (n := 2) (As := [.int (xs (v3 + (1 : Int32)).toNatClampNeg), .int (xs (v3 + (2 : Int32)).toNatClampNeg)]) (rest := [.int r]) S B.sm I.2.1 (m_X10_binds EM l y (fun _ _ => 0) (xs (v3 + (1 : Int32)).toNatClampNeg) (xs (v3 + (2 : Int32)).toNatClampNeg) _ hwp) wm_0 rfl n_1004 n_1001 n_12 n_1002 n_1003 (by decide +kernel) rfl rfl ⟨Nat.le_of_ble_eq_true rfl, Nat.le_of_ble_eq_true rfl⟩ rfl lv.1 rfl (Nat.le_of_ble_eq_true rfl) dL_law_454 ⟨Nat.le_refl _, Nat.le_refl _⟩) (fun r2 y1 yl1 H locs hwp I => ?_)
  obtain ⟨-, hwp, hRel2⟩ := hwp
  refine lv_icmp_eq (tgt := 1197) hx hb dL_law_457 (by decide) (fun _ => ?_) (fun c1 => absurd hwp c1)
  exact hend x1 xl y1 _ _ _ I hRel2 lv
set_option maxHeartbeats 4000000 in
set_option maxRecDepth 100000 in
theorem law_10 (Rel : Mem → MemL → Mem → Prop) {p : Program} {l : Launch} {e : Env} {s : State} {m : MethodId} {below : List Frame} {meth : Method} {c : Code} {EX EM : xE} {b L : Nat} {xs : Nat → Int32} {v3 : Int32} {Q : State → Prop} (hx : p.tables.exec = Jvm.exec) (hb : c.code = code) (S : CallFix p m c code 4 s #[Value.ref b] lw_big RL) (hX : va_X b L xs s s.heap) (hbl : b < s.heap.size) (hbA : ¬ nA s b) (B : LB EX EM s) (g1 : vp_in (v3 + (1 : Int32)) L) (g2 : vp_in (v3 + (2 : Int32)) L) (g3 : vp_in (v3 + (3 : Int32)) L) (g4 : vp_in (v3 + (4 : Int32)) L) (g5 : vp_in (v3 + (5 : Int32)) L) (hs : s_does Rel) (hend : ∀ (x : Mem) (xl : MemL) (y : Mem) (H : Heap) (locs : List Loc) (ls : Array Slot), LI EX EM x xl y s H locs → Rel x xl y → lv_has ls 4 [(0, .ref b), (1, .ref (wad (wdX EX) 0)), (2, .ref (wad (wdM EM) 0)), (3, .int v3)] → W p l e room_1 s m #[Value.ref b] below meth c H locs 600000 7302250 Q (F0 m 1197 ls [])) (x : Mem) (xl : MemL) (y : Mem) (H : Heap) (locs : List Loc) (ls : Array Slot) (I : LI EX EM x xl y s H locs) (hRel : Rel x xl y) (lv : lv_has ls 4 [(0, .ref b), (1, .ref (wad (wdX EX) 0)), (2, .ref (wad (wdM EM) 0)), (3, .int v3)]) : W p l e room_1 s m #[Value.ref b] below meth c H locs 600000 7302250 Q (F0 m 462 ls []) := by
  refine lv_aload_n hx hb dL_law_462 rfl (lv_at lv 1 rfl) ?_
  refine lv_aload_n hx hb dL_law_463 rfl (lv_at lv 0 rfl) ?_
  refine lv_iload_n hx hb dL_law_464 rfl (lv_at lv 3 rfl) ?_
  refine lv_iconst (v := (1 : Int32)) hx hb dL_law_465 (by decide) ?_
  refine lv_iadd hx hb dL_law_466 ?_
  refine va_sld hx hb hX hbl hbA I.2.2 g1 dL_law_467 ?_
  refine lv_aload_n hx hb dL_law_468 rfl (lv_at lv 0 rfl) ?_
  refine lv_iload_n hx hb dL_law_469 rfl (lv_at lv 3 rfl) ?_
  refine lv_iconst (v := (2 : Int32)) hx hb dL_law_470 (by decide) ?_
  refine lv_iadd hx hb dL_law_471 ?_
  refine va_sld hx hb hX hbl hbA I.2.2 g2 dL_law_472 ?_
  refine zX_i B I (z_run (n := 2) (As := [.int (xs (v3 + (1 : Int32)).toNatClampNeg), .int (xs (v3 + (2 : Int32)).toNatClampNeg)]) (rest := []) S (B.sx I.2.2) I.1 (m_X9_does EX l x xl (xs (v3 + (1 : Int32)).toNatClampNeg) (xs (v3 + (2 : Int32)).toNatClampNeg) _ (hs x xl y hRel (xs (v3 + (1 : Int32)).toNatClampNeg) (xs (v3 + (2 : Int32)).toNatClampNeg))) wx_0 rfl n_482 n_479 n_1 n_480 n_481 (by decide +kernel) rfl rfl ⟨Nat.le_of_ble_eq_true rfl, Nat.le_of_ble_eq_true rfl⟩ rfl lv.1 rfl (Nat.le_of_ble_eq_true rfl) dL_law_473 ⟨Nat.le_refl _, Nat.le_refl _⟩) (fun r x1 xl1 H locs hwp I => ?_)
  obtain ⟨rfl, hwp⟩ := hwp
  refine lv_aload_n hx hb dL_law_476 rfl (lv_at lv 2 rfl) ?_
  refine lv_aload_n hx hb dL_law_477 rfl (lv_at lv 0 rfl) ?_
  refine lv_iload_n hx hb dL_law_478 rfl (lv_at lv 3 rfl) ?_
  refine lv_iconst (v := (1 : Int32)) hx hb dL_law_479 (by decide) ?_
  refine lv_iadd hx hb dL_law_480 ?_
  refine va_sld hx hb hX hbl hbA I.2.2 g1 dL_law_481 ?_
  refine lv_aload_n hx hb dL_law_482 rfl (lv_at lv 0 rfl) ?_
  refine lv_iload_n hx hb dL_law_483 rfl (lv_at lv 3 rfl) ?_
  refine lv_iconst (v := (2 : Int32)) hx hb dL_law_484 (by decide) ?_
  refine lv_iadd hx hb dL_law_485 ?_
  refine va_sld hx hb hX hbl hbA I.2.2 g2 dL_law_486 ?_
  refine zM_i B I (z_run (n := 2) (As := [.int (xs (v3 + (1 : Int32)).toNatClampNeg), .int (xs (v3 + (2 : Int32)).toNatClampNeg)]) (rest := [.int r]) S B.sm I.2.1 (m_X10_does EM l y (fun _ _ => 0) (xs (v3 + (1 : Int32)).toNatClampNeg) (xs (v3 + (2 : Int32)).toNatClampNeg) _ hwp) wm_0 rfl n_1028 n_1025 n_12 n_1026 n_1027 (by decide +kernel) rfl rfl ⟨Nat.le_of_ble_eq_true rfl, Nat.le_of_ble_eq_true rfl⟩ rfl lv.1 rfl (Nat.le_of_ble_eq_true rfl) dL_law_487 ⟨Nat.le_refl _, Nat.le_refl _⟩) (fun r2 y1 yl1 H locs hwp I => ?_)
  obtain ⟨-, hwp, hRel2⟩ := hwp
  refine lv_icmp_eq (tgt := 1197) hx hb dL_law_490 (by decide) (fun _ => ?_) (fun c1 => absurd hwp c1)
  exact hend x1 xl y1 _ _ _ I hRel2 lv
set_option maxHeartbeats 4000000 in
set_option maxRecDepth 100000 in
theorem law_11 (Rel : Mem → MemL → Mem → Prop) {p : Program} {l : Launch} {e : Env} {s : State} {m : MethodId} {below : List Frame} {meth : Method} {c : Code} {EX EM : xE} {b L : Nat} {xs : Nat → Int32} {v3 : Int32} {Q : State → Prop} (hx : p.tables.exec = Jvm.exec) (hb : c.code = code) (S : CallFix p m c code 4 s #[Value.ref b] lw_big RL) (hX : va_X b L xs s s.heap) (hbl : b < s.heap.size) (hbA : ¬ nA s b) (B : LB EX EM s) (g1 : vp_in (v3 + (1 : Int32)) L) (g2 : vp_in (v3 + (2 : Int32)) L) (g3 : vp_in (v3 + (3 : Int32)) L) (g4 : vp_in (v3 + (4 : Int32)) L) (g5 : vp_in (v3 + (5 : Int32)) L) (hs : s_joy Rel) (hend : ∀ (x : Mem) (xl : MemL) (y : Mem) (H : Heap) (locs : List Loc) (ls : Array Slot), LI EX EM x xl y s H locs → Rel x xl y → lv_has ls 4 [(0, .ref b), (1, .ref (wad (wdX EX) 0)), (2, .ref (wad (wdM EM) 0)), (3, .int v3)] → W p l e room_1 s m #[Value.ref b] below meth c H locs 600000 7302250 Q (F0 m 1197 ls [])) (x : Mem) (xl : MemL) (y : Mem) (H : Heap) (locs : List Loc) (ls : Array Slot) (I : LI EX EM x xl y s H locs) (hRel : Rel x xl y) (lv : lv_has ls 4 [(0, .ref b), (1, .ref (wad (wdX EX) 0)), (2, .ref (wad (wdM EM) 0)), (3, .int v3)]) : W p l e room_1 s m #[Value.ref b] below meth c H locs 600000 7302250 Q (F0 m 495 ls []) := by
  refine lv_aload_n hx hb dL_law_495 rfl (lv_at lv 1 rfl) ?_
  refine lv_aload_n hx hb dL_law_496 rfl (lv_at lv 0 rfl) ?_
  refine lv_iload_n hx hb dL_law_497 rfl (lv_at lv 3 rfl) ?_
  refine lv_iconst (v := (1 : Int32)) hx hb dL_law_498 (by decide) ?_
  refine lv_iadd hx hb dL_law_499 ?_
  refine va_sld hx hb hX hbl hbA I.2.2 g1 dL_law_500 ?_
  refine lv_aload_n hx hb dL_law_501 rfl (lv_at lv 0 rfl) ?_
  refine lv_iload_n hx hb dL_law_502 rfl (lv_at lv 3 rfl) ?_
  refine lv_iconst (v := (2 : Int32)) hx hb dL_law_503 (by decide) ?_
  refine lv_iadd hx hb dL_law_504 ?_
  refine va_sld hx hb hX hbl hbA I.2.2 g2 dL_law_505 ?_
  refine zX_i B I (z_run (n := 2) (As := [.int (xs (v3 + (1 : Int32)).toNatClampNeg), .int (xs (v3 + (2 : Int32)).toNatClampNeg)]) (rest := []) S (B.sx I.2.2) I.1 (m_X9_joy EX l x xl (xs (v3 + (1 : Int32)).toNatClampNeg) (xs (v3 + (2 : Int32)).toNatClampNeg) _ (hs x xl y hRel (xs (v3 + (1 : Int32)).toNatClampNeg) (xs (v3 + (2 : Int32)).toNatClampNeg))) wx_0 rfl n_494 n_491 n_1 n_492 n_493 (by decide +kernel) rfl rfl ⟨Nat.le_of_ble_eq_true rfl, Nat.le_of_ble_eq_true rfl⟩ rfl lv.1 rfl (Nat.le_of_ble_eq_true rfl) dL_law_506 ⟨Nat.le_refl _, Nat.le_refl _⟩) (fun r x1 xl1 H locs hwp I => ?_)
  obtain ⟨rfl, hwp⟩ := hwp
  refine lv_aload_n hx hb dL_law_509 rfl (lv_at lv 2 rfl) ?_
  refine lv_aload_n hx hb dL_law_510 rfl (lv_at lv 0 rfl) ?_
  refine lv_iload_n hx hb dL_law_511 rfl (lv_at lv 3 rfl) ?_
  refine lv_iconst (v := (1 : Int32)) hx hb dL_law_512 (by decide) ?_
  refine lv_iadd hx hb dL_law_513 ?_
  refine va_sld hx hb hX hbl hbA I.2.2 g1 dL_law_514 ?_
  refine lv_aload_n hx hb dL_law_515 rfl (lv_at lv 0 rfl) ?_
  refine lv_iload_n hx hb dL_law_516 rfl (lv_at lv 3 rfl) ?_
  refine lv_iconst (v := (2 : Int32)) hx hb dL_law_517 (by decide) ?_
  refine lv_iadd hx hb dL_law_518 ?_
  refine va_sld hx hb hX hbl hbA I.2.2 g2 dL_law_519 ?_
  refine zM_i B I (z_run (n := 2) (As := [.int (xs (v3 + (1 : Int32)).toNatClampNeg), .int (xs (v3 + (2 : Int32)).toNatClampNeg)]) (rest := [.int r]) S B.sm I.2.1 (m_X10_joy EM l y (fun _ _ => 0) (xs (v3 + (1 : Int32)).toNatClampNeg) (xs (v3 + (2 : Int32)).toNatClampNeg) _ hwp) wm_0 rfl n_1054 n_1051 n_12 n_1052 n_1053 (by decide +kernel) rfl rfl ⟨Nat.le_of_ble_eq_true rfl, Nat.le_of_ble_eq_true rfl⟩ rfl lv.1 rfl (Nat.le_of_ble_eq_true rfl) dL_law_520 ⟨Nat.le_refl _, Nat.le_refl _⟩) (fun r2 y1 yl1 H locs hwp I => ?_)
  obtain ⟨-, hwp, hRel2⟩ := hwp
  refine lv_icmp_eq (tgt := 1197) hx hb dL_law_523 (by decide) (fun _ => ?_) (fun c1 => absurd hwp c1)
  exact hend x1 xl y1 _ _ _ I hRel2 lv
set_option maxHeartbeats 4000000 in
set_option maxRecDepth 100000 in
theorem law_12 (Rel : Mem → MemL → Mem → Prop) {p : Program} {l : Launch} {e : Env} {s : State} {m : MethodId} {below : List Frame} {meth : Method} {c : Code} {EX EM : xE} {b L : Nat} {xs : Nat → Int32} {v3 : Int32} {Q : State → Prop} (hx : p.tables.exec = Jvm.exec) (hb : c.code = code) (S : CallFix p m c code 4 s #[Value.ref b] lw_big RL) (hX : va_X b L xs s s.heap) (hbl : b < s.heap.size) (hbA : ¬ nA s b) (B : LB EX EM s) (g1 : vp_in (v3 + (1 : Int32)) L) (g2 : vp_in (v3 + (2 : Int32)) L) (g3 : vp_in (v3 + (3 : Int32)) L) (g4 : vp_in (v3 + (4 : Int32)) L) (g5 : vp_in (v3 + (5 : Int32)) L) (hs : s_quarrels Rel) (hend : ∀ (x : Mem) (xl : MemL) (y : Mem) (H : Heap) (locs : List Loc) (ls : Array Slot), LI EX EM x xl y s H locs → Rel x xl y → lv_has ls 4 [(0, .ref b), (1, .ref (wad (wdX EX) 0)), (2, .ref (wad (wdM EM) 0)), (3, .int v3)] → W p l e room_1 s m #[Value.ref b] below meth c H locs 600000 7302250 Q (F0 m 1197 ls [])) (x : Mem) (xl : MemL) (y : Mem) (H : Heap) (locs : List Loc) (ls : Array Slot) (I : LI EX EM x xl y s H locs) (hRel : Rel x xl y) (lv : lv_has ls 4 [(0, .ref b), (1, .ref (wad (wdX EX) 0)), (2, .ref (wad (wdM EM) 0)), (3, .int v3)]) : W p l e room_1 s m #[Value.ref b] below meth c H locs 600000 7302250 Q (F0 m 528 ls []) := by
  refine lv_aload_n hx hb dL_law_528 rfl (lv_at lv 1 rfl) ?_
  refine lv_aload_n hx hb dL_law_529 rfl (lv_at lv 0 rfl) ?_
  refine lv_iload_n hx hb dL_law_530 rfl (lv_at lv 3 rfl) ?_
  refine lv_iconst (v := (1 : Int32)) hx hb dL_law_531 (by decide) ?_
  refine lv_iadd hx hb dL_law_532 ?_
  refine va_sld hx hb hX hbl hbA I.2.2 g1 dL_law_533 ?_
  refine lv_aload_n hx hb dL_law_534 rfl (lv_at lv 0 rfl) ?_
  refine lv_iload_n hx hb dL_law_535 rfl (lv_at lv 3 rfl) ?_
  refine lv_iconst (v := (2 : Int32)) hx hb dL_law_536 (by decide) ?_
  refine lv_iadd hx hb dL_law_537 ?_
  refine va_sld hx hb hX hbl hbA I.2.2 g2 dL_law_538 ?_
  refine zX_i B I (z_run (n := 2) (As := [.int (xs (v3 + (1 : Int32)).toNatClampNeg), .int (xs (v3 + (2 : Int32)).toNatClampNeg)]) (rest := []) S (B.sx I.2.2) I.1 (m_X9_quarrels EX l x xl (xs (v3 + (1 : Int32)).toNatClampNeg) (xs (v3 + (2 : Int32)).toNatClampNeg) _ (hs x xl y hRel (xs (v3 + (1 : Int32)).toNatClampNeg) (xs (v3 + (2 : Int32)).toNatClampNeg))) wx_0 rfl n_507 n_504 n_1 n_505 n_506 (by decide +kernel) rfl rfl ⟨Nat.le_of_ble_eq_true rfl, Nat.le_of_ble_eq_true rfl⟩ rfl lv.1 rfl (Nat.le_of_ble_eq_true rfl) dL_law_539 ⟨Nat.le_refl _, Nat.le_refl _⟩) (fun r x1 xl1 H locs hwp I => ?_)
  obtain ⟨rfl, hwp⟩ := hwp
  refine lv_aload_n hx hb dL_law_542 rfl (lv_at lv 2 rfl) ?_
  refine lv_aload_n hx hb dL_law_543 rfl (lv_at lv 0 rfl) ?_
  refine lv_iload_n hx hb dL_law_544 rfl (lv_at lv 3 rfl) ?_
  refine lv_iconst (v := (1 : Int32)) hx hb dL_law_545 (by decide) ?_
  refine lv_iadd hx hb dL_law_546 ?_
  refine va_sld hx hb hX hbl hbA I.2.2 g1 dL_law_547 ?_
  refine lv_aload_n hx hb dL_law_548 rfl (lv_at lv 0 rfl) ?_
  refine lv_iload_n hx hb dL_law_549 rfl (lv_at lv 3 rfl) ?_
  refine lv_iconst (v := (2 : Int32)) hx hb dL_law_550 (by decide) ?_
  refine lv_iadd hx hb dL_law_551 ?_
  refine va_sld hx hb hX hbl hbA I.2.2 g2 dL_law_552 ?_
  refine zM_i B I (z_run (n := 2) (As := [.int (xs (v3 + (1 : Int32)).toNatClampNeg), .int (xs (v3 + (2 : Int32)).toNatClampNeg)]) (rest := [.int r]) S B.sm I.2.1 (m_X10_quarrels EM l y (fun _ _ => 0) (xs (v3 + (1 : Int32)).toNatClampNeg) (xs (v3 + (2 : Int32)).toNatClampNeg) _ hwp) wm_0 rfl n_1071 n_1068 n_12 n_1069 n_1070 (by decide +kernel) rfl rfl ⟨Nat.le_of_ble_eq_true rfl, Nat.le_of_ble_eq_true rfl⟩ rfl lv.1 rfl (Nat.le_of_ble_eq_true rfl) dL_law_553 ⟨Nat.le_refl _, Nat.le_refl _⟩) (fun r2 y1 yl1 H locs hwp I => ?_)
  obtain ⟨-, hwp, hRel2⟩ := hwp
  refine lv_icmp_eq (tgt := 1197) hx hb dL_law_556 (by decide) (fun _ => ?_) (fun c1 => absurd hwp c1)
  exact hend x1 xl y1 _ _ _ I hRel2 lv
set_option maxHeartbeats 4000000 in
set_option maxRecDepth 100000 in
theorem law_13 (Rel : Mem → MemL → Mem → Prop) {p : Program} {l : Launch} {e : Env} {s : State} {m : MethodId} {below : List Frame} {meth : Method} {c : Code} {EX EM : xE} {b L : Nat} {xs : Nat → Int32} {v3 : Int32} {Q : State → Prop} (hx : p.tables.exec = Jvm.exec) (hb : c.code = code) (S : CallFix p m c code 4 s #[Value.ref b] lw_big RL) (hX : va_X b L xs s s.heap) (hbl : b < s.heap.size) (hbA : ¬ nA s b) (B : LB EX EM s) (g1 : vp_in (v3 + (1 : Int32)) L) (g2 : vp_in (v3 + (2 : Int32)) L) (g3 : vp_in (v3 + (3 : Int32)) L) (g4 : vp_in (v3 + (4 : Int32)) L) (g5 : vp_in (v3 + (5 : Int32)) L) (hs : s_exempt Rel) (hend : ∀ (x : Mem) (xl : MemL) (y : Mem) (H : Heap) (locs : List Loc) (ls : Array Slot), LI EX EM x xl y s H locs → Rel x xl y → lv_has ls 4 [(0, .ref b), (1, .ref (wad (wdX EX) 0)), (2, .ref (wad (wdM EM) 0)), (3, .int v3)] → W p l e room_1 s m #[Value.ref b] below meth c H locs 600000 7302250 Q (F0 m 1197 ls [])) (x : Mem) (xl : MemL) (y : Mem) (H : Heap) (locs : List Loc) (ls : Array Slot) (I : LI EX EM x xl y s H locs) (hRel : Rel x xl y) (lv : lv_has ls 4 [(0, .ref b), (1, .ref (wad (wdX EX) 0)), (2, .ref (wad (wdM EM) 0)), (3, .int v3)]) : W p l e room_1 s m #[Value.ref b] below meth c H locs 600000 7302250 Q (F0 m 561 ls []) := by
  refine lv_aload_n hx hb dL_law_561 rfl (lv_at lv 1 rfl) ?_
  refine lv_aload_n hx hb dL_law_562 rfl (lv_at lv 0 rfl) ?_
  refine lv_iload_n hx hb dL_law_563 rfl (lv_at lv 3 rfl) ?_
  refine lv_iconst (v := (1 : Int32)) hx hb dL_law_564 (by decide) ?_
  refine lv_iadd hx hb dL_law_565 ?_
  refine va_sld hx hb hX hbl hbA I.2.2 g1 dL_law_566 ?_
  refine lv_aload_n hx hb dL_law_567 rfl (lv_at lv 0 rfl) ?_
  refine lv_iload_n hx hb dL_law_568 rfl (lv_at lv 3 rfl) ?_
  refine lv_iconst (v := (2 : Int32)) hx hb dL_law_569 (by decide) ?_
  refine lv_iadd hx hb dL_law_570 ?_
  refine va_sld hx hb hX hbl hbA I.2.2 g2 dL_law_571 ?_
  refine lv_aload_n hx hb dL_law_572 rfl (lv_at lv 0 rfl) ?_
  refine lv_iload_n hx hb dL_law_573 rfl (lv_at lv 3 rfl) ?_
  refine lv_iconst (v := (3 : Int32)) hx hb dL_law_574 (by decide) ?_
  refine lv_iadd hx hb dL_law_575 ?_
  refine va_sld hx hb hX hbl hbA I.2.2 g3 dL_law_576 ?_
  refine lv_aload_n hx hb dL_law_577 rfl (lv_at lv 0 rfl) ?_
  refine lv_iload_n hx hb dL_law_578 rfl (lv_at lv 3 rfl) ?_
  refine lv_iconst (v := (4 : Int32)) hx hb dL_law_579 (by decide) ?_
  refine lv_iadd hx hb dL_law_580 ?_
  refine va_sld hx hb hX hbl hbA I.2.2 g4 dL_law_581 ?_
  refine zX_i B I (z_run (n := 4) (As := [.int (xs (v3 + (1 : Int32)).toNatClampNeg), .int (xs (v3 + (2 : Int32)).toNatClampNeg), .int (xs (v3 + (3 : Int32)).toNatClampNeg), .int (xs (v3 + (4 : Int32)).toNatClampNeg)]) (rest := []) S (B.sx I.2.2) I.1 (m_X9_exempt EX l x xl (xs (v3 + (1 : Int32)).toNatClampNeg) (xs (v3 + (2 : Int32)).toNatClampNeg) (xs (v3 + (3 : Int32)).toNatClampNeg) (xs (v3 + (4 : Int32)).toNatClampNeg) _ (hs x xl y hRel (xs (v3 + (1 : Int32)).toNatClampNeg) (xs (v3 + (2 : Int32)).toNatClampNeg) (xs (v3 + (3 : Int32)).toNatClampNeg) (xs (v3 + (4 : Int32)).toNatClampNeg))) wx_0 rfl n_529 n_526 n_1 n_527 n_528 (by decide +kernel) rfl rfl ⟨Nat.le_of_ble_eq_true rfl, Nat.le_of_ble_eq_true rfl⟩ rfl lv.1 rfl (Nat.le_of_ble_eq_true rfl) dL_law_582 ⟨Nat.le_refl _, Nat.le_refl _⟩) (fun r x1 xl1 H locs hwp I => ?_)
  obtain ⟨rfl, hwp⟩ := hwp
  refine lv_aload_n hx hb dL_law_585 rfl (lv_at lv 2 rfl) ?_
  refine lv_aload_n hx hb dL_law_586 rfl (lv_at lv 0 rfl) ?_
  refine lv_iload_n hx hb dL_law_587 rfl (lv_at lv 3 rfl) ?_
  refine lv_iconst (v := (1 : Int32)) hx hb dL_law_588 (by decide) ?_
  refine lv_iadd hx hb dL_law_589 ?_
  refine va_sld hx hb hX hbl hbA I.2.2 g1 dL_law_590 ?_
  refine lv_aload_n hx hb dL_law_591 rfl (lv_at lv 0 rfl) ?_
  refine lv_iload_n hx hb dL_law_592 rfl (lv_at lv 3 rfl) ?_
  refine lv_iconst (v := (2 : Int32)) hx hb dL_law_593 (by decide) ?_
  refine lv_iadd hx hb dL_law_594 ?_
  refine va_sld hx hb hX hbl hbA I.2.2 g2 dL_law_595 ?_
  refine lv_aload_n hx hb dL_law_596 rfl (lv_at lv 0 rfl) ?_
  refine lv_iload_n hx hb dL_law_597 rfl (lv_at lv 3 rfl) ?_
  refine lv_iconst (v := (3 : Int32)) hx hb dL_law_598 (by decide) ?_
  refine lv_iadd hx hb dL_law_599 ?_
  refine va_sld hx hb hX hbl hbA I.2.2 g3 dL_law_600 ?_
  refine lv_aload_n hx hb dL_law_601 rfl (lv_at lv 0 rfl) ?_
  refine lv_iload_n hx hb dL_law_602 rfl (lv_at lv 3 rfl) ?_
  refine lv_iconst (v := (4 : Int32)) hx hb dL_law_603 (by decide) ?_
  refine lv_iadd hx hb dL_law_604 ?_
  refine va_sld hx hb hX hbl hbA I.2.2 g4 dL_law_605 ?_
  refine zM_i B I (z_run (n := 4) (As := [.int (xs (v3 + (1 : Int32)).toNatClampNeg), .int (xs (v3 + (2 : Int32)).toNatClampNeg), .int (xs (v3 + (3 : Int32)).toNatClampNeg), .int (xs (v3 + (4 : Int32)).toNatClampNeg)]) (rest := [.int r]) S B.sm I.2.1 (m_X10_exempt EM l y (fun _ _ => 0) (xs (v3 + (1 : Int32)).toNatClampNeg) (xs (v3 + (2 : Int32)).toNatClampNeg) (xs (v3 + (3 : Int32)).toNatClampNeg) (xs (v3 + (4 : Int32)).toNatClampNeg) _ hwp) wm_0 rfl n_1079 n_1076 n_12 n_1077 n_1078 (by decide +kernel) rfl rfl ⟨Nat.le_of_ble_eq_true rfl, Nat.le_of_ble_eq_true rfl⟩ rfl lv.1 rfl (Nat.le_of_ble_eq_true rfl) dL_law_606 ⟨Nat.le_refl _, Nat.le_refl _⟩) (fun r2 y1 yl1 H locs hwp I => ?_)
  obtain ⟨-, hwp, hRel2⟩ := hwp
  refine lv_icmp_eq (tgt := 1197) hx hb dL_law_609 (by decide) (fun _ => ?_) (fun c1 => absurd hwp c1)
  exact hend x1 xl y1 _ _ _ I hRel2 lv
set_option maxHeartbeats 4000000 in
set_option maxRecDepth 100000 in
theorem law_14 (Rel : Mem → MemL → Mem → Prop) {p : Program} {l : Launch} {e : Env} {s : State} {m : MethodId} {below : List Frame} {meth : Method} {c : Code} {EX EM : xE} {b L : Nat} {xs : Nat → Int32} {v3 : Int32} {Q : State → Prop} (hx : p.tables.exec = Jvm.exec) (hb : c.code = code) (S : CallFix p m c code 4 s #[Value.ref b] lw_big RL) (hX : va_X b L xs s s.heap) (hbl : b < s.heap.size) (hbA : ¬ nA s b) (B : LB EX EM s) (g1 : vp_in (v3 + (1 : Int32)) L) (g2 : vp_in (v3 + (2 : Int32)) L) (g3 : vp_in (v3 + (3 : Int32)) L) (g4 : vp_in (v3 + (4 : Int32)) L) (g5 : vp_in (v3 + (5 : Int32)) L) (hs : s_keep Rel) (hend : ∀ (x : Mem) (xl : MemL) (y : Mem) (H : Heap) (locs : List Loc) (ls : Array Slot), LI EX EM x xl y s H locs → Rel x xl y → lv_has ls 4 [(0, .ref b), (1, .ref (wad (wdX EX) 0)), (2, .ref (wad (wdM EM) 0)), (3, .int v3)] → W p l e room_1 s m #[Value.ref b] below meth c H locs 600000 7302250 Q (F0 m 1197 ls [])) (x : Mem) (xl : MemL) (y : Mem) (H : Heap) (locs : List Loc) (ls : Array Slot) (I : LI EX EM x xl y s H locs) (hRel : Rel x xl y) (lv : lv_has ls 4 [(0, .ref b), (1, .ref (wad (wdX EX) 0)), (2, .ref (wad (wdM EM) 0)), (3, .int v3)]) : W p l e room_1 s m #[Value.ref b] below meth c H locs 600000 7302250 Q (F0 m 614 ls []) := by
  refine lv_aload_n hx hb dL_law_614 rfl (lv_at lv 1 rfl) ?_
  refine lv_aload_n hx hb dL_law_615 rfl (lv_at lv 0 rfl) ?_
  refine lv_iload_n hx hb dL_law_616 rfl (lv_at lv 3 rfl) ?_
  refine lv_iconst (v := (1 : Int32)) hx hb dL_law_617 (by decide) ?_
  refine lv_iadd hx hb dL_law_618 ?_
  refine va_sld hx hb hX hbl hbA I.2.2 g1 dL_law_619 ?_
  refine lv_aload_n hx hb dL_law_620 rfl (lv_at lv 0 rfl) ?_
  refine lv_iload_n hx hb dL_law_621 rfl (lv_at lv 3 rfl) ?_
  refine lv_iconst (v := (2 : Int32)) hx hb dL_law_622 (by decide) ?_
  refine lv_iadd hx hb dL_law_623 ?_
  refine va_sld hx hb hX hbl hbA I.2.2 g2 dL_law_624 ?_
  refine zX_i B I (z_run (n := 2) (As := [.int (xs (v3 + (1 : Int32)).toNatClampNeg), .int (xs (v3 + (2 : Int32)).toNatClampNeg)]) (rest := []) S (B.sx I.2.2) I.1 (m_X9_keep EX l x xl (xs (v3 + (1 : Int32)).toNatClampNeg) (xs (v3 + (2 : Int32)).toNatClampNeg) _ (hs x xl y hRel (xs (v3 + (1 : Int32)).toNatClampNeg) (xs (v3 + (2 : Int32)).toNatClampNeg))) wx_0 rfl n_545 n_542 n_1 n_543 n_544 (by decide +kernel) rfl rfl ⟨Nat.le_of_ble_eq_true rfl, Nat.le_of_ble_eq_true rfl⟩ rfl lv.1 rfl (Nat.le_of_ble_eq_true rfl) dL_law_625 ⟨Nat.le_refl _, Nat.le_refl _⟩) (fun r x1 xl1 H locs hwp I => ?_)
  obtain ⟨rfl, hwp⟩ := hwp
  refine lv_aload_n hx hb dL_law_628 rfl (lv_at lv 2 rfl) ?_
  refine lv_aload_n hx hb dL_law_629 rfl (lv_at lv 0 rfl) ?_
  refine lv_iload_n hx hb dL_law_630 rfl (lv_at lv 3 rfl) ?_
  refine lv_iconst (v := (1 : Int32)) hx hb dL_law_631 (by decide) ?_
  refine lv_iadd hx hb dL_law_632 ?_
  refine va_sld hx hb hX hbl hbA I.2.2 g1 dL_law_633 ?_
  refine lv_aload_n hx hb dL_law_634 rfl (lv_at lv 0 rfl) ?_
  refine lv_iload_n hx hb dL_law_635 rfl (lv_at lv 3 rfl) ?_
  refine lv_iconst (v := (2 : Int32)) hx hb dL_law_636 (by decide) ?_
  refine lv_iadd hx hb dL_law_637 ?_
  refine va_sld hx hb hX hbl hbA I.2.2 g2 dL_law_638 ?_
  refine zM_i B I (z_run (n := 2) (As := [.int (xs (v3 + (1 : Int32)).toNatClampNeg), .int (xs (v3 + (2 : Int32)).toNatClampNeg)]) (rest := [.int r]) S B.sm I.2.1 (m_X10_keep EM l y (fun _ _ => 0) (xs (v3 + (1 : Int32)).toNatClampNeg) (xs (v3 + (2 : Int32)).toNatClampNeg) _ hwp) wm_0 rfl n_1091 n_1088 n_12 n_1089 n_1090 (by decide +kernel) rfl rfl ⟨Nat.le_of_ble_eq_true rfl, Nat.le_of_ble_eq_true rfl⟩ rfl lv.1 rfl (Nat.le_of_ble_eq_true rfl) dL_law_639 ⟨Nat.le_refl _, Nat.le_refl _⟩) (fun r2 y1 yl1 H locs hwp I => ?_)
  obtain ⟨-, hwp, hRel2⟩ := hwp
  refine lv_icmp_eq (tgt := 1197) hx hb dL_law_642 (by decide) (fun _ => ?_) (fun c1 => absurd hwp c1)
  exact hend x1 xl y1 _ _ _ I hRel2 lv
set_option maxHeartbeats 4000000 in
set_option maxRecDepth 100000 in
theorem law_15 (Rel : Mem → MemL → Mem → Prop) {p : Program} {l : Launch} {e : Env} {s : State} {m : MethodId} {below : List Frame} {meth : Method} {c : Code} {EX EM : xE} {b L : Nat} {xs : Nat → Int32} {v3 : Int32} {Q : State → Prop} (hx : p.tables.exec = Jvm.exec) (hb : c.code = code) (S : CallFix p m c code 4 s #[Value.ref b] lw_big RL) (hX : va_X b L xs s s.heap) (hbl : b < s.heap.size) (hbA : ¬ nA s b) (B : LB EX EM s) (g1 : vp_in (v3 + (1 : Int32)) L) (g2 : vp_in (v3 + (2 : Int32)) L) (g3 : vp_in (v3 + (3 : Int32)) L) (g4 : vp_in (v3 + (4 : Int32)) L) (g5 : vp_in (v3 + (5 : Int32)) L) (hs : s_order Rel) (hend : ∀ (x : Mem) (xl : MemL) (y : Mem) (H : Heap) (locs : List Loc) (ls : Array Slot), LI EX EM x xl y s H locs → Rel x xl y → lv_has ls 4 [(0, .ref b), (1, .ref (wad (wdX EX) 0)), (2, .ref (wad (wdM EM) 0)), (3, .int v3)] → W p l e room_1 s m #[Value.ref b] below meth c H locs 600000 7302250 Q (F0 m 1197 ls [])) (x : Mem) (xl : MemL) (y : Mem) (H : Heap) (locs : List Loc) (ls : Array Slot) (I : LI EX EM x xl y s H locs) (hRel : Rel x xl y) (lv : lv_has ls 4 [(0, .ref b), (1, .ref (wad (wdX EX) 0)), (2, .ref (wad (wdM EM) 0)), (3, .int v3)]) : W p l e room_1 s m #[Value.ref b] below meth c H locs 600000 7302250 Q (F0 m 647 ls []) := by
  refine lv_aload_n hx hb dL_law_647 rfl (lv_at lv 1 rfl) ?_
  refine lv_aload_n hx hb dL_law_648 rfl (lv_at lv 0 rfl) ?_
  refine lv_iload_n hx hb dL_law_649 rfl (lv_at lv 3 rfl) ?_
  refine lv_iconst (v := (1 : Int32)) hx hb dL_law_650 (by decide) ?_
  refine lv_iadd hx hb dL_law_651 ?_
  refine va_sld hx hb hX hbl hbA I.2.2 g1 dL_law_652 ?_
  refine lv_aload_n hx hb dL_law_653 rfl (lv_at lv 0 rfl) ?_
  refine lv_iload_n hx hb dL_law_654 rfl (lv_at lv 3 rfl) ?_
  refine lv_iconst (v := (2 : Int32)) hx hb dL_law_655 (by decide) ?_
  refine lv_iadd hx hb dL_law_656 ?_
  refine va_sld hx hb hX hbl hbA I.2.2 g2 dL_law_657 ?_
  refine lv_aload_n hx hb dL_law_658 rfl (lv_at lv 0 rfl) ?_
  refine lv_iload_n hx hb dL_law_659 rfl (lv_at lv 3 rfl) ?_
  refine lv_iconst (v := (3 : Int32)) hx hb dL_law_660 (by decide) ?_
  refine lv_iadd hx hb dL_law_661 ?_
  refine va_sld hx hb hX hbl hbA I.2.2 g3 dL_law_662 ?_
  refine zX_i B I (z_run (n := 3) (As := [.int (xs (v3 + (1 : Int32)).toNatClampNeg), .int (xs (v3 + (2 : Int32)).toNatClampNeg), .int (xs (v3 + (3 : Int32)).toNatClampNeg)]) (rest := []) S (B.sx I.2.2) I.1 (m_X9_order EX l x xl (xs (v3 + (1 : Int32)).toNatClampNeg) (xs (v3 + (2 : Int32)).toNatClampNeg) (xs (v3 + (3 : Int32)).toNatClampNeg) _ (hs x xl y hRel (xs (v3 + (1 : Int32)).toNatClampNeg) (xs (v3 + (2 : Int32)).toNatClampNeg) (xs (v3 + (3 : Int32)).toNatClampNeg))) wx_0 rfl n_564 n_561 n_1 n_562 n_563 (by decide +kernel) rfl rfl ⟨Nat.le_of_ble_eq_true rfl, Nat.le_of_ble_eq_true rfl⟩ rfl lv.1 rfl (Nat.le_of_ble_eq_true rfl) dL_law_663 ⟨Nat.le_refl _, Nat.le_refl _⟩) (fun r x1 xl1 H locs hwp I => ?_)
  obtain ⟨rfl, hwp⟩ := hwp
  refine lv_aload_n hx hb dL_law_666 rfl (lv_at lv 2 rfl) ?_
  refine lv_aload_n hx hb dL_law_667 rfl (lv_at lv 0 rfl) ?_
  refine lv_iload_n hx hb dL_law_668 rfl (lv_at lv 3 rfl) ?_
  refine lv_iconst (v := (1 : Int32)) hx hb dL_law_669 (by decide) ?_
  refine lv_iadd hx hb dL_law_670 ?_
  refine va_sld hx hb hX hbl hbA I.2.2 g1 dL_law_671 ?_
  refine lv_aload_n hx hb dL_law_672 rfl (lv_at lv 0 rfl) ?_
  refine lv_iload_n hx hb dL_law_673 rfl (lv_at lv 3 rfl) ?_
  refine lv_iconst (v := (2 : Int32)) hx hb dL_law_674 (by decide) ?_
  refine lv_iadd hx hb dL_law_675 ?_
  refine va_sld hx hb hX hbl hbA I.2.2 g2 dL_law_676 ?_
  refine lv_aload_n hx hb dL_law_677 rfl (lv_at lv 0 rfl) ?_
  refine lv_iload_n hx hb dL_law_678 rfl (lv_at lv 3 rfl) ?_
  refine lv_iconst (v := (3 : Int32)) hx hb dL_law_679 (by decide) ?_
  refine lv_iadd hx hb dL_law_680 ?_
  refine va_sld hx hb hX hbl hbA I.2.2 g3 dL_law_681 ?_
  refine zM_i B I (z_run (n := 3) (As := [.int (xs (v3 + (1 : Int32)).toNatClampNeg), .int (xs (v3 + (2 : Int32)).toNatClampNeg), .int (xs (v3 + (3 : Int32)).toNatClampNeg)]) (rest := [.int r]) S B.sm I.2.1 (m_X10_order EM l y (fun _ _ => 0) (xs (v3 + (1 : Int32)).toNatClampNeg) (xs (v3 + (2 : Int32)).toNatClampNeg) (xs (v3 + (3 : Int32)).toNatClampNeg) _ hwp) wm_0 rfl n_1099 n_1096 n_12 n_1097 n_1098 (by decide +kernel) rfl rfl ⟨Nat.le_of_ble_eq_true rfl, Nat.le_of_ble_eq_true rfl⟩ rfl lv.1 rfl (Nat.le_of_ble_eq_true rfl) dL_law_682 ⟨Nat.le_refl _, Nat.le_refl _⟩) (fun r2 y1 yl1 H locs hwp I => ?_)
  obtain ⟨-, hwp, hRel2⟩ := hwp
  refine lv_icmp_eq (tgt := 1197) hx hb dL_law_685 (by decide) (fun _ => ?_) (fun c1 => absurd hwp c1)
  exact hend x1 xl y1 _ _ _ I hRel2 lv
set_option maxHeartbeats 4000000 in
set_option maxRecDepth 100000 in
theorem law_16 (Rel : Mem → MemL → Mem → Prop) {p : Program} {l : Launch} {e : Env} {s : State} {m : MethodId} {below : List Frame} {meth : Method} {c : Code} {EX EM : xE} {b L : Nat} {xs : Nat → Int32} {v3 : Int32} {Q : State → Prop} (hx : p.tables.exec = Jvm.exec) (hb : c.code = code) (S : CallFix p m c code 4 s #[Value.ref b] lw_big RL) (hX : va_X b L xs s s.heap) (hbl : b < s.heap.size) (hbA : ¬ nA s b) (B : LB EX EM s) (g1 : vp_in (v3 + (1 : Int32)) L) (g2 : vp_in (v3 + (2 : Int32)) L) (g3 : vp_in (v3 + (3 : Int32)) L) (g4 : vp_in (v3 + (4 : Int32)) L) (g5 : vp_in (v3 + (5 : Int32)) L) (hs : s_seen Rel) (hend : ∀ (x : Mem) (xl : MemL) (y : Mem) (H : Heap) (locs : List Loc) (ls : Array Slot), LI EX EM x xl y s H locs → Rel x xl y → lv_has ls 4 [(0, .ref b), (1, .ref (wad (wdX EX) 0)), (2, .ref (wad (wdM EM) 0)), (3, .int v3)] → W p l e room_1 s m #[Value.ref b] below meth c H locs 600000 7302250 Q (F0 m 1197 ls [])) (x : Mem) (xl : MemL) (y : Mem) (H : Heap) (locs : List Loc) (ls : Array Slot) (I : LI EX EM x xl y s H locs) (hRel : Rel x xl y) (lv : lv_has ls 4 [(0, .ref b), (1, .ref (wad (wdX EX) 0)), (2, .ref (wad (wdM EM) 0)), (3, .int v3)]) : W p l e room_1 s m #[Value.ref b] below meth c H locs 600000 7302250 Q (F0 m 690 ls []) := by
  refine lv_aload_n hx hb dL_law_690 rfl (lv_at lv 1 rfl) ?_
  refine lv_aload_n hx hb dL_law_691 rfl (lv_at lv 0 rfl) ?_
  refine lv_iload_n hx hb dL_law_692 rfl (lv_at lv 3 rfl) ?_
  refine lv_iconst (v := (1 : Int32)) hx hb dL_law_693 (by decide) ?_
  refine lv_iadd hx hb dL_law_694 ?_
  refine va_sld hx hb hX hbl hbA I.2.2 g1 dL_law_695 ?_
  refine lv_aload_n hx hb dL_law_696 rfl (lv_at lv 0 rfl) ?_
  refine lv_iload_n hx hb dL_law_697 rfl (lv_at lv 3 rfl) ?_
  refine lv_iconst (v := (2 : Int32)) hx hb dL_law_698 (by decide) ?_
  refine lv_iadd hx hb dL_law_699 ?_
  refine va_sld hx hb hX hbl hbA I.2.2 g2 dL_law_700 ?_
  refine zX_i B I (z_run (n := 2) (As := [.int (xs (v3 + (1 : Int32)).toNatClampNeg), .int (xs (v3 + (2 : Int32)).toNatClampNeg)]) (rest := []) S (B.sx I.2.2) I.1 (m_X9_seen EX l x xl (xs (v3 + (1 : Int32)).toNatClampNeg) (xs (v3 + (2 : Int32)).toNatClampNeg) _ (hs x xl y hRel (xs (v3 + (1 : Int32)).toNatClampNeg) (xs (v3 + (2 : Int32)).toNatClampNeg))) wx_0 rfl n_588 n_585 n_1 n_586 n_587 (by decide +kernel) rfl rfl ⟨Nat.le_of_ble_eq_true rfl, Nat.le_of_ble_eq_true rfl⟩ rfl lv.1 rfl (Nat.le_of_ble_eq_true rfl) dL_law_701 ⟨Nat.le_refl _, Nat.le_refl _⟩) (fun r x1 xl1 H locs hwp I => ?_)
  obtain ⟨rfl, hwp⟩ := hwp
  refine lv_aload_n hx hb dL_law_704 rfl (lv_at lv 2 rfl) ?_
  refine lv_aload_n hx hb dL_law_705 rfl (lv_at lv 0 rfl) ?_
  refine lv_iload_n hx hb dL_law_706 rfl (lv_at lv 3 rfl) ?_
  refine lv_iconst (v := (1 : Int32)) hx hb dL_law_707 (by decide) ?_
  refine lv_iadd hx hb dL_law_708 ?_
  refine va_sld hx hb hX hbl hbA I.2.2 g1 dL_law_709 ?_
  refine lv_aload_n hx hb dL_law_710 rfl (lv_at lv 0 rfl) ?_
  refine lv_iload_n hx hb dL_law_711 rfl (lv_at lv 3 rfl) ?_
  refine lv_iconst (v := (2 : Int32)) hx hb dL_law_712 (by decide) ?_
  refine lv_iadd hx hb dL_law_713 ?_
  refine va_sld hx hb hX hbl hbA I.2.2 g2 dL_law_714 ?_
  refine zM_i B I (z_run (n := 2) (As := [.int (xs (v3 + (1 : Int32)).toNatClampNeg), .int (xs (v3 + (2 : Int32)).toNatClampNeg)]) (rest := [.int r]) S B.sm I.2.1 (m_X10_seen EM l y (fun _ _ => 0) (xs (v3 + (1 : Int32)).toNatClampNeg) (xs (v3 + (2 : Int32)).toNatClampNeg) _ hwp) wm_0 rfl n_1111 n_1108 n_12 n_1109 n_1110 (by decide +kernel) rfl rfl ⟨Nat.le_of_ble_eq_true rfl, Nat.le_of_ble_eq_true rfl⟩ rfl lv.1 rfl (Nat.le_of_ble_eq_true rfl) dL_law_715 ⟨Nat.le_refl _, Nat.le_refl _⟩) (fun r2 y1 yl1 H locs hwp I => ?_)
  obtain ⟨-, hwp, hRel2⟩ := hwp
  refine lv_icmp_eq (tgt := 1197) hx hb dL_law_718 (by decide) (fun _ => ?_) (fun c1 => absurd hwp c1)
  exact hend x1 xl y1 _ _ _ I hRel2 lv
set_option maxHeartbeats 4000000 in
set_option maxRecDepth 100000 in
theorem law_17 (Rel : Mem → MemL → Mem → Prop) {p : Program} {l : Launch} {e : Env} {s : State} {m : MethodId} {below : List Frame} {meth : Method} {c : Code} {EX EM : xE} {b L : Nat} {xs : Nat → Int32} {v3 : Int32} {Q : State → Prop} (hx : p.tables.exec = Jvm.exec) (hb : c.code = code) (S : CallFix p m c code 4 s #[Value.ref b] lw_big RL) (hX : va_X b L xs s s.heap) (hbl : b < s.heap.size) (hbA : ¬ nA s b) (B : LB EX EM s) (g1 : vp_in (v3 + (1 : Int32)) L) (g2 : vp_in (v3 + (2 : Int32)) L) (g3 : vp_in (v3 + (3 : Int32)) L) (g4 : vp_in (v3 + (4 : Int32)) L) (g5 : vp_in (v3 + (5 : Int32)) L) (hs : s_forget Rel) (hend : ∀ (x : Mem) (xl : MemL) (y : Mem) (H : Heap) (locs : List Loc) (ls : Array Slot), LI EX EM x xl y s H locs → Rel x xl y → lv_has ls 4 [(0, .ref b), (1, .ref (wad (wdX EX) 0)), (2, .ref (wad (wdM EM) 0)), (3, .int v3)] → W p l e room_1 s m #[Value.ref b] below meth c H locs 600000 7302250 Q (F0 m 1197 ls [])) (x : Mem) (xl : MemL) (y : Mem) (H : Heap) (locs : List Loc) (ls : Array Slot) (I : LI EX EM x xl y s H locs) (hRel : Rel x xl y) (lv : lv_has ls 4 [(0, .ref b), (1, .ref (wad (wdX EX) 0)), (2, .ref (wad (wdM EM) 0)), (3, .int v3)]) : W p l e room_1 s m #[Value.ref b] below meth c H locs 600000 7302250 Q (F0 m 723 ls []) := by
  refine lv_aload_n hx hb dL_law_723 rfl (lv_at lv 1 rfl) ?_
  refine zX_i B I (z_run (n := 0) (As := []) (rest := []) S (B.sx I.2.2) I.1 (m_X9_forget EX l x xl  _ (hs x xl y hRel)) wx_0 rfl n_600 n_597 n_1 n_598 n_599 (by decide +kernel) rfl rfl ⟨Nat.le_of_ble_eq_true rfl, Nat.le_of_ble_eq_true rfl⟩ rfl lv.1 rfl (Nat.le_of_ble_eq_true rfl) dL_law_724 ⟨Nat.le_refl _, Nat.le_refl _⟩) (fun r x1 xl1 H locs hwp I => ?_)
  obtain ⟨rfl, hwp⟩ := hwp
  refine lv_aload_n hx hb dL_law_727 rfl (lv_at lv 2 rfl) ?_
  refine zM_i B I (z_run (n := 0) (As := []) (rest := [.int r]) S B.sm I.2.1 (m_X10_forget EM l y (fun _ _ => 0)  _ hwp) wm_0 rfl n_1115 n_1112 n_12 n_1113 n_1114 (by decide +kernel) rfl rfl ⟨Nat.le_of_ble_eq_true rfl, Nat.le_of_ble_eq_true rfl⟩ rfl lv.1 rfl (Nat.le_of_ble_eq_true rfl) dL_law_728 ⟨Nat.le_refl _, Nat.le_refl _⟩) (fun r2 y1 yl1 H locs hwp I => ?_)
  obtain ⟨-, hwp, hRel2⟩ := hwp
  refine lv_icmp_eq (tgt := 1197) hx hb dL_law_731 (by decide) (fun _ => ?_) (fun c1 => absurd hwp c1)
  exact hend x1 xl y1 _ _ _ I hRel2 lv
set_option maxHeartbeats 4000000 in
set_option maxRecDepth 100000 in
theorem law_18 (Rel : Mem → MemL → Mem → Prop) {p : Program} {l : Launch} {e : Env} {s : State} {m : MethodId} {below : List Frame} {meth : Method} {c : Code} {EX EM : xE} {b L : Nat} {xs : Nat → Int32} {v3 : Int32} {Q : State → Prop} (hx : p.tables.exec = Jvm.exec) (hb : c.code = code) (S : CallFix p m c code 4 s #[Value.ref b] lw_big RL) (hX : va_X b L xs s s.heap) (hbl : b < s.heap.size) (hbA : ¬ nA s b) (B : LB EX EM s) (g1 : vp_in (v3 + (1 : Int32)) L) (g2 : vp_in (v3 + (2 : Int32)) L) (g3 : vp_in (v3 + (3 : Int32)) L) (g4 : vp_in (v3 + (4 : Int32)) L) (g5 : vp_in (v3 + (5 : Int32)) L) (hs : s_read Rel) (hend : ∀ (x : Mem) (xl : MemL) (y : Mem) (H : Heap) (locs : List Loc) (ls : Array Slot), LI EX EM x xl y s H locs → Rel x xl y → lv_has ls 4 [(0, .ref b), (1, .ref (wad (wdX EX) 0)), (2, .ref (wad (wdM EM) 0)), (3, .int v3)] → W p l e room_1 s m #[Value.ref b] below meth c H locs 600000 7302250 Q (F0 m 1197 ls [])) (x : Mem) (xl : MemL) (y : Mem) (H : Heap) (locs : List Loc) (ls : Array Slot) (I : LI EX EM x xl y s H locs) (hRel : Rel x xl y) (lv : lv_has ls 4 [(0, .ref b), (1, .ref (wad (wdX EX) 0)), (2, .ref (wad (wdM EM) 0)), (3, .int v3)]) : W p l e room_1 s m #[Value.ref b] below meth c H locs 600000 7302250 Q (F0 m 736 ls []) := by
  refine lv_aload_n hx hb dL_law_736 rfl (lv_at lv 1 rfl) ?_
  refine lv_aload_n hx hb dL_law_737 rfl (lv_at lv 0 rfl) ?_
  refine lv_iload_n hx hb dL_law_738 rfl (lv_at lv 3 rfl) ?_
  refine lv_iconst (v := (1 : Int32)) hx hb dL_law_739 (by decide) ?_
  refine lv_iadd hx hb dL_law_740 ?_
  refine va_sld hx hb hX hbl hbA I.2.2 g1 dL_law_741 ?_
  refine zX_i B I (z_run (n := 1) (As := [.int (xs (v3 + (1 : Int32)).toNatClampNeg)]) (rest := []) S (B.sx I.2.2) I.1 (m_X9_read EX l x xl (xs (v3 + (1 : Int32)).toNatClampNeg) _ (hs x xl y hRel (xs (v3 + (1 : Int32)).toNatClampNeg))) wx_0 rfl n_608 n_605 n_1 n_606 n_607 (by decide +kernel) rfl rfl ⟨Nat.le_of_ble_eq_true rfl, Nat.le_of_ble_eq_true rfl⟩ rfl lv.1 rfl (Nat.le_of_ble_eq_true rfl) dL_law_742 ⟨Nat.le_refl _, Nat.le_refl _⟩) (fun r x1 xl1 H locs hwp I => ?_)
  obtain ⟨rfl, hwp⟩ := hwp
  refine lv_aload_n hx hb dL_law_745 rfl (lv_at lv 2 rfl) ?_
  refine lv_aload_n hx hb dL_law_746 rfl (lv_at lv 0 rfl) ?_
  refine lv_iload_n hx hb dL_law_747 rfl (lv_at lv 3 rfl) ?_
  refine lv_iconst (v := (1 : Int32)) hx hb dL_law_748 (by decide) ?_
  refine lv_iadd hx hb dL_law_749 ?_
  refine va_sld hx hb hX hbl hbA I.2.2 g1 dL_law_750 ?_
  refine zM_i B I (z_run (n := 1) (As := [.int (xs (v3 + (1 : Int32)).toNatClampNeg)]) (rest := [.int r]) S B.sm I.2.1 (m_X10_read EM l y (fun _ _ => 0) (xs (v3 + (1 : Int32)).toNatClampNeg) _ hwp) wm_0 rfl n_1119 n_1116 n_12 n_1117 n_1118 (by decide +kernel) rfl rfl ⟨Nat.le_of_ble_eq_true rfl, Nat.le_of_ble_eq_true rfl⟩ rfl lv.1 rfl (Nat.le_of_ble_eq_true rfl) dL_law_751 ⟨Nat.le_refl _, Nat.le_refl _⟩) (fun r2 y1 yl1 H locs hwp I => ?_)
  obtain ⟨-, hwp, hRel2⟩ := hwp
  refine lv_icmp_eq (tgt := 1197) hx hb dL_law_754 (by decide) (fun _ => ?_) (fun c1 => absurd hwp c1)
  exact hend x1 xl y1 _ _ _ I hRel2 lv
set_option maxHeartbeats 4000000 in
set_option maxRecDepth 100000 in
theorem law_19 (Rel : Mem → MemL → Mem → Prop) {p : Program} {l : Launch} {e : Env} {s : State} {m : MethodId} {below : List Frame} {meth : Method} {c : Code} {EX EM : xE} {b L : Nat} {xs : Nat → Int32} {v3 : Int32} {Q : State → Prop} (hx : p.tables.exec = Jvm.exec) (hb : c.code = code) (S : CallFix p m c code 4 s #[Value.ref b] lw_big RL) (hX : va_X b L xs s s.heap) (hbl : b < s.heap.size) (hbA : ¬ nA s b) (B : LB EX EM s) (g1 : vp_in (v3 + (1 : Int32)) L) (g2 : vp_in (v3 + (2 : Int32)) L) (g3 : vp_in (v3 + (3 : Int32)) L) (g4 : vp_in (v3 + (4 : Int32)) L) (g5 : vp_in (v3 + (5 : Int32)) L) (hs : s_sets Rel) (hend : ∀ (x : Mem) (xl : MemL) (y : Mem) (H : Heap) (locs : List Loc) (ls : Array Slot), LI EX EM x xl y s H locs → Rel x xl y → lv_has ls 4 [(0, .ref b), (1, .ref (wad (wdX EX) 0)), (2, .ref (wad (wdM EM) 0)), (3, .int v3)] → W p l e room_1 s m #[Value.ref b] below meth c H locs 600000 7302250 Q (F0 m 1197 ls [])) (x : Mem) (xl : MemL) (y : Mem) (H : Heap) (locs : List Loc) (ls : Array Slot) (I : LI EX EM x xl y s H locs) (hRel : Rel x xl y) (lv : lv_has ls 4 [(0, .ref b), (1, .ref (wad (wdX EX) 0)), (2, .ref (wad (wdM EM) 0)), (3, .int v3)]) : W p l e room_1 s m #[Value.ref b] below meth c H locs 600000 7302250 Q (F0 m 759 ls []) := by
  refine lv_aload_n hx hb dL_law_759 rfl (lv_at lv 1 rfl) ?_
  refine lv_aload_n hx hb dL_law_760 rfl (lv_at lv 0 rfl) ?_
  refine lv_iload_n hx hb dL_law_761 rfl (lv_at lv 3 rfl) ?_
  refine lv_iconst (v := (1 : Int32)) hx hb dL_law_762 (by decide) ?_
  refine lv_iadd hx hb dL_law_763 ?_
  refine va_sld hx hb hX hbl hbA I.2.2 g1 dL_law_764 ?_
  refine zX_i B I (z_run (n := 1) (As := [.int (xs (v3 + (1 : Int32)).toNatClampNeg)]) (rest := []) S (B.sx I.2.2) I.1 (m_X9_sets EX l x xl (xs (v3 + (1 : Int32)).toNatClampNeg) _ (hs x xl y hRel (xs (v3 + (1 : Int32)).toNatClampNeg))) wx_0 rfl n_621 n_618 n_1 n_619 n_620 (by decide +kernel) rfl rfl ⟨Nat.le_of_ble_eq_true rfl, Nat.le_of_ble_eq_true rfl⟩ rfl lv.1 rfl (Nat.le_of_ble_eq_true rfl) dL_law_765 ⟨Nat.le_refl _, Nat.le_refl _⟩) (fun r x1 xl1 H locs hwp I => ?_)
  obtain ⟨rfl, hwp⟩ := hwp
  refine lv_aload_n hx hb dL_law_768 rfl (lv_at lv 2 rfl) ?_
  refine lv_aload_n hx hb dL_law_769 rfl (lv_at lv 0 rfl) ?_
  refine lv_iload_n hx hb dL_law_770 rfl (lv_at lv 3 rfl) ?_
  refine lv_iconst (v := (1 : Int32)) hx hb dL_law_771 (by decide) ?_
  refine lv_iadd hx hb dL_law_772 ?_
  refine va_sld hx hb hX hbl hbA I.2.2 g1 dL_law_773 ?_
  refine zM_i B I (z_run (n := 1) (As := [.int (xs (v3 + (1 : Int32)).toNatClampNeg)]) (rest := [.int r]) S B.sm I.2.1 (m_X10_sets EM l y (fun _ _ => 0) (xs (v3 + (1 : Int32)).toNatClampNeg) _ hwp) wm_0 rfl n_1124 n_1121 n_12 n_1122 n_1123 (by decide +kernel) rfl rfl ⟨Nat.le_of_ble_eq_true rfl, Nat.le_of_ble_eq_true rfl⟩ rfl lv.1 rfl (Nat.le_of_ble_eq_true rfl) dL_law_774 ⟨Nat.le_refl _, Nat.le_refl _⟩) (fun r2 y1 yl1 H locs hwp I => ?_)
  obtain ⟨-, hwp, hRel2⟩ := hwp
  refine lv_icmp_eq (tgt := 1197) hx hb dL_law_777 (by decide) (fun _ => ?_) (fun c1 => absurd hwp c1)
  exact hend x1 xl y1 _ _ _ I hRel2 lv
set_option maxHeartbeats 4000000 in
set_option maxRecDepth 100000 in
theorem law_20 (Rel : Mem → MemL → Mem → Prop) {p : Program} {l : Launch} {e : Env} {s : State} {m : MethodId} {below : List Frame} {meth : Method} {c : Code} {EX EM : xE} {b L : Nat} {xs : Nat → Int32} {v3 : Int32} {Q : State → Prop} (hx : p.tables.exec = Jvm.exec) (hb : c.code = code) (S : CallFix p m c code 4 s #[Value.ref b] lw_big RL) (hX : va_X b L xs s s.heap) (hbl : b < s.heap.size) (hbA : ¬ nA s b) (B : LB EX EM s) (g1 : vp_in (v3 + (1 : Int32)) L) (g2 : vp_in (v3 + (2 : Int32)) L) (g3 : vp_in (v3 + (3 : Int32)) L) (g4 : vp_in (v3 + (4 : Int32)) L) (g5 : vp_in (v3 + (5 : Int32)) L) (hs : s_watch Rel) (hend : ∀ (x : Mem) (xl : MemL) (y : Mem) (H : Heap) (locs : List Loc) (ls : Array Slot), LI EX EM x xl y s H locs → Rel x xl y → lv_has ls 4 [(0, .ref b), (1, .ref (wad (wdX EX) 0)), (2, .ref (wad (wdM EM) 0)), (3, .int v3)] → W p l e room_1 s m #[Value.ref b] below meth c H locs 600000 7302250 Q (F0 m 1197 ls [])) (x : Mem) (xl : MemL) (y : Mem) (H : Heap) (locs : List Loc) (ls : Array Slot) (I : LI EX EM x xl y s H locs) (hRel : Rel x xl y) (lv : lv_has ls 4 [(0, .ref b), (1, .ref (wad (wdX EX) 0)), (2, .ref (wad (wdM EM) 0)), (3, .int v3)]) : W p l e room_1 s m #[Value.ref b] below meth c H locs 600000 7302250 Q (F0 m 782 ls []) := by
  refine lv_aload_n hx hb dL_law_782 rfl (lv_at lv 1 rfl) ?_
  refine zX_i B I (z_run (n := 0) (As := []) (rest := []) S (B.sx I.2.2) I.1 (m_X9_watch EX l x xl  _ (hs x xl y hRel)) wx_0 rfl n_640 n_637 n_1 n_638 n_639 (by decide +kernel) rfl rfl ⟨Nat.le_of_ble_eq_true rfl, Nat.le_of_ble_eq_true rfl⟩ rfl lv.1 rfl (Nat.le_of_ble_eq_true rfl) dL_law_783 ⟨Nat.le_refl _, Nat.le_refl _⟩) (fun r x1 xl1 H locs hwp I => ?_)
  obtain ⟨rfl, hwp⟩ := hwp
  refine lv_aload_n hx hb dL_law_786 rfl (lv_at lv 2 rfl) ?_
  refine zM_i B I (z_run (n := 0) (As := []) (rest := [.int r]) S B.sm I.2.1 (m_X10_watch EM l y (fun _ _ => 0)  _ hwp) wm_0 rfl n_1136 n_1133 n_12 n_1134 n_1135 (by decide +kernel) rfl rfl ⟨Nat.le_of_ble_eq_true rfl, Nat.le_of_ble_eq_true rfl⟩ rfl lv.1 rfl (Nat.le_of_ble_eq_true rfl) dL_law_787 ⟨Nat.le_refl _, Nat.le_refl _⟩) (fun r2 y1 yl1 H locs hwp I => ?_)
  obtain ⟨-, hwp, hRel2⟩ := hwp
  refine lv_icmp_eq (tgt := 1197) hx hb dL_law_790 (by decide) (fun _ => ?_) (fun c1 => absurd hwp c1)
  exact hend x1 xl y1 _ _ _ I hRel2 lv
set_option maxHeartbeats 4000000 in
set_option maxRecDepth 100000 in
theorem law_21 (Rel : Mem → MemL → Mem → Prop) {p : Program} {l : Launch} {e : Env} {s : State} {m : MethodId} {below : List Frame} {meth : Method} {c : Code} {EX EM : xE} {b L : Nat} {xs : Nat → Int32} {v3 : Int32} {Q : State → Prop} (hx : p.tables.exec = Jvm.exec) (hb : c.code = code) (S : CallFix p m c code 4 s #[Value.ref b] lw_big RL) (hX : va_X b L xs s s.heap) (hbl : b < s.heap.size) (hbA : ¬ nA s b) (B : LB EX EM s) (g1 : vp_in (v3 + (1 : Int32)) L) (g2 : vp_in (v3 + (2 : Int32)) L) (g3 : vp_in (v3 + (3 : Int32)) L) (g4 : vp_in (v3 + (4 : Int32)) L) (g5 : vp_in (v3 + (5 : Int32)) L) (hs : s_gout Rel) (hend : ∀ (x : Mem) (xl : MemL) (y : Mem) (H : Heap) (locs : List Loc) (ls : Array Slot), LI EX EM x xl y s H locs → Rel x xl y → lv_has ls 4 [(0, .ref b), (1, .ref (wad (wdX EX) 0)), (2, .ref (wad (wdM EM) 0)), (3, .int v3)] → W p l e room_1 s m #[Value.ref b] below meth c H locs 600000 7302250 Q (F0 m 1197 ls [])) (x : Mem) (xl : MemL) (y : Mem) (H : Heap) (locs : List Loc) (ls : Array Slot) (I : LI EX EM x xl y s H locs) (hRel : Rel x xl y) (lv : lv_has ls 4 [(0, .ref b), (1, .ref (wad (wdX EX) 0)), (2, .ref (wad (wdM EM) 0)), (3, .int v3)]) : W p l e room_1 s m #[Value.ref b] below meth c H locs 600000 7302250 Q (F0 m 795 ls []) := by
  refine lv_aload_n hx hb dL_law_795 rfl (lv_at lv 1 rfl) ?_
  refine lv_aload_n hx hb dL_law_796 rfl (lv_at lv 0 rfl) ?_
  refine lv_iload_n hx hb dL_law_797 rfl (lv_at lv 3 rfl) ?_
  refine lv_iconst (v := (1 : Int32)) hx hb dL_law_798 (by decide) ?_
  refine lv_iadd hx hb dL_law_799 ?_
  refine va_sld hx hb hX hbl hbA I.2.2 g1 dL_law_800 ?_
  refine lv_aload_n hx hb dL_law_801 rfl (lv_at lv 0 rfl) ?_
  refine lv_iload_n hx hb dL_law_802 rfl (lv_at lv 3 rfl) ?_
  refine lv_iconst (v := (2 : Int32)) hx hb dL_law_803 (by decide) ?_
  refine lv_iadd hx hb dL_law_804 ?_
  refine va_sld hx hb hX hbl hbA I.2.2 g2 dL_law_805 ?_
  refine lv_aload_n hx hb dL_law_806 rfl (lv_at lv 0 rfl) ?_
  refine lv_iload_n hx hb dL_law_807 rfl (lv_at lv 3 rfl) ?_
  refine lv_iconst (v := (3 : Int32)) hx hb dL_law_808 (by decide) ?_
  refine lv_iadd hx hb dL_law_809 ?_
  refine va_sld hx hb hX hbl hbA I.2.2 g3 dL_law_810 ?_
  refine lv_aload_n hx hb dL_law_811 rfl (lv_at lv 0 rfl) ?_
  refine lv_iload_n hx hb dL_law_812 rfl (lv_at lv 3 rfl) ?_
  refine lv_iconst (v := (4 : Int32)) hx hb dL_law_813 (by decide) ?_
  refine lv_iadd hx hb dL_law_814 ?_
  refine va_sld hx hb hX hbl hbA I.2.2 g4 dL_law_815 ?_
  refine lv_aload_n hx hb dL_law_816 rfl (lv_at lv 0 rfl) ?_
  refine lv_iload_n hx hb dL_law_817 rfl (lv_at lv 3 rfl) ?_
  refine lv_iconst (v := (5 : Int32)) hx hb dL_law_818 (by decide) ?_
  refine lv_iadd hx hb dL_law_819 ?_
  refine va_sld hx hb hX hbl hbA I.2.2 g5 dL_law_820 ?_
  refine zX_l B I (z_run (n := 5) (As := [.int (xs (v3 + (1 : Int32)).toNatClampNeg), .int (xs (v3 + (2 : Int32)).toNatClampNeg), .int (xs (v3 + (3 : Int32)).toNatClampNeg), .int (xs (v3 + (4 : Int32)).toNatClampNeg), .int (xs (v3 + (5 : Int32)).toNatClampNeg)]) (rest := []) S (B.sx I.2.2) I.1 (m_X9_gout EX l x xl (xs (v3 + (1 : Int32)).toNatClampNeg) (xs (v3 + (2 : Int32)).toNatClampNeg) (xs (v3 + (3 : Int32)).toNatClampNeg) (xs (v3 + (4 : Int32)).toNatClampNeg) (xs (v3 + (5 : Int32)).toNatClampNeg) _ (hs x xl y hRel (xs (v3 + (1 : Int32)).toNatClampNeg) (xs (v3 + (2 : Int32)).toNatClampNeg) (xs (v3 + (3 : Int32)).toNatClampNeg) (xs (v3 + (4 : Int32)).toNatClampNeg) (xs (v3 + (5 : Int32)).toNatClampNeg))) wx_0 rfl n_665 n_662 n_1 n_663 n_664 (by decide +kernel) rfl rfl ⟨Nat.le_of_ble_eq_true rfl, Nat.le_of_ble_eq_true rfl⟩ rfl lv.1 rfl (Nat.le_of_ble_eq_true rfl) dL_law_821 ⟨Nat.le_refl _, Nat.le_refl _⟩) (fun r x1 xl1 H locs hwp I => ?_)
  refine lv_aload_n hx hb dL_law_824 rfl (lv_at lv 2 rfl) ?_
  refine lv_aload_n hx hb dL_law_825 rfl (lv_at lv 0 rfl) ?_
  refine lv_iload_n hx hb dL_law_826 rfl (lv_at lv 3 rfl) ?_
  refine lv_iconst (v := (1 : Int32)) hx hb dL_law_827 (by decide) ?_
  refine lv_iadd hx hb dL_law_828 ?_
  refine va_sld hx hb hX hbl hbA I.2.2 g1 dL_law_829 ?_
  refine lv_aload_n hx hb dL_law_830 rfl (lv_at lv 0 rfl) ?_
  refine lv_iload_n hx hb dL_law_831 rfl (lv_at lv 3 rfl) ?_
  refine lv_iconst (v := (2 : Int32)) hx hb dL_law_832 (by decide) ?_
  refine lv_iadd hx hb dL_law_833 ?_
  refine va_sld hx hb hX hbl hbA I.2.2 g2 dL_law_834 ?_
  refine lv_aload_n hx hb dL_law_835 rfl (lv_at lv 0 rfl) ?_
  refine lv_iload_n hx hb dL_law_836 rfl (lv_at lv 3 rfl) ?_
  refine lv_iconst (v := (3 : Int32)) hx hb dL_law_837 (by decide) ?_
  refine lv_iadd hx hb dL_law_838 ?_
  refine va_sld hx hb hX hbl hbA I.2.2 g3 dL_law_839 ?_
  refine lv_aload_n hx hb dL_law_840 rfl (lv_at lv 0 rfl) ?_
  refine lv_iload_n hx hb dL_law_841 rfl (lv_at lv 3 rfl) ?_
  refine lv_iconst (v := (4 : Int32)) hx hb dL_law_842 (by decide) ?_
  refine lv_iadd hx hb dL_law_843 ?_
  refine va_sld hx hb hX hbl hbA I.2.2 g4 dL_law_844 ?_
  refine lv_aload_n hx hb dL_law_845 rfl (lv_at lv 0 rfl) ?_
  refine lv_iload_n hx hb dL_law_846 rfl (lv_at lv 3 rfl) ?_
  refine lv_iconst (v := (5 : Int32)) hx hb dL_law_847 (by decide) ?_
  refine lv_iadd hx hb dL_law_848 ?_
  refine va_sld hx hb hX hbl hbA I.2.2 g5 dL_law_849 ?_
  refine zM_l B I (z_run (n := 5) (As := [.int (xs (v3 + (1 : Int32)).toNatClampNeg), .int (xs (v3 + (2 : Int32)).toNatClampNeg), .int (xs (v3 + (3 : Int32)).toNatClampNeg), .int (xs (v3 + (4 : Int32)).toNatClampNeg), .int (xs (v3 + (5 : Int32)).toNatClampNeg)]) (rest := [.long r]) S B.sm I.2.1 (m_X10_gout EM l y (fun _ _ => 0) (xs (v3 + (1 : Int32)).toNatClampNeg) (xs (v3 + (2 : Int32)).toNatClampNeg) (xs (v3 + (3 : Int32)).toNatClampNeg) (xs (v3 + (4 : Int32)).toNatClampNeg) (xs (v3 + (5 : Int32)).toNatClampNeg) _ hwp) wm_0 rfl n_1144 n_1141 n_12 n_1142 n_1143 (by decide +kernel) rfl rfl ⟨Nat.le_of_ble_eq_true rfl, Nat.le_of_ble_eq_true rfl⟩ rfl lv.1 rfl (Nat.le_of_ble_eq_true rfl) dL_law_850 ⟨Nat.le_refl _, Nat.le_refl _⟩) (fun r2 y1 yl1 H locs hwp I => ?_)
  obtain ⟨-, hwp, hRel2⟩ := hwp
  refine W.lcmp hx hb dL_law_853 ?_
  refine lv_if_eq (tgt := 1197) hx hb dL_law_854 (by decide) (fun _ => ?_) (fun c1 => absurd ((lg_cmp_eq _ _).mpr hwp) c1)
  exact hend x1 xl1 y1 _ _ _ I hRel2 lv
set_option maxHeartbeats 4000000 in
set_option maxRecDepth 100000 in
theorem law_22 (Rel : Mem → MemL → Mem → Prop) {p : Program} {l : Launch} {e : Env} {s : State} {m : MethodId} {below : List Frame} {meth : Method} {c : Code} {EX EM : xE} {b L : Nat} {xs : Nat → Int32} {v3 : Int32} {Q : State → Prop} (hx : p.tables.exec = Jvm.exec) (hb : c.code = code) (S : CallFix p m c code 4 s #[Value.ref b] lw_big RL) (hX : va_X b L xs s s.heap) (hbl : b < s.heap.size) (hbA : ¬ nA s b) (B : LB EX EM s) (g1 : vp_in (v3 + (1 : Int32)) L) (g2 : vp_in (v3 + (2 : Int32)) L) (g3 : vp_in (v3 + (3 : Int32)) L) (g4 : vp_in (v3 + (4 : Int32)) L) (g5 : vp_in (v3 + (5 : Int32)) L) (hs : s_years Rel) (hend : ∀ (x : Mem) (xl : MemL) (y : Mem) (H : Heap) (locs : List Loc) (ls : Array Slot), LI EX EM x xl y s H locs → Rel x xl y → lv_has ls 4 [(0, .ref b), (1, .ref (wad (wdX EX) 0)), (2, .ref (wad (wdM EM) 0)), (3, .int v3)] → W p l e room_1 s m #[Value.ref b] below meth c H locs 600000 7302250 Q (F0 m 1197 ls [])) (x : Mem) (xl : MemL) (y : Mem) (H : Heap) (locs : List Loc) (ls : Array Slot) (I : LI EX EM x xl y s H locs) (hRel : Rel x xl y) (lv : lv_has ls 4 [(0, .ref b), (1, .ref (wad (wdX EX) 0)), (2, .ref (wad (wdM EM) 0)), (3, .int v3)]) : W p l e room_1 s m #[Value.ref b] below meth c H locs 600000 7302250 Q (F0 m 859 ls []) := by
  refine lv_aload_n hx hb dL_law_859 rfl (lv_at lv 1 rfl) ?_
  refine lv_aload_n hx hb dL_law_860 rfl (lv_at lv 0 rfl) ?_
  refine lv_iload_n hx hb dL_law_861 rfl (lv_at lv 3 rfl) ?_
  refine lv_iconst (v := (1 : Int32)) hx hb dL_law_862 (by decide) ?_
  refine lv_iadd hx hb dL_law_863 ?_
  refine va_sld hx hb hX hbl hbA I.2.2 g1 dL_law_864 ?_
  refine lv_aload_n hx hb dL_law_865 rfl (lv_at lv 0 rfl) ?_
  refine lv_iload_n hx hb dL_law_866 rfl (lv_at lv 3 rfl) ?_
  refine lv_iconst (v := (2 : Int32)) hx hb dL_law_867 (by decide) ?_
  refine lv_iadd hx hb dL_law_868 ?_
  refine va_sld hx hb hX hbl hbA I.2.2 g2 dL_law_869 ?_
  refine lv_aload_n hx hb dL_law_870 rfl (lv_at lv 0 rfl) ?_
  refine lv_iload_n hx hb dL_law_871 rfl (lv_at lv 3 rfl) ?_
  refine lv_iconst (v := (3 : Int32)) hx hb dL_law_872 (by decide) ?_
  refine lv_iadd hx hb dL_law_873 ?_
  refine va_sld hx hb hX hbl hbA I.2.2 g3 dL_law_874 ?_
  refine zX_i B I (z_run (n := 3) (As := [.int (xs (v3 + (1 : Int32)).toNatClampNeg), .int (xs (v3 + (2 : Int32)).toNatClampNeg), .int (xs (v3 + (3 : Int32)).toNatClampNeg)]) (rest := []) S (B.sx I.2.2) I.1 (m_X9_years EX l x xl (xs (v3 + (1 : Int32)).toNatClampNeg) (xs (v3 + (2 : Int32)).toNatClampNeg) (xs (v3 + (3 : Int32)).toNatClampNeg) _ (hs x xl y hRel (xs (v3 + (1 : Int32)).toNatClampNeg) (xs (v3 + (2 : Int32)).toNatClampNeg) (xs (v3 + (3 : Int32)).toNatClampNeg))) wx_0 rfl n_716 n_713 n_1 n_714 n_715 (by decide +kernel) rfl rfl ⟨Nat.le_of_ble_eq_true rfl, Nat.le_of_ble_eq_true rfl⟩ rfl lv.1 rfl (Nat.le_of_ble_eq_true rfl) dL_law_875 ⟨Nat.le_refl _, Nat.le_refl _⟩) (fun r x1 xl1 H locs hwp I => ?_)
  obtain ⟨rfl, hwp⟩ := hwp
  refine lv_aload_n hx hb dL_law_878 rfl (lv_at lv 2 rfl) ?_
  refine lv_aload_n hx hb dL_law_879 rfl (lv_at lv 0 rfl) ?_
  refine lv_iload_n hx hb dL_law_880 rfl (lv_at lv 3 rfl) ?_
  refine lv_iconst (v := (1 : Int32)) hx hb dL_law_881 (by decide) ?_
  refine lv_iadd hx hb dL_law_882 ?_
  refine va_sld hx hb hX hbl hbA I.2.2 g1 dL_law_883 ?_
  refine lv_aload_n hx hb dL_law_884 rfl (lv_at lv 0 rfl) ?_
  refine lv_iload_n hx hb dL_law_885 rfl (lv_at lv 3 rfl) ?_
  refine lv_iconst (v := (2 : Int32)) hx hb dL_law_886 (by decide) ?_
  refine lv_iadd hx hb dL_law_887 ?_
  refine va_sld hx hb hX hbl hbA I.2.2 g2 dL_law_888 ?_
  refine lv_aload_n hx hb dL_law_889 rfl (lv_at lv 0 rfl) ?_
  refine lv_iload_n hx hb dL_law_890 rfl (lv_at lv 3 rfl) ?_
  refine lv_iconst (v := (3 : Int32)) hx hb dL_law_891 (by decide) ?_
  refine lv_iadd hx hb dL_law_892 ?_
  refine va_sld hx hb hX hbl hbA I.2.2 g3 dL_law_893 ?_
  refine zM_i B I (z_run (n := 3) (As := [.int (xs (v3 + (1 : Int32)).toNatClampNeg), .int (xs (v3 + (2 : Int32)).toNatClampNeg), .int (xs (v3 + (3 : Int32)).toNatClampNeg)]) (rest := [.int r]) S B.sm I.2.1 (m_X10_years EM l y (fun _ _ => 0) (xs (v3 + (1 : Int32)).toNatClampNeg) (xs (v3 + (2 : Int32)).toNatClampNeg) (xs (v3 + (3 : Int32)).toNatClampNeg) _ hwp) wm_0 rfl n_1161 n_1158 n_12 n_1159 n_1160 (by decide +kernel) rfl rfl ⟨Nat.le_of_ble_eq_true rfl, Nat.le_of_ble_eq_true rfl⟩ rfl lv.1 rfl (Nat.le_of_ble_eq_true rfl) dL_law_894 ⟨Nat.le_refl _, Nat.le_refl _⟩) (fun r2 y1 yl1 H locs hwp I => ?_)
  obtain ⟨-, hwp, hRel2⟩ := hwp
  refine lv_icmp_eq (tgt := 1197) hx hb dL_law_897 (by decide) (fun _ => ?_) (fun c1 => absurd hwp c1)
  exact hend x1 xl y1 _ _ _ I hRel2 lv
set_option maxHeartbeats 4000000 in
set_option maxRecDepth 100000 in
theorem law_23 (Rel : Mem → MemL → Mem → Prop) {p : Program} {l : Launch} {e : Env} {s : State} {m : MethodId} {below : List Frame} {meth : Method} {c : Code} {EX EM : xE} {b L : Nat} {xs : Nat → Int32} {v3 : Int32} {Q : State → Prop} (hx : p.tables.exec = Jvm.exec) (hb : c.code = code) (S : CallFix p m c code 4 s #[Value.ref b] lw_big RL) (hX : va_X b L xs s s.heap) (hbl : b < s.heap.size) (hbA : ¬ nA s b) (B : LB EX EM s) (g1 : vp_in (v3 + (1 : Int32)) L) (g2 : vp_in (v3 + (2 : Int32)) L) (g3 : vp_in (v3 + (3 : Int32)) L) (g4 : vp_in (v3 + (4 : Int32)) L) (g5 : vp_in (v3 + (5 : Int32)) L) (hs : s_sheet Rel) (hend : ∀ (x : Mem) (xl : MemL) (y : Mem) (H : Heap) (locs : List Loc) (ls : Array Slot), LI EX EM x xl y s H locs → Rel x xl y → lv_has ls 4 [(0, .ref b), (1, .ref (wad (wdX EX) 0)), (2, .ref (wad (wdM EM) 0)), (3, .int v3)] → W p l e room_1 s m #[Value.ref b] below meth c H locs 600000 7302250 Q (F0 m 1197 ls [])) (x : Mem) (xl : MemL) (y : Mem) (H : Heap) (locs : List Loc) (ls : Array Slot) (I : LI EX EM x xl y s H locs) (hRel : Rel x xl y) (lv : lv_has ls 4 [(0, .ref b), (1, .ref (wad (wdX EX) 0)), (2, .ref (wad (wdM EM) 0)), (3, .int v3)]) : W p l e room_1 s m #[Value.ref b] below meth c H locs 600000 7302250 Q (F0 m 902 ls []) := by
  refine lv_aload_n hx hb dL_law_902 rfl (lv_at lv 1 rfl) ?_
  refine lv_aload_n hx hb dL_law_903 rfl (lv_at lv 0 rfl) ?_
  refine lv_iload_n hx hb dL_law_904 rfl (lv_at lv 3 rfl) ?_
  refine lv_iconst (v := (1 : Int32)) hx hb dL_law_905 (by decide) ?_
  refine lv_iadd hx hb dL_law_906 ?_
  refine va_sld hx hb hX hbl hbA I.2.2 g1 dL_law_907 ?_
  refine lv_aload_n hx hb dL_law_908 rfl (lv_at lv 0 rfl) ?_
  refine lv_iload_n hx hb dL_law_909 rfl (lv_at lv 3 rfl) ?_
  refine lv_iconst (v := (2 : Int32)) hx hb dL_law_910 (by decide) ?_
  refine lv_iadd hx hb dL_law_911 ?_
  refine va_sld hx hb hX hbl hbA I.2.2 g2 dL_law_912 ?_
  refine lv_aload_n hx hb dL_law_913 rfl (lv_at lv 0 rfl) ?_
  refine lv_iload_n hx hb dL_law_914 rfl (lv_at lv 3 rfl) ?_
  refine lv_iconst (v := (3 : Int32)) hx hb dL_law_915 (by decide) ?_
  refine lv_iadd hx hb dL_law_916 ?_
  refine va_sld hx hb hX hbl hbA I.2.2 g3 dL_law_917 ?_
  refine zX_i B I (z_run (n := 3) (As := [.int (xs (v3 + (1 : Int32)).toNatClampNeg), .int (xs (v3 + (2 : Int32)).toNatClampNeg), .int (xs (v3 + (3 : Int32)).toNatClampNeg)]) (rest := []) S (B.sx I.2.2) I.1 (m_X9_sheet EX l x xl (xs (v3 + (1 : Int32)).toNatClampNeg) (xs (v3 + (2 : Int32)).toNatClampNeg) (xs (v3 + (3 : Int32)).toNatClampNeg) _ (hs x xl y hRel (xs (v3 + (1 : Int32)).toNatClampNeg) (xs (v3 + (2 : Int32)).toNatClampNeg) (xs (v3 + (3 : Int32)).toNatClampNeg))) wx_0 rfl n_729 n_726 n_1 n_727 n_728 (by decide +kernel) rfl rfl ⟨Nat.le_of_ble_eq_true rfl, Nat.le_of_ble_eq_true rfl⟩ rfl lv.1 rfl (Nat.le_of_ble_eq_true rfl) dL_law_918 ⟨Nat.le_refl _, Nat.le_refl _⟩) (fun r x1 xl1 H locs hwp I => ?_)
  obtain ⟨rfl, hwp⟩ := hwp
  refine lv_aload_n hx hb dL_law_921 rfl (lv_at lv 2 rfl) ?_
  refine lv_aload_n hx hb dL_law_922 rfl (lv_at lv 0 rfl) ?_
  refine lv_iload_n hx hb dL_law_923 rfl (lv_at lv 3 rfl) ?_
  refine lv_iconst (v := (1 : Int32)) hx hb dL_law_924 (by decide) ?_
  refine lv_iadd hx hb dL_law_925 ?_
  refine va_sld hx hb hX hbl hbA I.2.2 g1 dL_law_926 ?_
  refine lv_aload_n hx hb dL_law_927 rfl (lv_at lv 0 rfl) ?_
  refine lv_iload_n hx hb dL_law_928 rfl (lv_at lv 3 rfl) ?_
  refine lv_iconst (v := (2 : Int32)) hx hb dL_law_929 (by decide) ?_
  refine lv_iadd hx hb dL_law_930 ?_
  refine va_sld hx hb hX hbl hbA I.2.2 g2 dL_law_931 ?_
  refine lv_aload_n hx hb dL_law_932 rfl (lv_at lv 0 rfl) ?_
  refine lv_iload_n hx hb dL_law_933 rfl (lv_at lv 3 rfl) ?_
  refine lv_iconst (v := (3 : Int32)) hx hb dL_law_934 (by decide) ?_
  refine lv_iadd hx hb dL_law_935 ?_
  refine va_sld hx hb hX hbl hbA I.2.2 g3 dL_law_936 ?_
  refine zM_i B I (z_run (n := 3) (As := [.int (xs (v3 + (1 : Int32)).toNatClampNeg), .int (xs (v3 + (2 : Int32)).toNatClampNeg), .int (xs (v3 + (3 : Int32)).toNatClampNeg)]) (rest := [.int r]) S B.sm I.2.1 (m_X10_sheet EM l y (fun _ _ => 0) (xs (v3 + (1 : Int32)).toNatClampNeg) (xs (v3 + (2 : Int32)).toNatClampNeg) (xs (v3 + (3 : Int32)).toNatClampNeg) _ hwp) wm_0 rfl n_892 n_889 n_12 n_890 n_891 (by decide +kernel) rfl rfl ⟨Nat.le_of_ble_eq_true rfl, Nat.le_of_ble_eq_true rfl⟩ rfl lv.1 rfl (Nat.le_of_ble_eq_true rfl) dL_law_937 ⟨Nat.le_refl _, Nat.le_refl _⟩) (fun r2 y1 yl1 H locs hwp I => ?_)
  obtain ⟨-, hwp, hRel2⟩ := hwp
  refine lv_icmp_eq (tgt := 1197) hx hb dL_law_940 (by decide) (fun _ => ?_) (fun c1 => absurd hwp c1)
  exact hend x1 xl y1 _ _ _ I hRel2 lv
set_option maxHeartbeats 4000000 in
set_option maxRecDepth 100000 in
theorem law_24 (Rel : Mem → MemL → Mem → Prop) {p : Program} {l : Launch} {e : Env} {s : State} {m : MethodId} {below : List Frame} {meth : Method} {c : Code} {EX EM : xE} {b L : Nat} {xs : Nat → Int32} {v3 : Int32} {Q : State → Prop} (hx : p.tables.exec = Jvm.exec) (hb : c.code = code) (S : CallFix p m c code 4 s #[Value.ref b] lw_big RL) (hX : va_X b L xs s s.heap) (hbl : b < s.heap.size) (hbA : ¬ nA s b) (B : LB EX EM s) (g1 : vp_in (v3 + (1 : Int32)) L) (g2 : vp_in (v3 + (2 : Int32)) L) (g3 : vp_in (v3 + (3 : Int32)) L) (g4 : vp_in (v3 + (4 : Int32)) L) (g5 : vp_in (v3 + (5 : Int32)) L) (hs : s_lose Rel) (hend : ∀ (x : Mem) (xl : MemL) (y : Mem) (H : Heap) (locs : List Loc) (ls : Array Slot), LI EX EM x xl y s H locs → Rel x xl y → lv_has ls 4 [(0, .ref b), (1, .ref (wad (wdX EX) 0)), (2, .ref (wad (wdM EM) 0)), (3, .int v3)] → W p l e room_1 s m #[Value.ref b] below meth c H locs 600000 7302250 Q (F0 m 1197 ls [])) (x : Mem) (xl : MemL) (y : Mem) (H : Heap) (locs : List Loc) (ls : Array Slot) (I : LI EX EM x xl y s H locs) (hRel : Rel x xl y) (lv : lv_has ls 4 [(0, .ref b), (1, .ref (wad (wdX EX) 0)), (2, .ref (wad (wdM EM) 0)), (3, .int v3)]) : W p l e room_1 s m #[Value.ref b] below meth c H locs 600000 7302250 Q (F0 m 945 ls []) := by
  refine lv_aload_n hx hb dL_law_945 rfl (lv_at lv 1 rfl) ?_
  refine lv_aload_n hx hb dL_law_946 rfl (lv_at lv 0 rfl) ?_
  refine lv_iload_n hx hb dL_law_947 rfl (lv_at lv 3 rfl) ?_
  refine lv_iconst (v := (1 : Int32)) hx hb dL_law_948 (by decide) ?_
  refine lv_iadd hx hb dL_law_949 ?_
  refine va_sld hx hb hX hbl hbA I.2.2 g1 dL_law_950 ?_
  refine zX_i B I (z_run (n := 1) (As := [.int (xs (v3 + (1 : Int32)).toNatClampNeg)]) (rest := []) S (B.sx I.2.2) I.1 (m_X9_lose EX l x xl (xs (v3 + (1 : Int32)).toNatClampNeg) _ (hs x xl y hRel (xs (v3 + (1 : Int32)).toNatClampNeg))) wx_0 rfl n_738 n_735 n_1 n_736 n_737 (by decide +kernel) rfl rfl ⟨Nat.le_of_ble_eq_true rfl, Nat.le_of_ble_eq_true rfl⟩ rfl lv.1 rfl (Nat.le_of_ble_eq_true rfl) dL_law_951 ⟨Nat.le_refl _, Nat.le_refl _⟩) (fun r x1 xl1 H locs hwp I => ?_)
  obtain ⟨rfl, hwp⟩ := hwp
  refine lv_aload_n hx hb dL_law_954 rfl (lv_at lv 2 rfl) ?_
  refine lv_aload_n hx hb dL_law_955 rfl (lv_at lv 0 rfl) ?_
  refine lv_iload_n hx hb dL_law_956 rfl (lv_at lv 3 rfl) ?_
  refine lv_iconst (v := (1 : Int32)) hx hb dL_law_957 (by decide) ?_
  refine lv_iadd hx hb dL_law_958 ?_
  refine va_sld hx hb hX hbl hbA I.2.2 g1 dL_law_959 ?_
  refine zM_i B I (z_run (n := 1) (As := [.int (xs (v3 + (1 : Int32)).toNatClampNeg)]) (rest := [.int r]) S B.sm I.2.1 (m_X10_lose EM l y (fun _ _ => 0) (xs (v3 + (1 : Int32)).toNatClampNeg) _ hwp) wm_0 rfl n_908 n_905 n_12 n_906 n_907 (by decide +kernel) rfl rfl ⟨Nat.le_of_ble_eq_true rfl, Nat.le_of_ble_eq_true rfl⟩ rfl lv.1 rfl (Nat.le_of_ble_eq_true rfl) dL_law_960 ⟨Nat.le_refl _, Nat.le_refl _⟩) (fun r2 y1 yl1 H locs hwp I => ?_)
  obtain ⟨-, hwp, hRel2⟩ := hwp
  refine lv_icmp_eq (tgt := 1197) hx hb dL_law_963 (by decide) (fun _ => ?_) (fun c1 => absurd hwp c1)
  exact hend x1 xl y1 _ _ _ I hRel2 lv
set_option maxHeartbeats 4000000 in
set_option maxRecDepth 100000 in
theorem law_25 (Rel : Mem → MemL → Mem → Prop) {p : Program} {l : Launch} {e : Env} {s : State} {m : MethodId} {below : List Frame} {meth : Method} {c : Code} {EX EM : xE} {b L : Nat} {xs : Nat → Int32} {v3 : Int32} {Q : State → Prop} (hx : p.tables.exec = Jvm.exec) (hb : c.code = code) (S : CallFix p m c code 4 s #[Value.ref b] lw_big RL) (hX : va_X b L xs s s.heap) (hbl : b < s.heap.size) (hbA : ¬ nA s b) (B : LB EX EM s) (g1 : vp_in (v3 + (1 : Int32)) L) (g2 : vp_in (v3 + (2 : Int32)) L) (g3 : vp_in (v3 + (3 : Int32)) L) (g4 : vp_in (v3 + (4 : Int32)) L) (g5 : vp_in (v3 + (5 : Int32)) L) (hs : s_lay Rel) (hend : ∀ (x : Mem) (xl : MemL) (y : Mem) (H : Heap) (locs : List Loc) (ls : Array Slot), LI EX EM x xl y s H locs → Rel x xl y → lv_has ls 4 [(0, .ref b), (1, .ref (wad (wdX EX) 0)), (2, .ref (wad (wdM EM) 0)), (3, .int v3)] → W p l e room_1 s m #[Value.ref b] below meth c H locs 600000 7302250 Q (F0 m 1197 ls [])) (x : Mem) (xl : MemL) (y : Mem) (H : Heap) (locs : List Loc) (ls : Array Slot) (I : LI EX EM x xl y s H locs) (hRel : Rel x xl y) (lv : lv_has ls 4 [(0, .ref b), (1, .ref (wad (wdX EX) 0)), (2, .ref (wad (wdM EM) 0)), (3, .int v3)]) : W p l e room_1 s m #[Value.ref b] below meth c H locs 600000 7302250 Q (F0 m 968 ls []) := by
  refine lv_aload_n hx hb dL_law_968 rfl (lv_at lv 1 rfl) ?_
  refine lv_aload_n hx hb dL_law_969 rfl (lv_at lv 0 rfl) ?_
  refine lv_iload_n hx hb dL_law_970 rfl (lv_at lv 3 rfl) ?_
  refine lv_iconst (v := (1 : Int32)) hx hb dL_law_971 (by decide) ?_
  refine lv_iadd hx hb dL_law_972 ?_
  refine va_sld hx hb hX hbl hbA I.2.2 g1 dL_law_973 ?_
  refine lv_aload_n hx hb dL_law_974 rfl (lv_at lv 0 rfl) ?_
  refine lv_iload_n hx hb dL_law_975 rfl (lv_at lv 3 rfl) ?_
  refine lv_iconst (v := (2 : Int32)) hx hb dL_law_976 (by decide) ?_
  refine lv_iadd hx hb dL_law_977 ?_
  refine va_sld hx hb hX hbl hbA I.2.2 g2 dL_law_978 ?_
  refine lv_aload_n hx hb dL_law_979 rfl (lv_at lv 0 rfl) ?_
  refine lv_iload_n hx hb dL_law_980 rfl (lv_at lv 3 rfl) ?_
  refine lv_iconst (v := (3 : Int32)) hx hb dL_law_981 (by decide) ?_
  refine lv_iadd hx hb dL_law_982 ?_
  refine va_sld hx hb hX hbl hbA I.2.2 g3 dL_law_983 ?_
  refine lv_aload_n hx hb dL_law_984 rfl (lv_at lv 0 rfl) ?_
  refine lv_iload_n hx hb dL_law_985 rfl (lv_at lv 3 rfl) ?_
  refine lv_iconst (v := (4 : Int32)) hx hb dL_law_986 (by decide) ?_
  refine lv_iadd hx hb dL_law_987 ?_
  refine va_sld hx hb hX hbl hbA I.2.2 g4 dL_law_988 ?_
  refine zX_i B I (z_run (n := 4) (As := [.int (xs (v3 + (1 : Int32)).toNatClampNeg), .int (xs (v3 + (2 : Int32)).toNatClampNeg), .int (xs (v3 + (3 : Int32)).toNatClampNeg), .int (xs (v3 + (4 : Int32)).toNatClampNeg)]) (rest := []) S (B.sx I.2.2) I.1 (m_X9_lay EX l x xl (xs (v3 + (1 : Int32)).toNatClampNeg) (xs (v3 + (2 : Int32)).toNatClampNeg) (xs (v3 + (3 : Int32)).toNatClampNeg) (xs (v3 + (4 : Int32)).toNatClampNeg) _ (hs x xl y hRel (xs (v3 + (1 : Int32)).toNatClampNeg) (xs (v3 + (2 : Int32)).toNatClampNeg) (xs (v3 + (3 : Int32)).toNatClampNeg) (xs (v3 + (4 : Int32)).toNatClampNeg))) wx_0 rfl n_742 n_739 n_1 n_740 n_741 (by decide +kernel) rfl rfl ⟨Nat.le_of_ble_eq_true rfl, Nat.le_of_ble_eq_true rfl⟩ rfl lv.1 rfl (Nat.le_of_ble_eq_true rfl) dL_law_989 ⟨Nat.le_refl _, Nat.le_refl _⟩) (fun r x1 xl1 H locs hwp I => ?_)
  obtain ⟨rfl, hwp⟩ := hwp
  refine lv_aload_n hx hb dL_law_992 rfl (lv_at lv 2 rfl) ?_
  refine lv_aload_n hx hb dL_law_993 rfl (lv_at lv 0 rfl) ?_
  refine lv_iload_n hx hb dL_law_994 rfl (lv_at lv 3 rfl) ?_
  refine lv_iconst (v := (1 : Int32)) hx hb dL_law_995 (by decide) ?_
  refine lv_iadd hx hb dL_law_996 ?_
  refine va_sld hx hb hX hbl hbA I.2.2 g1 dL_law_997 ?_
  refine lv_aload_n hx hb dL_law_998 rfl (lv_at lv 0 rfl) ?_
  refine lv_iload_n hx hb dL_law_999 rfl (lv_at lv 3 rfl) ?_
  refine lv_iconst (v := (2 : Int32)) hx hb dL_law_1000 (by decide) ?_
  refine lv_iadd hx hb dL_law_1001 ?_
  refine va_sld hx hb hX hbl hbA I.2.2 g2 dL_law_1002 ?_
  refine lv_aload_n hx hb dL_law_1003 rfl (lv_at lv 0 rfl) ?_
  refine lv_iload_n hx hb dL_law_1004 rfl (lv_at lv 3 rfl) ?_
  refine lv_iconst (v := (3 : Int32)) hx hb dL_law_1005 (by decide) ?_
  refine lv_iadd hx hb dL_law_1006 ?_
  refine va_sld hx hb hX hbl hbA I.2.2 g3 dL_law_1007 ?_
  refine lv_aload_n hx hb dL_law_1008 rfl (lv_at lv 0 rfl) ?_
  refine lv_iload_n hx hb dL_law_1009 rfl (lv_at lv 3 rfl) ?_
  refine lv_iconst (v := (4 : Int32)) hx hb dL_law_1010 (by decide) ?_
  refine lv_iadd hx hb dL_law_1011 ?_
  refine va_sld hx hb hX hbl hbA I.2.2 g4 dL_law_1012 ?_
  refine zM_i B I (z_run (n := 4) (As := [.int (xs (v3 + (1 : Int32)).toNatClampNeg), .int (xs (v3 + (2 : Int32)).toNatClampNeg), .int (xs (v3 + (3 : Int32)).toNatClampNeg), .int (xs (v3 + (4 : Int32)).toNatClampNeg)]) (rest := [.int r]) S B.sm I.2.1 (m_X10_lay EM l y (fun _ _ => 0) (xs (v3 + (1 : Int32)).toNatClampNeg) (xs (v3 + (2 : Int32)).toNatClampNeg) (xs (v3 + (3 : Int32)).toNatClampNeg) (xs (v3 + (4 : Int32)).toNatClampNeg) _ hwp) wm_0 rfl n_912 n_909 n_12 n_910 n_911 (by decide +kernel) rfl rfl ⟨Nat.le_of_ble_eq_true rfl, Nat.le_of_ble_eq_true rfl⟩ rfl lv.1 rfl (Nat.le_of_ble_eq_true rfl) dL_law_1013 ⟨Nat.le_refl _, Nat.le_refl _⟩) (fun r2 y1 yl1 H locs hwp I => ?_)
  obtain ⟨-, hwp, hRel2⟩ := hwp
  refine lv_icmp_eq (tgt := 1197) hx hb dL_law_1016 (by decide) (fun _ => ?_) (fun c1 => absurd hwp c1)
  exact hend x1 xl y1 _ _ _ I hRel2 lv
set_option maxHeartbeats 4000000 in
set_option maxRecDepth 100000 in
theorem law_26 (Rel : Mem → MemL → Mem → Prop) {p : Program} {l : Launch} {e : Env} {s : State} {m : MethodId} {below : List Frame} {meth : Method} {c : Code} {EX EM : xE} {b L : Nat} {xs : Nat → Int32} {v3 : Int32} {Q : State → Prop} (hx : p.tables.exec = Jvm.exec) (hb : c.code = code) (S : CallFix p m c code 4 s #[Value.ref b] lw_big RL) (hX : va_X b L xs s s.heap) (hbl : b < s.heap.size) (hbA : ¬ nA s b) (B : LB EX EM s) (g1 : vp_in (v3 + (1 : Int32)) L) (g2 : vp_in (v3 + (2 : Int32)) L) (g3 : vp_in (v3 + (3 : Int32)) L) (g4 : vp_in (v3 + (4 : Int32)) L) (g5 : vp_in (v3 + (5 : Int32)) L) (hs : s_get Rel) (hend : ∀ (x : Mem) (xl : MemL) (y : Mem) (H : Heap) (locs : List Loc) (ls : Array Slot), LI EX EM x xl y s H locs → Rel x xl y → lv_has ls 4 [(0, .ref b), (1, .ref (wad (wdX EX) 0)), (2, .ref (wad (wdM EM) 0)), (3, .int v3)] → W p l e room_1 s m #[Value.ref b] below meth c H locs 600000 7302250 Q (F0 m 1197 ls [])) (x : Mem) (xl : MemL) (y : Mem) (H : Heap) (locs : List Loc) (ls : Array Slot) (I : LI EX EM x xl y s H locs) (hRel : Rel x xl y) (lv : lv_has ls 4 [(0, .ref b), (1, .ref (wad (wdX EX) 0)), (2, .ref (wad (wdM EM) 0)), (3, .int v3)]) : W p l e room_1 s m #[Value.ref b] below meth c H locs 600000 7302250 Q (F0 m 1021 ls []) := by
  refine lv_aload_n hx hb dL_law_1021 rfl (lv_at lv 1 rfl) ?_
  refine lv_aload_n hx hb dL_law_1022 rfl (lv_at lv 0 rfl) ?_
  refine lv_iload_n hx hb dL_law_1023 rfl (lv_at lv 3 rfl) ?_
  refine lv_iconst (v := (1 : Int32)) hx hb dL_law_1024 (by decide) ?_
  refine lv_iadd hx hb dL_law_1025 ?_
  refine va_sld hx hb hX hbl hbA I.2.2 g1 dL_law_1026 ?_
  refine lv_aload_n hx hb dL_law_1027 rfl (lv_at lv 0 rfl) ?_
  refine lv_iload_n hx hb dL_law_1028 rfl (lv_at lv 3 rfl) ?_
  refine lv_iconst (v := (2 : Int32)) hx hb dL_law_1029 (by decide) ?_
  refine lv_iadd hx hb dL_law_1030 ?_
  refine va_sld hx hb hX hbl hbA I.2.2 g2 dL_law_1031 ?_
  refine lv_aload_n hx hb dL_law_1032 rfl (lv_at lv 0 rfl) ?_
  refine lv_iload_n hx hb dL_law_1033 rfl (lv_at lv 3 rfl) ?_
  refine lv_iconst (v := (3 : Int32)) hx hb dL_law_1034 (by decide) ?_
  refine lv_iadd hx hb dL_law_1035 ?_
  refine va_sld hx hb hX hbl hbA I.2.2 g3 dL_law_1036 ?_
  refine zX_i B I (z_run (n := 3) (As := [.int (xs (v3 + (1 : Int32)).toNatClampNeg), .int (xs (v3 + (2 : Int32)).toNatClampNeg), .int (xs (v3 + (3 : Int32)).toNatClampNeg)]) (rest := []) S (B.sx I.2.2) I.1 (m_X9_get EX l x xl (xs (v3 + (1 : Int32)).toNatClampNeg) (xs (v3 + (2 : Int32)).toNatClampNeg) (xs (v3 + (3 : Int32)).toNatClampNeg) _ (hs x xl y hRel (xs (v3 + (1 : Int32)).toNatClampNeg) (xs (v3 + (2 : Int32)).toNatClampNeg) (xs (v3 + (3 : Int32)).toNatClampNeg))) wx_0 rfl n_754 n_751 n_1 n_752 n_753 (by decide +kernel) rfl rfl ⟨Nat.le_of_ble_eq_true rfl, Nat.le_of_ble_eq_true rfl⟩ rfl lv.1 rfl (Nat.le_of_ble_eq_true rfl) dL_law_1037 ⟨Nat.le_refl _, Nat.le_refl _⟩) (fun r x1 xl1 H locs hwp I => ?_)
  obtain ⟨rfl, hwp⟩ := hwp
  refine lv_aload_n hx hb dL_law_1040 rfl (lv_at lv 2 rfl) ?_
  refine lv_aload_n hx hb dL_law_1041 rfl (lv_at lv 0 rfl) ?_
  refine lv_iload_n hx hb dL_law_1042 rfl (lv_at lv 3 rfl) ?_
  refine lv_iconst (v := (1 : Int32)) hx hb dL_law_1043 (by decide) ?_
  refine lv_iadd hx hb dL_law_1044 ?_
  refine va_sld hx hb hX hbl hbA I.2.2 g1 dL_law_1045 ?_
  refine lv_aload_n hx hb dL_law_1046 rfl (lv_at lv 0 rfl) ?_
  refine lv_iload_n hx hb dL_law_1047 rfl (lv_at lv 3 rfl) ?_
  refine lv_iconst (v := (2 : Int32)) hx hb dL_law_1048 (by decide) ?_
  refine lv_iadd hx hb dL_law_1049 ?_
  refine va_sld hx hb hX hbl hbA I.2.2 g2 dL_law_1050 ?_
  refine lv_aload_n hx hb dL_law_1051 rfl (lv_at lv 0 rfl) ?_
  refine lv_iload_n hx hb dL_law_1052 rfl (lv_at lv 3 rfl) ?_
  refine lv_iconst (v := (3 : Int32)) hx hb dL_law_1053 (by decide) ?_
  refine lv_iadd hx hb dL_law_1054 ?_
  refine va_sld hx hb hX hbl hbA I.2.2 g3 dL_law_1055 ?_
  refine zM_i B I (z_run (n := 3) (As := [.int (xs (v3 + (1 : Int32)).toNatClampNeg), .int (xs (v3 + (2 : Int32)).toNatClampNeg), .int (xs (v3 + (3 : Int32)).toNatClampNeg)]) (rest := [.int r]) S B.sm I.2.1 (m_X10_get EM l y (fun _ _ => 0) (xs (v3 + (1 : Int32)).toNatClampNeg) (xs (v3 + (2 : Int32)).toNatClampNeg) (xs (v3 + (3 : Int32)).toNatClampNeg) _ hwp) wm_0 rfl n_923 n_920 n_12 n_921 n_922 (by decide +kernel) rfl rfl ⟨Nat.le_of_ble_eq_true rfl, Nat.le_of_ble_eq_true rfl⟩ rfl lv.1 rfl (Nat.le_of_ble_eq_true rfl) dL_law_1056 ⟨Nat.le_refl _, Nat.le_refl _⟩) (fun r2 y1 yl1 H locs hwp I => ?_)
  obtain ⟨-, hwp, hRel2⟩ := hwp
  refine lv_icmp_eq (tgt := 1197) hx hb dL_law_1059 (by decide) (fun _ => ?_) (fun c1 => absurd hwp c1)
  exact hend x1 xl y1 _ _ _ I hRel2 lv
set_option maxHeartbeats 4000000 in
set_option maxRecDepth 100000 in
theorem law_27 (Rel : Mem → MemL → Mem → Prop) {p : Program} {l : Launch} {e : Env} {s : State} {m : MethodId} {below : List Frame} {meth : Method} {c : Code} {EX EM : xE} {b L : Nat} {xs : Nat → Int32} {v3 : Int32} {Q : State → Prop} (hx : p.tables.exec = Jvm.exec) (hb : c.code = code) (S : CallFix p m c code 4 s #[Value.ref b] lw_big RL) (hX : va_X b L xs s s.heap) (hbl : b < s.heap.size) (hbA : ¬ nA s b) (B : LB EX EM s) (g1 : vp_in (v3 + (1 : Int32)) L) (g2 : vp_in (v3 + (2 : Int32)) L) (g3 : vp_in (v3 + (3 : Int32)) L) (g4 : vp_in (v3 + (4 : Int32)) L) (g5 : vp_in (v3 + (5 : Int32)) L) (hs : s_copy Rel) (hend : ∀ (x : Mem) (xl : MemL) (y : Mem) (H : Heap) (locs : List Loc) (ls : Array Slot), LI EX EM x xl y s H locs → Rel x xl y → lv_has ls 4 [(0, .ref b), (1, .ref (wad (wdX EX) 0)), (2, .ref (wad (wdM EM) 0)), (3, .int v3)] → W p l e room_1 s m #[Value.ref b] below meth c H locs 600000 7302250 Q (F0 m 1197 ls [])) (x : Mem) (xl : MemL) (y : Mem) (H : Heap) (locs : List Loc) (ls : Array Slot) (I : LI EX EM x xl y s H locs) (hRel : Rel x xl y) (lv : lv_has ls 4 [(0, .ref b), (1, .ref (wad (wdX EX) 0)), (2, .ref (wad (wdM EM) 0)), (3, .int v3)]) : W p l e room_1 s m #[Value.ref b] below meth c H locs 600000 7302250 Q (F0 m 1064 ls []) := by
  refine lv_aload_n hx hb dL_law_1064 rfl (lv_at lv 1 rfl) ?_
  refine lv_aload_n hx hb dL_law_1065 rfl (lv_at lv 0 rfl) ?_
  refine lv_iload_n hx hb dL_law_1066 rfl (lv_at lv 3 rfl) ?_
  refine lv_iconst (v := (1 : Int32)) hx hb dL_law_1067 (by decide) ?_
  refine lv_iadd hx hb dL_law_1068 ?_
  refine va_sld hx hb hX hbl hbA I.2.2 g1 dL_law_1069 ?_
  refine lv_aload_n hx hb dL_law_1070 rfl (lv_at lv 0 rfl) ?_
  refine lv_iload_n hx hb dL_law_1071 rfl (lv_at lv 3 rfl) ?_
  refine lv_iconst (v := (2 : Int32)) hx hb dL_law_1072 (by decide) ?_
  refine lv_iadd hx hb dL_law_1073 ?_
  refine va_sld hx hb hX hbl hbA I.2.2 g2 dL_law_1074 ?_
  refine lv_aload_n hx hb dL_law_1075 rfl (lv_at lv 0 rfl) ?_
  refine lv_iload_n hx hb dL_law_1076 rfl (lv_at lv 3 rfl) ?_
  refine lv_iconst (v := (3 : Int32)) hx hb dL_law_1077 (by decide) ?_
  refine lv_iadd hx hb dL_law_1078 ?_
  refine va_sld hx hb hX hbl hbA I.2.2 g3 dL_law_1079 ?_
  refine lv_aload_n hx hb dL_law_1080 rfl (lv_at lv 0 rfl) ?_
  refine lv_iload_n hx hb dL_law_1081 rfl (lv_at lv 3 rfl) ?_
  refine lv_iconst (v := (4 : Int32)) hx hb dL_law_1082 (by decide) ?_
  refine lv_iadd hx hb dL_law_1083 ?_
  refine va_sld hx hb hX hbl hbA I.2.2 g4 dL_law_1084 ?_
  refine lv_aload_n hx hb dL_law_1085 rfl (lv_at lv 0 rfl) ?_
  refine lv_iload_n hx hb dL_law_1086 rfl (lv_at lv 3 rfl) ?_
  refine lv_iconst (v := (5 : Int32)) hx hb dL_law_1087 (by decide) ?_
  refine lv_iadd hx hb dL_law_1088 ?_
  refine va_sld hx hb hX hbl hbA I.2.2 g5 dL_law_1089 ?_
  refine zX_i B I (z_run (n := 5) (As := [.int (xs (v3 + (1 : Int32)).toNatClampNeg), .int (xs (v3 + (2 : Int32)).toNatClampNeg), .int (xs (v3 + (3 : Int32)).toNatClampNeg), .int (xs (v3 + (4 : Int32)).toNatClampNeg), .int (xs (v3 + (5 : Int32)).toNatClampNeg)]) (rest := []) S (B.sx I.2.2) I.1 (m_X9_copy EX l x xl (xs (v3 + (1 : Int32)).toNatClampNeg) (xs (v3 + (2 : Int32)).toNatClampNeg) (xs (v3 + (3 : Int32)).toNatClampNeg) (xs (v3 + (4 : Int32)).toNatClampNeg) (xs (v3 + (5 : Int32)).toNatClampNeg) _ (hs x xl y hRel (xs (v3 + (1 : Int32)).toNatClampNeg) (xs (v3 + (2 : Int32)).toNatClampNeg) (xs (v3 + (3 : Int32)).toNatClampNeg) (xs (v3 + (4 : Int32)).toNatClampNeg) (xs (v3 + (5 : Int32)).toNatClampNeg))) wx_0 rfl n_759 n_756 n_1 n_757 n_758 (by decide +kernel) rfl rfl ⟨Nat.le_of_ble_eq_true rfl, Nat.le_of_ble_eq_true rfl⟩ rfl lv.1 rfl (Nat.le_of_ble_eq_true rfl) dL_law_1090 ⟨Nat.le_refl _, Nat.le_refl _⟩) (fun r x1 xl1 H locs hwp I => ?_)
  obtain ⟨rfl, hwp⟩ := hwp
  refine lv_aload_n hx hb dL_law_1093 rfl (lv_at lv 2 rfl) ?_
  refine lv_aload_n hx hb dL_law_1094 rfl (lv_at lv 0 rfl) ?_
  refine lv_iload_n hx hb dL_law_1095 rfl (lv_at lv 3 rfl) ?_
  refine lv_iconst (v := (1 : Int32)) hx hb dL_law_1096 (by decide) ?_
  refine lv_iadd hx hb dL_law_1097 ?_
  refine va_sld hx hb hX hbl hbA I.2.2 g1 dL_law_1098 ?_
  refine lv_aload_n hx hb dL_law_1099 rfl (lv_at lv 0 rfl) ?_
  refine lv_iload_n hx hb dL_law_1100 rfl (lv_at lv 3 rfl) ?_
  refine lv_iconst (v := (2 : Int32)) hx hb dL_law_1101 (by decide) ?_
  refine lv_iadd hx hb dL_law_1102 ?_
  refine va_sld hx hb hX hbl hbA I.2.2 g2 dL_law_1103 ?_
  refine lv_aload_n hx hb dL_law_1104 rfl (lv_at lv 0 rfl) ?_
  refine lv_iload_n hx hb dL_law_1105 rfl (lv_at lv 3 rfl) ?_
  refine lv_iconst (v := (3 : Int32)) hx hb dL_law_1106 (by decide) ?_
  refine lv_iadd hx hb dL_law_1107 ?_
  refine va_sld hx hb hX hbl hbA I.2.2 g3 dL_law_1108 ?_
  refine lv_aload_n hx hb dL_law_1109 rfl (lv_at lv 0 rfl) ?_
  refine lv_iload_n hx hb dL_law_1110 rfl (lv_at lv 3 rfl) ?_
  refine lv_iconst (v := (4 : Int32)) hx hb dL_law_1111 (by decide) ?_
  refine lv_iadd hx hb dL_law_1112 ?_
  refine va_sld hx hb hX hbl hbA I.2.2 g4 dL_law_1113 ?_
  refine lv_aload_n hx hb dL_law_1114 rfl (lv_at lv 0 rfl) ?_
  refine lv_iload_n hx hb dL_law_1115 rfl (lv_at lv 3 rfl) ?_
  refine lv_iconst (v := (5 : Int32)) hx hb dL_law_1116 (by decide) ?_
  refine lv_iadd hx hb dL_law_1117 ?_
  refine va_sld hx hb hX hbl hbA I.2.2 g5 dL_law_1118 ?_
  refine zM_i B I (z_run (n := 5) (As := [.int (xs (v3 + (1 : Int32)).toNatClampNeg), .int (xs (v3 + (2 : Int32)).toNatClampNeg), .int (xs (v3 + (3 : Int32)).toNatClampNeg), .int (xs (v3 + (4 : Int32)).toNatClampNeg), .int (xs (v3 + (5 : Int32)).toNatClampNeg)]) (rest := [.int r]) S B.sm I.2.1 (m_X10_copy EM l y (fun _ _ => 0) (xs (v3 + (1 : Int32)).toNatClampNeg) (xs (v3 + (2 : Int32)).toNatClampNeg) (xs (v3 + (3 : Int32)).toNatClampNeg) (xs (v3 + (4 : Int32)).toNatClampNeg) (xs (v3 + (5 : Int32)).toNatClampNeg) _ hwp) wm_0 rfl n_928 n_925 n_12 n_926 n_927 (by decide +kernel) rfl rfl ⟨Nat.le_of_ble_eq_true rfl, Nat.le_of_ble_eq_true rfl⟩ rfl lv.1 rfl (Nat.le_of_ble_eq_true rfl) dL_law_1119 ⟨Nat.le_refl _, Nat.le_refl _⟩) (fun r2 y1 yl1 H locs hwp I => ?_)
  obtain ⟨-, hwp, hRel2⟩ := hwp
  refine lv_icmp_eq (tgt := 1197) hx hb dL_law_1122 (by decide) (fun _ => ?_) (fun c1 => absurd hwp c1)
  exact hend x1 xl y1 _ _ _ I hRel2 lv
set_option maxHeartbeats 4000000 in
set_option maxRecDepth 100000 in
theorem law_28 (Rel : Mem → MemL → Mem → Prop) {p : Program} {l : Launch} {e : Env} {s : State} {m : MethodId} {below : List Frame} {meth : Method} {c : Code} {EX EM : xE} {b L : Nat} {xs : Nat → Int32} {v3 : Int32} {Q : State → Prop} (hx : p.tables.exec = Jvm.exec) (hb : c.code = code) (S : CallFix p m c code 4 s #[Value.ref b] lw_big RL) (hX : va_X b L xs s s.heap) (hbl : b < s.heap.size) (hbA : ¬ nA s b) (B : LB EX EM s) (g1 : vp_in (v3 + (1 : Int32)) L) (g2 : vp_in (v3 + (2 : Int32)) L) (g3 : vp_in (v3 + (3 : Int32)) L) (g4 : vp_in (v3 + (4 : Int32)) L) (g5 : vp_in (v3 + (5 : Int32)) L) (hs : s_write Rel) (hend : ∀ (x : Mem) (xl : MemL) (y : Mem) (H : Heap) (locs : List Loc) (ls : Array Slot), LI EX EM x xl y s H locs → Rel x xl y → lv_has ls 4 [(0, .ref b), (1, .ref (wad (wdX EX) 0)), (2, .ref (wad (wdM EM) 0)), (3, .int v3)] → W p l e room_1 s m #[Value.ref b] below meth c H locs 600000 7302250 Q (F0 m 1197 ls [])) (x : Mem) (xl : MemL) (y : Mem) (H : Heap) (locs : List Loc) (ls : Array Slot) (I : LI EX EM x xl y s H locs) (hRel : Rel x xl y) (lv : lv_has ls 4 [(0, .ref b), (1, .ref (wad (wdX EX) 0)), (2, .ref (wad (wdM EM) 0)), (3, .int v3)]) : W p l e room_1 s m #[Value.ref b] below meth c H locs 600000 7302250 Q (F0 m 1127 ls []) := by
  refine lv_aload_n hx hb dL_law_1127 rfl (lv_at lv 1 rfl) ?_
  refine lv_aload_n hx hb dL_law_1128 rfl (lv_at lv 0 rfl) ?_
  refine lv_iload_n hx hb dL_law_1129 rfl (lv_at lv 3 rfl) ?_
  refine lv_iconst (v := (1 : Int32)) hx hb dL_law_1130 (by decide) ?_
  refine lv_iadd hx hb dL_law_1131 ?_
  refine va_sld hx hb hX hbl hbA I.2.2 g1 dL_law_1132 ?_
  refine lv_aload_n hx hb dL_law_1133 rfl (lv_at lv 0 rfl) ?_
  refine lv_iload_n hx hb dL_law_1134 rfl (lv_at lv 3 rfl) ?_
  refine lv_iconst (v := (2 : Int32)) hx hb dL_law_1135 (by decide) ?_
  refine lv_iadd hx hb dL_law_1136 ?_
  refine va_sld hx hb hX hbl hbA I.2.2 g2 dL_law_1137 ?_
  refine zX_i B I (z_run (n := 2) (As := [.int (xs (v3 + (1 : Int32)).toNatClampNeg), .int (xs (v3 + (2 : Int32)).toNatClampNeg)]) (rest := []) S (B.sx I.2.2) I.1 (m_X9_write EX l x xl (xs (v3 + (1 : Int32)).toNatClampNeg) (xs (v3 + (2 : Int32)).toNatClampNeg) _ (hs x xl y hRel (xs (v3 + (1 : Int32)).toNatClampNeg) (xs (v3 + (2 : Int32)).toNatClampNeg))) wx_0 rfl n_768 n_765 n_1 n_766 n_767 (by decide +kernel) rfl rfl ⟨Nat.le_of_ble_eq_true rfl, Nat.le_of_ble_eq_true rfl⟩ rfl lv.1 rfl (Nat.le_of_ble_eq_true rfl) dL_law_1138 ⟨Nat.le_refl _, Nat.le_refl _⟩) (fun r x1 xl1 H locs hwp I => ?_)
  obtain ⟨rfl, hwp⟩ := hwp
  refine lv_aload_n hx hb dL_law_1141 rfl (lv_at lv 2 rfl) ?_
  refine lv_aload_n hx hb dL_law_1142 rfl (lv_at lv 0 rfl) ?_
  refine lv_iload_n hx hb dL_law_1143 rfl (lv_at lv 3 rfl) ?_
  refine lv_iconst (v := (1 : Int32)) hx hb dL_law_1144 (by decide) ?_
  refine lv_iadd hx hb dL_law_1145 ?_
  refine va_sld hx hb hX hbl hbA I.2.2 g1 dL_law_1146 ?_
  refine lv_aload_n hx hb dL_law_1147 rfl (lv_at lv 0 rfl) ?_
  refine lv_iload_n hx hb dL_law_1148 rfl (lv_at lv 3 rfl) ?_
  refine lv_iconst (v := (2 : Int32)) hx hb dL_law_1149 (by decide) ?_
  refine lv_iadd hx hb dL_law_1150 ?_
  refine va_sld hx hb hX hbl hbA I.2.2 g2 dL_law_1151 ?_
  refine zM_i B I (z_run (n := 2) (As := [.int (xs (v3 + (1 : Int32)).toNatClampNeg), .int (xs (v3 + (2 : Int32)).toNatClampNeg)]) (rest := [.int r]) S B.sm I.2.1 (m_X10_write EM l y (fun _ _ => 0) (xs (v3 + (1 : Int32)).toNatClampNeg) (xs (v3 + (2 : Int32)).toNatClampNeg) _ hwp) wm_0 rfl n_1175 n_1172 n_12 n_1173 n_1174 (by decide +kernel) rfl rfl ⟨Nat.le_of_ble_eq_true rfl, Nat.le_of_ble_eq_true rfl⟩ rfl lv.1 rfl (Nat.le_of_ble_eq_true rfl) dL_law_1152 ⟨Nat.le_refl _, Nat.le_refl _⟩) (fun r2 y1 yl1 H locs hwp I => ?_)
  obtain ⟨-, hwp, hRel2⟩ := hwp
  refine lv_icmp_eq (tgt := 1197) hx hb dL_law_1155 (by decide) (fun _ => ?_) (fun c1 => absurd hwp c1)
  exact hend x1 xl y1 _ _ _ I hRel2 lv
set_option maxHeartbeats 4000000 in
set_option maxRecDepth 100000 in
theorem law_29 (Rel : Mem → MemL → Mem → Prop) {p : Program} {l : Launch} {e : Env} {s : State} {m : MethodId} {below : List Frame} {meth : Method} {c : Code} {EX EM : xE} {b L : Nat} {xs : Nat → Int32} {v3 : Int32} {Q : State → Prop} (hx : p.tables.exec = Jvm.exec) (hb : c.code = code) (S : CallFix p m c code 4 s #[Value.ref b] lw_big RL) (hX : va_X b L xs s s.heap) (hbl : b < s.heap.size) (hbA : ¬ nA s b) (B : LB EX EM s) (g1 : vp_in (v3 + (1 : Int32)) L) (g2 : vp_in (v3 + (2 : Int32)) L) (g3 : vp_in (v3 + (3 : Int32)) L) (g4 : vp_in (v3 + (4 : Int32)) L) (g5 : vp_in (v3 + (5 : Int32)) L) (hs : s_count Rel) (hend : ∀ (x : Mem) (xl : MemL) (y : Mem) (H : Heap) (locs : List Loc) (ls : Array Slot), LI EX EM x xl y s H locs → Rel x xl y → lv_has ls 4 [(0, .ref b), (1, .ref (wad (wdX EX) 0)), (2, .ref (wad (wdM EM) 0)), (3, .int v3)] → W p l e room_1 s m #[Value.ref b] below meth c H locs 600000 7302250 Q (F0 m 1197 ls [])) (x : Mem) (xl : MemL) (y : Mem) (H : Heap) (locs : List Loc) (ls : Array Slot) (I : LI EX EM x xl y s H locs) (hRel : Rel x xl y) (lv : lv_has ls 4 [(0, .ref b), (1, .ref (wad (wdX EX) 0)), (2, .ref (wad (wdM EM) 0)), (3, .int v3)]) : W p l e room_1 s m #[Value.ref b] below meth c H locs 600000 7302250 Q (F0 m 1160 ls []) := by
  refine lv_aload_n hx hb dL_law_1160 rfl (lv_at lv 1 rfl) ?_
  refine lv_aload_n hx hb dL_law_1161 rfl (lv_at lv 0 rfl) ?_
  refine lv_iload_n hx hb dL_law_1162 rfl (lv_at lv 3 rfl) ?_
  refine lv_iconst (v := (1 : Int32)) hx hb dL_law_1163 (by decide) ?_
  refine lv_iadd hx hb dL_law_1164 ?_
  refine va_sld hx hb hX hbl hbA I.2.2 g1 dL_law_1165 ?_
  refine zX_i B I (z_run (n := 1) (As := [.int (xs (v3 + (1 : Int32)).toNatClampNeg)]) (rest := []) S (B.sx I.2.2) I.1 (m_X9_count EX l x xl (xs (v3 + (1 : Int32)).toNatClampNeg) _ (hs x xl y hRel (xs (v3 + (1 : Int32)).toNatClampNeg))) wx_0 rfl n_773 n_770 n_1 n_771 n_772 (by decide +kernel) rfl rfl ⟨Nat.le_of_ble_eq_true rfl, Nat.le_of_ble_eq_true rfl⟩ rfl lv.1 rfl (Nat.le_of_ble_eq_true rfl) dL_law_1166 ⟨Nat.le_refl _, Nat.le_refl _⟩) (fun r x1 xl1 H locs hwp I => ?_)
  obtain ⟨rfl, hwp⟩ := hwp
  refine lv_aload_n hx hb dL_law_1169 rfl (lv_at lv 2 rfl) ?_
  refine lv_aload_n hx hb dL_law_1170 rfl (lv_at lv 0 rfl) ?_
  refine lv_iload_n hx hb dL_law_1171 rfl (lv_at lv 3 rfl) ?_
  refine lv_iconst (v := (1 : Int32)) hx hb dL_law_1172 (by decide) ?_
  refine lv_iadd hx hb dL_law_1173 ?_
  refine va_sld hx hb hX hbl hbA I.2.2 g1 dL_law_1174 ?_
  refine zM_i B I (z_run (n := 1) (As := [.int (xs (v3 + (1 : Int32)).toNatClampNeg)]) (rest := [.int r]) S B.sm I.2.1 (m_X10_count EM l y (fun _ _ => 0) (xs (v3 + (1 : Int32)).toNatClampNeg) _ hwp) wm_0 rfl n_1182 n_1179 n_12 n_1180 n_1181 (by decide +kernel) rfl rfl ⟨Nat.le_of_ble_eq_true rfl, Nat.le_of_ble_eq_true rfl⟩ rfl lv.1 rfl (Nat.le_of_ble_eq_true rfl) dL_law_1175 ⟨Nat.le_refl _, Nat.le_refl _⟩) (fun r2 y1 yl1 H locs hwp I => ?_)
  obtain ⟨-, hwp, hRel2⟩ := hwp
  refine lv_icmp_eq (tgt := 1197) hx hb dL_law_1178 (by decide) (fun _ => ?_) (fun c1 => absurd hwp c1)
  exact hend x1 xl y1 _ _ _ I hRel2 lv
set_option maxHeartbeats 4000000 in
set_option maxRecDepth 100000 in
theorem law_30 (Rel : Mem → MemL → Mem → Prop) {p : Program} {l : Launch} {e : Env} {s : State} {m : MethodId} {below : List Frame} {meth : Method} {c : Code} {EX EM : xE} {b L : Nat} {xs : Nat → Int32} {v3 : Int32} {Q : State → Prop} (hx : p.tables.exec = Jvm.exec) (hb : c.code = code) (S : CallFix p m c code 4 s #[Value.ref b] lw_big RL) (hX : va_X b L xs s s.heap) (hbl : b < s.heap.size) (hbA : ¬ nA s b) (B : LB EX EM s) (g1 : vp_in (v3 + (1 : Int32)) L) (g2 : vp_in (v3 + (2 : Int32)) L) (g3 : vp_in (v3 + (3 : Int32)) L) (g4 : vp_in (v3 + (4 : Int32)) L) (g5 : vp_in (v3 + (5 : Int32)) L) (hs : s_digest Rel) (hend : ∀ (x : Mem) (xl : MemL) (y : Mem) (H : Heap) (locs : List Loc) (ls : Array Slot), LI EX EM x xl y s H locs → Rel x xl y → lv_has ls 4 [(0, .ref b), (1, .ref (wad (wdX EX) 0)), (2, .ref (wad (wdM EM) 0)), (3, .int v3)] → W p l e room_1 s m #[Value.ref b] below meth c H locs 600000 7302250 Q (F0 m 1197 ls [])) (x : Mem) (xl : MemL) (y : Mem) (H : Heap) (locs : List Loc) (ls : Array Slot) (I : LI EX EM x xl y s H locs) (hRel : Rel x xl y) (lv : lv_has ls 4 [(0, .ref b), (1, .ref (wad (wdX EX) 0)), (2, .ref (wad (wdM EM) 0)), (3, .int v3)]) : W p l e room_1 s m #[Value.ref b] below meth c H locs 600000 7302250 Q (F0 m 1183 ls []) := by
  refine lv_aload_n hx hb dL_law_1183 rfl (lv_at lv 1 rfl) ?_
  refine zX_l B I (z_run (n := 0) (As := []) (rest := []) S (B.sx I.2.2) I.1 (m_X9_digest EX l x xl  _ (hs x xl y hRel)) wx_0 rfl n_777 n_774 n_1 n_775 n_776 (by decide +kernel) rfl rfl ⟨Nat.le_of_ble_eq_true rfl, Nat.le_of_ble_eq_true rfl⟩ rfl lv.1 rfl (Nat.le_of_ble_eq_true rfl) dL_law_1184 ⟨Nat.le_refl _, Nat.le_refl _⟩) (fun r x1 xl1 H locs hwp I => ?_)
  refine lv_aload_n hx hb dL_law_1187 rfl (lv_at lv 2 rfl) ?_
  refine zM_l B I (z_run (n := 0) (As := []) (rest := [.long r]) S B.sm I.2.1 (m_X10_digest EM l y (fun _ _ => 0)  _ hwp) wm_0 rfl n_1186 n_1183 n_12 n_1184 n_1185 (by decide +kernel) rfl rfl ⟨Nat.le_of_ble_eq_true rfl, Nat.le_of_ble_eq_true rfl⟩ rfl lv.1 rfl (Nat.le_of_ble_eq_true rfl) dL_law_1188 ⟨Nat.le_refl _, Nat.le_refl _⟩) (fun r2 y1 yl1 H locs hwp I => ?_)
  obtain ⟨-, hwp, hRel2⟩ := hwp
  refine W.lcmp hx hb dL_law_1191 ?_
  refine lv_if_eq (tgt := 1197) hx hb dL_law_1192 (by decide) (fun _ => ?_) (fun c1 => absurd ((lg_cmp_eq _ _).mpr hwp) c1)
  exact hend x1 xl1 y1 _ _ _ I hRel2 lv
set_option maxHeartbeats 8000000 in
set_option maxRecDepth 100000 in
theorem law_loop (Rel : Mem → MemL → Mem → Prop) (h_type : s_type Rel) (h_wipe : s_wipe Rel) (h_undo : s_undo Rel) (h_fault : s_fault Rel) (h_law : s_law Rel) (h_want : s_want Rel) (h_trial : s_trial Rel) (h_breach : s_breach Rel) (h_back : s_back Rel) (h_binds : s_binds Rel) (h_does : s_does Rel) (h_joy : s_joy Rel) (h_quarrels : s_quarrels Rel) (h_exempt : s_exempt Rel) (h_keep : s_keep Rel) (h_order : s_order Rel) (h_seen : s_seen Rel) (h_forget : s_forget Rel) (h_read : s_read Rel) (h_sets : s_sets Rel) (h_watch : s_watch Rel) (h_gout : s_gout Rel) (h_years : s_years Rel) (h_sheet : s_sheet Rel) (h_lose : s_lose Rel) (h_lay : s_lay Rel) (h_get : s_get Rel) (h_copy : s_copy Rel) (h_write : s_write Rel) (h_count : s_count Rel) (h_digest : s_digest Rel) {p : Program} {l : Launch} {e : Env} {s : State} {m : MethodId} {below : List Frame} {meth : Method} {c : Code} {EX EM : xE} {b L : Nat} {xs : Nat → Int32} (hL : L ≤ 384) (C0 : lw_At p s m meth c b L xs) (B : LB EX EM s) : ∀ (n j : Nat) (v3 : Int32), j ≤ 390 → 396 ≤ j + n → v3 = nI j → ∀ (x : Mem) (xl : MemL) (y : Mem) (H : Heap) (locs : List Loc) (ls : Array Slot), LI EX EM x xl y s H locs → Rel x xl y → lv_has ls 4 [(0, .ref b), (1, .ref (wad (wdX EX) 0)), (2, .ref (wad (wdM EM) 0)), (3, .int v3)] → W p l e room_1 s m #[Value.ref b] below meth c H locs 600000 7302250 (lw_Z below #[Value.ref b] s) (F0 m 18 ls []) := by
  obtain ⟨hx, hb, hr, hml, hown, hts, hX, hbl, hlocks, hgv⟩ := C0
  have hbA : ¬ nA s b := Nat.not_le.mpr hbl
  have S : CallFix p m c code 4 s #[Value.ref b] lw_big RL := ⟨hx, hb, hml, hown, fun w hw => hts w (lw_big_in hw)⟩
  intro n
  induction n with
  | zero => intro j v3 h1 h2; exact absurd h2 (by omega)
  | succ n ih =>
    intro j v3 hj hjn ev x xl y H locs ls I hRel lv
    refine lv_iload_n hx hb dL_law_18 rfl (lv_at lv 3 rfl) ?_
    refine lv_aload_n hx hb dL_law_19 rfl (lv_at lv 0 rfl) ?_
    refine va_slen hx hb hX hbl hbA I.2.2 dL_law_20 ?_
    refine lv_bipush (v := (6 : Int32)) hx hb dL_law_21 (by decide) ?_
    refine lv_isub hx hb dL_law_23 ?_
    refine lv_icmp_gt (tgt := 1203) hx hb dL_law_24 (by decide) (fun c_1 => ?_) (fun c_1 => ?_)
    · refine lv_iconst (v := (1 : Int32)) hx hb dL_law_1203 (by decide) ?_
      refine va_forget (fun q hq => I.2.2.2.2 q hq) ?_
      exact lw_ret hx hb hr hlocks dL_law_1204
    · have hlt : j + 6 ≤ L := by
        rcases Nat.lt_or_ge L (j + 6) with q | q
        · exfalso
          refine c_1 ?_
          rw [ev, Int32.lt_iff_toInt_lt, nI_toInt (by omega)]
          have h6 : ((Int32.ofNat L) - (6 : Int32)).toInt = (L : Int) - 6 := pk_sub_toInt (a := L) (b := 6) (by omega) (by omega)
          rw [h6]
          omega
        · exact q
      have g0 : vp_in v3 L := by rw [ev]; exact vp_in_nI (by omega) (by omega)
      have g1 : vp_in (v3 + (1 : Int32)) L := by rw [ev, show (1 : Int32) = nI 1 from rfl, nI_add]; exact vp_in_nI (by omega) (by omega)
      have g2 : vp_in (v3 + (2 : Int32)) L := by rw [ev, show (2 : Int32) = nI 2 from rfl, nI_add]; exact vp_in_nI (by omega) (by omega)
      have g3 : vp_in (v3 + (3 : Int32)) L := by rw [ev, show (3 : Int32) = nI 3 from rfl, nI_add]; exact vp_in_nI (by omega) (by omega)
      have g4 : vp_in (v3 + (4 : Int32)) L := by rw [ev, show (4 : Int32) = nI 4 from rfl, nI_add]; exact vp_in_nI (by omega) (by omega)
      have g5 : vp_in (v3 + (5 : Int32)) L := by rw [ev, show (5 : Int32) = nI 5 from rfl, nI_add]; exact vp_in_nI (by omega) (by omega)
      have hend : ∀ (x : Mem) (xl : MemL) (y : Mem) (H : Heap) (locs : List Loc) (ls : Array Slot), LI EX EM x xl y s H locs → Rel x xl y → lv_has ls 4 [(0, .ref b), (1, .ref (wad (wdX EX) 0)), (2, .ref (wad (wdM EM) 0)), (3, .int v3)] → W p l e room_1 s m #[Value.ref b] below meth c H locs 600000 7302250 (lw_Z below #[Value.ref b] s) (F0 m 1197 ls []) := by
        intro x xl y H locs ls I hRel lv
        refine lv_iinc (v := v3 + (6 : Int32)) (lv' := [(3, .int (v3 + (6 : Int32))), (0, .ref b), (1, .ref (wad (wdX EX) 0)), (2, .ref (wad (wdM EM) 0))]) hx hb dL_law_1197 lv (k := 3) rfl rfl (by decide) rfl (fun ls lv => ?_)
        refine lv_goto (tgt := 18) hx hb dL_law_1200 (by decide) ?_
        exact ih (j + 6) _ (by omega) (by omega) (by rw [ev, show (6 : Int32) = nI 6 from rfl, nI_add]) x xl y _ _ _ I hRel (lv_sub lv [1, 2, 3, 0] rfl)
      refine lv_aload_n hx hb dL_law_27 rfl (lv_at lv 0 rfl) ?_
      refine lv_iload_n hx hb dL_law_28 rfl (lv_at lv 3 rfl) ?_
      refine va_sld hx hb hX hbl hbA I.2.2 g0 dL_law_29 ?_
      refine lv_bipush (v := (31 : Int32)) hx hb dL_law_30 (by decide) ?_
      refine lv_iand hx hb dL_law_32 ?_
      obtain ⟨k, hk, ek⟩ := pk_andE (xs v3.toNatClampNeg) (m := (31 : Int32)) 5 (by decide)
      rw [ek]
      match k, hk with
      | 0, _ => exact lv_tableIn (x := nI 0) (off := 139) (tgt := 172) hx hb dL_law_33 (by decide) (by decide) (by decide) (by decide) (law_0 Rel hx hb S hX hbl hbA B g1 g2 g3 g4 g5 h_type hend x xl y H locs ls I hRel lv)
      | 1, _ => exact lv_tableIn (x := nI 1) (off := 172) (tgt := 205) hx hb dL_law_33 (by decide) (by decide) (by decide) (by decide) (law_1 Rel hx hb S hX hbl hbA B g1 g2 g3 g4 g5 h_wipe hend x xl y H locs ls I hRel lv)
      | 2, _ => exact lv_tableIn (x := nI 2) (off := 195) (tgt := 228) hx hb dL_law_33 (by decide) (by decide) (by decide) (by decide) (law_2 Rel hx hb S hX hbl hbA B g1 g2 g3 g4 g5 h_undo hend x xl y H locs ls I hRel lv)
      | 3, _ => exact lv_tableIn (x := nI 3) (off := 218) (tgt := 251) hx hb dL_law_33 (by decide) (by decide) (by decide) (by decide) (law_3 Rel hx hb S hX hbl hbA B g1 g2 g3 g4 g5 h_fault hend x xl y H locs ls I hRel lv)
      | 4, _ => exact lv_tableIn (x := nI 4) (off := 241) (tgt := 274) hx hb dL_law_33 (by decide) (by decide) (by decide) (by decide) (law_4 Rel hx hb S hX hbl hbA B g1 g2 g3 g4 g5 h_law hend x xl y H locs ls I hRel lv)
      | 5, _ => exact lv_tableIn (x := nI 5) (off := 274) (tgt := 307) hx hb dL_law_33 (by decide) (by decide) (by decide) (by decide) (law_5 Rel hx hb S hX hbl hbA B g1 g2 g3 g4 g5 h_want hend x xl y H locs ls I hRel lv)
      | 6, _ => exact lv_tableIn (x := nI 6) (off := 307) (tgt := 340) hx hb dL_law_33 (by decide) (by decide) (by decide) (by decide) (law_6 Rel hx hb S hX hbl hbA B g1 g2 g3 g4 g5 h_trial hend x xl y H locs ls I hRel lv)
      | 7, _ => exact lv_tableIn (x := nI 7) (off := 340) (tgt := 373) hx hb dL_law_33 (by decide) (by decide) (by decide) (by decide) (law_7 Rel hx hb S hX hbl hbA B g1 g2 g3 g4 g5 h_breach hend x xl y H locs ls I hRel lv)
      | 8, _ => exact lv_tableIn (x := nI 8) (off := 373) (tgt := 406) hx hb dL_law_33 (by decide) (by decide) (by decide) (by decide) (law_8 Rel hx hb S hX hbl hbA B g1 g2 g3 g4 g5 h_back hend x xl y H locs ls I hRel lv)
      | 9, _ => exact lv_tableIn (x := nI 9) (off := 396) (tgt := 429) hx hb dL_law_33 (by decide) (by decide) (by decide) (by decide) (law_9 Rel hx hb S hX hbl hbA B g1 g2 g3 g4 g5 h_binds hend x xl y H locs ls I hRel lv)
      | 10, _ => exact lv_tableIn (x := nI 10) (off := 429) (tgt := 462) hx hb dL_law_33 (by decide) (by decide) (by decide) (by decide) (law_10 Rel hx hb S hX hbl hbA B g1 g2 g3 g4 g5 h_does hend x xl y H locs ls I hRel lv)
      | 11, _ => exact lv_tableIn (x := nI 11) (off := 462) (tgt := 495) hx hb dL_law_33 (by decide) (by decide) (by decide) (by decide) (law_11 Rel hx hb S hX hbl hbA B g1 g2 g3 g4 g5 h_joy hend x xl y H locs ls I hRel lv)
      | 12, _ => exact lv_tableIn (x := nI 12) (off := 495) (tgt := 528) hx hb dL_law_33 (by decide) (by decide) (by decide) (by decide) (law_12 Rel hx hb S hX hbl hbA B g1 g2 g3 g4 g5 h_quarrels hend x xl y H locs ls I hRel lv)
      | 13, _ => exact lv_tableIn (x := nI 13) (off := 528) (tgt := 561) hx hb dL_law_33 (by decide) (by decide) (by decide) (by decide) (law_13 Rel hx hb S hX hbl hbA B g1 g2 g3 g4 g5 h_exempt hend x xl y H locs ls I hRel lv)
      | 14, _ => exact lv_tableIn (x := nI 14) (off := 581) (tgt := 614) hx hb dL_law_33 (by decide) (by decide) (by decide) (by decide) (law_14 Rel hx hb S hX hbl hbA B g1 g2 g3 g4 g5 h_keep hend x xl y H locs ls I hRel lv)
      | 15, _ => exact lv_tableIn (x := nI 15) (off := 614) (tgt := 647) hx hb dL_law_33 (by decide) (by decide) (by decide) (by decide) (law_15 Rel hx hb S hX hbl hbA B g1 g2 g3 g4 g5 h_order hend x xl y H locs ls I hRel lv)
      | 16, _ => exact lv_tableIn (x := nI 16) (off := 657) (tgt := 690) hx hb dL_law_33 (by decide) (by decide) (by decide) (by decide) (law_16 Rel hx hb S hX hbl hbA B g1 g2 g3 g4 g5 h_seen hend x xl y H locs ls I hRel lv)
      | 17, _ => exact lv_tableIn (x := nI 17) (off := 690) (tgt := 723) hx hb dL_law_33 (by decide) (by decide) (by decide) (by decide) (law_17 Rel hx hb S hX hbl hbA B g1 g2 g3 g4 g5 h_forget hend x xl y H locs ls I hRel lv)
      | 18, _ => exact lv_tableIn (x := nI 18) (off := 703) (tgt := 736) hx hb dL_law_33 (by decide) (by decide) (by decide) (by decide) (law_18 Rel hx hb S hX hbl hbA B g1 g2 g3 g4 g5 h_read hend x xl y H locs ls I hRel lv)
      | 19, _ => exact lv_tableIn (x := nI 19) (off := 726) (tgt := 759) hx hb dL_law_33 (by decide) (by decide) (by decide) (by decide) (law_19 Rel hx hb S hX hbl hbA B g1 g2 g3 g4 g5 h_sets hend x xl y H locs ls I hRel lv)
      | 20, _ => exact lv_tableIn (x := nI 20) (off := 749) (tgt := 782) hx hb dL_law_33 (by decide) (by decide) (by decide) (by decide) (law_20 Rel hx hb S hX hbl hbA B g1 g2 g3 g4 g5 h_watch hend x xl y H locs ls I hRel lv)
      | 21, _ => exact lv_tableIn (x := nI 21) (off := 762) (tgt := 795) hx hb dL_law_33 (by decide) (by decide) (by decide) (by decide) (law_21 Rel hx hb S hX hbl hbA B g1 g2 g3 g4 g5 h_gout hend x xl y H locs ls I hRel lv)
      | 22, _ => exact lv_tableIn (x := nI 22) (off := 826) (tgt := 859) hx hb dL_law_33 (by decide) (by decide) (by decide) (by decide) (law_22 Rel hx hb S hX hbl hbA B g1 g2 g3 g4 g5 h_years hend x xl y H locs ls I hRel lv)
      | 23, _ => exact lv_tableIn (x := nI 23) (off := 869) (tgt := 902) hx hb dL_law_33 (by decide) (by decide) (by decide) (by decide) (law_23 Rel hx hb S hX hbl hbA B g1 g2 g3 g4 g5 h_sheet hend x xl y H locs ls I hRel lv)
      | 24, _ => exact lv_tableIn (x := nI 24) (off := 912) (tgt := 945) hx hb dL_law_33 (by decide) (by decide) (by decide) (by decide) (law_24 Rel hx hb S hX hbl hbA B g1 g2 g3 g4 g5 h_lose hend x xl y H locs ls I hRel lv)
      | 25, _ => exact lv_tableIn (x := nI 25) (off := 935) (tgt := 968) hx hb dL_law_33 (by decide) (by decide) (by decide) (by decide) (law_25 Rel hx hb S hX hbl hbA B g1 g2 g3 g4 g5 h_lay hend x xl y H locs ls I hRel lv)
      | 26, _ => exact lv_tableIn (x := nI 26) (off := 988) (tgt := 1021) hx hb dL_law_33 (by decide) (by decide) (by decide) (by decide) (law_26 Rel hx hb S hX hbl hbA B g1 g2 g3 g4 g5 h_get hend x xl y H locs ls I hRel lv)
      | 27, _ => exact lv_tableIn (x := nI 27) (off := 1031) (tgt := 1064) hx hb dL_law_33 (by decide) (by decide) (by decide) (by decide) (law_27 Rel hx hb S hX hbl hbA B g1 g2 g3 g4 g5 h_copy hend x xl y H locs ls I hRel lv)
      | 28, _ => exact lv_tableIn (x := nI 28) (off := 1094) (tgt := 1127) hx hb dL_law_33 (by decide) (by decide) (by decide) (by decide) (law_28 Rel hx hb S hX hbl hbA B g1 g2 g3 g4 g5 h_write hend x xl y H locs ls I hRel lv)
      | 29, _ => exact lv_tableIn (x := nI 29) (off := 1127) (tgt := 1160) hx hb dL_law_33 (by decide) (by decide) (by decide) (by decide) (law_29 Rel hx hb S hX hbl hbA B g1 g2 g3 g4 g5 h_count hend x xl y H locs ls I hRel lv)
      | 30, _ => exact lv_tableIn (x := nI 30) (off := 1150) (tgt := 1183) hx hb dL_law_33 (by decide) (by decide) (by decide) (by decide) (law_30 Rel hx hb S hX hbl hbA B g1 g2 g3 g4 g5 h_digest hend x xl y H locs ls I hRel lv)
      | 31, _ => exact lv_tableOut (x := nI 31) (tgt := 1197) hx hb dL_law_33 (by decide) (by decide) (hend x xl y H locs ls I hRel lv)
      | k + 32, h => exact absurd h (by omega)
