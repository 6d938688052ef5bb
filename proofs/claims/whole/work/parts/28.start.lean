/-! FROM THE LAW'S ENTRY TO ITS LOOP -/
theorem xW_fst (E : xE) (h : Mem) (hl : MemL) : (wW (wdX E) h hl).map Prod.fst = (List.range 55).map E.2.1 := rfl
theorem mW_fst (E : xE) (h : Mem) (hl : MemL) : (wW (wdM E) h hl).map Prod.fst = (List.range 19).map E.2.1 := rfl
theorem fst_at {ws : va_W} {N : Nat} {ad : Nat → Nat} (hf : ws.map Prod.fst = (List.range N).map ad) {k : Nat} {q : Nat × va_E} (hq : ws[k]? = some q) : k < N ∧ q.1 = ad k := by
  have h1 : (ws.map Prod.fst)[k]? = some q.1 := by rw [List.getElem?_map, hq]; rfl
  rw [hf, List.getElem?_map] at h1
  cases hk : (List.range N)[k]? with
  | none => rw [hk] at h1; cases h1
  | some j =>
    rw [hk] at h1
    have hlt : k < N := by
      have := (List.getElem?_eq_some_iff.mp hk).1
      simpa using this
    have hj : j = k := by
      rw [List.getElem?_range hlt] at hk
      exact (Option.some.inj hk).symm
    subst hj
    exact ⟨hlt, (Option.some.inj h1).symm⟩
theorem fst_of {ws : va_W} {N : Nat} {ad : Nat → Nat} (hf : ws.map Prod.fst = (List.range N).map ad) {k : Nat} (hk : k < N) : ∃ q : Nat × va_E, ws[k]? = some q ∧ q.1 = ad k := by
  have h1 : (ws.map Prod.fst)[k]? = some (ad k) := by rw [hf, List.getElem?_map, List.getElem?_range hk]; rfl
  rw [List.getElem?_map] at h1
  cases hq : ws[k]? with
  | none => rw [hq] at h1; cases h1
  | some q => rw [hq] at h1; exact ⟨q, rfl, Option.some.inj h1⟩
theorem fst_D {ws : va_W} {N : Nat} {ad : Nat → Nat} (hf : ws.map Prod.fst = (List.range N).map ad) (inj : ∀ i j, i < N → j < N → ad i = ad j → i = j) : va_D (fun q => ∃ k, k < N ∧ q = ad k) ws :=
  ⟨fun i j p q hp hq hpq => by
    obtain ⟨h1, h2⟩ := fst_at hf hp
    obtain ⟨h3, h4⟩ := fst_at hf hq
    exact inj i j h1 h3 (by rw [← h2, ← h4]; exact hpq), fun k q hq => ⟨k, fst_at hf hq⟩⟩
theorem app_l {w1 w2 : va_W} {k : Nat} {q : Nat × va_E} (h : w1[k]? = some q) : (w1 ++ w2)[k]? = some q := by
  rw [List.getElem?_append_left (List.getElem?_eq_some_iff.mp h).1]; exact h
theorem app_r {w1 w2 : va_W} {k : Nat} {q : Nat × va_E} (h : w2[k]? = some q) : (w1 ++ w2)[w1.length + k]? = some q := by
  rw [List.getElem?_append_right (by omega), show w1.length + k - w1.length = k by omega]; exact h
theorem z_LB {E : xE} {qx qm : Nat → Nat} {s : State} (hKx : va_K E.1 clsAll [(E.2.2.1 0, .int), (E.2.2.1 1, .boolean), (E.2.2.1 2, .long), (E.2.2.1 3, .object "KingsYear$Sheet")] s) (hKm : va_K E.1 clsAll [(E.2.2.1 0, .int)] s)
    (hTb : ∀ (k : Nat) (q : Nat × Nat × (Nat → Int32)), (kgX E).2.2.1[k]? = some q → va_T .int q.1 q.2.1 (fun j => .int (q.2.2 j)) (nA s) s s.heap) (hFd : ∀ (k : Nat) (q : String × String × Nat), (kgX E).2.2.2[k]? = some q → va_Z q.1 q.2.1 "[I" (.ref q.2.2) (nA s) s s.heap)
    {x y : Mem} {xl yl : MemL} (hD : va_D (aA s.heap.size s.heap.size) (wW (wdX (E.1, qx, E.2.2.1, E.2.2.2)) x xl ++ wW (wdM (E.1, qm, E.2.2.1, E.2.2.2)) y yl)) : LB (E.1, qx, E.2.2.1, E.2.2.2) (E.1, qm, E.2.2.1, E.2.2.2) s := by
  have fx := xW_fst (E.1, qx, E.2.2.1, E.2.2.2) x xl
  have fm := mW_fst (E.1, qm, E.2.2.1, E.2.2.2) y yl
  have hnr : ∀ q, aA s.heap.size s.heap.size q → s.heap.size ≤ q := fun q h => by rcases h with h | h; exact Nat.le_of_eq h.symm; exact h
  have injx : ∀ i j, i < 55 → j < 55 → qx i = qx j → i = j := by
    intro i j hi hj hij
    obtain ⟨p, hp, ep⟩ := fst_of fx hi
    obtain ⟨q, hq, eq⟩ := fst_of fx hj
    exact hD.1 i j p q (app_l hp) (app_l hq) (by rw [ep, eq]; exact hij)
  have injm : ∀ i j, i < 19 → j < 19 → qm i = qm j → i = j := by
    intro i j hi hj hij
    obtain ⟨p, hp, ep⟩ := fst_of fm hi
    obtain ⟨q, hq, eq⟩ := fst_of fm hj
    have := hD.1 _ _ p q (app_r hp) (app_r hq) (by rw [ep, eq]; exact hij)
    omega
  refine ⟨?_, ?_, ?_, hKx, fun h hl => fst_D (xW_fst _ h hl) injx, hKm, fun h hl => fst_D (mW_fst _ h hl) injm, hTb, hFd⟩
  · rintro q ⟨k, hk, rfl⟩
    obtain ⟨p, hp, ep⟩ := fst_of fx hk
    have := hnr _ (hD.2 k p (app_l hp))
    rw [ep] at this
    exact this
  · rintro q ⟨k, hk, rfl⟩
    obtain ⟨p, hp, ep⟩ := fst_of fm hk
    have := hnr _ (hD.2 _ p (app_r hp))
    rw [ep] at this
    exact this
  · rintro q ⟨k, hk, rfl⟩ ⟨j, hj, e⟩
    obtain ⟨p, hp, ep⟩ := fst_of fx hk
    obtain ⟨r, hr, er⟩ := fst_of fm hj
    have h1 := hD.1 k _ p r (app_l hp) (app_r hr) (by rw [ep, er]; exact e)
    have h2 : (wW (wdX (E.1, qx, E.2.2.1, E.2.2.2)) x xl).length = 55 := rfl
    rw [h2] at h1
    omega
theorem z_LI {E : xE} {qx qm : Nat → Nat} {s : State} {H : Heap} {locs : List Loc} {x y : Mem} {xl yl : MemL} (Dy : gD (kgM E) s.heap.size (wW (wdX (E.1, qx, E.2.2.1, E.2.2.2)) x xl ++ wW (wdM (E.1, qm, E.2.2.1, E.2.2.2)) y yl) s H locs) : LI (E.1, qx, E.2.2.1, E.2.2.2) (E.1, qm, E.2.2.1, E.2.2.2) x xl y s H locs := by
  obtain ⟨hP, hD, hS⟩ := Dy
  refine ⟨fun k q hq => hP k q (app_l hq), fun k q hq => hP _ q (app_r hq), hS.1, fun q h1 h2 => hS.2.1 q h1 (fun h => h2 ?_), fun q hq => ?_⟩
  · rcases h with h | h
    · exact Nat.le_of_eq h.symm
    · exact h
  · rcases hS.2.2 q hq with h | h
    · exact Nat.le_of_eq h.symm
    · exact h
section ZInit
variable {p : Program} {l : Launch} {e : Env} {R : Room} {s : State} {m : MethodId} {args : Array Value} {below : List Frame} {meth : Method} {c : Code} {H : Heap} {locs : List Loc} {cells slots : Nat} {Q : State → Prop}
variable {cc : ByteArray} {nL pc : Nat} {ls : Array Slot} {rest : List Value} {own : String} {g : Kg} {ws : va_W}
theorem z_new {index ci N : Nat} {Cn : String} {T : u_T} {fs : List Value} {tys : List (ClassId × FieldType)} (hx : p.tables.exec = Jvm.exec) (hb : c.code = cc) (hts : ∀ w ∈ lw_big, w.before args s = true) (hown : s.vm.findClass own = some m.cls) (Dy : gD g s.heap.size ws s H locs) (hK : va_K g.1 clsAll tys s) (hc : clsAll[ci]? = some (Cn, T, N)) (hin : ∀ x ∈ u_ws Cn T N, x ∈ lw_big) (ty0 : Nat → FieldType) (hty : ∀ k, k < N → parseFieldDescriptor (T k).2.2.1 = some (ty0 k)) (hcl : Cond.classLink own index Cn ∈ lw_big) (hinst : Cond.instantiable Cn N ∈ lw_big) (hini : Cond.initialized Cn ∈ lw_big) (hfs : ∀ j, j < N → defaultValue (ty0 j) = vp_V fs j) (hcells : cells + 1 ≤ R.cells) (hslots : slots + N ≤ R.slots) (hdg : decode cc pc = .ok (.new index, 3))
    (kk : ∀ (q : Nat) (H1 : Heap), gD g s.heap.size (ws ++ [(q, .inr (ci, fs))]) s H1 locs → W p l e R s m args below meth c H1 locs (cells + 1) (slots + N) Q (F0 m (pc + 3) ls (.ref q :: rest))) : W p l e R s m args below meth c H locs cells slots Q (F0 m pc ls rest) :=
  va_new hx hb hts hin ty0 hty hown (hts _ hcl) (hts _ hinst) (hts _ hini) hK Dy.1 Dy.2.1 Dy.2.2 (fun q h => Or.inr h) hc hfs hcells hslots hdg (fun q H1 hP hD hS => kk q H1 ⟨hP, hD, hS⟩)
theorem z_pre {nest : List (Nat × MethodName)} {over : List String} {As : List Value} {a1 : Nat} {e1 : va_E} (hst0 : cS g (aA s.heap.size s.heap.size) s s.heap) (hN : cN nest over s) (Dy : gD g s.heap.size (ws ++ [(a1, e1)]) s H locs) : ∀ U : State, U.heap = H → s.WarmedH U.vm → cPc g nest over As a1 H.size e1 As.toArray U := by
  intro U hU hW
  have hlast : (ws ++ [(a1, e1)])[ws.length]? = some (a1, e1) := by simp
  have hA1 : aA s.heap.size s.heap.size a1 := Dy.2.1.2 _ _ hlast
  have hst : cS g (aA s.heap.size s.heap.size) U H := (hst0.kept (fun a h1 h2 => Dy.2.2.2.1 a h1 h2)).moved hW.alike
  refine ⟨rfl, by rw [hU], ?_, ?_, ?_, ?_⟩
  · rw [hU]
    refine hst.narrow (fun x hx => ?_)
    rcases hx with rfl | hx
    · exact hA1
    · exact Or.inr (Nat.le_trans Dy.2.2.1 hx)
  · rw [hU]
    intro k z hk
    cases k with
    | zero => cases hk; exact Dy.1 _ _ hlast
    | succ k => simp at hk
  · exact fun q hq => va_Nw.warmM hW (hN.1 q hq)
  · exact fun C hC => va_AO.moved hW.alike (hN.2 C hC)
theorem z_runI {nest : List (Nat × MethodName)} {over : List String} {y : MethodName} {bytes : ByteArray} {maxL index n mc ms a1 : Nat} {rm : Room} {As st0 : List Value} {e1 : va_E} {Qc : Array Value → State → Outcome → State → Prop} {free : Addr → Prop} (S : CallFix p m c cc nL s args lw_big own) (hst0 : cS g (aA s.heap.size s.heap.size) s s.heap) (hN : cN nest over s) (Dy : gD g s.heap.size (ws ++ [(a1, e1)]) s H locs)
    (hM : Met l y (wsU y bytes maxL none) rm (cPc g nest over (.ref a1 :: As) a1 H.size e1) Qc mc ms free) (hcode : Cond.code y bytes maxL none ∈ lw_big) (hlk : Cond.methodLink own index y ∈ lw_big) (hini : Cond.initialized y.cls ∈ lw_big) (hins : Cond.instanceMethod y ∈ lw_big) (hd : y.cls ≠ "java/lang/invoke/MethodHandle" ∧ y.cls ≠ "java/lang/invoke/VarHandle" ∧ (parseMethodDescriptor y.desc).map (fun d => d.parameters.length) = some n) (hnm : y.name = "<init>") (h0 : rm.cells = mc) (h1 : rm.slots = ms) (hR : rm.frames + 1 ≤ R.frames ∧ 8 + (maxL + 11) + rm.locals ≤ R.locals) (hn : As.length = n) (hsz : ls.size = nL) (hst : st0 = As.reverse ++ .ref a1 :: rest) (hW : (rest.map fun v => v.category).sum ≤ 8) (hdg : decode cc pc = .ok (.invokespecial index, 3)) (hf : cells + mc ≤ R.cells ∧ slots + ms ≤ R.slots) :
    va_Run p l e R s m args below meth c H locs cells slots mc ms (F0 m pc ls st0) rest (Qc (Value.ref a1 :: As).toArray) free :=
  va_runI S hM ⟨callB_of n S.2.2.2.2 (goodU hcode) rfl h0 h1 (S.2.2.2.2 _ hini) (S.2.2.2.2 _ hlk) hd hR, hnm, S.2.2.2.2 _ hins⟩ ⟨cPc.blind, z_pre hst0 hN Dy⟩ rfl hn hsz hst (lv_room hW) hdg hf
end ZInit
theorem o_1 : Cond.initialized RX9 ∈ lw_big := mem_tab 1 (by decide +kernel) (by decide +kernel)
theorem o_12 : Cond.initialized RX10 ∈ lw_big := mem_tab 12 (by decide +kernel) (by decide +kernel)
theorem o_16 : Cond.classLink RL 7 RX9 ∈ lw_big := mem_tab 16 (by decide +kernel) (by decide +kernel)
theorem o_17 : Cond.instantiable RX9 14 ∈ lw_big := mem_tab 17 (by decide +kernel) (by decide +kernel)
theorem o_18 : Cond.methodLink RL 9 yX9_init ∈ lw_big := mem_tab 18 (by decide +kernel) (by decide +kernel)
theorem o_19 : Cond.instanceMethod yX9_init ∈ lw_big := mem_tab 19 (by decide +kernel) (by decide +kernel)
theorem o_20 : Cond.code yX9_init cX9_init 2 none ∈ lw_big := mem_tab 20 (by decide +kernel) (by decide +kernel)
theorem o_25 : Cond.instantiable RX7 9 ∈ lw_big := mem_tab 25 (by decide +kernel) (by decide +kernel)
theorem o_66 : Cond.arrayClass .int ∈ lw_big := mem_tab 66 (by decide +kernel) (by decide +kernel)
theorem o_72 : Cond.instantiable RX0 14 ∈ lw_big := mem_tab 72 (by decide +kernel) (by decide +kernel)
theorem o_121 : Cond.arrayClass .boolean ∈ lw_big := mem_tab 121 (by decide +kernel) (by decide +kernel)
theorem o_123 : Cond.instantiable RX4 3 ∈ lw_big := mem_tab 123 (by decide +kernel) (by decide +kernel)
theorem o_143 : Cond.instantiable RX6 3 ∈ lw_big := mem_tab 143 (by decide +kernel) (by decide +kernel)
theorem o_162 : Cond.instantiable RX3 3 ∈ lw_big := mem_tab 162 (by decide +kernel) (by decide +kernel)
theorem o_180 : Cond.instantiable RX5 3 ∈ lw_big := mem_tab 180 (by decide +kernel) (by decide +kernel)
theorem o_198 : Cond.instantiable RX2 10 ∈ lw_big := mem_tab 198 (by decide +kernel) (by decide +kernel)
theorem o_239 : Cond.instantiable RX1 6 ∈ lw_big := mem_tab 239 (by decide +kernel) (by decide +kernel)
theorem o_265 : Cond.arrayClass .long ∈ lw_big := mem_tab 265 (by decide +kernel) (by decide +kernel)
theorem o_268 : Cond.instantiable RX8 3 ∈ lw_big := mem_tab 268 (by decide +kernel) (by decide +kernel)
theorem o_807 : Cond.classLink RL 10 RX10 ∈ lw_big := mem_tab 807 (by decide +kernel) (by decide +kernel)
theorem o_808 : Cond.instantiable RX10 25 ∈ lw_big := mem_tab 808 (by decide +kernel) (by decide +kernel)
theorem o_809 : Cond.methodLink RL 12 yX10_init ∈ lw_big := mem_tab 809 (by decide +kernel) (by decide +kernel)
theorem o_810 : Cond.instanceMethod yX10_init ∈ lw_big := mem_tab 810 (by decide +kernel) (by decide +kernel)
theorem o_811 : Cond.code yX10_init cX10_init 2 none ∈ lw_big := mem_tab 811 (by decide +kernel) (by decide +kernel)
set_option maxHeartbeats 8000000 in
set_option maxRecDepth 100000 in
/-- the law, from its entry, for any relation that holds at first and that the 31 calls keep -/
theorem whole_open (Rel : Mem → MemL → Mem → Prop) (h_type : s_type Rel) (h_wipe : s_wipe Rel) (h_undo : s_undo Rel) (h_fault : s_fault Rel) (h_law : s_law Rel) (h_want : s_want Rel) (h_trial : s_trial Rel) (h_breach : s_breach Rel) (h_back : s_back Rel) (h_binds : s_binds Rel) (h_does : s_does Rel) (h_joy : s_joy Rel) (h_quarrels : s_quarrels Rel) (h_exempt : s_exempt Rel) (h_keep : s_keep Rel) (h_order : s_order Rel) (h_seen : s_seen Rel) (h_forget : s_forget Rel) (h_read : s_read Rel) (h_sets : s_sets Rel) (h_watch : s_watch Rel) (h_gout : s_gout Rel) (h_years : s_years Rel) (h_sheet : s_sheet Rel) (h_lose : s_lose Rel) (h_lay : s_lay Rel) (h_get : s_get Rel) (h_copy : s_copy Rel) (h_write : s_write Rel) (h_count : s_count Rel) (h_digest : s_digest Rel) (h0 : Rel iX0 iXL0 iM0) {p : Program} {e : Env} {s : State} {m : MethodId} {below : List Frame} {meth : Method} {c : Code} (l : Launch) {b L : Nat} {xs : Nat → Int32} (hL : L ≤ 384) (C0 : lw_At p s m meth c b L xs) : W p l e room_1 s m #[Value.ref b] below meth c s.heap [] 0 0 (lw_Z below #[Value.ref b] s) (entryFrame m ([Value.ref b] : List Value).toArray 4) := by
  obtain ⟨hx, hb, hr, hml, hown, hts, hX, hbl, hlocks, hgv⟩ := id C0
  have hW : ∀ w ∈ lw_big, w.before #[Value.ref b] s = true := fun w hw => hts w (lw_big_in hw)
  have hT : ∀ w ∈ tables_1, w.before #[Value.ref b] s = true := fun w hw => hts w (List.mem_append_right _ hw)
  have hq := flat_of_before _ hgv
  obtain ⟨c0, i0, hK0⟩ := u_known (C := RX0) (T := TX0) (N := 14) (n := 14) hW u_X0 (hW _ o_72)
  obtain ⟨c1, i1, hK1⟩ := u_known (C := RX1) (T := TX1) (N := 6) (n := 6) hW u_X1 (hW _ o_239)
  obtain ⟨c2, i2, hK2⟩ := u_known (C := RX2) (T := TX2) (N := 10) (n := 10) hW u_X2 (hW _ o_198)
  obtain ⟨c3, i3, hK3⟩ := u_known (C := RX3) (T := TX3) (N := 3) (n := 3) hW u_X3 (hW _ o_162)
  obtain ⟨c4, i4, hK4⟩ := u_known (C := RX4) (T := TX4) (N := 3) (n := 3) hW u_X4 (hW _ o_123)
  obtain ⟨c5, i5, hK5⟩ := u_known (C := RX5) (T := TX5) (N := 3) (n := 3) hW u_X5 (hW _ o_180)
  obtain ⟨c6, i6, hK6⟩ := u_known (C := RX6) (T := TX6) (N := 3) (n := 3) hW u_X6 (hW _ o_143)
  obtain ⟨c7, i7, hK7⟩ := u_known (C := RX7) (T := TX7) (N := 9) (n := 9) hW u_X7 (hW _ o_25)
  obtain ⟨c8, i8, hK8⟩ := u_known (C := RX8) (T := TX8) (N := 3) (n := 3) hW u_X8 (hW _ o_268)
  obtain ⟨c9, i9, hK9⟩ := u_known (C := RX9) (T := TX9) (N := 14) (n := 14) hW u_X9 (hW _ o_17)
  obtain ⟨c10, i10, hK10⟩ := u_known (C := RX10) (T := TX10) (N := 25) (n := 25) hW u_X10 (hW _ o_808)
  obtain ⟨cI, kI, mI, fI1, fI2, fI3⟩ := Cond.arrayClass_spec (hW _ o_66)
  obtain ⟨cZ, kZ, mZ, fZ1, fZ2, fZ3⟩ := Cond.arrayClass_spec (hW _ o_121)
  obtain ⟨cJ, kJ, mJ, fJ1, fJ2, fJ3⟩ := Cond.arrayClass_spec (hW _ o_265)
  obtain ⟨mS, cS1, kS, fS1, fS2, fS3, fS4, fS5⟩ := Cond.arrayOver_spec (n := "KingsYear$Sheet") (hT _ (List.mem_of_getElem? (i := 267) (by decide +kernel)))
  have hAO : va_AO "KingsYear$Sheet" s := va_AO.of (A := #[Value.ref b]) (hT _ (List.mem_of_getElem? (i := 267) (by decide +kernel)))
  have hnew : ∀ a : Nat, a < s.heap.size → ¬ nA s a := fun a h1 h2 => Nat.not_le.mpr h1 h2
  obtain ⟨t0, et0, hT0⟩ := va_Tof (tm := (Term.static "KingsYear" "LAW_LEAST" "[I")) (ty := .int) (N := 5) (f := fun j => .int (tabF 0 j)) (A := nA s) (args := #[Value.ref b]) (s := s) (by decide) (hq _ (by decide +kernel)) (va_eqt (hq _ (by decide +kernel))) (fun j hj => by
    match j, hj with
    | 0, _ => exact va_eqt (t := .elem (Term.static "KingsYear" "LAW_LEAST" "[I") (.int 0)) (z := 109) (hq _ (by decide +kernel))
    | 1, _ => exact va_eqt (t := .elem (Term.static "KingsYear" "LAW_LEAST" "[I") (.int 1)) (z := 65) (hq _ (by decide +kernel))
    | 2, _ => exact va_eqt (t := .elem (Term.static "KingsYear" "LAW_LEAST" "[I") (.int 2)) (z := 97) (hq _ (by decide +kernel))
    | 3, _ => exact va_eqt (t := .elem (Term.static "KingsYear" "LAW_LEAST" "[I") (.int 3)) (z := 97) (hq _ (by decide +kernel))
    | 4, _ => exact va_eqt (t := .elem (Term.static "KingsYear" "LAW_LEAST" "[I") (.int 4)) (z := 48) (hq _ (by decide +kernel))
    | k + 5, h => exact absurd h (by omega)) hnew
  have hZ0 := va_Zof (C := "KingsYear") (n := "LAW_LEAST") (d := "[I") (A := nA s) (hT _ (List.mem_of_getElem? (i := 27) (by decide +kernel))) (hW _ o_1) et0 hnew
  obtain ⟨t1, et1, hT1⟩ := va_Tof (tm := (Term.static "KingsYear" "LAW_MOST" "[I")) (ty := .int) (N := 5) (f := fun j => .int (tabF 1 j)) (A := nA s) (args := #[Value.ref b]) (s := s) (by decide) (hq _ (by decide +kernel)) (va_eqt (hq _ (by decide +kernel))) (fun j hj => by
    match j, hj with
    | 0, _ => exact va_eqt (t := .elem (Term.static "KingsYear" "LAW_MOST" "[I") (.int 0)) (z := 110) (hq _ (by decide +kernel))
    | 1, _ => exact va_eqt (t := .elem (Term.static "KingsYear" "LAW_MOST" "[I") (.int 1)) (z := 70) (hq _ (by decide +kernel))
    | 2, _ => exact va_eqt (t := .elem (Term.static "KingsYear" "LAW_MOST" "[I") (.int 2)) (z := 120) (hq _ (by decide +kernel))
    | 3, _ => exact va_eqt (t := .elem (Term.static "KingsYear" "LAW_MOST" "[I") (.int 3)) (z := 120) (hq _ (by decide +kernel))
    | 4, _ => exact va_eqt (t := .elem (Term.static "KingsYear" "LAW_MOST" "[I") (.int 4)) (z := 57) (hq _ (by decide +kernel))
    | k + 5, h => exact absurd h (by omega)) hnew
  have hZ1 := va_Zof (C := "KingsYear") (n := "LAW_MOST") (d := "[I") (A := nA s) (hT _ (List.mem_of_getElem? (i := 29) (by decide +kernel))) (hW _ o_1) et1 hnew
  obtain ⟨t2, et2, hT2⟩ := va_Tof (tm := (Term.static "KingsYear" "WANT_LEAST" "[I")) (ty := .int) (N := 3) (f := fun j => .int (tabF 2 j)) (A := nA s) (args := #[Value.ref b]) (s := s) (by decide) (hq _ (by decide +kernel)) (va_eqt (hq _ (by decide +kernel))) (fun j hj => by
    match j, hj with
    | 0, _ => exact va_eqt (t := .elem (Term.static "KingsYear" "WANT_LEAST" "[I") (.int 0)) (z := 65) (hq _ (by decide +kernel))
    | 1, _ => exact va_eqt (t := .elem (Term.static "KingsYear" "WANT_LEAST" "[I") (.int 1)) (z := 97) (hq _ (by decide +kernel))
    | 2, _ => exact va_eqt (t := .elem (Term.static "KingsYear" "WANT_LEAST" "[I") (.int 2)) (z := 49) (hq _ (by decide +kernel))
    | k + 3, h => exact absurd h (by omega)) hnew
  have hZ2 := va_Zof (C := "KingsYear") (n := "WANT_LEAST") (d := "[I") (A := nA s) (hT _ (List.mem_of_getElem? (i := 68) (by decide +kernel))) (hW _ o_1) et2 hnew
  obtain ⟨t3, et3, hT3⟩ := va_Tof (tm := (Term.static "KingsYear" "WANT_MOST" "[I")) (ty := .int) (N := 3) (f := fun j => .int (tabF 3 j)) (A := nA s) (args := #[Value.ref b]) (s := s) (by decide) (hq _ (by decide +kernel)) (va_eqt (hq _ (by decide +kernel))) (fun j hj => by
    match j, hj with
    | 0, _ => exact va_eqt (t := .elem (Term.static "KingsYear" "WANT_MOST" "[I") (.int 0)) (z := 70) (hq _ (by decide +kernel))
    | 1, _ => exact va_eqt (t := .elem (Term.static "KingsYear" "WANT_MOST" "[I") (.int 1)) (z := 120) (hq _ (by decide +kernel))
    | 2, _ => exact va_eqt (t := .elem (Term.static "KingsYear" "WANT_MOST" "[I") (.int 2)) (z := 57) (hq _ (by decide +kernel))
    | k + 3, h => exact absurd h (by omega)) hnew
  have hZ3 := va_Zof (C := "KingsYear") (n := "WANT_MOST") (d := "[I") (A := nA s) (hT _ (List.mem_of_getElem? (i := 70) (by decide +kernel))) (hW _ o_1) et3 hnew
  obtain ⟨t4, et4, hT4⟩ := va_Tof (tm := (Term.static "KingsYear" "DIGEST_YEARS" "[I")) (ty := .int) (N := 3) (f := fun j => .int (tabF 4 j)) (A := nA s) (args := #[Value.ref b]) (s := s) (by decide) (hq _ (by decide +kernel)) (va_eqt (hq _ (by decide +kernel))) (fun j hj => by
    match j, hj with
    | 0, _ => exact va_eqt (t := .elem (Term.static "KingsYear" "DIGEST_YEARS" "[I") (.int 0)) (z := 0) (hq _ (by decide +kernel))
    | 1, _ => exact va_eqt (t := .elem (Term.static "KingsYear" "DIGEST_YEARS" "[I") (.int 1)) (z := 3) (hq _ (by decide +kernel))
    | 2, _ => exact va_eqt (t := .elem (Term.static "KingsYear" "DIGEST_YEARS" "[I") (.int 2)) (z := 29) (hq _ (by decide +kernel))
    | k + 3, h => exact absurd h (by omega)) hnew
  have hZ4 := va_Zof (C := "KingsYear") (n := "DIGEST_YEARS") (d := "[I") (A := nA s) (hT _ (List.mem_of_getElem? (i := 789) (by decide +kernel))) (hW _ o_1) et4 hnew
  obtain ⟨t5, et5, hT5⟩ := va_Tof (tm := (Term.static "KingsYear" "DIGEST_HOURS" "[I")) (ty := .int) (N := 3) (f := fun j => .int (tabF 5 j)) (A := nA s) (args := #[Value.ref b]) (s := s) (by decide) (hq _ (by decide +kernel)) (va_eqt (hq _ (by decide +kernel))) (fun j hj => by
    match j, hj with
    | 0, _ => exact va_eqt (t := .elem (Term.static "KingsYear" "DIGEST_HOURS" "[I") (.int 0)) (z := 0) (hq _ (by decide +kernel))
    | 1, _ => exact va_eqt (t := .elem (Term.static "KingsYear" "DIGEST_HOURS" "[I") (.int 1)) (z := 8) (hq _ (by decide +kernel))
    | 2, _ => exact va_eqt (t := .elem (Term.static "KingsYear" "DIGEST_HOURS" "[I") (.int 2)) (z := 20) (hq _ (by decide +kernel))
    | k + 3, h => exact absurd h (by omega)) hnew
  have hZ5 := va_Zof (C := "KingsYear") (n := "DIGEST_HOURS") (d := "[I") (A := nA s) (hT _ (List.mem_of_getElem? (i := 799) (by decide +kernel))) (hW _ o_1) et5 hnew
  obtain ⟨E, hE⟩ : ∃ E : xE, E = (((fun k => ([c0, c1, c2, c3, c4, c5, c6, c7, c8, c9, c10] : List ClassId).getD k c0), (fun k => ([i0, i1, i2, i3, i4, i5, i6, i7, i8, i9, i10] : List (Nat → Nat)).getD k i0)), (fun _ => 0), (fun k => ([cI, cZ, cJ, cS1] : List ClassId).getD k cI), (fun k => ([t0, t1, t2, t3, t4, t5] : List Nat).getD k 0)) := ⟨_, rfl⟩
  have hKc : ∀ (k : Nat) (q : vw_C), clsAll[k]? = some q → u_Kn s q.1 q.2.1 q.2.2 (E.1.1 k) (E.1.2 k) := by
    intro k q hk; subst hE
    match k, hk with
    | 0, hk => cases hk; exact hK0
    | 1, hk => cases hk; exact hK1
    | 2, hk => cases hk; exact hK2
    | 3, hk => cases hk; exact hK3
    | 4, hk => cases hk; exact hK4
    | 5, hk => cases hk; exact hK5
    | 6, hk => cases hk; exact hK6
    | 7, hk => cases hk; exact hK7
    | 8, hk => cases hk; exact hK8
    | 9, hk => cases hk; exact hK9
    | 10, hk => cases hk; exact hK10
    | k + 11, hk => simp [clsAll] at hk
  have hKx : va_K E.1 clsAll [(E.2.2.1 0, .int), (E.2.2.1 1, .boolean), (E.2.2.1 2, .long), (E.2.2.1 3, .object "KingsYear$Sheet")] s := by
    refine ⟨hKc, fun k q hk => ?_⟩; subst hE
    match k, hk with
    | 0, hk => cases hk; exact ⟨fun n z => ⟨fun k h => (by cases h), kI, fI2, mI, fI3⟩, fI1⟩
    | 1, hk => cases hk; exact ⟨fun n z => ⟨fun k h => (by cases h), kZ, fZ2, mZ, fZ3⟩, fZ1⟩
    | 2, hk => cases hk; exact ⟨fun n z => ⟨fun k h => (by cases h), kJ, fJ2, mJ, fJ3⟩, fJ1⟩
    | 3, hk => cases hk; exact ⟨fun n z => ⟨fun k h => (by cases h), kS, fS3, mS, fS4⟩, kS, mS, fS3, fS4, fS1, fS5⟩
    | k + 4, hk => simp at hk
  have hKm : va_K E.1 clsAll [(E.2.2.1 0, .int)] s := hKx.sub [0] rfl
  have hTb : ∀ (k : Nat) (q : Nat × Nat × (Nat → Int32)), (kgX E).2.2.1[k]? = some q → va_T .int q.1 q.2.1 (fun j => .int (q.2.2 j)) (nA s) s s.heap := by
    intro k q hk; subst hE
    match k, hk with
    | 0, hk => cases hk; exact hT0
    | 1, hk => cases hk; exact hT1
    | 2, hk => cases hk; exact hT2
    | 3, hk => cases hk; exact hT3
    | 4, hk => cases hk; exact hT4
    | 5, hk => cases hk; exact hT5
    | k + 6, hk => simp [kgX] at hk
  have hFd : ∀ (k : Nat) (q : String × String × Nat), (kgX E).2.2.2[k]? = some q → va_Z q.1 q.2.1 "[I" (.ref q.2.2) (nA s) s s.heap := by
    intro k q hk; subst hE
    match k, hk with
    | 0, hk => cases hk; exact hZ0
    | 1, hk => cases hk; exact hZ1
    | 2, hk => cases hk; exact hZ2
    | 3, hk => cases hk; exact hZ3
    | 4, hk => cases hk; exact hZ4
    | 5, hk => cases hk; exact hZ5
    | k + 6, hk => simp [kgX] at hk
  have hnr : ∀ q, aA s.heap.size s.heap.size q → nA s q := fun q h => by rcases h with h | h; exact Nat.le_of_eq h.symm; exact h
  have hSx : cS (kgX E) (aA s.heap.size s.heap.size) s s.heap := ⟨hKx, fun k q hk => (hTb k q hk).narrow hnr, fun k q hk => (hFd k q hk).narrow hnr⟩
  have hSm : cS (kgM E) (aA s.heap.size s.heap.size) s s.heap := ⟨hKm, fun k q hk => by simp [kgM] at hk, fun k q hk => by simp [kgM] at hk⟩
  have hN : cN nestX ["KingsYear$Sheet"] s := by
    refine ⟨?_, ?_⟩
    · intro q hq1
      simp only [nestX, List.mem_cons, List.not_mem_nil, or_false] at hq1
      rcases hq1 with rfl | rfl | rfl | rfl | rfl | rfl | rfl
      · exact va_Nw.of (A := #[Value.ref b]) rfl (hT _ (List.mem_of_getElem? (i := 73) (by decide +kernel)))
      · exact va_Nw.of (A := #[Value.ref b]) rfl (hT _ (List.mem_of_getElem? (i := 124) (by decide +kernel)))
      · exact va_Nw.of (A := #[Value.ref b]) rfl (hT _ (List.mem_of_getElem? (i := 163) (by decide +kernel)))
      · exact va_Nw.of (A := #[Value.ref b]) rfl (hT _ (List.mem_of_getElem? (i := 181) (by decide +kernel)))
      · exact va_Nw.of (A := #[Value.ref b]) rfl (hT _ (List.mem_of_getElem? (i := 199) (by decide +kernel)))
      · exact va_Nw.of (A := #[Value.ref b]) rfl (hT _ (List.mem_of_getElem? (i := 240) (by decide +kernel)))
      · exact va_Nw.of (A := #[Value.ref b]) rfl (hT _ (List.mem_of_getElem? (i := 269) (by decide +kernel)))
    · intro C hC; simp only [List.mem_cons, List.not_mem_nil, or_false] at hC; subst hC; exact hAO
  have hN0 : cN [] [] s := ⟨fun q h => absurd h List.not_mem_nil, fun q h => absurd h List.not_mem_nil⟩
  have Dy : gD (kgX E) s.heap.size [] s s.heap [] := ⟨fun k q h => by simp at h, ⟨fun i j p q h => by simp at h, fun k q h => by simp at h⟩, va_S.rf⟩
  have S : CallFix p m c code 4 s #[Value.ref b] lw_big RL := ⟨hx, hb, hml, hown, hW⟩
  have lv := lv_entry ([.ref b]) (n := 4) (Nat.le_of_ble_eq_true rfl)
  rw [lg_entry_eq]
  generalize (lg_sl ([.ref b]) ++ List.replicate (4 - (lg_sl ([.ref b])).length) Slot.unset).toArray = ls at lv ⊢
  have lv : lv_has ls 4 [(0, .ref b)] := lv
  refine z_new (fs := [.null, .null, .null, .null, .null, .null, .null, .null, .null, .null, .null, .null, .int 0, .int 0]) hx hb hW hown Dy hKx (ci := 9) rfl u_X9 tyX9 tyX9_ok o_16 o_17 o_1 df_X9 (Nat.le_of_ble_eq_true rfl) (Nat.le_of_ble_eq_true rfl) dL_law_0 (fun q1 H Dy => ?_)
  refine lv_dup hx hb dL_law_3 rfl ?_
  refine y_cont Dy (z_runI (n := 0) (As := []) (rest := [.ref q1]) S hSx hN Dy (c_X9 E l q1 H.size) o_20 o_18 o_1 o_19 (by decide +kernel) rfl rfl rfl ⟨Nat.le_of_ble_eq_true rfl, Nat.le_of_ble_eq_true rfl⟩ rfl lv.1 rfl (Nat.le_of_ble_eq_true rfl) dL_law_4 ⟨Nat.le_of_ble_eq_true rfl, Nat.le_of_ble_eq_true rfl⟩) (fun qx H locs hqx Dyn => ?_)
  subst hqx
  have Dy := Dyn
  refine lv_astore_n (lv' := [(1, .ref (qx 0)), (0, .ref b)]) hx hb dL_law_7 rfl lv (by decide) rfl (fun ls lv => ?_)
  refine z_new (fs := [.null, .null, .null, .null, .int 0, .null, .null, .int 0, .null, .null, .null, .int 0, .null, .int 0, .null, .null, .null, .int 0, .null, .null, .null, .int 0, .null, .null, .int 0]) hx hb hW hown Dy hKx (ci := 10) rfl u_X10 tyX10 tyX10_ok o_807 o_808 o_12 df_X10 (Nat.le_of_ble_eq_true rfl) (Nat.le_of_ble_eq_true rfl) dL_law_8 (fun q2 H Dy => ?_)
  refine lv_dup hx hb dL_law_11 rfl ?_
  have Dy : gD (kgM E) s.heap.size ((wW (wdX (E.1, qx, E.2.2.1, E.2.2.2)) iX0 iXL0) ++ [(q2, .inr (10, [.null, .null, .null, .null, .int 0, .null, .null, .int 0, .null, .null, .null, .int 0, .null, .int 0, .null, .null, .null, .int 0, .null, .null, .null, .int 0, .null, .null, .int 0]))]) s H locs := Dy
  refine y_cont Dy (z_runI (n := 0) (As := []) (rest := [.ref q2]) S hSm hN0 Dy (c_X10 E l q2 H.size) o_811 o_809 o_12 o_810 (by decide +kernel) rfl rfl rfl ⟨Nat.le_of_ble_eq_true rfl, Nat.le_of_ble_eq_true rfl⟩ rfl lv.1 rfl (Nat.le_of_ble_eq_true rfl) dL_law_12 ⟨Nat.le_of_ble_eq_true rfl, Nat.le_of_ble_eq_true rfl⟩) (fun qm H locs hqm Dyn => ?_)
  subst hqm
  have Dy := Dyn
  refine lv_astore_n (lv' := [(2, .ref (qm 0)), (1, .ref (qx 0)), (0, .ref b)]) hx hb dL_law_15 rfl lv (by decide) rfl (fun ls lv => ?_)
  refine lv_iconst (v := (0 : Int32)) hx hb dL_law_16 (by decide) ?_
  refine lv_istore_n (lv' := [(3, .int (0 : Int32)), (2, .ref (qm 0)), (1, .ref (qx 0)), (0, .ref b)]) hx hb dL_law_17 rfl lv (by decide) rfl (fun ls lv => ?_)
  refine W.widen (k := 600000) (n := 7302250) (Nat.le_of_ble_eq_true rfl) (Nat.le_of_ble_eq_true rfl) ?_
  have hLB : LB (E.1, qx, E.2.2.1, E.2.2.2) (E.1, qm, E.2.2.1, E.2.2.2) s := z_LB hKx hKm hTb hFd Dy.2.1
  have hLI : LI (E.1, qx, E.2.2.1, E.2.2.2) (E.1, qm, E.2.2.1, E.2.2.2) iX0 iXL0 iM0 s H locs := z_LI Dy
  exact law_loop Rel h_type h_wipe h_undo h_fault h_law h_want h_trial h_breach h_back h_binds h_does h_joy h_quarrels h_exempt h_keep h_order h_seen h_forget h_read h_sets h_watch h_gout h_years h_sheet h_lose h_lay h_get h_copy h_write h_count h_digest hL C0 hLB 396 0 0 (by omega) (by omega) rfl iX0 iXL0 iM0 H locs ls hLI h0 (lv_sub lv [3, 2, 1, 0] rfl)
