def p_X10_in (v0 : Int64) (v2 : Int64) (v4 : Int64) (Qp : Int32 → Prop) : Prop := Qp (if v0 < v2 then (0 : Int32) else (if v4 < v0 then (0 : Int32) else (1 : Int32)))
set_option maxHeartbeats 4000000 in
set_option maxRecDepth 100000 in
theorem m_X10_in (E : xE) (l : Launch) (h : Mem) (hl : MemL) (v0 : Int64) (v2 : Int64) (v4 : Int64) (Qp : Int32 → Prop) (hwp : p_X10_in v0 v2 v4 Qp) : Met l yX10_in (wsU yX10_in cX10_in 6 (some .boolean)) ({ frames := 0, cells := 0, slots := 0, locals := 0 } : Room) (mPc (wdM E) [.long v0, .long v2, .long v4] h hl) (mQz (wdM E) (fun r h1 hl1 => h = h1 ∧ hl = hl1 ∧ Qp r)) 0 0 (wA (wdM E)) := by
  refine x_met RX10 [(0, .long v0), (2, .long v2), (4, .long v4)] (by decide) rfl (Nat.le_of_ble_eq_true rfl) rfl ?_
  intro p e s m args below meth c ls C Dy lv
  have hx := C.x
  have hb := C.b
  have hR : 0 ≤ ({ frames := 0, cells := 0, slots := 0, locals := 0 } : Room).frames ∧ 0 ≤ ({ frames := 0, cells := 0, slots := 0, locals := 0 } : Room).locals := ⟨Nat.le_refl _, Nat.le_refl _⟩
  unfold p_X10_in at hwp
  refine lv_lload_n hx hb dX10_in_0 rfl (lv_at lv 0 rfl) ?_
  refine lv_lload_n hx hb dX10_in_1 rfl (lv_at lv 1 rfl) ?_
  refine W.lcmp hx hb dX10_in_2 ?_
  refine lv_if_lt (tgt := 17) hx hb dX10_in_3 (by decide) (fun c1 => ?_) (fun c1 => ?_)
  · try simp only [if_pos ((lg_cmp_lt _ _).mp c1)] at hwp
    refine lv_iconst (v := (0 : Int32)) hx hb dX10_in_17 (by decide) ?_
    exact x_zret C Dy z01_0 ⟨rfl, rfl, hwp⟩ dX10_in_18
  · try simp only [if_neg (fun z => c1 ((lg_cmp_lt _ _).mpr z))] at hwp
    refine lv_lload_n hx hb dX10_in_6 rfl (lv_at lv 0 rfl) ?_
    refine lv_lload hx hb dX10_in_7 (lv_at lv 2 rfl) ?_
    refine W.lcmp hx hb dX10_in_9 ?_
    refine lv_if_gt (tgt := 17) hx hb dX10_in_10 (by decide) (fun c2 => ?_) (fun c2 => ?_)
    · try simp only [if_pos ((lg_cmp_gt _ _).mp c2)] at hwp
      refine lv_iconst (v := (0 : Int32)) hx hb dX10_in_17 (by decide) ?_
      exact x_zret C Dy z01_0 ⟨rfl, rfl, hwp⟩ dX10_in_18
    · try simp only [if_neg (fun z => c2 ((lg_cmp_gt _ _).mpr z))] at hwp
      refine lv_iconst (v := (1 : Int32)) hx hb dX10_in_13 (by decide) ?_
      refine lv_goto (tgt := 18) hx hb dX10_in_14 (by decide) ?_
      exact x_zret C Dy z01_1 ⟨rfl, rfl, hwp⟩ dX10_in_18
def p_X10_no (v0 : Int32) (Qp : Int64 → Prop) : Prop := Qp ((-9223372036854775808 : Int64) - (v0.toInt64))
set_option maxHeartbeats 4000000 in
set_option maxRecDepth 100000 in
theorem m_X10_no (E : xE) (l : Launch) (h : Mem) (hl : MemL) (v0 : Int32) (Qp : Int64 → Prop) (hwp : p_X10_no v0 Qp) : Met l yX10_no (wsU yX10_no cX10_no 1 (some .long)) ({ frames := 0, cells := 0, slots := 0, locals := 0 } : Room) (mPc (wdM E) [.int v0] h hl) (mQl (wdM E) (fun r h1 hl1 => h = h1 ∧ hl = hl1 ∧ Qp r)) 0 0 (wA (wdM E)) := by
  refine x_met RX10 [(0, .int v0)] (by decide) rfl (Nat.le_of_ble_eq_true rfl) rfl ?_
  intro p e s m args below meth c ls C Dy lv
  have hx := C.x
  have hb := C.b
  have hR : 0 ≤ ({ frames := 0, cells := 0, slots := 0, locals := 0 } : Room).frames ∧ 0 ≤ ({ frames := 0, cells := 0, slots := 0, locals := 0 } : Room).locals := ⟨Nat.le_refl _, Nat.le_refl _⟩
  unfold p_X10_no at hwp
  refine lv_ldc2 hx hb C.ow (C.ts _ k_1157) dX10_no_0 ?_
  refine lv_iload_n hx hb dX10_no_3 rfl (lv_at lv 0 rfl) ?_
  refine lv_i2l hx hb dX10_no_4 rfl ?_
  refine lv_lsub hx hb dX10_no_5 ?_
  exact x_lret C Dy ⟨rfl, rfl, hwp⟩ dX10_no_6
def p_X10_isTwo (v0 : Int32) (Qp : Int32 → Prop) : Prop := (p_X10_in (v0.toInt64) (0 : Int64) (1 : Int64) (fun r1 => Qp r1))
set_option maxHeartbeats 4000000 in
set_option maxRecDepth 100000 in
theorem m_X10_isTwo (E : xE) (l : Launch) (h : Mem) (hl : MemL) (v0 : Int32) (Qp : Int32 → Prop) (hwp : p_X10_isTwo v0 Qp) : Met l yX10_isTwo (wsU yX10_isTwo cX10_isTwo 1 (some .boolean)) ({ frames := 1, cells := 0, slots := 0, locals := 25 } : Room) (mPc (wdM E) [.int v0] h hl) (mQz (wdM E) (fun r h1 hl1 => h = h1 ∧ hl = hl1 ∧ Qp r)) 0 0 (wA (wdM E)) := by
  refine x_met RX10 [(0, .int v0)] (by decide) rfl (Nat.le_of_ble_eq_true rfl) rfl ?_
  intro p e s m args below meth c ls C Dy lv
  have hx := C.x
  have hb := C.b
  have hR : 1 ≤ ({ frames := 1, cells := 0, slots := 0, locals := 25 } : Room).frames ∧ 25 ≤ ({ frames := 1, cells := 0, slots := 0, locals := 25 } : Room).locals := ⟨Nat.le_refl _, Nat.le_refl _⟩
  unfold p_X10_isTwo at hwp
  refine lv_iload_n hx hb dX10_isTwo_0 rfl (lv_at lv 0 rfl) ?_
  refine lv_i2l hx hb dX10_isTwo_1 rfl ?_
  refine lv_lconst (v := (0 : Int64)) hx hb dX10_isTwo_2 (by decide) ?_
  refine lv_lconst (v := (1 : Int64)) hx hb dX10_isTwo_3 (by decide) ?_
  refine x_cont_z Dy (x_runS (As := [.long (v0.toInt64), .long (0 : Int64), .long (1 : Int64)]) (rest := []) C Dy (m_X10_in E l _ _ (v0.toInt64) (0 : Int64) (1 : Int64) _ hwp) (cw_X10_66 C rfl rfl ⟨Nat.le_trans (Nat.le_of_ble_eq_true rfl) hR.1, Nat.le_trans (Nat.le_of_ble_eq_true rfl) hR.2⟩) rfl lv.1 rfl (Nat.le_of_ble_eq_true rfl) dX10_isTwo_4 ⟨Nat.zero_le _, Nat.zero_le _⟩) (fun r1 h2 hl2 H locs zr1 hwp Dy => ?_)
  obtain ⟨rfl, rfl, hwp⟩ := hwp
  exact x_zret C Dy zr1 ⟨rfl, rfl, hwp⟩ dX10_isTwo_7
def p_X10_isIn (v0 : Int32) (v1 : Int32) (Qp : Int32 → Prop) : Prop := Qp (if ((v0 >>> (v1 &&& 31)) &&& (1 : Int32)) = (1 : Int32) then (1 : Int32) else (0 : Int32))
set_option maxHeartbeats 4000000 in
set_option maxRecDepth 100000 in
theorem m_X10_isIn (E : xE) (l : Launch) (h : Mem) (hl : MemL) (v0 : Int32) (v1 : Int32) (Qp : Int32 → Prop) (hwp : p_X10_isIn v0 v1 Qp) : Met l yX10_isIn (wsU yX10_isIn cX10_isIn 2 (some .boolean)) ({ frames := 0, cells := 0, slots := 0, locals := 0 } : Room) (mPc (wdM E) [.int v0, .int v1] h hl) (mQz (wdM E) (fun r h1 hl1 => h = h1 ∧ hl = hl1 ∧ Qp r)) 0 0 (wA (wdM E)) := by
  refine x_met RX10 [(0, .int v0), (1, .int v1)] (by decide) rfl (Nat.le_of_ble_eq_true rfl) rfl ?_
  intro p e s m args below meth c ls C Dy lv
  have hx := C.x
  have hb := C.b
  have hR : 0 ≤ ({ frames := 0, cells := 0, slots := 0, locals := 0 } : Room).frames ∧ 0 ≤ ({ frames := 0, cells := 0, slots := 0, locals := 0 } : Room).locals := ⟨Nat.le_refl _, Nat.le_refl _⟩
  unfold p_X10_isIn at hwp
  refine lv_iload_n hx hb dX10_isIn_0 rfl (lv_at lv 0 rfl) ?_
  refine lv_iload_n hx hb dX10_isIn_1 rfl (lv_at lv 1 rfl) ?_
  refine lv_ishr hx hb dX10_isIn_2 ?_
  refine lv_iconst (v := (1 : Int32)) hx hb dX10_isIn_3 (by decide) ?_
  refine lv_iand hx hb dX10_isIn_4 ?_
  refine lv_iconst (v := (1 : Int32)) hx hb dX10_isIn_5 (by decide) ?_
  refine lv_icmp_ne (tgt := 13) hx hb dX10_isIn_6 (by decide) (fun c1 => ?_) (fun c1 => ?_)
  · try simp only [if_neg c1] at hwp
    refine lv_iconst (v := (0 : Int32)) hx hb dX10_isIn_13 (by decide) ?_
    exact x_zret C Dy z01_0 ⟨rfl, rfl, hwp⟩ dX10_isIn_14
  · try simp only [if_pos c1] at hwp
    refine lv_iconst (v := (1 : Int32)) hx hb dX10_isIn_9 (by decide) ?_
    refine lv_goto (tgt := 14) hx hb dX10_isIn_10 (by decide) ?_
    exact x_zret C Dy z01_1 ⟨rfl, rfl, hwp⟩ dX10_isIn_14
def b_X10_ones_4 : Nat → Int32 → Int32 → (Int32 → Prop) → Prop
  | 0 => fun _ _ _ => False
  | n + 1 => fun v1 v2 Qp => ((v2 = 0 → Qp v1) ∧ (¬ (v2 = 0) → (∀ x2 : Int32, x2 = (v2 &&& (v2 - (1 : Int32))) → b_X10_ones_4 n (v1 + (1 : Int32)) x2 Qp)))
def p_X10_ones (v0 : Int32) (Qp : Int32 → Prop) : Prop := (∃ n4, b_X10_ones_4 n4 (0 : Int32) v0 Qp)
set_option maxHeartbeats 4000000 in
set_option maxRecDepth 100000 in
theorem t_X10_ones_4 (E : xE) {p : Program} {l : Launch} {e : Env} {R : Room} {s : State} {m : MethodId} {args : Array Value} {below : List Frame} {meth : Method} {c : Code} (C : mC (wdM E) p s m meth c args cX10_ones 3 RX10 (some .int)) (hR : 0 ≤ R.frames ∧ 0 ≤ R.locals) {h : Mem} {hl : MemL} (Qp : Int32 → Prop) : ∀ (n : Nat) (v1 : Int32) (v2 : Int32) (H : Heap) (locs : List Loc) (ls : Array Slot), mD (wdM E) h hl s H locs → lv_has ls 3 [(1, .int v1), (2, .int v2)] → b_X10_ones_4 n v1 v2 Qp → W p l e R s m args below meth c H locs 0 0 (MQ below (mQi (wdM E) (fun r h1 hl1 => h = h1 ∧ hl = hl1 ∧ Qp r)) args s 0 0 (wA (wdM E))) (F0 m 4 ls []) := by
  have hx := C.x
  have hb := C.b
  intro n
  induction n with
  | zero => intro v1 v2 H locs ls Dy lv hwp; exact hwp.elim
  | succ n ih =>
    intro v1 v2 H locs ls Dy lv hwp
    simp only [b_X10_ones_4] at hwp
    refine lv_iload_n hx hb dX10_ones_4 rfl (lv_at lv 1 rfl) ?_
    refine lv_if_eq (tgt := 20) hx hb dX10_ones_5 (by decide) (fun c1 => ?_) (fun c1 => ?_)
    · have hwp := hwp.1 c1
      refine lv_iload_n hx hb dX10_ones_20 rfl (lv_at lv 0 rfl) ?_
      exact x_iret C Dy ⟨rfl, rfl, hwp⟩ dX10_ones_21
    · have hwp := hwp.2 c1
      refine lv_iinc (v := (v1 + (1 : Int32))) (lv' := [(1, .int (v1 + (1 : Int32))), (2, .int v2)]) hx hb dX10_ones_8 lv (k := 0) rfl rfl (by decide) rfl (fun ls lv => ?_)
      refine lv_iload_n hx hb dX10_ones_11 rfl (lv_at lv 1 rfl) ?_
      refine lv_iload_n hx hb dX10_ones_12 rfl (lv_at lv 1 rfl) ?_
      refine lv_iconst (v := (1 : Int32)) hx hb dX10_ones_13 (by decide) ?_
      refine lv_isub hx hb dX10_ones_14 ?_
      refine lv_iand hx hb dX10_ones_15 ?_
      refine lv_topi (fun x2 ex2 => ?_)
      have hwp := hwp x2 ex2
      refine lv_istore_n (lv' := [(2, .int x2), (1, .int (v1 + (1 : Int32)))]) hx hb dX10_ones_16 rfl lv (by decide) rfl (fun ls lv => ?_)
      refine lv_goto (tgt := 4) hx hb dX10_ones_17 (by decide) ?_
      exact ih (v1 + (1 : Int32)) x2 _ _ _ Dy (lv_sub lv [1, 0] rfl) hwp
set_option maxHeartbeats 4000000 in
set_option maxRecDepth 100000 in
theorem m_X10_ones (E : xE) (l : Launch) (h : Mem) (hl : MemL) (v0 : Int32) (Qp : Int32 → Prop) (hwp : p_X10_ones v0 Qp) : Met l yX10_ones (wsU yX10_ones cX10_ones 3 (some .int)) ({ frames := 0, cells := 0, slots := 0, locals := 0 } : Room) (mPc (wdM E) [.int v0] h hl) (mQi (wdM E) (fun r h1 hl1 => h = h1 ∧ hl = hl1 ∧ Qp r)) 0 0 (wA (wdM E)) := by
  refine x_met RX10 [(0, .int v0)] (by decide) rfl (Nat.le_of_ble_eq_true rfl) rfl ?_
  intro p e s m args below meth c ls C Dy lv
  have hx := C.x
  have hb := C.b
  have hR : 0 ≤ ({ frames := 0, cells := 0, slots := 0, locals := 0 } : Room).frames ∧ 0 ≤ ({ frames := 0, cells := 0, slots := 0, locals := 0 } : Room).locals := ⟨Nat.le_refl _, Nat.le_refl _⟩
  unfold p_X10_ones at hwp
  refine lv_iconst (v := (0 : Int32)) hx hb dX10_ones_0 (by decide) ?_
  refine lv_istore_n (lv' := [(1, .int (0 : Int32)), (0, .int v0)]) hx hb dX10_ones_1 rfl lv (by decide) rfl (fun ls lv => ?_)
  refine lv_iload_n hx hb dX10_ones_2 rfl (lv_at lv 1 rfl) ?_
  refine lv_istore_n (lv' := [(2, .int v0), (1, .int (0 : Int32)), (0, .int v0)]) hx hb dX10_ones_3 rfl lv (by decide) rfl (fun ls lv => ?_)
  obtain ⟨n0, hwp⟩ := hwp
  exact t_X10_ones_4 E C hR Qp n0 (0 : Int32) v0 _ _ _ Dy (lv_sub lv [1, 0] rfl) hwp
def p_X10_lesser (v0 : Int32) (v1 : Int32) (Qp : Int32 → Prop) : Prop := Qp (if v1 ≤ v0 then v1 else v0)
set_option maxHeartbeats 4000000 in
set_option maxRecDepth 100000 in
theorem m_X10_lesser (E : xE) (l : Launch) (h : Mem) (hl : MemL) (v0 : Int32) (v1 : Int32) (Qp : Int32 → Prop) (hwp : p_X10_lesser v0 v1 Qp) : Met l yX10_lesser (wsU yX10_lesser cX10_lesser 2 (some .int)) ({ frames := 0, cells := 0, slots := 0, locals := 0 } : Room) (mPc (wdM E) [.int v0, .int v1] h hl) (mQi (wdM E) (fun r h1 hl1 => h = h1 ∧ hl = hl1 ∧ Qp r)) 0 0 (wA (wdM E)) := by
  refine x_met RX10 [(0, .int v0), (1, .int v1)] (by decide) rfl (Nat.le_of_ble_eq_true rfl) rfl ?_
  intro p e s m args below meth c ls C Dy lv
  have hx := C.x
  have hb := C.b
  have hR : 0 ≤ ({ frames := 0, cells := 0, slots := 0, locals := 0 } : Room).frames ∧ 0 ≤ ({ frames := 0, cells := 0, slots := 0, locals := 0 } : Room).locals := ⟨Nat.le_refl _, Nat.le_refl _⟩
  unfold p_X10_lesser at hwp
  refine lv_iload_n hx hb dX10_lesser_0 rfl (lv_at lv 0 rfl) ?_
  refine lv_iload_n hx hb dX10_lesser_1 rfl (lv_at lv 1 rfl) ?_
  refine lv_icmp_ge (tgt := 9) hx hb dX10_lesser_2 (by decide) (fun c1 => ?_) (fun c1 => ?_)
  · try simp only [if_pos c1] at hwp
    refine lv_iload_n hx hb dX10_lesser_9 rfl (lv_at lv 1 rfl) ?_
    exact x_iret C Dy ⟨rfl, rfl, hwp⟩ dX10_lesser_10
  · try simp only [if_neg c1] at hwp
    refine lv_iload_n hx hb dX10_lesser_5 rfl (lv_at lv 0 rfl) ?_
    refine lv_goto (tgt := 10) hx hb dX10_lesser_6 (by decide) ?_
    exact x_iret C Dy ⟨rfl, rfl, hwp⟩ dX10_lesser_10
def b_X10_part_41 (v5 : Int64) (w0 : Int64) (Qp : Int64 → Prop) : Prop := ((¬ v5 = 0) ∧ Qp (w0 / v5))
def b_X10_part_6 : Nat → Int64 → Int64 → Int32 → Int64 → Int64 → (Int64 → Prop) → Prop
  | 0 => fun _ _ _ _ _ _ => False
  | n + 1 => fun v0 v2 v4 v5 v7 Qp => ((v7 = (0 : Int64) → b_X10_part_41 v5 (if v4 = 0 then v0 else v2) Qp) ∧ (¬ (v7 = (0 : Int64)) → ((¬ v7 = 0) ∧ b_X10_part_6 n v0 v2 v4 v7 (v5 - v5 / v7 * v7) Qp)))
def p_X10_part (v0 : Int64) (v2 : Int64) (v4 : Int32) (Qp : Int64 → Prop) : Prop := (∃ n6, b_X10_part_6 n6 v0 v2 v4 v0 v2 Qp)
set_option maxHeartbeats 4000000 in
set_option maxRecDepth 100000 in
theorem t_X10_part_41 (E : xE) {p : Program} {l : Launch} {e : Env} {R : Room} {s : State} {m : MethodId} {args : Array Value} {below : List Frame} {meth : Method} {c : Code} (C : mC (wdM E) p s m meth c args cX10_part 11 RX10 (some .long)) (hR : 0 ≤ R.frames ∧ 0 ≤ R.locals) {h : Mem} {hl : MemL} (Qp : Int64 → Prop) : ∀ (v5 : Int64) (w0 : Int64) (H : Heap) (locs : List Loc) (ls : Array Slot), mD (wdM E) h hl s H locs → lv_has ls 11 [(5, .long v5)] → b_X10_part_41 v5 w0 Qp → W p l e R s m args below meth c H locs 0 0 (MQ below (mQl (wdM E) (fun r h1 hl1 => h = h1 ∧ hl = hl1 ∧ Qp r)) args s 0 0 (wA (wdM E))) (F0 m 41 ls [.long w0]) := by
  have hx := C.x
  have hb := C.b
  intro v5 w0 H locs ls Dy lv hwp
  unfold b_X10_part_41 at hwp
  refine lv_lload hx hb dX10_part_41 (lv_at lv 0 rfl) ?_
  obtain ⟨g4, hwp⟩ := hwp
  refine lv_ldiv hx hb dX10_part_43 g4 ?_
  exact x_lret C Dy ⟨rfl, rfl, hwp⟩ dX10_part_44
set_option maxHeartbeats 4000000 in
set_option maxRecDepth 100000 in
theorem t_X10_part_6 (E : xE) {p : Program} {l : Launch} {e : Env} {R : Room} {s : State} {m : MethodId} {args : Array Value} {below : List Frame} {meth : Method} {c : Code} (C : mC (wdM E) p s m meth c args cX10_part 11 RX10 (some .long)) (hR : 0 ≤ R.frames ∧ 0 ≤ R.locals) {h : Mem} {hl : MemL} (Qp : Int64 → Prop) : ∀ (n : Nat) (v0 : Int64) (v2 : Int64) (v4 : Int32) (v5 : Int64) (v7 : Int64) (H : Heap) (locs : List Loc) (ls : Array Slot), mD (wdM E) h hl s H locs → lv_has ls 11 [(0, .long v0), (2, .long v2), (4, .int v4), (5, .long v5), (7, .long v7)] → b_X10_part_6 n v0 v2 v4 v5 v7 Qp → W p l e R s m args below meth c H locs 0 0 (MQ below (mQl (wdM E) (fun r h1 hl1 => h = h1 ∧ hl = hl1 ∧ Qp r)) args s 0 0 (wA (wdM E))) (F0 m 6 ls []) := by
  have hx := C.x
  have hb := C.b
  intro n
  induction n with
  | zero => intro v0 v2 v4 v5 v7 H locs ls Dy lv hwp; exact hwp.elim
  | succ n ih =>
    intro v0 v2 v4 v5 v7 H locs ls Dy lv hwp
    simp only [b_X10_part_6] at hwp
    refine lv_lload hx hb dX10_part_6 (lv_at lv 4 rfl) ?_
    refine lv_lconst (v := (0 : Int64)) hx hb dX10_part_8 (by decide) ?_
    refine W.lcmp hx hb dX10_part_9 ?_
    refine lv_if_eq (tgt := 31) hx hb dX10_part_10 (by decide) (fun c1 => ?_) (fun c1 => ?_)
    · have hwp := hwp.1 ((lg_cmp_eq _ _).mp c1)
      refine lv_iload hx hb dX10_part_31 (lv_at lv 2 rfl) ?_
      refine lv_if_ne (tgt := 40) hx hb dX10_part_33 (by decide) (fun c2 => ?_) (fun c2 => ?_)
      · try simp only [if_neg c2] at hwp
        refine lv_lload_n hx hb dX10_part_40 rfl (lv_at lv 1 rfl) ?_
        exact t_X10_part_41 E C hR Qp v5 v2 _ _ _ Dy (lv_sub lv [3] rfl) hwp
      · try simp only [if_pos c2] at hwp
        refine lv_lload_n hx hb dX10_part_36 rfl (lv_at lv 0 rfl) ?_
        refine lv_goto (tgt := 41) hx hb dX10_part_37 (by decide) ?_
        exact t_X10_part_41 E C hR Qp v5 v0 _ _ _ Dy (lv_sub lv [3] rfl) hwp
    · have hwp := hwp.2 (fun z => c1 ((lg_cmp_eq _ _).mpr z))
      refine lv_lload hx hb dX10_part_13 (lv_at lv 3 rfl) ?_
      refine lv_lload hx hb dX10_part_15 (lv_at lv 4 rfl) ?_
      obtain ⟨g3, hwp⟩ := hwp
      refine lv_lrem hx hb dX10_part_17 g3 ?_
      refine lv_lstore (lv' := [(9, .long (v5 - v5 / v7 * v7)), (0, .long v0), (2, .long v2), (4, .int v4), (5, .long v5), (7, .long v7)]) hx hb dX10_part_18 lv (by decide) rfl (fun ls lv => ?_)
      refine lv_lload hx hb dX10_part_20 (lv_at lv 5 rfl) ?_
      refine lv_lstore (lv' := [(5, .long v7), (9, .long (v5 - v5 / v7 * v7)), (0, .long v0), (2, .long v2), (4, .int v4), (7, .long v7)]) hx hb dX10_part_22 lv (by decide) rfl (fun ls lv => ?_)
      refine lv_lload hx hb dX10_part_24 (lv_at lv 1 rfl) ?_
      refine lv_lstore (lv' := [(7, .long (v5 - v5 / v7 * v7)), (5, .long v7), (9, .long (v5 - v5 / v7 * v7)), (0, .long v0), (2, .long v2), (4, .int v4)]) hx hb dX10_part_26 lv (by decide) rfl (fun ls lv => ?_)
      refine lv_goto (tgt := 6) hx hb dX10_part_28 (by decide) ?_
      exact ih v0 v2 v4 v7 (v5 - v5 / v7 * v7) _ _ _ Dy (lv_sub lv [3, 4, 5, 1, 0] rfl) hwp
set_option maxHeartbeats 4000000 in
set_option maxRecDepth 100000 in
theorem m_X10_part (E : xE) (l : Launch) (h : Mem) (hl : MemL) (v0 : Int64) (v2 : Int64) (v4 : Int32) (Qp : Int64 → Prop) (hwp : p_X10_part v0 v2 v4 Qp) : Met l yX10_part (wsU yX10_part cX10_part 11 (some .long)) ({ frames := 0, cells := 0, slots := 0, locals := 0 } : Room) (mPc (wdM E) [.long v0, .long v2, .int v4] h hl) (mQl (wdM E) (fun r h1 hl1 => h = h1 ∧ hl = hl1 ∧ Qp r)) 0 0 (wA (wdM E)) := by
  refine x_met RX10 [(0, .long v0), (2, .long v2), (4, .int v4)] (by decide) rfl (Nat.le_of_ble_eq_true rfl) rfl ?_
  intro p e s m args below meth c ls C Dy lv
  have hx := C.x
  have hb := C.b
  have hR : 0 ≤ ({ frames := 0, cells := 0, slots := 0, locals := 0 } : Room).frames ∧ 0 ≤ ({ frames := 0, cells := 0, slots := 0, locals := 0 } : Room).locals := ⟨Nat.le_refl _, Nat.le_refl _⟩
  unfold p_X10_part at hwp
  refine lv_lload_n hx hb dX10_part_0 rfl (lv_at lv 0 rfl) ?_
  refine lv_lstore (lv' := [(5, .long v0), (0, .long v0), (2, .long v2), (4, .int v4)]) hx hb dX10_part_1 lv (by decide) rfl (fun ls lv => ?_)
  refine lv_lload_n hx hb dX10_part_3 rfl (lv_at lv 2 rfl) ?_
  refine lv_lstore (lv' := [(7, .long v2), (5, .long v0), (0, .long v0), (2, .long v2), (4, .int v4)]) hx hb dX10_part_4 lv (by decide) rfl (fun ls lv => ?_)
  obtain ⟨n0, hwp⟩ := hwp
  exact t_X10_part_6 E C hR Qp n0 v0 v2 v4 v0 v2 _ _ _ Dy (lv_sub lv [2, 3, 4, 1, 0] rfl) hwp
def p_X10_finds (h : Mem) (v1 : Int32) (Qp : Int32 → Mem → Prop) : Prop := Qp ((-10 : Int32) - v1) (up2 h 0 4 v1)
set_option maxHeartbeats 4000000 in
set_option maxRecDepth 100000 in
theorem m_X10_finds (E : xE) (l : Launch) (h : Mem) (hl : MemL) (v1 : Int32) (Qp : Int32 → Mem → Prop) (hwp : p_X10_finds h v1 Qp) : Met l yX10_finds (wsU yX10_finds cX10_finds 2 (some .int)) ({ frames := 0, cells := 0, slots := 0, locals := 0 } : Room) (mPc (wdM E) [.ref (wad (wdM E) 0), .int v1] h hl) (mQi (wdM E) (fun r h1 hl1 => hl = hl1 ∧ Qp r h1)) 0 0 (wA (wdM E)) := by
  refine x_met RX10 [(0, .ref (wad (wdM E) 0)), (1, .int v1)] (by decide) rfl (Nat.le_of_ble_eq_true rfl) rfl ?_
  intro p e s m args below meth c ls C Dy lv
  have hx := C.x
  have hb := C.b
  have hR : 0 ≤ ({ frames := 0, cells := 0, slots := 0, locals := 0 } : Room).frames ∧ 0 ≤ ({ frames := 0, cells := 0, slots := 0, locals := 0 } : Room).locals := ⟨Nat.le_refl _, Nat.le_refl _⟩
  unfold p_X10_finds at hwp
  refine lv_aload_n hx hb dX10_finds_0 rfl (lv_at lv 0 rfl) ?_
  refine lv_iload_n hx hb dX10_finds_1 rfl (lv_at lv 1 rfl) ?_
  refine pf_X10_70_0 C Dy dX10_finds_2 (fun H locs Dy => ?_)
  refine lv_bipush (v := (-10 : Int32)) hx hb dX10_finds_5 (by decide) ?_
  refine lv_iload_n hx hb dX10_finds_7 rfl (lv_at lv 1 rfl) ?_
  refine lv_isub hx hb dX10_finds_8 ?_
  exact x_iret C Dy ⟨rfl, hwp⟩ dX10_finds_9
def p_X10_isSheet (v0 : Int32) (Qp : Int32 → Prop) : Prop := (p_X10_in (v0.toInt64) (0 : Int64) (3 : Int64) (fun r1 => Qp r1))
set_option maxHeartbeats 4000000 in
set_option maxRecDepth 100000 in
theorem m_X10_isSheet (E : xE) (l : Launch) (h : Mem) (hl : MemL) (v0 : Int32) (Qp : Int32 → Prop) (hwp : p_X10_isSheet v0 Qp) : Met l yX10_isSheet (wsU yX10_isSheet cX10_isSheet 1 (some .boolean)) ({ frames := 1, cells := 0, slots := 0, locals := 25 } : Room) (mPc (wdM E) [.int v0] h hl) (mQz (wdM E) (fun r h1 hl1 => h = h1 ∧ hl = hl1 ∧ Qp r)) 0 0 (wA (wdM E)) := by
  refine x_met RX10 [(0, .int v0)] (by decide) rfl (Nat.le_of_ble_eq_true rfl) rfl ?_
  intro p e s m args below meth c ls C Dy lv
  have hx := C.x
  have hb := C.b
  have hR : 1 ≤ ({ frames := 1, cells := 0, slots := 0, locals := 25 } : Room).frames ∧ 25 ≤ ({ frames := 1, cells := 0, slots := 0, locals := 25 } : Room).locals := ⟨Nat.le_refl _, Nat.le_refl _⟩
  unfold p_X10_isSheet at hwp
  refine lv_iload_n hx hb dX10_isSheet_0 rfl (lv_at lv 0 rfl) ?_
  refine lv_i2l hx hb dX10_isSheet_1 rfl ?_
  refine lv_lconst (v := (0 : Int64)) hx hb dX10_isSheet_2 (by decide) ?_
  refine lv_ldc2 hx hb C.ow (C.ts _ k_896) dX10_isSheet_3 ?_
  refine x_cont_z Dy (x_runS (As := [.long (v0.toInt64), .long (0 : Int64), .long (3 : Int64)]) (rest := []) C Dy (m_X10_in E l _ _ (v0.toInt64) (0 : Int64) (3 : Int64) _ hwp) (cw_X10_66 C rfl rfl ⟨Nat.le_trans (Nat.le_of_ble_eq_true rfl) hR.1, Nat.le_trans (Nat.le_of_ble_eq_true rfl) hR.2⟩) rfl lv.1 rfl (Nat.le_of_ble_eq_true rfl) dX10_isSheet_6 ⟨Nat.zero_le _, Nat.zero_le _⟩) (fun r1 h2 hl2 H locs zr1 hwp Dy => ?_)
  obtain ⟨rfl, rfl, hwp⟩ := hwp
  exact x_zret C Dy zr1 ⟨rfl, rfl, hwp⟩ dX10_isSheet_9
def b_X10_sheet_55 : Nat → Mem → Int32 → Int32 → Int32 → (Int32 → Mem → Prop) → Prop
  | 0 => fun _ _ _ _ _ => False
  | n + 1 => fun h v1 v3 v4 Qp => ((v3 ≤ v4 → Qp v3 h) ∧ (¬ (v3 ≤ v4) → (vp_in (((60 : Int32) * v1) + v4) 240 ∧ b_X10_sheet_55 n (up2 h 3 (((60 : Int32) * v1) + v4).toNatClampNeg (0 : Int32)) v1 v3 (v4 + (1 : Int32)) Qp)))
def p_X10_sheet (h : Mem) (v1 : Int32) (v2 : Int32) (v3 : Int32) (Qp : Int32 → Mem → Prop) : Prop := (p_X10_isSheet v1 (fun r3 => ((r3 = 0 → Qp (-2 : Int32) h) ∧ (¬ (r3 = 0) → (p_X10_in (v2.toInt64) (0 : Int64) (2 : Int64) (fun r6 => ((r6 = 0 → Qp (-2 : Int32) h) ∧ (¬ (r6 = 0) → ((v3 ≤ (60 : Int32) → ((0 ≤ v3 → (vp_in v1 4 ∧ (vp_in v1 4 ∧ (∃ n55, b_X10_sheet_55 n55 (up2 (up2 h 1 v1.toNatClampNeg v2) 2 v1.toNatClampNeg v3) v1 v3 (0 : Int32) Qp)))) ∧ (¬ (0 ≤ v3) → (p_X10_finds h (5 : Int32) (fun r13 h14 => Qp r13 h14))))) ∧ (¬ (v3 ≤ (60 : Int32)) → Qp (-2 : Int32) h))))))))))
set_option maxHeartbeats 4000000 in
set_option maxRecDepth 100000 in
theorem t_X10_sheet_55 (E : xE) {p : Program} {l : Launch} {e : Env} {R : Room} {s : State} {m : MethodId} {args : Array Value} {below : List Frame} {meth : Method} {c : Code} (C : mC (wdM E) p s m meth c args cX10_sheet 5 RX10 (some .int)) (hR : 2 ≤ R.frames ∧ 45 ≤ R.locals) {hl : MemL} (Qp : Int32 → Mem → Prop) : ∀ (n : Nat) (h : Mem) (v1 : Int32) (v3 : Int32) (v4 : Int32) (H : Heap) (locs : List Loc) (ls : Array Slot), mD (wdM E) h hl s H locs → lv_has ls 5 [(0, .ref (wad (wdM E) 0)), (1, .int v1), (3, .int v3), (4, .int v4)] → b_X10_sheet_55 n h v1 v3 v4 Qp → W p l e R s m args below meth c H locs 0 0 (MQ below (mQi (wdM E) (fun r h1 hl1 => hl = hl1 ∧ Qp r h1)) args s 0 0 (wA (wdM E))) (F0 m 55 ls []) := by
  have hx := C.x
  have hb := C.b
  intro n
  induction n with
  | zero => intro h v1 v3 v4 H locs ls Dy lv hwp; exact hwp.elim
  | succ n ih =>
    intro h v1 v3 v4 H locs ls Dy lv hwp
    simp only [b_X10_sheet_55] at hwp
    refine lv_iload hx hb dX10_sheet_55 (lv_at lv 3 rfl) ?_
    refine lv_iload_n hx hb dX10_sheet_57 rfl (lv_at lv 2 rfl) ?_
    refine lv_icmp_ge (tgt := 80) hx hb dX10_sheet_58 (by decide) (fun c1 => ?_) (fun c1 => ?_)
    · have hwp := hwp.1 c1
      refine lv_iload_n hx hb dX10_sheet_80 rfl (lv_at lv 2 rfl) ?_
      exact x_iret C Dy ⟨rfl, hwp⟩ dX10_sheet_81
    · have hwp := hwp.2 c1
      refine lv_aload_n hx hb dX10_sheet_61 rfl (lv_at lv 0 rfl) ?_
      refine gf_X10_16_0 C Dy dX10_sheet_62 ?_
      refine lv_bipush (v := (60 : Int32)) hx hb dX10_sheet_65 (by decide) ?_
      refine lv_iload_n hx hb dX10_sheet_67 rfl (lv_at lv 1 rfl) ?_
      refine lv_imul hx hb dX10_sheet_68 ?_
      refine lv_iload hx hb dX10_sheet_69 (lv_at lv 3 rfl) ?_
      refine lv_iadd hx hb dX10_sheet_71 ?_
      refine lv_iconst (v := (0 : Int32)) hx hb dX10_sheet_72 (by decide) ?_
      obtain ⟨g2, hwp⟩ := hwp
      refine x_iast C Dy wma_3 g2 dX10_sheet_73 (fun H locs Dy => ?_)
      refine lv_iinc (v := (v4 + (1 : Int32))) (lv' := [(4, .int (v4 + (1 : Int32))), (0, .ref (wad (wdM E) 0)), (1, .int v1), (3, .int v3)]) hx hb dX10_sheet_74 lv (k := 3) rfl rfl (by decide) rfl (fun ls lv => ?_)
      refine lv_goto (tgt := 55) hx hb dX10_sheet_77 (by decide) ?_
      exact ih (up2 h 3 (((60 : Int32) * v1) + v4).toNatClampNeg (0 : Int32)) v1 v3 (v4 + (1 : Int32)) _ _ _ Dy (lv_sub lv [1, 2, 3, 0] rfl) hwp
set_option maxHeartbeats 4000000 in
set_option maxRecDepth 100000 in
theorem m_X10_sheet (E : xE) (l : Launch) (h : Mem) (hl : MemL) (v1 : Int32) (v2 : Int32) (v3 : Int32) (Qp : Int32 → Mem → Prop) (hwp : p_X10_sheet h v1 v2 v3 Qp) : Met l yX10_sheet (wsU yX10_sheet cX10_sheet 5 (some .int)) ({ frames := 2, cells := 0, slots := 0, locals := 45 } : Room) (mPc (wdM E) [.ref (wad (wdM E) 0), .int v1, .int v2, .int v3] h hl) (mQi (wdM E) (fun r h1 hl1 => hl = hl1 ∧ Qp r h1)) 0 0 (wA (wdM E)) := by
  refine x_met RX10 [(0, .ref (wad (wdM E) 0)), (1, .int v1), (2, .int v2), (3, .int v3)] (by decide) rfl (Nat.le_of_ble_eq_true rfl) rfl ?_
  intro p e s m args below meth c ls C Dy lv
  have hx := C.x
  have hb := C.b
  have hR : 2 ≤ ({ frames := 2, cells := 0, slots := 0, locals := 45 } : Room).frames ∧ 45 ≤ ({ frames := 2, cells := 0, slots := 0, locals := 45 } : Room).locals := ⟨Nat.le_refl _, Nat.le_refl _⟩
  unfold p_X10_sheet at hwp
  refine lv_iload_n hx hb dX10_sheet_0 rfl (lv_at lv 1 rfl) ?_
  refine x_cont_z Dy (x_runS (As := [.int v1]) (rest := []) C Dy (m_X10_isSheet E l _ _ v1 _ hwp) (cw_X10_76 C rfl rfl ⟨Nat.le_trans (Nat.le_of_ble_eq_true rfl) hR.1, Nat.le_trans (Nat.le_of_ble_eq_true rfl) hR.2⟩) rfl lv.1 rfl (Nat.le_of_ble_eq_true rfl) dX10_sheet_1 ⟨Nat.zero_le _, Nat.zero_le _⟩) (fun r3 h4 hl4 H locs zr3 hwp Dy => ?_)
  obtain ⟨rfl, rfl, hwp⟩ := hwp
  refine lv_if_eq (tgt := 25) hx hb dX10_sheet_4 (by decide) (fun c5 => ?_) (fun c5 => ?_)
  · have hwp := hwp.1 c5
    refine lv_bipush (v := (-2 : Int32)) hx hb dX10_sheet_25 (by decide) ?_
    exact x_iret C Dy ⟨rfl, hwp⟩ dX10_sheet_27
  · have hwp := hwp.2 c5
    refine lv_iload_n hx hb dX10_sheet_7 rfl (lv_at lv 2 rfl) ?_
    refine lv_i2l hx hb dX10_sheet_8 rfl ?_
    refine lv_lconst (v := (0 : Int64)) hx hb dX10_sheet_9 (by decide) ?_
    refine lv_ldc2 hx hb C.ow (C.ts _ k_900) dX10_sheet_10 ?_
    refine x_cont_z Dy (x_runS (As := [.long (v2.toInt64), .long (0 : Int64), .long (2 : Int64)]) (rest := []) C Dy (m_X10_in E l _ _ (v2.toInt64) (0 : Int64) (2 : Int64) _ hwp) (cw_X10_66 C rfl rfl ⟨Nat.le_trans (Nat.le_of_ble_eq_true rfl) hR.1, Nat.le_trans (Nat.le_of_ble_eq_true rfl) hR.2⟩) rfl lv.1 rfl (Nat.le_of_ble_eq_true rfl) dX10_sheet_13 ⟨Nat.zero_le _, Nat.zero_le _⟩) (fun r6 h7 hl7 H locs zr6 hwp Dy => ?_)
    obtain ⟨rfl, rfl, hwp⟩ := hwp
    refine lv_if_eq (tgt := 25) hx hb dX10_sheet_16 (by decide) (fun c8 => ?_) (fun c8 => ?_)
    · have hwp := hwp.1 c8
      refine lv_bipush (v := (-2 : Int32)) hx hb dX10_sheet_25 (by decide) ?_
      exact x_iret C Dy ⟨rfl, hwp⟩ dX10_sheet_27
    · have hwp := hwp.2 c8
      refine lv_iload_n hx hb dX10_sheet_19 rfl (lv_at lv 3 rfl) ?_
      refine lv_bipush (v := (60 : Int32)) hx hb dX10_sheet_20 (by decide) ?_
      refine lv_icmp_le (tgt := 28) hx hb dX10_sheet_22 (by decide) (fun c9 => ?_) (fun c9 => ?_)
      · have hwp := hwp.1 c9
        refine lv_iload_n hx hb dX10_sheet_28 rfl (lv_at lv 3 rfl) ?_
        refine lv_if_ge (tgt := 38) hx hb dX10_sheet_29 (by decide) (fun c10 => ?_) (fun c10 => ?_)
        · have hwp := hwp.1 c10
          refine lv_aload_n hx hb dX10_sheet_38 rfl (lv_at lv 0 rfl) ?_
          refine gf_X10_7_0 C Dy dX10_sheet_39 ?_
          refine lv_iload_n hx hb dX10_sheet_42 rfl (lv_at lv 1 rfl) ?_
          refine lv_iload_n hx hb dX10_sheet_43 rfl (lv_at lv 2 rfl) ?_
          obtain ⟨g11, hwp⟩ := hwp
          refine x_iast C Dy wma_1 g11 dX10_sheet_44 (fun H locs Dy => ?_)
          refine lv_aload_n hx hb dX10_sheet_45 rfl (lv_at lv 0 rfl) ?_
          refine gf_X10_13_0 C Dy dX10_sheet_46 ?_
          refine lv_iload_n hx hb dX10_sheet_49 rfl (lv_at lv 1 rfl) ?_
          refine lv_iload_n hx hb dX10_sheet_50 rfl (lv_at lv 3 rfl) ?_
          obtain ⟨g12, hwp⟩ := hwp
          refine x_iast C Dy wma_2 g12 dX10_sheet_51 (fun H locs Dy => ?_)
          refine lv_iconst (v := (0 : Int32)) hx hb dX10_sheet_52 (by decide) ?_
          refine lv_istore (lv' := [(4, .int (0 : Int32)), (0, .ref (wad (wdM E) 0)), (1, .int v1), (2, .int v2), (3, .int v3)]) hx hb dX10_sheet_53 lv (by decide) rfl (fun ls lv => ?_)
          obtain ⟨n0, hwp⟩ := hwp
          exact t_X10_sheet_55 E C hR Qp n0 (up2 (up2 h 1 v1.toNatClampNeg v2) 2 v1.toNatClampNeg v3) v1 v3 (0 : Int32) _ _ _ Dy (lv_sub lv [1, 2, 4, 0] rfl) hwp
        · have hwp := hwp.2 c10
          refine lv_aload_n hx hb dX10_sheet_32 rfl (lv_at lv 0 rfl) ?_
          refine lv_iconst (v := (5 : Int32)) hx hb dX10_sheet_33 (by decide) ?_
          refine x_cont_i Dy (x_runV (As := [.int (5 : Int32)]) (rest := []) C Dy (m_X10_finds E l _ _ (5 : Int32) _ hwp) (cw_X10_82 C rfl rfl ⟨Nat.le_trans (Nat.le_of_ble_eq_true rfl) hR.1, Nat.le_trans (Nat.le_of_ble_eq_true rfl) hR.2⟩) wm_0 rfl rfl lv.1 rfl (Nat.le_of_ble_eq_true rfl) dX10_sheet_34 ⟨Nat.zero_le _, Nat.zero_le _⟩) (fun r13 h14 hl14 H locs hwp Dy => ?_)
          obtain ⟨rfl, hwp⟩ := hwp
          exact x_iret C Dy ⟨rfl, hwp⟩ dX10_sheet_37
      · have hwp := hwp.2 c9
        refine lv_bipush (v := (-2 : Int32)) hx hb dX10_sheet_25 (by decide) ?_
        exact x_iret C Dy ⟨rfl, hwp⟩ dX10_sheet_27
def p_X10_lose (h : Mem) (v1 : Int32) (Qp : Int32 → Mem → Prop) : Prop := (p_X10_isSheet v1 (fun r1 => ((r1 = 0 → Qp (-2 : Int32) h) ∧ (¬ (r1 = 0) → (vp_in v1 4 ∧ ((0 ≤ (h 1 v1.toNatClampNeg) → (vp_in v1 4 ∧ (vp_in v1 4 ∧ Qp ((up2 h 1 v1.toNatClampNeg (-1 : Int32)) 2 v1.toNatClampNeg) (up2 h 1 v1.toNatClampNeg (-1 : Int32))))) ∧ (¬ (0 ≤ (h 1 v1.toNatClampNeg)) → (p_X10_finds h (1 : Int32) (fun r8 h9 => Qp r8 h9)))))))))
set_option maxHeartbeats 4000000 in
set_option maxRecDepth 100000 in
theorem m_X10_lose (E : xE) (l : Launch) (h : Mem) (hl : MemL) (v1 : Int32) (Qp : Int32 → Mem → Prop) (hwp : p_X10_lose h v1 Qp) : Met l yX10_lose (wsU yX10_lose cX10_lose 2 (some .int)) ({ frames := 2, cells := 0, slots := 0, locals := 45 } : Room) (mPc (wdM E) [.ref (wad (wdM E) 0), .int v1] h hl) (mQi (wdM E) (fun r h1 hl1 => hl = hl1 ∧ Qp r h1)) 0 0 (wA (wdM E)) := by
  refine x_met RX10 [(0, .ref (wad (wdM E) 0)), (1, .int v1)] (by decide) rfl (Nat.le_of_ble_eq_true rfl) rfl ?_
  intro p e s m args below meth c ls C Dy lv
  have hx := C.x
  have hb := C.b
  have hR : 2 ≤ ({ frames := 2, cells := 0, slots := 0, locals := 45 } : Room).frames ∧ 45 ≤ ({ frames := 2, cells := 0, slots := 0, locals := 45 } : Room).locals := ⟨Nat.le_refl _, Nat.le_refl _⟩
  unfold p_X10_lose at hwp
  refine lv_iload_n hx hb dX10_lose_0 rfl (lv_at lv 1 rfl) ?_
  refine x_cont_z Dy (x_runS (As := [.int v1]) (rest := []) C Dy (m_X10_isSheet E l _ _ v1 _ hwp) (cw_X10_76 C rfl rfl ⟨Nat.le_trans (Nat.le_of_ble_eq_true rfl) hR.1, Nat.le_trans (Nat.le_of_ble_eq_true rfl) hR.2⟩) rfl lv.1 rfl (Nat.le_of_ble_eq_true rfl) dX10_lose_1 ⟨Nat.zero_le _, Nat.zero_le _⟩) (fun r1 h2 hl2 H locs zr1 hwp Dy => ?_)
  obtain ⟨rfl, rfl, hwp⟩ := hwp
  refine lv_if_ne (tgt := 10) hx hb dX10_lose_4 (by decide) (fun c3 => ?_) (fun c3 => ?_)
  · have hwp := hwp.2 c3
    refine lv_aload_n hx hb dX10_lose_10 rfl (lv_at lv 0 rfl) ?_
    refine gf_X10_7_0 C Dy dX10_lose_11 ?_
    refine lv_iload_n hx hb dX10_lose_14 rfl (lv_at lv 1 rfl) ?_
    obtain ⟨g4, hwp⟩ := hwp
    refine x_iald C Dy wma_1 g4 dX10_lose_15 ?_
    refine lv_if_ge (tgt := 25) hx hb dX10_lose_16 (by decide) (fun c5 => ?_) (fun c5 => ?_)
    · have hwp := hwp.1 c5
      refine lv_aload_n hx hb dX10_lose_25 rfl (lv_at lv 0 rfl) ?_
      refine gf_X10_7_0 C Dy dX10_lose_26 ?_
      refine lv_iload_n hx hb dX10_lose_29 rfl (lv_at lv 1 rfl) ?_
      refine lv_iconst (v := (-1 : Int32)) hx hb dX10_lose_30 (by decide) ?_
      obtain ⟨g6, hwp⟩ := hwp
      refine x_iast C Dy wma_1 g6 dX10_lose_31 (fun H locs Dy => ?_)
      refine lv_aload_n hx hb dX10_lose_32 rfl (lv_at lv 0 rfl) ?_
      refine gf_X10_13_0 C Dy dX10_lose_33 ?_
      refine lv_iload_n hx hb dX10_lose_36 rfl (lv_at lv 1 rfl) ?_
      obtain ⟨g7, hwp⟩ := hwp
      refine x_iald C Dy wma_2 g7 dX10_lose_37 ?_
      exact x_iret C Dy ⟨rfl, hwp⟩ dX10_lose_38
    · have hwp := hwp.2 c5
      refine lv_aload_n hx hb dX10_lose_19 rfl (lv_at lv 0 rfl) ?_
      refine lv_iconst (v := (1 : Int32)) hx hb dX10_lose_20 (by decide) ?_
      refine x_cont_i Dy (x_runV (As := [.int (1 : Int32)]) (rest := []) C Dy (m_X10_finds E l _ _ (1 : Int32) _ hwp) (cw_X10_82 C rfl rfl ⟨Nat.le_trans (Nat.le_of_ble_eq_true rfl) hR.1, Nat.le_trans (Nat.le_of_ble_eq_true rfl) hR.2⟩) wm_0 rfl rfl lv.1 rfl (Nat.le_of_ble_eq_true rfl) dX10_lose_21 ⟨Nat.zero_le _, Nat.zero_le _⟩) (fun r8 h9 hl9 H locs hwp Dy => ?_)
      obtain ⟨rfl, hwp⟩ := hwp
      exact x_iret C Dy ⟨rfl, hwp⟩ dX10_lose_24
  · have hwp := hwp.1 c3
    refine lv_bipush (v := (-2 : Int32)) hx hb dX10_lose_7 (by decide) ?_
    exact x_iret C Dy ⟨rfl, hwp⟩ dX10_lose_9
def p_X10_lacks (h : Mem) (v1 : Int32) (v2 : Int32) (v3 : Int32) (Qp : Int32 → Mem → Prop) : Prop := (vp_in v1 4 ∧ ((0 ≤ (h 1 v1.toNatClampNeg) → (vp_in v1 4 ∧ (((h 1 v1.toNatClampNeg) = v2 → (vp_in v1 4 ∧ (p_X10_in (v3.toInt64) (0 : Int64) (((h 2 v1.toNatClampNeg) - (1 : Int32)).toInt64) (fun r6 => ((r6 = 0 → (p_X10_finds h (2 : Int32) (fun r9 h10 => Qp r9 h10))) ∧ (¬ (r6 = 0) → Qp (0 : Int32) h)))))) ∧ (¬ ((h 1 v1.toNatClampNeg) = v2) → (p_X10_finds h (3 : Int32) (fun r11 h12 => Qp r11 h12)))))) ∧ (¬ (0 ≤ (h 1 v1.toNatClampNeg)) → (p_X10_finds h (1 : Int32) (fun r13 h14 => Qp r13 h14)))))
set_option maxHeartbeats 4000000 in
set_option maxRecDepth 100000 in
theorem m_X10_lacks (E : xE) (l : Launch) (h : Mem) (hl : MemL) (v1 : Int32) (v2 : Int32) (v3 : Int32) (Qp : Int32 → Mem → Prop) (hwp : p_X10_lacks h v1 v2 v3 Qp) : Met l yX10_lacks (wsU yX10_lacks cX10_lacks 4 (some .int)) ({ frames := 1, cells := 0, slots := 0, locals := 25 } : Room) (mPc (wdM E) [.ref (wad (wdM E) 0), .int v1, .int v2, .int v3] h hl) (mQi (wdM E) (fun r h1 hl1 => hl = hl1 ∧ Qp r h1)) 0 0 (wA (wdM E)) := by
  refine x_met RX10 [(0, .ref (wad (wdM E) 0)), (1, .int v1), (2, .int v2), (3, .int v3)] (by decide) rfl (Nat.le_of_ble_eq_true rfl) rfl ?_
  intro p e s m args below meth c ls C Dy lv
  have hx := C.x
  have hb := C.b
  have hR : 1 ≤ ({ frames := 1, cells := 0, slots := 0, locals := 25 } : Room).frames ∧ 25 ≤ ({ frames := 1, cells := 0, slots := 0, locals := 25 } : Room).locals := ⟨Nat.le_refl _, Nat.le_refl _⟩
  unfold p_X10_lacks at hwp
  refine lv_aload_n hx hb dX10_lacks_0 rfl (lv_at lv 0 rfl) ?_
  refine gf_X10_7_0 C Dy dX10_lacks_1 ?_
  refine lv_iload_n hx hb dX10_lacks_4 rfl (lv_at lv 1 rfl) ?_
  obtain ⟨g1, hwp⟩ := hwp
  refine x_iald C Dy wma_1 g1 dX10_lacks_5 ?_
  refine lv_if_ge (tgt := 15) hx hb dX10_lacks_6 (by decide) (fun c2 => ?_) (fun c2 => ?_)
  · have hwp := hwp.1 c2
    refine lv_aload_n hx hb dX10_lacks_15 rfl (lv_at lv 0 rfl) ?_
    refine gf_X10_7_0 C Dy dX10_lacks_16 ?_
    refine lv_iload_n hx hb dX10_lacks_19 rfl (lv_at lv 1 rfl) ?_
    obtain ⟨g3, hwp⟩ := hwp
    refine x_iald C Dy wma_1 g3 dX10_lacks_20 ?_
    refine lv_iload_n hx hb dX10_lacks_21 rfl (lv_at lv 2 rfl) ?_
    refine lv_icmp_eq (tgt := 31) hx hb dX10_lacks_22 (by decide) (fun c4 => ?_) (fun c4 => ?_)
    · have hwp := hwp.1 c4
      refine lv_iload_n hx hb dX10_lacks_31 rfl (lv_at lv 3 rfl) ?_
      refine lv_i2l hx hb dX10_lacks_32 rfl ?_
      refine lv_lconst (v := (0 : Int64)) hx hb dX10_lacks_33 (by decide) ?_
      refine lv_aload_n hx hb dX10_lacks_34 rfl (lv_at lv 0 rfl) ?_
      refine gf_X10_13_0 C Dy dX10_lacks_35 ?_
      refine lv_iload_n hx hb dX10_lacks_38 rfl (lv_at lv 1 rfl) ?_
      obtain ⟨g5, hwp⟩ := hwp
      refine x_iald C Dy wma_2 g5 dX10_lacks_39 ?_
      refine lv_iconst (v := (1 : Int32)) hx hb dX10_lacks_40 (by decide) ?_
      refine lv_isub hx hb dX10_lacks_41 ?_
      refine lv_i2l hx hb dX10_lacks_42 rfl ?_
      refine x_cont_z Dy (x_runS (As := [.long (v3.toInt64), .long (0 : Int64), .long (((h 2 v1.toNatClampNeg) - (1 : Int32)).toInt64)]) (rest := []) C Dy (m_X10_in E l _ _ (v3.toInt64) (0 : Int64) (((h 2 v1.toNatClampNeg) - (1 : Int32)).toInt64) _ hwp) (cw_X10_66 C rfl rfl ⟨Nat.le_trans (Nat.le_of_ble_eq_true rfl) hR.1, Nat.le_trans (Nat.le_of_ble_eq_true rfl) hR.2⟩) rfl lv.1 rfl (Nat.le_of_ble_eq_true rfl) dX10_lacks_43 ⟨Nat.zero_le _, Nat.zero_le _⟩) (fun r6 h7 hl7 H locs zr6 hwp Dy => ?_)
      obtain ⟨rfl, rfl, hwp⟩ := hwp
      refine lv_if_eq (tgt := 53) hx hb dX10_lacks_46 (by decide) (fun c8 => ?_) (fun c8 => ?_)
      · have hwp := hwp.1 c8
        refine lv_aload_n hx hb dX10_lacks_53 rfl (lv_at lv 0 rfl) ?_
        refine lv_iconst (v := (2 : Int32)) hx hb dX10_lacks_54 (by decide) ?_
        refine x_cont_i Dy (x_runV (As := [.int (2 : Int32)]) (rest := []) C Dy (m_X10_finds E l _ _ (2 : Int32) _ hwp) (cw_X10_82 C rfl rfl ⟨Nat.le_trans (Nat.le_of_ble_eq_true rfl) hR.1, Nat.le_trans (Nat.le_of_ble_eq_true rfl) hR.2⟩) wm_0 rfl rfl lv.1 rfl (Nat.le_of_ble_eq_true rfl) dX10_lacks_55 ⟨Nat.zero_le _, Nat.zero_le _⟩) (fun r9 h10 hl10 H locs hwp Dy => ?_)
        obtain ⟨rfl, hwp⟩ := hwp
        exact x_iret C Dy ⟨rfl, hwp⟩ dX10_lacks_58
      · have hwp := hwp.2 c8
        refine lv_iconst (v := (0 : Int32)) hx hb dX10_lacks_49 (by decide) ?_
        refine lv_goto (tgt := 58) hx hb dX10_lacks_50 (by decide) ?_
        exact x_iret C Dy ⟨rfl, hwp⟩ dX10_lacks_58
    · have hwp := hwp.2 c4
      refine lv_aload_n hx hb dX10_lacks_25 rfl (lv_at lv 0 rfl) ?_
      refine lv_iconst (v := (3 : Int32)) hx hb dX10_lacks_26 (by decide) ?_
      refine x_cont_i Dy (x_runV (As := [.int (3 : Int32)]) (rest := []) C Dy (m_X10_finds E l _ _ (3 : Int32) _ hwp) (cw_X10_82 C rfl rfl ⟨Nat.le_trans (Nat.le_of_ble_eq_true rfl) hR.1, Nat.le_trans (Nat.le_of_ble_eq_true rfl) hR.2⟩) wm_0 rfl rfl lv.1 rfl (Nat.le_of_ble_eq_true rfl) dX10_lacks_27 ⟨Nat.zero_le _, Nat.zero_le _⟩) (fun r11 h12 hl12 H locs hwp Dy => ?_)
      obtain ⟨rfl, hwp⟩ := hwp
      exact x_iret C Dy ⟨rfl, hwp⟩ dX10_lacks_30
  · have hwp := hwp.2 c2
    refine lv_aload_n hx hb dX10_lacks_9 rfl (lv_at lv 0 rfl) ?_
    refine lv_iconst (v := (1 : Int32)) hx hb dX10_lacks_10 (by decide) ?_
    refine x_cont_i Dy (x_runV (As := [.int (1 : Int32)]) (rest := []) C Dy (m_X10_finds E l _ _ (1 : Int32) _ hwp) (cw_X10_82 C rfl rfl ⟨Nat.le_trans (Nat.le_of_ble_eq_true rfl) hR.1, Nat.le_trans (Nat.le_of_ble_eq_true rfl) hR.2⟩) wm_0 rfl rfl lv.1 rfl (Nat.le_of_ble_eq_true rfl) dX10_lacks_11 ⟨Nat.zero_le _, Nat.zero_le _⟩) (fun r13 h14 hl14 H locs hwp Dy => ?_)
    obtain ⟨rfl, hwp⟩ := hwp
    exact x_iret C Dy ⟨rfl, hwp⟩ dX10_lacks_14
def p_X10_cut (v0 : Int32) (v1 : Int32) (Qp : Int32 → Prop) : Prop := Qp (if v0 = 0 then (v1.toInt8.toInt32) else (if v0 = (1 : Int32) then (v1.toInt16.toInt32) else v1))
set_option maxHeartbeats 4000000 in
set_option maxRecDepth 100000 in
theorem m_X10_cut (E : xE) (l : Launch) (h : Mem) (hl : MemL) (v0 : Int32) (v1 : Int32) (Qp : Int32 → Prop) (hwp : p_X10_cut v0 v1 Qp) : Met l yX10_cut (wsU yX10_cut cX10_cut 2 (some .int)) ({ frames := 0, cells := 0, slots := 0, locals := 0 } : Room) (mPc (wdM E) [.int v0, .int v1] h hl) (mQi (wdM E) (fun r h1 hl1 => h = h1 ∧ hl = hl1 ∧ Qp r)) 0 0 (wA (wdM E)) := by
  refine x_met RX10 [(0, .int v0), (1, .int v1)] (by decide) rfl (Nat.le_of_ble_eq_true rfl) rfl ?_
  intro p e s m args below meth c ls C Dy lv
  have hx := C.x
  have hb := C.b
  have hR : 0 ≤ ({ frames := 0, cells := 0, slots := 0, locals := 0 } : Room).frames ∧ 0 ≤ ({ frames := 0, cells := 0, slots := 0, locals := 0 } : Room).locals := ⟨Nat.le_refl _, Nat.le_refl _⟩
  unfold p_X10_cut at hwp
  refine lv_iload_n hx hb dX10_cut_0 rfl (lv_at lv 0 rfl) ?_
  refine lv_if_ne (tgt := 9) hx hb dX10_cut_1 (by decide) (fun c1 => ?_) (fun c1 => ?_)
  · try simp only [if_neg c1] at hwp
    refine lv_iload_n hx hb dX10_cut_9 rfl (lv_at lv 0 rfl) ?_
    refine lv_iconst (v := (1 : Int32)) hx hb dX10_cut_10 (by decide) ?_
    refine lv_icmp_ne (tgt := 19) hx hb dX10_cut_11 (by decide) (fun c2 => ?_) (fun c2 => ?_)
    · try simp only [if_neg c2] at hwp
      refine lv_iload_n hx hb dX10_cut_19 rfl (lv_at lv 1 rfl) ?_
      exact x_iret C Dy ⟨rfl, rfl, hwp⟩ dX10_cut_20
    · try simp only [if_pos c2] at hwp
      refine lv_iload_n hx hb dX10_cut_14 rfl (lv_at lv 1 rfl) ?_
      refine lv_i2s hx hb dX10_cut_15 rfl ?_
      refine lv_goto (tgt := 20) hx hb dX10_cut_16 (by decide) ?_
      exact x_iret C Dy ⟨rfl, rfl, hwp⟩ dX10_cut_20
  · try simp only [if_pos c1] at hwp
    refine lv_iload_n hx hb dX10_cut_4 rfl (lv_at lv 1 rfl) ?_
    refine lv_i2b hx hb dX10_cut_5 rfl ?_
    refine lv_goto (tgt := 20) hx hb dX10_cut_6 (by decide) ?_
    exact x_iret C Dy ⟨rfl, rfl, hwp⟩ dX10_cut_20
def p_X10_lay (h : Mem) (v1 : Int32) (v2 : Int32) (v3 : Int32) (v4 : Int32) (Qp : Int32 → Mem → Prop) : Prop := (p_X10_isSheet v1 (fun r1 => ((r1 = 0 → Qp (-2 : Int32) h) ∧ (¬ (r1 = 0) → (p_X10_in (v2.toInt64) (0 : Int64) (2 : Int64) (fun r4 => ((r4 = 0 → Qp (-2 : Int32) h) ∧ (¬ (r4 = 0) → (p_X10_lacks h v1 v2 v3 (fun r7 h8 => ((r7 = 0 → (p_X10_cut v2 v4 (fun r10 => (vp_in (((60 : Int32) * v1) + v3) 240 ∧ Qp (1 : Int32) (up2 h8 3 (((60 : Int32) * v1) + v3).toNatClampNeg r10))))) ∧ (¬ (r7 = 0) → Qp r7 h8))))))))))))
set_option maxHeartbeats 4000000 in
set_option maxRecDepth 100000 in
theorem m_X10_lay (E : xE) (l : Launch) (h : Mem) (hl : MemL) (v1 : Int32) (v2 : Int32) (v3 : Int32) (v4 : Int32) (Qp : Int32 → Mem → Prop) (hwp : p_X10_lay h v1 v2 v3 v4 Qp) : Met l yX10_lay (wsU yX10_lay cX10_lay 6 (some .int)) ({ frames := 2, cells := 0, slots := 0, locals := 48 } : Room) (mPc (wdM E) [.ref (wad (wdM E) 0), .int v1, .int v2, .int v3, .int v4] h hl) (mQi (wdM E) (fun r h1 hl1 => hl = hl1 ∧ Qp r h1)) 0 0 (wA (wdM E)) := by
  refine x_met RX10 [(0, .ref (wad (wdM E) 0)), (1, .int v1), (2, .int v2), (3, .int v3), (4, .int v4)] (by decide) rfl (Nat.le_of_ble_eq_true rfl) rfl ?_
  intro p e s m args below meth c ls C Dy lv
  have hx := C.x
  have hb := C.b
  have hR : 2 ≤ ({ frames := 2, cells := 0, slots := 0, locals := 48 } : Room).frames ∧ 48 ≤ ({ frames := 2, cells := 0, slots := 0, locals := 48 } : Room).locals := ⟨Nat.le_refl _, Nat.le_refl _⟩
  unfold p_X10_lay at hwp
  refine lv_iload_n hx hb dX10_lay_0 rfl (lv_at lv 1 rfl) ?_
  refine x_cont_z Dy (x_runS (As := [.int v1]) (rest := []) C Dy (m_X10_isSheet E l _ _ v1 _ hwp) (cw_X10_76 C rfl rfl ⟨Nat.le_trans (Nat.le_of_ble_eq_true rfl) hR.1, Nat.le_trans (Nat.le_of_ble_eq_true rfl) hR.2⟩) rfl lv.1 rfl (Nat.le_of_ble_eq_true rfl) dX10_lay_1 ⟨Nat.zero_le _, Nat.zero_le _⟩) (fun r1 h2 hl2 H locs zr1 hwp Dy => ?_)
  obtain ⟨rfl, rfl, hwp⟩ := hwp
  refine lv_if_eq (tgt := 19) hx hb dX10_lay_4 (by decide) (fun c3 => ?_) (fun c3 => ?_)
  · have hwp := hwp.1 c3
    refine lv_bipush (v := (-2 : Int32)) hx hb dX10_lay_19 (by decide) ?_
    exact x_iret C Dy ⟨rfl, hwp⟩ dX10_lay_21
  · have hwp := hwp.2 c3
    refine lv_iload_n hx hb dX10_lay_7 rfl (lv_at lv 2 rfl) ?_
    refine lv_i2l hx hb dX10_lay_8 rfl ?_
    refine lv_lconst (v := (0 : Int64)) hx hb dX10_lay_9 (by decide) ?_
    refine lv_ldc2 hx hb C.ow (C.ts _ k_900) dX10_lay_10 ?_
    refine x_cont_z Dy (x_runS (As := [.long (v2.toInt64), .long (0 : Int64), .long (2 : Int64)]) (rest := []) C Dy (m_X10_in E l _ _ (v2.toInt64) (0 : Int64) (2 : Int64) _ hwp) (cw_X10_66 C rfl rfl ⟨Nat.le_trans (Nat.le_of_ble_eq_true rfl) hR.1, Nat.le_trans (Nat.le_of_ble_eq_true rfl) hR.2⟩) rfl lv.1 rfl (Nat.le_of_ble_eq_true rfl) dX10_lay_13 ⟨Nat.zero_le _, Nat.zero_le _⟩) (fun r4 h5 hl5 H locs zr4 hwp Dy => ?_)
    obtain ⟨rfl, rfl, hwp⟩ := hwp
    refine lv_if_ne (tgt := 22) hx hb dX10_lay_16 (by decide) (fun c6 => ?_) (fun c6 => ?_)
    · have hwp := hwp.2 c6
      refine lv_aload_n hx hb dX10_lay_22 rfl (lv_at lv 0 rfl) ?_
      refine lv_iload_n hx hb dX10_lay_23 rfl (lv_at lv 1 rfl) ?_
      refine lv_iload_n hx hb dX10_lay_24 rfl (lv_at lv 2 rfl) ?_
      refine lv_iload_n hx hb dX10_lay_25 rfl (lv_at lv 3 rfl) ?_
      refine x_cont_i Dy (x_runV (As := [.int v1, .int v2, .int v3]) (rest := []) C Dy (m_X10_lacks E l _ _ v1 v2 v3 _ hwp) (cw_X10_86 C rfl rfl ⟨Nat.le_trans (Nat.le_of_ble_eq_true rfl) hR.1, Nat.le_trans (Nat.le_of_ble_eq_true rfl) hR.2⟩) wm_0 rfl rfl lv.1 rfl (Nat.le_of_ble_eq_true rfl) dX10_lay_26 ⟨Nat.zero_le _, Nat.zero_le _⟩) (fun r7 h8 hl8 H locs hwp Dy => ?_)
      obtain ⟨rfl, hwp⟩ := hwp
      refine lv_istore (lv' := [(5, .int r7), (0, .ref (wad (wdM E) 0)), (1, .int v1), (2, .int v2), (3, .int v3), (4, .int v4)]) hx hb dX10_lay_29 lv (by decide) rfl (fun ls lv => ?_)
      refine lv_iload hx hb dX10_lay_31 (lv_at lv 0 rfl) ?_
      refine lv_if_eq (tgt := 39) hx hb dX10_lay_33 (by decide) (fun c9 => ?_) (fun c9 => ?_)
      · have hwp := hwp.1 c9
        refine lv_aload_n hx hb dX10_lay_39 rfl (lv_at lv 1 rfl) ?_
        refine gf_X10_16_0 C Dy dX10_lay_40 ?_
        refine lv_bipush (v := (60 : Int32)) hx hb dX10_lay_43 (by decide) ?_
        refine lv_iload_n hx hb dX10_lay_45 rfl (lv_at lv 2 rfl) ?_
        refine lv_imul hx hb dX10_lay_46 ?_
        refine lv_iload_n hx hb dX10_lay_47 rfl (lv_at lv 4 rfl) ?_
        refine lv_iadd hx hb dX10_lay_48 ?_
        refine lv_iload_n hx hb dX10_lay_49 rfl (lv_at lv 3 rfl) ?_
        refine lv_iload hx hb dX10_lay_50 (lv_at lv 5 rfl) ?_
        refine x_cont_i Dy (x_runS (As := [.int v2, .int v4]) (rest := [.int (((60 : Int32) * v1) + v3), .ref (wad (wdM E) 3)]) C Dy (m_X10_cut E l _ _ v2 v4 _ hwp) (cw_X10_90 C rfl rfl ⟨Nat.le_trans (Nat.le_of_ble_eq_true rfl) hR.1, Nat.le_trans (Nat.le_of_ble_eq_true rfl) hR.2⟩) rfl lv.1 rfl (Nat.le_of_ble_eq_true rfl) dX10_lay_52 ⟨Nat.zero_le _, Nat.zero_le _⟩) (fun r10 h11 hl11 H locs hwp Dy => ?_)
        obtain ⟨rfl, rfl, hwp⟩ := hwp
        obtain ⟨g12, hwp⟩ := hwp
        refine x_iast C Dy wma_3 g12 dX10_lay_55 (fun H locs Dy => ?_)
        refine lv_iconst (v := (1 : Int32)) hx hb dX10_lay_56 (by decide) ?_
        exact x_iret C Dy ⟨rfl, hwp⟩ dX10_lay_57
      · have hwp := hwp.2 c9
        refine lv_iload hx hb dX10_lay_36 (lv_at lv 0 rfl) ?_
        exact x_iret C Dy ⟨rfl, hwp⟩ dX10_lay_38
    · have hwp := hwp.1 c6
      refine lv_bipush (v := (-2 : Int32)) hx hb dX10_lay_19 (by decide) ?_
      exact x_iret C Dy ⟨rfl, hwp⟩ dX10_lay_21
def p_X10_get (h : Mem) (v1 : Int32) (v2 : Int32) (v3 : Int32) (Qp : Int32 → Mem → Prop) : Prop := (p_X10_isSheet v1 (fun r1 => ((r1 = 0 → Qp (-2147483648 : Int32) h) ∧ (¬ (r1 = 0) → (p_X10_in (v2.toInt64) (0 : Int64) (2 : Int64) (fun r4 => ((r4 = 0 → Qp (-2147483648 : Int32) h) ∧ (¬ (r4 = 0) → (p_X10_lacks h v1 v2 v3 (fun r7 h8 => ((r7 = 0 → (vp_in (((60 : Int32) * v1) + v3) 240 ∧ Qp (h8 3 (((60 : Int32) * v1) + v3).toNatClampNeg) h8)) ∧ (¬ (r7 = 0) → Qp (-2147483648 : Int32) h8))))))))))))
set_option maxHeartbeats 4000000 in
set_option maxRecDepth 100000 in
theorem m_X10_get (E : xE) (l : Launch) (h : Mem) (hl : MemL) (v1 : Int32) (v2 : Int32) (v3 : Int32) (Qp : Int32 → Mem → Prop) (hwp : p_X10_get h v1 v2 v3 Qp) : Met l yX10_get (wsU yX10_get cX10_get 4 (some .int)) ({ frames := 2, cells := 0, slots := 0, locals := 48 } : Room) (mPc (wdM E) [.ref (wad (wdM E) 0), .int v1, .int v2, .int v3] h hl) (mQi (wdM E) (fun r h1 hl1 => hl = hl1 ∧ Qp r h1)) 0 0 (wA (wdM E)) := by
  refine x_met RX10 [(0, .ref (wad (wdM E) 0)), (1, .int v1), (2, .int v2), (3, .int v3)] (by decide) rfl (Nat.le_of_ble_eq_true rfl) rfl ?_
  intro p e s m args below meth c ls C Dy lv
  have hx := C.x
  have hb := C.b
  have hR : 2 ≤ ({ frames := 2, cells := 0, slots := 0, locals := 48 } : Room).frames ∧ 48 ≤ ({ frames := 2, cells := 0, slots := 0, locals := 48 } : Room).locals := ⟨Nat.le_refl _, Nat.le_refl _⟩
  unfold p_X10_get at hwp
  refine lv_iload_n hx hb dX10_get_0 rfl (lv_at lv 1 rfl) ?_
  refine x_cont_z Dy (x_runS (As := [.int v1]) (rest := []) C Dy (m_X10_isSheet E l _ _ v1 _ hwp) (cw_X10_76 C rfl rfl ⟨Nat.le_trans (Nat.le_of_ble_eq_true rfl) hR.1, Nat.le_trans (Nat.le_of_ble_eq_true rfl) hR.2⟩) rfl lv.1 rfl (Nat.le_of_ble_eq_true rfl) dX10_get_1 ⟨Nat.zero_le _, Nat.zero_le _⟩) (fun r1 h2 hl2 H locs zr1 hwp Dy => ?_)
  obtain ⟨rfl, rfl, hwp⟩ := hwp
  refine lv_if_eq (tgt := 29) hx hb dX10_get_4 (by decide) (fun c3 => ?_) (fun c3 => ?_)
  · have hwp := hwp.1 c3
    refine lv_ldc hx hb C.ow (C.ts _ k_924) dX10_get_29 ?_
    exact x_iret C Dy ⟨rfl, hwp⟩ dX10_get_31
  · have hwp := hwp.2 c3
    refine lv_iload_n hx hb dX10_get_7 rfl (lv_at lv 2 rfl) ?_
    refine lv_i2l hx hb dX10_get_8 rfl ?_
    refine lv_lconst (v := (0 : Int64)) hx hb dX10_get_9 (by decide) ?_
    refine lv_ldc2 hx hb C.ow (C.ts _ k_900) dX10_get_10 ?_
    refine x_cont_z Dy (x_runS (As := [.long (v2.toInt64), .long (0 : Int64), .long (2 : Int64)]) (rest := []) C Dy (m_X10_in E l _ _ (v2.toInt64) (0 : Int64) (2 : Int64) _ hwp) (cw_X10_66 C rfl rfl ⟨Nat.le_trans (Nat.le_of_ble_eq_true rfl) hR.1, Nat.le_trans (Nat.le_of_ble_eq_true rfl) hR.2⟩) rfl lv.1 rfl (Nat.le_of_ble_eq_true rfl) dX10_get_13 ⟨Nat.zero_le _, Nat.zero_le _⟩) (fun r4 h5 hl5 H locs zr4 hwp Dy => ?_)
    obtain ⟨rfl, rfl, hwp⟩ := hwp
    refine lv_if_eq (tgt := 29) hx hb dX10_get_16 (by decide) (fun c6 => ?_) (fun c6 => ?_)
    · have hwp := hwp.1 c6
      refine lv_ldc hx hb C.ow (C.ts _ k_924) dX10_get_29 ?_
      exact x_iret C Dy ⟨rfl, hwp⟩ dX10_get_31
    · have hwp := hwp.2 c6
      refine lv_aload_n hx hb dX10_get_19 rfl (lv_at lv 0 rfl) ?_
      refine lv_iload_n hx hb dX10_get_20 rfl (lv_at lv 1 rfl) ?_
      refine lv_iload_n hx hb dX10_get_21 rfl (lv_at lv 2 rfl) ?_
      refine lv_iload_n hx hb dX10_get_22 rfl (lv_at lv 3 rfl) ?_
      refine x_cont_i Dy (x_runV (As := [.int v1, .int v2, .int v3]) (rest := []) C Dy (m_X10_lacks E l _ _ v1 v2 v3 _ hwp) (cw_X10_86 C rfl rfl ⟨Nat.le_trans (Nat.le_of_ble_eq_true rfl) hR.1, Nat.le_trans (Nat.le_of_ble_eq_true rfl) hR.2⟩) wm_0 rfl rfl lv.1 rfl (Nat.le_of_ble_eq_true rfl) dX10_get_23 ⟨Nat.zero_le _, Nat.zero_le _⟩) (fun r7 h8 hl8 H locs hwp Dy => ?_)
      obtain ⟨rfl, hwp⟩ := hwp
      refine lv_if_eq (tgt := 32) hx hb dX10_get_26 (by decide) (fun c9 => ?_) (fun c9 => ?_)
      · have hwp := hwp.1 c9
        refine lv_aload_n hx hb dX10_get_32 rfl (lv_at lv 0 rfl) ?_
        refine gf_X10_16_0 C Dy dX10_get_33 ?_
        refine lv_bipush (v := (60 : Int32)) hx hb dX10_get_36 (by decide) ?_
        refine lv_iload_n hx hb dX10_get_38 rfl (lv_at lv 1 rfl) ?_
        refine lv_imul hx hb dX10_get_39 ?_
        refine lv_iload_n hx hb dX10_get_40 rfl (lv_at lv 3 rfl) ?_
        refine lv_iadd hx hb dX10_get_41 ?_
        obtain ⟨g10, hwp⟩ := hwp
        refine x_iald C Dy wma_3 g10 dX10_get_42 ?_
        exact x_iret C Dy ⟨rfl, hwp⟩ dX10_get_43
      · have hwp := hwp.2 c9
        refine lv_ldc hx hb C.ow (C.ts _ k_924) dX10_get_29 ?_
        exact x_iret C Dy ⟨rfl, hwp⟩ dX10_get_31
def b_X10_copy_35 (h : Mem) (Qp : Int32 → Mem → Prop) : Prop := (p_X10_finds h (1 : Int32) (fun r1 h2 => Qp r1 h2))
def b_X10_copy_111 (h : Mem) (Qp : Int32 → Mem → Prop) : Prop := (p_X10_finds h (2 : Int32) (fun r3 h4 => Qp r3 h4))
def b_X10_copy_157 : Nat → Mem → Int32 → Int32 → Int32 → Int32 → (Int32 → Mem → Prop) → Prop
  | 0 => fun _ _ _ _ _ _ => False
  | n + 1 => fun h v3 v4 v5 v6 Qp => ((v5 ≤ v6 → Qp (1 : Int32) h) ∧ (¬ (v5 ≤ v6) → (vp_in v6 60 ∧ (vp_in ((((60 : Int32) * v3) + v4) + v6) 240 ∧ b_X10_copy_157 n (up2 h 3 ((((60 : Int32) * v3) + v4) + v6).toNatClampNeg (h 4 v6.toNatClampNeg)) v3 v4 v5 (v6 + (1 : Int32)) Qp))))
def b_X10_copy_120 : Nat → Mem → Int32 → Int32 → Int32 → Int32 → Int32 → Int32 → (Int32 → Mem → Prop) → Prop
  | 0 => fun _ _ _ _ _ _ _ _ => False
  | n + 1 => fun h v1 v2 v3 v4 v5 v6 Qp => ((v5 ≤ v6 → (∃ n157, b_X10_copy_157 n157 h v3 v4 v5 (0 : Int32) Qp)) ∧ (¬ (v5 ≤ v6) → (vp_in ((((60 : Int32) * v1) + v2) + v6) 240 ∧ (vp_in v6 60 ∧ b_X10_copy_120 n (up2 h 4 v6.toNatClampNeg (h 3 ((((60 : Int32) * v1) + v2) + v6).toNatClampNeg)) v1 v2 v3 v4 v5 (v6 + (1 : Int32)) Qp))))
def p_X10_copy (h : Mem) (v1 : Int32) (v2 : Int32) (v3 : Int32) (v4 : Int32) (v5 : Int32) (Qp : Int32 → Mem → Prop) : Prop := (p_X10_isSheet v1 (fun r11 => ((r11 = 0 → Qp (-2 : Int32) h) ∧ (¬ (r11 = 0) → (p_X10_isSheet v3 (fun r14 => ((r14 = 0 → Qp (-2 : Int32) h) ∧ (¬ (r14 = 0) → (vp_in v1 4 ∧ (((h 1 v1.toNatClampNeg) < 0 → b_X10_copy_35 h Qp) ∧ (¬ ((h 1 v1.toNatClampNeg) < 0) → (vp_in v3 4 ∧ ((0 ≤ (h 1 v3.toNatClampNeg) → (vp_in v1 4 ∧ (vp_in v3 4 ∧ (((h 1 v1.toNatClampNeg) = (h 1 v3.toNatClampNeg) → ((v2 < 0 → b_X10_copy_111 h Qp) ∧ (¬ (v2 < 0) → ((v4 < 0 → b_X10_copy_111 h Qp) ∧ (¬ (v4 < 0) → ((v5 < 0 → b_X10_copy_111 h Qp) ∧ (¬ (v5 < 0) → (vp_in v1 4 ∧ ((((h 2 v1.toNatClampNeg).toInt64) < ((v2.toInt64) + (v5.toInt64)) → b_X10_copy_111 h Qp) ∧ (¬ (((h 2 v1.toNatClampNeg).toInt64) < ((v2.toInt64) + (v5.toInt64))) → (vp_in v3 4 ∧ ((((v4.toInt64) + (v5.toInt64)) ≤ ((h 2 v3.toNatClampNeg).toInt64) → (∃ n120, b_X10_copy_120 n120 h v1 v2 v3 v4 v5 (0 : Int32) Qp)) ∧ (¬ (((v4.toInt64) + (v5.toInt64)) ≤ ((h 2 v3.toNatClampNeg).toInt64)) → b_X10_copy_111 h Qp))))))))))))) ∧ (¬ ((h 1 v1.toNatClampNeg) = (h 1 v3.toNatClampNeg)) → (p_X10_finds h (4 : Int32) (fun r31 h32 => Qp r31 h32))))))) ∧ (¬ (0 ≤ (h 1 v3.toNatClampNeg)) → b_X10_copy_35 h Qp))))))))))))))
set_option maxHeartbeats 4000000 in
set_option maxRecDepth 100000 in
theorem t_X10_copy_35 (E : xE) {p : Program} {l : Launch} {e : Env} {R : Room} {s : State} {m : MethodId} {args : Array Value} {below : List Frame} {meth : Method} {c : Code} (C : mC (wdM E) p s m meth c args cX10_copy 7 RX10 (some .int)) (hR : 2 ≤ R.frames ∧ 45 ≤ R.locals) {hl : MemL} (Qp : Int32 → Mem → Prop) : ∀ (h : Mem) (H : Heap) (locs : List Loc) (ls : Array Slot), mD (wdM E) h hl s H locs → lv_has ls 7 [(0, .ref (wad (wdM E) 0))] → b_X10_copy_35 h Qp → W p l e R s m args below meth c H locs 0 0 (MQ below (mQi (wdM E) (fun r h1 hl1 => hl = hl1 ∧ Qp r h1)) args s 0 0 (wA (wdM E))) (F0 m 35 ls []) := by
  have hx := C.x
  have hb := C.b
  intro h H locs ls Dy lv hwp
  unfold b_X10_copy_35 at hwp
  refine lv_aload_n hx hb dX10_copy_35 rfl (lv_at lv 0 rfl) ?_
  refine lv_iconst (v := (1 : Int32)) hx hb dX10_copy_36 (by decide) ?_
  refine x_cont_i Dy (x_runV (As := [.int (1 : Int32)]) (rest := []) C Dy (m_X10_finds E l _ _ (1 : Int32) _ hwp) (cw_X10_82 C rfl rfl ⟨Nat.le_trans (Nat.le_of_ble_eq_true rfl) hR.1, Nat.le_trans (Nat.le_of_ble_eq_true rfl) hR.2⟩) wm_0 rfl rfl lv.1 rfl (Nat.le_of_ble_eq_true rfl) dX10_copy_37 ⟨Nat.zero_le _, Nat.zero_le _⟩) (fun r1 h2 hl2 H locs hwp Dy => ?_)
  obtain ⟨rfl, hwp⟩ := hwp
  exact x_iret C Dy ⟨rfl, hwp⟩ dX10_copy_40
set_option maxHeartbeats 4000000 in
set_option maxRecDepth 100000 in
theorem t_X10_copy_111 (E : xE) {p : Program} {l : Launch} {e : Env} {R : Room} {s : State} {m : MethodId} {args : Array Value} {below : List Frame} {meth : Method} {c : Code} (C : mC (wdM E) p s m meth c args cX10_copy 7 RX10 (some .int)) (hR : 2 ≤ R.frames ∧ 45 ≤ R.locals) {hl : MemL} (Qp : Int32 → Mem → Prop) : ∀ (h : Mem) (H : Heap) (locs : List Loc) (ls : Array Slot), mD (wdM E) h hl s H locs → lv_has ls 7 [(0, .ref (wad (wdM E) 0))] → b_X10_copy_111 h Qp → W p l e R s m args below meth c H locs 0 0 (MQ below (mQi (wdM E) (fun r h1 hl1 => hl = hl1 ∧ Qp r h1)) args s 0 0 (wA (wdM E))) (F0 m 111 ls []) := by
  have hx := C.x
  have hb := C.b
  intro h H locs ls Dy lv hwp
  unfold b_X10_copy_111 at hwp
  refine lv_aload_n hx hb dX10_copy_111 rfl (lv_at lv 0 rfl) ?_
  refine lv_iconst (v := (2 : Int32)) hx hb dX10_copy_112 (by decide) ?_
  refine x_cont_i Dy (x_runV (As := [.int (2 : Int32)]) (rest := []) C Dy (m_X10_finds E l _ _ (2 : Int32) _ hwp) (cw_X10_82 C rfl rfl ⟨Nat.le_trans (Nat.le_of_ble_eq_true rfl) hR.1, Nat.le_trans (Nat.le_of_ble_eq_true rfl) hR.2⟩) wm_0 rfl rfl lv.1 rfl (Nat.le_of_ble_eq_true rfl) dX10_copy_113 ⟨Nat.zero_le _, Nat.zero_le _⟩) (fun r3 h4 hl4 H locs hwp Dy => ?_)
  obtain ⟨rfl, hwp⟩ := hwp
  exact x_iret C Dy ⟨rfl, hwp⟩ dX10_copy_116
set_option maxHeartbeats 4000000 in
set_option maxRecDepth 100000 in
theorem t_X10_copy_157 (E : xE) {p : Program} {l : Launch} {e : Env} {R : Room} {s : State} {m : MethodId} {args : Array Value} {below : List Frame} {meth : Method} {c : Code} (C : mC (wdM E) p s m meth c args cX10_copy 7 RX10 (some .int)) (hR : 2 ≤ R.frames ∧ 45 ≤ R.locals) {hl : MemL} (Qp : Int32 → Mem → Prop) : ∀ (n : Nat) (h : Mem) (v3 : Int32) (v4 : Int32) (v5 : Int32) (v6 : Int32) (H : Heap) (locs : List Loc) (ls : Array Slot), mD (wdM E) h hl s H locs → lv_has ls 7 [(0, .ref (wad (wdM E) 0)), (3, .int v3), (4, .int v4), (5, .int v5), (6, .int v6)] → b_X10_copy_157 n h v3 v4 v5 v6 Qp → W p l e R s m args below meth c H locs 0 0 (MQ below (mQi (wdM E) (fun r h1 hl1 => hl = hl1 ∧ Qp r h1)) args s 0 0 (wA (wdM E))) (F0 m 157 ls []) := by
  have hx := C.x
  have hb := C.b
  intro n
  induction n with
  | zero => intro h v3 v4 v5 v6 H locs ls Dy lv hwp; exact hwp.elim
  | succ n ih =>
    intro h v3 v4 v5 v6 H locs ls Dy lv hwp
    simp only [b_X10_copy_157] at hwp
    refine lv_iload hx hb dX10_copy_157 (lv_at lv 4 rfl) ?_
    refine lv_iload hx hb dX10_copy_159 (lv_at lv 3 rfl) ?_
    refine lv_icmp_ge (tgt := 192) hx hb dX10_copy_161 (by decide) (fun c8 => ?_) (fun c8 => ?_)
    · have hwp := hwp.1 c8
      refine lv_iconst (v := (1 : Int32)) hx hb dX10_copy_192 (by decide) ?_
      exact x_iret C Dy ⟨rfl, hwp⟩ dX10_copy_193
    · have hwp := hwp.2 c8
      refine lv_aload_n hx hb dX10_copy_164 rfl (lv_at lv 0 rfl) ?_
      refine gf_X10_16_0 C Dy dX10_copy_165 ?_
      refine lv_bipush (v := (60 : Int32)) hx hb dX10_copy_168 (by decide) ?_
      refine lv_iload_n hx hb dX10_copy_170 rfl (lv_at lv 1 rfl) ?_
      refine lv_imul hx hb dX10_copy_171 ?_
      refine lv_iload hx hb dX10_copy_172 (lv_at lv 2 rfl) ?_
      refine lv_iadd hx hb dX10_copy_174 ?_
      refine lv_iload hx hb dX10_copy_175 (lv_at lv 4 rfl) ?_
      refine lv_iadd hx hb dX10_copy_177 ?_
      refine lv_aload_n hx hb dX10_copy_178 rfl (lv_at lv 0 rfl) ?_
      refine gf_X10_19_0 C Dy dX10_copy_179 ?_
      refine lv_iload hx hb dX10_copy_182 (lv_at lv 4 rfl) ?_
      obtain ⟨g9, hwp⟩ := hwp
      refine x_iald C Dy wma_4 g9 dX10_copy_184 ?_
      obtain ⟨g10, hwp⟩ := hwp
      refine x_iast C Dy wma_3 g10 dX10_copy_185 (fun H locs Dy => ?_)
      refine lv_iinc (v := (v6 + (1 : Int32))) (lv' := [(6, .int (v6 + (1 : Int32))), (0, .ref (wad (wdM E) 0)), (3, .int v3), (4, .int v4), (5, .int v5)]) hx hb dX10_copy_186 lv (k := 4) rfl rfl (by decide) rfl (fun ls lv => ?_)
      refine lv_goto (tgt := 157) hx hb dX10_copy_189 (by decide) ?_
      exact ih (up2 h 3 ((((60 : Int32) * v3) + v4) + v6).toNatClampNeg (h 4 v6.toNatClampNeg)) v3 v4 v5 (v6 + (1 : Int32)) _ _ _ Dy (lv_sub lv [1, 2, 3, 4, 0] rfl) hwp
set_option maxHeartbeats 4000000 in
set_option maxRecDepth 100000 in
theorem t_X10_copy_120 (E : xE) {p : Program} {l : Launch} {e : Env} {R : Room} {s : State} {m : MethodId} {args : Array Value} {below : List Frame} {meth : Method} {c : Code} (C : mC (wdM E) p s m meth c args cX10_copy 7 RX10 (some .int)) (hR : 2 ≤ R.frames ∧ 45 ≤ R.locals) {hl : MemL} (Qp : Int32 → Mem → Prop) : ∀ (n : Nat) (h : Mem) (v1 : Int32) (v2 : Int32) (v3 : Int32) (v4 : Int32) (v5 : Int32) (v6 : Int32) (H : Heap) (locs : List Loc) (ls : Array Slot), mD (wdM E) h hl s H locs → lv_has ls 7 [(0, .ref (wad (wdM E) 0)), (1, .int v1), (2, .int v2), (3, .int v3), (4, .int v4), (5, .int v5), (6, .int v6)] → b_X10_copy_120 n h v1 v2 v3 v4 v5 v6 Qp → W p l e R s m args below meth c H locs 0 0 (MQ below (mQi (wdM E) (fun r h1 hl1 => hl = hl1 ∧ Qp r h1)) args s 0 0 (wA (wdM E))) (F0 m 120 ls []) := by
  have hx := C.x
  have hb := C.b
  intro n
  induction n with
  | zero => intro h v1 v2 v3 v4 v5 v6 H locs ls Dy lv hwp; exact hwp.elim
  | succ n ih =>
    intro h v1 v2 v3 v4 v5 v6 H locs ls Dy lv hwp
    simp only [b_X10_copy_120] at hwp
    refine lv_iload hx hb dX10_copy_120 (lv_at lv 6 rfl) ?_
    refine lv_iload hx hb dX10_copy_122 (lv_at lv 5 rfl) ?_
    refine lv_icmp_ge (tgt := 154) hx hb dX10_copy_124 (by decide) (fun c5 => ?_) (fun c5 => ?_)
    · have hwp := hwp.1 c5
      refine lv_iconst (v := (0 : Int32)) hx hb dX10_copy_154 (by decide) ?_
      refine lv_istore (lv' := [(6, .int (0 : Int32)), (0, .ref (wad (wdM E) 0)), (1, .int v1), (2, .int v2), (3, .int v3), (4, .int v4), (5, .int v5)]) hx hb dX10_copy_155 lv (by decide) rfl (fun ls lv => ?_)
      obtain ⟨n0, hwp⟩ := hwp
      exact t_X10_copy_157 E C hR Qp n0 h v3 v4 v5 (0 : Int32) _ _ _ Dy (lv_sub lv [1, 4, 5, 6, 0] rfl) hwp
    · have hwp := hwp.2 c5
      refine lv_aload_n hx hb dX10_copy_127 rfl (lv_at lv 0 rfl) ?_
      refine gf_X10_19_0 C Dy dX10_copy_128 ?_
      refine lv_iload hx hb dX10_copy_131 (lv_at lv 6 rfl) ?_
      refine lv_aload_n hx hb dX10_copy_133 rfl (lv_at lv 0 rfl) ?_
      refine gf_X10_16_0 C Dy dX10_copy_134 ?_
      refine lv_bipush (v := (60 : Int32)) hx hb dX10_copy_137 (by decide) ?_
      refine lv_iload_n hx hb dX10_copy_139 rfl (lv_at lv 1 rfl) ?_
      refine lv_imul hx hb dX10_copy_140 ?_
      refine lv_iload_n hx hb dX10_copy_141 rfl (lv_at lv 2 rfl) ?_
      refine lv_iadd hx hb dX10_copy_142 ?_
      refine lv_iload hx hb dX10_copy_143 (lv_at lv 6 rfl) ?_
      refine lv_iadd hx hb dX10_copy_145 ?_
      obtain ⟨g6, hwp⟩ := hwp
      refine x_iald C Dy wma_3 g6 dX10_copy_146 ?_
      obtain ⟨g7, hwp⟩ := hwp
      refine x_iast C Dy wma_4 g7 dX10_copy_147 (fun H locs Dy => ?_)
      refine lv_iinc (v := (v6 + (1 : Int32))) (lv' := [(6, .int (v6 + (1 : Int32))), (0, .ref (wad (wdM E) 0)), (1, .int v1), (2, .int v2), (3, .int v3), (4, .int v4), (5, .int v5)]) hx hb dX10_copy_148 lv (k := 6) rfl rfl (by decide) rfl (fun ls lv => ?_)
      refine lv_goto (tgt := 120) hx hb dX10_copy_151 (by decide) ?_
      exact ih (up2 h 4 v6.toNatClampNeg (h 3 ((((60 : Int32) * v1) + v2) + v6).toNatClampNeg)) v1 v2 v3 v4 v5 (v6 + (1 : Int32)) _ _ _ Dy (lv_sub lv [1, 2, 3, 4, 5, 6, 0] rfl) hwp
set_option maxHeartbeats 4000000 in
set_option maxRecDepth 100000 in
theorem m_X10_copy (E : xE) (l : Launch) (h : Mem) (hl : MemL) (v1 : Int32) (v2 : Int32) (v3 : Int32) (v4 : Int32) (v5 : Int32) (Qp : Int32 → Mem → Prop) (hwp : p_X10_copy h v1 v2 v3 v4 v5 Qp) : Met l yX10_copy (wsU yX10_copy cX10_copy 7 (some .int)) ({ frames := 2, cells := 0, slots := 0, locals := 45 } : Room) (mPc (wdM E) [.ref (wad (wdM E) 0), .int v1, .int v2, .int v3, .int v4, .int v5] h hl) (mQi (wdM E) (fun r h1 hl1 => hl = hl1 ∧ Qp r h1)) 0 0 (wA (wdM E)) := by
  refine x_met RX10 [(0, .ref (wad (wdM E) 0)), (1, .int v1), (2, .int v2), (3, .int v3), (4, .int v4), (5, .int v5)] (by decide) rfl (Nat.le_of_ble_eq_true rfl) rfl ?_
  intro p e s m args below meth c ls C Dy lv
  have hx := C.x
  have hb := C.b
  have hR : 2 ≤ ({ frames := 2, cells := 0, slots := 0, locals := 45 } : Room).frames ∧ 45 ≤ ({ frames := 2, cells := 0, slots := 0, locals := 45 } : Room).locals := ⟨Nat.le_refl _, Nat.le_refl _⟩
  unfold p_X10_copy at hwp
  refine lv_iload_n hx hb dX10_copy_0 rfl (lv_at lv 1 rfl) ?_
  refine x_cont_z Dy (x_runS (As := [.int v1]) (rest := []) C Dy (m_X10_isSheet E l _ _ v1 _ hwp) (cw_X10_76 C rfl rfl ⟨Nat.le_trans (Nat.le_of_ble_eq_true rfl) hR.1, Nat.le_trans (Nat.le_of_ble_eq_true rfl) hR.2⟩) rfl lv.1 rfl (Nat.le_of_ble_eq_true rfl) dX10_copy_1 ⟨Nat.zero_le _, Nat.zero_le _⟩) (fun r11 h12 hl12 H locs zr11 hwp Dy => ?_)
  obtain ⟨rfl, rfl, hwp⟩ := hwp
  refine lv_if_eq (tgt := 14) hx hb dX10_copy_4 (by decide) (fun c13 => ?_) (fun c13 => ?_)
  · have hwp := hwp.1 c13
    refine lv_bipush (v := (-2 : Int32)) hx hb dX10_copy_14 (by decide) ?_
    exact x_iret C Dy ⟨rfl, hwp⟩ dX10_copy_16
  · have hwp := hwp.2 c13
    refine lv_iload_n hx hb dX10_copy_7 rfl (lv_at lv 3 rfl) ?_
    refine x_cont_z Dy (x_runS (As := [.int v3]) (rest := []) C Dy (m_X10_isSheet E l _ _ v3 _ hwp) (cw_X10_76 C rfl rfl ⟨Nat.le_trans (Nat.le_of_ble_eq_true rfl) hR.1, Nat.le_trans (Nat.le_of_ble_eq_true rfl) hR.2⟩) rfl lv.1 rfl (Nat.le_of_ble_eq_true rfl) dX10_copy_8 ⟨Nat.zero_le _, Nat.zero_le _⟩) (fun r14 h15 hl15 H locs zr14 hwp Dy => ?_)
    obtain ⟨rfl, rfl, hwp⟩ := hwp
    refine lv_if_ne (tgt := 17) hx hb dX10_copy_11 (by decide) (fun c16 => ?_) (fun c16 => ?_)
    · have hwp := hwp.2 c16
      refine lv_aload_n hx hb dX10_copy_17 rfl (lv_at lv 0 rfl) ?_
      refine gf_X10_7_0 C Dy dX10_copy_18 ?_
      refine lv_iload_n hx hb dX10_copy_21 rfl (lv_at lv 1 rfl) ?_
      obtain ⟨g17, hwp⟩ := hwp
      refine x_iald C Dy wma_1 g17 dX10_copy_22 ?_
      refine lv_if_lt (tgt := 35) hx hb dX10_copy_23 (by decide) (fun c18 => ?_) (fun c18 => ?_)
      · have hwp := hwp.1 c18
        exact t_X10_copy_35 E C hR Qp h _ _ _ Dy (lv_sub lv [0] rfl) hwp
      · have hwp := hwp.2 c18
        refine lv_aload_n hx hb dX10_copy_26 rfl (lv_at lv 0 rfl) ?_
        refine gf_X10_7_0 C Dy dX10_copy_27 ?_
        refine lv_iload_n hx hb dX10_copy_30 rfl (lv_at lv 3 rfl) ?_
        obtain ⟨g19, hwp⟩ := hwp
        refine x_iald C Dy wma_1 g19 dX10_copy_31 ?_
        refine lv_if_ge (tgt := 41) hx hb dX10_copy_32 (by decide) (fun c20 => ?_) (fun c20 => ?_)
        · have hwp := hwp.1 c20
          refine lv_aload_n hx hb dX10_copy_41 rfl (lv_at lv 0 rfl) ?_
          refine gf_X10_7_0 C Dy dX10_copy_42 ?_
          refine lv_iload_n hx hb dX10_copy_45 rfl (lv_at lv 1 rfl) ?_
          obtain ⟨g21, hwp⟩ := hwp
          refine x_iald C Dy wma_1 g21 dX10_copy_46 ?_
          refine lv_aload_n hx hb dX10_copy_47 rfl (lv_at lv 0 rfl) ?_
          refine gf_X10_7_0 C Dy dX10_copy_48 ?_
          refine lv_iload_n hx hb dX10_copy_51 rfl (lv_at lv 3 rfl) ?_
          obtain ⟨g22, hwp⟩ := hwp
          refine x_iald C Dy wma_1 g22 dX10_copy_52 ?_
          refine lv_icmp_eq (tgt := 62) hx hb dX10_copy_53 (by decide) (fun c23 => ?_) (fun c23 => ?_)
          · have hwp := hwp.1 c23
            refine lv_iload_n hx hb dX10_copy_62 rfl (lv_at lv 2 rfl) ?_
            refine lv_if_lt (tgt := 111) hx hb dX10_copy_63 (by decide) (fun c24 => ?_) (fun c24 => ?_)
            · have hwp := hwp.1 c24
              exact t_X10_copy_111 E C hR Qp h _ _ _ Dy (lv_sub lv [0] rfl) hwp
            · have hwp := hwp.2 c24
              refine lv_iload hx hb dX10_copy_66 (lv_at lv 4 rfl) ?_
              refine lv_if_lt (tgt := 111) hx hb dX10_copy_68 (by decide) (fun c25 => ?_) (fun c25 => ?_)
              · have hwp := hwp.1 c25
                exact t_X10_copy_111 E C hR Qp h _ _ _ Dy (lv_sub lv [0] rfl) hwp
              · have hwp := hwp.2 c25
                refine lv_iload hx hb dX10_copy_71 (lv_at lv 5 rfl) ?_
                refine lv_if_lt (tgt := 111) hx hb dX10_copy_73 (by decide) (fun c26 => ?_) (fun c26 => ?_)
                · have hwp := hwp.1 c26
                  exact t_X10_copy_111 E C hR Qp h _ _ _ Dy (lv_sub lv [0] rfl) hwp
                · have hwp := hwp.2 c26
                  refine lv_iload_n hx hb dX10_copy_76 rfl (lv_at lv 2 rfl) ?_
                  refine lv_i2l hx hb dX10_copy_77 rfl ?_
                  refine lv_iload hx hb dX10_copy_78 (lv_at lv 5 rfl) ?_
                  refine lv_i2l hx hb dX10_copy_80 rfl ?_
                  refine lv_ladd hx hb dX10_copy_81 ?_
                  refine lv_aload_n hx hb dX10_copy_82 rfl (lv_at lv 0 rfl) ?_
                  refine gf_X10_13_0 C Dy dX10_copy_83 ?_
                  refine lv_iload_n hx hb dX10_copy_86 rfl (lv_at lv 1 rfl) ?_
                  obtain ⟨g27, hwp⟩ := hwp
                  refine x_iald C Dy wma_2 g27 dX10_copy_87 ?_
                  refine lv_i2l hx hb dX10_copy_88 rfl ?_
                  refine W.lcmp hx hb dX10_copy_89 ?_
                  refine lv_if_gt (tgt := 111) hx hb dX10_copy_90 (by decide) (fun c28 => ?_) (fun c28 => ?_)
                  · have hwp := hwp.1 ((lg_cmp_gt _ _).mp c28)
                    exact t_X10_copy_111 E C hR Qp h _ _ _ Dy (lv_sub lv [0] rfl) hwp
                  · have hwp := hwp.2 (fun z => c28 ((lg_cmp_gt _ _).mpr z))
                    refine lv_iload hx hb dX10_copy_93 (lv_at lv 4 rfl) ?_
                    refine lv_i2l hx hb dX10_copy_95 rfl ?_
                    refine lv_iload hx hb dX10_copy_96 (lv_at lv 5 rfl) ?_
                    refine lv_i2l hx hb dX10_copy_98 rfl ?_
                    refine lv_ladd hx hb dX10_copy_99 ?_
                    refine lv_aload_n hx hb dX10_copy_100 rfl (lv_at lv 0 rfl) ?_
                    refine gf_X10_13_0 C Dy dX10_copy_101 ?_
                    refine lv_iload_n hx hb dX10_copy_104 rfl (lv_at lv 3 rfl) ?_
                    obtain ⟨g29, hwp⟩ := hwp
                    refine x_iald C Dy wma_2 g29 dX10_copy_105 ?_
                    refine lv_i2l hx hb dX10_copy_106 rfl ?_
                    refine W.lcmp hx hb dX10_copy_107 ?_
                    refine lv_if_le (tgt := 117) hx hb dX10_copy_108 (by decide) (fun c30 => ?_) (fun c30 => ?_)
                    · have hwp := hwp.1 ((lg_cmp_le _ _).mp c30)
                      refine lv_iconst (v := (0 : Int32)) hx hb dX10_copy_117 (by decide) ?_
                      refine lv_istore (lv' := [(6, .int (0 : Int32)), (0, .ref (wad (wdM E) 0)), (1, .int v1), (2, .int v2), (3, .int v3), (4, .int v4), (5, .int v5)]) hx hb dX10_copy_118 lv (by decide) rfl (fun ls lv => ?_)
                      obtain ⟨n0, hwp⟩ := hwp
                      exact t_X10_copy_120 E C hR Qp n0 h v1 v2 v3 v4 v5 (0 : Int32) _ _ _ Dy (lv_sub lv [1, 2, 3, 4, 5, 6, 0] rfl) hwp
                    · have hwp := hwp.2 (fun z => c30 ((lg_cmp_le _ _).mpr z))
                      exact t_X10_copy_111 E C hR Qp h _ _ _ Dy (lv_sub lv [0] rfl) hwp
          · have hwp := hwp.2 c23
            refine lv_aload_n hx hb dX10_copy_56 rfl (lv_at lv 0 rfl) ?_
            refine lv_iconst (v := (4 : Int32)) hx hb dX10_copy_57 (by decide) ?_
            refine x_cont_i Dy (x_runV (As := [.int (4 : Int32)]) (rest := []) C Dy (m_X10_finds E l _ _ (4 : Int32) _ hwp) (cw_X10_82 C rfl rfl ⟨Nat.le_trans (Nat.le_of_ble_eq_true rfl) hR.1, Nat.le_trans (Nat.le_of_ble_eq_true rfl) hR.2⟩) wm_0 rfl rfl lv.1 rfl (Nat.le_of_ble_eq_true rfl) dX10_copy_58 ⟨Nat.zero_le _, Nat.zero_le _⟩) (fun r31 h32 hl32 H locs hwp Dy => ?_)
            obtain ⟨rfl, hwp⟩ := hwp
            exact x_iret C Dy ⟨rfl, hwp⟩ dX10_copy_61
        · have hwp := hwp.2 c20
          exact t_X10_copy_35 E C hR Qp h _ _ _ Dy (lv_sub lv [0] rfl) hwp
    · have hwp := hwp.1 c16
      refine lv_bipush (v := (-2 : Int32)) hx hb dX10_copy_14 (by decide) ?_
      exact x_iret C Dy ⟨rfl, hwp⟩ dX10_copy_16
def b_X10_type_39 (h : Mem) (v1 : Int32) (v2 : Int32) (w0 : Int32) (w1 : Int32) (Qp : Int32 → Mem → Prop) : Prop := ((w1 = w0 → Qp (-4 : Int32) h) ∧ (¬ (w1 = w0) → (vp_in v1 2 ∧ (vp_in (((72 : Int32) * v1) + (h 6 v1.toNatClampNeg)) 144 ∧ (vp_in v1 2 ∧ (vp_in v1 2 ∧ (∀ h6 : Mem, h6 = (up2 (up2 h 5 (((72 : Int32) * v1) + (h 6 v1.toNatClampNeg)).toNatClampNeg v2) 6 v1.toNatClampNeg (((up2 h 5 (((72 : Int32) * v1) + (h 6 v1.toNatClampNeg)).toNatClampNeg v2) 6 v1.toNatClampNeg) + (1 : Int32))) → (vp_in v1 2 ∧ Qp (h6 6 v1.toNatClampNeg) h6))))))))
def p_X10_type (h : Mem) (v1 : Int32) (v2 : Int32) (Qp : Int32 → Mem → Prop) : Prop := (p_X10_isTwo v1 (fun r8 => ((r8 = 0 → Qp (-2 : Int32) h) ∧ (¬ (r8 = 0) → (p_X10_in (v2.toInt64) (0 : Int64) (255 : Int64) (fun r11 => ((r11 = 0 → Qp (-2 : Int32) h) ∧ (¬ (r11 = 0) → (vp_in v1 2 ∧ b_X10_type_39 h v1 v2 (if v1 = 0 then (71 : Int32) else (47 : Int32)) (h 6 v1.toNatClampNeg) Qp)))))))))
set_option maxHeartbeats 4000000 in
set_option maxRecDepth 100000 in
theorem t_X10_type_39 (E : xE) {p : Program} {l : Launch} {e : Env} {R : Room} {s : State} {m : MethodId} {args : Array Value} {below : List Frame} {meth : Method} {c : Code} (C : mC (wdM E) p s m meth c args cX10_type 3 RX10 (some .int)) (hR : 2 ≤ R.frames ∧ 45 ≤ R.locals) {hl : MemL} (Qp : Int32 → Mem → Prop) : ∀ (h : Mem) (v1 : Int32) (v2 : Int32) (w0 : Int32) (w1 : Int32) (H : Heap) (locs : List Loc) (ls : Array Slot), mD (wdM E) h hl s H locs → lv_has ls 3 [(0, .ref (wad (wdM E) 0)), (1, .int v1), (2, .int v2)] → b_X10_type_39 h v1 v2 w0 w1 Qp → W p l e R s m args below meth c H locs 0 0 (MQ below (mQi (wdM E) (fun r h1 hl1 => hl = hl1 ∧ Qp r h1)) args s 0 0 (wA (wdM E))) (F0 m 39 ls [.int w0, .int w1]) := by
  have hx := C.x
  have hb := C.b
  intro h v1 v2 w0 w1 H locs ls Dy lv hwp
  unfold b_X10_type_39 at hwp
  refine lv_icmp_ne (tgt := 45) hx hb dX10_type_39 (by decide) (fun c1 => ?_) (fun c1 => ?_)
  · have hwp := hwp.2 c1
    refine lv_aload_n hx hb dX10_type_45 rfl (lv_at lv 0 rfl) ?_
    refine gf_X10_22_0 C Dy dX10_type_46 ?_
    refine lv_bipush (v := (72 : Int32)) hx hb dX10_type_49 (by decide) ?_
    refine lv_iload_n hx hb dX10_type_51 rfl (lv_at lv 1 rfl) ?_
    refine lv_imul hx hb dX10_type_52 ?_
    refine lv_aload_n hx hb dX10_type_53 rfl (lv_at lv 0 rfl) ?_
    refine gf_X10_25_0 C Dy dX10_type_54 ?_
    refine lv_iload_n hx hb dX10_type_57 rfl (lv_at lv 1 rfl) ?_
    obtain ⟨g2, hwp⟩ := hwp
    refine x_iald C Dy wma_6 g2 dX10_type_58 ?_
    refine lv_iadd hx hb dX10_type_59 ?_
    refine lv_iload_n hx hb dX10_type_60 rfl (lv_at lv 2 rfl) ?_
    obtain ⟨g3, hwp⟩ := hwp
    refine x_iast C Dy wma_5 g3 dX10_type_61 (fun H locs Dy => ?_)
    refine lv_aload_n hx hb dX10_type_62 rfl (lv_at lv 0 rfl) ?_
    refine gf_X10_25_0 C Dy dX10_type_63 ?_
    refine lv_iload_n hx hb dX10_type_66 rfl (lv_at lv 1 rfl) ?_
    refine lv_dup2_11 hx hb dX10_type_67 rfl rfl ?_
    obtain ⟨g4, hwp⟩ := hwp
    refine x_iald C Dy wma_6 g4 dX10_type_68 ?_
    refine lv_iconst (v := (1 : Int32)) hx hb dX10_type_69 (by decide) ?_
    refine lv_iadd hx hb dX10_type_70 ?_
    obtain ⟨g5, hwp⟩ := hwp
    refine x_iast C Dy wma_6 g5 dX10_type_71 (fun H locs Dy => ?_)
    obtain ⟨h6, eh6⟩ : ∃ z : Mem, z = (up2 (up2 h 5 (((72 : Int32) * v1) + (h 6 v1.toNatClampNeg)).toNatClampNeg v2) 6 v1.toNatClampNeg (((up2 h 5 (((72 : Int32) * v1) + (h 6 v1.toNatClampNeg)).toNatClampNeg v2) 6 v1.toNatClampNeg) + (1 : Int32))) := ⟨_, rfl⟩
    rw [← eh6] at Dy
    have hwp := hwp h6 eh6
    refine lv_aload_n hx hb dX10_type_72 rfl (lv_at lv 0 rfl) ?_
    refine gf_X10_25_0 C Dy dX10_type_73 ?_
    refine lv_iload_n hx hb dX10_type_76 rfl (lv_at lv 1 rfl) ?_
    obtain ⟨g7, hwp⟩ := hwp
    refine x_iald C Dy wma_6 g7 dX10_type_77 ?_
    exact x_iret C Dy ⟨rfl, hwp⟩ dX10_type_78
  · have hwp := hwp.1 c1
    refine lv_bipush (v := (-4 : Int32)) hx hb dX10_type_42 (by decide) ?_
    exact x_iret C Dy ⟨rfl, hwp⟩ dX10_type_44
set_option maxHeartbeats 4000000 in
set_option maxRecDepth 100000 in
theorem m_X10_type (E : xE) (l : Launch) (h : Mem) (hl : MemL) (v1 : Int32) (v2 : Int32) (Qp : Int32 → Mem → Prop) (hwp : p_X10_type h v1 v2 Qp) : Met l yX10_type (wsU yX10_type cX10_type 3 (some .int)) ({ frames := 2, cells := 0, slots := 0, locals := 45 } : Room) (mPc (wdM E) [.ref (wad (wdM E) 0), .int v1, .int v2] h hl) (mQi (wdM E) (fun r h1 hl1 => hl = hl1 ∧ Qp r h1)) 0 0 (wA (wdM E)) := by
  refine x_met RX10 [(0, .ref (wad (wdM E) 0)), (1, .int v1), (2, .int v2)] (by decide) rfl (Nat.le_of_ble_eq_true rfl) rfl ?_
  intro p e s m args below meth c ls C Dy lv
  have hx := C.x
  have hb := C.b
  have hR : 2 ≤ ({ frames := 2, cells := 0, slots := 0, locals := 45 } : Room).frames ∧ 45 ≤ ({ frames := 2, cells := 0, slots := 0, locals := 45 } : Room).locals := ⟨Nat.le_refl _, Nat.le_refl _⟩
  unfold p_X10_type at hwp
  refine lv_iload_n hx hb dX10_type_0 rfl (lv_at lv 1 rfl) ?_
  refine x_cont_z Dy (x_runS (As := [.int v1]) (rest := []) C Dy (m_X10_isTwo E l _ _ v1 _ hwp) (cw_X10_95 C rfl rfl ⟨Nat.le_trans (Nat.le_of_ble_eq_true rfl) hR.1, Nat.le_trans (Nat.le_of_ble_eq_true rfl) hR.2⟩) rfl lv.1 rfl (Nat.le_of_ble_eq_true rfl) dX10_type_1 ⟨Nat.zero_le _, Nat.zero_le _⟩) (fun r8 h9 hl9 H locs zr8 hwp Dy => ?_)
  obtain ⟨rfl, rfl, hwp⟩ := hwp
  refine lv_if_eq (tgt := 19) hx hb dX10_type_4 (by decide) (fun c10 => ?_) (fun c10 => ?_)
  · have hwp := hwp.1 c10
    refine lv_bipush (v := (-2 : Int32)) hx hb dX10_type_19 (by decide) ?_
    exact x_iret C Dy ⟨rfl, hwp⟩ dX10_type_21
  · have hwp := hwp.2 c10
    refine lv_iload_n hx hb dX10_type_7 rfl (lv_at lv 2 rfl) ?_
    refine lv_i2l hx hb dX10_type_8 rfl ?_
    refine lv_lconst (v := (0 : Int64)) hx hb dX10_type_9 (by decide) ?_
    refine lv_ldc2 hx hb C.ow (C.ts _ k_936) dX10_type_10 ?_
    refine x_cont_z Dy (x_runS (As := [.long (v2.toInt64), .long (0 : Int64), .long (255 : Int64)]) (rest := []) C Dy (m_X10_in E l _ _ (v2.toInt64) (0 : Int64) (255 : Int64) _ hwp) (cw_X10_66 C rfl rfl ⟨Nat.le_trans (Nat.le_of_ble_eq_true rfl) hR.1, Nat.le_trans (Nat.le_of_ble_eq_true rfl) hR.2⟩) rfl lv.1 rfl (Nat.le_of_ble_eq_true rfl) dX10_type_13 ⟨Nat.zero_le _, Nat.zero_le _⟩) (fun r11 h12 hl12 H locs zr11 hwp Dy => ?_)
    obtain ⟨rfl, rfl, hwp⟩ := hwp
    refine lv_if_ne (tgt := 22) hx hb dX10_type_16 (by decide) (fun c13 => ?_) (fun c13 => ?_)
    · have hwp := hwp.2 c13
      refine lv_aload_n hx hb dX10_type_22 rfl (lv_at lv 0 rfl) ?_
      refine gf_X10_25_0 C Dy dX10_type_23 ?_
      refine lv_iload_n hx hb dX10_type_26 rfl (lv_at lv 1 rfl) ?_
      obtain ⟨g14, hwp⟩ := hwp
      refine x_iald C Dy wma_6 g14 dX10_type_27 ?_
      refine lv_iload_n hx hb dX10_type_28 rfl (lv_at lv 1 rfl) ?_
      refine lv_if_ne (tgt := 37) hx hb dX10_type_29 (by decide) (fun c15 => ?_) (fun c15 => ?_)
      · try simp only [if_neg c15] at hwp
        refine lv_bipush (v := (47 : Int32)) hx hb dX10_type_37 (by decide) ?_
        exact t_X10_type_39 E C hR Qp h v1 v2 (47 : Int32) (h 6 v1.toNatClampNeg) _ _ _ Dy (lv_sub lv [0, 1, 2] rfl) hwp
      · try simp only [if_pos c15] at hwp
        refine lv_bipush (v := (71 : Int32)) hx hb dX10_type_32 (by decide) ?_
        refine lv_goto (tgt := 39) hx hb dX10_type_34 (by decide) ?_
        exact t_X10_type_39 E C hR Qp h v1 v2 (71 : Int32) (h 6 v1.toNatClampNeg) _ _ _ Dy (lv_sub lv [0, 1, 2] rfl) hwp
    · have hwp := hwp.1 c13
      refine lv_bipush (v := (-2 : Int32)) hx hb dX10_type_19 (by decide) ?_
      exact x_iret C Dy ⟨rfl, hwp⟩ dX10_type_21
def p_X10_wipe (h : Mem) (v1 : Int32) (Qp : Int32 → Mem → Prop) : Prop := (p_X10_isTwo v1 (fun r1 => ((r1 = 0 → Qp (-2 : Int32) h) ∧ (¬ (r1 = 0) → (vp_in v1 2 ∧ (vp_in v1 2 ∧ Qp (h 6 v1.toNatClampNeg) (up2 h 6 v1.toNatClampNeg (0 : Int32))))))))
set_option maxHeartbeats 4000000 in
set_option maxRecDepth 100000 in
theorem m_X10_wipe (E : xE) (l : Launch) (h : Mem) (hl : MemL) (v1 : Int32) (Qp : Int32 → Mem → Prop) (hwp : p_X10_wipe h v1 Qp) : Met l yX10_wipe (wsU yX10_wipe cX10_wipe 3 (some .int)) ({ frames := 2, cells := 0, slots := 0, locals := 45 } : Room) (mPc (wdM E) [.ref (wad (wdM E) 0), .int v1] h hl) (mQi (wdM E) (fun r h1 hl1 => hl = hl1 ∧ Qp r h1)) 0 0 (wA (wdM E)) := by
  refine x_met RX10 [(0, .ref (wad (wdM E) 0)), (1, .int v1)] (by decide) rfl (Nat.le_of_ble_eq_true rfl) rfl ?_
  intro p e s m args below meth c ls C Dy lv
  have hx := C.x
  have hb := C.b
  have hR : 2 ≤ ({ frames := 2, cells := 0, slots := 0, locals := 45 } : Room).frames ∧ 45 ≤ ({ frames := 2, cells := 0, slots := 0, locals := 45 } : Room).locals := ⟨Nat.le_refl _, Nat.le_refl _⟩
  unfold p_X10_wipe at hwp
  refine lv_iload_n hx hb dX10_wipe_0 rfl (lv_at lv 1 rfl) ?_
  refine x_cont_z Dy (x_runS (As := [.int v1]) (rest := []) C Dy (m_X10_isTwo E l _ _ v1 _ hwp) (cw_X10_95 C rfl rfl ⟨Nat.le_trans (Nat.le_of_ble_eq_true rfl) hR.1, Nat.le_trans (Nat.le_of_ble_eq_true rfl) hR.2⟩) rfl lv.1 rfl (Nat.le_of_ble_eq_true rfl) dX10_wipe_1 ⟨Nat.zero_le _, Nat.zero_le _⟩) (fun r1 h2 hl2 H locs zr1 hwp Dy => ?_)
  obtain ⟨rfl, rfl, hwp⟩ := hwp
  refine lv_if_ne (tgt := 10) hx hb dX10_wipe_4 (by decide) (fun c3 => ?_) (fun c3 => ?_)
  · have hwp := hwp.2 c3
    refine lv_aload_n hx hb dX10_wipe_10 rfl (lv_at lv 0 rfl) ?_
    refine gf_X10_25_0 C Dy dX10_wipe_11 ?_
    refine lv_iload_n hx hb dX10_wipe_14 rfl (lv_at lv 1 rfl) ?_
    obtain ⟨g4, hwp⟩ := hwp
    refine x_iald C Dy wma_6 g4 dX10_wipe_15 ?_
    refine lv_istore_n (lv' := [(2, .int (h 6 v1.toNatClampNeg)), (0, .ref (wad (wdM E) 0)), (1, .int v1)]) hx hb dX10_wipe_16 rfl lv (by decide) rfl (fun ls lv => ?_)
    refine lv_aload_n hx hb dX10_wipe_17 rfl (lv_at lv 1 rfl) ?_
    refine gf_X10_25_0 C Dy dX10_wipe_18 ?_
    refine lv_iload_n hx hb dX10_wipe_21 rfl (lv_at lv 2 rfl) ?_
    refine lv_iconst (v := (0 : Int32)) hx hb dX10_wipe_22 (by decide) ?_
    obtain ⟨g5, hwp⟩ := hwp
    refine x_iast C Dy wma_6 g5 dX10_wipe_23 (fun H locs Dy => ?_)
    refine lv_iload_n hx hb dX10_wipe_24 rfl (lv_at lv 0 rfl) ?_
    exact x_iret C Dy ⟨rfl, hwp⟩ dX10_wipe_25
  · have hwp := hwp.1 c3
    refine lv_bipush (v := (-2 : Int32)) hx hb dX10_wipe_7 (by decide) ?_
    exact x_iret C Dy ⟨rfl, hwp⟩ dX10_wipe_9
def p_X10_undo (h : Mem) (v1 : Int32) (Qp : Int32 → Mem → Prop) : Prop := (p_X10_isTwo v1 (fun r1 => ((r1 = 0 → Qp (-2 : Int32) h) ∧ (¬ (r1 = 0) → (vp_in v1 2 ∧ (((h 6 v1.toNatClampNeg) = 0 → Qp (-3 : Int32) h) ∧ (¬ ((h 6 v1.toNatClampNeg) = 0) → (vp_in v1 2 ∧ (vp_in v1 2 ∧ (vp_in v1 2 ∧ Qp ((up2 h 6 v1.toNatClampNeg ((h 6 v1.toNatClampNeg) - (1 : Int32))) 6 v1.toNatClampNeg) (up2 h 6 v1.toNatClampNeg ((h 6 v1.toNatClampNeg) - (1 : Int32)))))))))))))
set_option maxHeartbeats 4000000 in
set_option maxRecDepth 100000 in
theorem m_X10_undo (E : xE) (l : Launch) (h : Mem) (hl : MemL) (v1 : Int32) (Qp : Int32 → Mem → Prop) (hwp : p_X10_undo h v1 Qp) : Met l yX10_undo (wsU yX10_undo cX10_undo 2 (some .int)) ({ frames := 2, cells := 0, slots := 0, locals := 45 } : Room) (mPc (wdM E) [.ref (wad (wdM E) 0), .int v1] h hl) (mQi (wdM E) (fun r h1 hl1 => hl = hl1 ∧ Qp r h1)) 0 0 (wA (wdM E)) := by
  refine x_met RX10 [(0, .ref (wad (wdM E) 0)), (1, .int v1)] (by decide) rfl (Nat.le_of_ble_eq_true rfl) rfl ?_
  intro p e s m args below meth c ls C Dy lv
  have hx := C.x
  have hb := C.b
  have hR : 2 ≤ ({ frames := 2, cells := 0, slots := 0, locals := 45 } : Room).frames ∧ 45 ≤ ({ frames := 2, cells := 0, slots := 0, locals := 45 } : Room).locals := ⟨Nat.le_refl _, Nat.le_refl _⟩
  unfold p_X10_undo at hwp
  refine lv_iload_n hx hb dX10_undo_0 rfl (lv_at lv 1 rfl) ?_
  refine x_cont_z Dy (x_runS (As := [.int v1]) (rest := []) C Dy (m_X10_isTwo E l _ _ v1 _ hwp) (cw_X10_95 C rfl rfl ⟨Nat.le_trans (Nat.le_of_ble_eq_true rfl) hR.1, Nat.le_trans (Nat.le_of_ble_eq_true rfl) hR.2⟩) rfl lv.1 rfl (Nat.le_of_ble_eq_true rfl) dX10_undo_1 ⟨Nat.zero_le _, Nat.zero_le _⟩) (fun r1 h2 hl2 H locs zr1 hwp Dy => ?_)
  obtain ⟨rfl, rfl, hwp⟩ := hwp
  refine lv_if_ne (tgt := 10) hx hb dX10_undo_4 (by decide) (fun c3 => ?_) (fun c3 => ?_)
  · have hwp := hwp.2 c3
    refine lv_aload_n hx hb dX10_undo_10 rfl (lv_at lv 0 rfl) ?_
    refine gf_X10_25_0 C Dy dX10_undo_11 ?_
    refine lv_iload_n hx hb dX10_undo_14 rfl (lv_at lv 1 rfl) ?_
    obtain ⟨g4, hwp⟩ := hwp
    refine x_iald C Dy wma_6 g4 dX10_undo_15 ?_
    refine lv_if_ne (tgt := 22) hx hb dX10_undo_16 (by decide) (fun c5 => ?_) (fun c5 => ?_)
    · have hwp := hwp.2 c5
      refine lv_aload_n hx hb dX10_undo_22 rfl (lv_at lv 0 rfl) ?_
      refine gf_X10_25_0 C Dy dX10_undo_23 ?_
      refine lv_iload_n hx hb dX10_undo_26 rfl (lv_at lv 1 rfl) ?_
      refine lv_dup2_11 hx hb dX10_undo_27 rfl rfl ?_
      obtain ⟨g6, hwp⟩ := hwp
      refine x_iald C Dy wma_6 g6 dX10_undo_28 ?_
      refine lv_iconst (v := (1 : Int32)) hx hb dX10_undo_29 (by decide) ?_
      refine lv_isub hx hb dX10_undo_30 ?_
      obtain ⟨g7, hwp⟩ := hwp
      refine x_iast C Dy wma_6 g7 dX10_undo_31 (fun H locs Dy => ?_)
      refine lv_aload_n hx hb dX10_undo_32 rfl (lv_at lv 0 rfl) ?_
      refine gf_X10_25_0 C Dy dX10_undo_33 ?_
      refine lv_iload_n hx hb dX10_undo_36 rfl (lv_at lv 1 rfl) ?_
      obtain ⟨g8, hwp⟩ := hwp
      refine x_iald C Dy wma_6 g8 dX10_undo_37 ?_
      exact x_iret C Dy ⟨rfl, hwp⟩ dX10_undo_38
    · have hwp := hwp.1 c5
      refine lv_bipush (v := (-3 : Int32)) hx hb dX10_undo_19 (by decide) ?_
      exact x_iret C Dy ⟨rfl, hwp⟩ dX10_undo_21
  · have hwp := hwp.1 c3
    refine lv_bipush (v := (-2 : Int32)) hx hb dX10_undo_7 (by decide) ?_
    exact x_iret C Dy ⟨rfl, hwp⟩ dX10_undo_9
def p_X10_here (h : Mem) (v1 : Int32) (Qp : Int32 → Prop) : Prop := (vp_in v1 2 ∧ (((h 6 v1.toNatClampNeg) ≤ (h 0 7) → Qp (-1 : Int32)) ∧ (¬ ((h 6 v1.toNatClampNeg) ≤ (h 0 7)) → (vp_in (((72 : Int32) * v1) + (h 0 7)) 144 ∧ Qp (h 5 (((72 : Int32) * v1) + (h 0 7)).toNatClampNeg)))))
set_option maxHeartbeats 4000000 in
set_option maxRecDepth 100000 in
theorem m_X10_here (E : xE) (l : Launch) (h : Mem) (hl : MemL) (v1 : Int32) (Qp : Int32 → Prop) (hwp : p_X10_here h v1 Qp) : Met l yX10_here (wsU yX10_here cX10_here 2 (some .int)) ({ frames := 0, cells := 0, slots := 0, locals := 0 } : Room) (mPc (wdM E) [.ref (wad (wdM E) 0), .int v1] h hl) (mQi (wdM E) (fun r h1 hl1 => h = h1 ∧ hl = hl1 ∧ Qp r)) 0 0 (wA (wdM E)) := by
  refine x_met RX10 [(0, .ref (wad (wdM E) 0)), (1, .int v1)] (by decide) rfl (Nat.le_of_ble_eq_true rfl) rfl ?_
  intro p e s m args below meth c ls C Dy lv
  have hx := C.x
  have hb := C.b
  have hR : 0 ≤ ({ frames := 0, cells := 0, slots := 0, locals := 0 } : Room).frames ∧ 0 ≤ ({ frames := 0, cells := 0, slots := 0, locals := 0 } : Room).locals := ⟨Nat.le_refl _, Nat.le_refl _⟩
  unfold p_X10_here at hwp
  refine lv_aload_n hx hb dX10_here_0 rfl (lv_at lv 0 rfl) ?_
  refine gf_X10_100_0 C Dy dX10_here_1 ?_
  refine lv_aload_n hx hb dX10_here_4 rfl (lv_at lv 0 rfl) ?_
  refine gf_X10_25_0 C Dy dX10_here_5 ?_
  refine lv_iload_n hx hb dX10_here_8 rfl (lv_at lv 1 rfl) ?_
  obtain ⟨g1, hwp⟩ := hwp
  refine x_iald C Dy wma_6 g1 dX10_here_9 ?_
  refine lv_icmp_ge (tgt := 30) hx hb dX10_here_10 (by decide) (fun c2 => ?_) (fun c2 => ?_)
  · have hwp := hwp.1 c2
    refine lv_iconst (v := (-1 : Int32)) hx hb dX10_here_30 (by decide) ?_
    exact x_iret C Dy ⟨rfl, rfl, hwp⟩ dX10_here_31
  · have hwp := hwp.2 c2
    refine lv_aload_n hx hb dX10_here_13 rfl (lv_at lv 0 rfl) ?_
    refine gf_X10_22_0 C Dy dX10_here_14 ?_
    refine lv_bipush (v := (72 : Int32)) hx hb dX10_here_17 (by decide) ?_
    refine lv_iload_n hx hb dX10_here_19 rfl (lv_at lv 1 rfl) ?_
    refine lv_imul hx hb dX10_here_20 ?_
    refine lv_aload_n hx hb dX10_here_21 rfl (lv_at lv 0 rfl) ?_
    refine gf_X10_100_0 C Dy dX10_here_22 ?_
    refine lv_iadd hx hb dX10_here_25 ?_
    obtain ⟨g3, hwp⟩ := hwp
    refine x_iald C Dy wma_5 g3 dX10_here_26 ?_
    refine lv_goto (tgt := 31) hx hb dX10_here_27 (by decide) ?_
    exact x_iret C Dy ⟨rfl, rfl, hwp⟩ dX10_here_31
def p_X10_within (v0 : Int32) (v1 : Int32) (v2 : Int32) (Qp : Int32 → Prop) : Prop := (p_X10_in (v0.toInt64) (v1.toInt64) (v2.toInt64) (fun r1 => Qp (if r1 = 0 then (-9 : Int32) else (v0 - v1))))
set_option maxHeartbeats 4000000 in
set_option maxRecDepth 100000 in
theorem m_X10_within (E : xE) (l : Launch) (h : Mem) (hl : MemL) (v0 : Int32) (v1 : Int32) (v2 : Int32) (Qp : Int32 → Prop) (hwp : p_X10_within v0 v1 v2 Qp) : Met l yX10_within (wsU yX10_within cX10_within 3 (some .int)) ({ frames := 1, cells := 0, slots := 0, locals := 25 } : Room) (mPc (wdM E) [.int v0, .int v1, .int v2] h hl) (mQi (wdM E) (fun r h1 hl1 => h = h1 ∧ hl = hl1 ∧ Qp r)) 0 0 (wA (wdM E)) := by
  refine x_met RX10 [(0, .int v0), (1, .int v1), (2, .int v2)] (by decide) rfl (Nat.le_of_ble_eq_true rfl) rfl ?_
  intro p e s m args below meth c ls C Dy lv
  have hx := C.x
  have hb := C.b
  have hR : 1 ≤ ({ frames := 1, cells := 0, slots := 0, locals := 25 } : Room).frames ∧ 25 ≤ ({ frames := 1, cells := 0, slots := 0, locals := 25 } : Room).locals := ⟨Nat.le_refl _, Nat.le_refl _⟩
  unfold p_X10_within at hwp
  refine lv_iload_n hx hb dX10_within_0 rfl (lv_at lv 0 rfl) ?_
  refine lv_i2l hx hb dX10_within_1 rfl ?_
  refine lv_iload_n hx hb dX10_within_2 rfl (lv_at lv 1 rfl) ?_
  refine lv_i2l hx hb dX10_within_3 rfl ?_
  refine lv_iload_n hx hb dX10_within_4 rfl (lv_at lv 2 rfl) ?_
  refine lv_i2l hx hb dX10_within_5 rfl ?_
  refine x_cont_z Dy (x_runS (As := [.long (v0.toInt64), .long (v1.toInt64), .long (v2.toInt64)]) (rest := []) C Dy (m_X10_in E l _ _ (v0.toInt64) (v1.toInt64) (v2.toInt64) _ hwp) (cw_X10_66 C rfl rfl ⟨Nat.le_trans (Nat.le_of_ble_eq_true rfl) hR.1, Nat.le_trans (Nat.le_of_ble_eq_true rfl) hR.2⟩) rfl lv.1 rfl (Nat.le_of_ble_eq_true rfl) dX10_within_6 ⟨Nat.zero_le _, Nat.zero_le _⟩) (fun r1 h2 hl2 H locs zr1 hwp Dy => ?_)
  obtain ⟨rfl, rfl, hwp⟩ := hwp
  refine lv_if_eq (tgt := 18) hx hb dX10_within_9 (by decide) (fun c3 => ?_) (fun c3 => ?_)
  · try simp only [if_pos c3] at hwp
    refine lv_bipush (v := (-9 : Int32)) hx hb dX10_within_18 (by decide) ?_
    exact x_iret C Dy ⟨rfl, rfl, hwp⟩ dX10_within_20
  · try simp only [if_neg c3] at hwp
    refine lv_iload_n hx hb dX10_within_12 rfl (lv_at lv 0 rfl) ?_
    refine lv_iload_n hx hb dX10_within_13 rfl (lv_at lv 1 rfl) ?_
    refine lv_isub hx hb dX10_within_14 ?_
    refine lv_goto (tgt := 20) hx hb dX10_within_15 (by decide) ?_
    exact x_iret C Dy ⟨rfl, rfl, hwp⟩ dX10_within_20
def p_X10_tellsOf (v0 : Int32) (v1 : Int32) (v2 : Int32) (Qp : Int32 → Prop) : Prop := ((v0 = (1 : Int32) → ((v1 = 0 → (p_X10_within v2 (65 : Int32) (70 : Int32) (fun r16 => Qp r16))) ∧ (¬ (v1 = 0) → ((v1 = (1 : Int32) → (p_X10_within v2 (97 : Int32) (120 : Int32) (fun r14 => Qp r14))) ∧ (¬ (v1 = (1 : Int32)) → (p_X10_within v2 (49 : Int32) (57 : Int32) (fun r12 => Qp (r12 + (1 : Int32))))))))) ∧ (¬ (v0 = (1 : Int32)) → ((v1 = (0 : Int32) → Qp (if v2 = (109 : Int32) then (1 : Int32) else (if v2 = (110 : Int32) then (0 : Int32) else (-9 : Int32)))) ∧ (¬ (v1 = (0 : Int32)) → ((v1 = (1 : Int32) → (p_X10_within v2 (65 : Int32) (70 : Int32) (fun r6 => Qp r6))) ∧ (¬ (v1 = (1 : Int32)) → (p_X10_within v2 (97 : Int32) (120 : Int32) (fun r8 => Qp r8))))))))
set_option maxHeartbeats 4000000 in
set_option maxRecDepth 100000 in
theorem m_X10_tellsOf (E : xE) (l : Launch) (h : Mem) (hl : MemL) (v0 : Int32) (v1 : Int32) (v2 : Int32) (Qp : Int32 → Prop) (hwp : p_X10_tellsOf v0 v1 v2 Qp) : Met l yX10_tellsOf (wsU yX10_tellsOf cX10_tellsOf 3 (some .int)) ({ frames := 2, cells := 0, slots := 0, locals := 47 } : Room) (mPc (wdM E) [.int v0, .int v1, .int v2] h hl) (mQi (wdM E) (fun r h1 hl1 => h = h1 ∧ hl = hl1 ∧ Qp r)) 0 0 (wA (wdM E)) := by
  refine x_met RX10 [(0, .int v0), (1, .int v1), (2, .int v2)] (by decide) rfl (Nat.le_of_ble_eq_true rfl) rfl ?_
  intro p e s m args below meth c ls C Dy lv
  have hx := C.x
  have hb := C.b
  have hR : 2 ≤ ({ frames := 2, cells := 0, slots := 0, locals := 47 } : Room).frames ∧ 47 ≤ ({ frames := 2, cells := 0, slots := 0, locals := 47 } : Room).locals := ⟨Nat.le_refl _, Nat.le_refl _⟩
  unfold p_X10_tellsOf at hwp
  refine lv_iload_n hx hb dX10_tellsOf_0 rfl (lv_at lv 0 rfl) ?_
  refine lv_iconst (v := (1 : Int32)) hx hb dX10_tellsOf_1 (by decide) ?_
  refine lv_icmp_ne (tgt := 47) hx hb dX10_tellsOf_2 (by decide) (fun c1 => ?_) (fun c1 => ?_)
  · have hwp := hwp.2 c1
    refine lv_iload_n hx hb dX10_tellsOf_47 rfl (lv_at lv 1 rfl) ?_
    by_cases c2 : v1 = (0 : Int32)
    · have hwp := hwp.1 c2
      refine lv_lookup (off := 28) (tgt := 76) hx hb dX10_tellsOf_48 (by decide) (by rw [c2]; rfl) (by decide) ?_
      refine lv_iload_n hx hb dX10_tellsOf_76 rfl (lv_at lv 2 rfl) ?_
      refine lv_bipush (v := (109 : Int32)) hx hb dX10_tellsOf_77 (by decide) ?_
      refine lv_icmp_ne (tgt := 86) hx hb dX10_tellsOf_79 (by decide) (fun c3 => ?_) (fun c3 => ?_)
      · try simp only [if_neg c3] at hwp
        refine lv_iload_n hx hb dX10_tellsOf_86 rfl (lv_at lv 2 rfl) ?_
        refine lv_bipush (v := (110 : Int32)) hx hb dX10_tellsOf_87 (by decide) ?_
        refine lv_icmp_ne (tgt := 96) hx hb dX10_tellsOf_89 (by decide) (fun c4 => ?_) (fun c4 => ?_)
        · try simp only [if_neg c4] at hwp
          refine lv_bipush (v := (-9 : Int32)) hx hb dX10_tellsOf_96 (by decide) ?_
          exact x_iret C Dy ⟨rfl, rfl, hwp⟩ dX10_tellsOf_98
        · try simp only [if_pos c4] at hwp
          refine lv_iconst (v := (0 : Int32)) hx hb dX10_tellsOf_92 (by decide) ?_
          refine lv_goto (tgt := 98) hx hb dX10_tellsOf_93 (by decide) ?_
          exact x_iret C Dy ⟨rfl, rfl, hwp⟩ dX10_tellsOf_98
      · try simp only [if_pos c3] at hwp
        refine lv_iconst (v := (1 : Int32)) hx hb dX10_tellsOf_82 (by decide) ?_
        refine lv_goto (tgt := 98) hx hb dX10_tellsOf_83 (by decide) ?_
        exact x_iret C Dy ⟨rfl, rfl, hwp⟩ dX10_tellsOf_98
    · have hwp := hwp.2 c2
      by_cases c5 : v1 = (1 : Int32)
      · have hwp := hwp.1 c5
        refine lv_lookup (off := 51) (tgt := 99) hx hb dX10_tellsOf_48 (by decide) (by rw [c5]; rfl) (by decide) ?_
        refine lv_iload_n hx hb dX10_tellsOf_99 rfl (lv_at lv 2 rfl) ?_
        refine lv_bipush (v := (65 : Int32)) hx hb dX10_tellsOf_100 (by decide) ?_
        refine lv_bipush (v := (70 : Int32)) hx hb dX10_tellsOf_102 (by decide) ?_
        refine x_cont_i Dy (x_runS (As := [.int v2, .int (65 : Int32), .int (70 : Int32)]) (rest := []) C Dy (m_X10_within E l _ _ v2 (65 : Int32) (70 : Int32) _ hwp) (cw_X10_103 C rfl rfl ⟨Nat.le_trans (Nat.le_of_ble_eq_true rfl) hR.1, Nat.le_trans (Nat.le_of_ble_eq_true rfl) hR.2⟩) rfl lv.1 rfl (Nat.le_of_ble_eq_true rfl) dX10_tellsOf_104 ⟨Nat.zero_le _, Nat.zero_le _⟩) (fun r6 h7 hl7 H locs hwp Dy => ?_)
        obtain ⟨rfl, rfl, hwp⟩ := hwp
        exact x_iret C Dy ⟨rfl, rfl, hwp⟩ dX10_tellsOf_107
      · have hwp := hwp.2 c5
        refine lv_lookup (tgt := 108) (off := 60) hx hb dX10_tellsOf_48 (by decide) ((lv_osw c2 (a := 0) (by decide)).trans ((lv_osw c5 (a := 1) (by decide)).trans rfl)) (by decide) ?_
        refine lv_iload_n hx hb dX10_tellsOf_108 rfl (lv_at lv 2 rfl) ?_
        refine lv_bipush (v := (97 : Int32)) hx hb dX10_tellsOf_109 (by decide) ?_
        refine lv_bipush (v := (120 : Int32)) hx hb dX10_tellsOf_111 (by decide) ?_
        refine x_cont_i Dy (x_runS (As := [.int v2, .int (97 : Int32), .int (120 : Int32)]) (rest := []) C Dy (m_X10_within E l _ _ v2 (97 : Int32) (120 : Int32) _ hwp) (cw_X10_103 C rfl rfl ⟨Nat.le_trans (Nat.le_of_ble_eq_true rfl) hR.1, Nat.le_trans (Nat.le_of_ble_eq_true rfl) hR.2⟩) rfl lv.1 rfl (Nat.le_of_ble_eq_true rfl) dX10_tellsOf_113 ⟨Nat.zero_le _, Nat.zero_le _⟩) (fun r8 h9 hl9 H locs hwp Dy => ?_)
        obtain ⟨rfl, rfl, hwp⟩ := hwp
        exact x_iret C Dy ⟨rfl, rfl, hwp⟩ dX10_tellsOf_116
  · have hwp := hwp.1 c1
    refine lv_iload_n hx hb dX10_tellsOf_5 rfl (lv_at lv 1 rfl) ?_
    refine lv_if_ne (tgt := 20) hx hb dX10_tellsOf_6 (by decide) (fun c10 => ?_) (fun c10 => ?_)
    · have hwp := hwp.2 c10
      refine lv_iload_n hx hb dX10_tellsOf_20 rfl (lv_at lv 1 rfl) ?_
      refine lv_iconst (v := (1 : Int32)) hx hb dX10_tellsOf_21 (by decide) ?_
      refine lv_icmp_ne (tgt := 36) hx hb dX10_tellsOf_22 (by decide) (fun c11 => ?_) (fun c11 => ?_)
      · have hwp := hwp.2 c11
        refine lv_iload_n hx hb dX10_tellsOf_36 rfl (lv_at lv 2 rfl) ?_
        refine lv_bipush (v := (49 : Int32)) hx hb dX10_tellsOf_37 (by decide) ?_
        refine lv_bipush (v := (57 : Int32)) hx hb dX10_tellsOf_39 (by decide) ?_
        refine x_cont_i Dy (x_runS (As := [.int v2, .int (49 : Int32), .int (57 : Int32)]) (rest := []) C Dy (m_X10_within E l _ _ v2 (49 : Int32) (57 : Int32) _ hwp) (cw_X10_103 C rfl rfl ⟨Nat.le_trans (Nat.le_of_ble_eq_true rfl) hR.1, Nat.le_trans (Nat.le_of_ble_eq_true rfl) hR.2⟩) rfl lv.1 rfl (Nat.le_of_ble_eq_true rfl) dX10_tellsOf_41 ⟨Nat.zero_le _, Nat.zero_le _⟩) (fun r12 h13 hl13 H locs hwp Dy => ?_)
        obtain ⟨rfl, rfl, hwp⟩ := hwp
        refine lv_iconst (v := (1 : Int32)) hx hb dX10_tellsOf_44 (by decide) ?_
        refine lv_iadd hx hb dX10_tellsOf_45 ?_
        exact x_iret C Dy ⟨rfl, rfl, hwp⟩ dX10_tellsOf_46
      · have hwp := hwp.1 c11
        refine lv_iload_n hx hb dX10_tellsOf_25 rfl (lv_at lv 2 rfl) ?_
        refine lv_bipush (v := (97 : Int32)) hx hb dX10_tellsOf_26 (by decide) ?_
        refine lv_bipush (v := (120 : Int32)) hx hb dX10_tellsOf_28 (by decide) ?_
        refine x_cont_i Dy (x_runS (As := [.int v2, .int (97 : Int32), .int (120 : Int32)]) (rest := []) C Dy (m_X10_within E l _ _ v2 (97 : Int32) (120 : Int32) _ hwp) (cw_X10_103 C rfl rfl ⟨Nat.le_trans (Nat.le_of_ble_eq_true rfl) hR.1, Nat.le_trans (Nat.le_of_ble_eq_true rfl) hR.2⟩) rfl lv.1 rfl (Nat.le_of_ble_eq_true rfl) dX10_tellsOf_30 ⟨Nat.zero_le _, Nat.zero_le _⟩) (fun r14 h15 hl15 H locs hwp Dy => ?_)
        obtain ⟨rfl, rfl, hwp⟩ := hwp
        refine lv_goto (tgt := 46) hx hb dX10_tellsOf_33 (by decide) ?_
        exact x_iret C Dy ⟨rfl, rfl, hwp⟩ dX10_tellsOf_46
    · have hwp := hwp.1 c10
      refine lv_iload_n hx hb dX10_tellsOf_9 rfl (lv_at lv 2 rfl) ?_
      refine lv_bipush (v := (65 : Int32)) hx hb dX10_tellsOf_10 (by decide) ?_
      refine lv_bipush (v := (70 : Int32)) hx hb dX10_tellsOf_12 (by decide) ?_
      refine x_cont_i Dy (x_runS (As := [.int v2, .int (65 : Int32), .int (70 : Int32)]) (rest := []) C Dy (m_X10_within E l _ _ v2 (65 : Int32) (70 : Int32) _ hwp) (cw_X10_103 C rfl rfl ⟨Nat.le_trans (Nat.le_of_ble_eq_true rfl) hR.1, Nat.le_trans (Nat.le_of_ble_eq_true rfl) hR.2⟩) rfl lv.1 rfl (Nat.le_of_ble_eq_true rfl) dX10_tellsOf_14 ⟨Nat.zero_le _, Nat.zero_le _⟩) (fun r16 h17 hl17 H locs hwp Dy => ?_)
      obtain ⟨rfl, rfl, hwp⟩ := hwp
      refine lv_goto (tgt := 46) hx hb dX10_tellsOf_17 (by decide) ?_
      exact x_iret C Dy ⟨rfl, rfl, hwp⟩ dX10_tellsOf_46
