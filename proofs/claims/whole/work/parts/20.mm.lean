def b_X10_orderOf_38 (h : Mem) (v1 : Int32) (v2 : Int32) (v3 : Int32) (v4 : Int32) (v5 : Int32) (K6 : Mem → Int32 → Int32 → Int32 → Int32 → Int32 → Prop) (Qp : Int32 → Mem → Prop) : Prop := K6 h v1 v2 v3 v4 (v5 + (1 : Int32))
def b_X10_orderOf_227 (h : Mem) (v2 : Int32) (v3 : Int32) (v4 : Int32) (v5 : Int32) (v6 : Int32) (v7 : Int32) (K76 : Mem → Int32 → Int32 → Int32 → Int32 → Int32 → Int32 → Prop) (Qp : Int32 → Mem → Prop) : Prop := K76 h v2 v3 v4 v5 v6 (v7 + (1 : Int32))
def b_X10_orderOf_195 : Nat → Mem → Int32 → Int32 → Int32 → Int32 → Int32 → Int32 → Int32 → (Mem → Int32 → Int32 → Int32 → Int32 → Int32 → Int32 → Prop) → (Int32 → Mem → Prop) → Prop
  | 0 => fun _ _ _ _ _ _ _ _ _ _ => False
  | n + 1 => fun h v2 v3 v4 v5 v6 v7 v9 K76 Qp => ((v4 ≤ v9 → b_X10_orderOf_227 h v2 v3 v4 v5 v6 v7 K76 Qp) ∧ (¬ (v4 ≤ v9) → (vp_in v9 4 ∧ (vp_in (h 15 v9.toNatClampNeg) 4 ∧ (vp_in v9 4 ∧ b_X10_orderOf_195 n (up2 h 16 v9.toNatClampNeg (h 14 (h 15 v9.toNatClampNeg).toNatClampNeg)) v2 v3 v4 v5 v6 v7 (v9 + (1 : Int32)) K76 Qp)))))
def b_X10_orderOf_150 : Nat → Mem → Int32 → Int32 → Int32 → Int32 → Int32 → Int32 → Int32 → Int32 → (Mem → Int32 → Int32 → Int32 → Int32 → Int32 → Int32 → Prop) → (Int32 → Mem → Prop) → Prop
  | 0 => fun _ _ _ _ _ _ _ _ _ _ _ => False
  | n + 1 => fun h v2 v3 v4 v5 v6 v7 v8 v9 K76 Qp => ((v4 ≤ v9 → ((v8 ≤ v6 → b_X10_orderOf_227 h v2 v3 v4 v5 v6 v7 K76 Qp) ∧ (¬ (v8 ≤ v6) → (∃ n195, b_X10_orderOf_195 n195 h v2 v3 v4 v5 v8 v7 (0 : Int32) K76 Qp)))) ∧ (¬ (v4 ≤ v9) → (p_X10_bindsOf h (v2 + v9) (0 : Int32) (fun r27 => (p_X10_joyBy h r27 (fun r29 => b_X10_orderOf_150 n h v2 v3 v4 v5 v6 v7 (v8 + r29) (v9 + (1 : Int32)) K76 Qp))))))
def b_X10_orderOf_94 : Nat → Mem → Int32 → Int32 → Int32 → Int32 → Int32 → Int32 → Int32 → (Mem → Int32 → Int32 → Int32 → Int32 → Int32 → Int32 → Prop) → (Int32 → Mem → Prop) → Prop
  | 0 => fun _ _ _ _ _ _ _ _ _ _ => False
  | n + 1 => fun h v2 v3 v4 v5 v6 v7 v8 K76 Qp => ((v4 ≤ v8 → (∃ n150, b_X10_orderOf_150 n150 h v2 v3 v4 v5 v6 v7 (0 : Int32) (0 : Int32) K76 Qp)) ∧ (¬ (v4 ≤ v8) → (vp_in v8 4 ∧ (vp_in (h 15 v8.toNatClampNeg) 4 ∧ (vp_in (h 14 (h 15 v8.toNatClampNeg).toNatClampNeg) 12 ∧ (vp_in v8 4 ∧ (vp_in ((up2 h 12 (h 14 (h 15 v8.toNatClampNeg).toNatClampNeg).toNatClampNeg (v2 + v8)) 15 v8.toNatClampNeg) 4 ∧ (p_X10_breaks (up2 h 12 (h 14 (h 15 v8.toNatClampNeg).toNatClampNeg).toNatClampNeg (v2 + v8)) ((up2 h 12 (h 14 (h 15 v8.toNatClampNeg).toNatClampNeg).toNatClampNeg (v2 + v8)) 14 ((up2 h 12 (h 14 (h 15 v8.toNatClampNeg).toNatClampNeg).toNatClampNeg (v2 + v8)) 15 v8.toNatClampNeg).toNatClampNeg) (fun h24 => b_X10_orderOf_94 n h24 v2 v3 v4 v5 v6 v7 (v8 + (1 : Int32)) K76 Qp)))))))))
def b_X10_orderOf_76 : Nat → Mem → Int32 → Int32 → Int32 → Int32 → Int32 → Int32 → (Int32 → Mem → Prop) → Prop
  | 0 => fun _ _ _ _ _ _ _ _ => False
  | n + 1 => fun h v2 v3 v4 v5 v6 v7 Qp => ((v5 ≤ v7 → (p_X10_find h (fun h11 => ((v3 = (-1 : Int32) → Qp v6 h11) ∧ (¬ (v3 = (-1 : Int32)) → ((v4 ≤ v3 → Qp (-1 : Int32) h11) ∧ (¬ (v4 ≤ v3) → (vp_in v3 4 ∧ Qp (h11 16 v3.toNatClampNeg) h11)))))))) ∧ (¬ (v5 ≤ v7) → (p_X10_unfolds h v4 v7 (fun h16 => (∃ n94, b_X10_orderOf_94 n94 h16 v2 v3 v4 v5 v6 v7 (0 : Int32) (fun h v2 v3 v4 v5 v6 v7 => b_X10_orderOf_76 n h v2 v3 v4 v5 v6 v7 Qp) Qp)))))
def b_X10_orderOf_68 (h : Mem) (v2 : Int32) (v3 : Int32) (v4 : Int32) (w0 : Int32) (Qp : Int32 → Mem → Prop) : Prop := (∃ n76, b_X10_orderOf_76 n76 h v2 v3 v4 w0 (-1 : Int32) (0 : Int32) Qp)
def b_X10_orderOf_6 : Nat → Mem → Int32 → Int32 → Int32 → Int32 → Int32 → (Int32 → Mem → Prop) → Prop
  | 0 => fun _ _ _ _ _ _ _ => False
  | n + 1 => fun h v1 v2 v3 v4 v5 Qp => (vp_in (0 : Int32) 2 ∧ (((h 7 (0 : Int32).toNatClampNeg) ≤ v5 → b_X10_orderOf_68 h v2 v3 v4 (if (3 : Int32) ≤ v4 then (if v4 = (3 : Int32) then (6 : Int32) else (24 : Int32)) else v4) Qp) ∧ (¬ ((h 7 (0 : Int32).toNatClampNeg) ≤ v5) → (p_X10_isIn v1 v5 (fun r5 => ((r5 = 0 → b_X10_orderOf_38 h v1 v2 v3 v4 v5 (fun h v1 v2 v3 v4 v5 => b_X10_orderOf_6 n h v1 v2 v3 v4 v5 Qp) Qp) ∧ (¬ (r5 = 0) → (vp_in v4 4 ∧ b_X10_orderOf_38 (up2 h 14 v4.toNatClampNeg v5) v1 v2 v3 (v4 + (1 : Int32)) v5 (fun h v1 v2 v3 v4 v5 => b_X10_orderOf_6 n h v1 v2 v3 v4 v5 Qp) Qp))))))))
def p_X10_orderOf (h : Mem) (v1 : Int32) (v2 : Int32) (v3 : Int32) (Qp : Int32 → Mem → Prop) : Prop := (∃ n6, b_X10_orderOf_6 n6 h v1 v2 v3 (0 : Int32) (0 : Int32) Qp)
set_option maxHeartbeats 4000000 in
set_option maxRecDepth 100000 in
theorem t_X10_orderOf_38 (E : xE) {p : Program} {l : Launch} {e : Env} {R : Room} {s : State} {m : MethodId} {args : Array Value} {below : List Frame} {meth : Method} {c : Code} (C : mC (wdM E) p s m meth c args cX10_orderOf 10 RX10 (some .int)) (hR : 7 ≤ R.frames ∧ 158 ≤ R.locals) {hl : MemL} (Qp : Int32 → Mem → Prop) (K6 : Mem → Int32 → Int32 → Int32 → Int32 → Int32 → Prop) (hK6 : ∀ (h : Mem) (v1 : Int32) (v2 : Int32) (v3 : Int32) (v4 : Int32) (v5 : Int32) (H : Heap) (locs : List Loc) (ls : Array Slot), mD (wdM E) h hl s H locs → lv_has ls 10 [(0, .ref (wad (wdM E) 0)), (1, .int v1), (2, .int v2), (3, .int v3), (4, .int v4), (5, .int v5)] → K6 h v1 v2 v3 v4 v5 → W p l e R s m args below meth c H locs 0 0 (MQ below (mQi (wdM E) (fun r h1 hl1 => hl = hl1 ∧ Qp r h1)) args s 0 0 (wA (wdM E))) (F0 m 6 ls [])) : ∀ (h : Mem) (v1 : Int32) (v2 : Int32) (v3 : Int32) (v4 : Int32) (v5 : Int32) (H : Heap) (locs : List Loc) (ls : Array Slot), mD (wdM E) h hl s H locs → lv_has ls 10 [(0, .ref (wad (wdM E) 0)), (1, .int v1), (2, .int v2), (3, .int v3), (4, .int v4), (5, .int v5)] → b_X10_orderOf_38 h v1 v2 v3 v4 v5 K6 Qp → W p l e R s m args below meth c H locs 0 0 (MQ below (mQi (wdM E) (fun r h1 hl1 => hl = hl1 ∧ Qp r h1)) args s 0 0 (wA (wdM E))) (F0 m 38 ls []) := by
  have hx := C.x
  have hb := C.b
  intro h v1 v2 v3 v4 v5 H locs ls Dy lv hwp
  unfold b_X10_orderOf_38 at hwp
  refine lv_iinc (v := (v5 + (1 : Int32))) (lv' := [(5, .int (v5 + (1 : Int32))), (0, .ref (wad (wdM E) 0)), (1, .int v1), (2, .int v2), (3, .int v3), (4, .int v4)]) hx hb dX10_orderOf_38 lv (k := 5) rfl rfl (by decide) rfl (fun ls lv => ?_)
  refine lv_goto (tgt := 6) hx hb dX10_orderOf_41 (by decide) ?_
  exact hK6 h v1 v2 v3 v4 (v5 + (1 : Int32)) _ _ _ Dy (lv_sub lv [1, 2, 3, 4, 5, 0] rfl) hwp
set_option maxHeartbeats 4000000 in
set_option maxRecDepth 100000 in
theorem t_X10_orderOf_227 (E : xE) {p : Program} {l : Launch} {e : Env} {R : Room} {s : State} {m : MethodId} {args : Array Value} {below : List Frame} {meth : Method} {c : Code} (C : mC (wdM E) p s m meth c args cX10_orderOf 10 RX10 (some .int)) (hR : 7 ≤ R.frames ∧ 158 ≤ R.locals) {hl : MemL} (Qp : Int32 → Mem → Prop) (K76 : Mem → Int32 → Int32 → Int32 → Int32 → Int32 → Int32 → Prop) (hK76 : ∀ (h : Mem) (v2 : Int32) (v3 : Int32) (v4 : Int32) (v5 : Int32) (v6 : Int32) (v7 : Int32) (H : Heap) (locs : List Loc) (ls : Array Slot), mD (wdM E) h hl s H locs → lv_has ls 10 [(0, .ref (wad (wdM E) 0)), (2, .int v2), (3, .int v3), (4, .int v4), (5, .int v5), (6, .int v6), (7, .int v7)] → K76 h v2 v3 v4 v5 v6 v7 → W p l e R s m args below meth c H locs 0 0 (MQ below (mQi (wdM E) (fun r h1 hl1 => hl = hl1 ∧ Qp r h1)) args s 0 0 (wA (wdM E))) (F0 m 76 ls [])) : ∀ (h : Mem) (v2 : Int32) (v3 : Int32) (v4 : Int32) (v5 : Int32) (v6 : Int32) (v7 : Int32) (H : Heap) (locs : List Loc) (ls : Array Slot), mD (wdM E) h hl s H locs → lv_has ls 10 [(0, .ref (wad (wdM E) 0)), (2, .int v2), (3, .int v3), (4, .int v4), (5, .int v5), (6, .int v6), (7, .int v7)] → b_X10_orderOf_227 h v2 v3 v4 v5 v6 v7 K76 Qp → W p l e R s m args below meth c H locs 0 0 (MQ below (mQi (wdM E) (fun r h1 hl1 => hl = hl1 ∧ Qp r h1)) args s 0 0 (wA (wdM E))) (F0 m 227 ls []) := by
  have hx := C.x
  have hb := C.b
  intro h v2 v3 v4 v5 v6 v7 H locs ls Dy lv hwp
  unfold b_X10_orderOf_227 at hwp
  refine lv_iinc (v := (v7 + (1 : Int32))) (lv' := [(7, .int (v7 + (1 : Int32))), (0, .ref (wad (wdM E) 0)), (2, .int v2), (3, .int v3), (4, .int v4), (5, .int v5), (6, .int v6)]) hx hb dX10_orderOf_227 lv (k := 6) rfl rfl (by decide) rfl (fun ls lv => ?_)
  refine lv_goto (tgt := 76) hx hb dX10_orderOf_230 (by decide) ?_
  exact hK76 h v2 v3 v4 v5 v6 (v7 + (1 : Int32)) _ _ _ Dy (lv_sub lv [1, 2, 3, 4, 5, 6, 0] rfl) hwp
set_option maxHeartbeats 4000000 in
set_option maxRecDepth 100000 in
theorem t_X10_orderOf_195 (E : xE) {p : Program} {l : Launch} {e : Env} {R : Room} {s : State} {m : MethodId} {args : Array Value} {below : List Frame} {meth : Method} {c : Code} (C : mC (wdM E) p s m meth c args cX10_orderOf 10 RX10 (some .int)) (hR : 7 ≤ R.frames ∧ 158 ≤ R.locals) {hl : MemL} (Qp : Int32 → Mem → Prop) (K76 : Mem → Int32 → Int32 → Int32 → Int32 → Int32 → Int32 → Prop) (hK76 : ∀ (h : Mem) (v2 : Int32) (v3 : Int32) (v4 : Int32) (v5 : Int32) (v6 : Int32) (v7 : Int32) (H : Heap) (locs : List Loc) (ls : Array Slot), mD (wdM E) h hl s H locs → lv_has ls 10 [(0, .ref (wad (wdM E) 0)), (2, .int v2), (3, .int v3), (4, .int v4), (5, .int v5), (6, .int v6), (7, .int v7)] → K76 h v2 v3 v4 v5 v6 v7 → W p l e R s m args below meth c H locs 0 0 (MQ below (mQi (wdM E) (fun r h1 hl1 => hl = hl1 ∧ Qp r h1)) args s 0 0 (wA (wdM E))) (F0 m 76 ls [])) : ∀ (n : Nat) (h : Mem) (v2 : Int32) (v3 : Int32) (v4 : Int32) (v5 : Int32) (v6 : Int32) (v7 : Int32) (v9 : Int32) (H : Heap) (locs : List Loc) (ls : Array Slot), mD (wdM E) h hl s H locs → lv_has ls 10 [(0, .ref (wad (wdM E) 0)), (2, .int v2), (3, .int v3), (4, .int v4), (5, .int v5), (6, .int v6), (7, .int v7), (9, .int v9)] → b_X10_orderOf_195 n h v2 v3 v4 v5 v6 v7 v9 K76 Qp → W p l e R s m args below meth c H locs 0 0 (MQ below (mQi (wdM E) (fun r h1 hl1 => hl = hl1 ∧ Qp r h1)) args s 0 0 (wA (wdM E))) (F0 m 195 ls []) := by
  have hx := C.x
  have hb := C.b
  intro n
  induction n with
  | zero => intro h v2 v3 v4 v5 v6 v7 v9 H locs ls Dy lv hwp; exact hwp.elim
  | succ n ih =>
    intro h v2 v3 v4 v5 v6 v7 v9 H locs ls Dy lv hwp
    simp only [b_X10_orderOf_195] at hwp
    refine lv_iload hx hb dX10_orderOf_195 (lv_at lv 7 rfl) ?_
    refine lv_iload hx hb dX10_orderOf_197 (lv_at lv 3 rfl) ?_
    refine lv_icmp_ge (tgt := 227) hx hb dX10_orderOf_199 (by decide) (fun c31 => ?_) (fun c31 => ?_)
    · have hwp := hwp.1 c31
      exact t_X10_orderOf_227 E C hR Qp K76 hK76 h v2 v3 v4 v5 v6 v7 _ _ _ Dy (lv_sub lv [0, 1, 2, 3, 4, 5, 6] rfl) hwp
    · have hwp := hwp.2 c31
      refine lv_aload_n hx hb dX10_orderOf_202 rfl (lv_at lv 0 rfl) ?_
      refine gf_X10_55_0 C Dy dX10_orderOf_203 ?_
      refine lv_iload hx hb dX10_orderOf_206 (lv_at lv 7 rfl) ?_
      refine lv_aload_n hx hb dX10_orderOf_208 rfl (lv_at lv 0 rfl) ?_
      refine gf_X10_49_0 C Dy dX10_orderOf_209 ?_
      refine lv_aload_n hx hb dX10_orderOf_212 rfl (lv_at lv 0 rfl) ?_
      refine gf_X10_52_0 C Dy dX10_orderOf_213 ?_
      refine lv_iload hx hb dX10_orderOf_216 (lv_at lv 7 rfl) ?_
      obtain ⟨g32, hwp⟩ := hwp
      refine x_iald C Dy wma_15 g32 dX10_orderOf_218 ?_
      obtain ⟨g33, hwp⟩ := hwp
      refine x_iald C Dy wma_14 g33 dX10_orderOf_219 ?_
      obtain ⟨g34, hwp⟩ := hwp
      refine x_iast C Dy wma_16 g34 dX10_orderOf_220 (fun H locs Dy => ?_)
      refine lv_iinc (v := (v9 + (1 : Int32))) (lv' := [(9, .int (v9 + (1 : Int32))), (0, .ref (wad (wdM E) 0)), (2, .int v2), (3, .int v3), (4, .int v4), (5, .int v5), (6, .int v6), (7, .int v7)]) hx hb dX10_orderOf_221 lv (k := 7) rfl rfl (by decide) rfl (fun ls lv => ?_)
      refine lv_goto (tgt := 195) hx hb dX10_orderOf_224 (by decide) ?_
      exact ih (up2 h 16 v9.toNatClampNeg (h 14 (h 15 v9.toNatClampNeg).toNatClampNeg)) v2 v3 v4 v5 v6 v7 (v9 + (1 : Int32)) _ _ _ Dy (lv_sub lv [1, 2, 3, 4, 5, 6, 7, 0] rfl) hwp
set_option maxHeartbeats 4000000 in
set_option maxRecDepth 100000 in
theorem t_X10_orderOf_150 (E : xE) {p : Program} {l : Launch} {e : Env} {R : Room} {s : State} {m : MethodId} {args : Array Value} {below : List Frame} {meth : Method} {c : Code} (C : mC (wdM E) p s m meth c args cX10_orderOf 10 RX10 (some .int)) (hR : 7 ≤ R.frames ∧ 158 ≤ R.locals) {hl : MemL} (Qp : Int32 → Mem → Prop) (K76 : Mem → Int32 → Int32 → Int32 → Int32 → Int32 → Int32 → Prop) (hK76 : ∀ (h : Mem) (v2 : Int32) (v3 : Int32) (v4 : Int32) (v5 : Int32) (v6 : Int32) (v7 : Int32) (H : Heap) (locs : List Loc) (ls : Array Slot), mD (wdM E) h hl s H locs → lv_has ls 10 [(0, .ref (wad (wdM E) 0)), (2, .int v2), (3, .int v3), (4, .int v4), (5, .int v5), (6, .int v6), (7, .int v7)] → K76 h v2 v3 v4 v5 v6 v7 → W p l e R s m args below meth c H locs 0 0 (MQ below (mQi (wdM E) (fun r h1 hl1 => hl = hl1 ∧ Qp r h1)) args s 0 0 (wA (wdM E))) (F0 m 76 ls [])) : ∀ (n : Nat) (h : Mem) (v2 : Int32) (v3 : Int32) (v4 : Int32) (v5 : Int32) (v6 : Int32) (v7 : Int32) (v8 : Int32) (v9 : Int32) (H : Heap) (locs : List Loc) (ls : Array Slot), mD (wdM E) h hl s H locs → lv_has ls 10 [(0, .ref (wad (wdM E) 0)), (2, .int v2), (3, .int v3), (4, .int v4), (5, .int v5), (6, .int v6), (7, .int v7), (8, .int v8), (9, .int v9)] → b_X10_orderOf_150 n h v2 v3 v4 v5 v6 v7 v8 v9 K76 Qp → W p l e R s m args below meth c H locs 0 0 (MQ below (mQi (wdM E) (fun r h1 hl1 => hl = hl1 ∧ Qp r h1)) args s 0 0 (wA (wdM E))) (F0 m 150 ls []) := by
  have hx := C.x
  have hb := C.b
  intro n
  induction n with
  | zero => intro h v2 v3 v4 v5 v6 v7 v8 v9 H locs ls Dy lv hwp; exact hwp.elim
  | succ n ih =>
    intro h v2 v3 v4 v5 v6 v7 v8 v9 H locs ls Dy lv hwp
    simp only [b_X10_orderOf_150] at hwp
    refine lv_iload hx hb dX10_orderOf_150 (lv_at lv 8 rfl) ?_
    refine lv_iload hx hb dX10_orderOf_152 (lv_at lv 3 rfl) ?_
    refine lv_icmp_ge (tgt := 181) hx hb dX10_orderOf_154 (by decide) (fun c25 => ?_) (fun c25 => ?_)
    · have hwp := hwp.1 c25
      refine lv_iload hx hb dX10_orderOf_181 (lv_at lv 7 rfl) ?_
      refine lv_iload hx hb dX10_orderOf_183 (lv_at lv 5 rfl) ?_
      refine lv_icmp_le (tgt := 227) hx hb dX10_orderOf_185 (by decide) (fun c26 => ?_) (fun c26 => ?_)
      · have hwp := hwp.1 c26
        exact t_X10_orderOf_227 E C hR Qp K76 hK76 h v2 v3 v4 v5 v6 v7 _ _ _ Dy (lv_sub lv [0, 1, 2, 3, 4, 5, 6] rfl) hwp
      · have hwp := hwp.2 c26
        refine lv_iload hx hb dX10_orderOf_188 (lv_at lv 7 rfl) ?_
        refine lv_istore (lv' := [(6, .int v8), (0, .ref (wad (wdM E) 0)), (2, .int v2), (3, .int v3), (4, .int v4), (5, .int v5), (7, .int v7), (8, .int v8), (9, .int v9)]) hx hb dX10_orderOf_190 lv (by decide) rfl (fun ls lv => ?_)
        refine lv_iconst (v := (0 : Int32)) hx hb dX10_orderOf_192 (by decide) ?_
        refine lv_istore (lv' := [(9, .int (0 : Int32)), (6, .int v8), (0, .ref (wad (wdM E) 0)), (2, .int v2), (3, .int v3), (4, .int v4), (5, .int v5), (7, .int v7), (8, .int v8)]) hx hb dX10_orderOf_193 lv (by decide) rfl (fun ls lv => ?_)
        obtain ⟨n0, hwp⟩ := hwp
        exact t_X10_orderOf_195 E C hR Qp K76 hK76 n0 h v2 v3 v4 v5 v8 v7 (0 : Int32) _ _ _ Dy (lv_sub lv [2, 3, 4, 5, 6, 1, 7, 0] rfl) hwp
    · have hwp := hwp.2 c25
      refine lv_iload hx hb dX10_orderOf_157 (lv_at lv 7 rfl) ?_
      refine lv_aload_n hx hb dX10_orderOf_159 rfl (lv_at lv 0 rfl) ?_
      refine lv_aload_n hx hb dX10_orderOf_160 rfl (lv_at lv 0 rfl) ?_
      refine lv_iload_n hx hb dX10_orderOf_161 rfl (lv_at lv 1 rfl) ?_
      refine lv_iload hx hb dX10_orderOf_162 (lv_at lv 8 rfl) ?_
      refine lv_iadd hx hb dX10_orderOf_164 ?_
      refine lv_iconst (v := (0 : Int32)) hx hb dX10_orderOf_165 (by decide) ?_
      refine x_cont_i Dy (x_runV (As := [.int (v2 + v9), .int (0 : Int32)]) (rest := [.ref (wad (wdM E) 0), .int v8]) C Dy (m_X10_bindsOf E l _ _ (v2 + v9) (0 : Int32) _ hwp) (cw_X10_155 C rfl rfl ⟨Nat.le_trans (Nat.le_of_ble_eq_true rfl) hR.1, Nat.le_trans (Nat.le_of_ble_eq_true rfl) hR.2⟩) wm_0 rfl rfl lv.1 rfl (Nat.le_of_ble_eq_true rfl) dX10_orderOf_166 ⟨Nat.zero_le _, Nat.zero_le _⟩) (fun r27 h28 hl28 H locs hwp Dy => ?_)
      obtain ⟨rfl, rfl, hwp⟩ := hwp
      refine x_cont_i Dy (x_runV (As := [.int r27]) (rest := [.int v8]) C Dy (m_X10_joyBy E l _ _ r27 _ hwp) (cw_X10_179 C rfl rfl ⟨Nat.le_trans (Nat.le_of_ble_eq_true rfl) hR.1, Nat.le_trans (Nat.le_of_ble_eq_true rfl) hR.2⟩) wm_0 rfl rfl lv.1 rfl (Nat.le_of_ble_eq_true rfl) dX10_orderOf_169 ⟨Nat.zero_le _, Nat.zero_le _⟩) (fun r29 h30 hl30 H locs hwp Dy => ?_)
      obtain ⟨rfl, rfl, hwp⟩ := hwp
      refine lv_iadd hx hb dX10_orderOf_172 ?_
      refine lv_istore (lv' := [(8, .int (v8 + r29)), (0, .ref (wad (wdM E) 0)), (2, .int v2), (3, .int v3), (4, .int v4), (5, .int v5), (6, .int v6), (7, .int v7), (9, .int v9)]) hx hb dX10_orderOf_173 lv (by decide) rfl (fun ls lv => ?_)
      refine lv_iinc (v := (v9 + (1 : Int32))) (lv' := [(9, .int (v9 + (1 : Int32))), (8, .int (v8 + r29)), (0, .ref (wad (wdM E) 0)), (2, .int v2), (3, .int v3), (4, .int v4), (5, .int v5), (6, .int v6), (7, .int v7)]) hx hb dX10_orderOf_175 lv (k := 8) rfl rfl (by decide) rfl (fun ls lv => ?_)
      refine lv_goto (tgt := 150) hx hb dX10_orderOf_178 (by decide) ?_
      exact ih h v2 v3 v4 v5 v6 v7 (v8 + r29) (v9 + (1 : Int32)) _ _ _ Dy (lv_sub lv [2, 3, 4, 5, 6, 7, 8, 1, 0] rfl) hwp
set_option maxHeartbeats 4000000 in
set_option maxRecDepth 100000 in
theorem t_X10_orderOf_94 (E : xE) {p : Program} {l : Launch} {e : Env} {R : Room} {s : State} {m : MethodId} {args : Array Value} {below : List Frame} {meth : Method} {c : Code} (C : mC (wdM E) p s m meth c args cX10_orderOf 10 RX10 (some .int)) (hR : 7 ≤ R.frames ∧ 158 ≤ R.locals) {hl : MemL} (Qp : Int32 → Mem → Prop) (K76 : Mem → Int32 → Int32 → Int32 → Int32 → Int32 → Int32 → Prop) (hK76 : ∀ (h : Mem) (v2 : Int32) (v3 : Int32) (v4 : Int32) (v5 : Int32) (v6 : Int32) (v7 : Int32) (H : Heap) (locs : List Loc) (ls : Array Slot), mD (wdM E) h hl s H locs → lv_has ls 10 [(0, .ref (wad (wdM E) 0)), (2, .int v2), (3, .int v3), (4, .int v4), (5, .int v5), (6, .int v6), (7, .int v7)] → K76 h v2 v3 v4 v5 v6 v7 → W p l e R s m args below meth c H locs 0 0 (MQ below (mQi (wdM E) (fun r h1 hl1 => hl = hl1 ∧ Qp r h1)) args s 0 0 (wA (wdM E))) (F0 m 76 ls [])) : ∀ (n : Nat) (h : Mem) (v2 : Int32) (v3 : Int32) (v4 : Int32) (v5 : Int32) (v6 : Int32) (v7 : Int32) (v8 : Int32) (H : Heap) (locs : List Loc) (ls : Array Slot), mD (wdM E) h hl s H locs → lv_has ls 10 [(0, .ref (wad (wdM E) 0)), (2, .int v2), (3, .int v3), (4, .int v4), (5, .int v5), (6, .int v6), (7, .int v7), (8, .int v8)] → b_X10_orderOf_94 n h v2 v3 v4 v5 v6 v7 v8 K76 Qp → W p l e R s m args below meth c H locs 0 0 (MQ below (mQi (wdM E) (fun r h1 hl1 => hl = hl1 ∧ Qp r h1)) args s 0 0 (wA (wdM E))) (F0 m 94 ls []) := by
  have hx := C.x
  have hb := C.b
  intro n
  induction n with
  | zero => intro h v2 v3 v4 v5 v6 v7 v8 H locs ls Dy lv hwp; exact hwp.elim
  | succ n ih =>
    intro h v2 v3 v4 v5 v6 v7 v8 H locs ls Dy lv hwp
    simp only [b_X10_orderOf_94] at hwp
    refine lv_iload hx hb dX10_orderOf_94 (lv_at lv 7 rfl) ?_
    refine lv_iload hx hb dX10_orderOf_96 (lv_at lv 3 rfl) ?_
    refine lv_icmp_ge (tgt := 144) hx hb dX10_orderOf_98 (by decide) (fun c17 => ?_) (fun c17 => ?_)
    · have hwp := hwp.1 c17
      refine lv_iconst (v := (0 : Int32)) hx hb dX10_orderOf_144 (by decide) ?_
      refine lv_istore (lv' := [(8, .int (0 : Int32)), (0, .ref (wad (wdM E) 0)), (2, .int v2), (3, .int v3), (4, .int v4), (5, .int v5), (6, .int v6), (7, .int v7)]) hx hb dX10_orderOf_145 lv (by decide) rfl (fun ls lv => ?_)
      refine lv_iconst (v := (0 : Int32)) hx hb dX10_orderOf_147 (by decide) ?_
      refine lv_istore (lv' := [(9, .int (0 : Int32)), (8, .int (0 : Int32)), (0, .ref (wad (wdM E) 0)), (2, .int v2), (3, .int v3), (4, .int v4), (5, .int v5), (6, .int v6), (7, .int v7)]) hx hb dX10_orderOf_148 lv (by decide) rfl (fun ls lv => ?_)
      obtain ⟨n0, hwp⟩ := hwp
      exact t_X10_orderOf_150 E C hR Qp K76 hK76 n0 h v2 v3 v4 v5 v6 v7 (0 : Int32) (0 : Int32) _ _ _ Dy (lv_sub lv [2, 3, 4, 5, 6, 7, 8, 1, 0] rfl) hwp
    · have hwp := hwp.2 c17
      refine lv_aload_n hx hb dX10_orderOf_101 rfl (lv_at lv 0 rfl) ?_
      refine gf_X10_43_0 C Dy dX10_orderOf_102 ?_
      refine lv_aload_n hx hb dX10_orderOf_105 rfl (lv_at lv 0 rfl) ?_
      refine gf_X10_49_0 C Dy dX10_orderOf_106 ?_
      refine lv_aload_n hx hb dX10_orderOf_109 rfl (lv_at lv 0 rfl) ?_
      refine gf_X10_52_0 C Dy dX10_orderOf_110 ?_
      refine lv_iload hx hb dX10_orderOf_113 (lv_at lv 7 rfl) ?_
      obtain ⟨g18, hwp⟩ := hwp
      refine x_iald C Dy wma_15 g18 dX10_orderOf_115 ?_
      obtain ⟨g19, hwp⟩ := hwp
      refine x_iald C Dy wma_14 g19 dX10_orderOf_116 ?_
      refine lv_iload_n hx hb dX10_orderOf_117 rfl (lv_at lv 1 rfl) ?_
      refine lv_iload hx hb dX10_orderOf_118 (lv_at lv 7 rfl) ?_
      refine lv_iadd hx hb dX10_orderOf_120 ?_
      obtain ⟨g20, hwp⟩ := hwp
      refine x_iast C Dy wma_12 g20 dX10_orderOf_121 (fun H locs Dy => ?_)
      refine lv_aload_n hx hb dX10_orderOf_122 rfl (lv_at lv 0 rfl) ?_
      refine lv_aload_n hx hb dX10_orderOf_123 rfl (lv_at lv 0 rfl) ?_
      refine gf_X10_49_0 C Dy dX10_orderOf_124 ?_
      refine lv_aload_n hx hb dX10_orderOf_127 rfl (lv_at lv 0 rfl) ?_
      refine gf_X10_52_0 C Dy dX10_orderOf_128 ?_
      refine lv_iload hx hb dX10_orderOf_131 (lv_at lv 7 rfl) ?_
      obtain ⟨g21, hwp⟩ := hwp
      refine x_iald C Dy wma_15 g21 dX10_orderOf_133 ?_
      obtain ⟨g22, hwp⟩ := hwp
      refine x_iald C Dy wma_14 g22 dX10_orderOf_134 ?_
      refine x_cont_v Dy (x_runV (As := [.int ((up2 h 12 (h 14 (h 15 v8.toNatClampNeg).toNatClampNeg).toNatClampNeg (v2 + v8)) 14 ((up2 h 12 (h 14 (h 15 v8.toNatClampNeg).toNatClampNeg).toNatClampNeg (v2 + v8)) 15 v8.toNatClampNeg).toNatClampNeg)]) (rest := []) C Dy (m_X10_breaks E l _ _ ((up2 h 12 (h 14 (h 15 v8.toNatClampNeg).toNatClampNeg).toNatClampNeg (v2 + v8)) 14 ((up2 h 12 (h 14 (h 15 v8.toNatClampNeg).toNatClampNeg).toNatClampNeg (v2 + v8)) 15 v8.toNatClampNeg).toNatClampNeg) _ hwp) (cw_X10_141 C rfl rfl ⟨Nat.le_trans (Nat.le_of_ble_eq_true rfl) hR.1, Nat.le_trans (Nat.le_of_ble_eq_true rfl) hR.2⟩) wm_0 rfl rfl lv.1 rfl (Nat.le_of_ble_eq_true rfl) dX10_orderOf_135 ⟨Nat.zero_le _, Nat.zero_le _⟩) (fun h24 hl24 H locs hwp Dy => ?_)
      obtain ⟨rfl, hwp⟩ := hwp
      refine lv_iinc (v := (v8 + (1 : Int32))) (lv' := [(8, .int (v8 + (1 : Int32))), (0, .ref (wad (wdM E) 0)), (2, .int v2), (3, .int v3), (4, .int v4), (5, .int v5), (6, .int v6), (7, .int v7)]) hx hb dX10_orderOf_138 lv (k := 7) rfl rfl (by decide) rfl (fun ls lv => ?_)
      refine lv_goto (tgt := 94) hx hb dX10_orderOf_141 (by decide) ?_
      exact ih h24 v2 v3 v4 v5 v6 v7 (v8 + (1 : Int32)) _ _ _ Dy (lv_sub lv [1, 2, 3, 4, 5, 6, 7, 0] rfl) hwp
set_option maxHeartbeats 4000000 in
set_option maxRecDepth 100000 in
theorem t_X10_orderOf_76 (E : xE) {p : Program} {l : Launch} {e : Env} {R : Room} {s : State} {m : MethodId} {args : Array Value} {below : List Frame} {meth : Method} {c : Code} (C : mC (wdM E) p s m meth c args cX10_orderOf 10 RX10 (some .int)) (hR : 7 ≤ R.frames ∧ 158 ≤ R.locals) {hl : MemL} (Qp : Int32 → Mem → Prop) : ∀ (n : Nat) (h : Mem) (v2 : Int32) (v3 : Int32) (v4 : Int32) (v5 : Int32) (v6 : Int32) (v7 : Int32) (H : Heap) (locs : List Loc) (ls : Array Slot), mD (wdM E) h hl s H locs → lv_has ls 10 [(0, .ref (wad (wdM E) 0)), (2, .int v2), (3, .int v3), (4, .int v4), (5, .int v5), (6, .int v6), (7, .int v7)] → b_X10_orderOf_76 n h v2 v3 v4 v5 v6 v7 Qp → W p l e R s m args below meth c H locs 0 0 (MQ below (mQi (wdM E) (fun r h1 hl1 => hl = hl1 ∧ Qp r h1)) args s 0 0 (wA (wdM E))) (F0 m 76 ls []) := by
  have hx := C.x
  have hb := C.b
  intro n
  induction n with
  | zero => intro h v2 v3 v4 v5 v6 v7 H locs ls Dy lv hwp; exact hwp.elim
  | succ n ih =>
    intro h v2 v3 v4 v5 v6 v7 H locs ls Dy lv hwp
    simp only [b_X10_orderOf_76] at hwp
    refine lv_iload hx hb dX10_orderOf_76 (lv_at lv 6 rfl) ?_
    refine lv_iload hx hb dX10_orderOf_78 (lv_at lv 4 rfl) ?_
    refine lv_icmp_ge (tgt := 233) hx hb dX10_orderOf_80 (by decide) (fun c9 => ?_) (fun c9 => ?_)
    · have hwp := hwp.1 c9
      refine lv_aload_n hx hb dX10_orderOf_233 rfl (lv_at lv 0 rfl) ?_
      refine x_cont_v Dy (x_runV (As := []) (rest := []) C Dy (m_X10_find E l _ _ _ hwp) (cw_X10_152 C rfl rfl ⟨Nat.le_trans (Nat.le_of_ble_eq_true rfl) hR.1, Nat.le_trans (Nat.le_of_ble_eq_true rfl) hR.2⟩) wm_0 rfl rfl lv.1 rfl (Nat.le_of_ble_eq_true rfl) dX10_orderOf_234 ⟨Nat.zero_le _, Nat.zero_le _⟩) (fun h11 hl11 H locs hwp Dy => ?_)
      obtain ⟨rfl, hwp⟩ := hwp
      refine lv_iload_n hx hb dX10_orderOf_237 rfl (lv_at lv 2 rfl) ?_
      refine lv_iconst (v := (-1 : Int32)) hx hb dX10_orderOf_238 (by decide) ?_
      refine lv_icmp_ne (tgt := 247) hx hb dX10_orderOf_239 (by decide) (fun c12 => ?_) (fun c12 => ?_)
      · have hwp := hwp.2 c12
        refine lv_iload_n hx hb dX10_orderOf_247 rfl (lv_at lv 2 rfl) ?_
        refine lv_iload hx hb dX10_orderOf_248 (lv_at lv 3 rfl) ?_
        refine lv_icmp_ge (tgt := 262) hx hb dX10_orderOf_250 (by decide) (fun c13 => ?_) (fun c13 => ?_)
        · have hwp := hwp.1 c13
          refine lv_iconst (v := (-1 : Int32)) hx hb dX10_orderOf_262 (by decide) ?_
          exact x_iret C Dy ⟨rfl, hwp⟩ dX10_orderOf_263
        · have hwp := hwp.2 c13
          refine lv_aload_n hx hb dX10_orderOf_253 rfl (lv_at lv 0 rfl) ?_
          refine gf_X10_55_0 C Dy dX10_orderOf_254 ?_
          refine lv_iload_n hx hb dX10_orderOf_257 rfl (lv_at lv 2 rfl) ?_
          obtain ⟨g14, hwp⟩ := hwp
          refine x_iald C Dy wma_16 g14 dX10_orderOf_258 ?_
          refine lv_goto (tgt := 263) hx hb dX10_orderOf_259 (by decide) ?_
          exact x_iret C Dy ⟨rfl, hwp⟩ dX10_orderOf_263
      · have hwp := hwp.1 c12
        refine lv_iload hx hb dX10_orderOf_242 (lv_at lv 5 rfl) ?_
        refine lv_goto (tgt := 263) hx hb dX10_orderOf_244 (by decide) ?_
        exact x_iret C Dy ⟨rfl, hwp⟩ dX10_orderOf_263
    · have hwp := hwp.2 c9
      refine lv_aload_n hx hb dX10_orderOf_83 rfl (lv_at lv 0 rfl) ?_
      refine lv_iload hx hb dX10_orderOf_84 (lv_at lv 3 rfl) ?_
      refine lv_iload hx hb dX10_orderOf_86 (lv_at lv 6 rfl) ?_
      refine x_cont_v Dy (x_runV (As := [.int v4, .int v7]) (rest := []) C Dy (m_X10_unfolds E l _ _ v4 v7 _ hwp) (cw_X10_205 C rfl rfl ⟨Nat.le_trans (Nat.le_of_ble_eq_true rfl) hR.1, Nat.le_trans (Nat.le_of_ble_eq_true rfl) hR.2⟩) wm_0 rfl rfl lv.1 rfl (Nat.le_of_ble_eq_true rfl) dX10_orderOf_88 ⟨Nat.zero_le _, Nat.zero_le _⟩) (fun h16 hl16 H locs hwp Dy => ?_)
      obtain ⟨rfl, hwp⟩ := hwp
      refine lv_iconst (v := (0 : Int32)) hx hb dX10_orderOf_91 (by decide) ?_
      refine lv_istore (lv' := [(8, .int (0 : Int32)), (0, .ref (wad (wdM E) 0)), (2, .int v2), (3, .int v3), (4, .int v4), (5, .int v5), (6, .int v6), (7, .int v7)]) hx hb dX10_orderOf_92 lv (by decide) rfl (fun ls lv => ?_)
      obtain ⟨n0, hwp⟩ := hwp
      exact t_X10_orderOf_94 E C hR Qp (fun h v2 v3 v4 v5 v6 v7 => b_X10_orderOf_76 n h v2 v3 v4 v5 v6 v7 Qp) (fun h v2 v3 v4 v5 v6 v7 H locs ls Dy lv hwp => ih h v2 v3 v4 v5 v6 v7 H locs ls Dy lv hwp) n0 h16 v2 v3 v4 v5 v6 v7 (0 : Int32) _ _ _ Dy (lv_sub lv [1, 2, 3, 4, 5, 6, 7, 0] rfl) hwp
set_option maxHeartbeats 4000000 in
set_option maxRecDepth 100000 in
theorem t_X10_orderOf_68 (E : xE) {p : Program} {l : Launch} {e : Env} {R : Room} {s : State} {m : MethodId} {args : Array Value} {below : List Frame} {meth : Method} {c : Code} (C : mC (wdM E) p s m meth c args cX10_orderOf 10 RX10 (some .int)) (hR : 7 ≤ R.frames ∧ 158 ≤ R.locals) {hl : MemL} (Qp : Int32 → Mem → Prop) : ∀ (h : Mem) (v2 : Int32) (v3 : Int32) (v4 : Int32) (w0 : Int32) (H : Heap) (locs : List Loc) (ls : Array Slot), mD (wdM E) h hl s H locs → lv_has ls 10 [(0, .ref (wad (wdM E) 0)), (2, .int v2), (3, .int v3), (4, .int v4)] → b_X10_orderOf_68 h v2 v3 v4 w0 Qp → W p l e R s m args below meth c H locs 0 0 (MQ below (mQi (wdM E) (fun r h1 hl1 => hl = hl1 ∧ Qp r h1)) args s 0 0 (wA (wdM E))) (F0 m 68 ls [.int w0]) := by
  have hx := C.x
  have hb := C.b
  intro h v2 v3 v4 w0 H locs ls Dy lv hwp
  unfold b_X10_orderOf_68 at hwp
  refine lv_istore (lv' := [(5, .int w0), (0, .ref (wad (wdM E) 0)), (2, .int v2), (3, .int v3), (4, .int v4)]) hx hb dX10_orderOf_68 lv (by decide) rfl (fun ls lv => ?_)
  refine lv_iconst (v := (-1 : Int32)) hx hb dX10_orderOf_70 (by decide) ?_
  refine lv_istore (lv' := [(6, .int (-1 : Int32)), (5, .int w0), (0, .ref (wad (wdM E) 0)), (2, .int v2), (3, .int v3), (4, .int v4)]) hx hb dX10_orderOf_71 lv (by decide) rfl (fun ls lv => ?_)
  refine lv_iconst (v := (0 : Int32)) hx hb dX10_orderOf_73 (by decide) ?_
  refine lv_istore (lv' := [(7, .int (0 : Int32)), (6, .int (-1 : Int32)), (5, .int w0), (0, .ref (wad (wdM E) 0)), (2, .int v2), (3, .int v3), (4, .int v4)]) hx hb dX10_orderOf_74 lv (by decide) rfl (fun ls lv => ?_)
  obtain ⟨n0, hwp⟩ := hwp
  exact t_X10_orderOf_76 E C hR Qp n0 h v2 v3 v4 w0 (-1 : Int32) (0 : Int32) _ _ _ Dy (lv_sub lv [3, 4, 5, 6, 2, 1, 0] rfl) hwp
set_option maxHeartbeats 4000000 in
set_option maxRecDepth 100000 in
theorem t_X10_orderOf_6 (E : xE) {p : Program} {l : Launch} {e : Env} {R : Room} {s : State} {m : MethodId} {args : Array Value} {below : List Frame} {meth : Method} {c : Code} (C : mC (wdM E) p s m meth c args cX10_orderOf 10 RX10 (some .int)) (hR : 7 ≤ R.frames ∧ 158 ≤ R.locals) {hl : MemL} (Qp : Int32 → Mem → Prop) : ∀ (n : Nat) (h : Mem) (v1 : Int32) (v2 : Int32) (v3 : Int32) (v4 : Int32) (v5 : Int32) (H : Heap) (locs : List Loc) (ls : Array Slot), mD (wdM E) h hl s H locs → lv_has ls 10 [(0, .ref (wad (wdM E) 0)), (1, .int v1), (2, .int v2), (3, .int v3), (4, .int v4), (5, .int v5)] → b_X10_orderOf_6 n h v1 v2 v3 v4 v5 Qp → W p l e R s m args below meth c H locs 0 0 (MQ below (mQi (wdM E) (fun r h1 hl1 => hl = hl1 ∧ Qp r h1)) args s 0 0 (wA (wdM E))) (F0 m 6 ls []) := by
  have hx := C.x
  have hb := C.b
  intro n
  induction n with
  | zero => intro h v1 v2 v3 v4 v5 H locs ls Dy lv hwp; exact hwp.elim
  | succ n ih =>
    intro h v1 v2 v3 v4 v5 H locs ls Dy lv hwp
    simp only [b_X10_orderOf_6] at hwp
    refine lv_iload hx hb dX10_orderOf_6 (lv_at lv 5 rfl) ?_
    refine lv_aload_n hx hb dX10_orderOf_8 rfl (lv_at lv 0 rfl) ?_
    refine gf_X10_28_0 C Dy dX10_orderOf_9 ?_
    refine lv_iconst (v := (0 : Int32)) hx hb dX10_orderOf_12 (by decide) ?_
    obtain ⟨g1, hwp⟩ := hwp
    refine x_iald C Dy wma_7 g1 dX10_orderOf_13 ?_
    refine lv_icmp_ge (tgt := 44) hx hb dX10_orderOf_14 (by decide) (fun c2 => ?_) (fun c2 => ?_)
    · have hwp := hwp.1 c2
      refine lv_iload hx hb dX10_orderOf_44 (lv_at lv 4 rfl) ?_
      refine lv_iconst (v := (3 : Int32)) hx hb dX10_orderOf_46 (by decide) ?_
      refine lv_icmp_ge (tgt := 55) hx hb dX10_orderOf_47 (by decide) (fun c3 => ?_) (fun c3 => ?_)
      · try simp only [if_pos c3] at hwp
        refine lv_iload hx hb dX10_orderOf_55 (lv_at lv 4 rfl) ?_
        refine lv_iconst (v := (3 : Int32)) hx hb dX10_orderOf_57 (by decide) ?_
        refine lv_icmp_ne (tgt := 66) hx hb dX10_orderOf_58 (by decide) (fun c4 => ?_) (fun c4 => ?_)
        · try simp only [if_neg c4] at hwp
          refine lv_bipush (v := (24 : Int32)) hx hb dX10_orderOf_66 (by decide) ?_
          exact t_X10_orderOf_68 E C hR Qp h v2 v3 v4 (24 : Int32) _ _ _ Dy (lv_sub lv [0, 2, 3, 4] rfl) hwp
        · try simp only [if_pos c4] at hwp
          refine lv_bipush (v := (6 : Int32)) hx hb dX10_orderOf_61 (by decide) ?_
          refine lv_goto (tgt := 68) hx hb dX10_orderOf_63 (by decide) ?_
          exact t_X10_orderOf_68 E C hR Qp h v2 v3 v4 (6 : Int32) _ _ _ Dy (lv_sub lv [0, 2, 3, 4] rfl) hwp
      · try simp only [if_neg c3] at hwp
        refine lv_iload hx hb dX10_orderOf_50 (lv_at lv 4 rfl) ?_
        refine lv_goto (tgt := 68) hx hb dX10_orderOf_52 (by decide) ?_
        exact t_X10_orderOf_68 E C hR Qp h v2 v3 v4 v4 _ _ _ Dy (lv_sub lv [0, 2, 3, 4] rfl) hwp
    · have hwp := hwp.2 c2
      refine lv_iload_n hx hb dX10_orderOf_17 rfl (lv_at lv 1 rfl) ?_
      refine lv_iload hx hb dX10_orderOf_18 (lv_at lv 5 rfl) ?_
      refine x_cont_z Dy (x_runS (As := [.int v1, .int v5]) (rest := []) C Dy (m_X10_isIn E l _ _ v1 v5 _ hwp) (cw_X10_158 C rfl rfl ⟨Nat.le_trans (Nat.le_of_ble_eq_true rfl) hR.1, Nat.le_trans (Nat.le_of_ble_eq_true rfl) hR.2⟩) rfl lv.1 rfl (Nat.le_of_ble_eq_true rfl) dX10_orderOf_20 ⟨Nat.zero_le _, Nat.zero_le _⟩) (fun r5 h6 hl6 H locs zr5 hwp Dy => ?_)
      obtain ⟨rfl, rfl, hwp⟩ := hwp
      refine lv_if_eq (tgt := 38) hx hb dX10_orderOf_23 (by decide) (fun c7 => ?_) (fun c7 => ?_)
      · have hwp := hwp.1 c7
        exact t_X10_orderOf_38 E C hR Qp (fun h v1 v2 v3 v4 v5 => b_X10_orderOf_6 n h v1 v2 v3 v4 v5 Qp) (fun h v1 v2 v3 v4 v5 H locs ls Dy lv hwp => ih h v1 v2 v3 v4 v5 H locs ls Dy lv hwp) h v1 v2 v3 v4 v5 _ _ _ Dy (lv_sub lv [0, 1, 2, 3, 4, 5] rfl) hwp
      · have hwp := hwp.2 c7
        refine lv_aload_n hx hb dX10_orderOf_26 rfl (lv_at lv 0 rfl) ?_
        refine gf_X10_49_0 C Dy dX10_orderOf_27 ?_
        refine lv_iload hx hb dX10_orderOf_30 (lv_at lv 4 rfl) ?_
        refine lv_iload hx hb dX10_orderOf_32 (lv_at lv 5 rfl) ?_
        obtain ⟨g8, hwp⟩ := hwp
        refine x_iast C Dy wma_14 g8 dX10_orderOf_34 (fun H locs Dy => ?_)
        refine lv_iinc (v := (v4 + (1 : Int32))) (lv' := [(4, .int (v4 + (1 : Int32))), (0, .ref (wad (wdM E) 0)), (1, .int v1), (2, .int v2), (3, .int v3), (5, .int v5)]) hx hb dX10_orderOf_35 lv (k := 4) rfl rfl (by decide) rfl (fun ls lv => ?_)
        exact t_X10_orderOf_38 E C hR Qp (fun h v1 v2 v3 v4 v5 => b_X10_orderOf_6 n h v1 v2 v3 v4 v5 Qp) (fun h v1 v2 v3 v4 v5 H locs ls Dy lv hwp => ih h v1 v2 v3 v4 v5 H locs ls Dy lv hwp) (up2 h 14 v4.toNatClampNeg v5) v1 v2 v3 (v4 + (1 : Int32)) v5 _ _ _ Dy (lv_sub lv [1, 2, 3, 4, 0, 5] rfl) hwp
set_option maxHeartbeats 4000000 in
set_option maxRecDepth 100000 in
theorem m_X10_orderOf (E : xE) (l : Launch) (h : Mem) (hl : MemL) (v1 : Int32) (v2 : Int32) (v3 : Int32) (Qp : Int32 → Mem → Prop) (hwp : p_X10_orderOf h v1 v2 v3 Qp) : Met l yX10_orderOf (wsU yX10_orderOf cX10_orderOf 10 (some .int)) ({ frames := 7, cells := 0, slots := 0, locals := 158 } : Room) (mPc (wdM E) [.ref (wad (wdM E) 0), .int v1, .int v2, .int v3] h hl) (mQi (wdM E) (fun r h1 hl1 => hl = hl1 ∧ Qp r h1)) 0 0 (wA (wdM E)) := by
  refine x_met RX10 [(0, .ref (wad (wdM E) 0)), (1, .int v1), (2, .int v2), (3, .int v3)] (by decide) rfl (Nat.le_of_ble_eq_true rfl) rfl ?_
  intro p e s m args below meth c ls C Dy lv
  have hx := C.x
  have hb := C.b
  have hR : 7 ≤ ({ frames := 7, cells := 0, slots := 0, locals := 158 } : Room).frames ∧ 158 ≤ ({ frames := 7, cells := 0, slots := 0, locals := 158 } : Room).locals := ⟨Nat.le_refl _, Nat.le_refl _⟩
  unfold p_X10_orderOf at hwp
  refine lv_iconst (v := (0 : Int32)) hx hb dX10_orderOf_0 (by decide) ?_
  refine lv_istore (lv' := [(4, .int (0 : Int32)), (0, .ref (wad (wdM E) 0)), (1, .int v1), (2, .int v2), (3, .int v3)]) hx hb dX10_orderOf_1 lv (by decide) rfl (fun ls lv => ?_)
  refine lv_iconst (v := (0 : Int32)) hx hb dX10_orderOf_3 (by decide) ?_
  refine lv_istore (lv' := [(5, .int (0 : Int32)), (4, .int (0 : Int32)), (0, .ref (wad (wdM E) 0)), (1, .int v1), (2, .int v2), (3, .int v3)]) hx hb dX10_orderOf_4 lv (by decide) rfl (fun ls lv => ?_)
  obtain ⟨n0, hwp⟩ := hwp
  exact t_X10_orderOf_6 E C hR Qp n0 h v1 v2 v3 (0 : Int32) (0 : Int32) _ _ _ Dy (lv_sub lv [2, 3, 4, 5, 1, 0] rfl) hwp
def b_X10_order_40 (h : Mem) (v1 : Int32) (v2 : Int32) (v3 : Int32) (w0 : Int32) (Qp : Int32 → Mem → Prop) : Prop := ((w0 = 0 → Qp (-2 : Int32) h) ∧ (¬ (w0 = 0) → (p_X10_isYear v2 (fun r2 => ((r2 = 0 → Qp (-2 : Int32) h) ∧ (¬ (r2 = 0) → (p_X10_ones v1 (fun r5 => (((30 : Int32) < (v2 + r5) → Qp (-2 : Int32) h) ∧ (¬ ((30 : Int32) < (v2 + r5)) → (p_X10_in (v3.toInt64) (-1 : Int64) (3 : Int64) (fun r8 => ((r8 = 0 → Qp (-2 : Int32) h) ∧ (¬ (r8 = 0) → (p_X10_orderOf h v1 v2 v3 (fun r11 h12 => Qp r11 h12))))))))))))))))
def b_X10_order_39 (h : Mem) (v1 : Int32) (v2 : Int32) (v3 : Int32) (Qp : Int32 → Mem → Prop) : Prop := b_X10_order_40 h v1 v2 v3 (0 : Int32) Qp
def p_X10_order (h : Mem) (v1 : Int32) (v2 : Int32) (v3 : Int32) (Qp : Int32 → Mem → Prop) : Prop := (p_X10_find h (fun h14 => ((v1 < 0 → b_X10_order_39 h14 v1 v2 v3 Qp) ∧ (¬ (v1 < 0) → (vp_in (0 : Int32) 2 ∧ ((((1 : Int32) <<< ((h14 7 (0 : Int32).toNatClampNeg) &&& 31)) ≤ v1 → b_X10_order_39 h14 v1 v2 v3 Qp) ∧ (¬ (((1 : Int32) <<< ((h14 7 (0 : Int32).toNatClampNeg) &&& 31)) ≤ v1) → (p_X10_ones v1 (fun r18 => (p_X10_in (r18.toInt64) (1 : Int64) (4 : Int64) (fun r20 => ((r20 = 0 → b_X10_order_39 h14 v1 v2 v3 Qp) ∧ (¬ (r20 = 0) → b_X10_order_40 h14 v1 v2 v3 (1 : Int32) Qp)))))))))))))
set_option maxHeartbeats 4000000 in
set_option maxRecDepth 100000 in
theorem t_X10_order_40 (E : xE) {p : Program} {l : Launch} {e : Env} {R : Room} {s : State} {m : MethodId} {args : Array Value} {below : List Frame} {meth : Method} {c : Code} (C : mC (wdM E) p s m meth c args cX10_order 5 RX10 (some .int)) (hR : 8 ≤ R.frames ∧ 187 ≤ R.locals) {hl : MemL} (Qp : Int32 → Mem → Prop) : ∀ (h : Mem) (v1 : Int32) (v2 : Int32) (v3 : Int32) (w0 : Int32) (H : Heap) (locs : List Loc) (ls : Array Slot), mD (wdM E) h hl s H locs → lv_has ls 5 [(0, .ref (wad (wdM E) 0)), (1, .int v1), (2, .int v2), (3, .int v3)] → b_X10_order_40 h v1 v2 v3 w0 Qp → W p l e R s m args below meth c H locs 0 0 (MQ below (mQi (wdM E) (fun r h1 hl1 => hl = hl1 ∧ Qp r h1)) args s 0 0 (wA (wdM E))) (F0 m 40 ls [.int w0]) := by
  have hx := C.x
  have hb := C.b
  intro h v1 v2 v3 w0 H locs ls Dy lv hwp
  unfold b_X10_order_40 at hwp
  refine lv_istore (lv' := [(4, .int w0), (0, .ref (wad (wdM E) 0)), (1, .int v1), (2, .int v2), (3, .int v3)]) hx hb dX10_order_40 lv (by decide) rfl (fun ls lv => ?_)
  refine lv_iload hx hb dX10_order_42 (lv_at lv 0 rfl) ?_
  refine lv_if_eq (tgt := 89) hx hb dX10_order_44 (by decide) (fun c1 => ?_) (fun c1 => ?_)
  · have hwp := hwp.1 c1
    refine lv_bipush (v := (-2 : Int32)) hx hb dX10_order_89 (by decide) ?_
    exact x_iret C Dy ⟨rfl, hwp⟩ dX10_order_91
  · have hwp := hwp.2 c1
    refine lv_iload_n hx hb dX10_order_47 rfl (lv_at lv 3 rfl) ?_
    refine x_cont_z Dy (x_runS (As := [.int v2]) (rest := []) C Dy (m_X10_isYear E l _ _ v2 _ hwp) (cw_X10_130 C rfl rfl ⟨Nat.le_trans (Nat.le_of_ble_eq_true rfl) hR.1, Nat.le_trans (Nat.le_of_ble_eq_true rfl) hR.2⟩) rfl lv.1 rfl (Nat.le_of_ble_eq_true rfl) dX10_order_48 ⟨Nat.zero_le _, Nat.zero_le _⟩) (fun r2 h3 hl3 H locs zr2 hwp Dy => ?_)
    obtain ⟨rfl, rfl, hwp⟩ := hwp
    refine lv_if_eq (tgt := 89) hx hb dX10_order_51 (by decide) (fun c4 => ?_) (fun c4 => ?_)
    · have hwp := hwp.1 c4
      refine lv_bipush (v := (-2 : Int32)) hx hb dX10_order_89 (by decide) ?_
      exact x_iret C Dy ⟨rfl, hwp⟩ dX10_order_91
    · have hwp := hwp.2 c4
      refine lv_iload_n hx hb dX10_order_54 rfl (lv_at lv 3 rfl) ?_
      refine lv_iload_n hx hb dX10_order_55 rfl (lv_at lv 2 rfl) ?_
      refine x_cont_i Dy (x_runS (As := [.int v1]) (rest := [.int v2]) C Dy (m_X10_ones E l _ _ v1 _ hwp) (cw_X10_165 C rfl rfl ⟨Nat.le_trans (Nat.le_of_ble_eq_true rfl) hR.1, Nat.le_trans (Nat.le_of_ble_eq_true rfl) hR.2⟩) rfl lv.1 rfl (Nat.le_of_ble_eq_true rfl) dX10_order_56 ⟨Nat.zero_le _, Nat.zero_le _⟩) (fun r5 h6 hl6 H locs hwp Dy => ?_)
      obtain ⟨rfl, rfl, hwp⟩ := hwp
      refine lv_iadd hx hb dX10_order_59 ?_
      refine lv_bipush (v := (30 : Int32)) hx hb dX10_order_60 (by decide) ?_
      refine lv_icmp_gt (tgt := 89) hx hb dX10_order_62 (by decide) (fun c7 => ?_) (fun c7 => ?_)
      · have hwp := hwp.1 c7
        refine lv_bipush (v := (-2 : Int32)) hx hb dX10_order_89 (by decide) ?_
        exact x_iret C Dy ⟨rfl, hwp⟩ dX10_order_91
      · have hwp := hwp.2 c7
        refine lv_iload_n hx hb dX10_order_65 rfl (lv_at lv 4 rfl) ?_
        refine lv_i2l hx hb dX10_order_66 rfl ?_
        refine lv_ldc2 hx hb C.ow (C.ts _ k_1080) dX10_order_67 ?_
        refine lv_ldc2 hx hb C.ow (C.ts _ k_896) dX10_order_70 ?_
        refine x_cont_z Dy (x_runS (As := [.long (v3.toInt64), .long (-1 : Int64), .long (3 : Int64)]) (rest := []) C Dy (m_X10_in E l _ _ (v3.toInt64) (-1 : Int64) (3 : Int64) _ hwp) (cw_X10_66 C rfl rfl ⟨Nat.le_trans (Nat.le_of_ble_eq_true rfl) hR.1, Nat.le_trans (Nat.le_of_ble_eq_true rfl) hR.2⟩) rfl lv.1 rfl (Nat.le_of_ble_eq_true rfl) dX10_order_73 ⟨Nat.zero_le _, Nat.zero_le _⟩) (fun r8 h9 hl9 H locs zr8 hwp Dy => ?_)
        obtain ⟨rfl, rfl, hwp⟩ := hwp
        refine lv_if_eq (tgt := 89) hx hb dX10_order_76 (by decide) (fun c10 => ?_) (fun c10 => ?_)
        · have hwp := hwp.1 c10
          refine lv_bipush (v := (-2 : Int32)) hx hb dX10_order_89 (by decide) ?_
          exact x_iret C Dy ⟨rfl, hwp⟩ dX10_order_91
        · have hwp := hwp.2 c10
          refine lv_aload_n hx hb dX10_order_79 rfl (lv_at lv 1 rfl) ?_
          refine lv_iload_n hx hb dX10_order_80 rfl (lv_at lv 2 rfl) ?_
          refine lv_iload_n hx hb dX10_order_81 rfl (lv_at lv 3 rfl) ?_
          refine lv_iload_n hx hb dX10_order_82 rfl (lv_at lv 4 rfl) ?_
          refine x_cont_i Dy (x_runV (As := [.int v1, .int v2, .int v3]) (rest := []) C Dy (m_X10_orderOf E l _ _ v1 v2 v3 _ hwp) (cw_X10_209 C rfl rfl ⟨Nat.le_trans (Nat.le_of_ble_eq_true rfl) hR.1, Nat.le_trans (Nat.le_of_ble_eq_true rfl) hR.2⟩) wm_0 rfl rfl lv.1 rfl (Nat.le_of_ble_eq_true rfl) dX10_order_83 ⟨Nat.zero_le _, Nat.zero_le _⟩) (fun r11 h12 hl12 H locs hwp Dy => ?_)
          obtain ⟨rfl, hwp⟩ := hwp
          refine lv_goto (tgt := 91) hx hb dX10_order_86 (by decide) ?_
          exact x_iret C Dy ⟨rfl, hwp⟩ dX10_order_91
set_option maxHeartbeats 4000000 in
set_option maxRecDepth 100000 in
theorem t_X10_order_39 (E : xE) {p : Program} {l : Launch} {e : Env} {R : Room} {s : State} {m : MethodId} {args : Array Value} {below : List Frame} {meth : Method} {c : Code} (C : mC (wdM E) p s m meth c args cX10_order 5 RX10 (some .int)) (hR : 8 ≤ R.frames ∧ 187 ≤ R.locals) {hl : MemL} (Qp : Int32 → Mem → Prop) : ∀ (h : Mem) (v1 : Int32) (v2 : Int32) (v3 : Int32) (H : Heap) (locs : List Loc) (ls : Array Slot), mD (wdM E) h hl s H locs → lv_has ls 5 [(0, .ref (wad (wdM E) 0)), (1, .int v1), (2, .int v2), (3, .int v3)] → b_X10_order_39 h v1 v2 v3 Qp → W p l e R s m args below meth c H locs 0 0 (MQ below (mQi (wdM E) (fun r h1 hl1 => hl = hl1 ∧ Qp r h1)) args s 0 0 (wA (wdM E))) (F0 m 39 ls []) := by
  have hx := C.x
  have hb := C.b
  intro h v1 v2 v3 H locs ls Dy lv hwp
  unfold b_X10_order_39 at hwp
  refine lv_iconst (v := (0 : Int32)) hx hb dX10_order_39 (by decide) ?_
  exact t_X10_order_40 E C hR Qp h v1 v2 v3 (0 : Int32) _ _ _ Dy (lv_sub lv [0, 1, 2, 3] rfl) hwp
set_option maxHeartbeats 4000000 in
set_option maxRecDepth 100000 in
theorem m_X10_order (E : xE) (l : Launch) (h : Mem) (hl : MemL) (v1 : Int32) (v2 : Int32) (v3 : Int32) (Qp : Int32 → Mem → Prop) (hwp : p_X10_order h v1 v2 v3 Qp) : Met l yX10_order (wsU yX10_order cX10_order 5 (some .int)) ({ frames := 8, cells := 0, slots := 0, locals := 187 } : Room) (mPc (wdM E) [.ref (wad (wdM E) 0), .int v1, .int v2, .int v3] h hl) (mQi (wdM E) (fun r h1 hl1 => hl = hl1 ∧ Qp r h1)) 0 0 (wA (wdM E)) := by
  refine x_met RX10 [(0, .ref (wad (wdM E) 0)), (1, .int v1), (2, .int v2), (3, .int v3)] (by decide) rfl (Nat.le_of_ble_eq_true rfl) rfl ?_
  intro p e s m args below meth c ls C Dy lv
  have hx := C.x
  have hb := C.b
  have hR : 8 ≤ ({ frames := 8, cells := 0, slots := 0, locals := 187 } : Room).frames ∧ 187 ≤ ({ frames := 8, cells := 0, slots := 0, locals := 187 } : Room).locals := ⟨Nat.le_refl _, Nat.le_refl _⟩
  unfold p_X10_order at hwp
  refine lv_aload_n hx hb dX10_order_0 rfl (lv_at lv 0 rfl) ?_
  refine x_cont_v Dy (x_runV (As := []) (rest := []) C Dy (m_X10_find E l _ _ _ hwp) (cw_X10_152 C rfl rfl ⟨Nat.le_trans (Nat.le_of_ble_eq_true rfl) hR.1, Nat.le_trans (Nat.le_of_ble_eq_true rfl) hR.2⟩) wm_0 rfl rfl lv.1 rfl (Nat.le_of_ble_eq_true rfl) dX10_order_1 ⟨Nat.zero_le _, Nat.zero_le _⟩) (fun h14 hl14 H locs hwp Dy => ?_)
  obtain ⟨rfl, hwp⟩ := hwp
  refine lv_iload_n hx hb dX10_order_4 rfl (lv_at lv 1 rfl) ?_
  refine lv_if_lt (tgt := 39) hx hb dX10_order_5 (by decide) (fun c15 => ?_) (fun c15 => ?_)
  · have hwp := hwp.1 c15
    exact t_X10_order_39 E C hR Qp h14 v1 v2 v3 _ _ _ Dy (lv_sub lv [0, 1, 2, 3] rfl) hwp
  · have hwp := hwp.2 c15
    refine lv_iload_n hx hb dX10_order_8 rfl (lv_at lv 1 rfl) ?_
    refine lv_iconst (v := (1 : Int32)) hx hb dX10_order_9 (by decide) ?_
    refine lv_aload_n hx hb dX10_order_10 rfl (lv_at lv 0 rfl) ?_
    refine gf_X10_28_0 C Dy dX10_order_11 ?_
    refine lv_iconst (v := (0 : Int32)) hx hb dX10_order_14 (by decide) ?_
    obtain ⟨g16, hwp⟩ := hwp
    refine x_iald C Dy wma_7 g16 dX10_order_15 ?_
    refine lv_ishl hx hb dX10_order_16 ?_
    refine lv_icmp_ge (tgt := 39) hx hb dX10_order_17 (by decide) (fun c17 => ?_) (fun c17 => ?_)
    · have hwp := hwp.1 c17
      exact t_X10_order_39 E C hR Qp h14 v1 v2 v3 _ _ _ Dy (lv_sub lv [0, 1, 2, 3] rfl) hwp
    · have hwp := hwp.2 c17
      refine lv_iload_n hx hb dX10_order_20 rfl (lv_at lv 1 rfl) ?_
      refine x_cont_i Dy (x_runS (As := [.int v1]) (rest := []) C Dy (m_X10_ones E l _ _ v1 _ hwp) (cw_X10_165 C rfl rfl ⟨Nat.le_trans (Nat.le_of_ble_eq_true rfl) hR.1, Nat.le_trans (Nat.le_of_ble_eq_true rfl) hR.2⟩) rfl lv.1 rfl (Nat.le_of_ble_eq_true rfl) dX10_order_21 ⟨Nat.zero_le _, Nat.zero_le _⟩) (fun r18 h19 hl19 H locs hwp Dy => ?_)
      obtain ⟨rfl, rfl, hwp⟩ := hwp
      refine lv_i2l hx hb dX10_order_24 rfl ?_
      refine lv_lconst (v := (1 : Int64)) hx hb dX10_order_25 (by decide) ?_
      refine lv_ldc2 hx hb C.ow (C.ts _ k_979) dX10_order_26 ?_
      refine x_cont_z Dy (x_runS (As := [.long (r18.toInt64), .long (1 : Int64), .long (4 : Int64)]) (rest := []) C Dy (m_X10_in E l _ _ (r18.toInt64) (1 : Int64) (4 : Int64) _ hwp) (cw_X10_66 C rfl rfl ⟨Nat.le_trans (Nat.le_of_ble_eq_true rfl) hR.1, Nat.le_trans (Nat.le_of_ble_eq_true rfl) hR.2⟩) rfl lv.1 rfl (Nat.le_of_ble_eq_true rfl) dX10_order_29 ⟨Nat.zero_le _, Nat.zero_le _⟩) (fun r20 h21 hl21 H locs zr20 hwp Dy => ?_)
      obtain ⟨rfl, rfl, hwp⟩ := hwp
      refine lv_if_eq (tgt := 39) hx hb dX10_order_32 (by decide) (fun c22 => ?_) (fun c22 => ?_)
      · have hwp := hwp.1 c22
        exact t_X10_order_39 E C hR Qp h14 v1 v2 v3 _ _ _ Dy (lv_sub lv [0, 1, 2, 3] rfl) hwp
      · have hwp := hwp.2 c22
        refine lv_iconst (v := (1 : Int32)) hx hb dX10_order_35 (by decide) ?_
        refine lv_goto (tgt := 40) hx hb dX10_order_36 (by decide) ?_
        exact t_X10_order_40 E C hR Qp h14 v1 v2 v3 (1 : Int32) _ _ _ Dy (lv_sub lv [0, 1, 2, 3] rfl) hwp
def p_X10_seen (h : Mem) (v1 : Int32) (v2 : Int32) (Qp : Int32 → Mem → Prop) : Prop := (p_X10_isHour v1 (fun r1 => ((r1 = 0 → Qp (-2 : Int32) h) ∧ (¬ (r1 = 0) → (p_X10_in (v2.toInt64) (-1 : Int64) (5 : Int64) (fun r4 => ((r4 = 0 → Qp (-2 : Int32) h) ∧ (¬ (r4 = 0) → (((h 0 21) = (8 : Int32) → Qp (-4 : Int32) h) ∧ (¬ ((h 0 21) = (8 : Int32)) → (vp_in ((2 : Int32) * (h 0 21)) 16 ∧ (vp_in (((2 : Int32) * ((up2 h 17 ((2 : Int32) * (h 0 21)).toNatClampNeg v1) 0 21)) + (1 : Int32)) 16 ∧ (∀ h10 : Mem, h10 = (up2 (up2 h 17 ((2 : Int32) * (h 0 21)).toNatClampNeg v1) 17 (((2 : Int32) * ((up2 h 17 ((2 : Int32) * (h 0 21)).toNatClampNeg v1) 0 21)) + (1 : Int32)).toNatClampNeg v2) → Qp ((up2 h10 0 21 ((h10 0 21) + (1 : Int32))) 0 21) (up2 h10 0 21 ((h10 0 21) + (1 : Int32))))))))))))))))
set_option maxHeartbeats 4000000 in
set_option maxRecDepth 100000 in
theorem m_X10_seen (E : xE) (l : Launch) (h : Mem) (hl : MemL) (v1 : Int32) (v2 : Int32) (Qp : Int32 → Mem → Prop) (hwp : p_X10_seen h v1 v2 Qp) : Met l yX10_seen (wsU yX10_seen cX10_seen 3 (some .int)) ({ frames := 2, cells := 0, slots := 0, locals := 45 } : Room) (mPc (wdM E) [.ref (wad (wdM E) 0), .int v1, .int v2] h hl) (mQi (wdM E) (fun r h1 hl1 => hl = hl1 ∧ Qp r h1)) 0 0 (wA (wdM E)) := by
  refine x_met RX10 [(0, .ref (wad (wdM E) 0)), (1, .int v1), (2, .int v2)] (by decide) rfl (Nat.le_of_ble_eq_true rfl) rfl ?_
  intro p e s m args below meth c ls C Dy lv
  have hx := C.x
  have hb := C.b
  have hR : 2 ≤ ({ frames := 2, cells := 0, slots := 0, locals := 45 } : Room).frames ∧ 45 ≤ ({ frames := 2, cells := 0, slots := 0, locals := 45 } : Room).locals := ⟨Nat.le_refl _, Nat.le_refl _⟩
  unfold p_X10_seen at hwp
  refine lv_iload_n hx hb dX10_seen_0 rfl (lv_at lv 1 rfl) ?_
  refine x_cont_z Dy (x_runS (As := [.int v1]) (rest := []) C Dy (m_X10_isHour E l _ _ v1 _ hwp) (cw_X10_171 C rfl rfl ⟨Nat.le_trans (Nat.le_of_ble_eq_true rfl) hR.1, Nat.le_trans (Nat.le_of_ble_eq_true rfl) hR.2⟩) rfl lv.1 rfl (Nat.le_of_ble_eq_true rfl) dX10_seen_1 ⟨Nat.zero_le _, Nat.zero_le _⟩) (fun r1 h2 hl2 H locs zr1 hwp Dy => ?_)
  obtain ⟨rfl, rfl, hwp⟩ := hwp
  refine lv_if_eq (tgt := 21) hx hb dX10_seen_4 (by decide) (fun c3 => ?_) (fun c3 => ?_)
  · have hwp := hwp.1 c3
    refine lv_bipush (v := (-2 : Int32)) hx hb dX10_seen_21 (by decide) ?_
    exact x_iret C Dy ⟨rfl, hwp⟩ dX10_seen_23
  · have hwp := hwp.2 c3
    refine lv_iload_n hx hb dX10_seen_7 rfl (lv_at lv 2 rfl) ?_
    refine lv_i2l hx hb dX10_seen_8 rfl ?_
    refine lv_ldc2 hx hb C.ow (C.ts _ k_1080) dX10_seen_9 ?_
    refine lv_ldc2 hx hb C.ow (C.ts _ k_1063) dX10_seen_12 ?_
    refine x_cont_z Dy (x_runS (As := [.long (v2.toInt64), .long (-1 : Int64), .long (5 : Int64)]) (rest := []) C Dy (m_X10_in E l _ _ (v2.toInt64) (-1 : Int64) (5 : Int64) _ hwp) (cw_X10_66 C rfl rfl ⟨Nat.le_trans (Nat.le_of_ble_eq_true rfl) hR.1, Nat.le_trans (Nat.le_of_ble_eq_true rfl) hR.2⟩) rfl lv.1 rfl (Nat.le_of_ble_eq_true rfl) dX10_seen_15 ⟨Nat.zero_le _, Nat.zero_le _⟩) (fun r4 h5 hl5 H locs zr4 hwp Dy => ?_)
    obtain ⟨rfl, rfl, hwp⟩ := hwp
    refine lv_if_ne (tgt := 24) hx hb dX10_seen_18 (by decide) (fun c6 => ?_) (fun c6 => ?_)
    · have hwp := hwp.2 c6
      refine lv_aload_n hx hb dX10_seen_24 rfl (lv_at lv 0 rfl) ?_
      refine gf_X10_212_0 C Dy dX10_seen_25 ?_
      refine lv_bipush (v := (8 : Int32)) hx hb dX10_seen_28 (by decide) ?_
      refine lv_icmp_ne (tgt := 36) hx hb dX10_seen_30 (by decide) (fun c7 => ?_) (fun c7 => ?_)
      · have hwp := hwp.2 c7
        refine lv_aload_n hx hb dX10_seen_36 rfl (lv_at lv 0 rfl) ?_
        refine gf_X10_58_0 C Dy dX10_seen_37 ?_
        refine lv_iconst (v := (2 : Int32)) hx hb dX10_seen_40 (by decide) ?_
        refine lv_aload_n hx hb dX10_seen_41 rfl (lv_at lv 0 rfl) ?_
        refine gf_X10_212_0 C Dy dX10_seen_42 ?_
        refine lv_imul hx hb dX10_seen_45 ?_
        refine lv_iload_n hx hb dX10_seen_46 rfl (lv_at lv 1 rfl) ?_
        obtain ⟨g8, hwp⟩ := hwp
        refine x_iast C Dy wma_17 g8 dX10_seen_47 (fun H locs Dy => ?_)
        refine lv_aload_n hx hb dX10_seen_48 rfl (lv_at lv 0 rfl) ?_
        refine gf_X10_58_0 C Dy dX10_seen_49 ?_
        refine lv_iconst (v := (2 : Int32)) hx hb dX10_seen_52 (by decide) ?_
        refine lv_aload_n hx hb dX10_seen_53 rfl (lv_at lv 0 rfl) ?_
        refine gf_X10_212_0 C Dy dX10_seen_54 ?_
        refine lv_imul hx hb dX10_seen_57 ?_
        refine lv_iconst (v := (1 : Int32)) hx hb dX10_seen_58 (by decide) ?_
        refine lv_iadd hx hb dX10_seen_59 ?_
        refine lv_iload_n hx hb dX10_seen_60 rfl (lv_at lv 2 rfl) ?_
        obtain ⟨g9, hwp⟩ := hwp
        refine x_iast C Dy wma_17 g9 dX10_seen_61 (fun H locs Dy => ?_)
        obtain ⟨h10, eh10⟩ : ∃ z : Mem, z = (up2 (up2 h 17 ((2 : Int32) * (h 0 21)).toNatClampNeg v1) 17 (((2 : Int32) * ((up2 h 17 ((2 : Int32) * (h 0 21)).toNatClampNeg v1) 0 21)) + (1 : Int32)).toNatClampNeg v2) := ⟨_, rfl⟩
        rw [← eh10] at Dy
        have hwp := hwp h10 eh10
        refine lv_aload_n hx hb dX10_seen_62 rfl (lv_at lv 0 rfl) ?_
        refine lv_dup hx hb dX10_seen_63 rfl ?_
        refine gf_X10_212_0 C Dy dX10_seen_64 ?_
        refine lv_iconst (v := (1 : Int32)) hx hb dX10_seen_67 (by decide) ?_
        refine lv_iadd hx hb dX10_seen_68 ?_
        refine pf_X10_212_0 C Dy dX10_seen_69 (fun H locs Dy => ?_)
        refine lv_aload_n hx hb dX10_seen_72 rfl (lv_at lv 0 rfl) ?_
        refine gf_X10_212_0 C Dy dX10_seen_73 ?_
        exact x_iret C Dy ⟨rfl, hwp⟩ dX10_seen_76
      · have hwp := hwp.1 c7
        refine lv_bipush (v := (-4 : Int32)) hx hb dX10_seen_33 (by decide) ?_
        exact x_iret C Dy ⟨rfl, hwp⟩ dX10_seen_35
    · have hwp := hwp.1 c6
      refine lv_bipush (v := (-2 : Int32)) hx hb dX10_seen_21 (by decide) ?_
      exact x_iret C Dy ⟨rfl, hwp⟩ dX10_seen_23
def p_X10_forget (h : Mem) (Qp : Int32 → Mem → Prop) : Prop := Qp (h 0 21) (up2 h 0 21 (0 : Int32))
set_option maxHeartbeats 4000000 in
set_option maxRecDepth 100000 in
theorem m_X10_forget (E : xE) (l : Launch) (h : Mem) (hl : MemL) (Qp : Int32 → Mem → Prop) (hwp : p_X10_forget h Qp) : Met l yX10_forget (wsU yX10_forget cX10_forget 2 (some .int)) ({ frames := 0, cells := 0, slots := 0, locals := 0 } : Room) (mPc (wdM E) [.ref (wad (wdM E) 0)] h hl) (mQi (wdM E) (fun r h1 hl1 => hl = hl1 ∧ Qp r h1)) 0 0 (wA (wdM E)) := by
  refine x_met RX10 [(0, .ref (wad (wdM E) 0))] (by decide) rfl (Nat.le_of_ble_eq_true rfl) rfl ?_
  intro p e s m args below meth c ls C Dy lv
  have hx := C.x
  have hb := C.b
  have hR : 0 ≤ ({ frames := 0, cells := 0, slots := 0, locals := 0 } : Room).frames ∧ 0 ≤ ({ frames := 0, cells := 0, slots := 0, locals := 0 } : Room).locals := ⟨Nat.le_refl _, Nat.le_refl _⟩
  unfold p_X10_forget at hwp
  refine lv_aload_n hx hb dX10_forget_0 rfl (lv_at lv 0 rfl) ?_
  refine gf_X10_212_0 C Dy dX10_forget_1 ?_
  refine lv_istore_n (lv' := [(1, .int (h 0 21)), (0, .ref (wad (wdM E) 0))]) hx hb dX10_forget_4 rfl lv (by decide) rfl (fun ls lv => ?_)
  refine lv_aload_n hx hb dX10_forget_5 rfl (lv_at lv 1 rfl) ?_
  refine lv_iconst (v := (0 : Int32)) hx hb dX10_forget_6 (by decide) ?_
  refine pf_X10_212_0 C Dy dX10_forget_7 (fun H locs Dy => ?_)
  refine lv_iload_n hx hb dX10_forget_10 rfl (lv_at lv 0 rfl) ?_
  exact x_iret C Dy ⟨rfl, hwp⟩ dX10_forget_11
def b_X10_read_98 (h : Mem) (v1 : Int32) (v3 : Int32) (w0 : Int32) (w1 : Int32) (K29 : Mem → Int32 → Int32 → Int32 → Prop) (Qp : Int32 → Mem → Prop) : Prop := K29 h v1 (w1 + w0) v3
def b_X10_read_87 (h : Mem) (v1 : Int32) (v2 : Int32) (w0 : Int32) (K29 : Mem → Int32 → Int32 → Int32 → Prop) (Qp : Int32 → Mem → Prop) : Prop := b_X10_read_98 h v1 w0 (if w0 = 0 then (0 : Int32) else (1 : Int32)) v2 K29 Qp
def b_X10_read_29 : Nat → Mem → Int32 → Int32 → Int32 → (Int32 → Mem → Prop) → Prop
  | 0 => fun _ _ _ _ _ => False
  | n + 1 => fun h v1 v2 v3 Qp => ((v3 = 0 → Qp v2 h) ∧ (¬ (v3 = 0) → (vp_in v1 4 ∧ (((h 2 v1.toNatClampNeg) < (((2 : Int32) * v2) + (2 : Int32)) → Qp v2 h) ∧ (¬ ((h 2 v1.toNatClampNeg) < (((2 : Int32) * v2) + (2 : Int32))) → (vp_in (((60 : Int32) * v1) + ((2 : Int32) * v2)) 240 ∧ (vp_in ((((60 : Int32) * v1) + ((2 : Int32) * v2)) + (1 : Int32)) 240 ∧ (p_X10_seen h (h 3 (((60 : Int32) * v1) + ((2 : Int32) * v2)).toNatClampNeg) (h 3 ((((60 : Int32) * v1) + ((2 : Int32) * v2)) + (1 : Int32)).toNatClampNeg) (fun r6 h7 => b_X10_read_87 h7 v1 v2 (if r6 < 0 then (0 : Int32) else (1 : Int32)) (fun h v1 v2 v3 => b_X10_read_29 n h v1 v2 v3 Qp) Qp)))))))))
def p_X10_read (h : Mem) (v1 : Int32) (Qp : Int32 → Mem → Prop) : Prop := (p_X10_isSheet v1 (fun r10 => ((r10 = 0 → Qp (-2 : Int32) h) ∧ (¬ (r10 = 0) → (vp_in v1 4 ∧ ((0 ≤ (h 1 v1.toNatClampNeg) → (∃ n29, b_X10_read_29 n29 h v1 (0 : Int32) (1 : Int32) Qp)) ∧ (¬ (0 ≤ (h 1 v1.toNatClampNeg)) → (p_X10_finds h (1 : Int32) (fun r15 h16 => Qp r15 h16)))))))))
set_option maxHeartbeats 4000000 in
set_option maxRecDepth 100000 in
theorem t_X10_read_98 (E : xE) {p : Program} {l : Launch} {e : Env} {R : Room} {s : State} {m : MethodId} {args : Array Value} {below : List Frame} {meth : Method} {c : Code} (C : mC (wdM E) p s m meth c args cX10_read 4 RX10 (some .int)) (hR : 3 ≤ R.frames ∧ 67 ≤ R.locals) {hl : MemL} (Qp : Int32 → Mem → Prop) (K29 : Mem → Int32 → Int32 → Int32 → Prop) (hK29 : ∀ (h : Mem) (v1 : Int32) (v2 : Int32) (v3 : Int32) (H : Heap) (locs : List Loc) (ls : Array Slot), mD (wdM E) h hl s H locs → lv_has ls 4 [(0, .ref (wad (wdM E) 0)), (1, .int v1), (2, .int v2), (3, .int v3)] → K29 h v1 v2 v3 → W p l e R s m args below meth c H locs 0 0 (MQ below (mQi (wdM E) (fun r h1 hl1 => hl = hl1 ∧ Qp r h1)) args s 0 0 (wA (wdM E))) (F0 m 29 ls [])) : ∀ (h : Mem) (v1 : Int32) (v3 : Int32) (w0 : Int32) (w1 : Int32) (H : Heap) (locs : List Loc) (ls : Array Slot), mD (wdM E) h hl s H locs → lv_has ls 4 [(0, .ref (wad (wdM E) 0)), (1, .int v1), (3, .int v3)] → b_X10_read_98 h v1 v3 w0 w1 K29 Qp → W p l e R s m args below meth c H locs 0 0 (MQ below (mQi (wdM E) (fun r h1 hl1 => hl = hl1 ∧ Qp r h1)) args s 0 0 (wA (wdM E))) (F0 m 98 ls [.int w0, .int w1]) := by
  have hx := C.x
  have hb := C.b
  intro h v1 v3 w0 w1 H locs ls Dy lv hwp
  unfold b_X10_read_98 at hwp
  refine lv_iadd hx hb dX10_read_98 ?_
  refine lv_istore_n (lv' := [(2, .int (w1 + w0)), (0, .ref (wad (wdM E) 0)), (1, .int v1), (3, .int v3)]) hx hb dX10_read_99 rfl lv (by decide) rfl (fun ls lv => ?_)
  refine lv_goto (tgt := 29) hx hb dX10_read_100 (by decide) ?_
  exact hK29 h v1 (w1 + w0) v3 _ _ _ Dy (lv_sub lv [1, 2, 0, 3] rfl) hwp
set_option maxHeartbeats 4000000 in
set_option maxRecDepth 100000 in
theorem t_X10_read_87 (E : xE) {p : Program} {l : Launch} {e : Env} {R : Room} {s : State} {m : MethodId} {args : Array Value} {below : List Frame} {meth : Method} {c : Code} (C : mC (wdM E) p s m meth c args cX10_read 4 RX10 (some .int)) (hR : 3 ≤ R.frames ∧ 67 ≤ R.locals) {hl : MemL} (Qp : Int32 → Mem → Prop) (K29 : Mem → Int32 → Int32 → Int32 → Prop) (hK29 : ∀ (h : Mem) (v1 : Int32) (v2 : Int32) (v3 : Int32) (H : Heap) (locs : List Loc) (ls : Array Slot), mD (wdM E) h hl s H locs → lv_has ls 4 [(0, .ref (wad (wdM E) 0)), (1, .int v1), (2, .int v2), (3, .int v3)] → K29 h v1 v2 v3 → W p l e R s m args below meth c H locs 0 0 (MQ below (mQi (wdM E) (fun r h1 hl1 => hl = hl1 ∧ Qp r h1)) args s 0 0 (wA (wdM E))) (F0 m 29 ls [])) : ∀ (h : Mem) (v1 : Int32) (v2 : Int32) (w0 : Int32) (H : Heap) (locs : List Loc) (ls : Array Slot), mD (wdM E) h hl s H locs → lv_has ls 4 [(0, .ref (wad (wdM E) 0)), (1, .int v1), (2, .int v2)] → b_X10_read_87 h v1 v2 w0 K29 Qp → W p l e R s m args below meth c H locs 0 0 (MQ below (mQi (wdM E) (fun r h1 hl1 => hl = hl1 ∧ Qp r h1)) args s 0 0 (wA (wdM E))) (F0 m 87 ls [.int w0]) := by
  have hx := C.x
  have hb := C.b
  intro h v1 v2 w0 H locs ls Dy lv hwp
  unfold b_X10_read_87 at hwp
  refine lv_istore_n (lv' := [(3, .int w0), (0, .ref (wad (wdM E) 0)), (1, .int v1), (2, .int v2)]) hx hb dX10_read_87 rfl lv (by decide) rfl (fun ls lv => ?_)
  refine lv_iload_n hx hb dX10_read_88 rfl (lv_at lv 3 rfl) ?_
  refine lv_iload_n hx hb dX10_read_89 rfl (lv_at lv 0 rfl) ?_
  refine lv_if_eq (tgt := 97) hx hb dX10_read_90 (by decide) (fun c9 => ?_) (fun c9 => ?_)
  · try simp only [if_pos c9] at hwp
    refine lv_iconst (v := (0 : Int32)) hx hb dX10_read_97 (by decide) ?_
    exact t_X10_read_98 E C hR Qp K29 hK29 h v1 w0 (0 : Int32) v2 _ _ _ Dy (lv_sub lv [1, 2, 0] rfl) hwp
  · try simp only [if_neg c9] at hwp
    refine lv_iconst (v := (1 : Int32)) hx hb dX10_read_93 (by decide) ?_
    refine lv_goto (tgt := 98) hx hb dX10_read_94 (by decide) ?_
    exact t_X10_read_98 E C hR Qp K29 hK29 h v1 w0 (1 : Int32) v2 _ _ _ Dy (lv_sub lv [1, 2, 0] rfl) hwp
set_option maxHeartbeats 4000000 in
set_option maxRecDepth 100000 in
theorem t_X10_read_29 (E : xE) {p : Program} {l : Launch} {e : Env} {R : Room} {s : State} {m : MethodId} {args : Array Value} {below : List Frame} {meth : Method} {c : Code} (C : mC (wdM E) p s m meth c args cX10_read 4 RX10 (some .int)) (hR : 3 ≤ R.frames ∧ 67 ≤ R.locals) {hl : MemL} (Qp : Int32 → Mem → Prop) : ∀ (n : Nat) (h : Mem) (v1 : Int32) (v2 : Int32) (v3 : Int32) (H : Heap) (locs : List Loc) (ls : Array Slot), mD (wdM E) h hl s H locs → lv_has ls 4 [(0, .ref (wad (wdM E) 0)), (1, .int v1), (2, .int v2), (3, .int v3)] → b_X10_read_29 n h v1 v2 v3 Qp → W p l e R s m args below meth c H locs 0 0 (MQ below (mQi (wdM E) (fun r h1 hl1 => hl = hl1 ∧ Qp r h1)) args s 0 0 (wA (wdM E))) (F0 m 29 ls []) := by
  have hx := C.x
  have hb := C.b
  intro n
  induction n with
  | zero => intro h v1 v2 v3 H locs ls Dy lv hwp; exact hwp.elim
  | succ n ih =>
    intro h v1 v2 v3 H locs ls Dy lv hwp
    simp only [b_X10_read_29] at hwp
    refine lv_iload_n hx hb dX10_read_29 rfl (lv_at lv 3 rfl) ?_
    refine lv_if_eq (tgt := 103) hx hb dX10_read_30 (by decide) (fun c1 => ?_) (fun c1 => ?_)
    · have hwp := hwp.1 c1
      refine lv_iload_n hx hb dX10_read_103 rfl (lv_at lv 2 rfl) ?_
      exact x_iret C Dy ⟨rfl, hwp⟩ dX10_read_104
    · have hwp := hwp.2 c1
      refine lv_iconst (v := (2 : Int32)) hx hb dX10_read_33 (by decide) ?_
      refine lv_iload_n hx hb dX10_read_34 rfl (lv_at lv 2 rfl) ?_
      refine lv_imul hx hb dX10_read_35 ?_
      refine lv_iconst (v := (2 : Int32)) hx hb dX10_read_36 (by decide) ?_
      refine lv_iadd hx hb dX10_read_37 ?_
      refine lv_aload_n hx hb dX10_read_38 rfl (lv_at lv 0 rfl) ?_
      refine gf_X10_13_0 C Dy dX10_read_39 ?_
      refine lv_iload_n hx hb dX10_read_42 rfl (lv_at lv 1 rfl) ?_
      obtain ⟨g2, hwp⟩ := hwp
      refine x_iald C Dy wma_2 g2 dX10_read_43 ?_
      refine lv_icmp_gt (tgt := 103) hx hb dX10_read_44 (by decide) (fun c3 => ?_) (fun c3 => ?_)
      · have hwp := hwp.1 c3
        refine lv_iload_n hx hb dX10_read_103 rfl (lv_at lv 2 rfl) ?_
        exact x_iret C Dy ⟨rfl, hwp⟩ dX10_read_104
      · have hwp := hwp.2 c3
        refine lv_aload_n hx hb dX10_read_47 rfl (lv_at lv 0 rfl) ?_
        refine lv_aload_n hx hb dX10_read_48 rfl (lv_at lv 0 rfl) ?_
        refine gf_X10_16_0 C Dy dX10_read_49 ?_
        refine lv_bipush (v := (60 : Int32)) hx hb dX10_read_52 (by decide) ?_
        refine lv_iload_n hx hb dX10_read_54 rfl (lv_at lv 1 rfl) ?_
        refine lv_imul hx hb dX10_read_55 ?_
        refine lv_iconst (v := (2 : Int32)) hx hb dX10_read_56 (by decide) ?_
        refine lv_iload_n hx hb dX10_read_57 rfl (lv_at lv 2 rfl) ?_
        refine lv_imul hx hb dX10_read_58 ?_
        refine lv_iadd hx hb dX10_read_59 ?_
        obtain ⟨g4, hwp⟩ := hwp
        refine x_iald C Dy wma_3 g4 dX10_read_60 ?_
        refine lv_aload_n hx hb dX10_read_61 rfl (lv_at lv 0 rfl) ?_
        refine gf_X10_16_0 C Dy dX10_read_62 ?_
        refine lv_bipush (v := (60 : Int32)) hx hb dX10_read_65 (by decide) ?_
        refine lv_iload_n hx hb dX10_read_67 rfl (lv_at lv 1 rfl) ?_
        refine lv_imul hx hb dX10_read_68 ?_
        refine lv_iconst (v := (2 : Int32)) hx hb dX10_read_69 (by decide) ?_
        refine lv_iload_n hx hb dX10_read_70 rfl (lv_at lv 2 rfl) ?_
        refine lv_imul hx hb dX10_read_71 ?_
        refine lv_iadd hx hb dX10_read_72 ?_
        refine lv_iconst (v := (1 : Int32)) hx hb dX10_read_73 (by decide) ?_
        refine lv_iadd hx hb dX10_read_74 ?_
        obtain ⟨g5, hwp⟩ := hwp
        refine x_iald C Dy wma_3 g5 dX10_read_75 ?_
        refine x_cont_i Dy (x_runV (As := [.int (h 3 (((60 : Int32) * v1) + ((2 : Int32) * v2)).toNatClampNeg), .int (h 3 ((((60 : Int32) * v1) + ((2 : Int32) * v2)) + (1 : Int32)).toNatClampNeg)]) (rest := []) C Dy (m_X10_seen E l _ _ (h 3 (((60 : Int32) * v1) + ((2 : Int32) * v2)).toNatClampNeg) (h 3 ((((60 : Int32) * v1) + ((2 : Int32) * v2)) + (1 : Int32)).toNatClampNeg) _ hwp) (cw_X10_215 C rfl rfl ⟨Nat.le_trans (Nat.le_of_ble_eq_true rfl) hR.1, Nat.le_trans (Nat.le_of_ble_eq_true rfl) hR.2⟩) wm_0 rfl rfl lv.1 rfl (Nat.le_of_ble_eq_true rfl) dX10_read_76 ⟨Nat.zero_le _, Nat.zero_le _⟩) (fun r6 h7 hl7 H locs hwp Dy => ?_)
        obtain ⟨rfl, hwp⟩ := hwp
        refine lv_if_lt (tgt := 86) hx hb dX10_read_79 (by decide) (fun c8 => ?_) (fun c8 => ?_)
        · try simp only [if_pos c8] at hwp
          refine lv_iconst (v := (0 : Int32)) hx hb dX10_read_86 (by decide) ?_
          exact t_X10_read_87 E C hR Qp (fun h v1 v2 v3 => b_X10_read_29 n h v1 v2 v3 Qp) (fun h v1 v2 v3 H locs ls Dy lv hwp => ih h v1 v2 v3 H locs ls Dy lv hwp) h7 v1 v2 (0 : Int32) _ _ _ Dy (lv_sub lv [0, 1, 2] rfl) hwp
        · try simp only [if_neg c8] at hwp
          refine lv_iconst (v := (1 : Int32)) hx hb dX10_read_82 (by decide) ?_
          refine lv_goto (tgt := 87) hx hb dX10_read_83 (by decide) ?_
          exact t_X10_read_87 E C hR Qp (fun h v1 v2 v3 => b_X10_read_29 n h v1 v2 v3 Qp) (fun h v1 v2 v3 H locs ls Dy lv hwp => ih h v1 v2 v3 H locs ls Dy lv hwp) h7 v1 v2 (1 : Int32) _ _ _ Dy (lv_sub lv [0, 1, 2] rfl) hwp
set_option maxHeartbeats 4000000 in
set_option maxRecDepth 100000 in
theorem m_X10_read (E : xE) (l : Launch) (h : Mem) (hl : MemL) (v1 : Int32) (Qp : Int32 → Mem → Prop) (hwp : p_X10_read h v1 Qp) : Met l yX10_read (wsU yX10_read cX10_read 4 (some .int)) ({ frames := 3, cells := 0, slots := 0, locals := 67 } : Room) (mPc (wdM E) [.ref (wad (wdM E) 0), .int v1] h hl) (mQi (wdM E) (fun r h1 hl1 => hl = hl1 ∧ Qp r h1)) 0 0 (wA (wdM E)) := by
  refine x_met RX10 [(0, .ref (wad (wdM E) 0)), (1, .int v1)] (by decide) rfl (Nat.le_of_ble_eq_true rfl) rfl ?_
  intro p e s m args below meth c ls C Dy lv
  have hx := C.x
  have hb := C.b
  have hR : 3 ≤ ({ frames := 3, cells := 0, slots := 0, locals := 67 } : Room).frames ∧ 67 ≤ ({ frames := 3, cells := 0, slots := 0, locals := 67 } : Room).locals := ⟨Nat.le_refl _, Nat.le_refl _⟩
  unfold p_X10_read at hwp
  refine lv_iload_n hx hb dX10_read_0 rfl (lv_at lv 1 rfl) ?_
  refine x_cont_z Dy (x_runS (As := [.int v1]) (rest := []) C Dy (m_X10_isSheet E l _ _ v1 _ hwp) (cw_X10_76 C rfl rfl ⟨Nat.le_trans (Nat.le_of_ble_eq_true rfl) hR.1, Nat.le_trans (Nat.le_of_ble_eq_true rfl) hR.2⟩) rfl lv.1 rfl (Nat.le_of_ble_eq_true rfl) dX10_read_1 ⟨Nat.zero_le _, Nat.zero_le _⟩) (fun r10 h11 hl11 H locs zr10 hwp Dy => ?_)
  obtain ⟨rfl, rfl, hwp⟩ := hwp
  refine lv_if_ne (tgt := 10) hx hb dX10_read_4 (by decide) (fun c12 => ?_) (fun c12 => ?_)
  · have hwp := hwp.2 c12
    refine lv_aload_n hx hb dX10_read_10 rfl (lv_at lv 0 rfl) ?_
    refine gf_X10_7_0 C Dy dX10_read_11 ?_
    refine lv_iload_n hx hb dX10_read_14 rfl (lv_at lv 1 rfl) ?_
    obtain ⟨g13, hwp⟩ := hwp
    refine x_iald C Dy wma_1 g13 dX10_read_15 ?_
    refine lv_if_ge (tgt := 25) hx hb dX10_read_16 (by decide) (fun c14 => ?_) (fun c14 => ?_)
    · have hwp := hwp.1 c14
      refine lv_iconst (v := (0 : Int32)) hx hb dX10_read_25 (by decide) ?_
      refine lv_istore_n (lv' := [(2, .int (0 : Int32)), (0, .ref (wad (wdM E) 0)), (1, .int v1)]) hx hb dX10_read_26 rfl lv (by decide) rfl (fun ls lv => ?_)
      refine lv_iconst (v := (1 : Int32)) hx hb dX10_read_27 (by decide) ?_
      refine lv_istore_n (lv' := [(3, .int (1 : Int32)), (2, .int (0 : Int32)), (0, .ref (wad (wdM E) 0)), (1, .int v1)]) hx hb dX10_read_28 rfl lv (by decide) rfl (fun ls lv => ?_)
      obtain ⟨n0, hwp⟩ := hwp
      exact t_X10_read_29 E C hR Qp n0 h v1 (0 : Int32) (1 : Int32) _ _ _ Dy (lv_sub lv [2, 3, 1, 0] rfl) hwp
    · have hwp := hwp.2 c14
      refine lv_aload_n hx hb dX10_read_19 rfl (lv_at lv 0 rfl) ?_
      refine lv_iconst (v := (1 : Int32)) hx hb dX10_read_20 (by decide) ?_
      refine x_cont_i Dy (x_runV (As := [.int (1 : Int32)]) (rest := []) C Dy (m_X10_finds E l _ _ (1 : Int32) _ hwp) (cw_X10_82 C rfl rfl ⟨Nat.le_trans (Nat.le_of_ble_eq_true rfl) hR.1, Nat.le_trans (Nat.le_of_ble_eq_true rfl) hR.2⟩) wm_0 rfl rfl lv.1 rfl (Nat.le_of_ble_eq_true rfl) dX10_read_21 ⟨Nat.zero_le _, Nat.zero_le _⟩) (fun r15 h16 hl16 H locs hwp Dy => ?_)
      obtain ⟨rfl, hwp⟩ := hwp
      exact x_iret C Dy ⟨rfl, hwp⟩ dX10_read_24
  · have hwp := hwp.1 c12
    refine lv_bipush (v := (-2 : Int32)) hx hb dX10_read_7 (by decide) ?_
    exact x_iret C Dy ⟨rfl, hwp⟩ dX10_read_9
def b_X10_isSeen_47 (h : Mem) (v1 : Int32) (v3 : Int32) (w0 : Int32) (K4 : Int32 → Int32 → Int32 → Prop) (Qp : Int32 → Prop) : Prop := K4 v1 w0 (v3 + (1 : Int32))
def b_X10_isSeen_4 : Nat → Mem → Int32 → Int32 → Int32 → (Int32 → Prop) → Prop
  | 0 => fun _ _ _ _ _ => False
  | n + 1 => fun h v1 v2 v3 Qp => (((h 0 21) ≤ v3 → ((v2 = 0 ∨ v2 = 1) ∧ Qp v2)) ∧ (¬ ((h 0 21) ≤ v3) → ((v2 = 0 → ((v2 = 0 ∨ v2 = 1) ∧ Qp v2)) ∧ (¬ (v2 = 0) → (vp_in ((2 : Int32) * v3) 16 ∧ (p_X10_doesBy h v1 (h 17 ((2 : Int32) * v3).toNatClampNeg) (fun r4 => (vp_in (((2 : Int32) * v3) + (1 : Int32)) 16 ∧ b_X10_isSeen_47 h v1 v3 (if r4 = (h 17 (((2 : Int32) * v3) + (1 : Int32)).toNatClampNeg) then (1 : Int32) else (0 : Int32)) (fun v1 v2 v3 => b_X10_isSeen_4 n h v1 v2 v3 Qp) Qp))))))))
def p_X10_isSeen (h : Mem) (v1 : Int32) (Qp : Int32 → Prop) : Prop := (∃ n4, b_X10_isSeen_4 n4 h v1 (1 : Int32) (0 : Int32) Qp)
set_option maxHeartbeats 4000000 in
set_option maxRecDepth 100000 in
theorem t_X10_isSeen_47 (E : xE) {p : Program} {l : Launch} {e : Env} {R : Room} {s : State} {m : MethodId} {args : Array Value} {below : List Frame} {meth : Method} {c : Code} (C : mC (wdM E) p s m meth c args cX10_isSeen 4 RX10 (some .boolean)) (hR : 3 ≤ R.frames ∧ 77 ≤ R.locals) {h : Mem} {hl : MemL} (Qp : Int32 → Prop) (K4 : Int32 → Int32 → Int32 → Prop) (hK4 : ∀ (v1 : Int32) (v2 : Int32) (v3 : Int32) (H : Heap) (locs : List Loc) (ls : Array Slot), mD (wdM E) h hl s H locs → lv_has ls 4 [(0, .ref (wad (wdM E) 0)), (1, .int v1), (2, .int v2), (3, .int v3)] → K4 v1 v2 v3 → W p l e R s m args below meth c H locs 0 0 (MQ below (mQz (wdM E) (fun r h1 hl1 => h = h1 ∧ hl = hl1 ∧ Qp r)) args s 0 0 (wA (wdM E))) (F0 m 4 ls [])) : ∀ (v1 : Int32) (v3 : Int32) (w0 : Int32) (H : Heap) (locs : List Loc) (ls : Array Slot), mD (wdM E) h hl s H locs → lv_has ls 4 [(0, .ref (wad (wdM E) 0)), (1, .int v1), (3, .int v3)] → b_X10_isSeen_47 h v1 v3 w0 K4 Qp → W p l e R s m args below meth c H locs 0 0 (MQ below (mQz (wdM E) (fun r h1 hl1 => h = h1 ∧ hl = hl1 ∧ Qp r)) args s 0 0 (wA (wdM E))) (F0 m 47 ls [.int w0]) := by
  have hx := C.x
  have hb := C.b
  intro v1 v3 w0 H locs ls Dy lv hwp
  unfold b_X10_isSeen_47 at hwp
  refine lv_istore_n (lv' := [(2, .int w0), (0, .ref (wad (wdM E) 0)), (1, .int v1), (3, .int v3)]) hx hb dX10_isSeen_47 rfl lv (by decide) rfl (fun ls lv => ?_)
  refine lv_iinc (v := (v3 + (1 : Int32))) (lv' := [(3, .int (v3 + (1 : Int32))), (2, .int w0), (0, .ref (wad (wdM E) 0)), (1, .int v1)]) hx hb dX10_isSeen_48 lv (k := 3) rfl rfl (by decide) rfl (fun ls lv => ?_)
  refine lv_goto (tgt := 4) hx hb dX10_isSeen_51 (by decide) ?_
  exact hK4 v1 w0 (v3 + (1 : Int32)) _ _ _ Dy (lv_sub lv [2, 3, 1, 0] rfl) hwp
set_option maxHeartbeats 4000000 in
set_option maxRecDepth 100000 in
theorem t_X10_isSeen_4 (E : xE) {p : Program} {l : Launch} {e : Env} {R : Room} {s : State} {m : MethodId} {args : Array Value} {below : List Frame} {meth : Method} {c : Code} (C : mC (wdM E) p s m meth c args cX10_isSeen 4 RX10 (some .boolean)) (hR : 3 ≤ R.frames ∧ 77 ≤ R.locals) {h : Mem} {hl : MemL} (Qp : Int32 → Prop) : ∀ (n : Nat) (v1 : Int32) (v2 : Int32) (v3 : Int32) (H : Heap) (locs : List Loc) (ls : Array Slot), mD (wdM E) h hl s H locs → lv_has ls 4 [(0, .ref (wad (wdM E) 0)), (1, .int v1), (2, .int v2), (3, .int v3)] → b_X10_isSeen_4 n h v1 v2 v3 Qp → W p l e R s m args below meth c H locs 0 0 (MQ below (mQz (wdM E) (fun r h1 hl1 => h = h1 ∧ hl = hl1 ∧ Qp r)) args s 0 0 (wA (wdM E))) (F0 m 4 ls []) := by
  have hx := C.x
  have hb := C.b
  intro n
  induction n with
  | zero => intro v1 v2 v3 H locs ls Dy lv hwp; exact hwp.elim
  | succ n ih =>
    intro v1 v2 v3 H locs ls Dy lv hwp
    simp only [b_X10_isSeen_4] at hwp
    refine lv_iload_n hx hb dX10_isSeen_4 rfl (lv_at lv 3 rfl) ?_
    refine lv_aload_n hx hb dX10_isSeen_5 rfl (lv_at lv 0 rfl) ?_
    refine gf_X10_212_0 C Dy dX10_isSeen_6 ?_
    refine lv_icmp_ge (tgt := 54) hx hb dX10_isSeen_9 (by decide) (fun c1 => ?_) (fun c1 => ?_)
    · have hwp := hwp.1 c1
      refine lv_iload_n hx hb dX10_isSeen_54 rfl (lv_at lv 2 rfl) ?_
      obtain ⟨z1, hwp⟩ := hwp
      exact x_zret C Dy z1 ⟨rfl, rfl, hwp⟩ dX10_isSeen_55
    · have hwp := hwp.2 c1
      refine lv_iload_n hx hb dX10_isSeen_12 rfl (lv_at lv 2 rfl) ?_
      refine lv_if_eq (tgt := 54) hx hb dX10_isSeen_13 (by decide) (fun c2 => ?_) (fun c2 => ?_)
      · have hwp := hwp.1 c2
        refine lv_iload_n hx hb dX10_isSeen_54 rfl (lv_at lv 2 rfl) ?_
        obtain ⟨z1, hwp⟩ := hwp
        exact x_zret C Dy z1 ⟨rfl, rfl, hwp⟩ dX10_isSeen_55
      · have hwp := hwp.2 c2
        refine lv_aload_n hx hb dX10_isSeen_16 rfl (lv_at lv 0 rfl) ?_
        refine lv_iload_n hx hb dX10_isSeen_17 rfl (lv_at lv 1 rfl) ?_
        refine lv_aload_n hx hb dX10_isSeen_18 rfl (lv_at lv 0 rfl) ?_
        refine gf_X10_58_0 C Dy dX10_isSeen_19 ?_
        refine lv_iconst (v := (2 : Int32)) hx hb dX10_isSeen_22 (by decide) ?_
        refine lv_iload_n hx hb dX10_isSeen_23 rfl (lv_at lv 3 rfl) ?_
        refine lv_imul hx hb dX10_isSeen_24 ?_
        obtain ⟨g3, hwp⟩ := hwp
        refine x_iald C Dy wma_17 g3 dX10_isSeen_25 ?_
        refine x_cont_i Dy (x_runV (As := [.int v1, .int (h 17 ((2 : Int32) * v3).toNatClampNeg)]) (rest := []) C Dy (m_X10_doesBy E l _ _ v1 (h 17 ((2 : Int32) * v3).toNatClampNeg) _ hwp) (cw_X10_174 C rfl rfl ⟨Nat.le_trans (Nat.le_of_ble_eq_true rfl) hR.1, Nat.le_trans (Nat.le_of_ble_eq_true rfl) hR.2⟩) wm_0 rfl rfl lv.1 rfl (Nat.le_of_ble_eq_true rfl) dX10_isSeen_26 ⟨Nat.zero_le _, Nat.zero_le _⟩) (fun r4 h5 hl5 H locs hwp Dy => ?_)
        obtain ⟨rfl, rfl, hwp⟩ := hwp
        refine lv_aload_n hx hb dX10_isSeen_29 rfl (lv_at lv 0 rfl) ?_
        refine gf_X10_58_0 C Dy dX10_isSeen_30 ?_
        refine lv_iconst (v := (2 : Int32)) hx hb dX10_isSeen_33 (by decide) ?_
        refine lv_iload_n hx hb dX10_isSeen_34 rfl (lv_at lv 3 rfl) ?_
        refine lv_imul hx hb dX10_isSeen_35 ?_
        refine lv_iconst (v := (1 : Int32)) hx hb dX10_isSeen_36 (by decide) ?_
        refine lv_iadd hx hb dX10_isSeen_37 ?_
        obtain ⟨g6, hwp⟩ := hwp
        refine x_iald C Dy wma_17 g6 dX10_isSeen_38 ?_
        refine lv_icmp_ne (tgt := 46) hx hb dX10_isSeen_39 (by decide) (fun c7 => ?_) (fun c7 => ?_)
        · try simp only [if_neg c7] at hwp
          refine lv_iconst (v := (0 : Int32)) hx hb dX10_isSeen_46 (by decide) ?_
          exact t_X10_isSeen_47 E C hR Qp (fun v1 v2 v3 => b_X10_isSeen_4 n h v1 v2 v3 Qp) (fun v1 v2 v3 H locs ls Dy lv hwp => ih v1 v2 v3 H locs ls Dy lv hwp) v1 v3 (0 : Int32) _ _ _ Dy (lv_sub lv [0, 1, 3] rfl) hwp
        · try simp only [if_pos c7] at hwp
          refine lv_iconst (v := (1 : Int32)) hx hb dX10_isSeen_42 (by decide) ?_
          refine lv_goto (tgt := 47) hx hb dX10_isSeen_43 (by decide) ?_
          exact t_X10_isSeen_47 E C hR Qp (fun v1 v2 v3 => b_X10_isSeen_4 n h v1 v2 v3 Qp) (fun v1 v2 v3 H locs ls Dy lv hwp => ih v1 v2 v3 H locs ls Dy lv hwp) v1 v3 (1 : Int32) _ _ _ Dy (lv_sub lv [0, 1, 3] rfl) hwp
set_option maxHeartbeats 4000000 in
set_option maxRecDepth 100000 in
theorem m_X10_isSeen (E : xE) (l : Launch) (h : Mem) (hl : MemL) (v1 : Int32) (Qp : Int32 → Prop) (hwp : p_X10_isSeen h v1 Qp) : Met l yX10_isSeen (wsU yX10_isSeen cX10_isSeen 4 (some .boolean)) ({ frames := 3, cells := 0, slots := 0, locals := 77 } : Room) (mPc (wdM E) [.ref (wad (wdM E) 0), .int v1] h hl) (mQz (wdM E) (fun r h1 hl1 => h = h1 ∧ hl = hl1 ∧ Qp r)) 0 0 (wA (wdM E)) := by
  refine x_met RX10 [(0, .ref (wad (wdM E) 0)), (1, .int v1)] (by decide) rfl (Nat.le_of_ble_eq_true rfl) rfl ?_
  intro p e s m args below meth c ls C Dy lv
  have hx := C.x
  have hb := C.b
  have hR : 3 ≤ ({ frames := 3, cells := 0, slots := 0, locals := 77 } : Room).frames ∧ 77 ≤ ({ frames := 3, cells := 0, slots := 0, locals := 77 } : Room).locals := ⟨Nat.le_refl _, Nat.le_refl _⟩
  unfold p_X10_isSeen at hwp
  refine lv_iconst (v := (1 : Int32)) hx hb dX10_isSeen_0 (by decide) ?_
  refine lv_istore_n (lv' := [(2, .int (1 : Int32)), (0, .ref (wad (wdM E) 0)), (1, .int v1)]) hx hb dX10_isSeen_1 rfl lv (by decide) rfl (fun ls lv => ?_)
  refine lv_iconst (v := (0 : Int32)) hx hb dX10_isSeen_2 (by decide) ?_
  refine lv_istore_n (lv' := [(3, .int (0 : Int32)), (2, .int (1 : Int32)), (0, .ref (wad (wdM E) 0)), (1, .int v1)]) hx hb dX10_isSeen_3 rfl lv (by decide) rfl (fun ls lv => ?_)
  obtain ⟨n0, hwp⟩ := hwp
  exact t_X10_isSeen_4 E C hR Qp n0 v1 (1 : Int32) (0 : Int32) _ _ _ Dy (lv_sub lv [2, 3, 1, 0] rfl) hwp
def b_X10_setsOf_62 (h : Mem) (v1 : Int32) (v2 : Int32) (v3 : Int32) (v4 : Int32) (v5 : Int32) (K19 : Int32 → Int32 → Int32 → Int32 → Int32 → Prop) (Qp : Int32 → Prop) : Prop := K19 v1 v2 v3 v4 (v5 + (1 : Int32))
def b_X10_setsOf_19 : Nat → Mem → Int32 → Int32 → Int32 → Int32 → Int32 → (Int32 → Prop) → Prop
  | 0 => fun _ _ _ _ _ _ _ => False
  | n + 1 => fun h v1 v2 v3 v4 v5 Qp => (vp_in (0 : Int32) 2 ∧ ((((1 : Int32) <<< ((h 7 (0 : Int32).toNatClampNeg) &&& 31)) ≤ v5 → Qp (if v1 = 0 then v2 else (if v1 = (1 : Int32) then v3 else (if v2 = 0 then (0 : Int32) else v4)))) ∧ (¬ (((1 : Int32) <<< ((h 7 (0 : Int32).toNatClampNeg) &&& 31)) ≤ v5) → (p_X10_isSeen h v5 (fun r6 => b_X10_setsOf_62 h v1 (if r6 = 0 then v2 else (v2 + (1 : Int32))) (if r6 = 0 then v3 else (if v2 = 0 then v5 else v3)) (if r6 = 0 then v4 else (v4 &&& v5)) v5 (fun v1 v2 v3 v4 v5 => b_X10_setsOf_19 n h v1 v2 v3 v4 v5 Qp) Qp)))))
def b_X10_setsOf_51 (h : Mem) (v1 : Int32) (v2 : Int32) (v4 : Int32) (v5 : Int32) (w0 : Int32) (K19 : Int32 → Int32 → Int32 → Int32 → Int32 → Prop) (Qp : Int32 → Prop) : Prop := b_X10_setsOf_62 h v1 (v2 + (1 : Int32)) w0 (v4 &&& v5) v5 K19 Qp
def p_X10_setsOf (h : Mem) (v1 : Int32) (Qp : Int32 → Prop) : Prop := (vp_in (0 : Int32) 2 ∧ (∀ x11 : Int32, x11 = (((1 : Int32) <<< ((h 7 (0 : Int32).toNatClampNeg) &&& 31)) - (1 : Int32)) → (∃ n19, b_X10_setsOf_19 n19 h v1 (0 : Int32) (-1 : Int32) x11 (0 : Int32) Qp)))
set_option maxHeartbeats 4000000 in
set_option maxRecDepth 100000 in
theorem t_X10_setsOf_62 (E : xE) {p : Program} {l : Launch} {e : Env} {R : Room} {s : State} {m : MethodId} {args : Array Value} {below : List Frame} {meth : Method} {c : Code} (C : mC (wdM E) p s m meth c args cX10_setsOf 6 RX10 (some .int)) (hR : 4 ≤ R.frames ∧ 100 ≤ R.locals) {h : Mem} {hl : MemL} (Qp : Int32 → Prop) (K19 : Int32 → Int32 → Int32 → Int32 → Int32 → Prop) (hK19 : ∀ (v1 : Int32) (v2 : Int32) (v3 : Int32) (v4 : Int32) (v5 : Int32) (H : Heap) (locs : List Loc) (ls : Array Slot), mD (wdM E) h hl s H locs → lv_has ls 6 [(0, .ref (wad (wdM E) 0)), (1, .int v1), (2, .int v2), (3, .int v3), (4, .int v4), (5, .int v5)] → K19 v1 v2 v3 v4 v5 → W p l e R s m args below meth c H locs 0 0 (MQ below (mQi (wdM E) (fun r h1 hl1 => h = h1 ∧ hl = hl1 ∧ Qp r)) args s 0 0 (wA (wdM E))) (F0 m 19 ls [])) : ∀ (v1 : Int32) (v2 : Int32) (v3 : Int32) (v4 : Int32) (v5 : Int32) (H : Heap) (locs : List Loc) (ls : Array Slot), mD (wdM E) h hl s H locs → lv_has ls 6 [(0, .ref (wad (wdM E) 0)), (1, .int v1), (2, .int v2), (3, .int v3), (4, .int v4), (5, .int v5)] → b_X10_setsOf_62 h v1 v2 v3 v4 v5 K19 Qp → W p l e R s m args below meth c H locs 0 0 (MQ below (mQi (wdM E) (fun r h1 hl1 => h = h1 ∧ hl = hl1 ∧ Qp r)) args s 0 0 (wA (wdM E))) (F0 m 62 ls []) := by
  have hx := C.x
  have hb := C.b
  intro v1 v2 v3 v4 v5 H locs ls Dy lv hwp
  unfold b_X10_setsOf_62 at hwp
  refine lv_iinc (v := (v5 + (1 : Int32))) (lv' := [(5, .int (v5 + (1 : Int32))), (0, .ref (wad (wdM E) 0)), (1, .int v1), (2, .int v2), (3, .int v3), (4, .int v4)]) hx hb dX10_setsOf_62 lv (k := 5) rfl rfl (by decide) rfl (fun ls lv => ?_)
  refine lv_goto (tgt := 19) hx hb dX10_setsOf_65 (by decide) ?_
  exact hK19 v1 v2 v3 v4 (v5 + (1 : Int32)) _ _ _ Dy (lv_sub lv [1, 2, 3, 4, 5, 0] rfl) hwp
set_option maxHeartbeats 4000000 in
set_option maxRecDepth 100000 in
theorem t_X10_setsOf_19 (E : xE) {p : Program} {l : Launch} {e : Env} {R : Room} {s : State} {m : MethodId} {args : Array Value} {below : List Frame} {meth : Method} {c : Code} (C : mC (wdM E) p s m meth c args cX10_setsOf 6 RX10 (some .int)) (hR : 4 ≤ R.frames ∧ 100 ≤ R.locals) {h : Mem} {hl : MemL} (Qp : Int32 → Prop) : ∀ (n : Nat) (v1 : Int32) (v2 : Int32) (v3 : Int32) (v4 : Int32) (v5 : Int32) (H : Heap) (locs : List Loc) (ls : Array Slot), mD (wdM E) h hl s H locs → lv_has ls 6 [(0, .ref (wad (wdM E) 0)), (1, .int v1), (2, .int v2), (3, .int v3), (4, .int v4), (5, .int v5)] → b_X10_setsOf_19 n h v1 v2 v3 v4 v5 Qp → W p l e R s m args below meth c H locs 0 0 (MQ below (mQi (wdM E) (fun r h1 hl1 => h = h1 ∧ hl = hl1 ∧ Qp r)) args s 0 0 (wA (wdM E))) (F0 m 19 ls []) := by
  have hx := C.x
  have hb := C.b
  intro n
  induction n with
  | zero => intro v1 v2 v3 v4 v5 H locs ls Dy lv hwp; exact hwp.elim
  | succ n ih =>
    intro v1 v2 v3 v4 v5 H locs ls Dy lv hwp
    simp only [b_X10_setsOf_19] at hwp
    refine lv_iload hx hb dX10_setsOf_19 (lv_at lv 5 rfl) ?_
    refine lv_iconst (v := (1 : Int32)) hx hb dX10_setsOf_21 (by decide) ?_
    refine lv_aload_n hx hb dX10_setsOf_22 rfl (lv_at lv 0 rfl) ?_
    refine gf_X10_28_0 C Dy dX10_setsOf_23 ?_
    refine lv_iconst (v := (0 : Int32)) hx hb dX10_setsOf_26 (by decide) ?_
    obtain ⟨g1, hwp⟩ := hwp
    refine x_iald C Dy wma_7 g1 dX10_setsOf_27 ?_
    refine lv_ishl hx hb dX10_setsOf_28 ?_
    refine lv_icmp_ge (tgt := 68) hx hb dX10_setsOf_29 (by decide) (fun c2 => ?_) (fun c2 => ?_)
    · have hwp := hwp.1 c2
      refine lv_iload_n hx hb dX10_setsOf_68 rfl (lv_at lv 1 rfl) ?_
      refine lv_if_ne (tgt := 76) hx hb dX10_setsOf_69 (by decide) (fun c3 => ?_) (fun c3 => ?_)
      · try simp only [if_neg c3] at hwp
        refine lv_iload_n hx hb dX10_setsOf_76 rfl (lv_at lv 1 rfl) ?_
        refine lv_iconst (v := (1 : Int32)) hx hb dX10_setsOf_77 (by decide) ?_
        refine lv_icmp_ne (tgt := 85) hx hb dX10_setsOf_78 (by decide) (fun c4 => ?_) (fun c4 => ?_)
        · try simp only [if_neg c4] at hwp
          refine lv_iload_n hx hb dX10_setsOf_85 rfl (lv_at lv 2 rfl) ?_
          refine lv_if_ne (tgt := 93) hx hb dX10_setsOf_86 (by decide) (fun c5 => ?_) (fun c5 => ?_)
          · try simp only [if_neg c5] at hwp
            refine lv_iload hx hb dX10_setsOf_93 (lv_at lv 4 rfl) ?_
            exact x_iret C Dy ⟨rfl, rfl, hwp⟩ dX10_setsOf_95
          · try simp only [if_pos c5] at hwp
            refine lv_iconst (v := (0 : Int32)) hx hb dX10_setsOf_89 (by decide) ?_
            refine lv_goto (tgt := 95) hx hb dX10_setsOf_90 (by decide) ?_
            exact x_iret C Dy ⟨rfl, rfl, hwp⟩ dX10_setsOf_95
        · try simp only [if_pos c4] at hwp
          refine lv_iload_n hx hb dX10_setsOf_81 rfl (lv_at lv 3 rfl) ?_
          refine lv_goto (tgt := 95) hx hb dX10_setsOf_82 (by decide) ?_
          exact x_iret C Dy ⟨rfl, rfl, hwp⟩ dX10_setsOf_95
      · try simp only [if_pos c3] at hwp
        refine lv_iload_n hx hb dX10_setsOf_72 rfl (lv_at lv 2 rfl) ?_
        refine lv_goto (tgt := 95) hx hb dX10_setsOf_73 (by decide) ?_
        exact x_iret C Dy ⟨rfl, rfl, hwp⟩ dX10_setsOf_95
    · have hwp := hwp.2 c2
      refine lv_aload_n hx hb dX10_setsOf_32 rfl (lv_at lv 0 rfl) ?_
      refine lv_iload hx hb dX10_setsOf_33 (lv_at lv 5 rfl) ?_
      refine x_cont_z Dy (x_runV (As := [.int v5]) (rest := []) C Dy (m_X10_isSeen E l _ _ v5 _ hwp) (cw_X10_218 C rfl rfl ⟨Nat.le_trans (Nat.le_of_ble_eq_true rfl) hR.1, Nat.le_trans (Nat.le_of_ble_eq_true rfl) hR.2⟩) wm_0 rfl rfl lv.1 rfl (Nat.le_of_ble_eq_true rfl) dX10_setsOf_35 ⟨Nat.zero_le _, Nat.zero_le _⟩) (fun r6 h7 hl7 H locs zr6 hwp Dy => ?_)
      obtain ⟨rfl, rfl, hwp⟩ := hwp
      refine lv_if_eq (tgt := 62) hx hb dX10_setsOf_38 (by decide) (fun c8 => ?_) (fun c8 => ?_)
      · try simp only [if_pos c8] at hwp
        exact t_X10_setsOf_62 E C hR Qp (fun v1 v2 v3 v4 v5 => b_X10_setsOf_19 n h v1 v2 v3 v4 v5 Qp) (fun v1 v2 v3 v4 v5 H locs ls Dy lv hwp => ih v1 v2 v3 v4 v5 H locs ls Dy lv hwp) v1 v2 v3 v4 v5 _ _ _ Dy (lv_sub lv [0, 1, 2, 3, 4, 5] rfl) hwp
      · try simp only [if_neg c8] at hwp
        refine lv_iload_n hx hb dX10_setsOf_41 rfl (lv_at lv 2 rfl) ?_
        refine lv_if_ne (tgt := 50) hx hb dX10_setsOf_42 (by decide) (fun c9 => ?_) (fun c9 => ?_)
        · try simp only [if_neg c9] at hwp
          refine lv_iload_n hx hb dX10_setsOf_50 rfl (lv_at lv 3 rfl) ?_
          refine lv_istore_n (lv' := [(3, .int v3), (0, .ref (wad (wdM E) 0)), (1, .int v1), (2, .int v2), (4, .int v4), (5, .int v5)]) hx hb dX10_setsOf_51 rfl lv (by decide) rfl (fun ls lv => ?_)
          refine lv_iload hx hb dX10_setsOf_52 (lv_at lv 4 rfl) ?_
          refine lv_iload hx hb dX10_setsOf_54 (lv_at lv 5 rfl) ?_
          refine lv_iand hx hb dX10_setsOf_56 ?_
          refine lv_istore (lv' := [(4, .int (v4 &&& v5)), (3, .int v3), (0, .ref (wad (wdM E) 0)), (1, .int v1), (2, .int v2), (5, .int v5)]) hx hb dX10_setsOf_57 lv (by decide) rfl (fun ls lv => ?_)
          refine lv_iinc (v := (v2 + (1 : Int32))) (lv' := [(2, .int (v2 + (1 : Int32))), (4, .int (v4 &&& v5)), (3, .int v3), (0, .ref (wad (wdM E) 0)), (1, .int v1), (5, .int v5)]) hx hb dX10_setsOf_59 lv (k := 4) rfl rfl (by decide) rfl (fun ls lv => ?_)
          exact t_X10_setsOf_62 E C hR Qp (fun v1 v2 v3 v4 v5 => b_X10_setsOf_19 n h v1 v2 v3 v4 v5 Qp) (fun v1 v2 v3 v4 v5 H locs ls Dy lv hwp => ih v1 v2 v3 v4 v5 H locs ls Dy lv hwp) v1 (v2 + (1 : Int32)) v3 (v4 &&& v5) v5 _ _ _ Dy (lv_sub lv [3, 4, 0, 2, 1, 5] rfl) hwp
        · try simp only [if_pos c9] at hwp
          refine lv_iload hx hb dX10_setsOf_45 (lv_at lv 5 rfl) ?_
          refine lv_goto (tgt := 51) hx hb dX10_setsOf_47 (by decide) ?_
          refine lv_istore_n (lv' := [(3, .int v5), (0, .ref (wad (wdM E) 0)), (1, .int v1), (2, .int v2), (4, .int v4), (5, .int v5)]) hx hb dX10_setsOf_51 rfl lv (by decide) rfl (fun ls lv => ?_)
          refine lv_iload hx hb dX10_setsOf_52 (lv_at lv 4 rfl) ?_
          refine lv_iload hx hb dX10_setsOf_54 (lv_at lv 5 rfl) ?_
          refine lv_iand hx hb dX10_setsOf_56 ?_
          refine lv_istore (lv' := [(4, .int (v4 &&& v5)), (3, .int v5), (0, .ref (wad (wdM E) 0)), (1, .int v1), (2, .int v2), (5, .int v5)]) hx hb dX10_setsOf_57 lv (by decide) rfl (fun ls lv => ?_)
          refine lv_iinc (v := (v2 + (1 : Int32))) (lv' := [(2, .int (v2 + (1 : Int32))), (4, .int (v4 &&& v5)), (3, .int v5), (0, .ref (wad (wdM E) 0)), (1, .int v1), (5, .int v5)]) hx hb dX10_setsOf_59 lv (k := 4) rfl rfl (by decide) rfl (fun ls lv => ?_)
          exact t_X10_setsOf_62 E C hR Qp (fun v1 v2 v3 v4 v5 => b_X10_setsOf_19 n h v1 v2 v3 v4 v5 Qp) (fun v1 v2 v3 v4 v5 H locs ls Dy lv hwp => ih v1 v2 v3 v4 v5 H locs ls Dy lv hwp) v1 (v2 + (1 : Int32)) v5 (v4 &&& v5) v5 _ _ _ Dy (lv_sub lv [3, 4, 0, 2, 1, 5] rfl) hwp
set_option maxHeartbeats 4000000 in
set_option maxRecDepth 100000 in
theorem t_X10_setsOf_51 (E : xE) {p : Program} {l : Launch} {e : Env} {R : Room} {s : State} {m : MethodId} {args : Array Value} {below : List Frame} {meth : Method} {c : Code} (C : mC (wdM E) p s m meth c args cX10_setsOf 6 RX10 (some .int)) (hR : 4 ≤ R.frames ∧ 100 ≤ R.locals) {h : Mem} {hl : MemL} (Qp : Int32 → Prop) (K19 : Int32 → Int32 → Int32 → Int32 → Int32 → Prop) (hK19 : ∀ (v1 : Int32) (v2 : Int32) (v3 : Int32) (v4 : Int32) (v5 : Int32) (H : Heap) (locs : List Loc) (ls : Array Slot), mD (wdM E) h hl s H locs → lv_has ls 6 [(0, .ref (wad (wdM E) 0)), (1, .int v1), (2, .int v2), (3, .int v3), (4, .int v4), (5, .int v5)] → K19 v1 v2 v3 v4 v5 → W p l e R s m args below meth c H locs 0 0 (MQ below (mQi (wdM E) (fun r h1 hl1 => h = h1 ∧ hl = hl1 ∧ Qp r)) args s 0 0 (wA (wdM E))) (F0 m 19 ls [])) : ∀ (v1 : Int32) (v2 : Int32) (v4 : Int32) (v5 : Int32) (w0 : Int32) (H : Heap) (locs : List Loc) (ls : Array Slot), mD (wdM E) h hl s H locs → lv_has ls 6 [(0, .ref (wad (wdM E) 0)), (1, .int v1), (2, .int v2), (4, .int v4), (5, .int v5)] → b_X10_setsOf_51 h v1 v2 v4 v5 w0 K19 Qp → W p l e R s m args below meth c H locs 0 0 (MQ below (mQi (wdM E) (fun r h1 hl1 => h = h1 ∧ hl = hl1 ∧ Qp r)) args s 0 0 (wA (wdM E))) (F0 m 51 ls [.int w0]) := by
  have hx := C.x
  have hb := C.b
  intro v1 v2 v4 v5 w0 H locs ls Dy lv hwp
  unfold b_X10_setsOf_51 at hwp
  refine lv_istore_n (lv' := [(3, .int w0), (0, .ref (wad (wdM E) 0)), (1, .int v1), (2, .int v2), (4, .int v4), (5, .int v5)]) hx hb dX10_setsOf_51 rfl lv (by decide) rfl (fun ls lv => ?_)
  refine lv_iload hx hb dX10_setsOf_52 (lv_at lv 4 rfl) ?_
  refine lv_iload hx hb dX10_setsOf_54 (lv_at lv 5 rfl) ?_
  refine lv_iand hx hb dX10_setsOf_56 ?_
  refine lv_istore (lv' := [(4, .int (v4 &&& v5)), (3, .int w0), (0, .ref (wad (wdM E) 0)), (1, .int v1), (2, .int v2), (5, .int v5)]) hx hb dX10_setsOf_57 lv (by decide) rfl (fun ls lv => ?_)
  refine lv_iinc (v := (v2 + (1 : Int32))) (lv' := [(2, .int (v2 + (1 : Int32))), (4, .int (v4 &&& v5)), (3, .int w0), (0, .ref (wad (wdM E) 0)), (1, .int v1), (5, .int v5)]) hx hb dX10_setsOf_59 lv (k := 4) rfl rfl (by decide) rfl (fun ls lv => ?_)
  exact t_X10_setsOf_62 E C hR Qp K19 hK19 v1 (v2 + (1 : Int32)) w0 (v4 &&& v5) v5 _ _ _ Dy (lv_sub lv [3, 4, 0, 2, 1, 5] rfl) hwp
set_option maxHeartbeats 4000000 in
set_option maxRecDepth 100000 in
theorem m_X10_setsOf (E : xE) (l : Launch) (h : Mem) (hl : MemL) (v1 : Int32) (Qp : Int32 → Prop) (hwp : p_X10_setsOf h v1 Qp) : Met l yX10_setsOf (wsU yX10_setsOf cX10_setsOf 6 (some .int)) ({ frames := 4, cells := 0, slots := 0, locals := 100 } : Room) (mPc (wdM E) [.ref (wad (wdM E) 0), .int v1] h hl) (mQi (wdM E) (fun r h1 hl1 => h = h1 ∧ hl = hl1 ∧ Qp r)) 0 0 (wA (wdM E)) := by
  refine x_met RX10 [(0, .ref (wad (wdM E) 0)), (1, .int v1)] (by decide) rfl (Nat.le_of_ble_eq_true rfl) rfl ?_
  intro p e s m args below meth c ls C Dy lv
  have hx := C.x
  have hb := C.b
  have hR : 4 ≤ ({ frames := 4, cells := 0, slots := 0, locals := 100 } : Room).frames ∧ 100 ≤ ({ frames := 4, cells := 0, slots := 0, locals := 100 } : Room).locals := ⟨Nat.le_refl _, Nat.le_refl _⟩
  unfold p_X10_setsOf at hwp
  refine lv_iconst (v := (0 : Int32)) hx hb dX10_setsOf_0 (by decide) ?_
  refine lv_istore_n (lv' := [(2, .int (0 : Int32)), (0, .ref (wad (wdM E) 0)), (1, .int v1)]) hx hb dX10_setsOf_1 rfl lv (by decide) rfl (fun ls lv => ?_)
  refine lv_iconst (v := (-1 : Int32)) hx hb dX10_setsOf_2 (by decide) ?_
  refine lv_istore_n (lv' := [(3, .int (-1 : Int32)), (2, .int (0 : Int32)), (0, .ref (wad (wdM E) 0)), (1, .int v1)]) hx hb dX10_setsOf_3 rfl lv (by decide) rfl (fun ls lv => ?_)
  refine lv_iconst (v := (1 : Int32)) hx hb dX10_setsOf_4 (by decide) ?_
  refine lv_aload_n hx hb dX10_setsOf_5 rfl (lv_at lv 2 rfl) ?_
  refine gf_X10_28_0 C Dy dX10_setsOf_6 ?_
  refine lv_iconst (v := (0 : Int32)) hx hb dX10_setsOf_9 (by decide) ?_
  obtain ⟨g10, hwp⟩ := hwp
  refine x_iald C Dy wma_7 g10 dX10_setsOf_10 ?_
  refine lv_ishl hx hb dX10_setsOf_11 ?_
  refine lv_iconst (v := (1 : Int32)) hx hb dX10_setsOf_12 (by decide) ?_
  refine lv_isub hx hb dX10_setsOf_13 ?_
  refine lv_topi (fun x11 ex11 => ?_)
  have hwp := hwp x11 ex11
  refine lv_istore (lv' := [(4, .int x11), (3, .int (-1 : Int32)), (2, .int (0 : Int32)), (0, .ref (wad (wdM E) 0)), (1, .int v1)]) hx hb dX10_setsOf_14 lv (by decide) rfl (fun ls lv => ?_)
  refine lv_iconst (v := (0 : Int32)) hx hb dX10_setsOf_16 (by decide) ?_
  refine lv_istore (lv' := [(5, .int (0 : Int32)), (4, .int x11), (3, .int (-1 : Int32)), (2, .int (0 : Int32)), (0, .ref (wad (wdM E) 0)), (1, .int v1)]) hx hb dX10_setsOf_17 lv (by decide) rfl (fun ls lv => ?_)
  obtain ⟨n0, hwp⟩ := hwp
  exact t_X10_setsOf_19 E C hR Qp n0 v1 (0 : Int32) (-1 : Int32) x11 (0 : Int32) _ _ _ Dy (lv_sub lv [4, 5, 3, 2, 1, 0] rfl) hwp
def p_X10_sets (h : Mem) (v1 : Int32) (Qp : Int32 → Mem → Prop) : Prop := (p_X10_reads h (fun h2 => (p_X10_in (v1.toInt64) (0 : Int64) (2 : Int64) (fun r3 => ((r3 = 0 → Qp (-2 : Int32) h2) ∧ (¬ (r3 = 0) → (p_X10_setsOf h2 v1 (fun r6 => Qp r6 h2))))))))
set_option maxHeartbeats 4000000 in
set_option maxRecDepth 100000 in
theorem m_X10_sets (E : xE) (l : Launch) (h : Mem) (hl : MemL) (v1 : Int32) (Qp : Int32 → Mem → Prop) (hwp : p_X10_sets h v1 Qp) : Met l yX10_sets (wsU yX10_sets cX10_sets 2 (some .int)) ({ frames := 6, cells := 0, slots := 0, locals := 136 } : Room) (mPc (wdM E) [.ref (wad (wdM E) 0), .int v1] h hl) (mQi (wdM E) (fun r h1 hl1 => hl = hl1 ∧ Qp r h1)) 0 0 (wA (wdM E)) := by
  refine x_met RX10 [(0, .ref (wad (wdM E) 0)), (1, .int v1)] (by decide) rfl (Nat.le_of_ble_eq_true rfl) rfl ?_
  intro p e s m args below meth c ls C Dy lv
  have hx := C.x
  have hb := C.b
  have hR : 6 ≤ ({ frames := 6, cells := 0, slots := 0, locals := 136 } : Room).frames ∧ 136 ≤ ({ frames := 6, cells := 0, slots := 0, locals := 136 } : Room).locals := ⟨Nat.le_refl _, Nat.le_refl _⟩
  unfold p_X10_sets at hwp
  refine lv_aload_n hx hb dX10_sets_0 rfl (lv_at lv 0 rfl) ?_
  refine x_cont_v Dy (x_runV (As := []) (rest := []) C Dy (m_X10_reads E l _ _ _ hwp) (cw_X10_122 C rfl rfl ⟨Nat.le_trans (Nat.le_of_ble_eq_true rfl) hR.1, Nat.le_trans (Nat.le_of_ble_eq_true rfl) hR.2⟩) wm_0 rfl rfl lv.1 rfl (Nat.le_of_ble_eq_true rfl) dX10_sets_1 ⟨Nat.zero_le _, Nat.zero_le _⟩) (fun h2 hl2 H locs hwp Dy => ?_)
  obtain ⟨rfl, hwp⟩ := hwp
  refine lv_iload_n hx hb dX10_sets_4 rfl (lv_at lv 1 rfl) ?_
  refine lv_i2l hx hb dX10_sets_5 rfl ?_
  refine lv_lconst (v := (0 : Int64)) hx hb dX10_sets_6 (by decide) ?_
  refine lv_ldc2 hx hb C.ow (C.ts _ k_900) dX10_sets_7 ?_
  refine x_cont_z Dy (x_runS (As := [.long (v1.toInt64), .long (0 : Int64), .long (2 : Int64)]) (rest := []) C Dy (m_X10_in E l _ _ (v1.toInt64) (0 : Int64) (2 : Int64) _ hwp) (cw_X10_66 C rfl rfl ⟨Nat.le_trans (Nat.le_of_ble_eq_true rfl) hR.1, Nat.le_trans (Nat.le_of_ble_eq_true rfl) hR.2⟩) rfl lv.1 rfl (Nat.le_of_ble_eq_true rfl) dX10_sets_10 ⟨Nat.zero_le _, Nat.zero_le _⟩) (fun r3 h4 hl4 H locs zr3 hwp Dy => ?_)
  obtain ⟨rfl, rfl, hwp⟩ := hwp
  refine lv_if_eq (tgt := 24) hx hb dX10_sets_13 (by decide) (fun c5 => ?_) (fun c5 => ?_)
  · have hwp := hwp.1 c5
    refine lv_bipush (v := (-2 : Int32)) hx hb dX10_sets_24 (by decide) ?_
    exact x_iret C Dy ⟨rfl, hwp⟩ dX10_sets_26
  · have hwp := hwp.2 c5
    refine lv_aload_n hx hb dX10_sets_16 rfl (lv_at lv 0 rfl) ?_
    refine lv_iload_n hx hb dX10_sets_17 rfl (lv_at lv 1 rfl) ?_
    refine x_cont_i Dy (x_runV (As := [.int v1]) (rest := []) C Dy (m_X10_setsOf E l _ _ v1 _ hwp) (cw_X10_221 C rfl rfl ⟨Nat.le_trans (Nat.le_of_ble_eq_true rfl) hR.1, Nat.le_trans (Nat.le_of_ble_eq_true rfl) hR.2⟩) wm_0 rfl rfl lv.1 rfl (Nat.le_of_ble_eq_true rfl) dX10_sets_18 ⟨Nat.zero_le _, Nat.zero_le _⟩) (fun r6 h7 hl7 H locs hwp Dy => ?_)
    obtain ⟨rfl, rfl, hwp⟩ := hwp
    refine lv_goto (tgt := 26) hx hb dX10_sets_21 (by decide) ?_
    exact x_iret C Dy ⟨rfl, hwp⟩ dX10_sets_26
