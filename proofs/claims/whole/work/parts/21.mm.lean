def b_X10_watchNow_80 (h : Mem) (v1 : Int32) (K24 : Mem → Int32 → Prop) (Qp : Int32 → Mem → Prop) : Prop := K24 h (v1 + (1 : Int32))
def b_X10_watchNow_46 : Nat → Mem → Int32 → Int32 → (Mem → Int32 → Prop) → (Int32 → Mem → Prop) → Prop
  | 0 => fun _ _ _ _ _ => False
  | n + 1 => fun h v1 v2 K24 Qp => (((24 : Int32) ≤ v2 → b_X10_watchNow_80 h v1 K24 Qp) ∧ (¬ ((24 : Int32) ≤ v2) → (p_X10_doesBy h v1 v2 (fun r9 => (vp_in ((((8 : Int32) * v2) + r9) + (1 : Int32)) 192 ∧ (vp_in ((((8 : Int32) * v2) + r9) + (1 : Int32)) 192 ∧ (∀ h13 : Mem, h13 = (up2 h 18 ((((8 : Int32) * v2) + r9) + (1 : Int32)).toNatClampNeg ((h 18 ((((8 : Int32) * v2) + r9) + (1 : Int32)).toNatClampNeg) + (1 : Int32))) → b_X10_watchNow_46 n h13 v1 (v2 + (1 : Int32)) K24 Qp)))))))
def b_X10_watchNow_145 (h : Mem) (v1 : Int32) (v2 : Int32) (v3 : Int32) (v5 : Int32) (w0 : Int32) (K92 : Mem → Int32 → Int32 → Int32 → Prop) (K104 : Mem → Int32 → Int32 → Int32 → Int32 → Int32 → Prop) (Qp : Int32 → Mem → Prop) : Prop := K104 h v1 v2 v3 w0 (v5 + (1 : Int32))
def b_X10_watchNow_193 (h : Mem) (v1 : Int32) (v3 : Int32) (w0 : Int32) (K92 : Mem → Int32 → Int32 → Int32 → Prop) (Qp : Int32 → Mem → Prop) : Prop := K92 h v1 w0 (v3 + (1 : Int32))
def b_X10_watchNow_181 (h : Mem) (v2 : Int32) (v3 : Int32) (v4 : Int32) (v5 : Int32) (w0 : Int32) (K92 : Mem → Int32 → Int32 → Int32 → Prop) (Qp : Int32 → Mem → Prop) : Prop := b_X10_watchNow_193 h w0 v3 (if v5 = 0 then v2 else v4) K92 Qp
def b_X10_watchNow_169 (h : Mem) (v1 : Int32) (v2 : Int32) (v3 : Int32) (v4 : Int32) (w0 : Int32) (K92 : Mem → Int32 → Int32 → Int32 → Prop) (Qp : Int32 → Mem → Prop) : Prop := b_X10_watchNow_181 h v2 v3 v4 w0 (if w0 = 0 then v1 else v3) K92 Qp
def b_X10_watchNow_104 : Nat → Mem → Int32 → Int32 → Int32 → Int32 → Int32 → (Mem → Int32 → Int32 → Int32 → Prop) → (Int32 → Mem → Prop) → Prop
  | 0 => fun _ _ _ _ _ _ _ _ => False
  | n + 1 => fun h v1 v2 v3 v4 v5 K92 Qp => (((8 : Int32) ≤ v5 → b_X10_watchNow_169 h v1 v2 v3 v4 (if v2 = (-1 : Int32) then (1 : Int32) else (if v2 ≤ v4 then (0 : Int32) else (1 : Int32))) K92 Qp) ∧ (¬ ((8 : Int32) ≤ v5) → (vp_in (((8 : Int32) * v3) + v5) 192 ∧ (((h 18 (((8 : Int32) * v3) + v5).toNatClampNeg) ≤ v4 → b_X10_watchNow_145 h v1 v2 v3 v5 v4 K92 (fun h v1 v2 v3 v4 v5 => b_X10_watchNow_104 n h v1 v2 v3 v4 v5 K92 Qp) Qp) ∧ (¬ ((h 18 (((8 : Int32) * v3) + v5).toNatClampNeg) ≤ v4) → (vp_in (((8 : Int32) * v3) + v5) 192 ∧ b_X10_watchNow_145 h v1 v2 v3 v5 (h 18 (((8 : Int32) * v3) + v5).toNatClampNeg) K92 (fun h v1 v2 v3 v4 v5 => b_X10_watchNow_104 n h v1 v2 v3 v4 v5 K92 Qp) Qp))))))
def b_X10_watchNow_92 : Nat → Mem → Int32 → Int32 → Int32 → (Int32 → Mem → Prop) → Prop
  | 0 => fun _ _ _ _ _ => False
  | n + 1 => fun h v1 v2 v3 Qp => (((24 : Int32) ≤ v3 → Qp v1 h) ∧ (¬ ((24 : Int32) ≤ v3) → (∃ n104, b_X10_watchNow_104 n104 h v1 v2 v3 (0 : Int32) (0 : Int32) (fun h v1 v2 v3 => b_X10_watchNow_92 n h v1 v2 v3 Qp) Qp)))
def b_X10_watchNow_24 : Nat → Mem → Int32 → (Int32 → Mem → Prop) → Prop
  | 0 => fun _ _ _ => False
  | n + 1 => fun h v1 Qp => (vp_in (0 : Int32) 2 ∧ ((((1 : Int32) <<< ((h 7 (0 : Int32).toNatClampNeg) &&& 31)) ≤ v1 → (∃ n92, b_X10_watchNow_92 n92 h (0 : Int32) (-1 : Int32) (0 : Int32) Qp)) ∧ (¬ (((1 : Int32) <<< ((h 7 (0 : Int32).toNatClampNeg) &&& 31)) ≤ v1) → (p_X10_isSeen h v1 (fun r5 => ((r5 = 0 → b_X10_watchNow_80 h v1 (fun h v1 => b_X10_watchNow_24 n h v1 Qp) Qp) ∧ (¬ (r5 = 0) → (∃ n46, b_X10_watchNow_46 n46 h v1 (0 : Int32) (fun h v1 => b_X10_watchNow_24 n h v1 Qp) Qp))))))))
def b_X10_watchNow_2 : Nat → Mem → Int32 → (Int32 → Mem → Prop) → Prop
  | 0 => fun _ _ _ => False
  | n + 1 => fun h v1 Qp => (((192 : Int32) ≤ v1 → (∃ n24, b_X10_watchNow_24 n24 h (0 : Int32) Qp)) ∧ (¬ ((192 : Int32) ≤ v1) → (vp_in v1 192 ∧ b_X10_watchNow_2 n (up2 h 18 v1.toNatClampNeg (0 : Int32)) (v1 + (1 : Int32)) Qp)))
def b_X10_watchNow_164 (h : Mem) (v1 : Int32) (v2 : Int32) (v3 : Int32) (v4 : Int32) (K92 : Mem → Int32 → Int32 → Int32 → Prop) (Qp : Int32 → Mem → Prop) : Prop := b_X10_watchNow_169 h v1 v2 v3 v4 (1 : Int32) K92 Qp
def p_X10_watchNow (h : Mem) (Qp : Int32 → Mem → Prop) : Prop := (∃ n2, b_X10_watchNow_2 n2 h (0 : Int32) Qp)
set_option maxHeartbeats 4000000 in
set_option maxRecDepth 100000 in
theorem t_X10_watchNow_80 (E : xE) {p : Program} {l : Launch} {e : Env} {R : Room} {s : State} {m : MethodId} {args : Array Value} {below : List Frame} {meth : Method} {c : Code} (C : mC (wdM E) p s m meth c args cX10_watchNow 6 RX10 (some .int)) (hR : 4 ≤ R.frames ∧ 100 ≤ R.locals) {hl : MemL} (Qp : Int32 → Mem → Prop) (K24 : Mem → Int32 → Prop) (hK24 : ∀ (h : Mem) (v1 : Int32) (H : Heap) (locs : List Loc) (ls : Array Slot), mD (wdM E) h hl s H locs → lv_has ls 6 [(0, .ref (wad (wdM E) 0)), (1, .int v1)] → K24 h v1 → W p l e R s m args below meth c H locs 0 0 (MQ below (mQi (wdM E) (fun r h1 hl1 => hl = hl1 ∧ Qp r h1)) args s 0 0 (wA (wdM E))) (F0 m 24 ls [])) : ∀ (h : Mem) (v1 : Int32) (H : Heap) (locs : List Loc) (ls : Array Slot), mD (wdM E) h hl s H locs → lv_has ls 6 [(0, .ref (wad (wdM E) 0)), (1, .int v1)] → b_X10_watchNow_80 h v1 K24 Qp → W p l e R s m args below meth c H locs 0 0 (MQ below (mQi (wdM E) (fun r h1 hl1 => hl = hl1 ∧ Qp r h1)) args s 0 0 (wA (wdM E))) (F0 m 80 ls []) := by
  have hx := C.x
  have hb := C.b
  intro h v1 H locs ls Dy lv hwp
  unfold b_X10_watchNow_80 at hwp
  refine lv_iinc (v := (v1 + (1 : Int32))) (lv' := [(1, .int (v1 + (1 : Int32))), (0, .ref (wad (wdM E) 0))]) hx hb dX10_watchNow_80 lv (k := 1) rfl rfl (by decide) rfl (fun ls lv => ?_)
  refine lv_goto (tgt := 24) hx hb dX10_watchNow_83 (by decide) ?_
  exact hK24 h (v1 + (1 : Int32)) _ _ _ Dy (lv_sub lv [1, 0] rfl) hwp
set_option maxHeartbeats 4000000 in
set_option maxRecDepth 100000 in
theorem t_X10_watchNow_46 (E : xE) {p : Program} {l : Launch} {e : Env} {R : Room} {s : State} {m : MethodId} {args : Array Value} {below : List Frame} {meth : Method} {c : Code} (C : mC (wdM E) p s m meth c args cX10_watchNow 6 RX10 (some .int)) (hR : 4 ≤ R.frames ∧ 100 ≤ R.locals) {hl : MemL} (Qp : Int32 → Mem → Prop) (K24 : Mem → Int32 → Prop) (hK24 : ∀ (h : Mem) (v1 : Int32) (H : Heap) (locs : List Loc) (ls : Array Slot), mD (wdM E) h hl s H locs → lv_has ls 6 [(0, .ref (wad (wdM E) 0)), (1, .int v1)] → K24 h v1 → W p l e R s m args below meth c H locs 0 0 (MQ below (mQi (wdM E) (fun r h1 hl1 => hl = hl1 ∧ Qp r h1)) args s 0 0 (wA (wdM E))) (F0 m 24 ls [])) : ∀ (n : Nat) (h : Mem) (v1 : Int32) (v2 : Int32) (H : Heap) (locs : List Loc) (ls : Array Slot), mD (wdM E) h hl s H locs → lv_has ls 6 [(0, .ref (wad (wdM E) 0)), (1, .int v1), (2, .int v2)] → b_X10_watchNow_46 n h v1 v2 K24 Qp → W p l e R s m args below meth c H locs 0 0 (MQ below (mQi (wdM E) (fun r h1 hl1 => hl = hl1 ∧ Qp r h1)) args s 0 0 (wA (wdM E))) (F0 m 46 ls []) := by
  have hx := C.x
  have hb := C.b
  intro n
  induction n with
  | zero => intro h v1 v2 H locs ls Dy lv hwp; exact hwp.elim
  | succ n ih =>
    intro h v1 v2 H locs ls Dy lv hwp
    simp only [b_X10_watchNow_46] at hwp
    refine lv_iload_n hx hb dX10_watchNow_46 rfl (lv_at lv 2 rfl) ?_
    refine lv_bipush (v := (24 : Int32)) hx hb dX10_watchNow_47 (by decide) ?_
    refine lv_icmp_ge (tgt := 80) hx hb dX10_watchNow_49 (by decide) (fun c8 => ?_) (fun c8 => ?_)
    · have hwp := hwp.1 c8
      exact t_X10_watchNow_80 E C hR Qp K24 hK24 h v1 _ _ _ Dy (lv_sub lv [0, 1] rfl) hwp
    · have hwp := hwp.2 c8
      refine lv_aload_n hx hb dX10_watchNow_52 rfl (lv_at lv 0 rfl) ?_
      refine gf_X10_61_0 C Dy dX10_watchNow_53 ?_
      refine lv_bipush (v := (8 : Int32)) hx hb dX10_watchNow_56 (by decide) ?_
      refine lv_iload_n hx hb dX10_watchNow_58 rfl (lv_at lv 2 rfl) ?_
      refine lv_imul hx hb dX10_watchNow_59 ?_
      refine lv_aload_n hx hb dX10_watchNow_60 rfl (lv_at lv 0 rfl) ?_
      refine lv_iload_n hx hb dX10_watchNow_61 rfl (lv_at lv 1 rfl) ?_
      refine lv_iload_n hx hb dX10_watchNow_62 rfl (lv_at lv 2 rfl) ?_
      refine x_cont_i Dy (x_runV (As := [.int v1, .int v2]) (rest := [.int ((8 : Int32) * v2), .ref (wad (wdM E) 18)]) C Dy (m_X10_doesBy E l _ _ v1 v2 _ hwp) (cw_X10_174 C rfl rfl ⟨Nat.le_trans (Nat.le_of_ble_eq_true rfl) hR.1, Nat.le_trans (Nat.le_of_ble_eq_true rfl) hR.2⟩) wm_0 rfl rfl lv.1 rfl (Nat.le_of_ble_eq_true rfl) dX10_watchNow_63 ⟨Nat.zero_le _, Nat.zero_le _⟩) (fun r9 h10 hl10 H locs hwp Dy => ?_)
      obtain ⟨rfl, rfl, hwp⟩ := hwp
      refine lv_iadd hx hb dX10_watchNow_66 ?_
      refine lv_iconst (v := (1 : Int32)) hx hb dX10_watchNow_67 (by decide) ?_
      refine lv_iadd hx hb dX10_watchNow_68 ?_
      refine lv_dup2_11 hx hb dX10_watchNow_69 rfl rfl ?_
      obtain ⟨g11, hwp⟩ := hwp
      refine x_iald C Dy wma_18 g11 dX10_watchNow_70 ?_
      refine lv_iconst (v := (1 : Int32)) hx hb dX10_watchNow_71 (by decide) ?_
      refine lv_iadd hx hb dX10_watchNow_72 ?_
      obtain ⟨g12, hwp⟩ := hwp
      refine x_iast C Dy wma_18 g12 dX10_watchNow_73 (fun H locs Dy => ?_)
      obtain ⟨h13, eh13⟩ : ∃ z : Mem, z = (up2 h 18 ((((8 : Int32) * v2) + r9) + (1 : Int32)).toNatClampNeg ((h 18 ((((8 : Int32) * v2) + r9) + (1 : Int32)).toNatClampNeg) + (1 : Int32))) := ⟨_, rfl⟩
      rw [← eh13] at Dy
      have hwp := hwp h13 eh13
      refine lv_iinc (v := (v2 + (1 : Int32))) (lv' := [(2, .int (v2 + (1 : Int32))), (0, .ref (wad (wdM E) 0)), (1, .int v1)]) hx hb dX10_watchNow_74 lv (k := 2) rfl rfl (by decide) rfl (fun ls lv => ?_)
      refine lv_goto (tgt := 46) hx hb dX10_watchNow_77 (by decide) ?_
      exact ih h13 v1 (v2 + (1 : Int32)) _ _ _ Dy (lv_sub lv [1, 2, 0] rfl) hwp
set_option maxHeartbeats 4000000 in
set_option maxRecDepth 100000 in
theorem t_X10_watchNow_145 (E : xE) {p : Program} {l : Launch} {e : Env} {R : Room} {s : State} {m : MethodId} {args : Array Value} {below : List Frame} {meth : Method} {c : Code} (C : mC (wdM E) p s m meth c args cX10_watchNow 6 RX10 (some .int)) (hR : 4 ≤ R.frames ∧ 100 ≤ R.locals) {hl : MemL} (Qp : Int32 → Mem → Prop) (K92 : Mem → Int32 → Int32 → Int32 → Prop) (K104 : Mem → Int32 → Int32 → Int32 → Int32 → Int32 → Prop) (hK92 : ∀ (h : Mem) (v1 : Int32) (v2 : Int32) (v3 : Int32) (H : Heap) (locs : List Loc) (ls : Array Slot), mD (wdM E) h hl s H locs → lv_has ls 6 [(0, .ref (wad (wdM E) 0)), (1, .int v1), (2, .int v2), (3, .int v3)] → K92 h v1 v2 v3 → W p l e R s m args below meth c H locs 0 0 (MQ below (mQi (wdM E) (fun r h1 hl1 => hl = hl1 ∧ Qp r h1)) args s 0 0 (wA (wdM E))) (F0 m 92 ls [])) (hK104 : ∀ (h : Mem) (v1 : Int32) (v2 : Int32) (v3 : Int32) (v4 : Int32) (v5 : Int32) (H : Heap) (locs : List Loc) (ls : Array Slot), mD (wdM E) h hl s H locs → lv_has ls 6 [(0, .ref (wad (wdM E) 0)), (1, .int v1), (2, .int v2), (3, .int v3), (4, .int v4), (5, .int v5)] → K104 h v1 v2 v3 v4 v5 → W p l e R s m args below meth c H locs 0 0 (MQ below (mQi (wdM E) (fun r h1 hl1 => hl = hl1 ∧ Qp r h1)) args s 0 0 (wA (wdM E))) (F0 m 104 ls [])) : ∀ (h : Mem) (v1 : Int32) (v2 : Int32) (v3 : Int32) (v5 : Int32) (w0 : Int32) (H : Heap) (locs : List Loc) (ls : Array Slot), mD (wdM E) h hl s H locs → lv_has ls 6 [(0, .ref (wad (wdM E) 0)), (1, .int v1), (2, .int v2), (3, .int v3), (5, .int v5)] → b_X10_watchNow_145 h v1 v2 v3 v5 w0 K92 K104 Qp → W p l e R s m args below meth c H locs 0 0 (MQ below (mQi (wdM E) (fun r h1 hl1 => hl = hl1 ∧ Qp r h1)) args s 0 0 (wA (wdM E))) (F0 m 145 ls [.int w0]) := by
  have hx := C.x
  have hb := C.b
  intro h v1 v2 v3 v5 w0 H locs ls Dy lv hwp
  unfold b_X10_watchNow_145 at hwp
  refine lv_istore (lv' := [(4, .int w0), (0, .ref (wad (wdM E) 0)), (1, .int v1), (2, .int v2), (3, .int v3), (5, .int v5)]) hx hb dX10_watchNow_145 lv (by decide) rfl (fun ls lv => ?_)
  refine lv_iinc (v := (v5 + (1 : Int32))) (lv' := [(5, .int (v5 + (1 : Int32))), (4, .int w0), (0, .ref (wad (wdM E) 0)), (1, .int v1), (2, .int v2), (3, .int v3)]) hx hb dX10_watchNow_147 lv (k := 5) rfl rfl (by decide) rfl (fun ls lv => ?_)
  refine lv_goto (tgt := 104) hx hb dX10_watchNow_150 (by decide) ?_
  exact hK104 h v1 v2 v3 w0 (v5 + (1 : Int32)) _ _ _ Dy (lv_sub lv [2, 3, 4, 5, 1, 0] rfl) hwp
set_option maxHeartbeats 4000000 in
set_option maxRecDepth 100000 in
theorem t_X10_watchNow_193 (E : xE) {p : Program} {l : Launch} {e : Env} {R : Room} {s : State} {m : MethodId} {args : Array Value} {below : List Frame} {meth : Method} {c : Code} (C : mC (wdM E) p s m meth c args cX10_watchNow 6 RX10 (some .int)) (hR : 4 ≤ R.frames ∧ 100 ≤ R.locals) {hl : MemL} (Qp : Int32 → Mem → Prop) (K92 : Mem → Int32 → Int32 → Int32 → Prop) (hK92 : ∀ (h : Mem) (v1 : Int32) (v2 : Int32) (v3 : Int32) (H : Heap) (locs : List Loc) (ls : Array Slot), mD (wdM E) h hl s H locs → lv_has ls 6 [(0, .ref (wad (wdM E) 0)), (1, .int v1), (2, .int v2), (3, .int v3)] → K92 h v1 v2 v3 → W p l e R s m args below meth c H locs 0 0 (MQ below (mQi (wdM E) (fun r h1 hl1 => hl = hl1 ∧ Qp r h1)) args s 0 0 (wA (wdM E))) (F0 m 92 ls [])) : ∀ (h : Mem) (v1 : Int32) (v3 : Int32) (w0 : Int32) (H : Heap) (locs : List Loc) (ls : Array Slot), mD (wdM E) h hl s H locs → lv_has ls 6 [(0, .ref (wad (wdM E) 0)), (1, .int v1), (3, .int v3)] → b_X10_watchNow_193 h v1 v3 w0 K92 Qp → W p l e R s m args below meth c H locs 0 0 (MQ below (mQi (wdM E) (fun r h1 hl1 => hl = hl1 ∧ Qp r h1)) args s 0 0 (wA (wdM E))) (F0 m 193 ls [.int w0]) := by
  have hx := C.x
  have hb := C.b
  intro h v1 v3 w0 H locs ls Dy lv hwp
  unfold b_X10_watchNow_193 at hwp
  refine lv_istore_n (lv' := [(2, .int w0), (0, .ref (wad (wdM E) 0)), (1, .int v1), (3, .int v3)]) hx hb dX10_watchNow_193 rfl lv (by decide) rfl (fun ls lv => ?_)
  refine lv_iinc (v := (v3 + (1 : Int32))) (lv' := [(3, .int (v3 + (1 : Int32))), (2, .int w0), (0, .ref (wad (wdM E) 0)), (1, .int v1)]) hx hb dX10_watchNow_194 lv (k := 3) rfl rfl (by decide) rfl (fun ls lv => ?_)
  refine lv_goto (tgt := 92) hx hb dX10_watchNow_197 (by decide) ?_
  exact hK92 h v1 w0 (v3 + (1 : Int32)) _ _ _ Dy (lv_sub lv [2, 3, 1, 0] rfl) hwp
set_option maxHeartbeats 4000000 in
set_option maxRecDepth 100000 in
theorem t_X10_watchNow_181 (E : xE) {p : Program} {l : Launch} {e : Env} {R : Room} {s : State} {m : MethodId} {args : Array Value} {below : List Frame} {meth : Method} {c : Code} (C : mC (wdM E) p s m meth c args cX10_watchNow 6 RX10 (some .int)) (hR : 4 ≤ R.frames ∧ 100 ≤ R.locals) {hl : MemL} (Qp : Int32 → Mem → Prop) (K92 : Mem → Int32 → Int32 → Int32 → Prop) (hK92 : ∀ (h : Mem) (v1 : Int32) (v2 : Int32) (v3 : Int32) (H : Heap) (locs : List Loc) (ls : Array Slot), mD (wdM E) h hl s H locs → lv_has ls 6 [(0, .ref (wad (wdM E) 0)), (1, .int v1), (2, .int v2), (3, .int v3)] → K92 h v1 v2 v3 → W p l e R s m args below meth c H locs 0 0 (MQ below (mQi (wdM E) (fun r h1 hl1 => hl = hl1 ∧ Qp r h1)) args s 0 0 (wA (wdM E))) (F0 m 92 ls [])) : ∀ (h : Mem) (v2 : Int32) (v3 : Int32) (v4 : Int32) (v5 : Int32) (w0 : Int32) (H : Heap) (locs : List Loc) (ls : Array Slot), mD (wdM E) h hl s H locs → lv_has ls 6 [(0, .ref (wad (wdM E) 0)), (2, .int v2), (3, .int v3), (4, .int v4), (5, .int v5)] → b_X10_watchNow_181 h v2 v3 v4 v5 w0 K92 Qp → W p l e R s m args below meth c H locs 0 0 (MQ below (mQi (wdM E) (fun r h1 hl1 => hl = hl1 ∧ Qp r h1)) args s 0 0 (wA (wdM E))) (F0 m 181 ls [.int w0]) := by
  have hx := C.x
  have hb := C.b
  intro h v2 v3 v4 v5 w0 H locs ls Dy lv hwp
  unfold b_X10_watchNow_181 at hwp
  refine lv_istore_n (lv' := [(1, .int w0), (0, .ref (wad (wdM E) 0)), (2, .int v2), (3, .int v3), (4, .int v4), (5, .int v5)]) hx hb dX10_watchNow_181 rfl lv (by decide) rfl (fun ls lv => ?_)
  refine lv_iload hx hb dX10_watchNow_182 (lv_at lv 5 rfl) ?_
  refine lv_if_eq (tgt := 192) hx hb dX10_watchNow_184 (by decide) (fun c22 => ?_) (fun c22 => ?_)
  · try simp only [if_pos c22] at hwp
    refine lv_iload_n hx hb dX10_watchNow_192 rfl (lv_at lv 2 rfl) ?_
    exact t_X10_watchNow_193 E C hR Qp K92 hK92 h w0 v3 v2 _ _ _ Dy (lv_sub lv [1, 0, 3] rfl) hwp
  · try simp only [if_neg c22] at hwp
    refine lv_iload hx hb dX10_watchNow_187 (lv_at lv 4 rfl) ?_
    refine lv_goto (tgt := 193) hx hb dX10_watchNow_189 (by decide) ?_
    exact t_X10_watchNow_193 E C hR Qp K92 hK92 h w0 v3 v4 _ _ _ Dy (lv_sub lv [1, 0, 3] rfl) hwp
set_option maxHeartbeats 4000000 in
set_option maxRecDepth 100000 in
theorem t_X10_watchNow_169 (E : xE) {p : Program} {l : Launch} {e : Env} {R : Room} {s : State} {m : MethodId} {args : Array Value} {below : List Frame} {meth : Method} {c : Code} (C : mC (wdM E) p s m meth c args cX10_watchNow 6 RX10 (some .int)) (hR : 4 ≤ R.frames ∧ 100 ≤ R.locals) {hl : MemL} (Qp : Int32 → Mem → Prop) (K92 : Mem → Int32 → Int32 → Int32 → Prop) (hK92 : ∀ (h : Mem) (v1 : Int32) (v2 : Int32) (v3 : Int32) (H : Heap) (locs : List Loc) (ls : Array Slot), mD (wdM E) h hl s H locs → lv_has ls 6 [(0, .ref (wad (wdM E) 0)), (1, .int v1), (2, .int v2), (3, .int v3)] → K92 h v1 v2 v3 → W p l e R s m args below meth c H locs 0 0 (MQ below (mQi (wdM E) (fun r h1 hl1 => hl = hl1 ∧ Qp r h1)) args s 0 0 (wA (wdM E))) (F0 m 92 ls [])) : ∀ (h : Mem) (v1 : Int32) (v2 : Int32) (v3 : Int32) (v4 : Int32) (w0 : Int32) (H : Heap) (locs : List Loc) (ls : Array Slot), mD (wdM E) h hl s H locs → lv_has ls 6 [(0, .ref (wad (wdM E) 0)), (1, .int v1), (2, .int v2), (3, .int v3), (4, .int v4)] → b_X10_watchNow_169 h v1 v2 v3 v4 w0 K92 Qp → W p l e R s m args below meth c H locs 0 0 (MQ below (mQi (wdM E) (fun r h1 hl1 => hl = hl1 ∧ Qp r h1)) args s 0 0 (wA (wdM E))) (F0 m 169 ls [.int w0]) := by
  have hx := C.x
  have hb := C.b
  intro h v1 v2 v3 v4 w0 H locs ls Dy lv hwp
  unfold b_X10_watchNow_169 at hwp
  refine lv_istore (lv' := [(5, .int w0), (0, .ref (wad (wdM E) 0)), (1, .int v1), (2, .int v2), (3, .int v3), (4, .int v4)]) hx hb dX10_watchNow_169 lv (by decide) rfl (fun ls lv => ?_)
  refine lv_iload hx hb dX10_watchNow_171 (lv_at lv 0 rfl) ?_
  refine lv_if_eq (tgt := 180) hx hb dX10_watchNow_173 (by decide) (fun c21 => ?_) (fun c21 => ?_)
  · try simp only [if_pos c21] at hwp
    refine lv_iload_n hx hb dX10_watchNow_180 rfl (lv_at lv 2 rfl) ?_
    exact t_X10_watchNow_181 E C hR Qp K92 hK92 h v2 v3 v4 w0 v1 _ _ _ Dy (lv_sub lv [1, 3, 4, 5, 0] rfl) hwp
  · try simp only [if_neg c21] at hwp
    refine lv_iload_n hx hb dX10_watchNow_176 rfl (lv_at lv 4 rfl) ?_
    refine lv_goto (tgt := 181) hx hb dX10_watchNow_177 (by decide) ?_
    exact t_X10_watchNow_181 E C hR Qp K92 hK92 h v2 v3 v4 w0 v3 _ _ _ Dy (lv_sub lv [1, 3, 4, 5, 0] rfl) hwp
set_option maxHeartbeats 4000000 in
set_option maxRecDepth 100000 in
theorem t_X10_watchNow_104 (E : xE) {p : Program} {l : Launch} {e : Env} {R : Room} {s : State} {m : MethodId} {args : Array Value} {below : List Frame} {meth : Method} {c : Code} (C : mC (wdM E) p s m meth c args cX10_watchNow 6 RX10 (some .int)) (hR : 4 ≤ R.frames ∧ 100 ≤ R.locals) {hl : MemL} (Qp : Int32 → Mem → Prop) (K92 : Mem → Int32 → Int32 → Int32 → Prop) (hK92 : ∀ (h : Mem) (v1 : Int32) (v2 : Int32) (v3 : Int32) (H : Heap) (locs : List Loc) (ls : Array Slot), mD (wdM E) h hl s H locs → lv_has ls 6 [(0, .ref (wad (wdM E) 0)), (1, .int v1), (2, .int v2), (3, .int v3)] → K92 h v1 v2 v3 → W p l e R s m args below meth c H locs 0 0 (MQ below (mQi (wdM E) (fun r h1 hl1 => hl = hl1 ∧ Qp r h1)) args s 0 0 (wA (wdM E))) (F0 m 92 ls [])) : ∀ (n : Nat) (h : Mem) (v1 : Int32) (v2 : Int32) (v3 : Int32) (v4 : Int32) (v5 : Int32) (H : Heap) (locs : List Loc) (ls : Array Slot), mD (wdM E) h hl s H locs → lv_has ls 6 [(0, .ref (wad (wdM E) 0)), (1, .int v1), (2, .int v2), (3, .int v3), (4, .int v4), (5, .int v5)] → b_X10_watchNow_104 n h v1 v2 v3 v4 v5 K92 Qp → W p l e R s m args below meth c H locs 0 0 (MQ below (mQi (wdM E) (fun r h1 hl1 => hl = hl1 ∧ Qp r h1)) args s 0 0 (wA (wdM E))) (F0 m 104 ls []) := by
  have hx := C.x
  have hb := C.b
  intro n
  induction n with
  | zero => intro h v1 v2 v3 v4 v5 H locs ls Dy lv hwp; exact hwp.elim
  | succ n ih =>
    intro h v1 v2 v3 v4 v5 H locs ls Dy lv hwp
    simp only [b_X10_watchNow_104] at hwp
    refine lv_iload hx hb dX10_watchNow_104 (lv_at lv 5 rfl) ?_
    refine lv_bipush (v := (8 : Int32)) hx hb dX10_watchNow_106 (by decide) ?_
    refine lv_icmp_ge (tgt := 153) hx hb dX10_watchNow_108 (by decide) (fun c15 => ?_) (fun c15 => ?_)
    · have hwp := hwp.1 c15
      refine lv_iload_n hx hb dX10_watchNow_153 rfl (lv_at lv 2 rfl) ?_
      refine lv_iconst (v := (-1 : Int32)) hx hb dX10_watchNow_154 (by decide) ?_
      refine lv_icmp_eq (tgt := 164) hx hb dX10_watchNow_155 (by decide) (fun c16 => ?_) (fun c16 => ?_)
      · try simp only [if_pos c16] at hwp
        refine lv_iconst (v := (1 : Int32)) hx hb dX10_watchNow_164 (by decide) ?_
        refine lv_goto (tgt := 169) hx hb dX10_watchNow_165 (by decide) ?_
        exact t_X10_watchNow_169 E C hR Qp K92 hK92 h v1 v2 v3 v4 (1 : Int32) _ _ _ Dy (lv_sub lv [0, 1, 2, 3, 4] rfl) hwp
      · try simp only [if_neg c16] at hwp
        refine lv_iload hx hb dX10_watchNow_158 (lv_at lv 4 rfl) ?_
        refine lv_iload_n hx hb dX10_watchNow_160 rfl (lv_at lv 2 rfl) ?_
        refine lv_icmp_ge (tgt := 168) hx hb dX10_watchNow_161 (by decide) (fun c17 => ?_) (fun c17 => ?_)
        · try simp only [if_pos c17] at hwp
          refine lv_iconst (v := (0 : Int32)) hx hb dX10_watchNow_168 (by decide) ?_
          exact t_X10_watchNow_169 E C hR Qp K92 hK92 h v1 v2 v3 v4 (0 : Int32) _ _ _ Dy (lv_sub lv [0, 1, 2, 3, 4] rfl) hwp
        · try simp only [if_neg c17] at hwp
          refine lv_iconst (v := (1 : Int32)) hx hb dX10_watchNow_164 (by decide) ?_
          refine lv_goto (tgt := 169) hx hb dX10_watchNow_165 (by decide) ?_
          exact t_X10_watchNow_169 E C hR Qp K92 hK92 h v1 v2 v3 v4 (1 : Int32) _ _ _ Dy (lv_sub lv [0, 1, 2, 3, 4] rfl) hwp
    · have hwp := hwp.2 c15
      refine lv_aload_n hx hb dX10_watchNow_111 rfl (lv_at lv 0 rfl) ?_
      refine gf_X10_61_0 C Dy dX10_watchNow_112 ?_
      refine lv_bipush (v := (8 : Int32)) hx hb dX10_watchNow_115 (by decide) ?_
      refine lv_iload_n hx hb dX10_watchNow_117 rfl (lv_at lv 3 rfl) ?_
      refine lv_imul hx hb dX10_watchNow_118 ?_
      refine lv_iload hx hb dX10_watchNow_119 (lv_at lv 5 rfl) ?_
      refine lv_iadd hx hb dX10_watchNow_121 ?_
      obtain ⟨g18, hwp⟩ := hwp
      refine x_iald C Dy wma_18 g18 dX10_watchNow_122 ?_
      refine lv_iload hx hb dX10_watchNow_123 (lv_at lv 4 rfl) ?_
      refine lv_icmp_le (tgt := 143) hx hb dX10_watchNow_125 (by decide) (fun c19 => ?_) (fun c19 => ?_)
      · have hwp := hwp.1 c19
        refine lv_iload hx hb dX10_watchNow_143 (lv_at lv 4 rfl) ?_
        exact t_X10_watchNow_145 E C hR Qp K92 (fun h v1 v2 v3 v4 v5 => b_X10_watchNow_104 n h v1 v2 v3 v4 v5 K92 Qp) hK92 (fun h v1 v2 v3 v4 v5 H locs ls Dy lv hwp => ih h v1 v2 v3 v4 v5 H locs ls Dy lv hwp) h v1 v2 v3 v5 v4 _ _ _ Dy (lv_sub lv [0, 1, 2, 3, 5] rfl) hwp
      · have hwp := hwp.2 c19
        refine lv_aload_n hx hb dX10_watchNow_128 rfl (lv_at lv 0 rfl) ?_
        refine gf_X10_61_0 C Dy dX10_watchNow_129 ?_
        refine lv_bipush (v := (8 : Int32)) hx hb dX10_watchNow_132 (by decide) ?_
        refine lv_iload_n hx hb dX10_watchNow_134 rfl (lv_at lv 3 rfl) ?_
        refine lv_imul hx hb dX10_watchNow_135 ?_
        refine lv_iload hx hb dX10_watchNow_136 (lv_at lv 5 rfl) ?_
        refine lv_iadd hx hb dX10_watchNow_138 ?_
        obtain ⟨g20, hwp⟩ := hwp
        refine x_iald C Dy wma_18 g20 dX10_watchNow_139 ?_
        refine lv_goto (tgt := 145) hx hb dX10_watchNow_140 (by decide) ?_
        exact t_X10_watchNow_145 E C hR Qp K92 (fun h v1 v2 v3 v4 v5 => b_X10_watchNow_104 n h v1 v2 v3 v4 v5 K92 Qp) hK92 (fun h v1 v2 v3 v4 v5 H locs ls Dy lv hwp => ih h v1 v2 v3 v4 v5 H locs ls Dy lv hwp) h v1 v2 v3 v5 (h 18 (((8 : Int32) * v3) + v5).toNatClampNeg) _ _ _ Dy (lv_sub lv [0, 1, 2, 3, 5] rfl) hwp
set_option maxHeartbeats 4000000 in
set_option maxRecDepth 100000 in
theorem t_X10_watchNow_92 (E : xE) {p : Program} {l : Launch} {e : Env} {R : Room} {s : State} {m : MethodId} {args : Array Value} {below : List Frame} {meth : Method} {c : Code} (C : mC (wdM E) p s m meth c args cX10_watchNow 6 RX10 (some .int)) (hR : 4 ≤ R.frames ∧ 100 ≤ R.locals) {hl : MemL} (Qp : Int32 → Mem → Prop) : ∀ (n : Nat) (h : Mem) (v1 : Int32) (v2 : Int32) (v3 : Int32) (H : Heap) (locs : List Loc) (ls : Array Slot), mD (wdM E) h hl s H locs → lv_has ls 6 [(0, .ref (wad (wdM E) 0)), (1, .int v1), (2, .int v2), (3, .int v3)] → b_X10_watchNow_92 n h v1 v2 v3 Qp → W p l e R s m args below meth c H locs 0 0 (MQ below (mQi (wdM E) (fun r h1 hl1 => hl = hl1 ∧ Qp r h1)) args s 0 0 (wA (wdM E))) (F0 m 92 ls []) := by
  have hx := C.x
  have hb := C.b
  intro n
  induction n with
  | zero => intro h v1 v2 v3 H locs ls Dy lv hwp; exact hwp.elim
  | succ n ih =>
    intro h v1 v2 v3 H locs ls Dy lv hwp
    simp only [b_X10_watchNow_92] at hwp
    refine lv_iload_n hx hb dX10_watchNow_92 rfl (lv_at lv 3 rfl) ?_
    refine lv_bipush (v := (24 : Int32)) hx hb dX10_watchNow_93 (by decide) ?_
    refine lv_icmp_ge (tgt := 200) hx hb dX10_watchNow_95 (by decide) (fun c14 => ?_) (fun c14 => ?_)
    · have hwp := hwp.1 c14
      refine lv_iload_n hx hb dX10_watchNow_200 rfl (lv_at lv 1 rfl) ?_
      exact x_iret C Dy ⟨rfl, hwp⟩ dX10_watchNow_201
    · have hwp := hwp.2 c14
      refine lv_iconst (v := (0 : Int32)) hx hb dX10_watchNow_98 (by decide) ?_
      refine lv_istore (lv' := [(4, .int (0 : Int32)), (0, .ref (wad (wdM E) 0)), (1, .int v1), (2, .int v2), (3, .int v3)]) hx hb dX10_watchNow_99 lv (by decide) rfl (fun ls lv => ?_)
      refine lv_iconst (v := (0 : Int32)) hx hb dX10_watchNow_101 (by decide) ?_
      refine lv_istore (lv' := [(5, .int (0 : Int32)), (4, .int (0 : Int32)), (0, .ref (wad (wdM E) 0)), (1, .int v1), (2, .int v2), (3, .int v3)]) hx hb dX10_watchNow_102 lv (by decide) rfl (fun ls lv => ?_)
      obtain ⟨n0, hwp⟩ := hwp
      exact t_X10_watchNow_104 E C hR Qp (fun h v1 v2 v3 => b_X10_watchNow_92 n h v1 v2 v3 Qp) (fun h v1 v2 v3 H locs ls Dy lv hwp => ih h v1 v2 v3 H locs ls Dy lv hwp) n0 h v1 v2 v3 (0 : Int32) (0 : Int32) _ _ _ Dy (lv_sub lv [2, 3, 4, 5, 1, 0] rfl) hwp
set_option maxHeartbeats 4000000 in
set_option maxRecDepth 100000 in
theorem t_X10_watchNow_24 (E : xE) {p : Program} {l : Launch} {e : Env} {R : Room} {s : State} {m : MethodId} {args : Array Value} {below : List Frame} {meth : Method} {c : Code} (C : mC (wdM E) p s m meth c args cX10_watchNow 6 RX10 (some .int)) (hR : 4 ≤ R.frames ∧ 100 ≤ R.locals) {hl : MemL} (Qp : Int32 → Mem → Prop) : ∀ (n : Nat) (h : Mem) (v1 : Int32) (H : Heap) (locs : List Loc) (ls : Array Slot), mD (wdM E) h hl s H locs → lv_has ls 6 [(0, .ref (wad (wdM E) 0)), (1, .int v1)] → b_X10_watchNow_24 n h v1 Qp → W p l e R s m args below meth c H locs 0 0 (MQ below (mQi (wdM E) (fun r h1 hl1 => hl = hl1 ∧ Qp r h1)) args s 0 0 (wA (wdM E))) (F0 m 24 ls []) := by
  have hx := C.x
  have hb := C.b
  intro n
  induction n with
  | zero => intro h v1 H locs ls Dy lv hwp; exact hwp.elim
  | succ n ih =>
    intro h v1 H locs ls Dy lv hwp
    simp only [b_X10_watchNow_24] at hwp
    refine lv_iload_n hx hb dX10_watchNow_24 rfl (lv_at lv 1 rfl) ?_
    refine lv_iconst (v := (1 : Int32)) hx hb dX10_watchNow_25 (by decide) ?_
    refine lv_aload_n hx hb dX10_watchNow_26 rfl (lv_at lv 0 rfl) ?_
    refine gf_X10_28_0 C Dy dX10_watchNow_27 ?_
    refine lv_iconst (v := (0 : Int32)) hx hb dX10_watchNow_30 (by decide) ?_
    obtain ⟨g3, hwp⟩ := hwp
    refine x_iald C Dy wma_7 g3 dX10_watchNow_31 ?_
    refine lv_ishl hx hb dX10_watchNow_32 ?_
    refine lv_icmp_ge (tgt := 86) hx hb dX10_watchNow_33 (by decide) (fun c4 => ?_) (fun c4 => ?_)
    · have hwp := hwp.1 c4
      refine lv_iconst (v := (0 : Int32)) hx hb dX10_watchNow_86 (by decide) ?_
      refine lv_istore_n (lv' := [(1, .int (0 : Int32)), (0, .ref (wad (wdM E) 0))]) hx hb dX10_watchNow_87 rfl lv (by decide) rfl (fun ls lv => ?_)
      refine lv_iconst (v := (-1 : Int32)) hx hb dX10_watchNow_88 (by decide) ?_
      refine lv_istore_n (lv' := [(2, .int (-1 : Int32)), (1, .int (0 : Int32)), (0, .ref (wad (wdM E) 0))]) hx hb dX10_watchNow_89 rfl lv (by decide) rfl (fun ls lv => ?_)
      refine lv_iconst (v := (0 : Int32)) hx hb dX10_watchNow_90 (by decide) ?_
      refine lv_istore_n (lv' := [(3, .int (0 : Int32)), (2, .int (-1 : Int32)), (1, .int (0 : Int32)), (0, .ref (wad (wdM E) 0))]) hx hb dX10_watchNow_91 rfl lv (by decide) rfl (fun ls lv => ?_)
      obtain ⟨n0, hwp⟩ := hwp
      exact t_X10_watchNow_92 E C hR Qp n0 h (0 : Int32) (-1 : Int32) (0 : Int32) _ _ _ Dy (lv_sub lv [3, 2, 1, 0] rfl) hwp
    · have hwp := hwp.2 c4
      refine lv_aload_n hx hb dX10_watchNow_36 rfl (lv_at lv 0 rfl) ?_
      refine lv_iload_n hx hb dX10_watchNow_37 rfl (lv_at lv 1 rfl) ?_
      refine x_cont_z Dy (x_runV (As := [.int v1]) (rest := []) C Dy (m_X10_isSeen E l _ _ v1 _ hwp) (cw_X10_218 C rfl rfl ⟨Nat.le_trans (Nat.le_of_ble_eq_true rfl) hR.1, Nat.le_trans (Nat.le_of_ble_eq_true rfl) hR.2⟩) wm_0 rfl rfl lv.1 rfl (Nat.le_of_ble_eq_true rfl) dX10_watchNow_38 ⟨Nat.zero_le _, Nat.zero_le _⟩) (fun r5 h6 hl6 H locs zr5 hwp Dy => ?_)
      obtain ⟨rfl, rfl, hwp⟩ := hwp
      refine lv_if_eq (tgt := 80) hx hb dX10_watchNow_41 (by decide) (fun c7 => ?_) (fun c7 => ?_)
      · have hwp := hwp.1 c7
        exact t_X10_watchNow_80 E C hR Qp (fun h v1 => b_X10_watchNow_24 n h v1 Qp) (fun h v1 H locs ls Dy lv hwp => ih h v1 H locs ls Dy lv hwp) h v1 _ _ _ Dy (lv_sub lv [0, 1] rfl) hwp
      · have hwp := hwp.2 c7
        refine lv_iconst (v := (0 : Int32)) hx hb dX10_watchNow_44 (by decide) ?_
        refine lv_istore_n (lv' := [(2, .int (0 : Int32)), (0, .ref (wad (wdM E) 0)), (1, .int v1)]) hx hb dX10_watchNow_45 rfl lv (by decide) rfl (fun ls lv => ?_)
        obtain ⟨n0, hwp⟩ := hwp
        exact t_X10_watchNow_46 E C hR Qp (fun h v1 => b_X10_watchNow_24 n h v1 Qp) (fun h v1 H locs ls Dy lv hwp => ih h v1 H locs ls Dy lv hwp) n0 h v1 (0 : Int32) _ _ _ Dy (lv_sub lv [1, 2, 0] rfl) hwp
set_option maxHeartbeats 4000000 in
set_option maxRecDepth 100000 in
theorem t_X10_watchNow_2 (E : xE) {p : Program} {l : Launch} {e : Env} {R : Room} {s : State} {m : MethodId} {args : Array Value} {below : List Frame} {meth : Method} {c : Code} (C : mC (wdM E) p s m meth c args cX10_watchNow 6 RX10 (some .int)) (hR : 4 ≤ R.frames ∧ 100 ≤ R.locals) {hl : MemL} (Qp : Int32 → Mem → Prop) : ∀ (n : Nat) (h : Mem) (v1 : Int32) (H : Heap) (locs : List Loc) (ls : Array Slot), mD (wdM E) h hl s H locs → lv_has ls 6 [(0, .ref (wad (wdM E) 0)), (1, .int v1)] → b_X10_watchNow_2 n h v1 Qp → W p l e R s m args below meth c H locs 0 0 (MQ below (mQi (wdM E) (fun r h1 hl1 => hl = hl1 ∧ Qp r h1)) args s 0 0 (wA (wdM E))) (F0 m 2 ls []) := by
  have hx := C.x
  have hb := C.b
  intro n
  induction n with
  | zero => intro h v1 H locs ls Dy lv hwp; exact hwp.elim
  | succ n ih =>
    intro h v1 H locs ls Dy lv hwp
    simp only [b_X10_watchNow_2] at hwp
    refine lv_iload_n hx hb dX10_watchNow_2 rfl (lv_at lv 1 rfl) ?_
    refine lv_sipush (v := (192 : Int32)) hx hb dX10_watchNow_3 (by decide) ?_
    refine lv_icmp_ge (tgt := 22) hx hb dX10_watchNow_6 (by decide) (fun c1 => ?_) (fun c1 => ?_)
    · have hwp := hwp.1 c1
      refine lv_iconst (v := (0 : Int32)) hx hb dX10_watchNow_22 (by decide) ?_
      refine lv_istore_n (lv' := [(1, .int (0 : Int32)), (0, .ref (wad (wdM E) 0))]) hx hb dX10_watchNow_23 rfl lv (by decide) rfl (fun ls lv => ?_)
      obtain ⟨n0, hwp⟩ := hwp
      exact t_X10_watchNow_24 E C hR Qp n0 h (0 : Int32) _ _ _ Dy (lv_sub lv [1, 0] rfl) hwp
    · have hwp := hwp.2 c1
      refine lv_aload_n hx hb dX10_watchNow_9 rfl (lv_at lv 0 rfl) ?_
      refine gf_X10_61_0 C Dy dX10_watchNow_10 ?_
      refine lv_iload_n hx hb dX10_watchNow_13 rfl (lv_at lv 1 rfl) ?_
      refine lv_iconst (v := (0 : Int32)) hx hb dX10_watchNow_14 (by decide) ?_
      obtain ⟨g2, hwp⟩ := hwp
      refine x_iast C Dy wma_18 g2 dX10_watchNow_15 (fun H locs Dy => ?_)
      refine lv_iinc (v := (v1 + (1 : Int32))) (lv' := [(1, .int (v1 + (1 : Int32))), (0, .ref (wad (wdM E) 0))]) hx hb dX10_watchNow_16 lv (k := 1) rfl rfl (by decide) rfl (fun ls lv => ?_)
      refine lv_goto (tgt := 2) hx hb dX10_watchNow_19 (by decide) ?_
      exact ih (up2 h 18 v1.toNatClampNeg (0 : Int32)) (v1 + (1 : Int32)) _ _ _ Dy (lv_sub lv [1, 0] rfl) hwp
set_option maxHeartbeats 4000000 in
set_option maxRecDepth 100000 in
theorem t_X10_watchNow_164 (E : xE) {p : Program} {l : Launch} {e : Env} {R : Room} {s : State} {m : MethodId} {args : Array Value} {below : List Frame} {meth : Method} {c : Code} (C : mC (wdM E) p s m meth c args cX10_watchNow 6 RX10 (some .int)) (hR : 4 ≤ R.frames ∧ 100 ≤ R.locals) {hl : MemL} (Qp : Int32 → Mem → Prop) (K92 : Mem → Int32 → Int32 → Int32 → Prop) (hK92 : ∀ (h : Mem) (v1 : Int32) (v2 : Int32) (v3 : Int32) (H : Heap) (locs : List Loc) (ls : Array Slot), mD (wdM E) h hl s H locs → lv_has ls 6 [(0, .ref (wad (wdM E) 0)), (1, .int v1), (2, .int v2), (3, .int v3)] → K92 h v1 v2 v3 → W p l e R s m args below meth c H locs 0 0 (MQ below (mQi (wdM E) (fun r h1 hl1 => hl = hl1 ∧ Qp r h1)) args s 0 0 (wA (wdM E))) (F0 m 92 ls [])) : ∀ (h : Mem) (v1 : Int32) (v2 : Int32) (v3 : Int32) (v4 : Int32) (H : Heap) (locs : List Loc) (ls : Array Slot), mD (wdM E) h hl s H locs → lv_has ls 6 [(0, .ref (wad (wdM E) 0)), (1, .int v1), (2, .int v2), (3, .int v3), (4, .int v4)] → b_X10_watchNow_164 h v1 v2 v3 v4 K92 Qp → W p l e R s m args below meth c H locs 0 0 (MQ below (mQi (wdM E) (fun r h1 hl1 => hl = hl1 ∧ Qp r h1)) args s 0 0 (wA (wdM E))) (F0 m 164 ls []) := by
  have hx := C.x
  have hb := C.b
  intro h v1 v2 v3 v4 H locs ls Dy lv hwp
  unfold b_X10_watchNow_164 at hwp
  refine lv_iconst (v := (1 : Int32)) hx hb dX10_watchNow_164 (by decide) ?_
  refine lv_goto (tgt := 169) hx hb dX10_watchNow_165 (by decide) ?_
  exact t_X10_watchNow_169 E C hR Qp K92 hK92 h v1 v2 v3 v4 (1 : Int32) _ _ _ Dy (lv_sub lv [0, 1, 2, 3, 4] rfl) hwp
set_option maxHeartbeats 4000000 in
set_option maxRecDepth 100000 in
theorem m_X10_watchNow (E : xE) (l : Launch) (h : Mem) (hl : MemL) (Qp : Int32 → Mem → Prop) (hwp : p_X10_watchNow h Qp) : Met l yX10_watchNow (wsU yX10_watchNow cX10_watchNow 6 (some .int)) ({ frames := 4, cells := 0, slots := 0, locals := 100 } : Room) (mPc (wdM E) [.ref (wad (wdM E) 0)] h hl) (mQi (wdM E) (fun r h1 hl1 => hl = hl1 ∧ Qp r h1)) 0 0 (wA (wdM E)) := by
  refine x_met RX10 [(0, .ref (wad (wdM E) 0))] (by decide) rfl (Nat.le_of_ble_eq_true rfl) rfl ?_
  intro p e s m args below meth c ls C Dy lv
  have hx := C.x
  have hb := C.b
  have hR : 4 ≤ ({ frames := 4, cells := 0, slots := 0, locals := 100 } : Room).frames ∧ 100 ≤ ({ frames := 4, cells := 0, slots := 0, locals := 100 } : Room).locals := ⟨Nat.le_refl _, Nat.le_refl _⟩
  unfold p_X10_watchNow at hwp
  refine lv_iconst (v := (0 : Int32)) hx hb dX10_watchNow_0 (by decide) ?_
  refine lv_istore_n (lv' := [(1, .int (0 : Int32)), (0, .ref (wad (wdM E) 0))]) hx hb dX10_watchNow_1 rfl lv (by decide) rfl (fun ls lv => ?_)
  obtain ⟨n0, hwp⟩ := hwp
  exact t_X10_watchNow_2 E C hR Qp n0 h (0 : Int32) _ _ _ Dy (lv_sub lv [1, 0] rfl) hwp
def p_X10_watch (h : Mem) (Qp : Int32 → Mem → Prop) : Prop := (p_X10_reads h (fun h2 => (p_X10_watchNow h2 (fun r3 h4 => Qp r3 h4))))
set_option maxHeartbeats 4000000 in
set_option maxRecDepth 100000 in
theorem m_X10_watch (E : xE) (l : Launch) (h : Mem) (hl : MemL) (Qp : Int32 → Mem → Prop) (hwp : p_X10_watch h Qp) : Met l yX10_watch (wsU yX10_watch cX10_watch 1 (some .int)) ({ frames := 6, cells := 0, slots := 0, locals := 136 } : Room) (mPc (wdM E) [.ref (wad (wdM E) 0)] h hl) (mQi (wdM E) (fun r h1 hl1 => hl = hl1 ∧ Qp r h1)) 0 0 (wA (wdM E)) := by
  refine x_met RX10 [(0, .ref (wad (wdM E) 0))] (by decide) rfl (Nat.le_of_ble_eq_true rfl) rfl ?_
  intro p e s m args below meth c ls C Dy lv
  have hx := C.x
  have hb := C.b
  have hR : 6 ≤ ({ frames := 6, cells := 0, slots := 0, locals := 136 } : Room).frames ∧ 136 ≤ ({ frames := 6, cells := 0, slots := 0, locals := 136 } : Room).locals := ⟨Nat.le_refl _, Nat.le_refl _⟩
  unfold p_X10_watch at hwp
  refine lv_aload_n hx hb dX10_watch_0 rfl (lv_at lv 0 rfl) ?_
  refine x_cont_v Dy (x_runV (As := []) (rest := []) C Dy (m_X10_reads E l _ _ _ hwp) (cw_X10_122 C rfl rfl ⟨Nat.le_trans (Nat.le_of_ble_eq_true rfl) hR.1, Nat.le_trans (Nat.le_of_ble_eq_true rfl) hR.2⟩) wm_0 rfl rfl lv.1 rfl (Nat.le_of_ble_eq_true rfl) dX10_watch_1 ⟨Nat.zero_le _, Nat.zero_le _⟩) (fun h2 hl2 H locs hwp Dy => ?_)
  obtain ⟨rfl, hwp⟩ := hwp
  refine lv_aload_n hx hb dX10_watch_4 rfl (lv_at lv 0 rfl) ?_
  refine x_cont_i Dy (x_runV (As := []) (rest := []) C Dy (m_X10_watchNow E l _ _ _ hwp) (cw_X10_224 C rfl rfl ⟨Nat.le_trans (Nat.le_of_ble_eq_true rfl) hR.1, Nat.le_trans (Nat.le_of_ble_eq_true rfl) hR.2⟩) wm_0 rfl rfl lv.1 rfl (Nat.le_of_ble_eq_true rfl) dX10_watch_5 ⟨Nat.zero_le _, Nat.zero_le _⟩) (fun r3 h4 hl4 H locs hwp Dy => ?_)
  obtain ⟨rfl, hwp⟩ := hwp
  exact x_iret C Dy ⟨rfl, hwp⟩ dX10_watch_8
def b_X10_goutOf_47 (h : Mem) (v1 : Int32) (v3 : Int32) (v4 : Int32) (v5 : Int32) (v6 : Int32) (v7 : Int64) (v11 : Int32) (w0 : Int64) (w1 : Int64) (K17 : Int32 → Int32 → Int32 → Int32 → Int32 → Int64 → Int64 → Int32 → Prop) (Qp : Int64 → Prop) : Prop := K17 v1 v3 v4 v5 v6 v7 (w1 * w0) (v11 + (1 : Int32))
def b_X10_goutOf_152 (h : Mem) (v1 : Int32) (v3 : Int32) (v4 : Int32) (v5 : Int32) (v6 : Int32) (v7 : Int64) (v9 : Int64) (v11 : Int32) (v14 : Int32) (w0 : Int64) (w1 : Int64) (K59 : Int32 → Int32 → Int32 → Int32 → Int32 → Int64 → Int64 → Int32 → Prop) (K105 : Int32 → Int32 → Int32 → Int32 → Int32 → Int64 → Int64 → Int32 → Int64 → Int32 → Prop) (Qp : Int64 → Prop) : Prop := K105 v1 v3 v4 v5 v6 v7 v9 v11 (w1 * w0) (v14 + (1 : Int32))
def b_X10_goutOf_168 (h : Mem) (v1 : Int32) (v3 : Int32) (v4 : Int32) (v5 : Int32) (v6 : Int32) (v7 : Int64) (v9 : Int64) (v11 : Int32) (K59 : Int32 → Int32 → Int32 → Int32 → Int32 → Int64 → Int64 → Int32 → Prop) (Qp : Int64 → Prop) : Prop := K59 v1 v3 v4 v5 v6 v7 v9 (v11 + (1 : Int32))
def b_X10_goutOf_105 : Nat → Mem → Int32 → Int32 → Int32 → Int32 → Int32 → Int64 → Int64 → Int32 → Int64 → Int32 → (Int32 → Int32 → Int32 → Int32 → Int32 → Int64 → Int64 → Int32 → Prop) → (Int64 → Prop) → Prop
  | 0 => fun _ _ _ _ _ _ _ _ _ _ _ _ _ => False
  | n + 1 => fun h v1 v3 v4 v5 v6 v7 v9 v11 v12 v14 K59 Qp => (vp_in (0 : Int32) 2 ∧ (((h 7 (0 : Int32).toNatClampNeg) ≤ v14 → b_X10_goutOf_168 h v1 v3 v4 v5 v6 (v7 + v12) v9 v11 K59 Qp) ∧ (¬ ((h 7 (0 : Int32).toNatClampNeg) ≤ v14) → (p_X10_isIn v6 v14 (fun r16 => ((r16 = 0 → b_X10_goutOf_152 h v1 v3 v4 v5 v6 v7 v9 v11 v14 (1 : Int64) v12 K59 (fun v1 v3 v4 v5 v6 v7 v9 v11 v12 v14 => b_X10_goutOf_105 n h v1 v3 v4 v5 v6 v7 v9 v11 v12 v14 K59 Qp) Qp) ∧ (¬ (r16 = 0) → (p_X10_isIn v11 v14 (fun r19 => b_X10_goutOf_152 h v1 v3 v4 v5 v6 v7 v9 v11 v14 (if r19 = 0 then (((16 : Int32) - v1).toInt64) else (v1.toInt64)) v12 K59 (fun v1 v3 v4 v5 v6 v7 v9 v11 v12 v14 => b_X10_goutOf_105 n h v1 v3 v4 v5 v6 v7 v9 v11 v12 v14 K59 Qp) Qp)))))))))
def b_X10_goutOf_59 : Nat → Mem → Int32 → Int32 → Int32 → Int32 → Int32 → Int64 → Int64 → Int32 → (Int64 → Prop) → Prop
  | 0 => fun _ _ _ _ _ _ _ _ _ _ => False
  | n + 1 => fun h v1 v3 v4 v5 v6 v7 v9 v11 Qp => (vp_in (0 : Int32) 2 ∧ ((((1 : Int32) <<< ((h 7 (0 : Int32).toNatClampNeg) &&& 31)) ≤ v11 → (p_X10_part v7 v9 v5 (fun r8 => Qp r8))) ∧ (¬ (((1 : Int32) <<< ((h 7 (0 : Int32).toNatClampNeg) &&& 31)) ≤ v11) → (((v11 &&& (v6 ^^^ (-1 : Int32))) = 0 → (p_X10_doesBy h (v6 &&& (v11 ^^^ (-1 : Int32))) v3 (fun r11 => ((r11 = v4 → (∃ n105, b_X10_goutOf_105 n105 h v1 v3 v4 v5 v6 v7 v9 v11 (1 : Int64) (0 : Int32) (fun v1 v3 v4 v5 v6 v7 v9 v11 => b_X10_goutOf_59 n h v1 v3 v4 v5 v6 v7 v9 v11 Qp) Qp)) ∧ (¬ (r11 = v4) → b_X10_goutOf_168 h v1 v3 v4 v5 v6 v7 v9 v11 (fun v1 v3 v4 v5 v6 v7 v9 v11 => b_X10_goutOf_59 n h v1 v3 v4 v5 v6 v7 v9 v11 Qp) Qp))))) ∧ (¬ ((v11 &&& (v6 ^^^ (-1 : Int32))) = 0) → b_X10_goutOf_168 h v1 v3 v4 v5 v6 v7 v9 v11 (fun v1 v3 v4 v5 v6 v7 v9 v11 => b_X10_goutOf_59 n h v1 v3 v4 v5 v6 v7 v9 v11 Qp) Qp)))))
def b_X10_goutOf_17 : Nat → Mem → Int32 → Int32 → Int32 → Int32 → Int32 → Int64 → Int64 → Int32 → (Int64 → Prop) → Prop
  | 0 => fun _ _ _ _ _ _ _ _ _ _ => False
  | n + 1 => fun h v1 v3 v4 v5 v6 v7 v9 v11 Qp => (vp_in (0 : Int32) 2 ∧ (((h 7 (0 : Int32).toNatClampNeg) ≤ v11 → (∃ n59, b_X10_goutOf_59 n59 h v1 v3 v4 v5 v6 v7 v9 (0 : Int32) Qp)) ∧ (¬ ((h 7 (0 : Int32).toNatClampNeg) ≤ v11) → (p_X10_isIn v6 v11 (fun r3 => b_X10_goutOf_47 h v1 v3 v4 v5 v6 v7 v11 (if r3 = 0 then (1 : Int64) else (16 : Int64)) v9 (fun v1 v3 v4 v5 v6 v7 v9 v11 => b_X10_goutOf_17 n h v1 v3 v4 v5 v6 v7 v9 v11 Qp) Qp)))))
def p_X10_goutOf (h : Mem) (v1 : Int32) (v2 : Int32) (v3 : Int32) (v4 : Int32) (v5 : Int32) (Qp : Int64 → Prop) : Prop := (p_X10_bindsOf h v2 (0 : Int32) (fun r22 => (∃ n17, b_X10_goutOf_17 n17 h v1 v3 v4 v5 r22 (0 : Int64) (1 : Int64) (0 : Int32) Qp)))
set_option maxHeartbeats 4000000 in
set_option maxRecDepth 100000 in
theorem t_X10_goutOf_47 (E : xE) {p : Program} {l : Launch} {e : Env} {R : Room} {s : State} {m : MethodId} {args : Array Value} {below : List Frame} {meth : Method} {c : Code} (C : mC (wdM E) p s m meth c args cX10_goutOf 15 RX10 (some .long)) (hR : 4 ≤ R.frames ∧ 96 ≤ R.locals) {h : Mem} {hl : MemL} (Qp : Int64 → Prop) (K17 : Int32 → Int32 → Int32 → Int32 → Int32 → Int64 → Int64 → Int32 → Prop) (hK17 : ∀ (v1 : Int32) (v3 : Int32) (v4 : Int32) (v5 : Int32) (v6 : Int32) (v7 : Int64) (v9 : Int64) (v11 : Int32) (H : Heap) (locs : List Loc) (ls : Array Slot), mD (wdM E) h hl s H locs → lv_has ls 15 [(0, .ref (wad (wdM E) 0)), (1, .int v1), (3, .int v3), (4, .int v4), (5, .int v5), (6, .int v6), (7, .long v7), (9, .long v9), (11, .int v11)] → K17 v1 v3 v4 v5 v6 v7 v9 v11 → W p l e R s m args below meth c H locs 0 0 (MQ below (mQl (wdM E) (fun r h1 hl1 => h = h1 ∧ hl = hl1 ∧ Qp r)) args s 0 0 (wA (wdM E))) (F0 m 17 ls [])) : ∀ (v1 : Int32) (v3 : Int32) (v4 : Int32) (v5 : Int32) (v6 : Int32) (v7 : Int64) (v11 : Int32) (w0 : Int64) (w1 : Int64) (H : Heap) (locs : List Loc) (ls : Array Slot), mD (wdM E) h hl s H locs → lv_has ls 15 [(0, .ref (wad (wdM E) 0)), (1, .int v1), (3, .int v3), (4, .int v4), (5, .int v5), (6, .int v6), (7, .long v7), (11, .int v11)] → b_X10_goutOf_47 h v1 v3 v4 v5 v6 v7 v11 w0 w1 K17 Qp → W p l e R s m args below meth c H locs 0 0 (MQ below (mQl (wdM E) (fun r h1 hl1 => h = h1 ∧ hl = hl1 ∧ Qp r)) args s 0 0 (wA (wdM E))) (F0 m 47 ls [.long w0, .long w1]) := by
  have hx := C.x
  have hb := C.b
  intro v1 v3 v4 v5 v6 v7 v11 w0 w1 H locs ls Dy lv hwp
  unfold b_X10_goutOf_47 at hwp
  refine lv_lmul hx hb dX10_goutOf_47 ?_
  refine lv_lstore (lv' := [(9, .long (w1 * w0)), (0, .ref (wad (wdM E) 0)), (1, .int v1), (3, .int v3), (4, .int v4), (5, .int v5), (6, .int v6), (7, .long v7), (11, .int v11)]) hx hb dX10_goutOf_48 lv (by decide) rfl (fun ls lv => ?_)
  refine lv_iinc (v := (v11 + (1 : Int32))) (lv' := [(11, .int (v11 + (1 : Int32))), (9, .long (w1 * w0)), (0, .ref (wad (wdM E) 0)), (1, .int v1), (3, .int v3), (4, .int v4), (5, .int v5), (6, .int v6), (7, .long v7)]) hx hb dX10_goutOf_50 lv (k := 8) rfl rfl (by decide) rfl (fun ls lv => ?_)
  refine lv_goto (tgt := 17) hx hb dX10_goutOf_53 (by decide) ?_
  exact hK17 v1 v3 v4 v5 v6 v7 (w1 * w0) (v11 + (1 : Int32)) _ _ _ Dy (lv_sub lv [2, 3, 4, 5, 6, 7, 8, 1, 0] rfl) hwp
set_option maxHeartbeats 4000000 in
set_option maxRecDepth 100000 in
theorem t_X10_goutOf_152 (E : xE) {p : Program} {l : Launch} {e : Env} {R : Room} {s : State} {m : MethodId} {args : Array Value} {below : List Frame} {meth : Method} {c : Code} (C : mC (wdM E) p s m meth c args cX10_goutOf 15 RX10 (some .long)) (hR : 4 ≤ R.frames ∧ 96 ≤ R.locals) {h : Mem} {hl : MemL} (Qp : Int64 → Prop) (K59 : Int32 → Int32 → Int32 → Int32 → Int32 → Int64 → Int64 → Int32 → Prop) (K105 : Int32 → Int32 → Int32 → Int32 → Int32 → Int64 → Int64 → Int32 → Int64 → Int32 → Prop) (hK59 : ∀ (v1 : Int32) (v3 : Int32) (v4 : Int32) (v5 : Int32) (v6 : Int32) (v7 : Int64) (v9 : Int64) (v11 : Int32) (H : Heap) (locs : List Loc) (ls : Array Slot), mD (wdM E) h hl s H locs → lv_has ls 15 [(0, .ref (wad (wdM E) 0)), (1, .int v1), (3, .int v3), (4, .int v4), (5, .int v5), (6, .int v6), (7, .long v7), (9, .long v9), (11, .int v11)] → K59 v1 v3 v4 v5 v6 v7 v9 v11 → W p l e R s m args below meth c H locs 0 0 (MQ below (mQl (wdM E) (fun r h1 hl1 => h = h1 ∧ hl = hl1 ∧ Qp r)) args s 0 0 (wA (wdM E))) (F0 m 59 ls [])) (hK105 : ∀ (v1 : Int32) (v3 : Int32) (v4 : Int32) (v5 : Int32) (v6 : Int32) (v7 : Int64) (v9 : Int64) (v11 : Int32) (v12 : Int64) (v14 : Int32) (H : Heap) (locs : List Loc) (ls : Array Slot), mD (wdM E) h hl s H locs → lv_has ls 15 [(0, .ref (wad (wdM E) 0)), (1, .int v1), (3, .int v3), (4, .int v4), (5, .int v5), (6, .int v6), (7, .long v7), (9, .long v9), (11, .int v11), (12, .long v12), (14, .int v14)] → K105 v1 v3 v4 v5 v6 v7 v9 v11 v12 v14 → W p l e R s m args below meth c H locs 0 0 (MQ below (mQl (wdM E) (fun r h1 hl1 => h = h1 ∧ hl = hl1 ∧ Qp r)) args s 0 0 (wA (wdM E))) (F0 m 105 ls [])) : ∀ (v1 : Int32) (v3 : Int32) (v4 : Int32) (v5 : Int32) (v6 : Int32) (v7 : Int64) (v9 : Int64) (v11 : Int32) (v14 : Int32) (w0 : Int64) (w1 : Int64) (H : Heap) (locs : List Loc) (ls : Array Slot), mD (wdM E) h hl s H locs → lv_has ls 15 [(0, .ref (wad (wdM E) 0)), (1, .int v1), (3, .int v3), (4, .int v4), (5, .int v5), (6, .int v6), (7, .long v7), (9, .long v9), (11, .int v11), (14, .int v14)] → b_X10_goutOf_152 h v1 v3 v4 v5 v6 v7 v9 v11 v14 w0 w1 K59 K105 Qp → W p l e R s m args below meth c H locs 0 0 (MQ below (mQl (wdM E) (fun r h1 hl1 => h = h1 ∧ hl = hl1 ∧ Qp r)) args s 0 0 (wA (wdM E))) (F0 m 152 ls [.long w0, .long w1]) := by
  have hx := C.x
  have hb := C.b
  intro v1 v3 v4 v5 v6 v7 v9 v11 v14 w0 w1 H locs ls Dy lv hwp
  unfold b_X10_goutOf_152 at hwp
  refine lv_lmul hx hb dX10_goutOf_152 ?_
  refine lv_lstore (lv' := [(12, .long (w1 * w0)), (0, .ref (wad (wdM E) 0)), (1, .int v1), (3, .int v3), (4, .int v4), (5, .int v5), (6, .int v6), (7, .long v7), (9, .long v9), (11, .int v11), (14, .int v14)]) hx hb dX10_goutOf_153 lv (by decide) rfl (fun ls lv => ?_)
  refine lv_iinc (v := (v14 + (1 : Int32))) (lv' := [(14, .int (v14 + (1 : Int32))), (12, .long (w1 * w0)), (0, .ref (wad (wdM E) 0)), (1, .int v1), (3, .int v3), (4, .int v4), (5, .int v5), (6, .int v6), (7, .long v7), (9, .long v9), (11, .int v11)]) hx hb dX10_goutOf_155 lv (k := 10) rfl rfl (by decide) rfl (fun ls lv => ?_)
  refine lv_goto (tgt := 105) hx hb dX10_goutOf_158 (by decide) ?_
  exact hK105 v1 v3 v4 v5 v6 v7 v9 v11 (w1 * w0) (v14 + (1 : Int32)) _ _ _ Dy (lv_sub lv [2, 3, 4, 5, 6, 7, 8, 9, 10, 1, 0] rfl) hwp
set_option maxHeartbeats 4000000 in
set_option maxRecDepth 100000 in
theorem t_X10_goutOf_168 (E : xE) {p : Program} {l : Launch} {e : Env} {R : Room} {s : State} {m : MethodId} {args : Array Value} {below : List Frame} {meth : Method} {c : Code} (C : mC (wdM E) p s m meth c args cX10_goutOf 15 RX10 (some .long)) (hR : 4 ≤ R.frames ∧ 96 ≤ R.locals) {h : Mem} {hl : MemL} (Qp : Int64 → Prop) (K59 : Int32 → Int32 → Int32 → Int32 → Int32 → Int64 → Int64 → Int32 → Prop) (hK59 : ∀ (v1 : Int32) (v3 : Int32) (v4 : Int32) (v5 : Int32) (v6 : Int32) (v7 : Int64) (v9 : Int64) (v11 : Int32) (H : Heap) (locs : List Loc) (ls : Array Slot), mD (wdM E) h hl s H locs → lv_has ls 15 [(0, .ref (wad (wdM E) 0)), (1, .int v1), (3, .int v3), (4, .int v4), (5, .int v5), (6, .int v6), (7, .long v7), (9, .long v9), (11, .int v11)] → K59 v1 v3 v4 v5 v6 v7 v9 v11 → W p l e R s m args below meth c H locs 0 0 (MQ below (mQl (wdM E) (fun r h1 hl1 => h = h1 ∧ hl = hl1 ∧ Qp r)) args s 0 0 (wA (wdM E))) (F0 m 59 ls [])) : ∀ (v1 : Int32) (v3 : Int32) (v4 : Int32) (v5 : Int32) (v6 : Int32) (v7 : Int64) (v9 : Int64) (v11 : Int32) (H : Heap) (locs : List Loc) (ls : Array Slot), mD (wdM E) h hl s H locs → lv_has ls 15 [(0, .ref (wad (wdM E) 0)), (1, .int v1), (3, .int v3), (4, .int v4), (5, .int v5), (6, .int v6), (7, .long v7), (9, .long v9), (11, .int v11)] → b_X10_goutOf_168 h v1 v3 v4 v5 v6 v7 v9 v11 K59 Qp → W p l e R s m args below meth c H locs 0 0 (MQ below (mQl (wdM E) (fun r h1 hl1 => h = h1 ∧ hl = hl1 ∧ Qp r)) args s 0 0 (wA (wdM E))) (F0 m 168 ls []) := by
  have hx := C.x
  have hb := C.b
  intro v1 v3 v4 v5 v6 v7 v9 v11 H locs ls Dy lv hwp
  unfold b_X10_goutOf_168 at hwp
  refine lv_iinc (v := (v11 + (1 : Int32))) (lv' := [(11, .int (v11 + (1 : Int32))), (0, .ref (wad (wdM E) 0)), (1, .int v1), (3, .int v3), (4, .int v4), (5, .int v5), (6, .int v6), (7, .long v7), (9, .long v9)]) hx hb dX10_goutOf_168 lv (k := 8) rfl rfl (by decide) rfl (fun ls lv => ?_)
  refine lv_goto (tgt := 59) hx hb dX10_goutOf_171 (by decide) ?_
  exact hK59 v1 v3 v4 v5 v6 v7 v9 (v11 + (1 : Int32)) _ _ _ Dy (lv_sub lv [1, 2, 3, 4, 5, 6, 7, 8, 0] rfl) hwp
set_option maxHeartbeats 4000000 in
set_option maxRecDepth 100000 in
theorem t_X10_goutOf_105 (E : xE) {p : Program} {l : Launch} {e : Env} {R : Room} {s : State} {m : MethodId} {args : Array Value} {below : List Frame} {meth : Method} {c : Code} (C : mC (wdM E) p s m meth c args cX10_goutOf 15 RX10 (some .long)) (hR : 4 ≤ R.frames ∧ 96 ≤ R.locals) {h : Mem} {hl : MemL} (Qp : Int64 → Prop) (K59 : Int32 → Int32 → Int32 → Int32 → Int32 → Int64 → Int64 → Int32 → Prop) (hK59 : ∀ (v1 : Int32) (v3 : Int32) (v4 : Int32) (v5 : Int32) (v6 : Int32) (v7 : Int64) (v9 : Int64) (v11 : Int32) (H : Heap) (locs : List Loc) (ls : Array Slot), mD (wdM E) h hl s H locs → lv_has ls 15 [(0, .ref (wad (wdM E) 0)), (1, .int v1), (3, .int v3), (4, .int v4), (5, .int v5), (6, .int v6), (7, .long v7), (9, .long v9), (11, .int v11)] → K59 v1 v3 v4 v5 v6 v7 v9 v11 → W p l e R s m args below meth c H locs 0 0 (MQ below (mQl (wdM E) (fun r h1 hl1 => h = h1 ∧ hl = hl1 ∧ Qp r)) args s 0 0 (wA (wdM E))) (F0 m 59 ls [])) : ∀ (n : Nat) (v1 : Int32) (v3 : Int32) (v4 : Int32) (v5 : Int32) (v6 : Int32) (v7 : Int64) (v9 : Int64) (v11 : Int32) (v12 : Int64) (v14 : Int32) (H : Heap) (locs : List Loc) (ls : Array Slot), mD (wdM E) h hl s H locs → lv_has ls 15 [(0, .ref (wad (wdM E) 0)), (1, .int v1), (3, .int v3), (4, .int v4), (5, .int v5), (6, .int v6), (7, .long v7), (9, .long v9), (11, .int v11), (12, .long v12), (14, .int v14)] → b_X10_goutOf_105 n h v1 v3 v4 v5 v6 v7 v9 v11 v12 v14 K59 Qp → W p l e R s m args below meth c H locs 0 0 (MQ below (mQl (wdM E) (fun r h1 hl1 => h = h1 ∧ hl = hl1 ∧ Qp r)) args s 0 0 (wA (wdM E))) (F0 m 105 ls []) := by
  have hx := C.x
  have hb := C.b
  intro n
  induction n with
  | zero => intro v1 v3 v4 v5 v6 v7 v9 v11 v12 v14 H locs ls Dy lv hwp; exact hwp.elim
  | succ n ih =>
    intro v1 v3 v4 v5 v6 v7 v9 v11 v12 v14 H locs ls Dy lv hwp
    simp only [b_X10_goutOf_105] at hwp
    refine lv_iload hx hb dX10_goutOf_105 (lv_at lv 10 rfl) ?_
    refine lv_aload_n hx hb dX10_goutOf_107 rfl (lv_at lv 0 rfl) ?_
    refine gf_X10_28_0 C Dy dX10_goutOf_108 ?_
    refine lv_iconst (v := (0 : Int32)) hx hb dX10_goutOf_111 (by decide) ?_
    obtain ⟨g14, hwp⟩ := hwp
    refine x_iald C Dy wma_7 g14 dX10_goutOf_112 ?_
    refine lv_icmp_ge (tgt := 161) hx hb dX10_goutOf_113 (by decide) (fun c15 => ?_) (fun c15 => ?_)
    · have hwp := hwp.1 c15
      refine lv_lload hx hb dX10_goutOf_161 (lv_at lv 6 rfl) ?_
      refine lv_lload hx hb dX10_goutOf_163 (lv_at lv 9 rfl) ?_
      refine lv_ladd hx hb dX10_goutOf_165 ?_
      refine lv_lstore (lv' := [(7, .long (v7 + v12)), (0, .ref (wad (wdM E) 0)), (1, .int v1), (3, .int v3), (4, .int v4), (5, .int v5), (6, .int v6), (9, .long v9), (11, .int v11), (12, .long v12), (14, .int v14)]) hx hb dX10_goutOf_166 lv (by decide) rfl (fun ls lv => ?_)
      exact t_X10_goutOf_168 E C hR Qp K59 hK59 v1 v3 v4 v5 v6 (v7 + v12) v9 v11 _ _ _ Dy (lv_sub lv [1, 2, 3, 4, 5, 6, 0, 7, 8] rfl) hwp
    · have hwp := hwp.2 c15
      refine lv_lload hx hb dX10_goutOf_116 (lv_at lv 9 rfl) ?_
      refine lv_iload hx hb dX10_goutOf_118 (lv_at lv 5 rfl) ?_
      refine lv_iload hx hb dX10_goutOf_120 (lv_at lv 10 rfl) ?_
      refine x_cont_z Dy (x_runS (As := [.int v6, .int v14]) (rest := [.long v12]) C Dy (m_X10_isIn E l _ _ v6 v14 _ hwp) (cw_X10_158 C rfl rfl ⟨Nat.le_trans (Nat.le_of_ble_eq_true rfl) hR.1, Nat.le_trans (Nat.le_of_ble_eq_true rfl) hR.2⟩) rfl lv.1 rfl (Nat.le_of_ble_eq_true rfl) dX10_goutOf_122 ⟨Nat.zero_le _, Nat.zero_le _⟩) (fun r16 h17 hl17 H locs zr16 hwp Dy => ?_)
      obtain ⟨rfl, rfl, hwp⟩ := hwp
      refine lv_if_ne (tgt := 132) hx hb dX10_goutOf_125 (by decide) (fun c18 => ?_) (fun c18 => ?_)
      · have hwp := hwp.2 c18
        refine lv_iload hx hb dX10_goutOf_132 (lv_at lv 8 rfl) ?_
        refine lv_iload hx hb dX10_goutOf_134 (lv_at lv 10 rfl) ?_
        refine x_cont_z Dy (x_runS (As := [.int v11, .int v14]) (rest := [.long v12]) C Dy (m_X10_isIn E l _ _ v11 v14 _ hwp) (cw_X10_158 C rfl rfl ⟨Nat.le_trans (Nat.le_of_ble_eq_true rfl) hR.1, Nat.le_trans (Nat.le_of_ble_eq_true rfl) hR.2⟩) rfl lv.1 rfl (Nat.le_of_ble_eq_true rfl) dX10_goutOf_136 ⟨Nat.zero_le _, Nat.zero_le _⟩) (fun r19 h20 hl20 H locs zr19 hwp Dy => ?_)
        obtain ⟨rfl, rfl, hwp⟩ := hwp
        refine lv_if_eq (tgt := 147) hx hb dX10_goutOf_139 (by decide) (fun c21 => ?_) (fun c21 => ?_)
        · try simp only [if_pos c21] at hwp
          refine lv_bipush (v := (16 : Int32)) hx hb dX10_goutOf_147 (by decide) ?_
          refine lv_iload_n hx hb dX10_goutOf_149 rfl (lv_at lv 1 rfl) ?_
          refine lv_isub hx hb dX10_goutOf_150 ?_
          refine lv_i2l hx hb dX10_goutOf_151 rfl ?_
          exact t_X10_goutOf_152 E C hR Qp K59 (fun v1 v3 v4 v5 v6 v7 v9 v11 v12 v14 => b_X10_goutOf_105 n h v1 v3 v4 v5 v6 v7 v9 v11 v12 v14 K59 Qp) hK59 (fun v1 v3 v4 v5 v6 v7 v9 v11 v12 v14 H locs ls Dy lv hwp => ih v1 v3 v4 v5 v6 v7 v9 v11 v12 v14 H locs ls Dy lv hwp) v1 v3 v4 v5 v6 v7 v9 v11 v14 (((16 : Int32) - v1).toInt64) v12 _ _ _ Dy (lv_sub lv [0, 1, 2, 3, 4, 5, 6, 7, 8, 10] rfl) hwp
        · try simp only [if_neg c21] at hwp
          refine lv_iload_n hx hb dX10_goutOf_142 rfl (lv_at lv 1 rfl) ?_
          refine lv_i2l hx hb dX10_goutOf_143 rfl ?_
          refine lv_goto (tgt := 152) hx hb dX10_goutOf_144 (by decide) ?_
          exact t_X10_goutOf_152 E C hR Qp K59 (fun v1 v3 v4 v5 v6 v7 v9 v11 v12 v14 => b_X10_goutOf_105 n h v1 v3 v4 v5 v6 v7 v9 v11 v12 v14 K59 Qp) hK59 (fun v1 v3 v4 v5 v6 v7 v9 v11 v12 v14 H locs ls Dy lv hwp => ih v1 v3 v4 v5 v6 v7 v9 v11 v12 v14 H locs ls Dy lv hwp) v1 v3 v4 v5 v6 v7 v9 v11 v14 (v1.toInt64) v12 _ _ _ Dy (lv_sub lv [0, 1, 2, 3, 4, 5, 6, 7, 8, 10] rfl) hwp
      · have hwp := hwp.1 c18
        refine lv_lconst (v := (1 : Int64)) hx hb dX10_goutOf_128 (by decide) ?_
        refine lv_goto (tgt := 152) hx hb dX10_goutOf_129 (by decide) ?_
        exact t_X10_goutOf_152 E C hR Qp K59 (fun v1 v3 v4 v5 v6 v7 v9 v11 v12 v14 => b_X10_goutOf_105 n h v1 v3 v4 v5 v6 v7 v9 v11 v12 v14 K59 Qp) hK59 (fun v1 v3 v4 v5 v6 v7 v9 v11 v12 v14 H locs ls Dy lv hwp => ih v1 v3 v4 v5 v6 v7 v9 v11 v12 v14 H locs ls Dy lv hwp) v1 v3 v4 v5 v6 v7 v9 v11 v14 (1 : Int64) v12 _ _ _ Dy (lv_sub lv [0, 1, 2, 3, 4, 5, 6, 7, 8, 10] rfl) hwp
set_option maxHeartbeats 4000000 in
set_option maxRecDepth 100000 in
theorem t_X10_goutOf_59 (E : xE) {p : Program} {l : Launch} {e : Env} {R : Room} {s : State} {m : MethodId} {args : Array Value} {below : List Frame} {meth : Method} {c : Code} (C : mC (wdM E) p s m meth c args cX10_goutOf 15 RX10 (some .long)) (hR : 4 ≤ R.frames ∧ 96 ≤ R.locals) {h : Mem} {hl : MemL} (Qp : Int64 → Prop) : ∀ (n : Nat) (v1 : Int32) (v3 : Int32) (v4 : Int32) (v5 : Int32) (v6 : Int32) (v7 : Int64) (v9 : Int64) (v11 : Int32) (H : Heap) (locs : List Loc) (ls : Array Slot), mD (wdM E) h hl s H locs → lv_has ls 15 [(0, .ref (wad (wdM E) 0)), (1, .int v1), (3, .int v3), (4, .int v4), (5, .int v5), (6, .int v6), (7, .long v7), (9, .long v9), (11, .int v11)] → b_X10_goutOf_59 n h v1 v3 v4 v5 v6 v7 v9 v11 Qp → W p l e R s m args below meth c H locs 0 0 (MQ below (mQl (wdM E) (fun r h1 hl1 => h = h1 ∧ hl = hl1 ∧ Qp r)) args s 0 0 (wA (wdM E))) (F0 m 59 ls []) := by
  have hx := C.x
  have hb := C.b
  intro n
  induction n with
  | zero => intro v1 v3 v4 v5 v6 v7 v9 v11 H locs ls Dy lv hwp; exact hwp.elim
  | succ n ih =>
    intro v1 v3 v4 v5 v6 v7 v9 v11 H locs ls Dy lv hwp
    simp only [b_X10_goutOf_59] at hwp
    refine lv_iload hx hb dX10_goutOf_59 (lv_at lv 8 rfl) ?_
    refine lv_iconst (v := (1 : Int32)) hx hb dX10_goutOf_61 (by decide) ?_
    refine lv_aload_n hx hb dX10_goutOf_62 rfl (lv_at lv 0 rfl) ?_
    refine gf_X10_28_0 C Dy dX10_goutOf_63 ?_
    refine lv_iconst (v := (0 : Int32)) hx hb dX10_goutOf_66 (by decide) ?_
    obtain ⟨g6, hwp⟩ := hwp
    refine x_iald C Dy wma_7 g6 dX10_goutOf_67 ?_
    refine lv_ishl hx hb dX10_goutOf_68 ?_
    refine lv_icmp_ge (tgt := 174) hx hb dX10_goutOf_69 (by decide) (fun c7 => ?_) (fun c7 => ?_)
    · have hwp := hwp.1 c7
      refine lv_lload hx hb dX10_goutOf_174 (lv_at lv 6 rfl) ?_
      refine lv_lload hx hb dX10_goutOf_176 (lv_at lv 7 rfl) ?_
      refine lv_iload hx hb dX10_goutOf_178 (lv_at lv 4 rfl) ?_
      refine x_cont_l Dy (x_runS (As := [.long v7, .long v9, .int v5]) (rest := []) C Dy (m_X10_part E l _ _ v7 v9 v5 _ hwp) (cw_X10_230 C rfl rfl ⟨Nat.le_trans (Nat.le_of_ble_eq_true rfl) hR.1, Nat.le_trans (Nat.le_of_ble_eq_true rfl) hR.2⟩) rfl lv.1 rfl (Nat.le_of_ble_eq_true rfl) dX10_goutOf_180 ⟨Nat.zero_le _, Nat.zero_le _⟩) (fun r8 h9 hl9 H locs hwp Dy => ?_)
      obtain ⟨rfl, rfl, hwp⟩ := hwp
      exact x_lret C Dy ⟨rfl, rfl, hwp⟩ dX10_goutOf_183
    · have hwp := hwp.2 c7
      refine lv_iload hx hb dX10_goutOf_72 (lv_at lv 8 rfl) ?_
      refine lv_iload hx hb dX10_goutOf_74 (lv_at lv 5 rfl) ?_
      refine lv_iconst (v := (-1 : Int32)) hx hb dX10_goutOf_76 (by decide) ?_
      refine lv_ixor hx hb dX10_goutOf_77 ?_
      refine lv_iand hx hb dX10_goutOf_78 ?_
      refine lv_if_ne (tgt := 168) hx hb dX10_goutOf_79 (by decide) (fun c10 => ?_) (fun c10 => ?_)
      · have hwp := hwp.2 c10
        exact t_X10_goutOf_168 E C hR Qp (fun v1 v3 v4 v5 v6 v7 v9 v11 => b_X10_goutOf_59 n h v1 v3 v4 v5 v6 v7 v9 v11 Qp) (fun v1 v3 v4 v5 v6 v7 v9 v11 H locs ls Dy lv hwp => ih v1 v3 v4 v5 v6 v7 v9 v11 H locs ls Dy lv hwp) v1 v3 v4 v5 v6 v7 v9 v11 _ _ _ Dy (lv_sub lv [0, 1, 2, 3, 4, 5, 6, 7, 8] rfl) hwp
      · have hwp := hwp.1 c10
        refine lv_aload_n hx hb dX10_goutOf_82 rfl (lv_at lv 0 rfl) ?_
        refine lv_iload hx hb dX10_goutOf_83 (lv_at lv 5 rfl) ?_
        refine lv_iload hx hb dX10_goutOf_85 (lv_at lv 8 rfl) ?_
        refine lv_iconst (v := (-1 : Int32)) hx hb dX10_goutOf_87 (by decide) ?_
        refine lv_ixor hx hb dX10_goutOf_88 ?_
        refine lv_iand hx hb dX10_goutOf_89 ?_
        refine lv_iload_n hx hb dX10_goutOf_90 rfl (lv_at lv 2 rfl) ?_
        refine x_cont_i Dy (x_runV (As := [.int (v6 &&& (v11 ^^^ (-1 : Int32))), .int v3]) (rest := []) C Dy (m_X10_doesBy E l _ _ (v6 &&& (v11 ^^^ (-1 : Int32))) v3 _ hwp) (cw_X10_174 C rfl rfl ⟨Nat.le_trans (Nat.le_of_ble_eq_true rfl) hR.1, Nat.le_trans (Nat.le_of_ble_eq_true rfl) hR.2⟩) wm_0 rfl rfl lv.1 rfl (Nat.le_of_ble_eq_true rfl) dX10_goutOf_91 ⟨Nat.zero_le _, Nat.zero_le _⟩) (fun r11 h12 hl12 H locs hwp Dy => ?_)
        obtain ⟨rfl, rfl, hwp⟩ := hwp
        refine lv_iload hx hb dX10_goutOf_94 (lv_at lv 3 rfl) ?_
        refine lv_icmp_ne (tgt := 168) hx hb dX10_goutOf_96 (by decide) (fun c13 => ?_) (fun c13 => ?_)
        · have hwp := hwp.2 c13
          exact t_X10_goutOf_168 E C hR Qp (fun v1 v3 v4 v5 v6 v7 v9 v11 => b_X10_goutOf_59 n h v1 v3 v4 v5 v6 v7 v9 v11 Qp) (fun v1 v3 v4 v5 v6 v7 v9 v11 H locs ls Dy lv hwp => ih v1 v3 v4 v5 v6 v7 v9 v11 H locs ls Dy lv hwp) v1 v3 v4 v5 v6 v7 v9 v11 _ _ _ Dy (lv_sub lv [0, 1, 2, 3, 4, 5, 6, 7, 8] rfl) hwp
        · have hwp := hwp.1 c13
          refine lv_lconst (v := (1 : Int64)) hx hb dX10_goutOf_99 (by decide) ?_
          refine lv_lstore (lv' := [(12, .long (1 : Int64)), (0, .ref (wad (wdM E) 0)), (1, .int v1), (3, .int v3), (4, .int v4), (5, .int v5), (6, .int v6), (7, .long v7), (9, .long v9), (11, .int v11)]) hx hb dX10_goutOf_100 lv (by decide) rfl (fun ls lv => ?_)
          refine lv_iconst (v := (0 : Int32)) hx hb dX10_goutOf_102 (by decide) ?_
          refine lv_istore (lv' := [(14, .int (0 : Int32)), (12, .long (1 : Int64)), (0, .ref (wad (wdM E) 0)), (1, .int v1), (3, .int v3), (4, .int v4), (5, .int v5), (6, .int v6), (7, .long v7), (9, .long v9), (11, .int v11)]) hx hb dX10_goutOf_103 lv (by decide) rfl (fun ls lv => ?_)
          obtain ⟨n0, hwp⟩ := hwp
          exact t_X10_goutOf_105 E C hR Qp (fun v1 v3 v4 v5 v6 v7 v9 v11 => b_X10_goutOf_59 n h v1 v3 v4 v5 v6 v7 v9 v11 Qp) (fun v1 v3 v4 v5 v6 v7 v9 v11 H locs ls Dy lv hwp => ih v1 v3 v4 v5 v6 v7 v9 v11 H locs ls Dy lv hwp) n0 v1 v3 v4 v5 v6 v7 v9 v11 (1 : Int64) (0 : Int32) _ _ _ Dy (lv_sub lv [2, 3, 4, 5, 6, 7, 8, 9, 10, 1, 0] rfl) hwp
set_option maxHeartbeats 4000000 in
set_option maxRecDepth 100000 in
theorem t_X10_goutOf_17 (E : xE) {p : Program} {l : Launch} {e : Env} {R : Room} {s : State} {m : MethodId} {args : Array Value} {below : List Frame} {meth : Method} {c : Code} (C : mC (wdM E) p s m meth c args cX10_goutOf 15 RX10 (some .long)) (hR : 4 ≤ R.frames ∧ 96 ≤ R.locals) {h : Mem} {hl : MemL} (Qp : Int64 → Prop) : ∀ (n : Nat) (v1 : Int32) (v3 : Int32) (v4 : Int32) (v5 : Int32) (v6 : Int32) (v7 : Int64) (v9 : Int64) (v11 : Int32) (H : Heap) (locs : List Loc) (ls : Array Slot), mD (wdM E) h hl s H locs → lv_has ls 15 [(0, .ref (wad (wdM E) 0)), (1, .int v1), (3, .int v3), (4, .int v4), (5, .int v5), (6, .int v6), (7, .long v7), (9, .long v9), (11, .int v11)] → b_X10_goutOf_17 n h v1 v3 v4 v5 v6 v7 v9 v11 Qp → W p l e R s m args below meth c H locs 0 0 (MQ below (mQl (wdM E) (fun r h1 hl1 => h = h1 ∧ hl = hl1 ∧ Qp r)) args s 0 0 (wA (wdM E))) (F0 m 17 ls []) := by
  have hx := C.x
  have hb := C.b
  intro n
  induction n with
  | zero => intro v1 v3 v4 v5 v6 v7 v9 v11 H locs ls Dy lv hwp; exact hwp.elim
  | succ n ih =>
    intro v1 v3 v4 v5 v6 v7 v9 v11 H locs ls Dy lv hwp
    simp only [b_X10_goutOf_17] at hwp
    refine lv_iload hx hb dX10_goutOf_17 (lv_at lv 8 rfl) ?_
    refine lv_aload_n hx hb dX10_goutOf_19 rfl (lv_at lv 0 rfl) ?_
    refine gf_X10_28_0 C Dy dX10_goutOf_20 ?_
    refine lv_iconst (v := (0 : Int32)) hx hb dX10_goutOf_23 (by decide) ?_
    obtain ⟨g1, hwp⟩ := hwp
    refine x_iald C Dy wma_7 g1 dX10_goutOf_24 ?_
    refine lv_icmp_ge (tgt := 56) hx hb dX10_goutOf_25 (by decide) (fun c2 => ?_) (fun c2 => ?_)
    · have hwp := hwp.1 c2
      refine lv_iconst (v := (0 : Int32)) hx hb dX10_goutOf_56 (by decide) ?_
      refine lv_istore (lv' := [(11, .int (0 : Int32)), (0, .ref (wad (wdM E) 0)), (1, .int v1), (3, .int v3), (4, .int v4), (5, .int v5), (6, .int v6), (7, .long v7), (9, .long v9)]) hx hb dX10_goutOf_57 lv (by decide) rfl (fun ls lv => ?_)
      obtain ⟨n0, hwp⟩ := hwp
      exact t_X10_goutOf_59 E C hR Qp n0 v1 v3 v4 v5 v6 v7 v9 (0 : Int32) _ _ _ Dy (lv_sub lv [1, 2, 3, 4, 5, 6, 7, 8, 0] rfl) hwp
    · have hwp := hwp.2 c2
      refine lv_lload hx hb dX10_goutOf_28 (lv_at lv 7 rfl) ?_
      refine lv_iload hx hb dX10_goutOf_30 (lv_at lv 5 rfl) ?_
      refine lv_iload hx hb dX10_goutOf_32 (lv_at lv 8 rfl) ?_
      refine x_cont_z Dy (x_runS (As := [.int v6, .int v11]) (rest := [.long v9]) C Dy (m_X10_isIn E l _ _ v6 v11 _ hwp) (cw_X10_158 C rfl rfl ⟨Nat.le_trans (Nat.le_of_ble_eq_true rfl) hR.1, Nat.le_trans (Nat.le_of_ble_eq_true rfl) hR.2⟩) rfl lv.1 rfl (Nat.le_of_ble_eq_true rfl) dX10_goutOf_34 ⟨Nat.zero_le _, Nat.zero_le _⟩) (fun r3 h4 hl4 H locs zr3 hwp Dy => ?_)
      obtain ⟨rfl, rfl, hwp⟩ := hwp
      refine lv_if_eq (tgt := 46) hx hb dX10_goutOf_37 (by decide) (fun c5 => ?_) (fun c5 => ?_)
      · try simp only [if_pos c5] at hwp
        refine lv_lconst (v := (1 : Int64)) hx hb dX10_goutOf_46 (by decide) ?_
        exact t_X10_goutOf_47 E C hR Qp (fun v1 v3 v4 v5 v6 v7 v9 v11 => b_X10_goutOf_17 n h v1 v3 v4 v5 v6 v7 v9 v11 Qp) (fun v1 v3 v4 v5 v6 v7 v9 v11 H locs ls Dy lv hwp => ih v1 v3 v4 v5 v6 v7 v9 v11 H locs ls Dy lv hwp) v1 v3 v4 v5 v6 v7 v11 (1 : Int64) v9 _ _ _ Dy (lv_sub lv [0, 1, 2, 3, 4, 5, 6, 8] rfl) hwp
      · try simp only [if_neg c5] at hwp
        refine lv_ldc2 hx hb C.ow (C.ts _ k_1145) dX10_goutOf_40 ?_
        refine lv_goto (tgt := 47) hx hb dX10_goutOf_43 (by decide) ?_
        exact t_X10_goutOf_47 E C hR Qp (fun v1 v3 v4 v5 v6 v7 v9 v11 => b_X10_goutOf_17 n h v1 v3 v4 v5 v6 v7 v9 v11 Qp) (fun v1 v3 v4 v5 v6 v7 v9 v11 H locs ls Dy lv hwp => ih v1 v3 v4 v5 v6 v7 v9 v11 H locs ls Dy lv hwp) v1 v3 v4 v5 v6 v7 v11 (16 : Int64) v9 _ _ _ Dy (lv_sub lv [0, 1, 2, 3, 4, 5, 6, 8] rfl) hwp
set_option maxHeartbeats 4000000 in
set_option maxRecDepth 100000 in
theorem m_X10_goutOf (E : xE) (l : Launch) (h : Mem) (hl : MemL) (v1 : Int32) (v2 : Int32) (v3 : Int32) (v4 : Int32) (v5 : Int32) (Qp : Int64 → Prop) (hwp : p_X10_goutOf h v1 v2 v3 v4 v5 Qp) : Met l yX10_goutOf (wsU yX10_goutOf cX10_goutOf 15 (some .long)) ({ frames := 4, cells := 0, slots := 0, locals := 96 } : Room) (mPc (wdM E) [.ref (wad (wdM E) 0), .int v1, .int v2, .int v3, .int v4, .int v5] h hl) (mQl (wdM E) (fun r h1 hl1 => h = h1 ∧ hl = hl1 ∧ Qp r)) 0 0 (wA (wdM E)) := by
  refine x_met RX10 [(0, .ref (wad (wdM E) 0)), (1, .int v1), (2, .int v2), (3, .int v3), (4, .int v4), (5, .int v5)] (by decide) rfl (Nat.le_of_ble_eq_true rfl) rfl ?_
  intro p e s m args below meth c ls C Dy lv
  have hx := C.x
  have hb := C.b
  have hR : 4 ≤ ({ frames := 4, cells := 0, slots := 0, locals := 96 } : Room).frames ∧ 96 ≤ ({ frames := 4, cells := 0, slots := 0, locals := 96 } : Room).locals := ⟨Nat.le_refl _, Nat.le_refl _⟩
  unfold p_X10_goutOf at hwp
  refine lv_aload_n hx hb dX10_goutOf_0 rfl (lv_at lv 0 rfl) ?_
  refine lv_iload_n hx hb dX10_goutOf_1 rfl (lv_at lv 2 rfl) ?_
  refine lv_iconst (v := (0 : Int32)) hx hb dX10_goutOf_2 (by decide) ?_
  refine x_cont_i Dy (x_runV (As := [.int v2, .int (0 : Int32)]) (rest := []) C Dy (m_X10_bindsOf E l _ _ v2 (0 : Int32) _ hwp) (cw_X10_155 C rfl rfl ⟨Nat.le_trans (Nat.le_of_ble_eq_true rfl) hR.1, Nat.le_trans (Nat.le_of_ble_eq_true rfl) hR.2⟩) wm_0 rfl rfl lv.1 rfl (Nat.le_of_ble_eq_true rfl) dX10_goutOf_3 ⟨Nat.zero_le _, Nat.zero_le _⟩) (fun r22 h23 hl23 H locs hwp Dy => ?_)
  obtain ⟨rfl, rfl, hwp⟩ := hwp
  refine lv_istore (lv' := [(6, .int r22), (0, .ref (wad (wdM E) 0)), (1, .int v1), (2, .int v2), (3, .int v3), (4, .int v4), (5, .int v5)]) hx hb dX10_goutOf_6 lv (by decide) rfl (fun ls lv => ?_)
  refine lv_lconst (v := (0 : Int64)) hx hb dX10_goutOf_8 (by decide) ?_
  refine lv_lstore (lv' := [(7, .long (0 : Int64)), (6, .int r22), (0, .ref (wad (wdM E) 0)), (1, .int v1), (2, .int v2), (3, .int v3), (4, .int v4), (5, .int v5)]) hx hb dX10_goutOf_9 lv (by decide) rfl (fun ls lv => ?_)
  refine lv_lconst (v := (1 : Int64)) hx hb dX10_goutOf_11 (by decide) ?_
  refine lv_lstore (lv' := [(9, .long (1 : Int64)), (7, .long (0 : Int64)), (6, .int r22), (0, .ref (wad (wdM E) 0)), (1, .int v1), (2, .int v2), (3, .int v3), (4, .int v4), (5, .int v5)]) hx hb dX10_goutOf_12 lv (by decide) rfl (fun ls lv => ?_)
  refine lv_iconst (v := (0 : Int32)) hx hb dX10_goutOf_14 (by decide) ?_
  refine lv_istore (lv' := [(11, .int (0 : Int32)), (9, .long (1 : Int64)), (7, .long (0 : Int64)), (6, .int r22), (0, .ref (wad (wdM E) 0)), (1, .int v1), (2, .int v2), (3, .int v3), (4, .int v4), (5, .int v5)]) hx hb dX10_goutOf_15 lv (by decide) rfl (fun ls lv => ?_)
  obtain ⟨n0, hwp⟩ := hwp
  exact t_X10_goutOf_17 E C hR Qp n0 v1 v3 v4 v5 r22 (0 : Int64) (1 : Int64) (0 : Int32) _ _ _ Dy (lv_sub lv [4, 5, 7, 8, 9, 3, 2, 1, 0] rfl) hwp
def b_X10_gout_58 (h : Mem) (v1 : Int32) (v2 : Int32) (v3 : Int32) (v4 : Int32) (v5 : Int32) (w0 : Int32) (Qp : Int64 → Mem → Prop) : Prop := ((w0 = 0 → (p_X10_no (-2 : Int32) (fun r2 => Qp r2 h))) ∧ (¬ (w0 = 0) → (p_X10_goutOf h v1 v2 v3 v4 v5 (fun r4 => Qp r4 h))))
def b_X10_gout_57 (h : Mem) (v1 : Int32) (v2 : Int32) (v3 : Int32) (v4 : Int32) (v5 : Int32) (Qp : Int64 → Mem → Prop) : Prop := b_X10_gout_58 h v1 v2 v3 v4 v5 (0 : Int32) Qp
def p_X10_gout (h : Mem) (v1 : Int32) (v2 : Int32) (v3 : Int32) (v4 : Int32) (v5 : Int32) (Qp : Int64 → Mem → Prop) : Prop := (p_X10_find h (fun h7 => (p_X10_in (v1.toInt64) (0 : Int64) (16 : Int64) (fun r8 => ((r8 = 0 → b_X10_gout_57 h7 v1 v2 v3 v4 v5 Qp) ∧ (¬ (r8 = 0) → (p_X10_isYear v2 (fun r11 => ((r11 = 0 → b_X10_gout_57 h7 v1 v2 v3 v4 v5 Qp) ∧ (¬ (r11 = 0) → (p_X10_isHour v3 (fun r14 => ((r14 = 0 → b_X10_gout_57 h7 v1 v2 v3 v4 v5 Qp) ∧ (¬ (r14 = 0) → (p_X10_in (v4.toInt64) (-1 : Int64) (6 : Int64) (fun r17 => ((r17 = 0 → b_X10_gout_57 h7 v1 v2 v3 v4 v5 Qp) ∧ (¬ (r17 = 0) → (p_X10_isTwo v5 (fun r20 => ((r20 = 0 → b_X10_gout_57 h7 v1 v2 v3 v4 v5 Qp) ∧ (¬ (r20 = 0) → b_X10_gout_58 h7 v1 v2 v3 v4 v5 (1 : Int32) Qp))))))))))))))))))))))
set_option maxHeartbeats 4000000 in
set_option maxRecDepth 100000 in
theorem t_X10_gout_58 (E : xE) {p : Program} {l : Launch} {e : Env} {R : Room} {s : State} {m : MethodId} {args : Array Value} {below : List Frame} {meth : Method} {c : Code} (C : mC (wdM E) p s m meth c args cX10_gout 7 RX10 (some .long)) (hR : 7 ≤ R.frames ∧ 158 ≤ R.locals) {hl : MemL} (Qp : Int64 → Mem → Prop) : ∀ (h : Mem) (v1 : Int32) (v2 : Int32) (v3 : Int32) (v4 : Int32) (v5 : Int32) (w0 : Int32) (H : Heap) (locs : List Loc) (ls : Array Slot), mD (wdM E) h hl s H locs → lv_has ls 7 [(0, .ref (wad (wdM E) 0)), (1, .int v1), (2, .int v2), (3, .int v3), (4, .int v4), (5, .int v5)] → b_X10_gout_58 h v1 v2 v3 v4 v5 w0 Qp → W p l e R s m args below meth c H locs 0 0 (MQ below (mQl (wdM E) (fun r h1 hl1 => hl = hl1 ∧ Qp r h1)) args s 0 0 (wA (wdM E))) (F0 m 58 ls [.int w0]) := by
  have hx := C.x
  have hb := C.b
  intro h v1 v2 v3 v4 v5 w0 H locs ls Dy lv hwp
  unfold b_X10_gout_58 at hwp
  refine lv_istore (lv' := [(6, .int w0), (0, .ref (wad (wdM E) 0)), (1, .int v1), (2, .int v2), (3, .int v3), (4, .int v4), (5, .int v5)]) hx hb dX10_gout_58 lv (by decide) rfl (fun ls lv => ?_)
  refine lv_iload hx hb dX10_gout_60 (lv_at lv 0 rfl) ?_
  refine lv_if_eq (tgt := 79) hx hb dX10_gout_62 (by decide) (fun c1 => ?_) (fun c1 => ?_)
  · have hwp := hwp.1 c1
    refine lv_bipush (v := (-2 : Int32)) hx hb dX10_gout_79 (by decide) ?_
    refine x_cont_l Dy (x_runS (As := [.int (-2 : Int32)]) (rest := []) C Dy (m_X10_no E l _ _ (-2 : Int32) _ hwp) (cw_X10_240 C rfl rfl ⟨Nat.le_trans (Nat.le_of_ble_eq_true rfl) hR.1, Nat.le_trans (Nat.le_of_ble_eq_true rfl) hR.2⟩) rfl lv.1 rfl (Nat.le_of_ble_eq_true rfl) dX10_gout_81 ⟨Nat.zero_le _, Nat.zero_le _⟩) (fun r2 h3 hl3 H locs hwp Dy => ?_)
    obtain ⟨rfl, rfl, hwp⟩ := hwp
    exact x_lret C Dy ⟨rfl, hwp⟩ dX10_gout_84
  · have hwp := hwp.2 c1
    refine lv_aload_n hx hb dX10_gout_65 rfl (lv_at lv 1 rfl) ?_
    refine lv_iload_n hx hb dX10_gout_66 rfl (lv_at lv 2 rfl) ?_
    refine lv_iload_n hx hb dX10_gout_67 rfl (lv_at lv 3 rfl) ?_
    refine lv_iload_n hx hb dX10_gout_68 rfl (lv_at lv 4 rfl) ?_
    refine lv_iload hx hb dX10_gout_69 (lv_at lv 5 rfl) ?_
    refine lv_iload hx hb dX10_gout_71 (lv_at lv 6 rfl) ?_
    refine x_cont_l Dy (x_runV (As := [.int v1, .int v2, .int v3, .int v4, .int v5]) (rest := []) C Dy (m_X10_goutOf E l _ _ v1 v2 v3 v4 v5 _ hwp) (cw_X10_236 C rfl rfl ⟨Nat.le_trans (Nat.le_of_ble_eq_true rfl) hR.1, Nat.le_trans (Nat.le_of_ble_eq_true rfl) hR.2⟩) wm_0 rfl rfl lv.1 rfl (Nat.le_of_ble_eq_true rfl) dX10_gout_73 ⟨Nat.zero_le _, Nat.zero_le _⟩) (fun r4 h5 hl5 H locs hwp Dy => ?_)
    obtain ⟨rfl, rfl, hwp⟩ := hwp
    refine lv_goto (tgt := 84) hx hb dX10_gout_76 (by decide) ?_
    exact x_lret C Dy ⟨rfl, hwp⟩ dX10_gout_84
set_option maxHeartbeats 4000000 in
set_option maxRecDepth 100000 in
theorem t_X10_gout_57 (E : xE) {p : Program} {l : Launch} {e : Env} {R : Room} {s : State} {m : MethodId} {args : Array Value} {below : List Frame} {meth : Method} {c : Code} (C : mC (wdM E) p s m meth c args cX10_gout 7 RX10 (some .long)) (hR : 7 ≤ R.frames ∧ 158 ≤ R.locals) {hl : MemL} (Qp : Int64 → Mem → Prop) : ∀ (h : Mem) (v1 : Int32) (v2 : Int32) (v3 : Int32) (v4 : Int32) (v5 : Int32) (H : Heap) (locs : List Loc) (ls : Array Slot), mD (wdM E) h hl s H locs → lv_has ls 7 [(0, .ref (wad (wdM E) 0)), (1, .int v1), (2, .int v2), (3, .int v3), (4, .int v4), (5, .int v5)] → b_X10_gout_57 h v1 v2 v3 v4 v5 Qp → W p l e R s m args below meth c H locs 0 0 (MQ below (mQl (wdM E) (fun r h1 hl1 => hl = hl1 ∧ Qp r h1)) args s 0 0 (wA (wdM E))) (F0 m 57 ls []) := by
  have hx := C.x
  have hb := C.b
  intro h v1 v2 v3 v4 v5 H locs ls Dy lv hwp
  unfold b_X10_gout_57 at hwp
  refine lv_iconst (v := (0 : Int32)) hx hb dX10_gout_57 (by decide) ?_
  exact t_X10_gout_58 E C hR Qp h v1 v2 v3 v4 v5 (0 : Int32) _ _ _ Dy (lv_sub lv [0, 1, 2, 3, 4, 5] rfl) hwp
set_option maxHeartbeats 4000000 in
set_option maxRecDepth 100000 in
theorem m_X10_gout (E : xE) (l : Launch) (h : Mem) (hl : MemL) (v1 : Int32) (v2 : Int32) (v3 : Int32) (v4 : Int32) (v5 : Int32) (Qp : Int64 → Mem → Prop) (hwp : p_X10_gout h v1 v2 v3 v4 v5 Qp) : Met l yX10_gout (wsU yX10_gout cX10_gout 7 (some .long)) ({ frames := 7, cells := 0, slots := 0, locals := 158 } : Room) (mPc (wdM E) [.ref (wad (wdM E) 0), .int v1, .int v2, .int v3, .int v4, .int v5] h hl) (mQl (wdM E) (fun r h1 hl1 => hl = hl1 ∧ Qp r h1)) 0 0 (wA (wdM E)) := by
  refine x_met RX10 [(0, .ref (wad (wdM E) 0)), (1, .int v1), (2, .int v2), (3, .int v3), (4, .int v4), (5, .int v5)] (by decide) rfl (Nat.le_of_ble_eq_true rfl) rfl ?_
  intro p e s m args below meth c ls C Dy lv
  have hx := C.x
  have hb := C.b
  have hR : 7 ≤ ({ frames := 7, cells := 0, slots := 0, locals := 158 } : Room).frames ∧ 158 ≤ ({ frames := 7, cells := 0, slots := 0, locals := 158 } : Room).locals := ⟨Nat.le_refl _, Nat.le_refl _⟩
  unfold p_X10_gout at hwp
  refine lv_aload_n hx hb dX10_gout_0 rfl (lv_at lv 0 rfl) ?_
  refine x_cont_v Dy (x_runV (As := []) (rest := []) C Dy (m_X10_find E l _ _ _ hwp) (cw_X10_152 C rfl rfl ⟨Nat.le_trans (Nat.le_of_ble_eq_true rfl) hR.1, Nat.le_trans (Nat.le_of_ble_eq_true rfl) hR.2⟩) wm_0 rfl rfl lv.1 rfl (Nat.le_of_ble_eq_true rfl) dX10_gout_1 ⟨Nat.zero_le _, Nat.zero_le _⟩) (fun h7 hl7 H locs hwp Dy => ?_)
  obtain ⟨rfl, hwp⟩ := hwp
  refine lv_iload_n hx hb dX10_gout_4 rfl (lv_at lv 1 rfl) ?_
  refine lv_i2l hx hb dX10_gout_5 rfl ?_
  refine lv_lconst (v := (0 : Int64)) hx hb dX10_gout_6 (by decide) ?_
  refine lv_ldc2 hx hb C.ow (C.ts _ k_1145) dX10_gout_7 ?_
  refine x_cont_z Dy (x_runS (As := [.long (v1.toInt64), .long (0 : Int64), .long (16 : Int64)]) (rest := []) C Dy (m_X10_in E l _ _ (v1.toInt64) (0 : Int64) (16 : Int64) _ hwp) (cw_X10_66 C rfl rfl ⟨Nat.le_trans (Nat.le_of_ble_eq_true rfl) hR.1, Nat.le_trans (Nat.le_of_ble_eq_true rfl) hR.2⟩) rfl lv.1 rfl (Nat.le_of_ble_eq_true rfl) dX10_gout_10 ⟨Nat.zero_le _, Nat.zero_le _⟩) (fun r8 h9 hl9 H locs zr8 hwp Dy => ?_)
  obtain ⟨rfl, rfl, hwp⟩ := hwp
  refine lv_if_eq (tgt := 57) hx hb dX10_gout_13 (by decide) (fun c10 => ?_) (fun c10 => ?_)
  · have hwp := hwp.1 c10
    exact t_X10_gout_57 E C hR Qp h7 v1 v2 v3 v4 v5 _ _ _ Dy (lv_sub lv [0, 1, 2, 3, 4, 5] rfl) hwp
  · have hwp := hwp.2 c10
    refine lv_iload_n hx hb dX10_gout_16 rfl (lv_at lv 2 rfl) ?_
    refine x_cont_z Dy (x_runS (As := [.int v2]) (rest := []) C Dy (m_X10_isYear E l _ _ v2 _ hwp) (cw_X10_130 C rfl rfl ⟨Nat.le_trans (Nat.le_of_ble_eq_true rfl) hR.1, Nat.le_trans (Nat.le_of_ble_eq_true rfl) hR.2⟩) rfl lv.1 rfl (Nat.le_of_ble_eq_true rfl) dX10_gout_17 ⟨Nat.zero_le _, Nat.zero_le _⟩) (fun r11 h12 hl12 H locs zr11 hwp Dy => ?_)
    obtain ⟨rfl, rfl, hwp⟩ := hwp
    refine lv_if_eq (tgt := 57) hx hb dX10_gout_20 (by decide) (fun c13 => ?_) (fun c13 => ?_)
    · have hwp := hwp.1 c13
      exact t_X10_gout_57 E C hR Qp h7 v1 v2 v3 v4 v5 _ _ _ Dy (lv_sub lv [0, 1, 2, 3, 4, 5] rfl) hwp
    · have hwp := hwp.2 c13
      refine lv_iload_n hx hb dX10_gout_23 rfl (lv_at lv 3 rfl) ?_
      refine x_cont_z Dy (x_runS (As := [.int v3]) (rest := []) C Dy (m_X10_isHour E l _ _ v3 _ hwp) (cw_X10_171 C rfl rfl ⟨Nat.le_trans (Nat.le_of_ble_eq_true rfl) hR.1, Nat.le_trans (Nat.le_of_ble_eq_true rfl) hR.2⟩) rfl lv.1 rfl (Nat.le_of_ble_eq_true rfl) dX10_gout_24 ⟨Nat.zero_le _, Nat.zero_le _⟩) (fun r14 h15 hl15 H locs zr14 hwp Dy => ?_)
      obtain ⟨rfl, rfl, hwp⟩ := hwp
      refine lv_if_eq (tgt := 57) hx hb dX10_gout_27 (by decide) (fun c16 => ?_) (fun c16 => ?_)
      · have hwp := hwp.1 c16
        exact t_X10_gout_57 E C hR Qp h7 v1 v2 v3 v4 v5 _ _ _ Dy (lv_sub lv [0, 1, 2, 3, 4, 5] rfl) hwp
      · have hwp := hwp.2 c16
        refine lv_iload hx hb dX10_gout_30 (lv_at lv 4 rfl) ?_
        refine lv_i2l hx hb dX10_gout_32 rfl ?_
        refine lv_ldc2 hx hb C.ow (C.ts _ k_1080) dX10_gout_33 ?_
        refine lv_ldc2 hx hb C.ow (C.ts _ k_1146) dX10_gout_36 ?_
        refine x_cont_z Dy (x_runS (As := [.long (v4.toInt64), .long (-1 : Int64), .long (6 : Int64)]) (rest := []) C Dy (m_X10_in E l _ _ (v4.toInt64) (-1 : Int64) (6 : Int64) _ hwp) (cw_X10_66 C rfl rfl ⟨Nat.le_trans (Nat.le_of_ble_eq_true rfl) hR.1, Nat.le_trans (Nat.le_of_ble_eq_true rfl) hR.2⟩) rfl lv.1 rfl (Nat.le_of_ble_eq_true rfl) dX10_gout_39 ⟨Nat.zero_le _, Nat.zero_le _⟩) (fun r17 h18 hl18 H locs zr17 hwp Dy => ?_)
        obtain ⟨rfl, rfl, hwp⟩ := hwp
        refine lv_if_eq (tgt := 57) hx hb dX10_gout_42 (by decide) (fun c19 => ?_) (fun c19 => ?_)
        · have hwp := hwp.1 c19
          exact t_X10_gout_57 E C hR Qp h7 v1 v2 v3 v4 v5 _ _ _ Dy (lv_sub lv [0, 1, 2, 3, 4, 5] rfl) hwp
        · have hwp := hwp.2 c19
          refine lv_iload hx hb dX10_gout_45 (lv_at lv 5 rfl) ?_
          refine x_cont_z Dy (x_runS (As := [.int v5]) (rest := []) C Dy (m_X10_isTwo E l _ _ v5 _ hwp) (cw_X10_95 C rfl rfl ⟨Nat.le_trans (Nat.le_of_ble_eq_true rfl) hR.1, Nat.le_trans (Nat.le_of_ble_eq_true rfl) hR.2⟩) rfl lv.1 rfl (Nat.le_of_ble_eq_true rfl) dX10_gout_47 ⟨Nat.zero_le _, Nat.zero_le _⟩) (fun r20 h21 hl21 H locs zr20 hwp Dy => ?_)
          obtain ⟨rfl, rfl, hwp⟩ := hwp
          refine lv_if_eq (tgt := 57) hx hb dX10_gout_50 (by decide) (fun c22 => ?_) (fun c22 => ?_)
          · have hwp := hwp.1 c22
            exact t_X10_gout_57 E C hR Qp h7 v1 v2 v3 v4 v5 _ _ _ Dy (lv_sub lv [0, 1, 2, 3, 4, 5] rfl) hwp
          · have hwp := hwp.2 c22
            refine lv_iconst (v := (1 : Int32)) hx hb dX10_gout_53 (by decide) ?_
            refine lv_goto (tgt := 58) hx hb dX10_gout_54 (by decide) ?_
            exact t_X10_gout_58 E C hR Qp h7 v1 v2 v3 v4 v5 (1 : Int32) _ _ _ Dy (lv_sub lv [0, 1, 2, 3, 4, 5] rfl) hwp
def p_X10_lot (h : Mem) (v1 : Int32) (Qp : Int32 → Mem → Prop) : Prop := ((¬ v1 = 0) ∧ Qp (((((up2 h 0 24 (((1103515245 : Int32) * (h 0 24)) + (12345 : Int32))) 0 24).toUInt32 >>> ((16 : Int32).toUInt32 &&& Int32.toUInt32 31)).toInt32) - ((((up2 h 0 24 (((1103515245 : Int32) * (h 0 24)) + (12345 : Int32))) 0 24).toUInt32 >>> ((16 : Int32).toUInt32 &&& Int32.toUInt32 31)).toInt32) / v1 * v1) (up2 h 0 24 (((1103515245 : Int32) * (h 0 24)) + (12345 : Int32))))
set_option maxHeartbeats 4000000 in
set_option maxRecDepth 100000 in
theorem m_X10_lot (E : xE) (l : Launch) (h : Mem) (hl : MemL) (v1 : Int32) (Qp : Int32 → Mem → Prop) (hwp : p_X10_lot h v1 Qp) : Met l yX10_lot (wsU yX10_lot cX10_lot 2 (some .int)) ({ frames := 0, cells := 0, slots := 0, locals := 0 } : Room) (mPc (wdM E) [.ref (wad (wdM E) 0), .int v1] h hl) (mQi (wdM E) (fun r h1 hl1 => hl = hl1 ∧ Qp r h1)) 0 0 (wA (wdM E)) := by
  refine x_met RX10 [(0, .ref (wad (wdM E) 0)), (1, .int v1)] (by decide) rfl (Nat.le_of_ble_eq_true rfl) rfl ?_
  intro p e s m args below meth c ls C Dy lv
  have hx := C.x
  have hb := C.b
  have hR : 0 ≤ ({ frames := 0, cells := 0, slots := 0, locals := 0 } : Room).frames ∧ 0 ≤ ({ frames := 0, cells := 0, slots := 0, locals := 0 } : Room).locals := ⟨Nat.le_refl _, Nat.le_refl _⟩
  unfold p_X10_lot at hwp
  refine lv_aload_n hx hb dX10_lot_0 rfl (lv_at lv 0 rfl) ?_
  refine lv_ldc hx hb C.ow (C.ts _ k_1171) dX10_lot_1 ?_
  refine lv_aload_n hx hb dX10_lot_3 rfl (lv_at lv 0 rfl) ?_
  refine gf_X10_245_0 C Dy dX10_lot_4 ?_
  refine lv_imul hx hb dX10_lot_7 ?_
  refine lv_sipush (v := (12345 : Int32)) hx hb dX10_lot_8 (by decide) ?_
  refine lv_iadd hx hb dX10_lot_11 ?_
  refine pf_X10_245_0 C Dy dX10_lot_12 (fun H locs Dy => ?_)
  refine lv_aload_n hx hb dX10_lot_15 rfl (lv_at lv 0 rfl) ?_
  refine gf_X10_245_0 C Dy dX10_lot_16 ?_
  refine lv_bipush (v := (16 : Int32)) hx hb dX10_lot_19 (by decide) ?_
  refine lv_iushr hx hb dX10_lot_21 rfl ?_
  refine lv_iload_n hx hb dX10_lot_22 rfl (lv_at lv 1 rfl) ?_
  obtain ⟨g1, hwp⟩ := hwp
  refine lv_irem hx hb dX10_lot_23 g1 ?_
  exact x_iret C Dy ⟨rfl, hwp⟩ dX10_lot_24
def b_X10_yearsOf_102 (h : Mem) (v2 : Int32) (v3 : Int32) (v4 : Int32) (K40 : Mem → Int32 → Int32 → Int32 → Prop) (Qp : Int32 → Mem → Prop) : Prop := K40 h v2 v3 (v4 + (1 : Int32))
def b_X10_yearsOf_71 (h : Mem) (v2 : Int32) (v3 : Int32) (v4 : Int32) (v5 : Int32) (w0 : Int32) (K40 : Mem → Int32 → Int32 → Int32 → Prop) (Qp : Int32 → Mem → Prop) : Prop := (vp_in v5 12 ∧ (((h 12 v5.toNatClampNeg) = (-1 : Int32) → (vp_in v5 12 ∧ (vp_in v5 12 ∧ b_X10_yearsOf_102 (up2 (up2 h 12 v5.toNatClampNeg v4) 13 v5.toNatClampNeg w0) v2 v3 v4 K40 Qp))) ∧ (¬ ((h 12 v5.toNatClampNeg) = (-1 : Int32)) → b_X10_yearsOf_102 h v2 v3 v4 K40 Qp)))
def b_X10_yearsOf_136 (h : Mem) (w0 : Int32) (Qp : Int32 → Mem → Prop) : Prop := (p_X10_find h (fun h25 => Qp w0 h25))
def b_X10_yearsOf_40 : Nat → Mem → Int32 → Int32 → Int32 → (Int32 → Mem → Prop) → Prop
  | 0 => fun _ _ _ _ _ => False
  | n + 1 => fun h v2 v3 v4 Qp => ((v2 ≤ v4 → ((v3 = 0 → (p_X10_bindsOf h (29 : Int32) (1 : Int32) (fun r10 => (p_X10_ones r10 (fun r12 => b_X10_yearsOf_136 h r12 Qp))))) ∧ (¬ (v3 = 0) → (p_X10_bindsOf h (29 : Int32) (0 : Int32) (fun r6 => (p_X10_joyBy h r6 (fun r8 => b_X10_yearsOf_136 h r8 Qp))))))) ∧ (¬ (v2 ≤ v4) → (vp_in (0 : Int32) 2 ∧ (p_X10_lot h (h 7 (0 : Int32).toNatClampNeg) (fun r15 h16 => (p_X10_lot h16 (4 : Int32) (fun r17 h18 => b_X10_yearsOf_71 h18 v2 v3 v4 r15 (if r17 = 0 then (1 : Int32) else (0 : Int32)) (fun h v2 v3 v4 => b_X10_yearsOf_40 n h v2 v3 v4 Qp) Qp)))))))
def b_X10_yearsOf_8 : Nat → Mem → Int32 → Int32 → Int32 → (Int32 → Mem → Prop) → Prop
  | 0 => fun _ _ _ _ _ => False
  | n + 1 => fun h v2 v3 v4 Qp => (((12 : Int32) ≤ v4 → (∃ n40, b_X10_yearsOf_40 n40 h v2 v3 (0 : Int32) Qp)) ∧ (¬ ((12 : Int32) ≤ v4) → (vp_in v4 12 ∧ (vp_in v4 12 ∧ b_X10_yearsOf_8 n (up2 (up2 h 12 v4.toNatClampNeg (-1 : Int32)) 13 v4.toNatClampNeg (0 : Int32)) v2 v3 (v4 + (1 : Int32)) Qp))))
def p_X10_yearsOf (h : Mem) (v1 : Int32) (v2 : Int32) (v3 : Int32) (Qp : Int32 → Mem → Prop) : Prop := (∃ n8, b_X10_yearsOf_8 n8 (up2 h 0 24 v1) v2 v3 (0 : Int32) Qp)
set_option maxHeartbeats 4000000 in
set_option maxRecDepth 100000 in
theorem t_X10_yearsOf_102 (E : xE) {p : Program} {l : Launch} {e : Env} {R : Room} {s : State} {m : MethodId} {args : Array Value} {below : List Frame} {meth : Method} {c : Code} (C : mC (wdM E) p s m meth c args cX10_yearsOf 7 RX10 (some .int)) (hR : 7 ≤ R.frames ∧ 158 ≤ R.locals) {hl : MemL} (Qp : Int32 → Mem → Prop) (K40 : Mem → Int32 → Int32 → Int32 → Prop) (hK40 : ∀ (h : Mem) (v2 : Int32) (v3 : Int32) (v4 : Int32) (H : Heap) (locs : List Loc) (ls : Array Slot), mD (wdM E) h hl s H locs → lv_has ls 7 [(0, .ref (wad (wdM E) 0)), (2, .int v2), (3, .int v3), (4, .int v4)] → K40 h v2 v3 v4 → W p l e R s m args below meth c H locs 0 0 (MQ below (mQi (wdM E) (fun r h1 hl1 => hl = hl1 ∧ Qp r h1)) args s 0 0 (wA (wdM E))) (F0 m 40 ls [])) : ∀ (h : Mem) (v2 : Int32) (v3 : Int32) (v4 : Int32) (H : Heap) (locs : List Loc) (ls : Array Slot), mD (wdM E) h hl s H locs → lv_has ls 7 [(0, .ref (wad (wdM E) 0)), (2, .int v2), (3, .int v3), (4, .int v4)] → b_X10_yearsOf_102 h v2 v3 v4 K40 Qp → W p l e R s m args below meth c H locs 0 0 (MQ below (mQi (wdM E) (fun r h1 hl1 => hl = hl1 ∧ Qp r h1)) args s 0 0 (wA (wdM E))) (F0 m 102 ls []) := by
  have hx := C.x
  have hb := C.b
  intro h v2 v3 v4 H locs ls Dy lv hwp
  unfold b_X10_yearsOf_102 at hwp
  refine lv_iinc (v := (v4 + (1 : Int32))) (lv' := [(4, .int (v4 + (1 : Int32))), (0, .ref (wad (wdM E) 0)), (2, .int v2), (3, .int v3)]) hx hb dX10_yearsOf_102 lv (k := 3) rfl rfl (by decide) rfl (fun ls lv => ?_)
  refine lv_goto (tgt := 40) hx hb dX10_yearsOf_105 (by decide) ?_
  exact hK40 h v2 v3 (v4 + (1 : Int32)) _ _ _ Dy (lv_sub lv [1, 2, 3, 0] rfl) hwp
set_option maxHeartbeats 4000000 in
set_option maxRecDepth 100000 in
theorem t_X10_yearsOf_71 (E : xE) {p : Program} {l : Launch} {e : Env} {R : Room} {s : State} {m : MethodId} {args : Array Value} {below : List Frame} {meth : Method} {c : Code} (C : mC (wdM E) p s m meth c args cX10_yearsOf 7 RX10 (some .int)) (hR : 7 ≤ R.frames ∧ 158 ≤ R.locals) {hl : MemL} (Qp : Int32 → Mem → Prop) (K40 : Mem → Int32 → Int32 → Int32 → Prop) (hK40 : ∀ (h : Mem) (v2 : Int32) (v3 : Int32) (v4 : Int32) (H : Heap) (locs : List Loc) (ls : Array Slot), mD (wdM E) h hl s H locs → lv_has ls 7 [(0, .ref (wad (wdM E) 0)), (2, .int v2), (3, .int v3), (4, .int v4)] → K40 h v2 v3 v4 → W p l e R s m args below meth c H locs 0 0 (MQ below (mQi (wdM E) (fun r h1 hl1 => hl = hl1 ∧ Qp r h1)) args s 0 0 (wA (wdM E))) (F0 m 40 ls [])) : ∀ (h : Mem) (v2 : Int32) (v3 : Int32) (v4 : Int32) (v5 : Int32) (w0 : Int32) (H : Heap) (locs : List Loc) (ls : Array Slot), mD (wdM E) h hl s H locs → lv_has ls 7 [(0, .ref (wad (wdM E) 0)), (2, .int v2), (3, .int v3), (4, .int v4), (5, .int v5)] → b_X10_yearsOf_71 h v2 v3 v4 v5 w0 K40 Qp → W p l e R s m args below meth c H locs 0 0 (MQ below (mQi (wdM E) (fun r h1 hl1 => hl = hl1 ∧ Qp r h1)) args s 0 0 (wA (wdM E))) (F0 m 71 ls [.int w0]) := by
  have hx := C.x
  have hb := C.b
  intro h v2 v3 v4 v5 w0 H locs ls Dy lv hwp
  unfold b_X10_yearsOf_71 at hwp
  refine lv_istore (lv' := [(6, .int w0), (0, .ref (wad (wdM E) 0)), (2, .int v2), (3, .int v3), (4, .int v4), (5, .int v5)]) hx hb dX10_yearsOf_71 lv (by decide) rfl (fun ls lv => ?_)
  refine lv_aload_n hx hb dX10_yearsOf_73 rfl (lv_at lv 1 rfl) ?_
  refine gf_X10_43_0 C Dy dX10_yearsOf_74 ?_
  refine lv_iload hx hb dX10_yearsOf_77 (lv_at lv 5 rfl) ?_
  obtain ⟨g20, hwp⟩ := hwp
  refine x_iald C Dy wma_12 g20 dX10_yearsOf_79 ?_
  refine lv_iconst (v := (-1 : Int32)) hx hb dX10_yearsOf_80 (by decide) ?_
  refine lv_icmp_ne (tgt := 102) hx hb dX10_yearsOf_81 (by decide) (fun c21 => ?_) (fun c21 => ?_)
  · have hwp := hwp.2 c21
    exact t_X10_yearsOf_102 E C hR Qp K40 hK40 h v2 v3 v4 _ _ _ Dy (lv_sub lv [1, 2, 3, 4] rfl) hwp
  · have hwp := hwp.1 c21
    refine lv_aload_n hx hb dX10_yearsOf_84 rfl (lv_at lv 1 rfl) ?_
    refine gf_X10_43_0 C Dy dX10_yearsOf_85 ?_
    refine lv_iload hx hb dX10_yearsOf_88 (lv_at lv 5 rfl) ?_
    refine lv_iload hx hb dX10_yearsOf_90 (lv_at lv 4 rfl) ?_
    obtain ⟨g22, hwp⟩ := hwp
    refine x_iast C Dy wma_12 g22 dX10_yearsOf_92 (fun H locs Dy => ?_)
    refine lv_aload_n hx hb dX10_yearsOf_93 rfl (lv_at lv 1 rfl) ?_
    refine gf_X10_46_0 C Dy dX10_yearsOf_94 ?_
    refine lv_iload hx hb dX10_yearsOf_97 (lv_at lv 5 rfl) ?_
    refine lv_iload hx hb dX10_yearsOf_99 (lv_at lv 0 rfl) ?_
    obtain ⟨g23, hwp⟩ := hwp
    refine x_iast C Dy wma_13 g23 dX10_yearsOf_101 (fun H locs Dy => ?_)
    exact t_X10_yearsOf_102 E C hR Qp K40 hK40 (up2 (up2 h 12 v5.toNatClampNeg v4) 13 v5.toNatClampNeg w0) v2 v3 v4 _ _ _ Dy (lv_sub lv [1, 2, 3, 4] rfl) hwp
set_option maxHeartbeats 4000000 in
set_option maxRecDepth 100000 in
theorem t_X10_yearsOf_136 (E : xE) {p : Program} {l : Launch} {e : Env} {R : Room} {s : State} {m : MethodId} {args : Array Value} {below : List Frame} {meth : Method} {c : Code} (C : mC (wdM E) p s m meth c args cX10_yearsOf 7 RX10 (some .int)) (hR : 7 ≤ R.frames ∧ 158 ≤ R.locals) {hl : MemL} (Qp : Int32 → Mem → Prop) : ∀ (h : Mem) (w0 : Int32) (H : Heap) (locs : List Loc) (ls : Array Slot), mD (wdM E) h hl s H locs → lv_has ls 7 [(0, .ref (wad (wdM E) 0))] → b_X10_yearsOf_136 h w0 Qp → W p l e R s m args below meth c H locs 0 0 (MQ below (mQi (wdM E) (fun r h1 hl1 => hl = hl1 ∧ Qp r h1)) args s 0 0 (wA (wdM E))) (F0 m 136 ls [.int w0]) := by
  have hx := C.x
  have hb := C.b
  intro h w0 H locs ls Dy lv hwp
  unfold b_X10_yearsOf_136 at hwp
  refine lv_istore (lv' := [(4, .int w0), (0, .ref (wad (wdM E) 0))]) hx hb dX10_yearsOf_136 lv (by decide) rfl (fun ls lv => ?_)
  refine lv_aload_n hx hb dX10_yearsOf_138 rfl (lv_at lv 1 rfl) ?_
  refine x_cont_v Dy (x_runV (As := []) (rest := []) C Dy (m_X10_find E l _ _ _ hwp) (cw_X10_152 C rfl rfl ⟨Nat.le_trans (Nat.le_of_ble_eq_true rfl) hR.1, Nat.le_trans (Nat.le_of_ble_eq_true rfl) hR.2⟩) wm_0 rfl rfl lv.1 rfl (Nat.le_of_ble_eq_true rfl) dX10_yearsOf_139 ⟨Nat.zero_le _, Nat.zero_le _⟩) (fun h25 hl25 H locs hwp Dy => ?_)
  obtain ⟨rfl, hwp⟩ := hwp
  refine lv_iload hx hb dX10_yearsOf_142 (lv_at lv 0 rfl) ?_
  exact x_iret C Dy ⟨rfl, hwp⟩ dX10_yearsOf_144
set_option maxHeartbeats 4000000 in
set_option maxRecDepth 100000 in
theorem t_X10_yearsOf_40 (E : xE) {p : Program} {l : Launch} {e : Env} {R : Room} {s : State} {m : MethodId} {args : Array Value} {below : List Frame} {meth : Method} {c : Code} (C : mC (wdM E) p s m meth c args cX10_yearsOf 7 RX10 (some .int)) (hR : 7 ≤ R.frames ∧ 158 ≤ R.locals) {hl : MemL} (Qp : Int32 → Mem → Prop) : ∀ (n : Nat) (h : Mem) (v2 : Int32) (v3 : Int32) (v4 : Int32) (H : Heap) (locs : List Loc) (ls : Array Slot), mD (wdM E) h hl s H locs → lv_has ls 7 [(0, .ref (wad (wdM E) 0)), (2, .int v2), (3, .int v3), (4, .int v4)] → b_X10_yearsOf_40 n h v2 v3 v4 Qp → W p l e R s m args below meth c H locs 0 0 (MQ below (mQi (wdM E) (fun r h1 hl1 => hl = hl1 ∧ Qp r h1)) args s 0 0 (wA (wdM E))) (F0 m 40 ls []) := by
  have hx := C.x
  have hb := C.b
  intro n
  induction n with
  | zero => intro h v2 v3 v4 H locs ls Dy lv hwp; exact hwp.elim
  | succ n ih =>
    intro h v2 v3 v4 H locs ls Dy lv hwp
    simp only [b_X10_yearsOf_40] at hwp
    refine lv_iload hx hb dX10_yearsOf_40 (lv_at lv 3 rfl) ?_
    refine lv_iload_n hx hb dX10_yearsOf_42 rfl (lv_at lv 1 rfl) ?_
    refine lv_icmp_ge (tgt := 108) hx hb dX10_yearsOf_43 (by decide) (fun c4 => ?_) (fun c4 => ?_)
    · have hwp := hwp.1 c4
      refine lv_iload_n hx hb dX10_yearsOf_108 rfl (lv_at lv 2 rfl) ?_
      refine lv_if_ne (tgt := 125) hx hb dX10_yearsOf_109 (by decide) (fun c5 => ?_) (fun c5 => ?_)
      · have hwp := hwp.2 c5
        refine lv_aload_n hx hb dX10_yearsOf_125 rfl (lv_at lv 0 rfl) ?_
        refine lv_aload_n hx hb dX10_yearsOf_126 rfl (lv_at lv 0 rfl) ?_
        refine lv_bipush (v := (29 : Int32)) hx hb dX10_yearsOf_127 (by decide) ?_
        refine lv_iconst (v := (0 : Int32)) hx hb dX10_yearsOf_129 (by decide) ?_
        refine x_cont_i Dy (x_runV (As := [.int (29 : Int32), .int (0 : Int32)]) (rest := [.ref (wad (wdM E) 0)]) C Dy (m_X10_bindsOf E l _ _ (29 : Int32) (0 : Int32) _ hwp) (cw_X10_155 C rfl rfl ⟨Nat.le_trans (Nat.le_of_ble_eq_true rfl) hR.1, Nat.le_trans (Nat.le_of_ble_eq_true rfl) hR.2⟩) wm_0 rfl rfl lv.1 rfl (Nat.le_of_ble_eq_true rfl) dX10_yearsOf_130 ⟨Nat.zero_le _, Nat.zero_le _⟩) (fun r6 h7 hl7 H locs hwp Dy => ?_)
        obtain ⟨rfl, rfl, hwp⟩ := hwp
        refine x_cont_i Dy (x_runV (As := [.int r6]) (rest := []) C Dy (m_X10_joyBy E l _ _ r6 _ hwp) (cw_X10_179 C rfl rfl ⟨Nat.le_trans (Nat.le_of_ble_eq_true rfl) hR.1, Nat.le_trans (Nat.le_of_ble_eq_true rfl) hR.2⟩) wm_0 rfl rfl lv.1 rfl (Nat.le_of_ble_eq_true rfl) dX10_yearsOf_133 ⟨Nat.zero_le _, Nat.zero_le _⟩) (fun r8 h9 hl9 H locs hwp Dy => ?_)
        obtain ⟨rfl, rfl, hwp⟩ := hwp
        exact t_X10_yearsOf_136 E C hR Qp h r8 _ _ _ Dy (lv_sub lv [0] rfl) hwp
      · have hwp := hwp.1 c5
        refine lv_aload_n hx hb dX10_yearsOf_112 rfl (lv_at lv 0 rfl) ?_
        refine lv_bipush (v := (29 : Int32)) hx hb dX10_yearsOf_113 (by decide) ?_
        refine lv_iconst (v := (1 : Int32)) hx hb dX10_yearsOf_115 (by decide) ?_
        refine x_cont_i Dy (x_runV (As := [.int (29 : Int32), .int (1 : Int32)]) (rest := []) C Dy (m_X10_bindsOf E l _ _ (29 : Int32) (1 : Int32) _ hwp) (cw_X10_155 C rfl rfl ⟨Nat.le_trans (Nat.le_of_ble_eq_true rfl) hR.1, Nat.le_trans (Nat.le_of_ble_eq_true rfl) hR.2⟩) wm_0 rfl rfl lv.1 rfl (Nat.le_of_ble_eq_true rfl) dX10_yearsOf_116 ⟨Nat.zero_le _, Nat.zero_le _⟩) (fun r10 h11 hl11 H locs hwp Dy => ?_)
        obtain ⟨rfl, rfl, hwp⟩ := hwp
        refine x_cont_i Dy (x_runS (As := [.int r10]) (rest := []) C Dy (m_X10_ones E l _ _ r10 _ hwp) (cw_X10_165 C rfl rfl ⟨Nat.le_trans (Nat.le_of_ble_eq_true rfl) hR.1, Nat.le_trans (Nat.le_of_ble_eq_true rfl) hR.2⟩) rfl lv.1 rfl (Nat.le_of_ble_eq_true rfl) dX10_yearsOf_119 ⟨Nat.zero_le _, Nat.zero_le _⟩) (fun r12 h13 hl13 H locs hwp Dy => ?_)
        obtain ⟨rfl, rfl, hwp⟩ := hwp
        refine lv_goto (tgt := 136) hx hb dX10_yearsOf_122 (by decide) ?_
        exact t_X10_yearsOf_136 E C hR Qp h r12 _ _ _ Dy (lv_sub lv [0] rfl) hwp
    · have hwp := hwp.2 c4
      refine lv_aload_n hx hb dX10_yearsOf_46 rfl (lv_at lv 0 rfl) ?_
      refine lv_aload_n hx hb dX10_yearsOf_47 rfl (lv_at lv 0 rfl) ?_
      refine gf_X10_28_0 C Dy dX10_yearsOf_48 ?_
      refine lv_iconst (v := (0 : Int32)) hx hb dX10_yearsOf_51 (by decide) ?_
      obtain ⟨g14, hwp⟩ := hwp
      refine x_iald C Dy wma_7 g14 dX10_yearsOf_52 ?_
      refine x_cont_i Dy (x_runV (As := [.int (h 7 (0 : Int32).toNatClampNeg)]) (rest := []) C Dy (m_X10_lot E l _ _ (h 7 (0 : Int32).toNatClampNeg) _ hwp) (cw_X10_248 C rfl rfl ⟨Nat.le_trans (Nat.le_of_ble_eq_true rfl) hR.1, Nat.le_trans (Nat.le_of_ble_eq_true rfl) hR.2⟩) wm_0 rfl rfl lv.1 rfl (Nat.le_of_ble_eq_true rfl) dX10_yearsOf_53 ⟨Nat.zero_le _, Nat.zero_le _⟩) (fun r15 h16 hl16 H locs hwp Dy => ?_)
      obtain ⟨rfl, hwp⟩ := hwp
      refine lv_istore (lv' := [(5, .int r15), (0, .ref (wad (wdM E) 0)), (2, .int v2), (3, .int v3), (4, .int v4)]) hx hb dX10_yearsOf_56 lv (by decide) rfl (fun ls lv => ?_)
      refine lv_aload_n hx hb dX10_yearsOf_58 rfl (lv_at lv 1 rfl) ?_
      refine lv_iconst (v := (4 : Int32)) hx hb dX10_yearsOf_59 (by decide) ?_
      refine x_cont_i Dy (x_runV (As := [.int (4 : Int32)]) (rest := []) C Dy (m_X10_lot E l _ _ (4 : Int32) _ hwp) (cw_X10_248 C rfl rfl ⟨Nat.le_trans (Nat.le_of_ble_eq_true rfl) hR.1, Nat.le_trans (Nat.le_of_ble_eq_true rfl) hR.2⟩) wm_0 rfl rfl lv.1 rfl (Nat.le_of_ble_eq_true rfl) dX10_yearsOf_60 ⟨Nat.zero_le _, Nat.zero_le _⟩) (fun r17 h18 hl18 H locs hwp Dy => ?_)
      obtain ⟨rfl, hwp⟩ := hwp
      refine lv_if_ne (tgt := 70) hx hb dX10_yearsOf_63 (by decide) (fun c19 => ?_) (fun c19 => ?_)
      · try simp only [if_neg c19] at hwp
        refine lv_iconst (v := (0 : Int32)) hx hb dX10_yearsOf_70 (by decide) ?_
        exact t_X10_yearsOf_71 E C hR Qp (fun h v2 v3 v4 => b_X10_yearsOf_40 n h v2 v3 v4 Qp) (fun h v2 v3 v4 H locs ls Dy lv hwp => ih h v2 v3 v4 H locs ls Dy lv hwp) h18 v2 v3 v4 r15 (0 : Int32) _ _ _ Dy (lv_sub lv [1, 2, 3, 4, 0] rfl) hwp
      · try simp only [if_pos c19] at hwp
        refine lv_iconst (v := (1 : Int32)) hx hb dX10_yearsOf_66 (by decide) ?_
        refine lv_goto (tgt := 71) hx hb dX10_yearsOf_67 (by decide) ?_
        exact t_X10_yearsOf_71 E C hR Qp (fun h v2 v3 v4 => b_X10_yearsOf_40 n h v2 v3 v4 Qp) (fun h v2 v3 v4 H locs ls Dy lv hwp => ih h v2 v3 v4 H locs ls Dy lv hwp) h18 v2 v3 v4 r15 (1 : Int32) _ _ _ Dy (lv_sub lv [1, 2, 3, 4, 0] rfl) hwp
set_option maxHeartbeats 4000000 in
set_option maxRecDepth 100000 in
theorem t_X10_yearsOf_8 (E : xE) {p : Program} {l : Launch} {e : Env} {R : Room} {s : State} {m : MethodId} {args : Array Value} {below : List Frame} {meth : Method} {c : Code} (C : mC (wdM E) p s m meth c args cX10_yearsOf 7 RX10 (some .int)) (hR : 7 ≤ R.frames ∧ 158 ≤ R.locals) {hl : MemL} (Qp : Int32 → Mem → Prop) : ∀ (n : Nat) (h : Mem) (v2 : Int32) (v3 : Int32) (v4 : Int32) (H : Heap) (locs : List Loc) (ls : Array Slot), mD (wdM E) h hl s H locs → lv_has ls 7 [(0, .ref (wad (wdM E) 0)), (2, .int v2), (3, .int v3), (4, .int v4)] → b_X10_yearsOf_8 n h v2 v3 v4 Qp → W p l e R s m args below meth c H locs 0 0 (MQ below (mQi (wdM E) (fun r h1 hl1 => hl = hl1 ∧ Qp r h1)) args s 0 0 (wA (wdM E))) (F0 m 8 ls []) := by
  have hx := C.x
  have hb := C.b
  intro n
  induction n with
  | zero => intro h v2 v3 v4 H locs ls Dy lv hwp; exact hwp.elim
  | succ n ih =>
    intro h v2 v3 v4 H locs ls Dy lv hwp
    simp only [b_X10_yearsOf_8] at hwp
    refine lv_iload hx hb dX10_yearsOf_8 (lv_at lv 3 rfl) ?_
    refine lv_bipush (v := (12 : Int32)) hx hb dX10_yearsOf_10 (by decide) ?_
    refine lv_icmp_ge (tgt := 37) hx hb dX10_yearsOf_12 (by decide) (fun c1 => ?_) (fun c1 => ?_)
    · have hwp := hwp.1 c1
      refine lv_iconst (v := (0 : Int32)) hx hb dX10_yearsOf_37 (by decide) ?_
      refine lv_istore (lv' := [(4, .int (0 : Int32)), (0, .ref (wad (wdM E) 0)), (2, .int v2), (3, .int v3)]) hx hb dX10_yearsOf_38 lv (by decide) rfl (fun ls lv => ?_)
      obtain ⟨n0, hwp⟩ := hwp
      exact t_X10_yearsOf_40 E C hR Qp n0 h v2 v3 (0 : Int32) _ _ _ Dy (lv_sub lv [1, 2, 3, 0] rfl) hwp
    · have hwp := hwp.2 c1
      refine lv_aload_n hx hb dX10_yearsOf_15 rfl (lv_at lv 0 rfl) ?_
      refine gf_X10_43_0 C Dy dX10_yearsOf_16 ?_
      refine lv_iload hx hb dX10_yearsOf_19 (lv_at lv 3 rfl) ?_
      refine lv_iconst (v := (-1 : Int32)) hx hb dX10_yearsOf_21 (by decide) ?_
      obtain ⟨g2, hwp⟩ := hwp
      refine x_iast C Dy wma_12 g2 dX10_yearsOf_22 (fun H locs Dy => ?_)
      refine lv_aload_n hx hb dX10_yearsOf_23 rfl (lv_at lv 0 rfl) ?_
      refine gf_X10_46_0 C Dy dX10_yearsOf_24 ?_
      refine lv_iload hx hb dX10_yearsOf_27 (lv_at lv 3 rfl) ?_
      refine lv_iconst (v := (0 : Int32)) hx hb dX10_yearsOf_29 (by decide) ?_
      obtain ⟨g3, hwp⟩ := hwp
      refine x_iast C Dy wma_13 g3 dX10_yearsOf_30 (fun H locs Dy => ?_)
      refine lv_iinc (v := (v4 + (1 : Int32))) (lv' := [(4, .int (v4 + (1 : Int32))), (0, .ref (wad (wdM E) 0)), (2, .int v2), (3, .int v3)]) hx hb dX10_yearsOf_31 lv (k := 3) rfl rfl (by decide) rfl (fun ls lv => ?_)
      refine lv_goto (tgt := 8) hx hb dX10_yearsOf_34 (by decide) ?_
      exact ih (up2 (up2 h 12 v4.toNatClampNeg (-1 : Int32)) 13 v4.toNatClampNeg (0 : Int32)) v2 v3 (v4 + (1 : Int32)) _ _ _ Dy (lv_sub lv [1, 2, 3, 0] rfl) hwp
set_option maxHeartbeats 4000000 in
set_option maxRecDepth 100000 in
theorem m_X10_yearsOf (E : xE) (l : Launch) (h : Mem) (hl : MemL) (v1 : Int32) (v2 : Int32) (v3 : Int32) (Qp : Int32 → Mem → Prop) (hwp : p_X10_yearsOf h v1 v2 v3 Qp) : Met l yX10_yearsOf (wsU yX10_yearsOf cX10_yearsOf 7 (some .int)) ({ frames := 7, cells := 0, slots := 0, locals := 158 } : Room) (mPc (wdM E) [.ref (wad (wdM E) 0), .int v1, .int v2, .int v3] h hl) (mQi (wdM E) (fun r h1 hl1 => hl = hl1 ∧ Qp r h1)) 0 0 (wA (wdM E)) := by
  refine x_met RX10 [(0, .ref (wad (wdM E) 0)), (1, .int v1), (2, .int v2), (3, .int v3)] (by decide) rfl (Nat.le_of_ble_eq_true rfl) rfl ?_
  intro p e s m args below meth c ls C Dy lv
  have hx := C.x
  have hb := C.b
  have hR : 7 ≤ ({ frames := 7, cells := 0, slots := 0, locals := 158 } : Room).frames ∧ 158 ≤ ({ frames := 7, cells := 0, slots := 0, locals := 158 } : Room).locals := ⟨Nat.le_refl _, Nat.le_refl _⟩
  unfold p_X10_yearsOf at hwp
  refine lv_aload_n hx hb dX10_yearsOf_0 rfl (lv_at lv 0 rfl) ?_
  refine lv_iload_n hx hb dX10_yearsOf_1 rfl (lv_at lv 1 rfl) ?_
  refine pf_X10_245_0 C Dy dX10_yearsOf_2 (fun H locs Dy => ?_)
  refine lv_iconst (v := (0 : Int32)) hx hb dX10_yearsOf_5 (by decide) ?_
  refine lv_istore (lv' := [(4, .int (0 : Int32)), (0, .ref (wad (wdM E) 0)), (1, .int v1), (2, .int v2), (3, .int v3)]) hx hb dX10_yearsOf_6 lv (by decide) rfl (fun ls lv => ?_)
  obtain ⟨n0, hwp⟩ := hwp
  exact t_X10_yearsOf_8 E C hR Qp n0 (up2 h 0 24 v1) v2 v3 (0 : Int32) _ _ _ Dy (lv_sub lv [1, 3, 4, 0] rfl) hwp
def p_X10_years (h : Mem) (v1 : Int32) (v2 : Int32) (v3 : Int32) (Qp : Int32 → Mem → Prop) : Prop := (p_X10_find h (fun h2 => (p_X10_in (v2.toInt64) (1 : Int64) (30 : Int64) (fun r3 => ((r3 = 0 → Qp (-2 : Int32) h2) ∧ (¬ (r3 = 0) → (p_X10_isTwo v3 (fun r6 => ((r6 = 0 → Qp (-2 : Int32) h2) ∧ (¬ (r6 = 0) → (vp_in (0 : Int32) 2 ∧ (((h2 7 (0 : Int32).toNatClampNeg) ≤ 0 → Qp (-2 : Int32) h2) ∧ (¬ ((h2 7 (0 : Int32).toNatClampNeg) ≤ 0) → (p_X10_yearsOf h2 v1 v2 v3 (fun r11 h12 => Qp r11 h12)))))))))))))))
set_option maxHeartbeats 4000000 in
set_option maxRecDepth 100000 in
theorem m_X10_years (E : xE) (l : Launch) (h : Mem) (hl : MemL) (v1 : Int32) (v2 : Int32) (v3 : Int32) (Qp : Int32 → Mem → Prop) (hwp : p_X10_years h v1 v2 v3 Qp) : Met l yX10_years (wsU yX10_years cX10_years 4 (some .int)) ({ frames := 8, cells := 0, slots := 0, locals := 184 } : Room) (mPc (wdM E) [.ref (wad (wdM E) 0), .int v1, .int v2, .int v3] h hl) (mQi (wdM E) (fun r h1 hl1 => hl = hl1 ∧ Qp r h1)) 0 0 (wA (wdM E)) := by
  refine x_met RX10 [(0, .ref (wad (wdM E) 0)), (1, .int v1), (2, .int v2), (3, .int v3)] (by decide) rfl (Nat.le_of_ble_eq_true rfl) rfl ?_
  intro p e s m args below meth c ls C Dy lv
  have hx := C.x
  have hb := C.b
  have hR : 8 ≤ ({ frames := 8, cells := 0, slots := 0, locals := 184 } : Room).frames ∧ 184 ≤ ({ frames := 8, cells := 0, slots := 0, locals := 184 } : Room).locals := ⟨Nat.le_refl _, Nat.le_refl _⟩
  unfold p_X10_years at hwp
  refine lv_aload_n hx hb dX10_years_0 rfl (lv_at lv 0 rfl) ?_
  refine x_cont_v Dy (x_runV (As := []) (rest := []) C Dy (m_X10_find E l _ _ _ hwp) (cw_X10_152 C rfl rfl ⟨Nat.le_trans (Nat.le_of_ble_eq_true rfl) hR.1, Nat.le_trans (Nat.le_of_ble_eq_true rfl) hR.2⟩) wm_0 rfl rfl lv.1 rfl (Nat.le_of_ble_eq_true rfl) dX10_years_1 ⟨Nat.zero_le _, Nat.zero_le _⟩) (fun h2 hl2 H locs hwp Dy => ?_)
  obtain ⟨rfl, hwp⟩ := hwp
  refine lv_iload_n hx hb dX10_years_4 rfl (lv_at lv 2 rfl) ?_
  refine lv_i2l hx hb dX10_years_5 rfl ?_
  refine lv_lconst (v := (1 : Int64)) hx hb dX10_years_6 (by decide) ?_
  refine lv_ldc2 hx hb C.ow (C.ts _ k_1162) dX10_years_7 ?_
  refine x_cont_z Dy (x_runS (As := [.long (v2.toInt64), .long (1 : Int64), .long (30 : Int64)]) (rest := []) C Dy (m_X10_in E l _ _ (v2.toInt64) (1 : Int64) (30 : Int64) _ hwp) (cw_X10_66 C rfl rfl ⟨Nat.le_trans (Nat.le_of_ble_eq_true rfl) hR.1, Nat.le_trans (Nat.le_of_ble_eq_true rfl) hR.2⟩) rfl lv.1 rfl (Nat.le_of_ble_eq_true rfl) dX10_years_10 ⟨Nat.zero_le _, Nat.zero_le _⟩) (fun r3 h4 hl4 H locs zr3 hwp Dy => ?_)
  obtain ⟨rfl, rfl, hwp⟩ := hwp
  refine lv_if_eq (tgt := 42) hx hb dX10_years_13 (by decide) (fun c5 => ?_) (fun c5 => ?_)
  · have hwp := hwp.1 c5
    refine lv_bipush (v := (-2 : Int32)) hx hb dX10_years_42 (by decide) ?_
    exact x_iret C Dy ⟨rfl, hwp⟩ dX10_years_44
  · have hwp := hwp.2 c5
    refine lv_iload_n hx hb dX10_years_16 rfl (lv_at lv 3 rfl) ?_
    refine x_cont_z Dy (x_runS (As := [.int v3]) (rest := []) C Dy (m_X10_isTwo E l _ _ v3 _ hwp) (cw_X10_95 C rfl rfl ⟨Nat.le_trans (Nat.le_of_ble_eq_true rfl) hR.1, Nat.le_trans (Nat.le_of_ble_eq_true rfl) hR.2⟩) rfl lv.1 rfl (Nat.le_of_ble_eq_true rfl) dX10_years_17 ⟨Nat.zero_le _, Nat.zero_le _⟩) (fun r6 h7 hl7 H locs zr6 hwp Dy => ?_)
    obtain ⟨rfl, rfl, hwp⟩ := hwp
    refine lv_if_eq (tgt := 42) hx hb dX10_years_20 (by decide) (fun c8 => ?_) (fun c8 => ?_)
    · have hwp := hwp.1 c8
      refine lv_bipush (v := (-2 : Int32)) hx hb dX10_years_42 (by decide) ?_
      exact x_iret C Dy ⟨rfl, hwp⟩ dX10_years_44
    · have hwp := hwp.2 c8
      refine lv_aload_n hx hb dX10_years_23 rfl (lv_at lv 0 rfl) ?_
      refine gf_X10_28_0 C Dy dX10_years_24 ?_
      refine lv_iconst (v := (0 : Int32)) hx hb dX10_years_27 (by decide) ?_
      obtain ⟨g9, hwp⟩ := hwp
      refine x_iald C Dy wma_7 g9 dX10_years_28 ?_
      refine lv_if_le (tgt := 42) hx hb dX10_years_29 (by decide) (fun c10 => ?_) (fun c10 => ?_)
      · have hwp := hwp.1 c10
        refine lv_bipush (v := (-2 : Int32)) hx hb dX10_years_42 (by decide) ?_
        exact x_iret C Dy ⟨rfl, hwp⟩ dX10_years_44
      · have hwp := hwp.2 c10
        refine lv_aload_n hx hb dX10_years_32 rfl (lv_at lv 0 rfl) ?_
        refine lv_iload_n hx hb dX10_years_33 rfl (lv_at lv 1 rfl) ?_
        refine lv_iload_n hx hb dX10_years_34 rfl (lv_at lv 2 rfl) ?_
        refine lv_iload_n hx hb dX10_years_35 rfl (lv_at lv 3 rfl) ?_
        refine x_cont_i Dy (x_runV (As := [.int v1, .int v2, .int v3]) (rest := []) C Dy (m_X10_yearsOf E l _ _ v1 v2 v3 _ hwp) (cw_X10_253 C rfl rfl ⟨Nat.le_trans (Nat.le_of_ble_eq_true rfl) hR.1, Nat.le_trans (Nat.le_of_ble_eq_true rfl) hR.2⟩) wm_0 rfl rfl lv.1 rfl (Nat.le_of_ble_eq_true rfl) dX10_years_36 ⟨Nat.zero_le _, Nat.zero_le _⟩) (fun r11 h12 hl12 H locs hwp Dy => ?_)
        obtain ⟨rfl, hwp⟩ := hwp
        refine lv_goto (tgt := 44) hx hb dX10_years_39 (by decide) ?_
        exact x_iret C Dy ⟨rfl, hwp⟩ dX10_years_44
