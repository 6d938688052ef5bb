def b_X10_quarrelsOf_102 (h : Mem) (v2 : Int32) (v3 : Int32) (v4 : Int32) (v5 : Int32) (v6 : Int32) (v7 : Int32) (K16 : Int32 → Int32 → Int32 → Int32 → Int32 → Prop) (K33 : Int32 → Int32 → Int32 → Int32 → Int32 → Int32 → Prop) (Qp : Int32 → Prop) : Prop := K33 v2 v3 v4 v5 v6 (v7 + (1 : Int32))
def b_X10_quarrelsOf_33 : Nat → Mem → Int32 → Int32 → Int32 → Int32 → Int32 → Int32 → (Int32 → Int32 → Int32 → Int32 → Int32 → Prop) → (Int32 → Prop) → Prop
  | 0 => fun _ _ _ _ _ _ _ _ _ => False
  | n + 1 => fun h v2 v3 v4 v5 v6 v7 K16 Qp => (vp_in (0 : Int32) 2 ∧ (((h 7 (0 : Int32).toNatClampNeg) ≤ v7 → K16 v2 v3 v4 v5 (v6 + (1 : Int32))) ∧ (¬ ((h 7 (0 : Int32).toNatClampNeg) ≤ v7) → (p_X10_isIn v3 v6 (fun r6 => ((r6 = 0 → b_X10_quarrelsOf_102 h v2 v3 v4 v5 v6 v7 K16 (fun v2 v3 v4 v5 v6 v7 => b_X10_quarrelsOf_33 n h v2 v3 v4 v5 v6 v7 K16 Qp) Qp) ∧ (¬ (r6 = 0) → (p_X10_isIn v3 v7 (fun r9 => ((r9 = 0 → b_X10_quarrelsOf_102 h v2 v3 v4 v5 v6 v7 K16 (fun v2 v3 v4 v5 v6 v7 => b_X10_quarrelsOf_33 n h v2 v3 v4 v5 v6 v7 K16 Qp) Qp) ∧ (¬ (r9 = 0) → (p_X10_clashBy h (((1 : Int32) <<< (v6 &&& 31)) ||| ((1 : Int32) <<< (v7 &&& 31))) (fun r12 => b_X10_quarrelsOf_102 h v2 v3 (if r12 = (-1 : Int32) then v4 else (v4 + (1 : Int32))) (if r12 = (-1 : Int32) then v5 else (if v4 = 0 then (((12 : Int32) * v6) + v7) else v5)) v6 v7 K16 (fun v2 v3 v4 v5 v6 v7 => b_X10_quarrelsOf_33 n h v2 v3 v4 v5 v6 v7 K16 Qp) Qp)))))))))))))
def b_X10_quarrelsOf_16 : Nat → Mem → Int32 → Int32 → Int32 → Int32 → Int32 → (Int32 → Prop) → Prop
  | 0 => fun _ _ _ _ _ _ _ => False
  | n + 1 => fun h v2 v3 v4 v5 v6 Qp => (vp_in (0 : Int32) 2 ∧ (((h 7 (0 : Int32).toNatClampNeg) ≤ v6 → Qp (if v2 = 0 then v4 else v5)) ∧ (¬ ((h 7 (0 : Int32).toNatClampNeg) ≤ v6) → (∃ n33, b_X10_quarrelsOf_33 n33 h v2 v3 v4 v5 v6 (v6 + (1 : Int32)) (fun v2 v3 v4 v5 v6 => b_X10_quarrelsOf_16 n h v2 v3 v4 v5 v6 Qp) Qp))))
def b_X10_quarrelsOf_97 (h : Mem) (v2 : Int32) (v3 : Int32) (v4 : Int32) (v6 : Int32) (v7 : Int32) (w0 : Int32) (K16 : Int32 → Int32 → Int32 → Int32 → Int32 → Prop) (K33 : Int32 → Int32 → Int32 → Int32 → Int32 → Int32 → Prop) (Qp : Int32 → Prop) : Prop := b_X10_quarrelsOf_102 h v2 v3 (v4 + (1 : Int32)) w0 v6 v7 K16 K33 Qp
def p_X10_quarrelsOf (h : Mem) (v1 : Int32) (v2 : Int32) (Qp : Int32 → Prop) : Prop := (p_X10_bindsOf h v1 (0 : Int32) (fun r16 => (∃ n16, b_X10_quarrelsOf_16 n16 h v2 r16 (0 : Int32) (-1 : Int32) (0 : Int32) Qp)))
set_option maxHeartbeats 4000000 in
set_option maxRecDepth 100000 in
theorem t_X10_quarrelsOf_102 (E : xE) {p : Program} {l : Launch} {e : Env} {R : Room} {s : State} {m : MethodId} {args : Array Value} {below : List Frame} {meth : Method} {c : Code} (C : mC (wdM E) p s m meth c args cX10_quarrelsOf 8 RX10 (some .int)) (hR : 4 ≤ R.frames ∧ 99 ≤ R.locals) {h : Mem} {hl : MemL} (Qp : Int32 → Prop) (K16 : Int32 → Int32 → Int32 → Int32 → Int32 → Prop) (K33 : Int32 → Int32 → Int32 → Int32 → Int32 → Int32 → Prop) (hK16 : ∀ (v2 : Int32) (v3 : Int32) (v4 : Int32) (v5 : Int32) (v6 : Int32) (H : Heap) (locs : List Loc) (ls : Array Slot), mD (wdM E) h hl s H locs → lv_has ls 8 [(0, .ref (wad (wdM E) 0)), (2, .int v2), (3, .int v3), (4, .int v4), (5, .int v5), (6, .int v6)] → K16 v2 v3 v4 v5 v6 → W p l e R s m args below meth c H locs 0 0 (MQ below (mQi (wdM E) (fun r h1 hl1 => h = h1 ∧ hl = hl1 ∧ Qp r)) args s 0 0 (wA (wdM E))) (F0 m 16 ls [])) (hK33 : ∀ (v2 : Int32) (v3 : Int32) (v4 : Int32) (v5 : Int32) (v6 : Int32) (v7 : Int32) (H : Heap) (locs : List Loc) (ls : Array Slot), mD (wdM E) h hl s H locs → lv_has ls 8 [(0, .ref (wad (wdM E) 0)), (2, .int v2), (3, .int v3), (4, .int v4), (5, .int v5), (6, .int v6), (7, .int v7)] → K33 v2 v3 v4 v5 v6 v7 → W p l e R s m args below meth c H locs 0 0 (MQ below (mQi (wdM E) (fun r h1 hl1 => h = h1 ∧ hl = hl1 ∧ Qp r)) args s 0 0 (wA (wdM E))) (F0 m 33 ls [])) : ∀ (v2 : Int32) (v3 : Int32) (v4 : Int32) (v5 : Int32) (v6 : Int32) (v7 : Int32) (H : Heap) (locs : List Loc) (ls : Array Slot), mD (wdM E) h hl s H locs → lv_has ls 8 [(0, .ref (wad (wdM E) 0)), (2, .int v2), (3, .int v3), (4, .int v4), (5, .int v5), (6, .int v6), (7, .int v7)] → b_X10_quarrelsOf_102 h v2 v3 v4 v5 v6 v7 K16 K33 Qp → W p l e R s m args below meth c H locs 0 0 (MQ below (mQi (wdM E) (fun r h1 hl1 => h = h1 ∧ hl = hl1 ∧ Qp r)) args s 0 0 (wA (wdM E))) (F0 m 102 ls []) := by
  have hx := C.x
  have hb := C.b
  intro v2 v3 v4 v5 v6 v7 H locs ls Dy lv hwp
  unfold b_X10_quarrelsOf_102 at hwp
  refine lv_iinc (v := (v7 + (1 : Int32))) (lv' := [(7, .int (v7 + (1 : Int32))), (0, .ref (wad (wdM E) 0)), (2, .int v2), (3, .int v3), (4, .int v4), (5, .int v5), (6, .int v6)]) hx hb dX10_quarrelsOf_102 lv (k := 6) rfl rfl (by decide) rfl (fun ls lv => ?_)
  refine lv_goto (tgt := 33) hx hb dX10_quarrelsOf_105 (by decide) ?_
  exact hK33 v2 v3 v4 v5 v6 (v7 + (1 : Int32)) _ _ _ Dy (lv_sub lv [1, 2, 3, 4, 5, 6, 0] rfl) hwp
set_option maxHeartbeats 4000000 in
set_option maxRecDepth 100000 in
theorem t_X10_quarrelsOf_33 (E : xE) {p : Program} {l : Launch} {e : Env} {R : Room} {s : State} {m : MethodId} {args : Array Value} {below : List Frame} {meth : Method} {c : Code} (C : mC (wdM E) p s m meth c args cX10_quarrelsOf 8 RX10 (some .int)) (hR : 4 ≤ R.frames ∧ 99 ≤ R.locals) {h : Mem} {hl : MemL} (Qp : Int32 → Prop) (K16 : Int32 → Int32 → Int32 → Int32 → Int32 → Prop) (hK16 : ∀ (v2 : Int32) (v3 : Int32) (v4 : Int32) (v5 : Int32) (v6 : Int32) (H : Heap) (locs : List Loc) (ls : Array Slot), mD (wdM E) h hl s H locs → lv_has ls 8 [(0, .ref (wad (wdM E) 0)), (2, .int v2), (3, .int v3), (4, .int v4), (5, .int v5), (6, .int v6)] → K16 v2 v3 v4 v5 v6 → W p l e R s m args below meth c H locs 0 0 (MQ below (mQi (wdM E) (fun r h1 hl1 => h = h1 ∧ hl = hl1 ∧ Qp r)) args s 0 0 (wA (wdM E))) (F0 m 16 ls [])) : ∀ (n : Nat) (v2 : Int32) (v3 : Int32) (v4 : Int32) (v5 : Int32) (v6 : Int32) (v7 : Int32) (H : Heap) (locs : List Loc) (ls : Array Slot), mD (wdM E) h hl s H locs → lv_has ls 8 [(0, .ref (wad (wdM E) 0)), (2, .int v2), (3, .int v3), (4, .int v4), (5, .int v5), (6, .int v6), (7, .int v7)] → b_X10_quarrelsOf_33 n h v2 v3 v4 v5 v6 v7 K16 Qp → W p l e R s m args below meth c H locs 0 0 (MQ below (mQi (wdM E) (fun r h1 hl1 => h = h1 ∧ hl = hl1 ∧ Qp r)) args s 0 0 (wA (wdM E))) (F0 m 33 ls []) := by
  have hx := C.x
  have hb := C.b
  intro n
  induction n with
  | zero => intro v2 v3 v4 v5 v6 v7 H locs ls Dy lv hwp; exact hwp.elim
  | succ n ih =>
    intro v2 v3 v4 v5 v6 v7 H locs ls Dy lv hwp
    simp only [b_X10_quarrelsOf_33] at hwp
    refine lv_iload hx hb dX10_quarrelsOf_33 (lv_at lv 6 rfl) ?_
    refine lv_aload_n hx hb dX10_quarrelsOf_35 rfl (lv_at lv 0 rfl) ?_
    refine gf_X10_28_0 C Dy dX10_quarrelsOf_36 ?_
    refine lv_iconst (v := (0 : Int32)) hx hb dX10_quarrelsOf_39 (by decide) ?_
    obtain ⟨g4, hwp⟩ := hwp
    refine x_iald C Dy wma_7 g4 dX10_quarrelsOf_40 ?_
    refine lv_icmp_ge (tgt := 108) hx hb dX10_quarrelsOf_41 (by decide) (fun c5 => ?_) (fun c5 => ?_)
    · have hwp := hwp.1 c5
      refine lv_iinc (v := (v6 + (1 : Int32))) (lv' := [(6, .int (v6 + (1 : Int32))), (0, .ref (wad (wdM E) 0)), (2, .int v2), (3, .int v3), (4, .int v4), (5, .int v5), (7, .int v7)]) hx hb dX10_quarrelsOf_108 lv (k := 5) rfl rfl (by decide) rfl (fun ls lv => ?_)
      refine lv_goto (tgt := 16) hx hb dX10_quarrelsOf_111 (by decide) ?_
      exact hK16 v2 v3 v4 v5 (v6 + (1 : Int32)) _ _ _ Dy (lv_sub lv [1, 2, 3, 4, 5, 0] rfl) hwp
    · have hwp := hwp.2 c5
      refine lv_iload_n hx hb dX10_quarrelsOf_44 rfl (lv_at lv 2 rfl) ?_
      refine lv_iload hx hb dX10_quarrelsOf_45 (lv_at lv 5 rfl) ?_
      refine x_cont_z Dy (x_runS (As := [.int v3, .int v6]) (rest := []) C Dy (m_X10_isIn E l _ _ v3 v6 _ hwp) (cw_X10_158 C rfl rfl ⟨Nat.le_trans (Nat.le_of_ble_eq_true rfl) hR.1, Nat.le_trans (Nat.le_of_ble_eq_true rfl) hR.2⟩) rfl lv.1 rfl (Nat.le_of_ble_eq_true rfl) dX10_quarrelsOf_47 ⟨Nat.zero_le _, Nat.zero_le _⟩) (fun r6 h7 hl7 H locs zr6 hwp Dy => ?_)
      obtain ⟨rfl, rfl, hwp⟩ := hwp
      refine lv_if_eq (tgt := 102) hx hb dX10_quarrelsOf_50 (by decide) (fun c8 => ?_) (fun c8 => ?_)
      · have hwp := hwp.1 c8
        exact t_X10_quarrelsOf_102 E C hR Qp K16 (fun v2 v3 v4 v5 v6 v7 => b_X10_quarrelsOf_33 n h v2 v3 v4 v5 v6 v7 K16 Qp) hK16 (fun v2 v3 v4 v5 v6 v7 H locs ls Dy lv hwp => ih v2 v3 v4 v5 v6 v7 H locs ls Dy lv hwp) v2 v3 v4 v5 v6 v7 _ _ _ Dy (lv_sub lv [0, 1, 2, 3, 4, 5, 6] rfl) hwp
      · have hwp := hwp.2 c8
        refine lv_iload_n hx hb dX10_quarrelsOf_53 rfl (lv_at lv 2 rfl) ?_
        refine lv_iload hx hb dX10_quarrelsOf_54 (lv_at lv 6 rfl) ?_
        refine x_cont_z Dy (x_runS (As := [.int v3, .int v7]) (rest := []) C Dy (m_X10_isIn E l _ _ v3 v7 _ hwp) (cw_X10_158 C rfl rfl ⟨Nat.le_trans (Nat.le_of_ble_eq_true rfl) hR.1, Nat.le_trans (Nat.le_of_ble_eq_true rfl) hR.2⟩) rfl lv.1 rfl (Nat.le_of_ble_eq_true rfl) dX10_quarrelsOf_56 ⟨Nat.zero_le _, Nat.zero_le _⟩) (fun r9 h10 hl10 H locs zr9 hwp Dy => ?_)
        obtain ⟨rfl, rfl, hwp⟩ := hwp
        refine lv_if_eq (tgt := 102) hx hb dX10_quarrelsOf_59 (by decide) (fun c11 => ?_) (fun c11 => ?_)
        · have hwp := hwp.1 c11
          exact t_X10_quarrelsOf_102 E C hR Qp K16 (fun v2 v3 v4 v5 v6 v7 => b_X10_quarrelsOf_33 n h v2 v3 v4 v5 v6 v7 K16 Qp) hK16 (fun v2 v3 v4 v5 v6 v7 H locs ls Dy lv hwp => ih v2 v3 v4 v5 v6 v7 H locs ls Dy lv hwp) v2 v3 v4 v5 v6 v7 _ _ _ Dy (lv_sub lv [0, 1, 2, 3, 4, 5, 6] rfl) hwp
        · have hwp := hwp.2 c11
          refine lv_aload_n hx hb dX10_quarrelsOf_62 rfl (lv_at lv 0 rfl) ?_
          refine lv_iconst (v := (1 : Int32)) hx hb dX10_quarrelsOf_63 (by decide) ?_
          refine lv_iload hx hb dX10_quarrelsOf_64 (lv_at lv 5 rfl) ?_
          refine lv_ishl hx hb dX10_quarrelsOf_66 ?_
          refine lv_iconst (v := (1 : Int32)) hx hb dX10_quarrelsOf_67 (by decide) ?_
          refine lv_iload hx hb dX10_quarrelsOf_68 (lv_at lv 6 rfl) ?_
          refine lv_ishl hx hb dX10_quarrelsOf_70 ?_
          refine lv_ior hx hb dX10_quarrelsOf_71 ?_
          refine x_cont_i Dy (x_runV (As := [.int (((1 : Int32) <<< (v6 &&& 31)) ||| ((1 : Int32) <<< (v7 &&& 31)))]) (rest := []) C Dy (m_X10_clashBy E l _ _ (((1 : Int32) <<< (v6 &&& 31)) ||| ((1 : Int32) <<< (v7 &&& 31))) _ hwp) (cw_X10_182 C rfl rfl ⟨Nat.le_trans (Nat.le_of_ble_eq_true rfl) hR.1, Nat.le_trans (Nat.le_of_ble_eq_true rfl) hR.2⟩) wm_0 rfl rfl lv.1 rfl (Nat.le_of_ble_eq_true rfl) dX10_quarrelsOf_72 ⟨Nat.zero_le _, Nat.zero_le _⟩) (fun r12 h13 hl13 H locs hwp Dy => ?_)
          obtain ⟨rfl, rfl, hwp⟩ := hwp
          refine lv_iconst (v := (-1 : Int32)) hx hb dX10_quarrelsOf_75 (by decide) ?_
          refine lv_icmp_eq (tgt := 102) hx hb dX10_quarrelsOf_76 (by decide) (fun c14 => ?_) (fun c14 => ?_)
          · try simp only [if_pos c14] at hwp
            exact t_X10_quarrelsOf_102 E C hR Qp K16 (fun v2 v3 v4 v5 v6 v7 => b_X10_quarrelsOf_33 n h v2 v3 v4 v5 v6 v7 K16 Qp) hK16 (fun v2 v3 v4 v5 v6 v7 H locs ls Dy lv hwp => ih v2 v3 v4 v5 v6 v7 H locs ls Dy lv hwp) v2 v3 v4 v5 v6 v7 _ _ _ Dy (lv_sub lv [0, 1, 2, 3, 4, 5, 6] rfl) hwp
          · try simp only [if_neg c14] at hwp
            refine lv_iload hx hb dX10_quarrelsOf_79 (lv_at lv 3 rfl) ?_
            refine lv_if_ne (tgt := 95) hx hb dX10_quarrelsOf_81 (by decide) (fun c15 => ?_) (fun c15 => ?_)
            · try simp only [if_neg c15] at hwp
              refine lv_iload hx hb dX10_quarrelsOf_95 (lv_at lv 4 rfl) ?_
              refine lv_istore (lv' := [(5, .int v5), (0, .ref (wad (wdM E) 0)), (2, .int v2), (3, .int v3), (4, .int v4), (6, .int v6), (7, .int v7)]) hx hb dX10_quarrelsOf_97 lv (by decide) rfl (fun ls lv => ?_)
              refine lv_iinc (v := (v4 + (1 : Int32))) (lv' := [(4, .int (v4 + (1 : Int32))), (5, .int v5), (0, .ref (wad (wdM E) 0)), (2, .int v2), (3, .int v3), (6, .int v6), (7, .int v7)]) hx hb dX10_quarrelsOf_99 lv (k := 4) rfl rfl (by decide) rfl (fun ls lv => ?_)
              exact t_X10_quarrelsOf_102 E C hR Qp K16 (fun v2 v3 v4 v5 v6 v7 => b_X10_quarrelsOf_33 n h v2 v3 v4 v5 v6 v7 K16 Qp) hK16 (fun v2 v3 v4 v5 v6 v7 H locs ls Dy lv hwp => ih v2 v3 v4 v5 v6 v7 H locs ls Dy lv hwp) v2 v3 (v4 + (1 : Int32)) v5 v6 v7 _ _ _ Dy (lv_sub lv [2, 3, 4, 0, 1, 5, 6] rfl) hwp
            · try simp only [if_pos c15] at hwp
              refine lv_bipush (v := (12 : Int32)) hx hb dX10_quarrelsOf_84 (by decide) ?_
              refine lv_iload hx hb dX10_quarrelsOf_86 (lv_at lv 5 rfl) ?_
              refine lv_imul hx hb dX10_quarrelsOf_88 ?_
              refine lv_iload hx hb dX10_quarrelsOf_89 (lv_at lv 6 rfl) ?_
              refine lv_iadd hx hb dX10_quarrelsOf_91 ?_
              refine lv_goto (tgt := 97) hx hb dX10_quarrelsOf_92 (by decide) ?_
              refine lv_istore (lv' := [(5, .int (((12 : Int32) * v6) + v7)), (0, .ref (wad (wdM E) 0)), (2, .int v2), (3, .int v3), (4, .int v4), (6, .int v6), (7, .int v7)]) hx hb dX10_quarrelsOf_97 lv (by decide) rfl (fun ls lv => ?_)
              refine lv_iinc (v := (v4 + (1 : Int32))) (lv' := [(4, .int (v4 + (1 : Int32))), (5, .int (((12 : Int32) * v6) + v7)), (0, .ref (wad (wdM E) 0)), (2, .int v2), (3, .int v3), (6, .int v6), (7, .int v7)]) hx hb dX10_quarrelsOf_99 lv (k := 4) rfl rfl (by decide) rfl (fun ls lv => ?_)
              exact t_X10_quarrelsOf_102 E C hR Qp K16 (fun v2 v3 v4 v5 v6 v7 => b_X10_quarrelsOf_33 n h v2 v3 v4 v5 v6 v7 K16 Qp) hK16 (fun v2 v3 v4 v5 v6 v7 H locs ls Dy lv hwp => ih v2 v3 v4 v5 v6 v7 H locs ls Dy lv hwp) v2 v3 (v4 + (1 : Int32)) (((12 : Int32) * v6) + v7) v6 v7 _ _ _ Dy (lv_sub lv [2, 3, 4, 0, 1, 5, 6] rfl) hwp
set_option maxHeartbeats 4000000 in
set_option maxRecDepth 100000 in
theorem t_X10_quarrelsOf_16 (E : xE) {p : Program} {l : Launch} {e : Env} {R : Room} {s : State} {m : MethodId} {args : Array Value} {below : List Frame} {meth : Method} {c : Code} (C : mC (wdM E) p s m meth c args cX10_quarrelsOf 8 RX10 (some .int)) (hR : 4 ≤ R.frames ∧ 99 ≤ R.locals) {h : Mem} {hl : MemL} (Qp : Int32 → Prop) : ∀ (n : Nat) (v2 : Int32) (v3 : Int32) (v4 : Int32) (v5 : Int32) (v6 : Int32) (H : Heap) (locs : List Loc) (ls : Array Slot), mD (wdM E) h hl s H locs → lv_has ls 8 [(0, .ref (wad (wdM E) 0)), (2, .int v2), (3, .int v3), (4, .int v4), (5, .int v5), (6, .int v6)] → b_X10_quarrelsOf_16 n h v2 v3 v4 v5 v6 Qp → W p l e R s m args below meth c H locs 0 0 (MQ below (mQi (wdM E) (fun r h1 hl1 => h = h1 ∧ hl = hl1 ∧ Qp r)) args s 0 0 (wA (wdM E))) (F0 m 16 ls []) := by
  have hx := C.x
  have hb := C.b
  intro n
  induction n with
  | zero => intro v2 v3 v4 v5 v6 H locs ls Dy lv hwp; exact hwp.elim
  | succ n ih =>
    intro v2 v3 v4 v5 v6 H locs ls Dy lv hwp
    simp only [b_X10_quarrelsOf_16] at hwp
    refine lv_iload hx hb dX10_quarrelsOf_16 (lv_at lv 5 rfl) ?_
    refine lv_aload_n hx hb dX10_quarrelsOf_18 rfl (lv_at lv 0 rfl) ?_
    refine gf_X10_28_0 C Dy dX10_quarrelsOf_19 ?_
    refine lv_iconst (v := (0 : Int32)) hx hb dX10_quarrelsOf_22 (by decide) ?_
    obtain ⟨g1, hwp⟩ := hwp
    refine x_iald C Dy wma_7 g1 dX10_quarrelsOf_23 ?_
    refine lv_icmp_ge (tgt := 114) hx hb dX10_quarrelsOf_24 (by decide) (fun c2 => ?_) (fun c2 => ?_)
    · have hwp := hwp.1 c2
      refine lv_iload_n hx hb dX10_quarrelsOf_114 rfl (lv_at lv 1 rfl) ?_
      refine lv_if_ne (tgt := 123) hx hb dX10_quarrelsOf_115 (by decide) (fun c3 => ?_) (fun c3 => ?_)
      · try simp only [if_neg c3] at hwp
        refine lv_iload hx hb dX10_quarrelsOf_123 (lv_at lv 4 rfl) ?_
        exact x_iret C Dy ⟨rfl, rfl, hwp⟩ dX10_quarrelsOf_125
      · try simp only [if_pos c3] at hwp
        refine lv_iload hx hb dX10_quarrelsOf_118 (lv_at lv 3 rfl) ?_
        refine lv_goto (tgt := 125) hx hb dX10_quarrelsOf_120 (by decide) ?_
        exact x_iret C Dy ⟨rfl, rfl, hwp⟩ dX10_quarrelsOf_125
    · have hwp := hwp.2 c2
      refine lv_iload hx hb dX10_quarrelsOf_27 (lv_at lv 5 rfl) ?_
      refine lv_iconst (v := (1 : Int32)) hx hb dX10_quarrelsOf_29 (by decide) ?_
      refine lv_iadd hx hb dX10_quarrelsOf_30 ?_
      refine lv_istore (lv' := [(7, .int (v6 + (1 : Int32))), (0, .ref (wad (wdM E) 0)), (2, .int v2), (3, .int v3), (4, .int v4), (5, .int v5), (6, .int v6)]) hx hb dX10_quarrelsOf_31 lv (by decide) rfl (fun ls lv => ?_)
      obtain ⟨n0, hwp⟩ := hwp
      exact t_X10_quarrelsOf_33 E C hR Qp (fun v2 v3 v4 v5 v6 => b_X10_quarrelsOf_16 n h v2 v3 v4 v5 v6 Qp) (fun v2 v3 v4 v5 v6 H locs ls Dy lv hwp => ih v2 v3 v4 v5 v6 H locs ls Dy lv hwp) n0 v2 v3 v4 v5 v6 (v6 + (1 : Int32)) _ _ _ Dy (lv_sub lv [1, 2, 3, 4, 5, 6, 0] rfl) hwp
set_option maxHeartbeats 4000000 in
set_option maxRecDepth 100000 in
theorem t_X10_quarrelsOf_97 (E : xE) {p : Program} {l : Launch} {e : Env} {R : Room} {s : State} {m : MethodId} {args : Array Value} {below : List Frame} {meth : Method} {c : Code} (C : mC (wdM E) p s m meth c args cX10_quarrelsOf 8 RX10 (some .int)) (hR : 4 ≤ R.frames ∧ 99 ≤ R.locals) {h : Mem} {hl : MemL} (Qp : Int32 → Prop) (K16 : Int32 → Int32 → Int32 → Int32 → Int32 → Prop) (K33 : Int32 → Int32 → Int32 → Int32 → Int32 → Int32 → Prop) (hK16 : ∀ (v2 : Int32) (v3 : Int32) (v4 : Int32) (v5 : Int32) (v6 : Int32) (H : Heap) (locs : List Loc) (ls : Array Slot), mD (wdM E) h hl s H locs → lv_has ls 8 [(0, .ref (wad (wdM E) 0)), (2, .int v2), (3, .int v3), (4, .int v4), (5, .int v5), (6, .int v6)] → K16 v2 v3 v4 v5 v6 → W p l e R s m args below meth c H locs 0 0 (MQ below (mQi (wdM E) (fun r h1 hl1 => h = h1 ∧ hl = hl1 ∧ Qp r)) args s 0 0 (wA (wdM E))) (F0 m 16 ls [])) (hK33 : ∀ (v2 : Int32) (v3 : Int32) (v4 : Int32) (v5 : Int32) (v6 : Int32) (v7 : Int32) (H : Heap) (locs : List Loc) (ls : Array Slot), mD (wdM E) h hl s H locs → lv_has ls 8 [(0, .ref (wad (wdM E) 0)), (2, .int v2), (3, .int v3), (4, .int v4), (5, .int v5), (6, .int v6), (7, .int v7)] → K33 v2 v3 v4 v5 v6 v7 → W p l e R s m args below meth c H locs 0 0 (MQ below (mQi (wdM E) (fun r h1 hl1 => h = h1 ∧ hl = hl1 ∧ Qp r)) args s 0 0 (wA (wdM E))) (F0 m 33 ls [])) : ∀ (v2 : Int32) (v3 : Int32) (v4 : Int32) (v6 : Int32) (v7 : Int32) (w0 : Int32) (H : Heap) (locs : List Loc) (ls : Array Slot), mD (wdM E) h hl s H locs → lv_has ls 8 [(0, .ref (wad (wdM E) 0)), (2, .int v2), (3, .int v3), (4, .int v4), (6, .int v6), (7, .int v7)] → b_X10_quarrelsOf_97 h v2 v3 v4 v6 v7 w0 K16 K33 Qp → W p l e R s m args below meth c H locs 0 0 (MQ below (mQi (wdM E) (fun r h1 hl1 => h = h1 ∧ hl = hl1 ∧ Qp r)) args s 0 0 (wA (wdM E))) (F0 m 97 ls [.int w0]) := by
  have hx := C.x
  have hb := C.b
  intro v2 v3 v4 v6 v7 w0 H locs ls Dy lv hwp
  unfold b_X10_quarrelsOf_97 at hwp
  refine lv_istore (lv' := [(5, .int w0), (0, .ref (wad (wdM E) 0)), (2, .int v2), (3, .int v3), (4, .int v4), (6, .int v6), (7, .int v7)]) hx hb dX10_quarrelsOf_97 lv (by decide) rfl (fun ls lv => ?_)
  refine lv_iinc (v := (v4 + (1 : Int32))) (lv' := [(4, .int (v4 + (1 : Int32))), (5, .int w0), (0, .ref (wad (wdM E) 0)), (2, .int v2), (3, .int v3), (6, .int v6), (7, .int v7)]) hx hb dX10_quarrelsOf_99 lv (k := 4) rfl rfl (by decide) rfl (fun ls lv => ?_)
  exact t_X10_quarrelsOf_102 E C hR Qp K16 K33 hK16 hK33 v2 v3 (v4 + (1 : Int32)) w0 v6 v7 _ _ _ Dy (lv_sub lv [2, 3, 4, 0, 1, 5, 6] rfl) hwp
set_option maxHeartbeats 4000000 in
set_option maxRecDepth 100000 in
theorem m_X10_quarrelsOf (E : xE) (l : Launch) (h : Mem) (hl : MemL) (v1 : Int32) (v2 : Int32) (Qp : Int32 → Prop) (hwp : p_X10_quarrelsOf h v1 v2 Qp) : Met l yX10_quarrelsOf (wsU yX10_quarrelsOf cX10_quarrelsOf 8 (some .int)) ({ frames := 4, cells := 0, slots := 0, locals := 99 } : Room) (mPc (wdM E) [.ref (wad (wdM E) 0), .int v1, .int v2] h hl) (mQi (wdM E) (fun r h1 hl1 => h = h1 ∧ hl = hl1 ∧ Qp r)) 0 0 (wA (wdM E)) := by
  refine x_met RX10 [(0, .ref (wad (wdM E) 0)), (1, .int v1), (2, .int v2)] (by decide) rfl (Nat.le_of_ble_eq_true rfl) rfl ?_
  intro p e s m args below meth c ls C Dy lv
  have hx := C.x
  have hb := C.b
  have hR : 4 ≤ ({ frames := 4, cells := 0, slots := 0, locals := 99 } : Room).frames ∧ 99 ≤ ({ frames := 4, cells := 0, slots := 0, locals := 99 } : Room).locals := ⟨Nat.le_refl _, Nat.le_refl _⟩
  unfold p_X10_quarrelsOf at hwp
  refine lv_aload_n hx hb dX10_quarrelsOf_0 rfl (lv_at lv 0 rfl) ?_
  refine lv_iload_n hx hb dX10_quarrelsOf_1 rfl (lv_at lv 1 rfl) ?_
  refine lv_iconst (v := (0 : Int32)) hx hb dX10_quarrelsOf_2 (by decide) ?_
  refine x_cont_i Dy (x_runV (As := [.int v1, .int (0 : Int32)]) (rest := []) C Dy (m_X10_bindsOf E l _ _ v1 (0 : Int32) _ hwp) (cw_X10_155 C rfl rfl ⟨Nat.le_trans (Nat.le_of_ble_eq_true rfl) hR.1, Nat.le_trans (Nat.le_of_ble_eq_true rfl) hR.2⟩) wm_0 rfl rfl lv.1 rfl (Nat.le_of_ble_eq_true rfl) dX10_quarrelsOf_3 ⟨Nat.zero_le _, Nat.zero_le _⟩) (fun r16 h17 hl17 H locs hwp Dy => ?_)
  obtain ⟨rfl, rfl, hwp⟩ := hwp
  refine lv_istore_n (lv' := [(3, .int r16), (0, .ref (wad (wdM E) 0)), (1, .int v1), (2, .int v2)]) hx hb dX10_quarrelsOf_6 rfl lv (by decide) rfl (fun ls lv => ?_)
  refine lv_iconst (v := (0 : Int32)) hx hb dX10_quarrelsOf_7 (by decide) ?_
  refine lv_istore (lv' := [(4, .int (0 : Int32)), (3, .int r16), (0, .ref (wad (wdM E) 0)), (1, .int v1), (2, .int v2)]) hx hb dX10_quarrelsOf_8 lv (by decide) rfl (fun ls lv => ?_)
  refine lv_iconst (v := (-1 : Int32)) hx hb dX10_quarrelsOf_10 (by decide) ?_
  refine lv_istore (lv' := [(5, .int (-1 : Int32)), (4, .int (0 : Int32)), (3, .int r16), (0, .ref (wad (wdM E) 0)), (1, .int v1), (2, .int v2)]) hx hb dX10_quarrelsOf_11 lv (by decide) rfl (fun ls lv => ?_)
  refine lv_iconst (v := (0 : Int32)) hx hb dX10_quarrelsOf_13 (by decide) ?_
  refine lv_istore (lv' := [(6, .int (0 : Int32)), (5, .int (-1 : Int32)), (4, .int (0 : Int32)), (3, .int r16), (0, .ref (wad (wdM E) 0)), (1, .int v1), (2, .int v2)]) hx hb dX10_quarrelsOf_14 lv (by decide) rfl (fun ls lv => ?_)
  obtain ⟨n0, hwp⟩ := hwp
  exact t_X10_quarrelsOf_16 E C hR Qp n0 v2 r16 (0 : Int32) (-1 : Int32) (0 : Int32) _ _ _ Dy (lv_sub lv [4, 6, 3, 2, 1, 0] rfl) hwp
def p_X10_quarrels (h : Mem) (v1 : Int32) (v2 : Int32) (Qp : Int32 → Mem → Prop) : Prop := (p_X10_find h (fun h2 => (p_X10_isYear v1 (fun r3 => ((r3 = 0 → Qp (-2 : Int32) h2) ∧ (¬ (r3 = 0) → (p_X10_isTwo v2 (fun r6 => ((r6 = 0 → Qp (-2 : Int32) h2) ∧ (¬ (r6 = 0) → (p_X10_quarrelsOf h2 v1 v2 (fun r9 => Qp r9 h2))))))))))))
set_option maxHeartbeats 4000000 in
set_option maxRecDepth 100000 in
theorem m_X10_quarrels (E : xE) (l : Launch) (h : Mem) (hl : MemL) (v1 : Int32) (v2 : Int32) (Qp : Int32 → Mem → Prop) (hwp : p_X10_quarrels h v1 v2 Qp) : Met l yX10_quarrels (wsU yX10_quarrels cX10_quarrels 3 (some .int)) ({ frames := 7, cells := 0, slots := 0, locals := 158 } : Room) (mPc (wdM E) [.ref (wad (wdM E) 0), .int v1, .int v2] h hl) (mQi (wdM E) (fun r h1 hl1 => hl = hl1 ∧ Qp r h1)) 0 0 (wA (wdM E)) := by
  refine x_met RX10 [(0, .ref (wad (wdM E) 0)), (1, .int v1), (2, .int v2)] (by decide) rfl (Nat.le_of_ble_eq_true rfl) rfl ?_
  intro p e s m args below meth c ls C Dy lv
  have hx := C.x
  have hb := C.b
  have hR : 7 ≤ ({ frames := 7, cells := 0, slots := 0, locals := 158 } : Room).frames ∧ 158 ≤ ({ frames := 7, cells := 0, slots := 0, locals := 158 } : Room).locals := ⟨Nat.le_refl _, Nat.le_refl _⟩
  unfold p_X10_quarrels at hwp
  refine lv_aload_n hx hb dX10_quarrels_0 rfl (lv_at lv 0 rfl) ?_
  refine x_cont_v Dy (x_runV (As := []) (rest := []) C Dy (m_X10_find E l _ _ _ hwp) (cw_X10_152 C rfl rfl ⟨Nat.le_trans (Nat.le_of_ble_eq_true rfl) hR.1, Nat.le_trans (Nat.le_of_ble_eq_true rfl) hR.2⟩) wm_0 rfl rfl lv.1 rfl (Nat.le_of_ble_eq_true rfl) dX10_quarrels_1 ⟨Nat.zero_le _, Nat.zero_le _⟩) (fun h2 hl2 H locs hwp Dy => ?_)
  obtain ⟨rfl, hwp⟩ := hwp
  refine lv_iload_n hx hb dX10_quarrels_4 rfl (lv_at lv 1 rfl) ?_
  refine x_cont_z Dy (x_runS (As := [.int v1]) (rest := []) C Dy (m_X10_isYear E l _ _ v1 _ hwp) (cw_X10_130 C rfl rfl ⟨Nat.le_trans (Nat.le_of_ble_eq_true rfl) hR.1, Nat.le_trans (Nat.le_of_ble_eq_true rfl) hR.2⟩) rfl lv.1 rfl (Nat.le_of_ble_eq_true rfl) dX10_quarrels_5 ⟨Nat.zero_le _, Nat.zero_le _⟩) (fun r3 h4 hl4 H locs zr3 hwp Dy => ?_)
  obtain ⟨rfl, rfl, hwp⟩ := hwp
  refine lv_if_eq (tgt := 27) hx hb dX10_quarrels_8 (by decide) (fun c5 => ?_) (fun c5 => ?_)
  · have hwp := hwp.1 c5
    refine lv_bipush (v := (-2 : Int32)) hx hb dX10_quarrels_27 (by decide) ?_
    exact x_iret C Dy ⟨rfl, hwp⟩ dX10_quarrels_29
  · have hwp := hwp.2 c5
    refine lv_iload_n hx hb dX10_quarrels_11 rfl (lv_at lv 2 rfl) ?_
    refine x_cont_z Dy (x_runS (As := [.int v2]) (rest := []) C Dy (m_X10_isTwo E l _ _ v2 _ hwp) (cw_X10_95 C rfl rfl ⟨Nat.le_trans (Nat.le_of_ble_eq_true rfl) hR.1, Nat.le_trans (Nat.le_of_ble_eq_true rfl) hR.2⟩) rfl lv.1 rfl (Nat.le_of_ble_eq_true rfl) dX10_quarrels_12 ⟨Nat.zero_le _, Nat.zero_le _⟩) (fun r6 h7 hl7 H locs zr6 hwp Dy => ?_)
    obtain ⟨rfl, rfl, hwp⟩ := hwp
    refine lv_if_eq (tgt := 27) hx hb dX10_quarrels_15 (by decide) (fun c8 => ?_) (fun c8 => ?_)
    · have hwp := hwp.1 c8
      refine lv_bipush (v := (-2 : Int32)) hx hb dX10_quarrels_27 (by decide) ?_
      exact x_iret C Dy ⟨rfl, hwp⟩ dX10_quarrels_29
    · have hwp := hwp.2 c8
      refine lv_aload_n hx hb dX10_quarrels_18 rfl (lv_at lv 0 rfl) ?_
      refine lv_iload_n hx hb dX10_quarrels_19 rfl (lv_at lv 1 rfl) ?_
      refine lv_iload_n hx hb dX10_quarrels_20 rfl (lv_at lv 2 rfl) ?_
      refine x_cont_i Dy (x_runV (As := [.int v1, .int v2]) (rest := []) C Dy (m_X10_quarrelsOf E l _ _ v1 v2 _ hwp) (cw_X10_188 C rfl rfl ⟨Nat.le_trans (Nat.le_of_ble_eq_true rfl) hR.1, Nat.le_trans (Nat.le_of_ble_eq_true rfl) hR.2⟩) wm_0 rfl rfl lv.1 rfl (Nat.le_of_ble_eq_true rfl) dX10_quarrels_21 ⟨Nat.zero_le _, Nat.zero_le _⟩) (fun r9 h10 hl10 H locs hwp Dy => ?_)
      obtain ⟨rfl, rfl, hwp⟩ := hwp
      refine lv_goto (tgt := 29) hx hb dX10_quarrels_24 (by decide) ?_
      exact x_iret C Dy ⟨rfl, hwp⟩ dX10_quarrels_29
def p_X10_tells (v0 : Int32) (v1 : Int32) (Qp : Int32 → Prop) : Prop := ((v0 = (-1 : Int32) → Qp v0) ∧ (¬ (v0 = (-1 : Int32)) → ((v1 = (1 : Int32) → Qp v0) ∧ (¬ (v1 = (1 : Int32)) → (p_X10_ones v0 (fun r3 => Qp r3))))))
set_option maxHeartbeats 4000000 in
set_option maxRecDepth 100000 in
theorem m_X10_tells (E : xE) (l : Launch) (h : Mem) (hl : MemL) (v0 : Int32) (v1 : Int32) (Qp : Int32 → Prop) (hwp : p_X10_tells v0 v1 Qp) : Met l yX10_tells (wsU yX10_tells cX10_tells 2 (some .int)) ({ frames := 1, cells := 0, slots := 0, locals := 22 } : Room) (mPc (wdM E) [.int v0, .int v1] h hl) (mQi (wdM E) (fun r h1 hl1 => h = h1 ∧ hl = hl1 ∧ Qp r)) 0 0 (wA (wdM E)) := by
  refine x_met RX10 [(0, .int v0), (1, .int v1)] (by decide) rfl (Nat.le_of_ble_eq_true rfl) rfl ?_
  intro p e s m args below meth c ls C Dy lv
  have hx := C.x
  have hb := C.b
  have hR : 1 ≤ ({ frames := 1, cells := 0, slots := 0, locals := 22 } : Room).frames ∧ 22 ≤ ({ frames := 1, cells := 0, slots := 0, locals := 22 } : Room).locals := ⟨Nat.le_refl _, Nat.le_refl _⟩
  unfold p_X10_tells at hwp
  refine lv_iload_n hx hb dX10_tells_0 rfl (lv_at lv 0 rfl) ?_
  refine lv_iconst (v := (-1 : Int32)) hx hb dX10_tells_1 (by decide) ?_
  refine lv_icmp_eq (tgt := 10) hx hb dX10_tells_2 (by decide) (fun c1 => ?_) (fun c1 => ?_)
  · have hwp := hwp.1 c1
    refine lv_iload_n hx hb dX10_tells_10 rfl (lv_at lv 0 rfl) ?_
    refine lv_goto (tgt := 18) hx hb dX10_tells_11 (by decide) ?_
    exact x_iret C Dy ⟨rfl, rfl, hwp⟩ dX10_tells_18
  · have hwp := hwp.2 c1
    refine lv_iload_n hx hb dX10_tells_5 rfl (lv_at lv 1 rfl) ?_
    refine lv_iconst (v := (1 : Int32)) hx hb dX10_tells_6 (by decide) ?_
    refine lv_icmp_ne (tgt := 14) hx hb dX10_tells_7 (by decide) (fun c2 => ?_) (fun c2 => ?_)
    · have hwp := hwp.2 c2
      refine lv_iload_n hx hb dX10_tells_14 rfl (lv_at lv 0 rfl) ?_
      refine x_cont_i Dy (x_runS (As := [.int v0]) (rest := []) C Dy (m_X10_ones E l _ _ v0 _ hwp) (cw_X10_165 C rfl rfl ⟨Nat.le_trans (Nat.le_of_ble_eq_true rfl) hR.1, Nat.le_trans (Nat.le_of_ble_eq_true rfl) hR.2⟩) rfl lv.1 rfl (Nat.le_of_ble_eq_true rfl) dX10_tells_15 ⟨Nat.zero_le _, Nat.zero_le _⟩) (fun r3 h4 hl4 H locs hwp Dy => ?_)
      obtain ⟨rfl, rfl, hwp⟩ := hwp
      exact x_iret C Dy ⟨rfl, rfl, hwp⟩ dX10_tells_18
    · have hwp := hwp.1 c2
      refine lv_iload_n hx hb dX10_tells_10 rfl (lv_at lv 0 rfl) ?_
      refine lv_goto (tgt := 18) hx hb dX10_tells_11 (by decide) ?_
      exact x_iret C Dy ⟨rfl, rfl, hwp⟩ dX10_tells_18
def b_X10_exemptOf_81 (h : Mem) (v2 : Int32) (v3 : Int32) (v4 : Int32) (v5 : Int32) (v6 : Int32) (K14 : Int32 → Int32 → Int32 → Int32 → Int32 → Prop) (Qp : Int32 → Prop) : Prop := K14 v2 v3 v4 v5 (v6 + (1 : Int32))
def b_X10_exemptOf_79 (h : Mem) (v2 : Int32) (v3 : Int32) (v4 : Int32) (v6 : Int32) (w0 : Int32) (K14 : Int32 → Int32 → Int32 → Int32 → Int32 → Prop) (Qp : Int32 → Prop) : Prop := b_X10_exemptOf_81 h v2 v3 v4 w0 v6 K14 Qp
def b_X10_exemptOf_56 (h : Mem) (v2 : Int32) (v3 : Int32) (v4 : Int32) (v5 : Int32) (v6 : Int32) (K14 : Int32 → Int32 → Int32 → Int32 → Int32 → Prop) (Qp : Int32 → Prop) : Prop := (p_X10_doesBy h (v4 &&& (v6 ^^^ (-1 : Int32))) v2 (fun r10 => b_X10_exemptOf_79 h v2 v3 v4 v6 (if r10 = v3 then v6 else v5) K14 Qp))
def b_X10_exemptOf_14 : Nat → Mem → Int32 → Int32 → Int32 → Int32 → Int32 → (Int32 → Prop) → Prop
  | 0 => fun _ _ _ _ _ _ _ => False
  | n + 1 => fun h v2 v3 v4 v5 v6 Qp => (vp_in (0 : Int32) 2 ∧ ((((1 : Int32) <<< ((h 7 (0 : Int32).toNatClampNeg) &&& 31)) ≤ v6 → Qp v5) ∧ (¬ (((1 : Int32) <<< ((h 7 (0 : Int32).toNatClampNeg) &&& 31)) ≤ v6) → (((v6 &&& (v4 ^^^ (-1 : Int32))) = 0 → ((v5 = (-1 : Int32) → b_X10_exemptOf_56 h v2 v3 v4 v5 v6 (fun v2 v3 v4 v5 v6 => b_X10_exemptOf_14 n h v2 v3 v4 v5 v6 Qp) Qp) ∧ (¬ (v5 = (-1 : Int32)) → (p_X10_ones v6 (fun r5 => (p_X10_ones v5 (fun r7 => ((r7 ≤ r5 → b_X10_exemptOf_81 h v2 v3 v4 v5 v6 (fun v2 v3 v4 v5 v6 => b_X10_exemptOf_14 n h v2 v3 v4 v5 v6 Qp) Qp) ∧ (¬ (r7 ≤ r5) → b_X10_exemptOf_56 h v2 v3 v4 v5 v6 (fun v2 v3 v4 v5 v6 => b_X10_exemptOf_14 n h v2 v3 v4 v5 v6 Qp) Qp))))))))) ∧ (¬ ((v6 &&& (v4 ^^^ (-1 : Int32))) = 0) → b_X10_exemptOf_81 h v2 v3 v4 v5 v6 (fun v2 v3 v4 v5 v6 => b_X10_exemptOf_14 n h v2 v3 v4 v5 v6 Qp) Qp)))))
def p_X10_exemptOf (h : Mem) (v1 : Int32) (v2 : Int32) (v3 : Int32) (Qp : Int32 → Prop) : Prop := (p_X10_bindsOf h v1 (0 : Int32) (fun r13 => (∃ n14, b_X10_exemptOf_14 n14 h v2 v3 r13 (-1 : Int32) (0 : Int32) Qp)))
set_option maxHeartbeats 4000000 in
set_option maxRecDepth 100000 in
theorem t_X10_exemptOf_81 (E : xE) {p : Program} {l : Launch} {e : Env} {R : Room} {s : State} {m : MethodId} {args : Array Value} {below : List Frame} {meth : Method} {c : Code} (C : mC (wdM E) p s m meth c args cX10_exemptOf 7 RX10 (some .int)) (hR : 4 ≤ R.frames ∧ 96 ≤ R.locals) {h : Mem} {hl : MemL} (Qp : Int32 → Prop) (K14 : Int32 → Int32 → Int32 → Int32 → Int32 → Prop) (hK14 : ∀ (v2 : Int32) (v3 : Int32) (v4 : Int32) (v5 : Int32) (v6 : Int32) (H : Heap) (locs : List Loc) (ls : Array Slot), mD (wdM E) h hl s H locs → lv_has ls 7 [(0, .ref (wad (wdM E) 0)), (2, .int v2), (3, .int v3), (4, .int v4), (5, .int v5), (6, .int v6)] → K14 v2 v3 v4 v5 v6 → W p l e R s m args below meth c H locs 0 0 (MQ below (mQi (wdM E) (fun r h1 hl1 => h = h1 ∧ hl = hl1 ∧ Qp r)) args s 0 0 (wA (wdM E))) (F0 m 14 ls [])) : ∀ (v2 : Int32) (v3 : Int32) (v4 : Int32) (v5 : Int32) (v6 : Int32) (H : Heap) (locs : List Loc) (ls : Array Slot), mD (wdM E) h hl s H locs → lv_has ls 7 [(0, .ref (wad (wdM E) 0)), (2, .int v2), (3, .int v3), (4, .int v4), (5, .int v5), (6, .int v6)] → b_X10_exemptOf_81 h v2 v3 v4 v5 v6 K14 Qp → W p l e R s m args below meth c H locs 0 0 (MQ below (mQi (wdM E) (fun r h1 hl1 => h = h1 ∧ hl = hl1 ∧ Qp r)) args s 0 0 (wA (wdM E))) (F0 m 81 ls []) := by
  have hx := C.x
  have hb := C.b
  intro v2 v3 v4 v5 v6 H locs ls Dy lv hwp
  unfold b_X10_exemptOf_81 at hwp
  refine lv_iinc (v := (v6 + (1 : Int32))) (lv' := [(6, .int (v6 + (1 : Int32))), (0, .ref (wad (wdM E) 0)), (2, .int v2), (3, .int v3), (4, .int v4), (5, .int v5)]) hx hb dX10_exemptOf_81 lv (k := 5) rfl rfl (by decide) rfl (fun ls lv => ?_)
  refine lv_goto (tgt := 14) hx hb dX10_exemptOf_84 (by decide) ?_
  exact hK14 v2 v3 v4 v5 (v6 + (1 : Int32)) _ _ _ Dy (lv_sub lv [1, 2, 3, 4, 5, 0] rfl) hwp
set_option maxHeartbeats 4000000 in
set_option maxRecDepth 100000 in
theorem t_X10_exemptOf_79 (E : xE) {p : Program} {l : Launch} {e : Env} {R : Room} {s : State} {m : MethodId} {args : Array Value} {below : List Frame} {meth : Method} {c : Code} (C : mC (wdM E) p s m meth c args cX10_exemptOf 7 RX10 (some .int)) (hR : 4 ≤ R.frames ∧ 96 ≤ R.locals) {h : Mem} {hl : MemL} (Qp : Int32 → Prop) (K14 : Int32 → Int32 → Int32 → Int32 → Int32 → Prop) (hK14 : ∀ (v2 : Int32) (v3 : Int32) (v4 : Int32) (v5 : Int32) (v6 : Int32) (H : Heap) (locs : List Loc) (ls : Array Slot), mD (wdM E) h hl s H locs → lv_has ls 7 [(0, .ref (wad (wdM E) 0)), (2, .int v2), (3, .int v3), (4, .int v4), (5, .int v5), (6, .int v6)] → K14 v2 v3 v4 v5 v6 → W p l e R s m args below meth c H locs 0 0 (MQ below (mQi (wdM E) (fun r h1 hl1 => h = h1 ∧ hl = hl1 ∧ Qp r)) args s 0 0 (wA (wdM E))) (F0 m 14 ls [])) : ∀ (v2 : Int32) (v3 : Int32) (v4 : Int32) (v6 : Int32) (w0 : Int32) (H : Heap) (locs : List Loc) (ls : Array Slot), mD (wdM E) h hl s H locs → lv_has ls 7 [(0, .ref (wad (wdM E) 0)), (2, .int v2), (3, .int v3), (4, .int v4), (6, .int v6)] → b_X10_exemptOf_79 h v2 v3 v4 v6 w0 K14 Qp → W p l e R s m args below meth c H locs 0 0 (MQ below (mQi (wdM E) (fun r h1 hl1 => h = h1 ∧ hl = hl1 ∧ Qp r)) args s 0 0 (wA (wdM E))) (F0 m 79 ls [.int w0]) := by
  have hx := C.x
  have hb := C.b
  intro v2 v3 v4 v6 w0 H locs ls Dy lv hwp
  unfold b_X10_exemptOf_79 at hwp
  refine lv_istore (lv' := [(5, .int w0), (0, .ref (wad (wdM E) 0)), (2, .int v2), (3, .int v3), (4, .int v4), (6, .int v6)]) hx hb dX10_exemptOf_79 lv (by decide) rfl (fun ls lv => ?_)
  exact t_X10_exemptOf_81 E C hR Qp K14 hK14 v2 v3 v4 w0 v6 _ _ _ Dy (lv_sub lv [1, 2, 3, 4, 0, 5] rfl) hwp
set_option maxHeartbeats 4000000 in
set_option maxRecDepth 100000 in
theorem t_X10_exemptOf_56 (E : xE) {p : Program} {l : Launch} {e : Env} {R : Room} {s : State} {m : MethodId} {args : Array Value} {below : List Frame} {meth : Method} {c : Code} (C : mC (wdM E) p s m meth c args cX10_exemptOf 7 RX10 (some .int)) (hR : 4 ≤ R.frames ∧ 96 ≤ R.locals) {h : Mem} {hl : MemL} (Qp : Int32 → Prop) (K14 : Int32 → Int32 → Int32 → Int32 → Int32 → Prop) (hK14 : ∀ (v2 : Int32) (v3 : Int32) (v4 : Int32) (v5 : Int32) (v6 : Int32) (H : Heap) (locs : List Loc) (ls : Array Slot), mD (wdM E) h hl s H locs → lv_has ls 7 [(0, .ref (wad (wdM E) 0)), (2, .int v2), (3, .int v3), (4, .int v4), (5, .int v5), (6, .int v6)] → K14 v2 v3 v4 v5 v6 → W p l e R s m args below meth c H locs 0 0 (MQ below (mQi (wdM E) (fun r h1 hl1 => h = h1 ∧ hl = hl1 ∧ Qp r)) args s 0 0 (wA (wdM E))) (F0 m 14 ls [])) : ∀ (v2 : Int32) (v3 : Int32) (v4 : Int32) (v5 : Int32) (v6 : Int32) (H : Heap) (locs : List Loc) (ls : Array Slot), mD (wdM E) h hl s H locs → lv_has ls 7 [(0, .ref (wad (wdM E) 0)), (2, .int v2), (3, .int v3), (4, .int v4), (5, .int v5), (6, .int v6)] → b_X10_exemptOf_56 h v2 v3 v4 v5 v6 K14 Qp → W p l e R s m args below meth c H locs 0 0 (MQ below (mQi (wdM E) (fun r h1 hl1 => h = h1 ∧ hl = hl1 ∧ Qp r)) args s 0 0 (wA (wdM E))) (F0 m 56 ls []) := by
  have hx := C.x
  have hb := C.b
  intro v2 v3 v4 v5 v6 H locs ls Dy lv hwp
  unfold b_X10_exemptOf_56 at hwp
  refine lv_aload_n hx hb dX10_exemptOf_56 rfl (lv_at lv 0 rfl) ?_
  refine lv_iload hx hb dX10_exemptOf_57 (lv_at lv 3 rfl) ?_
  refine lv_iload hx hb dX10_exemptOf_59 (lv_at lv 5 rfl) ?_
  refine lv_iconst (v := (-1 : Int32)) hx hb dX10_exemptOf_61 (by decide) ?_
  refine lv_ixor hx hb dX10_exemptOf_62 ?_
  refine lv_iand hx hb dX10_exemptOf_63 ?_
  refine lv_iload_n hx hb dX10_exemptOf_64 rfl (lv_at lv 1 rfl) ?_
  refine x_cont_i Dy (x_runV (As := [.int (v4 &&& (v6 ^^^ (-1 : Int32))), .int v2]) (rest := []) C Dy (m_X10_doesBy E l _ _ (v4 &&& (v6 ^^^ (-1 : Int32))) v2 _ hwp) (cw_X10_174 C rfl rfl ⟨Nat.le_trans (Nat.le_of_ble_eq_true rfl) hR.1, Nat.le_trans (Nat.le_of_ble_eq_true rfl) hR.2⟩) wm_0 rfl rfl lv.1 rfl (Nat.le_of_ble_eq_true rfl) dX10_exemptOf_65 ⟨Nat.zero_le _, Nat.zero_le _⟩) (fun r10 h11 hl11 H locs hwp Dy => ?_)
  obtain ⟨rfl, rfl, hwp⟩ := hwp
  refine lv_iload_n hx hb dX10_exemptOf_68 rfl (lv_at lv 2 rfl) ?_
  refine lv_icmp_ne (tgt := 77) hx hb dX10_exemptOf_69 (by decide) (fun c12 => ?_) (fun c12 => ?_)
  · try simp only [if_neg c12] at hwp
    refine lv_iload hx hb dX10_exemptOf_77 (lv_at lv 4 rfl) ?_
    exact t_X10_exemptOf_79 E C hR Qp K14 hK14 v2 v3 v4 v6 v5 _ _ _ Dy (lv_sub lv [0, 1, 2, 3, 5] rfl) hwp
  · try simp only [if_pos c12] at hwp
    refine lv_iload hx hb dX10_exemptOf_72 (lv_at lv 5 rfl) ?_
    refine lv_goto (tgt := 79) hx hb dX10_exemptOf_74 (by decide) ?_
    exact t_X10_exemptOf_79 E C hR Qp K14 hK14 v2 v3 v4 v6 v6 _ _ _ Dy (lv_sub lv [0, 1, 2, 3, 5] rfl) hwp
set_option maxHeartbeats 4000000 in
set_option maxRecDepth 100000 in
theorem t_X10_exemptOf_14 (E : xE) {p : Program} {l : Launch} {e : Env} {R : Room} {s : State} {m : MethodId} {args : Array Value} {below : List Frame} {meth : Method} {c : Code} (C : mC (wdM E) p s m meth c args cX10_exemptOf 7 RX10 (some .int)) (hR : 4 ≤ R.frames ∧ 96 ≤ R.locals) {h : Mem} {hl : MemL} (Qp : Int32 → Prop) : ∀ (n : Nat) (v2 : Int32) (v3 : Int32) (v4 : Int32) (v5 : Int32) (v6 : Int32) (H : Heap) (locs : List Loc) (ls : Array Slot), mD (wdM E) h hl s H locs → lv_has ls 7 [(0, .ref (wad (wdM E) 0)), (2, .int v2), (3, .int v3), (4, .int v4), (5, .int v5), (6, .int v6)] → b_X10_exemptOf_14 n h v2 v3 v4 v5 v6 Qp → W p l e R s m args below meth c H locs 0 0 (MQ below (mQi (wdM E) (fun r h1 hl1 => h = h1 ∧ hl = hl1 ∧ Qp r)) args s 0 0 (wA (wdM E))) (F0 m 14 ls []) := by
  have hx := C.x
  have hb := C.b
  intro n
  induction n with
  | zero => intro v2 v3 v4 v5 v6 H locs ls Dy lv hwp; exact hwp.elim
  | succ n ih =>
    intro v2 v3 v4 v5 v6 H locs ls Dy lv hwp
    simp only [b_X10_exemptOf_14] at hwp
    refine lv_iload hx hb dX10_exemptOf_14 (lv_at lv 5 rfl) ?_
    refine lv_iconst (v := (1 : Int32)) hx hb dX10_exemptOf_16 (by decide) ?_
    refine lv_aload_n hx hb dX10_exemptOf_17 rfl (lv_at lv 0 rfl) ?_
    refine gf_X10_28_0 C Dy dX10_exemptOf_18 ?_
    refine lv_iconst (v := (0 : Int32)) hx hb dX10_exemptOf_21 (by decide) ?_
    obtain ⟨g1, hwp⟩ := hwp
    refine x_iald C Dy wma_7 g1 dX10_exemptOf_22 ?_
    refine lv_ishl hx hb dX10_exemptOf_23 ?_
    refine lv_icmp_ge (tgt := 87) hx hb dX10_exemptOf_24 (by decide) (fun c2 => ?_) (fun c2 => ?_)
    · have hwp := hwp.1 c2
      refine lv_iload hx hb dX10_exemptOf_87 (lv_at lv 4 rfl) ?_
      exact x_iret C Dy ⟨rfl, rfl, hwp⟩ dX10_exemptOf_89
    · have hwp := hwp.2 c2
      refine lv_iload hx hb dX10_exemptOf_27 (lv_at lv 5 rfl) ?_
      refine lv_iload hx hb dX10_exemptOf_29 (lv_at lv 3 rfl) ?_
      refine lv_iconst (v := (-1 : Int32)) hx hb dX10_exemptOf_31 (by decide) ?_
      refine lv_ixor hx hb dX10_exemptOf_32 ?_
      refine lv_iand hx hb dX10_exemptOf_33 ?_
      refine lv_if_ne (tgt := 81) hx hb dX10_exemptOf_34 (by decide) (fun c3 => ?_) (fun c3 => ?_)
      · have hwp := hwp.2 c3
        exact t_X10_exemptOf_81 E C hR Qp (fun v2 v3 v4 v5 v6 => b_X10_exemptOf_14 n h v2 v3 v4 v5 v6 Qp) (fun v2 v3 v4 v5 v6 H locs ls Dy lv hwp => ih v2 v3 v4 v5 v6 H locs ls Dy lv hwp) v2 v3 v4 v5 v6 _ _ _ Dy (lv_sub lv [0, 1, 2, 3, 4, 5] rfl) hwp
      · have hwp := hwp.1 c3
        refine lv_iload hx hb dX10_exemptOf_37 (lv_at lv 4 rfl) ?_
        refine lv_iconst (v := (-1 : Int32)) hx hb dX10_exemptOf_39 (by decide) ?_
        refine lv_icmp_eq (tgt := 56) hx hb dX10_exemptOf_40 (by decide) (fun c4 => ?_) (fun c4 => ?_)
        · have hwp := hwp.1 c4
          exact t_X10_exemptOf_56 E C hR Qp (fun v2 v3 v4 v5 v6 => b_X10_exemptOf_14 n h v2 v3 v4 v5 v6 Qp) (fun v2 v3 v4 v5 v6 H locs ls Dy lv hwp => ih v2 v3 v4 v5 v6 H locs ls Dy lv hwp) v2 v3 v4 v5 v6 _ _ _ Dy (lv_sub lv [0, 1, 2, 3, 4, 5] rfl) hwp
        · have hwp := hwp.2 c4
          refine lv_iload hx hb dX10_exemptOf_43 (lv_at lv 5 rfl) ?_
          refine x_cont_i Dy (x_runS (As := [.int v6]) (rest := []) C Dy (m_X10_ones E l _ _ v6 _ hwp) (cw_X10_165 C rfl rfl ⟨Nat.le_trans (Nat.le_of_ble_eq_true rfl) hR.1, Nat.le_trans (Nat.le_of_ble_eq_true rfl) hR.2⟩) rfl lv.1 rfl (Nat.le_of_ble_eq_true rfl) dX10_exemptOf_45 ⟨Nat.zero_le _, Nat.zero_le _⟩) (fun r5 h6 hl6 H locs hwp Dy => ?_)
          obtain ⟨rfl, rfl, hwp⟩ := hwp
          refine lv_iload hx hb dX10_exemptOf_48 (lv_at lv 4 rfl) ?_
          refine x_cont_i Dy (x_runS (As := [.int v5]) (rest := [.int r5]) C Dy (m_X10_ones E l _ _ v5 _ hwp) (cw_X10_165 C rfl rfl ⟨Nat.le_trans (Nat.le_of_ble_eq_true rfl) hR.1, Nat.le_trans (Nat.le_of_ble_eq_true rfl) hR.2⟩) rfl lv.1 rfl (Nat.le_of_ble_eq_true rfl) dX10_exemptOf_50 ⟨Nat.zero_le _, Nat.zero_le _⟩) (fun r7 h8 hl8 H locs hwp Dy => ?_)
          obtain ⟨rfl, rfl, hwp⟩ := hwp
          refine lv_icmp_ge (tgt := 81) hx hb dX10_exemptOf_53 (by decide) (fun c9 => ?_) (fun c9 => ?_)
          · have hwp := hwp.1 c9
            exact t_X10_exemptOf_81 E C hR Qp (fun v2 v3 v4 v5 v6 => b_X10_exemptOf_14 n h v2 v3 v4 v5 v6 Qp) (fun v2 v3 v4 v5 v6 H locs ls Dy lv hwp => ih v2 v3 v4 v5 v6 H locs ls Dy lv hwp) v2 v3 v4 v5 v6 _ _ _ Dy (lv_sub lv [0, 1, 2, 3, 4, 5] rfl) hwp
          · have hwp := hwp.2 c9
            exact t_X10_exemptOf_56 E C hR Qp (fun v2 v3 v4 v5 v6 => b_X10_exemptOf_14 n h v2 v3 v4 v5 v6 Qp) (fun v2 v3 v4 v5 v6 H locs ls Dy lv hwp => ih v2 v3 v4 v5 v6 H locs ls Dy lv hwp) v2 v3 v4 v5 v6 _ _ _ Dy (lv_sub lv [0, 1, 2, 3, 4, 5] rfl) hwp
set_option maxHeartbeats 4000000 in
set_option maxRecDepth 100000 in
theorem m_X10_exemptOf (E : xE) (l : Launch) (h : Mem) (hl : MemL) (v1 : Int32) (v2 : Int32) (v3 : Int32) (Qp : Int32 → Prop) (hwp : p_X10_exemptOf h v1 v2 v3 Qp) : Met l yX10_exemptOf (wsU yX10_exemptOf cX10_exemptOf 7 (some .int)) ({ frames := 4, cells := 0, slots := 0, locals := 96 } : Room) (mPc (wdM E) [.ref (wad (wdM E) 0), .int v1, .int v2, .int v3] h hl) (mQi (wdM E) (fun r h1 hl1 => h = h1 ∧ hl = hl1 ∧ Qp r)) 0 0 (wA (wdM E)) := by
  refine x_met RX10 [(0, .ref (wad (wdM E) 0)), (1, .int v1), (2, .int v2), (3, .int v3)] (by decide) rfl (Nat.le_of_ble_eq_true rfl) rfl ?_
  intro p e s m args below meth c ls C Dy lv
  have hx := C.x
  have hb := C.b
  have hR : 4 ≤ ({ frames := 4, cells := 0, slots := 0, locals := 96 } : Room).frames ∧ 96 ≤ ({ frames := 4, cells := 0, slots := 0, locals := 96 } : Room).locals := ⟨Nat.le_refl _, Nat.le_refl _⟩
  unfold p_X10_exemptOf at hwp
  refine lv_aload_n hx hb dX10_exemptOf_0 rfl (lv_at lv 0 rfl) ?_
  refine lv_iload_n hx hb dX10_exemptOf_1 rfl (lv_at lv 1 rfl) ?_
  refine lv_iconst (v := (0 : Int32)) hx hb dX10_exemptOf_2 (by decide) ?_
  refine x_cont_i Dy (x_runV (As := [.int v1, .int (0 : Int32)]) (rest := []) C Dy (m_X10_bindsOf E l _ _ v1 (0 : Int32) _ hwp) (cw_X10_155 C rfl rfl ⟨Nat.le_trans (Nat.le_of_ble_eq_true rfl) hR.1, Nat.le_trans (Nat.le_of_ble_eq_true rfl) hR.2⟩) wm_0 rfl rfl lv.1 rfl (Nat.le_of_ble_eq_true rfl) dX10_exemptOf_3 ⟨Nat.zero_le _, Nat.zero_le _⟩) (fun r13 h14 hl14 H locs hwp Dy => ?_)
  obtain ⟨rfl, rfl, hwp⟩ := hwp
  refine lv_istore (lv' := [(4, .int r13), (0, .ref (wad (wdM E) 0)), (1, .int v1), (2, .int v2), (3, .int v3)]) hx hb dX10_exemptOf_6 lv (by decide) rfl (fun ls lv => ?_)
  refine lv_iconst (v := (-1 : Int32)) hx hb dX10_exemptOf_8 (by decide) ?_
  refine lv_istore (lv' := [(5, .int (-1 : Int32)), (4, .int r13), (0, .ref (wad (wdM E) 0)), (1, .int v1), (2, .int v2), (3, .int v3)]) hx hb dX10_exemptOf_9 lv (by decide) rfl (fun ls lv => ?_)
  refine lv_iconst (v := (0 : Int32)) hx hb dX10_exemptOf_11 (by decide) ?_
  refine lv_istore (lv' := [(6, .int (0 : Int32)), (5, .int (-1 : Int32)), (4, .int r13), (0, .ref (wad (wdM E) 0)), (1, .int v1), (2, .int v2), (3, .int v3)]) hx hb dX10_exemptOf_12 lv (by decide) rfl (fun ls lv => ?_)
  obtain ⟨n0, hwp⟩ := hwp
  exact t_X10_exemptOf_14 E C hR Qp n0 v2 v3 r13 (-1 : Int32) (0 : Int32) _ _ _ Dy (lv_sub lv [3, 5, 6, 2, 1, 0] rfl) hwp
def p_X10_exempt (h : Mem) (v1 : Int32) (v2 : Int32) (v3 : Int32) (v4 : Int32) (Qp : Int32 → Mem → Prop) : Prop := (p_X10_find h (fun h2 => (p_X10_isYear v1 (fun r3 => ((r3 = 0 → Qp (-2 : Int32) h2) ∧ (¬ (r3 = 0) → (p_X10_isHour v2 (fun r6 => ((r6 = 0 → Qp (-2 : Int32) h2) ∧ (¬ (r6 = 0) → (p_X10_in (v3.toInt64) (-1 : Int64) (5 : Int64) (fun r9 => ((r9 = 0 → Qp (-2 : Int32) h2) ∧ (¬ (r9 = 0) → (p_X10_isTwo v4 (fun r12 => ((r12 = 0 → Qp (-2 : Int32) h2) ∧ (¬ (r12 = 0) → (p_X10_exemptOf h2 v1 v2 v3 (fun r15 => (p_X10_tells r15 v4 (fun r17 => Qp r17 h2))))))))))))))))))))))
set_option maxHeartbeats 4000000 in
set_option maxRecDepth 100000 in
theorem m_X10_exempt (E : xE) (l : Launch) (h : Mem) (hl : MemL) (v1 : Int32) (v2 : Int32) (v3 : Int32) (v4 : Int32) (Qp : Int32 → Mem → Prop) (hwp : p_X10_exempt h v1 v2 v3 v4 Qp) : Met l yX10_exempt (wsU yX10_exempt cX10_exempt 5 (some .int)) ({ frames := 7, cells := 0, slots := 0, locals := 158 } : Room) (mPc (wdM E) [.ref (wad (wdM E) 0), .int v1, .int v2, .int v3, .int v4] h hl) (mQi (wdM E) (fun r h1 hl1 => hl = hl1 ∧ Qp r h1)) 0 0 (wA (wdM E)) := by
  refine x_met RX10 [(0, .ref (wad (wdM E) 0)), (1, .int v1), (2, .int v2), (3, .int v3), (4, .int v4)] (by decide) rfl (Nat.le_of_ble_eq_true rfl) rfl ?_
  intro p e s m args below meth c ls C Dy lv
  have hx := C.x
  have hb := C.b
  have hR : 7 ≤ ({ frames := 7, cells := 0, slots := 0, locals := 158 } : Room).frames ∧ 158 ≤ ({ frames := 7, cells := 0, slots := 0, locals := 158 } : Room).locals := ⟨Nat.le_refl _, Nat.le_refl _⟩
  unfold p_X10_exempt at hwp
  refine lv_aload_n hx hb dX10_exempt_0 rfl (lv_at lv 0 rfl) ?_
  refine x_cont_v Dy (x_runV (As := []) (rest := []) C Dy (m_X10_find E l _ _ _ hwp) (cw_X10_152 C rfl rfl ⟨Nat.le_trans (Nat.le_of_ble_eq_true rfl) hR.1, Nat.le_trans (Nat.le_of_ble_eq_true rfl) hR.2⟩) wm_0 rfl rfl lv.1 rfl (Nat.le_of_ble_eq_true rfl) dX10_exempt_1 ⟨Nat.zero_le _, Nat.zero_le _⟩) (fun h2 hl2 H locs hwp Dy => ?_)
  obtain ⟨rfl, hwp⟩ := hwp
  refine lv_iload_n hx hb dX10_exempt_4 rfl (lv_at lv 1 rfl) ?_
  refine x_cont_z Dy (x_runS (As := [.int v1]) (rest := []) C Dy (m_X10_isYear E l _ _ v1 _ hwp) (cw_X10_130 C rfl rfl ⟨Nat.le_trans (Nat.le_of_ble_eq_true rfl) hR.1, Nat.le_trans (Nat.le_of_ble_eq_true rfl) hR.2⟩) rfl lv.1 rfl (Nat.le_of_ble_eq_true rfl) dX10_exempt_5 ⟨Nat.zero_le _, Nat.zero_le _⟩) (fun r3 h4 hl4 H locs zr3 hwp Dy => ?_)
  obtain ⟨rfl, rfl, hwp⟩ := hwp
  refine lv_if_eq (tgt := 55) hx hb dX10_exempt_8 (by decide) (fun c5 => ?_) (fun c5 => ?_)
  · have hwp := hwp.1 c5
    refine lv_bipush (v := (-2 : Int32)) hx hb dX10_exempt_55 (by decide) ?_
    exact x_iret C Dy ⟨rfl, hwp⟩ dX10_exempt_57
  · have hwp := hwp.2 c5
    refine lv_iload_n hx hb dX10_exempt_11 rfl (lv_at lv 2 rfl) ?_
    refine x_cont_z Dy (x_runS (As := [.int v2]) (rest := []) C Dy (m_X10_isHour E l _ _ v2 _ hwp) (cw_X10_171 C rfl rfl ⟨Nat.le_trans (Nat.le_of_ble_eq_true rfl) hR.1, Nat.le_trans (Nat.le_of_ble_eq_true rfl) hR.2⟩) rfl lv.1 rfl (Nat.le_of_ble_eq_true rfl) dX10_exempt_12 ⟨Nat.zero_le _, Nat.zero_le _⟩) (fun r6 h7 hl7 H locs zr6 hwp Dy => ?_)
    obtain ⟨rfl, rfl, hwp⟩ := hwp
    refine lv_if_eq (tgt := 55) hx hb dX10_exempt_15 (by decide) (fun c8 => ?_) (fun c8 => ?_)
    · have hwp := hwp.1 c8
      refine lv_bipush (v := (-2 : Int32)) hx hb dX10_exempt_55 (by decide) ?_
      exact x_iret C Dy ⟨rfl, hwp⟩ dX10_exempt_57
    · have hwp := hwp.2 c8
      refine lv_iload_n hx hb dX10_exempt_18 rfl (lv_at lv 3 rfl) ?_
      refine lv_i2l hx hb dX10_exempt_19 rfl ?_
      refine lv_ldc2 hx hb C.ow (C.ts _ k_1080) dX10_exempt_20 ?_
      refine lv_ldc2 hx hb C.ow (C.ts _ k_1063) dX10_exempt_23 ?_
      refine x_cont_z Dy (x_runS (As := [.long (v3.toInt64), .long (-1 : Int64), .long (5 : Int64)]) (rest := []) C Dy (m_X10_in E l _ _ (v3.toInt64) (-1 : Int64) (5 : Int64) _ hwp) (cw_X10_66 C rfl rfl ⟨Nat.le_trans (Nat.le_of_ble_eq_true rfl) hR.1, Nat.le_trans (Nat.le_of_ble_eq_true rfl) hR.2⟩) rfl lv.1 rfl (Nat.le_of_ble_eq_true rfl) dX10_exempt_26 ⟨Nat.zero_le _, Nat.zero_le _⟩) (fun r9 h10 hl10 H locs zr9 hwp Dy => ?_)
      obtain ⟨rfl, rfl, hwp⟩ := hwp
      refine lv_if_eq (tgt := 55) hx hb dX10_exempt_29 (by decide) (fun c11 => ?_) (fun c11 => ?_)
      · have hwp := hwp.1 c11
        refine lv_bipush (v := (-2 : Int32)) hx hb dX10_exempt_55 (by decide) ?_
        exact x_iret C Dy ⟨rfl, hwp⟩ dX10_exempt_57
      · have hwp := hwp.2 c11
        refine lv_iload hx hb dX10_exempt_32 (lv_at lv 4 rfl) ?_
        refine x_cont_z Dy (x_runS (As := [.int v4]) (rest := []) C Dy (m_X10_isTwo E l _ _ v4 _ hwp) (cw_X10_95 C rfl rfl ⟨Nat.le_trans (Nat.le_of_ble_eq_true rfl) hR.1, Nat.le_trans (Nat.le_of_ble_eq_true rfl) hR.2⟩) rfl lv.1 rfl (Nat.le_of_ble_eq_true rfl) dX10_exempt_34 ⟨Nat.zero_le _, Nat.zero_le _⟩) (fun r12 h13 hl13 H locs zr12 hwp Dy => ?_)
        obtain ⟨rfl, rfl, hwp⟩ := hwp
        refine lv_if_eq (tgt := 55) hx hb dX10_exempt_37 (by decide) (fun c14 => ?_) (fun c14 => ?_)
        · have hwp := hwp.1 c14
          refine lv_bipush (v := (-2 : Int32)) hx hb dX10_exempt_55 (by decide) ?_
          exact x_iret C Dy ⟨rfl, hwp⟩ dX10_exempt_57
        · have hwp := hwp.2 c14
          refine lv_aload_n hx hb dX10_exempt_40 rfl (lv_at lv 0 rfl) ?_
          refine lv_iload_n hx hb dX10_exempt_41 rfl (lv_at lv 1 rfl) ?_
          refine lv_iload_n hx hb dX10_exempt_42 rfl (lv_at lv 2 rfl) ?_
          refine lv_iload_n hx hb dX10_exempt_43 rfl (lv_at lv 3 rfl) ?_
          refine x_cont_i Dy (x_runV (As := [.int v1, .int v2, .int v3]) (rest := []) C Dy (m_X10_exemptOf E l _ _ v1 v2 v3 _ hwp) (cw_X10_193 C rfl rfl ⟨Nat.le_trans (Nat.le_of_ble_eq_true rfl) hR.1, Nat.le_trans (Nat.le_of_ble_eq_true rfl) hR.2⟩) wm_0 rfl rfl lv.1 rfl (Nat.le_of_ble_eq_true rfl) dX10_exempt_44 ⟨Nat.zero_le _, Nat.zero_le _⟩) (fun r15 h16 hl16 H locs hwp Dy => ?_)
          obtain ⟨rfl, rfl, hwp⟩ := hwp
          refine lv_iload hx hb dX10_exempt_47 (lv_at lv 4 rfl) ?_
          refine x_cont_i Dy (x_runS (As := [.int r15, .int v4]) (rest := []) C Dy (m_X10_tells E l _ _ r15 v4 _ hwp) (cw_X10_196 C rfl rfl ⟨Nat.le_trans (Nat.le_of_ble_eq_true rfl) hR.1, Nat.le_trans (Nat.le_of_ble_eq_true rfl) hR.2⟩) rfl lv.1 rfl (Nat.le_of_ble_eq_true rfl) dX10_exempt_49 ⟨Nat.zero_le _, Nat.zero_le _⟩) (fun r17 h18 hl18 H locs hwp Dy => ?_)
          obtain ⟨rfl, rfl, hwp⟩ := hwp
          refine lv_goto (tgt := 57) hx hb dX10_exempt_52 (by decide) ?_
          exact x_iret C Dy ⟨rfl, hwp⟩ dX10_exempt_57
def b_X10_keepOf_131 (h : Mem) (v2 : Int32) (v3 : Int32) (v4 : Int32) (K21 : Mem → Int32 → Int32 → Int32 → Prop) (Qp : Int32 → Mem → Prop) : Prop := K21 h v2 v3 (v4 + (1 : Int32))
def b_X10_keepOf_128 (h : Mem) (v2 : Int32) (v3 : Int32) (v4 : Int32) (w0 : Int32) (K21 : Mem → Int32 → Int32 → Int32 → Prop) (Qp : Int32 → Mem → Prop) : Prop := b_X10_keepOf_131 (up2 h 0 17 w0) v2 v3 v4 K21 Qp
def b_X10_keepOf_112 (h : Mem) (v2 : Int32) (v4 : Int32) (v5 : Int32) (v6 : Int32) (w0 : Int32) (K21 : Mem → Int32 → Int32 → Int32 → Prop) (Qp : Int32 → Mem → Prop) : Prop := b_X10_keepOf_128 h v2 w0 v4 (if v6 = 0 then (h 0 17) else v5) K21 Qp
def b_X10_keepOf_99 (h : Mem) (v2 : Int32) (v3 : Int32) (v4 : Int32) (v5 : Int32) (w0 : Int32) (K21 : Mem → Int32 → Int32 → Int32 → Prop) (Qp : Int32 → Mem → Prop) : Prop := b_X10_keepOf_112 h v2 v4 v5 w0 (if w0 = 0 then v3 else v4) K21 Qp
def b_X10_keepOf_21 : Nat → Mem → Int32 → Int32 → Int32 → (Int32 → Mem → Prop) → Prop
  | 0 => fun _ _ _ _ _ => False
  | n + 1 => fun h v2 v3 v4 Qp => (vp_in (0 : Int32) 2 ∧ ((((1 : Int32) <<< ((h 7 (0 : Int32).toNatClampNeg) &&& 31)) ≤ v4 → Qp v3 h) ∧ (¬ (((1 : Int32) <<< ((h 7 (0 : Int32).toNatClampNeg) &&& 31)) ≤ v4) → (((v4 &&& (v2 ^^^ (-1 : Int32))) = 0 → (p_X10_ones v4 (fun r4 => (p_X10_ones v3 (fun r6 => ((r4 < r6 → b_X10_keepOf_131 h v2 v3 v4 (fun h v2 v3 v4 => b_X10_keepOf_21 n h v2 v3 v4 Qp) Qp) ∧ (¬ (r4 < r6) → (p_X10_clashBy h v4 (fun r9 => ((r9 = (-1 : Int32) → (p_X10_joyBy h v4 (fun r12 => (p_X10_ones v4 (fun r14 => (p_X10_ones v3 (fun r16 => b_X10_keepOf_99 h v2 v3 v4 r12 (if r16 < r14 then (1 : Int32) else (if r12 ≤ (h 0 17) then (0 : Int32) else (1 : Int32))) (fun h v2 v3 v4 => b_X10_keepOf_21 n h v2 v3 v4 Qp) Qp))))))) ∧ (¬ (r9 = (-1 : Int32)) → b_X10_keepOf_131 h v2 v3 v4 (fun h v2 v3 v4 => b_X10_keepOf_21 n h v2 v3 v4 Qp) Qp))))))))))) ∧ (¬ ((v4 &&& (v2 ^^^ (-1 : Int32))) = 0) → b_X10_keepOf_131 h v2 v3 v4 (fun h v2 v3 v4 => b_X10_keepOf_21 n h v2 v3 v4 Qp) Qp)))))
def b_X10_keepOf_94 (h : Mem) (v2 : Int32) (v3 : Int32) (v4 : Int32) (v5 : Int32) (K21 : Mem → Int32 → Int32 → Int32 → Prop) (Qp : Int32 → Mem → Prop) : Prop := b_X10_keepOf_99 h v2 v3 v4 v5 (1 : Int32) K21 Qp
def p_X10_keepOf (h : Mem) (v1 : Int32) (Qp : Int32 → Mem → Prop) : Prop := (p_X10_bindsOf h v1 (0 : Int32) (fun r22 => (p_X10_joyBy h (0 : Int32) (fun r24 => (∃ n21, b_X10_keepOf_21 n21 (up2 h 0 17 r24) r22 (0 : Int32) (1 : Int32) Qp)))))
set_option maxHeartbeats 4000000 in
set_option maxRecDepth 100000 in
theorem t_X10_keepOf_131 (E : xE) {p : Program} {l : Launch} {e : Env} {R : Room} {s : State} {m : MethodId} {args : Array Value} {below : List Frame} {meth : Method} {c : Code} (C : mC (wdM E) p s m meth c args cX10_keepOf 7 RX10 (some .int)) (hR : 4 ≤ R.frames ∧ 101 ≤ R.locals) {hl : MemL} (Qp : Int32 → Mem → Prop) (K21 : Mem → Int32 → Int32 → Int32 → Prop) (hK21 : ∀ (h : Mem) (v2 : Int32) (v3 : Int32) (v4 : Int32) (H : Heap) (locs : List Loc) (ls : Array Slot), mD (wdM E) h hl s H locs → lv_has ls 7 [(0, .ref (wad (wdM E) 0)), (2, .int v2), (3, .int v3), (4, .int v4)] → K21 h v2 v3 v4 → W p l e R s m args below meth c H locs 0 0 (MQ below (mQi (wdM E) (fun r h1 hl1 => hl = hl1 ∧ Qp r h1)) args s 0 0 (wA (wdM E))) (F0 m 21 ls [])) : ∀ (h : Mem) (v2 : Int32) (v3 : Int32) (v4 : Int32) (H : Heap) (locs : List Loc) (ls : Array Slot), mD (wdM E) h hl s H locs → lv_has ls 7 [(0, .ref (wad (wdM E) 0)), (2, .int v2), (3, .int v3), (4, .int v4)] → b_X10_keepOf_131 h v2 v3 v4 K21 Qp → W p l e R s m args below meth c H locs 0 0 (MQ below (mQi (wdM E) (fun r h1 hl1 => hl = hl1 ∧ Qp r h1)) args s 0 0 (wA (wdM E))) (F0 m 131 ls []) := by
  have hx := C.x
  have hb := C.b
  intro h v2 v3 v4 H locs ls Dy lv hwp
  unfold b_X10_keepOf_131 at hwp
  refine lv_iinc (v := (v4 + (1 : Int32))) (lv' := [(4, .int (v4 + (1 : Int32))), (0, .ref (wad (wdM E) 0)), (2, .int v2), (3, .int v3)]) hx hb dX10_keepOf_131 lv (k := 3) rfl rfl (by decide) rfl (fun ls lv => ?_)
  refine lv_goto (tgt := 21) hx hb dX10_keepOf_134 (by decide) ?_
  exact hK21 h v2 v3 (v4 + (1 : Int32)) _ _ _ Dy (lv_sub lv [1, 2, 3, 0] rfl) hwp
set_option maxHeartbeats 4000000 in
set_option maxRecDepth 100000 in
theorem t_X10_keepOf_128 (E : xE) {p : Program} {l : Launch} {e : Env} {R : Room} {s : State} {m : MethodId} {args : Array Value} {below : List Frame} {meth : Method} {c : Code} (C : mC (wdM E) p s m meth c args cX10_keepOf 7 RX10 (some .int)) (hR : 4 ≤ R.frames ∧ 101 ≤ R.locals) {hl : MemL} (Qp : Int32 → Mem → Prop) (K21 : Mem → Int32 → Int32 → Int32 → Prop) (hK21 : ∀ (h : Mem) (v2 : Int32) (v3 : Int32) (v4 : Int32) (H : Heap) (locs : List Loc) (ls : Array Slot), mD (wdM E) h hl s H locs → lv_has ls 7 [(0, .ref (wad (wdM E) 0)), (2, .int v2), (3, .int v3), (4, .int v4)] → K21 h v2 v3 v4 → W p l e R s m args below meth c H locs 0 0 (MQ below (mQi (wdM E) (fun r h1 hl1 => hl = hl1 ∧ Qp r h1)) args s 0 0 (wA (wdM E))) (F0 m 21 ls [])) : ∀ (h : Mem) (v2 : Int32) (v3 : Int32) (v4 : Int32) (w0 : Int32) (H : Heap) (locs : List Loc) (ls : Array Slot), mD (wdM E) h hl s H locs → lv_has ls 7 [(0, .ref (wad (wdM E) 0)), (2, .int v2), (3, .int v3), (4, .int v4)] → b_X10_keepOf_128 h v2 v3 v4 w0 K21 Qp → W p l e R s m args below meth c H locs 0 0 (MQ below (mQi (wdM E) (fun r h1 hl1 => hl = hl1 ∧ Qp r h1)) args s 0 0 (wA (wdM E))) (F0 m 128 ls [.int w0, .ref (wad (wdM E) 0)]) := by
  have hx := C.x
  have hb := C.b
  intro h v2 v3 v4 w0 H locs ls Dy lv hwp
  unfold b_X10_keepOf_128 at hwp
  refine pf_X10_199_0 C Dy dX10_keepOf_128 (fun H locs Dy => ?_)
  exact t_X10_keepOf_131 E C hR Qp K21 hK21 (up2 h 0 17 w0) v2 v3 v4 _ _ _ Dy (lv_sub lv [0, 1, 2, 3] rfl) hwp
set_option maxHeartbeats 4000000 in
set_option maxRecDepth 100000 in
theorem t_X10_keepOf_112 (E : xE) {p : Program} {l : Launch} {e : Env} {R : Room} {s : State} {m : MethodId} {args : Array Value} {below : List Frame} {meth : Method} {c : Code} (C : mC (wdM E) p s m meth c args cX10_keepOf 7 RX10 (some .int)) (hR : 4 ≤ R.frames ∧ 101 ≤ R.locals) {hl : MemL} (Qp : Int32 → Mem → Prop) (K21 : Mem → Int32 → Int32 → Int32 → Prop) (hK21 : ∀ (h : Mem) (v2 : Int32) (v3 : Int32) (v4 : Int32) (H : Heap) (locs : List Loc) (ls : Array Slot), mD (wdM E) h hl s H locs → lv_has ls 7 [(0, .ref (wad (wdM E) 0)), (2, .int v2), (3, .int v3), (4, .int v4)] → K21 h v2 v3 v4 → W p l e R s m args below meth c H locs 0 0 (MQ below (mQi (wdM E) (fun r h1 hl1 => hl = hl1 ∧ Qp r h1)) args s 0 0 (wA (wdM E))) (F0 m 21 ls [])) : ∀ (h : Mem) (v2 : Int32) (v4 : Int32) (v5 : Int32) (v6 : Int32) (w0 : Int32) (H : Heap) (locs : List Loc) (ls : Array Slot), mD (wdM E) h hl s H locs → lv_has ls 7 [(0, .ref (wad (wdM E) 0)), (2, .int v2), (4, .int v4), (5, .int v5), (6, .int v6)] → b_X10_keepOf_112 h v2 v4 v5 v6 w0 K21 Qp → W p l e R s m args below meth c H locs 0 0 (MQ below (mQi (wdM E) (fun r h1 hl1 => hl = hl1 ∧ Qp r h1)) args s 0 0 (wA (wdM E))) (F0 m 112 ls [.int w0]) := by
  have hx := C.x
  have hb := C.b
  intro h v2 v4 v5 v6 w0 H locs ls Dy lv hwp
  unfold b_X10_keepOf_112 at hwp
  refine lv_istore_n (lv' := [(3, .int w0), (0, .ref (wad (wdM E) 0)), (2, .int v2), (4, .int v4), (5, .int v5), (6, .int v6)]) hx hb dX10_keepOf_112 rfl lv (by decide) rfl (fun ls lv => ?_)
  refine lv_aload_n hx hb dX10_keepOf_113 rfl (lv_at lv 1 rfl) ?_
  refine lv_iload hx hb dX10_keepOf_114 (lv_at lv 5 rfl) ?_
  refine lv_if_eq (tgt := 124) hx hb dX10_keepOf_116 (by decide) (fun c21 => ?_) (fun c21 => ?_)
  · try simp only [if_pos c21] at hwp
    refine lv_aload_n hx hb dX10_keepOf_124 rfl (lv_at lv 1 rfl) ?_
    refine gf_X10_199_0 C Dy dX10_keepOf_125 ?_
    exact t_X10_keepOf_128 E C hR Qp K21 hK21 h v2 w0 v4 (h 0 17) _ _ _ Dy (lv_sub lv [1, 2, 0, 3] rfl) hwp
  · try simp only [if_neg c21] at hwp
    refine lv_iload hx hb dX10_keepOf_119 (lv_at lv 4 rfl) ?_
    refine lv_goto (tgt := 128) hx hb dX10_keepOf_121 (by decide) ?_
    exact t_X10_keepOf_128 E C hR Qp K21 hK21 h v2 w0 v4 v5 _ _ _ Dy (lv_sub lv [1, 2, 0, 3] rfl) hwp
set_option maxHeartbeats 4000000 in
set_option maxRecDepth 100000 in
theorem t_X10_keepOf_99 (E : xE) {p : Program} {l : Launch} {e : Env} {R : Room} {s : State} {m : MethodId} {args : Array Value} {below : List Frame} {meth : Method} {c : Code} (C : mC (wdM E) p s m meth c args cX10_keepOf 7 RX10 (some .int)) (hR : 4 ≤ R.frames ∧ 101 ≤ R.locals) {hl : MemL} (Qp : Int32 → Mem → Prop) (K21 : Mem → Int32 → Int32 → Int32 → Prop) (hK21 : ∀ (h : Mem) (v2 : Int32) (v3 : Int32) (v4 : Int32) (H : Heap) (locs : List Loc) (ls : Array Slot), mD (wdM E) h hl s H locs → lv_has ls 7 [(0, .ref (wad (wdM E) 0)), (2, .int v2), (3, .int v3), (4, .int v4)] → K21 h v2 v3 v4 → W p l e R s m args below meth c H locs 0 0 (MQ below (mQi (wdM E) (fun r h1 hl1 => hl = hl1 ∧ Qp r h1)) args s 0 0 (wA (wdM E))) (F0 m 21 ls [])) : ∀ (h : Mem) (v2 : Int32) (v3 : Int32) (v4 : Int32) (v5 : Int32) (w0 : Int32) (H : Heap) (locs : List Loc) (ls : Array Slot), mD (wdM E) h hl s H locs → lv_has ls 7 [(0, .ref (wad (wdM E) 0)), (2, .int v2), (3, .int v3), (4, .int v4), (5, .int v5)] → b_X10_keepOf_99 h v2 v3 v4 v5 w0 K21 Qp → W p l e R s m args below meth c H locs 0 0 (MQ below (mQi (wdM E) (fun r h1 hl1 => hl = hl1 ∧ Qp r h1)) args s 0 0 (wA (wdM E))) (F0 m 99 ls [.int w0]) := by
  have hx := C.x
  have hb := C.b
  intro h v2 v3 v4 v5 w0 H locs ls Dy lv hwp
  unfold b_X10_keepOf_99 at hwp
  refine lv_istore (lv' := [(6, .int w0), (0, .ref (wad (wdM E) 0)), (2, .int v2), (3, .int v3), (4, .int v4), (5, .int v5)]) hx hb dX10_keepOf_99 lv (by decide) rfl (fun ls lv => ?_)
  refine lv_iload hx hb dX10_keepOf_101 (lv_at lv 0 rfl) ?_
  refine lv_if_eq (tgt := 111) hx hb dX10_keepOf_103 (by decide) (fun c20 => ?_) (fun c20 => ?_)
  · try simp only [if_pos c20] at hwp
    refine lv_iload_n hx hb dX10_keepOf_111 rfl (lv_at lv 3 rfl) ?_
    exact t_X10_keepOf_112 E C hR Qp K21 hK21 h v2 v4 v5 w0 v3 _ _ _ Dy (lv_sub lv [1, 2, 4, 5, 0] rfl) hwp
  · try simp only [if_neg c20] at hwp
    refine lv_iload hx hb dX10_keepOf_106 (lv_at lv 4 rfl) ?_
    refine lv_goto (tgt := 112) hx hb dX10_keepOf_108 (by decide) ?_
    exact t_X10_keepOf_112 E C hR Qp K21 hK21 h v2 v4 v5 w0 v4 _ _ _ Dy (lv_sub lv [1, 2, 4, 5, 0] rfl) hwp
set_option maxHeartbeats 4000000 in
set_option maxRecDepth 100000 in
theorem t_X10_keepOf_21 (E : xE) {p : Program} {l : Launch} {e : Env} {R : Room} {s : State} {m : MethodId} {args : Array Value} {below : List Frame} {meth : Method} {c : Code} (C : mC (wdM E) p s m meth c args cX10_keepOf 7 RX10 (some .int)) (hR : 4 ≤ R.frames ∧ 101 ≤ R.locals) {hl : MemL} (Qp : Int32 → Mem → Prop) : ∀ (n : Nat) (h : Mem) (v2 : Int32) (v3 : Int32) (v4 : Int32) (H : Heap) (locs : List Loc) (ls : Array Slot), mD (wdM E) h hl s H locs → lv_has ls 7 [(0, .ref (wad (wdM E) 0)), (2, .int v2), (3, .int v3), (4, .int v4)] → b_X10_keepOf_21 n h v2 v3 v4 Qp → W p l e R s m args below meth c H locs 0 0 (MQ below (mQi (wdM E) (fun r h1 hl1 => hl = hl1 ∧ Qp r h1)) args s 0 0 (wA (wdM E))) (F0 m 21 ls []) := by
  have hx := C.x
  have hb := C.b
  intro n
  induction n with
  | zero => intro h v2 v3 v4 H locs ls Dy lv hwp; exact hwp.elim
  | succ n ih =>
    intro h v2 v3 v4 H locs ls Dy lv hwp
    simp only [b_X10_keepOf_21] at hwp
    refine lv_iload hx hb dX10_keepOf_21 (lv_at lv 3 rfl) ?_
    refine lv_iconst (v := (1 : Int32)) hx hb dX10_keepOf_23 (by decide) ?_
    refine lv_aload_n hx hb dX10_keepOf_24 rfl (lv_at lv 0 rfl) ?_
    refine gf_X10_28_0 C Dy dX10_keepOf_25 ?_
    refine lv_iconst (v := (0 : Int32)) hx hb dX10_keepOf_28 (by decide) ?_
    obtain ⟨g1, hwp⟩ := hwp
    refine x_iald C Dy wma_7 g1 dX10_keepOf_29 ?_
    refine lv_ishl hx hb dX10_keepOf_30 ?_
    refine lv_icmp_ge (tgt := 137) hx hb dX10_keepOf_31 (by decide) (fun c2 => ?_) (fun c2 => ?_)
    · have hwp := hwp.1 c2
      refine lv_iload_n hx hb dX10_keepOf_137 rfl (lv_at lv 2 rfl) ?_
      exact x_iret C Dy ⟨rfl, hwp⟩ dX10_keepOf_138
    · have hwp := hwp.2 c2
      refine lv_iload hx hb dX10_keepOf_34 (lv_at lv 3 rfl) ?_
      refine lv_iload_n hx hb dX10_keepOf_36 rfl (lv_at lv 1 rfl) ?_
      refine lv_iconst (v := (-1 : Int32)) hx hb dX10_keepOf_37 (by decide) ?_
      refine lv_ixor hx hb dX10_keepOf_38 ?_
      refine lv_iand hx hb dX10_keepOf_39 ?_
      refine lv_if_ne (tgt := 131) hx hb dX10_keepOf_40 (by decide) (fun c3 => ?_) (fun c3 => ?_)
      · have hwp := hwp.2 c3
        exact t_X10_keepOf_131 E C hR Qp (fun h v2 v3 v4 => b_X10_keepOf_21 n h v2 v3 v4 Qp) (fun h v2 v3 v4 H locs ls Dy lv hwp => ih h v2 v3 v4 H locs ls Dy lv hwp) h v2 v3 v4 _ _ _ Dy (lv_sub lv [0, 1, 2, 3] rfl) hwp
      · have hwp := hwp.1 c3
        refine lv_iload hx hb dX10_keepOf_43 (lv_at lv 3 rfl) ?_
        refine x_cont_i Dy (x_runS (As := [.int v4]) (rest := []) C Dy (m_X10_ones E l _ _ v4 _ hwp) (cw_X10_165 C rfl rfl ⟨Nat.le_trans (Nat.le_of_ble_eq_true rfl) hR.1, Nat.le_trans (Nat.le_of_ble_eq_true rfl) hR.2⟩) rfl lv.1 rfl (Nat.le_of_ble_eq_true rfl) dX10_keepOf_45 ⟨Nat.zero_le _, Nat.zero_le _⟩) (fun r4 h5 hl5 H locs hwp Dy => ?_)
        obtain ⟨rfl, rfl, hwp⟩ := hwp
        refine lv_iload_n hx hb dX10_keepOf_48 rfl (lv_at lv 2 rfl) ?_
        refine x_cont_i Dy (x_runS (As := [.int v3]) (rest := [.int r4]) C Dy (m_X10_ones E l _ _ v3 _ hwp) (cw_X10_165 C rfl rfl ⟨Nat.le_trans (Nat.le_of_ble_eq_true rfl) hR.1, Nat.le_trans (Nat.le_of_ble_eq_true rfl) hR.2⟩) rfl lv.1 rfl (Nat.le_of_ble_eq_true rfl) dX10_keepOf_49 ⟨Nat.zero_le _, Nat.zero_le _⟩) (fun r6 h7 hl7 H locs hwp Dy => ?_)
        obtain ⟨rfl, rfl, hwp⟩ := hwp
        refine lv_icmp_lt (tgt := 131) hx hb dX10_keepOf_52 (by decide) (fun c8 => ?_) (fun c8 => ?_)
        · have hwp := hwp.1 c8
          exact t_X10_keepOf_131 E C hR Qp (fun h v2 v3 v4 => b_X10_keepOf_21 n h v2 v3 v4 Qp) (fun h v2 v3 v4 H locs ls Dy lv hwp => ih h v2 v3 v4 H locs ls Dy lv hwp) h v2 v3 v4 _ _ _ Dy (lv_sub lv [0, 1, 2, 3] rfl) hwp
        · have hwp := hwp.2 c8
          refine lv_aload_n hx hb dX10_keepOf_55 rfl (lv_at lv 0 rfl) ?_
          refine lv_iload hx hb dX10_keepOf_56 (lv_at lv 3 rfl) ?_
          refine x_cont_i Dy (x_runV (As := [.int v4]) (rest := []) C Dy (m_X10_clashBy E l _ _ v4 _ hwp) (cw_X10_182 C rfl rfl ⟨Nat.le_trans (Nat.le_of_ble_eq_true rfl) hR.1, Nat.le_trans (Nat.le_of_ble_eq_true rfl) hR.2⟩) wm_0 rfl rfl lv.1 rfl (Nat.le_of_ble_eq_true rfl) dX10_keepOf_58 ⟨Nat.zero_le _, Nat.zero_le _⟩) (fun r9 h10 hl10 H locs hwp Dy => ?_)
          obtain ⟨rfl, rfl, hwp⟩ := hwp
          refine lv_iconst (v := (-1 : Int32)) hx hb dX10_keepOf_61 (by decide) ?_
          refine lv_icmp_ne (tgt := 131) hx hb dX10_keepOf_62 (by decide) (fun c11 => ?_) (fun c11 => ?_)
          · have hwp := hwp.2 c11
            exact t_X10_keepOf_131 E C hR Qp (fun h v2 v3 v4 => b_X10_keepOf_21 n h v2 v3 v4 Qp) (fun h v2 v3 v4 H locs ls Dy lv hwp => ih h v2 v3 v4 H locs ls Dy lv hwp) h v2 v3 v4 _ _ _ Dy (lv_sub lv [0, 1, 2, 3] rfl) hwp
          · have hwp := hwp.1 c11
            refine lv_aload_n hx hb dX10_keepOf_65 rfl (lv_at lv 0 rfl) ?_
            refine lv_iload hx hb dX10_keepOf_66 (lv_at lv 3 rfl) ?_
            refine x_cont_i Dy (x_runV (As := [.int v4]) (rest := []) C Dy (m_X10_joyBy E l _ _ v4 _ hwp) (cw_X10_179 C rfl rfl ⟨Nat.le_trans (Nat.le_of_ble_eq_true rfl) hR.1, Nat.le_trans (Nat.le_of_ble_eq_true rfl) hR.2⟩) wm_0 rfl rfl lv.1 rfl (Nat.le_of_ble_eq_true rfl) dX10_keepOf_68 ⟨Nat.zero_le _, Nat.zero_le _⟩) (fun r12 h13 hl13 H locs hwp Dy => ?_)
            obtain ⟨rfl, rfl, hwp⟩ := hwp
            refine lv_istore (lv' := [(5, .int r12), (0, .ref (wad (wdM E) 0)), (2, .int v2), (3, .int v3), (4, .int v4)]) hx hb dX10_keepOf_71 lv (by decide) rfl (fun ls lv => ?_)
            refine lv_iload hx hb dX10_keepOf_73 (lv_at lv 4 rfl) ?_
            refine x_cont_i Dy (x_runS (As := [.int v4]) (rest := []) C Dy (m_X10_ones E l _ _ v4 _ hwp) (cw_X10_165 C rfl rfl ⟨Nat.le_trans (Nat.le_of_ble_eq_true rfl) hR.1, Nat.le_trans (Nat.le_of_ble_eq_true rfl) hR.2⟩) rfl lv.1 rfl (Nat.le_of_ble_eq_true rfl) dX10_keepOf_75 ⟨Nat.zero_le _, Nat.zero_le _⟩) (fun r14 h15 hl15 H locs hwp Dy => ?_)
            obtain ⟨rfl, rfl, hwp⟩ := hwp
            refine lv_iload_n hx hb dX10_keepOf_78 rfl (lv_at lv 3 rfl) ?_
            refine x_cont_i Dy (x_runS (As := [.int v3]) (rest := [.int r14]) C Dy (m_X10_ones E l _ _ v3 _ hwp) (cw_X10_165 C rfl rfl ⟨Nat.le_trans (Nat.le_of_ble_eq_true rfl) hR.1, Nat.le_trans (Nat.le_of_ble_eq_true rfl) hR.2⟩) rfl lv.1 rfl (Nat.le_of_ble_eq_true rfl) dX10_keepOf_79 ⟨Nat.zero_le _, Nat.zero_le _⟩) (fun r16 h17 hl17 H locs hwp Dy => ?_)
            obtain ⟨rfl, rfl, hwp⟩ := hwp
            refine lv_icmp_gt (tgt := 94) hx hb dX10_keepOf_82 (by decide) (fun c18 => ?_) (fun c18 => ?_)
            · try simp only [if_pos c18] at hwp
              refine lv_iconst (v := (1 : Int32)) hx hb dX10_keepOf_94 (by decide) ?_
              refine lv_goto (tgt := 99) hx hb dX10_keepOf_95 (by decide) ?_
              exact t_X10_keepOf_99 E C hR Qp (fun h v2 v3 v4 => b_X10_keepOf_21 n h v2 v3 v4 Qp) (fun h v2 v3 v4 H locs ls Dy lv hwp => ih h v2 v3 v4 H locs ls Dy lv hwp) h v2 v3 v4 r12 (1 : Int32) _ _ _ Dy (lv_sub lv [1, 2, 3, 4, 0] rfl) hwp
            · try simp only [if_neg c18] at hwp
              refine lv_iload hx hb dX10_keepOf_85 (lv_at lv 0 rfl) ?_
              refine lv_aload_n hx hb dX10_keepOf_87 rfl (lv_at lv 1 rfl) ?_
              refine gf_X10_199_0 C Dy dX10_keepOf_88 ?_
              refine lv_icmp_le (tgt := 98) hx hb dX10_keepOf_91 (by decide) (fun c19 => ?_) (fun c19 => ?_)
              · try simp only [if_pos c19] at hwp
                refine lv_iconst (v := (0 : Int32)) hx hb dX10_keepOf_98 (by decide) ?_
                exact t_X10_keepOf_99 E C hR Qp (fun h v2 v3 v4 => b_X10_keepOf_21 n h v2 v3 v4 Qp) (fun h v2 v3 v4 H locs ls Dy lv hwp => ih h v2 v3 v4 H locs ls Dy lv hwp) h v2 v3 v4 r12 (0 : Int32) _ _ _ Dy (lv_sub lv [1, 2, 3, 4, 0] rfl) hwp
              · try simp only [if_neg c19] at hwp
                refine lv_iconst (v := (1 : Int32)) hx hb dX10_keepOf_94 (by decide) ?_
                refine lv_goto (tgt := 99) hx hb dX10_keepOf_95 (by decide) ?_
                exact t_X10_keepOf_99 E C hR Qp (fun h v2 v3 v4 => b_X10_keepOf_21 n h v2 v3 v4 Qp) (fun h v2 v3 v4 H locs ls Dy lv hwp => ih h v2 v3 v4 H locs ls Dy lv hwp) h v2 v3 v4 r12 (1 : Int32) _ _ _ Dy (lv_sub lv [1, 2, 3, 4, 0] rfl) hwp
set_option maxHeartbeats 4000000 in
set_option maxRecDepth 100000 in
theorem t_X10_keepOf_94 (E : xE) {p : Program} {l : Launch} {e : Env} {R : Room} {s : State} {m : MethodId} {args : Array Value} {below : List Frame} {meth : Method} {c : Code} (C : mC (wdM E) p s m meth c args cX10_keepOf 7 RX10 (some .int)) (hR : 4 ≤ R.frames ∧ 101 ≤ R.locals) {hl : MemL} (Qp : Int32 → Mem → Prop) (K21 : Mem → Int32 → Int32 → Int32 → Prop) (hK21 : ∀ (h : Mem) (v2 : Int32) (v3 : Int32) (v4 : Int32) (H : Heap) (locs : List Loc) (ls : Array Slot), mD (wdM E) h hl s H locs → lv_has ls 7 [(0, .ref (wad (wdM E) 0)), (2, .int v2), (3, .int v3), (4, .int v4)] → K21 h v2 v3 v4 → W p l e R s m args below meth c H locs 0 0 (MQ below (mQi (wdM E) (fun r h1 hl1 => hl = hl1 ∧ Qp r h1)) args s 0 0 (wA (wdM E))) (F0 m 21 ls [])) : ∀ (h : Mem) (v2 : Int32) (v3 : Int32) (v4 : Int32) (v5 : Int32) (H : Heap) (locs : List Loc) (ls : Array Slot), mD (wdM E) h hl s H locs → lv_has ls 7 [(0, .ref (wad (wdM E) 0)), (2, .int v2), (3, .int v3), (4, .int v4), (5, .int v5)] → b_X10_keepOf_94 h v2 v3 v4 v5 K21 Qp → W p l e R s m args below meth c H locs 0 0 (MQ below (mQi (wdM E) (fun r h1 hl1 => hl = hl1 ∧ Qp r h1)) args s 0 0 (wA (wdM E))) (F0 m 94 ls []) := by
  have hx := C.x
  have hb := C.b
  intro h v2 v3 v4 v5 H locs ls Dy lv hwp
  unfold b_X10_keepOf_94 at hwp
  refine lv_iconst (v := (1 : Int32)) hx hb dX10_keepOf_94 (by decide) ?_
  refine lv_goto (tgt := 99) hx hb dX10_keepOf_95 (by decide) ?_
  exact t_X10_keepOf_99 E C hR Qp K21 hK21 h v2 v3 v4 v5 (1 : Int32) _ _ _ Dy (lv_sub lv [0, 1, 2, 3, 4] rfl) hwp
set_option maxHeartbeats 4000000 in
set_option maxRecDepth 100000 in
theorem m_X10_keepOf (E : xE) (l : Launch) (h : Mem) (hl : MemL) (v1 : Int32) (Qp : Int32 → Mem → Prop) (hwp : p_X10_keepOf h v1 Qp) : Met l yX10_keepOf (wsU yX10_keepOf cX10_keepOf 7 (some .int)) ({ frames := 4, cells := 0, slots := 0, locals := 101 } : Room) (mPc (wdM E) [.ref (wad (wdM E) 0), .int v1] h hl) (mQi (wdM E) (fun r h1 hl1 => hl = hl1 ∧ Qp r h1)) 0 0 (wA (wdM E)) := by
  refine x_met RX10 [(0, .ref (wad (wdM E) 0)), (1, .int v1)] (by decide) rfl (Nat.le_of_ble_eq_true rfl) rfl ?_
  intro p e s m args below meth c ls C Dy lv
  have hx := C.x
  have hb := C.b
  have hR : 4 ≤ ({ frames := 4, cells := 0, slots := 0, locals := 101 } : Room).frames ∧ 101 ≤ ({ frames := 4, cells := 0, slots := 0, locals := 101 } : Room).locals := ⟨Nat.le_refl _, Nat.le_refl _⟩
  unfold p_X10_keepOf at hwp
  refine lv_aload_n hx hb dX10_keepOf_0 rfl (lv_at lv 0 rfl) ?_
  refine lv_iload_n hx hb dX10_keepOf_1 rfl (lv_at lv 1 rfl) ?_
  refine lv_iconst (v := (0 : Int32)) hx hb dX10_keepOf_2 (by decide) ?_
  refine x_cont_i Dy (x_runV (As := [.int v1, .int (0 : Int32)]) (rest := []) C Dy (m_X10_bindsOf E l _ _ v1 (0 : Int32) _ hwp) (cw_X10_155 C rfl rfl ⟨Nat.le_trans (Nat.le_of_ble_eq_true rfl) hR.1, Nat.le_trans (Nat.le_of_ble_eq_true rfl) hR.2⟩) wm_0 rfl rfl lv.1 rfl (Nat.le_of_ble_eq_true rfl) dX10_keepOf_3 ⟨Nat.zero_le _, Nat.zero_le _⟩) (fun r22 h23 hl23 H locs hwp Dy => ?_)
  obtain ⟨rfl, rfl, hwp⟩ := hwp
  refine lv_istore_n (lv' := [(2, .int r22), (0, .ref (wad (wdM E) 0)), (1, .int v1)]) hx hb dX10_keepOf_6 rfl lv (by decide) rfl (fun ls lv => ?_)
  refine lv_iconst (v := (0 : Int32)) hx hb dX10_keepOf_7 (by decide) ?_
  refine lv_istore_n (lv' := [(3, .int (0 : Int32)), (2, .int r22), (0, .ref (wad (wdM E) 0)), (1, .int v1)]) hx hb dX10_keepOf_8 rfl lv (by decide) rfl (fun ls lv => ?_)
  refine lv_aload_n hx hb dX10_keepOf_9 rfl (lv_at lv 2 rfl) ?_
  refine lv_aload_n hx hb dX10_keepOf_10 rfl (lv_at lv 2 rfl) ?_
  refine lv_iconst (v := (0 : Int32)) hx hb dX10_keepOf_11 (by decide) ?_
  refine x_cont_i Dy (x_runV (As := [.int (0 : Int32)]) (rest := [.ref (wad (wdM E) 0)]) C Dy (m_X10_joyBy E l _ _ (0 : Int32) _ hwp) (cw_X10_179 C rfl rfl ⟨Nat.le_trans (Nat.le_of_ble_eq_true rfl) hR.1, Nat.le_trans (Nat.le_of_ble_eq_true rfl) hR.2⟩) wm_0 rfl rfl lv.1 rfl (Nat.le_of_ble_eq_true rfl) dX10_keepOf_12 ⟨Nat.zero_le _, Nat.zero_le _⟩) (fun r24 h25 hl25 H locs hwp Dy => ?_)
  obtain ⟨rfl, rfl, hwp⟩ := hwp
  refine pf_X10_199_0 C Dy dX10_keepOf_15 (fun H locs Dy => ?_)
  refine lv_iconst (v := (1 : Int32)) hx hb dX10_keepOf_18 (by decide) ?_
  refine lv_istore (lv' := [(4, .int (1 : Int32)), (3, .int (0 : Int32)), (2, .int r22), (0, .ref (wad (wdM E) 0)), (1, .int v1)]) hx hb dX10_keepOf_19 lv (by decide) rfl (fun ls lv => ?_)
  obtain ⟨n0, hwp⟩ := hwp
  exact t_X10_keepOf_21 E C hR Qp n0 (up2 h 0 17 r24) r22 (0 : Int32) (1 : Int32) _ _ _ Dy (lv_sub lv [3, 2, 1, 0] rfl) hwp
def p_X10_keep (h : Mem) (v1 : Int32) (v2 : Int32) (Qp : Int32 → Mem → Prop) : Prop := (p_X10_find h (fun h2 => (p_X10_isYear v1 (fun r3 => ((r3 = 0 → Qp (-2 : Int32) h2) ∧ (¬ (r3 = 0) → (p_X10_isTwo v2 (fun r6 => ((r6 = 0 → Qp (-2 : Int32) h2) ∧ (¬ (r6 = 0) → (p_X10_keepOf h2 v1 (fun r9 h10 => Qp (if v2 = 0 then r9 else (h10 0 17)) h10))))))))))))
set_option maxHeartbeats 4000000 in
set_option maxRecDepth 100000 in
theorem m_X10_keep (E : xE) (l : Launch) (h : Mem) (hl : MemL) (v1 : Int32) (v2 : Int32) (Qp : Int32 → Mem → Prop) (hwp : p_X10_keep h v1 v2 Qp) : Met l yX10_keep (wsU yX10_keep cX10_keep 4 (some .int)) ({ frames := 7, cells := 0, slots := 0, locals := 158 } : Room) (mPc (wdM E) [.ref (wad (wdM E) 0), .int v1, .int v2] h hl) (mQi (wdM E) (fun r h1 hl1 => hl = hl1 ∧ Qp r h1)) 0 0 (wA (wdM E)) := by
  refine x_met RX10 [(0, .ref (wad (wdM E) 0)), (1, .int v1), (2, .int v2)] (by decide) rfl (Nat.le_of_ble_eq_true rfl) rfl ?_
  intro p e s m args below meth c ls C Dy lv
  have hx := C.x
  have hb := C.b
  have hR : 7 ≤ ({ frames := 7, cells := 0, slots := 0, locals := 158 } : Room).frames ∧ 158 ≤ ({ frames := 7, cells := 0, slots := 0, locals := 158 } : Room).locals := ⟨Nat.le_refl _, Nat.le_refl _⟩
  unfold p_X10_keep at hwp
  refine lv_aload_n hx hb dX10_keep_0 rfl (lv_at lv 0 rfl) ?_
  refine x_cont_v Dy (x_runV (As := []) (rest := []) C Dy (m_X10_find E l _ _ _ hwp) (cw_X10_152 C rfl rfl ⟨Nat.le_trans (Nat.le_of_ble_eq_true rfl) hR.1, Nat.le_trans (Nat.le_of_ble_eq_true rfl) hR.2⟩) wm_0 rfl rfl lv.1 rfl (Nat.le_of_ble_eq_true rfl) dX10_keep_1 ⟨Nat.zero_le _, Nat.zero_le _⟩) (fun h2 hl2 H locs hwp Dy => ?_)
  obtain ⟨rfl, hwp⟩ := hwp
  refine lv_iload_n hx hb dX10_keep_4 rfl (lv_at lv 1 rfl) ?_
  refine x_cont_z Dy (x_runS (As := [.int v1]) (rest := []) C Dy (m_X10_isYear E l _ _ v1 _ hwp) (cw_X10_130 C rfl rfl ⟨Nat.le_trans (Nat.le_of_ble_eq_true rfl) hR.1, Nat.le_trans (Nat.le_of_ble_eq_true rfl) hR.2⟩) rfl lv.1 rfl (Nat.le_of_ble_eq_true rfl) dX10_keep_5 ⟨Nat.zero_le _, Nat.zero_le _⟩) (fun r3 h4 hl4 H locs zr3 hwp Dy => ?_)
  obtain ⟨rfl, rfl, hwp⟩ := hwp
  refine lv_if_eq (tgt := 18) hx hb dX10_keep_8 (by decide) (fun c5 => ?_) (fun c5 => ?_)
  · have hwp := hwp.1 c5
    refine lv_bipush (v := (-2 : Int32)) hx hb dX10_keep_18 (by decide) ?_
    exact x_iret C Dy ⟨rfl, hwp⟩ dX10_keep_20
  · have hwp := hwp.2 c5
    refine lv_iload_n hx hb dX10_keep_11 rfl (lv_at lv 2 rfl) ?_
    refine x_cont_z Dy (x_runS (As := [.int v2]) (rest := []) C Dy (m_X10_isTwo E l _ _ v2 _ hwp) (cw_X10_95 C rfl rfl ⟨Nat.le_trans (Nat.le_of_ble_eq_true rfl) hR.1, Nat.le_trans (Nat.le_of_ble_eq_true rfl) hR.2⟩) rfl lv.1 rfl (Nat.le_of_ble_eq_true rfl) dX10_keep_12 ⟨Nat.zero_le _, Nat.zero_le _⟩) (fun r6 h7 hl7 H locs zr6 hwp Dy => ?_)
    obtain ⟨rfl, rfl, hwp⟩ := hwp
    refine lv_if_ne (tgt := 21) hx hb dX10_keep_15 (by decide) (fun c8 => ?_) (fun c8 => ?_)
    · have hwp := hwp.2 c8
      refine lv_aload_n hx hb dX10_keep_21 rfl (lv_at lv 0 rfl) ?_
      refine lv_iload_n hx hb dX10_keep_22 rfl (lv_at lv 1 rfl) ?_
      refine x_cont_i Dy (x_runV (As := [.int v1]) (rest := []) C Dy (m_X10_keepOf E l _ _ v1 _ hwp) (cw_X10_202 C rfl rfl ⟨Nat.le_trans (Nat.le_of_ble_eq_true rfl) hR.1, Nat.le_trans (Nat.le_of_ble_eq_true rfl) hR.2⟩) wm_0 rfl rfl lv.1 rfl (Nat.le_of_ble_eq_true rfl) dX10_keep_23 ⟨Nat.zero_le _, Nat.zero_le _⟩) (fun r9 h10 hl10 H locs hwp Dy => ?_)
      obtain ⟨rfl, hwp⟩ := hwp
      refine lv_istore_n (lv' := [(3, .int r9), (0, .ref (wad (wdM E) 0)), (1, .int v1), (2, .int v2)]) hx hb dX10_keep_26 rfl lv (by decide) rfl (fun ls lv => ?_)
      refine lv_iload_n hx hb dX10_keep_27 rfl (lv_at lv 3 rfl) ?_
      refine lv_if_ne (tgt := 35) hx hb dX10_keep_28 (by decide) (fun c11 => ?_) (fun c11 => ?_)
      · try simp only [if_neg c11] at hwp
        refine lv_aload_n hx hb dX10_keep_35 rfl (lv_at lv 1 rfl) ?_
        refine gf_X10_199_0 C Dy dX10_keep_36 ?_
        exact x_iret C Dy ⟨rfl, hwp⟩ dX10_keep_39
      · try simp only [if_pos c11] at hwp
        refine lv_iload_n hx hb dX10_keep_31 rfl (lv_at lv 0 rfl) ?_
        refine lv_goto (tgt := 39) hx hb dX10_keep_32 (by decide) ?_
        exact x_iret C Dy ⟨rfl, hwp⟩ dX10_keep_39
    · have hwp := hwp.1 c8
      refine lv_bipush (v := (-2 : Int32)) hx hb dX10_keep_18 (by decide) ?_
      exact x_iret C Dy ⟨rfl, hwp⟩ dX10_keep_20
def b_X10_unfolds_90 (h : Mem) (v1 : Int32) (v4 : Int32) (v5 : Int32) (w0 : Int32) (w1 : Int32) (w2 : Int32) (K43 : Mem → Int32 → Int32 → Prop) (K54 : Mem → Int32 → Int32 → Int32 → Prop) (Qp : Mem → Prop) : Prop := (vp_in w2 4 ∧ K54 (up2 h 15 w2.toNatClampNeg (w1 + w0)) v1 v4 (v5 + (1 : Int32)))
def b_X10_unfolds_54 : Nat → Mem → Int32 → Int32 → Int32 → (Mem → Int32 → Int32 → Prop) → (Mem → Prop) → Prop
  | 0 => fun _ _ _ _ _ _ => False
  | n + 1 => fun h v1 v4 v5 K43 Qp => ((v1 ≤ v5 → K43 h v1 (v4 + (-1 : Int32))) ∧ (¬ (v1 ≤ v5) → (vp_in v5 4 ∧ (vp_in v5 4 ∧ (vp_in v4 4 ∧ b_X10_unfolds_90 h v1 v4 v5 (if (h 15 v5.toNatClampNeg) < (h 15 v4.toNatClampNeg) then (0 : Int32) else (1 : Int32)) (h 15 v5.toNatClampNeg) v5 K43 (fun h v1 v4 v5 => b_X10_unfolds_54 n h v1 v4 v5 K43 Qp) Qp)))))
def b_X10_unfolds_43 : Nat → Mem → Int32 → Int32 → (Mem → Prop) → Prop
  | 0 => fun _ _ _ _ => False
  | n + 1 => fun h v1 v4 Qp => ((v4 < 0 → Qp h) ∧ (¬ (v4 < 0) → (∃ n54, b_X10_unfolds_54 n54 h v1 v4 (v4 + (1 : Int32)) (fun h v1 v4 => b_X10_unfolds_43 n h v1 v4 Qp) Qp)))
def b_X10_unfolds_7 : Nat → Mem → Int32 → Int32 → Int32 → (Mem → Prop) → Prop
  | 0 => fun _ _ _ _ _ => False
  | n + 1 => fun h v1 v3 v4 Qp => ((v4 < 0 → (∃ n43, b_X10_unfolds_43 n43 h v1 (v1 - (1 : Int32)) Qp)) ∧ (¬ (v4 < 0) → ((¬ (v1 - v4) = 0) ∧ (vp_in v4 4 ∧ ((¬ (v1 - v4) = 0) ∧ b_X10_unfolds_7 n (up2 h 15 v4.toNatClampNeg (v3 - v3 / (v1 - v4) * (v1 - v4))) v1 (v3 / (v1 - v4)) (v4 + (-1 : Int32)) Qp)))))
def p_X10_unfolds (h : Mem) (v1 : Int32) (v2 : Int32) (Qp : Mem → Prop) : Prop := (∃ n7, b_X10_unfolds_7 n7 h v1 v2 (v1 - (1 : Int32)) Qp)
set_option maxHeartbeats 4000000 in
set_option maxRecDepth 100000 in
theorem t_X10_unfolds_90 (E : xE) {p : Program} {l : Launch} {e : Env} {R : Room} {s : State} {m : MethodId} {args : Array Value} {below : List Frame} {meth : Method} {c : Code} (C : mC (wdM E) p s m meth c args cX10_unfolds 6 RX10 none) (hR : 0 ≤ R.frames ∧ 0 ≤ R.locals) {hl : MemL} (Qp : Mem → Prop) (K43 : Mem → Int32 → Int32 → Prop) (K54 : Mem → Int32 → Int32 → Int32 → Prop) (hK43 : ∀ (h : Mem) (v1 : Int32) (v4 : Int32) (H : Heap) (locs : List Loc) (ls : Array Slot), mD (wdM E) h hl s H locs → lv_has ls 6 [(0, .ref (wad (wdM E) 0)), (1, .int v1), (4, .int v4)] → K43 h v1 v4 → W p l e R s m args below meth c H locs 0 0 (MQ below (mQv (wdM E) (fun h1 hl1 => hl = hl1 ∧ Qp h1)) args s 0 0 (wA (wdM E))) (F0 m 43 ls [])) (hK54 : ∀ (h : Mem) (v1 : Int32) (v4 : Int32) (v5 : Int32) (H : Heap) (locs : List Loc) (ls : Array Slot), mD (wdM E) h hl s H locs → lv_has ls 6 [(0, .ref (wad (wdM E) 0)), (1, .int v1), (4, .int v4), (5, .int v5)] → K54 h v1 v4 v5 → W p l e R s m args below meth c H locs 0 0 (MQ below (mQv (wdM E) (fun h1 hl1 => hl = hl1 ∧ Qp h1)) args s 0 0 (wA (wdM E))) (F0 m 54 ls [])) : ∀ (h : Mem) (v1 : Int32) (v4 : Int32) (v5 : Int32) (w0 : Int32) (w1 : Int32) (w2 : Int32) (H : Heap) (locs : List Loc) (ls : Array Slot), mD (wdM E) h hl s H locs → lv_has ls 6 [(0, .ref (wad (wdM E) 0)), (1, .int v1), (4, .int v4), (5, .int v5)] → b_X10_unfolds_90 h v1 v4 v5 w0 w1 w2 K43 K54 Qp → W p l e R s m args below meth c H locs 0 0 (MQ below (mQv (wdM E) (fun h1 hl1 => hl = hl1 ∧ Qp h1)) args s 0 0 (wA (wdM E))) (F0 m 90 ls [.int w0, .int w1, .int w2, .ref (wad (wdM E) 15)]) := by
  have hx := C.x
  have hb := C.b
  intro h v1 v4 v5 w0 w1 w2 H locs ls Dy lv hwp
  unfold b_X10_unfolds_90 at hwp
  refine lv_iadd hx hb dX10_unfolds_90 ?_
  obtain ⟨g11, hwp⟩ := hwp
  refine x_iast C Dy wma_15 g11 dX10_unfolds_91 (fun H locs Dy => ?_)
  refine lv_iinc (v := (v5 + (1 : Int32))) (lv' := [(5, .int (v5 + (1 : Int32))), (0, .ref (wad (wdM E) 0)), (1, .int v1), (4, .int v4)]) hx hb dX10_unfolds_92 lv (k := 3) rfl rfl (by decide) rfl (fun ls lv => ?_)
  refine lv_goto (tgt := 54) hx hb dX10_unfolds_95 (by decide) ?_
  exact hK54 (up2 h 15 w2.toNatClampNeg (w1 + w0)) v1 v4 (v5 + (1 : Int32)) _ _ _ Dy (lv_sub lv [1, 2, 3, 0] rfl) hwp
set_option maxHeartbeats 4000000 in
set_option maxRecDepth 100000 in
theorem t_X10_unfolds_54 (E : xE) {p : Program} {l : Launch} {e : Env} {R : Room} {s : State} {m : MethodId} {args : Array Value} {below : List Frame} {meth : Method} {c : Code} (C : mC (wdM E) p s m meth c args cX10_unfolds 6 RX10 none) (hR : 0 ≤ R.frames ∧ 0 ≤ R.locals) {hl : MemL} (Qp : Mem → Prop) (K43 : Mem → Int32 → Int32 → Prop) (hK43 : ∀ (h : Mem) (v1 : Int32) (v4 : Int32) (H : Heap) (locs : List Loc) (ls : Array Slot), mD (wdM E) h hl s H locs → lv_has ls 6 [(0, .ref (wad (wdM E) 0)), (1, .int v1), (4, .int v4)] → K43 h v1 v4 → W p l e R s m args below meth c H locs 0 0 (MQ below (mQv (wdM E) (fun h1 hl1 => hl = hl1 ∧ Qp h1)) args s 0 0 (wA (wdM E))) (F0 m 43 ls [])) : ∀ (n : Nat) (h : Mem) (v1 : Int32) (v4 : Int32) (v5 : Int32) (H : Heap) (locs : List Loc) (ls : Array Slot), mD (wdM E) h hl s H locs → lv_has ls 6 [(0, .ref (wad (wdM E) 0)), (1, .int v1), (4, .int v4), (5, .int v5)] → b_X10_unfolds_54 n h v1 v4 v5 K43 Qp → W p l e R s m args below meth c H locs 0 0 (MQ below (mQv (wdM E) (fun h1 hl1 => hl = hl1 ∧ Qp h1)) args s 0 0 (wA (wdM E))) (F0 m 54 ls []) := by
  have hx := C.x
  have hb := C.b
  intro n
  induction n with
  | zero => intro h v1 v4 v5 H locs ls Dy lv hwp; exact hwp.elim
  | succ n ih =>
    intro h v1 v4 v5 H locs ls Dy lv hwp
    simp only [b_X10_unfolds_54] at hwp
    refine lv_iload hx hb dX10_unfolds_54 (lv_at lv 3 rfl) ?_
    refine lv_iload_n hx hb dX10_unfolds_56 rfl (lv_at lv 1 rfl) ?_
    refine lv_icmp_ge (tgt := 98) hx hb dX10_unfolds_57 (by decide) (fun c6 => ?_) (fun c6 => ?_)
    · have hwp := hwp.1 c6
      refine lv_iinc (v := (v4 + (-1 : Int32))) (lv' := [(4, .int (v4 + (-1 : Int32))), (0, .ref (wad (wdM E) 0)), (1, .int v1), (5, .int v5)]) hx hb dX10_unfolds_98 lv (k := 2) rfl rfl (by decide) rfl (fun ls lv => ?_)
      refine lv_goto (tgt := 43) hx hb dX10_unfolds_101 (by decide) ?_
      exact hK43 h v1 (v4 + (-1 : Int32)) _ _ _ Dy (lv_sub lv [1, 2, 0] rfl) hwp
    · have hwp := hwp.2 c6
      refine lv_aload_n hx hb dX10_unfolds_60 rfl (lv_at lv 0 rfl) ?_
      refine gf_X10_52_0 C Dy dX10_unfolds_61 ?_
      refine lv_iload hx hb dX10_unfolds_64 (lv_at lv 3 rfl) ?_
      refine lv_dup2_11 hx hb dX10_unfolds_66 rfl rfl ?_
      obtain ⟨g7, hwp⟩ := hwp
      refine x_iald C Dy wma_15 g7 dX10_unfolds_67 ?_
      refine lv_aload_n hx hb dX10_unfolds_68 rfl (lv_at lv 0 rfl) ?_
      refine gf_X10_52_0 C Dy dX10_unfolds_69 ?_
      refine lv_iload hx hb dX10_unfolds_72 (lv_at lv 3 rfl) ?_
      obtain ⟨g8, hwp⟩ := hwp
      refine x_iald C Dy wma_15 g8 dX10_unfolds_74 ?_
      refine lv_aload_n hx hb dX10_unfolds_75 rfl (lv_at lv 0 rfl) ?_
      refine gf_X10_52_0 C Dy dX10_unfolds_76 ?_
      refine lv_iload hx hb dX10_unfolds_79 (lv_at lv 2 rfl) ?_
      obtain ⟨g9, hwp⟩ := hwp
      refine x_iald C Dy wma_15 g9 dX10_unfolds_81 ?_
      refine lv_icmp_lt (tgt := 89) hx hb dX10_unfolds_82 (by decide) (fun c10 => ?_) (fun c10 => ?_)
      · try simp only [if_pos c10] at hwp
        refine lv_iconst (v := (0 : Int32)) hx hb dX10_unfolds_89 (by decide) ?_
        exact t_X10_unfolds_90 E C hR Qp K43 (fun h v1 v4 v5 => b_X10_unfolds_54 n h v1 v4 v5 K43 Qp) hK43 (fun h v1 v4 v5 H locs ls Dy lv hwp => ih h v1 v4 v5 H locs ls Dy lv hwp) h v1 v4 v5 (0 : Int32) (h 15 v5.toNatClampNeg) v5 _ _ _ Dy (lv_sub lv [0, 1, 2, 3] rfl) hwp
      · try simp only [if_neg c10] at hwp
        refine lv_iconst (v := (1 : Int32)) hx hb dX10_unfolds_85 (by decide) ?_
        refine lv_goto (tgt := 90) hx hb dX10_unfolds_86 (by decide) ?_
        exact t_X10_unfolds_90 E C hR Qp K43 (fun h v1 v4 v5 => b_X10_unfolds_54 n h v1 v4 v5 K43 Qp) hK43 (fun h v1 v4 v5 H locs ls Dy lv hwp => ih h v1 v4 v5 H locs ls Dy lv hwp) h v1 v4 v5 (1 : Int32) (h 15 v5.toNatClampNeg) v5 _ _ _ Dy (lv_sub lv [0, 1, 2, 3] rfl) hwp
set_option maxHeartbeats 4000000 in
set_option maxRecDepth 100000 in
theorem t_X10_unfolds_43 (E : xE) {p : Program} {l : Launch} {e : Env} {R : Room} {s : State} {m : MethodId} {args : Array Value} {below : List Frame} {meth : Method} {c : Code} (C : mC (wdM E) p s m meth c args cX10_unfolds 6 RX10 none) (hR : 0 ≤ R.frames ∧ 0 ≤ R.locals) {hl : MemL} (Qp : Mem → Prop) : ∀ (n : Nat) (h : Mem) (v1 : Int32) (v4 : Int32) (H : Heap) (locs : List Loc) (ls : Array Slot), mD (wdM E) h hl s H locs → lv_has ls 6 [(0, .ref (wad (wdM E) 0)), (1, .int v1), (4, .int v4)] → b_X10_unfolds_43 n h v1 v4 Qp → W p l e R s m args below meth c H locs 0 0 (MQ below (mQv (wdM E) (fun h1 hl1 => hl = hl1 ∧ Qp h1)) args s 0 0 (wA (wdM E))) (F0 m 43 ls []) := by
  have hx := C.x
  have hb := C.b
  intro n
  induction n with
  | zero => intro h v1 v4 H locs ls Dy lv hwp; exact hwp.elim
  | succ n ih =>
    intro h v1 v4 H locs ls Dy lv hwp
    simp only [b_X10_unfolds_43] at hwp
    refine lv_iload hx hb dX10_unfolds_43 (lv_at lv 2 rfl) ?_
    refine lv_if_lt (tgt := 104) hx hb dX10_unfolds_45 (by decide) (fun c5 => ?_) (fun c5 => ?_)
    · have hwp := hwp.1 c5
      exact x_vret C Dy ⟨rfl, hwp⟩ dX10_unfolds_104
    · have hwp := hwp.2 c5
      refine lv_iload hx hb dX10_unfolds_48 (lv_at lv 2 rfl) ?_
      refine lv_iconst (v := (1 : Int32)) hx hb dX10_unfolds_50 (by decide) ?_
      refine lv_iadd hx hb dX10_unfolds_51 ?_
      refine lv_istore (lv' := [(5, .int (v4 + (1 : Int32))), (0, .ref (wad (wdM E) 0)), (1, .int v1), (4, .int v4)]) hx hb dX10_unfolds_52 lv (by decide) rfl (fun ls lv => ?_)
      obtain ⟨n0, hwp⟩ := hwp
      exact t_X10_unfolds_54 E C hR Qp (fun h v1 v4 => b_X10_unfolds_43 n h v1 v4 Qp) (fun h v1 v4 H locs ls Dy lv hwp => ih h v1 v4 H locs ls Dy lv hwp) n0 h v1 v4 (v4 + (1 : Int32)) _ _ _ Dy (lv_sub lv [1, 2, 3, 0] rfl) hwp
set_option maxHeartbeats 4000000 in
set_option maxRecDepth 100000 in
theorem t_X10_unfolds_7 (E : xE) {p : Program} {l : Launch} {e : Env} {R : Room} {s : State} {m : MethodId} {args : Array Value} {below : List Frame} {meth : Method} {c : Code} (C : mC (wdM E) p s m meth c args cX10_unfolds 6 RX10 none) (hR : 0 ≤ R.frames ∧ 0 ≤ R.locals) {hl : MemL} (Qp : Mem → Prop) : ∀ (n : Nat) (h : Mem) (v1 : Int32) (v3 : Int32) (v4 : Int32) (H : Heap) (locs : List Loc) (ls : Array Slot), mD (wdM E) h hl s H locs → lv_has ls 6 [(0, .ref (wad (wdM E) 0)), (1, .int v1), (3, .int v3), (4, .int v4)] → b_X10_unfolds_7 n h v1 v3 v4 Qp → W p l e R s m args below meth c H locs 0 0 (MQ below (mQv (wdM E) (fun h1 hl1 => hl = hl1 ∧ Qp h1)) args s 0 0 (wA (wdM E))) (F0 m 7 ls []) := by
  have hx := C.x
  have hb := C.b
  intro n
  induction n with
  | zero => intro h v1 v3 v4 H locs ls Dy lv hwp; exact hwp.elim
  | succ n ih =>
    intro h v1 v3 v4 H locs ls Dy lv hwp
    simp only [b_X10_unfolds_7] at hwp
    refine lv_iload hx hb dX10_unfolds_7 (lv_at lv 3 rfl) ?_
    refine lv_if_lt (tgt := 38) hx hb dX10_unfolds_9 (by decide) (fun c1 => ?_) (fun c1 => ?_)
    · have hwp := hwp.1 c1
      refine lv_iload_n hx hb dX10_unfolds_38 rfl (lv_at lv 1 rfl) ?_
      refine lv_iconst (v := (1 : Int32)) hx hb dX10_unfolds_39 (by decide) ?_
      refine lv_isub hx hb dX10_unfolds_40 ?_
      refine lv_istore (lv' := [(4, .int (v1 - (1 : Int32))), (0, .ref (wad (wdM E) 0)), (1, .int v1), (3, .int v3)]) hx hb dX10_unfolds_41 lv (by decide) rfl (fun ls lv => ?_)
      obtain ⟨n0, hwp⟩ := hwp
      exact t_X10_unfolds_43 E C hR Qp n0 h v1 (v1 - (1 : Int32)) _ _ _ Dy (lv_sub lv [1, 2, 0] rfl) hwp
    · have hwp := hwp.2 c1
      refine lv_aload_n hx hb dX10_unfolds_12 rfl (lv_at lv 0 rfl) ?_
      refine gf_X10_52_0 C Dy dX10_unfolds_13 ?_
      refine lv_iload hx hb dX10_unfolds_16 (lv_at lv 3 rfl) ?_
      refine lv_iload_n hx hb dX10_unfolds_18 rfl (lv_at lv 2 rfl) ?_
      refine lv_iload_n hx hb dX10_unfolds_19 rfl (lv_at lv 1 rfl) ?_
      refine lv_iload hx hb dX10_unfolds_20 (lv_at lv 3 rfl) ?_
      refine lv_isub hx hb dX10_unfolds_22 ?_
      obtain ⟨g2, hwp⟩ := hwp
      refine lv_irem hx hb dX10_unfolds_23 g2 ?_
      obtain ⟨g3, hwp⟩ := hwp
      refine x_iast C Dy wma_15 g3 dX10_unfolds_24 (fun H locs Dy => ?_)
      refine lv_iload_n hx hb dX10_unfolds_25 rfl (lv_at lv 2 rfl) ?_
      refine lv_iload_n hx hb dX10_unfolds_26 rfl (lv_at lv 1 rfl) ?_
      refine lv_iload hx hb dX10_unfolds_27 (lv_at lv 3 rfl) ?_
      refine lv_isub hx hb dX10_unfolds_29 ?_
      obtain ⟨g4, hwp⟩ := hwp
      refine lv_idiv hx hb dX10_unfolds_30 g4 ?_
      refine lv_istore_n (lv' := [(3, .int (v3 / (v1 - v4))), (0, .ref (wad (wdM E) 0)), (1, .int v1), (4, .int v4)]) hx hb dX10_unfolds_31 rfl lv (by decide) rfl (fun ls lv => ?_)
      refine lv_iinc (v := (v4 + (-1 : Int32))) (lv' := [(4, .int (v4 + (-1 : Int32))), (3, .int (v3 / (v1 - v4))), (0, .ref (wad (wdM E) 0)), (1, .int v1)]) hx hb dX10_unfolds_32 lv (k := 3) rfl rfl (by decide) rfl (fun ls lv => ?_)
      refine lv_goto (tgt := 7) hx hb dX10_unfolds_35 (by decide) ?_
      exact ih (up2 h 15 v4.toNatClampNeg (v3 - v3 / (v1 - v4) * (v1 - v4))) v1 (v3 / (v1 - v4)) (v4 + (-1 : Int32)) _ _ _ Dy (lv_sub lv [2, 3, 1, 0] rfl) hwp
set_option maxHeartbeats 4000000 in
set_option maxRecDepth 100000 in
theorem m_X10_unfolds (E : xE) (l : Launch) (h : Mem) (hl : MemL) (v1 : Int32) (v2 : Int32) (Qp : Mem → Prop) (hwp : p_X10_unfolds h v1 v2 Qp) : Met l yX10_unfolds (wsU yX10_unfolds cX10_unfolds 6 none) ({ frames := 0, cells := 0, slots := 0, locals := 0 } : Room) (mPc (wdM E) [.ref (wad (wdM E) 0), .int v1, .int v2] h hl) (mQv (wdM E) (fun h1 hl1 => hl = hl1 ∧ Qp h1)) 0 0 (wA (wdM E)) := by
  refine x_met RX10 [(0, .ref (wad (wdM E) 0)), (1, .int v1), (2, .int v2)] (by decide) rfl (Nat.le_of_ble_eq_true rfl) rfl ?_
  intro p e s m args below meth c ls C Dy lv
  have hx := C.x
  have hb := C.b
  have hR : 0 ≤ ({ frames := 0, cells := 0, slots := 0, locals := 0 } : Room).frames ∧ 0 ≤ ({ frames := 0, cells := 0, slots := 0, locals := 0 } : Room).locals := ⟨Nat.le_refl _, Nat.le_refl _⟩
  unfold p_X10_unfolds at hwp
  refine lv_iload_n hx hb dX10_unfolds_0 rfl (lv_at lv 2 rfl) ?_
  refine lv_istore_n (lv' := [(3, .int v2), (0, .ref (wad (wdM E) 0)), (1, .int v1), (2, .int v2)]) hx hb dX10_unfolds_1 rfl lv (by decide) rfl (fun ls lv => ?_)
  refine lv_iload_n hx hb dX10_unfolds_2 rfl (lv_at lv 2 rfl) ?_
  refine lv_iconst (v := (1 : Int32)) hx hb dX10_unfolds_3 (by decide) ?_
  refine lv_isub hx hb dX10_unfolds_4 ?_
  refine lv_istore (lv' := [(4, .int (v1 - (1 : Int32))), (3, .int v2), (0, .ref (wad (wdM E) 0)), (1, .int v1), (2, .int v2)]) hx hb dX10_unfolds_5 lv (by decide) rfl (fun ls lv => ?_)
  obtain ⟨n0, hwp⟩ := hwp
  exact t_X10_unfolds_7 E C hR Qp n0 h v1 v2 (v1 - (1 : Int32)) _ _ _ Dy (lv_sub lv [2, 3, 1, 0] rfl) hwp
