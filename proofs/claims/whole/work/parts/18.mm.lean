def b_X10_bindsOne_6 : Nat → Mem → Int32 → Int32 → Int32 → Int32 → (Int32 → Prop) → Prop
  | 0 => fun _ _ _ _ _ _ => False
  | n + 1 => fun h v2 v3 v4 v5 Qp => (((13 : Int32) ≤ v5 → Qp (0 : Int32)) ∧ (¬ ((13 : Int32) ≤ v5) → (p_X10_isLaw h v4 (fun r2 => ((r2 = 0 → Qp (0 : Int32)) ∧ (¬ (r2 = 0) → (p_X10_bindsAlone h v4 v2 v3 (fun r5 => ((r5 = 0 → Qp (0 : Int32)) ∧ (¬ (r5 = 0) → (vp_in (((5 : Int32) * v4) + (4 : Int32)) 60 ∧ (∀ x9 : Int32, x9 = (h 8 (((5 : Int32) * v4) + (4 : Int32)).toNatClampNeg) → ((x9 = (-1 : Int32) → Qp (1 : Int32)) ∧ (¬ (x9 = (-1 : Int32)) → b_X10_bindsOne_6 n h v2 v3 x9 (v5 + (1 : Int32)) Qp))))))))))))))
def p_X10_bindsOne (h : Mem) (v1 : Int32) (v2 : Int32) (v3 : Int32) (Qp : Int32 → Prop) : Prop := (∃ n6, b_X10_bindsOne_6 n6 h v2 v3 v1 (0 : Int32) Qp)
set_option maxHeartbeats 4000000 in
set_option maxRecDepth 100000 in
theorem t_X10_bindsOne_6 (E : xE) {p : Program} {l : Launch} {e : Env} {R : Room} {s : State} {m : MethodId} {args : Array Value} {below : List Frame} {meth : Method} {c : Code} (C : mC (wdM E) p s m meth c args cX10_bindsOne 6 RX10 (some .boolean)) (hR : 2 ≤ R.frames ∧ 46 ≤ R.locals) {h : Mem} {hl : MemL} (Qp : Int32 → Prop) : ∀ (n : Nat) (v2 : Int32) (v3 : Int32) (v4 : Int32) (v5 : Int32) (H : Heap) (locs : List Loc) (ls : Array Slot), mD (wdM E) h hl s H locs → lv_has ls 6 [(0, .ref (wad (wdM E) 0)), (2, .int v2), (3, .int v3), (4, .int v4), (5, .int v5)] → b_X10_bindsOne_6 n h v2 v3 v4 v5 Qp → W p l e R s m args below meth c H locs 0 0 (MQ below (mQz (wdM E) (fun r h1 hl1 => h = h1 ∧ hl = hl1 ∧ Qp r)) args s 0 0 (wA (wdM E))) (F0 m 6 ls []) := by
  have hx := C.x
  have hb := C.b
  intro n
  induction n with
  | zero => intro v2 v3 v4 v5 H locs ls Dy lv hwp; exact hwp.elim
  | succ n ih =>
    intro v2 v3 v4 v5 H locs ls Dy lv hwp
    simp only [b_X10_bindsOne_6] at hwp
    refine lv_iload hx hb dX10_bindsOne_6 (lv_at lv 4 rfl) ?_
    refine lv_bipush (v := (13 : Int32)) hx hb dX10_bindsOne_8 (by decide) ?_
    refine lv_icmp_ge (tgt := 62) hx hb dX10_bindsOne_10 (by decide) (fun c1 => ?_) (fun c1 => ?_)
    · have hwp := hwp.1 c1
      refine lv_iconst (v := (0 : Int32)) hx hb dX10_bindsOne_62 (by decide) ?_
      exact x_zret C Dy z01_0 ⟨rfl, rfl, hwp⟩ dX10_bindsOne_63
    · have hwp := hwp.2 c1
      refine lv_aload_n hx hb dX10_bindsOne_13 rfl (lv_at lv 0 rfl) ?_
      refine lv_iload hx hb dX10_bindsOne_14 (lv_at lv 3 rfl) ?_
      refine x_cont_z Dy (x_runV (As := [.int v4]) (rest := []) C Dy (m_X10_isLaw E l _ _ v4 _ hwp) (cw_X10_125 C rfl rfl ⟨Nat.le_trans (Nat.le_of_ble_eq_true rfl) hR.1, Nat.le_trans (Nat.le_of_ble_eq_true rfl) hR.2⟩) wm_0 rfl rfl lv.1 rfl (Nat.le_of_ble_eq_true rfl) dX10_bindsOne_16 ⟨Nat.zero_le _, Nat.zero_le _⟩) (fun r2 h3 hl3 H locs zr2 hwp Dy => ?_)
      obtain ⟨rfl, rfl, hwp⟩ := hwp
      refine lv_if_eq (tgt := 33) hx hb dX10_bindsOne_19 (by decide) (fun c4 => ?_) (fun c4 => ?_)
      · have hwp := hwp.1 c4
        refine lv_iconst (v := (0 : Int32)) hx hb dX10_bindsOne_33 (by decide) ?_
        exact x_zret C Dy z01_0 ⟨rfl, rfl, hwp⟩ dX10_bindsOne_34
      · have hwp := hwp.2 c4
        refine lv_aload_n hx hb dX10_bindsOne_22 rfl (lv_at lv 0 rfl) ?_
        refine lv_iload hx hb dX10_bindsOne_23 (lv_at lv 3 rfl) ?_
        refine lv_iload_n hx hb dX10_bindsOne_25 rfl (lv_at lv 1 rfl) ?_
        refine lv_iload_n hx hb dX10_bindsOne_26 rfl (lv_at lv 2 rfl) ?_
        refine x_cont_z Dy (x_runV (As := [.int v4, .int v2, .int v3]) (rest := []) C Dy (m_X10_bindsAlone E l _ _ v4 v2 v3 _ hwp) (cw_X10_145 C rfl rfl ⟨Nat.le_trans (Nat.le_of_ble_eq_true rfl) hR.1, Nat.le_trans (Nat.le_of_ble_eq_true rfl) hR.2⟩) wm_0 rfl rfl lv.1 rfl (Nat.le_of_ble_eq_true rfl) dX10_bindsOne_27 ⟨Nat.zero_le _, Nat.zero_le _⟩) (fun r5 h6 hl6 H locs zr5 hwp Dy => ?_)
        obtain ⟨rfl, rfl, hwp⟩ := hwp
        refine lv_if_ne (tgt := 35) hx hb dX10_bindsOne_30 (by decide) (fun c7 => ?_) (fun c7 => ?_)
        · have hwp := hwp.2 c7
          refine lv_aload_n hx hb dX10_bindsOne_35 rfl (lv_at lv 0 rfl) ?_
          refine gf_X10_31_0 C Dy dX10_bindsOne_36 ?_
          refine lv_iconst (v := (5 : Int32)) hx hb dX10_bindsOne_39 (by decide) ?_
          refine lv_iload hx hb dX10_bindsOne_40 (lv_at lv 3 rfl) ?_
          refine lv_imul hx hb dX10_bindsOne_42 ?_
          refine lv_iconst (v := (4 : Int32)) hx hb dX10_bindsOne_43 (by decide) ?_
          refine lv_iadd hx hb dX10_bindsOne_44 ?_
          obtain ⟨g8, hwp⟩ := hwp
          refine x_iald C Dy wma_8 g8 dX10_bindsOne_45 ?_
          refine lv_topi (fun x9 ex9 => ?_)
          have hwp := hwp x9 ex9
          refine lv_istore (lv' := [(4, .int x9), (0, .ref (wad (wdM E) 0)), (2, .int v2), (3, .int v3), (5, .int v5)]) hx hb dX10_bindsOne_46 lv (by decide) rfl (fun ls lv => ?_)
          refine lv_iload hx hb dX10_bindsOne_48 (lv_at lv 0 rfl) ?_
          refine lv_iconst (v := (-1 : Int32)) hx hb dX10_bindsOne_50 (by decide) ?_
          refine lv_icmp_ne (tgt := 56) hx hb dX10_bindsOne_51 (by decide) (fun c10 => ?_) (fun c10 => ?_)
          · have hwp := hwp.2 c10
            refine lv_iinc (v := (v5 + (1 : Int32))) (lv' := [(5, .int (v5 + (1 : Int32))), (4, .int x9), (0, .ref (wad (wdM E) 0)), (2, .int v2), (3, .int v3)]) hx hb dX10_bindsOne_56 lv (k := 4) rfl rfl (by decide) rfl (fun ls lv => ?_)
            refine lv_goto (tgt := 6) hx hb dX10_bindsOne_59 (by decide) ?_
            exact ih v2 v3 x9 (v5 + (1 : Int32)) _ _ _ Dy (lv_sub lv [2, 3, 4, 1, 0] rfl) hwp
          · have hwp := hwp.1 c10
            refine lv_iconst (v := (1 : Int32)) hx hb dX10_bindsOne_54 (by decide) ?_
            exact x_zret C Dy z01_1 ⟨rfl, rfl, hwp⟩ dX10_bindsOne_55
        · have hwp := hwp.1 c7
          refine lv_iconst (v := (0 : Int32)) hx hb dX10_bindsOne_33 (by decide) ?_
          exact x_zret C Dy z01_0 ⟨rfl, rfl, hwp⟩ dX10_bindsOne_34
set_option maxHeartbeats 4000000 in
set_option maxRecDepth 100000 in
theorem m_X10_bindsOne (E : xE) (l : Launch) (h : Mem) (hl : MemL) (v1 : Int32) (v2 : Int32) (v3 : Int32) (Qp : Int32 → Prop) (hwp : p_X10_bindsOne h v1 v2 v3 Qp) : Met l yX10_bindsOne (wsU yX10_bindsOne cX10_bindsOne 6 (some .boolean)) ({ frames := 2, cells := 0, slots := 0, locals := 46 } : Room) (mPc (wdM E) [.ref (wad (wdM E) 0), .int v1, .int v2, .int v3] h hl) (mQz (wdM E) (fun r h1 hl1 => h = h1 ∧ hl = hl1 ∧ Qp r)) 0 0 (wA (wdM E)) := by
  refine x_met RX10 [(0, .ref (wad (wdM E) 0)), (1, .int v1), (2, .int v2), (3, .int v3)] (by decide) rfl (Nat.le_of_ble_eq_true rfl) rfl ?_
  intro p e s m args below meth c ls C Dy lv
  have hx := C.x
  have hb := C.b
  have hR : 2 ≤ ({ frames := 2, cells := 0, slots := 0, locals := 46 } : Room).frames ∧ 46 ≤ ({ frames := 2, cells := 0, slots := 0, locals := 46 } : Room).locals := ⟨Nat.le_refl _, Nat.le_refl _⟩
  unfold p_X10_bindsOne at hwp
  refine lv_iload_n hx hb dX10_bindsOne_0 rfl (lv_at lv 1 rfl) ?_
  refine lv_istore (lv' := [(4, .int v1), (0, .ref (wad (wdM E) 0)), (1, .int v1), (2, .int v2), (3, .int v3)]) hx hb dX10_bindsOne_1 lv (by decide) rfl (fun ls lv => ?_)
  refine lv_iconst (v := (0 : Int32)) hx hb dX10_bindsOne_3 (by decide) ?_
  refine lv_istore (lv' := [(5, .int (0 : Int32)), (4, .int v1), (0, .ref (wad (wdM E) 0)), (1, .int v1), (2, .int v2), (3, .int v3)]) hx hb dX10_bindsOne_4 lv (by decide) rfl (fun ls lv => ?_)
  obtain ⟨n0, hwp⟩ := hwp
  exact t_X10_bindsOne_6 E C hR Qp n0 v2 v3 v1 (0 : Int32) _ _ _ Dy (lv_sub lv [2, 4, 5, 1, 0] rfl) hwp
def b_X10_bindsOf_75 (h : Mem) (v1 : Int32) (v2 : Int32) (v4 : Int32) (w0 : Int32) (w1 : Int32) (K5 : Int32 → Int32 → Int32 → Int32 → Prop) (Qp : Int32 → Prop) : Prop := K5 v1 v2 (w1 ||| w0) (v4 + (1 : Int32))
def b_X10_bindsOf_59 (h : Mem) (v1 : Int32) (v2 : Int32) (v3 : Int32) (v4 : Int32) (w0 : Int32) (K5 : Int32 → Int32 → Int32 → Int32 → Prop) (Qp : Int32 → Prop) : Prop := b_X10_bindsOf_75 h v1 v2 v4 (if w0 = 0 then (0 : Int32) else ((1 : Int32) <<< (v4 &&& 31))) v3 K5 Qp
def b_X10_bindsOf_58 (h : Mem) (v1 : Int32) (v2 : Int32) (v3 : Int32) (v4 : Int32) (K5 : Int32 → Int32 → Int32 → Int32 → Prop) (Qp : Int32 → Prop) : Prop := b_X10_bindsOf_59 h v1 v2 v3 v4 (0 : Int32) K5 Qp
def b_X10_bindsOf_5 : Nat → Mem → Int32 → Int32 → Int32 → Int32 → (Int32 → Prop) → Prop
  | 0 => fun _ _ _ _ _ _ => False
  | n + 1 => fun h v1 v2 v3 v4 Qp => (vp_in (0 : Int32) 2 ∧ (((h 7 (0 : Int32).toNatClampNeg) ≤ v4 → Qp v3) ∧ (¬ ((h 7 (0 : Int32).toNatClampNeg) ≤ v4) → (((2 : Int32) ≤ v2 → (vp_in v4 12 ∧ (((h 13 v4.toNatClampNeg) = (1 : Int32) → (vp_in v4 12 ∧ ((v1 < (h 12 v4.toNatClampNeg) → b_X10_bindsOf_58 h v1 v2 v3 v4 (fun v1 v2 v3 v4 => b_X10_bindsOf_5 n h v1 v2 v3 v4 Qp) Qp) ∧ (¬ (v1 < (h 12 v4.toNatClampNeg)) → b_X10_bindsOf_59 h v1 v2 v3 v4 (1 : Int32) (fun v1 v2 v3 v4 => b_X10_bindsOf_5 n h v1 v2 v3 v4 Qp) Qp)))) ∧ (¬ ((h 13 v4.toNatClampNeg) = (1 : Int32)) → b_X10_bindsOf_58 h v1 v2 v3 v4 (fun v1 v2 v3 v4 => b_X10_bindsOf_5 n h v1 v2 v3 v4 Qp) Qp)))) ∧ (¬ ((2 : Int32) ≤ v2) → (p_X10_bindsOne h v4 v1 v2 (fun r8 => b_X10_bindsOf_59 h v1 v2 v3 v4 r8 (fun v1 v2 v3 v4 => b_X10_bindsOf_5 n h v1 v2 v3 v4 Qp) Qp)))))))
def p_X10_bindsOf (h : Mem) (v1 : Int32) (v2 : Int32) (Qp : Int32 → Prop) : Prop := (∃ n5, b_X10_bindsOf_5 n5 h v1 v2 (0 : Int32) (0 : Int32) Qp)
set_option maxHeartbeats 4000000 in
set_option maxRecDepth 100000 in
theorem t_X10_bindsOf_75 (E : xE) {p : Program} {l : Launch} {e : Env} {R : Room} {s : State} {m : MethodId} {args : Array Value} {below : List Frame} {meth : Method} {c : Code} (C : mC (wdM E) p s m meth c args cX10_bindsOf 6 RX10 (some .int)) (hR : 3 ≤ R.frames ∧ 71 ≤ R.locals) {h : Mem} {hl : MemL} (Qp : Int32 → Prop) (K5 : Int32 → Int32 → Int32 → Int32 → Prop) (hK5 : ∀ (v1 : Int32) (v2 : Int32) (v3 : Int32) (v4 : Int32) (H : Heap) (locs : List Loc) (ls : Array Slot), mD (wdM E) h hl s H locs → lv_has ls 6 [(0, .ref (wad (wdM E) 0)), (1, .int v1), (2, .int v2), (3, .int v3), (4, .int v4)] → K5 v1 v2 v3 v4 → W p l e R s m args below meth c H locs 0 0 (MQ below (mQi (wdM E) (fun r h1 hl1 => h = h1 ∧ hl = hl1 ∧ Qp r)) args s 0 0 (wA (wdM E))) (F0 m 5 ls [])) : ∀ (v1 : Int32) (v2 : Int32) (v4 : Int32) (w0 : Int32) (w1 : Int32) (H : Heap) (locs : List Loc) (ls : Array Slot), mD (wdM E) h hl s H locs → lv_has ls 6 [(0, .ref (wad (wdM E) 0)), (1, .int v1), (2, .int v2), (4, .int v4)] → b_X10_bindsOf_75 h v1 v2 v4 w0 w1 K5 Qp → W p l e R s m args below meth c H locs 0 0 (MQ below (mQi (wdM E) (fun r h1 hl1 => h = h1 ∧ hl = hl1 ∧ Qp r)) args s 0 0 (wA (wdM E))) (F0 m 75 ls [.int w0, .int w1]) := by
  have hx := C.x
  have hb := C.b
  intro v1 v2 v4 w0 w1 H locs ls Dy lv hwp
  unfold b_X10_bindsOf_75 at hwp
  refine lv_ior hx hb dX10_bindsOf_75 ?_
  refine lv_istore_n (lv' := [(3, .int (w1 ||| w0)), (0, .ref (wad (wdM E) 0)), (1, .int v1), (2, .int v2), (4, .int v4)]) hx hb dX10_bindsOf_76 rfl lv (by decide) rfl (fun ls lv => ?_)
  refine lv_iinc (v := (v4 + (1 : Int32))) (lv' := [(4, .int (v4 + (1 : Int32))), (3, .int (w1 ||| w0)), (0, .ref (wad (wdM E) 0)), (1, .int v1), (2, .int v2)]) hx hb dX10_bindsOf_77 lv (k := 4) rfl rfl (by decide) rfl (fun ls lv => ?_)
  refine lv_goto (tgt := 5) hx hb dX10_bindsOf_80 (by decide) ?_
  exact hK5 v1 v2 (w1 ||| w0) (v4 + (1 : Int32)) _ _ _ Dy (lv_sub lv [2, 3, 4, 1, 0] rfl) hwp
set_option maxHeartbeats 4000000 in
set_option maxRecDepth 100000 in
theorem t_X10_bindsOf_59 (E : xE) {p : Program} {l : Launch} {e : Env} {R : Room} {s : State} {m : MethodId} {args : Array Value} {below : List Frame} {meth : Method} {c : Code} (C : mC (wdM E) p s m meth c args cX10_bindsOf 6 RX10 (some .int)) (hR : 3 ≤ R.frames ∧ 71 ≤ R.locals) {h : Mem} {hl : MemL} (Qp : Int32 → Prop) (K5 : Int32 → Int32 → Int32 → Int32 → Prop) (hK5 : ∀ (v1 : Int32) (v2 : Int32) (v3 : Int32) (v4 : Int32) (H : Heap) (locs : List Loc) (ls : Array Slot), mD (wdM E) h hl s H locs → lv_has ls 6 [(0, .ref (wad (wdM E) 0)), (1, .int v1), (2, .int v2), (3, .int v3), (4, .int v4)] → K5 v1 v2 v3 v4 → W p l e R s m args below meth c H locs 0 0 (MQ below (mQi (wdM E) (fun r h1 hl1 => h = h1 ∧ hl = hl1 ∧ Qp r)) args s 0 0 (wA (wdM E))) (F0 m 5 ls [])) : ∀ (v1 : Int32) (v2 : Int32) (v3 : Int32) (v4 : Int32) (w0 : Int32) (H : Heap) (locs : List Loc) (ls : Array Slot), mD (wdM E) h hl s H locs → lv_has ls 6 [(0, .ref (wad (wdM E) 0)), (1, .int v1), (2, .int v2), (3, .int v3), (4, .int v4)] → b_X10_bindsOf_59 h v1 v2 v3 v4 w0 K5 Qp → W p l e R s m args below meth c H locs 0 0 (MQ below (mQi (wdM E) (fun r h1 hl1 => h = h1 ∧ hl = hl1 ∧ Qp r)) args s 0 0 (wA (wdM E))) (F0 m 59 ls [.int w0]) := by
  have hx := C.x
  have hb := C.b
  intro v1 v2 v3 v4 w0 H locs ls Dy lv hwp
  unfold b_X10_bindsOf_59 at hwp
  refine lv_istore (lv' := [(5, .int w0), (0, .ref (wad (wdM E) 0)), (1, .int v1), (2, .int v2), (3, .int v3), (4, .int v4)]) hx hb dX10_bindsOf_59 lv (by decide) rfl (fun ls lv => ?_)
  refine lv_iload_n hx hb dX10_bindsOf_61 rfl (lv_at lv 4 rfl) ?_
  refine lv_iload hx hb dX10_bindsOf_62 (lv_at lv 0 rfl) ?_
  refine lv_if_eq (tgt := 74) hx hb dX10_bindsOf_64 (by decide) (fun c10 => ?_) (fun c10 => ?_)
  · try simp only [if_pos c10] at hwp
    refine lv_iconst (v := (0 : Int32)) hx hb dX10_bindsOf_74 (by decide) ?_
    exact t_X10_bindsOf_75 E C hR Qp K5 hK5 v1 v2 v4 (0 : Int32) v3 _ _ _ Dy (lv_sub lv [1, 2, 3, 5] rfl) hwp
  · try simp only [if_neg c10] at hwp
    refine lv_iconst (v := (1 : Int32)) hx hb dX10_bindsOf_67 (by decide) ?_
    refine lv_iload hx hb dX10_bindsOf_68 (lv_at lv 5 rfl) ?_
    refine lv_ishl hx hb dX10_bindsOf_70 ?_
    refine lv_goto (tgt := 75) hx hb dX10_bindsOf_71 (by decide) ?_
    exact t_X10_bindsOf_75 E C hR Qp K5 hK5 v1 v2 v4 ((1 : Int32) <<< (v4 &&& 31)) v3 _ _ _ Dy (lv_sub lv [1, 2, 3, 5] rfl) hwp
set_option maxHeartbeats 4000000 in
set_option maxRecDepth 100000 in
theorem t_X10_bindsOf_58 (E : xE) {p : Program} {l : Launch} {e : Env} {R : Room} {s : State} {m : MethodId} {args : Array Value} {below : List Frame} {meth : Method} {c : Code} (C : mC (wdM E) p s m meth c args cX10_bindsOf 6 RX10 (some .int)) (hR : 3 ≤ R.frames ∧ 71 ≤ R.locals) {h : Mem} {hl : MemL} (Qp : Int32 → Prop) (K5 : Int32 → Int32 → Int32 → Int32 → Prop) (hK5 : ∀ (v1 : Int32) (v2 : Int32) (v3 : Int32) (v4 : Int32) (H : Heap) (locs : List Loc) (ls : Array Slot), mD (wdM E) h hl s H locs → lv_has ls 6 [(0, .ref (wad (wdM E) 0)), (1, .int v1), (2, .int v2), (3, .int v3), (4, .int v4)] → K5 v1 v2 v3 v4 → W p l e R s m args below meth c H locs 0 0 (MQ below (mQi (wdM E) (fun r h1 hl1 => h = h1 ∧ hl = hl1 ∧ Qp r)) args s 0 0 (wA (wdM E))) (F0 m 5 ls [])) : ∀ (v1 : Int32) (v2 : Int32) (v3 : Int32) (v4 : Int32) (H : Heap) (locs : List Loc) (ls : Array Slot), mD (wdM E) h hl s H locs → lv_has ls 6 [(0, .ref (wad (wdM E) 0)), (1, .int v1), (2, .int v2), (3, .int v3), (4, .int v4)] → b_X10_bindsOf_58 h v1 v2 v3 v4 K5 Qp → W p l e R s m args below meth c H locs 0 0 (MQ below (mQi (wdM E) (fun r h1 hl1 => h = h1 ∧ hl = hl1 ∧ Qp r)) args s 0 0 (wA (wdM E))) (F0 m 58 ls []) := by
  have hx := C.x
  have hb := C.b
  intro v1 v2 v3 v4 H locs ls Dy lv hwp
  unfold b_X10_bindsOf_58 at hwp
  refine lv_iconst (v := (0 : Int32)) hx hb dX10_bindsOf_58 (by decide) ?_
  exact t_X10_bindsOf_59 E C hR Qp K5 hK5 v1 v2 v3 v4 (0 : Int32) _ _ _ Dy (lv_sub lv [0, 1, 2, 3, 4] rfl) hwp
set_option maxHeartbeats 4000000 in
set_option maxRecDepth 100000 in
theorem t_X10_bindsOf_5 (E : xE) {p : Program} {l : Launch} {e : Env} {R : Room} {s : State} {m : MethodId} {args : Array Value} {below : List Frame} {meth : Method} {c : Code} (C : mC (wdM E) p s m meth c args cX10_bindsOf 6 RX10 (some .int)) (hR : 3 ≤ R.frames ∧ 71 ≤ R.locals) {h : Mem} {hl : MemL} (Qp : Int32 → Prop) : ∀ (n : Nat) (v1 : Int32) (v2 : Int32) (v3 : Int32) (v4 : Int32) (H : Heap) (locs : List Loc) (ls : Array Slot), mD (wdM E) h hl s H locs → lv_has ls 6 [(0, .ref (wad (wdM E) 0)), (1, .int v1), (2, .int v2), (3, .int v3), (4, .int v4)] → b_X10_bindsOf_5 n h v1 v2 v3 v4 Qp → W p l e R s m args below meth c H locs 0 0 (MQ below (mQi (wdM E) (fun r h1 hl1 => h = h1 ∧ hl = hl1 ∧ Qp r)) args s 0 0 (wA (wdM E))) (F0 m 5 ls []) := by
  have hx := C.x
  have hb := C.b
  intro n
  induction n with
  | zero => intro v1 v2 v3 v4 H locs ls Dy lv hwp; exact hwp.elim
  | succ n ih =>
    intro v1 v2 v3 v4 H locs ls Dy lv hwp
    simp only [b_X10_bindsOf_5] at hwp
    refine lv_iload hx hb dX10_bindsOf_5 (lv_at lv 4 rfl) ?_
    refine lv_aload_n hx hb dX10_bindsOf_7 rfl (lv_at lv 0 rfl) ?_
    refine gf_X10_28_0 C Dy dX10_bindsOf_8 ?_
    refine lv_iconst (v := (0 : Int32)) hx hb dX10_bindsOf_11 (by decide) ?_
    obtain ⟨g1, hwp⟩ := hwp
    refine x_iald C Dy wma_7 g1 dX10_bindsOf_12 ?_
    refine lv_icmp_ge (tgt := 83) hx hb dX10_bindsOf_13 (by decide) (fun c2 => ?_) (fun c2 => ?_)
    · have hwp := hwp.1 c2
      refine lv_iload_n hx hb dX10_bindsOf_83 rfl (lv_at lv 3 rfl) ?_
      exact x_iret C Dy ⟨rfl, rfl, hwp⟩ dX10_bindsOf_84
    · have hwp := hwp.2 c2
      refine lv_iload_n hx hb dX10_bindsOf_16 rfl (lv_at lv 2 rfl) ?_
      refine lv_iconst (v := (2 : Int32)) hx hb dX10_bindsOf_17 (by decide) ?_
      refine lv_icmp_ge (tgt := 32) hx hb dX10_bindsOf_18 (by decide) (fun c3 => ?_) (fun c3 => ?_)
      · have hwp := hwp.1 c3
        refine lv_aload_n hx hb dX10_bindsOf_32 rfl (lv_at lv 0 rfl) ?_
        refine gf_X10_46_0 C Dy dX10_bindsOf_33 ?_
        refine lv_iload hx hb dX10_bindsOf_36 (lv_at lv 4 rfl) ?_
        obtain ⟨g4, hwp⟩ := hwp
        refine x_iald C Dy wma_13 g4 dX10_bindsOf_38 ?_
        refine lv_iconst (v := (1 : Int32)) hx hb dX10_bindsOf_39 (by decide) ?_
        refine lv_icmp_ne (tgt := 58) hx hb dX10_bindsOf_40 (by decide) (fun c5 => ?_) (fun c5 => ?_)
        · have hwp := hwp.2 c5
          exact t_X10_bindsOf_58 E C hR Qp (fun v1 v2 v3 v4 => b_X10_bindsOf_5 n h v1 v2 v3 v4 Qp) (fun v1 v2 v3 v4 H locs ls Dy lv hwp => ih v1 v2 v3 v4 H locs ls Dy lv hwp) v1 v2 v3 v4 _ _ _ Dy (lv_sub lv [0, 1, 2, 3, 4] rfl) hwp
        · have hwp := hwp.1 c5
          refine lv_aload_n hx hb dX10_bindsOf_43 rfl (lv_at lv 0 rfl) ?_
          refine gf_X10_43_0 C Dy dX10_bindsOf_44 ?_
          refine lv_iload hx hb dX10_bindsOf_47 (lv_at lv 4 rfl) ?_
          obtain ⟨g6, hwp⟩ := hwp
          refine x_iald C Dy wma_12 g6 dX10_bindsOf_49 ?_
          refine lv_iload_n hx hb dX10_bindsOf_50 rfl (lv_at lv 1 rfl) ?_
          refine lv_icmp_gt (tgt := 58) hx hb dX10_bindsOf_51 (by decide) (fun c7 => ?_) (fun c7 => ?_)
          · have hwp := hwp.1 c7
            exact t_X10_bindsOf_58 E C hR Qp (fun v1 v2 v3 v4 => b_X10_bindsOf_5 n h v1 v2 v3 v4 Qp) (fun v1 v2 v3 v4 H locs ls Dy lv hwp => ih v1 v2 v3 v4 H locs ls Dy lv hwp) v1 v2 v3 v4 _ _ _ Dy (lv_sub lv [0, 1, 2, 3, 4] rfl) hwp
          · have hwp := hwp.2 c7
            refine lv_iconst (v := (1 : Int32)) hx hb dX10_bindsOf_54 (by decide) ?_
            refine lv_goto (tgt := 59) hx hb dX10_bindsOf_55 (by decide) ?_
            exact t_X10_bindsOf_59 E C hR Qp (fun v1 v2 v3 v4 => b_X10_bindsOf_5 n h v1 v2 v3 v4 Qp) (fun v1 v2 v3 v4 H locs ls Dy lv hwp => ih v1 v2 v3 v4 H locs ls Dy lv hwp) v1 v2 v3 v4 (1 : Int32) _ _ _ Dy (lv_sub lv [0, 1, 2, 3, 4] rfl) hwp
      · have hwp := hwp.2 c3
        refine lv_aload_n hx hb dX10_bindsOf_21 rfl (lv_at lv 0 rfl) ?_
        refine lv_iload hx hb dX10_bindsOf_22 (lv_at lv 4 rfl) ?_
        refine lv_iload_n hx hb dX10_bindsOf_24 rfl (lv_at lv 1 rfl) ?_
        refine lv_iload_n hx hb dX10_bindsOf_25 rfl (lv_at lv 2 rfl) ?_
        refine x_cont_z Dy (x_runV (As := [.int v4, .int v1, .int v2]) (rest := []) C Dy (m_X10_bindsOne E l _ _ v4 v1 v2 _ hwp) (cw_X10_149 C rfl rfl ⟨Nat.le_trans (Nat.le_of_ble_eq_true rfl) hR.1, Nat.le_trans (Nat.le_of_ble_eq_true rfl) hR.2⟩) wm_0 rfl rfl lv.1 rfl (Nat.le_of_ble_eq_true rfl) dX10_bindsOf_26 ⟨Nat.zero_le _, Nat.zero_le _⟩) (fun r8 h9 hl9 H locs zr8 hwp Dy => ?_)
        obtain ⟨rfl, rfl, hwp⟩ := hwp
        refine lv_goto (tgt := 59) hx hb dX10_bindsOf_29 (by decide) ?_
        exact t_X10_bindsOf_59 E C hR Qp (fun v1 v2 v3 v4 => b_X10_bindsOf_5 n h v1 v2 v3 v4 Qp) (fun v1 v2 v3 v4 H locs ls Dy lv hwp => ih v1 v2 v3 v4 H locs ls Dy lv hwp) v1 v2 v3 v4 r8 _ _ _ Dy (lv_sub lv [0, 1, 2, 3, 4] rfl) hwp
set_option maxHeartbeats 4000000 in
set_option maxRecDepth 100000 in
theorem m_X10_bindsOf (E : xE) (l : Launch) (h : Mem) (hl : MemL) (v1 : Int32) (v2 : Int32) (Qp : Int32 → Prop) (hwp : p_X10_bindsOf h v1 v2 Qp) : Met l yX10_bindsOf (wsU yX10_bindsOf cX10_bindsOf 6 (some .int)) ({ frames := 3, cells := 0, slots := 0, locals := 71 } : Room) (mPc (wdM E) [.ref (wad (wdM E) 0), .int v1, .int v2] h hl) (mQi (wdM E) (fun r h1 hl1 => h = h1 ∧ hl = hl1 ∧ Qp r)) 0 0 (wA (wdM E)) := by
  refine x_met RX10 [(0, .ref (wad (wdM E) 0)), (1, .int v1), (2, .int v2)] (by decide) rfl (Nat.le_of_ble_eq_true rfl) rfl ?_
  intro p e s m args below meth c ls C Dy lv
  have hx := C.x
  have hb := C.b
  have hR : 3 ≤ ({ frames := 3, cells := 0, slots := 0, locals := 71 } : Room).frames ∧ 71 ≤ ({ frames := 3, cells := 0, slots := 0, locals := 71 } : Room).locals := ⟨Nat.le_refl _, Nat.le_refl _⟩
  unfold p_X10_bindsOf at hwp
  refine lv_iconst (v := (0 : Int32)) hx hb dX10_bindsOf_0 (by decide) ?_
  refine lv_istore_n (lv' := [(3, .int (0 : Int32)), (0, .ref (wad (wdM E) 0)), (1, .int v1), (2, .int v2)]) hx hb dX10_bindsOf_1 rfl lv (by decide) rfl (fun ls lv => ?_)
  refine lv_iconst (v := (0 : Int32)) hx hb dX10_bindsOf_2 (by decide) ?_
  refine lv_istore (lv' := [(4, .int (0 : Int32)), (3, .int (0 : Int32)), (0, .ref (wad (wdM E) 0)), (1, .int v1), (2, .int v2)]) hx hb dX10_bindsOf_3 lv (by decide) rfl (fun ls lv => ?_)
  obtain ⟨n0, hwp⟩ := hwp
  exact t_X10_bindsOf_5 E C hR Qp n0 v1 v2 (0 : Int32) (0 : Int32) _ _ _ Dy (lv_sub lv [2, 3, 4, 1, 0] rfl) hwp
def p_X10_binds (h : Mem) (v1 : Int32) (v2 : Int32) (Qp : Int32 → Mem → Prop) : Prop := (p_X10_find h (fun h2 => (p_X10_isYear v1 (fun r3 => ((r3 = 0 → Qp (-2 : Int32) h2) ∧ (¬ (r3 = 0) → (p_X10_in (v2.toInt64) (0 : Int64) (2 : Int64) (fun r6 => ((r6 = 0 → Qp (-2 : Int32) h2) ∧ (¬ (r6 = 0) → (p_X10_bindsOf h2 v1 v2 (fun r9 => Qp r9 h2))))))))))))
set_option maxHeartbeats 4000000 in
set_option maxRecDepth 100000 in
theorem m_X10_binds (E : xE) (l : Launch) (h : Mem) (hl : MemL) (v1 : Int32) (v2 : Int32) (Qp : Int32 → Mem → Prop) (hwp : p_X10_binds h v1 v2 Qp) : Met l yX10_binds (wsU yX10_binds cX10_binds 3 (some .int)) ({ frames := 7, cells := 0, slots := 0, locals := 158 } : Room) (mPc (wdM E) [.ref (wad (wdM E) 0), .int v1, .int v2] h hl) (mQi (wdM E) (fun r h1 hl1 => hl = hl1 ∧ Qp r h1)) 0 0 (wA (wdM E)) := by
  refine x_met RX10 [(0, .ref (wad (wdM E) 0)), (1, .int v1), (2, .int v2)] (by decide) rfl (Nat.le_of_ble_eq_true rfl) rfl ?_
  intro p e s m args below meth c ls C Dy lv
  have hx := C.x
  have hb := C.b
  have hR : 7 ≤ ({ frames := 7, cells := 0, slots := 0, locals := 158 } : Room).frames ∧ 158 ≤ ({ frames := 7, cells := 0, slots := 0, locals := 158 } : Room).locals := ⟨Nat.le_refl _, Nat.le_refl _⟩
  unfold p_X10_binds at hwp
  refine lv_aload_n hx hb dX10_binds_0 rfl (lv_at lv 0 rfl) ?_
  refine x_cont_v Dy (x_runV (As := []) (rest := []) C Dy (m_X10_find E l _ _ _ hwp) (cw_X10_152 C rfl rfl ⟨Nat.le_trans (Nat.le_of_ble_eq_true rfl) hR.1, Nat.le_trans (Nat.le_of_ble_eq_true rfl) hR.2⟩) wm_0 rfl rfl lv.1 rfl (Nat.le_of_ble_eq_true rfl) dX10_binds_1 ⟨Nat.zero_le _, Nat.zero_le _⟩) (fun h2 hl2 H locs hwp Dy => ?_)
  obtain ⟨rfl, hwp⟩ := hwp
  refine lv_iload_n hx hb dX10_binds_4 rfl (lv_at lv 1 rfl) ?_
  refine x_cont_z Dy (x_runS (As := [.int v1]) (rest := []) C Dy (m_X10_isYear E l _ _ v1 _ hwp) (cw_X10_130 C rfl rfl ⟨Nat.le_trans (Nat.le_of_ble_eq_true rfl) hR.1, Nat.le_trans (Nat.le_of_ble_eq_true rfl) hR.2⟩) rfl lv.1 rfl (Nat.le_of_ble_eq_true rfl) dX10_binds_5 ⟨Nat.zero_le _, Nat.zero_le _⟩) (fun r3 h4 hl4 H locs zr3 hwp Dy => ?_)
  obtain ⟨rfl, rfl, hwp⟩ := hwp
  refine lv_if_eq (tgt := 32) hx hb dX10_binds_8 (by decide) (fun c5 => ?_) (fun c5 => ?_)
  · have hwp := hwp.1 c5
    refine lv_bipush (v := (-2 : Int32)) hx hb dX10_binds_32 (by decide) ?_
    exact x_iret C Dy ⟨rfl, hwp⟩ dX10_binds_34
  · have hwp := hwp.2 c5
    refine lv_iload_n hx hb dX10_binds_11 rfl (lv_at lv 2 rfl) ?_
    refine lv_i2l hx hb dX10_binds_12 rfl ?_
    refine lv_lconst (v := (0 : Int64)) hx hb dX10_binds_13 (by decide) ?_
    refine lv_ldc2 hx hb C.ow (C.ts _ k_900) dX10_binds_14 ?_
    refine x_cont_z Dy (x_runS (As := [.long (v2.toInt64), .long (0 : Int64), .long (2 : Int64)]) (rest := []) C Dy (m_X10_in E l _ _ (v2.toInt64) (0 : Int64) (2 : Int64) _ hwp) (cw_X10_66 C rfl rfl ⟨Nat.le_trans (Nat.le_of_ble_eq_true rfl) hR.1, Nat.le_trans (Nat.le_of_ble_eq_true rfl) hR.2⟩) rfl lv.1 rfl (Nat.le_of_ble_eq_true rfl) dX10_binds_17 ⟨Nat.zero_le _, Nat.zero_le _⟩) (fun r6 h7 hl7 H locs zr6 hwp Dy => ?_)
    obtain ⟨rfl, rfl, hwp⟩ := hwp
    refine lv_if_eq (tgt := 32) hx hb dX10_binds_20 (by decide) (fun c8 => ?_) (fun c8 => ?_)
    · have hwp := hwp.1 c8
      refine lv_bipush (v := (-2 : Int32)) hx hb dX10_binds_32 (by decide) ?_
      exact x_iret C Dy ⟨rfl, hwp⟩ dX10_binds_34
    · have hwp := hwp.2 c8
      refine lv_aload_n hx hb dX10_binds_23 rfl (lv_at lv 0 rfl) ?_
      refine lv_iload_n hx hb dX10_binds_24 rfl (lv_at lv 1 rfl) ?_
      refine lv_iload_n hx hb dX10_binds_25 rfl (lv_at lv 2 rfl) ?_
      refine x_cont_i Dy (x_runV (As := [.int v1, .int v2]) (rest := []) C Dy (m_X10_bindsOf E l _ _ v1 v2 _ hwp) (cw_X10_155 C rfl rfl ⟨Nat.le_trans (Nat.le_of_ble_eq_true rfl) hR.1, Nat.le_trans (Nat.le_of_ble_eq_true rfl) hR.2⟩) wm_0 rfl rfl lv.1 rfl (Nat.le_of_ble_eq_true rfl) dX10_binds_26 ⟨Nat.zero_le _, Nat.zero_le _⟩) (fun r9 h10 hl10 H locs hwp Dy => ?_)
      obtain ⟨rfl, rfl, hwp⟩ := hwp
      refine lv_goto (tgt := 34) hx hb dX10_binds_29 (by decide) ?_
      exact x_iret C Dy ⟨rfl, hwp⟩ dX10_binds_34
def p_X10_covers (h : Mem) (v1 : Int32) (v2 : Int32) (Qp : Int32 → Prop) : Prop := (vp_in (((5 : Int32) * v1) + (2 : Int32)) 60 ∧ (∀ x2 : Int32, x2 = (h 8 (((5 : Int32) * v1) + (2 : Int32)).toNatClampNeg) → (vp_in (((5 : Int32) * v1) + (3 : Int32)) 60 ∧ (∀ x4 : Int32, x4 = (h 8 (((5 : Int32) * v1) + (3 : Int32)).toNatClampNeg) → ((x4 < x2 → Qp (if x2 ≤ v2 then (1 : Int32) else (if x4 < v2 then (0 : Int32) else (1 : Int32)))) ∧ (¬ (x4 < x2) → (p_X10_in (v2.toInt64) (x2.toInt64) (x4.toInt64) (fun r8 => Qp r8))))))))
set_option maxHeartbeats 4000000 in
set_option maxRecDepth 100000 in
theorem m_X10_covers (E : xE) (l : Launch) (h : Mem) (hl : MemL) (v1 : Int32) (v2 : Int32) (Qp : Int32 → Prop) (hwp : p_X10_covers h v1 v2 Qp) : Met l yX10_covers (wsU yX10_covers cX10_covers 5 (some .boolean)) ({ frames := 1, cells := 0, slots := 0, locals := 25 } : Room) (mPc (wdM E) [.ref (wad (wdM E) 0), .int v1, .int v2] h hl) (mQz (wdM E) (fun r h1 hl1 => h = h1 ∧ hl = hl1 ∧ Qp r)) 0 0 (wA (wdM E)) := by
  refine x_met RX10 [(0, .ref (wad (wdM E) 0)), (1, .int v1), (2, .int v2)] (by decide) rfl (Nat.le_of_ble_eq_true rfl) rfl ?_
  intro p e s m args below meth c ls C Dy lv
  have hx := C.x
  have hb := C.b
  have hR : 1 ≤ ({ frames := 1, cells := 0, slots := 0, locals := 25 } : Room).frames ∧ 25 ≤ ({ frames := 1, cells := 0, slots := 0, locals := 25 } : Room).locals := ⟨Nat.le_refl _, Nat.le_refl _⟩
  unfold p_X10_covers at hwp
  refine lv_aload_n hx hb dX10_covers_0 rfl (lv_at lv 0 rfl) ?_
  refine gf_X10_31_0 C Dy dX10_covers_1 ?_
  refine lv_iconst (v := (5 : Int32)) hx hb dX10_covers_4 (by decide) ?_
  refine lv_iload_n hx hb dX10_covers_5 rfl (lv_at lv 1 rfl) ?_
  refine lv_imul hx hb dX10_covers_6 ?_
  refine lv_iconst (v := (2 : Int32)) hx hb dX10_covers_7 (by decide) ?_
  refine lv_iadd hx hb dX10_covers_8 ?_
  obtain ⟨g1, hwp⟩ := hwp
  refine x_iald C Dy wma_8 g1 dX10_covers_9 ?_
  refine lv_topi (fun x2 ex2 => ?_)
  have hwp := hwp x2 ex2
  refine lv_istore_n (lv' := [(3, .int x2), (0, .ref (wad (wdM E) 0)), (1, .int v1), (2, .int v2)]) hx hb dX10_covers_10 rfl lv (by decide) rfl (fun ls lv => ?_)
  refine lv_aload_n hx hb dX10_covers_11 rfl (lv_at lv 1 rfl) ?_
  refine gf_X10_31_0 C Dy dX10_covers_12 ?_
  refine lv_iconst (v := (5 : Int32)) hx hb dX10_covers_15 (by decide) ?_
  refine lv_iload_n hx hb dX10_covers_16 rfl (lv_at lv 2 rfl) ?_
  refine lv_imul hx hb dX10_covers_17 ?_
  refine lv_iconst (v := (3 : Int32)) hx hb dX10_covers_18 (by decide) ?_
  refine lv_iadd hx hb dX10_covers_19 ?_
  obtain ⟨g3, hwp⟩ := hwp
  refine x_iald C Dy wma_8 g3 dX10_covers_20 ?_
  refine lv_topi (fun x4 ex4 => ?_)
  have hwp := hwp x4 ex4
  refine lv_istore (lv' := [(4, .int x4), (3, .int x2), (0, .ref (wad (wdM E) 0)), (1, .int v1), (2, .int v2)]) hx hb dX10_covers_21 lv (by decide) rfl (fun ls lv => ?_)
  refine lv_iload_n hx hb dX10_covers_23 rfl (lv_at lv 1 rfl) ?_
  refine lv_iload hx hb dX10_covers_24 (lv_at lv 0 rfl) ?_
  refine lv_icmp_gt (tgt := 42) hx hb dX10_covers_26 (by decide) (fun c5 => ?_) (fun c5 => ?_)
  · have hwp := hwp.1 c5
    refine lv_iload_n hx hb dX10_covers_42 rfl (lv_at lv 4 rfl) ?_
    refine lv_iload_n hx hb dX10_covers_43 rfl (lv_at lv 1 rfl) ?_
    refine lv_icmp_ge (tgt := 53) hx hb dX10_covers_44 (by decide) (fun c6 => ?_) (fun c6 => ?_)
    · try simp only [if_pos c6] at hwp
      refine lv_iconst (v := (1 : Int32)) hx hb dX10_covers_53 (by decide) ?_
      refine lv_goto (tgt := 58) hx hb dX10_covers_54 (by decide) ?_
      exact x_zret C Dy z01_1 ⟨rfl, rfl, hwp⟩ dX10_covers_58
    · try simp only [if_neg c6] at hwp
      refine lv_iload_n hx hb dX10_covers_47 rfl (lv_at lv 4 rfl) ?_
      refine lv_iload hx hb dX10_covers_48 (lv_at lv 0 rfl) ?_
      refine lv_icmp_gt (tgt := 57) hx hb dX10_covers_50 (by decide) (fun c7 => ?_) (fun c7 => ?_)
      · try simp only [if_pos c7] at hwp
        refine lv_iconst (v := (0 : Int32)) hx hb dX10_covers_57 (by decide) ?_
        exact x_zret C Dy z01_0 ⟨rfl, rfl, hwp⟩ dX10_covers_58
      · try simp only [if_neg c7] at hwp
        refine lv_iconst (v := (1 : Int32)) hx hb dX10_covers_53 (by decide) ?_
        refine lv_goto (tgt := 58) hx hb dX10_covers_54 (by decide) ?_
        exact x_zret C Dy z01_1 ⟨rfl, rfl, hwp⟩ dX10_covers_58
  · have hwp := hwp.2 c5
    refine lv_iload_n hx hb dX10_covers_29 rfl (lv_at lv 4 rfl) ?_
    refine lv_i2l hx hb dX10_covers_30 rfl ?_
    refine lv_iload_n hx hb dX10_covers_31 rfl (lv_at lv 1 rfl) ?_
    refine lv_i2l hx hb dX10_covers_32 rfl ?_
    refine lv_iload hx hb dX10_covers_33 (lv_at lv 0 rfl) ?_
    refine lv_i2l hx hb dX10_covers_35 rfl ?_
    refine x_cont_z Dy (x_runS (As := [.long (v2.toInt64), .long (x2.toInt64), .long (x4.toInt64)]) (rest := []) C Dy (m_X10_in E l _ _ (v2.toInt64) (x2.toInt64) (x4.toInt64) _ hwp) (cw_X10_66 C rfl rfl ⟨Nat.le_trans (Nat.le_of_ble_eq_true rfl) hR.1, Nat.le_trans (Nat.le_of_ble_eq_true rfl) hR.2⟩) rfl lv.1 rfl (Nat.le_of_ble_eq_true rfl) dX10_covers_36 ⟨Nat.zero_le _, Nat.zero_le _⟩) (fun r8 h9 hl9 H locs zr8 hwp Dy => ?_)
    obtain ⟨rfl, rfl, hwp⟩ := hwp
    refine lv_goto (tgt := 58) hx hb dX10_covers_39 (by decide) ?_
    exact x_zret C Dy zr8 ⟨rfl, rfl, hwp⟩ dX10_covers_58
def b_X10_likes_60 (h : Mem) (v1 : Int32) (v2 : Int32) (v4 : Int32) (w0 : Int32) (w1 : Int32) (K5 : Int32 → Int32 → Int32 → Int32 → Prop) (Qp : Int32 → Prop) : Prop := K5 v1 v2 (w1 + w0) (v4 + (1 : Int32))
def b_X10_likes_59 (h : Mem) (v1 : Int32) (v2 : Int32) (v4 : Int32) (w0 : Int32) (K5 : Int32 → Int32 → Int32 → Int32 → Prop) (Qp : Int32 → Prop) : Prop := b_X10_likes_60 h v1 v2 v4 (0 : Int32) w0 K5 Qp
def b_X10_likes_5 : Nat → Mem → Int32 → Int32 → Int32 → Int32 → (Int32 → Prop) → Prop
  | 0 => fun _ _ _ _ _ _ => False
  | n + 1 => fun h v1 v2 v3 v4 Qp => (vp_in (1 : Int32) 2 ∧ (((h 7 (1 : Int32).toNatClampNeg) ≤ v4 → Qp v3) ∧ (¬ ((h 7 (1 : Int32).toNatClampNeg) ≤ v4) → (vp_in ((3 : Int32) * v4) 36 ∧ (((h 9 ((3 : Int32) * v4).toNatClampNeg) = v1 → (vp_in (((3 : Int32) * v4) + (1 : Int32)) 36 ∧ (((h 9 (((3 : Int32) * v4) + (1 : Int32)).toNatClampNeg) = v2 → (vp_in (((3 : Int32) * v4) + (2 : Int32)) 36 ∧ b_X10_likes_60 h v1 v2 v4 (h 9 (((3 : Int32) * v4) + (2 : Int32)).toNatClampNeg) v3 (fun v1 v2 v3 v4 => b_X10_likes_5 n h v1 v2 v3 v4 Qp) Qp)) ∧ (¬ ((h 9 (((3 : Int32) * v4) + (1 : Int32)).toNatClampNeg) = v2) → b_X10_likes_59 h v1 v2 v4 v3 (fun v1 v2 v3 v4 => b_X10_likes_5 n h v1 v2 v3 v4 Qp) Qp)))) ∧ (¬ ((h 9 ((3 : Int32) * v4).toNatClampNeg) = v1) → b_X10_likes_59 h v1 v2 v4 v3 (fun v1 v2 v3 v4 => b_X10_likes_5 n h v1 v2 v3 v4 Qp) Qp))))))
def p_X10_likes (h : Mem) (v1 : Int32) (v2 : Int32) (Qp : Int32 → Prop) : Prop := (∃ n5, b_X10_likes_5 n5 h v1 v2 (0 : Int32) (0 : Int32) Qp)
set_option maxHeartbeats 4000000 in
set_option maxRecDepth 100000 in
theorem t_X10_likes_60 (E : xE) {p : Program} {l : Launch} {e : Env} {R : Room} {s : State} {m : MethodId} {args : Array Value} {below : List Frame} {meth : Method} {c : Code} (C : mC (wdM E) p s m meth c args cX10_likes 5 RX10 (some .int)) (hR : 0 ≤ R.frames ∧ 0 ≤ R.locals) {h : Mem} {hl : MemL} (Qp : Int32 → Prop) (K5 : Int32 → Int32 → Int32 → Int32 → Prop) (hK5 : ∀ (v1 : Int32) (v2 : Int32) (v3 : Int32) (v4 : Int32) (H : Heap) (locs : List Loc) (ls : Array Slot), mD (wdM E) h hl s H locs → lv_has ls 5 [(0, .ref (wad (wdM E) 0)), (1, .int v1), (2, .int v2), (3, .int v3), (4, .int v4)] → K5 v1 v2 v3 v4 → W p l e R s m args below meth c H locs 0 0 (MQ below (mQi (wdM E) (fun r h1 hl1 => h = h1 ∧ hl = hl1 ∧ Qp r)) args s 0 0 (wA (wdM E))) (F0 m 5 ls [])) : ∀ (v1 : Int32) (v2 : Int32) (v4 : Int32) (w0 : Int32) (w1 : Int32) (H : Heap) (locs : List Loc) (ls : Array Slot), mD (wdM E) h hl s H locs → lv_has ls 5 [(0, .ref (wad (wdM E) 0)), (1, .int v1), (2, .int v2), (4, .int v4)] → b_X10_likes_60 h v1 v2 v4 w0 w1 K5 Qp → W p l e R s m args below meth c H locs 0 0 (MQ below (mQi (wdM E) (fun r h1 hl1 => h = h1 ∧ hl = hl1 ∧ Qp r)) args s 0 0 (wA (wdM E))) (F0 m 60 ls [.int w0, .int w1]) := by
  have hx := C.x
  have hb := C.b
  intro v1 v2 v4 w0 w1 H locs ls Dy lv hwp
  unfold b_X10_likes_60 at hwp
  refine lv_iadd hx hb dX10_likes_60 ?_
  refine lv_istore_n (lv' := [(3, .int (w1 + w0)), (0, .ref (wad (wdM E) 0)), (1, .int v1), (2, .int v2), (4, .int v4)]) hx hb dX10_likes_61 rfl lv (by decide) rfl (fun ls lv => ?_)
  refine lv_iinc (v := (v4 + (1 : Int32))) (lv' := [(4, .int (v4 + (1 : Int32))), (3, .int (w1 + w0)), (0, .ref (wad (wdM E) 0)), (1, .int v1), (2, .int v2)]) hx hb dX10_likes_62 lv (k := 4) rfl rfl (by decide) rfl (fun ls lv => ?_)
  refine lv_goto (tgt := 5) hx hb dX10_likes_65 (by decide) ?_
  exact hK5 v1 v2 (w1 + w0) (v4 + (1 : Int32)) _ _ _ Dy (lv_sub lv [2, 3, 4, 1, 0] rfl) hwp
set_option maxHeartbeats 4000000 in
set_option maxRecDepth 100000 in
theorem t_X10_likes_59 (E : xE) {p : Program} {l : Launch} {e : Env} {R : Room} {s : State} {m : MethodId} {args : Array Value} {below : List Frame} {meth : Method} {c : Code} (C : mC (wdM E) p s m meth c args cX10_likes 5 RX10 (some .int)) (hR : 0 ≤ R.frames ∧ 0 ≤ R.locals) {h : Mem} {hl : MemL} (Qp : Int32 → Prop) (K5 : Int32 → Int32 → Int32 → Int32 → Prop) (hK5 : ∀ (v1 : Int32) (v2 : Int32) (v3 : Int32) (v4 : Int32) (H : Heap) (locs : List Loc) (ls : Array Slot), mD (wdM E) h hl s H locs → lv_has ls 5 [(0, .ref (wad (wdM E) 0)), (1, .int v1), (2, .int v2), (3, .int v3), (4, .int v4)] → K5 v1 v2 v3 v4 → W p l e R s m args below meth c H locs 0 0 (MQ below (mQi (wdM E) (fun r h1 hl1 => h = h1 ∧ hl = hl1 ∧ Qp r)) args s 0 0 (wA (wdM E))) (F0 m 5 ls [])) : ∀ (v1 : Int32) (v2 : Int32) (v4 : Int32) (w0 : Int32) (H : Heap) (locs : List Loc) (ls : Array Slot), mD (wdM E) h hl s H locs → lv_has ls 5 [(0, .ref (wad (wdM E) 0)), (1, .int v1), (2, .int v2), (4, .int v4)] → b_X10_likes_59 h v1 v2 v4 w0 K5 Qp → W p l e R s m args below meth c H locs 0 0 (MQ below (mQi (wdM E) (fun r h1 hl1 => h = h1 ∧ hl = hl1 ∧ Qp r)) args s 0 0 (wA (wdM E))) (F0 m 59 ls [.int w0]) := by
  have hx := C.x
  have hb := C.b
  intro v1 v2 v4 w0 H locs ls Dy lv hwp
  unfold b_X10_likes_59 at hwp
  refine lv_iconst (v := (0 : Int32)) hx hb dX10_likes_59 (by decide) ?_
  exact t_X10_likes_60 E C hR Qp K5 hK5 v1 v2 v4 (0 : Int32) w0 _ _ _ Dy (lv_sub lv [0, 1, 2, 3] rfl) hwp
set_option maxHeartbeats 4000000 in
set_option maxRecDepth 100000 in
theorem t_X10_likes_5 (E : xE) {p : Program} {l : Launch} {e : Env} {R : Room} {s : State} {m : MethodId} {args : Array Value} {below : List Frame} {meth : Method} {c : Code} (C : mC (wdM E) p s m meth c args cX10_likes 5 RX10 (some .int)) (hR : 0 ≤ R.frames ∧ 0 ≤ R.locals) {h : Mem} {hl : MemL} (Qp : Int32 → Prop) : ∀ (n : Nat) (v1 : Int32) (v2 : Int32) (v3 : Int32) (v4 : Int32) (H : Heap) (locs : List Loc) (ls : Array Slot), mD (wdM E) h hl s H locs → lv_has ls 5 [(0, .ref (wad (wdM E) 0)), (1, .int v1), (2, .int v2), (3, .int v3), (4, .int v4)] → b_X10_likes_5 n h v1 v2 v3 v4 Qp → W p l e R s m args below meth c H locs 0 0 (MQ below (mQi (wdM E) (fun r h1 hl1 => h = h1 ∧ hl = hl1 ∧ Qp r)) args s 0 0 (wA (wdM E))) (F0 m 5 ls []) := by
  have hx := C.x
  have hb := C.b
  intro n
  induction n with
  | zero => intro v1 v2 v3 v4 H locs ls Dy lv hwp; exact hwp.elim
  | succ n ih =>
    intro v1 v2 v3 v4 H locs ls Dy lv hwp
    simp only [b_X10_likes_5] at hwp
    refine lv_iload hx hb dX10_likes_5 (lv_at lv 4 rfl) ?_
    refine lv_aload_n hx hb dX10_likes_7 rfl (lv_at lv 0 rfl) ?_
    refine gf_X10_28_0 C Dy dX10_likes_8 ?_
    refine lv_iconst (v := (1 : Int32)) hx hb dX10_likes_11 (by decide) ?_
    obtain ⟨g1, hwp⟩ := hwp
    refine x_iald C Dy wma_7 g1 dX10_likes_12 ?_
    refine lv_icmp_ge (tgt := 68) hx hb dX10_likes_13 (by decide) (fun c2 => ?_) (fun c2 => ?_)
    · have hwp := hwp.1 c2
      refine lv_iload_n hx hb dX10_likes_68 rfl (lv_at lv 3 rfl) ?_
      exact x_iret C Dy ⟨rfl, rfl, hwp⟩ dX10_likes_69
    · have hwp := hwp.2 c2
      refine lv_iload_n hx hb dX10_likes_16 rfl (lv_at lv 3 rfl) ?_
      refine lv_aload_n hx hb dX10_likes_17 rfl (lv_at lv 0 rfl) ?_
      refine gf_X10_34_0 C Dy dX10_likes_18 ?_
      refine lv_iconst (v := (3 : Int32)) hx hb dX10_likes_21 (by decide) ?_
      refine lv_iload hx hb dX10_likes_22 (lv_at lv 4 rfl) ?_
      refine lv_imul hx hb dX10_likes_24 ?_
      obtain ⟨g3, hwp⟩ := hwp
      refine x_iald C Dy wma_9 g3 dX10_likes_25 ?_
      refine lv_iload_n hx hb dX10_likes_26 rfl (lv_at lv 1 rfl) ?_
      refine lv_icmp_ne (tgt := 59) hx hb dX10_likes_27 (by decide) (fun c4 => ?_) (fun c4 => ?_)
      · have hwp := hwp.2 c4
        exact t_X10_likes_59 E C hR Qp (fun v1 v2 v3 v4 => b_X10_likes_5 n h v1 v2 v3 v4 Qp) (fun v1 v2 v3 v4 H locs ls Dy lv hwp => ih v1 v2 v3 v4 H locs ls Dy lv hwp) v1 v2 v4 v3 _ _ _ Dy (lv_sub lv [0, 1, 2, 4] rfl) hwp
      · have hwp := hwp.1 c4
        refine lv_aload_n hx hb dX10_likes_30 rfl (lv_at lv 0 rfl) ?_
        refine gf_X10_34_0 C Dy dX10_likes_31 ?_
        refine lv_iconst (v := (3 : Int32)) hx hb dX10_likes_34 (by decide) ?_
        refine lv_iload hx hb dX10_likes_35 (lv_at lv 4 rfl) ?_
        refine lv_imul hx hb dX10_likes_37 ?_
        refine lv_iconst (v := (1 : Int32)) hx hb dX10_likes_38 (by decide) ?_
        refine lv_iadd hx hb dX10_likes_39 ?_
        obtain ⟨g5, hwp⟩ := hwp
        refine x_iald C Dy wma_9 g5 dX10_likes_40 ?_
        refine lv_iload_n hx hb dX10_likes_41 rfl (lv_at lv 2 rfl) ?_
        refine lv_icmp_ne (tgt := 59) hx hb dX10_likes_42 (by decide) (fun c6 => ?_) (fun c6 => ?_)
        · have hwp := hwp.2 c6
          exact t_X10_likes_59 E C hR Qp (fun v1 v2 v3 v4 => b_X10_likes_5 n h v1 v2 v3 v4 Qp) (fun v1 v2 v3 v4 H locs ls Dy lv hwp => ih v1 v2 v3 v4 H locs ls Dy lv hwp) v1 v2 v4 v3 _ _ _ Dy (lv_sub lv [0, 1, 2, 4] rfl) hwp
        · have hwp := hwp.1 c6
          refine lv_aload_n hx hb dX10_likes_45 rfl (lv_at lv 0 rfl) ?_
          refine gf_X10_34_0 C Dy dX10_likes_46 ?_
          refine lv_iconst (v := (3 : Int32)) hx hb dX10_likes_49 (by decide) ?_
          refine lv_iload hx hb dX10_likes_50 (lv_at lv 4 rfl) ?_
          refine lv_imul hx hb dX10_likes_52 ?_
          refine lv_iconst (v := (2 : Int32)) hx hb dX10_likes_53 (by decide) ?_
          refine lv_iadd hx hb dX10_likes_54 ?_
          obtain ⟨g7, hwp⟩ := hwp
          refine x_iald C Dy wma_9 g7 dX10_likes_55 ?_
          refine lv_goto (tgt := 60) hx hb dX10_likes_56 (by decide) ?_
          exact t_X10_likes_60 E C hR Qp (fun v1 v2 v3 v4 => b_X10_likes_5 n h v1 v2 v3 v4 Qp) (fun v1 v2 v3 v4 H locs ls Dy lv hwp => ih v1 v2 v3 v4 H locs ls Dy lv hwp) v1 v2 v4 (h 9 (((3 : Int32) * v4) + (2 : Int32)).toNatClampNeg) v3 _ _ _ Dy (lv_sub lv [0, 1, 2, 4] rfl) hwp
set_option maxHeartbeats 4000000 in
set_option maxRecDepth 100000 in
theorem m_X10_likes (E : xE) (l : Launch) (h : Mem) (hl : MemL) (v1 : Int32) (v2 : Int32) (Qp : Int32 → Prop) (hwp : p_X10_likes h v1 v2 Qp) : Met l yX10_likes (wsU yX10_likes cX10_likes 5 (some .int)) ({ frames := 0, cells := 0, slots := 0, locals := 0 } : Room) (mPc (wdM E) [.ref (wad (wdM E) 0), .int v1, .int v2] h hl) (mQi (wdM E) (fun r h1 hl1 => h = h1 ∧ hl = hl1 ∧ Qp r)) 0 0 (wA (wdM E)) := by
  refine x_met RX10 [(0, .ref (wad (wdM E) 0)), (1, .int v1), (2, .int v2)] (by decide) rfl (Nat.le_of_ble_eq_true rfl) rfl ?_
  intro p e s m args below meth c ls C Dy lv
  have hx := C.x
  have hb := C.b
  have hR : 0 ≤ ({ frames := 0, cells := 0, slots := 0, locals := 0 } : Room).frames ∧ 0 ≤ ({ frames := 0, cells := 0, slots := 0, locals := 0 } : Room).locals := ⟨Nat.le_refl _, Nat.le_refl _⟩
  unfold p_X10_likes at hwp
  refine lv_iconst (v := (0 : Int32)) hx hb dX10_likes_0 (by decide) ?_
  refine lv_istore_n (lv' := [(3, .int (0 : Int32)), (0, .ref (wad (wdM E) 0)), (1, .int v1), (2, .int v2)]) hx hb dX10_likes_1 rfl lv (by decide) rfl (fun ls lv => ?_)
  refine lv_iconst (v := (0 : Int32)) hx hb dX10_likes_2 (by decide) ?_
  refine lv_istore (lv' := [(4, .int (0 : Int32)), (3, .int (0 : Int32)), (0, .ref (wad (wdM E) 0)), (1, .int v1), (2, .int v2)]) hx hb dX10_likes_3 lv (by decide) rfl (fun ls lv => ?_)
  obtain ⟨n0, hwp⟩ := hwp
  exact t_X10_likes_5 E C hR Qp n0 v1 v2 (0 : Int32) (0 : Int32) _ _ _ Dy (lv_sub lv [2, 3, 4, 1, 0] rfl) hwp
def b_X10_doesBy_99 (h : Mem) (v1 : Int32) (v2 : Int32) (v3 : Int32) (v5 : Int32) (w0 : Int32) (w1 : Int32) (K8 : Int32 → Int32 → Int32 → Int32 → Int32 → Prop) (Qp : Int32 → Prop) : Prop := K8 v1 v2 v3 (w1 ||| w0) (v5 + (1 : Int32))
def b_X10_doesBy_77 (h : Mem) (v1 : Int32) (v2 : Int32) (v4 : Int32) (v5 : Int32) (v6 : Int32) (w0 : Int32) (w1 : Int32) (K8 : Int32 → Int32 → Int32 → Int32 → Int32 → Prop) (Qp : Int32 → Prop) : Prop := (vp_in ((5 : Int32) * v5) 60 ∧ b_X10_doesBy_99 h v1 v2 (w1 ||| w0) v5 (if (h 8 ((5 : Int32) * v5).toNatClampNeg) = 0 then v6 else (0 : Int32)) v4 K8 Qp)
def b_X10_doesBy_55 (h : Mem) (v1 : Int32) (v2 : Int32) (v3 : Int32) (v4 : Int32) (v5 : Int32) (w0 : Int32) (K8 : Int32 → Int32 → Int32 → Int32 → Int32 → Prop) (Qp : Int32 → Prop) : Prop := (vp_in ((5 : Int32) * v5) 60 ∧ b_X10_doesBy_77 h v1 v2 v4 v5 w0 (if (h 8 ((5 : Int32) * v5).toNatClampNeg) = (1 : Int32) then w0 else (0 : Int32)) v3 K8 Qp)
def b_X10_doesBy_54 (h : Mem) (v1 : Int32) (v2 : Int32) (v3 : Int32) (v4 : Int32) (v5 : Int32) (K8 : Int32 → Int32 → Int32 → Int32 → Int32 → Prop) (Qp : Int32 → Prop) : Prop := b_X10_doesBy_55 h v1 v2 v3 v4 v5 (0 : Int32) K8 Qp
def b_X10_doesBy_195 (h : Mem) (v2 : Int32) (v3 : Int32) (v4 : Int32) (v5 : Int32) (v7 : Int32) (w0 : Int32) (K135 : Int32 → Int32 → Int32 → Int32 → Int32 → Int32 → Prop) (Qp : Int32 → Prop) : Prop := K135 v2 v3 v4 v5 w0 (v7 + (1 : Int32))
def b_X10_doesBy_179 (h : Mem) (v2 : Int32) (v3 : Int32) (v4 : Int32) (v6 : Int32) (v7 : Int32) (v8 : Int32) (w0 : Int32) (K135 : Int32 → Int32 → Int32 → Int32 → Int32 → Int32 → Prop) (Qp : Int32 → Prop) : Prop := b_X10_doesBy_195 h v2 v3 v4 w0 v7 (if v8 ≤ v6 then v6 else v8) K135 Qp
def b_X10_doesBy_163 (h : Mem) (v2 : Int32) (v3 : Int32) (v4 : Int32) (v5 : Int32) (v6 : Int32) (v7 : Int32) (w0 : Int32) (K135 : Int32 → Int32 → Int32 → Int32 → Int32 → Int32 → Prop) (Qp : Int32 → Prop) : Prop := b_X10_doesBy_179 h v2 v3 v4 v6 v7 w0 (if w0 ≤ v6 then v5 else v7) K135 Qp
def b_X10_doesBy_229 (h : Mem) (v3 : Int32) (v7 : Int32) (w0 : Int32) (K206 : Int32 → Int32 → Int32 → Prop) (Qp : Int32 → Prop) : Prop := K206 v3 w0 (v7 + (1 : Int32))
def b_X10_doesBy_206 : Nat → Mem → Int32 → Int32 → Int32 → (Int32 → Prop) → Prop
  | 0 => fun _ _ _ _ _ => False
  | n + 1 => fun h v3 v5 v7 Qp => (((6 : Int32) ≤ v7 → Qp v5) ∧ (¬ ((6 : Int32) ≤ v7) → (p_X10_isIn v3 v7 (fun r27 => b_X10_doesBy_229 h v3 v7 (if r27 = 0 then v5 else v7) (fun v3 v5 v7 => b_X10_doesBy_206 n h v3 v5 v7 Qp) Qp))))
def b_X10_doesBy_135 : Nat → Mem → Int32 → Int32 → Int32 → Int32 → Int32 → Int32 → (Int32 → Prop) → Prop
  | 0 => fun _ _ _ _ _ _ _ _ => False
  | n + 1 => fun h v2 v3 v4 v5 v6 v7 Qp => (((6 : Int32) ≤ v7 → (∃ n206, b_X10_doesBy_206 n206 h v3 v5 (0 : Int32) Qp)) ∧ (¬ ((6 : Int32) ≤ v7) → (p_X10_isIn v4 v7 (fun r19 => ((r19 = 0 → (p_X10_likes h v7 v2 (fun r22 => b_X10_doesBy_163 h v2 v3 v4 v5 v6 v7 r22 (fun v2 v3 v4 v5 v6 v7 => b_X10_doesBy_135 n h v2 v3 v4 v5 v6 v7 Qp) Qp))) ∧ (¬ (r19 = 0) → b_X10_doesBy_163 h v2 v3 v4 v5 v6 v7 (0 : Int32) (fun v2 v3 v4 v5 v6 v7 => b_X10_doesBy_135 n h v2 v3 v4 v5 v6 v7 Qp) Qp))))))
def b_X10_doesBy_8 : Nat → Mem → Int32 → Int32 → Int32 → Int32 → Int32 → (Int32 → Prop) → Prop
  | 0 => fun _ _ _ _ _ _ _ => False
  | n + 1 => fun h v1 v2 v3 v4 v5 Qp => (vp_in (0 : Int32) 2 ∧ (((h 7 (0 : Int32).toNatClampNeg) ≤ v5 → (p_X10_ones v3 (fun r3 => (((1 : Int32) < r3 → Qp (6 : Int32)) ∧ (¬ ((1 : Int32) < r3) → (((v3 &&& v4) = 0 → (∃ n135, b_X10_doesBy_135 n135 h v2 v3 v4 (-1 : Int32) (0 : Int32) (0 : Int32) Qp)) ∧ (¬ ((v3 &&& v4) = 0) → Qp (6 : Int32)))))))) ∧ (¬ ((h 7 (0 : Int32).toNatClampNeg) ≤ v5) → (p_X10_isIn v1 v5 (fun r7 => ((r7 = 0 → b_X10_doesBy_54 h v1 v2 v3 v4 v5 (fun v1 v2 v3 v4 v5 => b_X10_doesBy_8 n h v1 v2 v3 v4 v5 Qp) Qp) ∧ (¬ (r7 = 0) → (p_X10_covers h v5 v2 (fun r10 => ((r10 = 0 → b_X10_doesBy_54 h v1 v2 v3 v4 v5 (fun v1 v2 v3 v4 v5 => b_X10_doesBy_8 n h v1 v2 v3 v4 v5 Qp) Qp) ∧ (¬ (r10 = 0) → (vp_in (((5 : Int32) * v5) + (1 : Int32)) 60 ∧ b_X10_doesBy_55 h v1 v2 v3 v4 v5 ((1 : Int32) <<< ((h 8 (((5 : Int32) * v5) + (1 : Int32)).toNatClampNeg) &&& 31)) (fun v1 v2 v3 v4 v5 => b_X10_doesBy_8 n h v1 v2 v3 v4 v5 Qp) Qp))))))))))))
def p_X10_doesBy (h : Mem) (v1 : Int32) (v2 : Int32) (Qp : Int32 → Prop) : Prop := (∃ n8, b_X10_doesBy_8 n8 h v1 v2 (0 : Int32) (0 : Int32) (0 : Int32) Qp)
set_option maxHeartbeats 4000000 in
set_option maxRecDepth 100000 in
theorem t_X10_doesBy_99 (E : xE) {p : Program} {l : Launch} {e : Env} {R : Room} {s : State} {m : MethodId} {args : Array Value} {below : List Frame} {meth : Method} {c : Code} (C : mC (wdM E) p s m meth c args cX10_doesBy 9 RX10 (some .int)) (hR : 2 ≤ R.frames ∧ 49 ≤ R.locals) {h : Mem} {hl : MemL} (Qp : Int32 → Prop) (K8 : Int32 → Int32 → Int32 → Int32 → Int32 → Prop) (hK8 : ∀ (v1 : Int32) (v2 : Int32) (v3 : Int32) (v4 : Int32) (v5 : Int32) (H : Heap) (locs : List Loc) (ls : Array Slot), mD (wdM E) h hl s H locs → lv_has ls 9 [(0, .ref (wad (wdM E) 0)), (1, .int v1), (2, .int v2), (3, .int v3), (4, .int v4), (5, .int v5)] → K8 v1 v2 v3 v4 v5 → W p l e R s m args below meth c H locs 0 0 (MQ below (mQi (wdM E) (fun r h1 hl1 => h = h1 ∧ hl = hl1 ∧ Qp r)) args s 0 0 (wA (wdM E))) (F0 m 8 ls [])) : ∀ (v1 : Int32) (v2 : Int32) (v3 : Int32) (v5 : Int32) (w0 : Int32) (w1 : Int32) (H : Heap) (locs : List Loc) (ls : Array Slot), mD (wdM E) h hl s H locs → lv_has ls 9 [(0, .ref (wad (wdM E) 0)), (1, .int v1), (2, .int v2), (3, .int v3), (5, .int v5)] → b_X10_doesBy_99 h v1 v2 v3 v5 w0 w1 K8 Qp → W p l e R s m args below meth c H locs 0 0 (MQ below (mQi (wdM E) (fun r h1 hl1 => h = h1 ∧ hl = hl1 ∧ Qp r)) args s 0 0 (wA (wdM E))) (F0 m 99 ls [.int w0, .int w1]) := by
  have hx := C.x
  have hb := C.b
  intro v1 v2 v3 v5 w0 w1 H locs ls Dy lv hwp
  unfold b_X10_doesBy_99 at hwp
  refine lv_ior hx hb dX10_doesBy_99 ?_
  refine lv_istore (lv' := [(4, .int (w1 ||| w0)), (0, .ref (wad (wdM E) 0)), (1, .int v1), (2, .int v2), (3, .int v3), (5, .int v5)]) hx hb dX10_doesBy_100 lv (by decide) rfl (fun ls lv => ?_)
  refine lv_iinc (v := (v5 + (1 : Int32))) (lv' := [(5, .int (v5 + (1 : Int32))), (4, .int (w1 ||| w0)), (0, .ref (wad (wdM E) 0)), (1, .int v1), (2, .int v2), (3, .int v3)]) hx hb dX10_doesBy_102 lv (k := 5) rfl rfl (by decide) rfl (fun ls lv => ?_)
  refine lv_goto (tgt := 8) hx hb dX10_doesBy_105 (by decide) ?_
  exact hK8 v1 v2 v3 (w1 ||| w0) (v5 + (1 : Int32)) _ _ _ Dy (lv_sub lv [2, 3, 4, 5, 1, 0] rfl) hwp
set_option maxHeartbeats 4000000 in
set_option maxRecDepth 100000 in
theorem t_X10_doesBy_77 (E : xE) {p : Program} {l : Launch} {e : Env} {R : Room} {s : State} {m : MethodId} {args : Array Value} {below : List Frame} {meth : Method} {c : Code} (C : mC (wdM E) p s m meth c args cX10_doesBy 9 RX10 (some .int)) (hR : 2 ≤ R.frames ∧ 49 ≤ R.locals) {h : Mem} {hl : MemL} (Qp : Int32 → Prop) (K8 : Int32 → Int32 → Int32 → Int32 → Int32 → Prop) (hK8 : ∀ (v1 : Int32) (v2 : Int32) (v3 : Int32) (v4 : Int32) (v5 : Int32) (H : Heap) (locs : List Loc) (ls : Array Slot), mD (wdM E) h hl s H locs → lv_has ls 9 [(0, .ref (wad (wdM E) 0)), (1, .int v1), (2, .int v2), (3, .int v3), (4, .int v4), (5, .int v5)] → K8 v1 v2 v3 v4 v5 → W p l e R s m args below meth c H locs 0 0 (MQ below (mQi (wdM E) (fun r h1 hl1 => h = h1 ∧ hl = hl1 ∧ Qp r)) args s 0 0 (wA (wdM E))) (F0 m 8 ls [])) : ∀ (v1 : Int32) (v2 : Int32) (v4 : Int32) (v5 : Int32) (v6 : Int32) (w0 : Int32) (w1 : Int32) (H : Heap) (locs : List Loc) (ls : Array Slot), mD (wdM E) h hl s H locs → lv_has ls 9 [(0, .ref (wad (wdM E) 0)), (1, .int v1), (2, .int v2), (4, .int v4), (5, .int v5), (6, .int v6)] → b_X10_doesBy_77 h v1 v2 v4 v5 v6 w0 w1 K8 Qp → W p l e R s m args below meth c H locs 0 0 (MQ below (mQi (wdM E) (fun r h1 hl1 => h = h1 ∧ hl = hl1 ∧ Qp r)) args s 0 0 (wA (wdM E))) (F0 m 77 ls [.int w0, .int w1]) := by
  have hx := C.x
  have hb := C.b
  intro v1 v2 v4 v5 v6 w0 w1 H locs ls Dy lv hwp
  unfold b_X10_doesBy_77 at hwp
  refine lv_ior hx hb dX10_doesBy_77 ?_
  refine lv_istore_n (lv' := [(3, .int (w1 ||| w0)), (0, .ref (wad (wdM E) 0)), (1, .int v1), (2, .int v2), (4, .int v4), (5, .int v5), (6, .int v6)]) hx hb dX10_doesBy_78 rfl lv (by decide) rfl (fun ls lv => ?_)
  refine lv_iload hx hb dX10_doesBy_79 (lv_at lv 4 rfl) ?_
  refine lv_aload_n hx hb dX10_doesBy_81 rfl (lv_at lv 1 rfl) ?_
  refine gf_X10_31_0 C Dy dX10_doesBy_82 ?_
  refine lv_iconst (v := (5 : Int32)) hx hb dX10_doesBy_85 (by decide) ?_
  refine lv_iload hx hb dX10_doesBy_86 (lv_at lv 5 rfl) ?_
  refine lv_imul hx hb dX10_doesBy_88 ?_
  obtain ⟨g16, hwp⟩ := hwp
  refine x_iald C Dy wma_8 g16 dX10_doesBy_89 ?_
  refine lv_if_ne (tgt := 98) hx hb dX10_doesBy_90 (by decide) (fun c17 => ?_) (fun c17 => ?_)
  · try simp only [if_neg c17] at hwp
    refine lv_iconst (v := (0 : Int32)) hx hb dX10_doesBy_98 (by decide) ?_
    exact t_X10_doesBy_99 E C hR Qp K8 hK8 v1 v2 (w1 ||| w0) v5 (0 : Int32) v4 _ _ _ Dy (lv_sub lv [1, 2, 3, 0, 5] rfl) hwp
  · try simp only [if_pos c17] at hwp
    refine lv_iload hx hb dX10_doesBy_93 (lv_at lv 6 rfl) ?_
    refine lv_goto (tgt := 99) hx hb dX10_doesBy_95 (by decide) ?_
    exact t_X10_doesBy_99 E C hR Qp K8 hK8 v1 v2 (w1 ||| w0) v5 v6 v4 _ _ _ Dy (lv_sub lv [1, 2, 3, 0, 5] rfl) hwp
set_option maxHeartbeats 4000000 in
set_option maxRecDepth 100000 in
theorem t_X10_doesBy_55 (E : xE) {p : Program} {l : Launch} {e : Env} {R : Room} {s : State} {m : MethodId} {args : Array Value} {below : List Frame} {meth : Method} {c : Code} (C : mC (wdM E) p s m meth c args cX10_doesBy 9 RX10 (some .int)) (hR : 2 ≤ R.frames ∧ 49 ≤ R.locals) {h : Mem} {hl : MemL} (Qp : Int32 → Prop) (K8 : Int32 → Int32 → Int32 → Int32 → Int32 → Prop) (hK8 : ∀ (v1 : Int32) (v2 : Int32) (v3 : Int32) (v4 : Int32) (v5 : Int32) (H : Heap) (locs : List Loc) (ls : Array Slot), mD (wdM E) h hl s H locs → lv_has ls 9 [(0, .ref (wad (wdM E) 0)), (1, .int v1), (2, .int v2), (3, .int v3), (4, .int v4), (5, .int v5)] → K8 v1 v2 v3 v4 v5 → W p l e R s m args below meth c H locs 0 0 (MQ below (mQi (wdM E) (fun r h1 hl1 => h = h1 ∧ hl = hl1 ∧ Qp r)) args s 0 0 (wA (wdM E))) (F0 m 8 ls [])) : ∀ (v1 : Int32) (v2 : Int32) (v3 : Int32) (v4 : Int32) (v5 : Int32) (w0 : Int32) (H : Heap) (locs : List Loc) (ls : Array Slot), mD (wdM E) h hl s H locs → lv_has ls 9 [(0, .ref (wad (wdM E) 0)), (1, .int v1), (2, .int v2), (3, .int v3), (4, .int v4), (5, .int v5)] → b_X10_doesBy_55 h v1 v2 v3 v4 v5 w0 K8 Qp → W p l e R s m args below meth c H locs 0 0 (MQ below (mQi (wdM E) (fun r h1 hl1 => h = h1 ∧ hl = hl1 ∧ Qp r)) args s 0 0 (wA (wdM E))) (F0 m 55 ls [.int w0]) := by
  have hx := C.x
  have hb := C.b
  intro v1 v2 v3 v4 v5 w0 H locs ls Dy lv hwp
  unfold b_X10_doesBy_55 at hwp
  refine lv_istore (lv' := [(6, .int w0), (0, .ref (wad (wdM E) 0)), (1, .int v1), (2, .int v2), (3, .int v3), (4, .int v4), (5, .int v5)]) hx hb dX10_doesBy_55 lv (by decide) rfl (fun ls lv => ?_)
  refine lv_iload_n hx hb dX10_doesBy_57 rfl (lv_at lv 4 rfl) ?_
  refine lv_aload_n hx hb dX10_doesBy_58 rfl (lv_at lv 1 rfl) ?_
  refine gf_X10_31_0 C Dy dX10_doesBy_59 ?_
  refine lv_iconst (v := (5 : Int32)) hx hb dX10_doesBy_62 (by decide) ?_
  refine lv_iload hx hb dX10_doesBy_63 (lv_at lv 6 rfl) ?_
  refine lv_imul hx hb dX10_doesBy_65 ?_
  obtain ⟨g14, hwp⟩ := hwp
  refine x_iald C Dy wma_8 g14 dX10_doesBy_66 ?_
  refine lv_iconst (v := (1 : Int32)) hx hb dX10_doesBy_67 (by decide) ?_
  refine lv_icmp_ne (tgt := 76) hx hb dX10_doesBy_68 (by decide) (fun c15 => ?_) (fun c15 => ?_)
  · try simp only [if_neg c15] at hwp
    refine lv_iconst (v := (0 : Int32)) hx hb dX10_doesBy_76 (by decide) ?_
    exact t_X10_doesBy_77 E C hR Qp K8 hK8 v1 v2 v4 v5 w0 (0 : Int32) v3 _ _ _ Dy (lv_sub lv [1, 2, 3, 5, 6, 0] rfl) hwp
  · try simp only [if_pos c15] at hwp
    refine lv_iload hx hb dX10_doesBy_71 (lv_at lv 0 rfl) ?_
    refine lv_goto (tgt := 77) hx hb dX10_doesBy_73 (by decide) ?_
    exact t_X10_doesBy_77 E C hR Qp K8 hK8 v1 v2 v4 v5 w0 w0 v3 _ _ _ Dy (lv_sub lv [1, 2, 3, 5, 6, 0] rfl) hwp
set_option maxHeartbeats 4000000 in
set_option maxRecDepth 100000 in
theorem t_X10_doesBy_54 (E : xE) {p : Program} {l : Launch} {e : Env} {R : Room} {s : State} {m : MethodId} {args : Array Value} {below : List Frame} {meth : Method} {c : Code} (C : mC (wdM E) p s m meth c args cX10_doesBy 9 RX10 (some .int)) (hR : 2 ≤ R.frames ∧ 49 ≤ R.locals) {h : Mem} {hl : MemL} (Qp : Int32 → Prop) (K8 : Int32 → Int32 → Int32 → Int32 → Int32 → Prop) (hK8 : ∀ (v1 : Int32) (v2 : Int32) (v3 : Int32) (v4 : Int32) (v5 : Int32) (H : Heap) (locs : List Loc) (ls : Array Slot), mD (wdM E) h hl s H locs → lv_has ls 9 [(0, .ref (wad (wdM E) 0)), (1, .int v1), (2, .int v2), (3, .int v3), (4, .int v4), (5, .int v5)] → K8 v1 v2 v3 v4 v5 → W p l e R s m args below meth c H locs 0 0 (MQ below (mQi (wdM E) (fun r h1 hl1 => h = h1 ∧ hl = hl1 ∧ Qp r)) args s 0 0 (wA (wdM E))) (F0 m 8 ls [])) : ∀ (v1 : Int32) (v2 : Int32) (v3 : Int32) (v4 : Int32) (v5 : Int32) (H : Heap) (locs : List Loc) (ls : Array Slot), mD (wdM E) h hl s H locs → lv_has ls 9 [(0, .ref (wad (wdM E) 0)), (1, .int v1), (2, .int v2), (3, .int v3), (4, .int v4), (5, .int v5)] → b_X10_doesBy_54 h v1 v2 v3 v4 v5 K8 Qp → W p l e R s m args below meth c H locs 0 0 (MQ below (mQi (wdM E) (fun r h1 hl1 => h = h1 ∧ hl = hl1 ∧ Qp r)) args s 0 0 (wA (wdM E))) (F0 m 54 ls []) := by
  have hx := C.x
  have hb := C.b
  intro v1 v2 v3 v4 v5 H locs ls Dy lv hwp
  unfold b_X10_doesBy_54 at hwp
  refine lv_iconst (v := (0 : Int32)) hx hb dX10_doesBy_54 (by decide) ?_
  exact t_X10_doesBy_55 E C hR Qp K8 hK8 v1 v2 v3 v4 v5 (0 : Int32) _ _ _ Dy (lv_sub lv [0, 1, 2, 3, 4, 5] rfl) hwp
set_option maxHeartbeats 4000000 in
set_option maxRecDepth 100000 in
theorem t_X10_doesBy_195 (E : xE) {p : Program} {l : Launch} {e : Env} {R : Room} {s : State} {m : MethodId} {args : Array Value} {below : List Frame} {meth : Method} {c : Code} (C : mC (wdM E) p s m meth c args cX10_doesBy 9 RX10 (some .int)) (hR : 2 ≤ R.frames ∧ 49 ≤ R.locals) {h : Mem} {hl : MemL} (Qp : Int32 → Prop) (K135 : Int32 → Int32 → Int32 → Int32 → Int32 → Int32 → Prop) (hK135 : ∀ (v2 : Int32) (v3 : Int32) (v4 : Int32) (v5 : Int32) (v6 : Int32) (v7 : Int32) (H : Heap) (locs : List Loc) (ls : Array Slot), mD (wdM E) h hl s H locs → lv_has ls 9 [(0, .ref (wad (wdM E) 0)), (2, .int v2), (3, .int v3), (4, .int v4), (5, .int v5), (6, .int v6), (7, .int v7)] → K135 v2 v3 v4 v5 v6 v7 → W p l e R s m args below meth c H locs 0 0 (MQ below (mQi (wdM E) (fun r h1 hl1 => h = h1 ∧ hl = hl1 ∧ Qp r)) args s 0 0 (wA (wdM E))) (F0 m 135 ls [])) : ∀ (v2 : Int32) (v3 : Int32) (v4 : Int32) (v5 : Int32) (v7 : Int32) (w0 : Int32) (H : Heap) (locs : List Loc) (ls : Array Slot), mD (wdM E) h hl s H locs → lv_has ls 9 [(0, .ref (wad (wdM E) 0)), (2, .int v2), (3, .int v3), (4, .int v4), (5, .int v5), (7, .int v7)] → b_X10_doesBy_195 h v2 v3 v4 v5 v7 w0 K135 Qp → W p l e R s m args below meth c H locs 0 0 (MQ below (mQi (wdM E) (fun r h1 hl1 => h = h1 ∧ hl = hl1 ∧ Qp r)) args s 0 0 (wA (wdM E))) (F0 m 195 ls [.int w0]) := by
  have hx := C.x
  have hb := C.b
  intro v2 v3 v4 v5 v7 w0 H locs ls Dy lv hwp
  unfold b_X10_doesBy_195 at hwp
  refine lv_istore (lv' := [(6, .int w0), (0, .ref (wad (wdM E) 0)), (2, .int v2), (3, .int v3), (4, .int v4), (5, .int v5), (7, .int v7)]) hx hb dX10_doesBy_195 lv (by decide) rfl (fun ls lv => ?_)
  refine lv_iinc (v := (v7 + (1 : Int32))) (lv' := [(7, .int (v7 + (1 : Int32))), (6, .int w0), (0, .ref (wad (wdM E) 0)), (2, .int v2), (3, .int v3), (4, .int v4), (5, .int v5)]) hx hb dX10_doesBy_197 lv (k := 6) rfl rfl (by decide) rfl (fun ls lv => ?_)
  refine lv_goto (tgt := 135) hx hb dX10_doesBy_200 (by decide) ?_
  exact hK135 v2 v3 v4 v5 w0 (v7 + (1 : Int32)) _ _ _ Dy (lv_sub lv [2, 3, 4, 5, 6, 1, 0] rfl) hwp
set_option maxHeartbeats 4000000 in
set_option maxRecDepth 100000 in
theorem t_X10_doesBy_179 (E : xE) {p : Program} {l : Launch} {e : Env} {R : Room} {s : State} {m : MethodId} {args : Array Value} {below : List Frame} {meth : Method} {c : Code} (C : mC (wdM E) p s m meth c args cX10_doesBy 9 RX10 (some .int)) (hR : 2 ≤ R.frames ∧ 49 ≤ R.locals) {h : Mem} {hl : MemL} (Qp : Int32 → Prop) (K135 : Int32 → Int32 → Int32 → Int32 → Int32 → Int32 → Prop) (hK135 : ∀ (v2 : Int32) (v3 : Int32) (v4 : Int32) (v5 : Int32) (v6 : Int32) (v7 : Int32) (H : Heap) (locs : List Loc) (ls : Array Slot), mD (wdM E) h hl s H locs → lv_has ls 9 [(0, .ref (wad (wdM E) 0)), (2, .int v2), (3, .int v3), (4, .int v4), (5, .int v5), (6, .int v6), (7, .int v7)] → K135 v2 v3 v4 v5 v6 v7 → W p l e R s m args below meth c H locs 0 0 (MQ below (mQi (wdM E) (fun r h1 hl1 => h = h1 ∧ hl = hl1 ∧ Qp r)) args s 0 0 (wA (wdM E))) (F0 m 135 ls [])) : ∀ (v2 : Int32) (v3 : Int32) (v4 : Int32) (v6 : Int32) (v7 : Int32) (v8 : Int32) (w0 : Int32) (H : Heap) (locs : List Loc) (ls : Array Slot), mD (wdM E) h hl s H locs → lv_has ls 9 [(0, .ref (wad (wdM E) 0)), (2, .int v2), (3, .int v3), (4, .int v4), (6, .int v6), (7, .int v7), (8, .int v8)] → b_X10_doesBy_179 h v2 v3 v4 v6 v7 v8 w0 K135 Qp → W p l e R s m args below meth c H locs 0 0 (MQ below (mQi (wdM E) (fun r h1 hl1 => h = h1 ∧ hl = hl1 ∧ Qp r)) args s 0 0 (wA (wdM E))) (F0 m 179 ls [.int w0]) := by
  have hx := C.x
  have hb := C.b
  intro v2 v3 v4 v6 v7 v8 w0 H locs ls Dy lv hwp
  unfold b_X10_doesBy_179 at hwp
  refine lv_istore (lv' := [(5, .int w0), (0, .ref (wad (wdM E) 0)), (2, .int v2), (3, .int v3), (4, .int v4), (6, .int v6), (7, .int v7), (8, .int v8)]) hx hb dX10_doesBy_179 lv (by decide) rfl (fun ls lv => ?_)
  refine lv_iload hx hb dX10_doesBy_181 (lv_at lv 7 rfl) ?_
  refine lv_iload hx hb dX10_doesBy_183 (lv_at lv 5 rfl) ?_
  refine lv_icmp_le (tgt := 193) hx hb dX10_doesBy_185 (by decide) (fun c25 => ?_) (fun c25 => ?_)
  · try simp only [if_pos c25] at hwp
    refine lv_iload hx hb dX10_doesBy_193 (lv_at lv 5 rfl) ?_
    exact t_X10_doesBy_195 E C hR Qp K135 hK135 v2 v3 v4 w0 v7 v6 _ _ _ Dy (lv_sub lv [1, 2, 3, 4, 0, 6] rfl) hwp
  · try simp only [if_neg c25] at hwp
    refine lv_iload hx hb dX10_doesBy_188 (lv_at lv 7 rfl) ?_
    refine lv_goto (tgt := 195) hx hb dX10_doesBy_190 (by decide) ?_
    exact t_X10_doesBy_195 E C hR Qp K135 hK135 v2 v3 v4 w0 v7 v8 _ _ _ Dy (lv_sub lv [1, 2, 3, 4, 0, 6] rfl) hwp
set_option maxHeartbeats 4000000 in
set_option maxRecDepth 100000 in
theorem t_X10_doesBy_163 (E : xE) {p : Program} {l : Launch} {e : Env} {R : Room} {s : State} {m : MethodId} {args : Array Value} {below : List Frame} {meth : Method} {c : Code} (C : mC (wdM E) p s m meth c args cX10_doesBy 9 RX10 (some .int)) (hR : 2 ≤ R.frames ∧ 49 ≤ R.locals) {h : Mem} {hl : MemL} (Qp : Int32 → Prop) (K135 : Int32 → Int32 → Int32 → Int32 → Int32 → Int32 → Prop) (hK135 : ∀ (v2 : Int32) (v3 : Int32) (v4 : Int32) (v5 : Int32) (v6 : Int32) (v7 : Int32) (H : Heap) (locs : List Loc) (ls : Array Slot), mD (wdM E) h hl s H locs → lv_has ls 9 [(0, .ref (wad (wdM E) 0)), (2, .int v2), (3, .int v3), (4, .int v4), (5, .int v5), (6, .int v6), (7, .int v7)] → K135 v2 v3 v4 v5 v6 v7 → W p l e R s m args below meth c H locs 0 0 (MQ below (mQi (wdM E) (fun r h1 hl1 => h = h1 ∧ hl = hl1 ∧ Qp r)) args s 0 0 (wA (wdM E))) (F0 m 135 ls [])) : ∀ (v2 : Int32) (v3 : Int32) (v4 : Int32) (v5 : Int32) (v6 : Int32) (v7 : Int32) (w0 : Int32) (H : Heap) (locs : List Loc) (ls : Array Slot), mD (wdM E) h hl s H locs → lv_has ls 9 [(0, .ref (wad (wdM E) 0)), (2, .int v2), (3, .int v3), (4, .int v4), (5, .int v5), (6, .int v6), (7, .int v7)] → b_X10_doesBy_163 h v2 v3 v4 v5 v6 v7 w0 K135 Qp → W p l e R s m args below meth c H locs 0 0 (MQ below (mQi (wdM E) (fun r h1 hl1 => h = h1 ∧ hl = hl1 ∧ Qp r)) args s 0 0 (wA (wdM E))) (F0 m 163 ls [.int w0]) := by
  have hx := C.x
  have hb := C.b
  intro v2 v3 v4 v5 v6 v7 w0 H locs ls Dy lv hwp
  unfold b_X10_doesBy_163 at hwp
  refine lv_istore (lv' := [(8, .int w0), (0, .ref (wad (wdM E) 0)), (2, .int v2), (3, .int v3), (4, .int v4), (5, .int v5), (6, .int v6), (7, .int v7)]) hx hb dX10_doesBy_163 lv (by decide) rfl (fun ls lv => ?_)
  refine lv_iload hx hb dX10_doesBy_165 (lv_at lv 0 rfl) ?_
  refine lv_iload hx hb dX10_doesBy_167 (lv_at lv 6 rfl) ?_
  refine lv_icmp_le (tgt := 177) hx hb dX10_doesBy_169 (by decide) (fun c24 => ?_) (fun c24 => ?_)
  · try simp only [if_pos c24] at hwp
    refine lv_iload hx hb dX10_doesBy_177 (lv_at lv 5 rfl) ?_
    exact t_X10_doesBy_179 E C hR Qp K135 hK135 v2 v3 v4 v6 v7 w0 v5 _ _ _ Dy (lv_sub lv [1, 2, 3, 4, 6, 7, 0] rfl) hwp
  · try simp only [if_neg c24] at hwp
    refine lv_iload hx hb dX10_doesBy_172 (lv_at lv 7 rfl) ?_
    refine lv_goto (tgt := 179) hx hb dX10_doesBy_174 (by decide) ?_
    exact t_X10_doesBy_179 E C hR Qp K135 hK135 v2 v3 v4 v6 v7 w0 v7 _ _ _ Dy (lv_sub lv [1, 2, 3, 4, 6, 7, 0] rfl) hwp
set_option maxHeartbeats 4000000 in
set_option maxRecDepth 100000 in
theorem t_X10_doesBy_229 (E : xE) {p : Program} {l : Launch} {e : Env} {R : Room} {s : State} {m : MethodId} {args : Array Value} {below : List Frame} {meth : Method} {c : Code} (C : mC (wdM E) p s m meth c args cX10_doesBy 9 RX10 (some .int)) (hR : 2 ≤ R.frames ∧ 49 ≤ R.locals) {h : Mem} {hl : MemL} (Qp : Int32 → Prop) (K206 : Int32 → Int32 → Int32 → Prop) (hK206 : ∀ (v3 : Int32) (v5 : Int32) (v7 : Int32) (H : Heap) (locs : List Loc) (ls : Array Slot), mD (wdM E) h hl s H locs → lv_has ls 9 [(3, .int v3), (5, .int v5), (7, .int v7)] → K206 v3 v5 v7 → W p l e R s m args below meth c H locs 0 0 (MQ below (mQi (wdM E) (fun r h1 hl1 => h = h1 ∧ hl = hl1 ∧ Qp r)) args s 0 0 (wA (wdM E))) (F0 m 206 ls [])) : ∀ (v3 : Int32) (v7 : Int32) (w0 : Int32) (H : Heap) (locs : List Loc) (ls : Array Slot), mD (wdM E) h hl s H locs → lv_has ls 9 [(3, .int v3), (7, .int v7)] → b_X10_doesBy_229 h v3 v7 w0 K206 Qp → W p l e R s m args below meth c H locs 0 0 (MQ below (mQi (wdM E) (fun r h1 hl1 => h = h1 ∧ hl = hl1 ∧ Qp r)) args s 0 0 (wA (wdM E))) (F0 m 229 ls [.int w0]) := by
  have hx := C.x
  have hb := C.b
  intro v3 v7 w0 H locs ls Dy lv hwp
  unfold b_X10_doesBy_229 at hwp
  refine lv_istore (lv' := [(5, .int w0), (3, .int v3), (7, .int v7)]) hx hb dX10_doesBy_229 lv (by decide) rfl (fun ls lv => ?_)
  refine lv_iinc (v := (v7 + (1 : Int32))) (lv' := [(7, .int (v7 + (1 : Int32))), (5, .int w0), (3, .int v3)]) hx hb dX10_doesBy_231 lv (k := 2) rfl rfl (by decide) rfl (fun ls lv => ?_)
  refine lv_goto (tgt := 206) hx hb dX10_doesBy_234 (by decide) ?_
  exact hK206 v3 w0 (v7 + (1 : Int32)) _ _ _ Dy (lv_sub lv [2, 1, 0] rfl) hwp
set_option maxHeartbeats 4000000 in
set_option maxRecDepth 100000 in
theorem t_X10_doesBy_206 (E : xE) {p : Program} {l : Launch} {e : Env} {R : Room} {s : State} {m : MethodId} {args : Array Value} {below : List Frame} {meth : Method} {c : Code} (C : mC (wdM E) p s m meth c args cX10_doesBy 9 RX10 (some .int)) (hR : 2 ≤ R.frames ∧ 49 ≤ R.locals) {h : Mem} {hl : MemL} (Qp : Int32 → Prop) : ∀ (n : Nat) (v3 : Int32) (v5 : Int32) (v7 : Int32) (H : Heap) (locs : List Loc) (ls : Array Slot), mD (wdM E) h hl s H locs → lv_has ls 9 [(3, .int v3), (5, .int v5), (7, .int v7)] → b_X10_doesBy_206 n h v3 v5 v7 Qp → W p l e R s m args below meth c H locs 0 0 (MQ below (mQi (wdM E) (fun r h1 hl1 => h = h1 ∧ hl = hl1 ∧ Qp r)) args s 0 0 (wA (wdM E))) (F0 m 206 ls []) := by
  have hx := C.x
  have hb := C.b
  intro n
  induction n with
  | zero => intro v3 v5 v7 H locs ls Dy lv hwp; exact hwp.elim
  | succ n ih =>
    intro v3 v5 v7 H locs ls Dy lv hwp
    simp only [b_X10_doesBy_206] at hwp
    refine lv_iload hx hb dX10_doesBy_206 (lv_at lv 2 rfl) ?_
    refine lv_bipush (v := (6 : Int32)) hx hb dX10_doesBy_208 (by decide) ?_
    refine lv_icmp_ge (tgt := 237) hx hb dX10_doesBy_210 (by decide) (fun c26 => ?_) (fun c26 => ?_)
    · have hwp := hwp.1 c26
      refine lv_iload hx hb dX10_doesBy_237 (lv_at lv 1 rfl) ?_
      exact x_iret C Dy ⟨rfl, rfl, hwp⟩ dX10_doesBy_239
    · have hwp := hwp.2 c26
      refine lv_iload_n hx hb dX10_doesBy_213 rfl (lv_at lv 0 rfl) ?_
      refine lv_iload hx hb dX10_doesBy_214 (lv_at lv 2 rfl) ?_
      refine x_cont_z Dy (x_runS (As := [.int v3, .int v7]) (rest := []) C Dy (m_X10_isIn E l _ _ v3 v7 _ hwp) (cw_X10_158 C rfl rfl ⟨Nat.le_trans (Nat.le_of_ble_eq_true rfl) hR.1, Nat.le_trans (Nat.le_of_ble_eq_true rfl) hR.2⟩) rfl lv.1 rfl (Nat.le_of_ble_eq_true rfl) dX10_doesBy_216 ⟨Nat.zero_le _, Nat.zero_le _⟩) (fun r27 h28 hl28 H locs zr27 hwp Dy => ?_)
      obtain ⟨rfl, rfl, hwp⟩ := hwp
      refine lv_if_eq (tgt := 227) hx hb dX10_doesBy_219 (by decide) (fun c29 => ?_) (fun c29 => ?_)
      · try simp only [if_pos c29] at hwp
        refine lv_iload hx hb dX10_doesBy_227 (lv_at lv 1 rfl) ?_
        exact t_X10_doesBy_229 E C hR Qp (fun v3 v5 v7 => b_X10_doesBy_206 n h v3 v5 v7 Qp) (fun v3 v5 v7 H locs ls Dy lv hwp => ih v3 v5 v7 H locs ls Dy lv hwp) v3 v7 v5 _ _ _ Dy (lv_sub lv [0, 2] rfl) hwp
      · try simp only [if_neg c29] at hwp
        refine lv_iload hx hb dX10_doesBy_222 (lv_at lv 2 rfl) ?_
        refine lv_goto (tgt := 229) hx hb dX10_doesBy_224 (by decide) ?_
        exact t_X10_doesBy_229 E C hR Qp (fun v3 v5 v7 => b_X10_doesBy_206 n h v3 v5 v7 Qp) (fun v3 v5 v7 H locs ls Dy lv hwp => ih v3 v5 v7 H locs ls Dy lv hwp) v3 v7 v7 _ _ _ Dy (lv_sub lv [0, 2] rfl) hwp
set_option maxHeartbeats 4000000 in
set_option maxRecDepth 100000 in
theorem t_X10_doesBy_135 (E : xE) {p : Program} {l : Launch} {e : Env} {R : Room} {s : State} {m : MethodId} {args : Array Value} {below : List Frame} {meth : Method} {c : Code} (C : mC (wdM E) p s m meth c args cX10_doesBy 9 RX10 (some .int)) (hR : 2 ≤ R.frames ∧ 49 ≤ R.locals) {h : Mem} {hl : MemL} (Qp : Int32 → Prop) : ∀ (n : Nat) (v2 : Int32) (v3 : Int32) (v4 : Int32) (v5 : Int32) (v6 : Int32) (v7 : Int32) (H : Heap) (locs : List Loc) (ls : Array Slot), mD (wdM E) h hl s H locs → lv_has ls 9 [(0, .ref (wad (wdM E) 0)), (2, .int v2), (3, .int v3), (4, .int v4), (5, .int v5), (6, .int v6), (7, .int v7)] → b_X10_doesBy_135 n h v2 v3 v4 v5 v6 v7 Qp → W p l e R s m args below meth c H locs 0 0 (MQ below (mQi (wdM E) (fun r h1 hl1 => h = h1 ∧ hl = hl1 ∧ Qp r)) args s 0 0 (wA (wdM E))) (F0 m 135 ls []) := by
  have hx := C.x
  have hb := C.b
  intro n
  induction n with
  | zero => intro v2 v3 v4 v5 v6 v7 H locs ls Dy lv hwp; exact hwp.elim
  | succ n ih =>
    intro v2 v3 v4 v5 v6 v7 H locs ls Dy lv hwp
    simp only [b_X10_doesBy_135] at hwp
    refine lv_iload hx hb dX10_doesBy_135 (lv_at lv 6 rfl) ?_
    refine lv_bipush (v := (6 : Int32)) hx hb dX10_doesBy_137 (by decide) ?_
    refine lv_icmp_ge (tgt := 203) hx hb dX10_doesBy_139 (by decide) (fun c18 => ?_) (fun c18 => ?_)
    · have hwp := hwp.1 c18
      refine lv_iconst (v := (0 : Int32)) hx hb dX10_doesBy_203 (by decide) ?_
      refine lv_istore (lv' := [(7, .int (0 : Int32)), (0, .ref (wad (wdM E) 0)), (2, .int v2), (3, .int v3), (4, .int v4), (5, .int v5), (6, .int v6)]) hx hb dX10_doesBy_204 lv (by decide) rfl (fun ls lv => ?_)
      obtain ⟨n0, hwp⟩ := hwp
      exact t_X10_doesBy_206 E C hR Qp n0 v3 v5 (0 : Int32) _ _ _ Dy (lv_sub lv [3, 5, 0] rfl) hwp
    · have hwp := hwp.2 c18
      refine lv_iload hx hb dX10_doesBy_142 (lv_at lv 3 rfl) ?_
      refine lv_iload hx hb dX10_doesBy_144 (lv_at lv 6 rfl) ?_
      refine x_cont_z Dy (x_runS (As := [.int v4, .int v7]) (rest := []) C Dy (m_X10_isIn E l _ _ v4 v7 _ hwp) (cw_X10_158 C rfl rfl ⟨Nat.le_trans (Nat.le_of_ble_eq_true rfl) hR.1, Nat.le_trans (Nat.le_of_ble_eq_true rfl) hR.2⟩) rfl lv.1 rfl (Nat.le_of_ble_eq_true rfl) dX10_doesBy_146 ⟨Nat.zero_le _, Nat.zero_le _⟩) (fun r19 h20 hl20 H locs zr19 hwp Dy => ?_)
      obtain ⟨rfl, rfl, hwp⟩ := hwp
      refine lv_if_eq (tgt := 156) hx hb dX10_doesBy_149 (by decide) (fun c21 => ?_) (fun c21 => ?_)
      · have hwp := hwp.1 c21
        refine lv_aload_n hx hb dX10_doesBy_156 rfl (lv_at lv 0 rfl) ?_
        refine lv_iload hx hb dX10_doesBy_157 (lv_at lv 6 rfl) ?_
        refine lv_iload_n hx hb dX10_doesBy_159 rfl (lv_at lv 1 rfl) ?_
        refine x_cont_i Dy (x_runV (As := [.int v7, .int v2]) (rest := []) C Dy (m_X10_likes E l _ _ v7 v2 _ hwp) (cw_X10_168 C rfl rfl ⟨Nat.le_trans (Nat.le_of_ble_eq_true rfl) hR.1, Nat.le_trans (Nat.le_of_ble_eq_true rfl) hR.2⟩) wm_0 rfl rfl lv.1 rfl (Nat.le_of_ble_eq_true rfl) dX10_doesBy_160 ⟨Nat.zero_le _, Nat.zero_le _⟩) (fun r22 h23 hl23 H locs hwp Dy => ?_)
        obtain ⟨rfl, rfl, hwp⟩ := hwp
        exact t_X10_doesBy_163 E C hR Qp (fun v2 v3 v4 v5 v6 v7 => b_X10_doesBy_135 n h v2 v3 v4 v5 v6 v7 Qp) (fun v2 v3 v4 v5 v6 v7 H locs ls Dy lv hwp => ih v2 v3 v4 v5 v6 v7 H locs ls Dy lv hwp) v2 v3 v4 v5 v6 v7 r22 _ _ _ Dy (lv_sub lv [0, 1, 2, 3, 4, 5, 6] rfl) hwp
      · have hwp := hwp.2 c21
        refine lv_iconst (v := (0 : Int32)) hx hb dX10_doesBy_152 (by decide) ?_
        refine lv_goto (tgt := 163) hx hb dX10_doesBy_153 (by decide) ?_
        exact t_X10_doesBy_163 E C hR Qp (fun v2 v3 v4 v5 v6 v7 => b_X10_doesBy_135 n h v2 v3 v4 v5 v6 v7 Qp) (fun v2 v3 v4 v5 v6 v7 H locs ls Dy lv hwp => ih v2 v3 v4 v5 v6 v7 H locs ls Dy lv hwp) v2 v3 v4 v5 v6 v7 (0 : Int32) _ _ _ Dy (lv_sub lv [0, 1, 2, 3, 4, 5, 6] rfl) hwp
set_option maxHeartbeats 4000000 in
set_option maxRecDepth 100000 in
theorem t_X10_doesBy_8 (E : xE) {p : Program} {l : Launch} {e : Env} {R : Room} {s : State} {m : MethodId} {args : Array Value} {below : List Frame} {meth : Method} {c : Code} (C : mC (wdM E) p s m meth c args cX10_doesBy 9 RX10 (some .int)) (hR : 2 ≤ R.frames ∧ 49 ≤ R.locals) {h : Mem} {hl : MemL} (Qp : Int32 → Prop) : ∀ (n : Nat) (v1 : Int32) (v2 : Int32) (v3 : Int32) (v4 : Int32) (v5 : Int32) (H : Heap) (locs : List Loc) (ls : Array Slot), mD (wdM E) h hl s H locs → lv_has ls 9 [(0, .ref (wad (wdM E) 0)), (1, .int v1), (2, .int v2), (3, .int v3), (4, .int v4), (5, .int v5)] → b_X10_doesBy_8 n h v1 v2 v3 v4 v5 Qp → W p l e R s m args below meth c H locs 0 0 (MQ below (mQi (wdM E) (fun r h1 hl1 => h = h1 ∧ hl = hl1 ∧ Qp r)) args s 0 0 (wA (wdM E))) (F0 m 8 ls []) := by
  have hx := C.x
  have hb := C.b
  intro n
  induction n with
  | zero => intro v1 v2 v3 v4 v5 H locs ls Dy lv hwp; exact hwp.elim
  | succ n ih =>
    intro v1 v2 v3 v4 v5 H locs ls Dy lv hwp
    simp only [b_X10_doesBy_8] at hwp
    refine lv_iload hx hb dX10_doesBy_8 (lv_at lv 5 rfl) ?_
    refine lv_aload_n hx hb dX10_doesBy_10 rfl (lv_at lv 0 rfl) ?_
    refine gf_X10_28_0 C Dy dX10_doesBy_11 ?_
    refine lv_iconst (v := (0 : Int32)) hx hb dX10_doesBy_14 (by decide) ?_
    obtain ⟨g1, hwp⟩ := hwp
    refine x_iald C Dy wma_7 g1 dX10_doesBy_15 ?_
    refine lv_icmp_ge (tgt := 108) hx hb dX10_doesBy_16 (by decide) (fun c2 => ?_) (fun c2 => ?_)
    · have hwp := hwp.1 c2
      refine lv_iload_n hx hb dX10_doesBy_108 rfl (lv_at lv 3 rfl) ?_
      refine x_cont_i Dy (x_runS (As := [.int v3]) (rest := []) C Dy (m_X10_ones E l _ _ v3 _ hwp) (cw_X10_165 C rfl rfl ⟨Nat.le_trans (Nat.le_of_ble_eq_true rfl) hR.1, Nat.le_trans (Nat.le_of_ble_eq_true rfl) hR.2⟩) rfl lv.1 rfl (Nat.le_of_ble_eq_true rfl) dX10_doesBy_109 ⟨Nat.zero_le _, Nat.zero_le _⟩) (fun r3 h4 hl4 H locs hwp Dy => ?_)
      obtain ⟨rfl, rfl, hwp⟩ := hwp
      refine lv_iconst (v := (1 : Int32)) hx hb dX10_doesBy_112 (by decide) ?_
      refine lv_icmp_gt (tgt := 123) hx hb dX10_doesBy_113 (by decide) (fun c5 => ?_) (fun c5 => ?_)
      · have hwp := hwp.1 c5
        refine lv_bipush (v := (6 : Int32)) hx hb dX10_doesBy_123 (by decide) ?_
        exact x_iret C Dy ⟨rfl, rfl, hwp⟩ dX10_doesBy_125
      · have hwp := hwp.2 c5
        refine lv_iload_n hx hb dX10_doesBy_116 rfl (lv_at lv 3 rfl) ?_
        refine lv_iload hx hb dX10_doesBy_117 (lv_at lv 4 rfl) ?_
        refine lv_iand hx hb dX10_doesBy_119 ?_
        refine lv_if_eq (tgt := 126) hx hb dX10_doesBy_120 (by decide) (fun c6 => ?_) (fun c6 => ?_)
        · have hwp := hwp.1 c6
          refine lv_iconst (v := (-1 : Int32)) hx hb dX10_doesBy_126 (by decide) ?_
          refine lv_istore (lv' := [(5, .int (-1 : Int32)), (0, .ref (wad (wdM E) 0)), (1, .int v1), (2, .int v2), (3, .int v3), (4, .int v4)]) hx hb dX10_doesBy_127 lv (by decide) rfl (fun ls lv => ?_)
          refine lv_iconst (v := (0 : Int32)) hx hb dX10_doesBy_129 (by decide) ?_
          refine lv_istore (lv' := [(6, .int (0 : Int32)), (5, .int (-1 : Int32)), (0, .ref (wad (wdM E) 0)), (1, .int v1), (2, .int v2), (3, .int v3), (4, .int v4)]) hx hb dX10_doesBy_130 lv (by decide) rfl (fun ls lv => ?_)
          refine lv_iconst (v := (0 : Int32)) hx hb dX10_doesBy_132 (by decide) ?_
          refine lv_istore (lv' := [(7, .int (0 : Int32)), (6, .int (0 : Int32)), (5, .int (-1 : Int32)), (0, .ref (wad (wdM E) 0)), (1, .int v1), (2, .int v2), (3, .int v3), (4, .int v4)]) hx hb dX10_doesBy_133 lv (by decide) rfl (fun ls lv => ?_)
          obtain ⟨n0, hwp⟩ := hwp
          exact t_X10_doesBy_135 E C hR Qp n0 v2 v3 v4 (-1 : Int32) (0 : Int32) (0 : Int32) _ _ _ Dy (lv_sub lv [3, 5, 6, 7, 2, 1, 0] rfl) hwp
        · have hwp := hwp.2 c6
          refine lv_bipush (v := (6 : Int32)) hx hb dX10_doesBy_123 (by decide) ?_
          exact x_iret C Dy ⟨rfl, rfl, hwp⟩ dX10_doesBy_125
    · have hwp := hwp.2 c2
      refine lv_iload_n hx hb dX10_doesBy_19 rfl (lv_at lv 1 rfl) ?_
      refine lv_iload hx hb dX10_doesBy_20 (lv_at lv 5 rfl) ?_
      refine x_cont_z Dy (x_runS (As := [.int v1, .int v5]) (rest := []) C Dy (m_X10_isIn E l _ _ v1 v5 _ hwp) (cw_X10_158 C rfl rfl ⟨Nat.le_trans (Nat.le_of_ble_eq_true rfl) hR.1, Nat.le_trans (Nat.le_of_ble_eq_true rfl) hR.2⟩) rfl lv.1 rfl (Nat.le_of_ble_eq_true rfl) dX10_doesBy_22 ⟨Nat.zero_le _, Nat.zero_le _⟩) (fun r7 h8 hl8 H locs zr7 hwp Dy => ?_)
      obtain ⟨rfl, rfl, hwp⟩ := hwp
      refine lv_if_eq (tgt := 54) hx hb dX10_doesBy_25 (by decide) (fun c9 => ?_) (fun c9 => ?_)
      · have hwp := hwp.1 c9
        exact t_X10_doesBy_54 E C hR Qp (fun v1 v2 v3 v4 v5 => b_X10_doesBy_8 n h v1 v2 v3 v4 v5 Qp) (fun v1 v2 v3 v4 v5 H locs ls Dy lv hwp => ih v1 v2 v3 v4 v5 H locs ls Dy lv hwp) v1 v2 v3 v4 v5 _ _ _ Dy (lv_sub lv [0, 1, 2, 3, 4, 5] rfl) hwp
      · have hwp := hwp.2 c9
        refine lv_aload_n hx hb dX10_doesBy_28 rfl (lv_at lv 0 rfl) ?_
        refine lv_iload hx hb dX10_doesBy_29 (lv_at lv 5 rfl) ?_
        refine lv_iload_n hx hb dX10_doesBy_31 rfl (lv_at lv 2 rfl) ?_
        refine x_cont_z Dy (x_runV (As := [.int v5, .int v2]) (rest := []) C Dy (m_X10_covers E l _ _ v5 v2 _ hwp) (cw_X10_162 C rfl rfl ⟨Nat.le_trans (Nat.le_of_ble_eq_true rfl) hR.1, Nat.le_trans (Nat.le_of_ble_eq_true rfl) hR.2⟩) wm_0 rfl rfl lv.1 rfl (Nat.le_of_ble_eq_true rfl) dX10_doesBy_32 ⟨Nat.zero_le _, Nat.zero_le _⟩) (fun r10 h11 hl11 H locs zr10 hwp Dy => ?_)
        obtain ⟨rfl, rfl, hwp⟩ := hwp
        refine lv_if_eq (tgt := 54) hx hb dX10_doesBy_35 (by decide) (fun c12 => ?_) (fun c12 => ?_)
        · have hwp := hwp.1 c12
          exact t_X10_doesBy_54 E C hR Qp (fun v1 v2 v3 v4 v5 => b_X10_doesBy_8 n h v1 v2 v3 v4 v5 Qp) (fun v1 v2 v3 v4 v5 H locs ls Dy lv hwp => ih v1 v2 v3 v4 v5 H locs ls Dy lv hwp) v1 v2 v3 v4 v5 _ _ _ Dy (lv_sub lv [0, 1, 2, 3, 4, 5] rfl) hwp
        · have hwp := hwp.2 c12
          refine lv_iconst (v := (1 : Int32)) hx hb dX10_doesBy_38 (by decide) ?_
          refine lv_aload_n hx hb dX10_doesBy_39 rfl (lv_at lv 0 rfl) ?_
          refine gf_X10_31_0 C Dy dX10_doesBy_40 ?_
          refine lv_iconst (v := (5 : Int32)) hx hb dX10_doesBy_43 (by decide) ?_
          refine lv_iload hx hb dX10_doesBy_44 (lv_at lv 5 rfl) ?_
          refine lv_imul hx hb dX10_doesBy_46 ?_
          refine lv_iconst (v := (1 : Int32)) hx hb dX10_doesBy_47 (by decide) ?_
          refine lv_iadd hx hb dX10_doesBy_48 ?_
          obtain ⟨g13, hwp⟩ := hwp
          refine x_iald C Dy wma_8 g13 dX10_doesBy_49 ?_
          refine lv_ishl hx hb dX10_doesBy_50 ?_
          refine lv_goto (tgt := 55) hx hb dX10_doesBy_51 (by decide) ?_
          exact t_X10_doesBy_55 E C hR Qp (fun v1 v2 v3 v4 v5 => b_X10_doesBy_8 n h v1 v2 v3 v4 v5 Qp) (fun v1 v2 v3 v4 v5 H locs ls Dy lv hwp => ih v1 v2 v3 v4 v5 H locs ls Dy lv hwp) v1 v2 v3 v4 v5 ((1 : Int32) <<< ((h 8 (((5 : Int32) * v5) + (1 : Int32)).toNatClampNeg) &&& 31)) _ _ _ Dy (lv_sub lv [0, 1, 2, 3, 4, 5] rfl) hwp
set_option maxHeartbeats 4000000 in
set_option maxRecDepth 100000 in
theorem m_X10_doesBy (E : xE) (l : Launch) (h : Mem) (hl : MemL) (v1 : Int32) (v2 : Int32) (Qp : Int32 → Prop) (hwp : p_X10_doesBy h v1 v2 Qp) : Met l yX10_doesBy (wsU yX10_doesBy cX10_doesBy 9 (some .int)) ({ frames := 2, cells := 0, slots := 0, locals := 49 } : Room) (mPc (wdM E) [.ref (wad (wdM E) 0), .int v1, .int v2] h hl) (mQi (wdM E) (fun r h1 hl1 => h = h1 ∧ hl = hl1 ∧ Qp r)) 0 0 (wA (wdM E)) := by
  refine x_met RX10 [(0, .ref (wad (wdM E) 0)), (1, .int v1), (2, .int v2)] (by decide) rfl (Nat.le_of_ble_eq_true rfl) rfl ?_
  intro p e s m args below meth c ls C Dy lv
  have hx := C.x
  have hb := C.b
  have hR : 2 ≤ ({ frames := 2, cells := 0, slots := 0, locals := 49 } : Room).frames ∧ 49 ≤ ({ frames := 2, cells := 0, slots := 0, locals := 49 } : Room).locals := ⟨Nat.le_refl _, Nat.le_refl _⟩
  unfold p_X10_doesBy at hwp
  refine lv_iconst (v := (0 : Int32)) hx hb dX10_doesBy_0 (by decide) ?_
  refine lv_istore_n (lv' := [(3, .int (0 : Int32)), (0, .ref (wad (wdM E) 0)), (1, .int v1), (2, .int v2)]) hx hb dX10_doesBy_1 rfl lv (by decide) rfl (fun ls lv => ?_)
  refine lv_iconst (v := (0 : Int32)) hx hb dX10_doesBy_2 (by decide) ?_
  refine lv_istore (lv' := [(4, .int (0 : Int32)), (3, .int (0 : Int32)), (0, .ref (wad (wdM E) 0)), (1, .int v1), (2, .int v2)]) hx hb dX10_doesBy_3 lv (by decide) rfl (fun ls lv => ?_)
  refine lv_iconst (v := (0 : Int32)) hx hb dX10_doesBy_5 (by decide) ?_
  refine lv_istore (lv' := [(5, .int (0 : Int32)), (4, .int (0 : Int32)), (3, .int (0 : Int32)), (0, .ref (wad (wdM E) 0)), (1, .int v1), (2, .int v2)]) hx hb dX10_doesBy_6 lv (by decide) rfl (fun ls lv => ?_)
  obtain ⟨n0, hwp⟩ := hwp
  exact t_X10_doesBy_8 E C hR Qp n0 v1 v2 (0 : Int32) (0 : Int32) (0 : Int32) _ _ _ Dy (lv_sub lv [3, 4, 5, 2, 1, 0] rfl) hwp
def p_X10_does (h : Mem) (v1 : Int32) (v2 : Int32) (Qp : Int32 → Mem → Prop) : Prop := (p_X10_find h (fun h2 => (p_X10_isYear v1 (fun r3 => ((r3 = 0 → Qp (-2 : Int32) h2) ∧ (¬ (r3 = 0) → (p_X10_isHour v2 (fun r6 => ((r6 = 0 → Qp (-2 : Int32) h2) ∧ (¬ (r6 = 0) → (p_X10_bindsOf h2 v1 (0 : Int32) (fun r9 => (p_X10_doesBy h2 r9 v2 (fun r11 => Qp r11 h2))))))))))))))
set_option maxHeartbeats 4000000 in
set_option maxRecDepth 100000 in
theorem m_X10_does (E : xE) (l : Launch) (h : Mem) (hl : MemL) (v1 : Int32) (v2 : Int32) (Qp : Int32 → Mem → Prop) (hwp : p_X10_does h v1 v2 Qp) : Met l yX10_does (wsU yX10_does cX10_does 3 (some .int)) ({ frames := 7, cells := 0, slots := 0, locals := 158 } : Room) (mPc (wdM E) [.ref (wad (wdM E) 0), .int v1, .int v2] h hl) (mQi (wdM E) (fun r h1 hl1 => hl = hl1 ∧ Qp r h1)) 0 0 (wA (wdM E)) := by
  refine x_met RX10 [(0, .ref (wad (wdM E) 0)), (1, .int v1), (2, .int v2)] (by decide) rfl (Nat.le_of_ble_eq_true rfl) rfl ?_
  intro p e s m args below meth c ls C Dy lv
  have hx := C.x
  have hb := C.b
  have hR : 7 ≤ ({ frames := 7, cells := 0, slots := 0, locals := 158 } : Room).frames ∧ 158 ≤ ({ frames := 7, cells := 0, slots := 0, locals := 158 } : Room).locals := ⟨Nat.le_refl _, Nat.le_refl _⟩
  unfold p_X10_does at hwp
  refine lv_aload_n hx hb dX10_does_0 rfl (lv_at lv 0 rfl) ?_
  refine x_cont_v Dy (x_runV (As := []) (rest := []) C Dy (m_X10_find E l _ _ _ hwp) (cw_X10_152 C rfl rfl ⟨Nat.le_trans (Nat.le_of_ble_eq_true rfl) hR.1, Nat.le_trans (Nat.le_of_ble_eq_true rfl) hR.2⟩) wm_0 rfl rfl lv.1 rfl (Nat.le_of_ble_eq_true rfl) dX10_does_1 ⟨Nat.zero_le _, Nat.zero_le _⟩) (fun h2 hl2 H locs hwp Dy => ?_)
  obtain ⟨rfl, hwp⟩ := hwp
  refine lv_iload_n hx hb dX10_does_4 rfl (lv_at lv 1 rfl) ?_
  refine x_cont_z Dy (x_runS (As := [.int v1]) (rest := []) C Dy (m_X10_isYear E l _ _ v1 _ hwp) (cw_X10_130 C rfl rfl ⟨Nat.le_trans (Nat.le_of_ble_eq_true rfl) hR.1, Nat.le_trans (Nat.le_of_ble_eq_true rfl) hR.2⟩) rfl lv.1 rfl (Nat.le_of_ble_eq_true rfl) dX10_does_5 ⟨Nat.zero_le _, Nat.zero_le _⟩) (fun r3 h4 hl4 H locs zr3 hwp Dy => ?_)
  obtain ⟨rfl, rfl, hwp⟩ := hwp
  refine lv_if_eq (tgt := 32) hx hb dX10_does_8 (by decide) (fun c5 => ?_) (fun c5 => ?_)
  · have hwp := hwp.1 c5
    refine lv_bipush (v := (-2 : Int32)) hx hb dX10_does_32 (by decide) ?_
    exact x_iret C Dy ⟨rfl, hwp⟩ dX10_does_34
  · have hwp := hwp.2 c5
    refine lv_iload_n hx hb dX10_does_11 rfl (lv_at lv 2 rfl) ?_
    refine x_cont_z Dy (x_runS (As := [.int v2]) (rest := []) C Dy (m_X10_isHour E l _ _ v2 _ hwp) (cw_X10_171 C rfl rfl ⟨Nat.le_trans (Nat.le_of_ble_eq_true rfl) hR.1, Nat.le_trans (Nat.le_of_ble_eq_true rfl) hR.2⟩) rfl lv.1 rfl (Nat.le_of_ble_eq_true rfl) dX10_does_12 ⟨Nat.zero_le _, Nat.zero_le _⟩) (fun r6 h7 hl7 H locs zr6 hwp Dy => ?_)
    obtain ⟨rfl, rfl, hwp⟩ := hwp
    refine lv_if_eq (tgt := 32) hx hb dX10_does_15 (by decide) (fun c8 => ?_) (fun c8 => ?_)
    · have hwp := hwp.1 c8
      refine lv_bipush (v := (-2 : Int32)) hx hb dX10_does_32 (by decide) ?_
      exact x_iret C Dy ⟨rfl, hwp⟩ dX10_does_34
    · have hwp := hwp.2 c8
      refine lv_aload_n hx hb dX10_does_18 rfl (lv_at lv 0 rfl) ?_
      refine lv_aload_n hx hb dX10_does_19 rfl (lv_at lv 0 rfl) ?_
      refine lv_iload_n hx hb dX10_does_20 rfl (lv_at lv 1 rfl) ?_
      refine lv_iconst (v := (0 : Int32)) hx hb dX10_does_21 (by decide) ?_
      refine x_cont_i Dy (x_runV (As := [.int v1, .int (0 : Int32)]) (rest := [.ref (wad (wdM E) 0)]) C Dy (m_X10_bindsOf E l _ _ v1 (0 : Int32) _ hwp) (cw_X10_155 C rfl rfl ⟨Nat.le_trans (Nat.le_of_ble_eq_true rfl) hR.1, Nat.le_trans (Nat.le_of_ble_eq_true rfl) hR.2⟩) wm_0 rfl rfl lv.1 rfl (Nat.le_of_ble_eq_true rfl) dX10_does_22 ⟨Nat.zero_le _, Nat.zero_le _⟩) (fun r9 h10 hl10 H locs hwp Dy => ?_)
      obtain ⟨rfl, rfl, hwp⟩ := hwp
      refine lv_iload_n hx hb dX10_does_25 rfl (lv_at lv 2 rfl) ?_
      refine x_cont_i Dy (x_runV (As := [.int r9, .int v2]) (rest := []) C Dy (m_X10_doesBy E l _ _ r9 v2 _ hwp) (cw_X10_174 C rfl rfl ⟨Nat.le_trans (Nat.le_of_ble_eq_true rfl) hR.1, Nat.le_trans (Nat.le_of_ble_eq_true rfl) hR.2⟩) wm_0 rfl rfl lv.1 rfl (Nat.le_of_ble_eq_true rfl) dX10_does_26 ⟨Nat.zero_le _, Nat.zero_le _⟩) (fun r11 h12 hl12 H locs hwp Dy => ?_)
      obtain ⟨rfl, rfl, hwp⟩ := hwp
      refine lv_goto (tgt := 34) hx hb dX10_does_29 (by decide) ?_
      exact x_iret C Dy ⟨rfl, hwp⟩ dX10_does_34
def b_X10_joyBy_43 (h : Mem) (v1 : Int32) (v3 : Int32) (w0 : Int32) (w1 : Int32) (K4 : Int32 → Int32 → Int32 → Prop) (Qp : Int32 → Prop) : Prop := K4 v1 (w1 + w0) (v3 + (1 : Int32))
def b_X10_joyBy_4 : Nat → Mem → Int32 → Int32 → Int32 → (Int32 → Prop) → Prop
  | 0 => fun _ _ _ _ _ => False
  | n + 1 => fun h v1 v2 v3 Qp => (((24 : Int32) ≤ v3 → Qp v2) ∧ (¬ ((24 : Int32) ≤ v3) → (p_X10_doesBy h v1 v3 (fun r2 => (p_X10_in (r2.toInt64) (0 : Int64) (5 : Int64) (fun r4 => ((r4 = 0 → b_X10_joyBy_43 h v1 v3 (0 : Int32) v2 (fun v1 v2 v3 => b_X10_joyBy_4 n h v1 v2 v3 Qp) Qp) ∧ (¬ (r4 = 0) → (p_X10_likes h r2 v3 (fun r7 => b_X10_joyBy_43 h v1 v3 r7 v2 (fun v1 v2 v3 => b_X10_joyBy_4 n h v1 v2 v3 Qp) Qp))))))))))
def p_X10_joyBy (h : Mem) (v1 : Int32) (Qp : Int32 → Prop) : Prop := (∃ n4, b_X10_joyBy_4 n4 h v1 (0 : Int32) (0 : Int32) Qp)
set_option maxHeartbeats 4000000 in
set_option maxRecDepth 100000 in
theorem t_X10_joyBy_43 (E : xE) {p : Program} {l : Launch} {e : Env} {R : Room} {s : State} {m : MethodId} {args : Array Value} {below : List Frame} {meth : Method} {c : Code} (C : mC (wdM E) p s m meth c args cX10_joyBy 5 RX10 (some .int)) (hR : 3 ≤ R.frames ∧ 77 ≤ R.locals) {h : Mem} {hl : MemL} (Qp : Int32 → Prop) (K4 : Int32 → Int32 → Int32 → Prop) (hK4 : ∀ (v1 : Int32) (v2 : Int32) (v3 : Int32) (H : Heap) (locs : List Loc) (ls : Array Slot), mD (wdM E) h hl s H locs → lv_has ls 5 [(0, .ref (wad (wdM E) 0)), (1, .int v1), (2, .int v2), (3, .int v3)] → K4 v1 v2 v3 → W p l e R s m args below meth c H locs 0 0 (MQ below (mQi (wdM E) (fun r h1 hl1 => h = h1 ∧ hl = hl1 ∧ Qp r)) args s 0 0 (wA (wdM E))) (F0 m 4 ls [])) : ∀ (v1 : Int32) (v3 : Int32) (w0 : Int32) (w1 : Int32) (H : Heap) (locs : List Loc) (ls : Array Slot), mD (wdM E) h hl s H locs → lv_has ls 5 [(0, .ref (wad (wdM E) 0)), (1, .int v1), (3, .int v3)] → b_X10_joyBy_43 h v1 v3 w0 w1 K4 Qp → W p l e R s m args below meth c H locs 0 0 (MQ below (mQi (wdM E) (fun r h1 hl1 => h = h1 ∧ hl = hl1 ∧ Qp r)) args s 0 0 (wA (wdM E))) (F0 m 43 ls [.int w0, .int w1]) := by
  have hx := C.x
  have hb := C.b
  intro v1 v3 w0 w1 H locs ls Dy lv hwp
  unfold b_X10_joyBy_43 at hwp
  refine lv_iadd hx hb dX10_joyBy_43 ?_
  refine lv_istore_n (lv' := [(2, .int (w1 + w0)), (0, .ref (wad (wdM E) 0)), (1, .int v1), (3, .int v3)]) hx hb dX10_joyBy_44 rfl lv (by decide) rfl (fun ls lv => ?_)
  refine lv_iinc (v := (v3 + (1 : Int32))) (lv' := [(3, .int (v3 + (1 : Int32))), (2, .int (w1 + w0)), (0, .ref (wad (wdM E) 0)), (1, .int v1)]) hx hb dX10_joyBy_45 lv (k := 3) rfl rfl (by decide) rfl (fun ls lv => ?_)
  refine lv_goto (tgt := 4) hx hb dX10_joyBy_48 (by decide) ?_
  exact hK4 v1 (w1 + w0) (v3 + (1 : Int32)) _ _ _ Dy (lv_sub lv [2, 3, 1, 0] rfl) hwp
set_option maxHeartbeats 4000000 in
set_option maxRecDepth 100000 in
theorem t_X10_joyBy_4 (E : xE) {p : Program} {l : Launch} {e : Env} {R : Room} {s : State} {m : MethodId} {args : Array Value} {below : List Frame} {meth : Method} {c : Code} (C : mC (wdM E) p s m meth c args cX10_joyBy 5 RX10 (some .int)) (hR : 3 ≤ R.frames ∧ 77 ≤ R.locals) {h : Mem} {hl : MemL} (Qp : Int32 → Prop) : ∀ (n : Nat) (v1 : Int32) (v2 : Int32) (v3 : Int32) (H : Heap) (locs : List Loc) (ls : Array Slot), mD (wdM E) h hl s H locs → lv_has ls 5 [(0, .ref (wad (wdM E) 0)), (1, .int v1), (2, .int v2), (3, .int v3)] → b_X10_joyBy_4 n h v1 v2 v3 Qp → W p l e R s m args below meth c H locs 0 0 (MQ below (mQi (wdM E) (fun r h1 hl1 => h = h1 ∧ hl = hl1 ∧ Qp r)) args s 0 0 (wA (wdM E))) (F0 m 4 ls []) := by
  have hx := C.x
  have hb := C.b
  intro n
  induction n with
  | zero => intro v1 v2 v3 H locs ls Dy lv hwp; exact hwp.elim
  | succ n ih =>
    intro v1 v2 v3 H locs ls Dy lv hwp
    simp only [b_X10_joyBy_4] at hwp
    refine lv_iload_n hx hb dX10_joyBy_4 rfl (lv_at lv 3 rfl) ?_
    refine lv_bipush (v := (24 : Int32)) hx hb dX10_joyBy_5 (by decide) ?_
    refine lv_icmp_ge (tgt := 51) hx hb dX10_joyBy_7 (by decide) (fun c1 => ?_) (fun c1 => ?_)
    · have hwp := hwp.1 c1
      refine lv_iload_n hx hb dX10_joyBy_51 rfl (lv_at lv 2 rfl) ?_
      exact x_iret C Dy ⟨rfl, rfl, hwp⟩ dX10_joyBy_52
    · have hwp := hwp.2 c1
      refine lv_aload_n hx hb dX10_joyBy_10 rfl (lv_at lv 0 rfl) ?_
      refine lv_iload_n hx hb dX10_joyBy_11 rfl (lv_at lv 1 rfl) ?_
      refine lv_iload_n hx hb dX10_joyBy_12 rfl (lv_at lv 3 rfl) ?_
      refine x_cont_i Dy (x_runV (As := [.int v1, .int v3]) (rest := []) C Dy (m_X10_doesBy E l _ _ v1 v3 _ hwp) (cw_X10_174 C rfl rfl ⟨Nat.le_trans (Nat.le_of_ble_eq_true rfl) hR.1, Nat.le_trans (Nat.le_of_ble_eq_true rfl) hR.2⟩) wm_0 rfl rfl lv.1 rfl (Nat.le_of_ble_eq_true rfl) dX10_joyBy_13 ⟨Nat.zero_le _, Nat.zero_le _⟩) (fun r2 h3 hl3 H locs hwp Dy => ?_)
      obtain ⟨rfl, rfl, hwp⟩ := hwp
      refine lv_istore (lv' := [(4, .int r2), (0, .ref (wad (wdM E) 0)), (1, .int v1), (2, .int v2), (3, .int v3)]) hx hb dX10_joyBy_16 lv (by decide) rfl (fun ls lv => ?_)
      refine lv_iload_n hx hb dX10_joyBy_18 rfl (lv_at lv 3 rfl) ?_
      refine lv_iload hx hb dX10_joyBy_19 (lv_at lv 0 rfl) ?_
      refine lv_i2l hx hb dX10_joyBy_21 rfl ?_
      refine lv_lconst (v := (0 : Int64)) hx hb dX10_joyBy_22 (by decide) ?_
      refine lv_ldc2 hx hb C.ow (C.ts _ k_1063) dX10_joyBy_23 ?_
      refine x_cont_z Dy (x_runS (As := [.long (r2.toInt64), .long (0 : Int64), .long (5 : Int64)]) (rest := [.int v2]) C Dy (m_X10_in E l _ _ (r2.toInt64) (0 : Int64) (5 : Int64) _ hwp) (cw_X10_66 C rfl rfl ⟨Nat.le_trans (Nat.le_of_ble_eq_true rfl) hR.1, Nat.le_trans (Nat.le_of_ble_eq_true rfl) hR.2⟩) rfl lv.1 rfl (Nat.le_of_ble_eq_true rfl) dX10_joyBy_26 ⟨Nat.zero_le _, Nat.zero_le _⟩) (fun r4 h5 hl5 H locs zr4 hwp Dy => ?_)
      obtain ⟨rfl, rfl, hwp⟩ := hwp
      refine lv_if_eq (tgt := 42) hx hb dX10_joyBy_29 (by decide) (fun c6 => ?_) (fun c6 => ?_)
      · have hwp := hwp.1 c6
        refine lv_iconst (v := (0 : Int32)) hx hb dX10_joyBy_42 (by decide) ?_
        exact t_X10_joyBy_43 E C hR Qp (fun v1 v2 v3 => b_X10_joyBy_4 n h v1 v2 v3 Qp) (fun v1 v2 v3 H locs ls Dy lv hwp => ih v1 v2 v3 H locs ls Dy lv hwp) v1 v3 (0 : Int32) v2 _ _ _ Dy (lv_sub lv [1, 2, 4] rfl) hwp
      · have hwp := hwp.2 c6
        refine lv_aload_n hx hb dX10_joyBy_32 rfl (lv_at lv 1 rfl) ?_
        refine lv_iload hx hb dX10_joyBy_33 (lv_at lv 0 rfl) ?_
        refine lv_iload_n hx hb dX10_joyBy_35 rfl (lv_at lv 4 rfl) ?_
        refine x_cont_i Dy (x_runV (As := [.int r2, .int v3]) (rest := [.int v2]) C Dy (m_X10_likes E l _ _ r2 v3 _ hwp) (cw_X10_168 C rfl rfl ⟨Nat.le_trans (Nat.le_of_ble_eq_true rfl) hR.1, Nat.le_trans (Nat.le_of_ble_eq_true rfl) hR.2⟩) wm_0 rfl rfl lv.1 rfl (Nat.le_of_ble_eq_true rfl) dX10_joyBy_36 ⟨Nat.zero_le _, Nat.zero_le _⟩) (fun r7 h8 hl8 H locs hwp Dy => ?_)
        obtain ⟨rfl, rfl, hwp⟩ := hwp
        refine lv_goto (tgt := 43) hx hb dX10_joyBy_39 (by decide) ?_
        exact t_X10_joyBy_43 E C hR Qp (fun v1 v2 v3 => b_X10_joyBy_4 n h v1 v2 v3 Qp) (fun v1 v2 v3 H locs ls Dy lv hwp => ih v1 v2 v3 H locs ls Dy lv hwp) v1 v3 r7 v2 _ _ _ Dy (lv_sub lv [1, 2, 4] rfl) hwp
set_option maxHeartbeats 4000000 in
set_option maxRecDepth 100000 in
theorem m_X10_joyBy (E : xE) (l : Launch) (h : Mem) (hl : MemL) (v1 : Int32) (Qp : Int32 → Prop) (hwp : p_X10_joyBy h v1 Qp) : Met l yX10_joyBy (wsU yX10_joyBy cX10_joyBy 5 (some .int)) ({ frames := 3, cells := 0, slots := 0, locals := 77 } : Room) (mPc (wdM E) [.ref (wad (wdM E) 0), .int v1] h hl) (mQi (wdM E) (fun r h1 hl1 => h = h1 ∧ hl = hl1 ∧ Qp r)) 0 0 (wA (wdM E)) := by
  refine x_met RX10 [(0, .ref (wad (wdM E) 0)), (1, .int v1)] (by decide) rfl (Nat.le_of_ble_eq_true rfl) rfl ?_
  intro p e s m args below meth c ls C Dy lv
  have hx := C.x
  have hb := C.b
  have hR : 3 ≤ ({ frames := 3, cells := 0, slots := 0, locals := 77 } : Room).frames ∧ 77 ≤ ({ frames := 3, cells := 0, slots := 0, locals := 77 } : Room).locals := ⟨Nat.le_refl _, Nat.le_refl _⟩
  unfold p_X10_joyBy at hwp
  refine lv_iconst (v := (0 : Int32)) hx hb dX10_joyBy_0 (by decide) ?_
  refine lv_istore_n (lv' := [(2, .int (0 : Int32)), (0, .ref (wad (wdM E) 0)), (1, .int v1)]) hx hb dX10_joyBy_1 rfl lv (by decide) rfl (fun ls lv => ?_)
  refine lv_iconst (v := (0 : Int32)) hx hb dX10_joyBy_2 (by decide) ?_
  refine lv_istore_n (lv' := [(3, .int (0 : Int32)), (2, .int (0 : Int32)), (0, .ref (wad (wdM E) 0)), (1, .int v1)]) hx hb dX10_joyBy_3 rfl lv (by decide) rfl (fun ls lv => ?_)
  obtain ⟨n0, hwp⟩ := hwp
  exact t_X10_joyBy_4 E C hR Qp n0 v1 (0 : Int32) (0 : Int32) _ _ _ Dy (lv_sub lv [2, 3, 1, 0] rfl) hwp
def b_X10_clashBy_2 : Nat → Mem → Int32 → Int32 → (Int32 → Prop) → Prop
  | 0 => fun _ _ _ _ => False
  | n + 1 => fun h v1 v2 Qp => (((24 : Int32) ≤ v2 → Qp (-1 : Int32)) ∧ (¬ ((24 : Int32) ≤ v2) → (p_X10_doesBy h v1 v2 (fun r2 => ((r2 = (6 : Int32) → Qp v2) ∧ (¬ (r2 = (6 : Int32)) → b_X10_clashBy_2 n h v1 (v2 + (1 : Int32)) Qp))))))
def p_X10_clashBy (h : Mem) (v1 : Int32) (Qp : Int32 → Prop) : Prop := (∃ n2, b_X10_clashBy_2 n2 h v1 (0 : Int32) Qp)
set_option maxHeartbeats 4000000 in
set_option maxRecDepth 100000 in
theorem t_X10_clashBy_2 (E : xE) {p : Program} {l : Launch} {e : Env} {R : Room} {s : State} {m : MethodId} {args : Array Value} {below : List Frame} {meth : Method} {c : Code} (C : mC (wdM E) p s m meth c args cX10_clashBy 3 RX10 (some .int)) (hR : 3 ≤ R.frames ∧ 77 ≤ R.locals) {h : Mem} {hl : MemL} (Qp : Int32 → Prop) : ∀ (n : Nat) (v1 : Int32) (v2 : Int32) (H : Heap) (locs : List Loc) (ls : Array Slot), mD (wdM E) h hl s H locs → lv_has ls 3 [(0, .ref (wad (wdM E) 0)), (1, .int v1), (2, .int v2)] → b_X10_clashBy_2 n h v1 v2 Qp → W p l e R s m args below meth c H locs 0 0 (MQ below (mQi (wdM E) (fun r h1 hl1 => h = h1 ∧ hl = hl1 ∧ Qp r)) args s 0 0 (wA (wdM E))) (F0 m 2 ls []) := by
  have hx := C.x
  have hb := C.b
  intro n
  induction n with
  | zero => intro v1 v2 H locs ls Dy lv hwp; exact hwp.elim
  | succ n ih =>
    intro v1 v2 H locs ls Dy lv hwp
    simp only [b_X10_clashBy_2] at hwp
    refine lv_iload_n hx hb dX10_clashBy_2 rfl (lv_at lv 2 rfl) ?_
    refine lv_bipush (v := (24 : Int32)) hx hb dX10_clashBy_3 (by decide) ?_
    refine lv_icmp_ge (tgt := 27) hx hb dX10_clashBy_5 (by decide) (fun c1 => ?_) (fun c1 => ?_)
    · have hwp := hwp.1 c1
      refine lv_iconst (v := (-1 : Int32)) hx hb dX10_clashBy_27 (by decide) ?_
      exact x_iret C Dy ⟨rfl, rfl, hwp⟩ dX10_clashBy_28
    · have hwp := hwp.2 c1
      refine lv_aload_n hx hb dX10_clashBy_8 rfl (lv_at lv 0 rfl) ?_
      refine lv_iload_n hx hb dX10_clashBy_9 rfl (lv_at lv 1 rfl) ?_
      refine lv_iload_n hx hb dX10_clashBy_10 rfl (lv_at lv 2 rfl) ?_
      refine x_cont_i Dy (x_runV (As := [.int v1, .int v2]) (rest := []) C Dy (m_X10_doesBy E l _ _ v1 v2 _ hwp) (cw_X10_174 C rfl rfl ⟨Nat.le_trans (Nat.le_of_ble_eq_true rfl) hR.1, Nat.le_trans (Nat.le_of_ble_eq_true rfl) hR.2⟩) wm_0 rfl rfl lv.1 rfl (Nat.le_of_ble_eq_true rfl) dX10_clashBy_11 ⟨Nat.zero_le _, Nat.zero_le _⟩) (fun r2 h3 hl3 H locs hwp Dy => ?_)
      obtain ⟨rfl, rfl, hwp⟩ := hwp
      refine lv_bipush (v := (6 : Int32)) hx hb dX10_clashBy_14 (by decide) ?_
      refine lv_icmp_ne (tgt := 21) hx hb dX10_clashBy_16 (by decide) (fun c4 => ?_) (fun c4 => ?_)
      · have hwp := hwp.2 c4
        refine lv_iinc (v := (v2 + (1 : Int32))) (lv' := [(2, .int (v2 + (1 : Int32))), (0, .ref (wad (wdM E) 0)), (1, .int v1)]) hx hb dX10_clashBy_21 lv (k := 2) rfl rfl (by decide) rfl (fun ls lv => ?_)
        refine lv_goto (tgt := 2) hx hb dX10_clashBy_24 (by decide) ?_
        exact ih v1 (v2 + (1 : Int32)) _ _ _ Dy (lv_sub lv [1, 2, 0] rfl) hwp
      · have hwp := hwp.1 c4
        refine lv_iload_n hx hb dX10_clashBy_19 rfl (lv_at lv 2 rfl) ?_
        exact x_iret C Dy ⟨rfl, rfl, hwp⟩ dX10_clashBy_20
set_option maxHeartbeats 4000000 in
set_option maxRecDepth 100000 in
theorem m_X10_clashBy (E : xE) (l : Launch) (h : Mem) (hl : MemL) (v1 : Int32) (Qp : Int32 → Prop) (hwp : p_X10_clashBy h v1 Qp) : Met l yX10_clashBy (wsU yX10_clashBy cX10_clashBy 3 (some .int)) ({ frames := 3, cells := 0, slots := 0, locals := 77 } : Room) (mPc (wdM E) [.ref (wad (wdM E) 0), .int v1] h hl) (mQi (wdM E) (fun r h1 hl1 => h = h1 ∧ hl = hl1 ∧ Qp r)) 0 0 (wA (wdM E)) := by
  refine x_met RX10 [(0, .ref (wad (wdM E) 0)), (1, .int v1)] (by decide) rfl (Nat.le_of_ble_eq_true rfl) rfl ?_
  intro p e s m args below meth c ls C Dy lv
  have hx := C.x
  have hb := C.b
  have hR : 3 ≤ ({ frames := 3, cells := 0, slots := 0, locals := 77 } : Room).frames ∧ 77 ≤ ({ frames := 3, cells := 0, slots := 0, locals := 77 } : Room).locals := ⟨Nat.le_refl _, Nat.le_refl _⟩
  unfold p_X10_clashBy at hwp
  refine lv_iconst (v := (0 : Int32)) hx hb dX10_clashBy_0 (by decide) ?_
  refine lv_istore_n (lv' := [(2, .int (0 : Int32)), (0, .ref (wad (wdM E) 0)), (1, .int v1)]) hx hb dX10_clashBy_1 rfl lv (by decide) rfl (fun ls lv => ?_)
  obtain ⟨n0, hwp⟩ := hwp
  exact t_X10_clashBy_2 E C hR Qp n0 v1 (0 : Int32) _ _ _ Dy (lv_sub lv [1, 2, 0] rfl) hwp
def p_X10_joyOf (h : Mem) (v1 : Int32) (v2 : Int32) (Qp : Int32 → Prop) : Prop := (p_X10_bindsOf h v1 (0 : Int32) (fun r1 => ((v2 = 0 → (p_X10_joyBy h r1 (fun r6 => Qp r6))) ∧ (¬ (v2 = 0) → (p_X10_clashBy h r1 (fun r4 => Qp r4))))))
set_option maxHeartbeats 4000000 in
set_option maxRecDepth 100000 in
theorem m_X10_joyOf (E : xE) (l : Launch) (h : Mem) (hl : MemL) (v1 : Int32) (v2 : Int32) (Qp : Int32 → Prop) (hwp : p_X10_joyOf h v1 v2 Qp) : Met l yX10_joyOf (wsU yX10_joyOf cX10_joyOf 4 (some .int)) ({ frames := 4, cells := 0, slots := 0, locals := 101 } : Room) (mPc (wdM E) [.ref (wad (wdM E) 0), .int v1, .int v2] h hl) (mQi (wdM E) (fun r h1 hl1 => h = h1 ∧ hl = hl1 ∧ Qp r)) 0 0 (wA (wdM E)) := by
  refine x_met RX10 [(0, .ref (wad (wdM E) 0)), (1, .int v1), (2, .int v2)] (by decide) rfl (Nat.le_of_ble_eq_true rfl) rfl ?_
  intro p e s m args below meth c ls C Dy lv
  have hx := C.x
  have hb := C.b
  have hR : 4 ≤ ({ frames := 4, cells := 0, slots := 0, locals := 101 } : Room).frames ∧ 101 ≤ ({ frames := 4, cells := 0, slots := 0, locals := 101 } : Room).locals := ⟨Nat.le_refl _, Nat.le_refl _⟩
  unfold p_X10_joyOf at hwp
  refine lv_aload_n hx hb dX10_joyOf_0 rfl (lv_at lv 0 rfl) ?_
  refine lv_iload_n hx hb dX10_joyOf_1 rfl (lv_at lv 1 rfl) ?_
  refine lv_iconst (v := (0 : Int32)) hx hb dX10_joyOf_2 (by decide) ?_
  refine x_cont_i Dy (x_runV (As := [.int v1, .int (0 : Int32)]) (rest := []) C Dy (m_X10_bindsOf E l _ _ v1 (0 : Int32) _ hwp) (cw_X10_155 C rfl rfl ⟨Nat.le_trans (Nat.le_of_ble_eq_true rfl) hR.1, Nat.le_trans (Nat.le_of_ble_eq_true rfl) hR.2⟩) wm_0 rfl rfl lv.1 rfl (Nat.le_of_ble_eq_true rfl) dX10_joyOf_3 ⟨Nat.zero_le _, Nat.zero_le _⟩) (fun r1 h2 hl2 H locs hwp Dy => ?_)
  obtain ⟨rfl, rfl, hwp⟩ := hwp
  refine lv_istore_n (lv' := [(3, .int r1), (0, .ref (wad (wdM E) 0)), (1, .int v1), (2, .int v2)]) hx hb dX10_joyOf_6 rfl lv (by decide) rfl (fun ls lv => ?_)
  refine lv_iload_n hx hb dX10_joyOf_7 rfl (lv_at lv 3 rfl) ?_
  refine lv_if_ne (tgt := 19) hx hb dX10_joyOf_8 (by decide) (fun c3 => ?_) (fun c3 => ?_)
  · have hwp := hwp.2 c3
    refine lv_aload_n hx hb dX10_joyOf_19 rfl (lv_at lv 1 rfl) ?_
    refine lv_iload_n hx hb dX10_joyOf_20 rfl (lv_at lv 0 rfl) ?_
    refine x_cont_i Dy (x_runV (As := [.int r1]) (rest := []) C Dy (m_X10_clashBy E l _ _ r1 _ hwp) (cw_X10_182 C rfl rfl ⟨Nat.le_trans (Nat.le_of_ble_eq_true rfl) hR.1, Nat.le_trans (Nat.le_of_ble_eq_true rfl) hR.2⟩) wm_0 rfl rfl lv.1 rfl (Nat.le_of_ble_eq_true rfl) dX10_joyOf_21 ⟨Nat.zero_le _, Nat.zero_le _⟩) (fun r4 h5 hl5 H locs hwp Dy => ?_)
    obtain ⟨rfl, rfl, hwp⟩ := hwp
    exact x_iret C Dy ⟨rfl, rfl, hwp⟩ dX10_joyOf_24
  · have hwp := hwp.1 c3
    refine lv_aload_n hx hb dX10_joyOf_11 rfl (lv_at lv 1 rfl) ?_
    refine lv_iload_n hx hb dX10_joyOf_12 rfl (lv_at lv 0 rfl) ?_
    refine x_cont_i Dy (x_runV (As := [.int r1]) (rest := []) C Dy (m_X10_joyBy E l _ _ r1 _ hwp) (cw_X10_179 C rfl rfl ⟨Nat.le_trans (Nat.le_of_ble_eq_true rfl) hR.1, Nat.le_trans (Nat.le_of_ble_eq_true rfl) hR.2⟩) wm_0 rfl rfl lv.1 rfl (Nat.le_of_ble_eq_true rfl) dX10_joyOf_13 ⟨Nat.zero_le _, Nat.zero_le _⟩) (fun r6 h7 hl7 H locs hwp Dy => ?_)
    obtain ⟨rfl, rfl, hwp⟩ := hwp
    refine lv_goto (tgt := 24) hx hb dX10_joyOf_16 (by decide) ?_
    exact x_iret C Dy ⟨rfl, rfl, hwp⟩ dX10_joyOf_24
def p_X10_joy (h : Mem) (v1 : Int32) (v2 : Int32) (Qp : Int32 → Mem → Prop) : Prop := (p_X10_find h (fun h2 => (p_X10_isYear v1 (fun r3 => ((r3 = 0 → Qp (-2 : Int32) h2) ∧ (¬ (r3 = 0) → (p_X10_isTwo v2 (fun r6 => ((r6 = 0 → Qp (-2 : Int32) h2) ∧ (¬ (r6 = 0) → (p_X10_joyOf h2 v1 v2 (fun r9 => Qp r9 h2))))))))))))
set_option maxHeartbeats 4000000 in
set_option maxRecDepth 100000 in
theorem m_X10_joy (E : xE) (l : Launch) (h : Mem) (hl : MemL) (v1 : Int32) (v2 : Int32) (Qp : Int32 → Mem → Prop) (hwp : p_X10_joy h v1 v2 Qp) : Met l yX10_joy (wsU yX10_joy cX10_joy 3 (some .int)) ({ frames := 7, cells := 0, slots := 0, locals := 158 } : Room) (mPc (wdM E) [.ref (wad (wdM E) 0), .int v1, .int v2] h hl) (mQi (wdM E) (fun r h1 hl1 => hl = hl1 ∧ Qp r h1)) 0 0 (wA (wdM E)) := by
  refine x_met RX10 [(0, .ref (wad (wdM E) 0)), (1, .int v1), (2, .int v2)] (by decide) rfl (Nat.le_of_ble_eq_true rfl) rfl ?_
  intro p e s m args below meth c ls C Dy lv
  have hx := C.x
  have hb := C.b
  have hR : 7 ≤ ({ frames := 7, cells := 0, slots := 0, locals := 158 } : Room).frames ∧ 158 ≤ ({ frames := 7, cells := 0, slots := 0, locals := 158 } : Room).locals := ⟨Nat.le_refl _, Nat.le_refl _⟩
  unfold p_X10_joy at hwp
  refine lv_aload_n hx hb dX10_joy_0 rfl (lv_at lv 0 rfl) ?_
  refine x_cont_v Dy (x_runV (As := []) (rest := []) C Dy (m_X10_find E l _ _ _ hwp) (cw_X10_152 C rfl rfl ⟨Nat.le_trans (Nat.le_of_ble_eq_true rfl) hR.1, Nat.le_trans (Nat.le_of_ble_eq_true rfl) hR.2⟩) wm_0 rfl rfl lv.1 rfl (Nat.le_of_ble_eq_true rfl) dX10_joy_1 ⟨Nat.zero_le _, Nat.zero_le _⟩) (fun h2 hl2 H locs hwp Dy => ?_)
  obtain ⟨rfl, hwp⟩ := hwp
  refine lv_iload_n hx hb dX10_joy_4 rfl (lv_at lv 1 rfl) ?_
  refine x_cont_z Dy (x_runS (As := [.int v1]) (rest := []) C Dy (m_X10_isYear E l _ _ v1 _ hwp) (cw_X10_130 C rfl rfl ⟨Nat.le_trans (Nat.le_of_ble_eq_true rfl) hR.1, Nat.le_trans (Nat.le_of_ble_eq_true rfl) hR.2⟩) rfl lv.1 rfl (Nat.le_of_ble_eq_true rfl) dX10_joy_5 ⟨Nat.zero_le _, Nat.zero_le _⟩) (fun r3 h4 hl4 H locs zr3 hwp Dy => ?_)
  obtain ⟨rfl, rfl, hwp⟩ := hwp
  refine lv_if_eq (tgt := 27) hx hb dX10_joy_8 (by decide) (fun c5 => ?_) (fun c5 => ?_)
  · have hwp := hwp.1 c5
    refine lv_bipush (v := (-2 : Int32)) hx hb dX10_joy_27 (by decide) ?_
    exact x_iret C Dy ⟨rfl, hwp⟩ dX10_joy_29
  · have hwp := hwp.2 c5
    refine lv_iload_n hx hb dX10_joy_11 rfl (lv_at lv 2 rfl) ?_
    refine x_cont_z Dy (x_runS (As := [.int v2]) (rest := []) C Dy (m_X10_isTwo E l _ _ v2 _ hwp) (cw_X10_95 C rfl rfl ⟨Nat.le_trans (Nat.le_of_ble_eq_true rfl) hR.1, Nat.le_trans (Nat.le_of_ble_eq_true rfl) hR.2⟩) rfl lv.1 rfl (Nat.le_of_ble_eq_true rfl) dX10_joy_12 ⟨Nat.zero_le _, Nat.zero_le _⟩) (fun r6 h7 hl7 H locs zr6 hwp Dy => ?_)
    obtain ⟨rfl, rfl, hwp⟩ := hwp
    refine lv_if_eq (tgt := 27) hx hb dX10_joy_15 (by decide) (fun c8 => ?_) (fun c8 => ?_)
    · have hwp := hwp.1 c8
      refine lv_bipush (v := (-2 : Int32)) hx hb dX10_joy_27 (by decide) ?_
      exact x_iret C Dy ⟨rfl, hwp⟩ dX10_joy_29
    · have hwp := hwp.2 c8
      refine lv_aload_n hx hb dX10_joy_18 rfl (lv_at lv 0 rfl) ?_
      refine lv_iload_n hx hb dX10_joy_19 rfl (lv_at lv 1 rfl) ?_
      refine lv_iload_n hx hb dX10_joy_20 rfl (lv_at lv 2 rfl) ?_
      refine x_cont_i Dy (x_runV (As := [.int v1, .int v2]) (rest := []) C Dy (m_X10_joyOf E l _ _ v1 v2 _ hwp) (cw_X10_185 C rfl rfl ⟨Nat.le_trans (Nat.le_of_ble_eq_true rfl) hR.1, Nat.le_trans (Nat.le_of_ble_eq_true rfl) hR.2⟩) wm_0 rfl rfl lv.1 rfl (Nat.le_of_ble_eq_true rfl) dX10_joy_21 ⟨Nat.zero_le _, Nat.zero_le _⟩) (fun r9 h10 hl10 H locs hwp Dy => ?_)
      obtain ⟨rfl, rfl, hwp⟩ := hwp
      refine lv_goto (tgt := 29) hx hb dX10_joy_24 (by decide) ?_
      exact x_iret C Dy ⟨rfl, hwp⟩ dX10_joy_29
