def b_X0_joyBy_55 (h : Mem) (v1 : Int32) (v2 : Int32) (v3 : Int32) (K4 : Int32 → Int32 → Int32 → Prop) (Qp : Int32 → Prop) : Prop := K4 v1 v2 (v3 + (1 : Int32))
def b_X0_joyBy_4 : Nat → Mem → Int32 → Int32 → Int32 → (Int32 → Prop) → Prop
  | 0 => fun _ _ _ _ _ => False
  | n + 1 => fun h v1 v2 v3 Qp => (((24 : Int32) ≤ v3 → Qp v2) ∧ (¬ ((24 : Int32) ≤ v3) → (vp_in v3 24 ∧ (((h 20 v3.toNatClampNeg) = 0 → b_X0_joyBy_55 h v1 v2 v3 (fun v1 v2 v3 => b_X0_joyBy_4 n h v1 v2 v3 Qp) Qp) ∧ (¬ ((h 20 v3.toNatClampNeg) = 0) → (p_X0_deedBy h v1 v3 (fun r4 => ((r4 = (-1 : Int32) → b_X0_joyBy_55 h v1 v2 v3 (fun v1 v2 v3 => b_X0_joyBy_4 n h v1 v2 v3 Qp) Qp) ∧ (¬ (r4 = (-1 : Int32)) → ((r4 = (6 : Int32) → b_X0_joyBy_55 h v1 v2 v3 (fun v1 v2 v3 => b_X0_joyBy_4 n h v1 v2 v3 Qp) Qp) ∧ (¬ (r4 = (6 : Int32)) → (vp_in ((v3 * (6 : Int32)) + r4) 144 ∧ (∀ x9 : Int32, x9 = (v2 + (h 18 ((v3 * (6 : Int32)) + r4).toNatClampNeg)) → b_X0_joyBy_55 h v1 x9 v3 (fun v1 v2 v3 => b_X0_joyBy_4 n h v1 v2 v3 Qp) Qp)))))))))))))
def p_X0_joyBy (h : Mem) (v1 : Int32) (Qp : Int32 → Prop) : Prop := (∃ n4, b_X0_joyBy_4 n4 h v1 (0 : Int32) (0 : Int32) Qp)
set_option maxHeartbeats 4000000 in
set_option maxRecDepth 100000 in
theorem t_X0_joyBy_55 (E : xE) {p : Program} {l : Launch} {e : Env} {R : Room} {s : State} {m : MethodId} {args : Array Value} {below : List Frame} {meth : Method} {c : Code} (C : mC (wdX E) p s m meth c args cX0_joyBy 5 RX0 (some .int)) (hR : 1 ≤ R.frames ∧ 28 ≤ R.locals) {h : Mem} {hl : MemL} (Qp : Int32 → Prop) (K4 : Int32 → Int32 → Int32 → Prop) (hK4 : ∀ (v1 : Int32) (v2 : Int32) (v3 : Int32) (H : Heap) (locs : List Loc) (ls : Array Slot), mD (wdX E) h hl s H locs → lv_has ls 5 [(0, .ref (wad (wdX E) 7)), (1, .int v1), (2, .int v2), (3, .int v3)] → K4 v1 v2 v3 → W p l e R s m args below meth c H locs 0 0 (MQ below (mQi (wdX E) (fun r h1 hl1 => h = h1 ∧ hl = hl1 ∧ Qp r)) args s 0 0 (wA (wdX E))) (F0 m 4 ls [])) : ∀ (v1 : Int32) (v2 : Int32) (v3 : Int32) (H : Heap) (locs : List Loc) (ls : Array Slot), mD (wdX E) h hl s H locs → lv_has ls 5 [(0, .ref (wad (wdX E) 7)), (1, .int v1), (2, .int v2), (3, .int v3)] → b_X0_joyBy_55 h v1 v2 v3 K4 Qp → W p l e R s m args below meth c H locs 0 0 (MQ below (mQi (wdX E) (fun r h1 hl1 => h = h1 ∧ hl = hl1 ∧ Qp r)) args s 0 0 (wA (wdX E))) (F0 m 55 ls []) := by
  have hx := C.x
  have hb := C.b
  intro v1 v2 v3 H locs ls Dy lv hwp
  unfold b_X0_joyBy_55 at hwp
  refine lv_iinc (v := (v3 + (1 : Int32))) (lv' := [(3, .int (v3 + (1 : Int32))), (0, .ref (wad (wdX E) 7)), (1, .int v1), (2, .int v2)]) hx hb dX0_joyBy_55 lv (k := 3) rfl rfl (by decide) rfl (fun ls lv => ?_)
  refine lv_goto (tgt := 4) hx hb dX0_joyBy_58 (by decide) ?_
  exact hK4 v1 v2 (v3 + (1 : Int32)) _ _ _ Dy (lv_sub lv [1, 2, 3, 0] rfl) hwp
set_option maxHeartbeats 4000000 in
set_option maxRecDepth 100000 in
theorem t_X0_joyBy_4 (E : xE) {p : Program} {l : Launch} {e : Env} {R : Room} {s : State} {m : MethodId} {args : Array Value} {below : List Frame} {meth : Method} {c : Code} (C : mC (wdX E) p s m meth c args cX0_joyBy 5 RX0 (some .int)) (hR : 1 ≤ R.frames ∧ 28 ≤ R.locals) {h : Mem} {hl : MemL} (Qp : Int32 → Prop) : ∀ (n : Nat) (v1 : Int32) (v2 : Int32) (v3 : Int32) (H : Heap) (locs : List Loc) (ls : Array Slot), mD (wdX E) h hl s H locs → lv_has ls 5 [(0, .ref (wad (wdX E) 7)), (1, .int v1), (2, .int v2), (3, .int v3)] → b_X0_joyBy_4 n h v1 v2 v3 Qp → W p l e R s m args below meth c H locs 0 0 (MQ below (mQi (wdX E) (fun r h1 hl1 => h = h1 ∧ hl = hl1 ∧ Qp r)) args s 0 0 (wA (wdX E))) (F0 m 4 ls []) := by
  have hx := C.x
  have hb := C.b
  intro n
  induction n with
  | zero => intro v1 v2 v3 H locs ls Dy lv hwp; exact hwp.elim
  | succ n ih =>
    intro v1 v2 v3 H locs ls Dy lv hwp
    simp only [b_X0_joyBy_4] at hwp
    refine lv_iload_n hx hb dX0_joyBy_4 rfl (lv_at lv 3 rfl) ?_
    refine lv_bipush (v := (24 : Int32)) hx hb dX0_joyBy_5 (by decide) ?_
    refine lv_icmp_ge (tgt := 61) hx hb dX0_joyBy_7 (by decide) (fun c1 => ?_) (fun c1 => ?_)
    · have hwp := hwp.1 c1
      refine lv_iload_n hx hb dX0_joyBy_61 rfl (lv_at lv 2 rfl) ?_
      exact x_iret C Dy ⟨rfl, rfl, hwp⟩ dX0_joyBy_62
    · have hwp := hwp.2 c1
      refine lv_aload_n hx hb dX0_joyBy_10 rfl (lv_at lv 0 rfl) ?_
      refine gf_X0_52_7 C Dy dX0_joyBy_11 ?_
      refine lv_iload_n hx hb dX0_joyBy_14 rfl (lv_at lv 3 rfl) ?_
      obtain ⟨g2, hwp⟩ := hwp
      refine x_zald C Dy wxa_20 g2 dX0_joyBy_15 ?_
      refine lv_if_eq (tgt := 55) hx hb dX0_joyBy_16 (by decide) (fun c3 => ?_) (fun c3 => ?_)
      · have hwp := hwp.1 c3
        exact t_X0_joyBy_55 E C hR Qp (fun v1 v2 v3 => b_X0_joyBy_4 n h v1 v2 v3 Qp) (fun v1 v2 v3 H locs ls Dy lv hwp => ih v1 v2 v3 H locs ls Dy lv hwp) v1 v2 v3 _ _ _ Dy (lv_sub lv [0, 1, 2, 3] rfl) hwp
      · have hwp := hwp.2 c3
        refine lv_aload_n hx hb dX0_joyBy_19 rfl (lv_at lv 0 rfl) ?_
        refine lv_iload_n hx hb dX0_joyBy_20 rfl (lv_at lv 1 rfl) ?_
        refine lv_iload_n hx hb dX0_joyBy_21 rfl (lv_at lv 3 rfl) ?_
        refine x_cont_i Dy (x_runV (As := [.int v1, .int v3]) (rest := []) C Dy (m_X0_deedBy E l _ _ v1 v3 _ hwp) (cw_X0_82 C rfl rfl ⟨Nat.le_trans (Nat.le_of_ble_eq_true rfl) hR.1, Nat.le_trans (Nat.le_of_ble_eq_true rfl) hR.2⟩) wx_7 rfl rfl lv.1 rfl (Nat.le_of_ble_eq_true rfl) dX0_joyBy_22 ⟨Nat.zero_le _, Nat.zero_le _⟩) (fun r4 h5 hl5 H locs hwp Dy => ?_)
        obtain ⟨rfl, rfl, hwp⟩ := hwp
        refine lv_istore (lv' := [(4, .int r4), (0, .ref (wad (wdX E) 7)), (1, .int v1), (2, .int v2), (3, .int v3)]) hx hb dX0_joyBy_25 lv (by decide) rfl (fun ls lv => ?_)
        refine lv_iload hx hb dX0_joyBy_27 (lv_at lv 0 rfl) ?_
        refine lv_iconst (v := (-1 : Int32)) hx hb dX0_joyBy_29 (by decide) ?_
        refine lv_icmp_eq (tgt := 55) hx hb dX0_joyBy_30 (by decide) (fun c6 => ?_) (fun c6 => ?_)
        · have hwp := hwp.1 c6
          exact t_X0_joyBy_55 E C hR Qp (fun v1 v2 v3 => b_X0_joyBy_4 n h v1 v2 v3 Qp) (fun v1 v2 v3 H locs ls Dy lv hwp => ih v1 v2 v3 H locs ls Dy lv hwp) v1 v2 v3 _ _ _ Dy (lv_sub lv [1, 2, 3, 4] rfl) hwp
        · have hwp := hwp.2 c6
          refine lv_iload hx hb dX0_joyBy_33 (lv_at lv 0 rfl) ?_
          refine lv_bipush (v := (6 : Int32)) hx hb dX0_joyBy_35 (by decide) ?_
          refine lv_icmp_eq (tgt := 55) hx hb dX0_joyBy_37 (by decide) (fun c7 => ?_) (fun c7 => ?_)
          · have hwp := hwp.1 c7
            exact t_X0_joyBy_55 E C hR Qp (fun v1 v2 v3 => b_X0_joyBy_4 n h v1 v2 v3 Qp) (fun v1 v2 v3 H locs ls Dy lv hwp => ih v1 v2 v3 H locs ls Dy lv hwp) v1 v2 v3 _ _ _ Dy (lv_sub lv [1, 2, 3, 4] rfl) hwp
          · have hwp := hwp.2 c7
            refine lv_iload_n hx hb dX0_joyBy_40 rfl (lv_at lv 3 rfl) ?_
            refine lv_aload_n hx hb dX0_joyBy_41 rfl (lv_at lv 1 rfl) ?_
            refine gf_X0_46_7 C Dy dX0_joyBy_42 ?_
            refine lv_iload_n hx hb dX0_joyBy_45 rfl (lv_at lv 4 rfl) ?_
            refine lv_bipush (v := (6 : Int32)) hx hb dX0_joyBy_46 (by decide) ?_
            refine lv_imul hx hb dX0_joyBy_48 ?_
            refine lv_iload hx hb dX0_joyBy_49 (lv_at lv 0 rfl) ?_
            refine lv_iadd hx hb dX0_joyBy_51 ?_
            obtain ⟨g8, hwp⟩ := hwp
            refine x_iald C Dy wxa_18 g8 dX0_joyBy_52 ?_
            refine lv_iadd hx hb dX0_joyBy_53 ?_
            refine lv_topi (fun x9 ex9 => ?_)
            have hwp := hwp x9 ex9
            refine lv_istore_n (lv' := [(2, .int x9), (4, .int r4), (0, .ref (wad (wdX E) 7)), (1, .int v1), (3, .int v3)]) hx hb dX0_joyBy_54 rfl lv (by decide) rfl (fun ls lv => ?_)
            exact t_X0_joyBy_55 E C hR Qp (fun v1 v2 v3 => b_X0_joyBy_4 n h v1 v2 v3 Qp) (fun v1 v2 v3 H locs ls Dy lv hwp => ih v1 v2 v3 H locs ls Dy lv hwp) v1 x9 v3 _ _ _ Dy (lv_sub lv [2, 3, 0, 4] rfl) hwp
set_option maxHeartbeats 4000000 in
set_option maxRecDepth 100000 in
theorem m_X0_joyBy (E : xE) (l : Launch) (h : Mem) (hl : MemL) (v1 : Int32) (Qp : Int32 → Prop) (hwp : p_X0_joyBy h v1 Qp) : Met l yX0_joyBy (wsU yX0_joyBy cX0_joyBy 5 (some .int)) ({ frames := 1, cells := 0, slots := 0, locals := 28 } : Room) (mPc (wdX E) [.ref (wad (wdX E) 7), .int v1] h hl) (mQi (wdX E) (fun r h1 hl1 => h = h1 ∧ hl = hl1 ∧ Qp r)) 0 0 (wA (wdX E)) := by
  refine x_met RX0 [(0, .ref (wad (wdX E) 7)), (1, .int v1)] (by decide) rfl (Nat.le_of_ble_eq_true rfl) rfl ?_
  intro p e s m args below meth c ls C Dy lv
  have hx := C.x
  have hb := C.b
  have hR : 1 ≤ ({ frames := 1, cells := 0, slots := 0, locals := 28 } : Room).frames ∧ 28 ≤ ({ frames := 1, cells := 0, slots := 0, locals := 28 } : Room).locals := ⟨Nat.le_refl _, Nat.le_refl _⟩
  unfold p_X0_joyBy at hwp
  refine lv_iconst (v := (0 : Int32)) hx hb dX0_joyBy_0 (by decide) ?_
  refine lv_istore_n (lv' := [(2, .int (0 : Int32)), (0, .ref (wad (wdX E) 7)), (1, .int v1)]) hx hb dX0_joyBy_1 rfl lv (by decide) rfl (fun ls lv => ?_)
  refine lv_iconst (v := (0 : Int32)) hx hb dX0_joyBy_2 (by decide) ?_
  refine lv_istore_n (lv' := [(3, .int (0 : Int32)), (2, .int (0 : Int32)), (0, .ref (wad (wdX E) 7)), (1, .int v1)]) hx hb dX0_joyBy_3 rfl lv (by decide) rfl (fun ls lv => ?_)
  obtain ⟨n0, hwp⟩ := hwp
  exact t_X0_joyBy_4 E C hR Qp n0 v1 (0 : Int32) (0 : Int32) _ _ _ Dy (lv_sub lv [2, 3, 1, 0] rfl) hwp
def b_X0_firstClash_2 : Nat → Mem → Int32 → Int32 → (Int32 → Prop) → Prop
  | 0 => fun _ _ _ _ => False
  | n + 1 => fun h v1 v2 Qp => (((24 : Int32) ≤ v2 → Qp (-1 : Int32)) ∧ (¬ ((24 : Int32) ≤ v2) → (p_X0_deedBy h v1 v2 (fun r2 => ((r2 = (6 : Int32) → Qp v2) ∧ (¬ (r2 = (6 : Int32)) → b_X0_firstClash_2 n h v1 (v2 + (1 : Int32)) Qp))))))
def p_X0_firstClash (h : Mem) (v1 : Int32) (Qp : Int32 → Prop) : Prop := (∃ n2, b_X0_firstClash_2 n2 h v1 (0 : Int32) Qp)
set_option maxHeartbeats 4000000 in
set_option maxRecDepth 100000 in
theorem t_X0_firstClash_2 (E : xE) {p : Program} {l : Launch} {e : Env} {R : Room} {s : State} {m : MethodId} {args : Array Value} {below : List Frame} {meth : Method} {c : Code} (C : mC (wdX E) p s m meth c args cX0_firstClash 3 RX0 (some .int)) (hR : 1 ≤ R.frames ∧ 28 ≤ R.locals) {h : Mem} {hl : MemL} (Qp : Int32 → Prop) : ∀ (n : Nat) (v1 : Int32) (v2 : Int32) (H : Heap) (locs : List Loc) (ls : Array Slot), mD (wdX E) h hl s H locs → lv_has ls 3 [(0, .ref (wad (wdX E) 7)), (1, .int v1), (2, .int v2)] → b_X0_firstClash_2 n h v1 v2 Qp → W p l e R s m args below meth c H locs 0 0 (MQ below (mQi (wdX E) (fun r h1 hl1 => h = h1 ∧ hl = hl1 ∧ Qp r)) args s 0 0 (wA (wdX E))) (F0 m 2 ls []) := by
  have hx := C.x
  have hb := C.b
  intro n
  induction n with
  | zero => intro v1 v2 H locs ls Dy lv hwp; exact hwp.elim
  | succ n ih =>
    intro v1 v2 H locs ls Dy lv hwp
    simp only [b_X0_firstClash_2] at hwp
    refine lv_iload_n hx hb dX0_firstClash_2 rfl (lv_at lv 2 rfl) ?_
    refine lv_bipush (v := (24 : Int32)) hx hb dX0_firstClash_3 (by decide) ?_
    refine lv_icmp_ge (tgt := 27) hx hb dX0_firstClash_5 (by decide) (fun c1 => ?_) (fun c1 => ?_)
    · have hwp := hwp.1 c1
      refine lv_iconst (v := (-1 : Int32)) hx hb dX0_firstClash_27 (by decide) ?_
      exact x_iret C Dy ⟨rfl, rfl, hwp⟩ dX0_firstClash_28
    · have hwp := hwp.2 c1
      refine lv_aload_n hx hb dX0_firstClash_8 rfl (lv_at lv 0 rfl) ?_
      refine lv_iload_n hx hb dX0_firstClash_9 rfl (lv_at lv 1 rfl) ?_
      refine lv_iload_n hx hb dX0_firstClash_10 rfl (lv_at lv 2 rfl) ?_
      refine x_cont_i Dy (x_runV (As := [.int v1, .int v2]) (rest := []) C Dy (m_X0_deedBy E l _ _ v1 v2 _ hwp) (cw_X0_82 C rfl rfl ⟨Nat.le_trans (Nat.le_of_ble_eq_true rfl) hR.1, Nat.le_trans (Nat.le_of_ble_eq_true rfl) hR.2⟩) wx_7 rfl rfl lv.1 rfl (Nat.le_of_ble_eq_true rfl) dX0_firstClash_11 ⟨Nat.zero_le _, Nat.zero_le _⟩) (fun r2 h3 hl3 H locs hwp Dy => ?_)
      obtain ⟨rfl, rfl, hwp⟩ := hwp
      refine lv_bipush (v := (6 : Int32)) hx hb dX0_firstClash_14 (by decide) ?_
      refine lv_icmp_ne (tgt := 21) hx hb dX0_firstClash_16 (by decide) (fun c4 => ?_) (fun c4 => ?_)
      · have hwp := hwp.2 c4
        refine lv_iinc (v := (v2 + (1 : Int32))) (lv' := [(2, .int (v2 + (1 : Int32))), (0, .ref (wad (wdX E) 7)), (1, .int v1)]) hx hb dX0_firstClash_21 lv (k := 2) rfl rfl (by decide) rfl (fun ls lv => ?_)
        refine lv_goto (tgt := 2) hx hb dX0_firstClash_24 (by decide) ?_
        exact ih v1 (v2 + (1 : Int32)) _ _ _ Dy (lv_sub lv [1, 2, 0] rfl) hwp
      · have hwp := hwp.1 c4
        refine lv_iload_n hx hb dX0_firstClash_19 rfl (lv_at lv 2 rfl) ?_
        exact x_iret C Dy ⟨rfl, rfl, hwp⟩ dX0_firstClash_20
set_option maxHeartbeats 4000000 in
set_option maxRecDepth 100000 in
theorem m_X0_firstClash (E : xE) (l : Launch) (h : Mem) (hl : MemL) (v1 : Int32) (Qp : Int32 → Prop) (hwp : p_X0_firstClash h v1 Qp) : Met l yX0_firstClash (wsU yX0_firstClash cX0_firstClash 3 (some .int)) ({ frames := 1, cells := 0, slots := 0, locals := 28 } : Room) (mPc (wdX E) [.ref (wad (wdX E) 7), .int v1] h hl) (mQi (wdX E) (fun r h1 hl1 => h = h1 ∧ hl = hl1 ∧ Qp r)) 0 0 (wA (wdX E)) := by
  refine x_met RX0 [(0, .ref (wad (wdX E) 7)), (1, .int v1)] (by decide) rfl (Nat.le_of_ble_eq_true rfl) rfl ?_
  intro p e s m args below meth c ls C Dy lv
  have hx := C.x
  have hb := C.b
  have hR : 1 ≤ ({ frames := 1, cells := 0, slots := 0, locals := 28 } : Room).frames ∧ 28 ≤ ({ frames := 1, cells := 0, slots := 0, locals := 28 } : Room).locals := ⟨Nat.le_refl _, Nat.le_refl _⟩
  unfold p_X0_firstClash at hwp
  refine lv_iconst (v := (0 : Int32)) hx hb dX0_firstClash_0 (by decide) ?_
  refine lv_istore_n (lv' := [(2, .int (0 : Int32)), (0, .ref (wad (wdX E) 7)), (1, .int v1)]) hx hb dX0_firstClash_1 rfl lv (by decide) rfl (fun ls lv => ?_)
  obtain ⟨n0, hwp⟩ := hwp
  exact t_X0_firstClash_2 E C hR Qp n0 v1 (0 : Int32) _ _ _ Dy (lv_sub lv [1, 2, 0] rfl) hwp
def p_X0_rivalsWithin (h : Mem) (v1 : Int32) (v2 : Int32) (Qp : Int32 → Prop) : Prop := (vp_in v1 12 ∧ Qp ((h 15 v1.toNatClampNeg) &&& v2))
set_option maxHeartbeats 4000000 in
set_option maxRecDepth 100000 in
theorem m_X0_rivalsWithin (E : xE) (l : Launch) (h : Mem) (hl : MemL) (v1 : Int32) (v2 : Int32) (Qp : Int32 → Prop) (hwp : p_X0_rivalsWithin h v1 v2 Qp) : Met l yX0_rivalsWithin (wsU yX0_rivalsWithin cX0_rivalsWithin 3 (some .int)) ({ frames := 0, cells := 0, slots := 0, locals := 0 } : Room) (mPc (wdX E) [.ref (wad (wdX E) 7), .int v1, .int v2] h hl) (mQi (wdX E) (fun r h1 hl1 => h = h1 ∧ hl = hl1 ∧ Qp r)) 0 0 (wA (wdX E)) := by
  refine x_met RX0 [(0, .ref (wad (wdX E) 7)), (1, .int v1), (2, .int v2)] (by decide) rfl (Nat.le_of_ble_eq_true rfl) rfl ?_
  intro p e s m args below meth c ls C Dy lv
  have hx := C.x
  have hb := C.b
  have hR : 0 ≤ ({ frames := 0, cells := 0, slots := 0, locals := 0 } : Room).frames ∧ 0 ≤ ({ frames := 0, cells := 0, slots := 0, locals := 0 } : Room).locals := ⟨Nat.le_refl _, Nat.le_refl _⟩
  unfold p_X0_rivalsWithin at hwp
  refine lv_aload_n hx hb dX0_rivalsWithin_0 rfl (lv_at lv 0 rfl) ?_
  refine gf_X0_37_7 C Dy dX0_rivalsWithin_1 ?_
  refine lv_iload_n hx hb dX0_rivalsWithin_4 rfl (lv_at lv 1 rfl) ?_
  obtain ⟨g1, hwp⟩ := hwp
  refine x_iald C Dy wxa_15 g1 dX0_rivalsWithin_5 ?_
  refine lv_iload_n hx hb dX0_rivalsWithin_6 rfl (lv_at lv 2 rfl) ?_
  refine lv_iand hx hb dX0_rivalsWithin_7 ?_
  exact x_iret C Dy ⟨rfl, rfl, hwp⟩ dX0_rivalsWithin_8
def p_J6_bitCount (v0 : Int32) (Qp : Int32 → Prop) : Prop := (∀ x1 : Int32, x1 = (v0 - (((v0.toUInt32 >>> ((1 : Int32).toUInt32 &&& Int32.toUInt32 31)).toInt32) &&& (1431655765 : Int32))) → (∀ x2 : Int32, x2 = ((x1 &&& (858993459 : Int32)) + (((x1.toUInt32 >>> ((2 : Int32).toUInt32 &&& Int32.toUInt32 31)).toInt32) &&& (858993459 : Int32))) → (∀ x3 : Int32, x3 = ((x2 + ((x2.toUInt32 >>> ((4 : Int32).toUInt32 &&& Int32.toUInt32 31)).toInt32)) &&& (252645135 : Int32)) → (∀ x4 : Int32, x4 = (x3 + ((x3.toUInt32 >>> ((8 : Int32).toUInt32 &&& Int32.toUInt32 31)).toInt32)) → (∀ x5 : Int32, x5 = (x4 + ((x4.toUInt32 >>> ((16 : Int32).toUInt32 &&& Int32.toUInt32 31)).toInt32)) → Qp (x5 &&& (63 : Int32)))))))
set_option maxHeartbeats 4000000 in
set_option maxRecDepth 100000 in
theorem m_J6_bitCount (w : Wd) (l : Launch) (h : Mem) (hl : MemL) (v0 : Int32) (Qp : Int32 → Prop) (hwp : p_J6_bitCount v0 Qp) : Met l yJ6_bitCount_0f7a4 (wsU yJ6_bitCount_0f7a4 cJ6_bitCount_0f7a4 1 (some .int)) ({ frames := 0, cells := 0, slots := 0, locals := 0 } : Room) (mPc w [.int v0] h hl) (mQi w (fun r h1 hl1 => h = h1 ∧ hl = hl1 ∧ Qp r)) 0 0 (wA w) := by
  refine x_met RJ6 [(0, .int v0)] (by decide) rfl (Nat.le_of_ble_eq_true rfl) rfl ?_
  intro p e s m args below meth c ls C Dy lv
  have hx := C.x
  have hb := C.b
  have hR : 0 ≤ ({ frames := 0, cells := 0, slots := 0, locals := 0 } : Room).frames ∧ 0 ≤ ({ frames := 0, cells := 0, slots := 0, locals := 0 } : Room).locals := ⟨Nat.le_refl _, Nat.le_refl _⟩
  unfold p_J6_bitCount at hwp
  refine lv_iload_n hx hb dJ6_bitCount_0f7a4_0 rfl (lv_at lv 0 rfl) ?_
  refine lv_iload_n hx hb dJ6_bitCount_0f7a4_1 rfl (lv_at lv 0 rfl) ?_
  refine lv_iconst (v := (1 : Int32)) hx hb dJ6_bitCount_0f7a4_2 (by decide) ?_
  refine lv_iushr hx hb dJ6_bitCount_0f7a4_3 rfl ?_
  refine lv_ldcw hx hb C.ow (C.ts _ k_519) dJ6_bitCount_0f7a4_4 ?_
  refine lv_iand hx hb dJ6_bitCount_0f7a4_7 ?_
  refine lv_isub hx hb dJ6_bitCount_0f7a4_8 ?_
  refine lv_topi (fun x1 ex1 => ?_)
  have hwp := hwp x1 ex1
  refine lv_istore_n (lv' := [(0, .int x1)]) hx hb dJ6_bitCount_0f7a4_9 rfl lv (by decide) rfl (fun ls lv => ?_)
  refine lv_iload_n hx hb dJ6_bitCount_0f7a4_10 rfl (lv_at lv 0 rfl) ?_
  refine lv_ldcw hx hb C.ow (C.ts _ k_520) dJ6_bitCount_0f7a4_11 ?_
  refine lv_iand hx hb dJ6_bitCount_0f7a4_14 ?_
  refine lv_iload_n hx hb dJ6_bitCount_0f7a4_15 rfl (lv_at lv 0 rfl) ?_
  refine lv_iconst (v := (2 : Int32)) hx hb dJ6_bitCount_0f7a4_16 (by decide) ?_
  refine lv_iushr hx hb dJ6_bitCount_0f7a4_17 rfl ?_
  refine lv_ldcw hx hb C.ow (C.ts _ k_520) dJ6_bitCount_0f7a4_18 ?_
  refine lv_iand hx hb dJ6_bitCount_0f7a4_21 ?_
  refine lv_iadd hx hb dJ6_bitCount_0f7a4_22 ?_
  refine lv_topi (fun x2 ex2 => ?_)
  have hwp := hwp x2 ex2
  refine lv_istore_n (lv' := [(0, .int x2)]) hx hb dJ6_bitCount_0f7a4_23 rfl lv (by decide) rfl (fun ls lv => ?_)
  refine lv_iload_n hx hb dJ6_bitCount_0f7a4_24 rfl (lv_at lv 0 rfl) ?_
  refine lv_iload_n hx hb dJ6_bitCount_0f7a4_25 rfl (lv_at lv 0 rfl) ?_
  refine lv_iconst (v := (4 : Int32)) hx hb dJ6_bitCount_0f7a4_26 (by decide) ?_
  refine lv_iushr hx hb dJ6_bitCount_0f7a4_27 rfl ?_
  refine lv_iadd hx hb dJ6_bitCount_0f7a4_28 ?_
  refine lv_ldcw hx hb C.ow (C.ts _ k_521) dJ6_bitCount_0f7a4_29 ?_
  refine lv_iand hx hb dJ6_bitCount_0f7a4_32 ?_
  refine lv_topi (fun x3 ex3 => ?_)
  have hwp := hwp x3 ex3
  refine lv_istore_n (lv' := [(0, .int x3)]) hx hb dJ6_bitCount_0f7a4_33 rfl lv (by decide) rfl (fun ls lv => ?_)
  refine lv_iload_n hx hb dJ6_bitCount_0f7a4_34 rfl (lv_at lv 0 rfl) ?_
  refine lv_iload_n hx hb dJ6_bitCount_0f7a4_35 rfl (lv_at lv 0 rfl) ?_
  refine lv_bipush (v := (8 : Int32)) hx hb dJ6_bitCount_0f7a4_36 (by decide) ?_
  refine lv_iushr hx hb dJ6_bitCount_0f7a4_38 rfl ?_
  refine lv_iadd hx hb dJ6_bitCount_0f7a4_39 ?_
  refine lv_topi (fun x4 ex4 => ?_)
  have hwp := hwp x4 ex4
  refine lv_istore_n (lv' := [(0, .int x4)]) hx hb dJ6_bitCount_0f7a4_40 rfl lv (by decide) rfl (fun ls lv => ?_)
  refine lv_iload_n hx hb dJ6_bitCount_0f7a4_41 rfl (lv_at lv 0 rfl) ?_
  refine lv_iload_n hx hb dJ6_bitCount_0f7a4_42 rfl (lv_at lv 0 rfl) ?_
  refine lv_bipush (v := (16 : Int32)) hx hb dJ6_bitCount_0f7a4_43 (by decide) ?_
  refine lv_iushr hx hb dJ6_bitCount_0f7a4_45 rfl ?_
  refine lv_iadd hx hb dJ6_bitCount_0f7a4_46 ?_
  refine lv_topi (fun x5 ex5 => ?_)
  have hwp := hwp x5 ex5
  refine lv_istore_n (lv' := [(0, .int x5)]) hx hb dJ6_bitCount_0f7a4_47 rfl lv (by decide) rfl (fun ls lv => ?_)
  refine lv_iload_n hx hb dJ6_bitCount_0f7a4_48 rfl (lv_at lv 0 rfl) ?_
  refine lv_bipush (v := (63 : Int32)) hx hb dJ6_bitCount_0f7a4_49 (by decide) ?_
  refine lv_iand hx hb dJ6_bitCount_0f7a4_51 ?_
  exact x_iret C Dy ⟨rfl, rfl, hwp⟩ dJ6_bitCount_0f7a4_52
def b_X0_quarrelCount_33 (h : Mem) (v1 : Int32) (v2 : Int32) (v3 : Int32) (K4 : Int32 → Int32 → Int32 → Prop) (Qp : Int32 → Prop) : Prop := K4 v1 v2 (v3 + (1 : Int32))
def b_X0_quarrelCount_4 : Nat → Mem → Int32 → Int32 → Int32 → (Int32 → Prop) → Prop
  | 0 => fun _ _ _ _ _ => False
  | n + 1 => fun h v1 v2 v3 Qp => (((h 7 0) ≤ v3 → ((¬ (2 : Int32) = 0) ∧ Qp (v2 / (2 : Int32)))) ∧ (¬ ((h 7 0) ≤ v3) → ((((v1 >>> (v3 &&& 31)) &&& (1 : Int32)) = (1 : Int32) → (p_X0_rivalsWithin h v3 v1 (fun r4 => (p_J6_bitCount r4 (fun r6 => b_X0_quarrelCount_33 h v1 (v2 + r6) v3 (fun v1 v2 v3 => b_X0_quarrelCount_4 n h v1 v2 v3 Qp) Qp))))) ∧ (¬ (((v1 >>> (v3 &&& 31)) &&& (1 : Int32)) = (1 : Int32)) → b_X0_quarrelCount_33 h v1 v2 v3 (fun v1 v2 v3 => b_X0_quarrelCount_4 n h v1 v2 v3 Qp) Qp))))
def p_X0_quarrelCount (h : Mem) (v1 : Int32) (Qp : Int32 → Prop) : Prop := (∃ n4, b_X0_quarrelCount_4 n4 h v1 (0 : Int32) (0 : Int32) Qp)
set_option maxHeartbeats 4000000 in
set_option maxRecDepth 100000 in
theorem t_X0_quarrelCount_33 (E : xE) {p : Program} {l : Launch} {e : Env} {R : Room} {s : State} {m : MethodId} {args : Array Value} {below : List Frame} {meth : Method} {c : Code} (C : mC (wdX E) p s m meth c args cX0_quarrelCount 4 RX0 (some .int)) (hR : 1 ≤ R.frames ∧ 22 ≤ R.locals) {h : Mem} {hl : MemL} (Qp : Int32 → Prop) (K4 : Int32 → Int32 → Int32 → Prop) (hK4 : ∀ (v1 : Int32) (v2 : Int32) (v3 : Int32) (H : Heap) (locs : List Loc) (ls : Array Slot), mD (wdX E) h hl s H locs → lv_has ls 4 [(0, .ref (wad (wdX E) 7)), (1, .int v1), (2, .int v2), (3, .int v3)] → K4 v1 v2 v3 → W p l e R s m args below meth c H locs 0 0 (MQ below (mQi (wdX E) (fun r h1 hl1 => h = h1 ∧ hl = hl1 ∧ Qp r)) args s 0 0 (wA (wdX E))) (F0 m 4 ls [])) : ∀ (v1 : Int32) (v2 : Int32) (v3 : Int32) (H : Heap) (locs : List Loc) (ls : Array Slot), mD (wdX E) h hl s H locs → lv_has ls 4 [(0, .ref (wad (wdX E) 7)), (1, .int v1), (2, .int v2), (3, .int v3)] → b_X0_quarrelCount_33 h v1 v2 v3 K4 Qp → W p l e R s m args below meth c H locs 0 0 (MQ below (mQi (wdX E) (fun r h1 hl1 => h = h1 ∧ hl = hl1 ∧ Qp r)) args s 0 0 (wA (wdX E))) (F0 m 33 ls []) := by
  have hx := C.x
  have hb := C.b
  intro v1 v2 v3 H locs ls Dy lv hwp
  unfold b_X0_quarrelCount_33 at hwp
  refine lv_iinc (v := (v3 + (1 : Int32))) (lv' := [(3, .int (v3 + (1 : Int32))), (0, .ref (wad (wdX E) 7)), (1, .int v1), (2, .int v2)]) hx hb dX0_quarrelCount_33 lv (k := 3) rfl rfl (by decide) rfl (fun ls lv => ?_)
  refine lv_goto (tgt := 4) hx hb dX0_quarrelCount_36 (by decide) ?_
  exact hK4 v1 v2 (v3 + (1 : Int32)) _ _ _ Dy (lv_sub lv [1, 2, 3, 0] rfl) hwp
set_option maxHeartbeats 4000000 in
set_option maxRecDepth 100000 in
theorem t_X0_quarrelCount_4 (E : xE) {p : Program} {l : Launch} {e : Env} {R : Room} {s : State} {m : MethodId} {args : Array Value} {below : List Frame} {meth : Method} {c : Code} (C : mC (wdX E) p s m meth c args cX0_quarrelCount 4 RX0 (some .int)) (hR : 1 ≤ R.frames ∧ 22 ≤ R.locals) {h : Mem} {hl : MemL} (Qp : Int32 → Prop) : ∀ (n : Nat) (v1 : Int32) (v2 : Int32) (v3 : Int32) (H : Heap) (locs : List Loc) (ls : Array Slot), mD (wdX E) h hl s H locs → lv_has ls 4 [(0, .ref (wad (wdX E) 7)), (1, .int v1), (2, .int v2), (3, .int v3)] → b_X0_quarrelCount_4 n h v1 v2 v3 Qp → W p l e R s m args below meth c H locs 0 0 (MQ below (mQi (wdX E) (fun r h1 hl1 => h = h1 ∧ hl = hl1 ∧ Qp r)) args s 0 0 (wA (wdX E))) (F0 m 4 ls []) := by
  have hx := C.x
  have hb := C.b
  intro n
  induction n with
  | zero => intro v1 v2 v3 H locs ls Dy lv hwp; exact hwp.elim
  | succ n ih =>
    intro v1 v2 v3 H locs ls Dy lv hwp
    simp only [b_X0_quarrelCount_4] at hwp
    refine lv_iload_n hx hb dX0_quarrelCount_4 rfl (lv_at lv 3 rfl) ?_
    refine lv_aload_n hx hb dX0_quarrelCount_5 rfl (lv_at lv 0 rfl) ?_
    refine gf_X0_9_7 C Dy dX0_quarrelCount_6 ?_
    refine lv_icmp_ge (tgt := 39) hx hb dX0_quarrelCount_9 (by decide) (fun c1 => ?_) (fun c1 => ?_)
    · have hwp := hwp.1 c1
      refine lv_iload_n hx hb dX0_quarrelCount_39 rfl (lv_at lv 2 rfl) ?_
      refine lv_iconst (v := (2 : Int32)) hx hb dX0_quarrelCount_40 (by decide) ?_
      obtain ⟨g2, hwp⟩ := hwp
      refine lv_idiv hx hb dX0_quarrelCount_41 g2 ?_
      exact x_iret C Dy ⟨rfl, rfl, hwp⟩ dX0_quarrelCount_42
    · have hwp := hwp.2 c1
      refine lv_iload_n hx hb dX0_quarrelCount_12 rfl (lv_at lv 1 rfl) ?_
      refine lv_iload_n hx hb dX0_quarrelCount_13 rfl (lv_at lv 3 rfl) ?_
      refine lv_ishr hx hb dX0_quarrelCount_14 ?_
      refine lv_iconst (v := (1 : Int32)) hx hb dX0_quarrelCount_15 (by decide) ?_
      refine lv_iand hx hb dX0_quarrelCount_16 ?_
      refine lv_iconst (v := (1 : Int32)) hx hb dX0_quarrelCount_17 (by decide) ?_
      refine lv_icmp_ne (tgt := 33) hx hb dX0_quarrelCount_18 (by decide) (fun c3 => ?_) (fun c3 => ?_)
      · have hwp := hwp.2 c3
        exact t_X0_quarrelCount_33 E C hR Qp (fun v1 v2 v3 => b_X0_quarrelCount_4 n h v1 v2 v3 Qp) (fun v1 v2 v3 H locs ls Dy lv hwp => ih v1 v2 v3 H locs ls Dy lv hwp) v1 v2 v3 _ _ _ Dy (lv_sub lv [0, 1, 2, 3] rfl) hwp
      · have hwp := hwp.1 c3
        refine lv_iload_n hx hb dX0_quarrelCount_21 rfl (lv_at lv 2 rfl) ?_
        refine lv_aload_n hx hb dX0_quarrelCount_22 rfl (lv_at lv 0 rfl) ?_
        refine lv_iload_n hx hb dX0_quarrelCount_23 rfl (lv_at lv 3 rfl) ?_
        refine lv_iload_n hx hb dX0_quarrelCount_24 rfl (lv_at lv 1 rfl) ?_
        refine x_cont_i Dy (x_runV (As := [.int v3, .int v1]) (rest := [.int v2]) C Dy (m_X0_rivalsWithin E l _ _ v3 v1 _ hwp) (cw_X0_85 C rfl rfl ⟨Nat.le_trans (Nat.le_of_ble_eq_true rfl) hR.1, Nat.le_trans (Nat.le_of_ble_eq_true rfl) hR.2⟩) wx_7 rfl rfl lv.1 rfl (Nat.le_of_ble_eq_true rfl) dX0_quarrelCount_25 ⟨Nat.zero_le _, Nat.zero_le _⟩) (fun r4 h5 hl5 H locs hwp Dy => ?_)
        obtain ⟨rfl, rfl, hwp⟩ := hwp
        refine x_cont_i Dy (x_runS (As := [.int r4]) (rest := [.int v2]) C Dy (m_J6_bitCount (wdX E) l _ _ r4 _ hwp) (cw_X0_88 C rfl rfl ⟨Nat.le_trans (Nat.le_of_ble_eq_true rfl) hR.1, Nat.le_trans (Nat.le_of_ble_eq_true rfl) hR.2⟩) rfl lv.1 rfl (Nat.le_of_ble_eq_true rfl) dX0_quarrelCount_28 ⟨Nat.zero_le _, Nat.zero_le _⟩) (fun r6 h7 hl7 H locs hwp Dy => ?_)
        obtain ⟨rfl, rfl, hwp⟩ := hwp
        refine lv_iadd hx hb dX0_quarrelCount_31 ?_
        refine lv_istore_n (lv' := [(2, .int (v2 + r6)), (0, .ref (wad (wdX E) 7)), (1, .int v1), (3, .int v3)]) hx hb dX0_quarrelCount_32 rfl lv (by decide) rfl (fun ls lv => ?_)
        exact t_X0_quarrelCount_33 E C hR Qp (fun v1 v2 v3 => b_X0_quarrelCount_4 n h v1 v2 v3 Qp) (fun v1 v2 v3 H locs ls Dy lv hwp => ih v1 v2 v3 H locs ls Dy lv hwp) v1 (v2 + r6) v3 _ _ _ Dy (lv_sub lv [1, 2, 0, 3] rfl) hwp
set_option maxHeartbeats 4000000 in
set_option maxRecDepth 100000 in
theorem m_X0_quarrelCount (E : xE) (l : Launch) (h : Mem) (hl : MemL) (v1 : Int32) (Qp : Int32 → Prop) (hwp : p_X0_quarrelCount h v1 Qp) : Met l yX0_quarrelCount (wsU yX0_quarrelCount cX0_quarrelCount 4 (some .int)) ({ frames := 1, cells := 0, slots := 0, locals := 22 } : Room) (mPc (wdX E) [.ref (wad (wdX E) 7), .int v1] h hl) (mQi (wdX E) (fun r h1 hl1 => h = h1 ∧ hl = hl1 ∧ Qp r)) 0 0 (wA (wdX E)) := by
  refine x_met RX0 [(0, .ref (wad (wdX E) 7)), (1, .int v1)] (by decide) rfl (Nat.le_of_ble_eq_true rfl) rfl ?_
  intro p e s m args below meth c ls C Dy lv
  have hx := C.x
  have hb := C.b
  have hR : 1 ≤ ({ frames := 1, cells := 0, slots := 0, locals := 22 } : Room).frames ∧ 22 ≤ ({ frames := 1, cells := 0, slots := 0, locals := 22 } : Room).locals := ⟨Nat.le_refl _, Nat.le_refl _⟩
  unfold p_X0_quarrelCount at hwp
  refine lv_iconst (v := (0 : Int32)) hx hb dX0_quarrelCount_0 (by decide) ?_
  refine lv_istore_n (lv' := [(2, .int (0 : Int32)), (0, .ref (wad (wdX E) 7)), (1, .int v1)]) hx hb dX0_quarrelCount_1 rfl lv (by decide) rfl (fun ls lv => ?_)
  refine lv_iconst (v := (0 : Int32)) hx hb dX0_quarrelCount_2 (by decide) ?_
  refine lv_istore_n (lv' := [(3, .int (0 : Int32)), (2, .int (0 : Int32)), (0, .ref (wad (wdX E) 7)), (1, .int v1)]) hx hb dX0_quarrelCount_3 rfl lv (by decide) rfl (fun ls lv => ?_)
  obtain ⟨n0, hwp⟩ := hwp
  exact t_X0_quarrelCount_4 E C hR Qp n0 v1 (0 : Int32) (0 : Int32) _ _ _ Dy (lv_sub lv [2, 3, 1, 0] rfl) hwp
def b_X0_leastQuarrel_52 (h : Mem) (v1 : Int32) (v2 : Int32) (v3 : Int32) (K2 : Int32 → Int32 → Prop) (K14 : Int32 → Int32 → Int32 → Prop) (Qp : Int32 → Prop) : Prop := K14 v1 v2 (v3 + (1 : Int32))
def b_X0_leastQuarrel_14 : Nat → Mem → Int32 → Int32 → Int32 → (Int32 → Int32 → Prop) → (Int32 → Prop) → Prop
  | 0 => fun _ _ _ _ _ _ => False
  | n + 1 => fun h v1 v2 v3 K2 Qp => (((h 7 0) ≤ v3 → K2 v1 (v2 + (1 : Int32))) ∧ (¬ ((h 7 0) ≤ v3) → ((((v1 >>> (v2 &&& 31)) &&& (1 : Int32)) = (1 : Int32) → (p_X0_rivalsWithin h v2 v1 (fun r4 => ((((r4 >>> (v3 &&& 31)) &&& (1 : Int32)) = (1 : Int32) → Qp (((12 : Int32) * v2) + v3)) ∧ (¬ (((r4 >>> (v3 &&& 31)) &&& (1 : Int32)) = (1 : Int32)) → b_X0_leastQuarrel_52 h v1 v2 v3 K2 (fun v1 v2 v3 => b_X0_leastQuarrel_14 n h v1 v2 v3 K2 Qp) Qp))))) ∧ (¬ (((v1 >>> (v2 &&& 31)) &&& (1 : Int32)) = (1 : Int32)) → b_X0_leastQuarrel_52 h v1 v2 v3 K2 (fun v1 v2 v3 => b_X0_leastQuarrel_14 n h v1 v2 v3 K2 Qp) Qp))))
def b_X0_leastQuarrel_2 : Nat → Mem → Int32 → Int32 → (Int32 → Prop) → Prop
  | 0 => fun _ _ _ _ => False
  | n + 1 => fun h v1 v2 Qp => (((h 7 0) ≤ v2 → Qp (-1 : Int32)) ∧ (¬ ((h 7 0) ≤ v2) → (∃ n14, b_X0_leastQuarrel_14 n14 h v1 v2 (v2 + (1 : Int32)) (fun v1 v2 => b_X0_leastQuarrel_2 n h v1 v2 Qp) Qp)))
def p_X0_leastQuarrel (h : Mem) (v1 : Int32) (Qp : Int32 → Prop) : Prop := (∃ n2, b_X0_leastQuarrel_2 n2 h v1 (0 : Int32) Qp)
set_option maxHeartbeats 4000000 in
set_option maxRecDepth 100000 in
theorem t_X0_leastQuarrel_52 (E : xE) {p : Program} {l : Launch} {e : Env} {R : Room} {s : State} {m : MethodId} {args : Array Value} {below : List Frame} {meth : Method} {c : Code} (C : mC (wdX E) p s m meth c args cX0_leastQuarrel 4 RX0 (some .int)) (hR : 1 ≤ R.frames ∧ 22 ≤ R.locals) {h : Mem} {hl : MemL} (Qp : Int32 → Prop) (K2 : Int32 → Int32 → Prop) (K14 : Int32 → Int32 → Int32 → Prop) (hK2 : ∀ (v1 : Int32) (v2 : Int32) (H : Heap) (locs : List Loc) (ls : Array Slot), mD (wdX E) h hl s H locs → lv_has ls 4 [(0, .ref (wad (wdX E) 7)), (1, .int v1), (2, .int v2)] → K2 v1 v2 → W p l e R s m args below meth c H locs 0 0 (MQ below (mQi (wdX E) (fun r h1 hl1 => h = h1 ∧ hl = hl1 ∧ Qp r)) args s 0 0 (wA (wdX E))) (F0 m 2 ls [])) (hK14 : ∀ (v1 : Int32) (v2 : Int32) (v3 : Int32) (H : Heap) (locs : List Loc) (ls : Array Slot), mD (wdX E) h hl s H locs → lv_has ls 4 [(0, .ref (wad (wdX E) 7)), (1, .int v1), (2, .int v2), (3, .int v3)] → K14 v1 v2 v3 → W p l e R s m args below meth c H locs 0 0 (MQ below (mQi (wdX E) (fun r h1 hl1 => h = h1 ∧ hl = hl1 ∧ Qp r)) args s 0 0 (wA (wdX E))) (F0 m 14 ls [])) : ∀ (v1 : Int32) (v2 : Int32) (v3 : Int32) (H : Heap) (locs : List Loc) (ls : Array Slot), mD (wdX E) h hl s H locs → lv_has ls 4 [(0, .ref (wad (wdX E) 7)), (1, .int v1), (2, .int v2), (3, .int v3)] → b_X0_leastQuarrel_52 h v1 v2 v3 K2 K14 Qp → W p l e R s m args below meth c H locs 0 0 (MQ below (mQi (wdX E) (fun r h1 hl1 => h = h1 ∧ hl = hl1 ∧ Qp r)) args s 0 0 (wA (wdX E))) (F0 m 52 ls []) := by
  have hx := C.x
  have hb := C.b
  intro v1 v2 v3 H locs ls Dy lv hwp
  unfold b_X0_leastQuarrel_52 at hwp
  refine lv_iinc (v := (v3 + (1 : Int32))) (lv' := [(3, .int (v3 + (1 : Int32))), (0, .ref (wad (wdX E) 7)), (1, .int v1), (2, .int v2)]) hx hb dX0_leastQuarrel_52 lv (k := 3) rfl rfl (by decide) rfl (fun ls lv => ?_)
  refine lv_goto (tgt := 14) hx hb dX0_leastQuarrel_55 (by decide) ?_
  exact hK14 v1 v2 (v3 + (1 : Int32)) _ _ _ Dy (lv_sub lv [1, 2, 3, 0] rfl) hwp
set_option maxHeartbeats 4000000 in
set_option maxRecDepth 100000 in
theorem t_X0_leastQuarrel_14 (E : xE) {p : Program} {l : Launch} {e : Env} {R : Room} {s : State} {m : MethodId} {args : Array Value} {below : List Frame} {meth : Method} {c : Code} (C : mC (wdX E) p s m meth c args cX0_leastQuarrel 4 RX0 (some .int)) (hR : 1 ≤ R.frames ∧ 22 ≤ R.locals) {h : Mem} {hl : MemL} (Qp : Int32 → Prop) (K2 : Int32 → Int32 → Prop) (hK2 : ∀ (v1 : Int32) (v2 : Int32) (H : Heap) (locs : List Loc) (ls : Array Slot), mD (wdX E) h hl s H locs → lv_has ls 4 [(0, .ref (wad (wdX E) 7)), (1, .int v1), (2, .int v2)] → K2 v1 v2 → W p l e R s m args below meth c H locs 0 0 (MQ below (mQi (wdX E) (fun r h1 hl1 => h = h1 ∧ hl = hl1 ∧ Qp r)) args s 0 0 (wA (wdX E))) (F0 m 2 ls [])) : ∀ (n : Nat) (v1 : Int32) (v2 : Int32) (v3 : Int32) (H : Heap) (locs : List Loc) (ls : Array Slot), mD (wdX E) h hl s H locs → lv_has ls 4 [(0, .ref (wad (wdX E) 7)), (1, .int v1), (2, .int v2), (3, .int v3)] → b_X0_leastQuarrel_14 n h v1 v2 v3 K2 Qp → W p l e R s m args below meth c H locs 0 0 (MQ below (mQi (wdX E) (fun r h1 hl1 => h = h1 ∧ hl = hl1 ∧ Qp r)) args s 0 0 (wA (wdX E))) (F0 m 14 ls []) := by
  have hx := C.x
  have hb := C.b
  intro n
  induction n with
  | zero => intro v1 v2 v3 H locs ls Dy lv hwp; exact hwp.elim
  | succ n ih =>
    intro v1 v2 v3 H locs ls Dy lv hwp
    simp only [b_X0_leastQuarrel_14] at hwp
    refine lv_iload_n hx hb dX0_leastQuarrel_14 rfl (lv_at lv 3 rfl) ?_
    refine lv_aload_n hx hb dX0_leastQuarrel_15 rfl (lv_at lv 0 rfl) ?_
    refine gf_X0_9_7 C Dy dX0_leastQuarrel_16 ?_
    refine lv_icmp_ge (tgt := 58) hx hb dX0_leastQuarrel_19 (by decide) (fun c2 => ?_) (fun c2 => ?_)
    · have hwp := hwp.1 c2
      refine lv_iinc (v := (v2 + (1 : Int32))) (lv' := [(2, .int (v2 + (1 : Int32))), (0, .ref (wad (wdX E) 7)), (1, .int v1), (3, .int v3)]) hx hb dX0_leastQuarrel_58 lv (k := 2) rfl rfl (by decide) rfl (fun ls lv => ?_)
      refine lv_goto (tgt := 2) hx hb dX0_leastQuarrel_61 (by decide) ?_
      exact hK2 v1 (v2 + (1 : Int32)) _ _ _ Dy (lv_sub lv [1, 2, 0] rfl) hwp
    · have hwp := hwp.2 c2
      refine lv_iload_n hx hb dX0_leastQuarrel_22 rfl (lv_at lv 1 rfl) ?_
      refine lv_iload_n hx hb dX0_leastQuarrel_23 rfl (lv_at lv 2 rfl) ?_
      refine lv_ishr hx hb dX0_leastQuarrel_24 ?_
      refine lv_iconst (v := (1 : Int32)) hx hb dX0_leastQuarrel_25 (by decide) ?_
      refine lv_iand hx hb dX0_leastQuarrel_26 ?_
      refine lv_iconst (v := (1 : Int32)) hx hb dX0_leastQuarrel_27 (by decide) ?_
      refine lv_icmp_ne (tgt := 52) hx hb dX0_leastQuarrel_28 (by decide) (fun c3 => ?_) (fun c3 => ?_)
      · have hwp := hwp.2 c3
        exact t_X0_leastQuarrel_52 E C hR Qp K2 (fun v1 v2 v3 => b_X0_leastQuarrel_14 n h v1 v2 v3 K2 Qp) hK2 (fun v1 v2 v3 H locs ls Dy lv hwp => ih v1 v2 v3 H locs ls Dy lv hwp) v1 v2 v3 _ _ _ Dy (lv_sub lv [0, 1, 2, 3] rfl) hwp
      · have hwp := hwp.1 c3
        refine lv_aload_n hx hb dX0_leastQuarrel_31 rfl (lv_at lv 0 rfl) ?_
        refine lv_iload_n hx hb dX0_leastQuarrel_32 rfl (lv_at lv 2 rfl) ?_
        refine lv_iload_n hx hb dX0_leastQuarrel_33 rfl (lv_at lv 1 rfl) ?_
        refine x_cont_i Dy (x_runV (As := [.int v2, .int v1]) (rest := []) C Dy (m_X0_rivalsWithin E l _ _ v2 v1 _ hwp) (cw_X0_85 C rfl rfl ⟨Nat.le_trans (Nat.le_of_ble_eq_true rfl) hR.1, Nat.le_trans (Nat.le_of_ble_eq_true rfl) hR.2⟩) wx_7 rfl rfl lv.1 rfl (Nat.le_of_ble_eq_true rfl) dX0_leastQuarrel_34 ⟨Nat.zero_le _, Nat.zero_le _⟩) (fun r4 h5 hl5 H locs hwp Dy => ?_)
        obtain ⟨rfl, rfl, hwp⟩ := hwp
        refine lv_iload_n hx hb dX0_leastQuarrel_37 rfl (lv_at lv 3 rfl) ?_
        refine lv_ishr hx hb dX0_leastQuarrel_38 ?_
        refine lv_iconst (v := (1 : Int32)) hx hb dX0_leastQuarrel_39 (by decide) ?_
        refine lv_iand hx hb dX0_leastQuarrel_40 ?_
        refine lv_iconst (v := (1 : Int32)) hx hb dX0_leastQuarrel_41 (by decide) ?_
        refine lv_icmp_ne (tgt := 52) hx hb dX0_leastQuarrel_42 (by decide) (fun c6 => ?_) (fun c6 => ?_)
        · have hwp := hwp.2 c6
          exact t_X0_leastQuarrel_52 E C hR Qp K2 (fun v1 v2 v3 => b_X0_leastQuarrel_14 n h v1 v2 v3 K2 Qp) hK2 (fun v1 v2 v3 H locs ls Dy lv hwp => ih v1 v2 v3 H locs ls Dy lv hwp) v1 v2 v3 _ _ _ Dy (lv_sub lv [0, 1, 2, 3] rfl) hwp
        · have hwp := hwp.1 c6
          refine lv_bipush (v := (12 : Int32)) hx hb dX0_leastQuarrel_45 (by decide) ?_
          refine lv_iload_n hx hb dX0_leastQuarrel_47 rfl (lv_at lv 2 rfl) ?_
          refine lv_imul hx hb dX0_leastQuarrel_48 ?_
          refine lv_iload_n hx hb dX0_leastQuarrel_49 rfl (lv_at lv 3 rfl) ?_
          refine lv_iadd hx hb dX0_leastQuarrel_50 ?_
          exact x_iret C Dy ⟨rfl, rfl, hwp⟩ dX0_leastQuarrel_51
set_option maxHeartbeats 4000000 in
set_option maxRecDepth 100000 in
theorem t_X0_leastQuarrel_2 (E : xE) {p : Program} {l : Launch} {e : Env} {R : Room} {s : State} {m : MethodId} {args : Array Value} {below : List Frame} {meth : Method} {c : Code} (C : mC (wdX E) p s m meth c args cX0_leastQuarrel 4 RX0 (some .int)) (hR : 1 ≤ R.frames ∧ 22 ≤ R.locals) {h : Mem} {hl : MemL} (Qp : Int32 → Prop) : ∀ (n : Nat) (v1 : Int32) (v2 : Int32) (H : Heap) (locs : List Loc) (ls : Array Slot), mD (wdX E) h hl s H locs → lv_has ls 4 [(0, .ref (wad (wdX E) 7)), (1, .int v1), (2, .int v2)] → b_X0_leastQuarrel_2 n h v1 v2 Qp → W p l e R s m args below meth c H locs 0 0 (MQ below (mQi (wdX E) (fun r h1 hl1 => h = h1 ∧ hl = hl1 ∧ Qp r)) args s 0 0 (wA (wdX E))) (F0 m 2 ls []) := by
  have hx := C.x
  have hb := C.b
  intro n
  induction n with
  | zero => intro v1 v2 H locs ls Dy lv hwp; exact hwp.elim
  | succ n ih =>
    intro v1 v2 H locs ls Dy lv hwp
    simp only [b_X0_leastQuarrel_2] at hwp
    refine lv_iload_n hx hb dX0_leastQuarrel_2 rfl (lv_at lv 2 rfl) ?_
    refine lv_aload_n hx hb dX0_leastQuarrel_3 rfl (lv_at lv 0 rfl) ?_
    refine gf_X0_9_7 C Dy dX0_leastQuarrel_4 ?_
    refine lv_icmp_ge (tgt := 64) hx hb dX0_leastQuarrel_7 (by decide) (fun c1 => ?_) (fun c1 => ?_)
    · have hwp := hwp.1 c1
      refine lv_iconst (v := (-1 : Int32)) hx hb dX0_leastQuarrel_64 (by decide) ?_
      exact x_iret C Dy ⟨rfl, rfl, hwp⟩ dX0_leastQuarrel_65
    · have hwp := hwp.2 c1
      refine lv_iload_n hx hb dX0_leastQuarrel_10 rfl (lv_at lv 2 rfl) ?_
      refine lv_iconst (v := (1 : Int32)) hx hb dX0_leastQuarrel_11 (by decide) ?_
      refine lv_iadd hx hb dX0_leastQuarrel_12 ?_
      refine lv_istore_n (lv' := [(3, .int (v2 + (1 : Int32))), (0, .ref (wad (wdX E) 7)), (1, .int v1), (2, .int v2)]) hx hb dX0_leastQuarrel_13 rfl lv (by decide) rfl (fun ls lv => ?_)
      obtain ⟨n0, hwp⟩ := hwp
      exact t_X0_leastQuarrel_14 E C hR Qp (fun v1 v2 => b_X0_leastQuarrel_2 n h v1 v2 Qp) (fun v1 v2 H locs ls Dy lv hwp => ih v1 v2 H locs ls Dy lv hwp) n0 v1 v2 (v2 + (1 : Int32)) _ _ _ Dy (lv_sub lv [1, 2, 3, 0] rfl) hwp
set_option maxHeartbeats 4000000 in
set_option maxRecDepth 100000 in
theorem m_X0_leastQuarrel (E : xE) (l : Launch) (h : Mem) (hl : MemL) (v1 : Int32) (Qp : Int32 → Prop) (hwp : p_X0_leastQuarrel h v1 Qp) : Met l yX0_leastQuarrel (wsU yX0_leastQuarrel cX0_leastQuarrel 4 (some .int)) ({ frames := 1, cells := 0, slots := 0, locals := 22 } : Room) (mPc (wdX E) [.ref (wad (wdX E) 7), .int v1] h hl) (mQi (wdX E) (fun r h1 hl1 => h = h1 ∧ hl = hl1 ∧ Qp r)) 0 0 (wA (wdX E)) := by
  refine x_met RX0 [(0, .ref (wad (wdX E) 7)), (1, .int v1)] (by decide) rfl (Nat.le_of_ble_eq_true rfl) rfl ?_
  intro p e s m args below meth c ls C Dy lv
  have hx := C.x
  have hb := C.b
  have hR : 1 ≤ ({ frames := 1, cells := 0, slots := 0, locals := 22 } : Room).frames ∧ 22 ≤ ({ frames := 1, cells := 0, slots := 0, locals := 22 } : Room).locals := ⟨Nat.le_refl _, Nat.le_refl _⟩
  unfold p_X0_leastQuarrel at hwp
  refine lv_iconst (v := (0 : Int32)) hx hb dX0_leastQuarrel_0 (by decide) ?_
  refine lv_istore_n (lv' := [(2, .int (0 : Int32)), (0, .ref (wad (wdX E) 7)), (1, .int v1)]) hx hb dX0_leastQuarrel_1 rfl lv (by decide) rfl (fun ls lv => ?_)
  obtain ⟨n0, hwp⟩ := hwp
  exact t_X0_leastQuarrel_2 E C hR Qp n0 v1 (0 : Int32) _ _ _ Dy (lv_sub lv [1, 2, 0] rfl) hwp
def b_X0_hindrances_50 (h : Mem) (v1 : Int32) (v3 : Int32) (v5 : Int32) (v6 : Int32) (w0 : Int32) (w1 : Int32) (K12 : Int32 → Int32 → Int32 → Int32 → Int32 → Prop) (Qp : Int32 → Prop) : Prop := K12 v1 v3 (w1 ||| w0) v5 (v6 + (1 : Int32))
def b_X0_hindrances_12 : Nat → Mem → Int32 → Int32 → Int32 → Int32 → Int32 → (Int32 → Prop) → Prop
  | 0 => fun _ _ _ _ _ _ _ => False
  | n + 1 => fun h v1 v3 v4 v5 v6 Qp => (((6 : Int32) ≤ v6 → Qp (v4 &&& v1)) ∧ (¬ ((6 : Int32) ≤ v6) → ((v6 = v3 → (vp_in (v5 + v6) 144 ∧ b_X0_hindrances_50 h v1 v3 v5 v6 (h 17 (v5 + v6).toNatClampNeg) v4 (fun v1 v3 v4 v5 v6 => b_X0_hindrances_12 n h v1 v3 v4 v5 v6 Qp) Qp)) ∧ (¬ (v6 = v3) → (vp_in (v5 + v6) 144 ∧ b_X0_hindrances_50 h v1 v3 v5 v6 (h 16 (v5 + v6).toNatClampNeg) v4 (fun v1 v3 v4 v5 v6 => b_X0_hindrances_12 n h v1 v3 v4 v5 v6 Qp) Qp)))))
def p_X0_hindrances (h : Mem) (v1 : Int32) (v2 : Int32) (v3 : Int32) (Qp : Int32 → Prop) : Prop := (∃ n12, b_X0_hindrances_12 n12 h v1 v3 (0 : Int32) (v2 * (6 : Int32)) (0 : Int32) Qp)
set_option maxHeartbeats 4000000 in
set_option maxRecDepth 100000 in
theorem t_X0_hindrances_50 (E : xE) {p : Program} {l : Launch} {e : Env} {R : Room} {s : State} {m : MethodId} {args : Array Value} {below : List Frame} {meth : Method} {c : Code} (C : mC (wdX E) p s m meth c args cX0_hindrances 7 RX0 (some .int)) (hR : 0 ≤ R.frames ∧ 0 ≤ R.locals) {h : Mem} {hl : MemL} (Qp : Int32 → Prop) (K12 : Int32 → Int32 → Int32 → Int32 → Int32 → Prop) (hK12 : ∀ (v1 : Int32) (v3 : Int32) (v4 : Int32) (v5 : Int32) (v6 : Int32) (H : Heap) (locs : List Loc) (ls : Array Slot), mD (wdX E) h hl s H locs → lv_has ls 7 [(0, .ref (wad (wdX E) 7)), (1, .int v1), (3, .int v3), (4, .int v4), (5, .int v5), (6, .int v6)] → K12 v1 v3 v4 v5 v6 → W p l e R s m args below meth c H locs 0 0 (MQ below (mQi (wdX E) (fun r h1 hl1 => h = h1 ∧ hl = hl1 ∧ Qp r)) args s 0 0 (wA (wdX E))) (F0 m 12 ls [])) : ∀ (v1 : Int32) (v3 : Int32) (v5 : Int32) (v6 : Int32) (w0 : Int32) (w1 : Int32) (H : Heap) (locs : List Loc) (ls : Array Slot), mD (wdX E) h hl s H locs → lv_has ls 7 [(0, .ref (wad (wdX E) 7)), (1, .int v1), (3, .int v3), (5, .int v5), (6, .int v6)] → b_X0_hindrances_50 h v1 v3 v5 v6 w0 w1 K12 Qp → W p l e R s m args below meth c H locs 0 0 (MQ below (mQi (wdX E) (fun r h1 hl1 => h = h1 ∧ hl = hl1 ∧ Qp r)) args s 0 0 (wA (wdX E))) (F0 m 50 ls [.int w0, .int w1]) := by
  have hx := C.x
  have hb := C.b
  intro v1 v3 v5 v6 w0 w1 H locs ls Dy lv hwp
  unfold b_X0_hindrances_50 at hwp
  refine lv_ior hx hb dX0_hindrances_50 ?_
  refine lv_istore (lv' := [(4, .int (w1 ||| w0)), (0, .ref (wad (wdX E) 7)), (1, .int v1), (3, .int v3), (5, .int v5), (6, .int v6)]) hx hb dX0_hindrances_51 lv (by decide) rfl (fun ls lv => ?_)
  refine lv_iinc (v := (v6 + (1 : Int32))) (lv' := [(6, .int (v6 + (1 : Int32))), (4, .int (w1 ||| w0)), (0, .ref (wad (wdX E) 7)), (1, .int v1), (3, .int v3), (5, .int v5)]) hx hb dX0_hindrances_53 lv (k := 5) rfl rfl (by decide) rfl (fun ls lv => ?_)
  refine lv_goto (tgt := 12) hx hb dX0_hindrances_56 (by decide) ?_
  exact hK12 v1 v3 (w1 ||| w0) v5 (v6 + (1 : Int32)) _ _ _ Dy (lv_sub lv [2, 3, 4, 1, 5, 0] rfl) hwp
set_option maxHeartbeats 4000000 in
set_option maxRecDepth 100000 in
theorem t_X0_hindrances_12 (E : xE) {p : Program} {l : Launch} {e : Env} {R : Room} {s : State} {m : MethodId} {args : Array Value} {below : List Frame} {meth : Method} {c : Code} (C : mC (wdX E) p s m meth c args cX0_hindrances 7 RX0 (some .int)) (hR : 0 ≤ R.frames ∧ 0 ≤ R.locals) {h : Mem} {hl : MemL} (Qp : Int32 → Prop) : ∀ (n : Nat) (v1 : Int32) (v3 : Int32) (v4 : Int32) (v5 : Int32) (v6 : Int32) (H : Heap) (locs : List Loc) (ls : Array Slot), mD (wdX E) h hl s H locs → lv_has ls 7 [(0, .ref (wad (wdX E) 7)), (1, .int v1), (3, .int v3), (4, .int v4), (5, .int v5), (6, .int v6)] → b_X0_hindrances_12 n h v1 v3 v4 v5 v6 Qp → W p l e R s m args below meth c H locs 0 0 (MQ below (mQi (wdX E) (fun r h1 hl1 => h = h1 ∧ hl = hl1 ∧ Qp r)) args s 0 0 (wA (wdX E))) (F0 m 12 ls []) := by
  have hx := C.x
  have hb := C.b
  intro n
  induction n with
  | zero => intro v1 v3 v4 v5 v6 H locs ls Dy lv hwp; exact hwp.elim
  | succ n ih =>
    intro v1 v3 v4 v5 v6 H locs ls Dy lv hwp
    simp only [b_X0_hindrances_12] at hwp
    refine lv_iload hx hb dX0_hindrances_12 (lv_at lv 5 rfl) ?_
    refine lv_bipush (v := (6 : Int32)) hx hb dX0_hindrances_14 (by decide) ?_
    refine lv_icmp_ge (tgt := 59) hx hb dX0_hindrances_16 (by decide) (fun c1 => ?_) (fun c1 => ?_)
    · have hwp := hwp.1 c1
      refine lv_iload hx hb dX0_hindrances_59 (lv_at lv 3 rfl) ?_
      refine lv_iload_n hx hb dX0_hindrances_61 rfl (lv_at lv 1 rfl) ?_
      refine lv_iand hx hb dX0_hindrances_62 ?_
      exact x_iret C Dy ⟨rfl, rfl, hwp⟩ dX0_hindrances_63
    · have hwp := hwp.2 c1
      refine lv_iload hx hb dX0_hindrances_19 (lv_at lv 3 rfl) ?_
      refine lv_iload hx hb dX0_hindrances_21 (lv_at lv 5 rfl) ?_
      refine lv_iload_n hx hb dX0_hindrances_23 rfl (lv_at lv 2 rfl) ?_
      refine lv_icmp_ne (tgt := 40) hx hb dX0_hindrances_24 (by decide) (fun c2 => ?_) (fun c2 => ?_)
      · have hwp := hwp.2 c2
        refine lv_aload_n hx hb dX0_hindrances_40 rfl (lv_at lv 0 rfl) ?_
        refine gf_X0_40_7 C Dy dX0_hindrances_41 ?_
        refine lv_iload hx hb dX0_hindrances_44 (lv_at lv 4 rfl) ?_
        refine lv_iload hx hb dX0_hindrances_46 (lv_at lv 5 rfl) ?_
        refine lv_iadd hx hb dX0_hindrances_48 ?_
        obtain ⟨g3, hwp⟩ := hwp
        refine x_iald C Dy wxa_16 g3 dX0_hindrances_49 ?_
        exact t_X0_hindrances_50 E C hR Qp (fun v1 v3 v4 v5 v6 => b_X0_hindrances_12 n h v1 v3 v4 v5 v6 Qp) (fun v1 v3 v4 v5 v6 H locs ls Dy lv hwp => ih v1 v3 v4 v5 v6 H locs ls Dy lv hwp) v1 v3 v5 v6 (h 16 (v5 + v6).toNatClampNeg) v4 _ _ _ Dy (lv_sub lv [0, 1, 2, 4, 5] rfl) hwp
      · have hwp := hwp.1 c2
        refine lv_aload_n hx hb dX0_hindrances_27 rfl (lv_at lv 0 rfl) ?_
        refine gf_X0_43_7 C Dy dX0_hindrances_28 ?_
        refine lv_iload hx hb dX0_hindrances_31 (lv_at lv 4 rfl) ?_
        refine lv_iload hx hb dX0_hindrances_33 (lv_at lv 5 rfl) ?_
        refine lv_iadd hx hb dX0_hindrances_35 ?_
        obtain ⟨g4, hwp⟩ := hwp
        refine x_iald C Dy wxa_17 g4 dX0_hindrances_36 ?_
        refine lv_goto (tgt := 50) hx hb dX0_hindrances_37 (by decide) ?_
        exact t_X0_hindrances_50 E C hR Qp (fun v1 v3 v4 v5 v6 => b_X0_hindrances_12 n h v1 v3 v4 v5 v6 Qp) (fun v1 v3 v4 v5 v6 H locs ls Dy lv hwp => ih v1 v3 v4 v5 v6 H locs ls Dy lv hwp) v1 v3 v5 v6 (h 17 (v5 + v6).toNatClampNeg) v4 _ _ _ Dy (lv_sub lv [0, 1, 2, 4, 5] rfl) hwp
set_option maxHeartbeats 4000000 in
set_option maxRecDepth 100000 in
theorem m_X0_hindrances (E : xE) (l : Launch) (h : Mem) (hl : MemL) (v1 : Int32) (v2 : Int32) (v3 : Int32) (Qp : Int32 → Prop) (hwp : p_X0_hindrances h v1 v2 v3 Qp) : Met l yX0_hindrances (wsU yX0_hindrances cX0_hindrances 7 (some .int)) ({ frames := 0, cells := 0, slots := 0, locals := 0 } : Room) (mPc (wdX E) [.ref (wad (wdX E) 7), .int v1, .int v2, .int v3] h hl) (mQi (wdX E) (fun r h1 hl1 => h = h1 ∧ hl = hl1 ∧ Qp r)) 0 0 (wA (wdX E)) := by
  refine x_met RX0 [(0, .ref (wad (wdX E) 7)), (1, .int v1), (2, .int v2), (3, .int v3)] (by decide) rfl (Nat.le_of_ble_eq_true rfl) rfl ?_
  intro p e s m args below meth c ls C Dy lv
  have hx := C.x
  have hb := C.b
  have hR : 0 ≤ ({ frames := 0, cells := 0, slots := 0, locals := 0 } : Room).frames ∧ 0 ≤ ({ frames := 0, cells := 0, slots := 0, locals := 0 } : Room).locals := ⟨Nat.le_refl _, Nat.le_refl _⟩
  unfold p_X0_hindrances at hwp
  refine lv_iconst (v := (0 : Int32)) hx hb dX0_hindrances_0 (by decide) ?_
  refine lv_istore (lv' := [(4, .int (0 : Int32)), (0, .ref (wad (wdX E) 7)), (1, .int v1), (2, .int v2), (3, .int v3)]) hx hb dX0_hindrances_1 lv (by decide) rfl (fun ls lv => ?_)
  refine lv_iload_n hx hb dX0_hindrances_3 rfl (lv_at lv 3 rfl) ?_
  refine lv_bipush (v := (6 : Int32)) hx hb dX0_hindrances_4 (by decide) ?_
  refine lv_imul hx hb dX0_hindrances_6 ?_
  refine lv_istore (lv' := [(5, .int (v2 * (6 : Int32))), (4, .int (0 : Int32)), (0, .ref (wad (wdX E) 7)), (1, .int v1), (2, .int v2), (3, .int v3)]) hx hb dX0_hindrances_7 lv (by decide) rfl (fun ls lv => ?_)
  refine lv_iconst (v := (0 : Int32)) hx hb dX0_hindrances_9 (by decide) ?_
  refine lv_istore (lv' := [(6, .int (0 : Int32)), (5, .int (v2 * (6 : Int32))), (4, .int (0 : Int32)), (0, .ref (wad (wdX E) 7)), (1, .int v1), (2, .int v2), (3, .int v3)]) hx hb dX0_hindrances_10 lv (by decide) rfl (fun ls lv => ?_)
  obtain ⟨n0, hwp⟩ := hwp
  exact t_X0_hindrances_12 E C hR Qp n0 v1 v3 (0 : Int32) (v2 * (6 : Int32)) (0 : Int32) _ _ _ Dy (lv_sub lv [3, 4, 6, 2, 1, 0] rfl) hwp
def p_X0_leastExemption (h : Mem) (v1 : Int32) (v2 : Int32) (v3 : Int32) (Qp : Int32 → Prop) : Prop := (p_X0_hindrances h v1 v2 v3 (fun r1 => (p_X0_deedBy h (v1 &&& (r1 ^^^ (-1 : Int32))) v2 (fun r3 => Qp (if r3 = v3 then r1 else (-1 : Int32))))))
set_option maxHeartbeats 4000000 in
set_option maxRecDepth 100000 in
theorem m_X0_leastExemption (E : xE) (l : Launch) (h : Mem) (hl : MemL) (v1 : Int32) (v2 : Int32) (v3 : Int32) (Qp : Int32 → Prop) (hwp : p_X0_leastExemption h v1 v2 v3 Qp) : Met l yX0_leastExemption (wsU yX0_leastExemption cX0_leastExemption 5 (some .int)) ({ frames := 1, cells := 0, slots := 0, locals := 28 } : Room) (mPc (wdX E) [.ref (wad (wdX E) 7), .int v1, .int v2, .int v3] h hl) (mQi (wdX E) (fun r h1 hl1 => h = h1 ∧ hl = hl1 ∧ Qp r)) 0 0 (wA (wdX E)) := by
  refine x_met RX0 [(0, .ref (wad (wdX E) 7)), (1, .int v1), (2, .int v2), (3, .int v3)] (by decide) rfl (Nat.le_of_ble_eq_true rfl) rfl ?_
  intro p e s m args below meth c ls C Dy lv
  have hx := C.x
  have hb := C.b
  have hR : 1 ≤ ({ frames := 1, cells := 0, slots := 0, locals := 28 } : Room).frames ∧ 28 ≤ ({ frames := 1, cells := 0, slots := 0, locals := 28 } : Room).locals := ⟨Nat.le_refl _, Nat.le_refl _⟩
  unfold p_X0_leastExemption at hwp
  refine lv_aload_n hx hb dX0_leastExemption_0 rfl (lv_at lv 0 rfl) ?_
  refine lv_iload_n hx hb dX0_leastExemption_1 rfl (lv_at lv 1 rfl) ?_
  refine lv_iload_n hx hb dX0_leastExemption_2 rfl (lv_at lv 2 rfl) ?_
  refine lv_iload_n hx hb dX0_leastExemption_3 rfl (lv_at lv 3 rfl) ?_
  refine x_cont_i Dy (x_runV (As := [.int v1, .int v2, .int v3]) (rest := []) C Dy (m_X0_hindrances E l _ _ v1 v2 v3 _ hwp) (cw_X0_93 C rfl rfl ⟨Nat.le_trans (Nat.le_of_ble_eq_true rfl) hR.1, Nat.le_trans (Nat.le_of_ble_eq_true rfl) hR.2⟩) wx_7 rfl rfl lv.1 rfl (Nat.le_of_ble_eq_true rfl) dX0_leastExemption_4 ⟨Nat.zero_le _, Nat.zero_le _⟩) (fun r1 h2 hl2 H locs hwp Dy => ?_)
  obtain ⟨rfl, rfl, hwp⟩ := hwp
  refine lv_istore (lv' := [(4, .int r1), (0, .ref (wad (wdX E) 7)), (1, .int v1), (2, .int v2), (3, .int v3)]) hx hb dX0_leastExemption_7 lv (by decide) rfl (fun ls lv => ?_)
  refine lv_aload_n hx hb dX0_leastExemption_9 rfl (lv_at lv 1 rfl) ?_
  refine lv_iload_n hx hb dX0_leastExemption_10 rfl (lv_at lv 2 rfl) ?_
  refine lv_iload hx hb dX0_leastExemption_11 (lv_at lv 0 rfl) ?_
  refine lv_iconst (v := (-1 : Int32)) hx hb dX0_leastExemption_13 (by decide) ?_
  refine lv_ixor hx hb dX0_leastExemption_14 ?_
  refine lv_iand hx hb dX0_leastExemption_15 ?_
  refine lv_iload_n hx hb dX0_leastExemption_16 rfl (lv_at lv 3 rfl) ?_
  refine x_cont_i Dy (x_runV (As := [.int (v1 &&& (r1 ^^^ (-1 : Int32))), .int v2]) (rest := []) C Dy (m_X0_deedBy E l _ _ (v1 &&& (r1 ^^^ (-1 : Int32))) v2 _ hwp) (cw_X0_82 C rfl rfl ⟨Nat.le_trans (Nat.le_of_ble_eq_true rfl) hR.1, Nat.le_trans (Nat.le_of_ble_eq_true rfl) hR.2⟩) wx_7 rfl rfl lv.1 rfl (Nat.le_of_ble_eq_true rfl) dX0_leastExemption_17 ⟨Nat.zero_le _, Nat.zero_le _⟩) (fun r3 h4 hl4 H locs hwp Dy => ?_)
  obtain ⟨rfl, rfl, hwp⟩ := hwp
  refine lv_iload_n hx hb dX0_leastExemption_20 rfl (lv_at lv 4 rfl) ?_
  refine lv_icmp_ne (tgt := 29) hx hb dX0_leastExemption_21 (by decide) (fun c5 => ?_) (fun c5 => ?_)
  · try simp only [if_neg c5] at hwp
    refine lv_iconst (v := (-1 : Int32)) hx hb dX0_leastExemption_29 (by decide) ?_
    exact x_iret C Dy ⟨rfl, rfl, hwp⟩ dX0_leastExemption_30
  · try simp only [if_pos c5] at hwp
    refine lv_iload hx hb dX0_leastExemption_24 (lv_at lv 0 rfl) ?_
    refine lv_goto (tgt := 30) hx hb dX0_leastExemption_26 (by decide) ?_
    exact x_iret C Dy ⟨rfl, rfl, hwp⟩ dX0_leastExemption_30
def p_X0_coveringLaws (h : Mem) (v1 : Int32) (Qp : Int32 → Prop) : Prop := (vp_in v1 24 ∧ Qp (h 19 v1.toNatClampNeg))
set_option maxHeartbeats 4000000 in
set_option maxRecDepth 100000 in
theorem m_X0_coveringLaws (E : xE) (l : Launch) (h : Mem) (hl : MemL) (v1 : Int32) (Qp : Int32 → Prop) (hwp : p_X0_coveringLaws h v1 Qp) : Met l yX0_coveringLaws (wsU yX0_coveringLaws cX0_coveringLaws 2 (some .int)) ({ frames := 0, cells := 0, slots := 0, locals := 0 } : Room) (mPc (wdX E) [.ref (wad (wdX E) 7), .int v1] h hl) (mQi (wdX E) (fun r h1 hl1 => h = h1 ∧ hl = hl1 ∧ Qp r)) 0 0 (wA (wdX E)) := by
  refine x_met RX0 [(0, .ref (wad (wdX E) 7)), (1, .int v1)] (by decide) rfl (Nat.le_of_ble_eq_true rfl) rfl ?_
  intro p e s m args below meth c ls C Dy lv
  have hx := C.x
  have hb := C.b
  have hR : 0 ≤ ({ frames := 0, cells := 0, slots := 0, locals := 0 } : Room).frames ∧ 0 ≤ ({ frames := 0, cells := 0, slots := 0, locals := 0 } : Room).locals := ⟨Nat.le_refl _, Nat.le_refl _⟩
  unfold p_X0_coveringLaws at hwp
  refine lv_aload_n hx hb dX0_coveringLaws_0 rfl (lv_at lv 0 rfl) ?_
  refine gf_X0_49_7 C Dy dX0_coveringLaws_1 ?_
  refine lv_iload_n hx hb dX0_coveringLaws_4 rfl (lv_at lv 1 rfl) ?_
  obtain ⟨g1, hwp⟩ := hwp
  refine x_iald C Dy wxa_19 g1 dX0_coveringLaws_5 ?_
  exact x_iret C Dy ⟨rfl, rfl, hwp⟩ dX0_coveringLaws_6
def p_X0_ordersOf (h : Mem) (v1 : Int32) (v2 : Int32) (Qp : Int32 → Prop) : Prop := (vp_in ((v1 * (6 : Int32)) + v2) 144 ∧ Qp (h 16 ((v1 * (6 : Int32)) + v2).toNatClampNeg))
set_option maxHeartbeats 4000000 in
set_option maxRecDepth 100000 in
theorem m_X0_ordersOf (E : xE) (l : Launch) (h : Mem) (hl : MemL) (v1 : Int32) (v2 : Int32) (Qp : Int32 → Prop) (hwp : p_X0_ordersOf h v1 v2 Qp) : Met l yX0_ordersOf (wsU yX0_ordersOf cX0_ordersOf 3 (some .int)) ({ frames := 0, cells := 0, slots := 0, locals := 0 } : Room) (mPc (wdX E) [.ref (wad (wdX E) 7), .int v1, .int v2] h hl) (mQi (wdX E) (fun r h1 hl1 => h = h1 ∧ hl = hl1 ∧ Qp r)) 0 0 (wA (wdX E)) := by
  refine x_met RX0 [(0, .ref (wad (wdX E) 7)), (1, .int v1), (2, .int v2)] (by decide) rfl (Nat.le_of_ble_eq_true rfl) rfl ?_
  intro p e s m args below meth c ls C Dy lv
  have hx := C.x
  have hb := C.b
  have hR : 0 ≤ ({ frames := 0, cells := 0, slots := 0, locals := 0 } : Room).frames ∧ 0 ≤ ({ frames := 0, cells := 0, slots := 0, locals := 0 } : Room).locals := ⟨Nat.le_refl _, Nat.le_refl _⟩
  unfold p_X0_ordersOf at hwp
  refine lv_aload_n hx hb dX0_ordersOf_0 rfl (lv_at lv 0 rfl) ?_
  refine gf_X0_40_7 C Dy dX0_ordersOf_1 ?_
  refine lv_iload_n hx hb dX0_ordersOf_4 rfl (lv_at lv 1 rfl) ?_
  refine lv_bipush (v := (6 : Int32)) hx hb dX0_ordersOf_5 (by decide) ?_
  refine lv_imul hx hb dX0_ordersOf_7 ?_
  refine lv_iload_n hx hb dX0_ordersOf_8 rfl (lv_at lv 2 rfl) ?_
  refine lv_iadd hx hb dX0_ordersOf_9 ?_
  obtain ⟨g1, hwp⟩ := hwp
  refine x_iald C Dy wxa_16 g1 dX0_ordersOf_10 ?_
  exact x_iret C Dy ⟨rfl, rfl, hwp⟩ dX0_ordersOf_11
def p_X0_bansOf (h : Mem) (v1 : Int32) (v2 : Int32) (Qp : Int32 → Prop) : Prop := (vp_in ((v1 * (6 : Int32)) + v2) 144 ∧ Qp (h 17 ((v1 * (6 : Int32)) + v2).toNatClampNeg))
set_option maxHeartbeats 4000000 in
set_option maxRecDepth 100000 in
theorem m_X0_bansOf (E : xE) (l : Launch) (h : Mem) (hl : MemL) (v1 : Int32) (v2 : Int32) (Qp : Int32 → Prop) (hwp : p_X0_bansOf h v1 v2 Qp) : Met l yX0_bansOf (wsU yX0_bansOf cX0_bansOf 3 (some .int)) ({ frames := 0, cells := 0, slots := 0, locals := 0 } : Room) (mPc (wdX E) [.ref (wad (wdX E) 7), .int v1, .int v2] h hl) (mQi (wdX E) (fun r h1 hl1 => h = h1 ∧ hl = hl1 ∧ Qp r)) 0 0 (wA (wdX E)) := by
  refine x_met RX0 [(0, .ref (wad (wdX E) 7)), (1, .int v1), (2, .int v2)] (by decide) rfl (Nat.le_of_ble_eq_true rfl) rfl ?_
  intro p e s m args below meth c ls C Dy lv
  have hx := C.x
  have hb := C.b
  have hR : 0 ≤ ({ frames := 0, cells := 0, slots := 0, locals := 0 } : Room).frames ∧ 0 ≤ ({ frames := 0, cells := 0, slots := 0, locals := 0 } : Room).locals := ⟨Nat.le_refl _, Nat.le_refl _⟩
  unfold p_X0_bansOf at hwp
  refine lv_aload_n hx hb dX0_bansOf_0 rfl (lv_at lv 0 rfl) ?_
  refine gf_X0_43_7 C Dy dX0_bansOf_1 ?_
  refine lv_iload_n hx hb dX0_bansOf_4 rfl (lv_at lv 1 rfl) ?_
  refine lv_bipush (v := (6 : Int32)) hx hb dX0_bansOf_5 (by decide) ?_
  refine lv_imul hx hb dX0_bansOf_7 ?_
  refine lv_iload_n hx hb dX0_bansOf_8 rfl (lv_at lv 2 rfl) ?_
  refine lv_iadd hx hb dX0_bansOf_9 ?_
  obtain ⟨g1, hwp⟩ := hwp
  refine x_iald C Dy wxa_17 g1 dX0_bansOf_10 ?_
  exact x_iret C Dy ⟨rfl, rfl, hwp⟩ dX0_bansOf_11
def p_X0_prefers (h : Mem) (v1 : Int32) (v2 : Int32) (v3 : Int32) (Qp : Int32 → Prop) : Prop := (vp_in ((v1 * (6 : Int32)) + v2) 144 ∧ (∀ x2 : Int32, x2 = (h 18 ((v1 * (6 : Int32)) + v2).toNatClampNeg) → ((v3 = (-1 : Int32) → Qp (if x2 ≤ 0 then (0 : Int32) else (1 : Int32))) ∧ (¬ (v3 = (-1 : Int32)) → (vp_in ((v1 * (6 : Int32)) + v3) 144 ∧ (∀ x5 : Int32, x5 = (h 18 ((v1 * (6 : Int32)) + v3).toNatClampNeg) → Qp (if x5 < x2 then (1 : Int32) else (if x2 ≤ 0 then (0 : Int32) else (if x2 = x5 then (if v3 ≤ v2 then (0 : Int32) else (1 : Int32)) else (0 : Int32))))))))))
set_option maxHeartbeats 4000000 in
set_option maxRecDepth 100000 in
theorem m_X0_prefers (E : xE) (l : Launch) (h : Mem) (hl : MemL) (v1 : Int32) (v2 : Int32) (v3 : Int32) (Qp : Int32 → Prop) (hwp : p_X0_prefers h v1 v2 v3 Qp) : Met l yX0_prefers (wsU yX0_prefers cX0_prefers 6 (some .boolean)) ({ frames := 0, cells := 0, slots := 0, locals := 0 } : Room) (mPc (wdX E) [.ref (wad (wdX E) 7), .int v1, .int v2, .int v3] h hl) (mQz (wdX E) (fun r h1 hl1 => h = h1 ∧ hl = hl1 ∧ Qp r)) 0 0 (wA (wdX E)) := by
  refine x_met RX0 [(0, .ref (wad (wdX E) 7)), (1, .int v1), (2, .int v2), (3, .int v3)] (by decide) rfl (Nat.le_of_ble_eq_true rfl) rfl ?_
  intro p e s m args below meth c ls C Dy lv
  have hx := C.x
  have hb := C.b
  have hR : 0 ≤ ({ frames := 0, cells := 0, slots := 0, locals := 0 } : Room).frames ∧ 0 ≤ ({ frames := 0, cells := 0, slots := 0, locals := 0 } : Room).locals := ⟨Nat.le_refl _, Nat.le_refl _⟩
  unfold p_X0_prefers at hwp
  refine lv_aload_n hx hb dX0_prefers_0 rfl (lv_at lv 0 rfl) ?_
  refine gf_X0_46_7 C Dy dX0_prefers_1 ?_
  refine lv_iload_n hx hb dX0_prefers_4 rfl (lv_at lv 1 rfl) ?_
  refine lv_bipush (v := (6 : Int32)) hx hb dX0_prefers_5 (by decide) ?_
  refine lv_imul hx hb dX0_prefers_7 ?_
  refine lv_iload_n hx hb dX0_prefers_8 rfl (lv_at lv 2 rfl) ?_
  refine lv_iadd hx hb dX0_prefers_9 ?_
  obtain ⟨g1, hwp⟩ := hwp
  refine x_iald C Dy wxa_18 g1 dX0_prefers_10 ?_
  refine lv_topi (fun x2 ex2 => ?_)
  have hwp := hwp x2 ex2
  refine lv_istore (lv' := [(4, .int x2), (0, .ref (wad (wdX E) 7)), (1, .int v1), (2, .int v2), (3, .int v3)]) hx hb dX0_prefers_11 lv (by decide) rfl (fun ls lv => ?_)
  refine lv_iload_n hx hb dX0_prefers_13 rfl (lv_at lv 4 rfl) ?_
  refine lv_iconst (v := (-1 : Int32)) hx hb dX0_prefers_14 (by decide) ?_
  refine lv_icmp_ne (tgt := 29) hx hb dX0_prefers_15 (by decide) (fun c3 => ?_) (fun c3 => ?_)
  · have hwp := hwp.2 c3
    refine lv_aload_n hx hb dX0_prefers_29 rfl (lv_at lv 1 rfl) ?_
    refine gf_X0_46_7 C Dy dX0_prefers_30 ?_
    refine lv_iload_n hx hb dX0_prefers_33 rfl (lv_at lv 2 rfl) ?_
    refine lv_bipush (v := (6 : Int32)) hx hb dX0_prefers_34 (by decide) ?_
    refine lv_imul hx hb dX0_prefers_36 ?_
    refine lv_iload_n hx hb dX0_prefers_37 rfl (lv_at lv 4 rfl) ?_
    refine lv_iadd hx hb dX0_prefers_38 ?_
    obtain ⟨g4, hwp⟩ := hwp
    refine x_iald C Dy wxa_18 g4 dX0_prefers_39 ?_
    refine lv_topi (fun x5 ex5 => ?_)
    have hwp := hwp x5 ex5
    refine lv_istore (lv' := [(5, .int x5), (4, .int x2), (0, .ref (wad (wdX E) 7)), (1, .int v1), (2, .int v2), (3, .int v3)]) hx hb dX0_prefers_40 lv (by decide) rfl (fun ls lv => ?_)
    refine lv_iload hx hb dX0_prefers_42 (lv_at lv 1 rfl) ?_
    refine lv_iload hx hb dX0_prefers_44 (lv_at lv 0 rfl) ?_
    refine lv_icmp_gt (tgt := 66) hx hb dX0_prefers_46 (by decide) (fun c6 => ?_) (fun c6 => ?_)
    · try simp only [if_pos c6] at hwp
      refine lv_iconst (v := (1 : Int32)) hx hb dX0_prefers_66 (by decide) ?_
      refine lv_goto (tgt := 71) hx hb dX0_prefers_67 (by decide) ?_
      exact x_zret C Dy z01_1 ⟨rfl, rfl, hwp⟩ dX0_prefers_71
    · try simp only [if_neg c6] at hwp
      refine lv_iload hx hb dX0_prefers_49 (lv_at lv 1 rfl) ?_
      refine lv_if_le (tgt := 70) hx hb dX0_prefers_51 (by decide) (fun c7 => ?_) (fun c7 => ?_)
      · try simp only [if_pos c7] at hwp
        refine lv_iconst (v := (0 : Int32)) hx hb dX0_prefers_70 (by decide) ?_
        exact x_zret C Dy z01_0 ⟨rfl, rfl, hwp⟩ dX0_prefers_71
      · try simp only [if_neg c7] at hwp
        refine lv_iload hx hb dX0_prefers_54 (lv_at lv 1 rfl) ?_
        refine lv_iload hx hb dX0_prefers_56 (lv_at lv 0 rfl) ?_
        refine lv_icmp_ne (tgt := 70) hx hb dX0_prefers_58 (by decide) (fun c8 => ?_) (fun c8 => ?_)
        · try simp only [if_neg c8] at hwp
          refine lv_iconst (v := (0 : Int32)) hx hb dX0_prefers_70 (by decide) ?_
          exact x_zret C Dy z01_0 ⟨rfl, rfl, hwp⟩ dX0_prefers_71
        · try simp only [if_pos c8] at hwp
          refine lv_iload_n hx hb dX0_prefers_61 rfl (lv_at lv 4 rfl) ?_
          refine lv_iload_n hx hb dX0_prefers_62 rfl (lv_at lv 5 rfl) ?_
          refine lv_icmp_ge (tgt := 70) hx hb dX0_prefers_63 (by decide) (fun c9 => ?_) (fun c9 => ?_)
          · try simp only [if_pos c9] at hwp
            refine lv_iconst (v := (0 : Int32)) hx hb dX0_prefers_70 (by decide) ?_
            exact x_zret C Dy z01_0 ⟨rfl, rfl, hwp⟩ dX0_prefers_71
          · try simp only [if_neg c9] at hwp
            refine lv_iconst (v := (1 : Int32)) hx hb dX0_prefers_66 (by decide) ?_
            refine lv_goto (tgt := 71) hx hb dX0_prefers_67 (by decide) ?_
            exact x_zret C Dy z01_1 ⟨rfl, rfl, hwp⟩ dX0_prefers_71
  · have hwp := hwp.1 c3
    refine lv_iload hx hb dX0_prefers_18 (lv_at lv 0 rfl) ?_
    refine lv_if_le (tgt := 27) hx hb dX0_prefers_20 (by decide) (fun c10 => ?_) (fun c10 => ?_)
    · try simp only [if_pos c10] at hwp
      refine lv_iconst (v := (0 : Int32)) hx hb dX0_prefers_27 (by decide) ?_
      exact x_zret C Dy z01_0 ⟨rfl, rfl, hwp⟩ dX0_prefers_28
    · try simp only [if_neg c10] at hwp
      refine lv_iconst (v := (1 : Int32)) hx hb dX0_prefers_23 (by decide) ?_
      refine lv_goto (tgt := 28) hx hb dX0_prefers_24 (by decide) ?_
      exact x_zret C Dy z01_1 ⟨rfl, rfl, hwp⟩ dX0_prefers_28
def b_X0_isLikeBefore_25 : Nat → Mem → Int32 → Int32 → (Int32 → Prop) → Prop
  | 0 => fun _ _ _ _ => False
  | n + 1 => fun h v1 v2 Qp => (((6 : Int32) ≤ v2 → Qp (1 : Int32)) ∧ (¬ ((6 : Int32) ≤ v2) → (vp_in ((v1 * (6 : Int32)) + v2) 144 ∧ (vp_in (((v1 - (1 : Int32)) * (6 : Int32)) + v2) 144 ∧ (((h 18 ((v1 * (6 : Int32)) + v2).toNatClampNeg) = (h 18 (((v1 - (1 : Int32)) * (6 : Int32)) + v2).toNatClampNeg) → b_X0_isLikeBefore_25 n h v1 (v2 + (1 : Int32)) Qp) ∧ (¬ ((h 18 ((v1 * (6 : Int32)) + v2).toNatClampNeg) = (h 18 (((v1 - (1 : Int32)) * (6 : Int32)) + v2).toNatClampNeg)) → Qp (0 : Int32)))))))
def p_X0_isLikeBefore (h : Mem) (v1 : Int32) (Qp : Int32 → Prop) : Prop := ((v1 = 0 → Qp (0 : Int32)) ∧ (¬ (v1 = 0) → (vp_in v1 24 ∧ (vp_in (v1 - (1 : Int32)) 24 ∧ (((h 19 v1.toNatClampNeg) = (h 19 (v1 - (1 : Int32)).toNatClampNeg) → (∃ n25, b_X0_isLikeBefore_25 n25 h v1 (0 : Int32) Qp)) ∧ (¬ ((h 19 v1.toNatClampNeg) = (h 19 (v1 - (1 : Int32)).toNatClampNeg)) → Qp (0 : Int32)))))))
set_option maxHeartbeats 4000000 in
set_option maxRecDepth 100000 in
theorem t_X0_isLikeBefore_25 (E : xE) {p : Program} {l : Launch} {e : Env} {R : Room} {s : State} {m : MethodId} {args : Array Value} {below : List Frame} {meth : Method} {c : Code} (C : mC (wdX E) p s m meth c args cX0_isLikeBefore 3 RX0 (some .boolean)) (hR : 0 ≤ R.frames ∧ 0 ≤ R.locals) {h : Mem} {hl : MemL} (Qp : Int32 → Prop) : ∀ (n : Nat) (v1 : Int32) (v2 : Int32) (H : Heap) (locs : List Loc) (ls : Array Slot), mD (wdX E) h hl s H locs → lv_has ls 3 [(0, .ref (wad (wdX E) 7)), (1, .int v1), (2, .int v2)] → b_X0_isLikeBefore_25 n h v1 v2 Qp → W p l e R s m args below meth c H locs 0 0 (MQ below (mQz (wdX E) (fun r h1 hl1 => h = h1 ∧ hl = hl1 ∧ Qp r)) args s 0 0 (wA (wdX E))) (F0 m 25 ls []) := by
  have hx := C.x
  have hb := C.b
  intro n
  induction n with
  | zero => intro v1 v2 H locs ls Dy lv hwp; exact hwp.elim
  | succ n ih =>
    intro v1 v2 H locs ls Dy lv hwp
    simp only [b_X0_isLikeBefore_25] at hwp
    refine lv_iload_n hx hb dX0_isLikeBefore_25 rfl (lv_at lv 2 rfl) ?_
    refine lv_bipush (v := (6 : Int32)) hx hb dX0_isLikeBefore_26 (by decide) ?_
    refine lv_icmp_ge (tgt := 66) hx hb dX0_isLikeBefore_28 (by decide) (fun c1 => ?_) (fun c1 => ?_)
    · have hwp := hwp.1 c1
      refine lv_iconst (v := (1 : Int32)) hx hb dX0_isLikeBefore_66 (by decide) ?_
      exact x_zret C Dy z01_1 ⟨rfl, rfl, hwp⟩ dX0_isLikeBefore_67
    · have hwp := hwp.2 c1
      refine lv_aload_n hx hb dX0_isLikeBefore_31 rfl (lv_at lv 0 rfl) ?_
      refine gf_X0_46_7 C Dy dX0_isLikeBefore_32 ?_
      refine lv_iload_n hx hb dX0_isLikeBefore_35 rfl (lv_at lv 1 rfl) ?_
      refine lv_bipush (v := (6 : Int32)) hx hb dX0_isLikeBefore_36 (by decide) ?_
      refine lv_imul hx hb dX0_isLikeBefore_38 ?_
      refine lv_iload_n hx hb dX0_isLikeBefore_39 rfl (lv_at lv 2 rfl) ?_
      refine lv_iadd hx hb dX0_isLikeBefore_40 ?_
      obtain ⟨g2, hwp⟩ := hwp
      refine x_iald C Dy wxa_18 g2 dX0_isLikeBefore_41 ?_
      refine lv_aload_n hx hb dX0_isLikeBefore_42 rfl (lv_at lv 0 rfl) ?_
      refine gf_X0_46_7 C Dy dX0_isLikeBefore_43 ?_
      refine lv_iload_n hx hb dX0_isLikeBefore_46 rfl (lv_at lv 1 rfl) ?_
      refine lv_iconst (v := (1 : Int32)) hx hb dX0_isLikeBefore_47 (by decide) ?_
      refine lv_isub hx hb dX0_isLikeBefore_48 ?_
      refine lv_bipush (v := (6 : Int32)) hx hb dX0_isLikeBefore_49 (by decide) ?_
      refine lv_imul hx hb dX0_isLikeBefore_51 ?_
      refine lv_iload_n hx hb dX0_isLikeBefore_52 rfl (lv_at lv 2 rfl) ?_
      refine lv_iadd hx hb dX0_isLikeBefore_53 ?_
      obtain ⟨g3, hwp⟩ := hwp
      refine x_iald C Dy wxa_18 g3 dX0_isLikeBefore_54 ?_
      refine lv_icmp_eq (tgt := 60) hx hb dX0_isLikeBefore_55 (by decide) (fun c4 => ?_) (fun c4 => ?_)
      · have hwp := hwp.1 c4
        refine lv_iinc (v := (v2 + (1 : Int32))) (lv' := [(2, .int (v2 + (1 : Int32))), (0, .ref (wad (wdX E) 7)), (1, .int v1)]) hx hb dX0_isLikeBefore_60 lv (k := 2) rfl rfl (by decide) rfl (fun ls lv => ?_)
        refine lv_goto (tgt := 25) hx hb dX0_isLikeBefore_63 (by decide) ?_
        exact ih v1 (v2 + (1 : Int32)) _ _ _ Dy (lv_sub lv [1, 2, 0] rfl) hwp
      · have hwp := hwp.2 c4
        refine lv_iconst (v := (0 : Int32)) hx hb dX0_isLikeBefore_58 (by decide) ?_
        exact x_zret C Dy z01_0 ⟨rfl, rfl, hwp⟩ dX0_isLikeBefore_59
set_option maxHeartbeats 4000000 in
set_option maxRecDepth 100000 in
theorem m_X0_isLikeBefore (E : xE) (l : Launch) (h : Mem) (hl : MemL) (v1 : Int32) (Qp : Int32 → Prop) (hwp : p_X0_isLikeBefore h v1 Qp) : Met l yX0_isLikeBefore (wsU yX0_isLikeBefore cX0_isLikeBefore 3 (some .boolean)) ({ frames := 0, cells := 0, slots := 0, locals := 0 } : Room) (mPc (wdX E) [.ref (wad (wdX E) 7), .int v1] h hl) (mQz (wdX E) (fun r h1 hl1 => h = h1 ∧ hl = hl1 ∧ Qp r)) 0 0 (wA (wdX E)) := by
  refine x_met RX0 [(0, .ref (wad (wdX E) 7)), (1, .int v1)] (by decide) rfl (Nat.le_of_ble_eq_true rfl) rfl ?_
  intro p e s m args below meth c ls C Dy lv
  have hx := C.x
  have hb := C.b
  have hR : 0 ≤ ({ frames := 0, cells := 0, slots := 0, locals := 0 } : Room).frames ∧ 0 ≤ ({ frames := 0, cells := 0, slots := 0, locals := 0 } : Room).locals := ⟨Nat.le_refl _, Nat.le_refl _⟩
  unfold p_X0_isLikeBefore at hwp
  refine lv_iload_n hx hb dX0_isLikeBefore_0 rfl (lv_at lv 1 rfl) ?_
  refine lv_if_eq (tgt := 21) hx hb dX0_isLikeBefore_1 (by decide) (fun c5 => ?_) (fun c5 => ?_)
  · have hwp := hwp.1 c5
    refine lv_iconst (v := (0 : Int32)) hx hb dX0_isLikeBefore_21 (by decide) ?_
    exact x_zret C Dy z01_0 ⟨rfl, rfl, hwp⟩ dX0_isLikeBefore_22
  · have hwp := hwp.2 c5
    refine lv_aload_n hx hb dX0_isLikeBefore_4 rfl (lv_at lv 0 rfl) ?_
    refine gf_X0_49_7 C Dy dX0_isLikeBefore_5 ?_
    refine lv_iload_n hx hb dX0_isLikeBefore_8 rfl (lv_at lv 1 rfl) ?_
    obtain ⟨g6, hwp⟩ := hwp
    refine x_iald C Dy wxa_19 g6 dX0_isLikeBefore_9 ?_
    refine lv_aload_n hx hb dX0_isLikeBefore_10 rfl (lv_at lv 0 rfl) ?_
    refine gf_X0_49_7 C Dy dX0_isLikeBefore_11 ?_
    refine lv_iload_n hx hb dX0_isLikeBefore_14 rfl (lv_at lv 1 rfl) ?_
    refine lv_iconst (v := (1 : Int32)) hx hb dX0_isLikeBefore_15 (by decide) ?_
    refine lv_isub hx hb dX0_isLikeBefore_16 ?_
    obtain ⟨g7, hwp⟩ := hwp
    refine x_iald C Dy wxa_19 g7 dX0_isLikeBefore_17 ?_
    refine lv_icmp_eq (tgt := 23) hx hb dX0_isLikeBefore_18 (by decide) (fun c8 => ?_) (fun c8 => ?_)
    · have hwp := hwp.1 c8
      refine lv_iconst (v := (0 : Int32)) hx hb dX0_isLikeBefore_23 (by decide) ?_
      refine lv_istore_n (lv' := [(2, .int (0 : Int32)), (0, .ref (wad (wdX E) 7)), (1, .int v1)]) hx hb dX0_isLikeBefore_24 rfl lv (by decide) rfl (fun ls lv => ?_)
      obtain ⟨n0, hwp⟩ := hwp
      exact t_X0_isLikeBefore_25 E C hR Qp n0 v1 (0 : Int32) _ _ _ Dy (lv_sub lv [1, 2, 0] rfl) hwp
    · have hwp := hwp.2 c8
      refine lv_iconst (v := (0 : Int32)) hx hb dX0_isLikeBefore_21 (by decide) ?_
      exact x_zret C Dy z01_0 ⟨rfl, rfl, hwp⟩ dX0_isLikeBefore_22
def b_X1_layPowers_16 : Nat → MemL → Int32 → Int32 → (MemL → Prop) → Prop
  | 0 => fun _ _ _ _ => False
  | n + 1 => fun hl v1 v2 Qp => (((12 : Int32) < v2 → Qp hl) ∧ (¬ ((12 : Int32) < v2) → (vp_in (v2 - (1 : Int32)) 13 ∧ (vp_in v2 13 ∧ (vp_in (v2 - (1 : Int32)) 13 ∧ (vp_in v2 13 ∧ (∀ hl6 : MemL, hl6 = (up2L (up2L hl 44 v2.toNatClampNeg ((16 : Int64) * (hl 44 (v2 - (1 : Int32)).toNatClampNeg))) 45 v2.toNatClampNeg ((v1.toInt64) * ((up2L hl 44 v2.toNatClampNeg ((16 : Int64) * (hl 44 (v2 - (1 : Int32)).toNatClampNeg))) 45 (v2 - (1 : Int32)).toNatClampNeg))) → b_X1_layPowers_16 n hl6 v1 (v2 + (1 : Int32)) Qp)))))))
def p_X1_layPowers (hl : MemL) (v1 : Int32) (Qp : MemL → Prop) : Prop := (vp_in (0 : Int32) 13 ∧ (vp_in (0 : Int32) 13 ∧ (∃ n16, b_X1_layPowers_16 n16 (up2L (up2L hl 44 (0 : Int32).toNatClampNeg (1 : Int64)) 45 (0 : Int32).toNatClampNeg (1 : Int64)) v1 (1 : Int32) Qp)))
set_option maxHeartbeats 4000000 in
set_option maxRecDepth 100000 in
theorem t_X1_layPowers_16 (E : xE) {p : Program} {l : Launch} {e : Env} {R : Room} {s : State} {m : MethodId} {args : Array Value} {below : List Frame} {meth : Method} {c : Code} (C : mC (wdX E) p s m meth c args cX1_layPowers 3 RX1 none) (hR : 0 ≤ R.frames ∧ 0 ≤ R.locals) {h : Mem} (Qp : MemL → Prop) : ∀ (n : Nat) (hl : MemL) (v1 : Int32) (v2 : Int32) (H : Heap) (locs : List Loc) (ls : Array Slot), mD (wdX E) h hl s H locs → lv_has ls 3 [(0, .ref (wad (wdX E) 41)), (1, .int v1), (2, .int v2)] → b_X1_layPowers_16 n hl v1 v2 Qp → W p l e R s m args below meth c H locs 0 0 (MQ below (mQv (wdX E) (fun h1 hl1 => h = h1 ∧ Qp hl1)) args s 0 0 (wA (wdX E))) (F0 m 16 ls []) := by
  have hx := C.x
  have hb := C.b
  intro n
  induction n with
  | zero => intro hl v1 v2 H locs ls Dy lv hwp; exact hwp.elim
  | succ n ih =>
    intro hl v1 v2 H locs ls Dy lv hwp
    simp only [b_X1_layPowers_16] at hwp
    refine lv_iload_n hx hb dX1_layPowers_16 rfl (lv_at lv 2 rfl) ?_
    refine lv_bipush (v := (12 : Int32)) hx hb dX1_layPowers_17 (by decide) ?_
    refine lv_icmp_gt (tgt := 63) hx hb dX1_layPowers_19 (by decide) (fun c1 => ?_) (fun c1 => ?_)
    · have hwp := hwp.1 c1
      exact x_vret C Dy ⟨rfl, hwp⟩ dX1_layPowers_63
    · have hwp := hwp.2 c1
      refine lv_aload_n hx hb dX1_layPowers_22 rfl (lv_at lv 0 rfl) ?_
      refine gf_X1_25_41 C Dy dX1_layPowers_23 ?_
      refine lv_iload_n hx hb dX1_layPowers_26 rfl (lv_at lv 2 rfl) ?_
      refine lv_ldc2 hx hb C.ow (C.ts _ k_675) dX1_layPowers_27 ?_
      refine lv_aload_n hx hb dX1_layPowers_30 rfl (lv_at lv 0 rfl) ?_
      refine gf_X1_25_41 C Dy dX1_layPowers_31 ?_
      refine lv_iload_n hx hb dX1_layPowers_34 rfl (lv_at lv 2 rfl) ?_
      refine lv_iconst (v := (1 : Int32)) hx hb dX1_layPowers_35 (by decide) ?_
      refine lv_isub hx hb dX1_layPowers_36 ?_
      obtain ⟨g2, hwp⟩ := hwp
      refine x_lald C Dy wxa_44 g2 dX1_layPowers_37 ?_
      refine lv_lmul hx hb dX1_layPowers_38 ?_
      obtain ⟨g3, hwp⟩ := hwp
      refine x_last C Dy wxa_44 g3 dX1_layPowers_39 (fun H locs Dy => ?_)
      refine lv_aload_n hx hb dX1_layPowers_40 rfl (lv_at lv 0 rfl) ?_
      refine gf_X1_29_41 C Dy dX1_layPowers_41 ?_
      refine lv_iload_n hx hb dX1_layPowers_44 rfl (lv_at lv 2 rfl) ?_
      refine lv_iload_n hx hb dX1_layPowers_45 rfl (lv_at lv 1 rfl) ?_
      refine lv_i2l hx hb dX1_layPowers_46 rfl ?_
      refine lv_aload_n hx hb dX1_layPowers_47 rfl (lv_at lv 0 rfl) ?_
      refine gf_X1_29_41 C Dy dX1_layPowers_48 ?_
      refine lv_iload_n hx hb dX1_layPowers_51 rfl (lv_at lv 2 rfl) ?_
      refine lv_iconst (v := (1 : Int32)) hx hb dX1_layPowers_52 (by decide) ?_
      refine lv_isub hx hb dX1_layPowers_53 ?_
      obtain ⟨g4, hwp⟩ := hwp
      refine x_lald C Dy wxa_45 g4 dX1_layPowers_54 ?_
      refine lv_lmul hx hb dX1_layPowers_55 ?_
      obtain ⟨g5, hwp⟩ := hwp
      refine x_last C Dy wxa_45 g5 dX1_layPowers_56 (fun H locs Dy => ?_)
      obtain ⟨hl6, ehl6⟩ : ∃ z : MemL, z = (up2L (up2L hl 44 v2.toNatClampNeg ((16 : Int64) * (hl 44 (v2 - (1 : Int32)).toNatClampNeg))) 45 v2.toNatClampNeg ((v1.toInt64) * ((up2L hl 44 v2.toNatClampNeg ((16 : Int64) * (hl 44 (v2 - (1 : Int32)).toNatClampNeg))) 45 (v2 - (1 : Int32)).toNatClampNeg))) := ⟨_, rfl⟩
      rw [← ehl6] at Dy
      have hwp := hwp hl6 ehl6
      refine lv_iinc (v := (v2 + (1 : Int32))) (lv' := [(2, .int (v2 + (1 : Int32))), (0, .ref (wad (wdX E) 41)), (1, .int v1)]) hx hb dX1_layPowers_57 lv (k := 2) rfl rfl (by decide) rfl (fun ls lv => ?_)
      refine lv_goto (tgt := 16) hx hb dX1_layPowers_60 (by decide) ?_
      exact ih hl6 v1 (v2 + (1 : Int32)) _ _ _ Dy (lv_sub lv [1, 2, 0] rfl) hwp
set_option maxHeartbeats 4000000 in
set_option maxRecDepth 100000 in
theorem m_X1_layPowers (E : xE) (l : Launch) (h : Mem) (hl : MemL) (v1 : Int32) (Qp : MemL → Prop) (hwp : p_X1_layPowers hl v1 Qp) : Met l yX1_layPowers (wsU yX1_layPowers cX1_layPowers 3 none) ({ frames := 0, cells := 0, slots := 0, locals := 0 } : Room) (mPc (wdX E) [.ref (wad (wdX E) 41), .int v1] h hl) (mQv (wdX E) (fun h1 hl1 => h = h1 ∧ Qp hl1)) 0 0 (wA (wdX E)) := by
  refine x_met RX1 [(0, .ref (wad (wdX E) 41)), (1, .int v1)] (by decide) rfl (Nat.le_of_ble_eq_true rfl) rfl ?_
  intro p e s m args below meth c ls C Dy lv
  have hx := C.x
  have hb := C.b
  have hR : 0 ≤ ({ frames := 0, cells := 0, slots := 0, locals := 0 } : Room).frames ∧ 0 ≤ ({ frames := 0, cells := 0, slots := 0, locals := 0 } : Room).locals := ⟨Nat.le_refl _, Nat.le_refl _⟩
  unfold p_X1_layPowers at hwp
  refine lv_aload_n hx hb dX1_layPowers_0 rfl (lv_at lv 0 rfl) ?_
  refine gf_X1_25_41 C Dy dX1_layPowers_1 ?_
  refine lv_iconst (v := (0 : Int32)) hx hb dX1_layPowers_4 (by decide) ?_
  refine lv_lconst (v := (1 : Int64)) hx hb dX1_layPowers_5 (by decide) ?_
  obtain ⟨g7, hwp⟩ := hwp
  refine x_last C Dy wxa_44 g7 dX1_layPowers_6 (fun H locs Dy => ?_)
  refine lv_aload_n hx hb dX1_layPowers_7 rfl (lv_at lv 0 rfl) ?_
  refine gf_X1_29_41 C Dy dX1_layPowers_8 ?_
  refine lv_iconst (v := (0 : Int32)) hx hb dX1_layPowers_11 (by decide) ?_
  refine lv_lconst (v := (1 : Int64)) hx hb dX1_layPowers_12 (by decide) ?_
  obtain ⟨g8, hwp⟩ := hwp
  refine x_last C Dy wxa_45 g8 dX1_layPowers_13 (fun H locs Dy => ?_)
  refine lv_iconst (v := (1 : Int32)) hx hb dX1_layPowers_14 (by decide) ?_
  refine lv_istore_n (lv' := [(2, .int (1 : Int32)), (0, .ref (wad (wdX E) 41)), (1, .int v1)]) hx hb dX1_layPowers_15 rfl lv (by decide) rfl (fun ls lv => ?_)
  obtain ⟨n0, hwp⟩ := hwp
  exact t_X1_layPowers_16 E C hR Qp n0 (up2L (up2L hl 44 (0 : Int32).toNatClampNeg (1 : Int64)) 45 (0 : Int32).toNatClampNeg (1 : Int64)) v1 (1 : Int32) _ _ _ Dy (lv_sub lv [1, 2, 0] rfl) hwp
def p_X1_some (hl : MemL) (v1 : Int32) (Qp : Int64 → Prop) : Prop := (vp_in v1 13 ∧ (vp_in v1 13 ∧ Qp ((hl 44 v1.toNatClampNeg) - (hl 45 v1.toNatClampNeg))))
set_option maxHeartbeats 4000000 in
set_option maxRecDepth 100000 in
theorem m_X1_some (E : xE) (l : Launch) (h : Mem) (hl : MemL) (v1 : Int32) (Qp : Int64 → Prop) (hwp : p_X1_some hl v1 Qp) : Met l yX1_some (wsU yX1_some cX1_some 2 (some .long)) ({ frames := 0, cells := 0, slots := 0, locals := 0 } : Room) (mPc (wdX E) [.ref (wad (wdX E) 41), .int v1] h hl) (mQl (wdX E) (fun r h1 hl1 => h = h1 ∧ hl = hl1 ∧ Qp r)) 0 0 (wA (wdX E)) := by
  refine x_met RX1 [(0, .ref (wad (wdX E) 41)), (1, .int v1)] (by decide) rfl (Nat.le_of_ble_eq_true rfl) rfl ?_
  intro p e s m args below meth c ls C Dy lv
  have hx := C.x
  have hb := C.b
  have hR : 0 ≤ ({ frames := 0, cells := 0, slots := 0, locals := 0 } : Room).frames ∧ 0 ≤ ({ frames := 0, cells := 0, slots := 0, locals := 0 } : Room).locals := ⟨Nat.le_refl _, Nat.le_refl _⟩
  unfold p_X1_some at hwp
  refine lv_aload_n hx hb dX1_some_0 rfl (lv_at lv 0 rfl) ?_
  refine gf_X1_25_41 C Dy dX1_some_1 ?_
  refine lv_iload_n hx hb dX1_some_4 rfl (lv_at lv 1 rfl) ?_
  obtain ⟨g1, hwp⟩ := hwp
  refine x_lald C Dy wxa_44 g1 dX1_some_5 ?_
  refine lv_aload_n hx hb dX1_some_6 rfl (lv_at lv 0 rfl) ?_
  refine gf_X1_29_41 C Dy dX1_some_7 ?_
  refine lv_iload_n hx hb dX1_some_10 rfl (lv_at lv 1 rfl) ?_
  obtain ⟨g2, hwp⟩ := hwp
  refine x_lald C Dy wxa_45 g2 dX1_some_11 ?_
  refine lv_lsub hx hb dX1_some_12 ?_
  exact x_lret C Dy ⟨rfl, rfl, hwp⟩ dX1_some_13
def b_X1_waysLiked_103 (h : Mem) (hl : MemL) (v2 : Int32) (v3 : Int32) (v4 : Int64) (v6 : Int32) (K6 : Int32 → Int32 → Int64 → Int32 → Prop) (Qp : Int64 → Prop) : Prop := K6 v2 v3 v4 (v6 + (1 : Int32))
def b_X1_waysLiked_6 : Nat → Mem → MemL → Int32 → Int32 → Int64 → Int32 → (Int64 → Prop) → Prop
  | 0 => fun _ _ _ _ _ _ _ => False
  | n + 1 => fun h hl v2 v3 v4 v6 Qp => (((6 : Int32) ≤ v6 → Qp v4) ∧ (¬ ((6 : Int32) ≤ v6) → (vp_in v6 6 ∧ (vp_in (h 42 v6.toNatClampNeg) 13 ∧ (∀ x4 : Int64, x4 = (v4 * (hl 45 (h 42 v6.toNatClampNeg).toNatClampNeg)) → ((v6 = v3 → (vp_in v6 6 ∧ (vp_in (h 43 v6.toNatClampNeg) 13 ∧ (∀ x17 : Int64, x17 = (x4 * (hl 45 (h 43 v6.toNatClampNeg).toNatClampNeg)) → b_X1_waysLiked_103 h hl v2 v3 x17 v6 (fun v2 v3 v4 v6 => b_X1_waysLiked_6 n h hl v2 v3 v4 v6 Qp) Qp)))) ∧ (¬ (v6 = v3) → (p_X0_prefers h v2 v6 v3 (fun r6 => ((r6 = 0 → (vp_in v6 6 ∧ (vp_in (h 43 v6.toNatClampNeg) 13 ∧ (∀ x11 : Int64, x11 = (x4 * (hl 44 (h 43 v6.toNatClampNeg).toNatClampNeg)) → b_X1_waysLiked_103 h hl v2 v3 x11 v6 (fun v2 v3 v4 v6 => b_X1_waysLiked_6 n h hl v2 v3 v4 v6 Qp) Qp)))) ∧ (¬ (r6 = 0) → (vp_in v6 6 ∧ (p_X1_some hl (h 43 v6.toNatClampNeg) (fun r13 => b_X1_waysLiked_103 h hl v2 v3 (x4 * r13) v6 (fun v2 v3 v4 v6 => b_X1_waysLiked_6 n h hl v2 v3 v4 v6 Qp) Qp))))))))))))))
def p_X1_waysLiked (h : Mem) (hl : MemL) (v2 : Int32) (v3 : Int32) (Qp : Int64 → Prop) : Prop := (∃ n6, b_X1_waysLiked_6 n6 h hl v2 v3 (1 : Int64) (0 : Int32) Qp)
set_option maxHeartbeats 4000000 in
set_option maxRecDepth 100000 in
theorem t_X1_waysLiked_103 (E : xE) {p : Program} {l : Launch} {e : Env} {R : Room} {s : State} {m : MethodId} {args : Array Value} {below : List Frame} {meth : Method} {c : Code} (C : mC (wdX E) p s m meth c args cX1_waysLiked 7 RX1 (some .long)) (hR : 1 ≤ R.frames ∧ 25 ≤ R.locals) {h : Mem} {hl : MemL} (Qp : Int64 → Prop) (K6 : Int32 → Int32 → Int64 → Int32 → Prop) (hK6 : ∀ (v2 : Int32) (v3 : Int32) (v4 : Int64) (v6 : Int32) (H : Heap) (locs : List Loc) (ls : Array Slot), mD (wdX E) h hl s H locs → lv_has ls 7 [(0, .ref (wad (wdX E) 41)), (1, .ref (wad (wdX E) 7)), (2, .int v2), (3, .int v3), (4, .long v4), (6, .int v6)] → K6 v2 v3 v4 v6 → W p l e R s m args below meth c H locs 0 0 (MQ below (mQl (wdX E) (fun r h1 hl1 => h = h1 ∧ hl = hl1 ∧ Qp r)) args s 0 0 (wA (wdX E))) (F0 m 6 ls [])) : ∀ (v2 : Int32) (v3 : Int32) (v4 : Int64) (v6 : Int32) (H : Heap) (locs : List Loc) (ls : Array Slot), mD (wdX E) h hl s H locs → lv_has ls 7 [(0, .ref (wad (wdX E) 41)), (1, .ref (wad (wdX E) 7)), (2, .int v2), (3, .int v3), (4, .long v4), (6, .int v6)] → b_X1_waysLiked_103 h hl v2 v3 v4 v6 K6 Qp → W p l e R s m args below meth c H locs 0 0 (MQ below (mQl (wdX E) (fun r h1 hl1 => h = h1 ∧ hl = hl1 ∧ Qp r)) args s 0 0 (wA (wdX E))) (F0 m 103 ls []) := by
  have hx := C.x
  have hb := C.b
  intro v2 v3 v4 v6 H locs ls Dy lv hwp
  unfold b_X1_waysLiked_103 at hwp
  refine lv_iinc (v := (v6 + (1 : Int32))) (lv' := [(6, .int (v6 + (1 : Int32))), (0, .ref (wad (wdX E) 41)), (1, .ref (wad (wdX E) 7)), (2, .int v2), (3, .int v3), (4, .long v4)]) hx hb dX1_waysLiked_103 lv (k := 5) rfl rfl (by decide) rfl (fun ls lv => ?_)
  refine lv_goto (tgt := 6) hx hb dX1_waysLiked_106 (by decide) ?_
  exact hK6 v2 v3 v4 (v6 + (1 : Int32)) _ _ _ Dy (lv_sub lv [1, 2, 3, 4, 5, 0] rfl) hwp
set_option maxHeartbeats 4000000 in
set_option maxRecDepth 100000 in
theorem t_X1_waysLiked_6 (E : xE) {p : Program} {l : Launch} {e : Env} {R : Room} {s : State} {m : MethodId} {args : Array Value} {below : List Frame} {meth : Method} {c : Code} (C : mC (wdX E) p s m meth c args cX1_waysLiked 7 RX1 (some .long)) (hR : 1 ≤ R.frames ∧ 25 ≤ R.locals) {h : Mem} {hl : MemL} (Qp : Int64 → Prop) : ∀ (n : Nat) (v2 : Int32) (v3 : Int32) (v4 : Int64) (v6 : Int32) (H : Heap) (locs : List Loc) (ls : Array Slot), mD (wdX E) h hl s H locs → lv_has ls 7 [(0, .ref (wad (wdX E) 41)), (1, .ref (wad (wdX E) 7)), (2, .int v2), (3, .int v3), (4, .long v4), (6, .int v6)] → b_X1_waysLiked_6 n h hl v2 v3 v4 v6 Qp → W p l e R s m args below meth c H locs 0 0 (MQ below (mQl (wdX E) (fun r h1 hl1 => h = h1 ∧ hl = hl1 ∧ Qp r)) args s 0 0 (wA (wdX E))) (F0 m 6 ls []) := by
  have hx := C.x
  have hb := C.b
  intro n
  induction n with
  | zero => intro v2 v3 v4 v6 H locs ls Dy lv hwp; exact hwp.elim
  | succ n ih =>
    intro v2 v3 v4 v6 H locs ls Dy lv hwp
    simp only [b_X1_waysLiked_6] at hwp
    refine lv_iload hx hb dX1_waysLiked_6 (lv_at lv 5 rfl) ?_
    refine lv_bipush (v := (6 : Int32)) hx hb dX1_waysLiked_8 (by decide) ?_
    refine lv_icmp_ge (tgt := 109) hx hb dX1_waysLiked_10 (by decide) (fun c1 => ?_) (fun c1 => ?_)
    · have hwp := hwp.1 c1
      refine lv_lload hx hb dX1_waysLiked_109 (lv_at lv 4 rfl) ?_
      exact x_lret C Dy ⟨rfl, rfl, hwp⟩ dX1_waysLiked_111
    · have hwp := hwp.2 c1
      refine lv_lload hx hb dX1_waysLiked_13 (lv_at lv 4 rfl) ?_
      refine lv_aload_n hx hb dX1_waysLiked_15 rfl (lv_at lv 0 rfl) ?_
      refine gf_X1_29_41 C Dy dX1_waysLiked_16 ?_
      refine lv_aload_n hx hb dX1_waysLiked_19 rfl (lv_at lv 0 rfl) ?_
      refine gf_X1_18_41 C Dy dX1_waysLiked_20 ?_
      refine lv_iload hx hb dX1_waysLiked_23 (lv_at lv 5 rfl) ?_
      obtain ⟨g2, hwp⟩ := hwp
      refine x_iald C Dy wxa_42 g2 dX1_waysLiked_25 ?_
      obtain ⟨g3, hwp⟩ := hwp
      refine x_lald C Dy wxa_45 g3 dX1_waysLiked_26 ?_
      refine lv_lmul hx hb dX1_waysLiked_27 ?_
      refine lv_topl (fun x4 ex4 => ?_)
      have hwp := hwp x4 ex4
      refine lv_lstore (lv' := [(4, .long x4), (0, .ref (wad (wdX E) 41)), (1, .ref (wad (wdX E) 7)), (2, .int v2), (3, .int v3), (6, .int v6)]) hx hb dX1_waysLiked_28 lv (by decide) rfl (fun ls lv => ?_)
      refine lv_iload hx hb dX1_waysLiked_30 (lv_at lv 5 rfl) ?_
      refine lv_iload_n hx hb dX1_waysLiked_32 rfl (lv_at lv 4 rfl) ?_
      refine lv_icmp_ne (tgt := 56) hx hb dX1_waysLiked_33 (by decide) (fun c5 => ?_) (fun c5 => ?_)
      · have hwp := hwp.2 c5
        refine lv_aload_n hx hb dX1_waysLiked_56 rfl (lv_at lv 2 rfl) ?_
        refine lv_iload_n hx hb dX1_waysLiked_57 rfl (lv_at lv 3 rfl) ?_
        refine lv_iload hx hb dX1_waysLiked_58 (lv_at lv 5 rfl) ?_
        refine lv_iload_n hx hb dX1_waysLiked_60 rfl (lv_at lv 4 rfl) ?_
        refine x_cont_z Dy (x_runV (As := [.int v2, .int v6, .int v3]) (rest := []) C Dy (m_X0_prefers E l _ _ v2 v6 v3 _ hwp) (cw_X1_68 C rfl rfl ⟨Nat.le_trans (Nat.le_of_ble_eq_true rfl) hR.1, Nat.le_trans (Nat.le_of_ble_eq_true rfl) hR.2⟩) wx_7 rfl rfl lv.1 rfl (Nat.le_of_ble_eq_true rfl) dX1_waysLiked_61 ⟨Nat.zero_le _, Nat.zero_le _⟩) (fun r6 h7 hl7 H locs zr6 hwp Dy => ?_)
        obtain ⟨rfl, rfl, hwp⟩ := hwp
        refine lv_if_eq (tgt := 86) hx hb dX1_waysLiked_64 (by decide) (fun c8 => ?_) (fun c8 => ?_)
        · have hwp := hwp.1 c8
          refine lv_lload hx hb dX1_waysLiked_86 (lv_at lv 0 rfl) ?_
          refine lv_aload_n hx hb dX1_waysLiked_88 rfl (lv_at lv 1 rfl) ?_
          refine gf_X1_25_41 C Dy dX1_waysLiked_89 ?_
          refine lv_aload_n hx hb dX1_waysLiked_92 rfl (lv_at lv 1 rfl) ?_
          refine gf_X1_22_41 C Dy dX1_waysLiked_93 ?_
          refine lv_iload hx hb dX1_waysLiked_96 (lv_at lv 5 rfl) ?_
          obtain ⟨g9, hwp⟩ := hwp
          refine x_iald C Dy wxa_43 g9 dX1_waysLiked_98 ?_
          obtain ⟨g10, hwp⟩ := hwp
          refine x_lald C Dy wxa_44 g10 dX1_waysLiked_99 ?_
          refine lv_lmul hx hb dX1_waysLiked_100 ?_
          refine lv_topl (fun x11 ex11 => ?_)
          have hwp := hwp x11 ex11
          refine lv_lstore (lv' := [(4, .long x11), (0, .ref (wad (wdX E) 41)), (1, .ref (wad (wdX E) 7)), (2, .int v2), (3, .int v3), (6, .int v6)]) hx hb dX1_waysLiked_101 lv (by decide) rfl (fun ls lv => ?_)
          exact t_X1_waysLiked_103 E C hR Qp (fun v2 v3 v4 v6 => b_X1_waysLiked_6 n h hl v2 v3 v4 v6 Qp) (fun v2 v3 v4 v6 H locs ls Dy lv hwp => ih v2 v3 v4 v6 H locs ls Dy lv hwp) v2 v3 x11 v6 _ _ _ Dy (lv_sub lv [1, 2, 3, 4, 0, 5] rfl) hwp
        · have hwp := hwp.2 c8
          refine lv_lload hx hb dX1_waysLiked_67 (lv_at lv 0 rfl) ?_
          refine lv_aload_n hx hb dX1_waysLiked_69 rfl (lv_at lv 1 rfl) ?_
          refine lv_aload_n hx hb dX1_waysLiked_70 rfl (lv_at lv 1 rfl) ?_
          refine gf_X1_22_41 C Dy dX1_waysLiked_71 ?_
          refine lv_iload hx hb dX1_waysLiked_74 (lv_at lv 5 rfl) ?_
          obtain ⟨g12, hwp⟩ := hwp
          refine x_iald C Dy wxa_43 g12 dX1_waysLiked_76 ?_
          refine x_cont_l Dy (x_runV (As := [.int (h 43 v6.toNatClampNeg)]) (rest := [.long x4]) C Dy (m_X1_some E l _ _ (h 43 v6.toNatClampNeg) _ hwp) (cw_X1_76 C rfl rfl ⟨Nat.le_trans (Nat.le_of_ble_eq_true rfl) hR.1, Nat.le_trans (Nat.le_of_ble_eq_true rfl) hR.2⟩) wx_41 rfl rfl lv.1 rfl (Nat.le_of_ble_eq_true rfl) dX1_waysLiked_77 ⟨Nat.zero_le _, Nat.zero_le _⟩) (fun r13 h14 hl14 H locs hwp Dy => ?_)
          obtain ⟨rfl, rfl, hwp⟩ := hwp
          refine lv_lmul hx hb dX1_waysLiked_80 ?_
          refine lv_lstore (lv' := [(4, .long (x4 * r13)), (0, .ref (wad (wdX E) 41)), (1, .ref (wad (wdX E) 7)), (2, .int v2), (3, .int v3), (6, .int v6)]) hx hb dX1_waysLiked_81 lv (by decide) rfl (fun ls lv => ?_)
          refine lv_goto (tgt := 103) hx hb dX1_waysLiked_83 (by decide) ?_
          exact t_X1_waysLiked_103 E C hR Qp (fun v2 v3 v4 v6 => b_X1_waysLiked_6 n h hl v2 v3 v4 v6 Qp) (fun v2 v3 v4 v6 H locs ls Dy lv hwp => ih v2 v3 v4 v6 H locs ls Dy lv hwp) v2 v3 (x4 * r13) v6 _ _ _ Dy (lv_sub lv [1, 2, 3, 4, 0, 5] rfl) hwp
      · have hwp := hwp.1 c5
        refine lv_lload hx hb dX1_waysLiked_36 (lv_at lv 0 rfl) ?_
        refine lv_aload_n hx hb dX1_waysLiked_38 rfl (lv_at lv 1 rfl) ?_
        refine gf_X1_29_41 C Dy dX1_waysLiked_39 ?_
        refine lv_aload_n hx hb dX1_waysLiked_42 rfl (lv_at lv 1 rfl) ?_
        refine gf_X1_22_41 C Dy dX1_waysLiked_43 ?_
        refine lv_iload hx hb dX1_waysLiked_46 (lv_at lv 5 rfl) ?_
        obtain ⟨g15, hwp⟩ := hwp
        refine x_iald C Dy wxa_43 g15 dX1_waysLiked_48 ?_
        obtain ⟨g16, hwp⟩ := hwp
        refine x_lald C Dy wxa_45 g16 dX1_waysLiked_49 ?_
        refine lv_lmul hx hb dX1_waysLiked_50 ?_
        refine lv_topl (fun x17 ex17 => ?_)
        have hwp := hwp x17 ex17
        refine lv_lstore (lv' := [(4, .long x17), (0, .ref (wad (wdX E) 41)), (1, .ref (wad (wdX E) 7)), (2, .int v2), (3, .int v3), (6, .int v6)]) hx hb dX1_waysLiked_51 lv (by decide) rfl (fun ls lv => ?_)
        refine lv_goto (tgt := 103) hx hb dX1_waysLiked_53 (by decide) ?_
        exact t_X1_waysLiked_103 E C hR Qp (fun v2 v3 v4 v6 => b_X1_waysLiked_6 n h hl v2 v3 v4 v6 Qp) (fun v2 v3 v4 v6 H locs ls Dy lv hwp => ih v2 v3 v4 v6 H locs ls Dy lv hwp) v2 v3 x17 v6 _ _ _ Dy (lv_sub lv [1, 2, 3, 4, 0, 5] rfl) hwp
set_option maxHeartbeats 4000000 in
set_option maxRecDepth 100000 in
theorem m_X1_waysLiked (E : xE) (l : Launch) (h : Mem) (hl : MemL) (v2 : Int32) (v3 : Int32) (Qp : Int64 → Prop) (hwp : p_X1_waysLiked h hl v2 v3 Qp) : Met l yX1_waysLiked (wsU yX1_waysLiked cX1_waysLiked 7 (some .long)) ({ frames := 1, cells := 0, slots := 0, locals := 25 } : Room) (mPc (wdX E) [.ref (wad (wdX E) 41), .ref (wad (wdX E) 7), .int v2, .int v3] h hl) (mQl (wdX E) (fun r h1 hl1 => h = h1 ∧ hl = hl1 ∧ Qp r)) 0 0 (wA (wdX E)) := by
  refine x_met RX1 [(0, .ref (wad (wdX E) 41)), (1, .ref (wad (wdX E) 7)), (2, .int v2), (3, .int v3)] (by decide) rfl (Nat.le_of_ble_eq_true rfl) rfl ?_
  intro p e s m args below meth c ls C Dy lv
  have hx := C.x
  have hb := C.b
  have hR : 1 ≤ ({ frames := 1, cells := 0, slots := 0, locals := 25 } : Room).frames ∧ 25 ≤ ({ frames := 1, cells := 0, slots := 0, locals := 25 } : Room).locals := ⟨Nat.le_refl _, Nat.le_refl _⟩
  unfold p_X1_waysLiked at hwp
  refine lv_lconst (v := (1 : Int64)) hx hb dX1_waysLiked_0 (by decide) ?_
  refine lv_lstore (lv' := [(4, .long (1 : Int64)), (0, .ref (wad (wdX E) 41)), (1, .ref (wad (wdX E) 7)), (2, .int v2), (3, .int v3)]) hx hb dX1_waysLiked_1 lv (by decide) rfl (fun ls lv => ?_)
  refine lv_iconst (v := (0 : Int32)) hx hb dX1_waysLiked_3 (by decide) ?_
  refine lv_istore (lv' := [(6, .int (0 : Int32)), (4, .long (1 : Int64)), (0, .ref (wad (wdX E) 41)), (1, .ref (wad (wdX E) 7)), (2, .int v2), (3, .int v3)]) hx hb dX1_waysLiked_4 lv (by decide) rfl (fun ls lv => ?_)
  obtain ⟨n0, hwp⟩ := hwp
  exact t_X1_waysLiked_6 E C hR Qp n0 v2 v3 (1 : Int64) (0 : Int32) _ _ _ Dy (lv_sub lv [2, 3, 4, 5, 1, 0] rfl) hwp
def b_X1_waysOrdered_67 (h : Mem) (hl : MemL) (v1 : Int32) (v2 : Int64) (v4 : Int32) (K26 : Int32 → Int64 → Int32 → Prop) (Qp : Int64 → Prop) : Prop := K26 v1 v2 (v4 + (1 : Int32))
def b_X1_waysOrdered_26 : Nat → Mem → MemL → Int32 → Int64 → Int32 → (Int64 → Prop) → Prop
  | 0 => fun _ _ _ _ _ _ => False
  | n + 1 => fun h hl v1 v2 v4 Qp => (((6 : Int32) ≤ v4 → Qp v2) ∧ (¬ ((6 : Int32) ≤ v4) → ((v4 = v1 → b_X1_waysOrdered_67 h hl v1 v2 v4 (fun v1 v2 v4 => b_X1_waysOrdered_26 n h hl v1 v2 v4 Qp) Qp) ∧ (¬ (v4 = v1) → (vp_in v4 6 ∧ (vp_in (h 42 v4.toNatClampNeg) 13 ∧ (vp_in v4 6 ∧ (vp_in (h 43 v4.toNatClampNeg) 13 ∧ (∀ x7 : Int64, x7 = (v2 * ((hl 45 (h 42 v4.toNatClampNeg).toNatClampNeg) * (hl 44 (h 43 v4.toNatClampNeg).toNatClampNeg))) → b_X1_waysOrdered_67 h hl v1 x7 v4 (fun v1 v2 v4 => b_X1_waysOrdered_26 n h hl v1 v2 v4 Qp) Qp)))))))))
def p_X1_waysOrdered (h : Mem) (hl : MemL) (v1 : Int32) (Qp : Int64 → Prop) : Prop := (vp_in v1 6 ∧ (p_X1_some hl (h 42 v1.toNatClampNeg) (fun r9 => (vp_in v1 6 ∧ (vp_in (h 43 v1.toNatClampNeg) 13 ∧ (∀ x13 : Int64, x13 = (r9 * (hl 45 (h 43 v1.toNatClampNeg).toNatClampNeg)) → (∃ n26, b_X1_waysOrdered_26 n26 h hl v1 x13 (0 : Int32) Qp)))))))
set_option maxHeartbeats 4000000 in
set_option maxRecDepth 100000 in
theorem t_X1_waysOrdered_67 (E : xE) {p : Program} {l : Launch} {e : Env} {R : Room} {s : State} {m : MethodId} {args : Array Value} {below : List Frame} {meth : Method} {c : Code} (C : mC (wdX E) p s m meth c args cX1_waysOrdered 5 RX1 (some .long)) (hR : 1 ≤ R.frames ∧ 21 ≤ R.locals) {h : Mem} {hl : MemL} (Qp : Int64 → Prop) (K26 : Int32 → Int64 → Int32 → Prop) (hK26 : ∀ (v1 : Int32) (v2 : Int64) (v4 : Int32) (H : Heap) (locs : List Loc) (ls : Array Slot), mD (wdX E) h hl s H locs → lv_has ls 5 [(0, .ref (wad (wdX E) 41)), (1, .int v1), (2, .long v2), (4, .int v4)] → K26 v1 v2 v4 → W p l e R s m args below meth c H locs 0 0 (MQ below (mQl (wdX E) (fun r h1 hl1 => h = h1 ∧ hl = hl1 ∧ Qp r)) args s 0 0 (wA (wdX E))) (F0 m 26 ls [])) : ∀ (v1 : Int32) (v2 : Int64) (v4 : Int32) (H : Heap) (locs : List Loc) (ls : Array Slot), mD (wdX E) h hl s H locs → lv_has ls 5 [(0, .ref (wad (wdX E) 41)), (1, .int v1), (2, .long v2), (4, .int v4)] → b_X1_waysOrdered_67 h hl v1 v2 v4 K26 Qp → W p l e R s m args below meth c H locs 0 0 (MQ below (mQl (wdX E) (fun r h1 hl1 => h = h1 ∧ hl = hl1 ∧ Qp r)) args s 0 0 (wA (wdX E))) (F0 m 67 ls []) := by
  have hx := C.x
  have hb := C.b
  intro v1 v2 v4 H locs ls Dy lv hwp
  unfold b_X1_waysOrdered_67 at hwp
  refine lv_iinc (v := (v4 + (1 : Int32))) (lv' := [(4, .int (v4 + (1 : Int32))), (0, .ref (wad (wdX E) 41)), (1, .int v1), (2, .long v2)]) hx hb dX1_waysOrdered_67 lv (k := 3) rfl rfl (by decide) rfl (fun ls lv => ?_)
  refine lv_goto (tgt := 26) hx hb dX1_waysOrdered_70 (by decide) ?_
  exact hK26 v1 v2 (v4 + (1 : Int32)) _ _ _ Dy (lv_sub lv [1, 2, 3, 0] rfl) hwp
set_option maxHeartbeats 4000000 in
set_option maxRecDepth 100000 in
theorem t_X1_waysOrdered_26 (E : xE) {p : Program} {l : Launch} {e : Env} {R : Room} {s : State} {m : MethodId} {args : Array Value} {below : List Frame} {meth : Method} {c : Code} (C : mC (wdX E) p s m meth c args cX1_waysOrdered 5 RX1 (some .long)) (hR : 1 ≤ R.frames ∧ 21 ≤ R.locals) {h : Mem} {hl : MemL} (Qp : Int64 → Prop) : ∀ (n : Nat) (v1 : Int32) (v2 : Int64) (v4 : Int32) (H : Heap) (locs : List Loc) (ls : Array Slot), mD (wdX E) h hl s H locs → lv_has ls 5 [(0, .ref (wad (wdX E) 41)), (1, .int v1), (2, .long v2), (4, .int v4)] → b_X1_waysOrdered_26 n h hl v1 v2 v4 Qp → W p l e R s m args below meth c H locs 0 0 (MQ below (mQl (wdX E) (fun r h1 hl1 => h = h1 ∧ hl = hl1 ∧ Qp r)) args s 0 0 (wA (wdX E))) (F0 m 26 ls []) := by
  have hx := C.x
  have hb := C.b
  intro n
  induction n with
  | zero => intro v1 v2 v4 H locs ls Dy lv hwp; exact hwp.elim
  | succ n ih =>
    intro v1 v2 v4 H locs ls Dy lv hwp
    simp only [b_X1_waysOrdered_26] at hwp
    refine lv_iload hx hb dX1_waysOrdered_26 (lv_at lv 3 rfl) ?_
    refine lv_bipush (v := (6 : Int32)) hx hb dX1_waysOrdered_28 (by decide) ?_
    refine lv_icmp_ge (tgt := 73) hx hb dX1_waysOrdered_30 (by decide) (fun c1 => ?_) (fun c1 => ?_)
    · have hwp := hwp.1 c1
      refine lv_lload_n hx hb dX1_waysOrdered_73 rfl (lv_at lv 2 rfl) ?_
      exact x_lret C Dy ⟨rfl, rfl, hwp⟩ dX1_waysOrdered_74
    · have hwp := hwp.2 c1
      refine lv_iload hx hb dX1_waysOrdered_33 (lv_at lv 3 rfl) ?_
      refine lv_iload_n hx hb dX1_waysOrdered_35 rfl (lv_at lv 1 rfl) ?_
      refine lv_icmp_eq (tgt := 67) hx hb dX1_waysOrdered_36 (by decide) (fun c2 => ?_) (fun c2 => ?_)
      · have hwp := hwp.1 c2
        exact t_X1_waysOrdered_67 E C hR Qp (fun v1 v2 v4 => b_X1_waysOrdered_26 n h hl v1 v2 v4 Qp) (fun v1 v2 v4 H locs ls Dy lv hwp => ih v1 v2 v4 H locs ls Dy lv hwp) v1 v2 v4 _ _ _ Dy (lv_sub lv [0, 1, 2, 3] rfl) hwp
      · have hwp := hwp.2 c2
        refine lv_lload_n hx hb dX1_waysOrdered_39 rfl (lv_at lv 2 rfl) ?_
        refine lv_aload_n hx hb dX1_waysOrdered_40 rfl (lv_at lv 0 rfl) ?_
        refine gf_X1_29_41 C Dy dX1_waysOrdered_41 ?_
        refine lv_aload_n hx hb dX1_waysOrdered_44 rfl (lv_at lv 0 rfl) ?_
        refine gf_X1_18_41 C Dy dX1_waysOrdered_45 ?_
        refine lv_iload hx hb dX1_waysOrdered_48 (lv_at lv 3 rfl) ?_
        obtain ⟨g3, hwp⟩ := hwp
        refine x_iald C Dy wxa_42 g3 dX1_waysOrdered_50 ?_
        obtain ⟨g4, hwp⟩ := hwp
        refine x_lald C Dy wxa_45 g4 dX1_waysOrdered_51 ?_
        refine lv_aload_n hx hb dX1_waysOrdered_52 rfl (lv_at lv 0 rfl) ?_
        refine gf_X1_25_41 C Dy dX1_waysOrdered_53 ?_
        refine lv_aload_n hx hb dX1_waysOrdered_56 rfl (lv_at lv 0 rfl) ?_
        refine gf_X1_22_41 C Dy dX1_waysOrdered_57 ?_
        refine lv_iload hx hb dX1_waysOrdered_60 (lv_at lv 3 rfl) ?_
        obtain ⟨g5, hwp⟩ := hwp
        refine x_iald C Dy wxa_43 g5 dX1_waysOrdered_62 ?_
        obtain ⟨g6, hwp⟩ := hwp
        refine x_lald C Dy wxa_44 g6 dX1_waysOrdered_63 ?_
        refine lv_lmul hx hb dX1_waysOrdered_64 ?_
        refine lv_lmul hx hb dX1_waysOrdered_65 ?_
        refine lv_topl (fun x7 ex7 => ?_)
        have hwp := hwp x7 ex7
        refine lv_lstore_n (lv' := [(2, .long x7), (0, .ref (wad (wdX E) 41)), (1, .int v1), (4, .int v4)]) hx hb dX1_waysOrdered_66 rfl lv (by decide) rfl (fun ls lv => ?_)
        exact t_X1_waysOrdered_67 E C hR Qp (fun v1 v2 v4 => b_X1_waysOrdered_26 n h hl v1 v2 v4 Qp) (fun v1 v2 v4 H locs ls Dy lv hwp => ih v1 v2 v4 H locs ls Dy lv hwp) v1 x7 v4 _ _ _ Dy (lv_sub lv [1, 2, 0, 3] rfl) hwp
set_option maxHeartbeats 4000000 in
set_option maxRecDepth 100000 in
theorem m_X1_waysOrdered (E : xE) (l : Launch) (h : Mem) (hl : MemL) (v1 : Int32) (Qp : Int64 → Prop) (hwp : p_X1_waysOrdered h hl v1 Qp) : Met l yX1_waysOrdered (wsU yX1_waysOrdered cX1_waysOrdered 5 (some .long)) ({ frames := 1, cells := 0, slots := 0, locals := 21 } : Room) (mPc (wdX E) [.ref (wad (wdX E) 41), .int v1] h hl) (mQl (wdX E) (fun r h1 hl1 => h = h1 ∧ hl = hl1 ∧ Qp r)) 0 0 (wA (wdX E)) := by
  refine x_met RX1 [(0, .ref (wad (wdX E) 41)), (1, .int v1)] (by decide) rfl (Nat.le_of_ble_eq_true rfl) rfl ?_
  intro p e s m args below meth c ls C Dy lv
  have hx := C.x
  have hb := C.b
  have hR : 1 ≤ ({ frames := 1, cells := 0, slots := 0, locals := 21 } : Room).frames ∧ 21 ≤ ({ frames := 1, cells := 0, slots := 0, locals := 21 } : Room).locals := ⟨Nat.le_refl _, Nat.le_refl _⟩
  unfold p_X1_waysOrdered at hwp
  refine lv_aload_n hx hb dX1_waysOrdered_0 rfl (lv_at lv 0 rfl) ?_
  refine lv_aload_n hx hb dX1_waysOrdered_1 rfl (lv_at lv 0 rfl) ?_
  refine gf_X1_18_41 C Dy dX1_waysOrdered_2 ?_
  refine lv_iload_n hx hb dX1_waysOrdered_5 rfl (lv_at lv 1 rfl) ?_
  obtain ⟨g8, hwp⟩ := hwp
  refine x_iald C Dy wxa_42 g8 dX1_waysOrdered_6 ?_
  refine x_cont_l Dy (x_runV (As := [.int (h 42 v1.toNatClampNeg)]) (rest := []) C Dy (m_X1_some E l _ _ (h 42 v1.toNatClampNeg) _ hwp) (cw_X1_76 C rfl rfl ⟨Nat.le_trans (Nat.le_of_ble_eq_true rfl) hR.1, Nat.le_trans (Nat.le_of_ble_eq_true rfl) hR.2⟩) wx_41 rfl rfl lv.1 rfl (Nat.le_of_ble_eq_true rfl) dX1_waysOrdered_7 ⟨Nat.zero_le _, Nat.zero_le _⟩) (fun r9 h10 hl10 H locs hwp Dy => ?_)
  obtain ⟨rfl, rfl, hwp⟩ := hwp
  refine lv_aload_n hx hb dX1_waysOrdered_10 rfl (lv_at lv 0 rfl) ?_
  refine gf_X1_29_41 C Dy dX1_waysOrdered_11 ?_
  refine lv_aload_n hx hb dX1_waysOrdered_14 rfl (lv_at lv 0 rfl) ?_
  refine gf_X1_22_41 C Dy dX1_waysOrdered_15 ?_
  refine lv_iload_n hx hb dX1_waysOrdered_18 rfl (lv_at lv 1 rfl) ?_
  obtain ⟨g11, hwp⟩ := hwp
  refine x_iald C Dy wxa_43 g11 dX1_waysOrdered_19 ?_
  obtain ⟨g12, hwp⟩ := hwp
  refine x_lald C Dy wxa_45 g12 dX1_waysOrdered_20 ?_
  refine lv_lmul hx hb dX1_waysOrdered_21 ?_
  refine lv_topl (fun x13 ex13 => ?_)
  have hwp := hwp x13 ex13
  refine lv_lstore_n (lv' := [(2, .long x13), (0, .ref (wad (wdX E) 41)), (1, .int v1)]) hx hb dX1_waysOrdered_22 rfl lv (by decide) rfl (fun ls lv => ?_)
  refine lv_iconst (v := (0 : Int32)) hx hb dX1_waysOrdered_23 (by decide) ?_
  refine lv_istore (lv' := [(4, .int (0 : Int32)), (2, .long x13), (0, .ref (wad (wdX E) 41)), (1, .int v1)]) hx hb dX1_waysOrdered_24 lv (by decide) rfl (fun ls lv => ?_)
  obtain ⟨n0, hwp⟩ := hwp
  exact t_X1_waysOrdered_26 E C hR Qp n0 v1 x13 (0 : Int32) _ _ _ Dy (lv_sub lv [2, 3, 1, 0] rfl) hwp
def b_X1_waysTo_34 (h : Mem) (hl : MemL) (v3 : Int32) (w0 : Int64) (Qp : Int64 → Prop) : Prop := (p_X1_waysOrdered h hl v3 (fun r1 => Qp (r1 + w0)))
def p_X1_waysTo (h : Mem) (hl : MemL) (v2 : Int32) (v3 : Int32) (Qp : Int64 → Prop) : Prop := ((v3 = (-1 : Int32) → (p_X1_waysLiked h hl v2 (-1 : Int32) (fun r9 => Qp r9))) ∧ (¬ (v3 = (-1 : Int32)) → (p_X0_prefers h v2 v3 (-1 : Int32) (fun r4 => ((r4 = 0 → b_X1_waysTo_34 h hl v3 (0 : Int64) Qp) ∧ (¬ (r4 = 0) → (p_X1_waysLiked h hl v2 v3 (fun r7 => b_X1_waysTo_34 h hl v3 r7 Qp))))))))
set_option maxHeartbeats 4000000 in
set_option maxRecDepth 100000 in
theorem t_X1_waysTo_34 (E : xE) {p : Program} {l : Launch} {e : Env} {R : Room} {s : State} {m : MethodId} {args : Array Value} {below : List Frame} {meth : Method} {c : Code} (C : mC (wdX E) p s m meth c args cX1_waysTo 6 RX1 (some .long)) (hR : 2 ≤ R.frames ∧ 51 ≤ R.locals) {h : Mem} {hl : MemL} (Qp : Int64 → Prop) : ∀ (v3 : Int32) (w0 : Int64) (H : Heap) (locs : List Loc) (ls : Array Slot), mD (wdX E) h hl s H locs → lv_has ls 6 [(0, .ref (wad (wdX E) 41)), (3, .int v3)] → b_X1_waysTo_34 h hl v3 w0 Qp → W p l e R s m args below meth c H locs 0 0 (MQ below (mQl (wdX E) (fun r h1 hl1 => h = h1 ∧ hl = hl1 ∧ Qp r)) args s 0 0 (wA (wdX E))) (F0 m 34 ls [.long w0]) := by
  have hx := C.x
  have hb := C.b
  intro v3 w0 H locs ls Dy lv hwp
  unfold b_X1_waysTo_34 at hwp
  refine lv_lstore (lv' := [(4, .long w0), (0, .ref (wad (wdX E) 41)), (3, .int v3)]) hx hb dX1_waysTo_34 lv (by decide) rfl (fun ls lv => ?_)
  refine lv_aload_n hx hb dX1_waysTo_36 rfl (lv_at lv 1 rfl) ?_
  refine lv_iload_n hx hb dX1_waysTo_37 rfl (lv_at lv 2 rfl) ?_
  refine x_cont_l Dy (x_runV (As := [.int v3]) (rest := []) C Dy (m_X1_waysOrdered E l _ _ v3 _ hwp) (cw_X1_72 C rfl rfl ⟨Nat.le_trans (Nat.le_of_ble_eq_true rfl) hR.1, Nat.le_trans (Nat.le_of_ble_eq_true rfl) hR.2⟩) wx_41 rfl rfl lv.1 rfl (Nat.le_of_ble_eq_true rfl) dX1_waysTo_38 ⟨Nat.zero_le _, Nat.zero_le _⟩) (fun r1 h2 hl2 H locs hwp Dy => ?_)
  obtain ⟨rfl, rfl, hwp⟩ := hwp
  refine lv_lload hx hb dX1_waysTo_41 (lv_at lv 0 rfl) ?_
  refine lv_ladd hx hb dX1_waysTo_43 ?_
  exact x_lret C Dy ⟨rfl, rfl, hwp⟩ dX1_waysTo_44
set_option maxHeartbeats 4000000 in
set_option maxRecDepth 100000 in
theorem m_X1_waysTo (E : xE) (l : Launch) (h : Mem) (hl : MemL) (v2 : Int32) (v3 : Int32) (Qp : Int64 → Prop) (hwp : p_X1_waysTo h hl v2 v3 Qp) : Met l yX1_waysTo (wsU yX1_waysTo cX1_waysTo 6 (some .long)) ({ frames := 2, cells := 0, slots := 0, locals := 51 } : Room) (mPc (wdX E) [.ref (wad (wdX E) 41), .ref (wad (wdX E) 7), .int v2, .int v3] h hl) (mQl (wdX E) (fun r h1 hl1 => h = h1 ∧ hl = hl1 ∧ Qp r)) 0 0 (wA (wdX E)) := by
  refine x_met RX1 [(0, .ref (wad (wdX E) 41)), (1, .ref (wad (wdX E) 7)), (2, .int v2), (3, .int v3)] (by decide) rfl (Nat.le_of_ble_eq_true rfl) rfl ?_
  intro p e s m args below meth c ls C Dy lv
  have hx := C.x
  have hb := C.b
  have hR : 2 ≤ ({ frames := 2, cells := 0, slots := 0, locals := 51 } : Room).frames ∧ 51 ≤ ({ frames := 2, cells := 0, slots := 0, locals := 51 } : Room).locals := ⟨Nat.le_refl _, Nat.le_refl _⟩
  unfold p_X1_waysTo at hwp
  refine lv_iload_n hx hb dX1_waysTo_0 rfl (lv_at lv 3 rfl) ?_
  refine lv_iconst (v := (-1 : Int32)) hx hb dX1_waysTo_1 (by decide) ?_
  refine lv_icmp_ne (tgt := 13) hx hb dX1_waysTo_2 (by decide) (fun c3 => ?_) (fun c3 => ?_)
  · have hwp := hwp.2 c3
    refine lv_aload_n hx hb dX1_waysTo_13 rfl (lv_at lv 1 rfl) ?_
    refine lv_iload_n hx hb dX1_waysTo_14 rfl (lv_at lv 2 rfl) ?_
    refine lv_iload_n hx hb dX1_waysTo_15 rfl (lv_at lv 3 rfl) ?_
    refine lv_iconst (v := (-1 : Int32)) hx hb dX1_waysTo_16 (by decide) ?_
    refine x_cont_z Dy (x_runV (As := [.int v2, .int v3, .int (-1 : Int32)]) (rest := []) C Dy (m_X0_prefers E l _ _ v2 v3 (-1 : Int32) _ hwp) (cw_X1_68 C rfl rfl ⟨Nat.le_trans (Nat.le_of_ble_eq_true rfl) hR.1, Nat.le_trans (Nat.le_of_ble_eq_true rfl) hR.2⟩) wx_7 rfl rfl lv.1 rfl (Nat.le_of_ble_eq_true rfl) dX1_waysTo_17 ⟨Nat.zero_le _, Nat.zero_le _⟩) (fun r4 h5 hl5 H locs zr4 hwp Dy => ?_)
    obtain ⟨rfl, rfl, hwp⟩ := hwp
    refine lv_if_eq (tgt := 33) hx hb dX1_waysTo_20 (by decide) (fun c6 => ?_) (fun c6 => ?_)
    · have hwp := hwp.1 c6
      refine lv_lconst (v := (0 : Int64)) hx hb dX1_waysTo_33 (by decide) ?_
      exact t_X1_waysTo_34 E C hR Qp v3 (0 : Int64) _ _ _ Dy (lv_sub lv [0, 3] rfl) hwp
    · have hwp := hwp.2 c6
      refine lv_aload_n hx hb dX1_waysTo_23 rfl (lv_at lv 0 rfl) ?_
      refine lv_aload_n hx hb dX1_waysTo_24 rfl (lv_at lv 1 rfl) ?_
      refine lv_iload_n hx hb dX1_waysTo_25 rfl (lv_at lv 2 rfl) ?_
      refine lv_iload_n hx hb dX1_waysTo_26 rfl (lv_at lv 3 rfl) ?_
      refine x_cont_l Dy (x_runV (As := [.ref (wad (wdX E) 7), .int v2, .int v3]) (rest := []) C Dy (m_X1_waysLiked E l _ _ v2 v3 _ hwp) (cw_X1_65 C rfl rfl ⟨Nat.le_trans (Nat.le_of_ble_eq_true rfl) hR.1, Nat.le_trans (Nat.le_of_ble_eq_true rfl) hR.2⟩) wx_41 rfl rfl lv.1 rfl (Nat.le_of_ble_eq_true rfl) dX1_waysTo_27 ⟨Nat.zero_le _, Nat.zero_le _⟩) (fun r7 h8 hl8 H locs hwp Dy => ?_)
      obtain ⟨rfl, rfl, hwp⟩ := hwp
      refine lv_goto (tgt := 34) hx hb dX1_waysTo_30 (by decide) ?_
      exact t_X1_waysTo_34 E C hR Qp v3 r7 _ _ _ Dy (lv_sub lv [0, 3] rfl) hwp
  · have hwp := hwp.1 c3
    refine lv_aload_n hx hb dX1_waysTo_5 rfl (lv_at lv 0 rfl) ?_
    refine lv_aload_n hx hb dX1_waysTo_6 rfl (lv_at lv 1 rfl) ?_
    refine lv_iload_n hx hb dX1_waysTo_7 rfl (lv_at lv 2 rfl) ?_
    refine lv_iconst (v := (-1 : Int32)) hx hb dX1_waysTo_8 (by decide) ?_
    refine x_cont_l Dy (x_runV (As := [.ref (wad (wdX E) 7), .int v2, .int (-1 : Int32)]) (rest := []) C Dy (m_X1_waysLiked E l _ _ v2 (-1 : Int32) _ hwp) (cw_X1_65 C rfl rfl ⟨Nat.le_trans (Nat.le_of_ble_eq_true rfl) hR.1, Nat.le_trans (Nat.le_of_ble_eq_true rfl) hR.2⟩) wx_41 rfl rfl lv.1 rfl (Nat.le_of_ble_eq_true rfl) dX1_waysTo_9 ⟨Nat.zero_le _, Nat.zero_le _⟩) (fun r9 h10 hl10 H locs hwp Dy => ?_)
    obtain ⟨rfl, rfl, hwp⟩ := hwp
    exact x_lret C Dy ⟨rfl, rfl, hwp⟩ dX1_waysTo_12
